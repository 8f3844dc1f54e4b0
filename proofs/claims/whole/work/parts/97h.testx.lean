/-! ===== PURE: tests as they are read; the class reads them ===== -/
def wNot : List Int := [110, 111, 116]
def wAll : List Int := [97, 108, 108]
def wAnd : List Int := [97, 110, 100]
def wOr : List Int := [111, 114]
def cmpS (T : List Int) (d q : Nat) (C : List Int) : PR := match sg T 60 q with
  | some q1 => bR (sumS T (7 - d) d q1 C) (fun q2 C2 => Sum.inr (q2, C2 ++ [-17]))
  | none => match sg T 62 q with
    | some q1 => bR (sumS T (7 - d) d q1 C) (fun q2 C2 => Sum.inr (q2, C2 ++ [-18]))
    | none => match sg T 61 q with
      | some q1 => bR (sumS T (7 - d) d q1 C) (fun q2 C2 => Sum.inr (q2, C2 ++ [-19]))
      | none => Sum.inl (1, q)
def bothL (T : List Int) (F : SF) (d : Nat) : Nat → Nat → List Int → PR
  | 0, q, C => Sum.inr (q, C)
  | k + 1, q, C => match wrd T wAnd q with
    | some q1 => bR (F d q1 C) (fun q2 C2 => bothL T F d k q2 (C2 ++ [-20]))
    | none => Sum.inr (q, C)
def bothS (T : List Int) (F : SF) (d q : Nat) (C : List Int) : PR := bR (F d q C) (bothL T F d T.length)
def testL (T : List Int) (F : SF) (d : Nat) : Nat → Nat → List Int → PR
  | 0, q, C => Sum.inr (q, C)
  | k + 1, q, C => match wrd T wOr q with
    | some q1 => bR (bothS T F d q1 C) (fun q2 C2 => testL T F d k q2 (C2 ++ [-21]))
    | none => Sum.inr (q, C)
def testS (T : List Int) (F : SF) (d q : Nat) (C : List Int) : PR := bR (bothS T F d q C) (testL T F d T.length)
def factB (T : List Int) (F : SF) (d q : Nat) (C : List Int) : PR := match wrd T wNot q with
  | some q1 => if d < 6 then bR (F (d + 1) q1 C) (fun q2 C2 => Sum.inr (q2, C2 ++ [-22])) else Sum.inl (4, q)
  | none => match sg T 91 q with
    | some q1 => if d < 6 then bR (testS T F (d + 1) q1 C) (fun q2 C2 => sR T 93 q2 (fun q3 => Sum.inr (q3, C2))) else Sum.inl (4, q)
    | none => match wrd T wAll q with
      | some q1 => Sum.inr (q1, C ++ [-7])
      | none => bR (sumS T (7 - d) d q C) (cmpS T d)
def factS (T : List Int) : Nat → SF
  | 0 => fun _ q _ => Sum.inl (4, q)
  | n + 1 => fun d q C => factB T (factS T n) d q C
theorem w4_ok : lws wNot ∧ lws wAll ∧ lws wAnd ∧ lws wOr := by
  unfold lws
  decide
theorem c60 : sgc 60 := ⟨by decide, by decide, by decide⟩
theorem c61 : sgc 61 := ⟨by decide, by decide, by decide⟩
theorem c62 : sgc 62 := ⟨by decide, by decide, by decide⟩
theorem c91 : sgc 91 := ⟨by decide, by decide, by decide⟩
theorem c93 : sgc 93 := ⟨by decide, by decide, by decide⟩
theorem wrd_1 {T w : List Int} (hw : lws w) {q q1 : Nat} (h : wrd T w q = some q1) : IN T q1 ∧ q + 1 ≤ q1 := by
  have := wrd_IN hw h
  have hw1 : 1 ≤ w.length := by cases w with | nil => exact absurd rfl hw.1 | cons _ _ => simp
  exact ⟨this.1, by omega⟩
theorem cmpS_GR {T : List Int} {d q : Nat} {C : List Int} : GR T 1 q C (cmpS T d q C) := by
  unfold cmpS
  have hS := sumS_GR (T := T) (7 - d)
  have go : ∀ {c : Int} {q1 : Nat} {t : Int}, sgc c → sg T c q = some q1 → GR T 1 q C (bR (sumS T (7 - d) d q1 C) (fun q2 C2 => Sum.inr (q2, C2 ++ [t]))) := by
    intro c q1 t hc hs
    have i1 := sg_IN hc.2 hs
    exact GR.bd (hS d q1 C) (fun q2 C2 a1 a2 a3 a4 => ⟨a1, by omega, by simp; omega, by simp; omega⟩)
  cases h1 : sg T 60 q with
  | some q1 => exact go c60 h1
  | none =>
    dsimp only
    cases h2 : sg T 62 q with
    | some q1 => exact go c62 h2
    | none =>
      dsimp only
      cases h3 : sg T 61 q with
      | some q1 => exact go c61 h3
      | none => exact (by decide : ¬ (1 : Int) = 0)
theorem bothL_GR {T : List Int} {F : SF} (hF : SOKs T F) {d : Nat} : ∀ (k q : Nat) (C : List Int), IN T q → GR T 0 q C (bothL T F d k q C)
  | 0, q, C, hI => ⟨hI, by omega, by omega, by omega⟩
  | k + 1, q, C, hI => by
    unfold bothL
    cases h1 : wrd T wAnd q with
    | some q1 =>
      have i1 := wrd_1 w4_ok.2.2.1 h1
      refine GR.bd (hF d q1 C) (fun q2 C2 a1 a2 a3 a4 => ?_)
      exact (bothL_GR hF k q2 _ a1).sh (by omega) (by simp; omega) (by simp; omega)
    | none => exact ⟨hI, by omega, by omega, by omega⟩
theorem bothS_GR {T : List Int} {F : SF} (hF : SOKs T F) {d q : Nat} {C : List Int} : GR T 1 q C (bothS T F d q C) := by
  unfold bothS
  refine GR.bd (hF d q C) (fun q2 C2 a1 a2 a3 a4 => ?_)
  exact (bothL_GR hF _ q2 _ a1).st (by omega) (by omega) (by omega)
theorem testL_GR {T : List Int} {F : SF} (hF : SOKs T F) {d : Nat} : ∀ (k q : Nat) (C : List Int), IN T q → GR T 0 q C (testL T F d k q C)
  | 0, q, C, hI => ⟨hI, by omega, by omega, by omega⟩
  | k + 1, q, C, hI => by
    unfold testL
    cases h1 : wrd T wOr q with
    | some q1 =>
      have i1 := wrd_1 w4_ok.2.2.2 h1
      refine GR.bd (bothS_GR hF) (fun q2 C2 a1 a2 a3 a4 => ?_)
      exact (testL_GR hF k q2 _ a1).sh (by omega) (by simp; omega) (by simp; omega)
    | none => exact ⟨hI, by omega, by omega, by omega⟩
theorem testS_GR {T : List Int} {F : SF} (hF : SOKs T F) {d q : Nat} {C : List Int} : GR T 1 q C (testS T F d q C) := by
  unfold testS
  refine GR.bd (bothS_GR hF) (fun q2 C2 a1 a2 a3 a4 => ?_)
  exact (testL_GR hF _ q2 _ a1).st (by omega) (by omega) (by omega)
theorem factB_GR {T : List Int} {F : SF} (hF : SOKs T F) {d q : Nat} {C : List Int} : GR T 1 q C (factB T F d q C) := by
  unfold factB
  cases h1 : wrd T wNot q with
  | some q1 =>
    have i1 := wrd_1 w4_ok.1 h1
    dsimp only
    by_cases hd : d < 6
    · rw [if_pos hd]
      exact GR.bd (hF (d + 1) q1 C) (fun q2 C2 a1 a2 a3 a4 => ⟨a1, by omega, by simp; omega, by simp; omega⟩)
    · rw [if_neg hd]; exact (by decide : ¬ (4 : Int) = 0)
  | none =>
    dsimp only
    cases h2 : sg T 91 q with
    | some q1 =>
      have i1 := sg_IN c91.2 h2
      dsimp only
      by_cases hd : d < 6
      · rw [if_pos hd]
        refine GR.bd (testS_GR hF (d := d + 1) (q := q1) (C := C)) (fun q2 C2 a1 a2 a3 a4 => ?_)
        exact GR.sr c93 (fun q3 b1 b2 => ⟨b1, by omega, by omega, by omega⟩)
      · rw [if_neg hd]; exact (by decide : ¬ (4 : Int) = 0)
    | none =>
      dsimp only
      cases h3 : wrd T wAll q with
      | some q1 =>
        have i1 := wrd_1 w4_ok.2.1 h3
        exact ⟨i1.1, i1.2, by simp; omega, by simp⟩
      | none =>
        refine GR.bd (sumS_GR (7 - d) d q C) (fun q2 C2 a1 a2 a3 a4 => ?_)
        exact cmpS_GR.sh (by omega) (by omega) (by omega)
theorem factS_GR {T : List Int} : ∀ n : Nat, SOKs T (factS T n)
  | 0 => fun _ _ _ => (by decide : ¬ (4 : Int) = 0)
  | n + 1 => fun d q C => factB_GR (factS_GR n)
/-- the class reads a fact -/
def FactX (l : Int) (T : List Int) (d : Nat) (R : Int → Int → Mm → Option (Int × Mm)) (F : SF) : Prop := ∀ q C μ, IN T q → C.length ≤ q → XS l T q C μ → XR l T μ (R 24 (d : Nat) μ) (F d q C)
theorem both_loop {N : Nat} (hN : 1000000 ≤ N) {l : Int} (hl : lok l) {T : List Int} (hT : TB T) {d : Nat} {R : Int → Int → Mm → Option (Int × Mm)} {F : SF} (hF : SOKs T F) (hR : FactX l T d R F) : ∀ (k n i q : Nat) (C : List Int) {μ : Mm}, i + k = T.length → k < n → IN T q → C.length ≤ q → XS l T q C μ → XR l T μ (jX3_both_12 R N n 24 d i μ) (bothL T F d k q C)
  | k, 0, i, q, C, μ, hi, hn, _, _, _ => absurd hn (by omega)
  | 0, n + 1, i, q, C, μ, hi, hn, hI, hC, h => by
    show XR l T μ (jX3_both_12b R (jX3_both_12 R N n) N 24 d i μ) _
    unfold jX3_both_12b jX3_both_60 bothL
    rw [h.2.1.1.2, if_pos (by omega)]
    exact XR.ok h
  | k + 1, n + 1, i, q, C, μ, hi, hn, hI, hC, h => by
    have hl7 := hT.1
    have W : isW (-28) wAnd := isW_of (by decide)
    show XR l T μ (jX3_both_12b R (jX3_both_12 R N n) N 24 d i μ) _
    unfold jX3_both_12b jX3_both_60 jX3_both_52 bothL
    rw [h.2.1.1.2, if_neg (by omega)]
    cases h1 : wrd T wAnd q with
    | some q1 =>
      have i1 := wrd_1 w4_ok.2.2.1 h1
      obtain ⟨μ1, r1, r2, r3, r4⟩ := takes_1 (N := N) hN hT W hI.2.1 h1 h.1 h.2.1
      obtain ⟨s1, s2⟩ := h.lex hl r2 r3 r4
      rw [r1, b2_e, if_neg (by decide)]
      refine XR.fr ?_ s2
      refine XR.bd (hR q1 C μ1 i1.1 (by omega) s1) (fun q2 C2 μ2 e2 s2 => ?_) (fun μ' z => by rw [if_pos rfl])
      have g2 := hF d q1 C
      rw [e2] at g2
      have g21 := g2.1.2.1
      have g23 := g2.2.2.1
      rw [if_neg (by decide)]
      refine XR.put hl (by omega) (t := -20) (by decide) s2 (fun μ3 s3 => ?_)
      rw [if_pos (by decide), bnd_e, i_add_e (by omega) (by omega)]
      exact both_loop (N := N) hN hl hT hF hR k n (i + 1) q2 (C2 ++ [-20]) (by omega) (by omega) g2.1 (by simp; omega) s3
    | none =>
      rw [takes_0 (N := N) hN hT W hI.2.1 h1 h.1 h.2.1, b2_e, if_pos rfl]
      exact XR.ok h
theorem both_X {N : Nat} (hN : 1000000 ≤ N) {l : Int} (hl : lok l) {T : List Int} (hT : TB T) {d : Nat} {R : Int → Int → Mm → Option (Int × Mm)} {F : SF} (hF : SOKs T F) (hR : FactX l T d R F) {q : Nat} {C : List Int} (hI : IN T q) (hC : C.length ≤ q) {μ : Mm} (h : XS l T q C μ) : XR l T μ (jX3_both R N 24 d μ) (bothS T F d q C) := by
  have hl7 := hT.1
  unfold jX3_both bothS
  refine XR.bd (hR q C μ hI hC h) (fun q2 C2 μ2 e2 s2 => ?_) (fun μ' z => by rw [if_neg (by decide)])
  have g2 := hF d q C
  rw [e2] at g2
  have g23 := g2.2.2.1
  rw [if_pos (by decide)]
  exact both_loop (N := N) hN hl hT hF hR T.length N 0 q2 C2 (by omega) (by omega) g2.1 (by omega) s2
theorem test_loop {N : Nat} (hN : 1000000 ≤ N) {l : Int} (hl : lok l) {T : List Int} (hT : TB T) {d : Nat} {R : Int → Int → Mm → Option (Int × Mm)} {F : SF} (hF : SOKs T F) (hR : FactX l T d R F) : ∀ (k n i q : Nat) (C : List Int) {μ : Mm}, i + k = T.length → k < n → IN T q → C.length ≤ q → XS l T q C μ → XR l T μ (jX3_test_12 R N n 24 d i μ) (testL T F d k q C)
  | k, 0, i, q, C, μ, hi, hn, _, _, _ => absurd hn (by omega)
  | 0, n + 1, i, q, C, μ, hi, hn, hI, hC, h => by
    show XR l T μ (jX3_test_12b R (jX3_test_12 R N n) N 24 d i μ) _
    unfold jX3_test_12b jX3_test_60 testL
    rw [h.2.1.1.2, if_pos (by omega)]
    exact XR.ok h
  | k + 1, n + 1, i, q, C, μ, hi, hn, hI, hC, h => by
    have hl7 := hT.1
    have W : isW (-29) wOr := isW_of (by decide)
    show XR l T μ (jX3_test_12b R (jX3_test_12 R N n) N 24 d i μ) _
    unfold jX3_test_12b jX3_test_60 jX3_test_52 testL
    rw [h.2.1.1.2, if_neg (by omega)]
    cases h1 : wrd T wOr q with
    | some q1 =>
      have i1 := wrd_1 w4_ok.2.2.2 h1
      obtain ⟨μ1, r1, r2, r3, r4⟩ := takes_1 (N := N) hN hT W hI.2.1 h1 h.1 h.2.1
      obtain ⟨s1, s2⟩ := h.lex hl r2 r3 r4
      rw [r1, b2_e, if_neg (by decide)]
      refine XR.fr ?_ s2
      refine XR.bd (both_X hN hl hT hF hR i1.1 (by omega) s1) (fun q2 C2 μ2 e2 s2 => ?_) (fun μ' z => by rw [if_pos rfl])
      have g2 := bothS_GR hF (d := d) (q := q1) (C := C)
      rw [e2] at g2
      have g21 := g2.1.2.1
      have g23 := g2.2.2.1
      rw [if_neg (by decide)]
      refine XR.put hl (by omega) (t := -21) (by decide) s2 (fun μ3 s3 => ?_)
      rw [if_pos (by decide), bnd_e, i_add_e (by omega) (by omega)]
      exact test_loop (N := N) hN hl hT hF hR k n (i + 1) q2 (C2 ++ [-21]) (by omega) (by omega) g2.1 (by simp; omega) s3
    | none =>
      rw [takes_0 (N := N) hN hT W hI.2.1 h1 h.1 h.2.1, b2_e, if_pos rfl]
      exact XR.ok h
theorem test_X {N : Nat} (hN : 1000000 ≤ N) {l : Int} (hl : lok l) {T : List Int} (hT : TB T) {d : Nat} {R : Int → Int → Mm → Option (Int × Mm)} {F : SF} (hF : SOKs T F) (hR : FactX l T d R F) {q : Nat} {C : List Int} (hI : IN T q) (hC : C.length ≤ q) {μ : Mm} (h : XS l T q C μ) : XR l T μ (jX3_test R N 24 d μ) (testS T F d q C) := by
  have hl7 := hT.1
  unfold jX3_test testS
  refine XR.bd (both_X hN hl hT hF hR hI hC h) (fun q2 C2 μ2 e2 s2 => ?_) (fun μ' z => by rw [if_neg (by decide)])
  have g2 := bothS_GR hF (d := d) (q := q) (C := C)
  rw [e2] at g2
  have g23 := g2.2.2.1
  rw [if_pos (by decide)]
  exact test_loop (N := N) hN hl hT hF hR T.length N 0 q2 C2 (by omega) (by omega) g2.1 (by omega) s2
theorem cmp_X {N : Nat} (hN : 1000000 ≤ N) {l : Int} (hl : lok l) {T : List Int} (hT : TB T) {d : Nat} (hd6 : d ≤ 6) {R : Int → Int → Mm → Option (Int × Mm)} {q : Nat} {C : List Int} (hC : C.length ≤ q) {μ : Mm} (h : XS l T q C μ) : XR l T μ (b2 (jX3_takesSign N 24 60 μ) fun x6 μ5 =>
if x6 = 0 then (b2 (jX3_takesSign N 24 62 μ5) fun x7 μ6 =>
if x7 = 0 then (b2 (jX3_takesSign N 24 61 μ6) fun x8 μ7 =>
if x8 = 0 then (jX3_fact_183 R N 24 d 0 μ7) else (jX3_fact_183 R N 24 d (-19) μ7)) else (jX3_fact_183 R N 24 d (-18) μ6)) else (jX3_fact_183 R N 24 d (-17) μ5)) (cmpS T d q C) := by
  have hl7 := hT.1
  have go : ∀ {c : Int} {q1 : Nat} {t : Int} {μ1 : Mm}, sgc c → sg T c q = some q1 → t = tX t → ¬ t = 0 → XS l T q1 C μ1 → XR l T μ1 (jX3_fact_183 R N 24 d t μ1) (bR (sumS T (7 - d) d q1 C) (fun q2 C2 => Sum.inr (q2, C2 ++ [t]))) := by
    intro c q1 t μ1 hc hs ht h0 s1
    have i1 := sg_IN hc.2 hs
    unfold jX3_fact_183 jX3_fact_224 jX3_fact_225
    rw [if_pos h0]
    refine XR.bd (sum_X (N := N) hN hl hT (7 - d) 10 d (by omega) (by omega) (by omega) i1.1 (by omega) s1) (fun q2 C2 μ2 e2 s2 => ?_) (fun μ' z => by rw [if_pos rfl, z_e (Or.inl rfl)])
    have g2 := sumS_GR (T := T) (7 - d) d q1 C
    rw [e2] at g2
    have g21 := g2.1.2.1
    have g23 := g2.2.2.1
    rw [if_neg (by decide)]
    refine XR.put hl (by omega) ht s2 (fun μ3 s3 => ?_)
    rw [if_neg (by decide), z_e (Or.inr rfl)]
    exact XR.ok s3
  unfold cmpS
  cases h1 : sg T 60 q with
  | some q1 =>
    obtain ⟨μ1, r1, r2, r3, r4⟩ := sign_1 (N := N) hN hT h1 h.1 h.2.1
    obtain ⟨s1, s2⟩ := h.lex hl r2 r3 r4
    rw [r1, b2_e, if_neg (by decide)]
    exact (go c60 h1 (by decide) (by decide) s1).fr s2
  | none =>
    rw [sign_0 hT h1 h.1 h.2.1, b2_e, if_pos rfl]
    dsimp only
    cases h2 : sg T 62 q with
    | some q1 =>
      obtain ⟨μ1, r1, r2, r3, r4⟩ := sign_1 (N := N) hN hT h2 h.1 h.2.1
      obtain ⟨s1, s2⟩ := h.lex hl r2 r3 r4
      rw [r1, b2_e, if_neg (by decide)]
      exact (go c62 h2 (by decide) (by decide) s1).fr s2
    | none =>
      rw [sign_0 hT h2 h.1 h.2.1, b2_e, if_pos rfl]
      dsimp only
      cases h3 : sg T 61 q with
      | some q1 =>
        obtain ⟨μ1, r1, r2, r3, r4⟩ := sign_1 (N := N) hN hT h3 h.1 h.2.1
        obtain ⟨s1, s2⟩ := h.lex hl r2 r3 r4
        rw [r1, b2_e, if_neg (by decide)]
        exact (go c61 h3 (by decide) (by decide) s1).fr s2
      | none =>
        rw [sign_0 hT h3 h.1 h.2.1, b2_e, if_pos rfl]
        unfold jX3_fact_183
        rw [if_neg (by decide), h.2.1.2.1, fail_X h.2.1.2.2.1, b2_e, z_e (Or.inl rfl)]
        exact XR.bad (by decide)
theorem fact_X {N : Nat} (hN : 1000000 ≤ N) {l : Int} (hl : lok l) {T : List Int} (hT : TB T) : ∀ (k n d : Nat), d + k = 7 → k ≤ n → 1 ≤ k → FactX l T d (jX3_fact N n) (factS T k)
  | 0, n, d, hd, hn, h1 => absurd h1 (by omega)
  | k + 1, 0, d, hd, hn, _ => absurd hn (by omega)
  | k + 1, n + 1, d, hd, hn, _ => fun q C μ hI hC h => by
    have hl7 := hT.1
    have hF := factS_GR (T := T) k
    have WN : isW (-26) wNot := isW_of (by decide)
    have WA : isW (-27) wAll := isW_of (by decide)
    have b91 : ∀ μ', ¬ m_gt μ' 24 0 = 0 → jX3_fact_91 (jX3_fact N n) N 24 μ' = some (0, μ') := by
      intro μ' z
      unfold jX3_fact_91 jX3_fact_108
      rw [fail_again z, b2_e, if_pos rfl, z_e (Or.inl rfl)]
    have b52 : ∀ μ', jX3_fact_52 (jX3_fact N n) N 24 μ' = some (0, μ') := by
      intro μ'
      unfold jX3_fact_52 jX3_fact_53
      rw [z_e (Or.inl rfl)]
    show XR l T μ (jX3_fact_B (jX3_fact N n) N 24 d μ) (factB T (factS T k) d q C)
    unfold jX3_fact_B factB
    rw [bnd_e, h.2.1.2.1]
    cases h1 : wrd T wNot q with
    | some q1 =>
      have i1 := wrd_1 w4_ok.1 h1
      obtain ⟨μ1, r1, r2, r3, r4⟩ := takes_1 (N := N) hN hT WN hI.2.1 h1 h.1 h.2.1
      obtain ⟨s1, s2⟩ := h.lex hl r2 r3 r4
      rw [r1, b2_e, if_neg (by decide)]
      dsimp only
      refine XR.fr ?_ s2
      by_cases hd5 : d < 6
      · rw [if_pos hd5, mayOpen_1 hd5, b2_e, if_neg (by decide), i_add_e (by omega) (by omega)]
        refine XR.bd (fact_X (N := N) hN hl hT k n (d + 1) (by omega) (by omega) (by omega) q1 C μ1 i1.1 (by omega) s1) (fun q2 C2 μ2 e2 s2 => ?_) (fun μ' z => by rw [if_pos rfl, b52])
        have g2 := hF (d + 1) q1 C
        rw [e2] at g2
        have g21 := g2.1.2.1
        have g23 := g2.2.2.1
        rw [if_neg (by decide)]
        refine XR.put hl (by omega) (t := -22) (by decide) s2 (fun μ3 s3 => ?_)
        unfold jX3_fact_53
        rw [if_neg (by decide), z_e (Or.inr rfl)]
        exact XR.ok s3
      · rw [if_neg hd5, mayOpen_0 hd5 s1.2.1.2.2.1, b2_e, if_pos rfl, b52]
        exact XR.bad (by decide)
    | none =>
      rw [takes_0 (N := N) hN hT WN hI.2.1 h1 h.1 h.2.1, b2_e, if_pos rfl]
      dsimp only
      cases h2 : sg T 91 q with
      | some q1 =>
        have i1 := sg_IN c91.2 h2
        obtain ⟨μ1, r1, r2, r3, r4⟩ := sign_1 (N := N) hN hT h2 h.1 h.2.1
        obtain ⟨s1, s2⟩ := h.lex hl r2 r3 r4
        rw [r1, b2_e, if_neg (by decide)]
        dsimp only
        refine XR.fr ?_ s2
        by_cases hd5 : d < 6
        · rw [if_pos hd5, mayOpen_1 hd5, b2_e, if_neg (by decide), i_add_e (by omega) (by omega)]
          refine XR.bd (test_X hN hl hT hF (fact_X (N := N) hN hl hT k n (d + 1) (by omega) (by omega) (by omega)) i1.1 (C := C) (by omega) s1) (fun q2 C2 μ2 e2 s2 => ?_) (fun μ' z => by rw [if_pos rfl, b91 μ' z])
          rw [if_neg (by decide)]
          refine XR.sr hN hl hT c93 s2 (fun q3 μ3 e3 s3 => ?_) ?_
          · rw [if_pos (by decide)]
            unfold jX3_fact_103 jX3_fact_108
            rw [z_e (Or.inr rfl)]
            exact XR.ok s3
          · rw [if_neg (by decide)]
            unfold jX3_fact_91 jX3_fact_108
            rw [s2.2.1.2.1, fail_X s2.2.1.2.2.1, b2_e, if_pos rfl, z_e (Or.inl rfl)]
        · rw [if_neg hd5, mayOpen_0 hd5 s1.2.1.2.2.1, b2_e, if_pos rfl, b91 _ (by rw [gt_i _ _ _ (by decide), gt_same]; decide)]
          exact XR.bad (by decide)
      | none =>
        rw [sign_0 hT h2 h.1 h.2.1, b2_e, if_pos rfl]
        dsimp only
        cases h3 : wrd T wAll q with
        | some q1 =>
          have i1 := wrd_IN w4_ok.2.1 h3
          have i2 := wrd_1 w4_ok.2.1 h3
          have i3 := i2.1.2.1
          obtain ⟨μ1, r1, r2, r3, r4⟩ := takes_1 (N := N) hN hT WA hI.2.1 h3 h.1 h.2.1
          obtain ⟨s1, s2⟩ := h.lex hl r2 r3 r4
          rw [r1, b2_e, if_neg (by decide)]
          refine XR.fr (XR.put hl (by omega) (t := -7) (by decide) s1 (fun μ6 s6 => ?_)) s2
          rw [z_e (Or.inr rfl)]
          exact XR.ok s6
        | none =>
          rw [takes_0 (N := N) hN hT WA hI.2.1 h3 h.1 h.2.1, b2_e, if_pos rfl]
          refine XR.bd (sum_X (N := N) hN hl hT (7 - d) 10 d (by omega) (by omega) (by omega) hI hC h) (fun q2 C2 μ2 e2 s2 => ?_) (fun μ' z => by rw [if_neg (by decide)])
          have g2 := sumS_GR (T := T) (7 - d) d q C
          rw [e2] at g2
          have g23 := g2.2.2.1
          rw [if_pos (by decide)]
          exact cmp_X hN hl hT (by omega) (by omega) s2
