/-! ===== PURE: the class reads sums ===== -/
def xI (l : Int) : List Int := [l + 2]
def xS (l : Int) : List (Int × Int) := [(24, 0), (24, 1), (24, 4), (l + 1, 1)]
def lok (l : Int) : Prop := l = 2 ∨ l = 13
def XS (l : Int) (T : List Int) (q : Nat) (C : List Int) (μ : Mm) : Prop := KR μ ∧ RX T q μ ∧ m_gt μ 24 5 = l ∧ m_gt μ (l + 1) 1 = C.length ∧ Row μ (l + 2) 0 (C.map tX)
theorem xKR {l : Int} (hl : lok l) {μ μ' : Mm} (f : Fr (xI l) (xS l) μ μ') (hK : KR μ) : KR μ' := by rcases hl with rfl | rfl <;> exact f.KR hK (by decide)
theorem XS.lex {l : Int} (hl : lok l) {T : List Int} {q q' : Nat} {C : List Int} {μ μ' : Mm} (h : XS l T q C μ) (hR : RX T q' μ') (hK : KR μ') (f : Fr [] [(24, 4)] μ μ') : XS l T q' C μ' ∧ Fr (xI l) (xS l) μ μ' := by
  refine ⟨⟨hK, hR, by rw [f.2.2 24 5 (by decide) (by decide)]; exact h.2.2.1, ?_, ?_⟩, f.mono (by simp) (by simp [xS])⟩
  · rw [f.2.2 (l + 1) 1 (by simp) (by rcases hl with rfl | rfl <;> decide)]; exact h.2.2.2.1
  · exact h.2.2.2.2.ext (fun i => f.2.2 (l + 2) i (by simp) (by rcases hl with rfl | rfl <;> simp))
theorem put_X {N : Nat} {l : Int} (hl : lok l) {T : List Int} {q : Nat} {C : List Int} (hC : C.length < 700) {t v : Int} (hv : v = tX t) {μ : Mm} (h : XS l T q C μ) : ∃ μ', jX0_put N (l + 1) v μ = some (1, μ') ∧ XS l T q (C ++ [t]) μ' ∧ Fr (xI l) (xS l) μ μ' := by
  have hK := h.1
  have L := LK.of hK hl
  have K := L.1.2
  let μ1 := m_st (m_st μ (l + 2) C.length v) (l + 1) 1 (C.length + 1)
  have f1 : Fr (xI l) (xS l) μ μ1 := (Fr.stI (Fr.rf0 _ _ _) (by simp [xI])).stI (by simp [xS])
  refine ⟨μ1, ?_, ⟨xKR hl f1 hK, ⟨⟨?_, ?_⟩, ?_, ?_, ?_⟩, ?_, ?_, ?_⟩, f1⟩
  · unfold jX0_put
    have e1 : l + 1 ≠ l + 2 := by omega
    rw [K.2.2.2.2.1, show l + 1 + 1 = l + 2 by omega, len_e (n := 700) (by have := K.2.1; rw [show l + 1 + 1 = l + 2 by omega] at this; exact this) (by decide) (by decide), ob_e, h.2.2.2.1, if_pos (by omega), ast_e (n := 700) (by have := K.2.1; rw [show l + 1 + 1 = l + 2 by omega] at this; exact this) (by omega) (by omega), ob_e, bnd_e, gt_r _ _ _ _ e1, h.2.2.2.1, i_add_e (by omega) (by omega)]
  · refine ⟨by rw [f1.2.2 24 2 (by rcases hl with rfl | rfl <;> decide) (by rcases hl with rfl | rfl <;> decide)]; exact h.2.1.1.1.1, ?_⟩
    show m_gt (m_st (m_st μ (l + 2) C.length v) (l + 1) 1 (C.length + 1)) 24 1 = _
    rw [gt_r _ _ _ _ (by rcases hl with rfl | rfl <;> decide), gt_r _ _ _ _ (by rcases hl with rfl | rfl <;> decide)]
    exact h.2.1.1.1.2
  · rw [f1.2.2 24 3 (by rcases hl with rfl | rfl <;> decide) (by rcases hl with rfl | rfl <;> decide)]; exact h.2.1.1.2
  · show m_gt μ1 24 4 = q
    have : m_gt μ1 24 4 = m_gt μ 24 4 := by
      show m_gt (m_st (m_st μ (l + 2) C.length v) (l + 1) 1 (C.length + 1)) 24 4 = _
      rw [gt_r _ _ _ _ (by rcases hl with rfl | rfl <;> decide), gt_r _ _ _ _ (by rcases hl with rfl | rfl <;> decide)]
    rw [this]; exact h.2.1.2.1
  · have : m_gt μ1 24 0 = m_gt μ 24 0 := by
      show m_gt (m_st (m_st μ (l + 2) C.length v) (l + 1) 1 (C.length + 1)) 24 0 = _
      rw [gt_r _ _ _ _ (by rcases hl with rfl | rfl <;> decide), gt_r _ _ _ _ (by rcases hl with rfl | rfl <;> decide)]
    rw [this]; exact h.2.1.2.2.1
  · exact h.2.1.2.2.2.ext (fun i => f1.2.2 1 i (by rcases hl with rfl | rfl <;> decide) (by rcases hl with rfl | rfl <;> simp [xS]))
  · rw [f1.2.2 24 5 (by rcases hl with rfl | rfl <;> decide) (by rcases hl with rfl | rfl <;> decide)]; exact h.2.2.1
  · show m_gt (m_st (m_st μ (l + 2) C.length v) (l + 1) 1 (C.length + 1)) (l + 1) 1 = _
    rw [gt_same, List.length_append, List.length_singleton]
    omega
  · have := Row.push h.2.2.2.2 v
    rw [Int.zero_add, List.length_map, hv] at this
    rw [List.map_append]
    show Row (m_st (m_st μ (l + 2) C.length v) (l + 1) 1 (C.length + 1)) (l + 2) 0 _
    rw [hv]
    exact this.ext (fun i => gt_r _ _ _ _ (by omega))
/-- a reader's answer and a reading -/
def XR (l : Int) (T : List Int) (μ : Mm) (res : Option (Int × Mm)) (x : PR) : Prop := match x with
  | Sum.inr (q, C) => ∃ μ', res = some (1, μ') ∧ XS l T q C μ' ∧ Fr (xI l) (xS l) μ μ'
  | Sum.inl e => ∃ μ', res = some (0, μ') ∧ FX e μ' ∧ Fr (xI l) (xS l) μ μ'
theorem XR.fr {l : Int} {T : List Int} {μ μ0 : Mm} {res : Option (Int × Mm)} {x : PR} (h : XR l T μ res x) (f : Fr (xI l) (xS l) μ0 μ) : XR l T μ0 res x := by
  match x, h with
  | Sum.inl e, ⟨μ', a, b, c⟩ => exact ⟨μ', a, b, f.trI c⟩
  | Sum.inr (q, C), ⟨μ', a, b, c⟩ => exact ⟨μ', a, b, f.trI c⟩
theorem XR.bd {l : Int} {T : List Int} {μ : Mm} {res : Option (Int × Mm)} {x : PR} {f : Int → Mm → Option (Int × Mm)} {g : Nat → List Int → PR} (h : XR l T μ res x) (hok : ∀ q C μ', x = Sum.inr (q, C) → XS l T q C μ' → XR l T μ' (f 1 μ') (g q C)) (hb : ∀ μ', ¬ m_gt μ' 24 0 = 0 → f 0 μ' = some (0, μ')) : XR l T μ (b2 res f) (bR x g) := by
  match x, h with
  | Sum.inl e, ⟨μ', a, b, c⟩ =>
    refine ⟨μ', ?_, b, c⟩
    rw [a, b2_e, hb μ' (by rw [b.1]; exact b.2.2)]
  | Sum.inr (q, C), ⟨μ', a, b, c⟩ =>
    have := (hok q C μ' rfl b).fr c
    rw [a, b2_e]
    exact this
theorem XR.sr {N : Nat} (hN : 1000000 ≤ N) {l : Int} (hl : lok l) {T : List Int} (hT : TB T) {c : Int} (hc : sgc c) {q : Nat} {C : List Int} {μ : Mm} (h : XS l T q C μ) {f : Int → Mm → Option (Int × Mm)} {g : Nat → PR} (hok : ∀ q' μ', sg T c q = some q' → XS l T q' C μ' → XR l T μ' (f 1 μ') (g q')) (hb : f 0 μ = some (0, m_st (m_st μ 24 0 1) 24 1 q)) : XR l T μ (b2 (jX3_takesSign N 24 c μ) f) (sR T c q g) := by
  unfold sR
  cases hs : sg T c q with
  | some q' =>
    obtain ⟨μ', r1, r2, r3, r4⟩ := sign_1 (N := N) hN hT hs h.1 h.2.1
    obtain ⟨s1, s2⟩ := h.lex hl r2 r3 r4
    rw [r1, b2_e]
    exact (hok q' μ' hs s1).fr s2
  | none =>
    rw [sign_0 hT hs h.1 h.2.1, b2_e, hb]
    exact ⟨_, rfl, FX_of (by decide) μ, (FX_fr 1 q μ).mono (by simp) (by simp [xS])⟩
theorem XR.ok {l : Int} {T : List Int} {q : Nat} {C : List Int} {μ : Mm} (h : XS l T q C μ) : XR l T μ (some (1, μ)) (Sum.inr (q, C)) := ⟨μ, rfl, h, Fr.rf0 _ _ _⟩
theorem XR.bad {l : Int} {T : List Int} {k : Int} (hk : ¬ k = 0) {q : Nat} {μ : Mm} : XR l T μ (some (0, m_st (m_st μ 24 0 k) 24 1 q)) (Sum.inl (k, q)) := ⟨_, rfl, FX_of hk μ, (FX_fr k q μ).mono (by simp) (by simp [xS])⟩
/-- a token is put, and then more -/
theorem XR.put {N : Nat} {l : Int} (hl : lok l) {T : List Int} {q : Nat} {C : List Int} (hC : C.length < 700) {t v : Int} (hv : v = tX t) {μ : Mm} (h : XS l T q C μ) {f : Int → Mm → Option (Int × Mm)} {x : PR} (hok : ∀ μ', XS l T q (C ++ [t]) μ' → XR l T μ' (f 1 μ') x) : XR l T μ (m_chk 1 μ (m_gt μ 24 5) (m_chk 0 μ (m_gt μ (m_gt μ 24 5) 6) (b2 (jX0_put N (m_gt μ (m_gt μ 24 5) 6) v μ) f))) x := by
  have L := LK.of h.1 hl
  obtain ⟨μ', r1, r2, r3⟩ := put_X (N := N) hl hC hv h
  rw [h.2.2.1, chk_e L.1.1, L.2.2.1, chk_e L.1.2.1, r1, b2_e]
  exact (hok μ' r2).fr r3
theorem mayOpen_1 {N : Nat} {d : Nat} (hd : d < 6) {pl : Int} {μ : Mm} : jX3_mayOpen N 24 d pl μ = some (1, μ) := by
  unfold jX3_mayOpen jX3_mayOpen_15 jX3_mayOpen_20
  rw [if_pos (by omega), z_e (Or.inr rfl)]
theorem mayOpen_0 {N : Nat} {d : Nat} (hd : ¬ d < 6) {pl : Int} {μ : Mm} (h : m_gt μ 24 0 = 0) : jX3_mayOpen N 24 d pl μ = some (0, m_st (m_st μ 24 0 4) 24 1 pl) := by
  unfold jX3_mayOpen jX3_mayOpen_20
  rw [if_neg (by omega), fail_X h, b2_e, if_pos rfl, z_e (Or.inl rfl)]
def wchk (r : Int) (w : List Int) : Bool := decide (s_len r = some (w.length : Int)) && (List.range w.length).all (fun i => decide (s_at r (i : Nat) = some (w.getD i 0))) && !w.isEmpty && w.all (fun x => decide (97 ≤ x ∧ x ≤ 122)) && decide (w.length ≤ 8)
theorem isW_of {r : Int} {w : List Int} (h : wchk r w = true) : isW r w := by
  unfold wchk at h
  rw [Bool.and_eq_true, Bool.and_eq_true, Bool.and_eq_true, Bool.and_eq_true] at h
  obtain ⟨⟨⟨⟨h1, h2⟩, h3⟩, h4⟩, h5⟩ := h
  refine ⟨of_decide_eq_true h1, fun i hi => of_decide_eq_true (List.all_eq_true.mp h2 i (List.mem_range.mpr hi)), ⟨fun z => ?_, fun x hx => of_decide_eq_true (List.all_eq_true.mp h4 x hx)⟩, of_decide_eq_true h5⟩
  rw [z] at h3
  cases h3
/-- the class reads a sum within -/
def SumX (N : Nat) (l : Int) (T : List Int) (d : Nat) (R : Int → Int → Mm → Option (Int × Mm)) (S : SF) : Prop := d < 6 → ∀ q C μ, IN T q → C.length ≤ q → XS l T q C μ → XR l T μ (R 24 (d + 1 : Nat) μ) (S (d + 1) q C)
theorem pair_X {N : Nat} (hN : 1000000 ≤ N) {l : Int} (hl : lok l) {T : List Int} (hT : TB T) {d : Nat} {R : Int → Int → Mm → Option (Int × Mm)} {S : SF} (hS : SOKs T S) (hR : SumX N l T d R S) (hd6 : d ≤ 6) {q : Nat} {C : List Int} (hI : IN T q) (hC : C.length ≤ q) {op : Int} (hop : op = tX op) {μ : Mm} (h : XS l T q C μ) : XR l T μ (jX3_pair R N 24 d op μ) (pairS T S d q C op) := by
  have hl7 := hT.1
  have b75 : ∀ μ', ¬ m_gt μ' 24 0 = 0 → jX3_pair_75 R N 24 μ' = some (0, μ') := by
    intro μ' z
    unfold jX3_pair_75 jX3_pair_92
    rw [fail_again z, b2_e, if_pos rfl, z_e (Or.inl rfl)]
  have f75 : ∀ {q' : Nat} {C' : List Int} {μ' : Mm}, XS l T q' C' μ' → jX3_pair_75 R N 24 μ' = some (0, m_st (m_st μ' 24 0 1) 24 1 q') := by
    intro q' C' μ' z
    unfold jX3_pair_75 jX3_pair_92
    rw [z.2.1.2.1, fail_X z.2.1.2.2.1, b2_e, if_pos rfl, z_e (Or.inl rfl)]
  unfold jX3_pair pairS
  rw [bnd_e, h.2.1.2.1]
  cases hs : sg T 40 q with
  | none =>
    rw [sign_0 hT hs h.1 h.2.1, b2_e, if_pos rfl, f75 h]
    exact XR.bad (by decide)
  | some q1 =>
    have i1 := sg_IN c40.2 hs
    obtain ⟨μ1, r1, r2, r3, r4⟩ := sign_1 (N := N) hN hT hs h.1 h.2.1
    obtain ⟨s1, s2⟩ := h.lex hl r2 r3 r4
    rw [r1, b2_e, if_neg (by decide)]
    dsimp only
    by_cases hd : d < 6
    · rw [if_pos hd, mayOpen_1 hd, b2_e, if_neg (by decide), i_add_e (by omega) (by omega)]
      refine XR.fr ?_ s2
      refine XR.bd (hR hd q1 C μ1 i1.1 (by omega) s1) (fun q2 C2 μ2 e2 s2 => ?_) (fun μ' z => ?_)
      · have g2 := hS (d + 1) q1 C
        rw [e2] at g2
        rw [if_neg (by decide)]
        refine XR.sr hN hl hT c44 s2 (fun q3 μ3 e3 s3 => ?_) ?_
        · have i3 := sg_IN c44.2 e3
          rw [if_neg (by decide)]
          refine XR.bd (hR hd q3 C2 μ3 i3.1 (by have := g2.2.2.1; omega) s3) (fun q4 C4 μ4 e4 s4 => ?_) (fun μ' z => ?_)
          · have g4 := hS (d + 1) q3 C2
            rw [e4] at g4
            have g41 := g4.1.2.1
            have g43 := g4.2.2.1
            have g23 := g2.2.2.1
            rw [if_neg (by decide)]
            refine XR.sr hN hl hT c41 s4 (fun q5 μ5 e5 s5 => ?_) ?_
            · rw [if_neg (by decide)]
              refine XR.put hl (by omega) hop s5 (fun μ6 s6 => ?_)
              rw [if_pos (by decide)]
              unfold jX3_pair_87 jX3_pair_92
              rw [z_e (Or.inr rfl)]
              exact XR.ok s6
            · rw [if_pos rfl]
              exact f75 s4
          · rw [if_pos rfl]; exact b75 μ' z
        · rw [if_pos rfl]
          exact f75 s2
      · rw [if_pos rfl]; exact b75 μ' z
    · rw [if_neg hd, mayOpen_0 hd s1.2.1.2.2.1, b2_e, if_pos rfl, b75 _ (by rw [gt_i _ _ _ (by decide), gt_same]; decide)]
      exact (XR.bad (by decide)).fr s2
theorem simx {N : Nat} (hN : 1000000 ≤ N) {l : Int} (hl : lok l) {T : List Int} (hT : TB T) {q : Nat} {C : List Int} (hI : IN T q) (hC : C.length ≤ q) {w : List Int} {r t v : Int} (hw : isW r w) (hv : v = tX t) {μ : Mm} (h : XS l T q C μ) {k : Mm → Option (Int × Mm)} {x : PR} (hk : wrd T w q = none → XR l T μ (k μ) x) (hx : ∀ q1, wrd T w q = some q1 → x = Sum.inr (q1, C ++ [t])) : XR l T μ (b2 (jX3_takes N 24 r μ) fun x4 μ2 => if x4 = 0 then k μ2 else m_chk 1 μ2 (m_gt μ2 24 5) (m_chk 0 μ2 (m_gt μ2 (m_gt μ2 24 5) 6) (b2 (jX0_put N (m_gt μ2 (m_gt μ2 24 5) 6) v μ2) fun x13 μ12 => z_chk x13 (some (x13, μ12))))) x := by
  have hl7 := hT.1
  cases hs : wrd T w q with
  | none =>
    rw [takes_0 (N := N) hN hT hw hI.2.1 hs h.1 h.2.1, b2_e, if_pos rfl]
    exact hk hs
  | some q1 =>
    have i1 := wrd_IN hw.2.2.1 hs
    have hw1 : 1 ≤ w.length := by cases w with | nil => exact absurd rfl hw.2.2.1.1 | cons _ _ => simp
    obtain ⟨μ1, r1, r2, r3, r4⟩ := takes_1 (N := N) hN hT hw hI.2.1 hs h.1 h.2.1
    obtain ⟨s1, s2⟩ := h.lex hl r2 r3 r4
    rw [r1, b2_e, if_neg (by decide), hx q1 hs]
    refine XR.fr (XR.put hl (by omega) hv s1 (fun μ6 s6 => ?_)) s2
    rw [z_e (Or.inr rfl)]
    exact XR.ok s6
theorem part_X {N : Nat} (hN : 1000000 ≤ N) {l : Int} (hl : lok l) {T : List Int} (hT : TB T) {d : Nat} {R : Int → Int → Mm → Option (Int × Mm)} {S : SF} (hS : SOKs T S) (hR : SumX N l T d R S) (hd6 : d ≤ 6) {q : Nat} {C : List Int} (hI : IN T q) (hC : C.length ≤ q) {μ : Mm} (h : XS l T q C μ) : XR l T μ (jX3_part R N 24 d μ) (partS T S d q C) := by
  have hl7 := hT.1
  have b42 : ∀ μ', ¬ m_gt μ' 24 0 = 0 → jX3_part_42 R N 24 μ' = some (0, μ') := by
    intro μ' z
    unfold jX3_part_42 jX3_part_59
    rw [fail_again z, b2_e, if_pos rfl, z_e (Or.inl rfl)]
  have f42 : ∀ {q' : Nat} {C' : List Int} {μ' : Mm}, XS l T q' C' μ' → jX3_part_42 R N 24 μ' = some (0, m_st (m_st μ' 24 0 1) 24 1 q') := by
    intro q' C' μ' z
    unfold jX3_part_42 jX3_part_59
    rw [z.2.1.2.1, fail_X z.2.1.2.2.1, b2_e, if_pos rfl, z_e (Or.inl rfl)]
  unfold jX3_part partS
  rw [bnd_e, h.2.1.2.1]
  cases hs : sg T 40 q with
  | some q1 =>
    have i1 := sg_IN c40.2 hs
    obtain ⟨μ1, r1, r2, r3, r4⟩ := sign_1 (N := N) hN hT hs h.1 h.2.1
    obtain ⟨s1, s2⟩ := h.lex hl r2 r3 r4
    rw [r1, b2_e, if_neg (by decide)]
    dsimp only
    by_cases hd : d < 6
    · rw [if_pos hd, mayOpen_1 hd, b2_e, if_neg (by decide), i_add_e (by omega) (by omega)]
      refine XR.fr ?_ s2
      refine XR.bd (hR hd q1 C μ1 i1.1 (by omega) s1) (fun q2 C2 μ2 e2 s2 => ?_) (fun μ' z => ?_)
      · rw [if_neg (by decide)]
        refine XR.sr hN hl hT c41 s2 (fun q3 μ3 e3 s3 => ?_) ?_
        · rw [if_pos (by decide)]
          unfold jX3_part_54 jX3_part_59
          rw [z_e (Or.inr rfl)]
          exact XR.ok s3
        · rw [if_neg (by decide)]
          exact f42 s2
      · rw [if_pos rfl]; exact b42 μ' z
    · rw [if_neg hd, mayOpen_0 hd s1.2.1.2.2.1, b2_e, if_pos rfl, b42 _ (by rw [gt_i _ _ _ (by decide), gt_same]; decide)]
      exact (XR.bad (by decide)).fr s2
  | none =>
    rw [sign_0 hT hs h.1 h.2.1, b2_e, if_pos rfl]
    dsimp only
    have W1 : isW (-17) wMin := isW_of (by decide)
    have W2 : isW (-18) wMax := isW_of (by decide)
    cases h1 : wrd T wMin q with
    | some q1 =>
      have i1 := wrd_IN W1.2.2.1 h1
      obtain ⟨μ1, r1, r2, r3, r4⟩ := takes_1 (N := N) hN hT W1 hI.2.1 h1 h.1 h.2.1
      obtain ⟨s1, s2⟩ := h.lex hl r2 r3 r4
      rw [r1, b2_e, if_neg (by decide)]
      refine XR.fr ?_ s2
      have hp := pair_X (N := N) hN hl hT hS hR hd6 i1.1 (C := C) (by omega) (op := -15) (by decide) s1
      dsimp only
      match hx : pairS T S d q1 C (-15), hp with
      | Sum.inl e, ⟨μ', a, b, c⟩ => exact ⟨μ', by rw [a, b2_e, z_e (Or.inl rfl)], b, c⟩
      | Sum.inr (q', C'), ⟨μ', a, b, c⟩ => exact ⟨μ', by rw [a, b2_e, z_e (Or.inr rfl)], b, c⟩
    | none =>
      rw [takes_0 (N := N) hN hT W1 hI.2.1 h1 h.1 h.2.1, b2_e, if_pos rfl]
      dsimp only
      cases h2 : wrd T wMax q with
      | some q1 =>
        have i1 := wrd_IN W2.2.2.1 h2
        obtain ⟨μ1, r1, r2, r3, r4⟩ := takes_1 (N := N) hN hT W2 hI.2.1 h2 h.1 h.2.1
        obtain ⟨s1, s2⟩ := h.lex hl r2 r3 r4
        rw [r1, b2_e, if_neg (by decide)]
        refine XR.fr ?_ s2
        have hp := pair_X (N := N) hN hl hT hS hR hd6 i1.1 (C := C) (by omega) (op := -16) (by decide) s1
        dsimp only
        match hx : pairS T S d q1 C (-16), hp with
        | Sum.inl e, ⟨μ', a, b, c⟩ => exact ⟨μ', by rw [a, b2_e, z_e (Or.inl rfl)], b, c⟩
        | Sum.inr (q', C'), ⟨μ', a, b, c⟩ => exact ⟨μ', by rw [a, b2_e, z_e (Or.inr rfl)], b, c⟩
      | none =>
        rw [takes_0 (N := N) hN hT W2 hI.2.1 h2 h.1 h.2.1, b2_e, if_pos rfl]
        dsimp only
        unfold simS w6
        refine simx hN hl hT hI hC (w := [102, 114, 97, 109, 101]) (t := -1) (isW_of (by decide)) (by decide) h (fun n1 => ?_) (fun q1 e1 => by simp [wtok, e1])
        refine simx hN hl hT hI hC (w := [100, 111, 119, 110]) (t := -2) (isW_of (by decide)) (by decide) h (fun n2 => ?_) (fun q1 e1 => by simp [wtok, n1, e1])
        refine simx hN hl hT hI hC (w := [117, 115, 101, 100]) (t := -3) (isW_of (by decide)) (by decide) h (fun n3 => ?_) (fun q1 e1 => by simp [wtok, n1, n2, e1])
        refine simx hN hl hT hI hC (w := [102, 111, 117, 108, 115]) (t := -4) (isW_of (by decide)) (by decide) h (fun n4 => ?_) (fun q1 e1 => by simp [wtok, n1, n2, n3, e1])
        refine simx hN hl hT hI hC (w := [109, 101, 97, 110]) (t := -5) (isW_of (by decide)) (by decide) h (fun n5 => ?_) (fun q1 e1 => by simp [wtok, n1, n2, n3, n4, e1])
        refine simx hN hl hT hI hC (w := [103, 97, 109, 101, 115]) (t := -6) (isW_of (by decide)) (by decide) h (fun n6 => ?_) (fun q1 e1 => by simp [wtok, n1, n2, n3, n4, n5, e1])
        simp only [wtok, n1, n2, n3, n4, n5, n6]
        unfold jX3_part_257 jX3_part_258
        cases hn : numb T 0 9999 q with
        | inl e =>
          obtain ⟨μ1, r1, r2, r3⟩ := number_0 (N := N) hN hT hI.2.1 hn h.1 h.2.1
          rw [r1, b2_e, if_pos rfl, z_e (Or.inl rfl)]
          exact ⟨μ1, rfl, r2, r3.mono (by simp) (by simp [xS])⟩
        | inr p =>
          obtain ⟨v, q1⟩ := p
          have i1 := numb_IN hn
          obtain ⟨μ1, r1, r2, r3, r4⟩ := number_1 (N := N) hN hT hI.2.1 hn h.1 h.2.1
          obtain ⟨s1, s2⟩ := h.lex hl r2 r3 r4
          have hlen := i1.1.2.1
          rw [r1, b2_e, if_neg (by have := i1.2.2.1; omega)]
          refine XR.fr (XR.put hl (by omega) (t := v) (by unfold tX; rw [if_neg (by have := i1.2.2.1; omega)]) s1 (fun μ6 s6 => ?_)) s2
          rw [if_neg (by decide), z_e (Or.inr rfl)]
          exact XR.ok s6
