/-! ===== PURE: the reference's tests, whole ===== -/
def TO (N : Nat) (T W : List Int) (d : Nat) (b : Int) (ok : Nat → List Int → Prop) (μ : Mm) (res : Option Mm) (x : PR) : Prop := match x with
  | Sum.inl e => ∃ μ', res = some μ' ∧ FM e μ' ∧ RF μ μ'
  | Sum.inr (q', C') => ∃ m' n' μ' C2 pd, ok q' pd ∧ C' = C2 ++ pd.reverse ∧ res = TG N m' n' μ' ∧ (T.length + 9 < q' + m' ∧ T.length + 9 < q' + n') ∧ MS T q' C2 (W ++ pd.map tM) d b μ' ∧ C2.length + (W.length + pd.length) + 5 ≤ q' ∧ RF μ μ'
theorem TO.fr {N : Nat} {T W : List Int} {d : Nat} {b : Int} {ok : Nat → List Int → Prop} {μ μ0 : Mm} {res : Option Mm} {x : PR} (h : TO N T W d b ok μ res x) (f : RF μ0 μ) : TO N T W d b ok μ0 res x := by
  match x, h with
  | Sum.inl e, ⟨μ', a, b, g⟩ => exact ⟨μ', a, b, f.trI g⟩
  | Sum.inr (q, C), ⟨m', n', μ', C2, pd, a, b, c, e, g, i, j⟩ => exact ⟨m', n', μ', C2, pd, a, b, c, e, g, i, f.trI j⟩
/-- a fact, with nots waiting -/
def TF (N : Nat) (T Wb : List Int) (j d : Nat) (b : Int) (μ : Mm) (res : Option Mm) (x : PR) : Prop := match x with
  | Sum.inl e => ∃ μ', res = some μ' ∧ FM e μ' ∧ RF μ μ'
  | Sum.inr (q', C') => ∃ m' n' μ', res = TG N m' n' μ' ∧ (T.length + 9 < q' + m' ∧ T.length + 9 < q' + n') ∧ MS T q' (C' ++ List.replicate j (-22)) Wb d b μ' ∧ C'.length + j + Wb.length + 5 ≤ q' ∧ RF μ μ'
theorem TF.fr {N : Nat} {T Wb : List Int} {j d : Nat} {b : Int} {μ μ0 : Mm} {res : Option Mm} {x : PR} (h : TF N T Wb j d b μ res x) (f : RF μ0 μ) : TF N T Wb j d b μ0 res x := by
  match x, h with
  | Sum.inl e, ⟨μ', a, b, g⟩ => exact ⟨μ', a, b, f.trI g⟩
  | Sum.inr (q, C), ⟨m', n', μ', a, b, c, e, g⟩ => exact ⟨m', n', μ', a, b, c, e, f.trI g⟩
def nW : List Int := [16, 1, 2, 3, 4]
def FacM (N : Nat) (T : List Int) (b : Int) (D : Nat) (F : SF) : Prop := ∀ (n j d : Nat) (Wb : List Int) (q : Nat) (C : List Int) (μ : Mm), d + j = D → IN T q → noT nW Wb → C.length + (Wb.length + j) + 5 ≤ q → T.length + 9 < q + n → MS T q C (Wb ++ List.replicate j 16) D b μ → TF N T Wb j d b μ (jX8_test_2 N n 50 1 μ) (F D q C)
def okB (T : List Int) (q : Nat) (pd : List Int) : Prop := wrd T wAnd q = none ∧ ∀ x ∈ pd, x = -20
def okT (T : List Int) (q : Nat) (pd : List Int) : Prop := (wrd T wAnd q = none ∧ wrd T wOr q = none) ∧ ∀ x ∈ pd, x = -20 ∨ x = -21
theorem rep20 {pd : List Int} (h : ∀ x ∈ pd, x = -20) : pd = List.replicate pd.length (-20) := List.eq_replicate_iff.mpr ⟨rfl, h⟩
theorem bL_M {N : Nat} (hN : 1000000 ≤ N) {T : List Int} (hT : TB T) {b : Int} {d : Nat} {F : SF} (hF : SOKs T F) (hM : FacM N T b d F) {W : List Int} (hW : noT [14] W) : ∀ (k m n q : Nat) (C pd : List Int) {μ : Mm}, T.length ≤ q + k → IN T q → (∀ x ∈ pd, x = -20) → C.length + (W.length + pd.length) + 5 ≤ q → T.length + 9 < q + m → T.length + 9 < q + n → MS T q C (W ++ pd.map tM) d b μ → TO N T W d b (okB T) μ (TG N m n μ) (bothL T F d k q (C ++ pd.reverse))
  | 0, m, n, q, C, pd, μ, hk, hI, hx, hC, hm, hn, h => ⟨m, n, μ, C, pd, ⟨wrd_end w4_ok.2.2.1 (by omega), hx⟩, rfl, rfl, ⟨hm, hn⟩, h, hC, RF.rf _⟩
  | k + 1, m, n, q, C, pd, μ, hk, hI, hx, hC, hm, hn, h => by
    have hl := hT.1
    have hq := hI.2.1
    unfold bothL
    cases h1 : wrd T wAnd q with
    | none => exact ⟨m, n, μ, C, pd, ⟨h1, hx⟩, rfl, rfl, ⟨hm, hn⟩, h, hC, RF.rf _⟩
    | some q1 =>
      have i1 := wrd_1 w4_ok.2.2.1 h1
      have ep := rep20 hx
      have e1 : pd.map tM = List.replicate pd.length 14 := by
        conv => lhs; rw [ep]
        rw [List.map_replicate]
        rfl
      have e2 : pd.reverse = List.replicate pd.length (-20) := by
        conv => lhs; rw [ep]
        rw [List.reverse_replicate]
      rw [e1] at h
      obtain ⟨μ1, a1, a2, a3⟩ := TG_and (N := N) hN hT hI h1 (j := pd.length) (m := m) (n := n) hW (by omega) (by omega) (by omega) h
      rw [← e2] at a2
      have hlen : (C ++ pd.reverse).length = C.length + pd.length := by simp
      rw [a1]
      refine TO.fr ?_ a3
      have o := hM n 0 d (W ++ [14]) q1 (C ++ pd.reverse) μ1 (by omega) i1.1 (noT_mk W (by decide)) (by rw [hlen]; simp; omega) (by omega) (by simpa using a2)
      have g := hF d q1 (C ++ pd.reverse)
      dsimp only
      match hxx : F d q1 (C ++ pd.reverse), o with
      | Sum.inl e, o =>
        obtain ⟨μ', a, b', f⟩ := o
        exact ⟨μ', a, b', f⟩
      | Sum.inr (q2, C2), o =>
        have g2 := g.inr hxx
        obtain ⟨m', n', μ', r, ⟨fm, fn⟩, ms, inv, fr⟩ := o
        rw [r]
        show TO N T W d b (okB T) μ1 (TG N m' n' μ') (bothL T F d k q2 (C2 ++ [-20]))
        refine TO.fr ?_ fr
        have ms' : MS T q2 C2 (W ++ [-20].map tM) d b μ' := by
          rw [List.replicate_zero, List.append_nil] at ms
          exact ms
        rw [List.length_append, List.length_singleton] at inv
        exact bL_M (N := N) hN hT hF hM hW k m' n' q2 C2 [-20] (μ := μ') (by omega) g2.1 (fun x hx => List.mem_singleton.mp hx) (by simp; omega) fm fn ms'
theorem bth_M {N : Nat} (hN : 1000000 ≤ N) {T : List Int} (hT : TB T) {b : Int} {d : Nat} {F : SF} (hF : SOKs T F) (hM : FacM N T b d F) {W : List Int} (hW : noT [14] W) (hW2 : noT nW W) {n q : Nat} {C : List Int} (hI : IN T q) (hC : C.length + W.length + 5 ≤ q) (hn : T.length + 9 < q + n) {μ : Mm} (h : MS T q C W d b μ) : TO N T W d b (okB T) μ (jX8_test_2 N n 50 1 μ) (bothS T F d q C) := by
  have hl := hT.1
  have o := hM n 0 d W q C μ (by omega) hI hW2 (by omega) hn (by simpa using h)
  have g := hF d q C
  unfold bothS
  match hxx : F d q C, o with
  | Sum.inl e, o =>
    obtain ⟨μ', a, b', f⟩ := o
    exact ⟨μ', a, b', f⟩
  | Sum.inr (q2, C2), o =>
    have g2 := g.inr hxx
    obtain ⟨m', n', μ', r, ⟨fm, fn⟩, ms, inv, fr⟩ := o
    rw [r]
    show TO N T W d b (okB T) μ (TG N m' n' μ') (bothL T F d T.length q2 C2)
    refine TO.fr ?_ fr
    have ms' : MS T q2 C2 (W ++ [].map tM) d b μ' := by
      rw [List.replicate_zero, List.append_nil] at ms
      rw [List.map_nil, List.append_nil]
      exact ms
    have := bL_M (N := N) hN hT hF hM hW T.length m' n' q2 C2 [] (μ := μ') (by omega) g2.1 (fun x hx => absurd hx (by simp)) (by simp; omega) fm fn ms'
    rw [List.reverse_nil, List.append_nil] at this
    exact this
theorem tL_M {N : Nat} (hN : 1000000 ≤ N) {T : List Int} (hT : TB T) {b : Int} {d : Nat} {F : SF} (hF : SOKs T F) (hM : FacM N T b d F) {W : List Int} (hW : noT [14, 15] W) : ∀ (k m n q : Nat) (C pd : List Int) {μ : Mm}, T.length ≤ q + k → IN T q → wrd T wAnd q = none → (∀ x ∈ pd, x = -20 ∨ x = -21) → C.length + (W.length + pd.length) + 5 ≤ q → T.length + 9 < q + m → T.length + 9 < q + n → MS T q C (W ++ pd.map tM) d b μ → TO N T W d b (okT T) μ (TG N m n μ) (testL T F d k q (C ++ pd.reverse))
  | 0, m, n, q, C, pd, μ, hk, hI, ha, hx, hC, hm, hn, h => ⟨m, n, μ, C, pd, ⟨⟨ha, wrd_end w4_ok.2.2.2 (by omega)⟩, hx⟩, rfl, rfl, ⟨hm, hn⟩, h, hC, RF.rf _⟩
  | k + 1, m, n, q, C, pd, μ, hk, hI, ha, hx, hC, hm, hn, h => by
    have hl := hT.1
    have hq := hI.2.1
    unfold testL
    cases h1 : wrd T wOr q with
    | none => exact ⟨m, n, μ, C, pd, ⟨⟨ha, h1⟩, hx⟩, rfl, rfl, ⟨hm, hn⟩, h, hC, RF.rf _⟩
    | some q1 =>
      have i1 := wrd_1 w4_ok.2.2.2 h1
      obtain ⟨μ1, a1, a2, a3⟩ := TG_or (N := N) hN hT hI ha h1 (m := m) (n := n) hW hx (by omega) (by omega) (by omega) h
      have hlen : (C ++ pd.reverse).length = C.length + pd.length := by simp
      rw [a1]
      refine TO.fr ?_ a3
      have o := bth_M (N := N) hN hT hF hM (W := W ++ [15]) (noT_mk W (by decide)) (noT_mk W (by decide)) (n := n) (C := C ++ pd.reverse) i1.1 (by rw [hlen]; simp; omega) (by omega) a2
      have g := bothS_GR hF (d := d) (q := q1) (C := C ++ pd.reverse)
      dsimp only
      match hxx : bothS T F d q1 (C ++ pd.reverse), o with
      | Sum.inl e, o =>
        obtain ⟨μ', a, b', f⟩ := o
        exact ⟨μ', a, b', f⟩
      | Sum.inr (q2, C2), o =>
        have g2 := g.inr hxx
        obtain ⟨m', n', μ', C2', pd', ok, e, r, ⟨fm, fn⟩, ms, inv, fr⟩ := o
        rw [r]
        show TO N T W d b (okT T) μ1 (TG N m' n' μ') (testL T F d k q2 (C2 ++ [-21]))
        refine TO.fr ?_ fr
        rw [List.length_append, List.length_singleton] at inv
        have ms' : MS T q2 C2' (W ++ (-21 :: pd').map tM) d b μ' := by
          rw [List.append_assoc] at ms
          exact ms
        have := tL_M (N := N) hN hT hF hM hW k m' n' q2 C2' (-21 :: pd') (μ := μ') (by omega) g2.1 ok.1 (fun x hx => by
          rcases List.mem_cons.mp hx with z | z
          · exact Or.inr z
          · exact Or.inl (ok.2 x z)) (by simp; omega) fm fn ms'
        rw [e, List.append_assoc, ← List.reverse_cons]
        exact this
def TesM (N : Nat) (T : List Int) (b : Int) (d : Nat) (F : SF) : Prop := ∀ (n : Nat) (W : List Int) (q : Nat) (C : List Int) (μ : Mm), IN T q → noT [14, 15] W → noT nW W → C.length + W.length + 5 ≤ q → T.length + 9 < q + n → MS T q C W d b μ → TO N T W d b (okT T) μ (jX8_test_2 N n 50 1 μ) (testS T F d q C)
theorem tst_M {N : Nat} (hN : 1000000 ≤ N) {T : List Int} (hT : TB T) {b : Int} {d : Nat} {F : SF} (hF : SOKs T F) (hM : FacM N T b d F) : TesM N T b d F := by
  intro n W q C μ hI hW hW2 hC hn h
  have hl := hT.1
  have o := bth_M (N := N) hN hT hF hM (W := W) (hW.sub (by simp)) hW2 (n := n) hI hC hn h
  have g := bothS_GR hF (d := d) (q := q) (C := C)
  unfold testS
  match hxx : bothS T F d q C, o with
  | Sum.inl e, o =>
    obtain ⟨μ', a, b', f⟩ := o
    exact ⟨μ', a, b', f⟩
  | Sum.inr (q2, C2), o =>
    have g2 := g.inr hxx
    obtain ⟨m', n', μ', C2', pd', ok, e, r, ⟨fm, fn⟩, ms, inv, fr⟩ := o
    rw [r]
    show TO N T W d b (okT T) μ (TG N m' n' μ') (testL T F d T.length q2 C2)
    refine TO.fr ?_ fr
    rw [e]
    exact tL_M (N := N) hN hT hF hM hW T.length m' n' q2 C2' pd' (μ := μ') (by omega) g2.1 ok.1 (fun x hx => Or.inl (ok.2 x hx)) inv fm fn ms
theorem noT_rep {vs Wb : List Int} (h : noT vs Wb) (h16 : (16 : Int) ∉ vs) (j : Nat) : noT vs (Wb ++ List.replicate j 16) := by
  cases j with
  | zero => rw [List.replicate_zero, List.append_nil]; exact h
  | succ j =>
    rw [List.replicate_succ', ← List.append_assoc]
    exact noT_mk _ h16
