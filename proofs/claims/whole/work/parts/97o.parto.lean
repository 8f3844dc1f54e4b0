/-! ===== PURE: the reference reads a part: brackets and pairs ===== -/
def okS (T : List Int) (q : Nat) (pd : List Int) : Prop := nop T q ∧ ∀ x ∈ pd, -14 ≤ x ∧ x ≤ -11
theorem tM_op {x : Int} (h : -14 ≤ x ∧ x ≤ -11) : tM x = -10 - x := by
  unfold tM
  rw [if_neg (by omega), if_neg (by omega), if_neg (by omega), if_neg (by omega), if_neg (by omega), if_neg (by omega), if_neg (by omega), if_neg (by omega), if_neg (by omega), if_pos (by omega)]
theorem okS.lt {T : List Int} {q : Nat} {pd : List Int} (h : okS T q pd) : ∀ x ∈ pd, tM x < 20 := fun x hx => by
  have := h.2 x hx
  rw [tM_op this]
  omega
def SumM (N : Nat) (was : Int) (T : List Int) (b : Int) (d : Nat) (S : SF) : Prop := d < 6 → ∀ (m n : Nat) (W : List Int) (q : Nat) (C : List Int) (μ : Mm), IN T q → noT [1, 2, 3, 4] W → b ≤ W.length → C.length + W.length + 5 ≤ q → T.length + 9 < q + m → T.length + 9 < q + n → MS T q C W (d + 1) b μ → MO N was T W (d + 1) b (okS T) μ (PH N was m n 1 μ) (S (d + 1) q C)
theorem noT_mk (W : List Int) {x : Int} {vs : List Int} (h : x ∉ vs) : noT vs (W ++ [x]) := fun y hy => by
  rw [List.getLast?_append, List.getLast?_singleton] at hy
  simp at hy
  rw [← hy]
  exact h
theorem GR.inr {T : List Int} {g q q' : Nat} {C C' : List Int} {x : PR} (h : GR T g q C x) (e : x = Sum.inr (q', C')) : IN T q' ∧ q + g ≤ q' ∧ C'.length + q ≤ q' + C.length ∧ C.length ≤ C'.length := by rw [e] at h; exact h
/-- brackets -/
theorem brk_M {N : Nat} (hN : 1000000 ≤ N) {T : List Int} (hT : TB T) {was : Int} {b : Int} {d : Nat} (hd : d < 6) {S : SF} (hS : SOKs T S) (hM : SumM N was T b d S) {m n : Nat} {W : List Int} {q : Nat} {C : List Int} (hI : IN T q) (hb : b ≤ W.length) (hC : C.length + W.length + 6 ≤ q) (hm : T.length + 9 < q + m) (hn : T.length + 9 < q + n) {mk : Int} (hmk : mk = 20 ∨ mk = 23 ∨ mk = 24) {μ : Mm} (h : MS T q C (W ++ [mk]) (d + 1) b μ) : MO N was T W d b (fun _ pd => pd = []) μ (PH N was m n 1 μ) (bR (S (d + 1) q C) (fun q2 C2 => sR T 41 q2 (fun q3 => Sum.inr (q3, C2 ++ (if mk = 20 then [] else if mk = 23 then [-15] else [-16]))))) := by
  have hl := hT.1
  have o := hM hd m n (W ++ [mk]) q C μ hI (noT_mk W (by simp; omega)) (by simp; omega) (by simp; omega) hm hn h
  have g := hS (d + 1) q C
  match hx : S (d + 1) q C, o with
  | Sum.inl e, o =>
    obtain ⟨μ', a, b', c, f⟩ := o
    exact ⟨μ', a, b', c, f⟩
  | Sum.inr (q2, C2), o =>
    have g2 := g.inr hx
    obtain ⟨m', n', μ', C2', pd, ok, e, r, ⟨fm, fn⟩, ms, inv, fr⟩ := o
    have hq2 := g2.1.2.1
    rw [List.length_append, List.length_singleton] at inv
    show MO N was T W d b (fun _ pd => pd = []) μ (PH N was m n 1 μ) (sR T 41 q2 _)
    unfold sR
    cases hs : sg T 41 q2 with
    | some q3 =>
      have i3 := sg_IN c41.2 hs
      obtain ⟨m'', rfl⟩ : ∃ m'', m' = m'' + 1 := ⟨m' - 1, by omega⟩
      obtain ⟨μ2, c1, c2, c3⟩ := GH_close (N := N) hN hT (was := was) (m := m'') (n := n') g2.1 hs hmk hb ok.lt (by omega) (by omega) hd ms
      refine ⟨m'', n', μ2, C2' ++ pd.reverse ++ (if mk = 20 then [] else if mk = 23 then [-15] else [-16]), [], rfl, by rw [e]; simp, by rw [r, c1], ⟨by omega, by omega⟩, by simpa using c2, ?_, fr.trI c3⟩
      have : (if mk = 20 then ([] : List Int) else if mk = 23 then [-15] else [-16]).length ≤ 1 := by
        split
        · simp
        · split <;> simp
      simp
      omega
    | none =>
      obtain ⟨μ2, c1, c2, c3⟩ := GH_open (N := N) hN hT (was := was) (m := m') (n := n') g2.1 ok.1 hs hmk hb ok.lt (by omega) (by omega) (by omega) (by omega) ms
      exact MO.fl c2 (by rw [r, c1]) (fr.trI c3)
/-- a pair behind its word -/
theorem pair_M {N : Nat} (hN : 1000000 ≤ N) {T : List Int} (hT : TB T) {was : Int} {b : Int} {d : Nat} (hd6 : d ≤ 6) {S : SF} (hS : SOKs T S) (hM : SumM N was T b d S) {m n : Nat} {W : List Int} {q : Nat} {C : List Int} (hI : IN T q) (hb : b ≤ W.length) (hC : C.length + W.length + 5 ≤ q) (hm : T.length + 9 < q + m) (hn : T.length + 9 < q + n) {l3 : Int} (hl3 : l3 = 0 ∨ l3 = 1) {μ : Mm} (h : MS T q C W d b μ) : MO N was T W d b (fun _ pd => pd = []) μ ((jX8_onePart_90 (jX8_onePart_2 N m) N 50 1 l3 μ).bind fun μ1 => if ¬ (m_gt μ1 50 5) = 0 then jX8_sums_48 (jX8_sums_15 N n) N 50 was μ1 else GH N was N n μ1) (pairS T S d q C (if l3 = 0 then -16 else -15)) := by
  have hl := hT.1
  have hq := hI.2.1
  obtain ⟨o1, o2, o3⟩ := on_90 (N := N) hN hT hI (l3 := l3) hd6 (by omega) (by omega) (k2 := jX8_onePart_2 N m) h
  unfold pairS
  cases hs : sg T 40 q with
  | none =>
    obtain ⟨μ1, a1, a2, a3⟩ := o3 hs
    have hbad : ¬ m_gt μ1 50 5 = 0 := by rw [a2.1]; exact a2.2.2
    refine MO.fl a2 ?_ a3
    rw [a1]
    exact PH_bad hN (by omega) (by omega) hbad
  | some q1 =>
    have i1 := sg_IN c40.2 hs
    dsimp only
    by_cases hd : d < 6
    · rw [if_pos hd]
      obtain ⟨μ1, a1, a2, a3⟩ := o1 q1 hs hd
      rw [a1]
      refine MO.fr ?_ a3
      have hmk : (if l3 = 0 then (22 : Int) else 21) = 21 ∨ (if l3 = 0 then (22 : Int) else 21) = 22 := by
        rcases hl3 with z | z <;> rw [z] <;> decide
      have o := hM hd m n (W ++ [if l3 = 0 then 22 else 21]) q1 C μ1 i1.1 (noT_mk W (by simp; omega)) (by simp; omega) (by simp; omega) (by omega) (by omega) a2
      have g := hS (d + 1) q1 C
      show MO N was T W d b (fun _ pd => pd = []) μ1 (PH N was m n 1 μ1) _
      match hx : S (d + 1) q1 C, o with
      | Sum.inl e, o =>
        obtain ⟨μ', a, b', c, f⟩ := o
        exact ⟨μ', a, b', c, f⟩
      | Sum.inr (q2, C2), o =>
        have g2 := g.inr hx
        obtain ⟨m', n', μ', C2', pd, ok, e, r, ⟨fm, fn⟩, ms, inv, fr⟩ := o
        have hq2 := g2.1.2.1
        rw [List.length_append, List.length_singleton] at inv
        obtain ⟨k1, k2⟩ := GH_comma (N := N) hN hT (was := was) (m := m') (n := n') g2.1 ok.1 hmk hb ok.lt (by omega) (by omega) (by omega) (by omega) ms
        show MO N was T W d b (fun _ pd => pd = []) μ1 (PH N was m n 1 μ1) (sR T 44 q2 _)
        unfold sR
        cases hs2 : sg T 44 q2 with
        | some q3 =>
          have i3 := sg_IN c44.2 hs2
          obtain ⟨μ2, c1, c2, c3⟩ := k1 q3 hs2
          rw [r, c1]
          refine MO.fr ?_ (fr.trI c3)
          have hlen : (C2' ++ pd.reverse).length = C2'.length + pd.length := by simp
          have hmk2 : (if l3 = 0 then (22 : Int) else 21) + 2 = 20 ∨ (if l3 = 0 then (22 : Int) else 21) + 2 = 23 ∨ (if l3 = 0 then (22 : Int) else 21) + 2 = 24 := by omega
          have := brk_M (N := N) hN hT (was := was) hd hS hM (m := N) (n := n' - 1) (W := W) (q := q3) (C := C2' ++ pd.reverse) i3.1 hb (by omega) (by omega) (by omega) hmk2 c2
          have eop : (if (if l3 = 0 then (22 : Int) else 21) + 2 = 20 then ([] : List Int) else if (if l3 = 0 then (22 : Int) else 21) + 2 = 23 then [-15] else [-16]) = [if l3 = 0 then -16 else -15] := by
            rcases hl3 with z | z <;> rw [z] <;> decide
          rw [eop] at this
          rw [e]
          exact this
        | none =>
          obtain ⟨μ2, c1, c2, c3⟩ := k2 hs2
          exact MO.fl c2 (by rw [r, c1]) (fr.trI c3)
    · rw [if_neg hd]
      obtain ⟨μ1, a1, a2, a3⟩ := o2 q1 hs hd
      have hbad : ¬ m_gt μ1 50 5 = 0 := by rw [a2.1]; exact a2.2.2
      refine MO.fl a2 ?_ a3
      rw [a1]
      exact PH_bad hN (by omega) (by omega) hbad
theorem prt_M {N : Nat} (hN : 1000000 ≤ N) {T : List Int} (hT : TB T) {was : Int} {b : Int} {d : Nat} (hd6 : d ≤ 6) {S : SF} (hS : SOKs T S) (hM : SumM N was T b d S) {m n : Nat} {W : List Int} {q : Nat} {C : List Int} (hI : IN T q) (hb : b ≤ W.length) (hC : C.length + W.length + 5 ≤ q) (hm : T.length + 9 < q + m) (hn : T.length + 9 < q + n) {μ : Mm} (h : MS T q C W d b μ) : MO N was T W d b (fun _ pd => pd = []) μ (PH N was m n 1 μ) (partS T S d q C) := by
  have hl := hT.1
  have hq := hI.2.1
  obtain ⟨m', rfl⟩ : ∃ m', m = m' + 1 := ⟨m - 1, by omega⟩
  unfold partS
  cases hs : sg T 40 q with
  | some q1 =>
    have i1 := sg_IN c40.2 hs
    obtain ⟨k1, k2⟩ := PH_paren (N := N) hN hT (was := was) hI hs (m := m') (n := n) hd6 (by omega) (by omega) (by omega) (by omega) h
    dsimp only
    by_cases hd : d < 6
    · rw [if_pos hd]
      obtain ⟨μ1, a1, a2, a3⟩ := k1 hd
      rw [a1]
      refine MO.fr ?_ a3
      have := brk_M (N := N) hN hT (was := was) hd hS hM (m := m') (n := n) (W := W) (q := q1) (C := C) i1.1 hb (by omega) (by omega) (by omega) (mk := 20) (Or.inl rfl) a2
      simpa using this
    · rw [if_neg hd]
      obtain ⟨μ1, a1, a2, a3⟩ := k2 hd
      exact MO.fl a2 a1 a3
  | none =>
    dsimp only
    cases h1 : wrd T wMin q with
    | some q1 =>
      have i1 := wrd_1 w_ok.1 h1
      obtain ⟨μ1, a1, a2, a3⟩ := PH_word (N := N) hN hT (was := was) hI hs (q1 := q1) (m := m') (n := n) (mx := false) (by simpa using h1) h
      rw [a1]
      exact (pair_M (N := N) hN hT (was := was) hd6 hS hM i1.1 hb (by omega) (by omega) (by omega) (l3 := 1) (Or.inr rfl) a2).fr a3
    | none =>
      dsimp only
      cases h2 : wrd T wMax q with
      | some q1 =>
        have i1 := wrd_1 w_ok.2.1 h2
        obtain ⟨μ1, a1, a2, a3⟩ := PH_word (N := N) hN hT (was := was) hI hs (q1 := q1) (m := m') (n := n) (mx := true) (by simpa using ⟨h1, h2⟩) h
        rw [a1]
        exact (pair_M (N := N) hN hT (was := was) hd6 hS hM i1.1 hb (by omega) (by omega) (by omega) (l3 := 0) (Or.inl rfl) a2).fr a3
      | none => exact PH_simple (N := N) hN hT hI hs h1 h2 hC (by omega) hn (by omega) h
