/-! ===== PURE: the reference's tests: heads ===== -/
def TG (N m n : Nat) (μ : Mm) : Option Mm := b2 (jX8_goesOnTest_0 N m 50 μ) fun x3 μ5 => if x3 = 0 then jX8_test_105 (jX8_test_2 N n) N 50 μ5 else jX8_test_106 (jX8_test_2 N n) N 50 1 μ5
theorem tbad_end {N : Nat} (hN : 1000000 ≤ N) {n : Nat} (hn : 1 ≤ n) {l1 : Int} {μ : Mm} (h : ¬ m_gt μ 50 5 = 0) : jX8_test_2 N n 50 l1 μ = some μ := by
  obtain ⟨n', rfl⟩ : ∃ n', n = n' + 1 := ⟨n - 1, by omega⟩
  obtain ⟨N', rfl⟩ : ∃ N', N = N' + 1 := ⟨N - 1, by omega⟩
  have e : jX8_test_110 (N' + 1) (N' + 1) 50 μ = some μ := by
    show jX8_test_110b (jX8_test_110 (N' + 1) N') (N' + 1) 50 μ = _
    unfold jX8_test_110b jX8_test_131
    rw [if_pos h]
  show jX8_test_2b (jX8_test_2 (N' + 1) n') (N' + 1) 50 l1 μ = _
  unfold jX8_test_2b
  by_cases c : l1 = 0
  · rw [if_pos c]; exact e
  · rw [if_neg c, if_pos h]; exact e
/-- behind a fact: no bracket closes here -/
theorem tg_76 {N : Nat} (hN : 1000000 ≤ N) {T : List Int} (hT : TB T) {q : Nat} (hI : IN T q) {C W : List Int} {d m : Nat} {b : Int} (hl : W.length < 790) (hs : sg T 93 q = none ∨ ¬ 25 ∈ W) {μ : Mm} (h : MS T q C W d b μ) : ∃ μ', jX8_goesOnTest_0 N (m + 1) 50 μ = jX8_goesOnTest_76 N 50 μ' ∧ MS T q C W d b μ' ∧ PQ T q μ' ∧ RF μ μ' := by
  obtain ⟨μ1, a1, a2, a3, a4⟩ := look_M (N := N) hN hT h.1 h.2.1
  have h1 := h.pq hI a2 a4
  refine ⟨μ1, ?_, h1, a2, lx2 a4⟩
  show jX8_goesOnTest_0b (jX8_goesOnTest_0 N m) N 50 μ = _
  unfold jX8_goesOnTest_0b
  rw [if_neg (not_not_intro h.2.1.b0), a1, b2_e]
  by_cases c : lk T q = 93
  · have hno : ¬ 25 ∈ W := by
      rcases hs with z | z
      · have := (lk_sg (by decide)).mp c
        unfold sg at z
        rw [if_pos this] at z
        cases z
      · exact z
    rw [if_neg (not_not_intro c), hsq_M (N := N) hN hl h1, b2_e, if_neg hno, if_pos rfl]
  · rw [if_pos c]
theorem TG_and {N : Nat} (hN : 1000000 ≤ N) {T : List Int} (hT : TB T) {q q1 : Nat} (hI : IN T q) (hs : wrd T wAnd q = some q1) {C W : List Int} {d m n j : Nat} {b : Int} (hW : noT [14] W) (hC : C.length + j ≤ 700) (hl : W.length + j < 780) (hm : 1 ≤ m) {μ : Mm} (h : MS T q C (W ++ List.replicate j 14) d b μ) : ∃ μ', TG N m n μ = jX8_test_2 N n 50 1 μ' ∧ MS T q1 (C ++ List.replicate j (-20)) (W ++ [14]) d b μ' ∧ RF μ μ' := by
  obtain ⟨m', rfl⟩ : ∃ m', m = m' + 1 := ⟨m - 1, by omega⟩
  have hsg : sg T 93 q = none := by
    unfold sg
    rw [if_neg]
    rintro ⟨z1, z2⟩
    have := (wrd_yes hs).2.2.2 0 (by decide)
    rw [Nat.add_zero, z2] at this
    exact absurd this (by decide)
  obtain ⟨μ1, a1, a2, a3, a4⟩ := tg_76 (N := N) hN hT hI (m := m') (by simp; omega) (Or.inl hsg) h
  obtain ⟨μ2, b1, b2', b3, b4⟩ := takesM_1 (N := N) hN hT hI (by decide) a2.1 (wm a2.1 a2.2.2.2 (r := 63) (w := wAnd) (by decide)) hs a2.2.1
  have h2 := a2.l4 b2' b4
  obtain ⟨μ3, c1, c2, c3⟩ := on_87 (N := N) hW j N C (μ := μ2) (by omega) hC hl h2
  refine ⟨μ3, ?_, c2, a4.trI ((lx4 b4).trI c3)⟩
  unfold TG
  rw [a1]
  unfold jX8_goesOnTest_76 jX8_test_106
  rw [r_50_20 a2.1, b1, b2_e, if_neg (by decide), c1, b2_e, if_neg (by decide)]
