/-! ===== PURE: game() of the reference, whole ===== -/
theorem sta_113 {N L : Nat} (hN : 1000000 ≤ N) (hL : L ≤ 700) {A B C D E : Int → Int} (hE : ∀ j, E j = 0 ∨ E j = 1) : ∀ (k n i : Nat) {μ : Mm}, i + k = 81 → k < n → KR μ → m_gt μ 50 44 = L → (∀ j : Int, 0 ≤ j → j < L → m_gt μ 86 j = D j) → (∀ j : Int, 0 ≤ j → j < 30 → m_gt μ 80 j = A j ∧ m_gt μ 81 j = B j ∧ m_gt μ 82 j = C j) → (∀ j : Int, 0 ≤ j → j < i → m_gt μ 85 (81 + j) = E j) → (∀ j : Int, 0 ≤ j → j < 81 → m_gt μ 85 j = E j) → ∃ μ', jX8_stands_113 N n 50 i μ = some μ' ∧ (∀ j : Int, 0 ≤ j → j < 81 → m_gt μ' 85 (81 + j) = E j) ∧ (∀ j : Int, 0 ≤ j → j < 30 → m_gt μ' 80 (30 + j) = A j ∧ m_gt μ' 81 (30 + j) = B j ∧ m_gt μ' 82 (30 + j) = C j) ∧ (∀ j : Int, 0 ≤ j → j < L → m_gt μ' 86 (700 + j) = D j) ∧ Fr [80, 81, 82, 85, 86] [] μ μ'
  | k, 0, i, μ, hi, hn, _, _, _, _, _, _ => absurd hn (by omega)
  | 0, n + 1, i, μ, hi, hn, hK, h44, hD, hA, hz, hB => by
    obtain ⟨μ', r1, r2, r2', r3⟩ := sta_142 (N := N) hN hL (A := A) (B := B) (C := C) (D := D) 30 N 0 (μ := μ) (by omega) (by omega) hK h44 hD (fun j h0 h1 => absurd h1 (by omega)) hA
    refine ⟨μ', ?_, fun j h0 h1 => ?_, r2, r2', r3.mono (by simp) (by simp)⟩
    · rw [← r1]
      show jX8_stands_113b (jX8_stands_113 N n) N 50 i μ = _
      unfold jX8_stands_113b
      rw [if_pos (by omega)]
      rfl
    · rw [r3.2.2 85 _ (by decide) (by simp)]
      exact hz j h0 (by omega)
  | k + 1, n + 1, i, μ, hi, hn, hK, h44, hD, hA, hz, hB => by
    have f : Fr [80, 81, 82, 85, 86] [] μ (m_st μ 85 (81 + i) (m_gt μ 85 i)) := Fr.stI (Fr.rf0 _ _ _) (by simp)
    have K1 : KR (m_st μ 85 (81 + i) (m_gt μ 85 i)) := hK.sa _ _ (by decide)
    obtain ⟨μ', r1, r2, r2', r3, r4⟩ := sta_113 (N := N) hN hL (A := A) (B := B) (C := C) (D := D) hE k n (i + 1) (μ := m_st μ 85 (81 + i) (m_gt μ 85 i)) (by omega) (by omega) K1 (by rw [gt_r _ _ _ _ (by decide)]; exact h44) (fun j h0 h1 => by rw [gt_r _ _ _ _ (by decide)]; exact hD j h0 h1) (fun j h0 h1 => by rw [gt_r _ _ _ _ (by decide), gt_r _ _ _ _ (by decide), gt_r _ _ _ _ (by decide)]; exact hA j h0 h1) (fun j h0 h1 => by
      rw [m_gt_st]
      split
      · rename_i c
        rw [hB i (by omega) (by omega), show j = i by omega]
      · rename_i c
        exact hz j h0 (by omega)) (fun j h0 h1 => by rw [gt_i _ _ _ (by omega)]; exact hB j h0 h1)
    refine ⟨μ', ?_, r2, r2', r3, f.trI r4⟩
    rw [← r1]
    show jX8_stands_113b (jX8_stands_113 N n) N 50 i μ = _
    unfold jX8_stands_113b
    rw [if_neg (by omega), r_50_42 hK, ald_e (k_85 hK) (by omega) (by omega), ob_e, z_e (by rw [hB i (by omega) (by omega)]; exact hE i), i_add_e (by omega) (by omega), ast_e (k_85 hK) (by omega) (by omega), ob_e, bnd_e, i_add_e (by omega) (by omega)]
    rfl
theorem sta_86 {N L : Nat} (hN : 1000000 ≤ N) (hL : L ≤ 700) {A B C D E F : Int → Int} (hE : ∀ j, E j = 0 ∨ E j = 1) : ∀ (k n i : Nat) {μ : Mm}, i + k = 4 → k < n → KR μ → m_gt μ 50 44 = L → (∀ j : Int, 0 ≤ j → j < L → m_gt μ 86 j = D j) → (∀ j : Int, 0 ≤ j → j < 30 → m_gt μ 80 j = A j ∧ m_gt μ 81 j = B j ∧ m_gt μ 82 j = C j) → (∀ j : Int, 0 ≤ j → j < 81 → m_gt μ 85 j = E j) → (∀ j : Int, 0 ≤ j → j < i → m_gt μ 78 (4 + j) = F j) → (∀ j : Int, 0 ≤ j → j < 4 → m_gt μ 78 j = F j) → ∃ μ', jX8_stands_86 N n 50 i μ = some μ' ∧ (∀ j : Int, 0 ≤ j → j < 4 → m_gt μ' 78 (4 + j) = F j) ∧ (∀ j : Int, 0 ≤ j → j < 81 → m_gt μ' 85 (81 + j) = E j) ∧ (∀ j : Int, 0 ≤ j → j < 30 → m_gt μ' 80 (30 + j) = A j ∧ m_gt μ' 81 (30 + j) = B j ∧ m_gt μ' 82 (30 + j) = C j) ∧ (∀ j : Int, 0 ≤ j → j < L → m_gt μ' 86 (700 + j) = D j) ∧ Fr [78, 80, 81, 82, 85, 86] [] μ μ'
  | k, 0, i, μ, hi, hn, _, _, _, _, _, _, _ => absurd hn (by omega)
  | 0, n + 1, i, μ, hi, hn, hK, h44, hD, hA, hB, hz, hF => by
    obtain ⟨μ', r1, r2, r2', r3, r4⟩ := sta_113 (N := N) hN hL (A := A) (B := B) (C := C) (D := D) (E := E) hE 81 N 0 (μ := μ) (by omega) (by omega) hK h44 hD hA (fun j h0 h1 => absurd h1 (by omega)) hB
    refine ⟨μ', ?_, fun j h0 h1 => ?_, r2, r2', r3, r4.mono (by simp) (by simp)⟩
    · rw [← r1]
      show jX8_stands_86b (jX8_stands_86 N n) N 50 i μ = _
      unfold jX8_stands_86b
      rw [if_pos (by omega)]
      rfl
    · rw [r4.2.2 78 _ (by decide) (by simp)]
      exact hz j h0 (by omega)
  | k + 1, n + 1, i, μ, hi, hn, hK, h44, hD, hA, hB, hz, hF => by
    have f : Fr [78, 80, 81, 82, 85, 86] [] μ (m_st μ 78 (4 + i) (m_gt μ 78 i)) := Fr.stI (Fr.rf0 _ _ _) (by simp)
    have K1 : KR (m_st μ 78 (4 + i) (m_gt μ 78 i)) := hK.sa _ _ (by decide)
    obtain ⟨μ', r1, r2, r2', r3, r4, r5⟩ := sta_86 (N := N) hN hL (A := A) (B := B) (C := C) (D := D) (E := E) (F := F) hE k n (i + 1) (μ := m_st μ 78 (4 + i) (m_gt μ 78 i)) (by omega) (by omega) K1 (by rw [gt_r _ _ _ _ (by decide)]; exact h44) (fun j h0 h1 => by rw [gt_r _ _ _ _ (by decide)]; exact hD j h0 h1) (fun j h0 h1 => by rw [gt_r _ _ _ _ (by decide), gt_r _ _ _ _ (by decide), gt_r _ _ _ _ (by decide)]; exact hA j h0 h1) (fun j h0 h1 => by rw [gt_r _ _ _ _ (by decide)]; exact hB j h0 h1) (fun j h0 h1 => by
      rw [m_gt_st]
      split
      · rename_i c
        rw [hF i (by omega) (by omega), show j = i by omega]
      · rename_i c
        exact hz j h0 (by omega)) (fun j h0 h1 => by rw [gt_i _ _ _ (by omega)]; exact hF j h0 h1)
    refine ⟨μ', ?_, r2, r2', r3, r4, f.trI r5⟩
    rw [← r1]
    show jX8_stands_86b (jX8_stands_86 N n) N 50 i μ = _
    unfold jX8_stands_86b
    rw [if_neg (by omega), r_50_35 hK, ald_e (k_78 hK) (by omega) (by omega), ob_e, i_add_e (by omega) (by omega), ast_e (k_78 hK) (by omega) (by omega), ob_e, bnd_e, i_add_e (by omega) (by omega)]
    rfl
/-- the joins of a draft, one by one -/
def jcl (G : Gm) (j : Int) : Int := if gJ G (j / 9) (j % 9) then 1 else 0
theorem stands_M {N : Nat} (hN : 1000000 ≤ N) {T : List Int} {q : Nat} {G : Gm} (hG : COK G) {μ : Mm} (h : MG T q G μ) : ∃ μ', jX8_stands N 50 μ = some μ' ∧ GM G μ' ∧ Fr wGM [] μ μ' := by
  obtain ⟨⟨h1, h2, h3, h4, h5, h6, h7⟩, ⟨r1, r2, r3, r4⟩, hj⟩ := h.2
  have hK := h.1.1
  obtain ⟨c1, c2, c3, c4, c5, c6⟩ := hG
  obtain ⟨μ7, hμ⟩ : ∃ μ7, μ7 = m_st (m_st (m_st (m_st (m_st (m_st (m_st μ 74 1 (m_gt μ 74 0)) 75 1 (m_gt μ 75 0)) 76 1 (m_gt μ 76 0)) 77 1 (m_gt μ 77 0)) 79 1 (m_gt μ 79 0)) 83 1 (m_gt μ 83 0)) 84 1 (m_gt μ 84 0) := ⟨_, rfl⟩
  have k1 : KR (m_st μ 74 1 (m_gt μ 74 0)) := hK.sa _ _ (by decide)
  have k2 : KR (m_st (m_st μ 74 1 (m_gt μ 74 0)) 75 1 (m_gt μ 75 0)) := k1.sa _ _ (by decide)
  have k3 : KR (m_st (m_st (m_st μ 74 1 (m_gt μ 74 0)) 75 1 (m_gt μ 75 0)) 76 1 (m_gt μ 76 0)) := k2.sa _ _ (by decide)
  have k4 : KR (m_st (m_st (m_st (m_st μ 74 1 (m_gt μ 74 0)) 75 1 (m_gt μ 75 0)) 76 1 (m_gt μ 76 0)) 77 1 (m_gt μ 77 0)) := k3.sa _ _ (by decide)
  have k5 : KR (m_st (m_st (m_st (m_st (m_st μ 74 1 (m_gt μ 74 0)) 75 1 (m_gt μ 75 0)) 76 1 (m_gt μ 76 0)) 77 1 (m_gt μ 77 0)) 79 1 (m_gt μ 79 0)) := k4.sa _ _ (by decide)
  have k6 : KR (m_st (m_st (m_st (m_st (m_st (m_st μ 74 1 (m_gt μ 74 0)) 75 1 (m_gt μ 75 0)) 76 1 (m_gt μ 76 0)) 77 1 (m_gt μ 77 0)) 79 1 (m_gt μ 79 0)) 83 1 (m_gt μ 83 0)) := k5.sa _ _ (by decide)
  have k7 : KR μ7 := by rw [hμ]; exact k6.sa _ _ (by decide)
  have F7 : Fr [74, 75, 76, 77, 79, 83, 84] [] μ μ7 := by rw [hμ]; exact ((((((Fr.stI (Fr.rf0 _ _ _) (by simp)).stI (by simp)).stI (by simp)).stI (by simp)).stI (by simp)).stI (by simp)).stI (by simp)
  have o : ∀ r i : Int, r = 50 ∨ r = 78 ∨ r = 80 ∨ r = 81 ∨ r = 82 ∨ r = 85 ∨ r = 86 → m_gt μ7 r i = m_gt μ r i := fun r i hr => F7.2.2 r i (by simp; omega) (by simp)
  have hEj : ∀ j, jcl G j = 0 ∨ jcl G j = 1 := fun j => by unfold jcl; split <;> simp
  obtain ⟨μ', s1, s2, s3, s4, s5, s6⟩ := sta_86 (N := N) hN c1 (A := m_gt μ 80) (B := m_gt μ 81) (C := m_gt μ 82) (D := m_gt μ 86) (E := jcl G) (F := m_gt μ 78) hEj 4 N 0 (μ := μ7) (by omega) (by omega) k7 (by rw [o _ _ (by decide)]; exact h.1.2.2.1.1) (fun j _ _ => o _ _ (by decide)) (fun j _ _ => ⟨o _ _ (by decide), o _ _ (by decide), o _ _ (by decide)⟩) (fun j j0 j1 => by
    rw [o _ _ (by decide)]
    have e := hj (j / 9) (j % 9) (by omega) (by omega) (by omega) (by omega)
    rw [show 9 * (j / 9) + j % 9 = j by omega] at e
    exact e) (fun j j0 j1 => absurd j1 (by omega)) (fun j _ _ => o _ _ (by decide))
  have o2 : ∀ r i : Int, r = 74 ∨ r = 75 ∨ r = 76 ∨ r = 77 ∨ r = 79 ∨ r = 83 ∨ r = 84 → m_gt μ' r i = m_gt μ7 r i := fun r i hr => s6.2.2 r i (by simp; omega) (by simp)
  refine ⟨μ', ?_, ⟨⟨?_, ?_, ?_, ?_, ?_, ?_, ?_⟩, ⟨fun i hi => ?_, fun i hi => ?_, fun i hi => ?_, fun i hi => ?_, fun i hi => ?_⟩, fun a b a0 a1 b0 b1 => ?_⟩, (F7.mono (by simp [wGM]) (by simp)).trI (s6.mono (by simp [wGM]) (by simp))⟩
  · unfold jX8_stands
    rw [r_50_31 hK, ald_e (k_74 hK) (by decide) (by decide), ob_e, ast_e (k_74 hK) (by decide) (by decide), ob_e, r_50_32 k1, ald_e (k_75 k1) (by decide) (by decide), ob_e, gt_r _ _ _ _ (show (75 : Int) ≠ 74 by decide), ast_e (k_75 k1) (by decide) (by decide), ob_e, r_50_33 k2, ald_e (k_76 k2) (by decide) (by decide), ob_e, gt_r _ _ _ _ (show (76 : Int) ≠ 75 by decide), gt_r _ _ _ _ (show (76 : Int) ≠ 74 by decide), ast_e (k_76 k2) (by decide) (by decide), ob_e, r_50_34 k3, ald_e (k_77 k3) (by decide) (by decide), ob_e, gt_r _ _ _ _ (show (77 : Int) ≠ 76 by decide), gt_r _ _ _ _ (show (77 : Int) ≠ 75 by decide), gt_r _ _ _ _ (show (77 : Int) ≠ 74 by decide), ast_e (k_77 k3) (by decide) (by decide), ob_e, r_50_36 k4, ald_e (k_79 k4) (by decide) (by decide), ob_e, gt_r _ _ _ _ (show (79 : Int) ≠ 77 by decide), gt_r _ _ _ _ (show (79 : Int) ≠ 76 by decide), gt_r _ _ _ _ (show (79 : Int) ≠ 75 by decide), gt_r _ _ _ _ (show (79 : Int) ≠ 74 by decide), ast_e (k_79 k4) (by decide) (by decide), ob_e, r_50_40 k5, ald_e (k_83 k5) (by decide) (by decide), ob_e, gt_r _ _ _ _ (show (83 : Int) ≠ 79 by decide), gt_r _ _ _ _ (show (83 : Int) ≠ 77 by decide), gt_r _ _ _ _ (show (83 : Int) ≠ 76 by decide), gt_r _ _ _ _ (show (83 : Int) ≠ 75 by decide), gt_r _ _ _ _ (show (83 : Int) ≠ 74 by decide), ast_e (k_83 k5) (by decide) (by decide), ob_e, r_50_41 k6, ald_e (k_84 k6) (by decide) (by decide), ob_e, gt_r _ _ _ _ (show (84 : Int) ≠ 83 by decide), gt_r _ _ _ _ (show (84 : Int) ≠ 79 by decide), gt_r _ _ _ _ (show (84 : Int) ≠ 77 by decide), gt_r _ _ _ _ (show (84 : Int) ≠ 76 by decide), gt_r _ _ _ _ (show (84 : Int) ≠ 75 by decide), gt_r _ _ _ _ (show (84 : Int) ≠ 74 by decide), ast_e (k_84 k6) (by decide) (by decide), ob_e, ← hμ]
    exact s1
  · rw [o2 _ _ (by decide), hμ]; simp [m_gt_st]; exact h1
  · rw [o2 _ _ (by decide), hμ]; simp [m_gt_st]; exact h2
  · rw [o2 _ _ (by decide), hμ]; simp [m_gt_st]; exact h3
  · rw [o2 _ _ (by decide), hμ]; simp [m_gt_st]; exact h4
  · rw [o2 _ _ (by decide), hμ]; simp [m_gt_st]; exact h5
  · rw [o2 _ _ (by decide), hμ]; simp [m_gt_st]; exact h6
  · rw [o2 _ _ (by decide), hμ]; simp [m_gt_st]; exact h7
  · have e := h.1.2.2.1.2 i hi
    rw [Int.zero_add] at e
    rw [List.length_map] at hi
    rw [s5 i (by omega) (by omega)]
    exact e
  · have e := r1 i hi
    rw [Int.zero_add] at e
    have hi : i < 4 := hi
    rw [s2 i (by omega) (by omega)]
    exact e
  · have e := r2 i hi
    rw [Int.zero_add] at e
    rw [List.length_map] at hi
    rw [(s4 i (by omega) (by omega)).1]
    exact e
  · have e := r3 i hi
    rw [Int.zero_add] at e
    rw [List.length_map] at hi
    rw [(s4 i (by omega) (by omega)).2.1]
    exact e
  · have e := r4 i hi
    rw [Int.zero_add] at e
    rw [List.length_map] at hi
    rw [(s4 i (by omega) (by omega)).2.2]
    exact e
  · rw [Int.add_assoc, s3 (9 * a + b) (by omega) (by omega)]
    unfold jcl
    rw [show (9 * a + b) / 9 = a by omega, show (9 * a + b) % 9 = b by omega]
