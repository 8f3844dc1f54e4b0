/-! ===== PURE: game() of the reference: what is forgotten, what stands ===== -/
theorem GM.ef {G : Gm} {μ μ' : Mm} (h : GM G μ) (f : EF μ μ') : GM G μ' := by
  obtain ⟨⟨h1, h2, h3, h4, h5, h6, h7⟩, ⟨r1, r2, r3, r4, r5⟩, hj⟩ := h
  have g : ∀ r i : Int, 74 ≤ r → r ≤ 86 → (r = 86 → 700 ≤ i) → (r = 78 → 4 ≤ i) → ((r = 80 ∨ r = 81 ∨ r = 82) → 30 ≤ i) → (r = 85 → 81 ≤ i) → 1 ≤ i → m_gt μ' r i = m_gt μ r i := fun r i z1 z2 z3 z4 z5 z6 z7 => f.2.2 r i (by unfold eP dP mpP; omega)
  refine ⟨⟨by rw [g _ _ (by decide) (by decide) (by decide) (by decide) (by decide) (by decide) (by decide)]; exact h1, by rw [g _ _ (by decide) (by decide) (by decide) (by decide) (by decide) (by decide) (by decide)]; exact h2, by rw [g _ _ (by decide) (by decide) (by decide) (by decide) (by decide) (by decide) (by decide)]; exact h3, by rw [g _ _ (by decide) (by decide) (by decide) (by decide) (by decide) (by decide) (by decide)]; exact h4, by rw [g _ _ (by decide) (by decide) (by decide) (by decide) (by decide) (by decide) (by decide)]; exact h5, by rw [g _ _ (by decide) (by decide) (by decide) (by decide) (by decide) (by decide) (by decide)]; exact h6, by rw [g _ _ (by decide) (by decide) (by decide) (by decide) (by decide) (by decide) (by decide)]; exact h7⟩, ⟨fun i hi => ?_, fun i hi => ?_, fun i hi => ?_, fun i hi => ?_, fun i hi => ?_⟩, fun a b a0 a1 b0 b1 => ?_⟩
  · rw [g _ _ (by decide) (by decide) (by omega) (by omega) (by omega) (by omega) (by omega)]; exact r1 i hi
  · rw [g _ _ (by decide) (by decide) (by omega) (by omega) (by omega) (by omega) (by omega)]; exact r2 i hi
  · rw [g _ _ (by decide) (by decide) (by omega) (by omega) (by omega) (by omega) (by omega)]; exact r3 i hi
  · rw [g _ _ (by decide) (by decide) (by omega) (by omega) (by omega) (by omega) (by omega)]; exact r4 i hi
  · rw [g _ _ (by decide) (by decide) (by omega) (by omega) (by omega) (by omega) (by omega)]; exact r5 i hi
  · rw [g _ _ (by decide) (by decide) (by omega) (by omega) (by omega) (by omega) (by omega)]; exact hj a b a0 a1 b0 b1
theorem EF.KR {a b : Mm} (h : EF a b) (hK : KR a) : KR b := by
  have f : Fr [74, 75, 76, 77, 78, 79, 80, 81, 82, 83, 84, 85, 86, 87] [(50, 2), (50, 4), (50, 5), (50, 6), (50, 44), (50, 46), (50, 47), (50, 48), (50, 49)] a b := ⟨h.1, h.2.1, fun r i h1 h2 => h.2.2 r i (fun z => by
    rcases z with z | ⟨rfl, rfl⟩
    · rcases z with z | z | z | z | z
      · rcases z with rfl | ⟨rfl, _⟩ | ⟨rfl, z⟩
        · exact h1 (by simp)
        · exact h1 (by simp)
        · exact h2 (by simp; omega)
      · exact h1 (by simp; omega)
      · exact h1 (by simp; omega)
      · exact h1 (by simp; omega)
      · exact h1 (by simp; omega)
    · exact h2 (by simp))⟩
  exact f.KR hK (by decide)
theorem forg_73 {N : Nat} : ∀ (k n i : Nat) {μ : Mm}, i + k = 81 → k < n → KR μ → (∀ j : Int, 0 ≤ j → j < i → m_gt μ 85 j = 0) → ∃ μ', jX8_forgets_73 N n 50 i μ = some μ' ∧ (∀ j : Int, 0 ≤ j → j < 81 → m_gt μ' 85 j = 0) ∧ (m_gt μ' 50 44 = 0 ∧ m_gt μ' 50 48 = 0) ∧ EF μ μ' ∧ Fr [85] [(50, 44), (50, 48)] μ μ'
  | k, 0, i, μ, hi, hn, _, _ => absurd hn (by omega)
  | 0, n + 1, i, μ, hi, hn, hK, hz => by
    refine ⟨m_st (m_st μ 50 44 0) 50 48 0, ?_, fun j h0 h1 => ?_, ⟨by rw [gt_i _ _ _ (by decide), gt_same], gt_same _ _ _ _⟩, (EF.st (by unfold eP dP mpP; omega) _ _).trI (EF.st (by unfold eP; omega) _ _), (Fr.stI (Fr.rf0 _ _ _) (by simp)).stI (by simp)⟩
    · show jX8_forgets_73b (jX8_forgets_73 N n) N 50 i μ = _
      unfold jX8_forgets_73b
      rw [if_pos (by omega), bnd_e, bnd_e]
    · rw [gt_r _ _ _ _ (by decide), gt_r _ _ _ _ (by decide)]
      exact hz j h0 (by omega)
  | k + 1, n + 1, i, μ, hi, hn, hK, hz => by
    have f : Fr [85] [(50, 44), (50, 48)] μ (m_st μ 85 i 0) := Fr.stI (Fr.rf0 _ _ _) (by simp)
    obtain ⟨μ', r1, r2, r3, r4, r5⟩ := forg_73 (N := N) k n (i + 1) (μ := m_st μ 85 i 0) (by omega) (by omega) (f.KR hK (by decide)) (fun j h0 h1 => by
      rw [m_gt_st]
      split
      · rfl
      · rename_i c
        exact hz j h0 (by omega))
    refine ⟨μ', ?_, r2, r3, (EF.st (by unfold eP dP; omega) _ _).trI r4, f.trI r5⟩
    rw [← r1]
    show jX8_forgets_73b (jX8_forgets_73 N n) N 50 i μ = _
    unfold jX8_forgets_73b
    rw [if_neg (by omega), r_50_42 hK, ast_e (k_85 hK) (by omega) (by omega), ob_e, bnd_e, i_add_e (by omega) (by omega)]
    rfl
theorem forg_53 {N : Nat} (hN : 1000000 ≤ N) : ∀ (k n i : Nat) {μ : Mm}, i + k = 4 → k < n → KR μ → (∀ j : Int, 0 ≤ j → j < i → m_gt μ 78 j = 0) → ∃ μ', jX8_forgets_53 N n 50 i μ = some μ' ∧ (∀ j : Int, 0 ≤ j → j < 4 → m_gt μ' 78 j = 0) ∧ (∀ j : Int, 0 ≤ j → j < 81 → m_gt μ' 85 j = 0) ∧ (m_gt μ' 50 44 = 0 ∧ m_gt μ' 50 48 = 0) ∧ EF μ μ' ∧ Fr [78, 85] [(50, 44), (50, 48)] μ μ'
  | k, 0, i, μ, hi, hn, _, _ => absurd hn (by omega)
  | 0, n + 1, i, μ, hi, hn, hK, hz => by
    obtain ⟨μ', r1, r2, r3, r4, r5⟩ := forg_73 (N := N) 81 N 0 (μ := μ) (by omega) (by omega) hK (fun j h0 h1 => absurd h1 (by omega))
    refine ⟨μ', ?_, fun j h0 h1 => ?_, r2, r3, r4, r5.mono (by simp) (by simp)⟩
    · rw [← r1]
      show jX8_forgets_53b (jX8_forgets_53 N n) N 50 i μ = _
      unfold jX8_forgets_53b
      rw [if_pos (by omega)]
      rfl
    · rw [r5.2.2 78 j (by decide) (by simp)]
      exact hz j h0 (by omega)
  | k + 1, n + 1, i, μ, hi, hn, hK, hz => by
    have f : Fr [78, 85] [(50, 44), (50, 48)] μ (m_st μ 78 i 0) := Fr.stI (Fr.rf0 _ _ _) (by simp)
    obtain ⟨μ', r1, r2, r2', r3, r4, r5⟩ := forg_53 (N := N) hN k n (i + 1) (μ := m_st μ 78 i 0) (by omega) (by omega) (f.KR hK (by decide)) (fun j h0 h1 => by
      rw [m_gt_st]
      split
      · rfl
      · rename_i c
        exact hz j h0 (by omega))
    refine ⟨μ', ?_, r2, r2', r3, (EF.st (by unfold eP dP; omega) _ _).trI r4, f.trI r5⟩
    rw [← r1]
    show jX8_forgets_53b (jX8_forgets_53 N n) N 50 i μ = _
    unfold jX8_forgets_53b
    rw [if_neg (by omega), r_50_35 hK, ast_e (k_78 hK) (by omega) (by omega), ob_e, bnd_e, i_add_e (by omega) (by omega)]
    rfl
def fgI : List Int := [74, 75, 76, 77, 79, 83, 84, 78, 85]
theorem forgets_M {N : Nat} (hN : 1000000 ≤ N) {μ : Mm} (hK : KR μ) : ∃ μ', jX8_forgets N 50 μ = some μ' ∧ DM G0 μ' ∧ (m_gt μ' 50 44 = 0 ∧ m_gt μ' 50 48 = 0) ∧ EF μ μ' ∧ Fr fgI [(50, 44), (50, 48)] μ μ' := by
  obtain ⟨μ7, h7⟩ : ∃ μ7, μ7 = m_st (m_st (m_st (m_st (m_st (m_st (m_st μ 74 0 9) 75 0 6) 76 0 2) 77 0 0) 79 0 0) 83 0 0) 84 0 0 := ⟨_, rfl⟩
  have k1 : KR (m_st μ 74 0 9) := hK.sa _ _ (by decide)
  have k2 : KR (m_st (m_st μ 74 0 9) 75 0 6) := k1.sa _ _ (by decide)
  have k3 : KR (m_st (m_st (m_st μ 74 0 9) 75 0 6) 76 0 2) := k2.sa _ _ (by decide)
  have k4 : KR (m_st (m_st (m_st (m_st μ 74 0 9) 75 0 6) 76 0 2) 77 0 0) := k3.sa _ _ (by decide)
  have k5 : KR (m_st (m_st (m_st (m_st (m_st μ 74 0 9) 75 0 6) 76 0 2) 77 0 0) 79 0 0) := k4.sa _ _ (by decide)
  have k6 : KR (m_st (m_st (m_st (m_st (m_st (m_st μ 74 0 9) 75 0 6) 76 0 2) 77 0 0) 79 0 0) 83 0 0) := k5.sa _ _ (by decide)
  have k7 : KR μ7 := by rw [h7]; exact k6.sa _ _ (by decide)
  have d : ∀ r : Int, (r = 74 ∨ r = 75 ∨ r = 76 ∨ r = 77 ∨ r = 79 ∨ r = 83 ∨ r = 84) → eP r 0 := fun r hr => by unfold eP dP; omega
  have E7 : EF μ μ7 := by rw [h7]; exact ((((((EF.st (d 74 (by omega)) _ _).trI (EF.st (d 75 (by omega)) _ _)).trI (EF.st (d 76 (by omega)) _ _)).trI (EF.st (d 77 (by omega)) _ _)).trI (EF.st (d 79 (by omega)) _ _)).trI (EF.st (d 83 (by omega)) _ _)).trI (EF.st (d 84 (by omega)) _ _)
  have F7 : Fr fgI [(50, 44), (50, 48)] μ μ7 := by rw [h7]; exact ((((((Fr.stI (Fr.rf0 _ _ _) (by simp [fgI])).stI (by simp [fgI])).stI (by simp [fgI])).stI (by simp [fgI])).stI (by simp [fgI])).stI (by simp [fgI])).stI (by simp [fgI])
  obtain ⟨μ', r1, r2, r2', r3, r4, r5⟩ := forg_53 (N := N) hN 4 N 0 (μ := μ7) (by omega) (by omega) k7 (fun j h0 h1 => absurd h1 (by omega))
  have o : ∀ r i : Int, r ≠ 78 → r ≠ 85 → r ≠ 50 → m_gt μ' r i = m_gt μ7 r i := fun r i n1 n2 n3 => r5.2.2 r i (by simp; omega) (by simp; omega)
  refine ⟨μ', ?_, ⟨⟨?_, ?_, ?_, ?_, ?_, ?_, ?_⟩, ⟨fun i hi => ?_, Row.nil _ _ _, Row.nil _ _ _, Row.nil _ _ _⟩, fun a b a0 a1 b0 b1 => ?_⟩, r3, E7.trI r4, F7.trI (r5.mono (by simp [fgI]) (by simp))⟩
  · unfold jX8_forgets
    rw [r_50_31 hK, ast_e (k_74 hK) (by decide) (by decide), ob_e, r_50_32 k1, ast_e (k_75 k1) (by decide) (by decide), ob_e, r_50_33 k2, ast_e (k_76 k2) (by decide) (by decide), ob_e, r_50_34 k3, ast_e (k_77 k3) (by decide) (by decide), ob_e, r_50_36 k4, ast_e (k_79 k4) (by decide) (by decide), ob_e, r_50_40 k5, ast_e (k_83 k5) (by decide) (by decide), ob_e, r_50_41 k6, ast_e (k_84 k6) (by decide) (by decide), ob_e, ← h7]
    exact r1
  · rw [o _ _ (by decide) (by decide) (by decide), h7]; simp [m_gt_st]; rfl
  · rw [o _ _ (by decide) (by decide) (by decide), h7]; simp [m_gt_st]; rfl
  · rw [o _ _ (by decide) (by decide) (by decide), h7]; simp [m_gt_st]; rfl
  · rw [o _ _ (by decide) (by decide) (by decide), h7]; simp [m_gt_st]; rfl
  · rw [o _ _ (by decide) (by decide) (by decide), h7]; simp [m_gt_st]; rfl
  · rw [o _ _ (by decide) (by decide) (by decide), h7]; simp [m_gt_st]; rfl
  · rw [o _ _ (by decide) (by decide) (by decide), h7]; simp [m_gt_st]; rfl
  · have hi : i < 4 := hi
    rw [r2 _ (by omega) (by omega)]
    match i, hi with
    | 0, _ => rfl
    | 1, _ => rfl
    | 2, _ => rfl
    | 3, _ => rfl
  · rw [r2' _ (by omega) (by omega)]
    rfl
/-! what stands -/
theorem sta_201 {N L : Nat} (hL : L ≤ 700) {A : Int → Int} : ∀ (k n i : Nat) {μ : Mm}, i + k = L → k < n → KR μ → m_gt μ 50 44 = L → (∀ j : Int, 0 ≤ j → j < i → m_gt μ 86 (700 + j) = A j) → (∀ j : Int, 0 ≤ j → j < L → m_gt μ 86 j = A j) → ∃ μ', jX8_stands_201 N n 50 i μ = some μ' ∧ (∀ j : Int, 0 ≤ j → j < L → m_gt μ' 86 (700 + j) = A j) ∧ Fr [86] [] μ μ'
  | k, 0, i, μ, hi, hn, _, _, _, _ => absurd hn (by omega)
  | 0, n + 1, i, μ, hi, hn, hK, h44, hz, hA => by
    refine ⟨μ, ?_, fun j h0 h1 => hz j h0 (by omega), Fr.rf0 _ _ _⟩
    show jX8_stands_201b (jX8_stands_201 N n) N 50 i μ = _
    unfold jX8_stands_201b
    rw [h44, if_pos (by omega)]
  | k + 1, n + 1, i, μ, hi, hn, hK, h44, hz, hA => by
    have f : Fr [86] [] μ (m_st μ 86 (700 + i) (m_gt μ 86 i)) := Fr.stI (Fr.rf0 _ _ _) (by simp)
    obtain ⟨μ', r1, r2, r3⟩ := sta_201 (N := N) hL (A := A) k n (i + 1) (μ := m_st μ 86 (700 + i) (m_gt μ 86 i)) (by omega) (by omega) (f.KR hK (by decide)) (by rw [gt_r _ _ _ _ (by decide)]; exact h44) (fun j h0 h1 => by
      rw [m_gt_st]
      split
      · rename_i c
        rw [hA i (by omega) (by omega), show j = i by omega]
      · rename_i c
        exact hz j h0 (by omega)) (fun j h0 h1 => by rw [gt_i _ _ _ (by omega)]; exact hA j h0 h1)
    refine ⟨μ', ?_, r2, f.trI r3⟩
    rw [← r1]
    show jX8_stands_201b (jX8_stands_201 N n) N 50 i μ = _
    unfold jX8_stands_201b
    rw [h44, if_neg (by omega), r_50_43 hK, ald_e (k_86 hK) (by omega) (by omega), ob_e, i_add_e (by omega) (by omega), ast_e (k_86 hK) (by omega) (by omega), ob_e, bnd_e, i_add_e (by omega) (by omega)]
    rfl
theorem sta_142 {N L : Nat} (hN : 1000000 ≤ N) (hL : L ≤ 700) {A B C D : Int → Int} : ∀ (k n i : Nat) {μ : Mm}, i + k = 30 → k < n → KR μ → m_gt μ 50 44 = L → (∀ j : Int, 0 ≤ j → j < L → m_gt μ 86 j = D j) → (∀ j : Int, 0 ≤ j → j < i → m_gt μ 80 (30 + j) = A j ∧ m_gt μ 81 (30 + j) = B j ∧ m_gt μ 82 (30 + j) = C j) → (∀ j : Int, 0 ≤ j → j < 30 → m_gt μ 80 j = A j ∧ m_gt μ 81 j = B j ∧ m_gt μ 82 j = C j) → ∃ μ', jX8_stands_142 N n 50 i μ = some μ' ∧ (∀ j : Int, 0 ≤ j → j < 30 → m_gt μ' 80 (30 + j) = A j ∧ m_gt μ' 81 (30 + j) = B j ∧ m_gt μ' 82 (30 + j) = C j) ∧ (∀ j : Int, 0 ≤ j → j < L → m_gt μ' 86 (700 + j) = D j) ∧ Fr [80, 81, 82, 86] [] μ μ'
  | k, 0, i, μ, hi, hn, _, _, _, _, _ => absurd hn (by omega)
  | 0, n + 1, i, μ, hi, hn, hK, h44, hD, hz, hA => by
    obtain ⟨μ', r1, r2, r3⟩ := sta_201 (N := N) hL (A := D) L N 0 (μ := μ) (by omega) (by omega) hK h44 (fun j h0 h1 => absurd h1 (by omega)) hD
    refine ⟨μ', ?_, fun j h0 h1 => ?_, r2, r3.mono (by simp) (by simp)⟩
    · rw [← r1]
      show jX8_stands_142b (jX8_stands_142 N n) N 50 i μ = _
      unfold jX8_stands_142b
      rw [if_pos (by omega)]
      rfl
    · rw [r3.2.2 80 _ (by decide) (by simp), r3.2.2 81 _ (by decide) (by simp), r3.2.2 82 _ (by decide) (by simp)]
      exact hz j h0 (by omega)
  | k + 1, n + 1, i, μ, hi, hn, hK, h44, hD, hz, hA => by
    obtain ⟨μ3, h3⟩ : ∃ μ3, μ3 = m_st (m_st (m_st μ 80 (30 + i) (m_gt μ 80 i)) 81 (30 + i) (m_gt μ 81 i)) 82 (30 + i) (m_gt μ 82 i) := ⟨_, rfl⟩
    have K1 : KR (m_st μ 80 (30 + i) (m_gt μ 80 i)) := hK.sa _ _ (by decide)
    have K2 : KR (m_st (m_st μ 80 (30 + i) (m_gt μ 80 i)) 81 (30 + i) (m_gt μ 81 i)) := K1.sa _ _ (by decide)
    have K3 : KR μ3 := by rw [h3]; exact K2.sa _ _ (by decide)
    have f : Fr [80, 81, 82, 86] [] μ μ3 := by rw [h3]; exact ((Fr.stI (Fr.rf0 _ _ _) (by simp)).stI (by simp)).stI (by simp)
    have g : ∀ j : Int, m_gt μ3 80 j = (if j = 30 + i then m_gt μ 80 i else m_gt μ 80 j) ∧ m_gt μ3 81 j = (if j = 30 + i then m_gt μ 81 i else m_gt μ 81 j) ∧ m_gt μ3 82 j = (if j = 30 + i then m_gt μ 82 i else m_gt μ 82 j) := fun j => by
      rw [h3]
      refine ⟨?_, ?_, ?_⟩ <;> simp [m_gt_st]
    obtain ⟨μ', r1, r2, r2', r3⟩ := sta_142 (N := N) hN hL (A := A) (B := B) (C := C) (D := D) k n (i + 1) (μ := μ3) (by omega) (by omega) K3 (by rw [f.2.2 50 44 (by decide) (by simp)]; exact h44) (fun j h0 h1 => by rw [h3, gt_r _ _ _ _ (by decide), gt_r _ _ _ _ (by decide), gt_r _ _ _ _ (by decide)]; exact hD j h0 h1) (fun j h0 h1 => by
      rw [(g _).1, (g _).2.1, (g _).2.2]
      by_cases c : j = i
      · rw [if_pos (by omega), if_pos (by omega), if_pos (by omega), c]
        exact hA i (by omega) (by omega)
      · rw [if_neg (by omega), if_neg (by omega), if_neg (by omega)]
        exact hz j h0 (by omega)) (fun j h0 h1 => by
      rw [(g _).1, (g _).2.1, (g _).2.2, if_neg (by omega), if_neg (by omega), if_neg (by omega)]
      exact hA j h0 h1)
    refine ⟨μ', ?_, r2, r2', f.trI r3⟩
    rw [← r1]
    show jX8_stands_142b (jX8_stands_142 N n) N 50 i μ = _
    unfold jX8_stands_142b
    rw [if_neg (by omega), r_50_37 hK, ald_e (k_80 hK) (by omega) (by omega), ob_e, i_add_e (by omega) (by omega), ast_e (k_80 hK) (by omega) (by omega), ob_e, r_50_38 K1, ald_e (k_81 K1) (by omega) (by omega), ob_e, gt_r _ _ _ _ (show (81 : Int) ≠ 80 by decide), ast_e (k_81 K1) (by omega) (by omega), ob_e, r_50_39 K2, ald_e (k_82 K2) (by omega) (by omega), ob_e, gt_r _ _ _ _ (show (82 : Int) ≠ 81 by decide), gt_r _ _ _ _ (show (82 : Int) ≠ 80 by decide), ast_e (k_82 K2) (by omega) (by omega), ob_e, bnd_e, i_add_e (by omega) (by omega), ← h3]
    rfl
