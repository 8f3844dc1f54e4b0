/-! ===== PURE: the law's loop ===== -/
theorem l_cmp_s (x : Int) : l_cmp x x = 0 := by
  unfold l_cmp
  simp
theorem x_get {E : m_E} {i : Int} (h0 : 0 ≤ i) (h1 : i < x_len E) : ∃ v, x_ald E i = some v ∧ okI v := by
  exact ⟨(x_at E i.toNat).toInt, by unfold x_ald; rw [if_pos ⟨h0, h1⟩], okI_t _⟩
theorem Both.sz {S : St} {μ : Mm} (h : Both S μ) : m_sz μ ≤ 600000 ∧ m_sl μ ≤ 7302250 := by
  obtain ⟨sh, sh', l, l', hw, hd, hX, _⟩ := h.2.1
  rcases hX.2.1.2.2.2 with z | z
  · have := z.1; omega
  · have := z.1; omega
set_option maxHeartbeats 4000000 in
theorem law_loop {E : m_E} {N : Nat} (hN : 1000000 ≤ N) (hE : x_len E ≤ 3072) : ∀ (k n i : Nat) (S : St) {μ : Mm}, x_len E ≤ i + k → k < n → Both S μ → ∃ μ', jL_law_18 E N n 0 50 i μ = some (1, μ') ∧ m_sz μ' ≤ 600000 ∧ m_sl μ' ≤ 7302250
  | k, 0, i, S, μ, hk, hn, _ => absurd hn (by omega)
  | k, n + 1, i, S, μ, hk, hn, hB => by
    have hO := hB.1
    have hK := hB.2.2.kr
    have hG := hB.2.2.1.1.1
    have hV := hB.2.2.1.1.2
    show ∃ μ', jL_law_18b E (jL_law_18 E N n) N 0 50 i μ = some (1, μ') ∧ _
    have hl0 : 0 ≤ x_len E := by unfold x_len; omega
    unfold jL_law_18b
    by_cases hend : x_len E - 6 < i
    · rw [i_sub_e (by omega) (by omega), if_pos hend]
      exact ⟨μ, rfl, hB.sz⟩
    · rw [i_sub_e (by omega) (by omega), if_neg hend]
      obtain ⟨x0, hx0, o0⟩ := x_get (E := E) (i := (i : Int)) (by omega) (by omega)
      obtain ⟨a1, hy1, o1⟩ := x_get (E := E) (i := (i : Int) + 1) (by omega) (by omega)
      obtain ⟨a2, hy2, o2⟩ := x_get (E := E) (i := (i : Int) + 2) (by omega) (by omega)
      obtain ⟨a3, hy3, o3⟩ := x_get (E := E) (i := (i : Int) + 3) (by omega) (by omega)
      obtain ⟨a4, hy4, o4⟩ := x_get (E := E) (i := (i : Int) + 4) (by omega) (by omega)
      obtain ⟨a5, hy5, o5⟩ := x_get (E := E) (i := (i : Int) + 5) (by omega) (by omega)
      have hx1 : x_ald E (i_add (i : Int) 1) = some a1 := by rw [i_add_e (by omega) (by omega)]; exact hy1
      have hx2 : x_ald E (i_add (i : Int) 2) = some a2 := by rw [i_add_e (by omega) (by omega)]; exact hy2
      have hx3 : x_ald E (i_add (i : Int) 3) = some a3 := by rw [i_add_e (by omega) (by omega)]; exact hy3
      have hx4 : x_ald E (i_add (i : Int) 4) = some a4 := by rw [i_add_e (by omega) (by omega)]; exact hy4
      have hx5 : x_ald E (i_add (i : Int) 5) = some a5 := by rw [i_add_e (by omega) (by omega)]; exact hy5
      have nxt : ∀ {S' : St} {μ2 : Mm}, Both S' μ2 → ∃ μ', jL_law_1036 E (jL_law_18 E N n) N 0 50 i μ2 = some (1, μ') ∧ m_sz μ' ≤ 600000 ∧ m_sl μ' ≤ 7302250 := by
        intro S' μ2 hB2
        unfold jL_law_1036
        rw [bnd_e, i_add_e (by omega) (by omega), show (i : Int) + 6 = ((i + 6 : Nat) : Int) by omega]
        exact law_loop hN hE (k - 6) n (i + 6) S' (by omega) (by omega) hB2
      have fin : ∀ {fX fM : Mm → Option (Int × Mm)}, Step fX fM S → ∃ μ', (m_chk 7 μ 0 (b2 (fX μ) fun x μ1 => m_chk 8 μ1 50 (b2 (fM μ1) fun y μ2 => if x = y then jL_law_1036 E (jL_law_18 E N n) N 0 50 i μ2 else some (0, μ2)))) = some (1, μ') ∧ m_sz μ' ≤ 600000 ∧ m_sl μ' ≤ 7302250 := by
        intro fX fM st
        obtain ⟨a, μ1, μ2, S', e1, K1, e2, B⟩ := st.go hB
        rw [chk_e (k_0 hK), e1, b2_e, chk_e (k_50 K1), e2, b2_e, if_pos rfl]
        exact nxt B
      have fil : ∀ {fX fM : Mm → Option (Int × Mm)}, Step fX fM S → ∃ μ', (m_chk 7 μ 0 (b2 (fX μ) fun x μ1 => m_chk 8 μ1 50 (b2 (fM μ1) fun y μ2 => if l_cmp x y = 0 then jL_law_1036 E (jL_law_18 E N n) N 0 50 i μ2 else some (0, μ2)))) = some (1, μ') ∧ m_sz μ' ≤ 600000 ∧ m_sl μ' ≤ 7302250 := by
        intro fX fM st
        obtain ⟨a, μ1, μ2, S', e1, K1, e2, B⟩ := st.go hB
        rw [chk_e (k_0 hK), e1, b2_e, chk_e (k_50 K1), e2, b2_e, if_pos (l_cmp_s a)]
        exact nxt B
      rw [hx0, ob_e, bnd_e]
      simp only [hx1, hx2, hx3, hx4, hx5, ob_e]
      generalize i_and x0 31 = c
      by_cases c0 : c = 0
      · rw [if_pos c0]; exact fin (c_feed hN hO a1 a2 a3 a4 a5)
      rw [if_neg c0]
      by_cases c0 : c = 1
      · rw [if_pos c0]; exact fin (c_end hO a1)
      rw [if_neg c0]
      by_cases c0 : c = 2
      · rw [if_pos c0]; exact fin (c_game hN hO)
      rw [if_neg c0]
      by_cases c0 : c = 3
      · rw [if_pos c0]; exact fin (c_fault hO a1)
      rw [if_neg c0]
      by_cases c0 : c = 4
      · rw [if_pos c0]; exact fin (c_has hN hO a1)
      rw [if_neg c0]
      by_cases c0 : c = 5
      · rw [if_pos c0]; exact fin (c_roll hN hO hV o1)
      rw [if_neg c0]
      by_cases c0 : c = 6
      · rw [if_pos c0]; exact fin (c_back hN hO hG hV)
      rw [if_neg c0]
      by_cases c0 : c = 7
      · rw [if_pos c0]; exact fin (c_clear hN hO)
      rw [if_neg c0]
      by_cases c0 : c = 8
      · rw [if_pos c0]; exact fin (c_sheet hN hO a1)
      rw [if_neg c0]
      by_cases c0 : c = 9
      · rw [if_pos c0]; exact fin (c_rolled hO o1)
      rw [if_neg c0]
      by_cases c0 : c = 10
      · rw [if_pos c0]; exact fin (c_frame hN hO o1 a2)
      rw [if_neg c0]
      by_cases c0 : c = 11
      · rw [if_pos c0]; exact fin (c_points hN hO o1)
      rw [if_neg c0]
      by_cases c0 : c = 12
      · rw [if_pos c0]; exact fin (c_total hN hO)
      rw [if_neg c0]
      by_cases c0 : c = 13
      · rw [if_pos c0]
        unfold jL_law_491 jL_law_508
        simp only [hx1, ob_e]
        by_cases z : a1 = 0
        · simp only [if_pos z]
          exact fin (show Step (jX7_come N 0 0) (jX8_come N 50 0) S from c_come hN hO false)
        · simp only [if_neg z]
          exact fin (show Step (jX7_come N 0 1) (jX8_come N 50 1) S from c_come hN hO true)
      rw [if_neg c0]
      by_cases c0 : c = 14
      · rw [if_pos c0]
        unfold jL_law_535 jL_law_557
        simp only [hx1, hx2, ob_e]
        by_cases z : a2 = 0
        · simp only [if_pos z]
          exact fil (show Step (jX7_ways N 0 a1 0) (jX8_ways N 50 a1 0) S from c_ways hN hO o1 false)
        · simp only [if_neg z]
          exact fil (show Step (jX7_ways N 0 a1 1) (jX8_ways N 50 a1 1) S from c_ways hN hO o1 true)
      rw [if_neg c0]
      by_cases c0 : c = 15
      · rw [if_pos c0]
        unfold jL_law_585 jL_law_607
        simp only [hx1, hx2, ob_e]
        by_cases z : a2 = 0
        · simp only [if_pos z]
          exact fin (show Step (jX7_needs N 0 a1 0) (jX8_needs N 50 a1 0) S from c_needs hN hO o1 false)
        · simp only [if_neg z]
          exact fin (show Step (jX7_needs N 0 a1 1) (jX8_needs N 50 a1 1) S from c_needs hN hO o1 true)
      rw [if_neg c0]
      by_cases c0 : c = 16
      · rw [if_pos c0]
        unfold jL_law_634 jL_law_656
        simp only [hx1, hx2, ob_e]
        by_cases z : a2 = 0
        · simp only [if_pos z]
          exact fin (show Step (jX7_tear N 0 a1 0) (jX8_tear N 50 a1 0) S from c_tear hN hO o1 false)
        · simp only [if_neg z]
          exact fin (show Step (jX7_tear N 0 a1 1) (jX8_tear N 50 a1 1) S from c_tear hN hO o1 true)
      rw [if_neg c0]
      by_cases c0 : c = 17
      · rw [if_pos c0]
        unfold jL_law_683 jL_law_705
        simp only [hx1, hx2, ob_e]
        by_cases z : a2 = 0
        · simp only [if_pos z]
          exact fil (show Step (jX7_fits N 0 a1 0) (jX8_fits N 50 a1 0) S from c_fits hN hO a1 false)
        · simp only [if_neg z]
          exact fil (show Step (jX7_fits N 0 a1 1) (jX8_fits N 50 a1 1) S from c_fits hN hO a1 true)
      rw [if_neg c0]
      by_cases c0 : c = 18
      · rw [if_pos c0]
        unfold jL_law_738 jL_law_765
        simp only [hx1, hx2, hx3, ob_e]
        by_cases z : a3 = 0
        · simp only [if_pos z]
          exact fin (show Step (jX7_must N 0 a1 a2 0) (jX8_must N 50 a1 a2 0) S from c_must hN hO o1 o2 false)
        · simp only [if_neg z]
          exact fin (show Step (jX7_must N 0 a1 a2 1) (jX8_must N 50 a1 a2 1) S from c_must hN hO o1 o2 true)
      rw [if_neg c0]
      by_cases c0 : c = 19
      · rw [if_pos c0]; exact fin (c_falls hN hO o1 o2)
      rw [if_neg c0]
      by_cases c0 : c = 20
      · rw [if_pos c0]; exact fin (c_split hN hO o1)
      rw [if_neg c0]
      by_cases c0 : c = 21
      · rw [if_pos c0]; exact fin (c_fewest hN hO o1)
      rw [if_neg c0]
      by_cases c0 : c = 22
      · rw [if_pos c0]; exact fin (c_leaves hN hO o1)
      rw [if_neg c0]
      by_cases c0 : c = 23
      · rw [if_pos c0]; exact fin (c_keep hN hO hG hV o1)
      rw [if_neg c0]
      by_cases c0 : c = 24
      · rw [if_pos c0]; exact fin (c_player hN hO o1 a2)
      rw [if_neg c0]
      by_cases c0 : c = 25
      · rw [if_pos c0]; exact fin (c_meet hN hO o1 o2)
      rw [if_neg c0]
      by_cases c0 : c = 26
      · rw [if_pos c0]; exact fin (c_place hN hO o1)
      rw [if_neg c0]
      by_cases c0 : c = 27
      · rw [if_pos c0]; exact fin (c_image hN hO hG hV)
      rw [if_neg c0]
      by_cases c0 : c = 28
      · rw [if_pos c0]; exact fin (c_octet hO a1)
      rw [if_neg c0]
      by_cases c0 : c = 29
      · rw [if_pos c0]; exact fin (c_on hN hO)
      rw [if_neg c0]
      exact nxt hB
