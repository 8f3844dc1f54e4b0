/-! ===== PURE: the reference closes brackets and pairs ===== -/
theorem set47 {T : List Int} {q : Nat} {C W : List Int} {d d' : Nat} {b : Int} {μ : Mm} (h : MS T q C W d b μ) : MS T q C W d' b (m_st μ 50 47 d') ∧ Fr [87] [(50, 44), (50, 46), (50, 47), (50, 49)] μ (m_st μ 50 47 d') := by
  have f1 : Fr [87] [(50, 44), (50, 46), (50, 47), (50, 49)] μ (m_st μ 50 47 d') := Fr.stI (Fr.rf0 _ _ _) (by simp)
  refine ⟨⟨mp_KR (mp_up f1) h.1, mp_PP h.2.1 f1, ⟨⟨?_, ?_⟩, ⟨?_, ?_⟩, gt_same _ _ _ _, ?_⟩, h.2.2.2.lx (mp_up f1)⟩, f1⟩
  · rw [gt_i _ _ _ (by decide)]; exact h.2.2.1.1.1
  · exact h.2.2.1.1.2.ext (fun i => gt_r _ _ _ _ (by decide))
  · rw [gt_i _ _ _ (by decide)]; exact h.2.2.1.2.1.1
  · exact h.2.2.1.2.1.2.ext (fun i => gt_r _ _ _ _ (by decide))
  · rw [gt_i _ _ _ (by decide)]; exact h.2.2.1.2.2.2
/-- closes what is open last -/
theorem on_43 {N : Nat} (hN : 1000000 ≤ N) {T : List Int} (hT : TB T) {q q3 : Nat} (hI : IN T q) (hs : sg T 41 q = some q3) {C W0 pd : List Int} {d : Nat} {b mk : Int} (hmk : mk = 20 ∨ mk = 23 ∨ mk = 24) (hb : b ≤ W0.length) (hx : ∀ x ∈ pd, tM x < 20) (hC : C.length + pd.length < 700) (hW : W0.length + pd.length < 780) (hd : d < 6) {k0 : Int → Mm → Option (Int × Mm)} {μ : Mm} (hQ : PQ T q μ) (h : MS T q C (W0 ++ [mk] ++ pd.map tM) (d + 1) b μ) : ∃ μ', jX8_goesOn_43 k0 N 50 μ = k0 50 μ' ∧ MS T q3 (C ++ pd.reverse ++ (if mk = 20 then [] else if mk = 23 then [-15] else [-16])) W0 d b μ' ∧ RF μ μ' := by
  have i1 := sg_IN c41.2 hs
  have hl := hT.1
  have f1 : Fr [] [(50, 2)] μ (m_st μ 50 2 (q + 1 : Nat)) := Fr.stI (Fr.rf0 _ _ _) (by simp)
  have h1 : MS T q3 C (W0 ++ [mk] ++ pd.map tM) (d + 1) b (m_st μ 50 2 (q + 1 : Nat)) := h.l2 (hQ.step c41 hs h.1 hT) f1
  obtain ⟨μ2, a1, a2, a3, a4⟩ := dtm_M (N := N) hN (by omega) hb hx (by omega) hW h1
  obtain ⟨t1, t2⟩ := top_K a2
  obtain ⟨p1, p2⟩ := pop_K a2
  obtain ⟨s1, s2⟩ := set47 (d' := d) p1
  have F : RF μ (m_st (m_st μ2 50 46 W0.length) 50 47 d) := (lx2 f1).trI (a4.trI ((mp_up p2).trI (mp_up s2)))
  have e46 : m_gt (m_st (m_st μ2 50 46 W0.length) 50 47 d) 50 46 = W0.length := s1.2.2.1.2.1.1
  have e47 : m_gt (m_st μ2 50 46 W0.length) 50 47 = (d : Int) + 1 := by rw [p1.2.2.1.2.2.1]; omega
  have e87 : m_gt (m_st (m_st μ2 50 46 W0.length) 50 47 d) 87 W0.length = mk := by rw [gt_r _ _ _ _ (by decide), gt_r _ _ _ _ (by decide)]; exact t1
  have red : jX8_goesOn_43 k0 N 50 μ = if mk = 20 then k0 50 (m_st (m_st μ2 50 46 W0.length) 50 47 d) else if ¬ mk = 23 then jX8_goesOn_112 k0 N 50 6 50 (m_st (m_st μ2 50 46 W0.length) 50 47 d) else jX8_goesOn_112 k0 N 50 5 50 (m_st (m_st μ2 50 46 W0.length) 50 47 d) := by
    unfold jX8_goesOn_43
    rw [bnd_e, hQ.at, i_add_e (by omega) (by omega), show (q : Int) + 1 = ((q + 1 : Nat) : Int) by omega, a1, ob_e, bnd_e, t2, i_sub_e (by omega) (by omega), show (W0.length : Int) + 1 - 1 = W0.length by omega, bnd_e, e47, i_sub_e (by omega) (by omega), show (d : Int) + 1 - 1 = d by omega, r_50_45 s1.1, e46, ald_e (k_87 s1.1) (by omega) (by omega), ob_e, ob_e, e87]
  rw [red]
  rcases hmk with rfl | rfl | rfl
  · rw [if_pos rfl, if_pos rfl, List.append_nil]
    exact ⟨_, rfl, s1, F⟩
  · rw [if_neg (by decide), if_neg (by decide), if_neg (by decide), if_pos rfl]
    obtain ⟨μ3, g1, g2, _, g4⟩ := code_M (N := N) (t := -15) (v := 5) (by simp; omega) (by decide) s1
    refine ⟨μ3, ?_, g2, F.trI g4⟩
    unfold jX8_goesOn_112
    rw [chk_e (k_50 s1.1), g1, ob_e]
  · rw [if_neg (by decide), if_pos (by decide), if_neg (by decide), if_neg (by decide)]
    obtain ⟨μ3, g1, g2, _, g4⟩ := code_M (N := N) (t := -16) (v := 6) (by simp; omega) (by decide) s1
    refine ⟨μ3, ?_, g2, F.trI g4⟩
    unfold jX8_goesOn_112
    rw [chk_e (k_50 s1.1), g1, ob_e]
theorem GH_close {N : Nat} (hN : 1000000 ≤ N) {T : List Int} (hT : TB T) {was : Int} {q q3 : Nat} (hI : IN T q) (hs : sg T 41 q = some q3) {C W0 pd : List Int} {d m n : Nat} {b mk : Int} (hmk : mk = 20 ∨ mk = 23 ∨ mk = 24) (hb : b ≤ W0.length) (hx : ∀ x ∈ pd, tM x < 20) (hC : C.length + pd.length < 700) (hW : W0.length + pd.length < 780) (hd : d < 6) {μ : Mm} (h : MS T q C (W0 ++ [mk] ++ pd.map tM) (d + 1) b μ) : ∃ μ', GH N was (m + 1) n μ = GH N was m n μ' ∧ MS T q3 (C ++ pd.reverse ++ (if mk = 20 then [] else if mk = 23 then [-15] else [-16])) W0 d b μ' ∧ RF μ μ' := by
  have hxm : ∀ y ∈ pd.map tM, y < 20 := fun y hy => by
    obtain ⟨x, hxp, rfl⟩ := List.mem_map.mp hy
    exact hx x hxp
  have i1 := sg_IN c41.2 hs
  obtain ⟨μ1, a1, a2, a3, a4⟩ := look_M (N := N) hN hT h.1 h.2.1
  have h1 := h.pq hI a2 a4
  have hlk : lk T q = 41 := (lk_sg (by decide)).mpr ⟨i1.2.2.1, i1.2.2.2.1⟩
  have hmark := mark_M (N := N) hN hxm (by omega) hb (by simpa using hW) h1
  obtain ⟨μ2, b1, b2', b3⟩ := on_43 (N := N) hN hT hI hs hmk hb hx hC hW hd (k0 := jX8_goesOn_0 N m) a2 h1
  refine ⟨μ2, ?_, b2', (lx2 a4).trI b3⟩
  have e : jX8_goesOn_0 N (m + 1) 50 μ = jX8_goesOn_0 N m 50 μ2 := by
    show jX8_goesOn_0b (jX8_goesOn_0 N m) N 50 μ = _
    unfold jX8_goesOn_0b
    rw [if_neg (not_not_intro h.2.1.b0), a1, b2_e, if_neg (not_not_intro hlk), hmark, b2_e]
    rcases hmk with rfl | rfl | rfl
    · rw [if_pos rfl, b1]
    · rw [if_neg (by decide), hmark, b2_e, if_pos rfl, b1]
    · rw [if_neg (by decide), hmark, b2_e, if_neg (by decide), hmark, b2_e, if_neg (by decide), b1]
  unfold GH
  rw [e]
/-- behind a pair's first -/
theorem GH_comma {N : Nat} (hN : 1000000 ≤ N) {T : List Int} (hT : TB T) {was : Int} {q : Nat} (hI : IN T q) (hn : nop T q) {C W0 pd : List Int} {d m n : Nat} {b mk : Int} (hmk : mk = 21 ∨ mk = 22) (hb : b ≤ W0.length) (hx : ∀ x ∈ pd, tM x < 20) (hC : C.length + pd.length < 700) (hW : W0.length + pd.length < 780) (hm : 1 ≤ m) (hn1 : 2 ≤ n) {μ : Mm} (h : MS T q C (W0 ++ [mk] ++ pd.map tM) d b μ) : (∀ q3, sg T 44 q = some q3 → ∃ μ', GH N was m n μ = PH N was N (n - 1) 1 μ' ∧ MS T q3 (C ++ pd.reverse) (W0 ++ [mk + 2]) d b μ' ∧ RF μ μ') ∧ (sg T 44 q = none → ∃ μ', GH N was m n μ = some (m_st μ' 50 49 was) ∧ FB (1, q) μ' ∧ RF μ μ') := by
  obtain ⟨m', rfl⟩ : ∃ m', m = m' + 1 := ⟨m - 1, by omega⟩
  have hl := hT.1
  have hxm : ∀ y ∈ pd.map tM, y < 20 := fun y hy => by
    obtain ⟨x, hxp, rfl⟩ := List.mem_map.mp hy
    exact hx x hxp
  have hWp : W0.length + (pd.map tM).length < 780 := by simpa using hW
  obtain ⟨μ1, a1, a2, a3, a4⟩ := look_M (N := N) hN hT h.1 h.2.1
  have h1 := h.pq hI a2 a4
  have mark1 := mark_M (N := N) hN hxm (by omega) hb hWp h1
  obtain ⟨μ2, b1, b2', b3, b4⟩ := on_118 (N := N) hN hT hI hn h1
  have mark2 := mark_M (N := N) hN hxm (by omega) hb hWp b2'
  have e118 : jX8_goesOn_118 N 50 μ1 = jX8_goesOn_322 N 50 μ2 := by
    rw [b1, mark2, b2_e]
    rcases hmk with rfl | rfl
    · rw [if_pos rfl]
    · rw [if_neg (by decide), mark2, b2_e, if_neg (by decide)]
  have e0 : jX8_goesOn_0 N (m' + 1) 50 μ = jX8_goesOn_322 N 50 μ2 := by
    show jX8_goesOn_0b (jX8_goesOn_0 N m') N 50 μ = _
    unfold jX8_goesOn_0b
    rw [if_neg (not_not_intro h.2.1.b0), a1, b2_e, mark1, b2_e, e118]
    by_cases c : lk T q = 41
    · rw [if_neg (not_not_intro c), if_neg (by omega), mark1, b2_e, if_neg (by omega), mark1, b2_e, if_pos (by omega), e118]
    · rw [if_pos c]
  constructor
  · intro q3 hs
    obtain ⟨μ3, c1, c2, c3, c4⟩ := asksSign_1 (N := N) hN hT c44 hs b2'.1 b2'.2.1
    have h3 := b2'.l2 c2 c4
    obtain ⟨μ4, d1, d2, d3, d4⟩ := dtm_M (N := N) hN (by omega) hb hx (by omega) hW h3
    obtain ⟨t1, t2⟩ := top_K d2
    have f5 : Fr [87] [(50, 44), (50, 46), (50, 47), (50, 49)] μ4 (m_st μ4 87 W0.length (mk + 2)) := Fr.stI (Fr.rf0 _ _ _) (by simp)
    have h5 : MS T q3 (C ++ pd.reverse) (W0 ++ [mk + 2]) d b (m_st μ4 87 W0.length (mk + 2)) := by
      refine ⟨mp_KR (mp_up f5) d2.1, mp_PP d2.2.1 f5, ⟨⟨?_, ?_⟩, ⟨?_, ?_⟩, ?_, ?_⟩, d2.2.2.2.lx (mp_up f5)⟩
      · rw [gt_r _ _ _ _ (by decide)]; exact d2.2.2.1.1.1
      · exact d2.2.2.1.1.2.ext (fun i => gt_r _ _ _ _ (by decide))
      · rw [gt_r _ _ _ _ (by decide), d2.2.2.1.2.1.1]; simp
      · have := d2.2.2.1.2.1.2.take W0.length
        rw [List.take_left] at this
        have := Row.push this (mk + 2)
        rw [Int.zero_add] at this
        exact this
      · rw [gt_r _ _ _ _ (by decide)]; exact d2.2.2.1.2.2.1
      · rw [gt_r _ _ _ _ (by decide)]; exact d2.2.2.1.2.2.2
    refine ⟨m_st μ4 87 W0.length (mk + 2), ?_, h5, (lx2 a4).trI (b4.trI ((lx2 c4).trI (d4.trI (mp_up f5))))⟩
    unfold GH
    rw [e0]
    unfold jX8_goesOn_322
    rw [c1, ob_e, if_pos h3.2.1.b0, d1, ob_e, t2, i_sub_e (by omega) (by omega), show (W0.length : Int) + 1 - 1 = W0.length by omega, r_50_45 d2.1, ald_e (k_87 d2.1) (by omega) (by omega), ob_e, t1, i_add_e (by omega) (by omega), ast_e (k_87 d2.1) (by omega) (by omega), ob_e, b2_e, if_neg (by decide)]
    unfold jX8_sums_49
    obtain ⟨n', rfl⟩ : ∃ n', n = n' + 1 := ⟨n - 1, by omega⟩
    rw [PH_0 h5.2.1.b0, Nat.add_sub_cancel]
  · intro hs
    obtain ⟨μ3, c1, c2, c3⟩ := asksSign_0 (N := N) hN hT (by decide) hs b2'.1 b2'.2.1
    refine ⟨μ3, ?_, c2.fb c3 (k := C.length) (by omega) b2'.2.2.1.1.1, (lx2 a4).trI (b4.trI (lx6 c3))⟩
    unfold GH
    rw [e0]
    unfold jX8_goesOn_322
    have hbad : ¬ m_gt μ3 50 5 = 0 := by rw [c2.1]; exact c2.2.2
    rw [c1, ob_e, if_neg hbad, b2_e, if_pos rfl]
    exact bad_end hN (by omega) hbad
