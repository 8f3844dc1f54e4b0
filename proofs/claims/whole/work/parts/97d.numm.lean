/-! ===== PURE: the reference's numbers; what is asked ===== -/
theorem takes_b {N : Nat} {r : Int} {μ : Mm} (h : ¬ m_gt μ 50 5 = 0) : jX8_takes N 50 r μ = some (0, μ) := by
  unfold jX8_takes jX8_isHere jX8_isHere_28
  rw [if_pos h, b2_e, if_neg (by decide)]
theorem here_b {N : Nat} {r : Int} {μ : Mm} (h : ¬ m_gt μ 50 5 = 0) : jX8_isHere N 50 r μ = some (0, μ) := by
  unfold jX8_isHere jX8_isHere_28
  rw [if_pos h]
theorem sign_b {N : Nat} {c : Int} {μ : Mm} (h : ¬ m_gt μ 50 5 = 0) : jX8_takesSign N 50 c μ = some (0, μ) := by
  unfold jX8_takesSign jX8_takesSign_15
  rw [if_pos h]
theorem asks_b {N : Nat} {r : Int} {μ : Mm} (h : ¬ m_gt μ 50 5 = 0) : jX8_asks N 50 r μ = some μ := by
  unfold jX8_asks jX8_asks_24
  rw [if_pos h]
theorem num_b {N : Nat} {lo hi : Int} {μ : Mm} (h : ¬ m_gt μ 50 5 = 0) : jX8_number N 50 lo hi μ = some (0, μ) := by
  unfold jX8_number
  rw [if_neg h]
theorem asksM_1 {N : Nat} (hN : 1000000 ≤ N) {T : List Int} (hT : TB T) {r : Int} {w : List Int} {q q' : Nat} (hI : IN T q) {μ : Mm} (hr : r ≠ 50) (hK : KR μ) (hw : isWM r w μ) (hs : wrd T w q = some q') (h : PP T q μ) : ∃ μ', jX8_asks N 50 r μ = some μ' ∧ PP T q' μ' ∧ KR μ' ∧ Fr [] [(50, 2), (50, 4)] μ μ' := by
  obtain ⟨μ1, a1, a2, a3, a4⟩ := takesM_1 (N := N) hN hT hI hr hK hw hs h
  refine ⟨μ1, ?_, a2, a3, a4⟩
  unfold jX8_asks jX8_asks_24
  rw [if_neg (not_not_intro h.b0), a1, b2_e, if_pos (by decide)]
theorem asksM_0 {N : Nat} (hN : 1000000 ≤ N) {T : List Int} (hT : TB T) {r : Int} {w : List Int} {q : Nat} (hI : IN T q) {μ : Mm} (hr : r ≠ 50) (hK : KR μ) (hw : isWM r w μ) (hs : wrd T w q = none) (h : PP T q μ) : ∃ μ', jX8_asks N 50 r μ = some μ' ∧ FM (1, q) μ' ∧ Fr [] lxS μ μ' := by
  obtain ⟨μ1, a1, a2, a3, a4⟩ := takesM_0 (N := N) hN hT hI hr hK hw hs h
  refine ⟨m_st (m_st μ1 50 5 1) 50 6 q, ?_, FM_of (by decide) μ1, (a4.mono (by simp) (by simp [lxS])).trI ((FM_fr 1 q μ1).mono (by simp) (by simp [lxS]))⟩
  unfold jX8_asks jX8_asks_24
  rw [if_neg (not_not_intro h.b0), a1, b2_e, if_neg (by decide), a2.at, failM a2.b0, ob_e]
theorem num_49 {N : Nat} (hN : 1000000 ≤ N) {T : List Int} (hT : TB T) {lo hi : Int} {q : Nat} {e : Int} : ∀ (k n p : Nat) (v : Int) {μ : Mm}, q + 4 = p + k → q ≤ p → k < n → p ≤ T.length → 0 ≤ v → v < 10 ^ (4 - k) → KR μ → YM T p e μ → match dgs T k p v with | Sum.inr p' => ∃ μ', jX8_number_49 N n 50 lo hi q v μ = some (0, μ') ∧ FM (1, p') μ' ∧ 0 ≤ m_gt μ' 50 2 ∧ Fr [] lxS μ μ' | Sum.inl (v', p') => ∃ μ', jX8_number_49 N n 50 lo hi q v μ = jX8_number_129 N 50 lo hi q v' μ' ∧ YM T p' e μ' ∧ p' ≤ T.length ∧ KR μ' ∧ Fr [] [(50, 2)] μ μ'
  | k, 0, p, v, μ, hp, _, hn, _, _, _, _, _ => absurd hn (by omega)
  | 0, n + 1, p, v, μ, hp, hqp, hn, hpl, hv, hv2, hK, h => by
    have hl := hT.1
    have e1 : jX8_number_49 N (n + 1) 50 lo hi q v μ = jX8_number_49b (jX8_number_49 N n) N 50 lo hi q v μ := rfl
    rw [e1]
    unfold dgs jX8_number_49b
    rw [h.1, h.2.1]
    by_cases c : isD T p
    · rw [if_pos c]
      dsimp only
      refine ⟨m_st (m_st μ 50 5 1) 50 6 p, ?_, FM_of (by decide) μ, by rw [gt_i _ _ _ (by decide), gt_i _ _ _ (by decide), h.2.1]; omega, (FM_fr 1 p μ).mono (by simp) (by simp [lxS])⟩
      rw [if_neg (by have := c.1; omega), r_50_0 hK, ald_e (k_51 hK) (by omega) (by have := c.1; omega), ob_e, tx_row h.2.2.2.2.1 c.1, digit_M, b2_e, if_pos c.2, if_neg (by decide), h.2.1, i_sub_e (by omega) (by omega), if_neg (not_not_intro (by omega)), failM h.2.2.2.1, ob_e]
    · rw [if_neg c]
      dsimp only
      refine ⟨μ, ?_, h, hpl, hK, Fr.rf0 _ _ _⟩
      by_cases d : T.length ≤ p
      · rw [if_pos (by omega)]
      · rw [if_neg (by omega), r_50_0 hK, ald_e (k_51 hK) (by omega) (by omega), ob_e, tx_row h.2.2.2.2.1 (by omega), digit_M, b2_e, if_neg (fun z => c ⟨by omega, z⟩), if_pos rfl]
  | k + 1, n + 1, p, v, μ, hp, hqp, hn, hpl, hv, hv2, hK, h => by
    have hl := hT.1
    have e1 : jX8_number_49 N (n + 1) 50 lo hi q v μ = jX8_number_49b (jX8_number_49 N n) N 50 lo hi q v μ := rfl
    rw [e1]
    unfold dgs
    by_cases c : isD T p
    · rw [if_pos c]
      have hc := c.2
      have hk4 : k = 0 ∨ k = 1 ∨ k = 2 ∨ k = 3 := by omega
      have h10 : (10 : Int) ^ (4 - k) = 10 * 10 ^ (4 - (k + 1)) := by rw [show 4 - k = (4 - (k + 1)) + 1 by omega, Int.pow_succ, Int.mul_comm]
      have hv9 : v < 10000 := by rcases hk4 with rfl | rfl | rfl | rfl <;> exact Int.lt_of_lt_of_le hv2 (by decide)
      have f1 : Fr [] [(50, 2)] μ (m_st μ 50 2 (p + 1 : Nat)) := Fr.stI (Fr.rf0 _ _ _) (by simp)
      have ih := num_49 (N := N) hN hT (lo := lo) (hi := hi) (q := q) (e := e) k n (p + 1) (10 * v + tx T p - 48) (μ := m_st μ 50 2 (p + 1 : Nat)) (by omega) (by omega) (by omega) (by have := c.1; omega) (by omega) (by rw [h10]; omega) (hK.st _ (by decide)) ⟨by rw [gt_i _ _ _ (by decide)]; exact h.1, gt_same _ _ _ _, by rw [gt_i _ _ _ (by decide)]; exact h.2.2.1, by rw [gt_i _ _ _ (by decide)]; exact h.2.2.2.1, h.2.2.2.2.1.ext (fun i => gt_r _ _ _ _ (by decide)), by rw [gt_i _ _ _ (by decide)]; exact h.2.2.2.2.2⟩
      have e2 : jX8_number_49b (jX8_number_49 N n) N 50 lo hi q v μ = jX8_number_49 N n 50 lo hi q (10 * v + tx T p - 48) (m_st μ 50 2 (p + 1 : Nat)) := by
        unfold jX8_number_49b
        rw [h.1, h.2.1, if_neg (by have := c.1; omega), r_50_0 hK, ald_e (k_51 hK) (by omega) (by have := c.1; omega), ob_e, tx_row h.2.2.2.2.1 c.1, digit_M, b2_e, if_pos c.2, if_neg (by decide), h.2.1, i_sub_e (by omega) (by omega), if_pos (by omega), r_50_0 hK, ald_e (k_51 hK) (by omega) (by have := c.1; omega), ob_e, tx_row h.2.2.2.2.1 c.1, bnd_e, bnd_e, i_mul_e (by omega) (by omega), i_add_e (by omega) (by omega), i_sub_e (by omega) (by omega), i_add_e (by omega) (by omega)]
        rfl
      rw [e2]
      match hd : dgs T k (p + 1) (10 * v + tx T p - 48), ih with
      | Sum.inr p', ih =>
        obtain ⟨μ', r1, r2, r2', r3⟩ := ih
        exact ⟨μ', r1, r2, r2', (f1.mono (by simp) (by simp [lxS])).trI r3⟩
      | Sum.inl (v', p'), ih =>
        obtain ⟨μ', r1, r2, r3, r4, r5⟩ := ih
        exact ⟨μ', r1, r2, r3, r4, f1.trI r5⟩
    · rw [if_neg c]
      dsimp only
      refine ⟨μ, ?_, h, hpl, hK, Fr.rf0 _ _ _⟩
      unfold jX8_number_49b
      rw [h.1, h.2.1]
      by_cases d : T.length ≤ p
      · rw [if_pos (by omega)]
      · rw [if_neg (by omega), r_50_0 hK, ald_e (k_51 hK) (by omega) (by omega), ob_e, tx_row h.2.2.2.2.1 (by omega), digit_M, b2_e, if_neg (fun z => c ⟨by omega, z⟩), if_pos rfl]
theorem lk_D {T : List Int} {q : Nat} : (48 ≤ lk T q ∧ lk T q ≤ 57) ↔ isD T q := by
  unfold lk isD
  by_cases d : q < T.length
  · rw [if_pos d]; exact ⟨fun z => ⟨d, z⟩, fun z => z.2⟩
  · rw [if_neg d]; exact ⟨fun z => by omega, fun z => absurd z.1 d⟩
theorem numM_1 {N : Nat} (hN : 1000000 ≤ N) {T : List Int} (hT : TB T) {lo hi v : Int} (hlo : 0 ≤ lo ∧ lo ≤ 10000) (hhi : 0 ≤ hi ∧ hi ≤ 10000) {q q' : Nat} (hI : IN T q) (hs : numb T lo hi q = Sum.inr (v, q')) {μ : Mm} (hK : KR μ) (h : PP T q μ) : ∃ μ', jX8_number N 50 lo hi μ = some (v, μ') ∧ PP T q' μ' ∧ KR μ' ∧ Fr [] [(50, 2), (50, 4)] μ μ' := by
  obtain ⟨i1, i2, n1, n2, n3, n4, p, n5, n6, n7⟩ := numb_IN hs
  have hl := hT.1
  have hdg := dgs_ok (T := T) 4 q 0 (by decide)
  rw [n5] at hdg
  obtain ⟨g1, g2, g3, g4, g5, g6⟩ := hdg
  have hlast := g6 n7
  obtain ⟨μ1, a1, a2, a3, a4⟩ := look_M (N := N) hN hT hK h
  obtain ⟨e, y, en⟩ := a2
  have hne : ¬ (q : Int) = e := fun z => by
    rcases en.2.mp z.symm with u | u
    · exact n4 u
    · exact hI.2.2.2 ⟨u, n3⟩
  have hn := num_49 (N := N) hN hT (lo := lo) (hi := hi) (q := q) (e := e) 4 N q 0 (by omega) (by omega) (by omega) hI.2.1 (by decide) (by decide) a3 y
  rw [n5] at hn
  obtain ⟨μ2, b1, b2, b3, b4, b5⟩ := hn
  have F2 : Fr [] [(50, 2), (50, 4)] μ μ2 := (a4.mono (by simp) (by simp)).trI (b5.mono (by simp) (by simp))
  refine ⟨m_st μ2 50 4 p, ?_, ?_, b4.st _ (by decide), F2.stI (by simp)⟩
  · unfold jX8_number
    rw [if_pos h.b0, a1, b2_e, digit_M, b2_e, if_pos (lk_D.mpr n3), if_neg (by decide), y.2.1, y.2.2.1, if_pos hne, bnd_e, b1]
    unfold jX8_number_129 jX8_number_156
    rw [bnd_e, b2.2.1, i_2l_e (by omega) (by omega), i_2l_e (by omega) (by omega), i_2l_e (by omega) (by omega), isIn_M, b2_e, if_pos (show lo ≤ v ∧ v ≤ hi from ⟨n1, n2⟩), if_pos (by decide)]
  · refine ⟨p, p, n6.symm, b3, ⟨by rw [gt_i _ _ _ (by decide)]; exact b2.1, by rw [gt_i _ _ _ (by decide)]; exact b2.2.1, gt_same _ _ _ _, by rw [gt_i _ _ _ (by decide)]; exact b2.2.2.2.1, b2.2.2.2.2.1.ext (fun i => gt_r _ _ _ _ (by decide)), by rw [gt_i _ _ _ (by decide)]; exact b2.2.2.2.2.2⟩, ?_⟩
    have hle := SKP_le T p
    rw [n6]
    refine ⟨by omega, ?_⟩
    rcases SKP_pv T p with e1 | e1
    · rw [e1]
      exact ⟨fun _ => Or.inr ⟨by omega, hlast⟩, fun _ => rfl⟩
    · refine ⟨fun z => ?_, fun z => absurd z (fun z => z.elim (fun y => (blk_nL e1.2).1 y.2) (fun y => (blk_nL e1.2).2 y.2))⟩
      exfalso
      have e2 : SKP T p = p := by omega
      rw [e2] at e1
      exact (blk_nL e1.2).2 hlast
theorem numM_0 {N : Nat} (hN : 1000000 ≤ N) {T : List Int} (hT : TB T) {lo hi : Int} (hlo : 0 ≤ lo ∧ lo ≤ 10000) (hhi : 0 ≤ hi ∧ hi ≤ 10000) {e : Int × Nat} {q : Nat} (hI : IN T q) (hs : numb T lo hi q = Sum.inl e) {μ : Mm} (hK : KR μ) (h : PP T q μ) : ∃ v μ', jX8_number N 50 lo hi μ = some (v, μ') ∧ FM e μ' ∧ 0 ≤ m_gt μ' 50 2 ∧ Fr [] lxS μ μ' := by
  have hl := hT.1
  obtain ⟨μ1, a1, a2, a3, a4⟩ := look_M (N := N) hN hT hK h
  have ha := a2.at
  have hb := a2.b0
  obtain ⟨e0, y, en⟩ := a2
  have F1 : Fr [] lxS μ μ1 := a4.mono (by simp) (by simp [lxS])
  have f30 : e = (1, q) → ∃ v μ', jX8_number_30 N 50 μ1 = some (v, μ') ∧ FM e μ' ∧ 0 ≤ m_gt μ' 50 2 ∧ Fr [] lxS μ μ' := by
    intro he
    unfold jX8_number_30
    rw [ha, failM hb, ob_e, he]
    exact ⟨0, _, rfl, FM_of (by decide) μ1, by rw [gt_i _ _ _ (by decide), gt_i _ _ _ (by decide), ha]; omega, F1.trI ((FM_fr 1 q μ1).mono (by simp) (by simp [lxS]))⟩
  have hn := num_49 (N := N) hN hT (lo := lo) (hi := hi) (q := q) (e := e0) 4 N q 0 (by omega) (by omega) (by omega) hI.2.1 (by decide) (by decide) a3 y
  unfold numb at hs
  unfold jX8_number
  rw [if_pos h.b0, a1, b2_e, digit_M, b2_e]
  by_cases c1 : isD T q
  · rw [if_pos (lk_D.mpr c1), if_neg (by decide), y.2.1, y.2.2.1]
    by_cases c2 : pvL T q
    · rw [if_pos (Or.inr c2)] at hs
      injection hs with hs
      have : (q : Int) = e0 := (en.2.mpr (Or.inl c2)).symm
      rw [if_neg (not_not_intro this)]
      exact f30 hs.symm
    · rw [if_neg (fun z => by rcases z with z | z; exact z c1; exact c2 z)] at hs
      have hne : ¬ (q : Int) = e0 := fun z => by
        rcases en.2.mp z.symm with u | u
        · exact c2 u
        · exact hI.2.2.2 ⟨u, c1⟩
      rw [if_pos hne, bnd_e]
      have hdg := dgs_ok (T := T) 4 q 0 (by decide)
      split at hs
      · rename_i p he
        rw [he] at hn
        obtain ⟨μ', r1, r2, r2', r3⟩ := hn
        injection hs with hs
        exact ⟨0, μ', r1, by rw [← hs]; exact r2, r2', F1.trI r3⟩
      · rename_i v p he
        rw [he] at hn hdg
        obtain ⟨μ2, r1, r2, r3, r4, r5⟩ := hn
        split at hs
        · cases hs
        · rename_i hr
          injection hs with hs
          have g1 := hdg.1
          have g2 := hdg.2.1
          rw [r1]
          unfold jX8_number_129 jX8_number_156
          have hb2 : m_gt (m_st μ2 50 4 p) 50 5 = 0 := by rw [gt_i _ _ _ (by decide)]; exact r2.2.2.2.1
          rw [bnd_e, r2.2.1, i_2l_e (by omega) (by omega), i_2l_e (by omega) (by omega), i_2l_e (by omega) (by omega), isIn_M, b2_e, if_neg hr, if_neg (by decide), failM hb2, ob_e]
          refine ⟨v, _, rfl, by rw [← hs]; exact FM_of (by decide) _, by rw [gt_i _ _ _ (by decide), gt_i _ _ _ (by decide), gt_i _ _ _ (by decide), r2.2.1]; omega, F1.trI (((r5.mono (by simp) (by simp [lxS])).stI (by simp [lxS])).trI ((FM_fr 2 q _).mono (by simp) (by simp [lxS])))⟩
  · rw [if_pos (Or.inl c1)] at hs
    injection hs with hs
    rw [if_neg (fun z => c1 (lk_D.mp z)), if_pos rfl]
    exact f30 hs.symm
