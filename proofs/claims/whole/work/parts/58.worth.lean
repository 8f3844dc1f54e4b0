/-! ===== PURE: worths and handicaps ===== -/
theorem KR_l4 {μ μ' : Mm} {l : Int} (h : KR μ) (hl : l = 2 ∨ l = 13) (f : Fr [l + 1 + 3] [(l + 1, 4)] μ μ') : KR μ' := by
  rcases hl with rfl | rfl <;> exact f.KR h (by decide)
theorem KR_l3 {μ μ' : Mm} {l : Int} (h : KR μ) (hl : l = 2 ∨ l = 13) (f : Fr [l + 1 + 2] [] μ μ') : KR μ' := by
  rcases hl with rfl | rfl <;> exact f.KR h (by decide)
theorem LX_l4 {μ μ' : Mm} {l : Int} {G : Gm} (h : LX l G μ) (hl : l = 2 ∨ l = 13) (f : Fr [l + 1 + 3] [(l + 1, 4)] μ μ') : LX l G μ' := by
  rcases hl with rfl | rfl <;> exact h.ag (f.ag (by decide))
theorem LX_l3 {μ μ' : Mm} {l : Int} {G : Gm} (h : LX l G μ) (hl : l = 2 ∨ l = 13) (f : Fr [l + 1 + 2] [] μ μ') : LX l G μ' := by
  rcases hl with rfl | rfl <;> exact h.ag (f.ag (by decide))
theorem cl20_X (x : Int) : i_max (-20) (i_min 20 x) = cl20 x := by unfold i_max i_min cl20; repeat' split <;> omega
theorem cl99_X (x : Int) : i_max 0 (i_min 99 x) = cl99 x := by unfold i_max i_min cl99; repeat' split <;> omega
theorem drop_get {α : Type} {W : List α} {i : Nat} (h : i < W.length) : ∃ q, W[i]? = some q ∧ q ∈ W ∧ W.drop i = q :: W.drop (i + 1) := ⟨W[i], by simp [h], List.getElem_mem h, by rw [List.drop_eq_getElem_cons h]⟩
theorem reckonWorth_loop {N : Nat} (hN : 1000000 ≤ N) {l : Int} (hl : l = 2 ∨ l = 13) {G : Gm} (hG : COK G) {env : Int → Int} (he : oke env) : ∀ (k n i : Nat) {μ : Mm}, i + k = (gW G).length → k < n → KR μ → LX l G μ → (∀ k, -6 ≤ k → k ≤ -1 → m_gt μ (l + 1 + 2) (-k) = env k) → ∃ μ', jX1_reckonWorth_17 N n l i μ = some (wfirst (gC G) env ((gW G).drop i), μ') ∧ Fr [l + 1 + 3] [(l + 1, 4)] μ μ'
  | 0, n + 1, i, μ, hi, hn, hK, hL, hE => by
    refine ⟨μ, ?_, (Fr.rf μ).mono (by simp) (by simp)⟩
    show jX1_reckonWorth_17b _ _ _ _ _ = _
    unfold jX1_reckonWorth_17b
    rw [hL.1.2.2.2.2.1, if_pos (by omega), List.drop_eq_nil_of_le (by omega)]
    rfl
  | k + 1, n + 1, i, μ, hi, hn, hK, hL, hE => by
    obtain ⟨⟨K1, K2⟩, ⟨K3, K4, K5, K6, K7, K8⟩, r6, r7, r8, r9, r10, r11, r14⟩ := LK.of hK hl
    obtain ⟨q, hq, hqm, hd⟩ := drop_get (show i < (gW G).length by omega)
    obtain ⟨w1, w2, w3, w4, w5⟩ := hG.2.2.1 q hqm
    have hW := hG.2.1
    obtain ⟨μ1, e1, e2, e3⟩ := reckon_X hN he w2 w3 hG.1 K2 hL.1.2.2.2.2.2.2.2 (show Row μ (l + 1 + 1) 0 _ by rw [show l + 1 + 1 = l + 2 by omega]; exact hL.2.1.1) hE w5
    have g1 : m_gt μ (l + 8) i = q.2.1 := hL.2.1.2.2.2.1.get (i := i) (by rw [List.getElem?_map, hq]; rfl) (by omega)
    have g2 : m_gt μ (l + 9) i = q.2.2 := hL.2.1.2.2.2.2.get (i := i) (by rw [List.getElem?_map, hq]; rfl) (by omega)
    have hK1 := KR_l4 hK hl e3
    have hL1 := LX_l4 hL hl e3
    have g3 : m_gt μ1 (l + 7) i = q.1 := hL1.2.1.2.2.1.get (i := i) (by rw [List.getElem?_map, hq]; rfl) (by omega)
    have g4 : m_gt μ1 (l + 8) i = q.2.1 := hL1.2.1.2.2.2.1.get (i := i) (by rw [List.getElem?_map, hq]; rfl) (by omega)
    have hE1 : ∀ k, -6 ≤ k → k ≤ -1 → m_gt μ1 (l + 1 + 2) (-k) = env k := fun k a b => by rw [e3.2.2 _ _ (by simp <;> omega) (by simp <;> omega)]; exact hE k a b
    have main : jX1_reckonWorth_17 N (n + 1) l i μ = if ev env (slc (gC G) q.2.1 q.2.2) = 0 then jX1_reckonWorth_17 N n l (i + 1 : Nat) μ1 else b2 (jX0_reckon N (l + 1) q.1 q.2.1 μ1) fun x7 μ2 => b2 (jX7_within N (-20) x7 20 μ2) fun x8 μ3 => some (x8, μ3) := by
      show jX1_reckonWorth_17b _ _ _ _ _ = _
      obtain ⟨⟨L1, L2⟩, ⟨L3, L4, L5, L6, L7, L8⟩, s6, s7, s8, s9, s10, s11, s14⟩ := LK.of hK1 hl
      unfold jX1_reckonWorth_17b
      rw [hL.1.2.2.2.2.1, if_neg (by omega), if_neg (by omega), r10, r11, r6, ald_e K6 (by omega) (by omega), ob_e, ald_e K7 (by omega) (by omega), ob_e, chk_e K2.1, g1, g2, e1, b2_e, bnd_e, i_add_e (by omega) (by omega), s9, s10, s6, ald_e L5 (by omega) (by omega), ob_e, ald_e L6 (by omega) (by omega), ob_e, chk_e L2.1, g3, g4]
      rfl
    rw [main, hd, wfirst]
    rcases ev_b e2 with hv | hv
    · rw [if_pos hv, if_neg (by rw [hv]; decide)]
      obtain ⟨μ2, f1, f2⟩ := reckonWorth_loop hN hl hG he k n (i + 1) (by omega) (by omega) hK1 hL1 hE1
      exact ⟨μ2, f1, (e3.tr f2).mono (by simp) (by simp)⟩
    · obtain ⟨μ2, f1, f2, f3⟩ := reckon_X hN he w1 (by omega) hG.1 (LK.of hK1 hl).1.2 hL1.1.2.2.2.2.2.2.2 (show Row μ1 (l + 1 + 1) 0 _ by rw [show l + 1 + 1 = l + 2 by omega]; exact hL1.2.1.1) hE1 w4
      refine ⟨μ2, ?_, (e3.tr f3).mono (by simp) (by simp)⟩
      rw [if_neg (by rw [hv]; decide), if_pos hv, f1, b2_e, within_X, b2_e, cl20_X]
  | _ + 1, 0, _, _, _, hn, _, _, _ => absurd hn (by omega)
  | 0, 0, _, _, _, hn, _, _, _ => absurd hn (by omega)
/-- what the class reckons for a frame is its worth -/
theorem reckonWorth_X {N : Nat} (hN : 1000000 ≤ N) {l : Int} (hl : l = 2 ∨ l = 13) {G : Gm} (hG : COK G) {f d u x : Int} (hf : 0 ≤ f ∧ f ≤ 8) (hd : 0 ≤ d ∧ d ≤ 9) (hu : 0 ≤ u ∧ u ≤ 9) (hx : 0 ≤ x ∧ x ≤ 9) {μ : Mm} (hK : KR μ) (hL : LX l G μ) : ∃ μ', jX1_reckonWorth N l f d u x μ = some (wrt G f d u x, μ') ∧ Fr [l + 3, l + 4] [(l + 1, 4)] μ μ' := by
  obtain ⟨⟨K1, K2⟩, ⟨K3, K4, K5, K6, K7, K8⟩, r6, r7, r8, r9, r10, r11, r14⟩ := LK.of hK hl
  obtain ⟨μ1, e1, e2, e3⟩ := setFrame_X (N := N) (a := f + 1) (b := d) (d := u) (e := x) K2
  obtain ⟨μ2, f1, f2⟩ := reckonWorth_loop hN hl hG (fenv_oke (a := f + 1) (b := d) (c := u) (d := x) (e := 0) (f := 0) (by omega) (by omega) (by omega) (by omega) (by omega) (by omega)) (gW G).length N 0 (by omega) (by have := hG.2.1; omega) (KR_l3 hK hl e3) (LX_l3 hL hl e3) e2
  refine ⟨μ2, ?_, (e3.tr f2).mono (by simp <;> omega) (by simp)⟩
  unfold jX1_reckonWorth
  rw [r6, chk_e K2.1, i_add_e (by omega) (by omega), e1, ob_e]
  exact f1
/-- an empty handicap, or a sum -/
theorem handicap_X {N : Nat} (hN : 1000000 ≤ N) {l : Int} (hl : l = 2 ∨ l = 13) {G : Gm} (hG : COK G) {m n : Int} (hm : -1000000 ≤ m ∧ m ≤ 1000000) (hn : -1000000 ≤ n ∧ n ≤ 1000000) {μ : Mm} (hK : KR μ) (hL : LX l G μ) : ∃ μ', jX1_handicap N l m n μ = some (hcp G m n, μ') ∧ Fr [l + 3, l + 4] [(l + 1, 4)] μ μ' := by
  obtain ⟨⟨K1, K2⟩, ⟨K3, K4, K5, K6, K7, K8⟩, r6, r7, r8, r9, r10, r11, r14⟩ := LK.of hK hl
  obtain ⟨μ1, e1, e2, e3⟩ := setPlayer_X (N := N) (a := m) (b := n) K2
  have hK1 := KR_l3 hK hl e3
  have hL1 := LX_l3 hL hl e3
  obtain ⟨⟨L1, L2⟩, ⟨L3, L4, L5, L6, L7, L8⟩, s6, s7, s8, s9, s10, s11, s14⟩ := LK.of hK1 hl
  have main : ∃ μ2, jX0_reckon N (l + 1) (gH G).1 (gH G).2 μ1 = some (if (gH G).1 = (gH G).2 then 0 else ev (fenv 0 0 0 0 m n) (slc (gC G) (gH G).1 (gH G).2), μ2) ∧ Fr [l + 1 + 3] [(l + 1, 4)] μ1 μ2 := by
    by_cases c : (gH G).1 = (gH G).2
    · rw [if_pos c, ← c, reckon_0 hN (by omega)]
      exact ⟨_, rfl, (Fr.st μ1 (l + 1) 4 0).mono (by simp) (by simp)⟩
    · rw [if_neg c]
      obtain ⟨h1, h2, h3⟩ := hG.2.2.2
      obtain ⟨μ2, f1, f2, f3⟩ := reckon_X hN (fenv_oke (a := 0) (b := 0) (c := 0) (d := 0) (e := m) (f := n) (by omega) (by omega) (by omega) (by omega) hm hn) h1 h2 hG.1 L2 hL1.1.2.2.2.2.2.2.2 (show Row μ1 (l + 1 + 1) 0 _ by rw [show l + 1 + 1 = l + 2 by omega]; exact hL1.2.1.1) e2 (h3.resolve_left c)
      exact ⟨μ2, f1, f3⟩
  obtain ⟨μ2, f1, f2⟩ := main
  refine ⟨μ2, ?_, (e3.tr f2).mono (by simp <;> omega) (by simp)⟩
  unfold jX1_handicap
  rw [r6, chk_e K2.1, e1, ob_e, s6, chk_e L2.1, hL1.1.2.2.2.2.2.1, hL1.1.2.2.2.2.2.2.1, f1, b2_e, within_X, b2_e, cl99_X]
  unfold hcp
  by_cases c : (gH G).1 = (gH G).2
  · rw [if_pos c, if_pos c]; rfl
  · rw [if_neg c, if_neg c]
/-! the reference -/
theorem GM_pile {μ μ' : Mm} {G : Gm} (h : GM G μ) (f : Fr [88] [(50, 51)] μ μ') : GM G μ' := h.ag (f.ag (by decide))
def pfs : List (Int × Int) := [(50, 51), (50, 52), (50, 53), (50, 54), (50, 55), (50, 56), (50, 57)]
theorem cl20_M {N : Nat} {v : Int} {μ : Mm} : (if -20 ≤ v then (if v ≤ 20 then jX8_worthOf_128 N 50 v μ else jX8_worthOf_128 N 50 20 μ) else jX8_worthOf_128 N 50 (-20) μ) = some (cl20 v, μ) := by
  unfold cl20 jX8_worthOf_128
  by_cases c1 : v < -20
  · rw [if_neg (show ¬ -20 ≤ v by omega), if_pos c1]
  · by_cases c2 : v > 20
    · rw [if_pos (show -20 ≤ v by omega), if_neg (show ¬ v ≤ 20 by omega), if_neg c1, if_pos c2]
    · rw [if_pos (show -20 ≤ v by omega), if_pos (show v ≤ 20 by omega), if_neg c1, if_neg c2]
theorem worthOf_loop {N : Nat} (hN : 1000000 ≤ N) {G : Gm} (hG : COK G) {env : Int → Int} (he : oke env) : ∀ (k n i : Nat) {μ : Mm}, i + k = (gW G).length → k < n → KR μ → GM G μ → (∀ k, -6 ≤ k → k ≤ -1 → m_gt μ 50 (51 - k) = env k) → ∃ μ', jX8_worthOf_37 N n 50 (30 + i) μ = some (wfirst (gC G) env ((gW G).drop i), μ') ∧ Fr [88] [(50, 51)] μ μ'
  | 0, n + 1, i, μ, hi, hn, hK, hL, hE => by
    refine ⟨μ, ?_, (Fr.rf μ).mono (by decide) (by decide)⟩
    show jX8_worthOf_37b _ _ _ _ _ = _
    have hW := hG.2.1
    unfold jX8_worthOf_37b
    rw [r_50_36 hK, ald_e (k_79 hK) (by decide) (by decide), ob_e, hL.1.2.2.2.2.1, i_add_e (by omega) (by omega), if_pos (by omega), List.drop_eq_nil_of_le (by omega)]
    rfl
  | k + 1, n + 1, i, μ, hi, hn, hK, hL, hE => by
    obtain ⟨q, hq, hqm, hd⟩ := drop_get (show i < (gW G).length by omega)
    obtain ⟨w1, w2, w3, w4, w5⟩ := hG.2.2.1 q hqm
    have hW := hG.2.1
    obtain ⟨μ1, e1, e2, e3⟩ := tells_M hN he w2 w3 hG.1 hK hL.2.1.1 hE w5
    have g1 : m_gt μ 81 (30 + i) = q.2.1 := hL.2.1.2.2.2.1.get (i := i) (by rw [List.getElem?_map, hq]; rfl) (by omega)
    have g2 : m_gt μ 82 (30 + i) = q.2.2 := hL.2.1.2.2.2.2.get (i := i) (by rw [List.getElem?_map, hq]; rfl) (by omega)
    have hK1 := KR_pile hK e3
    have hL1 := GM_pile hL e3
    have g3 : m_gt μ1 80 (30 + i) = q.1 := hL1.2.1.2.2.1.get (i := i) (by rw [List.getElem?_map, hq]; rfl) (by omega)
    have g4 : m_gt μ1 81 (30 + i) = q.2.1 := hL1.2.1.2.2.2.1.get (i := i) (by rw [List.getElem?_map, hq]; rfl) (by omega)
    have hE1 : ∀ k, -6 ≤ k → k ≤ -1 → m_gt μ1 50 (51 - k) = env k := fun k a b => by rw [e3.2.2 _ _ (by decide) (by simp <;> omega)]; exact hE k a b
    obtain ⟨μ2, f1, f2, f3⟩ := tells_M hN he w1 (by omega) hG.1 hK1 hL1.2.1.1 hE1 w4
    have hb := ev_n f2
    have main : jX8_worthOf_37 N (n + 1) 50 (30 + i) μ = if ev env (slc (gC G) q.2.1 q.2.2) = 1 then some (cl20 (ev env (slc (gC G) q.1 q.2.1)), μ2) else jX8_worthOf_37 N n 50 (30 + (i + 1 : Nat)) μ1 := by
      show jX8_worthOf_37b _ _ _ _ _ = _
      unfold jX8_worthOf_37b
      rw [r_50_36 hK, ald_e (k_79 hK) (by decide) (by decide), ob_e, hL.1.2.2.2.2.1, i_add_e (by omega) (by omega), if_neg (by omega), r_50_38 hK, r_50_39 hK, ald_e (k_81 hK) (by omega) (by omega), ob_e, ald_e (k_82 hK) (by omega) (by omega), ob_e, g1, g2, e1, b2_e, r_50_37 hK1, r_50_38 hK1, ald_e (k_80 hK1) (by omega) (by omega), ob_e, ald_e (k_81 hK1) (by omega) (by omega), ob_e, g3, g4, f1, b2_e, bnd_e, i_add_e (by omega) (by omega)]
      simp only [l_cmp_eq0, l_cmp_ge0, l_cmp_le0]
      have z : (30 + (i : Int) + 1) = 30 + ((i + 1 : Nat) : Int) := by omega
      rw [z, l_2i_e (by omega) (by omega)]
      congr 1
      exact cl20_M
    rw [main, hd, wfirst]
    rcases ev_b e2 with hv | hv
    · rw [if_neg (by rw [hv]; decide), if_neg (by rw [hv]; decide)]
      obtain ⟨μ3, p1, p2⟩ := worthOf_loop hN hG he k n (i + 1) (by omega) (by omega) hK1 hL1 hE1
      exact ⟨μ3, p1, (e3.tr p2).mono (by decide) (by decide)⟩
    · exact ⟨μ2, by rw [if_pos hv, if_pos hv], (e3.tr f3).mono (by decide) (by decide)⟩
  | _ + 1, 0, _, _, _, hn, _, _, _ => absurd hn (by omega)
  | 0, 0, _, _, _, hn, _, _, _ => absurd hn (by omega)
theorem parts_M (μ : Mm) (a b c d e f : Int) : Fr [] [(50, 52), (50, 53), (50, 54), (50, 55), (50, 56), (50, 57)] μ (m_st (m_st (m_st (m_st (m_st (m_st μ 50 52 a) 50 53 b) 50 54 c) 50 55 d) 50 56 e) 50 57 f) ∧ ∀ k, -6 ≤ k → k ≤ -1 → m_gt (m_st (m_st (m_st (m_st (m_st (m_st μ 50 52 a) 50 53 b) 50 54 c) 50 55 d) 50 56 e) 50 57 f) 50 (51 - k) = fenv a b c d e f k := by
  constructor
  · exact ((((((Fr.st μ 50 52 a).tr (Fr.st _ 50 53 b)).tr (Fr.st _ 50 54 c)).tr (Fr.st _ 50 55 d)).tr (Fr.st _ 50 56 e)).tr (Fr.st _ 50 57 f)).mono (by decide) (by decide)
  · intro k h1 h2
    have : k = -1 ∨ k = -2 ∨ k = -3 ∨ k = -4 ∨ k = -5 ∨ k = -6 := by omega
    rcases this with rfl | rfl | rfl | rfl | rfl | rfl <;> simp [m_gt_st, fenv]
/-- the reference's worth -/
theorem worthOf_M {N : Nat} (hN : 1000000 ≤ N) {G : Gm} (hG : COK G) {f d u x : Int} (hf : 0 ≤ f ∧ f ≤ 8) (hd : 0 ≤ d ∧ d ≤ 9) (hu : 0 ≤ u ∧ u ≤ 9) (hx : 0 ≤ x ∧ x ≤ 9) {μ : Mm} (hK : KR μ) (hL : GM G μ) : ∃ μ', jX8_worthOf N 50 f d u x μ = some (wrt G f d u x, μ') ∧ Fr [88] pfs μ μ' := by
  obtain ⟨p1, p2⟩ := parts_M μ (f + 1) d u x 0 0
  obtain ⟨μ2, f1, f2⟩ := worthOf_loop hN hG (fenv_oke (a := f + 1) (b := d) (c := u) (d := x) (e := 0) (f := 0) (by omega) (by omega) (by omega) (by omega) (by omega) (by omega)) (gW G).length N 0 (by omega) (by have := hG.2.1; omega) (p1.KR hK (by decide)) (hL.ag (p1.ag (by decide))) p2
  refine ⟨μ2, ?_, (p1.tr f2).mono (by decide) (by decide)⟩
  unfold jX8_worthOf
  rw [i_add_e (by omega) (by omega)]
  exact f1
/-! the table of worths -/
def ix (f d u x : Int) : Int := (f * 10 + d) * 16 + u * 4 + x
theorem index_X {N : Nat} {f d u x : Int} (hf : 0 ≤ f ∧ f ≤ 8) (hd : 0 ≤ d ∧ d ≤ 9) (hu : 0 ≤ u ∧ u ≤ 9) (hx : 0 ≤ x ∧ x ≤ 9) {μ : Mm} : jX1_worthIndex N f d u x μ = some (ix f d u x, μ) := by
  unfold jX1_worthIndex ix
  rw [i_mul_e (x := f) (by omega) (by omega), i_add_e (x := f * 10) (by omega) (by omega), i_mul_e (x := f * 10 + d) (by omega) (by omega), i_mul_e (x := u) (by omega) (by omega), i_add_e (x := (f * 10 + d) * 16) (by omega) (by omega), i_add_e (by omega) (by omega)]
def TXb (l : Int) (G : Gm) (n : Int) (μ : Mm) : Prop := ∀ f d u x : Int, 0 ≤ f → f < G.1 1 → 0 ≤ d → d ≤ G.1 0 → 1 ≤ u → u ≤ G.1 2 → 0 ≤ x → x ≤ u → ix f d u x < n → m_gt μ (l + 10) (ix f d u x) = wrt G f d u x
theorem settleFouls_loop {N : Nat} (hN : 1000000 ≤ N) {l : Int} (hl : l = 2 ∨ l = 13) {G : Gm} (hG : GOK G) {f d u : Int} (hf : 0 ≤ f ∧ f < G.1 1) (hd : 0 ≤ d ∧ d ≤ G.1 0) (hu : 1 ≤ u ∧ u ≤ G.1 2) : ∀ (k n : Nat) (x : Int) {μ : Mm}, x + k = u + 1 → 0 ≤ x → k < n → KR μ → LX l G μ → TXb l G (ix f d u x) μ → ∃ μ', jX1_settleFouls_3 N n l f d u x μ = some μ' ∧ KR μ' ∧ LX l G μ' ∧ TXb l G (ix f d (u + 1) 0) μ' ∧ Fr [l + 3, l + 4, l + 10] [(l + 1, 4)] μ μ'
  | 0, n + 1, x, μ, hx, h0, hn, hK, hL, hT => by
    refine ⟨μ, ?_, hK, hL, ?_, (Fr.rf μ).mono (by simp) (by simp)⟩
    · show jX1_settleFouls_3b _ _ _ _ _ _ _ _ = _
      unfold jX1_settleFouls_3b
      rw [if_pos (by omega)]
    · intro f' d' u' x' q1 q2 q3 q4 q5 q6 q7 q8 q9
      obtain ⟨g1, g2, g3, g4, g5⟩ := hG
      refine hT f' d' u' x' q1 q2 q3 q4 q5 q6 q7 q8 ?_
      unfold ix at q9 ⊢
      omega
  | k + 1, n + 1, x, μ, hx, h0, hn, hK, hL, hT => by
    obtain ⟨g1, g2, g3, g4, g5, g6, g7⟩ := id hG
    obtain ⟨⟨K1, K2⟩, ⟨K3, K4, K5, K6, K7, K8⟩, r6, r7, r8, r9, r10, r11, r14⟩ := LK.of hK hl
    obtain ⟨μ1, e1, e2⟩ := reckonWorth_X hN hl g6 (f := f) (d := d) (u := u) (x := x) (by omega) (by omega) (by omega) (by omega) hK hL
    have e3 : Fr [l + 3, l + 4, l + 10] [(l + 1, 4)] μ (m_st μ1 (l + 10) (ix f d u x) (wrt G f d u x)) := (e2.tr (Fr.sa μ1 (l + 10) _ _)).mono (by simp) (by simp)
    have hK1 : KR (m_st μ1 (l + 10) (ix f d u x) (wrt G f d u x)) := by
      rcases hl with rfl | rfl <;> exact e3.KR hK (by decide)
    have hL1 : LX l G (m_st μ1 (l + 10) (ix f d u x) (wrt G f d u x)) := by
      rcases hl with rfl | rfl <;> exact hL.ag (e3.ag (by decide))
    have hT1 : TXb l G (ix f d u (x + 1)) (m_st μ1 (l + 10) (ix f d u x) (wrt G f d u x)) := by
      intro f' d' u' x' q1 q2 q3 q4 q5 q6 q7 q8 q9
      by_cases c : ix f' d' u' x' = ix f d u x
      · have : f' = f ∧ d' = d ∧ u' = u ∧ x' = x := by
          unfold ix at c
          have a1 : x' = x := by omega
          have a2 : u' = u := by omega
          have a3 : d' = d := by omega
          exact ⟨by omega, a3, a2, a1⟩
        obtain ⟨rfl, rfl, rfl, rfl⟩ := this
        exact gt_same _ _ _ _
      · rw [gt_i _ _ _ c, e2.2.2 _ _ (by simp <;> omega) (by simp <;> omega)]
        refine hT f' d' u' x' q1 q2 q3 q4 q5 q6 q7 q8 ?_
        have : ix f d u (x + 1) = ix f d u x + 1 := by unfold ix; omega
        omega
    obtain ⟨μ2, f1, f2, f3, f4, f5⟩ := settleFouls_loop hN hl hG hf hd hu k n (x + 1) (by omega) (by omega) (by omega) hK1 hL1 hT1
    refine ⟨μ2, ?_, f2, f3, f4, (e3.tr f5).mono (by simp) (by simp)⟩
    show jX1_settleFouls_3b _ _ _ _ _ _ _ _ = _
    have hix : 0 ≤ ix f d u x ∧ ix f d u x < 1280 := by unfold ix; omega
    unfold jX1_settleFouls_3b
    rw [if_neg (by omega), index_X (by omega) (by omega) (by omega) (by omega), b2_e, if_neg (by omega), r14, len_e K8 (by decide) (by decide), ob_e, if_neg (by omega), e1, b2_e, ast_e (n := 1280) (by rw [e2.kd]; exact K8) (by omega) (by omega), ob_e]
    unfold jX1_settleFouls_50
    rw [bnd_e, i_add_e (by omega) (by omega)]
    exact f1
  | _ + 1, 0, _, _, _, _, hn, _, _, _ => absurd hn (by omega)
  | 0, 0, _, _, _, _, hn, _, _, _ => absurd hn (by omega)
theorem settle_22 {N : Nat} (hN : 1000000 ≤ N) {l : Int} (hl : l = 2 ∨ l = 13) {G : Gm} (hG : GOK G) {f d : Int} (hf : 0 ≤ f ∧ f < G.1 1) (hd : 0 ≤ d ∧ d ≤ G.1 0) {k2 : Int → Int → Mm → Option (Mm)} {k12 : Int → Int → Int → Mm → Option (Mm)} : ∀ (k n : Nat) (u : Int) {μ : Mm}, u + k = G.1 2 + 1 → 1 ≤ u → k < n → KR μ → LX l G μ → TXb l G (ix f d u 0) μ → ∃ μ', jX1_settle_22 k2 k12 N n l f d u μ = k12 l f (d + 1) μ' ∧ KR μ' ∧ LX l G μ' ∧ TXb l G (ix f (d + 1) 0 0) μ' ∧ Fr [l + 3, l + 4, l + 10] [(l + 1, 4)] μ μ'
  | 0, n + 1, u, μ, hx, h0, hn, hK, hL, hT => by
    refine ⟨μ, ?_, hK, hL, ?_, (Fr.rf μ).mono (by simp) (by simp)⟩
    · show jX1_settle_22b k2 k12 (jX1_settle_22 k2 k12 N n) N l f d u μ = _
      obtain ⟨g1, g2, g3, g4, g5⟩ := hG
      unfold jX1_settle_22b
      rw [hL.1.2.2.1, if_pos (by omega), bnd_e, i_add_e (by omega) (by omega)]
    · intro f' d' u' x' q1 q2 q3 q4 q5 q6 q7 q8 q9
      obtain ⟨g1, g2, g3, g4, g5⟩ := hG
      refine hT f' d' u' x' q1 q2 q3 q4 q5 q6 q7 q8 ?_
      unfold ix at q9 ⊢
      omega
  | k + 1, n + 1, u, μ, hx, h0, hn, hK, hL, hT => by
    obtain ⟨g1, g2, g3, g4, g5, g6, g7⟩ := id hG
    obtain ⟨μ1, e1, e2, e3, e4, e5⟩ := settleFouls_loop hN hl hG hf hd (u := u) (by omega) (u + 1).toNat N 0 (by omega) (by omega) (by omega) hK hL hT
    obtain ⟨μ2, f1, f2, f3, f4, f5⟩ := settle_22 hN hl hG hf hd (k2 := k2) (k12 := k12) k n (u + 1) (by omega) (by omega) (by omega) e2 e3 e4
    refine ⟨μ2, ?_, f2, f3, f4, (e5.tr f5).mono (by simp) (by simp)⟩
    show jX1_settle_22b k2 k12 (jX1_settle_22 k2 k12 N n) N l f d u μ = _
    unfold jX1_settle_22b jX1_settleFouls
    rw [hL.1.2.2.1, if_neg (by omega), e1, ob_e, bnd_e, i_add_e (by omega) (by omega)]
    exact f1
  | _ + 1, 0, _, _, _, _, hn, _, _, _ => absurd hn (by omega)
  | 0, 0, _, _, _, _, hn, _, _, _ => absurd hn (by omega)
theorem settle_12 {N : Nat} (hN : 1000000 ≤ N) {l : Int} (hl : l = 2 ∨ l = 13) {G : Gm} (hG : GOK G) {f : Int} (hf : 0 ≤ f ∧ f < G.1 1) {k2 : Int → Int → Mm → Option (Mm)} : ∀ (k n : Nat) (d : Int) {μ : Mm}, d + k = G.1 0 + 1 → 0 ≤ d → k < n → KR μ → LX l G μ → TXb l G (ix f d 0 0) μ → ∃ μ', jX1_settle_12 k2 N n l f d μ = k2 l (f + 1) μ' ∧ KR μ' ∧ LX l G μ' ∧ TXb l G (ix (f + 1) 0 0 0) μ' ∧ Fr [l + 3, l + 4, l + 10] [(l + 1, 4)] μ μ'
  | 0, n + 1, d, μ, hx, h0, hn, hK, hL, hT => by
    refine ⟨μ, ?_, hK, hL, ?_, (Fr.rf μ).mono (by simp) (by simp)⟩
    · show jX1_settle_12b k2 (jX1_settle_12 k2 N n) N l f d μ = _
      obtain ⟨g1, g2, g3, g4, g5⟩ := hG
      unfold jX1_settle_12b
      rw [hL.1.1, if_pos (by omega), bnd_e, i_add_e (by omega) (by omega)]
    · intro f' d' u' x' q1 q2 q3 q4 q5 q6 q7 q8 q9
      obtain ⟨g1, g2, g3, g4, g5⟩ := hG
      refine hT f' d' u' x' q1 q2 q3 q4 q5 q6 q7 q8 ?_
      unfold ix at q9 ⊢
      omega
  | k + 1, n + 1, d, μ, hx, h0, hn, hK, hL, hT => by
    obtain ⟨g1, g2, g3, g4, g5, g6, g7⟩ := id hG
    have hT1 : TXb l G (ix f d 1 0) μ := by
      intro f' d' u' x' q1 q2 q3 q4 q5 q6 q7 q8 q9
      refine hT f' d' u' x' q1 q2 q3 q4 q5 q6 q7 q8 ?_
      unfold ix at q9 ⊢
      omega
    obtain ⟨μ1, e1, e2, e3, e4, e5⟩ := settle_22 hN hl hG hf (d := d) (by omega) (k2 := k2) (k12 := jX1_settle_12 k2 N n) (G.1 2).toNat N 1 (by omega) (by omega) (by omega) hK hL hT1
    obtain ⟨μ2, f1, f2, f3, f4, f5⟩ := settle_12 hN hl hG hf (k2 := k2) k n (d + 1) (by omega) (by omega) (by omega) e2 e3 e4
    refine ⟨μ2, ?_, f2, f3, f4, (e5.tr f5).mono (by simp) (by simp)⟩
    show jX1_settle_12b k2 (jX1_settle_12 k2 N n) N l f d μ = _
    unfold jX1_settle_12b
    rw [hL.1.1, if_neg (by omega), e1]
    exact f1
  | _ + 1, 0, _, _, _, _, hn, _, _, _ => absurd hn (by omega)
  | 0, 0, _, _, _, _, hn, _, _, _ => absurd hn (by omega)
theorem settle_2 {N : Nat} (hN : 1000000 ≤ N) {l : Int} (hl : l = 2 ∨ l = 13) {G : Gm} (hG : GOK G) : ∀ (k n : Nat) (f : Int) {μ : Mm}, f + k = G.1 1 → 0 ≤ f → k < n → KR μ → LX l G μ → TXb l G (ix f 0 0 0) μ → ∃ μ', jX1_settle_2 N n l f μ = some μ' ∧ KR μ' ∧ LX l G μ' ∧ TXb l G (ix (G.1 1) 0 0 0) μ' ∧ Fr [l + 3, l + 4, l + 10] [(l + 1, 4)] μ μ'
  | 0, n + 1, f, μ, hx, h0, hn, hK, hL, hT => by
    have : f = G.1 1 := by omega
    subst this
    refine ⟨μ, ?_, hK, hL, hT, (Fr.rf μ).mono (by simp) (by simp)⟩
    show jX1_settle_2b _ _ _ _ _ = _
    unfold jX1_settle_2b
    rw [hL.1.2.1, if_pos (by omega)]
  | k + 1, n + 1, f, μ, hx, h0, hn, hK, hL, hT => by
    obtain ⟨g1, g2, g3, g4, g5, g6, g7⟩ := id hG
    obtain ⟨μ1, e1, e2, e3, e4, e5⟩ := settle_12 hN hl hG (f := f) (by omega) (k2 := jX1_settle_2 N n) (G.1 0 + 1).toNat N 0 (by omega) (by omega) (by omega) hK hL hT
    obtain ⟨μ2, f1, f2, f3, f4, f5⟩ := settle_2 hN hl hG k n (f + 1) (by omega) (by omega) (by omega) e2 e3 e4
    refine ⟨μ2, ?_, f2, f3, f4, (e5.tr f5).mono (by simp) (by simp)⟩
    show jX1_settle_2b _ _ _ _ _ = _
    unfold jX1_settle_2b
    rw [hL.1.2.1, if_neg (by omega), e1]
    exact f1
  | _ + 1, 0, _, _, _, _, hn, _, _, _ => absurd hn (by omega)
  | 0, 0, _, _, _, _, hn, _, _, _ => absurd hn (by omega)
theorem settle_X {N : Nat} (hN : 1000000 ≤ N) {l : Int} (hl : l = 2 ∨ l = 13) {G : Gm} (hG : GOK G) {μ : Mm} (hK : KR μ) (hL : LX l G μ) : ∃ μ', jX1_settle N l μ = some μ' ∧ KR μ' ∧ LX l G μ' ∧ TX l G μ' ∧ Fr [l + 3, l + 4, l + 10] [(l + 1, 4)] μ μ' := by
  obtain ⟨g1, g2, g3, g4, g5, g6, g7⟩ := id hG
  have hT : TXb l G (ix 0 0 0 0) μ := by
    intro f' d' u' x' q1 q2 q3 q4 q5 q6 q7 q8 q9
    unfold ix at q9
    omega
  obtain ⟨μ1, e1, e2, e3, e4, e5⟩ := settle_2 hN hl hG (G.1 1).toNat N 0 (by omega) (by omega) (by omega) hK hL hT
  refine ⟨μ1, e1, e2, e3, ?_, e5⟩
  intro f d u x q1 q2 q3 q4 q5 q6 q7 q8
  refine e4 f d u x q1 q2 q3 q4 q5 q6 q7 q8 ?_
  unfold ix
  omega
theorem worthOf_X {N : Nat} {l : Int} (hl : l = 2 ∨ l = 13) {G : Gm} (hG : GOK G) {f d u x : Int} (hf : 0 ≤ f ∧ f < G.1 1) (hd : 0 ≤ d ∧ d ≤ G.1 0) (hu : 1 ≤ u ∧ u ≤ G.1 2) (hx : 0 ≤ x ∧ x ≤ u) {μ : Mm} (hK : KR μ) (hT : TX l G μ) : jX1_worthOf N l f d u x μ = some (wrt G f d u x, μ) := by
  obtain ⟨g1, g2, g3, g4, g5, g6, g7⟩ := id hG
  obtain ⟨⟨K1, K2⟩, ⟨K3, K4, K5, K6, K7, K8⟩, r6, r7, r8, r9, r10, r11, r14⟩ := LK.of hK hl
  have hix : 0 ≤ ix f d u x ∧ ix f d u x < 1280 := by unfold ix; omega
  unfold jX1_worthOf
  rw [index_X (by omega) (by omega) (by omega) (by omega), b2_e, if_neg (by omega), r14, len_e K8 (by decide) (by decide), ob_e, if_pos (by omega), ald_e K8 (by omega) (by omega), ob_e]
  have := hT f d u x (by omega) (by omega) (by omega) (by omega) (by omega) (by omega) (by omega) (by omega)
  unfold jX1_worthOf_36
  rw [show m_gt μ (l + 10) (ix f d u x) = wrt G f d u x from this]
/-- what a frame earns, clean by its k-th roll; 0 when it is not clean -/
def ern (G : Gm) (k : Int) : Int := if 1 ≤ k ∧ k ≤ 3 then G.1 (3 + k) else 0
theorem ern_ok {G : Gm} (hG : GOK G) (k : Int) : 0 ≤ ern G k ∧ ern G k ≤ 3 := by
  unfold ern
  split
  · exact hG.2.2.2.2.1 _ (by omega) (by omega)
  · omega
theorem earnedBy_X {N : Nat} {l : Int} (hl : l = 2 ∨ l = 13) {G : Gm} {k : Int} {μ : Mm} (hK : KR μ) (hL : LX l G μ) : jX1_earnedBy N l k μ = some (ern G k, μ) := by
  obtain ⟨⟨K1, K2⟩, ⟨K3, K4, K5, K6, K7, K8⟩, r6, r7, r8, r9, r10, r11, r14⟩ := LK.of hK hl
  have hr := hL.2.1.2.1
  unfold jX1_earnedBy ern
  by_cases c : k < 0
  · rw [if_pos c, if_neg (by omega)]; rfl
  · rw [if_neg c, r7, len_e K3 (by decide) (by decide), ob_e]
    by_cases c2 : k < 4
    · rw [if_pos (by omega), ald_e K3 (by omega) (by omega), ob_e]
      have : k = 0 ∨ k = 1 ∨ k = 2 ∨ k = 3 := by omega
      rcases this with rfl | rfl | rfl | rfl
      · rw [hr.get (i := 0) (j := 0) rfl rfl]; rfl
      · rw [hr.get (i := 1) (j := 1) rfl rfl]; rfl
      · rw [hr.get (i := 2) (j := 2) rfl rfl]; rfl
      · rw [hr.get (i := 3) (j := 3) rfl rfl]; rfl
    · rw [if_neg (by omega), if_neg (by omega)]; rfl
/-- the reference's row of what is earned, from place 4 on -/
theorem earns_M {G : Gm} {μ : Mm} (hL : GM G μ) {k : Int} (h0 : 0 ≤ k) (h1 : k ≤ 3) : m_gt μ 78 (4 + k) = ern G k := by
  have hr := hL.2.1.2.1
  have : k = 0 ∨ k = 1 ∨ k = 2 ∨ k = 3 := by omega
  rcases this with rfl | rfl | rfl | rfl
  · rw [hr.get (i := 0) (j := 4 + 0) rfl rfl]; rfl
  · rw [hr.get (i := 1) (j := 4 + 1) rfl rfl]; rfl
  · rw [hr.get (i := 2) (j := 4 + 2) rfl rfl]; rfl
  · rw [hr.get (i := 3) (j := 4 + 3) rfl rfl]; rfl
