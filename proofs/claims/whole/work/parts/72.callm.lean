/-! ===== PURE: the reference's calls of the sheet ===== -/
def wGT : List Int := [90, 91, 92, 93, 94]
def oGT : List (Int × Int) := [(50, 65), (50, 66), (50, 67), (50, 68)]
theorem GT.ag {G : Gm} {R : List Int} {μ μ' : Mm} (h : GT G R μ) (g : Ag wGT oGT μ μ') : GT G R μ' := by
  obtain ⟨h1, ⟨h2, h3, h4⟩, h5, h6, h7, h8⟩ := h
  have c : ∀ r, 90 ≤ r → r ≤ 94 → ∀ i, m_gt μ' r i = m_gt μ r i := by
    intro r q1 q2 i
    have hr : r = 90 ∨ r = 91 ∨ r = 92 ∨ r = 93 ∨ r = 94 := by omega
    exact g.1 r (by rcases hr with rfl | rfl | rfl | rfl | rfl <;> decide) i
  have o : ∀ i, 65 ≤ i → i ≤ 68 → m_gt μ' 50 i = m_gt μ 50 i := by
    intro i q1 q2
    have hr : i = 65 ∨ i = 66 ∨ i = 67 ∨ i = 68 := by omega
    exact g.2 (50, i) (by rcases hr with rfl | rfl | rfl | rfl <;> decide)
  refine ⟨fun f hf => (h1 f hf).ex (fun r q1 q2 => c r q1 q2 f), ⟨?_, ?_, ?_⟩, fun z => ?_, ?_, ?_, ?_⟩
  · rw [o 65 (by decide) (by decide)]; exact h2
  · rw [c 90 (by decide) (by decide)]; exact h3
  · rw [c 91 (by decide) (by decide)]; exact h4
  · rw [c 92 (by decide) (by decide), c 93 (by decide) (by decide), c 94 (by decide) (by decide)]; exact h5 z
  · rw [o 66 (by decide) (by decide)]; exact h6
  · rw [o 67 (by decide) (by decide)]; exact h7
  · rw [o 68 (by decide) (by decide)]; exact h8
/-- all that the reference's sheet wants -/
def MC (G : Gm) (R : List Int) (μ : Mm) : Prop := (GOK G ∧ VR G R) ∧ KR μ ∧ GM G μ ∧ RM R μ
theorem MC.go {N : Nat} (hN : 1000000 ≤ N) {G : Gm} {R : List Int} {μ : Mm} (h : MC G R μ) : ∃ μ', jX8_goesThrough N 50 μ = some μ' ∧ GT G R μ' ∧ MC G R μ' ∧ Fr fGo sGo μ μ' := by
  obtain ⟨μ', e1, e2, e3⟩ := goesThrough_M hN h.1.1 h.1.2 h.2.1 h.2.2.1 h.2.2.2
  exact ⟨μ', e1, e2, ⟨h.1, e3.KR h.2.1 (by decide), h.2.2.1.ag (e3.ag (by decide)), h.2.2.2.ag (e3.ag (by decide))⟩, e3⟩
theorem isIn_i {N : Nat} {v a b : Int} {μ : Mm} (hv : okI v) (hb : okI b) : jX8_isIn N (i_2l v) a (i_2l b) μ = some (if a ≤ v ∧ v ≤ b then 1 else 0, μ) := by rw [i_2l_e hv.1 hv.2, i_2l_e hb.1 hb.2, isIn_M]
theorem RM_push {R : List Int} {μ : Mm} (h : RM R μ) (n : Int) : RM (R ++ [n]) (m_st (m_st (m_st μ 89 R.length n) 50 58 (R.length + 1)) 50 72 0) := by
  refine ⟨?_, ?_⟩
  · simp (disch := omega) only [gt_i, gt_same]
    rw [List.length_append, List.length_singleton]
    omega
  · have := Row.push h.2 n
    rw [Int.zero_add] at this
    exact this.ext (fun i => by simp (disch := omega) only [gt_r])
theorem roll_M {N : Nat} (hN : 1000000 ≤ N) {G : Gm} {R : List Int} {μ : Mm} (h : MC G R μ) {n : Int} (hn : okI n) : ∃ μ', jX8_roll N 50 n μ = some (rlA G R n, μ') ∧ RM (rlR G R n) μ' ∧ (rlA G R n = 0 → Fr fGo sGo μ μ') ∧ (rlA G R n = 1 → m_gt μ' 50 72 = 0) ∧ Fr (89 :: fGo) ((50, 58) :: (50, 72) :: sGo) μ μ' ∧ ∀ j, j ≠ (R.length : Int) → m_gt μ' 89 j = m_gt μ 89 j := by
  obtain ⟨μ1, e1, e2, e3, e4⟩ := h.go hN
  have hO := h.1.2.ok h.1.1
  have hst := sta_ok h.1.1 hO
  have hp := h.1.1.1
  obtain ⟨⟨hG, hV⟩, hK, hM, hR⟩ := e3
  have hl := R_len hG hV
  unfold jX8_roll jX8_roll_31
  rw [e1, ob_e, e2.2.2.2.2.2, e2.2.2.2.1, isIn_i hn ⟨by omega, by omega⟩, b2_e]
  have fr : Fr (89 :: fGo) ((50, 58) :: (50, 72) :: sGo) μ μ1 := e4.mono (by decide) (by decide)
  have u : ∀ j, m_gt μ1 89 j = m_gt μ 89 j := fun j => e4.2.2 89 j (by decide) (by simp [sGo])
  by_cases C : whi G (spl G R) = 0 ∧ (n = -2 ∨ 0 ≤ n ∧ n ≤ sta G (spl G R))
  · have hw : whole G (spl G R) → False := whi_iff.mp C.1
    have hcr := cnt_R hG hO hw
    have hsl := spl_len G R
    have e33 : jX8_roll_33 N 50 n μ1 = some (1, m_st (m_st (m_st μ1 89 R.length n) 50 58 (R.length + 1)) 50 72 0) := by
      unfold jX8_roll_33
      simp (disch := omega) only [hR.1, r_50_59 hK, ald_e (k_89 hK), ast_e (k_89 hK), len_e (k_89 hK) (by decide) (by decide), bnd_e, b2_e, ob_e, gt_same, gt_r, gt_i, i_add_e, i_sub_e, chk_st, len_st, ald_st, ast_st]
    have eA : rlA G R n = 1 := if_pos C
    have eR : rlR G R n = R ++ [n] := if_pos C
    rw [eA, eR, if_neg (not_not_intro C.1)]
    have fin : ∃ μ', jX8_roll_33 N 50 n μ1 = some (1, μ') ∧ RM (R ++ [n]) μ' ∧ ((1 : Int) = 0 → Fr fGo sGo μ μ') ∧ ((1 : Int) = 1 → m_gt μ' 50 72 = 0) ∧ Fr (89 :: fGo) ((50, 58) :: (50, 72) :: sGo) μ μ' ∧ ∀ j, j ≠ (R.length : Int) → m_gt μ' 89 j = m_gt μ 89 j := by
      refine ⟨_, e33, RM_push hR n, fun z => by omega, fun _ => gt_same _ _ _ _, ((fr.stI (by simp)).stI (by simp)).stI (by simp), fun j hj => ?_⟩
      simp (disch := omega) only [gt_r, gt_i]
      exact u j
    by_cases c : n = -2
    · rw [if_pos c]; exact fin
    · rw [if_neg c, if_pos (show 0 ≤ n ∧ n ≤ sta G (spl G R) by omega), if_pos (by decide)]; exact fin
  · have eA : rlA G R n = 0 := if_neg C
    have eR : rlR G R n = R := if_neg C
    rw [eA, eR]
    refine ⟨μ1, ?_, hR, fun _ => e4, fun z => by omega, fr, fun j _ => u j⟩
    by_cases c : whi G (spl G R) = 0
    · rw [if_neg (not_not_intro c), if_neg (fun z => C ⟨c, Or.inl z⟩), if_neg (show ¬ (0 ≤ n ∧ n ≤ sta G (spl G R)) from fun z => C ⟨c, Or.inr z⟩), if_neg (by decide)]
    · rw [if_pos c]
theorem back_M {N : Nat} {R : List Int} {μ : Mm} (hR : RM R μ) (hl : R.length ≤ 27) : ∃ μ', jX8_back N 50 μ = some (if R.length = 0 then 0 else 1, μ') ∧ RM (R.take (R.length - 1)) μ' ∧ (R.length = 0 → μ' = μ) ∧ (R.length ≠ 0 → m_gt μ' 50 78 = 0 ∧ m_gt μ' 50 72 = 0) ∧ Fr [] [(50, 58), (50, 72), (50, 78)] μ μ' := by
  unfold jX8_back
  rw [hR.1]
  by_cases c : R.length = 0
  · rw [if_neg (by omega), if_pos c]
    have : R = [] := List.length_eq_zero_iff.mp c
    subst this
    exact ⟨μ, rfl, hR, fun _ => rfl, fun z => absurd rfl z, Fr.rf0 _ _ _⟩
  · rw [if_pos (by omega), if_neg c, bnd_e, bnd_e, bnd_e, i_sub_e (by omega) (by omega)]
    refine ⟨_, rfl, ⟨?_, ?_⟩, fun z => absurd z c, fun _ => ⟨?_, gt_same _ _ _ _⟩, Fr.stI (Fr.stI (Fr.stI (Fr.rf0 _ _ _) (by simp)) (by simp)) (by simp)⟩
    · simp (disch := omega) only [gt_i, gt_same]
      rw [List.length_take]
      omega
    · exact (hR.2.take _).ext (fun i => by simp (disch := omega) only [gt_r])
    · simp (disch := omega) only [gt_i, gt_same]
theorem clear_M {N : Nat} {R : List Int} {μ : Mm} (hR : RM R μ) : ∃ μ', jX8_clear N 50 μ = some ((R.length : Int), μ') ∧ RM [] μ' ∧ (m_gt μ' 50 78 = 0 ∧ m_gt μ' 50 72 = 0) ∧ Fr [] [(50, 58), (50, 72), (50, 78)] μ μ' := by
  unfold jX8_clear
  rw [bnd_e, bnd_e, bnd_e, bnd_e, hR.1]
  refine ⟨_, rfl, ⟨?_, Row.nil _ _ _⟩, ⟨?_, gt_same _ _ _ _⟩, Fr.stI (Fr.stI (Fr.stI (Fr.rf0 _ _ _) (by simp)) (by simp)) (by simp)⟩
  · simp (disch := omega) only [gt_i, gt_same]
    rfl
  · simp (disch := omega) only [gt_i, gt_same]
theorem sheet_M {N : Nat} (hN : 1000000 ≤ N) {G : Gm} {R : List Int} {μ : Mm} (h : MC G R μ) (w : Int) : ∃ μ', jX8_sheet N 50 w μ = some (shA G R w, μ') ∧ Fr fGo sGo μ μ' := by
  obtain ⟨μ1, e1, e2, e3, e4⟩ := h.go hN
  obtain ⟨h1, ⟨h2, h3, h4⟩, h5, h6, h7, h8⟩ := e2
  have hK := e3.2.1
  have hO := (h.1.2.ok h.1.1).2.1
  have hf := h.1.1.2.1
  refine ⟨μ1, ?_, e4⟩
  unfold jX8_sheet jX8_sheet_64 jX8_sheet_85 jX8_sheet_101 jX8_sheet_114 shA
  rw [e1, ob_e, e3.2.2.2.1, h2, h8, h6, h7, r_50_61 hK, ald_e (k_91 hK) (by omega) (by omega), ob_e, h4, ites, ites, ites, ites]
  repeat' split
  all_goals rfl
theorem rolled_M {N : Nat} {R : List Int} {μ : Mm} (hK : KR μ) (hR : RM R μ) (hl : R.length ≤ 27) {i : Int} (hi : okI i) : jX8_rolled N 50 i μ = some (rA R i, μ) := by
  unfold jX8_rolled jX8_rolled_26 rA
  rw [hR.1, i_sub_e (by omega) (by omega), isIn_i hi ⟨by omega, by omega⟩, b2_e]
  by_cases c : 0 ≤ i ∧ i < R.length
  · rw [if_pos (show 0 ≤ i ∧ i ≤ (R.length : Int) - 1 by omega), if_neg (by decide), if_pos c, r_50_59 hK, ald_e (k_89 hK) (by omega) (by omega), ob_e, hR.2.at (by omega) (by omega)]
    simp
  · rw [if_neg (show ¬ (0 ≤ i ∧ i ≤ (R.length : Int) - 1) by omega), if_pos rfl, if_neg c]
theorem GT.at {G : Gm} {R : List Int} {μ : Mm} (h : GT G R μ) {f : Int} (h0 : 0 ≤ f) (h1 : f ≤ (spl G R).1.length) (h2 : f < G.1 1) (hG : GOK G) (hV : VR G R) : At f (fR (spl G R) f) (fra (spl G R) f).length (cln G (fra (spl G R) f)) (dn (fra (spl G R) f)) (fls (fra (spl G R) f)) μ := by
  obtain ⟨g1, ⟨g2, g3, g4⟩, g5, g6, g7, g8⟩ := h
  have efr : fR (spl G R) f = lens ((spl G R).1.take f.toNat) := by unfold fR; rw [if_neg (by omega)]
  rw [efr]
  by_cases c : f < (spl G R).1.length
  · have := g1 f.toNat (by omega)
    rw [show ((f.toNat : Nat) : Int) = f by omega] at this
    have e : fra (spl G R) f = (spl G R).1.getD f.toNat [] := by unfold fra; rw [if_neg (by omega), if_pos c]
    rw [e]
    exact this
  · have ef : f = (spl G R).1.length := by omega
    have e : fra (spl G R) f = (spl G R).2 := by unfold fra; rw [if_neg (by omega), if_neg c, if_pos ef]
    rw [e, List.take_of_length_le (by omega), ef]
    obtain ⟨p1, p2, p3⟩ := g5 (by omega)
    have hd := ((hV.ok hG).2.2.2.1 (by omega)).1
    have ec : cln G (spl G R).2 = 0 := by unfold cln; rw [if_neg (by omega)]
    rw [ec]
    exact ⟨g3, g4, p1, p2, p3⟩
theorem frame_M {N : Nat} (hN : 1000000 ≤ N) {G : Gm} {R : List Int} {μ : Mm} (h : MC G R μ) {f w : Int} (hf : okI f) : ∃ μ', jX8_frame N 50 f w μ = some (frA G (spl G R) f w, μ') ∧ Fr fGo sGo μ μ' := by
  obtain ⟨μ1, e1, e2, e3, e4⟩ := h.go hN
  have hK := e3.2.1
  have hO := (h.1.2.ok h.1.1).2.1
  have hg := h.1.1.2.1
  refine ⟨μ1, ?_, e4⟩
  unfold jX8_frame jX8_frame_39 frA
  rw [e1, ob_e, r_50_32 hK, ald_e (k_75 hK) (by decide) (by decide), ob_e, e3.2.2.1.1.2.1, i_sub_e (by omega) (by omega), isIn_i hf ⟨by omega, by omega⟩, b2_e, e2.2.1.1]
  by_cases c : 0 ≤ f ∧ f < G.1 1
  · rw [if_pos (show 0 ≤ f ∧ f ≤ G.1 1 - 1 by omega), if_neg (show ¬ ((1 : Int) = 0) by decide)]
    by_cases c1 : ((spl G R).1.length : Int) < f
    · rw [if_pos c1, if_neg (show ¬ (0 ≤ f ∧ f < G.1 1 ∧ f ≤ (spl G R).1.length ∧ ((fra (spl G R) f).length : Int) ≠ 0) by omega)]
    · obtain ⟨a0, a1, a2, a3, a4⟩ := e2.at c.1 (by omega) c.2 h.1.1 h.1.2
      rw [if_neg c1]
      simp (disch := omega) only [a1, a2, a3, a4, r_50_61 hK, r_50_62 hK, r_50_63 hK, r_50_64 hK, ald_e (k_91 hK), ast_e (k_91 hK), len_e (k_91 hK) (by decide) (by decide), ald_e (k_92 hK), ast_e (k_92 hK), len_e (k_92 hK) (by decide) (by decide), ald_e (k_93 hK), ast_e (k_93 hK), len_e (k_93 hK) (by decide) (by decide), ald_e (k_94 hK), ast_e (k_94 hK), len_e (k_94 hK) (by decide) (by decide), bnd_e, b2_e, ob_e, gt_same, gt_r, gt_i, i_add_e, i_sub_e, chk_st, len_st, ald_st, ast_st]
      by_cases c2 : ((fra (spl G R) f).length : Int) = 0
      · rw [if_neg (not_not_intro c2), if_neg (fun z => z.2.2.2 c2)]
      · rw [if_pos c2, if_pos (show 0 ≤ f ∧ f < G.1 1 ∧ f ≤ (spl G R).1.length ∧ ((fra (spl G R) f).length : Int) ≠ 0 from ⟨c.1, c.2, by omega, c2⟩)]
        repeat' split
        all_goals rfl
  · rw [if_neg (show ¬ (0 ≤ f ∧ f ≤ G.1 1 - 1) by omega), if_pos rfl, if_neg (show ¬ (0 ≤ f ∧ f < G.1 1 ∧ f ≤ (spl G R).1.length ∧ ((fra (spl G R) f).length : Int) ≠ 0) from fun z => c ⟨z.1, z.2.1⟩)]
/-- what is left behind points -/
def Pf (μ μ' : Mm) : Prop := Fr [88] pfs μ μ'
theorem MC.pf {G : Gm} {R : List Int} {μ μ' : Mm} (h : MC G R μ) (f : Fr [88] pfs μ μ') : MC G R μ' := ⟨h.1, f.KR h.2.1 (by decide), h.2.2.1.ag (f.ag (by decide)), h.2.2.2.ag (f.ag (by decide))⟩
theorem GT.pf {G : Gm} {R : List Int} {μ μ' : Mm} (h : GT G R μ) (f : Fr [88] pfs μ μ') : GT G R μ' := h.ag (f.ag (by decide))
theorem pointsOf_loop {N : Nat} {G : Gm} {R : List Int} {f : Int} (h0 : 0 ≤ f) (h1 : f < (spl G R).1.length) {μ : Mm} (h : MC G R μ) (hT : GT G R μ) : ∀ (k n i : Nat) (v : Int), (i : Int) + k = fR (spl G R) (f + 1) + ow G (fra (spl G R) f) → k < n → -1000 ≤ v → v ≤ 100 + 9 * i → jX8_pointsOf_62 N n 50 f v (fR (spl G R) (f + 1)) i μ = some (v + dn ((R.drop i).take k), μ)
  | k, 0, i, v, hi, hn, _, _ => absurd hn (by omega)
  | 0, n + 1, i, v, hi, hn, q0, q1 => by
    have hG := h.1.1
    have hV := h.1.2
    have hO := (hV.ok hG).2.1
    have hs := fra_sz hG hV h0 (by omega)
    have hg := hG.2.1
    have hfR := fR_ok (spl G R) (f + 1)
    have hl := R_len hG hV
    have hsl := spl_len G R
    have hw := ern_ok hG (cln G (fra (spl G R) f))
    have hwe : ow G (fra (spl G R) f) = ern G (cln G (fra (spl G R) f)) := rfl
    show jX8_pointsOf_62b (jX8_pointsOf_62 N n) N 50 f v (fR (spl G R) (f + 1)) i μ = _
    unfold jX8_pointsOf_62b jX8_pointsOf_102
    rw [owed_M h.2.1 h.2.2.1 (by omega) hs (hT.at h0 (by omega) (by omega) hG hV), b2_e, i_add_e (by omega) (by omega), if_pos (by omega)]
    simp [dn, lsum]
  | k + 1, n + 1, i, v, hi, hn, q0, q1 => by
    have hG := h.1.1
    have hV := h.1.2
    have hO := (hV.ok hG).2.1
    have hs := fra_sz hG hV h0 (by omega)
    have hg := hG.2.1
    have hfR := fR_ok (spl G R) (f + 1)
    have hl := R_len hG hV
    have hsl := spl_len G R
    have hw := ern_ok hG (cln G (fra (spl G R) f))
    have hwe : ow G (fra (spl G R) f) = ern G (cln G (fra (spl G R) f)) := rfl
    have hK := h.2.1
    have hR := h.2.2.2
    show jX8_pointsOf_62b (jX8_pointsOf_62 N n) N 50 f v (fR (spl G R) (f + 1)) i μ = _
    unfold jX8_pointsOf_62b jX8_pointsOf_102
    rw [owed_M h.2.1 h.2.2.1 (by omega) hs (hT.at h0 (by omega) (by omega) hG hV), b2_e, i_add_e (by omega) (by omega), if_neg (by omega), hR.1]
    by_cases c : (R.length : Int) ≤ i
    · rw [if_pos c, List.drop_eq_nil_of_le (by omega)]
      simp [dn, lsum]
    · have hi2 : i < R.length := by omega
      have hk : R[i]? = some R[i] := List.getElem?_eq_getElem hi2
      have e89 : m_gt μ 89 i = R[i] := hR.2.get hk (by omega)
      have hx := R_rok hG hV R[i] (List.getElem_mem hi2)
      have ht := tk_ok hx
      rw [if_neg c, r_50_59 hK, ald_e (k_89 hK) (by omega) (by omega), ob_e, e89, taken_M, b2_e, bnd_e, bnd_e, i_add_e (by omega) (by omega), i_add_e (by omega) (by omega), show (i : Int) + 1 = ((i + 1 : Nat) : Int) by omega, pointsOf_loop h0 h1 h hT k n (i + 1) (v + tk R[i]) (by omega) (by omega) (by omega) (by omega), List.drop_eq_getElem_cons hi2, List.take_succ_cons]
      simp only [dn, List.map_cons, lsum]
      congr 2
      omega
theorem pointsOf_M {N : Nat} (hN : 1000000 ≤ N) {G : Gm} {R : List Int} {f : Int} (h0 : 0 ≤ f) (h1 : f < (spl G R).1.length) {μ : Mm} (h : MC G R μ) (hT : GT G R μ) : ∃ μ', jX8_pointsOf N 50 f μ = some (pts G (spl G R) f, μ') ∧ Fr [88] pfs μ μ' := by
  have hG := h.1.1
  have hV := h.1.2
  have hO := hV.ok hG
  have hn := hO.2.1
  have hg := hG.2.1
  have hA := hT.at h0 (by omega) (by omega) hG hV
  obtain ⟨a0, a1, a2, a3, a4⟩ := hA
  have hF := fra_FO hO h0 h1
  have hfl := fls_ok (fra (spl G R) f)
  have hc := hG.2.2.2.1
  have hd := dn_nn hF.1
  have hwr := wrt_ok G f (dn (fra (spl G R) f)) (fra (spl G R) f).length (fls (fra (spl G R) f))
  have hr := hG.2.2.1
  have hl := hF.2.2.1
  have hd2 := hF.2.2.2.1
  have hp := hG.1
  have m1 : 0 ≤ fls (fra (spl G R) f) * G.1 3 := Int.mul_nonneg hfl.1 hc.1
  have m2 : fls (fra (spl G R) f) * G.1 3 ≤ 3 * 10 := Int.mul_le_mul (by omega) hc.2 hc.1 (by omega)
  have mc : G.1 3 * fls (fra (spl G R) f) = fls (fra (spl G R) f) * G.1 3 := Int.mul_comm _ _
  have hK := h.2.1
  have hM := h.2.2.1
  have hw := ern_ok hG (cln G (fra (spl G R) f))
  have hwe : ow G (fra (spl G R) f) = ern G (cln G (fra (spl G R) f)) := rfl
  have hfR := fR_ok (spl G R) (f + 1)
  have hfR0 := fR_ok (spl G R) f
  have hl27 := R_len hG hV
  have hsl := spl_len G R
  have he := fra_len (s := spl G R) h0
  obtain ⟨μ1, e1, f1⟩ := worthOf_M (N := N) hN hG.2.2.2.2.2.1 (f := f) (d := dn (fra (spl G R) f)) (u := (fra (spl G R) f).length) (x := fls (fra (spl G R) f)) (by omega) (by omega) (by omega) (by omega) hK hM
  have h' := h.pf f1
  have T' := hT.pf f1
  obtain ⟨b0, b1, b2, b3, b4⟩ := T'.at h0 (by omega) (by omega) hG hV
  have K1 := h'.2.1
  refine ⟨μ1, ?_, f1⟩
  unfold jX8_pointsOf
  simp (disch := omega) only [a1, a3, a4, hM.1.2.2.2.1, r_50_34 hK, r_50_61 hK, r_50_63 hK, r_50_64 hK, ald_e (k_77 hK), ast_e (k_77 hK), len_e (k_77 hK) (by decide) (by decide), ald_e (k_91 hK), ast_e (k_91 hK), len_e (k_91 hK) (by decide) (by decide), ald_e (k_93 hK), ast_e (k_93 hK), len_e (k_93 hK) (by decide) (by decide), ald_e (k_94 hK), ast_e (k_94 hK), len_e (k_94 hK) (by decide) (by decide), bnd_e, b2_e, ob_e, gt_same, gt_r, gt_i, i_add_e, i_sub_e, chk_st, len_st, ald_st, ast_st, e1, b0, b1, r_50_60 K1, r_50_61 K1, ald_e (k_90 K1), ast_e (k_90 K1), len_e (k_90 K1) (by decide) (by decide), ald_e (k_91 K1), ast_e (k_91 K1), len_e (k_91 K1) (by decide) (by decide), i_mul_e]
  rw [show fR (spl G R) f + ((fra (spl G R) f).length : Int) = fR (spl G R) (f + 1) by omega]
  have := pointsOf_loop (N := N) h0 h1 h' T' (ow G (fra (spl G R) f)).toNat N (fR (spl G R) (f + 1)).toNat (dn (fra (spl G R) f) - G.1 3 * fls (fra (spl G R) f) + wrt G f (dn (fra (spl G R) f)) (fra (spl G R) f).length (fls (fra (spl G R) f))) (by omega) (by omega) (by omega) (by omega)
  rw [show (((fR (spl G R) (f + 1)).toNat : Nat) : Int) = fR (spl G R) (f + 1) by omega, R_drop (by omega) (by omega)] at this
  rw [this]
  unfold pts
  congr 2
  omega
theorem points_M {N : Nat} (hN : 1000000 ≤ N) {G : Gm} {R : List Int} {μ : Mm} (h : MC G R μ) {f : Int} (hf : okI f) : ∃ μ', jX8_points N 50 f μ = some (ptA G (spl G R) f, μ') ∧ Fr (88 :: fGo) (pfs ++ sGo) μ μ' := by
  obtain ⟨μ1, e1, e2, e3, e4⟩ := h.go hN
  have hK := e3.2.1
  have hG := h.1.1
  have hV := h.1.2
  have hO := (hV.ok hG).2.1
  have hg := hG.2.1
  have hfR := fR_ok (spl G R) (f + 1)
  have hl27 := R_len hG hV
  have hsl := spl_len G R
  have fr : Fr (88 :: fGo) (pfs ++ sGo) μ μ1 := e4.mono (by decide) (by decide)
  unfold jX8_points jX8_points_56 ptA
  rw [e1, ob_e, r_50_32 hK, ald_e (k_75 hK) (by decide) (by decide), ob_e, e3.2.2.1.1.2.1, i_sub_e (by omega) (by omega), isIn_i hf ⟨by omega, by omega⟩, b2_e, e2.2.1.1]
  by_cases c : 0 ≤ f ∧ f < (spl G R).1.length
  · rw [if_pos (show 0 ≤ f ∧ f ≤ G.1 1 - 1 by omega), if_neg (show ¬ ((1 : Int) = 0) by decide), if_neg (show ¬ ((spl G R).1.length : Int) ≤ f by omega)]
    have hA := e2.at c.1 (by omega) (by omega) hG hV
    have hs := fra_sz hG hV c.1 (by omega)
    have he := fra_len (s := spl G R) c.1
    have hfR0 := fR_ok (spl G R) f
    have hw := ern_ok hG (cln G (fra (spl G R) f))
    have hwe : ow G (fra (spl G R) f) = ern G (cln G (fra (spl G R) f)) := rfl
    rw [owed_M hK e3.2.2.1 (by omega) hs hA]
    obtain ⟨a0, a1, a2, a3, a4⟩ := hA
    have h58 := e3.2.2.2.1
    simp (disch := omega) only [a0, a1, h58, r_50_60 hK, r_50_61 hK, ald_e (k_90 hK), ast_e (k_90 hK), len_e (k_90 hK) (by decide) (by decide), ald_e (k_91 hK), ast_e (k_91 hK), len_e (k_91 hK) (by decide) (by decide), bnd_e, b2_e, ob_e, gt_same, gt_r, gt_i, i_add_e, i_sub_e, chk_st, len_st, ald_st, ast_st]
    by_cases z : fR (spl G R) (f + 1) + ow G (fra (spl G R) f) ≤ lens (spl G R).1 + (spl G R).2.length
    · have es : setI G (spl G R) f = 1 := if_pos ⟨c.1, c.2, z⟩
      obtain ⟨μ2, g1, g2⟩ := pointsOf_M hN c.1 c.2 e3 e2
      rw [if_pos (by omega), es, if_neg (by decide), g1, b2_e]
      exact ⟨μ2, rfl, fr.trI (g2.mono (by decide) (by decide))⟩
    · have es : setI G (spl G R) f = 0 := if_neg (fun q => z q.2.2)
      rw [if_neg (by omega), es, if_pos rfl]
      exact ⟨μ1, rfl, fr⟩
  · have es : setI G (spl G R) f = 0 := if_neg (fun q => c ⟨q.1, q.2.1⟩)
    rw [es, if_pos (show (0 : Int) = 0 from rfl)]
    refine ⟨μ1, ?_, fr⟩
    by_cases c2 : 0 ≤ f ∧ f ≤ G.1 1 - 1
    · rw [if_pos c2, if_neg (show ¬ ((1 : Int) = 0) by decide), if_pos (show ((spl G R).1.length : Int) ≤ f by omega)]
    · rw [if_neg c2, if_pos rfl]
theorem soFar_loop {N : Nat} (hN : 1000000 ≤ N) {G : Gm} {R : List Int} : ∀ (k n i : Nat) {μ : Mm}, i + k = (spl G R).1.length → k < n → MC G R μ → GT G R μ → ∃ μ', jX8_soFar_4 N n 50 (psm G (spl G R) i) i μ = some (psm G (spl G R) (spl G R).1.length, μ') ∧ Fr [88] pfs μ μ'
  | k, 0, i, μ, hi, hn, _, _ => absurd hn (by omega)
  | 0, n + 1, i, μ, hi, hn, h, hT => by
    refine ⟨μ, ?_, Fr.rf0 _ _ _⟩
    show jX8_soFar_4b (jX8_soFar_4 N n) N 50 (psm G (spl G R) i) i μ = _
    unfold jX8_soFar_4b
    rw [hT.2.1.1, if_pos (by omega), show i = (spl G R).1.length by omega]
  | k + 1, n + 1, i, μ, hi, hn, h, hT => by
    have h1 := psm_ok h.1.1 h.1.2 i (by omega)
    have h2 := pts_ok h.1.1 h.1.2 (f := i) (by omega) (by omega)
    have hO := (h.1.2.ok h.1.1).2.1
    have hg := h.1.1.2.1
    obtain ⟨μ1, e1, f1⟩ := pointsOf_M (N := N) hN (f := i) (by omega) (by omega) h hT
    obtain ⟨μ2, e2, f2⟩ := soFar_loop hN k n (i + 1) (by omega) (by omega) (h.pf f1) (hT.pf f1)
    refine ⟨μ2, ?_, f1.trI f2⟩
    show jX8_soFar_4b (jX8_soFar_4 N n) N 50 (psm G (spl G R) i) i μ = _
    unfold jX8_soFar_4b
    rw [hT.2.1.1, if_neg (by omega), e1, b2_e, bnd_e, bnd_e, i_add_e (by omega) (by omega), i_add_e (by omega) (by omega)]
    exact e2
theorem soFar_M {N : Nat} (hN : 1000000 ≤ N) {G : Gm} {R : List Int} {μ : Mm} (h : MC G R μ) (hT : GT G R μ) : ∃ μ', jX8_soFar N 50 μ = some (tot G (spl G R), μ') ∧ Fr [88] pfs μ μ' := by
  have hO := (h.1.2.ok h.1.1).2.1
  have hg := h.1.1.2.1
  exact soFar_loop hN (spl G R).1.length N 0 (by omega) (by omega) h hT
theorem total_M {N : Nat} (hN : 1000000 ≤ N) {G : Gm} {R : List Int} {μ : Mm} (h : MC G R μ) : ∃ μ', jX8_total N 50 μ = some (toA G (spl G R), μ') ∧ Fr (88 :: fGo) (pfs ++ sGo) μ μ' := by
  obtain ⟨μ1, e1, e2, e3, e4⟩ := h.go hN
  obtain ⟨μ2, g1, g2⟩ := soFar_M hN e3 e2
  have fr : Fr (88 :: fGo) (pfs ++ sGo) μ μ1 := e4.mono (by decide) (by decide)
  unfold jX8_total jX8_total_21 toA
  rw [e1, ob_e, e2.2.2.2.2.2, g1, b2_e]
  by_cases c : whi G (spl G R) = 0
  · rw [if_pos c, if_pos c]
    exact ⟨μ1, rfl, fr⟩
  · rw [if_neg c, if_neg c]
    exact ⟨μ2, rfl, fr.trI (g2.mono (by decide) (by decide))⟩
