/-! ===== PURE: an image taken ===== -/
def unb (x : Int) : Int := if x = 200 then -2 else x
/-- rolls put one behind another, as long as they can be -/
def addAll (G : Gm) : List Int → List Int → Option (List Int)
  | R, [] => some R
  | R, x :: l => if rlA G R x = 1 then addAll G (R ++ [x]) l else none
theorem addAll_ok {G : Gm} : ∀ (l R R' : List Int), VR G R → addAll G R l = some R' → R' = R ++ l ∧ VR G R'
  | [], R, R', h, e => by
    unfold addAll at e
    cases e
    exact ⟨by simp, h⟩
  | x :: l, R, R', h, e => by
    unfold addAll at e
    split at e
    · rename_i c
      have hr : rlR G R x = R ++ [x] := by
        unfold rlA at c
        unfold rlR
        split at c
        · rename_i q; rw [if_pos q]
        · omega
      have hv := h.rl x
      rw [hr] at hv
      obtain ⟨h1, h2⟩ := addAll_ok l (R ++ [x]) R' hv e
      exact ⟨by rw [h1]; simp, h2⟩
    · cases e
def imOK (T : List Int) : Prop := 2 ≤ T.length ∧ T.length ≤ 29 ∧ T.getD 0 0 = (T.length : Int) - 2 ∧ T.getD (T.length - 1) 0 = chb 11 (T.take (T.length - 1))
def imR (T : List Int) : List Int := ((T.take (T.length - 1)).drop 1).map unb
def onS (G : Gm) (T : List Int) : Option (List Int) := if 2 ≤ T.length ∧ T.length ≤ 29 ∧ T.getD 0 0 = (T.length : Int) - 2 ∧ T.getD (T.length - 1) 0 = chb 11 (T.take (T.length - 1)) then addAll G [] (imR T) else none
def onA (G : Gm) (T : List Int) : Int := if (onS G T).isSome then 1 else 0
def onR (G : Gm) (T R : List Int) : List Int := (onS G T).getD R
theorem rl1 {G : Gm} {R : List Int} {x : Int} (h : rlA G R x = 1) : rlR G R x = R ++ [x] := by
  unfold rlA at h
  unfold rlR
  split at h
  · rename_i q; rw [if_pos q]
  · omega
theorem rl_can {G : Gm} {R : List Int} {x : Int} : rlA G R x = 1 ↔ can G (spl G R) x := by
  rw [can_iff]
  unfold rlA
  split
  · exact ⟨fun _ => by assumption, fun _ => rfl⟩
  · exact ⟨fun z => by omega, fun z => by contradiction⟩
theorem rlA_01 (G : Gm) (R : List Int) (x : Int) : rlA G R x = 0 ∨ rlA G R x = 1 := by unfold rlA; split <;> simp
theorem isImage_X {N : Nat} (hN : 1000000 ≤ N) {T : List Int} (hT : TV T) {μ : Mm} (hK : KR μ) (hr : Row μ 1 0 T) : jX7_isImage N 0 T.length μ = some (if 2 ≤ T.length ∧ T.length ≤ 29 ∧ T.getD 0 0 = (T.length : Int) - 2 ∧ T.getD (T.length - 1) 0 = chb 11 (T.take (T.length - 1)) then 1 else 0, μ) := by
  have hl := hT.1
  unfold jX7_isImage jX7_isImage_26 jX7_isImage_54
  rw [r_0_10 hK, len_e (k_49 hK) (by decide) (by decide), ob_e, r_0_0 hK]
  by_cases c : (T.length : Int) < 2
  · rw [if_pos c, if_neg (fun z => by have := z.1; omega)]
  rw [if_neg c]
  by_cases c2 : ((29 : Nat) : Int) < T.length
  · rw [if_pos c2, if_neg (fun z => by have := z.2.1; omega)]
  have e0 : m_gt μ 1 0 = T.getD 0 0 := hr 0 (by omega)
  have e1 : m_gt μ 1 ((T.length : Int) - 1) = T.getD (T.length - 1) 0 := by
    have := hr (T.length - 1) (by omega)
    rw [← this]
    congr 1
    omega
  have hc := check_X (N := N) (k_1 hK) hr hT.2 hl (by omega) (b := T.length - 1) (by omega) (T.length - 1) N 0 11 (by omega) (by omega) (by omega)
  rw [List.drop_zero, show ((T.length - 1 : Nat) : Int) = (T.length : Int) - 1 by omega, show ((0 : Nat) : Int) = 0 from rfl] at hc
  unfold jX7_checkByte
  rw [if_neg c2]
  simp (disch := omega) only [e0, e1, ald_e (k_1 hK), ast_e (k_1 hK), len_e (k_1 hK) (by decide) (by decide), bnd_e, b2_e, ob_e, gt_same, gt_r, gt_i, i_add_e, i_sub_e, chk_st, len_st, ald_st, ast_st, hc, z_e (x := 0) (Or.inl rfl), z_e (x := 1) (Or.inr rfl)]
  by_cases c3 : T.getD 0 0 = (T.length : Int) - 2
  · rw [if_pos c3]
    by_cases c4 : T.getD (T.length - 1) 0 = chb 11 (T.take (T.length - 1))
    · rw [if_neg (not_not_intro c4), if_pos ⟨by omega, by omega, c3, c4⟩]
    · rw [if_pos c4, if_neg (fun z => c4 z.2.2.2)]
  · rw [if_neg c3, if_neg (fun z => c3 z.2.2.1)]
def onF (sh : Int) : List (Int × Int) := (0, 5) :: (0, 6) :: (33, 0) :: sFr sh
theorem imR_at {T : List Int} {i : Nat} (h1 : 1 ≤ i) (h2 : i < T.length - 1) : (imR T).drop (i - 1) = unb (T.getD i 0) :: (imR T).drop i := by
  have hl : i < (T.take (T.length - 1)).length := by rw [List.length_take]; omega
  have e : (imR T).drop (i - 1) = ((T.take (T.length - 1)).drop i).map unb := by
    unfold imR
    rw [← List.map_drop, List.drop_drop]
    congr 2
    omega
  have e2 : (imR T).drop i = ((T.take (T.length - 1)).drop (i + 1)).map unb := by
    unfold imR
    rw [← List.map_drop, List.drop_drop]
    congr 2
    omega
  rw [e, e2, List.drop_eq_getElem_cons hl, List.map_cons, List.getElem_take, List.getD_eq_getElem?_getD, List.getElem?_eq_getElem (by omega)]
  rfl
theorem imR_end {T : List Int} {i : Nat} (h2 : T.length - 1 ≤ i) : (imR T).drop (i - 1) = [] := by
  apply List.drop_eq_nil_of_le
  unfold imR
  rw [List.length_map, List.length_drop, List.length_take]
  omega
theorem on_Xl {N : Nat} (hN : 1000000 ≤ N) {sh sh' l : Int} (hs : sh = 26 ∨ sh = 29) (hs' : sh' = 26 ∨ sh' = 29) (hd : sh ≠ sh') (hl : l = 2 ∨ l = 13) {G : Gm} (hG : GOK G) {T : List Int} (hT : TV T) : ∀ (k n i : Nat) (R : List Int) {μ : Mm}, i + k + 1 = T.length → 1 ≤ i → k < n → VR G R → KR μ → LX l G μ → SX sh' l G R (spl G R) μ → m_gt μ 0 5 = sh → m_gt μ 0 6 = sh' → Row μ 1 0 T → (∃ R', addAll G R ((imR T).drop (i - 1)) = some R' ∧ ∃ μ', jX7_on_33 N n 0 T.length i μ = some (1, μ') ∧ SX sh' l G R' (spl G R') μ' ∧ m_gt μ' 0 5 = sh' ∧ m_gt μ' 0 6 = sh ∧ TN μ' ∧ Fr [sh' + 1, sh' + 2, 32] (onF sh') μ μ') ∨ (addAll G R ((imR T).drop (i - 1)) = none ∧ ∃ μ', jX7_on_33 N n 0 T.length i μ = some (0, μ') ∧ Fr [sh' + 1, sh' + 2] (sFr sh') μ μ')
  | k, 0, i, R, μ, hi, h1, hn, _, _, _, _, _, _, _ => absurd hn (by omega)
  | 0, n + 1, i, R, μ, hi, h1, hn, hV, hK, hL, hS, h5, h6, hr => by
    left
    have hl7 := hT.1
    refine ⟨R, by rw [imR_end (by omega)]; rfl, ?_⟩
    have f1 : Fr [sh' + 1, sh' + 2, 32] (onF sh') μ (m_st (m_st μ 0 5 sh') 0 6 sh) := Fr.stI (Fr.stI (Fr.rf0 _ _ _) (by simp [onF])) (by simp [onF])
    have K1 : KR (m_st (m_st μ 0 5 sh') 0 6 sh) := (hK.st _ (by decide)).st _ (by decide)
    obtain ⟨μ', g1, g2, g3⟩ := sheetIsNew_X hN K1
    refine ⟨μ', ?_, ?_, ?_, ?_, g2, f1.trI (g3.mono (by simp) (by simp [onF]))⟩
    · show jX7_on_33b (jX7_on_33 N n) N 0 T.length i μ = _
      unfold jX7_on_33b
      rw [i_sub_e (by omega) (by omega), if_pos (by omega), bnd_e, bnd_e, h5, h6, g1, ob_e]
    · refine SX_new hs' (hS.ext (fun r j hrj => ?_)) g3
      simp (disch := omega) only [gt_r]
    · rw [g3.2.2 0 5 (by decide) (by decide)]
      simp (disch := omega) only [gt_same, gt_i]
    · rw [g3.2.2 0 6 (by decide) (by decide)]
      simp (disch := omega) only [gt_same, gt_i]
  | k + 1, n + 1, i, R, μ, hi, h1, hn, hV, hK, hL, hS, h5, h6, hr => by
    have hl7 := hT.1
    have e : m_gt μ 1 i = T.getD i 0 := by have := hr i (by omega); rw [Int.zero_add] at this; exact this
    rw [imR_at h1 (by omega)]
    have q1 := (SK.of hK hs').1
    have step : jX7_on_33 N (n + 1) 0 T.length i μ = b2 (jX5_add N sh' (unb (T.getD i 0)) μ) fun x1 μ1 => if ¬ x1 = 0 then jX7_on_33 N n 0 T.length ((i : Int) + 1) μ1 else some (0, μ1) := by
      show jX7_on_33b (jX7_on_33 N n) N 0 T.length i μ = _
      unfold jX7_on_33b jX7_on_63
      simp (disch := omega) only [r_0_0 hK, e, h6, chk_e q1, ald_e (k_1 hK), ast_e (k_1 hK), len_e (k_1 hK) (by decide) (by decide), bnd_e, b2_e, ob_e, gt_same, gt_r, gt_i, i_add_e, i_sub_e, chk_st, len_st, ald_st, ast_st, if_neg]
      unfold unb
      by_cases z : T.getD i 0 = 200
      · rw [if_neg (not_not_intro z), if_pos z]
      · rw [if_pos z, if_neg z]
    rw [step]
    rcases rlA_01 G R (unb (T.getD i 0)) with c | c
    · right
      refine ⟨by unfold addAll; rw [if_neg (by omega)], μ, ?_, Fr.rf0 _ _ _⟩
      rw [add_X0 hl hG hK hL (hV.ok hG) (spl_len G R) hS (fun z => by have := rl_can.mpr z; omega), b2_e, if_neg (by decide)]
    · obtain ⟨μ1, a1, a2, a3, a4⟩ := add_X (N := N) hs' hl hG hK hL (hV.ok hG) (spl_len G R) hS (rl_can.mp c)
      rw [← spl_snoc] at a2
      have g : ∀ r j : Int, r = 0 ∨ r = 1 → m_gt μ1 r j = m_gt μ r j := fun r j hrj => a3.2.2 r j (by simp; omega) (by simp [sFr]; omega)
      have hv := hV.snoc (rl_can.mp c)
      have ih := on_Xl hN hs hs' hd hl hG hT k n (i + 1) (R ++ [unb (T.getD i 0)]) (μ := μ1) (by omega) (by omega) (by omega) hv (KR_s hK hs' a3) (LX_s hL hl hs' a3) a2 (by rw [g 0 5 (by simp)]; exact h5) (by rw [g 0 6 (by simp)]; exact h6) (hr.ext (fun j => g 1 j (by simp)))
      rw [a1, b2_e, if_pos (by decide), show addAll G R (unb (T.getD i 0) :: (imR T).drop i) = addAll G (R ++ [unb (T.getD i 0)]) ((imR T).drop i) by rw [addAll, if_pos c]]
      rw [show i + 1 - 1 = i by omega, show ((i + 1 : Nat) : Int) = (i : Int) + 1 by omega] at ih
      rcases ih with ⟨R', r1, μ', r2, r3, r4, r5, r6, r7⟩ | ⟨r1, μ', r2, r3⟩
      · left
        exact ⟨R', r1, μ', r2, r3, r4, r5, r6, (a3.mono (by simp) (by simp [onF, sFr])).trI r7⟩
      · right
        exact ⟨r1, μ', r2, a3.trI r3⟩
/-- the class takes an image -/
theorem on_X {N : Nat} (hN : 1000000 ≤ N) {sh sh' l : Int} (hs' : sh' = 26 ∨ sh' = 29) (hd : sh ≠ sh') {G : Gm} {R T : List Int} (hT : TV T) {μ : Mm} (h : SC sh l G R μ) (h5 : m_gt μ 0 5 = sh) (h6 : m_gt μ 0 6 = sh') (h2 : m_gt μ 0 2 = l) (ht : tpX T μ) : ∃ μ', jX7_on N 0 μ = some (onA G T, μ') ∧ m_gt μ' 0 1 = 0 ∧ (onA G T = 1 → SX sh' l G (onR G T R) (spl G (onR G T R)) μ' ∧ VR G (onR G T R) ∧ m_gt μ' 0 5 = sh' ∧ m_gt μ' 0 6 = sh ∧ TN μ' ∧ Fr [sh' + 1, sh' + 2, 32] ((0, 1) :: onF sh') μ μ') ∧ (onA G T = 0 → onR G T R = R ∧ Fr [sh' + 1, sh' + 2] ((0, 1) :: sFr sh') μ μ') := by
  obtain ⟨⟨hs, hl, hG, hV⟩, hK, hL, hTX, hS⟩ := id h
  have f0 : Fr [sh' + 1, sh' + 2] ((0, 1) :: sFr sh') μ (m_st μ 0 1 0) := Fr.stI (Fr.rf0 _ _ _) (by simp)
  have K0 : KR (m_st μ 0 1 0) := hK.st _ (by decide)
  have r0 : Row (m_st μ 0 1 0) 1 0 T := ht.2.ext (fun i => gt_r _ _ _ _ (by decide))
  unfold jX7_on
  rw [bnd_e, bnd_e, ht.1, isImage_X hN hT K0 r0, b2_e]
  by_cases c : 2 ≤ T.length ∧ T.length ≤ 29 ∧ T.getD 0 0 = (T.length : Int) - 2 ∧ T.getD (T.length - 1) 0 = chb 11 (T.take (T.length - 1))
  · have eS : onS G T = addAll G [] (imR T) := if_pos c
    rw [if_pos c, if_pos (by decide)]
    have L0 : LX l G (m_st μ 0 1 0) := by rcases hl with rfl | rfl <;> exact hL.ag ((Fr.st μ 0 1 0).ag (by decide))
    obtain ⟨μ1, e1, e2, e3, e4⟩ := empty_X (N := N) hs' hl hG K0 L0
    have g : ∀ r j : Int, r = 0 ∨ r = 1 → m_gt μ1 r j = m_gt (m_st μ 0 1 0) r j := fun r j hrj => e4.2.2 r j (by simp; omega) (by simp [sFr]; omega)
    have a6 : m_gt (m_st μ 0 1 0) 0 6 = sh' := by rw [gt_i _ _ _ (by decide)]; exact h6
    have a2 : m_gt (m_st μ 0 1 0) 0 2 = l := by rw [gt_i _ _ _ (by decide)]; exact h2
    have a5 : m_gt (m_st μ 0 1 0) 0 5 = sh := by rw [gt_i _ _ _ (by decide)]; exact h5
    have f1 : Fr [sh' + 1, sh' + 2] ((0, 1) :: sFr sh') μ μ1 := f0.trI (e4.mono (by simp) (by simp [sFr]))
    rw [a6, a2, chk_e (SK.of K0 hs').1, e1, ob_e]
    have r := on_Xl (N := N) hN hs hs' hd hl hG hT (T.length - 2) N 1 [] (μ := μ1) (by omega) (by omega) (by omega) (VR.nil G) (KR_s K0 hs' e4) (LX_s L0 hl hs' e4) e2 (by rw [g 0 5 (by simp)]; exact a5) (by rw [g 0 6 (by simp)]; exact a6) (r0.ext (fun j => g 1 j (by simp)))
    rw [show 1 - 1 = 0 from rfl, List.drop_zero, show ((1 : Nat) : Int) = 1 from rfl] at r
    rcases r with ⟨R', r1, μ', r2, r3, r4, r5, r6, r7⟩ | ⟨r1, μ', r2, r3⟩
    · have eA : onA G T = 1 := by unfold onA; rw [eS, r1]; rfl
      have eR : onR G T R = R' := by unfold onR; rw [eS, r1]; rfl
      rw [eA, eR]
      refine ⟨μ', r2, ?_, fun _ => ⟨r3, (addAll_ok _ _ _ (VR.nil G) r1).2, r4, r5, r6, (f1.mono (by simp) (by simp [onF, sFr])).trI (r7.mono (by simp) (fun q hq => Or.inl (List.mem_cons_of_mem _ hq)))⟩, fun z => by omega⟩
      rw [r7.2.2 0 1 (by simp; omega) (by simp [onF, sFr]; omega), g 0 1 (by simp), gt_same]
    · have eA : onA G T = 0 := by unfold onA; rw [eS, r1]; rfl
      have eR : onR G T R = R := by unfold onR; rw [eS, r1]; rfl
      rw [eA, eR]
      refine ⟨μ', r2, ?_, fun z => by omega, fun _ => ⟨rfl, f1.trI (r3.mono (by simp) (by simp [sFr]))⟩⟩
      rw [r3.2.2 0 1 (by simp; omega) (by simp [sFr]; omega), g 0 1 (by simp), gt_same]
  · have eS : onS G T = none := if_neg c
    have eA : onA G T = 0 := by unfold onA; rw [eS]; rfl
    have eR : onR G T R = R := by unfold onR; rw [eS]; rfl
    rw [if_neg c, if_neg (by decide), eA, eR]
    exact ⟨_, rfl, gt_same _ _ _ _, fun z => by omega, fun _ => ⟨rfl, f0⟩⟩
