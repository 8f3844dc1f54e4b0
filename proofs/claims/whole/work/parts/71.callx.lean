/-! ===== PURE: the class's calls of the sheet ===== -/
def TN (μ : Mm) : Prop := (∀ i, 0 ≤ i → i ≤ 8 → m_gt μ 32 i = 0) ∧ m_gt μ 33 0 = 0
theorem isNew_loop {N : Nat} : ∀ (j n i : Nat) {μ : Mm}, i + j = 9 → j < n → KR μ → (∀ k, 0 ≤ k → k < (i : Int) → m_gt μ 32 k = 0) → ∃ μ', jX7_sheetIsNew_2 N n 0 i μ = some μ' ∧ TN μ' ∧ Fr [32] [(33, 0)] μ μ'
  | j, 0, i, μ, hj, hn, _, _ => absurd hn (by omega)
  | 0, n + 1, i, μ, hj, hn, hK, h0 => by
    show ∃ μ', jX7_sheetIsNew_2b (jX7_sheetIsNew_2 N n) N 0 i μ = _ ∧ _
    unfold jX7_sheetIsNew_2b jX2_forget
    simp (disch := omega) only [r_0_7 hK, r_0_8 hK, ald_e (k_32 hK), ast_e (k_32 hK), len_e (k_32 hK) (by decide) (by decide), bnd_e, b2_e, ob_e, gt_same, gt_r, gt_i, i_add_e, i_sub_e, chk_st, len_st, ald_st, ast_st, if_pos, chk_e (k_33 hK)]
    refine ⟨_, rfl, ⟨fun k h1 h2 => ?_, gt_same _ _ _ _⟩, Fr.stI (Fr.rf0 _ _ _) (by decide)⟩
    rw [gt_r _ _ _ _ (by decide)]
    exact h0 k h1 (by omega)
  | j + 1, n + 1, i, μ, hj, hn, hK, h0 => by
    show ∃ μ', jX7_sheetIsNew_2b (jX7_sheetIsNew_2 N n) N 0 i μ = _ ∧ _
    unfold jX7_sheetIsNew_2b
    simp (disch := omega) only [r_0_7 hK, r_0_8 hK, ald_e (k_32 hK), ast_e (k_32 hK), len_e (k_32 hK) (by decide) (by decide), bnd_e, b2_e, ob_e, gt_same, gt_r, gt_i, i_add_e, i_sub_e, chk_st, len_st, ald_st, ast_st, if_neg]
    obtain ⟨μ', e1, e2, e3⟩ := isNew_loop j n (i + 1) (μ := m_st μ 32 i 0) (by omega) (by omega) (hK.sa _ _ (by decide)) (fun k h1 h2 => by
      rw [m_gt_st]
      split
      · rfl
      · exact h0 k h1 (by omega))
    exact ⟨μ', e1, e2, (Fr.stI (Fr.rf0 _ _ _) (by simp)).trI e3⟩
theorem sheetIsNew_X {N : Nat} (hN : 1000000 ≤ N) {μ : Mm} (hK : KR μ) : ∃ μ', jX7_sheetIsNew N 0 μ = some μ' ∧ TN μ' ∧ Fr [32] [(33, 0)] μ μ' :=
  isNew_loop 9 N 0 rfl (by omega) hK (fun k h1 h2 => absurd h2 (by omega))
def rlA (G : Gm) (R : List Int) (n : Int) : Int := if whi G (spl G R) = 0 ∧ (n = -2 ∨ 0 ≤ n ∧ n ≤ sta G (spl G R)) then 1 else 0
def rlR (G : Gm) (R : List Int) (n : Int) : List Int := if whi G (spl G R) = 0 ∧ (n = -2 ∨ 0 ≤ n ∧ n ≤ sta G (spl G R)) then R ++ [n] else R
theorem whi_iff {G : Gm} {s : Sh} : whi G s = 0 ↔ ¬ whole G s := by
  by_cases c : whole G s
  · rw [whi_1 c]; exact ⟨fun z => by omega, fun z => absurd c z⟩
  · rw [whi_0 c]; exact ⟨fun _ => c, fun _ => rfl⟩
theorem whi_01 (G : Gm) (s : Sh) : whi G s = 0 ∨ whi G s = 1 := by unfold whi; split <;> simp
theorem can_iff {G : Gm} {s : Sh} {n : Int} : can G s n ↔ (whi G s = 0 ∧ (n = -2 ∨ 0 ≤ n ∧ n ≤ sta G s)) := by
  unfold can
  rw [whi_iff]
theorem VR.rl {G : Gm} {R : List Int} (h : VR G R) (n : Int) : VR G (rlR G R n) := by
  unfold rlR
  split
  · exact h.snoc (can_iff.mpr ‹_›)
  · exact h
def shF (sh : Int) : List (Int × Int) := (33, 0) :: sFr sh
theorem roll_X {N : Nat} (hN : 1000000 ≤ N) {sh l : Int} {G : Gm} {R : List Int} {μ : Mm} (h : SC sh l G R μ) (h5 : m_gt μ 0 5 = sh) (n : Int) : ∃ μ', jX7_roll N 0 n μ = some (rlA G R n, μ') ∧ SX sh l G (rlR G R n) (spl G (rlR G R n)) μ' ∧ (rlA G R n = 0 → μ' = μ) ∧ (rlA G R n = 1 → TN μ') ∧ Fr [sh + 1, sh + 2, 32] (shF sh) μ μ' := by
  obtain ⟨⟨hs, hl, hG, hV⟩, hK, hL, hT, hS⟩ := id h
  have hO := hV.ok hG
  have hsl := spl_len G R
  unfold jX7_roll rlA rlR
  rw [h5, chk_e (SK.of hK hs).1]
  by_cases c : whi G (spl G R) = 0 ∧ (n = -2 ∨ 0 ≤ n ∧ n ≤ sta G (spl G R))
  · obtain ⟨μ1, e1, e2, e3, e4⟩ := add_X (N := N) hs hl hG hK hL hO hsl hS (can_iff.mpr c)
    obtain ⟨μ2, g1, g2, g3⟩ := sheetIsNew_X hN (KR_s hK hs e3)
    rw [if_pos c, if_pos c, e1, b2_e, if_pos (by decide), g1, ob_e, spl_snoc]
    have fr : Fr [sh + 1, sh + 2, 32] (shF sh) μ μ2 := (e3.mono (by simp) (by simp [shF, sFr])).trI (g3.mono (by simp) (by simp [shF]))
    refine ⟨μ2, rfl, ?_, fun z => by omega, fun _ => g2, fr⟩
    obtain ⟨⟨s1, s2, s3, s4, s5, s6, s7, s8⟩, s9, s10⟩ := e2
    have gg : ∀ r i : Int, r ≠ 32 → r ≠ 33 → m_gt μ2 r i = m_gt μ1 r i := fun r i h1 h2 => g3.2.2 r i (by simp; omega) (by simp; omega)
    unfold SX
    rw [gg sh _ (by omega) (by omega), gg sh _ (by omega) (by omega), gg sh _ (by omega) (by omega), gg sh _ (by omega) (by omega), gg sh _ (by omega) (by omega), gg sh _ (by omega) (by omega)]
    exact ⟨⟨s1, s2, s3, s4, s5, s6, s7, s8⟩, s9.ext (fun i => gg _ _ (by omega) (by omega)), s10.ext (fun i => gg _ _ (by omega) (by omega))⟩
  · rw [if_neg c, if_neg c, add_X0 hl hG hK hL hO hsl hS (fun z => c (can_iff.mp z)), b2_e, if_neg (by decide)]
    exact ⟨μ, rfl, hS, fun _ => rfl, fun z => by omega, Fr.rf0 _ _ _⟩
theorem SX.ext {sh l : Int} {G : Gm} {R : List Int} {s : Sh} {μ μ' : Mm} (h : SX sh l G R s μ) (e : ∀ r i : Int, (r = sh ∧ i ≠ 0 ∧ i ≠ 6 ∨ r = sh + 1 ∨ r = sh + 2) → m_gt μ' r i = m_gt μ r i) : SX sh l G R s μ' := by
  obtain ⟨⟨s1, s2, s3, s4, s5, s6, s7, s8⟩, s9, s10⟩ := h
  unfold SX
  rw [e sh 1 (by omega), e sh 2 (by omega), e sh 3 (by omega), e sh 4 (by omega), e sh 5 (by omega), e sh 7 (by omega)]
  exact ⟨⟨s1, s2, s3, s4, s5, s6, s7, s8⟩, s9.ext (fun i => e _ _ (by omega)), s10.ext (fun i => e _ _ (by omega))⟩
theorem empty_X {N : Nat} {sh l : Int} (hs : sh = 26 ∨ sh = 29) (hl : l = 2 ∨ l = 13) {G : Gm} (hG : GOK G) {μ : Mm} (hK : KR μ) (hL : LX l G μ) : ∃ μ', jX5_empty N sh l μ = some μ' ∧ SX sh l G [] (spl G []) μ' ∧ (∀ i, m_gt μ' (sh + 1) i = m_gt μ (sh + 1) i) ∧ Fr [sh + 1, sh + 2] (sFr sh) μ μ' := by
  obtain ⟨q1, q2, q3, q4, q5⟩ := SK.of hK hs
  have lc := (LK.of hK hl).1.1
  have hf := hG.2.1
  refine ⟨m_st (m_st (m_st (m_st (m_st (m_st (m_st μ sh 5 l) sh 1 0) sh 2 0) sh 3 0) sh 4 (G.1 0)) sh 7 0) (sh + 2) 0 0, ?_, ?_, ?_, ?_⟩
  · unfold jX5_empty
    simp (disch := omega) only [q5, hL.1.1, ast_e q3, chk_e lc, bnd_e, b2_e, ob_e, gt_same, gt_r, gt_i, i_add_e, i_sub_e, chk_st, len_st, ald_st, ast_st]
  · have es : spl G [] = ([], []) := rfl
    have est : sta G ([], []) = G.1 0 := by unfold sta; rw [if_neg (by simp; omega)]; simp [dn, lsum]
    have e0 : (([] : List (List Int)).length : Int) = 0 := rfl
    have e1 : (([] : List Int).length : Int) = 0 := rfl
    rw [es]
    unfold SX
    rw [est, e0, e1]
    simp (disch := omega) only [gt_same, gt_r, gt_i]
    refine ⟨⟨trivial, trivial, trivial, trivial, trivial, by decide, by decide, ?_⟩, Row.nil _ _ _, ?_⟩
    · simp [lens, owd, cnt]
    · intro i hi
      have hi0 : i = 0 := by simp [sts] at hi; exact hi
      subst hi0
      show m_gt (m_st _ (sh + 2) 0 0) (sh + 2) 0 = 0
      rw [gt_same]
  · intro i
    simp (disch := omega) only [gt_r]
  · exact Fr.stI (Fr.stI (Fr.stI (Fr.stI (Fr.stI (Fr.stI (Fr.stI (Fr.rf0 _ _ _) (by simp [sFr])) (by simp [sFr])) (by simp [sFr])) (by simp [sFr])) (by simp [sFr])) (by simp [sFr])) (by simp [sFr])
theorem SX_new {sh l : Int} (hs : sh = 26 ∨ sh = 29) {G : Gm} {R : List Int} {s : Sh} {μ μ' : Mm} (h : SX sh l G R s μ) (f : Fr [32] [(33, 0)] μ μ') : SX sh l G R s μ' := h.ext (fun r i hr => f.2.2 r i (by simp; omega) (by simp; omega))
theorem clear_X {N : Nat} (hN : 1000000 ≤ N) {sh l : Int} {G : Gm} {R : List Int} {μ : Mm} (h : SC sh l G R μ) (h5 : m_gt μ 0 5 = sh) (h2 : m_gt μ 0 2 = l) : ∃ μ', jX7_clear N 0 μ = some ((R.length : Int), μ') ∧ SX sh l G [] (spl G []) μ' ∧ TN μ' ∧ Fr [sh + 1, sh + 2, 32] (shF sh) μ μ' := by
  obtain ⟨⟨hs, hl, hG, hV⟩, hK, hL, hT, hS⟩ := id h
  obtain ⟨μ1, e1, e2, e3, e4⟩ := empty_X (N := N) hs hl hG hK hL
  obtain ⟨μ2, g1, g2, g3⟩ := sheetIsNew_X hN (KR_s hK hs e4)
  unfold jX7_clear
  rw [h5, h2, chk_e (SK.of hK hs).1, bnd_e, e1, ob_e, g1, ob_e, hS.1.1]
  exact ⟨μ2, rfl, SX_new hs e2 g3, g2, (e4.mono (by simp) (by simp [shF, sFr])).trI (g3.mono (by simp) (by simp [shF]))⟩
theorem takeLast_loop {N : Nat} {sh l : Int} (hs : sh = 26 ∨ sh = 29) (hl : l = 2 ∨ l = 13) {G : Gm} (hG : GOK G) {R : List Int} (hV : VR G R) {b : Nat} (hb : b ≤ R.length) : ∀ (j n i : Nat) {μ : Mm}, i + j = b → j < n → KR μ → LX l G μ → SX sh l G (R.take i) (spl G (R.take i)) μ → Row μ (sh + 1) 0 R → ∃ μ', jX5_takeLast_26 N n sh b i μ = some (1, μ') ∧ SX sh l G (R.take b) (spl G (R.take b)) μ' ∧ Fr [sh + 1, sh + 2] (sFr sh) μ μ'
  | j, 0, i, μ, hj, hn, _, _, _, _ => absurd hn (by omega)
  | 0, n + 1, i, μ, hj, hn, hK, hL, hS, hR => by
    show ∃ μ', jX5_takeLast_26b (jX5_takeLast_26 N n) N sh b i μ = _ ∧ _
    unfold jX5_takeLast_26b jX5_takeLast_54
    rw [if_pos (by omega)]
    rw [show i = b by omega] at hS
    exact ⟨μ, rfl, hS, Fr.rf0 _ _ _⟩
  | j + 1, n + 1, i, μ, hj, hn, hK, hL, hS, hR => by
    have hl27 := (R_len hG hV).1
    have hi : i < R.length := by omega
    have hk : R[i]? = some R[i] := List.getElem?_eq_getElem hi
    have e : m_gt μ (sh + 1) i = R[i] := hR.get hk (by omega)
    have hli : (R.take i).length = i := by rw [List.length_take]; omega
    obtain ⟨q1, q2, q3, q4, q5⟩ := SK.of hK hs
    obtain ⟨μ1, e1, e2, e3, e4⟩ := add_X (N := N) hs hl hG hK hL ((hV.take i).ok hG) (spl_len G _) hS (hV.at hk)
    rw [← spl_snoc, ← take_snoc hk] at e2
    rw [hli] at e4
    have hR1 : Row μ1 (sh + 1) 0 R := by
      intro x hx
      by_cases c : x ≤ i
      · have hS9 := e2.2.1 x (by rw [List.length_take]; omega)
        rw [hS9, List.getD_eq_getElem?_getD, List.getElem?_take_of_lt (by omega), ← List.getD_eq_getElem?_getD]
      · rw [e4 _ (by omega)]
        exact hR x hx
    show ∃ μ', jX5_takeLast_26b (jX5_takeLast_26 N n) N sh b i μ = _ ∧ _
    unfold jX5_takeLast_26b
    rw [if_neg (by omega), if_neg (by omega), q4, ald_e q2 (by omega) (by omega), ob_e, e, e1, b2_e, bnd_e, i_add_e (by omega) (by omega)]
    obtain ⟨μ', g1, g2, g3⟩ := takeLast_loop hs hl hG hV hb j n (i + 1) (by omega) (by omega) (KR_s hK hs e3) (LX_s hL hl hs e3) e2 hR1
    exact ⟨μ', g1, g2, e3.trI g3⟩
theorem back_X {N : Nat} (hN : 1000000 ≤ N) {sh l : Int} {G : Gm} {R : List Int} {μ : Mm} (h : SC sh l G R μ) (h5 : m_gt μ 0 5 = sh) : ∃ μ', jX7_back N 0 μ = some (if R.length = 0 then 0 else 1, μ') ∧ SX sh l G (R.take (R.length - 1)) (spl G (R.take (R.length - 1))) μ' ∧ (R.length = 0 → μ' = μ) ∧ (R.length ≠ 0 → TN μ') ∧ Fr [sh + 1, sh + 2, 32] (shF sh) μ μ' := by
  obtain ⟨⟨hs, hl, hG, hV⟩, hK, hL, hT, hS⟩ := id h
  have hl27 := (R_len hG hV).1
  unfold jX7_back jX5_takeLast
  rw [h5, chk_e (SK.of hK hs).1, hS.1.1]
  by_cases c : R.length = 0
  · rw [if_neg (by omega), if_pos c, b2_e, if_neg (by decide)]
    have : R = [] := List.length_eq_zero_iff.mp c
    subst this
    exact ⟨μ, rfl, hS, fun _ => rfl, fun z => absurd rfl z, Fr.rf0 _ _ _⟩
  · obtain ⟨μ1, e1, e2, e3, e4⟩ := empty_X (N := N) hs hl hG hK hL
    obtain ⟨μ2, g1, g2, g3⟩ := takeLast_loop (N := N) hs hl hG hV (b := R.length - 1) (by omega) (R.length - 1) N 0 (by omega) (by omega) (KR_s hK hs e4) (LX_s hL hl hs e4) e2 (hS.2.1.ext e3)
    have f2 := e4.trI g3
    obtain ⟨μ3, p1, p2, p3⟩ := sheetIsNew_X hN (KR_s hK hs f2)
    rw [if_pos (by omega), if_neg c, bnd_e, hS.1.2.2.2.2.1, e1, ob_e, i_sub_e (by omega) (by omega), show (R.length : Int) - 1 = ((R.length - 1 : Nat) : Int) by omega]
    rw [show ((0 : Nat) : Int) = 0 from rfl] at g1
    rw [g1, b2_e, if_pos (by decide), p1, ob_e]
    exact ⟨μ3, rfl, SX_new hs g2 p3, fun z => absurd z c, fun _ => p2, (f2.mono (by simp) (by simp [shF, sFr])).trI (p3.mono (by simp) (by simp [shF]))⟩
def shA (G : Gm) (R : List Int) (w : Int) : Int := if w = 0 then R.length else if w = 1 then (if whi G (spl G R) = 0 then ((spl G R).1.length : Int) else -1) else if w = 2 then (if whi G (spl G R) = 0 then ((spl G R).2.length : Int) else 0) else if w = 3 then (if whi G (spl G R) = 0 then sta G (spl G R) else 0) else if w = 4 then (if whi G (spl G R) = 0 then 0 else 1) else if w = 5 then (if ((spl G R).1.length : Int) = G.1 1 then cnt (owd G (spl G R).1) else 0) else -1
theorem sheet_X {N : Nat} {sh l : Int} {G : Gm} {R : List Int} {μ : Mm} (h : SC sh l G R μ) (h5 : m_gt μ 0 5 = sh) (w : Int) : jX7_sheet N 0 w μ = some (shA G R w, μ) := by
  have hk := chk_e (β := Int × Mm) (SK.of h.2.1 h.1.1).1
  have hs := h.2.2.2.2.1
  unfold jX7_sheet jX7_sheet_71 jX7_sheet_87 jX7_sheet_103 jX7_sheet_113 shA
  rw [h5, hk, h.wh, b2_e, h5, hk, hs.1, hk, hs.2.1, hk, hs.2.2.1, hk, hs.2.2.2.1, hk, h.fe, b2_e, ites, ites, ites, ites]
  repeat' split
  all_goals rfl
theorem rolled_X {N : Nat} {sh l : Int} {G : Gm} {R : List Int} {μ : Mm} (h : SC sh l G R μ) (h5 : m_gt μ 0 5 = sh) (i : Int) : jX7_rolled N 0 i μ = some (rA R i, μ) := by
  obtain ⟨q1, q2, q3, q4, q5⟩ := SK.of h.2.1 h.1.1
  have hR := (R_len h.1.2.2.1 h.1.2.2.2).1
  obtain ⟨⟨s1, s2, s3, s4, s5, s6, s7, s8⟩, s9, s10⟩ := h.2.2.2.2
  unfold jX7_rolled jX7_rolled_27 rA
  rw [h5, chk_e q1, s1, q4, len_e q2 (by decide) (by decide), ob_e]
  by_cases c : i < 0
  · rw [if_pos c, if_neg (by omega)]
  · rw [if_neg c]
    by_cases c2 : (R.length : Int) ≤ i
    · rw [if_pos c2, if_neg (by omega)]
    · rw [if_neg c2, if_pos (show i < ((27 : Nat) : Int) by omega), if_pos (by omega), ald_e q2 (by omega) (by omega), ob_e, s9.at (by omega) (by omega)]
      simp
def frA (G : Gm) (s : Sh) (f w : Int) : Int := if 0 ≤ f ∧ f < G.1 1 ∧ f ≤ s.1.length ∧ ((fra s f).length : Int) ≠ 0 then (if w = 0 then dn (fra s f) else if w = 1 then ((fra s f).length : Int) else if w = 2 then cln G (fra s f) else if w = 3 then fls (fra s f) else -1) else -1
theorem frame_X {N : Nat} (hN : 1000000 ≤ N) {sh l : Int} {G : Gm} {R : List Int} {μ : Mm} (h : SC sh l G R μ) (h5 : m_gt μ 0 5 = sh) (h2 : m_gt μ 0 2 = l) (f w : Int) : jX7_frame N 0 f w μ = some (frA G (spl G R) f w, μ) := by
  have hk := chk_e (β := Int × Mm) (SK.of h.2.1 h.1.1).1
  have hk1 := chk_e (β := Int × Mm) (LK.of h.2.1 h.1.2.1).1.1
  have hf := h.1.2.2.1.2.1
  unfold jX7_frame jX7_frame_26 frA
  rw [h5, h2, hk1, h.2.2.1.1.2.1, hk]
  by_cases c : f < 0
  · rw [if_pos c, if_neg (by omega)]
  rw [if_neg c]
  by_cases c1 : G.1 1 ≤ f
  · rw [if_pos c1, if_neg (by omega)]
  rw [if_neg c1, h.sz (by omega) (by omega), b2_e]
  by_cases c2 : ((fra (spl G R) f).length : Int) = 0
  · rw [if_neg (not_not_intro c2), if_neg (fun z => z.2.2.2 c2)]
  have c3 : f ≤ (spl G R).1.length := by
    by_cases z : f ≤ (spl G R).1.length
    · exact z
    · exfalso
      apply c2
      unfold fra
      rw [if_neg c, if_neg (by omega), if_neg (by omega)]
      rfl
  rw [if_pos c2, if_pos (show 0 ≤ f ∧ f < G.1 1 ∧ f ≤ (spl G R).1.length ∧ ((fra (spl G R) f).length : Int) ≠ 0 from ⟨by omega, by omega, c3, c2⟩), h5]
  simp only [hk, h.di hN (show 0 ≤ f by omega) c3, h.sz (show 0 ≤ f by omega) (show f ≤ 9 by omega), h.cl hN (show 0 ≤ f by omega) c3, h.fo hN (show 0 ≤ f by omega) c3, b2_e]
  repeat' split
  all_goals rfl
def ptA (G : Gm) (s : Sh) (f : Int) : Int := if setI G s f = 0 then -1000000 else pts G s f
theorem points_X {N : Nat} (hN : 1000000 ≤ N) {sh l : Int} {G : Gm} {R : List Int} {μ : Mm} (h : SC sh l G R μ) (h5 : m_gt μ 0 5 = sh) (f : Int) : jX7_points N 0 f μ = some (ptA G (spl G R) f, μ) := by
  have hk := chk_e (β := Int × Mm) (SK.of h.2.1 h.1.1).1
  unfold jX7_points jX7_points_24 ptA
  rw [h5, hk, h.st hN, b2_e, h5, hk]
  by_cases c : setI G (spl G R) f = 0
  · rw [if_pos c, if_pos c]
  · have c1 : 0 ≤ f ∧ f < (spl G R).1.length ∧ fR (spl G R) (f + 1) + ow G (fra (spl G R) f) ≤ lens (spl G R).1 + (spl G R).2.length := by
      unfold setI at c
      split at c
      · assumption
      · exact absurd rfl c
    rw [if_neg c, if_neg c, h.wt hN c1.1 c1.2.1, b2_e]
def toA (G : Gm) (s : Sh) : Int := if whi G s = 0 then -1000000 else tot G s
theorem whi_fl {G : Gm} {s : Sh} (h : ¬ whi G s = 0) : (s.1.length : Int) = G.1 1 := by
  unfold whi at h
  split at h
  · rename_i z; exact z.1
  · exact absurd rfl h
theorem total_X {N : Nat} (hN : 1000000 ≤ N) {sh l : Int} {G : Gm} {R : List Int} {μ : Mm} (h : SC sh l G R μ) (h5 : m_gt μ 0 5 = sh) : jX7_total N 0 μ = some (toA G (spl G R), μ) := by
  have hk := chk_e (β := Int × Mm) (SK.of h.2.1 h.1.1).1
  unfold jX7_total jX7_total_22 toA
  rw [h5, hk, h.wh, b2_e, h5, hk]
  by_cases c : whi G (spl G R) = 0
  · rw [if_pos c, if_pos c]
  · rw [if_neg c, if_neg c, h.su hN (whi_fl c), b2_e]
def kpA (G : Gm) (R : List Int) (P : Pl) (p : Int) : Int := if 0 ≤ p ∧ p ≤ 5 ∧ ¬ whi G (spl G R) = 0 ∧ (P p).length < 10 then (P p).length + 1 else -1
def kpP (G : Gm) (R : List Int) (P : Pl) (p : Int) : Pl := if 0 ≤ p ∧ p ≤ 5 ∧ ¬ whi G (spl G R) = 0 ∧ (P p).length < 10 then (fun q => if q = p then P p ++ [tot G (spl G R)] else P q) else P
theorem keep_X {N : Nat} (hN : 1000000 ≤ N) {sh l : Int} {G : Gm} {R : List Int} {μ : Mm} (h : SC sh l G R μ) (h5 : m_gt μ 0 5 = sh) {P : Pl} (hO : POK P) (hP : PX P μ) (p : Int) : ∃ μ', jX7_keep N 0 p μ = some (kpA G R P p, μ') ∧ PX (kpP G R P p) μ' ∧ Fr [46, 47] [] μ μ' := by
  have hk := chk_e (β := Int × Mm) (SK.of h.2.1 h.1.1).1
  have hK := h.2.1
  have hk4 := chk_e (β := Int × Mm) (k_45 hK)
  by_cases C : 0 ≤ p ∧ p ≤ 5 ∧ ¬ whi G (spl G R) = 0 ∧ (P p).length < 10
  · have eA : kpA G R P p = (P p).length + 1 := if_pos C
    have eP : kpP G R P p = (fun q => if q = p then P p ++ [tot G (spl G R)] else P q) := if_pos C
    obtain ⟨c0, c1, c2, c3⟩ := C
    have hp := hP p c0 c1
    have ho := hO p c0 c1
    rw [eA, eP]
    refine ⟨m_st (m_st μ 46 (p * 10 + (P p).length) (tot G (spl G R))) 47 p ((P p).length + 1), ?_, ?_, Fr.stI (Fr.stI (Fr.rf0 _ _ _) (by simp)) (by simp)⟩
    · unfold jX7_keep
      rw [r_0_9 hK, hk4, knows_X, b2_e, if_pos (show 0 ≤ p ∧ p ≤ 5 from ⟨c0, c1⟩), if_neg (by decide), h5, hk, h.wh, b2_e, if_pos c2, h5, hk, h.su hN (whi_fl c2), b2_e, r_0_9 hK, hk4]
      unfold jX4_add
      rw [gamesOf_X hK hP c0 c1, b2_e, knows_X, b2_e, if_pos (show 0 ≤ p ∧ p ≤ 5 from ⟨c0, c1⟩), if_neg (by decide)]
      simp (disch := omega) only [r_45_0 hK, r_45_1 hK, ald_e (k_46 hK), ast_e (k_46 hK), len_e (k_46 hK) (by decide) (by decide), ald_e (k_47 hK), ast_e (k_47 hK), len_e (k_47 hK) (by decide) (by decide), bnd_e, b2_e, ob_e, gt_same, gt_r, gt_i, i_add_e, i_sub_e, chk_st, len_st, ald_st, ast_st, i_mul_e, if_pos, if_neg]
    · intro q h0 h1
      by_cases z : q = p
      · subst z
        dsimp only
        rw [if_pos rfl]
        refine ⟨?_, ?_⟩
        · rw [gt_same, List.length_append, List.length_singleton]; omega
        · exact (hp.2.push _).ext (fun i => gt_r _ _ _ _ (by decide))
      · dsimp only
        rw [if_neg z]
        have hq := hP q h0 h1
        have hoq := hO q h0 h1
        refine ⟨?_, fun i hi => ?_⟩
        · rw [gt_i _ _ _ z, gt_r _ _ _ _ (by decide)]; exact hq.1
        · rw [gt_r _ _ _ _ (by decide), gt_i _ _ _ (by omega)]; exact hq.2 i hi
  · have eA : kpA G R P p = -1 := if_neg C
    have eP : kpP G R P p = P := if_neg C
    rw [eA, eP]
    refine ⟨μ, ?_, hP, Fr.rf0 _ _ _⟩
    unfold jX7_keep jX7_keep_21
    rw [r_0_9 hK, hk4, knows_X, b2_e]
    by_cases c : 0 ≤ p ∧ p ≤ 5
    · rw [if_pos c, if_neg (by decide), h5, hk, h.wh, b2_e]
      by_cases c2 : whi G (spl G R) = 0
      · rw [if_neg (not_not_intro c2)]
      · have hp := hP p c.1 c.2
        rw [if_pos c2, h5, hk, h.su hN (whi_fl c2), b2_e, r_0_9 hK, hk4]
        unfold jX4_add jX4_add_20
        rw [gamesOf_X hK hP c.1 c.2, b2_e, knows_X, b2_e, if_pos c, if_neg (by decide), if_neg (show ¬ ((P p).length : Int) < 10 from fun z => C ⟨c.1, c.2, c2, by omega⟩), b2_e]
    · rw [if_neg c, if_pos rfl]
