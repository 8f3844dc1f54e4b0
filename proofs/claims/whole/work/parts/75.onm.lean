/-! ===== PURE: the reference takes an image ===== -/
theorem on_M187 {N : Nat} {R : List Int} (hl : R.length ≤ 27) : ∀ (k n i : Nat) {μ : Mm}, i + k = R.length → k < n → KR μ → Row μ 104 0 R → Row μ 89 0 (R.take i) → ∃ μ', jX8_on_187 N n 50 R.length i μ = some (0, μ') ∧ Row μ' 89 0 R ∧ Fr [89] [] μ μ'
  | k, 0, i, μ, hi, hn, _, _, _ => absurd hn (by omega)
  | 0, n + 1, i, μ, hi, hn, hK, h1, h2 => by
    show ∃ μ', jX8_on_187b (jX8_on_187 N n) N 50 R.length i μ = _ ∧ _
    unfold jX8_on_187b
    rw [if_pos (by omega)]
    rw [List.take_of_length_le (by omega)] at h2
    exact ⟨μ, rfl, h2, Fr.rf0 _ _ _⟩
  | k + 1, n + 1, i, μ, hi, hn, hK, h1, h2 => by
    have hi2 : i < R.length := by omega
    have hk : R[i]? = some R[i] := List.getElem?_eq_getElem hi2
    have e : m_gt μ 104 i = R[i] := h1.get hk (by omega)
    have h3 := Row.push h2 R[i]
    rw [← take_snoc hk, List.length_take, Nat.min_eq_left (by omega), Int.zero_add] at h3
    obtain ⟨μ', g1, g2, g3⟩ := on_M187 hl k n (i + 1) (μ := m_st μ 89 i R[i]) (by omega) (by omega) (hK.sa _ _ (by decide)) (h1.ext (fun j => gt_r _ _ _ _ (by decide))) h3
    refine ⟨μ', ?_, g2, (Fr.stI (Fr.rf0 _ _ _) (by simp)).trI g3⟩
    show jX8_on_187b (jX8_on_187 N n) N 50 R.length i μ = _
    unfold jX8_on_187b
    simp (disch := omega) only [e, r_50_59 hK, r_50_85 hK, ald_e (k_104 hK), ast_e (k_104 hK), len_e (k_104 hK) (by decide) (by decide), ald_e (k_89 hK), ast_e (k_89 hK), len_e (k_89 hK) (by decide) (by decide), bnd_e, b2_e, ob_e, gt_same, gt_r, gt_i, i_add_e, i_sub_e, chk_st, len_st, ald_st, ast_st, if_neg]
    exact g1
theorem on_M68 {N : Nat} {R : List Int} (hl : R.length ≤ 27) {x : Int} : ∀ (k n i : Nat) {μ : Mm}, i + k = R.length → k < n → KR μ → RM R μ → Row μ 104 0 (R.take i) → ∃ μ', jX8_on_68 N n 50 x R.length i μ = jX8_on_112 N N 50 x R.length (m_gt μ 50 78) 1 1 (m_st (m_st μ' 50 58 0) 50 78 0) ∧ Row μ' 104 0 R ∧ Fr [104] [] μ μ'
  | k, 0, i, μ, hi, hn, _, _, _ => absurd hn (by omega)
  | 0, n + 1, i, μ, hi, hn, hK, hR, h2 => by
    refine ⟨μ, ?_, ?_, Fr.rf0 _ _ _⟩
    · show jX8_on_68b (jX8_on_68 N n) N 50 x R.length i μ = _
      unfold jX8_on_68b
      rw [if_pos (by omega), bnd_e, bnd_e, bnd_e]
    · rw [List.take_of_length_le (by omega)] at h2
      exact h2
  | k + 1, n + 1, i, μ, hi, hn, hK, hR, h2 => by
    have hi2 : i < R.length := by omega
    have hk : R[i]? = some R[i] := List.getElem?_eq_getElem hi2
    have e : m_gt μ 89 i = R[i] := hR.2.get hk (by omega)
    have h3 := Row.push h2 R[i]
    rw [← take_snoc hk, List.length_take, Nat.min_eq_left (by omega), Int.zero_add] at h3
    have f1 : Fr [104] [] μ (m_st μ 104 i R[i]) := Fr.stI (Fr.rf0 _ _ _) (by simp)
    obtain ⟨μ', g1, g2, g3⟩ := on_M68 hl k n (i + 1) (μ := m_st μ 104 i R[i]) (by omega) (by omega) (hK.sa _ _ (by decide)) (hR.ag (f1.ag (by decide))) h3
    refine ⟨μ', ?_, g2, f1.trI g3⟩
    rw [gt_r _ _ _ _ (by decide)] at g1
    rw [← g1]
    show jX8_on_68b (jX8_on_68 N n) N 50 x R.length i μ = _
    unfold jX8_on_68b
    simp (disch := omega) only [e, r_50_59 hK, r_50_85 hK, ald_e (k_104 hK), ast_e (k_104 hK), len_e (k_104 hK) (by decide) (by decide), ald_e (k_89 hK), ast_e (k_89 hK), len_e (k_89 hK) (by decide) (by decide), bnd_e, b2_e, ob_e, gt_same, gt_r, gt_i, i_add_e, i_sub_e, chk_st, len_st, ald_st, ast_st, if_neg]
    rfl
def onG : List Int := 89 :: fGo
def onH : List (Int × Int) := (50, 58) :: (50, 72) :: sGo
theorem on_M112 {N : Nat} (hN : 1000000 ≤ N) {G : Gm} {T : List Int} (hT : TV T) {had was : Int} : ∀ (k n i : Nat) (R : List Int) {μ : Mm}, i + k + 1 = T.length → 1 ≤ i → k < n → MC G R μ → Row μ 51 0 T → (∃ R', addAll G R ((imR T).drop (i - 1)) = some R' ∧ ∃ μ', jX8_on_112 N n 50 T.length had was 1 i μ = some (1, m_st μ' 50 72 0) ∧ RM R' μ' ∧ Fr onG onH μ μ') ∨ (addAll G R ((imR T).drop (i - 1)) = none ∧ ∃ μ', jX8_on_112 N n 50 T.length had was 1 i μ = jX8_on_187 N N 50 had 0 (m_st (m_st (m_st μ' 50 72 0) 50 58 had) 50 78 was) ∧ Fr onG onH μ μ')
  | k, 0, i, R, μ, hi, h1, hn, _, _ => absurd hn (by omega)
  | 0, n + 1, i, R, μ, hi, h1, hn, h, hr => by
    left
    have hl7 := hT.1
    refine ⟨R, by rw [imR_end (by omega)]; rfl, μ, ?_, h.2.2.2, Fr.rf0 _ _ _⟩
    show jX8_on_112b (jX8_on_112 N n) N 50 T.length had was 1 i μ = _
    unfold jX8_on_112b jX8_on_162
    rw [i_sub_e (by omega) (by omega), if_pos (by omega), bnd_e, if_neg (by decide)]
  | k + 1, n + 1, i, R, μ, hi, h1, hn, h, hr => by
    have hl7 := hT.1
    have hK := h.2.1
    have e : m_gt μ 51 i = T.getD i 0 := by have := hr i (by omega); rw [Int.zero_add] at this; exact this
    have hx : 0 ≤ T.getD i 0 ∧ T.getD i 0 ≤ 255 := by
      rw [List.getD_eq_getElem?_getD, List.getElem?_eq_getElem (show i < T.length by omega)]
      exact hT.2 _ (List.getElem_mem _)
    rw [imR_at h1 (by omega)]
    have step : jX8_on_112 N (n + 1) 50 T.length had was 1 i μ = b2 (jX8_roll N 50 (unb (T.getD i 0)) μ) fun x1 μ1 => jX8_on_112 N n 50 T.length had was x1 ((i : Int) + 1) μ1 := by
      show jX8_on_112b (jX8_on_112 N n) N 50 T.length had was 1 i μ = _
      unfold jX8_on_112b jX8_on_151
      simp (disch := omega) only [e, chk_e (k_50 hK), r_50_0 hK, ald_e (k_51 hK), ast_e (k_51 hK), len_e (k_51 hK) (by decide) (by decide), bnd_e, b2_e, ob_e, gt_same, gt_r, gt_i, i_add_e, i_sub_e, chk_st, len_st, ald_st, ast_st, if_neg]
      unfold unb
      by_cases z : T.getD i 0 = 200
      · rw [if_neg (not_not_intro z), if_pos z]
      · rw [if_pos z, if_neg z]
    have hu : okI (unb (T.getD i 0)) := by unfold unb okI; split <;> omega
    obtain ⟨μ1, e1, e2, e3, e4, e5, e6⟩ := roll_M hN h hu
    rw [step, e1, b2_e]
    have f1 : Fr onG onH μ μ1 := e5
    have hr1 : Row μ1 51 0 T := hr.ag (f1.ag (wh := [51]) (so := []) (by decide)) (by decide)
    rcases rlA_01 G R (unb (T.getD i 0)) with c | c
    · right
      refine ⟨by unfold addAll; rw [if_neg (by omega)], μ1, ?_, f1⟩
      rw [c]
      obtain ⟨m, rfl⟩ : ∃ m, n = m + 1 := ⟨n - 1, by omega⟩
      show jX8_on_112b (jX8_on_112 N m) N 50 T.length had was 0 ((i : Int) + 1) μ1 = _
      unfold jX8_on_112b jX8_on_162
      simp only [bnd_e, if_true]
      split <;> rfl
    · rw [rl1 c] at e2
      have h2 : MC G (R ++ [unb (T.getD i 0)]) μ1 := ⟨⟨h.1.1, h.1.2.snoc (rl_can.mp c)⟩, f1.KR hK (by decide), h.2.2.1.ag (f1.ag (by decide)), e2⟩
      have ih := on_M112 hN hT (had := had) (was := was) k n (i + 1) (R ++ [unb (T.getD i 0)]) (by omega) (by omega) (by omega) h2 hr1
      rw [show i + 1 - 1 = i by omega, show ((i + 1 : Nat) : Int) = (i : Int) + 1 by omega] at ih
      rw [c, show addAll G R (unb (T.getD i 0) :: (imR T).drop i) = addAll G (R ++ [unb (T.getD i 0)]) ((imR T).drop i) by rw [addAll, if_pos c]]
      rcases ih with ⟨R', r1, μ', r2, r3, r4⟩ | ⟨r1, μ', r2, r3⟩
      · left; exact ⟨R', r1, μ', r2, r3, f1.trI r4⟩
      · right; exact ⟨r1, μ', r2, f1.trI r3⟩
theorem imR_len (T : List Int) (h : 2 ≤ T.length) : (imR T).length = T.length - 2 := by
  unfold imR
  rw [List.length_map, List.length_drop, List.length_take]
  omega
def onMi : List Int := 89 :: 104 :: fGo
def onMs : List (Int × Int) := (50, 1) :: (50, 58) :: (50, 72) :: (50, 78) :: sGo
theorem on_M {N : Nat} (hN : 1000000 ≤ N) {G : Gm} {R T : List Int} (hT : TV T) {μ : Mm} (h : MC G R μ) (ht : tpM T μ) : ∃ μ', jX8_on N 50 μ = some (onA G T, μ') ∧ m_gt μ' 50 1 = 0 ∧ RM (onR G T R) μ' ∧ (onA G T = 1 → m_gt μ' 50 78 = 0 ∧ m_gt μ' 50 72 = 0) ∧ (onA G T = 0 → m_gt μ' 50 78 = m_gt μ 50 78 ∧ (m_gt μ' 50 72 = m_gt μ 50 72 ∨ m_gt μ' 50 72 = 0)) ∧ Fr onMi onMs μ μ' := by
  have hl := hT.1
  have hG := h.1.1
  have hV := h.1.2
  have hR27 := (R_len hG hV).1
  have f0 : Fr onMi onMs μ (m_st μ 50 1 0) := Fr.stI (Fr.rf0 _ _ _) (by decide)
  have K0 : KR (m_st μ 50 1 0) := h.2.1.st _ (by decide)
  have R0 : RM R (m_st μ 50 1 0) := h.2.2.2.ag ((Fr.st μ 50 1 0).ag (by decide))
  have r0 : Row (m_st μ 50 1 0) 51 0 T := ht.2.ext (fun i => gt_r _ _ _ _ (by decide))
  unfold jX8_on jX8_on_59
  rw [bnd_e, bnd_e, ht.1]
  have no : ∀ (_ : onS G T = none), ∃ μ', some ((0 : Int), m_st μ 50 1 0) = some (onA G T, μ') ∧ m_gt μ' 50 1 = 0 ∧ RM (onR G T R) μ' ∧ (onA G T = 1 → m_gt μ' 50 78 = 0 ∧ m_gt μ' 50 72 = 0) ∧ (onA G T = 0 → m_gt μ' 50 78 = m_gt μ 50 78 ∧ (m_gt μ' 50 72 = m_gt μ 50 72 ∨ m_gt μ' 50 72 = 0)) ∧ Fr onMi onMs μ μ' := by
    intro eS
    have eA : onA G T = 0 := by unfold onA; rw [eS]; rfl
    have eR : onR G T R = R := by unfold onR; rw [eS]; rfl
    rw [eA, eR]
    exact ⟨_, rfl, gt_same _ _ _ _, R0, fun z => by omega, fun _ => ⟨gt_i _ _ _ (by decide) _, Or.inl (gt_i _ _ _ (by decide) _)⟩, f0⟩
  by_cases c1 : (T.length : Int) < 2
  · rw [if_pos c1]
    exact no (if_neg (fun z => by have := z.1; omega))
  rw [if_neg c1]
  have e0 : m_gt (m_st μ 50 1 0) 51 0 = T.getD 0 0 := r0 0 (by omega)
  have e1 : m_gt (m_st μ 50 1 0) 51 ((T.length : Int) - 1) = T.getD (T.length - 1) 0 := by
    have := r0 (T.length - 1) (by omega)
    rw [← this]
    congr 1
    omega
  have hc := checked_M (N := N) (k_51 K0) r0 hT.2 hl (by omega) (b := T.length - 1) (by omega) (T.length - 1) N 0 11 (by omega) (by omega) (by omega)
  rw [List.drop_zero, show ((T.length - 1 : Nat) : Int) = (T.length : Int) - 1 by omega, show ((0 : Nat) : Int) = 0 from rfl] at hc
  rw [r_50_0 K0, ald_e (k_51 K0) (by omega) (by omega), ob_e, ob_e, i_sub_e (by omega) (by omega), i_sub_e (by omega) (by omega), ald_e (k_51 K0) (by omega) (by omega), ob_e, e0, e1]
  unfold jX8_checked
  rw [hc, b2_e]
  by_cases c2 : ¬ T.getD 0 0 = (T.length : Int) - 2
  · rw [if_pos c2]
    exact no (if_neg (fun z => c2 z.2.2.1))
  replace c2 := Decidable.not_not.mp c2
  rw [if_neg (not_not_intro c2)]
  by_cases c3 : 30 < T.getD 0 0
  · rw [if_pos c3]
    exact no (if_neg (fun z => by have := z.2.1; omega))
  rw [if_neg c3]
  by_cases c4 : ¬ T.getD (T.length - 1) 0 = chb 11 (T.take (T.length - 1))
  · rw [if_neg c4]
    exact no (if_neg (fun z => c4 z.2.2.2))
  replace c4 := Decidable.not_not.mp c4
  rw [if_pos c4, bnd_e, R0.1]
  have eS : onS G T = addAll G [] (imR T) := by
    unfold onS
    by_cases c5 : T.length ≤ 29
    · rw [if_pos ⟨by omega, c5, c2, c4⟩]
    · rw [if_neg (fun z => c5 z.2.1)]
      cases hA : addAll G [] (imR T) with
      | none => rfl
      | some R' =>
        obtain ⟨a1, a2⟩ := addAll_ok _ _ _ (VR.nil G) hA
        have := (R_len hG a2).1
        rw [a1, List.nil_append, imR_len T (by omega)] at this
        omega
  obtain ⟨M1, p1, p2, p3⟩ := on_M68 (N := N) hR27 (x := (T.length : Int)) R.length N 0 (by omega) (by omega) K0 R0 (Row.nil _ _ _)
  rw [show ((0 : Nat) : Int) = 0 from rfl, gt_i _ _ _ (by decide)] at p1
  rw [p1]
  let M2 := m_st (m_st M1 50 58 0) 50 78 0
  have f1 : Fr onMi onMs μ M1 := f0.trI (p3.mono (by decide) (by decide))
  have f2 : Fr onMi onMs μ M2 := (f1.stI (by decide)).stI (by decide)
  have K2 : KR M2 := f2.KR h.2.1 (by decide)
  have h2 : MC G [] M2 := ⟨⟨hG, VR.nil G⟩, K2, h.2.2.1.ag (f2.ag (by decide)), ⟨by show m_gt (m_st (m_st M1 50 58 0) 50 78 0) 50 58 = _; simp (disch := omega) only [gt_i, gt_same]; rfl, Row.nil _ _ _⟩⟩
  have r2 : Row M2 51 0 T := ht.2.ag (f2.ag (wh := [51]) (so := []) (by decide)) (by decide)
  have o2 : Row M2 104 0 R := p2.ext (fun i => by show m_gt (m_st (m_st M1 50 58 0) 50 78 0) 104 i = _; simp (disch := omega) only [gt_r])
  have t2 : m_gt M2 50 1 = 0 := by
    show m_gt (m_st (m_st M1 50 58 0) 50 78 0) 50 1 = 0
    rw [gt_i _ _ _ (by decide), gt_i _ _ _ (by decide), p3.2.2 50 1 (by decide) (by decide), gt_same]
  have s2 : m_gt M2 50 78 = 0 := gt_same _ _ _ _
  have r := on_M112 (N := N) hN (G := G) hT (had := (R.length : Int)) (was := m_gt μ 50 78) (T.length - 2) N 1 [] (μ := M2) (by omega) (by omega) (by omega) h2 r2
  rw [show 1 - 1 = 0 from rfl, List.drop_zero, show ((1 : Nat) : Int) = 1 from rfl] at r
  rcases r with ⟨R', q1, M3, q2, q3, q4⟩ | ⟨q1, M3, q2, q3⟩
  · have eA : onA G T = 1 := by unfold onA; rw [eS, q1]; rfl
    have eR : onR G T R = R' := by unfold onR; rw [eS, q1]; rfl
    rw [eA, eR]
    refine ⟨_, q2, ?_, ⟨?_, ?_⟩, fun _ => ⟨?_, gt_same _ _ _ _⟩, fun z => by omega, (f2.trI (q4.mono (by decide) (by decide))).stI (by decide)⟩
    · rw [gt_i _ _ _ (by decide), q4.2.2 50 1 (by decide) (by decide)]; exact t2
    · rw [gt_i _ _ _ (by decide)]; exact q3.1
    · exact q3.2.ext (fun i => gt_r _ _ _ _ (by decide))
    · rw [gt_i _ _ _ (by decide), q4.2.2 50 78 (by decide) (by decide)]; exact s2
  · have eA : onA G T = 0 := by unfold onA; rw [eS, q1]; rfl
    have eR : onR G T R = R := by unfold onR; rw [eS, q1]; rfl
    rw [eA, eR]
    let M4 := m_st (m_st (m_st M3 50 72 0) 50 58 R.length) 50 78 (m_gt μ 50 78)
    have f3 : Fr onMi onMs μ M3 := f2.trI (q3.mono (by decide) (by decide))
    have f4 : Fr onMi onMs μ M4 := ((f3.stI (by decide)).stI (by decide)).stI (by decide)
    have o4 : Row M4 104 0 R := o2.ext (fun i => by
      show m_gt (m_st (m_st (m_st M3 50 72 0) 50 58 R.length) 50 78 (m_gt μ 50 78)) 104 i = _
      simp (disch := omega) only [gt_r]
      exact q3.2.2 104 i (by decide) (by simp [onH, sGo]))
    obtain ⟨M5, w1, w2, w3⟩ := on_M187 (N := N) hR27 R.length N 0 (μ := M4) (by omega) (by omega) (f4.KR h.2.1 (by decide)) o4 (Row.nil _ _ _)
    rw [show ((0 : Nat) : Int) = 0 from rfl] at w1
    have g5 : ∀ i, m_gt M5 50 i = m_gt M4 50 i := fun i => w3.2.2 50 i (by decide) (by simp)
    refine ⟨M5, q2.trans w1, ?_, ⟨?_, w2⟩, fun z => by omega, fun _ => ⟨?_, Or.inr ?_⟩, f4.trI (w3.mono (by decide) (by decide))⟩
    · rw [g5]
      show m_gt (m_st (m_st (m_st M3 50 72 0) 50 58 R.length) 50 78 (m_gt μ 50 78)) 50 1 = _
      simp (disch := omega) only [gt_i]
      rw [q3.2.2 50 1 (by decide) (by decide)]; exact t2
    · rw [g5]
      show m_gt (m_st (m_st (m_st M3 50 72 0) 50 58 R.length) 50 78 (m_gt μ 50 78)) 50 58 = _
      simp (disch := omega) only [gt_i, gt_same]
    · rw [g5]
      show m_gt (m_st (m_st (m_st M3 50 72 0) 50 58 R.length) 50 78 (m_gt μ 50 78)) 50 78 = _
      simp (disch := omega) only [gt_same]
    · rw [g5]
      show m_gt (m_st (m_st (m_st M3 50 72 0) 50 58 R.length) 50 78 (m_gt μ 50 78)) 50 72 = _
      simp (disch := omega) only [gt_i, gt_same]
