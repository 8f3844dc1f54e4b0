/-! ===== PURE: keep, images ===== -/
theorem tot_ok {G : Gm} (hG : GOK G) {R : List Int} (hV : VR G R) : -1000 ≤ tot G (spl G R) ∧ tot G (spl G R) ≤ 1000 := by
  have h1 := psm_ok hG hV (spl G R).1.length (Nat.le_refl _)
  have hO := (hV.ok hG).2.1
  have hg := hG.2.1
  unfold tot
  omega
theorem kpP_ok {G : Gm} (hG : GOK G) {R : List Int} (hV : VR G R) {P : Pl} (hO : POK P) (p : Int) : POK (kpP G R P p) := by
  unfold kpP
  split
  · rename_i C
    intro q h0 h1
    dsimp only
    by_cases z : q = p
    · rw [if_pos z]
      have ho := hO p C.1 C.2.1
      refine ⟨by rw [List.length_append, List.length_singleton]; omega, fun t ht => ?_⟩
      rcases List.mem_append.mp ht with y | y
      · exact ho.2 t y
      · rw [List.mem_singleton.mp y]; exact tot_ok hG hV
    · rw [if_neg z]
      exact hO q h0 h1
  · exact hO
theorem keep_M {N : Nat} (hN : 1000000 ≤ N) {G : Gm} {R : List Int} {μ : Mm} (h : MC G R μ) {P : Pl} (hO : POK P) (hP : PM P μ) {p : Int} (hp : okI p) : ∃ μ', jX8_keep N 50 p μ = some (kpA G R P p, μ') ∧ PM (kpP G R P p) μ' ∧ Fr (101 :: 102 :: 88 :: fGo) (pfs ++ sGo) μ μ' := by
  obtain ⟨μ1, e1, e2, e3, e4⟩ := h.go hN
  obtain ⟨μ2, g1, g2⟩ := soFar_M hN e3 e2
  have fr : Fr (101 :: 102 :: 88 :: fGo) (pfs ++ sGo) μ μ1 := e4.mono (by decide) (by decide)
  have fr2 : Fr (101 :: 102 :: 88 :: fGo) (pfs ++ sGo) μ μ2 := fr.trI (g2.mono (by decide) (by decide))
  have P1 : PM P μ1 := hP.ag (e4.ag (by decide))
  have P2 : PM P μ2 := P1.ag (g2.ag (by decide))
  have K1 := e3.2.1
  have K2 := g2.KR K1 (by decide)
  unfold jX8_keep jX8_keep_29
  rw [e1, ob_e, isPlayer_M hp, b2_e, e2.2.2.2.2.2]
  by_cases C : 0 ≤ p ∧ p ≤ 5 ∧ ¬ whi G (spl G R) = 0 ∧ (P p).length < 10
  · have eA : kpA G R P p = (P p).length + 1 := if_pos C
    have eP : kpP G R P p = (fun q => if q = p then P p ++ [tot G (spl G R)] else P q) := if_pos C
    obtain ⟨c0, c1, c2, c3⟩ := C
    have hp1 := P1 p c0 c1
    have hp2 := P2 p c0 c1
    have a1 := hp1.1
    have a2 := hp2.1
    have ho := hO p c0 c1
    rw [eA, eP, if_pos (show 0 ≤ p ∧ p ≤ 5 from ⟨c0, c1⟩), if_neg (show ¬ (1 : Int) = 0 by decide), if_neg c2, r_50_81 K1, ald_e (k_101 K1) (by omega) (by omega), ob_e, a1, if_pos (by omega), ob_e, g1, b2_e]
    refine ⟨m_st (m_st μ2 102 (10 * p + (P p).length) (tot G (spl G R))) 101 p ((P p).length + 1), ?_, ?_, (fr2.stI (by simp)).stI (by simp)⟩
    · simp (disch := omega) only [a2, r_50_82 K1, r_50_81 K2, r_50_82 K2, ald_e (k_101 K2), ast_e (k_101 K2), len_e (k_101 K2) (by decide) (by decide), ald_e (k_102 K2), ast_e (k_102 K2), len_e (k_102 K2) (by decide) (by decide), bnd_e, b2_e, ob_e, gt_same, gt_r, gt_i, i_add_e, i_sub_e, chk_st, len_st, ald_st, ast_st, i_mul_e]
    · intro q h0 h1
      by_cases z : q = p
      · subst z
        dsimp only
        rw [if_pos rfl]
        refine ⟨?_, ?_⟩
        · rw [gt_same, List.length_append, List.length_singleton]; omega
        · exact (hp2.2.push _).ext (fun i => gt_r _ _ _ _ (by decide))
      · dsimp only
        rw [if_neg z]
        have hq := P2 q h0 h1
        have hoq := hO q h0 h1
        refine ⟨?_, fun i hi => ?_⟩
        · rw [gt_i _ _ _ z, gt_r _ _ _ _ (by decide)]; exact hq.1
        · rw [gt_r _ _ _ _ (by decide), gt_i _ _ _ (by omega)]; exact hq.2 i hi
  · have eA : kpA G R P p = -1 := if_neg C
    have eP : kpP G R P p = P := if_neg C
    rw [eA, eP]
    refine ⟨μ1, ?_, P1, fr⟩
    by_cases c : 0 ≤ p ∧ p ≤ 5
    · rw [if_pos c, if_neg (show ¬ (1 : Int) = 0 by decide)]
      by_cases c2 : whi G (spl G R) = 0
      · rw [if_pos c2]
      · have hp1 := P1 p c.1 c.2
        have ho := hO p c.1 c.2
        have : ¬ (P p).length < 10 := fun z => C ⟨c.1, c.2, c2, z⟩
        rw [if_neg c2, r_50_81 K1, ald_e (k_101 K1) (by omega) (by omega), ob_e, hp1.1, if_neg (by omega)]
    · rw [if_neg c, if_pos rfl]
/-! the check byte -/
def chb (c : Int) (l : List Int) : Int := l.foldl (fun c x => (7 * c + x) % 239) c
theorem chb_ok : ∀ (l : List Int) (c : Int), 0 ≤ c ∧ c ≤ 238 → 0 ≤ chb c l ∧ chb c l ≤ 238
  | [], c, h => h
  | x :: l, c, h => chb_ok l ((7 * c + x) % 239) (by omega)
theorem check_X {N : Nat} {r : Int} {n : Nat} {μ : Mm} (hk : m_kd μ r = (100, n)) {L : List Int} (hr : Row μ r 0 L) (hL : ∀ x ∈ L, 0 ≤ x ∧ x ≤ 255) (hn : L.length ≤ n) (hn2 : n ≤ 1000) {b : Nat} (hb : b ≤ L.length) : ∀ (k m i : Nat) (c : Int), i + k = b → k < m → 0 ≤ c ∧ c ≤ 238 → jX7_checkByte_5 N m r b c i μ = some (chb c ((L.take b).drop i), μ)
  | k, 0, i, c, hi, hm, _ => absurd hm (by omega)
  | 0, m + 1, i, c, hi, hm, hc => by
    show jX7_checkByte_5b (jX7_checkByte_5 N m) N r b c i μ = _
    unfold jX7_checkByte_5b jX7_checkByte_35
    rw [if_pos (by omega), List.drop_eq_nil_of_le (by rw [List.length_take]; omega)]
    rfl
  | k + 1, m + 1, i, c, hi, hm, hc => by
    have hi2 : i < L.length := by omega
    have e : m_gt μ r i = L[i] := hr.get (List.getElem?_eq_getElem hi2) (by omega)
    have hx := hL L[i] (List.getElem_mem hi2)
    show jX7_checkByte_5b (jX7_checkByte_5 N m) N r b c i μ = _
    unfold jX7_checkByte_5b
    have hi3 : i < (L.take b).length := by rw [List.length_take]; omega
    rw [if_neg (by omega), len_e hk (by decide) (by decide), ob_e, if_neg (by omega), ald_e hk (by omega) (by omega), ob_e, bnd_e, bnd_e, e, i_mul_e (by omega) (by omega), i_add_e (x := 7 * c) (by omega) (by omega), i_rem_p (by omega) (by omega) (by omega) (by omega), i_add_e (by omega) (by omega), show (i : Int) + 1 = ((i + 1 : Nat) : Int) by omega, check_X hk hr hL hn hn2 hb k m (i + 1) _ (by omega) (by omega) (by omega), List.drop_eq_getElem_cons hi3, List.getElem_take]
    rfl
theorem checked_M {N : Nat} {r : Int} {n : Nat} {μ : Mm} (hk : m_kd μ r = (100, n)) {L : List Int} (hr : Row μ r 0 L) (hL : ∀ x ∈ L, 0 ≤ x ∧ x ≤ 255) (hn : L.length ≤ n) (hn2 : n ≤ 1000) {b : Nat} (hb : b ≤ L.length) : ∀ (k m i : Nat) (c : Int), i + k = b → k < m → 0 ≤ c ∧ c ≤ 238 → jX8_checked_5 N m r b c i μ = some (chb c ((L.take b).drop i), μ)
  | k, 0, i, c, hi, hm, _ => absurd hm (by omega)
  | 0, m + 1, i, c, hi, hm, hc => by
    show jX8_checked_5b (jX8_checked_5 N m) N r b c i μ = _
    unfold jX8_checked_5b
    rw [if_pos (by omega), List.drop_eq_nil_of_le (by rw [List.length_take]; omega)]
    rfl
  | k + 1, m + 1, i, c, hi, hm, hc => by
    have hi2 : i < L.length := by omega
    have e : m_gt μ r i = L[i] := hr.get (List.getElem?_eq_getElem hi2) (by omega)
    have hx := hL L[i] (List.getElem_mem hi2)
    show jX8_checked_5b (jX8_checked_5 N m) N r b c i μ = _
    unfold jX8_checked_5b
    have hi3 : i < (L.take b).length := by rw [List.length_take]; omega
    rw [if_neg (by omega), ald_e hk (by omega) (by omega), ob_e, bnd_e, bnd_e, e, i_mul_e (by omega) (by omega), i_add_e (x := 7 * c) (by omega) (by omega), i_rem_p (by omega) (by omega) (by omega) (by omega), i_add_e (by omega) (by omega), show (i : Int) + 1 = ((i + 1 : Nat) : Int) by omega, checked_M hk hr hL hn hn2 hb k m (i + 1) _ (by omega) (by omega) (by omega), List.drop_eq_getElem_cons hi3, List.getElem_take]
    rfl
def ib (x : Int) : Int := if x = -2 then 200 else x
/-- an image but for its last byte -/
def im0 (R : List Int) : List Int := (R.length : Int) :: R.map ib
def img (R : List Int) : List Int := im0 R ++ [chb 11 (im0 R)]
theorem im0_len (R : List Int) : (im0 R).length = R.length + 1 := by simp [im0]
theorem img_len (R : List Int) : (img R).length = R.length + 2 := by simp [img, im0]
theorem im0_ok {R : List Int} (h : rok R) (hl : R.length ≤ 27) : ∀ x ∈ im0 R, 0 ≤ x ∧ x ≤ 255 := by
  intro x hx
  unfold im0 at hx
  rcases List.mem_cons.mp hx with z | z
  · omega
  · obtain ⟨y, hy, rfl⟩ := List.mem_map.mp z
    have := h y hy
    unfold ib
    split <;> omega
def ImX (I : List Int) (μ : Mm) : Prop := m_gt μ 0 11 = I.length ∧ Row μ 49 0 I
def ImM (I : List Int) (μ : Mm) : Prop := m_gt μ 50 84 = I.length ∧ Row μ 103 0 I
theorem ImX.ag {I : List Int} {μ μ' : Mm} (h : ImX I μ) (g : Ag [49] [(0, 11)] μ μ') : ImX I μ' := ⟨by rw [g.2 (0, 11) (by decide)]; exact h.1, h.2.ag g (by decide)⟩
theorem ImM.ag {I : List Int} {μ μ' : Mm} (h : ImM I μ) (g : Ag [103] [(50, 84)] μ μ') : ImM I μ' := ⟨by rw [g.2 (50, 84) (by decide)]; exact h.1, h.2.ag g (by decide)⟩
theorem image_Xl {N : Nat} (hN : 1000000 ≤ N) {sh l : Int} {G : Gm} {R : List Int} : ∀ (k n i : Nat) {μ : Mm}, i + k = R.length → k < n → SC sh l G R μ → m_gt μ 0 5 = sh → Row μ 49 0 ((R.length : Int) :: (R.take i).map ib) → ∃ μ', jX7_image_23 N n 0 R.length i μ = some ((R.length : Int) + 2, μ') ∧ ImX (img R) μ' ∧ Fr [49] [(0, 11)] μ μ'
  | k, 0, i, μ, hi, hn, _, _, _ => absurd hn (by omega)
  | 0, n + 1, i, μ, hi, hn, h, h5, hr => by
    have hK := h.2.1
    have hl := (R_len h.1.2.2.1 h.1.2.2.2).1
    have hs := h.2.2.2.2
    rw [show i = R.length by omega, List.take_length] at hr
    change Row μ 49 0 (im0 R) at hr
    have hc := check_X (N := N) (k_49 hK) hr (im0_ok (R_rok h.1.2.2.1 h.1.2.2.2) hl) (by rw [im0_len]; omega) (by omega) (b := (im0 R).length) (Nat.le_refl _) (im0 R).length N 0 11 (by omega) (by rw [im0_len]; omega) (by omega)
    rw [List.take_length, List.drop_zero] at hc
    have f1 : Fr [49] [(0, 11)] μ (m_st μ 49 ((R.length : Int) + 1) (chb 11 (im0 R))) := Fr.stI (Fr.rf0 _ _ _) (by simp)
    refine ⟨m_st (m_st μ 49 ((R.length : Int) + 1) (chb 11 (im0 R))) 0 11 ((R.length : Int) + 2), ?_, ?_, f1.stI (by decide)⟩
    · show jX7_image_23b (jX7_image_23 N n) N 0 R.length i μ = _
      unfold jX7_image_23b jX7_checkByte
      have hc' : jX7_checkByte_5 N N 49 ((R.length : Int) + 1) 11 0 μ = some (chb 11 (im0 R), μ) := by
        rw [im0_len] at hc
        exact hc
      simp (disch := omega) only [if_pos, r_0_10 hK, bnd_e, b2_e, ob_e, gt_same, gt_r, gt_i, i_add_e, i_sub_e, chk_st, len_st, ald_st, ast_st, hc', ald_e (k_49 hK), ast_e (k_49 hK), len_e (k_49 hK) (by decide) (by decide)]
    · refine ⟨?_, ?_⟩
      · rw [gt_same, img_len]
        omega
      · have := Row.push hr (chb 11 (im0 R))
        rw [im0_len, Int.zero_add, show ((R.length + 1 : Nat) : Int) = (R.length : Int) + 1 by omega] at this
        exact this.ext (fun j => gt_r _ _ _ _ (by decide))
  | k + 1, n + 1, i, μ, hi, hn, h, h5, hr => by
    have hK := h.2.1
    have hl := (R_len h.1.2.2.1 h.1.2.2.2).1
    have hs := h.2.2.2.2
    have s1 := hs.1.1
    obtain ⟨q1, q2, q3, q4, q5⟩ := SK.of hK h.1.1
    have hsh := h.1.1
    have hi2 : i < R.length := by omega
    have hk : R[i]? = some R[i] := List.getElem?_eq_getElem hi2
    have e : m_gt μ (sh + 1) i = R[i] := hs.2.1.get hk (by omega)
    have f1 : Fr [49] [(0, 11)] μ (m_st μ 49 ((i : Int) + 1) (ib R[i])) := Fr.stI (Fr.rf0 _ _ _) (by simp)
    have h1 : SC sh l G R (m_st μ 49 ((i : Int) + 1) (ib R[i])) := by
      refine ⟨h.1, f1.KR hK (by decide), ?_, ?_, hs.ext (fun r j hr => gt_r _ _ _ _ (by omega))⟩
      · rcases h.1.2.1 with rfl | rfl <;> exact h.2.2.1.ag (f1.ag (by decide))
      · rcases h.1.2.1 with rfl | rfl <;> exact h.2.2.2.1.ag (f1.ag (by decide))
    have hr1 : Row (m_st μ 49 ((i : Int) + 1) (ib R[i])) 49 0 ((R.length : Int) :: (R.take (i + 1)).map ib) := by
      have := Row.push hr (ib R[i])
      rw [take_snoc hk, List.map_append, List.map_singleton]
      have el : (((R.length : Int) :: (R.take i).map ib).length : Int) = (i : Int) + 1 := by simp; omega
      rw [el, Int.zero_add] at this
      exact this
    obtain ⟨μ', g1, g2, g3⟩ := image_Xl hN k n (i + 1) (by omega) (by omega) h1 (by rw [gt_r _ _ _ _ (by decide)]; exact h5) hr1
    refine ⟨μ', ?_, g2, f1.trI g3⟩
    show jX7_image_23b (jX7_image_23 N n) N 0 R.length i μ = _
    unfold jX7_image_23b jX7_image_64
    simp (disch := omega) only [h5, s1, q4, e, chk_e q1, if_neg, r_0_10 hK, bnd_e, b2_e, ob_e, gt_same, gt_r, gt_i, i_add_e, i_sub_e, chk_st, len_st, ald_st, ast_st, ald_e q2, ald_e (k_49 hK), ast_e (k_49 hK), len_e (k_49 hK) (by decide) (by decide)]
    rw [show ((i + 1 : Nat) : Int) = (i : Int) + 1 by omega] at g1
    by_cases z : R[i] = -2
    · rw [if_neg (not_not_intro z)]
      unfold ib at g1
      rw [if_pos z] at g1
      exact g1
    · rw [if_pos z]
      unfold ib at g1
      rw [if_neg z] at g1
      exact g1
theorem image_X {N : Nat} (hN : 1000000 ≤ N) {sh l : Int} {G : Gm} {R : List Int} {μ : Mm} (h : SC sh l G R μ) (h5 : m_gt μ 0 5 = sh) : ∃ μ', jX7_image N 0 μ = some ((R.length : Int) + 2, μ') ∧ ImX (img R) μ' ∧ Fr [49] [(0, 11)] μ μ' := by
  have hK := h.2.1
  have hs := h.2.2.2.2
  have hsh := h.1.1
  have hl := (R_len h.1.2.2.1 h.1.2.2.2).1
  have f1 : Fr [49] [(0, 11)] μ (m_st μ 49 0 R.length) := Fr.stI (Fr.rf0 _ _ _) (by simp)
  have h1 : SC sh l G R (m_st μ 49 0 R.length) := by
    refine ⟨h.1, f1.KR hK (by decide), ?_, ?_, hs.ext (fun r j hr => gt_r _ _ _ _ (by omega))⟩
    · rcases h.1.2.1 with rfl | rfl <;> exact h.2.2.1.ag (f1.ag (by decide))
    · rcases h.1.2.1 with rfl | rfl <;> exact h.2.2.2.1.ag (f1.ag (by decide))
  obtain ⟨μ', g1, g2, g3⟩ := image_Xl (N := N) hN R.length N 0 (by omega) (by omega) h1 (by rw [gt_r _ _ _ _ (by decide)]; exact h5) (by
    intro i hi
    have hi0 : i = 0 := by simp at hi; omega
    subst hi0
    show m_gt (m_st μ 49 0 (R.length : Int)) 49 0 = (R.length : Int)
    rw [gt_same])
  refine ⟨μ', ?_, g2, f1.trI g3⟩
  unfold jX7_image
  rw [h5, chk_e (SK.of hK h.1.1).1, hs.1.1, within_X, b2_e, show i_max 0 (i_min 27 (R.length : Int)) = R.length by unfold i_max i_min; repeat' split <;> omega, r_0_10 hK, ast_e (k_49 hK) (by omega) (by omega), ob_e]
  exact g1
theorem octet_X {N : Nat} {I : List Int} {μ : Mm} (hK : KR μ) (h : ImX I μ) (hl : I.length ≤ 29) (i : Int) : jX7_octet N 0 i μ = some (rA I i, μ) := by
  unfold jX7_octet jX7_octet_21 jX7_octet_31 rA
  rw [h.1, r_0_10 hK, len_e (k_49 hK) (by decide) (by decide), ob_e]
  by_cases c : i < 0
  · rw [if_pos c, if_neg (by omega)]
  · rw [if_neg c]
    by_cases c2 : (I.length : Int) ≤ i
    · rw [if_pos c2, if_neg (by omega)]
    · rw [if_neg c2, if_pos (show i < ((29 : Nat) : Int) by omega), if_pos (by omega), ald_e (k_49 hK) (by omega) (by omega), ob_e, h.2.at (by omega) (by omega)]
      simp
theorem octet_M {N : Nat} {I : List Int} {μ : Mm} (hK : KR μ) (h : ImM I μ) (hl : I.length ≤ 29) (i : Int) : jX8_octet N 50 i μ = some (rA I i, μ) := by
  unfold jX8_octet jX8_octet_21 jX8_octet_22 rA
  rw [h.1, r_50_83 hK]
  by_cases c : i < 0
  · rw [if_pos c, if_neg (by omega)]
  · rw [if_neg c]
    by_cases c2 : (I.length : Int) ≤ i
    · rw [if_pos c2, if_neg (by omega)]
    · rw [if_neg c2, if_pos (by omega), ald_e (k_103 hK) (by omega) (by omega), ob_e, h.2.at (by omega) (by omega)]
      simp
theorem writes_M {N : Nat} {I : List Int} {v : Int} {μ : Mm} (hK : KR μ) (h : ImM I μ) (hl : I.length < 40) : ∃ μ', jX8_writes N 50 v μ = some μ' ∧ ImM (I ++ [v]) μ' ∧ Fr [103] [(50, 84)] μ μ' := by
  refine ⟨m_st (m_st μ 103 I.length v) 50 84 (I.length + 1), ?_, ⟨?_, ?_⟩, Fr.stI (Fr.stI (Fr.rf0 _ _ _) (by simp)) (by simp)⟩
  · unfold jX8_writes
    simp (disch := omega) only [h.1, r_50_83 hK, ald_e (k_103 hK), ast_e (k_103 hK), len_e (k_103 hK) (by decide) (by decide), bnd_e, b2_e, ob_e, gt_same, gt_r, gt_i, i_add_e, i_sub_e, chk_st, len_st, ald_st, ast_st]
  · rw [gt_same, List.length_append, List.length_singleton]; omega
  · have := Row.push h.2 v
    rw [Int.zero_add] at this
    exact this.ext (fun i => gt_r _ _ _ _ (by decide))
theorem image_Ml {N : Nat} (hN : 1000000 ≤ N) {R : List Int} (hl : R.length ≤ 27) (hok : rok R) : ∀ (k n i : Nat) {μ : Mm}, i + k = R.length → k < n → KR μ → RM R μ → ImM ((R.length : Int) :: (R.take i).map ib) μ → ∃ μ', jX8_image_15 N n 50 i μ = some ((R.length : Int) + 2, μ') ∧ ImM (img R) μ' ∧ Fr [103] [(50, 84)] μ μ'
  | k, 0, i, μ, hi, hn, _, _, _ => absurd hn (by omega)
  | 0, n + 1, i, μ, hi, hn, hK, hR, hI => by
    rw [show i = R.length by omega, List.take_length] at hI
    change ImM (im0 R) μ at hI
    have hc := checked_M (N := N) (k_103 hK) hI.2 (im0_ok hok hl) (by rw [im0_len]; omega) (by omega) (b := (im0 R).length) (Nat.le_refl _) (im0 R).length N 0 11 (by omega) (by rw [im0_len]; omega) (by omega)
    rw [List.take_length, List.drop_zero] at hc
    obtain ⟨μ1, e1, e2, e3⟩ := writes_M (N := N) (v := chb 11 (im0 R)) hK hI (by rw [im0_len]; omega)
    refine ⟨μ1, ?_, e2, e3⟩
    show jX8_image_15b (jX8_image_15 N n) N 50 i μ = _
    unfold jX8_image_15b jX8_checked
    rw [hR.1, if_pos (by omega), r_50_83 hK, hI.1]
    rw [show ((0 : Nat) : Int) = 0 from rfl] at hc
    rw [hc, b2_e, e1, ob_e, e2.1, List.length_append, im0_len, List.length_singleton]
    rfl
  | k + 1, n + 1, i, μ, hi, hn, hK, hR, hI => by
    have hi2 : i < R.length := by omega
    have hk : R[i]? = some R[i] := List.getElem?_eq_getElem hi2
    have e : m_gt μ 89 i = R[i] := hR.2.get hk (by omega)
    obtain ⟨μ1, e1, e2, e3⟩ := writes_M (N := N) (v := ib R[i]) hK hI (by simp; omega)
    have e4 : ImM ((R.length : Int) :: (R.take (i + 1)).map ib) μ1 := by
      rw [take_snoc hk, List.map_append, List.map_singleton]
      exact e2
    obtain ⟨μ2, g1, g2, g3⟩ := image_Ml hN hl hok k n (i + 1) (by omega) (by omega) (e3.KR hK (by decide)) (hR.ag (e3.ag (by decide))) e4
    refine ⟨μ2, ?_, g2, e3.trI g3⟩
    show jX8_image_15b (jX8_image_15 N n) N 50 i μ = _
    unfold jX8_image_15b jX8_image_47
    rw [show ((i + 1 : Nat) : Int) = (i : Int) + 1 by omega] at g1
    simp (disch := omega) only [hR.1, if_neg, e, r_50_59 hK, ald_e (k_89 hK), ast_e (k_89 hK), len_e (k_89 hK) (by decide) (by decide), bnd_e, b2_e, ob_e, gt_same, gt_r, gt_i, i_add_e, i_sub_e, chk_st, len_st, ald_st, ast_st, chk_e (k_50 hK)]
    by_cases z : R[i] = -2
    · rw [if_neg (not_not_intro z)]
      unfold ib at e1
      rw [if_pos z] at e1
      rw [e1, ob_e]
      exact g1
    · rw [if_pos z]
      unfold ib at e1
      rw [if_neg z] at e1
      rw [e1, ob_e]
      exact g1
theorem image_M {N : Nat} (hN : 1000000 ≤ N) {R : List Int} (hl : R.length ≤ 27) (hok : rok R) {μ : Mm} (hK : KR μ) (hR : RM R μ) : ∃ μ', jX8_image N 50 μ = some ((R.length : Int) + 2, μ') ∧ ImM (img R) μ' ∧ Fr [103] [(50, 84)] μ μ' := by
  have f0 : Fr [103] [(50, 84)] μ (m_st μ 50 84 0) := Fr.stI (Fr.rf0 _ _ _) (by simp)
  have R0 : RM R (m_st μ 50 84 0) := hR.ag (f0.ag (by decide))
  obtain ⟨μ1, e1, e2, e3⟩ := writes_M (N := N) (I := []) (v := (R.length : Int)) (f0.KR hK (by decide)) ⟨gt_same _ _ _ _, Row.nil _ _ _⟩ (by simp)
  have f1 := f0.trI e3
  obtain ⟨μ2, g1, g2, g3⟩ := image_Ml (N := N) hN hl hok R.length N 0 (by omega) (by omega) (f1.KR hK (by decide)) (hR.ag (f1.ag (by decide))) e2
  refine ⟨μ2, ?_, g2, f1.trI g3⟩
  unfold jX8_image
  rw [bnd_e, R0.1, e1, ob_e]
  exact g1
