/-! ===== PURE: rows of counts and marks, raw ===== -/
def SPK (μ : Mm) (p c : Int) : Prop := (m_kd μ p = (6, 0) ∧ m_kd μ c = (101, 11900) ∧ m_kd μ (p + 2) = (100, 14) ∧ m_kd μ (p + 3) = (100, 14)) ∧ m_gt μ p 0 = 850 ∧ m_gt μ p 1 = c ∧ m_gt μ p 2 = p + 2 ∧ m_gt μ p 3 = p + 3
def pc (p c : Int) : Prop := (p = 34 ∧ c = 105) ∨ (p = 38 ∧ c = 106)
def OP (μ : Mm) : Prop := m_kd μ 105 = (101, 11900) ∧ m_kd μ 106 = (101, 11900) ∧ m_gt μ 34 1 = 105 ∧ m_gt μ 38 1 = 106
theorem SPK.of {μ : Mm} (hK : KR μ) (hO : OP μ) {p c : Int} (h : pc p c) : SPK μ p c := by
  rcases h with ⟨rfl, rfl⟩ | ⟨rfl, rfl⟩
  · exact ⟨⟨k_34 hK, hO.1, k_36 hK, k_37 hK⟩, r_34_0 hK, hO.2.2.1, r_34_2 hK, r_34_3 hK⟩
  · exact ⟨⟨k_38 hK, hO.2.1, k_40 hK, k_41 hK⟩, r_38_0 hK, hO.2.2.2, r_38_2 hK, r_38_3 hK⟩
theorem isRow_X {N : Nat} {p c r : Int} {μ : Mm} (h : SPK μ p c) (h0 : 0 ≤ r ∧ r < 14) : jX6_isRow N p r μ = some (1, μ) := by
  obtain ⟨⟨k1, k2, k3, k4⟩, w0, w1, w2, w3⟩ := h
  unfold jX6_isRow jX6_isRow_34
  rw [if_neg (by omega), w2, len_e k3 (by decide) (by decide), ob_e, if_neg (by omega), w1, len_e k2 (by decide) (by decide), ob_e, w0, i_add_e (by omega) (by omega), i_mul_e (by omega) (by omega), if_neg (by omega), z_e (Or.inr rfl)]
theorem low_X {N : Nat} {p c r : Int} {μ : Mm} (h : SPK μ p c) (h0 : 0 ≤ r ∧ r < 14) : jX6_low N p r μ = some (m_gt μ (p + 2) r, μ) := by
  unfold jX6_low jX6_low_21
  rw [isRow_X h h0, b2_e, if_neg (by decide), h.2.2.2.1, ald_e h.1.2.2.1 h0.1 (by omega), ob_e]
theorem high_X {N : Nat} {p c r : Int} {μ : Mm} (h : SPK μ p c) (h0 : 0 ≤ r ∧ r < 14) : jX6_high N p r μ = some (m_gt μ (p + 3) r, μ) := by
  unfold jX6_high jX6_high_18
  rw [isRow_X h h0, b2_e, if_neg (by decide), h.2.2.2.2, ald_e h.1.2.2.2 h0.1 (by omega), ob_e]
theorem isEmpty_X {N : Nat} {p c r : Int} {μ : Mm} (h : SPK μ p c) (h0 : 0 ≤ r ∧ r < 14) : jX6_isEmpty N p r μ = some (if m_gt μ (p + 2) r ≤ m_gt μ (p + 3) r then 0 else 1, μ) := by
  unfold jX6_isEmpty jX6_isEmpty_18
  rw [low_X h h0, b2_e, high_X h h0, b2_e, z_e (Or.inl rfl), z_e (Or.inr rfl), ites]
theorem value_X {N : Nat} {p c r t : Int} {μ : Mm} (h : SPK μ p c) (h0 : 0 ≤ r ∧ r < 14) (ht : 0 ≤ t ∧ t < 850) : jX6_value N p r t μ = some (m_gt μ c (r * 850 + t), μ) := by
  unfold jX6_value jX6_value_37
  rw [isRow_X h h0, b2_e, if_neg (by decide), if_neg (by omega), h.2.1, if_neg (by omega), h.2.2.1, i_mul_e (by omega) (by omega), i_add_e (by omega) (by omega), ald_e h.1.2.1 (by omega) (by omega), ob_e]
def mnI (a b : Int) : Int := if b < a then b else a
def mxI (a b : Int) : Int := if a < b then b else a
theorem stretch_X {N : Nat} {p c r a b : Int} {μ : Mm} (h : SPK μ p c) (h0 : 0 ≤ r ∧ r < 14) : jX6_stretch N p r a b μ = some (m_st (m_st μ (p + 2) r (mnI (m_gt μ (p + 2) r) a)) (p + 3) r (mxI (m_gt μ (p + 3) r) b)) := by
  obtain ⟨⟨k1, k2, k3, k4⟩, w0, w1, w2, w3⟩ := id h
  unfold jX6_stretch jX6_stretch_40
  rw [isRow_X h h0, b2_e, if_neg (by decide)]
  have e1 : ∀ a b, i_min a b = mnI a b := fun a b => rfl
  have e2 : ∀ a b, i_max a b = mxI a b := fun a b => rfl
  simp (disch := omega) only [w2, w3, ald_e k3, ast_e k3, ald_e k4, ast_e k4, ob_e, gt_r, ald_st, ast_st, e1, e2]
theorem canTake_X {N : Nat} {p c q d a r g : Int} {μ : Mm} (hp : SPK μ p c) (hq : SPK μ q d) (ha : 0 ≤ a ∧ a < 14) (hr : 0 ≤ r ∧ r < 14) (hg : -50 ≤ g ∧ g ≤ 56) (h1 : m_gt μ (p + 2) a ≤ m_gt μ (p + 3) a) (h2 : 0 ≤ m_gt μ (p + 2) a + g) (h3 : m_gt μ (p + 3) a + g < 850) : jX6_canTake N q p a r g μ = some (1, μ) := by
  obtain ⟨⟨k1, k2, k3, k4⟩, w0, w1, w2, w3⟩ := id hp
  unfold jX6_canTake jX6_canTake_75
  rw [chk_e k1, isRow_X hp ha, b2_e, if_neg (by decide), isRow_X hq hr, b2_e, if_neg (by decide), w0, hq.2.1, if_neg (by decide), w2, ald_e k3 (by omega) (by omega), ob_e, w3, ald_e k4 (by omega) (by omega), ob_e, if_neg (by omega), ob_e, i_add_e (by omega) (by omega), if_neg (by omega), ob_e, i_add_e (by omega) (by omega), if_neg (by omega), z_e (Or.inr rfl)]
def CM : Int := 1000000000000000000
def satm (h T : Int) : Int := if h ≤ CM / T then h * T else CM
def satA (v h T : Int) : Int := mnI CM (v + satm h T)
theorem satm_ok {h T : Int} (h0 : 0 ≤ h) (hT : 1 ≤ T) : 0 ≤ satm h T ∧ satm h T ≤ CM := by
  unfold satm
  split
  · refine ⟨Int.mul_nonneg h0 (by omega), ?_⟩
    have := Int.mul_le_mul_of_nonneg_right ‹h ≤ CM / T› (show 0 ≤ T by omega)
    have h2 := Int.ediv_mul_le CM (show T ≠ 0 by omega)
    omega
  · unfold CM; omega
theorem l_div_p {x y : Int} (h0 : 0 ≤ x) (hx : x ≤ 9223372036854775807) (hy : 0 < y) (hy2 : y ≤ 9223372036854775807) : l_div x y = x / y := by
  unfold l_div
  rw [Int64.toInt_div_of_ne_right _ _ (fun q => by
    have e : (Int64.ofInt y).toInt = y := toJ ⟨by omega, hy2⟩
    rw [q] at e
    have : (-1 : Int64).toInt = -1 := rfl
    omega), toJ ⟨by omega, hx⟩, toJ ⟨by omega, hy2⟩]
  exact Int.tdiv_eq_ediv_of_nonneg h0
theorem counts_47 {N : Nat} {p c q d a r g T lo hi : Int} (hcd : c ≠ d) (hpq : q + 2 ≠ c ∧ q + 3 ≠ c ∧ p ≠ d ∧ q ≠ d ∧ p + 2 ≠ d ∧ p + 3 ≠ d) (ha : 0 ≤ a ∧ a < 14) (hr : 0 ≤ r ∧ r < 14) (hg : -50 ≤ g ∧ g ≤ 56) (hT : 1 ≤ T ∧ T ≤ 1400) (hlo : 0 ≤ lo) (hhi : hi < 850) (hlg : 0 ≤ lo + g ∧ hi + g < 850) : ∀ (k n : Nat) (t : Int) {μ : Mm}, t + k = hi + 1 → lo ≤ t → k < n → SPK μ p c → SPK μ q d → m_gt μ (p + 2) a = lo → m_gt μ (p + 3) a = hi → (∀ u, t ≤ u → u ≤ hi → 0 ≤ m_gt μ c (a * 850 + u) ∧ m_gt μ c (a * 850 + u) ≤ CM) → (∀ u, t ≤ u → u ≤ hi → 0 ≤ m_gt μ d (r * 850 + g + u) ∧ m_gt μ d (r * 850 + g + u) ≤ CM) → ∃ μ', jX6_addCounts_47 N n q p a r g T (CM / T) (r * 850 + g) t μ = (jX6_stretch N q r (lo + g) (hi + g) μ').bind (fun μ1 => some μ1) ∧ (∀ u, t ≤ u → u ≤ hi → m_gt μ' d (r * 850 + g + u) = satA (m_gt μ d (r * 850 + g + u)) (m_gt μ c (a * 850 + u)) T) ∧ (∀ j, (j < r * 850 + g + t ∨ r * 850 + g + hi < j) → m_gt μ' d j = m_gt μ d j) ∧ Fr [d] [] μ μ'
  | k, 0, t, μ, ht, h0, hn, _, _, _, _, _, _ => absurd hn (by omega)
  | 0, n + 1, t, μ, ht, h0, hn, hp, hq, hl, hh, hc, hd => by
    refine ⟨μ, ?_, fun u u1 u2 => by omega, fun j _ => rfl, Fr.rf0 _ _ _⟩
    obtain ⟨⟨k1, k2, k3, k4⟩, w0, w1, w2, w3⟩ := hp
    show jX6_addCounts_47b (jX6_addCounts_47 N n) N q p a r g T (CM / T) (r * 850 + g) t μ = _
    unfold jX6_addCounts_47b
    rw [chk_e k1, w3, ald_e k4 (by omega) (by omega), ob_e, hh, if_pos (by omega), w2, ald_e k3 (by omega) (by omega), ob_e, ob_e, hl, i_add_e (by omega) (by omega), i_add_e (by omega) (by omega)]
  | k + 1, n + 1, t, μ, ht, h0, hn, hp, hq, hl, hh, hc, hd => by
    obtain ⟨⟨k1, k2, k3, k4⟩, w0, w1, w2, w3⟩ := id hp
    obtain ⟨⟨j1, j2, j3, j4⟩, v0, v1, v2, v3⟩ := id hq
    have hcell := hc t (by omega) (by omega)
    have hdell := hd t (by omega) (by omega)
    have hsm := satm_ok hcell.1 hT.1
    have hCM : CM = 1000000000000000000 := rfl
    let μ1 := m_st μ d (r * 850 + g + t) (satA (m_gt μ d (r * 850 + g + t)) (m_gt μ c (a * 850 + t)) T)
    have f1 : Fr [d] [] μ μ1 := Fr.stI (Fr.rf0 _ _ _) (by simp)
    have gg : ∀ x i : Int, x ≠ d → m_gt μ1 x i = m_gt μ x i := fun x i hx => gt_r _ _ _ _ hx
    have hs : 0 ≤ satA (m_gt μ d (r * 850 + g + t)) (m_gt μ c (a * 850 + t)) T ∧ satA (m_gt μ d (r * 850 + g + t)) (m_gt μ c (a * 850 + t)) T ≤ CM := by unfold satA mnI; split <;> omega
    have K1 : SPK μ1 p c := ⟨⟨k1, k2, k3, k4⟩, by rw [gg p 0 (by omega)]; exact w0, by rw [gg p 1 (by omega)]; exact w1, by rw [gg p 2 (by omega)]; exact w2, by rw [gg p 3 (by omega)]; exact w3⟩
    have K2 : SPK μ1 q d := ⟨⟨j1, j2, j3, j4⟩, by rw [gg q 0 (by omega)]; exact v0, by rw [gg q 1 (by omega)]; exact v1, by rw [gg q 2 (by omega)]; exact v2, by rw [gg q 3 (by omega)]; exact v3⟩
    obtain ⟨μ', e1, e2, e3, e4⟩ := counts_47 hcd hpq ha hr hg hT hlo hhi hlg k n (t + 1) (μ := μ1) (by omega) (by omega) (by omega) K1 K2 (by rw [gg _ _ (by omega)]; exact hl) (by rw [gg _ _ (by omega)]; exact hh) (fun u u1 u2 => by rw [gg _ _ hcd]; exact hc u (by omega) u2) (fun u u1 u2 => by
      show 0 ≤ m_gt (m_st μ d (r * 850 + g + t) (satA (m_gt μ d (r * 850 + g + t)) (m_gt μ c (a * 850 + t)) T)) d (r * 850 + g + u) ∧ m_gt (m_st μ d (r * 850 + g + t) (satA (m_gt μ d (r * 850 + g + t)) (m_gt μ c (a * 850 + t)) T)) d (r * 850 + g + u) ≤ CM
      rw [gt_i _ _ _ (by omega)]
      exact hd u (by omega) u2)
    refine ⟨μ', ?_, fun u u1 u2 => ?_, fun j hj => ?_, f1.trI e4⟩
    · rw [← e1]
      have e93 : ∀ v, v = satm (m_gt μ c (a * 850 + t)) T → jX6_addCounts_93 (jX6_addCounts_47 N n) N q p a r g T (CM / T) (r * 850 + g) t v μ = jX6_addCounts_47 N n q p a r g T (CM / T) (r * 850 + g) (t + 1) μ1 := by
        intro v hv
        unfold jX6_addCounts_93
        rw [v1, i_add_e (x := r * 850 + g) (by omega) (by omega), ald_e j2 (by omega) (by omega), ob_e, ast_e j2 (by omega) (by omega), ob_e, bnd_e, i_add_e (x := t) (by omega) (by omega), l_add_e (by omega) (by omega), hv]
        rfl
      show jX6_addCounts_47b (jX6_addCounts_47 N n) N q p a r g T (CM / T) (r * 850 + g) t μ = _
      unfold jX6_addCounts_47b
      rw [chk_e k1, w3, ald_e k4 (by omega) (by omega), ob_e, hh, if_neg (by omega), w1, v0, i_mul_e (by omega) (by omega), i_add_e (x := a * 850) (by omega) (by omega), ald_e k2 (by omega) (by omega), ob_e]
      by_cases z : m_gt μ c (a * 850 + t) ≤ CM / T
      · have hmul := hsm
        unfold satm at hmul
        rw [if_pos z] at hmul
        rw [if_pos ((l_cmp_le0 _ _).mpr z), l_mul_e (by omega) (by omega)]
        exact e93 _ (by unfold satm; rw [if_pos z])
      · rw [if_neg (fun q => z ((l_cmp_le0 _ _).mp q))]
        exact e93 _ (by unfold satm; rw [if_neg z]; rfl)
    · by_cases z : u = t
      · rw [z, e3 _ (Or.inl (by omega))]
        exact gt_same _ _ _ _
      · rw [e2 u (by omega) u2, gg _ _ hcd]
        congr 1
        exact gt_i _ _ _ (by omega) _
    · rw [e3 j (by omega)]
      exact gt_i _ _ _ (by omega) _
/-- what moving a row of counts does -/
theorem addCounts_X {N : Nat} (hN : 1000000 ≤ N) {p c q d a r g T lo hi : Int} (hcd : c ≠ d) (hpq : q + 2 ≠ c ∧ q + 3 ≠ c ∧ p ≠ d ∧ q ≠ d ∧ p + 2 ≠ d ∧ p + 3 ≠ d) (ha : 0 ≤ a ∧ a < 14) (hr : 0 ≤ r ∧ r < 14) (hg : -50 ≤ g ∧ g ≤ 56) (hT : 1 ≤ T ∧ T ≤ 1400) (hlo : 0 ≤ lo) (hlh : lo ≤ hi) (hhi : hi < 850) (hlg : 0 ≤ lo + g ∧ hi + g < 850) (hq2 : q + 2 ≠ d ∧ q + 3 ≠ d) {μ : Mm} (hp : SPK μ p c) (hq : SPK μ q d) (hl : m_gt μ (p + 2) a = lo) (hh : m_gt μ (p + 3) a = hi) (hc : ∀ u, lo ≤ u → u ≤ hi → 0 ≤ m_gt μ c (a * 850 + u) ∧ m_gt μ c (a * 850 + u) ≤ CM) (hd : ∀ u, lo ≤ u → u ≤ hi → 0 ≤ m_gt μ d (r * 850 + g + u) ∧ m_gt μ d (r * 850 + g + u) ≤ CM) : ∃ μ', jX6_addCounts N q p a r g T μ = some μ' ∧ (∀ u, lo ≤ u → u ≤ hi → m_gt μ' d (r * 850 + g + u) = satA (m_gt μ d (r * 850 + g + u)) (m_gt μ c (a * 850 + u)) T) ∧ (∀ j, (j < r * 850 + g + lo ∨ r * 850 + g + hi < j) → m_gt μ' d j = m_gt μ d j) ∧ (∀ i, m_gt μ' (q + 2) i = if i = r then mnI (m_gt μ (q + 2) r) (lo + g) else m_gt μ (q + 2) i) ∧ (∀ i, m_gt μ' (q + 3) i = if i = r then mxI (m_gt μ (q + 3) r) (hi + g) else m_gt μ (q + 3) i) ∧ Fr [d, q + 2, q + 3] [] μ μ' := by
  obtain ⟨μ1, e1, e2, e3, e4⟩ := counts_47 (N := N) hcd hpq ha hr hg hT hlo hhi hlg (hi - lo + 1).toNat N lo (μ := μ) (by omega) (by omega) (by omega) hp hq hl hh hc hd
  obtain ⟨⟨k1, k2, k3, k4⟩, w0, w1, w2, w3⟩ := id hp
  obtain ⟨⟨j1, j2, j3, j4⟩, v0, v1, v2, v3⟩ := id hq
  have gg : ∀ x i : Int, x ≠ d → m_gt μ1 x i = m_gt μ x i := fun x i hx => e4.2.2 x i (by simp; exact hx) (by simp)
  have K1 : SPK μ1 q d := ⟨⟨by rw [e4.kd]; exact j1, by rw [e4.kd]; exact j2, by rw [e4.kd]; exact j3, by rw [e4.kd]; exact j4⟩, by rw [gg q 0 (by omega)]; exact v0, by rw [gg q 1 (by omega)]; exact v1, by rw [gg q 2 (by omega)]; exact v2, by rw [gg q 3 (by omega)]; exact v3⟩
  rw [stretch_X K1 hr, ob_e] at e1
  have hCM : CM = 1000000000000000000 := rfl
  refine ⟨m_st (m_st μ1 (q + 2) r (mnI (m_gt μ1 (q + 2) r) (lo + g))) (q + 3) r (mxI (m_gt μ1 (q + 3) r) (hi + g)), ?_, fun u u1 u2 => ?_, fun j hj => ?_, fun i => ?_, fun i => ?_, ?_⟩
  · unfold jX6_addCounts
    rw [if_neg (fun z => by have := (l_cmp_le0 _ _).mp z; omega), canTake_X hp hq ha hr hg (by omega) (by omega) (by omega), b2_e, if_pos (by decide), n_e (by omega), bnd_e, bnd_e, v0, i_mul_e (by omega) (by omega), i_add_e (by omega) (by omega), chk_e k1, w2, ald_e k3 (by omega) (by omega), ob_e, hl, l_div_p (by decide) (by decide) (by omega) (by omega)]
    exact e1
  · rw [gt_r _ _ _ _ (by omega), gt_r _ _ _ _ (by omega)]
    exact e2 u u1 u2
  · rw [gt_r _ _ _ _ (by omega), gt_r _ _ _ _ (by omega)]
    exact e3 j hj
  · rw [gt_r _ _ _ _ (by omega), m_gt_st, gg _ _ (by omega), gg _ _ (by omega)]
    by_cases z : i = r
    · rw [if_pos ⟨rfl, z⟩, if_pos z]
    · rw [if_neg (fun y => z y.2), if_neg z]
  · rw [m_gt_st, gg _ _ (by omega), gt_r _ _ _ _ (by omega), gg _ _ (by omega)]
    by_cases z : i = r
    · rw [if_pos ⟨rfl, z⟩, if_pos z]
    · rw [if_neg (fun y => z y.2), if_neg z]
  · exact Fr.stI (Fr.stI (e4.mono (by simp) (by simp)) (by simp)) (by simp)
def orM (v h m : Int) : Int := if h = 0 then v else l_or v (if m = 0 then h else m)
theorem marks_32 {N : Nat} {p c q d a r g m lo hi : Int} (hcd : c ≠ d) (hpq : q + 2 ≠ c ∧ q + 3 ≠ c ∧ p ≠ d ∧ q ≠ d ∧ p + 2 ≠ d ∧ p + 3 ≠ d) (ha : 0 ≤ a ∧ a < 14) (hr : 0 ≤ r ∧ r < 14) (hg : -50 ≤ g ∧ g ≤ 56) (hlo : 0 ≤ lo) (hhi : hi < 850) (hlg : 0 ≤ lo + g ∧ hi + g < 850) : ∀ (k n : Nat) (t : Int) {μ : Mm}, t + k = hi + 1 → lo ≤ t → k < n → SPK μ p c → SPK μ q d → m_gt μ (p + 2) a = lo → m_gt μ (p + 3) a = hi → ∃ μ', jX6_addMarks_32 N n q p a r g m (r * 850 + g) t μ = (jX6_stretch N q r (lo + g) (hi + g) μ').bind (fun μ1 => some μ1) ∧ (∀ u, t ≤ u → u ≤ hi → m_gt μ' d (r * 850 + g + u) = orM (m_gt μ d (r * 850 + g + u)) (m_gt μ c (a * 850 + u)) m) ∧ (∀ j, (j < r * 850 + g + t ∨ r * 850 + g + hi < j) → m_gt μ' d j = m_gt μ d j) ∧ Fr [d] [] μ μ'
  | k, 0, t, μ, ht, h0, hn, _, _, _, _ => absurd hn (by omega)
  | 0, n + 1, t, μ, ht, h0, hn, hp, hq, hl, hh => by
    refine ⟨μ, ?_, fun u u1 u2 => by omega, fun j _ => rfl, Fr.rf0 _ _ _⟩
    obtain ⟨⟨k1, k2, k3, k4⟩, w0, w1, w2, w3⟩ := hp
    show jX6_addMarks_32b (jX6_addMarks_32 N n) N q p a r g m (r * 850 + g) t μ = _
    unfold jX6_addMarks_32b
    rw [chk_e k1, w3, ald_e k4 (by omega) (by omega), ob_e, hh, if_pos (by omega), w2, ald_e k3 (by omega) (by omega), ob_e, ob_e, hl, i_add_e (by omega) (by omega), i_add_e (by omega) (by omega)]
  | k + 1, n + 1, t, μ, ht, h0, hn, hp, hq, hl, hh => by
    obtain ⟨⟨k1, k2, k3, k4⟩, w0, w1, w2, w3⟩ := id hp
    obtain ⟨⟨j1, j2, j3, j4⟩, v0, v1, v2, v3⟩ := id hq
    have fin : ∀ μ1 : Mm, (∀ x i : Int, x ≠ d → m_gt μ1 x i = m_gt μ x i) → Fr [d] [] μ μ1 → m_gt μ1 d (r * 850 + g + t) = orM (m_gt μ d (r * 850 + g + t)) (m_gt μ c (a * 850 + t)) m → (∀ j, j ≠ r * 850 + g + t → m_gt μ1 d j = m_gt μ d j) → ∃ μ', jX6_addMarks_93 (jX6_addMarks_32 N n) N q p a r g m (r * 850 + g) t μ1 = (jX6_stretch N q r (lo + g) (hi + g) μ').bind (fun μ1 => some μ1) ∧ (∀ u, t ≤ u → u ≤ hi → m_gt μ' d (r * 850 + g + u) = orM (m_gt μ d (r * 850 + g + u)) (m_gt μ c (a * 850 + u)) m) ∧ (∀ j, (j < r * 850 + g + t ∨ r * 850 + g + hi < j) → m_gt μ' d j = m_gt μ d j) ∧ Fr [d] [] μ μ' := by
      intro μ1 gg f1 hv ho
      have K1 : SPK μ1 p c := ⟨⟨by rw [f1.kd]; exact k1, by rw [f1.kd]; exact k2, by rw [f1.kd]; exact k3, by rw [f1.kd]; exact k4⟩, by rw [gg p 0 (by omega)]; exact w0, by rw [gg p 1 (by omega)]; exact w1, by rw [gg p 2 (by omega)]; exact w2, by rw [gg p 3 (by omega)]; exact w3⟩
      have K2 : SPK μ1 q d := ⟨⟨by rw [f1.kd]; exact j1, by rw [f1.kd]; exact j2, by rw [f1.kd]; exact j3, by rw [f1.kd]; exact j4⟩, by rw [gg q 0 (by omega)]; exact v0, by rw [gg q 1 (by omega)]; exact v1, by rw [gg q 2 (by omega)]; exact v2, by rw [gg q 3 (by omega)]; exact v3⟩
      obtain ⟨μ', e1, e2, e3, e4⟩ := marks_32 hcd hpq ha hr hg hlo hhi hlg k n (t + 1) (μ := μ1) (by omega) (by omega) (by omega) K1 K2 (by rw [gg _ _ (by omega)]; exact hl) (by rw [gg _ _ (by omega)]; exact hh)
      refine ⟨μ', ?_, fun u u1 u2 => ?_, fun j hj => ?_, f1.trI e4⟩
      · unfold jX6_addMarks_93
        rw [bnd_e, i_add_e (by omega) (by omega)]
        exact e1
      · by_cases z : u = t
        · rw [z, e3 _ (Or.inl (by omega))]
          exact hv
        · rw [e2 u (by omega) u2, gg _ _ hcd, ho _ (by omega)]
      · rw [e3 j (by omega)]
        exact ho j (by omega)
    show ∃ μ', jX6_addMarks_32b (jX6_addMarks_32 N n) N q p a r g m (r * 850 + g) t μ = _ ∧ _
    unfold jX6_addMarks_32b
    rw [chk_e k1, w3, ald_e k4 (by omega) (by omega), ob_e, hh, if_neg (by omega), w1, v0, i_mul_e (by omega) (by omega), i_add_e (x := a * 850) (by omega) (by omega), ald_e k2 (by omega) (by omega), ob_e]
    by_cases z : m_gt μ c (a * 850 + t) = 0
    · rw [if_pos ((l_cmp_eq0 _ _).mpr z)]
      exact fin μ (fun _ _ _ => rfl) (Fr.rf0 _ _ _) (by unfold orM; rw [if_pos z]) (fun _ _ => rfl)
    · rw [if_neg (fun q => z ((l_cmp_eq0 _ _).mp q)), v1, i_add_e (x := r * 850 + g) (by omega) (by omega), ald_e j2 (by omega) (by omega), ob_e]
      unfold jX6_addMarks_91
      rw [ast_e j2 (by omega) (by omega), ob_e, ast_e j2 (by omega) (by omega), ob_e]
      have fin2 : ∀ v, v = (if m = 0 then m_gt μ c (a * 850 + t) else m) → ∃ μ', jX6_addMarks_93 (jX6_addMarks_32 N n) N q p a r g m (r * 850 + g) t (m_st μ d (r * 850 + g + t) (l_or (m_gt μ d (r * 850 + g + t)) v)) = (jX6_stretch N q r (lo + g) (hi + g) μ').bind (fun μ1 => some μ1) ∧ (∀ u, t ≤ u → u ≤ hi → m_gt μ' d (r * 850 + g + u) = orM (m_gt μ d (r * 850 + g + u)) (m_gt μ c (a * 850 + u)) m) ∧ (∀ j, (j < r * 850 + g + t ∨ r * 850 + g + hi < j) → m_gt μ' d j = m_gt μ d j) ∧ Fr [d] [] μ μ' := by
        intro v hv
        refine fin _ (fun x i hx => gt_r _ _ _ _ hx) (Fr.stI (Fr.rf0 _ _ _) (by simp)) ?_ (fun j hj => gt_i _ _ _ hj _)
        rw [gt_same]
        unfold orM
        rw [if_neg z, hv]
      by_cases y : m = 0
      · rw [if_neg (not_not_intro ((l_cmp_eq0 _ _).mpr y))]
        exact fin2 _ (by rw [if_pos y])
      · rw [if_pos (fun q => y ((l_cmp_eq0 _ _).mp q))]
        exact fin2 _ (by rw [if_neg y])
theorem addMarks_X {N : Nat} (hN : 1000000 ≤ N) {p c q d a r g m lo hi : Int} (hcd : c ≠ d) (hpq : q + 2 ≠ c ∧ q + 3 ≠ c ∧ p ≠ d ∧ q ≠ d ∧ p + 2 ≠ d ∧ p + 3 ≠ d) (ha : 0 ≤ a ∧ a < 14) (hr : 0 ≤ r ∧ r < 14) (hg : -50 ≤ g ∧ g ≤ 56) (hlo : 0 ≤ lo) (hlh : lo ≤ hi) (hhi : hi < 850) (hlg : 0 ≤ lo + g ∧ hi + g < 850) (hq2 : q + 2 ≠ d ∧ q + 3 ≠ d) {μ : Mm} (hp : SPK μ p c) (hq : SPK μ q d) (hl : m_gt μ (p + 2) a = lo) (hh : m_gt μ (p + 3) a = hi) : ∃ μ', jX6_addMarks N q p a r g m μ = some μ' ∧ (∀ u, lo ≤ u → u ≤ hi → m_gt μ' d (r * 850 + g + u) = orM (m_gt μ d (r * 850 + g + u)) (m_gt μ c (a * 850 + u)) m) ∧ (∀ j, (j < r * 850 + g + lo ∨ r * 850 + g + hi < j) → m_gt μ' d j = m_gt μ d j) ∧ (∀ i, m_gt μ' (q + 2) i = if i = r then mnI (m_gt μ (q + 2) r) (lo + g) else m_gt μ (q + 2) i) ∧ (∀ i, m_gt μ' (q + 3) i = if i = r then mxI (m_gt μ (q + 3) r) (hi + g) else m_gt μ (q + 3) i) ∧ Fr [d, q + 2, q + 3] [] μ μ' := by
  obtain ⟨μ1, e1, e2, e3, e4⟩ := marks_32 (N := N) (m := m) hcd hpq ha hr hg hlo hhi hlg (hi - lo + 1).toNat N lo (μ := μ) (by omega) (by omega) (by omega) hp hq hl hh
  obtain ⟨⟨k1, k2, k3, k4⟩, w0, w1, w2, w3⟩ := id hp
  obtain ⟨⟨j1, j2, j3, j4⟩, v0, v1, v2, v3⟩ := id hq
  have gg : ∀ x i : Int, x ≠ d → m_gt μ1 x i = m_gt μ x i := fun x i hx => e4.2.2 x i (by simp; exact hx) (by simp)
  have K1 : SPK μ1 q d := ⟨⟨by rw [e4.kd]; exact j1, by rw [e4.kd]; exact j2, by rw [e4.kd]; exact j3, by rw [e4.kd]; exact j4⟩, by rw [gg q 0 (by omega)]; exact v0, by rw [gg q 1 (by omega)]; exact v1, by rw [gg q 2 (by omega)]; exact v2, by rw [gg q 3 (by omega)]; exact v3⟩
  rw [stretch_X K1 hr, ob_e] at e1
  refine ⟨m_st (m_st μ1 (q + 2) r (mnI (m_gt μ1 (q + 2) r) (lo + g))) (q + 3) r (mxI (m_gt μ1 (q + 3) r) (hi + g)), ?_, fun u u1 u2 => ?_, fun j hj => ?_, fun i => ?_, fun i => ?_, ?_⟩
  · unfold jX6_addMarks
    rw [canTake_X hp hq ha hr hg (by omega) (by omega) (by omega), b2_e, if_pos (by decide), bnd_e, v0, i_mul_e (by omega) (by omega), i_add_e (by omega) (by omega), chk_e k1, w2, ald_e k3 (by omega) (by omega), ob_e, hl]
    exact e1
  · rw [gt_r _ _ _ _ (by omega), gt_r _ _ _ _ (by omega)]
    exact e2 u u1 u2
  · rw [gt_r _ _ _ _ (by omega), gt_r _ _ _ _ (by omega)]
    exact e3 j hj
  · rw [gt_r _ _ _ _ (by omega), m_gt_st, gg _ _ (by omega), gg _ _ (by omega)]
    by_cases z : i = r
    · rw [if_pos ⟨rfl, z⟩, if_pos z]
    · rw [if_neg (fun y => z y.2), if_neg z]
  · rw [m_gt_st, gg _ _ (by omega), gt_r _ _ _ _ (by omega), gg _ _ (by omega)]
    by_cases z : i = r
    · rw [if_pos ⟨rfl, z⟩, if_pos z]
    · rw [if_neg (fun y => z y.2), if_neg z]
  · exact Fr.stI (Fr.stI (e4.mono (by simp) (by simp)) (by simp)) (by simp)
