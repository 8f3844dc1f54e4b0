/-! ===== PURE: fills of the reference's tables ===== -/
/-- plain counts of one row, from a base on -/
def TRx (t base : Int) (L : List Int) (μ : Mm) : Prop := ∀ s, -460 ≤ s → s < 600 → m_gt μ t (base + s) = cB L s
def oRx (t base : Int) (μ μ' : Mm) : Prop := Fr [t] [] μ μ' ∧ ∀ j, (j < base - 460 ∨ base + 600 ≤ j) → m_gt μ' t j = m_gt μ t j
theorem oRx.rf (t base : Int) (μ : Mm) : oRx t base μ μ := ⟨Fr.rf0 _ _ _, fun _ _ => rfl⟩
theorem oRx.tr {t base : Int} {a b c : Mm} (h : oRx t base a b) (g : oRx t base b c) : oRx t base a c := ⟨h.1.trI g.1, fun j hj => by rw [g.2 j hj, h.2 j hj]⟩
theorem oRx.KR {t base : Int} (ht : t = 95 ∨ t = 96) {a b : Mm} (h : oRx t base a b) (hK : KR a) : KR b := by rcases ht with rfl | rfl <;> exact h.1.KR hK (by decide)
theorem oRx.GM {t base : Int} (ht : t = 95 ∨ t = 96) {G : Gm} {a b : Mm} (h : oRx t base a b) (hM : GM G a) : GM G b := by rcases ht with rfl | rfl <;> exact hM.ag (h.1.ag (by decide))
def bas (f x : Int) : Int := (24 * f + x) * 1060 + 460
def w3 (x a b c : Int) : Int := a * (x / 6) + b * (x / 2 % 3) + c * (x % 2)
theorem w3_ok {x a b c : Int} (hx : 0 ≤ x ∧ x < 24) (ha : 0 ≤ a ∧ a ≤ 9) (hb : 0 ≤ b ∧ b ≤ 9) (hc : 0 ≤ c ∧ c ≤ 9) : 0 ≤ w3 x a b c ∧ w3 x a b c ≤ 54 ∧ (0 ≤ a * (x / 6) ∧ a * (x / 6) ≤ 27) ∧ (0 ≤ b * (x / 2 % 3) ∧ b * (x / 2 % 3) ≤ 18) ∧ (0 ≤ c * (x % 2) ∧ c * (x % 2) ≤ 9) := by
  have m1 : 0 ≤ a * (x / 6) := Int.mul_nonneg ha.1 (by omega)
  have m2 : a * (x / 6) ≤ 9 * 3 := Int.mul_le_mul ha.2 (by omega) (by omega) (by omega)
  have m3 : 0 ≤ b * (x / 2 % 3) := Int.mul_nonneg hb.1 (by omega)
  have m4 : b * (x / 2 % 3) ≤ 9 * 2 := Int.mul_le_mul hb.2 (by omega) (by omega) (by omega)
  have m5 : 0 ≤ c * (x % 2) := Int.mul_nonneg hc.1 (by omega)
  have m6 : c * (x % 2) ≤ 9 * 1 := Int.mul_le_mul hc.2 (by omega) (by omega) (by omega)
  unfold w3
  omega
theorem cB_len (L : List Int) (s : Int) : cB L s ≤ L.length := List.countP_le_length
theorem fill_130 {N : Nat} {G : Gm} (hG : GOK G) {t x n3 a rb b rc : Int} (ht : t = 95 ∨ t = 96) (hx : 0 ≤ x ∧ x < 24) (ha : 0 ≤ a ∧ a ≤ 9) (hb : 0 ≤ b ∧ b ≤ 9) (hrc : 0 ≤ rc ∧ rc ≤ 9) {k35 : Int → Int → Int → Int → Int → Mm → Option Mm} {k88 : Int → Int → Int → Int → Int → Int → Int → Mm → Option Mm} : ∀ (k n : Nat) (c : Int) (L : List Int) {μ : Mm}, c + k = (if n3 ≤ 2 then 0 else rc) + 1 → 0 ≤ c → k < n → KR μ → GM G μ → L.length + k ≤ 100000 → TRx t (bas (G.1 1) x) L μ → ∃ μ', jX8_fillsAhead_130 k35 k88 N n 50 t x n3 a rb b rc c μ = k88 50 t x n3 a rb (b + 1) μ' ∧ TRx t (bas (G.1 1) x) (L ++ (iot k c).map (fun c => w3 x a b c)) μ' ∧ oRx t (bas (G.1 1) x) μ μ'
  | k, 0, c, L, μ, hc, h0, hn, _, _, _, _ => absurd hn (by omega)
  | 0, n + 1, c, L, μ, hc, h0, hn, hK, hM, hl, hT => by
    refine ⟨μ, ?_, by simpa [iot] using hT, oRx.rf _ _ _⟩
    show jX8_fillsAhead_130b k35 k88 (jX8_fillsAhead_130 k35 k88 N n) N 50 t x n3 a rb b rc c μ = _
    unfold jX8_fillsAhead_130b jX8_fillsAhead_143
    by_cases z : n3 ≤ 2
    · rw [if_pos z] at hc
      rw [if_pos z, if_pos (by omega), bnd_e, i_add_e (by omega) (by omega)]
    · rw [if_neg z] at hc
      rw [if_neg z, if_pos (by omega), bnd_e, i_add_e (by omega) (by omega)]
  | k + 1, n + 1, c, L, μ, hc, h0, hn, hK, hM, hl, hT => by
    have h8 := hG.2.1
    have hc9 : c ≤ 9 := by split at hc <;> omega
    have hw := w3_ok (c := c) hx ha hb ⟨h0, hc9⟩
    have k95 : m_kd μ t = (101, 228960) := by rcases ht with rfl | rfl; exact k_95 hK; exact k_96 hK
    have hb0 : bas (G.1 1) x = (24 * G.1 1 + x) * 1060 + 460 := rfl
    have hold := hT (w3 x a b c) (by omega) (by omega)
    have hcb := cB_len L (w3 x a b c)
    let μ1 := m_st μ t (bas (G.1 1) x + w3 x a b c) (cB L (w3 x a b c) + 1)
    have f1 : oRx t (bas (G.1 1) x) μ μ1 := ⟨Fr.stI (Fr.rf0 _ _ _) (by simp), fun j hj => gt_i _ _ _ (by omega) _⟩
    have T1 : TRx t (bas (G.1 1) x) (L ++ [w3 x a b c]) μ1 := by
      intro s s0 s1
      show m_gt (m_st μ t (bas (G.1 1) x + w3 x a b c) (cB L (w3 x a b c) + 1)) t (bas (G.1 1) x + s) = _
      rw [cB_app]
      by_cases z : s = w3 x a b c
      · rw [z, gt_same]
        have : cB [w3 x a b c] (w3 x a b c) = 1 := by unfold cB; simp
        rw [this]
        omega
      · rw [gt_i _ _ _ (by omega), hT s s0 s1]
        have : cB [w3 x a b c] s = 0 := by
          unfold cB
          rw [List.countP_eq_zero]
          intro y hy q
          rw [List.mem_singleton.mp hy] at q
          exact z (of_decide_eq_true q).symm
        rw [this]
        omega
    obtain ⟨μ', r1, r2, r3⟩ := fill_130 hG ht hx ha hb hrc (N := N) (n3 := n3) (rb := rb) (k35 := k35) (k88 := k88) k n (c + 1) (L ++ [w3 x a b c]) (μ := μ1) (by omega) (by omega) (by omega) (f1.KR ht hK) (f1.GM ht hM) (by simp; omega) T1
    refine ⟨μ', ?_, ?_, f1.tr r3⟩
    · rw [← r1]
      have e143 : ∀ s0 : Int, c ≤ s0 → jX8_fillsAhead_143 k35 k88 (jX8_fillsAhead_130 k35 k88 N n) N 50 t x n3 a rb b rc c s0 c μ = jX8_fillsAhead_130 k35 k88 N n 50 t x n3 a rb b rc (c + 1) μ1 := by
        intro s0 hs0
        unfold jX8_fillsAhead_143 jX8_oneOf jX8_cell
        have d1 : i_div x 6 = x / 6 := i_div_p (by omega) (by omega) (by omega) (by omega)
        have d2 : i_rem (i_div x 2) 3 = x / 2 % 3 := by rw [i_div_p (by omega) (by omega) (by omega) (by omega), i_rem_p (by omega) (by omega) (by omega) (by omega)]
        have d3 : i_rem x 2 = x % 2 := i_rem_p (by omega) (by omega) (by omega) (by omega)
        rw [if_neg (by clear d1 d2 d3; omega), r_50_32 hK, ald_e (k_75 hK) (by decide) (by decide), ob_e, hM.1.2.1, b2_e, d1, d2, d3, b2_e]
        clear d1 d2 d3
        have ec : i_add (i_add (i_mul (i_add (i_mul 24 (G.1 1)) x) 1060) 460) (i_add (i_add (i_mul a (x / 6)) (i_mul b (x / 2 % 3))) (i_mul c (x % 2))) = bas (G.1 1) x + w3 x a b c := by
          simp (disch := omega) only [i_add_e, i_mul_e]
          rfl
        rw [ec]
        clear ec
        rw [ald_e k95 (by omega) (by omega), ob_e, hold, ast_e k95 (by omega) (by omega), ob_e, bnd_e, l_add_e (by omega) (by omega), i_add_e (by omega) (by omega)]
      show jX8_fillsAhead_130b k35 k88 (jX8_fillsAhead_130 k35 k88 N n) N 50 t x n3 a rb b rc c μ = _
      unfold jX8_fillsAhead_130b
      by_cases z : n3 ≤ 2
      · rw [if_pos z] at hc
        rw [if_pos z]
        exact e143 0 (by omega)
      · rw [if_neg z] at hc
        rw [if_neg z]
        exact e143 rc (by omega)
    · rw [iot, List.map_cons]
      simpa using r2
def rst (G : Gm) (r t : Int) : Int := if t = r then G.1 0 else r - t
def inC (G : Gm) (n3 x a b rc : Int) : List Int := (iot ((if n3 ≤ 2 then 0 else rc).toNat + 1) 0).map (fun c => w3 x a b c)
theorem fill_88 {N : Nat} (hN : 1000000 ≤ N) {G : Gm} (hG : GOK G) {t x n3 a rb : Int} (ht : t = 95 ∨ t = 96) (hx : 0 ≤ x ∧ x < 24) (ha : 0 ≤ a ∧ a ≤ 9) (hrb : 0 ≤ rb ∧ rb ≤ 9) {k35 : Int → Int → Int → Int → Int → Mm → Option Mm} : ∀ (k n : Nat) (b : Int) (L : List Int) {μ : Mm}, b + k = (if n3 ≤ 1 then 0 else rb) + 1 → 0 ≤ b → k < n → KR μ → GM G μ → L.length + k * 20 ≤ 90000 → TRx t (bas (G.1 1) x) L μ → ∃ μ', jX8_fillsAhead_88 k35 N n 50 t x n3 a rb b μ = k35 50 t x n3 (a + 1) μ' ∧ TRx t (bas (G.1 1) x) (L ++ (iot k b).flatMap (fun b => inC G n3 x a b (rst G rb b))) μ' ∧ oRx t (bas (G.1 1) x) μ μ'
  | k, 0, b, L, μ, hc, h0, hn, _, _, _, _ => absurd hn (by omega)
  | 0, n + 1, b, L, μ, hc, h0, hn, hK, hM, hl, hT => by
    refine ⟨μ, ?_, by simpa [iot] using hT, oRx.rf _ _ _⟩
    show jX8_fillsAhead_88b k35 (jX8_fillsAhead_88 k35 N n) N 50 t x n3 a rb b μ = _
    unfold jX8_fillsAhead_88b jX8_fillsAhead_101
    by_cases z : n3 ≤ 1
    · rw [if_pos z] at hc
      rw [if_pos z, if_pos (by omega), bnd_e, i_add_e (by omega) (by omega)]
    · rw [if_neg z] at hc
      rw [if_neg z, if_pos (by omega), bnd_e, i_add_e (by omega) (by omega)]
  | k + 1, n + 1, b, L, μ, hc, h0, hn, hK, hM, hl, hT => by
    have hp := hG.1
    have hb9 : b ≤ 9 ∧ (n3 ≤ 1 ∨ b ≤ rb) := by split at hc <;> omega
    have hle : b ≤ rb ∨ (b = 0) := by split at hc <;> omega
    have hrc : 0 ≤ rst G rb b ∧ rst G rb b ≤ 9 := by unfold rst; split <;> omega
    have hlim : 0 ≤ (if n3 ≤ 2 then 0 else rst G rb b) ∧ (if n3 ≤ 2 then 0 else rst G rb b) ≤ 9 := by split <;> omega
    obtain ⟨μ1, a1, a2, a3⟩ := fill_130 (N := N) hG ht hx ha ⟨h0, hb9.1⟩ hrc (n3 := n3) (rb := rb) (k35 := k35) (k88 := jX8_fillsAhead_88 k35 N n) ((if n3 ≤ 2 then 0 else rst G rb b).toNat + 1) N 0 L (μ := μ) (by omega) (by omega) (by omega) hK hM (by omega) hT
    obtain ⟨μ2, b1, b2, b3⟩ := fill_88 hN hG ht hx ha hrb (N := N) (n3 := n3) (k35 := k35) k n (b + 1) (L ++ inC G n3 x a b (rst G rb b)) (μ := μ1) (by omega) (by omega) (by omega) (a3.KR ht hK) (a3.GM ht hM) (by
      have : (inC G n3 x a b (rst G rb b)).length ≤ 10 := by
        unfold inC
        rw [List.length_map]
        have : ∀ (n : Nat) (a : Int), (iot n a).length = n := by
          intro n
          induction n with
          | zero => intro a; rfl
          | succ n ih => intro a; simp [iot, ih]
        rw [this]
        omega
      rw [List.length_append]
      omega) a2
    refine ⟨μ2, ?_, ?_, a3.tr b3⟩
    · rw [← b1, ← a1]
      have e101 : ∀ s0 : Int, b ≤ s0 → jX8_fillsAhead_101 k35 (jX8_fillsAhead_88 k35 N n) N 50 t x n3 a rb b s0 b μ = jX8_fillsAhead_130 k35 (jX8_fillsAhead_88 k35 N n) N N 50 t x n3 a rb b (rst G rb b) 0 μ := by
        intro s0 hs0
        unfold jX8_fillsAhead_101 jX8_fillsAhead_125 rst
        rw [if_neg (by omega)]
        by_cases z : b = rb
        · rw [if_neg (not_not_intro z), if_pos z, r_50_31 hK, ald_e (k_74 hK) (by decide) (by decide), ob_e, hM.1.1]
        · rw [if_pos z, if_neg z, i_sub_e (by omega) (by omega)]
      show jX8_fillsAhead_88b k35 (jX8_fillsAhead_88 k35 N n) N 50 t x n3 a rb b μ = _
      unfold jX8_fillsAhead_88b
      by_cases z : n3 ≤ 1
      · rw [if_pos z] at hc
        rw [if_pos z]
        exact e101 0 (by omega)
      · rw [if_neg z] at hc
        rw [if_neg z]
        exact e101 rb (by omega)
    · rw [iot, List.flatMap_cons, ← List.append_assoc]
      exact b2
def inB (G : Gm) (n3 x a rb : Int) : List Int := (iot ((if n3 ≤ 1 then 0 else rb).toNat + 1) 0).flatMap (fun b => inC G n3 x a b (rst G rb b))
theorem iot_len : ∀ (n : Nat) (a : Int), (iot n a).length = n
  | 0, _ => rfl
  | n + 1, a => by rw [iot, List.length_cons, iot_len]
theorem inC_len {G : Gm} {n3 x a b rc : Int} (h : 0 ≤ rc ∧ rc ≤ 9) : (inC G n3 x a b rc).length ≤ 10 := by
  unfold inC
  rw [List.length_map, iot_len]
  split <;> omega
theorem fill_35 {N : Nat} (hN : 1000000 ≤ N) {G : Gm} (hG : GOK G) {t x n3 : Int} (ht : t = 95 ∨ t = 96) (hx : 0 ≤ x ∧ x < 24) : ∀ (k n : Nat) (a : Int) (L : List Int) {μ : Mm}, a + k = (if n3 ≤ 0 then 0 else G.1 0) + 1 → 0 ≤ a → k < n → KR μ → GM G μ → L.length + k * 500 ≤ 80000 → TRx t (bas (G.1 1) x) L μ → ∃ μ', jX8_fillsAhead_35 N n 50 t x n3 a μ = some μ' ∧ TRx t (bas (G.1 1) x) (L ++ (iot k a).flatMap (fun a => inB G n3 x a (rst G (G.1 0) a))) μ' ∧ oRx t (bas (G.1 1) x) μ μ'
  | k, 0, a, L, μ, hc, h0, hn, _, _, _, _ => absurd hn (by omega)
  | 0, n + 1, a, L, μ, hc, h0, hn, hK, hM, hl, hT => by
    refine ⟨μ, ?_, by simpa [iot] using hT, oRx.rf _ _ _⟩
    show jX8_fillsAhead_35b (jX8_fillsAhead_35 N n) N 50 t x n3 a μ = _
    unfold jX8_fillsAhead_35b jX8_fillsAhead_51
    by_cases z : n3 ≤ 0
    · rw [if_pos z] at hc
      rw [if_pos z, if_pos (by omega)]
    · rw [if_neg z] at hc
      rw [if_neg z, r_50_31 hK, ald_e (k_74 hK) (by decide) (by decide), ob_e, hM.1.1, if_pos (by omega)]
  | k + 1, n + 1, a, L, μ, hc, h0, hn, hK, hM, hl, hT => by
    have hp := hG.1
    have ha9 : a ≤ G.1 0 := by split at hc <;> omega
    have hrb : 0 ≤ rst G (G.1 0) a ∧ rst G (G.1 0) a ≤ 9 := by unfold rst; split <;> omega
    have hlim : 0 ≤ (if n3 ≤ 1 then 0 else rst G (G.1 0) a) ∧ (if n3 ≤ 1 then 0 else rst G (G.1 0) a) ≤ 9 := by split <;> omega
    obtain ⟨μ1, a1, a2, a3⟩ := fill_88 (N := N) hN hG ht hx (a := a) (by omega) hrb (n3 := n3) (k35 := jX8_fillsAhead_35 N n) ((if n3 ≤ 1 then 0 else rst G (G.1 0) a).toNat + 1) N 0 L (μ := μ) (by omega) (by omega) (by omega) hK hM (by omega) hT
    obtain ⟨μ2, b1, b2, b3⟩ := fill_35 hN hG ht hx (N := N) (n3 := n3) k n (a + 1) (L ++ inB G n3 x a (rst G (G.1 0) a)) (μ := μ1) (by omega) (by omega) (by omega) (a3.KR ht hK) (a3.GM ht hM) (by
      have key : ∀ (k : Nat) (b : Int), 0 ≤ b → b + k ≤ 10 → ((iot k b).flatMap (fun b => inC G n3 x a b (rst G (rst G (G.1 0) a) b))).length ≤ k * 10 := by
        intro k
        induction k with
        | zero => intro b _ _; simp [iot]
        | succ k ih =>
          intro b hb0 hbk
          rw [iot, List.flatMap_cons, List.length_append]
          have h1 := ih (b + 1) (by omega) (by omega)
          have h2 : (inC G n3 x a b (rst G (rst G (G.1 0) a) b)).length ≤ 10 := by
            unfold inC
            rw [List.length_map, iot_len]
            have : (if n3 ≤ 2 then 0 else rst G (rst G (G.1 0) a) b) ≤ 9 := by
              split
              · omega
              · unfold rst at hrb ⊢
                split <;> omega
            omega
          rw [Nat.succ_mul]
          omega
      have : (inB G n3 x a (rst G (G.1 0) a)).length ≤ 100 := by
        unfold inB
        have := key ((if n3 ≤ 1 then 0 else rst G (G.1 0) a).toNat + 1) 0 (by omega) (by omega)
        omega
      rw [List.length_append]
      omega) a2
    refine ⟨μ2, ?_, ?_, a3.tr b3⟩
    · rw [← b1, ← a1]
      have e51 : ∀ s0 : Int, a ≤ s0 → jX8_fillsAhead_51 (jX8_fillsAhead_35 N n) N 50 t x n3 a s0 a μ = jX8_fillsAhead_88 (jX8_fillsAhead_35 N n) N N 50 t x n3 a (rst G (G.1 0) a) 0 μ := by
        intro s0 hs0
        unfold jX8_fillsAhead_51 jX8_fillsAhead_83 rst
        rw [if_neg (by omega), r_50_31 hK, ald_e (k_74 hK) (by decide) (by decide), ob_e, ob_e, ob_e, hM.1.1]
        by_cases z : a = G.1 0
        · rw [if_neg (not_not_intro z), if_pos z]
        · rw [if_pos z, if_neg z, i_sub_e (by omega) (by omega)]
      show jX8_fillsAhead_35b (jX8_fillsAhead_35 N n) N 50 t x n3 a μ = _
      unfold jX8_fillsAhead_35b
      by_cases z : n3 ≤ 0
      · rw [if_pos z] at hc
        rw [if_pos z]
        exact e51 0 (by omega)
      · rw [if_neg z] at hc
        rw [if_neg z, r_50_31 hK, ald_e (k_74 hK) (by decide) (by decide), ob_e, hM.1.1]
        exact e51 _ (by omega)
    · rw [iot, List.flatMap_cons, ← List.append_assoc]
      exact b2
