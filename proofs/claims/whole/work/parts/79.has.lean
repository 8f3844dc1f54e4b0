/-! ===== PURE: has, fault ===== -/
def bJ (G : Gm) (a b : Nat) : Int := if gJ G a b then 1 else 0
def rs (G : Gm) (a : Nat) : Nat → Int
  | 0 => 0
  | n + 1 => rs G a n + bJ G a n
def tri (G : Gm) : Nat → Int
  | 0 => 0
  | n + 1 => tri G n + rs G n n
def sq (G : Gm) (m : Nat) : Nat → Int
  | 0 => 0
  | n + 1 => sq G m n + rs G n m
theorem rs_s (G : Gm) (a n : Nat) : rs G a (n + 1) = rs G a n + bJ G a n := rfl
theorem tri_s (G : Gm) (n : Nat) : tri G (n + 1) = tri G n + rs G n n := rfl
theorem sq_s (G : Gm) (m n : Nat) : sq G m (n + 1) = sq G m n + rs G n m := rfl
def col (G : Gm) (b : Nat) : Nat → Int
  | 0 => 0
  | n + 1 => col G b n + bJ G n b
theorem sq_m (G : Gm) (m : Nat) : ∀ n, sq G (m + 1) n = sq G m n + col G m n
  | 0 => rfl
  | n + 1 => by
    rw [sq_s, sq_s, sq_m G m n, rs_s]
    show _ = _ + (col G m n + bJ G n m)
    omega
theorem col_rs {G : Gm} (hG : GOK G) (b : Nat) : ∀ n, col G b n = rs G b n
  | 0 => rfl
  | n + 1 => by
    rw [rs_s, ← col_rs hG b n]
    show col G b n + bJ G n b = _
    unfold bJ
    rw [hG.2.2.2.2.2.2.1 n b]
theorem sq_tri {G : Gm} (hG : GOK G) : ∀ n, sq G n n = 2 * tri G n
  | 0 => rfl
  | n + 1 => by
    have e : bJ G n n = 0 := by unfold bJ; rw [hG.2.2.2.2.2.2.2 n]; rfl
    rw [sq_s, sq_m, sq_tri hG n, col_rs hG, rs_s, tri_s, e]
    omega
theorem bJ_ok (G : Gm) (a b : Nat) : 0 ≤ bJ G a b ∧ bJ G a b ≤ 1 := by unfold bJ; split <;> omega
theorem rs_ok (G : Gm) (a : Nat) : ∀ n : Nat, 0 ≤ rs G a n ∧ rs G a n ≤ n
  | 0 => by simp [rs]
  | n + 1 => by
    have h1 := rs_ok G a n
    have h2 := bJ_ok G a n
    rw [rs_s]
    omega
theorem tri_ok (G : Gm) : ∀ n : Nat, n ≤ 9 → 0 ≤ tri G n ∧ tri G n ≤ 9 * n
  | 0, _ => by simp [tri]
  | n + 1, h => by
    have h1 := tri_ok G n (by omega)
    have h2 := rs_ok G n n
    rw [tri_s]
    omega
theorem sq_ok (G : Gm) : ∀ n : Nat, 0 ≤ sq G 9 n ∧ sq G 9 n ≤ 9 * n
  | 0 => by simp [sq]
  | n + 1 => by
    have h1 := sq_ok G n
    have h2 := rs_ok G n 9
    rw [sq_s]
    omega
theorem bc_all : ∀ x : Fin 512, (jJ6_bitCount_0f7a4 0 (x.val : Int) m_0).map Prod.fst = some ((cd (fun k => x.val.testBit k) 9 : Nat) : Int) := by decide +kernel
theorem bc_mem (N : Nat) (x : Int) (μ : Mm) : ∃ v, jJ6_bitCount_0f7a4 N x μ = some (v, μ) ∧ jJ6_bitCount_0f7a4 0 x m_0 = some (v, m_0) := ⟨_, rfl, rfl⟩
theorem bitCount_X {N : Nat} {x : Int} (hx : ps x) {μ : Mm} : jJ6_bitCount_0f7a4 N x μ = some (((cd (tb x) 9 : Nat) : Int), μ) := by
  obtain ⟨v, e1, e2⟩ := bc_mem N x μ
  have h0 := hx.1
  have h1 := hx.2
  have h := bc_all ⟨x.toNat, by omega⟩
  dsimp only at h
  rw [show ((x.toNat : Nat) : Int) = x by omega, e2] at h
  rw [e1]
  have : v = ((cd (fun k => x.toNat.testBit k) 9 : Nat) : Int) := by simpa using h
  rw [this]
  rfl
theorem cd_rs {l : Int} {G : Gm} {μ : Mm} (hJ : JX l G μ) {a : Nat} (ha : a < 9) : ∀ n : Nat, n ≤ 9 → ((cd (tb (m_gt μ (l + 6) a)) n : Nat) : Int) = rs G a n
  | 0, _ => rfl
  | n + 1, hn => by
    have h1 := cd_rs hJ ha n (by omega)
    have h2 := (hJ a (by omega) (by omega)).2.2 n (by omega)
    have h3 : tb (m_gt μ (l + 6) a) n = gJ G a n := h2
    rw [rs_s, ← h1]
    show ((cd (tb (m_gt μ (l + 6) a)) n + (if tb (m_gt μ (l + 6) a) n then 1 else 0) : Nat) : Int) = _
    unfold bJ
    rw [h3]
    split <;> omega
theorem countJoins_loop {N : Nat} {l : Int} (hl : l = 2 ∨ l = 13) {G : Gm} {μ : Mm} (hK : KR μ) (hJ : JX l G μ) : ∀ (k n i : Nat), i + k = 9 → k < n → jX1_countJoins_4 N n l (sq G 9 i) i μ = some (i_div (sq G 9 9) 2, μ)
  | k, 0, i, hi, hn => absurd hn (by omega)
  | 0, n + 1, i, hi, hn => by
    obtain ⟨⟨lk, _⟩, ⟨_, k6, _⟩, _, _, p8, _⟩ := LK.of hK hl
    show jX1_countJoins_4b (jX1_countJoins_4 N n) N l (sq G 9 i) i μ = _
    unfold jX1_countJoins_4b
    rw [p8, len_e k6 (by decide) (by decide), ob_e, if_pos (by omega), show i = 9 by omega]
  | k + 1, n + 1, i, hi, hn => by
    obtain ⟨⟨lk, _⟩, ⟨_, k6, _⟩, _, _, p8, _⟩ := LK.of hK hl
    have hj := hJ i (by omega) (by omega)
    have h1 := sq_ok G i
    have h2 := rs_ok G i 9
    show jX1_countJoins_4b (jX1_countJoins_4 N n) N l (sq G 9 i) i μ = _
    unfold jX1_countJoins_4b
    rw [p8, len_e k6 (by decide) (by decide), ob_e, if_neg (by omega), ald_e k6 (by omega) (by omega), ob_e, bitCount_X ⟨hj.1, hj.2.1⟩, b2_e, bnd_e, bnd_e, cd_rs hJ (by omega) 9 (by omega), i_add_e (by omega) (by omega), i_add_e (by omega) (by omega), ← sq_s, show (i : Int) + 1 = ((i + 1 : Nat) : Int) by omega]
    exact countJoins_loop hl hK hJ k n (i + 1) (by omega) (by omega)
theorem countJoins_X {N : Nat} (hN : 1000000 ≤ N) {l : Int} (hl : l = 2 ∨ l = 13) {G : Gm} (hG : GOK G) {μ : Mm} (hK : KR μ) (hL : LX l G μ) : jX1_countJoins N l μ = some (tri G 9, μ) := by
  have h := countJoins_loop (N := N) hl hK (G := G) hL.2.2 9 N 0 (by omega) (by omega)
  have ht := tri_ok G 9 (by omega)
  unfold jX1_countJoins
  rw [sq_tri hG, i_div_p (by omega) (by omega) (by omega) (by omega)] at h
  rw [show tri G 9 = 2 * tri G 9 / 2 by omega]
  exact h
theorem has107 {N : Nat} {G : Gm} {μ : Mm} (hK : KR μ) (hJ : JM G μ) {k98 : Int → Int → Int → Mm → Option (Int × Mm)} {a : Nat} (ha : a < 9) : ∀ (k n i : Nat) (v : Int), i + k = a → k < n → 0 ≤ v → v ≤ 100 + i → jX8_has_107 k98 N n 50 v a i μ = k98 50 (v - rs G a i + rs G a a) (a + 1 : Nat) μ
  | k, 0, i, v, hi, hn, _, _ => absurd hn (by omega)
  | 0, n + 1, i, v, hi, hn, h0, h1 => by
    show jX8_has_107b k98 (jX8_has_107 k98 N n) N 50 v a i μ = _
    unfold jX8_has_107b
    rw [if_pos (by omega), bnd_e, i_add_e (by omega) (by omega), show i = a by omega, Int.sub_add_cancel]
    rfl
  | k + 1, n + 1, i, v, hi, hn, h0, h1 => by
    have hj := hJ a i (by omega) (by omega) (by omega) (by omega)
    show jX8_has_107b k98 (jX8_has_107 k98 N n) N 50 v a i μ = _
    unfold jX8_has_107b jX8_has_134
    rw [if_neg (by omega), r_50_42 hK, i_mul_e (by omega) (by omega), i_add_e (x := 81) (by omega) (by omega), i_add_e (x := 81 + 9 * (a : Int)) (by omega) (by omega), ald_e (k_85 hK) (by omega) (by omega), ob_e, hj]
    simp only [bnd_e]
    have hr := rs_s G a i
    cases h4 : gJ G a i with
    | false =>
      have e : bJ G a i = 0 := by unfold bJ; rw [h4]; rfl
      rw [if_pos (by decide), i_add_e (by omega) (by omega), show (i : Int) + 1 = ((i + 1 : Nat) : Int) by omega, has107 hK hJ ha k n (i + 1) v (by omega) (by omega) (by omega) (by omega), hr, e, Int.add_zero]
    | true =>
      have e : bJ G a i = 1 := by unfold bJ; rw [h4]; rfl
      rw [if_neg (by decide), i_add_e (x := v) (by omega) (by omega), i_add_e (by omega) (by omega), show (i : Int) + 1 = ((i + 1 : Nat) : Int) by omega, has107 hK hJ ha k n (i + 1) (v + 1) (by omega) (by omega) (by omega) (by omega), hr, e]
      congr 1
      omega
theorem has98 {N : Nat} (hN : 1000000 ≤ N) {G : Gm} {μ : Mm} (hK : KR μ) (hJ : JM G μ) : ∀ (k n i : Nat), i + k = 9 → k < n → jX8_has_98 N n 50 (tri G i) i μ = some (tri G 9, μ)
  | k, 0, i, hi, hn => absurd hn (by omega)
  | 0, n + 1, i, hi, hn => by
    show jX8_has_98b (jX8_has_98 N n) N 50 (tri G i) i μ = _
    unfold jX8_has_98b
    rw [if_pos (by omega), show i = 9 by omega]
  | k + 1, n + 1, i, hi, hn => by
    have ht := tri_ok G i (by omega)
    show jX8_has_98b (jX8_has_98 N n) N 50 (tri G i) i μ = _
    unfold jX8_has_98b
    rw [if_neg (by omega)]
    have := has107 (N := N) hK hJ (k98 := jX8_has_98 N n) (a := i) (by omega) i N 0 (tri G i) (by omega) (by omega) (by omega) (by omega)
    rw [show rs G i 0 = 0 from rfl, Int.sub_zero, ← tri_s, show ((0 : Nat) : Int) = 0 from rfl] at this
    rw [this]
    exact has98 hN hK hJ k n (i + 1) (by omega) (by omega)
def haA (G : Gm) (w : Int) : Int := if w = 0 then G.1 0 else if w = 1 then G.1 1 else if w = 2 then G.1 2 else if w = 3 then G.1 3 else if w = 4 then G.1 4 else if w = 5 then G.1 5 else if w = 6 then G.1 6 else if w = 7 then (gW G).length else if w = 8 then tri G 9 else -1
theorem has_X {N : Nat} (hN : 1000000 ≤ N) {l : Int} (hl : l = 2 ∨ l = 13) {G : Gm} (hG : GOK G) {w : Int} {μ : Mm} (hK : KR μ) (h2 : m_gt μ 0 2 = l) (hL : LX l G μ) : jX7_has N 0 w μ = some (haA G w, μ) := by
  have hk := chk_e (β := Int × Mm) (LK.of hK hl).1.1
  have hE := fun k => earnedBy_X (N := N) (k := k) hl hK hL
  unfold jX7_has haA
  simp only [h2, hk, hL.1.1, hL.1.2.1, hL.1.2.2.1, hL.1.2.2.2.1, hL.1.2.2.2.2.1, hE, b2_e, countJoins_X hN hl hG hK hL]
  by_cases c0 : w = 0
  · rw [if_pos c0, if_pos c0]
  rw [if_neg c0, if_neg c0]
  by_cases c1 : w = 1
  · rw [if_pos c1, if_pos c1]
  rw [if_neg c1, if_neg c1]
  by_cases c2 : w = 2
  · rw [if_pos c2, if_pos c2]
  rw [if_neg c2, if_neg c2]
  by_cases c3 : w = 3
  · rw [if_pos c3, if_pos c3]
  rw [if_neg c3, if_neg c3]
  by_cases c4 : w = 4
  · rw [if_pos c4, if_pos c4, c4]; rfl
  rw [if_neg c4, if_neg c4]
  by_cases c5 : w = 5
  · rw [if_pos c5, if_pos c5, c5]; rfl
  rw [if_neg c5, if_neg c5]
  by_cases c6 : w = 6
  · rw [if_pos c6, if_pos c6, c6]; rfl
  rw [if_neg c6, if_neg c6]
  by_cases c7 : w = 7
  · rw [if_pos c7, if_pos c7]
  rw [if_neg c7, if_neg c7]
  by_cases c8 : w = 8
  · rw [if_pos c8, if_pos c8]
  rw [if_neg c8, if_neg c8]
theorem has_M {N : Nat} (hN : 1000000 ≤ N) {G : Gm} {w : Int} {μ : Mm} (hK : KR μ) (hM : GM G μ) : jX8_has N 50 w μ = some (haA G w, μ) := by
  have e4 : m_gt μ 78 5 = G.1 4 := hM.2.1.2.1 1 (by simp)
  have e5 : m_gt μ 78 6 = G.1 5 := hM.2.1.2.1 2 (by simp)
  have e6 : m_gt μ 78 7 = G.1 6 := hM.2.1.2.1 3 (by simp)
  have e8 := has98 (N := N) hN hK (G := G) hM.2.2 9 N 0 (by omega) (by omega)
  unfold jX8_has haA
  by_cases c0 : w = 0
  · rw [if_pos c0, if_pos c0]
    simp (disch := omega) only [hM.1.1, r_50_31 hK, ald_e (k_74 hK), ast_e (k_74 hK), len_e (k_74 hK) (by decide) (by decide), bnd_e, b2_e, ob_e, gt_same, gt_r, gt_i, i_add_e, i_sub_e, chk_st, len_st, ald_st, ast_st]
  rw [if_neg c0, if_neg c0]
  by_cases c1 : w = 1
  · rw [if_pos c1, if_pos c1]
    simp (disch := omega) only [hM.1.2.1, r_50_32 hK, ald_e (k_75 hK), ast_e (k_75 hK), len_e (k_75 hK) (by decide) (by decide), bnd_e, b2_e, ob_e, gt_same, gt_r, gt_i, i_add_e, i_sub_e, chk_st, len_st, ald_st, ast_st]
  rw [if_neg c1, if_neg c1]
  by_cases c2 : w = 2
  · rw [if_pos c2, if_pos c2]
    simp (disch := omega) only [hM.1.2.2.1, r_50_33 hK, ald_e (k_76 hK), ast_e (k_76 hK), len_e (k_76 hK) (by decide) (by decide), bnd_e, b2_e, ob_e, gt_same, gt_r, gt_i, i_add_e, i_sub_e, chk_st, len_st, ald_st, ast_st]
  rw [if_neg c2, if_neg c2]
  by_cases c3 : w = 3
  · rw [if_pos c3, if_pos c3]
    simp (disch := omega) only [hM.1.2.2.2.1, r_50_34 hK, ald_e (k_77 hK), ast_e (k_77 hK), len_e (k_77 hK) (by decide) (by decide), bnd_e, b2_e, ob_e, gt_same, gt_r, gt_i, i_add_e, i_sub_e, chk_st, len_st, ald_st, ast_st]
  rw [if_neg c3, if_neg c3]
  by_cases c4 : w = 4
  · rw [if_pos c4, if_pos c4, c4, show i_add 4 1 = 5 from rfl]
    simp (disch := omega) only [e4, r_50_35 hK, ald_e (k_78 hK), ast_e (k_78 hK), len_e (k_78 hK) (by decide) (by decide), bnd_e, b2_e, ob_e, gt_same, gt_r, gt_i, i_add_e, i_sub_e, chk_st, len_st, ald_st, ast_st]
  rw [if_neg c4, if_neg c4]
  by_cases c5 : w = 5
  · rw [if_pos c5, if_pos c5, c5, show i_add 5 1 = 6 from rfl]
    simp (disch := omega) only [e5, r_50_35 hK, ald_e (k_78 hK), ast_e (k_78 hK), len_e (k_78 hK) (by decide) (by decide), bnd_e, b2_e, ob_e, gt_same, gt_r, gt_i, i_add_e, i_sub_e, chk_st, len_st, ald_st, ast_st]
  rw [if_neg c5, if_neg c5]
  by_cases c6 : w = 6
  · rw [if_pos c6, if_pos c6, c6, show i_add 6 1 = 7 from rfl]
    simp (disch := omega) only [e6, r_50_35 hK, ald_e (k_78 hK), ast_e (k_78 hK), len_e (k_78 hK) (by decide) (by decide), bnd_e, b2_e, ob_e, gt_same, gt_r, gt_i, i_add_e, i_sub_e, chk_st, len_st, ald_st, ast_st]
  rw [if_neg c6, if_neg c6]
  by_cases c7 : w = 7
  · rw [if_pos c7, if_pos c7]
    simp (disch := omega) only [hM.1.2.2.2.2.1, r_50_36 hK, ald_e (k_79 hK), ast_e (k_79 hK), len_e (k_79 hK) (by decide) (by decide), bnd_e, b2_e, ob_e, gt_same, gt_r, gt_i, i_add_e, i_sub_e, chk_st, len_st, ald_st, ast_st]
  rw [if_neg c7, if_neg c7]
  by_cases c8 : w = 8
  · rw [if_pos c8, if_pos c8]
    exact e8
  rw [if_neg c8, if_neg c8]
def fuA (k p w : Int) : Int := if w = 0 then k else if w = 1 then p else -1
theorem fault_X {N : Nat} {k p w : Int} {μ : Mm} (hK : KR μ) (h0 : m_gt μ 24 0 = k) (h1 : m_gt μ 24 1 = p) : jX7_fault N 0 w μ = some (fuA k p w, μ) := by
  unfold jX7_fault jX7_fault_28 fuA
  rw [r_0_4 hK, chk_e (k_24 hK), chk_e (k_24 hK), h0, h1]
  by_cases c0 : w = 0
  · rw [if_neg (not_not_intro c0), if_pos c0]
  · rw [if_pos c0, if_neg c0]
    by_cases c1 : w = 1
    · rw [if_neg (not_not_intro c1), if_pos c1]
    · rw [if_pos c1, if_neg c1]
theorem fault_M {N : Nat} {k p w : Int} {μ : Mm} (h0 : m_gt μ 50 7 = k) (h1 : m_gt μ 50 8 = p) : jX8_fault N 50 w μ = some (fuA k p w, μ) := by
  unfold jX8_fault jX8_fault_24 fuA
  rw [h0, h1]
  by_cases c0 : w = 0
  · rw [if_neg (not_not_intro c0), if_pos c0]
  · rw [if_pos c0, if_neg c0]
    by_cases c1 : w = 1
    · rw [if_neg (not_not_intro c1), if_pos c1]
    · rw [if_pos c1, if_neg c1]
