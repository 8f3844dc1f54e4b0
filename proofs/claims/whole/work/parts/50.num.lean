/-! ===== PURE: the machine's numbers as whole numbers ===== -/
theorem bm32 {x : Int} (h1 : -2147483648 ≤ x) (h2 : x ≤ 2147483647) : x.bmod (2 ^ 32) = x := by
  rw [Int.bmod_def]
  split <;> omega
theorem bm64 {x : Int} (h1 : -9223372036854775808 ≤ x) (h2 : x ≤ 9223372036854775807) : x.bmod (2 ^ 64) = x := by
  rw [Int.bmod_def]
  split <;> omega
theorem i_add_e {x y : Int} (h1 : -2147483648 ≤ x + y) (h2 : x + y ≤ 2147483647) : i_add x y = x + y := by
  unfold i_add
  rw [← Int32.ofInt_add, Int32.toInt_ofInt]
  exact bm32 h1 h2
theorem i_sub_e {x y : Int} (h1 : -2147483648 ≤ x - y) (h2 : x - y ≤ 2147483647) : i_sub x y = x - y := by
  unfold i_sub
  rw [← Int32.ofInt_sub, Int32.toInt_ofInt]
  exact bm32 h1 h2
theorem i_mul_e {x y : Int} (h1 : -2147483648 ≤ x * y) (h2 : x * y ≤ 2147483647) : i_mul x y = x * y := by
  unfold i_mul
  rw [← Int32.ofInt_mul, Int32.toInt_ofInt]
  exact bm32 h1 h2
theorem i_neg_e {x : Int} (h1 : -2147483648 ≤ -x) (h2 : -x ≤ 2147483647) : i_neg x = -x := by
  unfold i_neg
  rw [← Int32.ofInt_neg, Int32.toInt_ofInt]
  exact bm32 h1 h2
theorem l_add_e {x y : Int} (h1 : -9223372036854775808 ≤ x + y) (h2 : x + y ≤ 9223372036854775807) : l_add x y = x + y := by
  unfold l_add
  rw [← Int64.ofInt_add, Int64.toInt_ofInt]
  exact bm64 h1 h2
theorem l_sub_e {x y : Int} (h1 : -9223372036854775808 ≤ x - y) (h2 : x - y ≤ 9223372036854775807) : l_sub x y = x - y := by
  unfold l_sub
  rw [← Int64.ofInt_sub, Int64.toInt_ofInt]
  exact bm64 h1 h2
theorem l_mul_e {x y : Int} (h1 : -9223372036854775808 ≤ x * y) (h2 : x * y ≤ 9223372036854775807) : l_mul x y = x * y := by
  unfold l_mul
  rw [← Int64.ofInt_mul, Int64.toInt_ofInt]
  exact bm64 h1 h2
theorem i_2l_e {x : Int} (h1 : -2147483648 ≤ x) (h2 : x ≤ 2147483647) : i_2l x = x := by
  unfold i_2l
  rw [Int32.toInt_toInt64, toI ⟨h1, h2⟩]
theorem l_2i_e {x : Int} (h1 : -2147483648 ≤ x) (h2 : x ≤ 2147483647) : l_2i x = x := by
  unfold l_2i
  rw [Int64.toInt_toInt32, toJ ⟨by omega, by omega⟩]
  exact bm32 h1 h2
theorem i_div_e {x y : Int} (hx : okI x) (hy : okI y) (h : y ≠ -1) : i_div x y = x.tdiv y := by
  unfold i_div
  rw [Int32.toInt_div_of_ne_right _ _ (fun q => h (by rw [← toI hy, q]; rfl)), toI hx, toI hy]
theorem i_div_p {x y : Int} (h0 : 0 ≤ x) (hx : x ≤ 2147483647) (hy : 0 < y) (hy2 : y ≤ 2147483647) : i_div x y = x / y := by
  rw [i_div_e ⟨by omega, hx⟩ ⟨by omega, hy2⟩ (by omega)]
  exact Int.tdiv_eq_ediv_of_nonneg h0
theorem i_rem_e {x y : Int} (hx : okI x) (hy : okI y) : i_rem x y = x.tmod y := by
  unfold i_rem
  rw [Int32.toInt_sub, Int32.toInt_mul, Int32.toInt_div, toI hx, toI hy]
  simp only [Int.bmod_mul_bmod, Int.sub_bmod_bmod]
  have e : x - x.tdiv y * y = x.tmod y := by
    have := Int.mul_tdiv_add_tmod x y
    rw [Int.mul_comm] at this
    omega
  rw [e]
  apply bm32
  · have h1 := Int.natAbs_tmod x y
    have h2 : x.natAbs % y.natAbs ≤ x.natAbs := Nat.mod_le _ _
    have := hx.1; have := hx.2
    rcases Int.natAbs_eq (x.tmod y) with h | h
    · omega
    · rcases Int.le_total 0 x with h0 | h0
      · have := Int.tmod_nonneg y h0; omega
      · omega
  · have h1 := Int.natAbs_tmod x y
    have h2 : x.natAbs % y.natAbs ≤ x.natAbs := Nat.mod_le _ _
    have := hx.1; have := hx.2
    rcases Int.le_total 0 x with h0 | h0
    · omega
    · have h3 := Int.tmod_nonneg y (show 0 ≤ -x by omega)
      rw [Int.neg_tmod] at h3
      omega
theorem i_rem_p {x y : Int} (h0 : 0 ≤ x) (hx : x ≤ 2147483647) (hy : 0 < y) (hy2 : y ≤ 2147483647) : i_rem x y = x % y := by
  rw [i_rem_e ⟨by omega, hx⟩ ⟨by omega, hy2⟩]
  exact Int.tmod_eq_emod_of_nonneg h0
theorem l_cmp_lt0 (x y : Int) : (l_cmp x y < 0) ↔ x < y := by unfold l_cmp; split <;> (try split) <;> omega
theorem l_cmp_gt0 (x y : Int) : (0 < l_cmp x y) ↔ y < x := by unfold l_cmp; split <;> (try split) <;> omega
theorem l_cmp_le0 (x y : Int) : (l_cmp x y ≤ 0) ↔ x ≤ y := by unfold l_cmp; split <;> (try split) <;> omega
theorem l_cmp_ge0 (x y : Int) : (0 ≤ l_cmp x y) ↔ y ≤ x := by unfold l_cmp; split <;> (try split) <;> omega
theorem l_cmp_eq0 (x y : Int) : (l_cmp x y = 0) ↔ x = y := by unfold l_cmp; split <;> (try split) <;> omega
/-! memory -/
theorem gt_same (μ : Mm) (r i v : Int) : m_gt (m_st μ r i v) r i = v := by rw [m_gt_st, if_pos ⟨rfl, rfl⟩]
theorem gt_r {r a : Int} (μ : Mm) (i v b : Int) (h : a ≠ r) : m_gt (m_st μ r i v) a b = m_gt μ a b := by rw [m_gt_st, if_neg (fun q => h q.1)]
theorem gt_i {i b : Int} (μ : Mm) (r v : Int) (h : b ≠ i) (a : Int) : m_gt (m_st μ r i v) a b = m_gt μ a b := by rw [m_gt_st, if_neg (fun q => h q.2)]
theorem bnd_e {α β : Type} (a : α) (f : α → β) : bnd a f = f a := rfl
theorem b2_e {τ : Type} (x : Int) (μ : Mm) (f : Int → Mm → Option τ) : b2 (some (x, μ)) f = f x μ := rfl
theorem ob_e {α β : Type} (a : α) (f : α → Option β) : (some a).bind f = f a := rfl
theorem ald_e {c n : Nat} {μ : Mm} {r i : Int} (hk : m_kd μ r = (c, n)) (h0 : 0 ≤ i) (h1 : i < n) : m_ald c μ r i = some (m_gt μ r i) := by
  unfold m_ald; rw [hk]; exact if_pos ⟨rfl, h0, h1⟩
theorem ast_e {c n : Nat} {μ : Mm} {r i v : Int} (hk : m_kd μ r = (c, n)) (h0 : 0 ≤ i) (h1 : i < n) : m_ast c μ r i v = some (m_st μ r i v) := by
  unfold m_ast; rw [hk]; exact if_pos ⟨rfl, h0, h1⟩
theorem len_e {c n : Nat} {μ : Mm} {r : Int} (hk : m_kd μ r = (c, n)) (h0 : 100 ≤ c) (h1 : c < 104) : m_len μ r = some (n : Int) := by
  unfold m_len; rw [hk]; exact if_pos ⟨h0, h1⟩
theorem chk_e {β : Type} {c : Nat} {μ : Mm} {r : Int} (hk : m_kd μ r = (c, 0)) (f : Option β) : m_chk c μ r f = f := by
  unfold m_chk; exact if_pos hk
theorem z_e {β : Type} {x : Int} (h : x = 0 ∨ x = 1) (f : Option β) : z_chk x f = f := by
  unfold z_chk; exact if_pos h
theorem n_e {β : Type} {x : Int} (h : x ≠ 0) (f : Option β) : n_chk x f = f := by
  unfold n_chk; exact if_neg h
