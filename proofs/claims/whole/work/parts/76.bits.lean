/-! ===== PURE: bits of small numbers ===== -/
def tb (x : Int) (k : Nat) : Bool := x.toNat.testBit k
theorem bv_nat {x : Int} (h0 : 0 ≤ x) (h1 : x < 2147483648) : (Int32.ofInt x).toBitVec.toNat = x.toNat := by
  show (BitVec.ofInt 32 x).toNat = _
  rw [BitVec.toNat_ofInt]
  omega
theorem i32_nat {a : Int32} (h : a.toBitVec.toNat < 2147483648) : a.toInt = (a.toBitVec.toNat : Int) := by
  show a.toBitVec.toInt = _
  rw [BitVec.toInt_eq_toNat_cond, if_pos (by omega)]
theorem and_le' (a b : Nat) : a &&& b ≤ a := Nat.and_le_left
theorem i_and_n {x y : Int} (hx : 0 ≤ x ∧ x < 2147483648) (hy : 0 ≤ y ∧ y < 2147483648) : i_and x y = ((x.toNat &&& y.toNat : Nat) : Int) := by
  unfold i_and
  have e : (Int32.ofInt x &&& Int32.ofInt y).toBitVec.toNat = x.toNat &&& y.toNat := by rw [Int32.toBitVec_and, BitVec.toNat_and, bv_nat hx.1 hx.2, bv_nat hy.1 hy.2]
  rw [i32_nat (by rw [e]; have := and_le' x.toNat y.toNat; omega), e]
theorem i_or_n {x y : Int} (hx : 0 ≤ x ∧ x < 1073741824) (hy : 0 ≤ y ∧ y < 1073741824) : i_or x y = ((x.toNat ||| y.toNat : Nat) : Int) := by
  unfold i_or
  have e : (Int32.ofInt x ||| Int32.ofInt y).toBitVec.toNat = x.toNat ||| y.toNat := by rw [Int32.toBitVec_or, BitVec.toNat_or, bv_nat hx.1 (by omega), bv_nat hy.1 (by omega)]
  have hb : x.toNat ||| y.toNat < 2 ^ 30 := Nat.or_lt_two_pow (by omega) (by omega)
  rw [i32_nat (by rw [e]; omega), e]
theorem i_shr_n {x k : Int} (hx : 0 ≤ x ∧ x < 2147483648) (hk : 0 ≤ k ∧ k < 32) : i_shr x k = ((x.toNat >>> k.toNat : Nat) : Int) := by
  have e1 : ∀ n : Nat, n < 32 → ((Int32.ofInt (n : Int) &&& 31).toBitVec.smod 32#32).toNat = n := by decide +kernel
  have e := e1 k.toNat (by omega)
  rw [show ((k.toNat : Nat) : Int) = k by omega] at e
  unfold i_shr
  have e2 : (Int32.ofInt x >>> (Int32.ofInt k &&& 31)).toBitVec = (Int32.ofInt x).toBitVec.sshiftRight k.toNat := by
    show (Int32.ofInt x).toBitVec.sshiftRight ((Int32.ofInt k &&& 31).toBitVec.smod 32#32).toNat = _
    rw [e]
  have hm : (Int32.ofInt x).toBitVec.msb = false := by
    rw [BitVec.msb_eq_false_iff_two_mul_lt, bv_nat hx.1 hx.2]
    omega
  have e3 : (Int32.ofInt x >>> (Int32.ofInt k &&& 31)).toBitVec.toNat = x.toNat >>> k.toNat := by
    rw [e2, BitVec.sshiftRight_eq_of_msb_false hm, BitVec.toNat_ushiftRight, bv_nat hx.1 hx.2]
  have hb : x.toNat >>> k.toNat ≤ x.toNat := by rw [Nat.shiftRight_eq_div_pow]; exact Nat.div_le_self _ _
  rw [i32_nat (by rw [e3]; omega), e3]
theorem i_andn_n {x y : Int} (hx : 0 ≤ x ∧ x < 1073741824) (hy : 0 ≤ y ∧ y < 1073741824) : i_and x (i_xor y (-1)) = ((x.toNat ^^^ (x.toNat &&& y.toNat) : Nat) : Int) := by
  unfold i_and i_xor
  rw [Int32.ofInt_toInt]
  have e : (Int32.ofInt x &&& (Int32.ofInt y ^^^ Int32.ofInt (-1))).toBitVec = (Int32.ofInt x).toBitVec ^^^ ((Int32.ofInt x).toBitVec &&& (Int32.ofInt y).toBitVec) := by
    rw [Int32.toBitVec_and, Int32.toBitVec_xor]
    have : (Int32.ofInt (-1)).toBitVec = BitVec.allOnes 32 := by decide
    rw [this]
    apply BitVec.eq_of_getLsbD_eq
    intro i hi
    rw [BitVec.getLsbD_and, BitVec.getLsbD_xor, BitVec.getLsbD_xor, BitVec.getLsbD_and, BitVec.getLsbD_allOnes, decide_eq_true hi]
    cases (Int32.ofInt x).toBitVec.getLsbD i <;> cases (Int32.ofInt y).toBitVec.getLsbD i <;> rfl
  have e2 : (Int32.ofInt x &&& (Int32.ofInt y ^^^ Int32.ofInt (-1))).toBitVec.toNat = x.toNat ^^^ (x.toNat &&& y.toNat) := by rw [e, BitVec.toNat_xor, BitVec.toNat_and, bv_nat hx.1 (by omega), bv_nat hy.1 (by omega)]
  have hb : x.toNat ^^^ (x.toNat &&& y.toNat) < 2 ^ 30 := Nat.xor_lt_two_pow (by omega) (by have := and_le' x.toNat y.toNat; omega)
  rw [i32_nat (by rw [e2]; omega), e2]
/-- sets of pins -/
def ps (x : Int) : Prop := 0 ≤ x ∧ x < 512
theorem tb_and {x y : Int} (hx : ps x) (hy : ps y) : ps (i_and x y) ∧ ∀ k, tb (i_and x y) k = (tb x k && tb y k) := by
  rw [i_and_n ⟨hx.1, by have := hx.2; omega⟩ ⟨hy.1, by have := hy.2; omega⟩]
  have := and_le' x.toNat y.toNat
  have h2 := hx.2
  have h1 := hx.1
  refine ⟨⟨by omega, by omega⟩, fun k => ?_⟩
  unfold tb
  rw [Int.toNat_natCast, Nat.testBit_and]
theorem tb_or {x y : Int} (hx : ps x) (hy : ps y) : ps (i_or x y) ∧ ∀ k, tb (i_or x y) k = (tb x k || tb y k) := by
  have h1 := hx.1; have h2 := hx.2; have h3 := hy.1; have h4 := hy.2
  rw [i_or_n ⟨hx.1, by omega⟩ ⟨hy.1, by omega⟩]
  have : x.toNat ||| y.toNat < 2 ^ 9 := Nat.or_lt_two_pow (by omega) (by omega)
  refine ⟨⟨by omega, by omega⟩, fun k => ?_⟩
  unfold tb
  rw [Int.toNat_natCast, Nat.testBit_or]
theorem tb_dif {x y : Int} (hx : ps x) (hy : ps y) : ps (i_and x (i_xor y (-1))) ∧ ∀ k, tb (i_and x (i_xor y (-1))) k = (tb x k && !tb y k) := by
  have h1 := hx.1; have h2 := hx.2; have h3 := hy.1; have h4 := hy.2
  rw [i_andn_n ⟨hx.1, by omega⟩ ⟨hy.1, by omega⟩]
  have : x.toNat ^^^ (x.toNat &&& y.toNat) < 2 ^ 9 := Nat.xor_lt_two_pow (by omega) (by have := and_le' x.toNat y.toNat; omega)
  refine ⟨⟨by omega, by omega⟩, fun k => ?_⟩
  unfold tb
  rw [Int.toNat_natCast, Nat.testBit_xor, Nat.testBit_and]
  cases x.toNat.testBit k <;> cases y.toNat.testBit k <;> rfl
theorem tb_bit {x : Int} (hx : ps x) {k : Nat} (hk : k < 9) : i_and (i_shr x k) 1 = if tb x k then 1 else 0 := by
  have h1 := hx.1; have h2 := hx.2
  have hb : x.toNat >>> k ≤ x.toNat := by rw [Nat.shiftRight_eq_div_pow]; exact Nat.div_le_self _ _
  have hz : ∀ q : Nat, q ≤ x.toNat → 0 ≤ (q : Int) ∧ (q : Int) < 2147483648 := fun q hq => ⟨by omega, by omega⟩
  rw [i_shr_n ⟨h1, by omega⟩ ⟨by omega, by omega⟩, Int.toNat_natCast, i_and_n (hz _ hb) (by decide), Int.toNat_natCast]
  unfold tb Nat.testBit
  rw [Nat.and_comm, show (1 : Int).toNat = 1 from rfl, Nat.one_and_eq_mod_two]
  rcases Nat.mod_two_eq_zero_or_one (x.toNat >>> k) with h | h <;> rw [h] <;> rfl
theorem tb_one {k : Nat} (hk : k < 9) : ps (i_shl 1 k) ∧ ∀ j, tb (i_shl 1 k) j = decide (j = k) := by
  have e : ∀ k : Nat, k < 9 → i_shl 1 (k : Int) = ((2 ^ k : Nat) : Int) := by decide +kernel
  rw [e k hk]
  have hp : 2 ^ k < 2 ^ 9 := Nat.pow_lt_pow_right (by decide) hk
  have hz : ∀ q : Nat, q < 2 ^ 9 → ps (q : Int) := fun q hq => ⟨by omega, by omega⟩
  refine ⟨hz _ hp, fun j => ?_⟩
  unfold tb
  rw [Int.toNat_natCast, Nat.testBit_two_pow]
  by_cases h : k = j
  · rw [h]
  · rw [decide_eq_false h, decide_eq_false (fun z => h z.symm)]
theorem tb_big {x : Int} (hx : ps x) {k : Nat} (hk : 9 ≤ k) : tb x k = false := by
  unfold tb
  apply Nat.testBit_lt_two_pow
  have h1 := hx.1; have h2 := hx.2
  have : 2 ^ 9 ≤ 2 ^ k := Nat.pow_le_pow_right (by decide) hk
  omega
theorem tb_ext {x y : Int} (hx : ps x) (hy : ps y) (h : ∀ k, k < 9 → tb x k = tb y k) : x = y := by
  have : x.toNat = y.toNat := by
    apply Nat.eq_of_testBit_eq
    intro k
    by_cases c : k < 9
    · exact h k c
    · have a := tb_big hx (k := k) (by omega)
      have b := tb_big hy (k := k) (by omega)
      unfold tb at a b
      rw [a, b]
  have h1 := hx.1; have h3 := hy.1
  omega
theorem tb_zero (k : Nat) : tb 0 k = false := by unfold tb; simp
def low (s : Int) : Int := i_and s (i_neg s)
theorem low_all : ∀ s : Fin 512, (decide (0 ≤ low (s.val : Int)) && decide (low (s.val : Int) < 512) && (decide (s.val = 0) || (decide (low (s.val : Int) ≠ 0) && decide ((low (s.val : Int)).toNat &&& s.val = (low (s.val : Int)).toNat)))) = true := by decide +kernel
theorem low_ok {s : Int} (hs : ps s) : ps (low s) ∧ (∀ k, tb (low s) k = true → tb s k = true) ∧ (s = 0 → low s = 0) ∧ (s ≠ 0 → low s ≠ 0) := by
  have h0 := hs.1
  have h1 := hs.2
  have h := low_all ⟨s.toNat, by omega⟩
  dsimp only at h
  rw [show ((s.toNat : Nat) : Int) = s by omega] at h
  simp only [Bool.and_eq_true, Bool.or_eq_true, decide_eq_true_eq] at h
  refine ⟨h.1, fun k hk => ?_, fun z => ?_, fun z => ?_⟩
  · rcases h.2 with c | c
    · rw [show s = 0 by omega] at hk; revert hk; show tb 0 k = true → _; rw [tb_zero]; intro q; cases q
    · unfold tb at hk ⊢
      rw [← c.2, Nat.testBit_and] at hk
      exact (Bool.and_eq_true_iff.mp hk).2
  · rw [z]; rfl
  · rcases h.2 with c | c
    · omega
    · exact c.1
