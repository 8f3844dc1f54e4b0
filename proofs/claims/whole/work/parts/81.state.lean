/-! ===== PURE: the class's look ahead: states and groups ===== -/
def si (o : Ow) : Int := (if o.1 = 0 then 0 else if o.1 = 1 then 1 else if o.1 = 2 then 4 else 9) + (if o.2.1 = 0 then 0 else 2 * o.2.1 - 1 + o.2.2)
def owl : List Ow := [(0, 0, 0), (1, 0, 0), (1, 1, 0), (1, 1, 1), (2, 0, 0), (2, 1, 0), (2, 1, 1), (2, 2, 0), (2, 2, 1), (3, 0, 0), (3, 1, 0), (3, 1, 1), (3, 2, 0), (3, 2, 1)]
theorem OwOK.mem {o : Ow} (h : OwOK o) : o = (0, 0, 0) ∨ o = (1, 0, 0) ∨ o = (1, 1, 0) ∨ o = (1, 1, 1) ∨ o = (2, 0, 0) ∨ o = (2, 1, 0) ∨ o = (2, 1, 1) ∨ o = (2, 2, 0) ∨ o = (2, 2, 1) ∨ o = (3, 0, 0) ∨ o = (3, 1, 0) ∨ o = (3, 1, 1) ∨ o = (3, 2, 0) ∨ o = (3, 2, 1) := by
  obtain ⟨n, s, t⟩ := o
  unfold OwOK at h
  dsimp only at h
  have hn : n = 0 ∨ n = 1 ∨ n = 2 ∨ n = 3 := by omega
  have hs : s = 0 ∨ s = 1 ∨ s = 2 := by omega
  have ht : t = 0 ∨ t = 1 := by omega
  rcases hn with rfl | rfl | rfl | rfl <;> rcases hs with rfl | rfl | rfl <;> rcases ht with rfl | rfl <;> first | decide | exact absurd h (by decide)
theorem OwOK1.mem {o : Ow} (h : OwOK1 o) : o = (0, 0, 0) ∨ o = (1, 0, 0) ∨ o = (1, 1, 0) ∨ o = (2, 0, 0) ∨ o = (2, 1, 0) := by
  obtain ⟨n, s, t⟩ := o
  unfold OwOK1 at h
  dsimp only at h
  have hn : n = 0 ∨ n = 1 ∨ n = 2 := by omega
  have hs : s = 0 ∨ s = 1 := by omega
  have ht : t = 0 := by omega
  subst ht
  rcases hn with rfl | rfl | rfl <;> rcases hs with rfl | rfl <;> first | decide | exact absurd h (by decide)
theorem si_ok {o : Ow} (h : OwOK o) : 0 ≤ si o ∧ si o < 14 := by
  rcases h.mem with rfl | rfl | rfl | rfl | rfl | rfl | rfl | rfl | rfl | rfl | rfl | rfl | rfl | rfl <;> decide
theorem si_owl : ∀ k : Fin 14, (decide (si (owl.getD k.val (0, 0, 0)) = (k.val : Int))) = true := by decide +kernel
theorem owl_ok : ∀ o ∈ owl, OwOK o := by
  intro o ho
  simp only [owl, List.mem_cons, List.not_mem_nil, or_false] at ho
  rcases ho with rfl | rfl | rfl | rfl | rfl | rfl | rfl | rfl | rfl | rfl | rfl | rfl | rfl | rfl <;> exact ⟨by decide, by decide, by decide, by decide, by decide, by decide⟩
theorem OwOK.owl {o : Ow} (h : OwOK o) : o ∈ owl := by
  rcases h.mem with rfl | rfl | rfl | rfl | rfl | rfl | rfl | rfl | rfl | rfl | rfl | rfl | rfl | rfl <;> decide
theorem si_inj {a b : Ow} (ha : OwOK a) (hb : OwOK b) (h : si a = si b) : a = b := by
  have key : (owl.all fun a => owl.all fun b => decide (si a = si b → a = b)) = true := by decide +kernel
  have := List.all_eq_true.mp (List.all_eq_true.mp key a ha.owl) b hb.owl
  exact of_decide_eq_true this h
theorem nextOf_X {N : Nat} {o : Ow} (h : OwOK o) {μ : Mm} : jX2_nextOf N (si o) μ = some (o.1, μ) := by
  rcases h.mem with rfl | rfl | rfl | rfl | rfl | rfl | rfl | rfl | rfl | rfl | rfl | rfl | rfl | rfl <;> rfl
theorem stateBehind_X {N : Nat} {o : Ow} (h : OwOK o) {μ : Mm} : jX2_stateBehind N (si o) μ = some (si (lt1 o), μ) := by
  rcases h.mem with rfl | rfl | rfl | rfl | rfl | rfl | rfl | rfl | rfl | rfl | rfl | rfl | rfl | rfl <;> rfl
theorem fillsOf_X {N : Nat} {o : Ow} (h : OwOK o) {μ : Mm} : jX2_fillsOf N (si o) μ = some (cnt o, μ) := by
  rcases h.mem with rfl | rfl | rfl | rfl | rfl | rfl | rfl | rfl | rfl | rfl | rfl | rfl | rfl | rfl <;> rfl
theorem stateWith_X {N : Nat} {o : Ow} (h : OwOK1 o) {e : Int} (h0 : 0 ≤ e) (h3 : e ≤ 3) {μ : Mm} : jX2_stateWith N (si o) e μ = some (si (pls o e), μ) := by
  have he : e = 0 ∨ e = 1 ∨ e = 2 ∨ e = 3 := by omega
  rcases h.mem with rfl | rfl | rfl | rfl | rfl <;> rcases he with rfl | rfl | rfl | rfl <;> rfl
/-! bits of long numbers -/
def ps10 (x : Int) : Prop := 0 ≤ x ∧ x < 1024
theorem bv_nat64 {x : Int} (h0 : 0 ≤ x) (h1 : x < 9223372036854775808) : (Int64.ofInt x).toBitVec.toNat = x.toNat := by
  show (BitVec.ofInt 64 x).toNat = _
  rw [BitVec.toNat_ofInt]
  omega
theorem i64_nat {a : Int64} (h : a.toBitVec.toNat < 9223372036854775808) : a.toInt = (a.toBitVec.toNat : Int) := by
  show a.toBitVec.toInt = _
  rw [BitVec.toInt_eq_toNat_cond, if_pos (by omega)]
theorem tb_lor {x y : Int} (hx : ps10 x) (hy : ps10 y) : ps10 (l_or x y) ∧ ∀ k, tb (l_or x y) k = (tb x k || tb y k) := by
  have h1 := hx.1; have h2 := hx.2; have h3 := hy.1; have h4 := hy.2
  have e0 : (Int64.ofInt x ||| Int64.ofInt y).toBitVec.toNat = x.toNat ||| y.toNat := by rw [Int64.toBitVec_or, BitVec.toNat_or, bv_nat64 hx.1 (by omega), bv_nat64 hy.1 (by omega)]
  have hb : x.toNat ||| y.toNat < 2 ^ 10 := Nat.or_lt_two_pow (by omega) (by omega)
  have e : l_or x y = ((x.toNat ||| y.toNat : Nat) : Int) := by
    unfold l_or
    rw [i64_nat (by rw [e0]; omega), e0]
  rw [e]
  refine ⟨⟨by omega, by omega⟩, fun k => ?_⟩
  unfold tb
  rw [Int.toNat_natCast, Nat.testBit_or]
theorem tb_lone {k : Nat} (hk : k < 10) : ps10 (l_shl 1 k) ∧ ∀ j, tb (l_shl 1 k) j = decide (j = k) := by
  have e : ∀ k : Nat, k < 10 → l_shl 1 (k : Int) = ((2 ^ k : Nat) : Int) := by decide +kernel
  rw [e k hk]
  have hp : 2 ^ k < 2 ^ 10 := Nat.pow_lt_pow_right (by decide) hk
  have hz : ∀ q : Nat, q < 2 ^ 10 → ps10 (q : Int) := fun q hq => ⟨by omega, by omega⟩
  refine ⟨hz _ hp, fun j => ?_⟩
  unfold tb
  rw [Int.toNat_natCast, Nat.testBit_two_pow]
  by_cases h : k = j
  · rw [h]
  · rw [decide_eq_false h, decide_eq_false (fun z => h z.symm)]
/-! groups -/
def dd1 (d : List Int) (k : Int × Int) : List Int := if k.1 ∈ d then d else d ++ [k.1]
def dd (ks : List (Int × Int)) : List Int := ks.foldl dd1 []
theorem dd_snoc (ks : List (Int × Int)) (k : Int × Int) : dd (ks ++ [k]) = dd1 (dd ks) k := by unfold dd; rw [List.foldl_append]; rfl
theorem snocI2 {α : Type} {P : List α → Prop} (h0 : P []) (h1 : ∀ l x, P l → P (l ++ [x])) (l : List α) : P l := by
  have : ∀ n : Nat, ∀ l : List α, l.length = n → P l := by
    intro n
    induction n with
    | zero => intro l hl; rw [List.length_eq_zero_iff.mp hl]; exact h0
    | succ n ih =>
      intro l hl
      have hne : l ≠ [] := fun z => by rw [z] at hl; cases hl
      rw [← List.dropLast_concat_getLast hne]
      exact h1 _ _ (ih _ (by rw [List.length_dropLast]; omega))
  exact this _ l rfl
theorem dd_len (ks : List (Int × Int)) : (dd ks).length ≤ ks.length := by
  refine snocI2 (P := fun ks => (dd ks).length ≤ ks.length) (Nat.le_refl _) (fun l x ih => ?_) ks
  rw [dd_snoc, List.length_append, List.length_singleton]
  unfold dd1
  split
  · omega
  · rw [List.length_append, List.length_singleton]; omega
theorem mem_dd (ks : List (Int × Int)) (i : Int) : i ∈ dd ks ↔ ∃ k ∈ ks, k.1 = i := by
  refine snocI2 (P := fun ks => i ∈ dd ks ↔ ∃ k ∈ ks, k.1 = i) ⟨fun h => absurd h (by simp [dd]), fun ⟨k, h, _⟩ => absurd h (by simp)⟩ (fun l x ih => ?_) ks
  rw [dd_snoc]
  unfold dd1
  constructor
  · intro h
    split at h
    · obtain ⟨k, hk, e⟩ := ih.mp h
      exact ⟨k, List.mem_append.mpr (Or.inl hk), e⟩
    · rcases List.mem_append.mp h with z | z
      · obtain ⟨k, hk, e⟩ := ih.mp z
        exact ⟨k, List.mem_append.mpr (Or.inl hk), e⟩
      · exact ⟨x, List.mem_append.mpr (Or.inr (List.mem_singleton.mpr rfl)), (List.mem_singleton.mp z).symm⟩
  · rintro ⟨k, hk, e⟩
    rcases List.mem_append.mp hk with z | z
    · have := ih.mpr ⟨k, z, e⟩
      split
      · exact this
      · exact List.mem_append.mpr (Or.inl this)
    · rw [List.mem_singleton.mp z] at e
      split
      · rename_i h; rw [← e]; exact h
      · exact List.mem_append.mpr (Or.inr (by rw [e]; simp))
theorem dd_nodup (ks : List (Int × Int)) : (dd ks).Nodup := by
  refine snocI2 (P := fun ks => (dd ks).Nodup) (by simp [dd]) (fun l x ih => ?_) ks
  rw [dd_snoc]
  unfold dd1
  split
  · exact ih
  · rename_i h
    rw [List.nodup_append]
    refine ⟨ih, by simp, fun a ha b hb => ?_⟩
    rw [List.mem_singleton.mp hb]
    intro z
    rw [z] at ha
    exact h ha
def nk (ks : List (Int × Int)) (i : Int) : Nat := ks.countP (fun k => decide (k.1 = i))
def nkx (ks : List (Int × Int)) (i : Int) (x : Nat) : Nat := ks.countP (fun k => decide (k.1 = i) && decide (k.2 = (x : Int)))
def GVal (b : Bool) (ks : List (Int × Int)) (i v : Int) : Prop := if b then v = nk ks i else ps10 v ∧ ∀ x : Nat, x < 10 → tb v x = decide (0 < nkx ks i x)
def GRP (b : Bool) (ks : List (Int × Int)) (μ : Mm) : Prop := (∀ i, 0 ≤ i → i < 1498 → GVal b ks i (m_gt μ 43 i)) ∧ m_gt μ 33 13 = (dd ks).length ∧ Row μ 44 0 (dd ks)
theorem nk_snoc (ks : List (Int × Int)) (k : Int × Int) (i : Int) : nk (ks ++ [k]) i = nk ks i + if k.1 = i then 1 else 0 := by
  unfold nk
  rw [List.countP_append, List.countP_singleton]
  simp
theorem nkx_snoc (ks : List (Int × Int)) (k : Int × Int) (i : Int) (x : Nat) : nkx (ks ++ [k]) i x = nkx ks i x + if k.1 = i ∧ k.2 = (x : Int) then 1 else 0 := by
  unfold nkx
  rw [List.countP_append, List.countP_singleton]
  simp
theorem nk_le (ks : List (Int × Int)) (i : Int) : nk ks i ≤ ks.length := List.countP_le_length
theorem nk_zero {ks : List (Int × Int)} {i : Int} : nk ks i = 0 ↔ i ∉ dd ks := by
  rw [mem_dd]
  unfold nk
  rw [List.countP_eq_zero]
  constructor
  · rintro h ⟨k, hk, e⟩
    have := h k hk
    simp at this
    exact this e
  · intro h k hk
    simp
    exact fun e => h ⟨k, hk, e⟩
theorem GVal.zero {b : Bool} {ks : List (Int × Int)} {i v : Int} (hm : ∀ k ∈ ks, 0 ≤ k.2 ∧ k.2 ≤ 9) (h : GVal b ks i v) : v = 0 ↔ i ∉ dd ks := by
  unfold GVal at h
  cases b with
  | true =>
    rw [if_pos rfl] at h
    rw [h, ← nk_zero]
    omega
  | false =>
    rw [if_neg (by decide)] at h
    rw [mem_dd]
    constructor
    · rintro z ⟨k, hk, e⟩
      have hkm := hm k hk
      have := h.2 k.2.toNat (by omega)
      rw [z, tb_zero] at this
      have h2 : ¬ 0 < nkx ks i k.2.toNat := by
        intro q
        rw [decide_eq_true q] at this
        cases this
      apply h2
      unfold nkx
      rw [List.countP_pos_iff]
      exact ⟨k, hk, by simp [e]; omega⟩
    · intro z
      have hv : ∀ x : Nat, x < 10 → tb v x = false := by
        intro x hx
        rw [h.2 x hx]
        refine decide_eq_false (fun q => ?_)
        unfold nkx at q
        rw [List.countP_pos_iff] at q
        obtain ⟨k, hk, e⟩ := q
        simp at e
        exact z ⟨k, hk, e.1⟩
      have h0 := h.1.1
      have h1 := h.1.2
      have : v.toNat = 0 := by
        apply Nat.eq_of_testBit_eq
        intro k
        rw [Nat.zero_testBit]
        by_cases c : k < 10
        · exact hv k c
        · apply Nat.testBit_lt_two_pow
          have : 2 ^ 10 ≤ 2 ^ k := Nat.pow_le_pow_right (by decide) (by omega)
          omega
      omega
theorem addToGroup_X {N : Nat} {b : Bool} {ks : List (Int × Int)} {so g i m : Int} (hi : i = so * 107 + g + 50) (h0 : 0 ≤ so ∧ so < 14) (hg : -50 ≤ g ∧ g ≤ 56) (hm : 0 ≤ m ∧ m ≤ 9) (hl : ks.length < 1400) (hks : ∀ k ∈ ks, 0 ≤ k.2 ∧ k.2 ≤ 9) {μ : Mm} (hK : KR μ) (hb : m_gt μ 33 7 = if b then 1 else 0) (hmk : b = false → m_gt μ 33 10 = l_shl 1 m) (hG : GRP b ks μ) : ∃ μ', jX2_addToGroup N 33 so g μ = some μ' ∧ GRP b (ks ++ [(i, m)]) μ' ∧ Fr [43, 44] [(33, 13)] μ μ' := by
  obtain ⟨G1, G2, G3⟩ := hG
  have hi0 : 0 ≤ i := by omega
  have hi1 : i < 1498 := by omega
  have hv := G1 i hi0 hi1
  have hz := GVal.zero hks hv
  have hdl := dd_len ks
  have ei : i_sub (i_add (i_mul so 107) g) (-50) = i := by
    rw [i_mul_e (by omega) (by omega), i_add_e (by omega) (by omega), i_sub_e (by omega) (by omega)]
    omega
  -- the memory after the index is noted
  have e67 : ∀ (μ1 : Mm), KR μ1 → m_gt μ1 33 7 = (if b then 1 else 0) → (b = false → m_gt μ1 33 10 = l_shl 1 m) → m_gt μ1 43 i = m_gt μ 43 i → ∃ v, jX2_addToGroup_67 N 33 i μ1 = some (m_st μ1 43 i v) ∧ GVal b (ks ++ [(i, m)]) i v := by
    intro μ1 K1 b1 k1 c1
    unfold jX2_addToGroup_67 jX2_addToGroup_101
    rw [b1, r_33_11 K1, ald_e (k_43 K1) hi0 (by omega), ob_e, ob_e, c1]
    cases b with
    | true =>
      rw [if_neg (by decide), ast_e (k_43 K1) hi0 (by omega), ob_e]
      refine ⟨_, rfl, ?_⟩
      unfold GVal at hv ⊢
      rw [if_pos rfl] at hv ⊢
      have := nk_le ks i
      rw [hv, nk_snoc, if_pos rfl, l_add_e (by omega) (by omega)]
      omega
    | false =>
      rw [if_pos (by decide), ast_e (k_43 K1) hi0 (by omega), ob_e, k1 rfl]
      refine ⟨_, rfl, ?_⟩
      unfold GVal at hv ⊢
      rw [if_neg (by decide)] at hv ⊢
      have hone := tb_lone (k := m.toNat) (by omega)
      rw [show ((m.toNat : Nat) : Int) = m by omega] at hone
      have hor := tb_lor hv.1 hone.1
      refine ⟨hor.1, fun x hx => ?_⟩
      rw [hor.2, hone.2, hv.2 x hx, nkx_snoc]
      by_cases c : x = m.toNat
      · rw [decide_eq_true c, Bool.or_true, if_pos ⟨rfl, by dsimp only; omega⟩, decide_eq_true (by omega)]
      · rw [decide_eq_false c, Bool.or_false, if_neg (fun q => c (by have := q.2; dsimp only at this; omega)), Nat.add_zero]
  have oth : ∀ j, j ≠ i → ∀ v, GVal b ks j v → GVal b (ks ++ [(i, m)]) j v := by
    intro j hj v h
    unfold GVal at h ⊢
    cases b with
    | true =>
      rw [if_pos rfl] at h ⊢
      rw [nk_snoc, if_neg (fun q => hj q.symm)]
      exact h
    | false =>
      rw [if_neg (by decide)] at h ⊢
      refine ⟨h.1, fun x hx => ?_⟩
      rw [nkx_snoc, if_neg (fun q => hj q.1.symm)]
      exact h.2 x hx
  unfold jX2_addToGroup jX2_addToGroup_23
  rw [bnd_e, ei, if_neg (by omega), r_33_11 hK, len_e (k_43 hK) (by decide) (by decide), ob_e, if_pos (by omega), ald_e (k_43 hK) hi0 (by omega), ob_e]
  by_cases c : m_gt μ 43 i = 0
  · have hnd := hz.mp c
    rw [if_neg (not_not_intro ((l_cmp_eq0 _ _).mpr c)), r_33_12 hK, len_e (k_44 hK) (by decide) (by decide), ob_e, G2, if_neg (by omega), ast_e (k_44 hK) (by omega) (by omega), ob_e, bnd_e, gt_r _ _ _ _ (by decide), G2, i_add_e (by omega) (by omega)]
    have f1 : Fr [43, 44] [(33, 13)] μ (m_st (m_st μ 44 (dd ks).length i) 33 13 ((dd ks).length + 1)) := Fr.stI (Fr.stI (Fr.rf0 _ _ _) (by simp)) (by simp)
    obtain ⟨v, e1, e2⟩ := e67 _ (f1.KR hK (by decide)) (by rw [f1.2.2 33 7 (by decide) (by decide)]; exact hb) (fun z => by rw [f1.2.2 33 10 (by decide) (by decide)]; exact hmk z) (by simp (disch := omega) only [gt_r])
    refine ⟨_, e1, ⟨fun j j0 j1 => ?_, ?_, ?_⟩, f1.stI (by simp)⟩
    · by_cases q : j = i
      · rw [q, gt_same]; exact e2
      · simp (disch := omega) only [gt_r, gt_i]
        exact oth j q _ (G1 j j0 j1)
    · rw [gt_r _ _ _ _ (by decide), gt_same, dd_snoc]
      unfold dd1
      rw [if_neg hnd, List.length_append, List.length_singleton]
      omega
    · have := Row.push G3 i
      rw [dd_snoc]
      unfold dd1
      rw [if_neg hnd]
      rw [Int.zero_add] at this
      exact this.ext (fun j => by simp (disch := omega) only [gt_r])
  · have hnd : i ∈ dd ks := Classical.byContradiction (fun q => c (hz.mpr q))
    rw [if_pos (fun q => c ((l_cmp_eq0 _ _).mp q))]
    obtain ⟨v, e1, e2⟩ := e67 μ hK hb hmk rfl
    have hdd : dd (ks ++ [(i, m)]) = dd ks := by rw [dd_snoc]; unfold dd1; rw [if_pos hnd]
    refine ⟨_, e1, ⟨fun j j0 j1 => ?_, ?_, ?_⟩, Fr.stI (Fr.rf0 _ _ _) (by simp)⟩
    · by_cases q : j = i
      · rw [q, gt_same]; exact e2
      · rw [gt_i _ _ _ q]
        exact oth j q _ (G1 j j0 j1)
    · rw [gt_r _ _ _ _ (by decide), hdd]; exact G2
    · rw [hdd]; exact G3.ext (fun j => gt_r _ _ _ _ (by decide))
