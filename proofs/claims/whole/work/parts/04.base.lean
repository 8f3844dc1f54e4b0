/-! ===== the abstract machine: values, memory, what it means on the heap ===== -/
abbrev AV : Type := Int ⊕ Int ⊕ Int
def vi (x : Int) : AV := .inl x
def vl (x : Int) : AV := .inr (.inl x)
def vr (x : Int) : AV := .inr (.inr x)
/-- memory: how many cells and slots, the kind of each cell (class number or 100.., length), what it holds -/
abbrev Mm : Type := (Nat × Nat) × (Int → Nat × Nat) × (Int → Int → Int)
def m_sz (μ : Mm) : Nat := μ.1.1
def m_sl (μ : Mm) : Nat := μ.1.2
def m_kd (μ : Mm) (r : Int) : Nat × Nat := μ.2.1 r
def m_gt (μ : Mm) (r i : Int) : Int := μ.2.2 r i
def m_st (μ : Mm) (r i v : Int) : Mm := (μ.1, μ.2.1, fun a b => if a = r ∧ b = i then v else μ.2.2 a b)
def f_ty (c : Nat) : Nat → FieldType := match c with
  | 0 => tyX0 | 1 => tyX1 | 2 => tyX2 | 3 => tyX3 | 4 => tyX4 | 5 => tyX5 | 6 => tyX6 | 7 => tyX7 | _ => tyX8
def f_n (c : Nat) : Nat := match c with
  | 0 => 5 | 1 => 15 | 2 => 14 | 3 => 6 | 4 => 3 | 5 => 8 | 6 => 4 | 7 => 12 | _ => 86
def f_rf (ty : FieldType) : Bool := match ty with
  | .object _ => true
  | .array _ => true
  | _ => false
def f_df (c : Nat) (b : Int) : Int := if c < 9 ∧ f_rf (f_ty c b.toNat) = true then -1 else 0
/-- a new cell of kind (c, n) with s slots -/
def m_nw (μ : Mm) (c n s : Nat) : Mm := ((μ.1.1 + 1, μ.1.2 + s), (fun r => if r = (μ.1.1 : Int) then (c, n) else μ.2.1 r), (fun a b => if a = (μ.1.1 : Int) then f_df c b else μ.2.2 a b))
def s_ty (k : Nat × Nat) (i : Nat) : FieldType := if k.1 < 9 then f_ty k.1 i else if k.1 = 100 then .int else if k.1 = 101 then .long else if k.1 = 102 then .boolean else .char
def s_n (k : Nat × Nat) : Nat := if k.1 < 9 then f_n k.1 else k.2
/-- base address, addresses of what was there before; class numbers and slots; array classes -/
abbrev m_E : Type := (Nat × (Nat → Nat)) × va_G × (Nat → ClassId)
def e_B (E : m_E) : Nat := E.1.1
def c_rf (E : m_E) (x : Int) : Value := if x = -1 then .null else if x < 0 then .ref (E.1.2 (-x).toNat) else .ref (E.1.1 + x.toNat)
def c_v (E : m_E) (v : AV) : Value := match v with
  | .inl x => .int (Int32.ofInt x)
  | .inr (.inl x) => .long (Int64.ofInt x)
  | .inr (.inr x) => c_rf E x
def c_t (E : m_E) (ty : FieldType) (x : Int) : Value := match ty with
  | .long => .long (Int64.ofInt x)
  | .object _ => c_rf E x
  | .array _ => c_rf E x
  | _ => .int (Int32.ofInt x)
def c_fs (E : m_E) (μ : Mm) (c k : Nat) : List Value := (List.range (f_n c)).map fun i => c_t E (f_ty c i) (m_gt μ k i)
def c_cell (E : m_E) (μ : Mm) (k : Nat) : va_E :=
  if (m_kd μ k).1 < 9 then .inr ((m_kd μ k).1, c_fs E μ (m_kd μ k).1 k)
  else if (m_kd μ k).1 = 101 then .inl (E.2.2 1, ((m_kd μ k).2, .inr (.inl fun j => Int64.ofInt (m_gt μ k j))))
  else .inl (E.2.2 ((m_kd μ k).1 - 100), ((m_kd μ k).2, .inl fun j => Int32.ofInt (m_gt μ k j)))
def c_S (E : m_E) (st : List AV) : List Value := st.map (c_v E)
def c_L (E : m_E) (L : List (Nat × AV)) : List (Nat × Value) := L.map fun q => (q.1, c_v E q.2)
def c_tys (E : m_E) : List (ClassId × FieldType) := [(E.2.2 0, .int), (E.2.2 1, .long), (E.2.2 2, .boolean), (E.2.2 3, .char)]
/-- ranges -/
def okI (x : Int) : Prop := -2147483648 ≤ x ∧ x ≤ 2147483647
def okJ (x : Int) : Prop := -9223372036854775808 ≤ x ∧ x ≤ 9223372036854775807
def okt (ty : FieldType) (x : Int) : Prop := match ty with
  | .boolean => x = 0 ∨ x = 1
  | .char => 0 ≤ x ∧ x ≤ 65535
  | .long => okJ x
  | .object _ => True
  | .array _ => True
  | _ => okI x
def okv (v : AV) : Prop := match v with
  | .inl x => okI x
  | .inr (.inl x) => okJ x
  | .inr (.inr _) => True
def oks (st : List AV) : Prop := ∀ v ∈ st, okv v
def okl (L : List (Nat × AV)) : Prop := ∀ q ∈ L, okv q.2
def k_ok (k : Nat × Nat) : Prop := k.1 < 9 ∨ (100 ≤ k.1 ∧ k.1 < 104 ∧ k.2 < 2147483648)
def okM (μ : Mm) : Prop := (∀ r, (m_kd μ r).1 ≠ 999 → 0 ≤ r ∧ r < m_sz μ) ∧ ∀ k : Nat, k < m_sz μ → k_ok (m_kd μ k) ∧ ∀ i : Nat, i < s_n (m_kd μ k) → okt (s_ty (m_kd μ k) i) (m_gt μ k i)
def okr (ret : Option FieldType) (r : Option AV) : Prop := match r with
  | none => ret = none
  | some (.inl x) => okI x ∧ ∃ ty, ret = some ty ∧ narrow ty (.int (Int32.ofInt x)) = .int (Int32.ofInt x)
  | some (.inr (.inl x)) => ret = some .long ∧ okJ x
  | some (.inr (.inr _)) => False
def m_mono (μ μ' : Mm) : Prop := m_sz μ ≤ m_sz μ' ∧ m_sl μ ≤ m_sl μ' ∧ ∀ r, (m_kd μ r).1 ≠ 999 → m_kd μ' r = m_kd μ r
/-- the heap holds the memory -/
def m_R (E : m_E) (μ : Mm) (H : Heap) : Prop := H.size = E.1.1 + m_sz μ ∧ ∀ k : Nat, k < m_sz μ → va_at E.2.1 vwCl (E.1.1 + k, c_cell E μ k) H
/-- what is known of a method's start state besides the memory -/
def m_tb : List Cond := lw_tbl.filter goodWord
def m_nst : List Cond := [.methodLinkNest RX1 11 yX0_init "NinepinAlley", .methodLinkNest RX7 61 yX4_init "NinepinAlley", .methodLinkNest RX0 55 yX7_within "NinepinAlley", .methodLinkNest RX1 93 yX7_within "NinepinAlley", .methodLinkNest RX2 194 yX7_within "NinepinAlley", .fieldLinkNest RX2 62 RX5 "laws" "LNinepinAlley$Laws;" "NinepinAlley"]
def m_tab (j : Nat) : String × Nat × List Int := match j with
  | 2 => ("NEXT", 14, [0, 1, 1, 1, 2, 2, 2, 2, 2, 3, 3, 3, 3, 3])
  | 3 => ("SECOND", 14, [0, 0, 1, 1, 0, 1, 1, 2, 2, 0, 1, 1, 2, 2])
  | 4 => ("THIRD", 14, [0, 0, 0, 1, 0, 0, 1, 0, 1, 0, 0, 1, 0, 1])
  | _ => ("STATE_OF_NEXT", 4, [0, 1, 4, 9])
/-- the static table j holds its numbers, at the address E says -/
def m_Tb (E : m_E) (j : Nat) (U : State) (H : Heap) : Prop := va_Z RX2 (m_tab j).1 "[I" (.ref (E.1.2 j)) (fun q => E.1.1 ≤ q) U H ∧ va_T .int (E.1.2 j) (m_tab j).2.1 (fun i => .int (Int32.ofInt ((m_tab j).2.2.getD i 0))) (fun q => E.1.1 ≤ q) U H
/-- the string constants: place in the pool, text, bytes -/
def s_tx : List (Nat × String) := [(61, "pins"), (72, "frames"), (76, "rolls"), (80, "foul"), (85, "clean"), (101, "earns"), (89, "worth"), (165, "min"), (169, "max"), (171, "frame"), (173, "down"), (175, "used"), (177, "fouls"), (179, "mean"), (181, "games"), (124, "when"), (152, "not"), (157, "all"), (150, "and"), (142, "or"), (93, "handicap"), (97, "joins")]
def s_ln : List Nat := [4, 6, 5, 4, 5, 5, 5, 3, 3, 5, 4, 4, 5, 4, 5, 4, 3, 3, 3, 2, 8, 5]
def s_by : List (List Int32) := [[112, 105, 110, 115], [102, 114, 97, 109, 101, 115], [114, 111, 108, 108, 115], [102, 111, 117, 108], [99, 108, 101, 97, 110], [101, 97, 114, 110, 115], [119, 111, 114, 116, 104], [109, 105, 110], [109, 97, 120], [102, 114, 97, 109, 101], [100, 111, 119, 110], [117, 115, 101, 100], [102, 111, 117, 108, 115], [109, 101, 97, 110], [103, 97, 109, 101, 115], [119, 104, 101, 110], [110, 111, 116], [97, 108, 108], [97, 110, 100], [111, 114], [104, 97, 110, 100, 105, 99, 97, 112], [106, 111, 105, 110, 115]]
def m_Sx (E : m_E) (U : State) (H : Heap) : Prop := vk_S 22 s_ln s_by (fun i => E.1.2 (10 + i)) (fun i => E.1.2 (40 + i)) (fun q => E.1.1 ≤ q) U H ∧ (∀ (i : Nat) (q : Nat × String), s_tx[i]? = some q → vk_R RX3 q.1 q.2 (E.1.2 (10 + i)) U) ∧ va_Z "java/lang/String" "COMPACT_STRINGS" "Z" (.int 1) (fun q => E.1.1 ≤ q) U H ∧ (va_Z "jdk/internal/util/Preconditions" "SIOOBE_FORMATTER" "Ljava/util/function/BiFunction;" .null (fun q => E.1.1 ≤ q) U H ∨ va_Z "jdk/internal/util/Preconditions" "SIOOBE_FORMATTER" "Ljava/util/function/BiFunction;" (.ref (E.1.2 7)) (fun q => E.1.1 ≤ q) U H)
/-- the script: its length and ints stand in E behind the addresses -/
def x_len (E : m_E) : Int := ((E.1.2 900 % 2147483648 : Nat) : Int)
def x_at (E : m_E) (i : Nat) : Int32 := Int32.ofNat (E.1.2 (1000 + i))
def x_ald (E : m_E) (i : Int) : Option Int := if 0 ≤ i ∧ i < x_len E then some (x_at E i.toNat).toInt else none
def m_Scr (E : m_E) (U : State) (H : Heap) : Prop := va_X (E.1.2 6) (E.1.2 900) (x_at E) U H ∧ E.1.2 6 < E.1.1 ∧ E.1.2 900 < 2147483648
def m_K (E : m_E) (U : State) : Prop := va_K E.2.1 vwCl (c_tys E) U ∧ (E.1.1 ≤ U.heap.size ∧ m_Scr E U U.heap) ∧ (∀ w ∈ m_nst, va_Nw w U) ∧ (∀ j : Nat, 2 ≤ j → j < 6 → m_Tb E j U U.heap) ∧ m_Sx E U U.heap
/-- since the method's start nothing below the base has changed -/
def m_F (E : m_E) (s : State) (H : Heap) (locs : List Loc) : Prop := s.heap.size ≤ H.size ∧ (∀ q : Nat, q < E.1.1 → H[q]? = s.heap[q]?) ∧ ∀ q ∈ locs, E.1.1 ≤ q.base
theorem m_F.S {E : m_E} {s : State} {H : Heap} {locs : List Loc} (h : m_F E s H locs) : va_S (fun q => E.1.1 ≤ q) s.heap H locs := ⟨h.1, fun q _ h2 => h.2.1 q (Nat.not_le.mp h2), h.2.2⟩
theorem m_K.call {E : m_E} {s U : State} {H : Heap} {locs : List Loc} (h : m_K E s) (hF : m_F E s H locs) (hU : U.heap = H) (hW : s.WarmedH U.vm) : m_K E U := by
  obtain ⟨h1, h2, h3, h4, h5, h6, h7, h8⟩ := h
  have hq : ∀ a : Nat, a < s.heap.size → ¬ (fun q => E.1.1 ≤ q) a → U.heap[a]? = s.heap[a]? := fun a _ h => by rw [hU]; exact hF.2.1 a (Nat.not_le.mp h)
  refine ⟨va_K.moved hW.alike h1, ⟨by rw [hU]; exact Nat.le_trans h2.1 hF.1, (va_X.moved hW.alike h2.2.1).kept (by rw [hU]; exact hF.2.1 _ h2.2.2.1), h2.2.2⟩, fun w hw => ?_, fun j hj1 hj2 => ⟨(va_Z.moved hW.alike (h4 j hj1 hj2).1).kept hq, (va_T.moved hW.alike (h4 j hj1 hj2).2).kept hq⟩, ?_, fun i q hi => (h6 i q hi).warm hW, (va_Z.moved hW.alike h7).kept hq, h8.imp (fun h => (va_Z.moved hW.alike h).kept hq) (fun h => (va_Z.moved hW.alike h).kept hq)⟩
  · have h := h3 w hw
    simp only [m_nst, List.mem_cons, List.not_mem_nil, or_false] at hw
    rcases hw with rfl | rfl | rfl | rfl | rfl | rfl
    · exact va_Nw.warmM hW h
    · exact va_Nw.warmM hW h
    · exact va_Nw.warmM hW h
    · exact va_Nw.warmM hW h
    · exact va_Nw.warmM hW h
    · exact va_Nw.warmF hW h
  · exact (h5.moved hW.alike).kept hq
theorem m_K.same {E : m_E} {s U : State} (hh : U.heap = s.heap) (hv : U.vm = s.vm) (h : m_K E s) : m_K E U := by
  obtain ⟨h1, h2, h3, h4, h5, h6, h7, h8⟩ := h
  have ha : s.vm.Alike U.vm := by rw [hv]; exact Vm.Alike.refl _
  have hq : ∀ a : Nat, a < s.heap.size → ¬ (fun q => E.1.1 ≤ q) a → U.heap[a]? = s.heap[a]? := fun a _ h => by rw [hh]
  refine ⟨va_K.moved ha h1, ⟨by rw [hh]; exact h2.1, (va_X.moved ha h2.2.1).kept (by rw [hh]), h2.2.2⟩, fun w hw => ?_, fun j hj1 hj2 => ⟨(va_Z.moved ha (h4 j hj1 hj2).1).kept hq, (va_T.moved ha (h4 j hj1 hj2).2).kept hq⟩, ?_, fun i q hi => (h6 i q hi).same hv, (va_Z.moved ha h7).kept hq, h8.imp (fun h => (va_Z.moved ha h).kept hq) (fun h => (va_Z.moved ha h).kept hq)⟩
  · have h := h3 w hw
    have hot : w.onTables = true := by
      simp only [m_nst, List.mem_cons, List.not_mem_nil, or_false] at hw
      rcases hw with rfl | rfl | rfl | rfl | rfl | rfl <;> rfl
    exact va_Nw.same hot hv.symm h
  · exact (h5.moved ha).kept hq
/-! numbers -/
theorem okI_t (a : Int32) : okI a.toInt := ⟨by have := a.le_toInt; omega, by have := a.toInt_lt; omega⟩
theorem okJ_t (a : Int64) : okJ a.toInt := ⟨by have := a.le_toInt; omega, by have := a.toInt_lt; omega⟩
theorem toI {x : Int} (h : okI x) : (Int32.ofInt x).toInt = x := Int32.toInt_ofInt_of_le (by have := h.1; omega) (by have := h.2; omega)
theorem toJ {x : Int} (h : okJ x) : (Int64.ofInt x).toInt = x := Int64.toInt_ofInt_of_le (by have := h.1; omega) (by have := h.2; omega)
theorem ofI_lt {x y : Int} (hx : okI x) (hy : okI y) : Int32.ofInt x < Int32.ofInt y ↔ x < y := by rw [Int32.lt_iff_toInt_lt, toI hx, toI hy]
theorem ofI_le {x y : Int} (hx : okI x) (hy : okI y) : Int32.ofInt x ≤ Int32.ofInt y ↔ x ≤ y := by rw [Int32.le_iff_toInt_le, toI hx, toI hy]
theorem ofI_eq {x y : Int} (hx : okI x) (hy : okI y) : Int32.ofInt x = Int32.ofInt y ↔ x = y := by rw [← Int32.toInt_inj, toI hx, toI hy]
theorem ofJ_lt {x y : Int} (hx : okJ x) (hy : okJ y) : Int64.ofInt x < Int64.ofInt y ↔ x < y := by rw [Int64.lt_iff_toInt_lt, toJ hx, toJ hy]
theorem ofJ_eq {x y : Int} (hx : okJ x) (hy : okJ y) : Int64.ofInt x = Int64.ofInt y ↔ x = y := by rw [← Int64.toInt_inj, toJ hx, toJ hy]
theorem okI_0 : okI 0 := ⟨by omega, by omega⟩
theorem clampI {x : Int} (hx : okI x) : (Int32.ofInt x).toNatClampNeg = x.toNat := by unfold Int32.toNatClampNeg; rw [toI hx]
theorem inI {x : Int} {n : Nat} (hx : okI x) (h0 : 0 ≤ x) (hn : x < n) : vp_in (Int32.ofInt x) n := by
  unfold vp_in
  rw [clampI hx]
  have e : Int32.ofInt x < 0 ↔ x < 0 := by
    have h : (0 : Int32) = Int32.ofInt 0 := rfl
    rw [h]
    exact ofI_lt hx okI_0
  rw [e]
  omega
/-! operations on whole numbers as the machine does them -/
def i_add (x y : Int) : Int := (Int32.ofInt x + Int32.ofInt y).toInt
def i_sub (x y : Int) : Int := (Int32.ofInt x - Int32.ofInt y).toInt
def i_mul (x y : Int) : Int := (Int32.ofInt x * Int32.ofInt y).toInt
def i_div (x y : Int) : Int := (Int32.ofInt x / Int32.ofInt y).toInt
def i_rem (x y : Int) : Int := (Int32.ofInt x - Int32.ofInt x / Int32.ofInt y * Int32.ofInt y).toInt
def i_neg (x : Int) : Int := (- Int32.ofInt x).toInt
def i_and (x y : Int) : Int := (Int32.ofInt x &&& Int32.ofInt y).toInt
def i_or (x y : Int) : Int := (Int32.ofInt x ||| Int32.ofInt y).toInt
def i_xor (x y : Int) : Int := (Int32.ofInt x ^^^ Int32.ofInt y).toInt
def i_shl (x y : Int) : Int := (Int32.ofInt x <<< (Int32.ofInt y &&& 31)).toInt
def i_shr (x y : Int) : Int := (Int32.ofInt x >>> (Int32.ofInt y &&& 31)).toInt
def l_add (x y : Int) : Int := (Int64.ofInt x + Int64.ofInt y).toInt
def l_sub (x y : Int) : Int := (Int64.ofInt x - Int64.ofInt y).toInt
def l_mul (x y : Int) : Int := (Int64.ofInt x * Int64.ofInt y).toInt
def l_div (x y : Int) : Int := (Int64.ofInt x / Int64.ofInt y).toInt
def l_rem (x y : Int) : Int := (Int64.ofInt x - Int64.ofInt x / Int64.ofInt y * Int64.ofInt y).toInt
def l_and (x y : Int) : Int := (Int64.ofInt x &&& Int64.ofInt y).toInt
def l_or (x y : Int) : Int := (Int64.ofInt x ||| Int64.ofInt y).toInt
def l_xor (x y : Int) : Int := (Int64.ofInt x ^^^ Int64.ofInt y).toInt
def i_2l (x : Int) : Int := (Int32.ofInt x).toInt64.toInt
def l_2i (x : Int) : Int := (Int64.ofInt x).toInt32.toInt
def i_ushr (x y : Int) : Int := ((Int32.ofInt x).toUInt32 >>> ((Int32.ofInt y).toUInt32 &&& Int32.toUInt32 31)).toInt32.toInt
def l_shl (x y : Int) : Int := (Int64.ofInt x <<< ((Int32.ofInt y).toInt64 &&& 63)).toInt
def l_shr (x y : Int) : Int := (Int64.ofInt x >>> ((Int32.ofInt y).toInt64 &&& 63)).toInt
def l_cmp (x y : Int) : Int := if x < y then -1 else if x = y then 0 else 1
/-! memory rows -/
theorem m_kd_st (μ : Mm) (r i v q : Int) : m_kd (m_st μ r i v) q = m_kd μ q := rfl
theorem m_sz_st (μ : Mm) (r i v : Int) : m_sz (m_st μ r i v) = m_sz μ := rfl
theorem m_sl_st (μ : Mm) (r i v : Int) : m_sl (m_st μ r i v) = m_sl μ := rfl
theorem m_gt_st (μ : Mm) (r i v a b : Int) : m_gt (m_st μ r i v) a b = if a = r ∧ b = i then v else m_gt μ a b := rfl
theorem m_mono.rf (μ : Mm) : m_mono μ μ := ⟨Nat.le_refl _, Nat.le_refl _, fun _ _ => rfl⟩
theorem m_mono.st (μ : Mm) (r i v : Int) : m_mono μ (m_st μ r i v) := ⟨Nat.le_refl _, Nat.le_refl _, fun _ _ => rfl⟩
theorem m_mono.tr {a b c : Mm} (h1 : m_mono a b) (h2 : m_mono b c) : m_mono a c :=
  ⟨Nat.le_trans h1.1 h2.1, Nat.le_trans h1.2.1 h2.2.1, fun r hr => by have e := h1.2.2 r hr; rw [h2.2.2 r (by rw [e]; exact hr), e]⟩
theorem m_mono.k {a b : Mm} (h : m_mono a b) {r : Int} {c n : Nat} (hk : m_kd a r = (c, n)) (hc : c ≠ 999) : m_kd b r = (c, n) := by
  rw [h.2.2 r (by rw [hk]; exact hc), hk]
theorem m_mono.nw {μ : Mm} (h : okM μ) (c n s : Nat) : m_mono μ (m_nw μ c n s) := by
  refine ⟨Nat.le_succ _, Nat.le_add_right _ _, fun r hr => ?_⟩
  have hl := (h.1 r hr).2
  show (if r = (μ.1.1 : Int) then (c, n) else μ.2.1 r) = μ.2.1 r
  rw [if_neg]
  intro q
  unfold m_sz at hl
  omega
theorem okM.lt {μ : Mm} (h : okM μ) {r : Int} {c n : Nat} (hk : m_kd μ r = (c, n)) (hc : c ≠ 999) : ∃ k : Nat, r = (k : Int) ∧ k < m_sz μ := by
  obtain ⟨h0, h1⟩ := h.1 r (by rw [hk]; exact hc)
  exact ⟨r.toNat, by omega, by omega⟩
theorem okM.st {μ : Mm} (h : okM μ) {r i v : Int} (hv : ∀ k j : Nat, r = (k : Int) → i = (j : Int) → k < m_sz μ → j < s_n (m_kd μ k) → okt (s_ty (m_kd μ k) j) v) : okM (m_st μ r i v) := by
  refine ⟨h.1, fun k hk => ⟨(h.2 k hk).1, fun j hj => ?_⟩⟩
  rw [m_gt_st]
  by_cases q : (k : Int) = r ∧ (j : Int) = i
  · rw [if_pos q]
    exact hv k j q.1.symm q.2.symm hk hj
  · rw [if_neg q]
    exact (h.2 k hk).2 j hj
theorem okt_df (c i : Nat) (hc : c < 9) : okt (f_ty c i) (f_df c (i : Int)) := by
  unfold f_df
  rw [Int.toNat_natCast]
  generalize f_ty c i = ty
  cases ty <;> simp [f_rf, okt, okI, okJ, hc]
theorem okM.nw {μ : Mm} (h : okM μ) {c n s : Nat} (hk : k_ok (c, n)) (hc : c ≠ 999) : okM (m_nw μ c n s) := by
  refine ⟨fun r hr => ?_, fun k hk' => ?_⟩
  · show 0 ≤ r ∧ r < ((μ.1.1 + 1 : Nat) : Int)
    by_cases q : r = (μ.1.1 : Int)
    · subst q
      omega
    · have hr' : (m_kd μ r).1 ≠ 999 := by
        have e : m_kd (m_nw μ c n s) r = m_kd μ r := by show (if r = (μ.1.1 : Int) then (c, n) else μ.2.1 r) = _; rw [if_neg q]; rfl
        rw [e] at hr
        exact hr
      have := h.1 r hr'
      unfold m_sz at this
      omega
  · by_cases q : k = μ.1.1
    · subst q
      have e : m_kd (m_nw μ c n s) (μ.1.1 : Int) = (c, n) := by show (if _ then _ else _) = _; rw [if_pos rfl]
      rw [e]
      refine ⟨hk, fun i _ => ?_⟩
      have e2 : m_gt (m_nw μ c n s) (μ.1.1 : Int) i = f_df c i := by show (if _ then _ else _) = _; rw [if_pos rfl]
      rw [e2]
      unfold s_ty
      by_cases h9 : c < 9
      · simp only [h9, if_true]
        exact okt_df c i h9
      · simp only [h9, if_false]
        have e3 : f_df c i = 0 := by unfold f_df; rw [if_neg (fun q => h9 q.1)]
        rw [e3]
        split
        · exact okI_0
        · split
          · exact ⟨by omega, by omega⟩
          · split
            · exact Or.inl rfl
            · exact ⟨by omega, by omega⟩
    · have hk2 : k < m_sz μ := by
        have : k < μ.1.1 + 1 := hk'
        unfold m_sz
        omega
      have q' : ¬ (k : Int) = (μ.1.1 : Int) := by omega
      have e : m_kd (m_nw μ c n s) (k : Int) = m_kd μ k := by show (if _ then _ else _) = _; rw [if_neg q']; rfl
      have e2 : ∀ i : Int, m_gt (m_nw μ c n s) (k : Int) i = m_gt μ k i := fun i => by show (if _ then _ else _) = _; rw [if_neg q']; rfl
      rw [e]
      refine ⟨(h.2 k hk2).1, fun i hi => ?_⟩
      rw [e2]
      exact (h.2 k hk2).2 i hi
/-! cells -/
theorem c_cell_o {E : m_E} {μ : Mm} {k c n : Nat} (h : m_kd μ k = (c, n)) (hc : c < 9) : c_cell E μ k = .inr (c, c_fs E μ c k) := by
  unfold c_cell; rw [h]; simp [hc]
theorem c_cell_l {E : m_E} {μ : Mm} {k n : Nat} (h : m_kd μ k = (101, n)) : c_cell E μ k = .inl (E.2.2 1, (n, .inr (.inl fun j => Int64.ofInt (m_gt μ k j)))) := by
  unfold c_cell; rw [h]; simp
theorem c_cell_i {E : m_E} {μ : Mm} {k c n : Nat} (h : m_kd μ k = (c, n)) (hc : 100 ≤ c) (hl : c ≠ 101) : c_cell E μ k = .inl (E.2.2 (c - 100), (n, .inl fun j => Int32.ofInt (m_gt μ k j))) := by
  unfold c_cell; rw [h]; simp [hl, show ¬ c < 9 by omega]
theorem c_cell_ne {E : m_E} {μ : Mm} {r i v : Int} {k : Nat} (h : ¬ (k : Int) = r) : c_cell E (m_st μ r i v) k = c_cell E μ k := by
  have e : ∀ j : Int, m_gt (m_st μ r i v) k j = m_gt μ k j := fun j => by rw [m_gt_st, if_neg (fun q => h q.1)]
  unfold c_cell c_fs
  simp only [m_kd_st, e]
theorem c_cell_nw {E : m_E} {μ : Mm} {c n s k : Nat} (h : k < m_sz μ) : c_cell E (m_nw μ c n s) k = c_cell E μ k := by
  have q' : ¬ (k : Int) = (μ.1.1 : Int) := by unfold m_sz at h; omega
  have e : m_kd (m_nw μ c n s) (k : Int) = m_kd μ k := by show (if _ then _ else _) = _; rw [if_neg q']; rfl
  have e2 : ∀ i : Int, m_gt (m_nw μ c n s) (k : Int) i = m_gt μ k i := fun i => by show (if _ then _ else _) = _; rw [if_neg q']; rfl
  unfold c_cell c_fs
  simp only [e, e2]
theorem c_fs_set {E : m_E} {μ : Mm} {c k i : Nat} {v : Int} : c_fs E (m_st μ k i v) c k = (c_fs E μ c k).set i (c_t E (f_ty c i) v) := by
  apply List.ext_getElem?
  intro j
  unfold c_fs
  by_cases hj : j < f_n c
  · by_cases q : i = j
    · subst q
      rw [List.getElem?_set_self (by simpa using hj)]
      simp [hj, m_gt_st]
    · rw [List.getElem?_set_ne q]
      have q2 : ¬ (j : Int) = (i : Int) := by omega
      simp [hj, m_gt_st, q2]
  · rw [List.getElem?_eq_none (by simp; omega), List.getElem?_eq_none (by simp; omega)]
theorem c_fs_at {E : m_E} {μ : Mm} {c k i : Nat} (hi : i < f_n c) : (c_fs E μ c k)[i]? = some (c_t E (f_ty c i) (m_gt μ k i)) := by
  unfold c_fs
  simp [hi]
theorem c_fs_ln {E : m_E} {μ : Mm} {c k : Nat} : (c_fs E μ c k).length = f_n c := by simp [c_fs]
theorem c_rf_n (E : m_E) (k : Nat) : c_rf E (k : Int) = .ref (E.1.1 + k) := by
  unfold c_rf
  rw [if_neg (by omega), if_neg (by omega)]
  simp
theorem m_R.one {E : m_E} {μ : Mm} {H : Heap} {k : Nat} (h : m_R E μ H) (hk : k < m_sz μ) : va_P E.2.1 vwCl [(E.1.1 + k, c_cell E μ k)] H := by
  intro j q hq
  have hj : j < 1 := (List.getElem?_eq_some_iff.mp hq).1
  rw [show j = 0 by omega] at hq
  cases hq
  exact h.2 k hk
/-- a store into cell k -/
theorem m_R.st {E : m_E} {μ : Mm} {H H1 : Heap} {k : Nat} {i v : Int} (h : m_R E μ H) (z : H1.size = H.size) (oq : ∀ q : Nat, q ≠ E.1.1 + k → H1[q]? = H[q]?) (he : va_at E.2.1 vwCl (E.1.1 + k, c_cell E (m_st μ k i v) k) H1) : m_R E (m_st μ k i v) H1 := by
  refine ⟨z.trans h.1, fun j hj => ?_⟩
  by_cases q : j = k
  · subst q
    exact he
  · rw [c_cell_ne (by omega)]
    exact (h.2 j hj).kept (oq _ (by show E.1.1 + j ≠ _; omega))
theorem m_R.nw {E : m_E} {μ : Mm} {H H1 : Heap} {c n s : Nat} (h : m_R E μ H) (z : H1.size = H.size + 1) (oq : ∀ q : Nat, q < H.size → H1[q]? = H[q]?) (he : va_at E.2.1 vwCl (E.1.1 + m_sz μ, c_cell E (m_nw μ c n s) (m_sz μ)) H1) : m_R E (m_nw μ c n s) H1 := by
  refine ⟨by rw [z, h.1]; rfl, fun j hj => ?_⟩
  by_cases q : j = m_sz μ
  · subst q
    exact he
  · have hj2 : j < m_sz μ := by
      have : j < m_sz μ + 1 := hj
      omega
    rw [c_cell_nw hj2]
    exact (h.2 j hj2).kept (oq _ (by show E.1.1 + j < H.size; rw [h.1]; omega))
theorem m_F.put {E : m_E} {s : State} {H H1 : Heap} {locs : List Loc} {a j : Nat} (h : m_F E s H locs) (z : H1.size = H.size) (oq : ∀ q : Nat, q ≠ a → H1[q]? = H[q]?) (ha : E.1.1 ≤ a) : m_F E s H1 (locs ++ [⟨a, j⟩]) := by
  refine ⟨by rw [z]; exact h.1, fun q hq => (oq q (by omega)).trans (h.2.1 q hq), fun q hq => ?_⟩
  rcases List.mem_append.mp hq with hq | hq
  · exact h.2.2 q hq
  · simp only [List.mem_cons, List.not_mem_nil, or_false] at hq
    subst hq
    exact ha
theorem m_F.nw {E : m_E} {s : State} {H H1 : Heap} {locs : List Loc} {μ : Mm} (h : m_F E s H locs) (hR : m_R E μ H) (z : H1.size = H.size + 1) (oq : ∀ q : Nat, q < H.size → H1[q]? = H[q]?) : m_F E s H1 locs :=
  ⟨by rw [z]; exact Nat.le_succ_of_le h.1, fun q hq => (oq q (by rw [hR.1]; omega)).trans (h.2.1 q hq), h.2.2⟩
