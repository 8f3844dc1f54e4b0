/-! ===== the start of the law, over the pure claim ===== -/
def m_0 : Mm := ((0, 0), (fun _ => (999, 0)), fun _ _ => 0)
/-- the pure claim: on every script the law's function comes to 1, within the room -/
def PureLaw : Prop := ∀ E : m_E, E.1.2 900 ≤ 3072 → ∃ (N : Nat) (μ : Mm), jL_law E N m_0 = some (1, μ) ∧ m_sz μ ≤ 600000 ∧ m_sl μ ≤ 7302250
theorem m_K_of {s : State} {b L : Nat} {xs : Nat → Int32} (hL : L ≤ 3072) (hts : ∀ w ∈ lw_tbl, w.before #[Value.ref b] s = true) (hX : va_X b L xs s s.heap) (hbl : b < s.heap.size) (hn : narrow_1.before #[Value.ref b] s = true) :
    ∃ E : m_E, E.1.1 = s.heap.size ∧ E.1.2 6 = b ∧ E.1.2 900 = L ∧ m_K E s := by
  have hgt : ∀ w ∈ m_tb, w.before #[Value.ref b] s = true := fun w hw => hts w (List.mem_filter.mp hw).1
  have hA : ∀ a : Nat, a < s.heap.size → ¬ (fun q => s.heap.size ≤ q) a := fun a h => Nat.not_le.mpr h
  have hcl : ∀ c : Nat, ∃ q : ClassId × (Nat → Nat), c < 9 → u_Kn s (cn c) (fT c) (f_n c) q.1 q.2 := by
    intro c
    by_cases hc : c < 9
    · have hi : (Cond.instantiable (cn c) (f_n c)).before #[Value.ref b] s = true := by
        have : c = 0 ∨ c = 1 ∨ c = 2 ∨ c = 3 ∨ c = 4 ∨ c = 5 ∨ c = 6 ∨ c = 7 ∨ c = 8 := by omega
        rcases this with rfl | rfl | rfl | rfl | rfl | rfl | rfl | rfl | rfl
        · exact hgt _ in0
        · exact hgt _ in1
        · exact hgt _ in2
        · exact hgt _ in3
        · exact hgt _ in4
        · exact hgt _ in5
        · exact hgt _ in6
        · exact hgt _ in7
        · exact hgt _ in8
      obtain ⟨cC, iS, h⟩ := u_known hgt (kc_in hc) hi
      exact ⟨(cC, iS), fun _ => h⟩
    · exact ⟨(0, fun _ => 0), fun h => absurd h hc⟩
  have hac : ∀ ty : FieldType, (Cond.arrayClass ty).before #[Value.ref b] s = true → ∃ cA : ClassId, ArrOfT s cA ty ∧ s.vm.findClass ("[" ++ ty.toString) = some cA := by
    intro ty h
    obtain ⟨cA, kA, comp, h1, h2, h3⟩ := Cond.arrayClass_spec h
    exact ⟨cA, fun n z => ⟨fun k h => (by cases h), kA, h2, comp, h3⟩, h1⟩
  obtain ⟨ai, hai, hai2⟩ := hac .int (hgt _ ac_int)
  obtain ⟨al, hal, hal2⟩ := hac .long (hgt _ ac_long)
  obtain ⟨az, haz, haz2⟩ := hac .boolean (hgt _ ac_boolean)
  obtain ⟨ac, hac1, hac2⟩ := hac .char (hgt _ ac_char)
  have tab : ∀ (j : Nat) (nm : String) (n : Nat), (m_tab j).1 = nm → (m_tab j).2.1 = n → n < 2 ^ 31 → Cond.laysStatic RX2 nm "[I" ∈ lw_tbl → (Cond.arrayOf (.static RX2 nm "[I") .int).before #[Value.ref b] s = true → (Cond.eq (.length (.static RX2 nm "[I")) (.int (Int32.ofNat n))).before #[Value.ref b] s = true → (∀ i : Nat, i < n → (Term.elem (.static RX2 nm "[I") (.int (Int32.ofNat i))).eval #[Value.ref b] s none [] s = some (.int (Int32.ofInt ((m_tab j).2.2.getD i 0)))) →
      ∃ t : Nat, va_Z RX2 nm "[I" (.ref t) (fun q => s.heap.size ≤ q) s s.heap ∧ va_T .int t n (fun i => .int (Int32.ofInt ((m_tab j).2.2.getD i 0))) (fun q => s.heap.size ≤ q) s s.heap := by
    intro j nm n _ _ hn2 hl ha he hel
    obtain ⟨t, ht, hT⟩ := va_Tof (A := fun q => s.heap.size ≤ q) hn2 ha (va_eqt he) hel hA
    exact ⟨t, va_Zof (hts _ hl) (hts _ wl_o) ht hA, hT⟩
  obtain ⟨t2, z2, T2⟩ := tab 2 "NEXT" 14 rfl rfl (by omega) wl_t2 (nw_1 hn) (nw_2 hn) (st_t2 hn)
  obtain ⟨t3, z3, T3⟩ := tab 3 "SECOND" 14 rfl rfl (by omega) wl_t3 (nw_17 hn) (nw_18 hn) (st_t3 hn)
  obtain ⟨t4, z4, T4⟩ := tab 4 "THIRD" 14 rfl rfl (by omega) wl_t4 (nw_33 hn) (nw_34 hn) (st_t4 hn)
  obtain ⟨t5, z5, T5⟩ := tab 5 "STATE_OF_NEXT" 4 rfl rfl (by omega) wl_t5 (nw_49 hn) (nw_50 hn) (st_t5 hn)
  have hzc := va_Zof (A := fun q => s.heap.size ≤ q) (hts _ wl_cs) (hts _ wl_js) (va_eqi (nw_55 hn)) hA
  have hzs := va_Zqof (A := fun q => s.heap.size ≤ q) (hts _ wl_si) (hts _ wl_jp) (nw_56 hn) hA
  obtain ⟨adK, adV, hS, hev⟩ := vk_Sof (A := fun q => s.heap.size ≤ q) (N := 22) (tm := s_tm) (len := s_ln) (byt := s_by) (by decide) (st_ex hn) (st_co hn) (st_ar hn) (st_le hn) (st_el hn) (st_ne hn) hA
  obtain ⟨t7, hz7⟩ : ∃ t7 : Nat, va_Z "jdk/internal/util/Preconditions" "SIOOBE_FORMATTER" "Ljava/util/function/BiFunction;" .null (fun q => s.heap.size ≤ q) s s.heap ∨ va_Z "jdk/internal/util/Preconditions" "SIOOBE_FORMATTER" "Ljava/util/function/BiFunction;" (.ref t7) (fun q => s.heap.size ≤ q) s s.heap := by
    rcases hzs with h | ⟨t, h⟩
    · exact ⟨0, Or.inl h⟩
    · exact ⟨t, Or.inr h⟩
  let ex : Nat → Nat := fun n => if n = 2 then t2 else if n = 3 then t3 else if n = 4 then t4 else if n = 5 then t5 else if n = 6 then b else if n = 7 then t7 else if n = 900 then L else if n < 10 then 0 else if n < 32 then adK (n - 10) else if n < 40 then 0 else if n < 62 then adV (n - 40) else if n < 1000 then 0 else (xs (n - 1000)).toUInt32.toNat
  let E : m_E := ((s.heap.size, ex), ((fun c => (Classical.choose (hcl c)).1), fun c => (Classical.choose (hcl c)).2), fun j => if j = 0 then ai else if j = 1 then al else if j = 2 then az else ac)
  have exK : ∀ i, i < 22 → ex (10 + i) = adK i := by
    intro i hi
    show (if 10 + i = 2 then t2 else _) = _
    rw [if_neg (by omega), if_neg (by omega), if_neg (by omega), if_neg (by omega), if_neg (by omega), if_neg (by omega), if_neg (by omega), if_neg (by omega), if_pos (by omega), show 10 + i - 10 = i by omega]
  have exV : ∀ i, i < 22 → ex (40 + i) = adV i := by
    intro i hi
    show (if 40 + i = 2 then t2 else _) = _
    rw [if_neg (by omega), if_neg (by omega), if_neg (by omega), if_neg (by omega), if_neg (by omega), if_neg (by omega), if_neg (by omega), if_neg (by omega), if_neg (by omega), if_neg (by omega), if_pos (by omega), show 40 + i - 40 = i by omega]
  have exX : ∀ i, x_at E i = xs i := by
    intro i
    show Int32.ofNat (ex (1000 + i)) = xs i
    have : ex (1000 + i) = (xs i).toUInt32.toNat := by
      show (if 1000 + i = 2 then t2 else _) = _
      rw [if_neg (by omega), if_neg (by omega), if_neg (by omega), if_neg (by omega), if_neg (by omega), if_neg (by omega), if_neg (by omega), if_neg (by omega), if_neg (by omega), if_neg (by omega), if_neg (by omega), if_neg (by omega), show 1000 + i - 1000 = i by omega]
    rw [this]
    apply Int32.toBitVec_inj.mp
    show BitVec.ofNat 32 ((xs i).toUInt32.toNat) = (xs i).toBitVec
    apply BitVec.eq_of_toNat_eq
    rw [BitVec.toNat_ofNat]
    exact Nat.mod_eq_of_lt (xs i).toUInt32.toBitVec.isLt
  refine ⟨E, rfl, rfl, rfl, ⟨?_, ?_⟩, ⟨Nat.le_refl _, ?_, hbl, by show L < _; omega⟩, fun w hw => ?_, fun j h1 h2 => ?_, ?_, fun i q hi => ?_, hzc, hz7⟩
  · intro c q hq
    have hc : c < 9 := (List.getElem?_eq_some_iff.mp hq).1
    rw [kc_at hc] at hq
    cases hq
    exact Classical.choose_spec (hcl c) hc
  · intro k q hk
    have hk4 : k < 4 := (List.getElem?_eq_some_iff.mp hk).1
    have : k = 0 ∨ k = 1 ∨ k = 2 ∨ k = 3 := by omega
    rcases this with rfl | rfl | rfl | rfl
    · cases hk; exact ⟨hai, hai2⟩
    · cases hk; exact ⟨hal, hal2⟩
    · cases hk; exact ⟨haz, haz2⟩
    · cases hk; exact ⟨hac1, hac2⟩
  · obtain ⟨scr, g1, g2, g3, g4, g5⟩ := hX
    exact ⟨scr, g1, g2, g3, g4, fun j hj => by rw [exX j]; exact g5 j hj⟩
  · refine va_Nw.of ?_ (hts w (wl_n w hw))
    simp only [m_nst, List.mem_cons, List.not_mem_nil, or_false] at hw
    rcases hw with rfl | rfl | rfl | rfl | rfl | rfl <;> rfl
  · have : j = 2 ∨ j = 3 ∨ j = 4 ∨ j = 5 := by omega
    rcases this with rfl | rfl | rfl | rfl
    · exact ⟨z2, T2⟩
    · exact ⟨z3, T3⟩
    · exact ⟨z4, T4⟩
    · exact ⟨z5, T5⟩
  · refine ⟨fun i hi => ?_, fun i j hi hj he => hS.2 i j hi hj (by rw [← exK i hi, ← exK j hj]; exact he)⟩
    have h9 := hS.1 i hi
    show va_O _ (ex (10 + i)) _ _ _ ∧ va_OF _ _ _ _ (ex (10 + i)) _ _ _ ∧ va_OF _ _ _ (.ref (ex (40 + i))) (ex (10 + i)) _ _ _ ∧ va_T _ (ex (40 + i)) _ _ _ _ _
    rw [exK i hi, exV i hi]
    exact h9
  · have hi22 : i < 22 := (List.getElem?_eq_some_iff.mp hi).1
    refine vk_R.of (hts _ (wl_sr i q hi)) ?_
    have h9 := hev i hi22
    show _ = some (Value.ref (ex (10 + i)))
    rw [exK i hi22, ← h9]
    unfold s_tm
    rw [List.getD_eq_getElem?_getD, hi]
    rfl
