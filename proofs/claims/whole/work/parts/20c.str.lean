/-! ===== String.length, String.charAt of the string constants ===== -/
section AAN
variable {E : m_E} {l : Launch} {d : Nat} {z : Nat × Nat} {own nm : String} {cc : ByteArray} {nL : Nat} {ret : Option FieldType} {pc : Nat} {L L' : List (Nat × AV)} {st st' : List AV} {μ : Mm} {ρ : Option AV × Mm} {τ : Type} {t : τ}
theorem c_rf_s (E : m_E) (i : Nat) : c_v E (vr (-((10 + i : Nat) : Int))) = .ref (E.1.2 (10 + i)) := c_rf_e E (by omega)
theorem c_rf_b (E : m_E) (i : Nat) : c_v E (vr (-((40 + i : Nat) : Int))) = .ref (E.1.2 (40 + i)) := c_rf_e E (by omega)
theorem a_sgV {i index : Nat} (hi : i < 22) (hd : decode cc pc = .ok (.getfield index, 3)) (hw : Cond.fieldLink own index "java/lang/String" "value" "[B" ∈ m_tb) (k : AA E l d z own nm cc nL ret (pc + 3) L (vr (-((40 + i : Nat) : Int)) :: st) μ ρ) : AA E l d z own nm cc nL ret pc L (vr (-((10 + i : Nat) : Int)) :: st) μ ρ :=
  aa_s (fun _ hs _ => oks.c (v := vr (-((40 + i : Nat) : Int))) trivial hs.t) (fun _ hs _ hC hR hF _ w => by
    obtain ⟨hx, hb, -, hown, hts, hnm, -, -, hK⟩ := hC
    rw [c_S_c, c_rf_s]
    rw [c_S_c, c_rf_b] at w
    exact vk_getf hx hb (hK.2.2.2.2.1.1 i hi).2.2.1 hF.S hown (hts _ hw) (fun _ h => h) hd w) k
theorem a_sgC {i index : Nat} (hi : i < 22) (hd : decode cc pc = .ok (.getfield index, 3)) (hw : Cond.fieldLink own index "java/lang/String" "coder" "B" ∈ m_tb) (k : AA E l d z own nm cc nL ret (pc + 3) L (vi 0 :: st) μ ρ) : AA E l d z own nm cc nL ret pc L (vr (-((10 + i : Nat) : Int)) :: st) μ ρ :=
  aa_s (fun _ hs _ => oks.c (v := vi 0) okI_0 hs.t) (fun _ hs _ hC hR hF _ w => by
    obtain ⟨hx, hb, -, hown, hts, hnm, -, -, hK⟩ := hC
    rw [c_S_c, c_rf_s]
    exact vk_getf hx hb (hK.2.2.2.2.1.1 i hi).2.1 hF.S hown (hts _ hw) (fun _ h => h) hd w) k
theorem a_gCS {index : Nat} (hd : decode cc pc = .ok (.getstatic index, 3)) (hw : Cond.fieldLink own index "java/lang/String" "COMPACT_STRINGS" "Z" ∈ m_tb) (k : AA E l d z own nm cc nL ret (pc + 3) L (vi 1 :: st) μ ρ) : AA E l d z own nm cc nL ret pc L st μ ρ :=
  aa_s (fun _ hs _ => oks.c (v := vi 1) (okI_b _ rfl) hs) (fun _ hs _ hC hR hF _ w => by
    obtain ⟨hx, hb, -, hown, hts, hnm, -, -, hK⟩ := hC
    exact va_gets hx hb hK.2.2.2.2.2.2.1 hF.S hown (hts _ hw) (fun _ h => h) hd w) k
theorem a_gSI {index : Nat} (hd : decode cc pc = .ok (.getstatic index, 3)) (hw : Cond.fieldLink own index "jdk/internal/util/Preconditions" "SIOOBE_FORMATTER" "Ljava/util/function/BiFunction;" ∈ m_tb) (k : ∀ x : Int, AA E l d z own nm cc nL ret (pc + 3) L (vr x :: st) μ ρ) : AA E l d z own nm cc nL ret pc L st μ ρ := by
  intro hl hs hm
  obtain ⟨k1, k2⟩ := k (-1) hl (oks.c (v := vr (-1)) trivial hs) hm
  obtain ⟨-, k3⟩ := k (-((7 : Nat) : Int)) hl (oks.c (v := vr (-((7 : Nat) : Int))) trivial hs) hm
  refine ⟨k1, fun p e R s m args below meth c Q H locs ls hC h1 h2 h3 h4 hR hF hv hr => ?_⟩
  have w1 := k2 p e R s m args below meth c Q H locs ls hC h1 h2 h3 h4 hR hF hv hr
  have w2 := k3 p e R s m args below meth c Q H locs ls hC h1 h2 h3 h4 hR hF hv hr
  obtain ⟨hx, hb, -, hown, hts, hnm, -, -, hK⟩ := hC
  rcases hK.2.2.2.2.2.2.2 with hz | hz
  · exact va_gets hx hb hz hF.S hown (hts _ hw) (fun _ h => h) hd w1
  · rw [c_S_c, show c_v E (vr (-((7 : Nat) : Int))) = .ref (E.1.2 7) from c_rf_e E (by omega)] at w2
    exact va_gets hx hb hz hF.S hown (hts _ hw) (fun _ h => h) hd w2
theorem a_bLen {i : Nat} (hi : i < 22) (hd : decode cc pc = .ok (.arraylength, 1)) (k : AA E l d z own nm cc nL ret (pc + 1) L (vi (s_ln.getD i 0 : Nat) :: st) μ ρ) : AA E l d z own nm cc nL ret pc L (vr (-((40 + i : Nat) : Int)) :: st) μ ρ := by
  have hok : okI (s_ln.getD i 0 : Nat) := by
    have : ∀ i, i < 22 → -2147483648 ≤ ((s_ln.getD i 0 : Nat) : Int) ∧ ((s_ln.getD i 0 : Nat) : Int) ≤ 2147483647 := by decide
    exact this i hi
  refine aa_s (fun _ hs _ => oks.c (v := vi (s_ln.getD i 0 : Nat)) hok hs.t) (fun _ hs hm hC hR hF _ w => ?_) k
  obtain ⟨hx, hb, -, hown, hts, hnm, -, -, hK⟩ := hC
  obtain ⟨cell, g1, g2, g3, g4, g5, g6, g7⟩ := (hK.2.2.2.2.1.1 i hi).2.2.2
  rw [c_S_c, c_rf_b]
  exact W.alen hx hb (by rw [hF.2.1 _ (Nat.not_le.mp g7)]; exact g1) g2 (n := Int32.ofInt (s_ln.getD i 0 : Nat)) (by rw [g5, Int32.ofInt_eq_ofNat]) rfl rfl hd w
theorem s_lnb : ∀ i, i < 22 → s_ln.getD i 0 = (s_by.getD i []).length := by decide
theorem a_bLd {i j : Nat} (hi : i < 22) (hj : j < s_ln.getD i 0) (hd : decode cc pc = .ok (.baload, 1)) (k : AA E l d z own nm cc nL ret (pc + 1) L (vi ((s_by.getD i []).getD j 0).toInt :: st) μ ρ) : AA E l d z own nm cc nL ret pc L (vi (j : Int) :: vr (-((40 + i : Nat) : Int)) :: st) μ ρ := by
  refine aa_s (fun _ hs _ => oks.c (v := vi ((s_by.getD i []).getD j 0).toInt) (okI_t _) hs.t.t) (fun _ hs hm hC hR hF _ w => ?_) k
  obtain ⟨hx, hb, -, hown, hts, hnm, -, -, hK⟩ := hC
  obtain ⟨cell, g1, g2, g3, g4, g5, g6, g7⟩ := (hK.2.2.2.2.1.1 i hi).2.2.2
  rw [c_S_c, c_it] at w
  rw [c_S_c, c_S_c, c_rf_b]
  have hc := clampI hs.i
  rw [Int.toNat_natCast] at hc
  have hneg := (inI (n := s_ln.getD i 0) hs.i (by omega) (by omega))
  refine W.bald (v := .int ((s_by.getD i []).getD j 0)) hx hb (by rw [hF.2.1 _ (Nat.not_le.mp g7)]; exact g1) g2 g3 ?_ (by rw [hc]; exact g6 _ hj) rfl rfl hd w
  rintro (z1 | z1)
  · exact hneg (Or.inl z1)
  · exact hneg (Or.inr (Nat.le_trans g4 z1))
theorem a_i2c {x y : Int} (hd : decode cc pc = .ok (.i2c, 1)) (hy : ((Int32.ofInt x).toUInt32 % 65536).toInt32 = Int32.ofInt y ∧ okI y) (k : AA E l d z own nm cc nL ret (pc + 1) L (vi y :: st) μ ρ) : AA E l d z own nm cc nL ret pc L (vi x :: st) μ ρ :=
  aa_s (fun _ hs _ => oks.c (v := vi y) hy.2 hs.t) (fun _ hs _ hC hR hF _ w => lv_i2c hC.1 hC.2.1 hd hy.1 w) k
/-- a call on a string constant -/
theorem a_cVx {y : MethodName} {bytes : ByteArray} {nL' dc index i : Nat} {ret' : Option FieldType} (hi : i < 22) (As rest : List AV) {ρ1 : Option AV × Mm} (hd : decode cc pc = .ok (.invokevirtual index, 3)) (hY : MY y bytes nL' ret' As.length) (hw : Cond.methodLink own index y ∈ m_tb) (hw2 : Cond.instanceMethod y ∈ m_tb ∧ Cond.selects "java/lang/String" y y ∈ m_tb) (hyc : y.cls = "java/lang/String") (hT : TT E l dc y bytes nL' ret' (vr (-((10 + i : Nat) : Int)) :: As) μ ρ1) (hdd : dc + 1 ≤ d) (hst : st = As.reverse ++ vr (-((10 + i : Nat) : Int)) :: rest) (hrm : a_wd rest ≤ 8) (k : m_mono μ ρ1.2 → AA E l d z own nm cc nL ret (pc + 3) L (ρ1.1.toList ++ rest) ρ1.2 ρ) : AA E l d z own nm cc nL ret pc L st μ ρ := by
  subst hst
  refine aa_c hT oks_r (fun hC hR hF hv hs hm hcl hsl hM => ?_) k
  obtain ⟨hx, hb, hml, hown, hts, hnm, hfr, hlo, hK⟩ := hC
  obtain ⟨hY1, hY2, hY3, hY4⟩ := hY
  have hws : ∀ w ∈ wsV own index "java/lang/String" y (m_ws y bytes nL' ret'), w ∈ m_tb := fun w hw' => by
    simp only [wsV, m_ws, List.mem_append, List.mem_cons, List.not_mem_nil, or_false] at hw'
    rcases hw' with (rfl | rfl | rfl | rfl) | rfl | h
    · exact hw
    · exact hw2.1
    · exact hw2.2
    · rw [← hyc]; exact hY2
    · exact hY1
    · exact h
  refine ⟨_, va_runV (n := As.length) (As := As.map (c_v E)) (rest := c_S E rest) (b := E.1.2 (10 + i)) ⟨hx, hb, hml, hown, hts⟩ hM (cwV As.length hts (m_good hws) rfl rfl rfl ⟨hyc, hY4⟩ ⟨by show dc + 1 ≤ _; omega, by show 8 + (nL' + 11) + 40 * dc ≤ _; omega⟩) ⟨m_blind E _ μ, vk_recv (adK := fun i => E.1.2 (10 + i)) (i := i) hK.2.2.2.2.1 hi hF.S, fun U hU hW => ⟨?_, by rw [hU]; exact hR, hK.call hF hU hW⟩⟩ rfl (by simp) hv.1 ?_ (rm_ok hrm) hd ⟨hcl, hsl⟩⟩
  · show _ = (c_v E (vr (-((10 + i : Nat) : Int))) :: As.map (c_v E)).toArray
    rw [c_rf_s]
  · show c_S E (As.reverse ++ vr (-((10 + i : Nat) : Int)) :: rest) = _
    unfold c_S
    rw [List.map_append, List.map_cons, List.map_reverse, c_rf_s]
theorem a_eqF {x off : Int} {tgt : Nat} (hx : ¬ x = 0) (hd : decode cc pc = .ok (.ifCond .eq off, 3)) (ht : (pc : Int) + off = (tgt : Int)) (k : AA E l d z own nm cc nL ret (pc + 3) L st μ ρ) : AA E l d z own nm cc nL ret pc L (vi x :: st) μ ρ :=
  a_if_eq (τ := Unit) (t := ()) (A := none) (B := some ()) hd ht (if_neg hx) (fun h => nomatch h) (fun _ => k)
theorem a_neF {x off : Int} {tgt : Nat} (hx : x = 0) (hd : decode cc pc = .ok (.ifCond .ne off, 3)) (ht : (pc : Int) + off = (tgt : Int)) (k : AA E l d z own nm cc nL ret (pc + 3) L st μ ρ) : AA E l d z own nm cc nL ret pc L (vi x :: st) μ ρ :=
  a_if_ne (τ := Unit) (t := ()) (A := none) (B := some ()) hd ht (if_neg (fun q => q hx)) (fun h => nomatch h) (fun _ => k)
theorem a_ltF {x off : Int} {tgt : Nat} (hx : ¬ x < 0) (hd : decode cc pc = .ok (.ifCond .lt off, 3)) (ht : (pc : Int) + off = (tgt : Int)) (k : AA E l d z own nm cc nL ret (pc + 3) L st μ ρ) : AA E l d z own nm cc nL ret pc L (vi x :: st) μ ρ :=
  a_if_lt (τ := Unit) (t := ()) (A := none) (B := some ()) hd ht (if_neg hx) (fun h => nomatch h) (fun _ => k)
theorem a_iltT {x y off : Int} {tgt : Nat} (hx : x < y) (hd : decode cc pc = .ok (.if_icmp .lt off, 3)) (ht : (pc : Int) + off = (tgt : Int)) (k : AA E l d z own nm cc nL ret tgt L st μ ρ) : AA E l d z own nm cc nL ret pc L (vi y :: vi x :: st) μ ρ :=
  a_icmp_lt (τ := Unit) (t := ()) (A := some ()) (B := none) hd ht (if_pos hx) (fun _ => k) (fun h => nomatch h)
/-- any return of an int that its type keeps -/
theorem a_retn {x : Int} {ty : FieldType} (hn : narrow ty (.int (Int32.ofInt x)) = .int (Int32.ofInt x)) (hd : decode cc pc = .ok (.ireturn, 1)) : AA E l d z own nm cc nL (some ty) pc L [vi x] μ (some (vi x), μ) :=
  fun _ hs hm => ⟨⟨m_mono.rf _, ⟨hs.i, _, rfl, hn⟩, hm⟩, fun p e R s m args below meth c Q H locs ls hC h1 h2 h3 h4 hR hF hv hr => hr pc ls H locs hd hR hF⟩
theorem a_retv (hd : decode cc pc = .ok (.return_, 1)) : AA E l d z own nm cc nL none pc L [] μ (none, μ) :=
  fun _ hs hm => ⟨⟨m_mono.rf _, rfl, hm⟩, fun p e R s m args below meth c Q H locs ls hC h1 h2 h3 h4 hR hF hv hr => hr pc ls H locs hd hR hF⟩
end AAN
section AAO
variable (E : m_E) (l : Launch) (μ : Mm)
theorem tJ0_coder (i : Nat) (hi : i < 22) : TT E l 1 yJ0_coder_7d493 cJ0_coder_7d493 1 (some .byte) [vr (-((10 + i : Nat) : Int))] μ (some (vi 0), μ) := by
  refine tt_of (L := [(0, vr (-((10 + i : Nat) : Int)))]) (by decide +kernel) (Nat.le_of_ble_eq_true rfl) rfl ?_
  show AA E l 1 _ "java/lang/String" "coder" cJ0_coder_7d493 1 (some .byte) 0 _ _ _ _
  refine a_gCS dJ0_coder_7d493_0 fRJ0_38 ?_
  refine a_eqF (tgt := 13) (by decide) dJ0_coder_7d493_3 rfl ?_
  refine a_aload_n 0 dJ0_coder_7d493_6 rfl rfl ?_
  refine a_sgC hi dJ0_coder_7d493_7 fRJ0_15 ?_
  refine a_goto (tgt := 14) dJ0_coder_7d493_10 rfl ?_
  exact a_retn rfl dJ0_coder_7d493_14
theorem tJ0_isLatin1 (i : Nat) (hi : i < 22) : TT E l 1 yJ0_isLatin1_aae02 cJ0_isLatin1_aae02 1 (some .boolean) [vr (-((10 + i : Nat) : Int))] μ (some (vi 1), μ) := by
  refine tt_of (L := [(0, vr (-((10 + i : Nat) : Int)))]) (by decide +kernel) (Nat.le_of_ble_eq_true rfl) rfl ?_
  show AA E l 1 _ "java/lang/String" "isLatin1" cJ0_isLatin1_aae02 1 (some .boolean) 0 _ _ _ _
  refine a_gCS dJ0_isLatin1_aae02_0 fRJ0_38 ?_
  refine a_eqF (tgt := 17) (by decide) dJ0_isLatin1_aae02_3 rfl ?_
  refine a_aload_n 0 dJ0_isLatin1_aae02_6 rfl rfl ?_
  refine a_sgC hi dJ0_isLatin1_aae02_7 fRJ0_15 ?_
  refine a_neF (tgt := 17) rfl dJ0_isLatin1_aae02_10 rfl ?_
  refine a_iconst dJ0_isLatin1_aae02_13 (okI_b _ rfl) ?_
  refine a_goto (tgt := 18) dJ0_isLatin1_aae02_14 rfl ?_
  exact a_retn rfl dJ0_isLatin1_aae02_18
theorem s_shr : ∀ i, i < 22 → i_shr ((s_ln.getD i 0 : Nat) : Int) 0 = ((s_ln.getD i 0 : Nat) : Int) := by decide +kernel
theorem tJ0_length (i : Nat) (hi : i < 22) : TT E l 2 yJ0_length_8abf5 cJ0_length_8abf5 1 (some .int) [vr (-((10 + i : Nat) : Int))] μ (some (vi ((s_ln.getD i 0 : Nat) : Int)), μ) := by
  refine tt_of (L := [(0, vr (-((10 + i : Nat) : Int)))]) (by decide +kernel) (Nat.le_of_ble_eq_true rfl) rfl ?_
  show AA E l 2 _ "java/lang/String" "length" cJ0_length_8abf5 1 (some .int) 0 _ _ _ _
  refine a_aload_n 0 dJ0_length_8abf5_0 rfl rfl ?_
  refine a_sgV hi dJ0_length_8abf5_1 fRJ0_9 ?_
  refine a_bLen hi dJ0_length_8abf5_4 ?_
  refine a_aload_n 0 dJ0_length_8abf5_5 rfl rfl ?_
  refine a_cVx hi [] [vi ((s_ln.getD i 0 : Nat) : Int)] dJ0_length_8abf5_6 myJ0_coder_7d493 mRJ0_335 mvJ0_coder_7d493 rfl (tJ0_coder E l μ i hi) (by decide) rfl (Nat.le_of_ble_eq_true rfl) (fun _ => ?_)
  refine a_ishr dJ0_length_8abf5_9 ?_
  have e := s_shr i hi
  show AA E l 2 _ "java/lang/String" "length" cJ0_length_8abf5 1 (some .int) _ _ [vi (i_shr ((s_ln.getD i 0 : Nat) : Int) 0)] _ _
  rw [e]
  exact a_retn rfl dJ0_length_8abf5_10
theorem tJ3_checkIndex (i n x : Int) (h0 : 0 ≤ i) (h1 : i < n) : TT E l 1 yJ3_checkIndex_8e157 cJ3_checkIndex_8e157 3 (some .int) [vi i, vi n, vr x] μ (some (vi i), μ) := by
  refine tt_of (L := [(0, vi i), (1, vi n), (2, vr x)]) (by decide +kernel) (Nat.le_of_ble_eq_true rfl) rfl ?_
  show AA E l 1 _ "jdk/internal/util/Preconditions" "checkIndex" cJ3_checkIndex_8e157 3 (some .int) 0 _ _ _ _
  refine a_iload_n 0 dJ3_checkIndex_8e157_0 rfl rfl ?_
  refine a_ltF (tgt := 9) (by omega) dJ3_checkIndex_8e157_1 rfl ?_
  refine a_iload_n 0 dJ3_checkIndex_8e157_4 rfl rfl ?_
  refine a_iload_n 1 dJ3_checkIndex_8e157_5 rfl rfl ?_
  refine a_iltT (tgt := 16) h1 dJ3_checkIndex_8e157_6 rfl ?_
  refine a_iload_n 0 dJ3_checkIndex_8e157_16 rfl rfl ?_
  exact a_retn rfl dJ3_checkIndex_8e157_17
theorem tJ0_checkIndex (i n : Int) (h0 : 0 ≤ i) (h1 : i < n) : TT E l 2 yJ0_checkIndex_df160 cJ0_checkIndex_df160 2 none [vi i, vi n] μ (none, μ) := by
  refine tt_of (L := [(0, vi i), (1, vi n)]) (by decide +kernel) (Nat.le_of_ble_eq_true rfl) rfl ?_
  show AA E l 2 _ "java/lang/String" "checkIndex" cJ0_checkIndex_df160 2 none 0 _ _ _ _
  refine a_iload_n 0 dJ0_checkIndex_df160_0 rfl rfl ?_
  refine a_iload_n 1 dJ0_checkIndex_df160_1 rfl rfl ?_
  refine a_gSI dJ0_checkIndex_df160_2 fRJ0_1053 (fun x => ?_)
  refine a_cS [vi i, vi n, vr x] [] dJ0_checkIndex_df160_5 myJ3_checkIndex_8e157 mRJ0_1059 msJ3_checkIndex_8e157 (tJ3_checkIndex E l μ i n x h0 h1) (by decide) rfl (Nat.le_of_ble_eq_true rfl) (fun _ => ?_)
  refine a_pop dJ0_checkIndex_df160_8 rfl ?_
  exact a_retv dJ0_checkIndex_df160_9
theorem s_and : ∀ q ∈ s_by, ∀ b ∈ q, ((Int32.ofInt (i_and b.toInt 255)).toUInt32 % 65536).toInt32 = Int32.ofInt b.toInt ∧ narrow .char (.int (Int32.ofInt b.toInt)) = .int (Int32.ofInt b.toInt) := by decide +kernel
theorem s_mem {i j : Nat} (hi : i < 22) (hj : j < s_ln.getD i 0) : s_by.getD i [] ∈ s_by ∧ (s_by.getD i []).getD j 0 ∈ s_by.getD i [] := by
  have hl : s_by.length = 22 := rfl
  rw [s_lnb i hi] at hj
  refine ⟨?_, ?_⟩
  · rw [List.getD_eq_getElem?_getD, List.getElem?_eq_getElem (by rw [hl]; exact hi)]
    exact List.getElem_mem _
  · generalize s_by.getD i [] = q at hj ⊢
    rw [List.getD_eq_getElem?_getD, List.getElem?_eq_getElem hj]
    exact List.getElem_mem _
theorem tJ1_charAt (i j : Nat) (hi : i < 22) (hj : j < s_ln.getD i 0) : TT E l 3 yJ1_charAt_3b067 cJ1_charAt_3b067 2 (some .char) [vr (-((40 + i : Nat) : Int)), vi (j : Int)] μ (some (vi ((s_by.getD i []).getD j 0).toInt), μ) := by
  refine tt_of (L := [(0, vr (-((40 + i : Nat) : Int))), (1, vi (j : Int))]) (by decide +kernel) (Nat.le_of_ble_eq_true rfl) rfl ?_
  show AA E l 3 _ "java/lang/StringLatin1" "charAt" cJ1_charAt_3b067 2 (some .char) 0 _ _ _ _
  refine a_iload_n 1 dJ1_charAt_3b067_0 rfl rfl ?_
  refine a_aload_n 0 dJ1_charAt_3b067_1 rfl rfl ?_
  refine a_bLen hi dJ1_charAt_3b067_2 ?_
  refine a_cS [vi (j : Int), vi ((s_ln.getD i 0 : Nat) : Int)] [] dJ1_charAt_3b067_3 myJ0_checkIndex_df160 mRJ1_9 msJ0_checkIndex_df160 (tJ0_checkIndex E l μ j _ (by omega) (by omega)) (by decide) rfl (Nat.le_of_ble_eq_true rfl) (fun _ => ?_)
  refine a_aload_n 0 dJ1_charAt_3b067_6 rfl rfl ?_
  refine a_iload_n 1 dJ1_charAt_3b067_7 rfl rfl ?_
  refine a_bLd hi hj dJ1_charAt_3b067_8 ?_
  refine a_sipush dJ1_charAt_3b067_9 ⟨rfl, okI_b _ rfl⟩ ?_
  refine a_iand dJ1_charAt_3b067_12 ?_
  obtain ⟨h1, h2⟩ := s_mem hi hj
  obtain ⟨h3, h4⟩ := s_and _ h1 _ h2
  refine a_i2c (y := ((s_by.getD i []).getD j 0).toInt) dJ1_charAt_3b067_13 ⟨h3, okI_t _⟩ ?_
  exact a_retn h4 dJ1_charAt_3b067_14
theorem tJ0_charAt (i j : Nat) (hi : i < 22) (hj : j < s_ln.getD i 0) : TT E l 4 yJ0_charAt_5068e cJ0_charAt_5068e 2 (some .char) [vr (-((10 + i : Nat) : Int)), vi (j : Int)] μ (some (vi ((s_by.getD i []).getD j 0).toInt), μ) := by
  refine tt_of (L := [(0, vr (-((10 + i : Nat) : Int))), (1, vi (j : Int))]) (by decide +kernel) (Nat.le_of_ble_eq_true rfl) rfl ?_
  show AA E l 4 _ "java/lang/String" "charAt" cJ0_charAt_5068e 2 (some .char) 0 _ _ _ _
  refine a_aload_n 0 dJ0_charAt_5068e_0 rfl rfl ?_
  refine a_cVx hi [] [] dJ0_charAt_5068e_1 myJ0_isLatin1_aae02 mRJ0_492 mvJ0_isLatin1_aae02 rfl (tJ0_isLatin1 E l μ i hi) (by decide) rfl (Nat.le_of_ble_eq_true rfl) (fun _ => ?_)
  refine a_eqF (x := 1) (tgt := 16) (by decide) dJ0_charAt_5068e_4 rfl ?_
  refine a_aload_n 0 dJ0_charAt_5068e_7 rfl rfl ?_
  refine a_sgV hi dJ0_charAt_5068e_8 fRJ0_9 ?_
  refine a_iload_n 1 dJ0_charAt_5068e_11 rfl rfl ?_
  refine a_cS [vr (-((40 + i : Nat) : Int)), vi (j : Int)] [] dJ0_charAt_5068e_12 myJ1_charAt_3b067 mRJ0_495 msJ1_charAt_3b067 (tJ1_charAt E l μ i j hi hj) (by decide) rfl (Nat.le_of_ble_eq_true rfl) (fun _ => ?_)
  obtain ⟨h1, h2⟩ := s_mem hi hj
  obtain ⟨h3, h4⟩ := s_and _ h1 _ h2
  exact a_retn h4 dJ0_charAt_5068e_15
end AAO
section AAP
variable {E : m_E} {l : Launch} {d : Nat} {z : Nat × Nat} {own nm : String} {cc : ByteArray} {nL : Nat} {ret : Option FieldType} {pc : Nat} {L L' : List (Nat × AV)} {st st' : List AV} {μ : Mm} {ρ : Option AV × Mm} {τ : Type} {t : τ}
theorem s_is {r : Int} (h : s_isw r = true) : ∃ i : Nat, i < 22 ∧ r = -((10 + i : Nat) : Int) := by
  simp only [s_isw, decide_eq_true_eq] at h
  exact ⟨(-r).toNat - 10, by omega, by omega⟩
theorem s_w_e (i : Nat) : s_w (-((10 + i : Nat) : Int)) = s_by.getD i [] := by
  unfold s_w
  rw [show (-(-((10 + i : Nat) : Int))).toNat - 10 = i by omega]
theorem a_sLen {r : Int} {index : Nat} {f : Int → Option τ} (rest : List AV) (hd : decode cc pc = .ok (.invokevirtual index, 3)) (hw : Cond.methodLink own index yJ0_length_8abf5 ∈ m_tb) (hd1 : 8 ≤ d) (hrm : a_wd rest ≤ 8) (h : (s_len r).bind f = some t) (k : ∀ x, f x = some t → AA E l d z own nm cc nL ret (pc + 3) L (vi x :: rest) μ ρ) : AA E l d z own nm cc nL ret pc L (vr r :: rest) μ ρ := by
  unfold s_len at h
  by_cases q : s_isw r = true
  · rw [if_pos q] at h
    obtain ⟨i, hi, rfl⟩ := s_is q
    rw [s_w_e, ← s_lnb i hi] at h
    exact a_cVx hi [] rest hd myJ0_length_8abf5 hw mvJ0_length_8abf5 rfl (tJ0_length E l μ i hi) (by omega) rfl hrm (fun _ => k _ h)
  · rw [if_neg q] at h; cases h
theorem a_sAt {r i : Int} {index : Nat} {f : Int → Option τ} (rest : List AV) (hd : decode cc pc = .ok (.invokevirtual index, 3)) (hw : Cond.methodLink own index yJ0_charAt_5068e ∈ m_tb) (hd1 : 8 ≤ d) (hrm : a_wd rest ≤ 8) (h : (s_at r i).bind f = some t) (k : ∀ x, f x = some t → AA E l d z own nm cc nL ret (pc + 3) L (vi x :: rest) μ ρ) : AA E l d z own nm cc nL ret pc L (vi i :: vr r :: rest) μ ρ := by
  unfold s_at at h
  by_cases q : s_isw r = true ∧ 0 ≤ i ∧ i < ((s_w r).length : Int)
  · rw [if_pos q] at h
    obtain ⟨q1, q2, q3⟩ := q
    obtain ⟨n, hn, rfl⟩ := s_is q1
    rw [s_w_e] at h q3
    rw [← s_lnb n hn] at q3
    obtain ⟨j, rfl⟩ : ∃ j : Nat, i = (j : Int) := ⟨i.toNat, by omega⟩
    rw [Int.toNat_natCast] at h
    exact a_cVx hn [vi (j : Int)] rest hd myJ0_charAt_5068e hw mvJ0_charAt_5068e rfl (tJ0_charAt E l μ n j hn (by omega)) (by omega) rfl hrm (fun _ => k _ h)
  · rw [if_neg q] at h; cases h
end AAP
