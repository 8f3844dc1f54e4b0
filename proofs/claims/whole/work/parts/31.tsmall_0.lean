-- X0_put
abbrev aX0_put (E : m_E) (l : Launch) (d : Nat) (z : Nat × Nat) (pc : Nat) (L : List (Nat × AV)) (st : List AV) (μ : Mm) (ρ : Option AV × Mm) : Prop := AA E l d z RX0 "put" cX0_put 2 (some .boolean) pc L st μ ρ
theorem tX0_put (E : m_E) (l : Launch) (N : Nat) (l0 l1 : Int) (μ : Mm) (t : Int × Mm) (hk : m_kd μ l0 = (0, 0)) (h : jX0_put N l0 l1 μ = some t) : TT E l 1 yX0_put cX0_put 2 (some .boolean) [vr l0, vi l1] μ (rI t) := by
  refine tt_of (L := [(0, vr l0), (1, vi l1)]) (by decide +kernel) (Nat.le_of_ble_eq_true rfl) rfl ?_
  show aX0_put E l 1 (m_sz μ, m_sl μ) 0 [(0, vr l0), (1, vi l1)] [] μ (rI t)
  unfold jX0_put at h
  refine a_aload_n 0 dX0_put_0 rfl rfl ?_
  refine a_getfi (c := 0) (i := 1) dX0_put_1 fRX0_15 g0_1 rfl hk ?_
  refine a_aload_n 0 dX0_put_4 rfl rfl ?_
  refine a_getfr (c := 0) (i := 0) dX0_put_5 fRX0_9 g0_0 rfl hk ?_
  refine a_alen dX0_put_8 h (fun x1 h => ?_)
  refine a_icmp_lt (tgt := 14) dX0_put_9 rfl h (fun h => ?_) (fun h => ?_)
  ·
    refine a_aload_n 0 dX0_put_14 rfl rfl ?_
    refine a_getfr (c := 0) (i := 0) dX0_put_15 fRX0_9 g0_0 rfl hk ?_
    refine a_aload_n 0 dX0_put_18 rfl rfl ?_
    refine a_getfi (c := 0) (i := 1) dX0_put_19 fRX0_15 g0_1 rfl hk ?_
    refine a_iload_n 1 dX0_put_22 rfl rfl ?_
    refine a_iast dX0_put_23 h (fun μ1 hm h => ?_)
    have hk := hm.k hk (by decide)
    refine a_aload_n 0 dX0_put_24 rfl rfl ?_
    refine a_dup dX0_put_25 rfl ?_
    refine a_getfi (c := 0) (i := 1) dX0_put_26 fRX0_15 g0_1 rfl hk ?_
    refine a_iconst dX0_put_29 (okI_b _ rfl) ?_
    refine a_iadd dX0_put_30 ?_
    refine a_putfi (c := 0) (i := 1) dX0_put_31 fRX0_15 g0_1 (Or.inl rfl) rfl hk h (fun μ2 hm h => ?_)
    have hk := hm.k hk (by decide)
    refine a_iconst dX0_put_34 (okI_b _ rfl) ?_
    exact a_retzl (Or.inr rfl) dX0_put_35 h
  ·
    refine a_iconst dX0_put_12 (okI_b _ rfl) ?_
    exact a_retzl (Or.inl rfl) dX0_put_13 h
-- J6_bitCount_0f7a4
abbrev aJ6_bitCount_0f7a4 (E : m_E) (l : Launch) (d : Nat) (z : Nat × Nat) (pc : Nat) (L : List (Nat × AV)) (st : List AV) (μ : Mm) (ρ : Option AV × Mm) : Prop := AA E l d z RJ6 "bitCount" cJ6_bitCount_0f7a4 1 (some .int) pc L st μ ρ
theorem tJ6_bitCount_0f7a4 (E : m_E) (l : Launch) (N : Nat) (l0 : Int) (μ : Mm) (t : Int × Mm) (h : jJ6_bitCount_0f7a4 N l0 μ = some t) : TT E l 1 yJ6_bitCount_0f7a4 cJ6_bitCount_0f7a4 1 (some .int) [vi l0] μ (rI t) := by
  refine tt_of (L := [(0, vi l0)]) (by decide +kernel) (Nat.le_of_ble_eq_true rfl) rfl ?_
  show aJ6_bitCount_0f7a4 E l 1 (m_sz μ, m_sl μ) 0 [(0, vi l0)] [] μ (rI t)
  unfold jJ6_bitCount_0f7a4 at h
  refine a_iload_n 0 dJ6_bitCount_0f7a4_0 rfl rfl ?_
  refine a_iload_n 0 dJ6_bitCount_0f7a4_1 rfl rfl ?_
  refine a_iconst dJ6_bitCount_0f7a4_2 (okI_b _ rfl) ?_
  refine a_iushr dJ6_bitCount_0f7a4_3 ?_
  refine a_ldcw (x := 1431655765) dJ6_bitCount_0f7a4_4 kRJ6_265 ⟨rfl, okI_b _ rfl⟩ ?_
  refine a_iand dJ6_bitCount_0f7a4_7 ?_
  refine a_isub dJ6_bitCount_0f7a4_8 ?_
  refine a_nmi h (fun x1 h => ?_)
  refine a_istore_n (L' := [(0, vi x1)]) dJ6_bitCount_0f7a4_9 rfl (by decide) rfl ?_
  refine a_iload_n 0 dJ6_bitCount_0f7a4_10 rfl rfl ?_
  refine a_ldcw (x := 858993459) dJ6_bitCount_0f7a4_11 kRJ6_266 ⟨rfl, okI_b _ rfl⟩ ?_
  refine a_iand dJ6_bitCount_0f7a4_14 ?_
  refine a_iload_n 0 dJ6_bitCount_0f7a4_15 rfl rfl ?_
  refine a_iconst dJ6_bitCount_0f7a4_16 (okI_b _ rfl) ?_
  refine a_iushr dJ6_bitCount_0f7a4_17 ?_
  refine a_ldcw (x := 858993459) dJ6_bitCount_0f7a4_18 kRJ6_266 ⟨rfl, okI_b _ rfl⟩ ?_
  refine a_iand dJ6_bitCount_0f7a4_21 ?_
  refine a_iadd dJ6_bitCount_0f7a4_22 ?_
  refine a_nmi h (fun x2 h => ?_)
  refine a_istore_n (L' := [(0, vi x2)]) dJ6_bitCount_0f7a4_23 rfl (by decide) rfl ?_
  refine a_iload_n 0 dJ6_bitCount_0f7a4_24 rfl rfl ?_
  refine a_iload_n 0 dJ6_bitCount_0f7a4_25 rfl rfl ?_
  refine a_iconst dJ6_bitCount_0f7a4_26 (okI_b _ rfl) ?_
  refine a_iushr dJ6_bitCount_0f7a4_27 ?_
  refine a_iadd dJ6_bitCount_0f7a4_28 ?_
  refine a_ldcw (x := 252645135) dJ6_bitCount_0f7a4_29 kRJ6_267 ⟨rfl, okI_b _ rfl⟩ ?_
  refine a_iand dJ6_bitCount_0f7a4_32 ?_
  refine a_nmi h (fun x3 h => ?_)
  refine a_istore_n (L' := [(0, vi x3)]) dJ6_bitCount_0f7a4_33 rfl (by decide) rfl ?_
  refine a_iload_n 0 dJ6_bitCount_0f7a4_34 rfl rfl ?_
  refine a_iload_n 0 dJ6_bitCount_0f7a4_35 rfl rfl ?_
  refine a_bipush dJ6_bitCount_0f7a4_36 ⟨rfl, okI_b _ rfl⟩ ?_
  refine a_iushr dJ6_bitCount_0f7a4_38 ?_
  refine a_iadd dJ6_bitCount_0f7a4_39 ?_
  refine a_nmi h (fun x4 h => ?_)
  refine a_istore_n (L' := [(0, vi x4)]) dJ6_bitCount_0f7a4_40 rfl (by decide) rfl ?_
  refine a_iload_n 0 dJ6_bitCount_0f7a4_41 rfl rfl ?_
  refine a_iload_n 0 dJ6_bitCount_0f7a4_42 rfl rfl ?_
  refine a_bipush dJ6_bitCount_0f7a4_43 ⟨rfl, okI_b _ rfl⟩ ?_
  refine a_iushr dJ6_bitCount_0f7a4_45 ?_
  refine a_iadd dJ6_bitCount_0f7a4_46 ?_
  refine a_nmi h (fun x5 h => ?_)
  refine a_istore_n (L' := [(0, vi x5)]) dJ6_bitCount_0f7a4_47 rfl (by decide) rfl ?_
  refine a_iload_n 0 dJ6_bitCount_0f7a4_48 rfl rfl ?_
  refine a_bipush dJ6_bitCount_0f7a4_49 ⟨rfl, okI_b _ rfl⟩ ?_
  refine a_iand dJ6_bitCount_0f7a4_51 ?_
  exact a_reti dJ6_bitCount_0f7a4_52 h
-- J6_signum_0f7a4
abbrev aJ6_signum_0f7a4 (E : m_E) (l : Launch) (d : Nat) (z : Nat × Nat) (pc : Nat) (L : List (Nat × AV)) (st : List AV) (μ : Mm) (ρ : Option AV × Mm) : Prop := AA E l d z RJ6 "signum" cJ6_signum_0f7a4 1 (some .int) pc L st μ ρ
theorem tJ6_signum_0f7a4 (E : m_E) (l : Launch) (N : Nat) (l0 : Int) (μ : Mm) (t : Int × Mm) (h : jJ6_signum_0f7a4 N l0 μ = some t) : TT E l 1 yJ6_signum_0f7a4 cJ6_signum_0f7a4 1 (some .int) [vi l0] μ (rI t) := by
  refine tt_of (L := [(0, vi l0)]) (by decide +kernel) (Nat.le_of_ble_eq_true rfl) rfl ?_
  show aJ6_signum_0f7a4 E l 1 (m_sz μ, m_sl μ) 0 [(0, vi l0)] [] μ (rI t)
  unfold jJ6_signum_0f7a4 at h
  refine a_iload_n 0 dJ6_signum_0f7a4_0 rfl rfl ?_
  refine a_bipush dJ6_signum_0f7a4_1 ⟨rfl, okI_b _ rfl⟩ ?_
  refine a_ishr dJ6_signum_0f7a4_3 ?_
  refine a_iload_n 0 dJ6_signum_0f7a4_4 rfl rfl ?_
  refine a_ineg dJ6_signum_0f7a4_5 ?_
  refine a_bipush dJ6_signum_0f7a4_6 ⟨rfl, okI_b _ rfl⟩ ?_
  refine a_iushr dJ6_signum_0f7a4_8 ?_
  refine a_ior dJ6_signum_0f7a4_9 ?_
  exact a_reti dJ6_signum_0f7a4_10 h
-- J9_floorDiv_7cf53
abbrev aJ9_floorDiv_7cf53 (E : m_E) (l : Launch) (d : Nat) (z : Nat × Nat) (pc : Nat) (L : List (Nat × AV)) (st : List AV) (μ : Mm) (ρ : Option AV × Mm) : Prop := AA E l d z RJ9 "floorDiv" cJ9_floorDiv_7cf53 3 (some .int) pc L st μ ρ
theorem tJ9_floorDiv_7cf53_21 (E : m_E) (l : Launch) (z : Nat × Nat) (N : Nat) (l2 : Int) (μ : Mm) (t : Int × Mm) (h : jJ9_floorDiv_7cf53_21 N l2 μ = some t) : aJ9_floorDiv_7cf53 E l 1 z 21 [(2, vi l2)] [] μ (rI t) := by
  unfold jJ9_floorDiv_7cf53_21 at h
  refine a_iload_n 0 dJ9_floorDiv_7cf53_21 rfl rfl ?_
  exact a_reti dJ9_floorDiv_7cf53_22 h
theorem tJ9_floorDiv_7cf53 (E : m_E) (l : Launch) (N : Nat) (l0 l1 : Int) (μ : Mm) (t : Int × Mm) (h : jJ9_floorDiv_7cf53 N l0 l1 μ = some t) : TT E l 1 yJ9_floorDiv_7cf53 cJ9_floorDiv_7cf53 3 (some .int) [vi l0, vi l1] μ (rI t) := by
  refine tt_of (L := [(0, vi l0), (1, vi l1)]) (by decide +kernel) (Nat.le_of_ble_eq_true rfl) rfl ?_
  show aJ9_floorDiv_7cf53 E l 1 (m_sz μ, m_sl μ) 0 [(0, vi l0), (1, vi l1)] [] μ (rI t)
  unfold jJ9_floorDiv_7cf53 at h
  refine a_iload_n 0 dJ9_floorDiv_7cf53_0 rfl rfl ?_
  refine a_iload_n 1 dJ9_floorDiv_7cf53_1 rfl rfl ?_
  refine a_idiv dJ9_floorDiv_7cf53_2 h (fun h => ?_)
  refine a_nmi h (fun x1 h => ?_)
  refine a_istore_n (L' := [(2, vi x1), (0, vi l0), (1, vi l1)]) dJ9_floorDiv_7cf53_3 rfl (by decide) rfl ?_
  refine a_iload_n 1 dJ9_floorDiv_7cf53_4 rfl rfl ?_
  refine a_iload_n 2 dJ9_floorDiv_7cf53_5 rfl rfl ?_
  refine a_ixor dJ9_floorDiv_7cf53_6 ?_
  refine a_if_ge (tgt := 21) dJ9_floorDiv_7cf53_7 rfl h (fun h => ?_) (fun h => ?_)
  ·
    exact a_sub [0] rfl (tJ9_floorDiv_7cf53_21 E l _ N x1 μ t h)
  ·
    refine a_iload_n 0 dJ9_floorDiv_7cf53_10 rfl rfl ?_
    refine a_iload_n 2 dJ9_floorDiv_7cf53_11 rfl rfl ?_
    refine a_imul dJ9_floorDiv_7cf53_12 ?_
    refine a_iload_n 1 dJ9_floorDiv_7cf53_13 rfl rfl ?_
    refine a_icmp_eq (tgt := 21) dJ9_floorDiv_7cf53_14 rfl h (fun h => ?_) (fun h => ?_)
    ·
      exact a_sub [0] rfl (tJ9_floorDiv_7cf53_21 E l _ N x1 μ t h)
    ·
      refine a_iload_n 0 dJ9_floorDiv_7cf53_17 rfl rfl ?_
      refine a_iconst dJ9_floorDiv_7cf53_18 (okI_b _ rfl) ?_
      refine a_isub dJ9_floorDiv_7cf53_19 ?_
      exact a_reti dJ9_floorDiv_7cf53_20 h
-- X0_init
abbrev aX0_init (E : m_E) (l : Launch) (d : Nat) (z : Nat × Nat) (pc : Nat) (L : List (Nat × AV)) (st : List AV) (μ : Mm) (ρ : Option AV × Mm) : Prop := AA E l d z RX0 "<init>" cX0_init 1 none pc L st μ ρ
theorem tX0_init (E : m_E) (l : Launch) (N : Nat) (l0 : Int) (μ : Mm) (t : Mm) (hk : m_kd μ l0 = (0, 0)) (h : jX0_init N l0 μ = some t) : TT E l 2 yX0_init cX0_init 1 none [vr l0] μ (rV t) := by
  refine tt_of (L := [(0, vr l0)]) (by decide +kernel) (Nat.le_of_ble_eq_true rfl) rfl ?_
  show aX0_init E l 2 (m_sz μ, m_sl μ) 0 [(0, vr l0)] [] μ (rV t)
  unfold jX0_init at h
  refine a_aload_n 0 dX0_init_0 rfl rfl ?_
  refine a_objI dX0_init_1 mRX0_3 ob1 ob2 (by decide) hk (by decide) ?_
  refine a_aload_n 0 dX0_init_4 rfl rfl ?_
  refine a_sipush dX0_init_5 ⟨rfl, okI_b _ rfl⟩ ?_
  refine a_nai dX0_init_8 ac_int h (fun μ1 hm hq4 h => ?_)
  have hk := hm.k hk (by decide)
  refine a_putfr (c := 0) (i := 0) dX0_init_10 fRX0_9 g0_0 (Or.inr ⟨rfl, rfl, rfl⟩) rfl hk h (fun μ2 hm h => ?_)
  have hk := hm.k hk (by decide)
  refine a_aload_n 0 dX0_init_13 rfl rfl ?_
  refine a_iconst dX0_init_14 (okI_b _ rfl) ?_
  refine a_putfi (c := 0) (i := 1) dX0_init_15 fRX0_15 g0_1 (Or.inl rfl) rfl hk h (fun μ3 hm h => ?_)
  have hk := hm.k hk (by decide)
  refine a_aload_n 0 dX0_init_18 rfl rfl ?_
  refine a_bipush dX0_init_19 ⟨rfl, okI_b _ rfl⟩ ?_
  refine a_nai dX0_init_21 ac_int h (fun μ4 hm hq14 h => ?_)
  have hk := hm.k hk (by decide)
  refine a_putfr (c := 0) (i := 2) dX0_init_23 fRX0_19 g0_2 (Or.inr ⟨rfl, rfl, rfl⟩) rfl hk h (fun μ5 hm h => ?_)
  have hk := hm.k hk (by decide)
  refine a_aload_n 0 dX0_init_26 rfl rfl ?_
  refine a_bipush dX0_init_27 ⟨rfl, okI_b _ rfl⟩ ?_
  refine a_nai dX0_init_29 ac_int h (fun μ6 hm hq20 h => ?_)
  have hk := hm.k hk (by decide)
  refine a_putfr (c := 0) (i := 3) dX0_init_31 fRX0_22 g0_3 (Or.inr ⟨rfl, rfl, rfl⟩) rfl hk h (fun μ7 hm h => ?_)
  have hk := hm.k hk (by decide)
  refine a_aload_n 0 dX0_init_34 rfl rfl ?_
  refine a_iconst dX0_init_35 (okI_b _ rfl) ?_
  refine a_putfi (c := 0) (i := 4) dX0_init_36 fRX0_25 g0_4 (Or.inl rfl) rfl hk h (fun μ8 hm h => ?_)
  have hk := hm.k hk (by decide)
  exact a_ret0 dX0_init_39 h
-- X0_empty
abbrev aX0_empty (E : m_E) (l : Launch) (d : Nat) (z : Nat × Nat) (pc : Nat) (L : List (Nat × AV)) (st : List AV) (μ : Mm) (ρ : Option AV × Mm) : Prop := AA E l d z RX0 "empty" cX0_empty 1 none pc L st μ ρ
theorem tX0_empty (E : m_E) (l : Launch) (N : Nat) (l0 : Int) (μ : Mm) (t : Mm) (hk : m_kd μ l0 = (0, 0)) (h : jX0_empty N l0 μ = some t) : TT E l 1 yX0_empty cX0_empty 1 none [vr l0] μ (rV t) := by
  refine tt_of (L := [(0, vr l0)]) (by decide +kernel) (Nat.le_of_ble_eq_true rfl) rfl ?_
  show aX0_empty E l 1 (m_sz μ, m_sl μ) 0 [(0, vr l0)] [] μ (rV t)
  unfold jX0_empty at h
  refine a_aload_n 0 dX0_empty_0 rfl rfl ?_
  refine a_iconst dX0_empty_1 (okI_b _ rfl) ?_
  refine a_putfi (c := 0) (i := 1) dX0_empty_2 fRX0_15 g0_1 (Or.inl rfl) rfl hk h (fun μ1 hm h => ?_)
  have hk := hm.k hk (by decide)
  exact a_ret0 dX0_empty_5 h
-- X0_sizeNow
abbrev aX0_sizeNow (E : m_E) (l : Launch) (d : Nat) (z : Nat × Nat) (pc : Nat) (L : List (Nat × AV)) (st : List AV) (μ : Mm) (ρ : Option AV × Mm) : Prop := AA E l d z RX0 "sizeNow" cX0_sizeNow 1 (some .int) pc L st μ ρ
theorem tX0_sizeNow (E : m_E) (l : Launch) (N : Nat) (l0 : Int) (μ : Mm) (t : Int × Mm) (hk : m_kd μ l0 = (0, 0)) (h : jX0_sizeNow N l0 μ = some t) : TT E l 1 yX0_sizeNow cX0_sizeNow 1 (some .int) [vr l0] μ (rI t) := by
  refine tt_of (L := [(0, vr l0)]) (by decide +kernel) (Nat.le_of_ble_eq_true rfl) rfl ?_
  show aX0_sizeNow E l 1 (m_sz μ, m_sl μ) 0 [(0, vr l0)] [] μ (rI t)
  unfold jX0_sizeNow at h
  refine a_aload_n 0 dX0_sizeNow_0 rfl rfl ?_
  refine a_getfi (c := 0) (i := 1) dX0_sizeNow_1 fRX0_15 g0_1 rfl hk ?_
  exact a_reti dX0_sizeNow_4 h
-- X0_setFrame
abbrev aX0_setFrame (E : m_E) (l : Launch) (d : Nat) (z : Nat × Nat) (pc : Nat) (L : List (Nat × AV)) (st : List AV) (μ : Mm) (ρ : Option AV × Mm) : Prop := AA E l d z RX0 "setFrame" cX0_setFrame 5 none pc L st μ ρ
theorem tX0_setFrame (E : m_E) (l : Launch) (N : Nat) (l0 l1 l2 l3 l4 : Int) (μ : Mm) (t : Mm) (hk : m_kd μ l0 = (0, 0)) (h : jX0_setFrame N l0 l1 l2 l3 l4 μ = some t) : TT E l 1 yX0_setFrame cX0_setFrame 5 none [vr l0, vi l1, vi l2, vi l3, vi l4] μ (rV t) := by
  refine tt_of (L := [(0, vr l0), (1, vi l1), (2, vi l2), (3, vi l3), (4, vi l4)]) (by decide +kernel) (Nat.le_of_ble_eq_true rfl) rfl ?_
  show aX0_setFrame E l 1 (m_sz μ, m_sl μ) 0 [(0, vr l0), (1, vi l1), (2, vi l2), (3, vi l3), (4, vi l4)] [] μ (rV t)
  unfold jX0_setFrame at h
  refine a_aload_n 0 dX0_setFrame_0 rfl rfl ?_
  refine a_getfr (c := 0) (i := 2) dX0_setFrame_1 fRX0_19 g0_2 rfl hk ?_
  refine a_iconst dX0_setFrame_4 (okI_b _ rfl) ?_
  refine a_iload_n 1 dX0_setFrame_5 rfl rfl ?_
  refine a_iast dX0_setFrame_6 h (fun μ1 hm h => ?_)
  have hk := hm.k hk (by decide)
  refine a_aload_n 0 dX0_setFrame_7 rfl rfl ?_
  refine a_getfr (c := 0) (i := 2) dX0_setFrame_8 fRX0_19 g0_2 rfl hk ?_
  refine a_iconst dX0_setFrame_11 (okI_b _ rfl) ?_
  refine a_iload_n 2 dX0_setFrame_12 rfl rfl ?_
  refine a_iast dX0_setFrame_13 h (fun μ2 hm h => ?_)
  have hk := hm.k hk (by decide)
  refine a_aload_n 0 dX0_setFrame_14 rfl rfl ?_
  refine a_getfr (c := 0) (i := 2) dX0_setFrame_15 fRX0_19 g0_2 rfl hk ?_
  refine a_iconst dX0_setFrame_18 (okI_b _ rfl) ?_
  refine a_iload_n 3 dX0_setFrame_19 rfl rfl ?_
  refine a_iast dX0_setFrame_20 h (fun μ3 hm h => ?_)
  have hk := hm.k hk (by decide)
  refine a_aload_n 0 dX0_setFrame_21 rfl rfl ?_
  refine a_getfr (c := 0) (i := 2) dX0_setFrame_22 fRX0_19 g0_2 rfl hk ?_
  refine a_iconst dX0_setFrame_25 (okI_b _ rfl) ?_
  refine a_iload 4 dX0_setFrame_26 rfl ?_
  refine a_iast dX0_setFrame_28 h (fun μ4 hm h => ?_)
  have hk := hm.k hk (by decide)
  refine a_aload_n 0 dX0_setFrame_29 rfl rfl ?_
  refine a_getfr (c := 0) (i := 2) dX0_setFrame_30 fRX0_19 g0_2 rfl hk ?_
  refine a_iconst dX0_setFrame_33 (okI_b _ rfl) ?_
  refine a_iconst dX0_setFrame_34 (okI_b _ rfl) ?_
  refine a_iast dX0_setFrame_35 h (fun μ5 hm h => ?_)
  have hk := hm.k hk (by decide)
  refine a_aload_n 0 dX0_setFrame_36 rfl rfl ?_
  refine a_getfr (c := 0) (i := 2) dX0_setFrame_37 fRX0_19 g0_2 rfl hk ?_
  refine a_bipush dX0_setFrame_40 ⟨rfl, okI_b _ rfl⟩ ?_
  refine a_iconst dX0_setFrame_42 (okI_b _ rfl) ?_
  refine a_iast dX0_setFrame_43 h (fun μ6 hm h => ?_)
  have hk := hm.k hk (by decide)
  exact a_ret0 dX0_setFrame_44 h
-- X0_setPlayer
abbrev aX0_setPlayer (E : m_E) (l : Launch) (d : Nat) (z : Nat × Nat) (pc : Nat) (L : List (Nat × AV)) (st : List AV) (μ : Mm) (ρ : Option AV × Mm) : Prop := AA E l d z RX0 "setPlayer" cX0_setPlayer 3 none pc L st μ ρ
theorem tX0_setPlayer (E : m_E) (l : Launch) (N : Nat) (l0 l1 l2 : Int) (μ : Mm) (t : Mm) (hk : m_kd μ l0 = (0, 0)) (h : jX0_setPlayer N l0 l1 l2 μ = some t) : TT E l 2 yX0_setPlayer cX0_setPlayer 3 none [vr l0, vi l1, vi l2] μ (rV t) := by
  refine tt_of (L := [(0, vr l0), (1, vi l1), (2, vi l2)]) (by decide +kernel) (Nat.le_of_ble_eq_true rfl) rfl ?_
  show aX0_setPlayer E l 2 (m_sz μ, m_sl μ) 0 [(0, vr l0), (1, vi l1), (2, vi l2)] [] μ (rV t)
  unfold jX0_setPlayer at h
  refine a_aload_n 0 dX0_setPlayer_0 rfl rfl ?_
  refine a_iconst dX0_setPlayer_1 (okI_b _ rfl) ?_
  refine a_iconst dX0_setPlayer_2 (okI_b _ rfl) ?_
  refine a_iconst dX0_setPlayer_3 (okI_b _ rfl) ?_
  refine a_iconst dX0_setPlayer_4 (okI_b _ rfl) ?_
  refine a_cVv (c := 0) [vi 0, vi 0, vi 0, vi 0] [] dX0_setPlayer_5 myX0_setFrame mRX0_28 mvX0_setFrame rfl (by decide) hk (fun _ hj => tX0_setFrame E l N l0 0 0 0 0 μ _ hk hj) (by decide) rfl (Nat.le_of_ble_eq_true rfl) h (fun μ1 hm h => ?_)
  have hk := hm.k hk (by decide)
  refine a_aload_n 0 dX0_setPlayer_8 rfl rfl ?_
  refine a_getfr (c := 0) (i := 2) dX0_setPlayer_9 fRX0_19 g0_2 rfl hk ?_
  refine a_iconst dX0_setPlayer_12 (okI_b _ rfl) ?_
  refine a_iload_n 1 dX0_setPlayer_13 rfl rfl ?_
  refine a_iast dX0_setPlayer_14 h (fun μ2 hm h => ?_)
  have hk := hm.k hk (by decide)
  refine a_aload_n 0 dX0_setPlayer_15 rfl rfl ?_
  refine a_getfr (c := 0) (i := 2) dX0_setPlayer_16 fRX0_19 g0_2 rfl hk ?_
  refine a_bipush dX0_setPlayer_19 ⟨rfl, okI_b _ rfl⟩ ?_
  refine a_iload_n 2 dX0_setPlayer_21 rfl rfl ?_
  refine a_iast dX0_setPlayer_22 h (fun μ3 hm h => ?_)
  have hk := hm.k hk (by decide)
  exact a_ret0 dX0_setPlayer_23 h
-- X0_pop
abbrev aX0_pop (E : m_E) (l : Launch) (d : Nat) (z : Nat × Nat) (pc : Nat) (L : List (Nat × AV)) (st : List AV) (μ : Mm) (ρ : Option AV × Mm) : Prop := AA E l d z RX0 "pop" cX0_pop 1 (some .int) pc L st μ ρ
theorem tX0_pop_19 (E : m_E) (l : Launch) (z : Nat × Nat) (N : Nat) (l0 : Int) (μ : Mm) (t : Int × Mm) (hk : m_kd μ l0 = (0, 0)) (h : jX0_pop_19 N l0 μ = some t) : aX0_pop E l 1 z 19 [(0, vr l0)] [] μ (rI t) := by
  unfold jX0_pop_19 at h
  refine a_iconst dX0_pop_19 (okI_b _ rfl) ?_
  exact a_reti dX0_pop_20 h
theorem tX0_pop (E : m_E) (l : Launch) (N : Nat) (l0 : Int) (μ : Mm) (t : Int × Mm) (hk : m_kd μ l0 = (0, 0)) (h : jX0_pop N l0 μ = some t) : TT E l 1 yX0_pop cX0_pop 1 (some .int) [vr l0] μ (rI t) := by
  refine tt_of (L := [(0, vr l0)]) (by decide +kernel) (Nat.le_of_ble_eq_true rfl) rfl ?_
  show aX0_pop E l 1 (m_sz μ, m_sl μ) 0 [(0, vr l0)] [] μ (rI t)
  unfold jX0_pop at h
  refine a_aload_n 0 dX0_pop_0 rfl rfl ?_
  refine a_getfi (c := 0) (i := 4) dX0_pop_1 fRX0_25 g0_4 rfl hk ?_
  refine a_if_le (tgt := 19) dX0_pop_4 rfl h (fun h => ?_) (fun h => ?_)
  ·
    exact a_sub [0] rfl (tX0_pop_19 E l _ N l0 μ t hk h)
  ·
    refine a_aload_n 0 dX0_pop_7 rfl rfl ?_
    refine a_getfi (c := 0) (i := 4) dX0_pop_8 fRX0_25 g0_4 rfl hk ?_
    refine a_aload_n 0 dX0_pop_11 rfl rfl ?_
    refine a_getfr (c := 0) (i := 3) dX0_pop_12 fRX0_22 g0_3 rfl hk ?_
    refine a_alen dX0_pop_15 h (fun x1 h => ?_)
    refine a_icmp_le (tgt := 21) dX0_pop_16 rfl h (fun h => ?_) (fun h => ?_)
    ·
      refine a_aload_n 0 dX0_pop_21 rfl rfl ?_
      refine a_dup dX0_pop_22 rfl ?_
      refine a_getfi (c := 0) (i := 4) dX0_pop_23 fRX0_25 g0_4 rfl hk ?_
      refine a_iconst dX0_pop_26 (okI_b _ rfl) ?_
      refine a_isub dX0_pop_27 ?_
      refine a_putfi (c := 0) (i := 4) dX0_pop_28 fRX0_25 g0_4 (Or.inl rfl) rfl hk h (fun μ1 hm h => ?_)
      have hk := hm.k hk (by decide)
      refine a_aload_n 0 dX0_pop_31 rfl rfl ?_
      refine a_getfr (c := 0) (i := 3) dX0_pop_32 fRX0_22 g0_3 rfl hk ?_
      refine a_aload_n 0 dX0_pop_35 rfl rfl ?_
      refine a_getfi (c := 0) (i := 4) dX0_pop_36 fRX0_25 g0_4 rfl hk ?_
      refine a_iald dX0_pop_39 h (fun x2 h => ?_)
      exact a_reti dX0_pop_40 h
    ·
      exact a_sub [0] rfl (tX0_pop_19 E l _ N l0 μ t hk h)
-- X7_within
abbrev aX7_within (E : m_E) (l : Launch) (d : Nat) (z : Nat × Nat) (pc : Nat) (L : List (Nat × AV)) (st : List AV) (μ : Mm) (ρ : Option AV × Mm) : Prop := AA E l d z RX7 "within" cX7_within 3 (some .int) pc L st μ ρ
theorem tX7_within (E : m_E) (l : Launch) (N : Nat) (l0 l1 l2 : Int) (μ : Mm) (t : Int × Mm) (h : jX7_within N l0 l1 l2 μ = some t) : TT E l 2 yX7_within cX7_within 3 (some .int) [vi l0, vi l1, vi l2] μ (rI t) := by
  refine tt_of (L := [(0, vi l0), (1, vi l1), (2, vi l2)]) (by decide +kernel) (Nat.le_of_ble_eq_true rfl) rfl ?_
  show aX7_within E l 2 (m_sz μ, m_sl μ) 0 [(0, vi l0), (1, vi l1), (2, vi l2)] [] μ (rI t)
  unfold jX7_within at h
  refine a_iload_n 0 dX7_within_0 rfl rfl ?_
  refine a_iload_n 2 dX7_within_1 rfl rfl ?_
  refine a_iload_n 1 dX7_within_2 rfl rfl ?_
  refine a_mmin dX7_within_3 mRX7_260 (by decide) (Nat.le_of_ble_eq_true rfl) ?_
  refine a_mmax dX7_within_6 mRX7_265 (by decide) (Nat.le_of_ble_eq_true rfl) ?_
  exact a_reti dX7_within_9 h
-- X0_join
abbrev aX0_join (E : m_E) (l : Launch) (d : Nat) (z : Nat × Nat) (pc : Nat) (L : List (Nat × AV)) (st : List AV) (μ : Mm) (ρ : Option AV × Mm) : Prop := AA E l d z RX0 "join" cX0_join 3 (some .int) pc L st μ ρ
theorem tX0_join_155 (E : m_E) (l : Launch) (z : Nat × Nat) (N : Nat) (s0 : Int) (μ : Mm) (t : Int × Mm) (h : jX0_join_155 N s0 μ = some t) : aX0_join E l 3 z 155 [] [vi s0] μ (rI t) := by
  unfold jX0_join_155 at h
  exact a_reti dX0_join_155 h
theorem tX0_join_144 (E : m_E) (l : Launch) (z : Nat × Nat) (N : Nat) (s0 : Int) (μ : Mm) (t : Int × Mm) (h : jX0_join_144 N s0 μ = some t) : aX0_join E l 3 z 144 [] [vi s0] μ (rI t) := by
  unfold jX0_join_144 at h
  exact a_reti dX0_join_144 h
theorem tX0_join_133 (E : m_E) (l : Launch) (z : Nat × Nat) (N : Nat) (s0 : Int) (μ : Mm) (t : Int × Mm) (h : jX0_join_133 N s0 μ = some t) : aX0_join E l 3 z 133 [] [vi s0] μ (rI t) := by
  unfold jX0_join_133 at h
  exact a_reti dX0_join_133 h
theorem tX0_join_110 (E : m_E) (l : Launch) (z : Nat × Nat) (N : Nat) (s0 : Int) (μ : Mm) (t : Int × Mm) (h : jX0_join_110 N s0 μ = some t) : aX0_join E l 3 z 110 [] [vi s0] μ (rI t) := by
  unfold jX0_join_110 at h
  exact a_reti dX0_join_110 h
theorem tX0_join (E : m_E) (l : Launch) (N : Nat) (l0 l1 l2 : Int) (μ : Mm) (t : Int × Mm) (h : jX0_join N l0 l1 l2 μ = some t) : TT E l 3 yX0_join cX0_join 3 (some .int) [vi l0, vi l1, vi l2] μ (rI t) := by
  refine tt_of (L := [(0, vi l0), (1, vi l1), (2, vi l2)]) (by decide +kernel) (Nat.le_of_ble_eq_true rfl) rfl ?_
  show aX0_join E l 3 (m_sz μ, m_sl μ) 0 [(0, vi l0), (1, vi l1), (2, vi l2)] [] μ (rI t)
  unfold jX0_join at h
  refine a_iload_n 0 dX0_join_0 rfl rfl ?_
  refine a_cs h (fun hx h => ?_) (fun hx0 h => ?_)
  ·
    refine a_tsI (off := 155) (tgt := 156) dX0_join_1 (by omega) (by omega) (by rw [hx]; rfl) rfl ?_
    refine a_iload_n 1 dX0_join_156 rfl rfl ?_
    refine a_iload_n 2 dX0_join_157 rfl rfl ?_
    refine a_iand dX0_join_158 ?_
    exact a_reti dX0_join_159 h
  refine a_cs h (fun hx h => ?_) (fun hx1 h => ?_)
  ·
    refine a_tsI (off := 144) (tgt := 145) dX0_join_1 (by omega) (by omega) (by rw [hx]; rfl) rfl ?_
    refine a_iload_n 1 dX0_join_145 rfl rfl ?_
    refine a_iload_n 2 dX0_join_146 rfl rfl ?_
    refine a_icmp_ne (tgt := 154) dX0_join_147 rfl h (fun h => ?_) (fun h => ?_)
    ·
      refine a_iconst dX0_join_154 (okI_b _ rfl) ?_
      exact a_sub [] rfl (tX0_join_155 E l _ N 0 μ t h)
    ·
      refine a_iconst dX0_join_150 (okI_b _ rfl) ?_
      refine a_goto (tgt := 155) dX0_join_151 rfl ?_
      exact a_sub [] rfl (tX0_join_155 E l _ N 1 μ t h)
  refine a_cs h (fun hx h => ?_) (fun hx2 h => ?_)
  ·
    refine a_tsI (off := 133) (tgt := 134) dX0_join_1 (by omega) (by omega) (by rw [hx]; rfl) rfl ?_
    refine a_iload_n 1 dX0_join_134 rfl rfl ?_
    refine a_iload_n 2 dX0_join_135 rfl rfl ?_
    refine a_icmp_le (tgt := 143) dX0_join_136 rfl h (fun h => ?_) (fun h => ?_)
    ·
      refine a_iconst dX0_join_143 (okI_b _ rfl) ?_
      exact a_sub [] rfl (tX0_join_144 E l _ N 0 μ t h)
    ·
      refine a_iconst dX0_join_139 (okI_b _ rfl) ?_
      refine a_goto (tgt := 144) dX0_join_140 rfl ?_
      exact a_sub [] rfl (tX0_join_144 E l _ N 1 μ t h)
  refine a_cs h (fun hx h => ?_) (fun hx3 h => ?_)
  ·
    refine a_tsI (off := 122) (tgt := 123) dX0_join_1 (by omega) (by omega) (by rw [hx]; rfl) rfl ?_
    refine a_iload_n 1 dX0_join_123 rfl rfl ?_
    refine a_iload_n 2 dX0_join_124 rfl rfl ?_
    refine a_icmp_ge (tgt := 132) dX0_join_125 rfl h (fun h => ?_) (fun h => ?_)
    ·
      refine a_iconst dX0_join_132 (okI_b _ rfl) ?_
      exact a_sub [] rfl (tX0_join_133 E l _ N 0 μ t h)
    ·
      refine a_iconst dX0_join_128 (okI_b _ rfl) ?_
      refine a_goto (tgt := 133) dX0_join_129 rfl ?_
      exact a_sub [] rfl (tX0_join_133 E l _ N 1 μ t h)
  refine a_cs h (fun hx h => ?_) (fun hx4 h => ?_)
  ·
    refine a_tsI (off := 116) (tgt := 117) dX0_join_1 (by omega) (by omega) (by rw [hx]; rfl) rfl ?_
    refine a_iload_n 1 dX0_join_117 rfl rfl ?_
    refine a_iload_n 2 dX0_join_118 rfl rfl ?_
    refine a_mmax dX0_join_119 mRX0_32 (by decide) (Nat.le_of_ble_eq_true rfl) ?_
    exact a_reti dX0_join_122 h
  refine a_cs h (fun hx h => ?_) (fun hx5 h => ?_)
  ·
    refine a_tsI (off := 110) (tgt := 111) dX0_join_1 (by omega) (by omega) (by rw [hx]; rfl) rfl ?_
    refine a_iload_n 1 dX0_join_111 rfl rfl ?_
    refine a_iload_n 2 dX0_join_112 rfl rfl ?_
    refine a_mmin dX0_join_113 mRX0_71 (by decide) (Nat.le_of_ble_eq_true rfl) ?_
    exact a_reti dX0_join_116 h
  refine a_cs h (fun hx h => ?_) (fun hx6 h => ?_)
  ·
    refine a_tsI (off := 96) (tgt := 97) dX0_join_1 (by omega) (by omega) (by rw [hx]; rfl) rfl ?_
    refine a_iload_n 2 dX0_join_97 rfl rfl ?_
    refine a_if_ne (tgt := 105) dX0_join_98 rfl h (fun h => ?_) (fun h => ?_)
    ·
      refine a_iload_n 1 dX0_join_105 rfl rfl ?_
      refine a_iload_n 2 dX0_join_106 rfl rfl ?_
      refine a_cSi [vi l1, vi l2] [] dX0_join_107 myJ9_floorDiv_7cf53 mRX0_68 msJ9_floorDiv_7cf53 (fun _ hj => tJ9_floorDiv_7cf53 E l N l1 l2 μ _  hj) (by decide) rfl (Nat.le_of_ble_eq_true rfl) h (fun x1 μ1 hm h => ?_)
      exact a_sub [] rfl (tX0_join_110 E l _ N x1 μ1 t h)
    ·
      refine a_iconst dX0_join_101 (okI_b _ rfl) ?_
      refine a_goto (tgt := 110) dX0_join_102 rfl ?_
      exact a_sub [] rfl (tX0_join_110 E l _ N 0 μ t h)
  refine a_cs h (fun hx h => ?_) (fun hx7 h => ?_)
  ·
    refine a_tsI (off := 77) (tgt := 78) dX0_join_1 (by omega) (by omega) (by rw [hx]; rfl) rfl ?_
    refine a_ldc2 (x := (-1000000)) dX0_join_78 kRX0_58 ⟨rfl, okJ_b _ rfl⟩ ?_
    refine a_ldc2 (x := 1000000) dX0_join_81 kRX0_60 ⟨rfl, okJ_b _ rfl⟩ ?_
    refine a_iload_n 1 dX0_join_84 rfl rfl ?_
    refine a_i2l dX0_join_85 ?_
    refine a_iload_n 2 dX0_join_86 rfl rfl ?_
    refine a_i2l dX0_join_87 ?_
    refine a_lmul dX0_join_88 ?_
    refine a_mminl dX0_join_89 mRX0_62 (by decide) (Nat.le_of_ble_eq_true rfl) ?_
    refine a_mmaxl dX0_join_92 mRX0_66 (by decide) (Nat.le_of_ble_eq_true rfl) ?_
    refine a_l2i dX0_join_95 ?_
    exact a_reti dX0_join_96 h
  refine a_cs h (fun hx h => ?_) (fun hx8 h => ?_)
  ·
    refine a_tsI (off := 66) (tgt := 67) dX0_join_1 (by omega) (by omega) (by rw [hx]; rfl) rfl ?_
    refine a_ldc (x := (-1000000)) dX0_join_67 kRX0_53 ⟨rfl, okI_b _ rfl⟩ ?_
    refine a_iload_n 1 dX0_join_69 rfl rfl ?_
    refine a_iload_n 2 dX0_join_70 rfl rfl ?_
    refine a_isub dX0_join_71 ?_
    refine a_ldc (x := 1000000) dX0_join_72 kRX0_54 ⟨rfl, okI_b _ rfl⟩ ?_
    refine a_cSNi (host := "NinepinAlley") [vi (-1000000), vi (i_sub l1 l2), vi 1000000] [] dX0_join_74 myX7_within (by decide) msX7_within (fun _ hj => tX7_within E l N (-1000000) (i_sub l1 l2) 1000000 μ _  hj) (by decide) rfl (Nat.le_of_ble_eq_true rfl) h (fun x2 μ2 hm h => ?_)
    exact a_reti dX0_join_77 h
  refine a_cs h (fun hx h => ?_) (fun hx9 h => ?_)
  ·
    refine a_tsI (off := 55) (tgt := 56) dX0_join_1 (by omega) (by omega) (by rw [hx]; rfl) rfl ?_
    refine a_ldc (x := (-1000000)) dX0_join_56 kRX0_53 ⟨rfl, okI_b _ rfl⟩ ?_
    refine a_iload_n 1 dX0_join_58 rfl rfl ?_
    refine a_iload_n 2 dX0_join_59 rfl rfl ?_
    refine a_iadd dX0_join_60 ?_
    refine a_ldc (x := 1000000) dX0_join_61 kRX0_54 ⟨rfl, okI_b _ rfl⟩ ?_
    refine a_cSNi (host := "NinepinAlley") [vi (-1000000), vi (i_add l1 l2), vi 1000000] [] dX0_join_63 myX7_within (by decide) msX7_within (fun _ hj => tX7_within E l N (-1000000) (i_add l1 l2) 1000000 μ _  hj) (by decide) rfl (Nat.le_of_ble_eq_true rfl) h (fun x3 μ3 hm h => ?_)
    exact a_reti dX0_join_66 h
  refine a_tsO (tgt := 160) dX0_join_1 (by omega) rfl ?_
  refine a_iload_n 1 dX0_join_160 rfl rfl ?_
  refine a_iload_n 2 dX0_join_161 rfl rfl ?_
  refine a_ior dX0_join_162 ?_
  exact a_reti dX0_join_163 h
-- X0_push
abbrev aX0_push (E : m_E) (l : Launch) (d : Nat) (z : Nat × Nat) (pc : Nat) (L : List (Nat × AV)) (st : List AV) (μ : Mm) (ρ : Option AV × Mm) : Prop := AA E l d z RX0 "push" cX0_push 2 none pc L st μ ρ
theorem tX0_push_32 (E : m_E) (l : Launch) (z : Nat × Nat) (N : Nat) (l0 : Int) (μ : Mm) (t : Mm) (hk : m_kd μ l0 = (0, 0)) (h : jX0_push_32 N l0 μ = some t) : aX0_push E l 1 z 32 [(0, vr l0)] [] μ (rV t) := by
  unfold jX0_push_32 at h
  exact a_ret0 dX0_push_32 h
theorem tX0_push (E : m_E) (l : Launch) (N : Nat) (l0 l1 : Int) (μ : Mm) (t : Mm) (hk : m_kd μ l0 = (0, 0)) (h : jX0_push N l0 l1 μ = some t) : TT E l 1 yX0_push cX0_push 2 none [vr l0, vi l1] μ (rV t) := by
  refine tt_of (L := [(0, vr l0), (1, vi l1)]) (by decide +kernel) (Nat.le_of_ble_eq_true rfl) rfl ?_
  show aX0_push E l 1 (m_sz μ, m_sl μ) 0 [(0, vr l0), (1, vi l1)] [] μ (rV t)
  unfold jX0_push at h
  refine a_aload_n 0 dX0_push_0 rfl rfl ?_
  refine a_getfi (c := 0) (i := 4) dX0_push_1 fRX0_25 g0_4 rfl hk ?_
  refine a_aload_n 0 dX0_push_4 rfl rfl ?_
  refine a_getfr (c := 0) (i := 3) dX0_push_5 fRX0_22 g0_3 rfl hk ?_
  refine a_alen dX0_push_8 h (fun x1 h => ?_)
  refine a_icmp_ge (tgt := 32) dX0_push_9 rfl h (fun h => ?_) (fun h => ?_)
  ·
    exact a_sub [0] rfl (tX0_push_32 E l _ N l0 μ t hk h)
  ·
    refine a_aload_n 0 dX0_push_12 rfl rfl ?_
    refine a_getfr (c := 0) (i := 3) dX0_push_13 fRX0_22 g0_3 rfl hk ?_
    refine a_aload_n 0 dX0_push_16 rfl rfl ?_
    refine a_getfi (c := 0) (i := 4) dX0_push_17 fRX0_25 g0_4 rfl hk ?_
    refine a_iload_n 1 dX0_push_20 rfl rfl ?_
    refine a_iast dX0_push_21 h (fun μ1 hm h => ?_)
    have hk := hm.k hk (by decide)
    refine a_aload_n 0 dX0_push_22 rfl rfl ?_
    refine a_dup dX0_push_23 rfl ?_
    refine a_getfi (c := 0) (i := 4) dX0_push_24 fRX0_25 g0_4 rfl hk ?_
    refine a_iconst dX0_push_27 (okI_b _ rfl) ?_
    refine a_iadd dX0_push_28 ?_
    refine a_putfi (c := 0) (i := 4) dX0_push_29 fRX0_25 g0_4 (Or.inl rfl) rfl hk h (fun μ2 hm h => ?_)
    have hk := hm.k hk (by decide)
    exact a_sub [0] rfl (tX0_push_32 E l _ N l0 μ2 t hk h)
-- X0_step
abbrev aX0_step (E : m_E) (l : Launch) (d : Nat) (z : Nat × Nat) (pc : Nat) (L : List (Nat × AV)) (st : List AV) (μ : Mm) (ρ : Option AV × Mm) : Prop := AA E l d z RX0 "step" cX0_step 4 none pc L st μ ρ
theorem tX0_step_71 (E : m_E) (l : Launch) (z : Nat × Nat) (N : Nat) (l0 : Int) (μ : Mm) (t : Mm) (hk : m_kd μ l0 = (0, 0)) (h : jX0_step_71 N l0 μ = some t) : aX0_step E l 4 z 71 [(0, vr l0)] [] μ (rV t) := by
  unfold jX0_step_71 at h
  exact a_ret0 dX0_step_71 h
theorem tX0_step (E : m_E) (l : Launch) (N : Nat) (l0 l1 : Int) (μ : Mm) (t : Mm) (hk : m_kd μ l0 = (0, 0)) (h : jX0_step N l0 l1 μ = some t) : TT E l 4 yX0_step cX0_step 4 none [vr l0, vi l1] μ (rV t) := by
  refine tt_of (L := [(0, vr l0), (1, vi l1)]) (by decide +kernel) (Nat.le_of_ble_eq_true rfl) rfl ?_
  show aX0_step E l 4 (m_sz μ, m_sl μ) 0 [(0, vr l0), (1, vi l1)] [] μ (rV t)
  unfold jX0_step at h
  refine a_iload_n 1 dX0_step_0 rfl rfl ?_
  refine a_if_lt (tgt := 12) dX0_step_1 rfl h (fun h => ?_) (fun h => ?_)
  ·
    refine a_iload_n 1 dX0_step_12 rfl rfl ?_
    refine a_bipush dX0_step_13 ⟨rfl, okI_b _ rfl⟩ ?_
    refine a_icmp_lt (tgt := 32) dX0_step_15 rfl h (fun h => ?_) (fun h => ?_)
    ·
      refine a_iload_n 1 dX0_step_32 rfl rfl ?_
      refine a_bipush dX0_step_33 ⟨rfl, okI_b _ rfl⟩ ?_
      refine a_icmp_ne (tgt := 51) dX0_step_35 rfl h (fun h => ?_) (fun h => ?_)
      ·
        refine a_aload_n 0 dX0_step_51 rfl rfl ?_
        refine a_cVi (c := 0) [] [] dX0_step_52 myX0_pop mRX0_42 mvX0_pop rfl (by decide) hk (fun _ hj => tX0_pop E l N l0 μ _ hk hj) (by decide) rfl (Nat.le_of_ble_eq_true rfl) h (fun x1 μ1 hm h => ?_)
        have hk := hm.k hk (by decide)
        refine a_istore_n (L' := [(2, vi x1), (0, vr l0), (1, vi l1)]) dX0_step_55 rfl (by decide) rfl ?_
        refine a_aload_n 1 dX0_step_56 rfl rfl ?_
        refine a_cVi (c := 0) [] [] dX0_step_57 myX0_pop mRX0_42 mvX0_pop rfl (by decide) hk (fun _ hj => tX0_pop E l N l0 μ1 _ hk hj) (by decide) rfl (Nat.le_of_ble_eq_true rfl) h (fun x2 μ2 hm h => ?_)
        have hk := hm.k hk (by decide)
        refine a_istore_n (L' := [(3, vi x2), (2, vi x1), (0, vr l0), (1, vi l1)]) dX0_step_60 rfl (by decide) rfl ?_
        refine a_aload_n 2 dX0_step_61 rfl rfl ?_
        refine a_iload_n 3 dX0_step_62 rfl rfl ?_
        refine a_iload_n 0 dX0_step_63 rfl rfl ?_
        refine a_iload_n 1 dX0_step_64 rfl rfl ?_
        refine a_cSi [vi l1, vi x2, vi x1] [vr l0] dX0_step_65 myX0_join mRX0_49 msX0_join (fun _ hj => tX0_join E l N l1 x2 x1 μ2 _  hj) (by decide) rfl (Nat.le_of_ble_eq_true rfl) h (fun x3 μ3 hm h => ?_)
        have hk := hm.k hk (by decide)
        refine a_cVv (c := 0) [vi x3] [] dX0_step_68 myX0_push mRX0_46 mvX0_push rfl (by decide) hk (fun _ hj => tX0_push E l N l0 x3 μ3 _ hk hj) (by decide) rfl (Nat.le_of_ble_eq_true rfl) h (fun μ4 hm h => ?_)
        have hk := hm.k hk (by decide)
        exact a_sub [2] rfl (tX0_step_71 E l _ N l0 μ4 t hk h)
      ·
        refine a_aload_n 0 dX0_step_38 rfl rfl ?_
        refine a_iconst dX0_step_39 (okI_b _ rfl) ?_
        refine a_aload_n 0 dX0_step_40 rfl rfl ?_
        refine a_cVi (c := 0) [] [vi 1, vr l0] dX0_step_41 myX0_pop mRX0_42 mvX0_pop rfl (by decide) hk (fun _ hj => tX0_pop E l N l0 μ _ hk hj) (by decide) rfl (Nat.le_of_ble_eq_true rfl) h (fun x4 μ5 hm h => ?_)
        have hk := hm.k hk (by decide)
        refine a_isub dX0_step_44 ?_
        refine a_cVv (c := 0) [vi (i_sub 1 x4)] [] dX0_step_45 myX0_push mRX0_46 mvX0_push rfl (by decide) hk (fun _ hj => tX0_push E l N l0 (i_sub 1 x4) μ5 _ hk hj) (by decide) rfl (Nat.le_of_ble_eq_true rfl) h (fun μ6 hm h => ?_)
        have hk := hm.k hk (by decide)
        refine a_goto (tgt := 71) dX0_step_48 rfl ?_
        exact a_sub [0] rfl (tX0_step_71 E l _ N l0 μ6 t hk h)
    ·
      refine a_aload_n 0 dX0_step_18 rfl rfl ?_
      refine a_aload_n 0 dX0_step_19 rfl rfl ?_
      refine a_getfr (c := 0) (i := 2) dX0_step_20 fRX0_19 g0_2 rfl hk ?_
      refine a_iload_n 1 dX0_step_23 rfl rfl ?_
      refine a_ineg dX0_step_24 ?_
      refine a_iald dX0_step_25 h (fun x5 h => ?_)
      refine a_cVv (c := 0) [vi x5] [] dX0_step_26 myX0_push mRX0_46 mvX0_push rfl (by decide) hk (fun _ hj => tX0_push E l N l0 x5 μ _ hk hj) (by decide) rfl (Nat.le_of_ble_eq_true rfl) h (fun μ7 hm h => ?_)
      have hk := hm.k hk (by decide)
      refine a_goto (tgt := 71) dX0_step_29 rfl ?_
      exact a_sub [0] rfl (tX0_step_71 E l _ N l0 μ7 t hk h)
  ·
    refine a_aload_n 0 dX0_step_4 rfl rfl ?_
    refine a_iload_n 1 dX0_step_5 rfl rfl ?_
    refine a_cVv (c := 0) [vi l1] [] dX0_step_6 myX0_push mRX0_46 mvX0_push rfl (by decide) hk (fun _ hj => tX0_push E l N l0 l1 μ _ hk hj) (by decide) rfl (Nat.le_of_ble_eq_true rfl) h (fun μ8 hm h => ?_)
    have hk := hm.k hk (by decide)
    refine a_goto (tgt := 71) dX0_step_9 rfl ?_
    exact a_sub [0] rfl (tX0_step_71 E l _ N l0 μ8 t hk h)
-- X0_reckon
abbrev aX0_reckon (E : m_E) (l : Launch) (d : Nat) (z : Nat × Nat) (pc : Nat) (L : List (Nat × AV)) (st : List AV) (μ : Mm) (ρ : Option AV × Mm) : Prop := AA E l d z RX0 "reckon" cX0_reckon 4 (some .int) pc L st μ ρ
theorem tX0_reckon_40 (E : m_E) (l : Launch) (z : Nat × Nat) (N : Nat) (l0 : Int) (μ : Mm) (t : Int × Mm) (hk : m_kd μ l0 = (0, 0)) (h : jX0_reckon_40 N l0 μ = some t) : aX0_reckon E l 5 z 40 [(0, vr l0)] [] μ (rI t) := by
  unfold jX0_reckon_40 at h
  refine a_aload_n 0 dX0_reckon_40 rfl rfl ?_
  refine a_cVi (c := 0) [] [] dX0_reckon_41 myX0_pop mRX0_42 mvX0_pop rfl (by decide) hk (fun _ hj => tX0_pop E l N l0 μ _ hk hj) (by decide) rfl (Nat.le_of_ble_eq_true rfl) h (fun x1 μ1 hm h => ?_)
  have hk := hm.k hk (by decide)
  exact a_reti dX0_reckon_44 h
theorem tX0_reckon_11b (E : m_E) (l : Launch) (z : Nat × Nat) (k11 : Int → Int → Int → Mm → Option (Int × Mm)) (p11 : ∀ (l0 l2 l3 : Int) (μ : Mm) (t : Int × Mm), m_kd μ l0 = (0, 0) → k11 l0 l2 l3 μ = some t → aX0_reckon E l 5 z 11 [(0, vr l0), (2, vi l2), (3, vi l3)] [] μ (rI t)) (N : Nat) (l0 l2 l3 : Int) (μ : Mm) (t : Int × Mm) (hk : m_kd μ l0 = (0, 0)) (h : jX0_reckon_11b k11 N l0 l2 l3 μ = some t) : aX0_reckon E l 5 z 11 [(0, vr l0), (2, vi l2), (3, vi l3)] [] μ (rI t) := by
  unfold jX0_reckon_11b at h
  refine a_iload_n 2 dX0_reckon_11 rfl rfl ?_
  refine a_iload_n 1 dX0_reckon_12 rfl rfl ?_
  refine a_icmp_ge (tgt := 40) dX0_reckon_13 rfl h (fun h => ?_) (fun h => ?_)
  ·
    exact a_sub [0] rfl (tX0_reckon_40 E l _ N l0 μ t hk h)
  ·
    refine a_iload_n 2 dX0_reckon_16 rfl rfl ?_
    refine a_aload_n 0 dX0_reckon_17 rfl rfl ?_
    refine a_getfi (c := 0) (i := 1) dX0_reckon_18 fRX0_15 g0_1 rfl hk ?_
    refine a_icmp_ge (tgt := 40) dX0_reckon_21 rfl h (fun h => ?_) (fun h => ?_)
    ·
      exact a_sub [0] rfl (tX0_reckon_40 E l _ N l0 μ t hk h)
    ·
      refine a_aload_n 0 dX0_reckon_24 rfl rfl ?_
      refine a_aload_n 0 dX0_reckon_25 rfl rfl ?_
      refine a_getfr (c := 0) (i := 0) dX0_reckon_26 fRX0_9 g0_0 rfl hk ?_
      refine a_iload_n 2 dX0_reckon_29 rfl rfl ?_
      refine a_iald dX0_reckon_30 h (fun x1 h => ?_)
      refine a_cVv (c := 0) [vi x1] [] dX0_reckon_31 myX0_step mRX0_38 mvX0_step rfl (by decide) hk (fun _ hj => tX0_step E l N l0 x1 μ _ hk hj) (by decide) rfl (Nat.le_of_ble_eq_true rfl) h (fun μ1 hm h => ?_)
      have hk := hm.k hk (by decide)
      refine a_iinc (F := fun x2 => [(3, vi x2), (0, vr l0), (2, vi l2)]) 2 dX0_reckon_34 rfl (by decide) h (fun _ => rfl) (fun x2 h => ?_)
      refine a_goto (tgt := 11) dX0_reckon_37 rfl ?_
      exact a_sub [1, 2, 0] rfl (p11 l0 l2 x2 μ1 t hk h)
theorem tX0_reckon_11 (E : m_E) (l : Launch) (z : Nat × Nat) (N : Nat) : ∀ (n : Nat) (l0 l2 l3 : Int) (μ : Mm) (t : Int × Mm), m_kd μ l0 = (0, 0) → jX0_reckon_11 N n l0 l2 l3 μ = some t → aX0_reckon E l 5 z 11 [(0, vr l0), (2, vi l2), (3, vi l3)] [] μ (rI t)
  | 0, _, _, _, _, _, _, h => by cases h
  | n + 1, l0, l2, l3, μ, t, hk, h => tX0_reckon_11b E l z (jX0_reckon_11 N n) (tX0_reckon_11 E l z N n) N l0 l2 l3 μ t hk h
theorem tX0_reckon (E : m_E) (l : Launch) (N : Nat) (l0 l1 l2 : Int) (μ : Mm) (t : Int × Mm) (hk : m_kd μ l0 = (0, 0)) (h : jX0_reckon N l0 l1 l2 μ = some t) : TT E l 5 yX0_reckon cX0_reckon 4 (some .int) [vr l0, vi l1, vi l2] μ (rI t) := by
  refine tt_of (L := [(0, vr l0), (1, vi l1), (2, vi l2)]) (by decide +kernel) (Nat.le_of_ble_eq_true rfl) rfl ?_
  show aX0_reckon E l 5 (m_sz μ, m_sl μ) 0 [(0, vr l0), (1, vi l1), (2, vi l2)] [] μ (rI t)
  unfold jX0_reckon at h
  refine a_aload_n 0 dX0_reckon_0 rfl rfl ?_
  refine a_iconst dX0_reckon_1 (okI_b _ rfl) ?_
  refine a_putfi (c := 0) (i := 4) dX0_reckon_2 fRX0_25 g0_4 (Or.inl rfl) rfl hk h (fun μ1 hm h => ?_)
  have hk := hm.k hk (by decide)
  refine a_iload_n 1 dX0_reckon_5 rfl rfl ?_
  refine a_iconst dX0_reckon_6 (okI_b _ rfl) ?_
  refine a_mmax dX0_reckon_7 mRX0_32 (by decide) (Nat.le_of_ble_eq_true rfl) ?_
  refine a_nmi h (fun x1 h => ?_)
  refine a_istore_n (L' := [(3, vi x1), (0, vr l0), (1, vi l1), (2, vi l2)]) dX0_reckon_10 rfl (by decide) rfl ?_
  exact a_sub [1, 3, 0] rfl (tX0_reckon_11 E l _ N N l0 l2 x1 μ1 t hk h)
-- X1_empty
abbrev aX1_empty (E : m_E) (l : Launch) (d : Nat) (z : Nat × Nat) (pc : Nat) (L : List (Nat × AV)) (st : List AV) (μ : Mm) (ρ : Option AV × Mm) : Prop := AA E l d z RX1 "empty" cX1_empty 2 none pc L st μ ρ
theorem tX1_empty_75b (E : m_E) (l : Launch) (z : Nat × Nat) (k75 : Int → Int → Mm → Option (Mm)) (p75 : ∀ (l0 l1 : Int) (μ : Mm) (t : Mm), m_kd μ l0 = (1, 0) → k75 l0 l1 μ = some t → aX1_empty E l 2 z 75 [(0, vr l0), (1, vi l1)] [] μ (rV t)) (N : Nat) (l0 l1 : Int) (μ : Mm) (t : Mm) (hk : m_kd μ l0 = (1, 0)) (h : jX1_empty_75b k75 N l0 l1 μ = some t) : aX1_empty E l 2 z 75 [(0, vr l0), (1, vi l1)] [] μ (rV t) := by
  unfold jX1_empty_75b at h
  refine a_iload_n 1 dX1_empty_75 rfl rfl ?_
  refine a_aload_n 0 dX1_empty_76 rfl rfl ?_
  refine a_getfr (c := 1) (i := 8) dX1_empty_77 fRX1_22 g1_8 rfl hk ?_
  refine a_alen dX1_empty_80 h (fun x1 h => ?_)
  refine a_icmp_ge (tgt := 97) dX1_empty_81 rfl h (fun h => ?_) (fun h => ?_)
  ·
    exact a_ret0 dX1_empty_97 h
  ·
    refine a_aload_n 0 dX1_empty_84 rfl rfl ?_
    refine a_getfr (c := 1) (i := 8) dX1_empty_85 fRX1_22 g1_8 rfl hk ?_
    refine a_iload_n 1 dX1_empty_88 rfl rfl ?_
    refine a_iconst dX1_empty_89 (okI_b _ rfl) ?_
    refine a_iast dX1_empty_90 h (fun μ1 hm h => ?_)
    have hk := hm.k hk (by decide)
    refine a_iinc (F := fun x2 => [(1, vi x2), (0, vr l0)]) 1 dX1_empty_91 rfl (by decide) h (fun _ => rfl) (fun x2 h => ?_)
    refine a_goto (tgt := 75) dX1_empty_94 rfl ?_
    exact a_sub [1, 0] rfl (p75 l0 x2 μ1 t hk h)
theorem tX1_empty_75 (E : m_E) (l : Launch) (z : Nat × Nat) (N : Nat) : ∀ (n : Nat) (l0 l1 : Int) (μ : Mm) (t : Mm), m_kd μ l0 = (1, 0) → jX1_empty_75 N n l0 l1 μ = some t → aX1_empty E l 2 z 75 [(0, vr l0), (1, vi l1)] [] μ (rV t)
  | 0, _, _, _, _, _, h => by cases h
  | n + 1, l0, l1, μ, t, hk, h => tX1_empty_75b E l z (jX1_empty_75 N n) (tX1_empty_75 E l z N n) N l0 l1 μ t hk h
theorem tX1_empty_51b (E : m_E) (l : Launch) (z : Nat × Nat) (k51 : Int → Int → Mm → Option (Mm)) (p51 : ∀ (l0 l1 : Int) (μ : Mm) (t : Mm), m_kd μ l0 = (1, 0) → k51 l0 l1 μ = some t → aX1_empty E l 2 z 51 [(0, vr l0), (1, vi l1)] [] μ (rV t)) (N : Nat) (l0 l1 : Int) (μ : Mm) (t : Mm) (hk : m_kd μ l0 = (1, 0)) (h : jX1_empty_51b k51 N l0 l1 μ = some t) : aX1_empty E l 2 z 51 [(0, vr l0), (1, vi l1)] [] μ (rV t) := by
  unfold jX1_empty_51b at h
  refine a_iload_n 1 dX1_empty_51 rfl rfl ?_
  refine a_aload_n 0 dX1_empty_52 rfl rfl ?_
  refine a_getfr (c := 1) (i := 7) dX1_empty_53 fRX1_18 g1_7 rfl hk ?_
  refine a_alen dX1_empty_56 h (fun x1 h => ?_)
  refine a_icmp_ge (tgt := 73) dX1_empty_57 rfl h (fun h => ?_) (fun h => ?_)
  ·
    refine a_iconst dX1_empty_73 (okI_b _ rfl) ?_
    refine a_istore_n (L' := [(1, vi 0), (0, vr l0)]) dX1_empty_74 rfl (by decide) rfl ?_
    exact a_sub [1, 0] rfl (tX1_empty_75 E l _ N N l0 0 μ t hk h)
  ·
    refine a_aload_n 0 dX1_empty_60 rfl rfl ?_
    refine a_getfr (c := 1) (i := 7) dX1_empty_61 fRX1_18 g1_7 rfl hk ?_
    refine a_iload_n 1 dX1_empty_64 rfl rfl ?_
    refine a_iconst dX1_empty_65 (okI_b _ rfl) ?_
    refine a_iast dX1_empty_66 h (fun μ1 hm h => ?_)
    have hk := hm.k hk (by decide)
    refine a_iinc (F := fun x2 => [(1, vi x2), (0, vr l0)]) 1 dX1_empty_67 rfl (by decide) h (fun _ => rfl) (fun x2 h => ?_)
    refine a_goto (tgt := 51) dX1_empty_70 rfl ?_
    exact a_sub [1, 0] rfl (p51 l0 x2 μ1 t hk h)
theorem tX1_empty_51 (E : m_E) (l : Launch) (z : Nat × Nat) (N : Nat) : ∀ (n : Nat) (l0 l1 : Int) (μ : Mm) (t : Mm), m_kd μ l0 = (1, 0) → jX1_empty_51 N n l0 l1 μ = some t → aX1_empty E l 2 z 51 [(0, vr l0), (1, vi l1)] [] μ (rV t)
  | 0, _, _, _, _, _, h => by cases h
  | n + 1, l0, l1, μ, t, hk, h => tX1_empty_51b E l z (jX1_empty_51 N n) (tX1_empty_51 E l z N n) N l0 l1 μ t hk h
theorem tX1_empty (E : m_E) (l : Launch) (N : Nat) (l0 : Int) (μ : Mm) (t : Mm) (hk : m_kd μ l0 = (1, 0)) (h : jX1_empty N l0 μ = some t) : TT E l 2 yX1_empty cX1_empty 2 none [vr l0] μ (rV t) := by
  refine tt_of (L := [(0, vr l0)]) (by decide +kernel) (Nat.le_of_ble_eq_true rfl) rfl ?_
  show aX1_empty E l 2 (m_sz μ, m_sl μ) 0 [(0, vr l0)] [] μ (rV t)
  unfold jX1_empty at h
  refine a_aload_n 0 dX1_empty_0 rfl rfl ?_
  refine a_iconst dX1_empty_1 (okI_b _ rfl) ?_
  refine a_putfi (c := 1) (i := 0) dX1_empty_2 fRX1_40 g1_0 (Or.inl rfl) rfl hk h (fun μ1 hm h => ?_)
  have hk := hm.k hk (by decide)
  refine a_aload_n 0 dX1_empty_5 rfl rfl ?_
  refine a_bipush dX1_empty_6 ⟨rfl, okI_b _ rfl⟩ ?_
  refine a_putfi (c := 1) (i := 1) dX1_empty_8 fRX1_44 g1_1 (Or.inl rfl) rfl hk h (fun μ2 hm h => ?_)
  have hk := hm.k hk (by decide)
  refine a_aload_n 0 dX1_empty_11 rfl rfl ?_
  refine a_bipush dX1_empty_12 ⟨rfl, okI_b _ rfl⟩ ?_
  refine a_putfi (c := 1) (i := 2) dX1_empty_14 fRX1_47 g1_2 (Or.inl rfl) rfl hk h (fun μ3 hm h => ?_)
  have hk := hm.k hk (by decide)
  refine a_aload_n 0 dX1_empty_17 rfl rfl ?_
  refine a_iconst dX1_empty_18 (okI_b _ rfl) ?_
  refine a_putfi (c := 1) (i := 3) dX1_empty_19 fRX1_50 g1_3 (Or.inl rfl) rfl hk h (fun μ4 hm h => ?_)
  have hk := hm.k hk (by decide)
  refine a_aload_n 0 dX1_empty_22 rfl rfl ?_
  refine a_iconst dX1_empty_23 (okI_b _ rfl) ?_
  refine a_putfi (c := 1) (i := 4) dX1_empty_24 fRX1_53 g1_4 (Or.inl rfl) rfl hk h (fun μ5 hm h => ?_)
  have hk := hm.k hk (by decide)
  refine a_aload_n 0 dX1_empty_27 rfl rfl ?_
  refine a_iconst dX1_empty_28 (okI_b _ rfl) ?_
  refine a_putfi (c := 1) (i := 5) dX1_empty_29 fRX1_56 g1_5 (Or.inl rfl) rfl hk h (fun μ6 hm h => ?_)
  have hk := hm.k hk (by decide)
  refine a_aload_n 0 dX1_empty_32 rfl rfl ?_
  refine a_getfr (c := 1) (i := 6) dX1_empty_33 fRX1_12 g1_6 rfl hk ?_
  refine m_chk_k h (fun hq26 h => ?_)
  refine a_cVv (c := 0) [] [] dX1_empty_36 myX0_empty mRX1_59 mvX0_empty rfl (by decide) hq26 (fun _ hj => tX0_empty E l N (m_gt μ6 l0 6) μ6 _ hq26 hj) (by decide) rfl (Nat.le_of_ble_eq_true rfl) h (fun μ7 hm h => ?_)
  have hk := hm.k hk (by decide)
  have hq26 := hm.k hq26 (by decide)
  refine a_aload_n 0 dX1_empty_39 rfl rfl ?_
  refine a_iconst dX1_empty_40 (okI_b _ rfl) ?_
  refine a_putfi (c := 1) (i := 12) dX1_empty_41 fRX1_60 g1_12 (Or.inl rfl) rfl hk h (fun μ8 hm h => ?_)
  have hk := hm.k hk (by decide)
  have hq26 := hm.k hq26 (by decide)
  refine a_aload_n 0 dX1_empty_44 rfl rfl ?_
  refine a_iconst dX1_empty_45 (okI_b _ rfl) ?_
  refine a_putfi (c := 1) (i := 13) dX1_empty_46 fRX1_63 g1_13 (Or.inl rfl) rfl hk h (fun μ9 hm h => ?_)
  have hk := hm.k hk (by decide)
  have hq26 := hm.k hq26 (by decide)
  refine a_iconst dX1_empty_49 (okI_b _ rfl) ?_
  refine a_istore_n (L' := [(1, vi 0), (0, vr l0)]) dX1_empty_50 rfl (by decide) rfl ?_
  exact a_sub [1, 0] rfl (tX1_empty_51 E l _ N N l0 0 μ9 t hk h)
-- X1_init
abbrev aX1_init (E : m_E) (l : Launch) (d : Nat) (z : Nat × Nat) (pc : Nat) (L : List (Nat × AV)) (st : List AV) (μ : Mm) (ρ : Option AV × Mm) : Prop := AA E l d z RX1 "<init>" cX1_init 1 none pc L st μ ρ
theorem tX1_init (E : m_E) (l : Launch) (N : Nat) (l0 : Int) (μ : Mm) (t : Mm) (hk : m_kd μ l0 = (1, 0)) (h : jX1_init N l0 μ = some t) : TT E l 3 yX1_init cX1_init 1 none [vr l0] μ (rV t) := by
  refine tt_of (L := [(0, vr l0)]) (by decide +kernel) (Nat.le_of_ble_eq_true rfl) rfl ?_
  show aX1_init E l 3 (m_sz μ, m_sl μ) 0 [(0, vr l0)] [] μ (rV t)
  unfold jX1_init at h
  refine a_aload_n 0 dX1_init_0 rfl rfl ?_
  refine a_objI dX1_init_1 mRX1_3 ob1 ob2 (by decide) hk (by decide) ?_
  refine a_aload_n 0 dX1_init_4 rfl rfl ?_
  refine a_new (c := 0) dX1_init_5 (by decide) ng0 wRX1_9 in0 ii0 h (fun μ1 hm hq3 h => ?_)
  have hk := hm.k hk (by decide)
  refine a_dup dX1_init_8 rfl ?_
  refine a_cINv (host := "NinepinAlley") [] [vr (m_sz μ : Int), vr l0] dX1_init_9 myX0_init (by decide) miX0_init rfl hq3 (by decide) (fun _ hj => tX0_init E l N (m_sz μ : Int) μ1 _ hq3 hj) (by decide) rfl (Nat.le_of_ble_eq_true rfl) h (fun μ2 hm h => ?_)
  have hk := hm.k hk (by decide)
  have hq3 := hm.k hq3 (by decide)
  refine a_putfr (c := 1) (i := 6) dX1_init_12 fRX1_12 g1_6 (Or.inr ⟨rfl, rfl, rfl⟩) rfl hk h (fun μ3 hm h => ?_)
  have hk := hm.k hk (by decide)
  have hq3 := hm.k hq3 (by decide)
  refine a_aload_n 0 dX1_init_15 rfl rfl ?_
  refine a_iconst dX1_init_16 (okI_b _ rfl) ?_
  refine a_nai dX1_init_17 ac_int h (fun μ4 hm hq14 h => ?_)
  have hk := hm.k hk (by decide)
  have hq3 := hm.k hq3 (by decide)
  refine a_putfr (c := 1) (i := 7) dX1_init_19 fRX1_18 g1_7 (Or.inr ⟨rfl, rfl, rfl⟩) rfl hk h (fun μ5 hm h => ?_)
  have hk := hm.k hk (by decide)
  have hq3 := hm.k hq3 (by decide)
  refine a_aload_n 0 dX1_init_22 rfl rfl ?_
  refine a_bipush dX1_init_23 ⟨rfl, okI_b _ rfl⟩ ?_
  refine a_nai dX1_init_25 ac_int h (fun μ6 hm hq22 h => ?_)
  have hk := hm.k hk (by decide)
  have hq3 := hm.k hq3 (by decide)
  refine a_putfr (c := 1) (i := 8) dX1_init_27 fRX1_22 g1_8 (Or.inr ⟨rfl, rfl, rfl⟩) rfl hk h (fun μ7 hm h => ?_)
  have hk := hm.k hk (by decide)
  have hq3 := hm.k hq3 (by decide)
  refine a_aload_n 0 dX1_init_30 rfl rfl ?_
  refine a_bipush dX1_init_31 ⟨rfl, okI_b _ rfl⟩ ?_
  refine a_nai dX1_init_33 ac_int h (fun μ8 hm hq30 h => ?_)
  have hk := hm.k hk (by decide)
  have hq3 := hm.k hq3 (by decide)
  refine a_putfr (c := 1) (i := 9) dX1_init_35 fRX1_25 g1_9 (Or.inr ⟨rfl, rfl, rfl⟩) rfl hk h (fun μ9 hm h => ?_)
  have hk := hm.k hk (by decide)
  have hq3 := hm.k hq3 (by decide)
  refine a_aload_n 0 dX1_init_38 rfl rfl ?_
  refine a_bipush dX1_init_39 ⟨rfl, okI_b _ rfl⟩ ?_
  refine a_nai dX1_init_41 ac_int h (fun μ10 hm hq38 h => ?_)
  have hk := hm.k hk (by decide)
  have hq3 := hm.k hq3 (by decide)
  refine a_putfr (c := 1) (i := 10) dX1_init_43 fRX1_28 g1_10 (Or.inr ⟨rfl, rfl, rfl⟩) rfl hk h (fun μ11 hm h => ?_)
  have hk := hm.k hk (by decide)
  have hq3 := hm.k hq3 (by decide)
  refine a_aload_n 0 dX1_init_46 rfl rfl ?_
  refine a_bipush dX1_init_47 ⟨rfl, okI_b _ rfl⟩ ?_
  refine a_nai dX1_init_49 ac_int h (fun μ12 hm hq46 h => ?_)
  have hk := hm.k hk (by decide)
  have hq3 := hm.k hq3 (by decide)
  refine a_putfr (c := 1) (i := 11) dX1_init_51 fRX1_31 g1_11 (Or.inr ⟨rfl, rfl, rfl⟩) rfl hk h (fun μ13 hm h => ?_)
  have hk := hm.k hk (by decide)
  have hq3 := hm.k hq3 (by decide)
  refine a_aload_n 0 dX1_init_54 rfl rfl ?_
  refine a_sipush dX1_init_55 ⟨rfl, okI_b _ rfl⟩ ?_
  refine a_nai dX1_init_58 ac_int h (fun μ14 hm hq54 h => ?_)
  have hk := hm.k hk (by decide)
  have hq3 := hm.k hq3 (by decide)
  refine a_putfr (c := 1) (i := 14) dX1_init_60 fRX1_34 g1_14 (Or.inr ⟨rfl, rfl, rfl⟩) rfl hk h (fun μ15 hm h => ?_)
  have hk := hm.k hk (by decide)
  have hq3 := hm.k hq3 (by decide)
  refine a_aload_n 0 dX1_init_63 rfl rfl ?_
  refine a_cVv (c := 1) [] [] dX1_init_64 myX1_empty mRX1_37 mvX1_empty rfl (by decide) hk (fun _ hj => tX1_empty E l N l0 μ15 _ hk hj) (by decide) rfl (Nat.le_of_ble_eq_true rfl) h (fun μ16 hm h => ?_)
  have hk := hm.k hk (by decide)
  have hq3 := hm.k hq3 (by decide)
  exact a_ret0 dX1_init_67 h
-- X1_setEarned
abbrev aX1_setEarned (E : m_E) (l : Launch) (d : Nat) (z : Nat × Nat) (pc : Nat) (L : List (Nat × AV)) (st : List AV) (μ : Mm) (ρ : Option AV × Mm) : Prop := AA E l d z RX1 "setEarned" cX1_setEarned 3 none pc L st μ ρ
theorem tX1_setEarned_20 (E : m_E) (l : Launch) (z : Nat × Nat) (N : Nat) (l0 : Int) (μ : Mm) (t : Mm) (hk : m_kd μ l0 = (1, 0)) (h : jX1_setEarned_20 N l0 μ = some t) : aX1_setEarned E l 1 z 20 [(0, vr l0)] [] μ (rV t) := by
  unfold jX1_setEarned_20 at h
  exact a_ret0 dX1_setEarned_20 h
theorem tX1_setEarned (E : m_E) (l : Launch) (N : Nat) (l0 l1 l2 : Int) (μ : Mm) (t : Mm) (hk : m_kd μ l0 = (1, 0)) (h : jX1_setEarned N l0 l1 l2 μ = some t) : TT E l 1 yX1_setEarned cX1_setEarned 3 none [vr l0, vi l1, vi l2] μ (rV t) := by
  refine tt_of (L := [(0, vr l0), (1, vi l1), (2, vi l2)]) (by decide +kernel) (Nat.le_of_ble_eq_true rfl) rfl ?_
  show aX1_setEarned E l 1 (m_sz μ, m_sl μ) 0 [(0, vr l0), (1, vi l1), (2, vi l2)] [] μ (rV t)
  unfold jX1_setEarned at h
  refine a_iload_n 1 dX1_setEarned_0 rfl rfl ?_
  refine a_if_lt (tgt := 20) dX1_setEarned_1 rfl h (fun h => ?_) (fun h => ?_)
  ·
    exact a_sub [0] rfl (tX1_setEarned_20 E l _ N l0 μ t hk h)
  ·
    refine a_iload_n 1 dX1_setEarned_4 rfl rfl ?_
    refine a_aload_n 0 dX1_setEarned_5 rfl rfl ?_
    refine a_getfr (c := 1) (i := 7) dX1_setEarned_6 fRX1_18 g1_7 rfl hk ?_
    refine a_alen dX1_setEarned_9 h (fun x1 h => ?_)
    refine a_icmp_ge (tgt := 20) dX1_setEarned_10 rfl h (fun h => ?_) (fun h => ?_)
    ·
      exact a_sub [0] rfl (tX1_setEarned_20 E l _ N l0 μ t hk h)
    ·
      refine a_aload_n 0 dX1_setEarned_13 rfl rfl ?_
      refine a_getfr (c := 1) (i := 7) dX1_setEarned_14 fRX1_18 g1_7 rfl hk ?_
      refine a_iload_n 1 dX1_setEarned_17 rfl rfl ?_
      refine a_iload_n 2 dX1_setEarned_18 rfl rfl ?_
      refine a_iast dX1_setEarned_19 h (fun μ1 hm h => ?_)
      have hk := hm.k hk (by decide)
      exact a_sub [0] rfl (tX1_setEarned_20 E l _ N l0 μ1 t hk h)
-- X1_isPin
abbrev aX1_isPin (E : m_E) (l : Launch) (d : Nat) (z : Nat × Nat) (pc : Nat) (L : List (Nat × AV)) (st : List AV) (μ : Mm) (ρ : Option AV × Mm) : Prop := AA E l d z RX1 "isPin" cX1_isPin 1 (some .boolean) pc L st μ ρ
theorem tX1_isPin_15 (E : m_E) (l : Launch) (z : Nat × Nat) (N : Nat) (s0 : Int) (μ : Mm) (t : Int × Mm) (h : jX1_isPin_15 N s0 μ = some t) : aX1_isPin E l 1 z 15 [] [vi s0] μ (rI t) := by
  unfold jX1_isPin_15 at h
  exact a_retz dX1_isPin_15 h
theorem tX1_isPin_14 (E : m_E) (l : Launch) (z : Nat × Nat) (N : Nat) (μ : Mm) (t : Int × Mm) (h : jX1_isPin_14 N  μ = some t) : aX1_isPin E l 1 z 14 [] [] μ (rI t) := by
  unfold jX1_isPin_14 at h
  refine a_iconst dX1_isPin_14 (okI_b _ rfl) ?_
  exact a_sub [] rfl (tX1_isPin_15 E l _ N 0 μ t h)
theorem tX1_isPin (E : m_E) (l : Launch) (N : Nat) (l0 : Int) (μ : Mm) (t : Int × Mm) (h : jX1_isPin N l0 μ = some t) : TT E l 1 yX1_isPin cX1_isPin 1 (some .boolean) [vi l0] μ (rI t) := by
  refine tt_of (L := [(0, vi l0)]) (by decide +kernel) (Nat.le_of_ble_eq_true rfl) rfl ?_
  show aX1_isPin E l 1 (m_sz μ, m_sl μ) 0 [(0, vi l0)] [] μ (rI t)
  unfold jX1_isPin at h
  refine a_iload_n 0 dX1_isPin_0 rfl rfl ?_
  refine a_if_lt (tgt := 14) dX1_isPin_1 rfl h (fun h => ?_) (fun h => ?_)
  ·
    exact a_sub [] rfl (tX1_isPin_14 E l _ N  μ t h)
  ·
    refine a_iload_n 0 dX1_isPin_4 rfl rfl ?_
    refine a_bipush dX1_isPin_5 ⟨rfl, okI_b _ rfl⟩ ?_
    refine a_icmp_ge (tgt := 14) dX1_isPin_7 rfl h (fun h => ?_) (fun h => ?_)
    ·
      exact a_sub [] rfl (tX1_isPin_14 E l _ N  μ t h)
    ·
      refine a_iconst dX1_isPin_10 (okI_b _ rfl) ?_
      refine a_goto (tgt := 15) dX1_isPin_11 rfl ?_
      exact a_sub [] rfl (tX1_isPin_15 E l _ N 1 μ t h)
-- X1_joinPins
abbrev aX1_joinPins (E : m_E) (l : Launch) (d : Nat) (z : Nat × Nat) (pc : Nat) (L : List (Nat × AV)) (st : List AV) (μ : Mm) (ρ : Option AV × Mm) : Prop := AA E l d z RX1 "joinPins" cX1_joinPins 3 none pc L st μ ρ
theorem tX1_joinPins_38 (E : m_E) (l : Launch) (z : Nat × Nat) (N : Nat) (l0 : Int) (μ : Mm) (t : Mm) (hk : m_kd μ l0 = (1, 0)) (h : jX1_joinPins_38 N l0 μ = some t) : aX1_joinPins E l 2 z 38 [(0, vr l0)] [] μ (rV t) := by
  unfold jX1_joinPins_38 at h
  exact a_ret0 dX1_joinPins_38 h
theorem tX1_joinPins (E : m_E) (l : Launch) (N : Nat) (l0 l1 l2 : Int) (μ : Mm) (t : Mm) (hk : m_kd μ l0 = (1, 0)) (h : jX1_joinPins N l0 l1 l2 μ = some t) : TT E l 2 yX1_joinPins cX1_joinPins 3 none [vr l0, vi l1, vi l2] μ (rV t) := by
  refine tt_of (L := [(0, vr l0), (1, vi l1), (2, vi l2)]) (by decide +kernel) (Nat.le_of_ble_eq_true rfl) rfl ?_
  show aX1_joinPins E l 2 (m_sz μ, m_sl μ) 0 [(0, vr l0), (1, vi l1), (2, vi l2)] [] μ (rV t)
  unfold jX1_joinPins at h
  refine a_iload_n 1 dX1_joinPins_0 rfl rfl ?_
  refine a_cSi [vi l1] [] dX1_joinPins_1 myX1_isPin mRX1_66 msX1_isPin (fun _ hj => tX1_isPin E l N l1 μ _  hj) (by decide) rfl (Nat.le_of_ble_eq_true rfl) h (fun x1 μ1 hm h => ?_)
  have hk := hm.k hk (by decide)
  refine a_if_eq (tgt := 38) dX1_joinPins_4 rfl h (fun h => ?_) (fun h => ?_)
  ·
    exact a_sub [0] rfl (tX1_joinPins_38 E l _ N l0 μ1 t hk h)
  ·
    refine a_iload_n 2 dX1_joinPins_7 rfl rfl ?_
    refine a_cSi [vi l2] [] dX1_joinPins_8 myX1_isPin mRX1_66 msX1_isPin (fun _ hj => tX1_isPin E l N l2 μ1 _  hj) (by decide) rfl (Nat.le_of_ble_eq_true rfl) h (fun x2 μ2 hm h => ?_)
    have hk := hm.k hk (by decide)
    refine a_if_eq (tgt := 38) dX1_joinPins_11 rfl h (fun h => ?_) (fun h => ?_)
    ·
      exact a_sub [0] rfl (tX1_joinPins_38 E l _ N l0 μ2 t hk h)
    ·
      refine a_aload_n 0 dX1_joinPins_14 rfl rfl ?_
      refine a_getfr (c := 1) (i := 8) dX1_joinPins_15 fRX1_22 g1_8 rfl hk ?_
      refine a_iload_n 1 dX1_joinPins_18 rfl rfl ?_
      refine a_dup2 dX1_joinPins_19 rfl rfl ?_
      refine a_iald dX1_joinPins_20 h (fun x3 h => ?_)
      refine a_iconst dX1_joinPins_21 (okI_b _ rfl) ?_
      refine a_iload_n 2 dX1_joinPins_22 rfl rfl ?_
      refine a_ishl dX1_joinPins_23 ?_
      refine a_ior dX1_joinPins_24 ?_
      refine a_iast dX1_joinPins_25 h (fun μ3 hm h => ?_)
      have hk := hm.k hk (by decide)
      refine a_aload_n 0 dX1_joinPins_26 rfl rfl ?_
      refine a_getfr (c := 1) (i := 8) dX1_joinPins_27 fRX1_22 g1_8 rfl hk ?_
      refine a_iload_n 2 dX1_joinPins_30 rfl rfl ?_
      refine a_dup2 dX1_joinPins_31 rfl rfl ?_
      refine a_iald dX1_joinPins_32 h (fun x4 h => ?_)
      refine a_iconst dX1_joinPins_33 (okI_b _ rfl) ?_
      refine a_iload_n 1 dX1_joinPins_34 rfl rfl ?_
      refine a_ishl dX1_joinPins_35 ?_
      refine a_ior dX1_joinPins_36 ?_
      refine a_iast dX1_joinPins_37 h (fun μ4 hm h => ?_)
      have hk := hm.k hk (by decide)
      exact a_sub [0] rfl (tX1_joinPins_38 E l _ N l0 μ4 t hk h)
-- X1_addWorth
abbrev aX1_addWorth (E : m_E) (l : Launch) (d : Nat) (z : Nat × Nat) (pc : Nat) (L : List (Nat × AV)) (st : List AV) (μ : Mm) (ρ : Option AV × Mm) : Prop := AA E l d z RX1 "addWorth" cX1_addWorth 3 none pc L st μ ρ
theorem tX1_addWorth_55 (E : m_E) (l : Launch) (z : Nat × Nat) (N : Nat) (l0 : Int) (μ : Mm) (t : Mm) (hk : m_kd μ l0 = (1, 0)) (h : jX1_addWorth_55 N l0 μ = some t) : aX1_addWorth E l 2 z 55 [(0, vr l0)] [] μ (rV t) := by
  unfold jX1_addWorth_55 at h
  exact a_ret0 dX1_addWorth_55 h
theorem tX1_addWorth (E : m_E) (l : Launch) (N : Nat) (l0 l1 l2 : Int) (μ : Mm) (t : Mm) (hk : m_kd μ l0 = (1, 0)) (h : jX1_addWorth N l0 l1 l2 μ = some t) : TT E l 2 yX1_addWorth cX1_addWorth 3 none [vr l0, vi l1, vi l2] μ (rV t) := by
  refine tt_of (L := [(0, vr l0), (1, vi l1), (2, vi l2)]) (by decide +kernel) (Nat.le_of_ble_eq_true rfl) rfl ?_
  show aX1_addWorth E l 2 (m_sz μ, m_sl μ) 0 [(0, vr l0), (1, vi l1), (2, vi l2)] [] μ (rV t)
  unfold jX1_addWorth at h
  refine a_aload_n 0 dX1_addWorth_0 rfl rfl ?_
  refine a_getfi (c := 1) (i := 5) dX1_addWorth_1 fRX1_56 g1_5 rfl hk ?_
  refine a_bipush dX1_addWorth_4 ⟨rfl, okI_b _ rfl⟩ ?_
  refine a_icmp_ge (tgt := 55) dX1_addWorth_6 rfl h (fun h => ?_) (fun h => ?_)
  ·
    exact a_sub [0] rfl (tX1_addWorth_55 E l _ N l0 μ t hk h)
  ·
    refine a_aload_n 0 dX1_addWorth_9 rfl rfl ?_
    refine a_getfr (c := 1) (i := 9) dX1_addWorth_10 fRX1_25 g1_9 rfl hk ?_
    refine a_aload_n 0 dX1_addWorth_13 rfl rfl ?_
    refine a_getfi (c := 1) (i := 5) dX1_addWorth_14 fRX1_56 g1_5 rfl hk ?_
    refine a_iload_n 1 dX1_addWorth_17 rfl rfl ?_
    refine a_iast dX1_addWorth_18 h (fun μ1 hm h => ?_)
    have hk := hm.k hk (by decide)
    refine a_aload_n 0 dX1_addWorth_19 rfl rfl ?_
    refine a_getfr (c := 1) (i := 10) dX1_addWorth_20 fRX1_28 g1_10 rfl hk ?_
    refine a_aload_n 0 dX1_addWorth_23 rfl rfl ?_
    refine a_getfi (c := 1) (i := 5) dX1_addWorth_24 fRX1_56 g1_5 rfl hk ?_
    refine a_iload_n 2 dX1_addWorth_27 rfl rfl ?_
    refine a_iast dX1_addWorth_28 h (fun μ2 hm h => ?_)
    have hk := hm.k hk (by decide)
    refine a_aload_n 0 dX1_addWorth_29 rfl rfl ?_
    refine a_getfr (c := 1) (i := 11) dX1_addWorth_30 fRX1_31 g1_11 rfl hk ?_
    refine a_aload_n 0 dX1_addWorth_33 rfl rfl ?_
    refine a_getfi (c := 1) (i := 5) dX1_addWorth_34 fRX1_56 g1_5 rfl hk ?_
    refine a_aload_n 0 dX1_addWorth_37 rfl rfl ?_
    refine a_getfr (c := 1) (i := 6) dX1_addWorth_38 fRX1_12 g1_6 rfl hk ?_
    refine m_chk_k h (fun hq27 h => ?_)
    refine a_cVi (c := 0) [] [vi (m_gt μ2 l0 5), vr (m_gt μ2 l0 11)] dX1_addWorth_41 myX0_sizeNow mRX1_70 mvX0_sizeNow rfl (by decide) hq27 (fun _ hj => tX0_sizeNow E l N (m_gt μ2 l0 6) μ2 _ hq27 hj) (by decide) rfl (Nat.le_of_ble_eq_true rfl) h (fun x1 μ3 hm h => ?_)
    have hk := hm.k hk (by decide)
    have hq27 := hm.k hq27 (by decide)
    refine a_iast dX1_addWorth_44 h (fun μ4 hm h => ?_)
    have hk := hm.k hk (by decide)
    have hq27 := hm.k hq27 (by decide)
    refine a_aload_n 0 dX1_addWorth_45 rfl rfl ?_
    refine a_dup dX1_addWorth_46 rfl ?_
    refine a_getfi (c := 1) (i := 5) dX1_addWorth_47 fRX1_56 g1_5 rfl hk ?_
    refine a_iconst dX1_addWorth_50 (okI_b _ rfl) ?_
    refine a_iadd dX1_addWorth_51 ?_
    refine a_putfi (c := 1) (i := 5) dX1_addWorth_52 fRX1_56 g1_5 (Or.inl rfl) rfl hk h (fun μ5 hm h => ?_)
    have hk := hm.k hk (by decide)
    have hq27 := hm.k hq27 (by decide)
    exact a_sub [0] rfl (tX1_addWorth_55 E l _ N l0 μ5 t hk h)
-- X1_setHandicap
abbrev aX1_setHandicap (E : m_E) (l : Launch) (d : Nat) (z : Nat × Nat) (pc : Nat) (L : List (Nat × AV)) (st : List AV) (μ : Mm) (ρ : Option AV × Mm) : Prop := AA E l d z RX1 "setHandicap" cX1_setHandicap 2 none pc L st μ ρ
theorem tX1_setHandicap (E : m_E) (l : Launch) (N : Nat) (l0 l1 : Int) (μ : Mm) (t : Mm) (hk : m_kd μ l0 = (1, 0)) (h : jX1_setHandicap N l0 l1 μ = some t) : TT E l 2 yX1_setHandicap cX1_setHandicap 2 none [vr l0, vi l1] μ (rV t) := by
  refine tt_of (L := [(0, vr l0), (1, vi l1)]) (by decide +kernel) (Nat.le_of_ble_eq_true rfl) rfl ?_
  show aX1_setHandicap E l 2 (m_sz μ, m_sl μ) 0 [(0, vr l0), (1, vi l1)] [] μ (rV t)
  unfold jX1_setHandicap at h
  refine a_aload_n 0 dX1_setHandicap_0 rfl rfl ?_
  refine a_iload_n 1 dX1_setHandicap_1 rfl rfl ?_
  refine a_putfi (c := 1) (i := 12) dX1_setHandicap_2 fRX1_60 g1_12 (Or.inl rfl) rfl hk h (fun μ1 hm h => ?_)
  have hk := hm.k hk (by decide)
  refine a_aload_n 0 dX1_setHandicap_5 rfl rfl ?_
  refine a_aload_n 0 dX1_setHandicap_6 rfl rfl ?_
  refine a_getfr (c := 1) (i := 6) dX1_setHandicap_7 fRX1_12 g1_6 rfl hk ?_
  refine m_chk_k h (fun hq7 h => ?_)
  refine a_cVi (c := 0) [] [vr l0] dX1_setHandicap_10 myX0_sizeNow mRX1_70 mvX0_sizeNow rfl (by decide) hq7 (fun _ hj => tX0_sizeNow E l N (m_gt μ1 l0 6) μ1 _ hq7 hj) (by decide) rfl (Nat.le_of_ble_eq_true rfl) h (fun x1 μ2 hm h => ?_)
  have hk := hm.k hk (by decide)
  have hq7 := hm.k hq7 (by decide)
  refine a_putfi (c := 1) (i := 13) dX1_setHandicap_13 fRX1_63 g1_13 (Or.inl rfl) rfl hk h (fun μ3 hm h => ?_)
  have hk := hm.k hk (by decide)
  have hq7 := hm.k hq7 (by decide)
  exact a_ret0 dX1_setHandicap_16 h
-- X1_reckonWorth
abbrev aX1_reckonWorth (E : m_E) (l : Launch) (d : Nat) (z : Nat × Nat) (pc : Nat) (L : List (Nat × AV)) (st : List AV) (μ : Mm) (ρ : Option AV × Mm) : Prop := AA E l d z RX1 "reckonWorth" cX1_reckonWorth 6 (some .int) pc L st μ ρ
theorem tX1_reckonWorth_92 (E : m_E) (l : Launch) (z : Nat × Nat) (N : Nat) (l0 : Int) (μ : Mm) (t : Int × Mm) (hk : m_kd μ l0 = (1, 0)) (h : jX1_reckonWorth_92 N l0 μ = some t) : aX1_reckonWorth E l 6 z 92 [(0, vr l0)] [] μ (rI t) := by
  unfold jX1_reckonWorth_92 at h
  refine a_iconst dX1_reckonWorth_92 (okI_b _ rfl) ?_
  exact a_reti dX1_reckonWorth_93 h
theorem tX1_reckonWorth_17b (E : m_E) (l : Launch) (z : Nat × Nat) (k17 : Int → Int → Mm → Option (Int × Mm)) (p17 : ∀ (l0 l5 : Int) (μ : Mm) (t : Int × Mm), m_kd μ l0 = (1, 0) → k17 l0 l5 μ = some t → aX1_reckonWorth E l 6 z 17 [(0, vr l0), (5, vi l5)] [] μ (rI t)) (N : Nat) (l0 l5 : Int) (μ : Mm) (t : Int × Mm) (hk : m_kd μ l0 = (1, 0)) (h : jX1_reckonWorth_17b k17 N l0 l5 μ = some t) : aX1_reckonWorth E l 6 z 17 [(0, vr l0), (5, vi l5)] [] μ (rI t) := by
  unfold jX1_reckonWorth_17b at h
  refine a_iload 1 dX1_reckonWorth_17 rfl ?_
  refine a_aload_n 0 dX1_reckonWorth_19 rfl rfl ?_
  refine a_getfi (c := 1) (i := 5) dX1_reckonWorth_20 fRX1_56 g1_5 rfl hk ?_
  refine a_icmp_ge (tgt := 92) dX1_reckonWorth_23 rfl h (fun h => ?_) (fun h => ?_)
  ·
    exact a_sub [0] rfl (tX1_reckonWorth_92 E l _ N l0 μ t hk h)
  ·
    refine a_iload 1 dX1_reckonWorth_26 rfl ?_
    refine a_bipush dX1_reckonWorth_28 ⟨rfl, okI_b _ rfl⟩ ?_
    refine a_icmp_ge (tgt := 92) dX1_reckonWorth_30 rfl h (fun h => ?_) (fun h => ?_)
    ·
      exact a_sub [0] rfl (tX1_reckonWorth_92 E l _ N l0 μ t hk h)
    ·
      refine a_aload_n 0 dX1_reckonWorth_33 rfl rfl ?_
      refine a_getfr (c := 1) (i := 6) dX1_reckonWorth_34 fRX1_12 g1_6 rfl hk ?_
      refine a_aload_n 0 dX1_reckonWorth_37 rfl rfl ?_
      refine a_getfr (c := 1) (i := 10) dX1_reckonWorth_38 fRX1_28 g1_10 rfl hk ?_
      refine a_iload 1 dX1_reckonWorth_41 rfl ?_
      refine a_iald dX1_reckonWorth_43 h (fun x1 h => ?_)
      refine a_aload_n 0 dX1_reckonWorth_44 rfl rfl ?_
      refine a_getfr (c := 1) (i := 11) dX1_reckonWorth_45 fRX1_31 g1_11 rfl hk ?_
      refine a_iload 1 dX1_reckonWorth_48 rfl ?_
      refine a_iald dX1_reckonWorth_50 h (fun x2 h => ?_)
      refine m_chk_k h (fun hq23 h => ?_)
      refine a_cVi (c := 0) [vi x1, vi x2] [] dX1_reckonWorth_51 myX0_reckon mRX1_89 mvX0_reckon rfl (by decide) hq23 (fun _ hj => tX0_reckon E l N (m_gt μ l0 6) x1 x2 μ _ hq23 hj) (by decide) rfl (Nat.le_of_ble_eq_true rfl) h (fun x3 μ1 hm h => ?_)
      have hk := hm.k hk (by decide)
      have hq23 := hm.k hq23 (by decide)
      refine a_if_eq (tgt := 86) dX1_reckonWorth_54 rfl h (fun h => ?_) (fun h => ?_)
      ·
        refine a_iinc (F := fun x4 => [(5, vi x4), (0, vr l0)]) 1 dX1_reckonWorth_86 rfl (by decide) h (fun _ => rfl) (fun x4 h => ?_)
        refine a_goto (tgt := 17) dX1_reckonWorth_89 rfl ?_
        exact a_sub [1, 0] rfl (p17 l0 x4 μ1 t hk h)
      ·
        refine a_bipush dX1_reckonWorth_57 ⟨rfl, okI_b _ rfl⟩ ?_
        refine a_aload_n 0 dX1_reckonWorth_59 rfl rfl ?_
        refine a_getfr (c := 1) (i := 6) dX1_reckonWorth_60 fRX1_12 g1_6 rfl hk ?_
        refine a_aload_n 0 dX1_reckonWorth_63 rfl rfl ?_
        refine a_getfr (c := 1) (i := 9) dX1_reckonWorth_64 fRX1_25 g1_9 rfl hk ?_
        refine a_iload 1 dX1_reckonWorth_67 rfl ?_
        refine a_iald dX1_reckonWorth_69 h (fun x5 h => ?_)
        refine a_aload_n 0 dX1_reckonWorth_70 rfl rfl ?_
        refine a_getfr (c := 1) (i := 10) dX1_reckonWorth_71 fRX1_28 g1_10 rfl hk ?_
        refine a_iload 1 dX1_reckonWorth_74 rfl ?_
        refine a_iald dX1_reckonWorth_76 h (fun x6 h => ?_)
        refine m_chk_k h (fun hq44 h => ?_)
        refine a_cVi (c := 0) [vi x5, vi x6] [vi (-20)] dX1_reckonWorth_77 myX0_reckon mRX1_89 mvX0_reckon rfl (by decide) hq44 (fun _ hj => tX0_reckon E l N (m_gt μ1 l0 6) x5 x6 μ1 _ hq44 hj) (by decide) rfl (Nat.le_of_ble_eq_true rfl) h (fun x7 μ2 hm h => ?_)
        have hk := hm.k hk (by decide)
        have hq23 := hm.k hq23 (by decide)
        have hq44 := hm.k hq44 (by decide)
        refine a_bipush dX1_reckonWorth_80 ⟨rfl, okI_b _ rfl⟩ ?_
        refine a_cSNi (host := "NinepinAlley") [vi (-20), vi x7, vi 20] [] dX1_reckonWorth_82 myX7_within (by decide) msX7_within (fun _ hj => tX7_within E l N (-20) x7 20 μ2 _  hj) (by decide) rfl (Nat.le_of_ble_eq_true rfl) h (fun x8 μ3 hm h => ?_)
        have hk := hm.k hk (by decide)
        have hq23 := hm.k hq23 (by decide)
        have hq44 := hm.k hq44 (by decide)
        exact a_reti dX1_reckonWorth_85 h
theorem tX1_reckonWorth_17 (E : m_E) (l : Launch) (z : Nat × Nat) (N : Nat) : ∀ (n : Nat) (l0 l5 : Int) (μ : Mm) (t : Int × Mm), m_kd μ l0 = (1, 0) → jX1_reckonWorth_17 N n l0 l5 μ = some t → aX1_reckonWorth E l 6 z 17 [(0, vr l0), (5, vi l5)] [] μ (rI t)
  | 0, _, _, _, _, _, h => by cases h
  | n + 1, l0, l5, μ, t, hk, h => tX1_reckonWorth_17b E l z (jX1_reckonWorth_17 N n) (tX1_reckonWorth_17 E l z N n) N l0 l5 μ t hk h
theorem tX1_reckonWorth (E : m_E) (l : Launch) (N : Nat) (l0 l1 l2 l3 l4 : Int) (μ : Mm) (t : Int × Mm) (hk : m_kd μ l0 = (1, 0)) (h : jX1_reckonWorth N l0 l1 l2 l3 l4 μ = some t) : TT E l 6 yX1_reckonWorth cX1_reckonWorth 6 (some .int) [vr l0, vi l1, vi l2, vi l3, vi l4] μ (rI t) := by
  refine tt_of (L := [(0, vr l0), (1, vi l1), (2, vi l2), (3, vi l3), (4, vi l4)]) (by decide +kernel) (Nat.le_of_ble_eq_true rfl) rfl ?_
  show aX1_reckonWorth E l 6 (m_sz μ, m_sl μ) 0 [(0, vr l0), (1, vi l1), (2, vi l2), (3, vi l3), (4, vi l4)] [] μ (rI t)
  unfold jX1_reckonWorth at h
  refine a_aload_n 0 dX1_reckonWorth_0 rfl rfl ?_
  refine a_getfr (c := 1) (i := 6) dX1_reckonWorth_1 fRX1_12 g1_6 rfl hk ?_
  refine a_iload_n 1 dX1_reckonWorth_4 rfl rfl ?_
  refine a_iconst dX1_reckonWorth_5 (okI_b _ rfl) ?_
  refine a_iadd dX1_reckonWorth_6 ?_
  refine a_iload_n 2 dX1_reckonWorth_7 rfl rfl ?_
  refine a_iload_n 3 dX1_reckonWorth_8 rfl rfl ?_
  refine a_iload 4 dX1_reckonWorth_9 rfl ?_
  refine m_chk_k h (fun hq8 h => ?_)
  refine a_cVv (c := 0) [vi (i_add l1 1), vi l2, vi l3, vi l4] [] dX1_reckonWorth_11 myX0_setFrame mRX1_85 mvX0_setFrame rfl (by decide) hq8 (fun _ hj => tX0_setFrame E l N (m_gt μ l0 6) (i_add l1 1) l2 l3 l4 μ _ hq8 hj) (by decide) rfl (Nat.le_of_ble_eq_true rfl) h (fun μ1 hm h => ?_)
  have hk := hm.k hk (by decide)
  have hq8 := hm.k hq8 (by decide)
  refine a_iconst dX1_reckonWorth_14 (okI_b _ rfl) ?_
  refine a_istore (L' := [(5, vi 0), (0, vr l0), (1, vi l1), (2, vi l2), (3, vi l3), (4, vi l4)]) dX1_reckonWorth_15 (by decide) rfl ?_
  exact a_sub [1, 0] rfl (tX1_reckonWorth_17 E l _ N N l0 0 μ1 t hk h)
-- X1_worthIndex
abbrev aX1_worthIndex (E : m_E) (l : Launch) (d : Nat) (z : Nat × Nat) (pc : Nat) (L : List (Nat × AV)) (st : List AV) (μ : Mm) (ρ : Option AV × Mm) : Prop := AA E l d z RX1 "worthIndex" cX1_worthIndex 4 (some .int) pc L st μ ρ
theorem tX1_worthIndex (E : m_E) (l : Launch) (N : Nat) (l0 l1 l2 l3 : Int) (μ : Mm) (t : Int × Mm) (h : jX1_worthIndex N l0 l1 l2 l3 μ = some t) : TT E l 1 yX1_worthIndex cX1_worthIndex 4 (some .int) [vi l0, vi l1, vi l2, vi l3] μ (rI t) := by
  refine tt_of (L := [(0, vi l0), (1, vi l1), (2, vi l2), (3, vi l3)]) (by decide +kernel) (Nat.le_of_ble_eq_true rfl) rfl ?_
  show aX1_worthIndex E l 1 (m_sz μ, m_sl μ) 0 [(0, vi l0), (1, vi l1), (2, vi l2), (3, vi l3)] [] μ (rI t)
  unfold jX1_worthIndex at h
  refine a_iload_n 0 dX1_worthIndex_0 rfl rfl ?_
  refine a_bipush dX1_worthIndex_1 ⟨rfl, okI_b _ rfl⟩ ?_
  refine a_imul dX1_worthIndex_3 ?_
  refine a_iload_n 1 dX1_worthIndex_4 rfl rfl ?_
  refine a_iadd dX1_worthIndex_5 ?_
  refine a_bipush dX1_worthIndex_6 ⟨rfl, okI_b _ rfl⟩ ?_
  refine a_imul dX1_worthIndex_8 ?_
  refine a_iload_n 2 dX1_worthIndex_9 rfl rfl ?_
  refine a_iconst dX1_worthIndex_10 (okI_b _ rfl) ?_
  refine a_imul dX1_worthIndex_11 ?_
  refine a_iadd dX1_worthIndex_12 ?_
  refine a_iload_n 3 dX1_worthIndex_13 rfl rfl ?_
  refine a_iadd dX1_worthIndex_14 ?_
  exact a_reti dX1_worthIndex_15 h
-- X1_settleFouls
abbrev aX1_settleFouls (E : m_E) (l : Launch) (d : Nat) (z : Nat × Nat) (pc : Nat) (L : List (Nat × AV)) (st : List AV) (μ : Mm) (ρ : Option AV × Mm) : Prop := AA E l d z RX1 "settleFouls" cX1_settleFouls 6 none pc L st μ ρ
theorem tX1_settleFouls_50 (E : m_E) (l : Launch) (z : Nat × Nat) (k3 : Int → Int → Int → Int → Int → Mm → Option (Mm)) (p3 : ∀ (l0 l1 l2 l3 l4 : Int) (μ : Mm) (t : Mm), m_kd μ l0 = (1, 0) → k3 l0 l1 l2 l3 l4 μ = some t → aX1_settleFouls E l 7 z 3 [(0, vr l0), (1, vi l1), (2, vi l2), (3, vi l3), (4, vi l4)] [] μ (rV t)) (N : Nat) (l0 l1 l2 l3 l4 : Int) (μ : Mm) (t : Mm) (hk : m_kd μ l0 = (1, 0)) (h : jX1_settleFouls_50 k3 N l0 l1 l2 l3 l4 μ = some t) : aX1_settleFouls E l 7 z 50 [(0, vr l0), (1, vi l1), (2, vi l2), (3, vi l3), (4, vi l4)] [] μ (rV t) := by
  unfold jX1_settleFouls_50 at h
  refine a_iinc (F := fun x1 => [(4, vi x1), (0, vr l0), (1, vi l1), (2, vi l2), (3, vi l3)]) 4 dX1_settleFouls_50 rfl (by decide) h (fun _ => rfl) (fun x1 h => ?_)
  refine a_goto (tgt := 3) dX1_settleFouls_53 rfl ?_
  exact a_sub [1, 2, 3, 4, 0] rfl (p3 l0 l1 l2 l3 x1 μ t hk h)
theorem tX1_settleFouls_3b (E : m_E) (l : Launch) (z : Nat × Nat) (k3 : Int → Int → Int → Int → Int → Mm → Option (Mm)) (p3 : ∀ (l0 l1 l2 l3 l4 : Int) (μ : Mm) (t : Mm), m_kd μ l0 = (1, 0) → k3 l0 l1 l2 l3 l4 μ = some t → aX1_settleFouls E l 7 z 3 [(0, vr l0), (1, vi l1), (2, vi l2), (3, vi l3), (4, vi l4)] [] μ (rV t)) (N : Nat) (l0 l1 l2 l3 l4 : Int) (μ : Mm) (t : Mm) (hk : m_kd μ l0 = (1, 0)) (h : jX1_settleFouls_3b k3 N l0 l1 l2 l3 l4 μ = some t) : aX1_settleFouls E l 7 z 3 [(0, vr l0), (1, vi l1), (2, vi l2), (3, vi l3), (4, vi l4)] [] μ (rV t) := by
  unfold jX1_settleFouls_3b at h
  refine a_iload 4 dX1_settleFouls_3 rfl ?_
  refine a_iload_n 3 dX1_settleFouls_5 rfl rfl ?_
  refine a_icmp_gt (tgt := 56) dX1_settleFouls_6 rfl h (fun h => ?_) (fun h => ?_)
  ·
    exact a_ret0 dX1_settleFouls_56 h
  ·
    refine a_iload_n 1 dX1_settleFouls_9 rfl rfl ?_
    refine a_iload_n 2 dX1_settleFouls_10 rfl rfl ?_
    refine a_iload_n 3 dX1_settleFouls_11 rfl rfl ?_
    refine a_iload 4 dX1_settleFouls_12 rfl ?_
    refine a_cSi [vi l1, vi l2, vi l3, vi l4] [] dX1_settleFouls_14 myX1_worthIndex mRX1_78 msX1_worthIndex (fun _ hj => tX1_worthIndex E l N l1 l2 l3 l4 μ _  hj) (by decide) rfl (Nat.le_of_ble_eq_true rfl) h (fun x1 μ1 hm h => ?_)
    have hk := hm.k hk (by decide)
    refine a_istore (L' := [(5, vi x1), (0, vr l0), (1, vi l1), (2, vi l2), (3, vi l3), (4, vi l4)]) dX1_settleFouls_17 (by decide) rfl ?_
    refine a_iload 0 dX1_settleFouls_19 rfl ?_
    refine a_if_lt (tgt := 50) dX1_settleFouls_21 rfl h (fun h => ?_) (fun h => ?_)
    ·
      exact a_sub [1, 2, 3, 4, 5] rfl (tX1_settleFouls_50 E l _ k3 p3 N l0 l1 l2 l3 l4 μ1 t hk h)
    ·
      refine a_iload 0 dX1_settleFouls_24 rfl ?_
      refine a_aload_n 1 dX1_settleFouls_26 rfl rfl ?_
      refine a_getfr (c := 1) (i := 14) dX1_settleFouls_27 fRX1_34 g1_14 rfl hk ?_
      refine a_alen dX1_settleFouls_30 h (fun x2 h => ?_)
      refine a_icmp_ge (tgt := 50) dX1_settleFouls_31 rfl h (fun h => ?_) (fun h => ?_)
      ·
        exact a_sub [1, 2, 3, 4, 5] rfl (tX1_settleFouls_50 E l _ k3 p3 N l0 l1 l2 l3 l4 μ1 t hk h)
      ·
        refine a_aload_n 1 dX1_settleFouls_34 rfl rfl ?_
        refine a_getfr (c := 1) (i := 14) dX1_settleFouls_35 fRX1_34 g1_14 rfl hk ?_
        refine a_iload 0 dX1_settleFouls_38 rfl ?_
        refine a_aload_n 1 dX1_settleFouls_40 rfl rfl ?_
        refine a_iload_n 2 dX1_settleFouls_41 rfl rfl ?_
        refine a_iload_n 3 dX1_settleFouls_42 rfl rfl ?_
        refine a_iload_n 4 dX1_settleFouls_43 rfl rfl ?_
        refine a_iload 5 dX1_settleFouls_44 rfl ?_
        refine a_cVi (c := 1) [vi l1, vi l2, vi l3, vi l4] [vi x1, vr (m_gt μ1 l0 14)] dX1_settleFouls_46 myX1_reckonWorth mRX1_82 mvX1_reckonWorth rfl (by decide) hk (fun _ hj => tX1_reckonWorth E l N l0 l1 l2 l3 l4 μ1 _ hk hj) (by decide) rfl (Nat.le_of_ble_eq_true rfl) h (fun x3 μ2 hm h => ?_)
        have hk := hm.k hk (by decide)
        refine a_iast dX1_settleFouls_49 h (fun μ3 hm h => ?_)
        have hk := hm.k hk (by decide)
        exact a_sub [1, 2, 3, 4, 5] rfl (tX1_settleFouls_50 E l _ k3 p3 N l0 l1 l2 l3 l4 μ3 t hk h)
theorem tX1_settleFouls_3 (E : m_E) (l : Launch) (z : Nat × Nat) (N : Nat) : ∀ (n : Nat) (l0 l1 l2 l3 l4 : Int) (μ : Mm) (t : Mm), m_kd μ l0 = (1, 0) → jX1_settleFouls_3 N n l0 l1 l2 l3 l4 μ = some t → aX1_settleFouls E l 7 z 3 [(0, vr l0), (1, vi l1), (2, vi l2), (3, vi l3), (4, vi l4)] [] μ (rV t)
  | 0, _, _, _, _, _, _, _, _, h => by cases h
  | n + 1, l0, l1, l2, l3, l4, μ, t, hk, h => tX1_settleFouls_3b E l z (jX1_settleFouls_3 N n) (tX1_settleFouls_3 E l z N n) N l0 l1 l2 l3 l4 μ t hk h
theorem tX1_settleFouls (E : m_E) (l : Launch) (N : Nat) (l0 l1 l2 l3 : Int) (μ : Mm) (t : Mm) (hk : m_kd μ l0 = (1, 0)) (h : jX1_settleFouls N l0 l1 l2 l3 μ = some t) : TT E l 7 yX1_settleFouls cX1_settleFouls 6 none [vr l0, vi l1, vi l2, vi l3] μ (rV t) := by
  refine tt_of (L := [(0, vr l0), (1, vi l1), (2, vi l2), (3, vi l3)]) (by decide +kernel) (Nat.le_of_ble_eq_true rfl) rfl ?_
  show aX1_settleFouls E l 7 (m_sz μ, m_sl μ) 0 [(0, vr l0), (1, vi l1), (2, vi l2), (3, vi l3)] [] μ (rV t)
  unfold jX1_settleFouls at h
  refine a_iconst dX1_settleFouls_0 (okI_b _ rfl) ?_
  refine a_istore (L' := [(4, vi 0), (0, vr l0), (1, vi l1), (2, vi l2), (3, vi l3)]) dX1_settleFouls_1 (by decide) rfl ?_
  exact a_sub [1, 2, 3, 4, 0] rfl (tX1_settleFouls_3 E l _ N N l0 l1 l2 l3 0 μ t hk h)
-- X1_settle
abbrev aX1_settle (E : m_E) (l : Launch) (d : Nat) (z : Nat × Nat) (pc : Nat) (L : List (Nat × AV)) (st : List AV) (μ : Mm) (ρ : Option AV × Mm) : Prop := AA E l d z RX1 "settle" cX1_settle 4 none pc L st μ ρ
theorem tX1_settle_22b (E : m_E) (l : Launch) (z : Nat × Nat) (k2 : Int → Int → Mm → Option (Mm)) (p2 : ∀ (l0 l1 : Int) (μ : Mm) (t : Mm), m_kd μ l0 = (1, 0) → k2 l0 l1 μ = some t → aX1_settle E l 8 z 2 [(0, vr l0), (1, vi l1)] [] μ (rV t)) (k12 : Int → Int → Int → Mm → Option (Mm)) (p12 : ∀ (l0 l1 l2 : Int) (μ : Mm) (t : Mm), m_kd μ l0 = (1, 0) → k12 l0 l1 l2 μ = some t → aX1_settle E l 8 z 12 [(0, vr l0), (1, vi l1), (2, vi l2)] [] μ (rV t)) (k22 : Int → Int → Int → Int → Mm → Option (Mm)) (p22 : ∀ (l0 l1 l2 l3 : Int) (μ : Mm) (t : Mm), m_kd μ l0 = (1, 0) → k22 l0 l1 l2 l3 μ = some t → aX1_settle E l 8 z 22 [(0, vr l0), (1, vi l1), (2, vi l2), (3, vi l3)] [] μ (rV t)) (N : Nat) (l0 l1 l2 l3 : Int) (μ : Mm) (t : Mm) (hk : m_kd μ l0 = (1, 0)) (h : jX1_settle_22b k2 k12 k22 N l0 l1 l2 l3 μ = some t) : aX1_settle E l 8 z 22 [(0, vr l0), (1, vi l1), (2, vi l2), (3, vi l3)] [] μ (rV t) := by
  unfold jX1_settle_22b at h
  refine a_iload_n 3 dX1_settle_22 rfl rfl ?_
  refine a_aload_n 0 dX1_settle_23 rfl rfl ?_
  refine a_getfi (c := 1) (i := 3) dX1_settle_24 fRX1_50 g1_3 rfl hk ?_
  refine a_icmp_gt (tgt := 43) dX1_settle_27 rfl h (fun h => ?_) (fun h => ?_)
  ·
    refine a_iinc (F := fun x1 => [(2, vi x1), (0, vr l0), (1, vi l1), (3, vi l3)]) 2 dX1_settle_43 rfl (by decide) h (fun _ => rfl) (fun x1 h => ?_)
    refine a_goto (tgt := 12) dX1_settle_46 rfl ?_
    exact a_sub [1, 2, 0] rfl (p12 l0 l1 x1 μ t hk h)
  ·
    refine a_aload_n 0 dX1_settle_30 rfl rfl ?_
    refine a_iload_n 1 dX1_settle_31 rfl rfl ?_
    refine a_iload_n 2 dX1_settle_32 rfl rfl ?_
    refine a_iload_n 3 dX1_settle_33 rfl rfl ?_
    refine a_cVv (c := 1) [vi l1, vi l2, vi l3] [] dX1_settle_34 myX1_settleFouls mRX1_74 mvX1_settleFouls rfl (by decide) hk (fun _ hj => tX1_settleFouls E l N l0 l1 l2 l3 μ _ hk hj) (by decide) rfl (Nat.le_of_ble_eq_true rfl) h (fun μ1 hm h => ?_)
    have hk := hm.k hk (by decide)
    refine a_iinc (F := fun x2 => [(3, vi x2), (0, vr l0), (1, vi l1), (2, vi l2)]) 3 dX1_settle_37 rfl (by decide) h (fun _ => rfl) (fun x2 h => ?_)
    refine a_goto (tgt := 22) dX1_settle_40 rfl ?_
    exact a_sub [1, 2, 3, 0] rfl (p22 l0 l1 l2 x2 μ1 t hk h)
theorem tX1_settle_22 (E : m_E) (l : Launch) (z : Nat × Nat) (k2 : Int → Int → Mm → Option (Mm)) (p2 : ∀ (l0 l1 : Int) (μ : Mm) (t : Mm), m_kd μ l0 = (1, 0) → k2 l0 l1 μ = some t → aX1_settle E l 8 z 2 [(0, vr l0), (1, vi l1)] [] μ (rV t)) (k12 : Int → Int → Int → Mm → Option (Mm)) (p12 : ∀ (l0 l1 l2 : Int) (μ : Mm) (t : Mm), m_kd μ l0 = (1, 0) → k12 l0 l1 l2 μ = some t → aX1_settle E l 8 z 12 [(0, vr l0), (1, vi l1), (2, vi l2)] [] μ (rV t)) (N : Nat) : ∀ (n : Nat) (l0 l1 l2 l3 : Int) (μ : Mm) (t : Mm), m_kd μ l0 = (1, 0) → jX1_settle_22 k2 k12 N n l0 l1 l2 l3 μ = some t → aX1_settle E l 8 z 22 [(0, vr l0), (1, vi l1), (2, vi l2), (3, vi l3)] [] μ (rV t)
  | 0, _, _, _, _, _, _, _, h => by cases h
  | n + 1, l0, l1, l2, l3, μ, t, hk, h => tX1_settle_22b E l z k2 p2 k12 p12 (jX1_settle_22 k2 k12 N n) (tX1_settle_22 E l z k2 p2 k12 p12 N n) N l0 l1 l2 l3 μ t hk h
theorem tX1_settle_12b (E : m_E) (l : Launch) (z : Nat × Nat) (k2 : Int → Int → Mm → Option (Mm)) (p2 : ∀ (l0 l1 : Int) (μ : Mm) (t : Mm), m_kd μ l0 = (1, 0) → k2 l0 l1 μ = some t → aX1_settle E l 8 z 2 [(0, vr l0), (1, vi l1)] [] μ (rV t)) (k12 : Int → Int → Int → Mm → Option (Mm)) (p12 : ∀ (l0 l1 l2 : Int) (μ : Mm) (t : Mm), m_kd μ l0 = (1, 0) → k12 l0 l1 l2 μ = some t → aX1_settle E l 8 z 12 [(0, vr l0), (1, vi l1), (2, vi l2)] [] μ (rV t)) (N : Nat) (l0 l1 l2 : Int) (μ : Mm) (t : Mm) (hk : m_kd μ l0 = (1, 0)) (h : jX1_settle_12b k2 k12 N l0 l1 l2 μ = some t) : aX1_settle E l 8 z 12 [(0, vr l0), (1, vi l1), (2, vi l2)] [] μ (rV t) := by
  unfold jX1_settle_12b at h
  refine a_iload_n 2 dX1_settle_12 rfl rfl ?_
  refine a_aload_n 0 dX1_settle_13 rfl rfl ?_
  refine a_getfi (c := 1) (i := 1) dX1_settle_14 fRX1_44 g1_1 rfl hk ?_
  refine a_icmp_gt (tgt := 49) dX1_settle_17 rfl h (fun h => ?_) (fun h => ?_)
  ·
    refine a_iinc (F := fun x1 => [(1, vi x1), (0, vr l0), (2, vi l2)]) 1 dX1_settle_49 rfl (by decide) h (fun _ => rfl) (fun x1 h => ?_)
    refine a_goto (tgt := 2) dX1_settle_52 rfl ?_
    exact a_sub [1, 0] rfl (p2 l0 x1 μ t hk h)
  ·
    refine a_iconst dX1_settle_20 (okI_b _ rfl) ?_
    refine a_istore_n (L' := [(3, vi 1), (0, vr l0), (1, vi l1), (2, vi l2)]) dX1_settle_21 rfl (by decide) rfl ?_
    exact a_sub [1, 2, 3, 0] rfl (tX1_settle_22 E l _ k2 p2 k12 p12 N N l0 l1 l2 1 μ t hk h)
theorem tX1_settle_12 (E : m_E) (l : Launch) (z : Nat × Nat) (k2 : Int → Int → Mm → Option (Mm)) (p2 : ∀ (l0 l1 : Int) (μ : Mm) (t : Mm), m_kd μ l0 = (1, 0) → k2 l0 l1 μ = some t → aX1_settle E l 8 z 2 [(0, vr l0), (1, vi l1)] [] μ (rV t)) (N : Nat) : ∀ (n : Nat) (l0 l1 l2 : Int) (μ : Mm) (t : Mm), m_kd μ l0 = (1, 0) → jX1_settle_12 k2 N n l0 l1 l2 μ = some t → aX1_settle E l 8 z 12 [(0, vr l0), (1, vi l1), (2, vi l2)] [] μ (rV t)
  | 0, _, _, _, _, _, _, h => by cases h
  | n + 1, l0, l1, l2, μ, t, hk, h => tX1_settle_12b E l z k2 p2 (jX1_settle_12 k2 N n) (tX1_settle_12 E l z k2 p2 N n) N l0 l1 l2 μ t hk h
theorem tX1_settle_2b (E : m_E) (l : Launch) (z : Nat × Nat) (k2 : Int → Int → Mm → Option (Mm)) (p2 : ∀ (l0 l1 : Int) (μ : Mm) (t : Mm), m_kd μ l0 = (1, 0) → k2 l0 l1 μ = some t → aX1_settle E l 8 z 2 [(0, vr l0), (1, vi l1)] [] μ (rV t)) (N : Nat) (l0 l1 : Int) (μ : Mm) (t : Mm) (hk : m_kd μ l0 = (1, 0)) (h : jX1_settle_2b k2 N l0 l1 μ = some t) : aX1_settle E l 8 z 2 [(0, vr l0), (1, vi l1)] [] μ (rV t) := by
  unfold jX1_settle_2b at h
  refine a_iload_n 1 dX1_settle_2 rfl rfl ?_
  refine a_aload_n 0 dX1_settle_3 rfl rfl ?_
  refine a_getfi (c := 1) (i := 2) dX1_settle_4 fRX1_47 g1_2 rfl hk ?_
  refine a_icmp_ge (tgt := 55) dX1_settle_7 rfl h (fun h => ?_) (fun h => ?_)
  ·
    exact a_ret0 dX1_settle_55 h
  ·
    refine a_iconst dX1_settle_10 (okI_b _ rfl) ?_
    refine a_istore_n (L' := [(2, vi 0), (0, vr l0), (1, vi l1)]) dX1_settle_11 rfl (by decide) rfl ?_
    exact a_sub [1, 2, 0] rfl (tX1_settle_12 E l _ k2 p2 N N l0 l1 0 μ t hk h)
theorem tX1_settle_2 (E : m_E) (l : Launch) (z : Nat × Nat) (N : Nat) : ∀ (n : Nat) (l0 l1 : Int) (μ : Mm) (t : Mm), m_kd μ l0 = (1, 0) → jX1_settle_2 N n l0 l1 μ = some t → aX1_settle E l 8 z 2 [(0, vr l0), (1, vi l1)] [] μ (rV t)
  | 0, _, _, _, _, _, h => by cases h
  | n + 1, l0, l1, μ, t, hk, h => tX1_settle_2b E l z (jX1_settle_2 N n) (tX1_settle_2 E l z N n) N l0 l1 μ t hk h
theorem tX1_settle (E : m_E) (l : Launch) (N : Nat) (l0 : Int) (μ : Mm) (t : Mm) (hk : m_kd μ l0 = (1, 0)) (h : jX1_settle N l0 μ = some t) : TT E l 8 yX1_settle cX1_settle 4 none [vr l0] μ (rV t) := by
  refine tt_of (L := [(0, vr l0)]) (by decide +kernel) (Nat.le_of_ble_eq_true rfl) rfl ?_
  show aX1_settle E l 8 (m_sz μ, m_sl μ) 0 [(0, vr l0)] [] μ (rV t)
  unfold jX1_settle at h
  refine a_iconst dX1_settle_0 (okI_b _ rfl) ?_
  refine a_istore_n (L' := [(1, vi 0), (0, vr l0)]) dX1_settle_1 rfl (by decide) rfl ?_
  exact a_sub [1, 0] rfl (tX1_settle_2 E l _ N N l0 0 μ t hk h)
-- X1_worthOf
abbrev aX1_worthOf (E : m_E) (l : Launch) (d : Nat) (z : Nat × Nat) (pc : Nat) (L : List (Nat × AV)) (st : List AV) (μ : Mm) (ρ : Option AV × Mm) : Prop := AA E l d z RX1 "worthOf" cX1_worthOf 6 (some .int) pc L st μ ρ
theorem tX1_worthOf_36 (E : m_E) (l : Launch) (z : Nat × Nat) (N : Nat) (l0 s0 : Int) (μ : Mm) (t : Int × Mm) (hk : m_kd μ l0 = (1, 0)) (h : jX1_worthOf_36 N l0 s0 μ = some t) : aX1_worthOf E l 2 z 36 [(0, vr l0)] [vi s0] μ (rI t) := by
  unfold jX1_worthOf_36 at h
  exact a_reti dX1_worthOf_36 h
theorem tX1_worthOf_25 (E : m_E) (l : Launch) (z : Nat × Nat) (N : Nat) (l0 : Int) (μ : Mm) (t : Int × Mm) (hk : m_kd μ l0 = (1, 0)) (h : jX1_worthOf_25 N l0 μ = some t) : aX1_worthOf E l 2 z 25 [(0, vr l0)] [] μ (rI t) := by
  unfold jX1_worthOf_25 at h
  refine a_iconst dX1_worthOf_25 (okI_b _ rfl) ?_
  refine a_goto (tgt := 36) dX1_worthOf_26 rfl ?_
  exact a_sub [0] rfl (tX1_worthOf_36 E l _ N l0 0 μ t hk h)
theorem tX1_worthOf (E : m_E) (l : Launch) (N : Nat) (l0 l1 l2 l3 l4 : Int) (μ : Mm) (t : Int × Mm) (hk : m_kd μ l0 = (1, 0)) (h : jX1_worthOf N l0 l1 l2 l3 l4 μ = some t) : TT E l 2 yX1_worthOf cX1_worthOf 6 (some .int) [vr l0, vi l1, vi l2, vi l3, vi l4] μ (rI t) := by
  refine tt_of (L := [(0, vr l0), (1, vi l1), (2, vi l2), (3, vi l3), (4, vi l4)]) (by decide +kernel) (Nat.le_of_ble_eq_true rfl) rfl ?_
  show aX1_worthOf E l 2 (m_sz μ, m_sl μ) 0 [(0, vr l0), (1, vi l1), (2, vi l2), (3, vi l3), (4, vi l4)] [] μ (rI t)
  unfold jX1_worthOf at h
  refine a_iload_n 1 dX1_worthOf_0 rfl rfl ?_
  refine a_iload_n 2 dX1_worthOf_1 rfl rfl ?_
  refine a_iload_n 3 dX1_worthOf_2 rfl rfl ?_
  refine a_iload 4 dX1_worthOf_3 rfl ?_
  refine a_cSi [vi l1, vi l2, vi l3, vi l4] [] dX1_worthOf_5 myX1_worthIndex mRX1_78 msX1_worthIndex (fun _ hj => tX1_worthIndex E l N l1 l2 l3 l4 μ _  hj) (by decide) rfl (Nat.le_of_ble_eq_true rfl) h (fun x1 μ1 hm h => ?_)
  have hk := hm.k hk (by decide)
  refine a_istore (L' := [(5, vi x1), (0, vr l0), (1, vi l1), (2, vi l2), (3, vi l3), (4, vi l4)]) dX1_worthOf_8 (by decide) rfl ?_
  refine a_iload 0 dX1_worthOf_10 rfl ?_
  refine a_if_lt (tgt := 25) dX1_worthOf_12 rfl h (fun h => ?_) (fun h => ?_)
  ·
    exact a_sub [1] rfl (tX1_worthOf_25 E l _ N l0 μ1 t hk h)
  ·
    refine a_iload 0 dX1_worthOf_15 rfl ?_
    refine a_aload_n 1 dX1_worthOf_17 rfl rfl ?_
    refine a_getfr (c := 1) (i := 14) dX1_worthOf_18 fRX1_34 g1_14 rfl hk ?_
    refine a_alen dX1_worthOf_21 h (fun x2 h => ?_)
    refine a_icmp_lt (tgt := 29) dX1_worthOf_22 rfl h (fun h => ?_) (fun h => ?_)
    ·
      refine a_aload_n 1 dX1_worthOf_29 rfl rfl ?_
      refine a_getfr (c := 1) (i := 14) dX1_worthOf_30 fRX1_34 g1_14 rfl hk ?_
      refine a_iload 0 dX1_worthOf_33 rfl ?_
      refine a_iald dX1_worthOf_35 h (fun x3 h => ?_)
      exact a_sub [1] rfl (tX1_worthOf_36 E l _ N l0 x3 μ1 t hk h)
    ·
      exact a_sub [1] rfl (tX1_worthOf_25 E l _ N l0 μ1 t hk h)
-- X1_earnedBy
abbrev aX1_earnedBy (E : m_E) (l : Launch) (d : Nat) (z : Nat × Nat) (pc : Nat) (L : List (Nat × AV)) (st : List AV) (μ : Mm) (ρ : Option AV × Mm) : Prop := AA E l d z RX1 "earnedBy" cX1_earnedBy 2 (some .int) pc L st μ ρ
theorem tX1_earnedBy_23 (E : m_E) (l : Launch) (z : Nat × Nat) (N : Nat) (l0 s0 : Int) (μ : Mm) (t : Int × Mm) (hk : m_kd μ l0 = (1, 0)) (h : jX1_earnedBy_23 N l0 s0 μ = some t) : aX1_earnedBy E l 1 z 23 [(0, vr l0)] [vi s0] μ (rI t) := by
  unfold jX1_earnedBy_23 at h
  exact a_reti dX1_earnedBy_23 h
theorem tX1_earnedBy_13 (E : m_E) (l : Launch) (z : Nat × Nat) (N : Nat) (l0 : Int) (μ : Mm) (t : Int × Mm) (hk : m_kd μ l0 = (1, 0)) (h : jX1_earnedBy_13 N l0 μ = some t) : aX1_earnedBy E l 1 z 13 [(0, vr l0)] [] μ (rI t) := by
  unfold jX1_earnedBy_13 at h
  refine a_iconst dX1_earnedBy_13 (okI_b _ rfl) ?_
  refine a_goto (tgt := 23) dX1_earnedBy_14 rfl ?_
  exact a_sub [0] rfl (tX1_earnedBy_23 E l _ N l0 0 μ t hk h)
theorem tX1_earnedBy (E : m_E) (l : Launch) (N : Nat) (l0 l1 : Int) (μ : Mm) (t : Int × Mm) (hk : m_kd μ l0 = (1, 0)) (h : jX1_earnedBy N l0 l1 μ = some t) : TT E l 1 yX1_earnedBy cX1_earnedBy 2 (some .int) [vr l0, vi l1] μ (rI t) := by
  refine tt_of (L := [(0, vr l0), (1, vi l1)]) (by decide +kernel) (Nat.le_of_ble_eq_true rfl) rfl ?_
  show aX1_earnedBy E l 1 (m_sz μ, m_sl μ) 0 [(0, vr l0), (1, vi l1)] [] μ (rI t)
  unfold jX1_earnedBy at h
  refine a_iload_n 1 dX1_earnedBy_0 rfl rfl ?_
  refine a_if_lt (tgt := 13) dX1_earnedBy_1 rfl h (fun h => ?_) (fun h => ?_)
  ·
    exact a_sub [0] rfl (tX1_earnedBy_13 E l _ N l0 μ t hk h)
  ·
    refine a_iload_n 1 dX1_earnedBy_4 rfl rfl ?_
    refine a_aload_n 0 dX1_earnedBy_5 rfl rfl ?_
    refine a_getfr (c := 1) (i := 7) dX1_earnedBy_6 fRX1_18 g1_7 rfl hk ?_
    refine a_alen dX1_earnedBy_9 h (fun x1 h => ?_)
    refine a_icmp_lt (tgt := 17) dX1_earnedBy_10 rfl h (fun h => ?_) (fun h => ?_)
    ·
      refine a_aload_n 0 dX1_earnedBy_17 rfl rfl ?_
      refine a_getfr (c := 1) (i := 7) dX1_earnedBy_18 fRX1_18 g1_7 rfl hk ?_
      refine a_iload_n 1 dX1_earnedBy_21 rfl rfl ?_
      refine a_iald dX1_earnedBy_22 h (fun x2 h => ?_)
      exact a_sub [0] rfl (tX1_earnedBy_23 E l _ N l0 x2 μ t hk h)
    ·
      exact a_sub [0] rfl (tX1_earnedBy_13 E l _ N l0 μ t hk h)
-- X1_handicap
abbrev aX1_handicap (E : m_E) (l : Launch) (d : Nat) (z : Nat × Nat) (pc : Nat) (L : List (Nat × AV)) (st : List AV) (μ : Mm) (ρ : Option AV × Mm) : Prop := AA E l d z RX1 "handicap" cX1_handicap 3 (some .int) pc L st μ ρ
theorem tX1_handicap (E : m_E) (l : Launch) (N : Nat) (l0 l1 l2 : Int) (μ : Mm) (t : Int × Mm) (hk : m_kd μ l0 = (1, 0)) (h : jX1_handicap N l0 l1 l2 μ = some t) : TT E l 6 yX1_handicap cX1_handicap 3 (some .int) [vr l0, vi l1, vi l2] μ (rI t) := by
  refine tt_of (L := [(0, vr l0), (1, vi l1), (2, vi l2)]) (by decide +kernel) (Nat.le_of_ble_eq_true rfl) rfl ?_
  show aX1_handicap E l 6 (m_sz μ, m_sl μ) 0 [(0, vr l0), (1, vi l1), (2, vi l2)] [] μ (rI t)
  unfold jX1_handicap at h
  refine a_aload_n 0 dX1_handicap_0 rfl rfl ?_
  refine a_getfr (c := 1) (i := 6) dX1_handicap_1 fRX1_12 g1_6 rfl hk ?_
  refine a_iload_n 1 dX1_handicap_4 rfl rfl ?_
  refine a_iload_n 2 dX1_handicap_5 rfl rfl ?_
  refine m_chk_k h (fun hq4 h => ?_)
  refine a_cVv (c := 0) [vi l1, vi l2] [] dX1_handicap_6 myX0_setPlayer mRX1_97 mvX0_setPlayer rfl (by decide) hq4 (fun _ hj => tX0_setPlayer E l N (m_gt μ l0 6) l1 l2 μ _ hq4 hj) (by decide) rfl (Nat.le_of_ble_eq_true rfl) h (fun μ1 hm h => ?_)
  have hk := hm.k hk (by decide)
  have hq4 := hm.k hq4 (by decide)
  refine a_iconst dX1_handicap_9 (okI_b _ rfl) ?_
  refine a_aload_n 0 dX1_handicap_10 rfl rfl ?_
  refine a_getfr (c := 1) (i := 6) dX1_handicap_11 fRX1_12 g1_6 rfl hk ?_
  refine a_aload_n 0 dX1_handicap_14 rfl rfl ?_
  refine a_getfi (c := 1) (i := 12) dX1_handicap_15 fRX1_60 g1_12 rfl hk ?_
  refine a_aload_n 0 dX1_handicap_18 rfl rfl ?_
  refine a_getfi (c := 1) (i := 13) dX1_handicap_19 fRX1_63 g1_13 rfl hk ?_
  refine m_chk_k h (fun hq15 h => ?_)
  refine a_cVi (c := 0) [vi (m_gt μ1 l0 12), vi (m_gt μ1 l0 13)] [vi 0] dX1_handicap_22 myX0_reckon mRX1_89 mvX0_reckon rfl (by decide) hq15 (fun _ hj => tX0_reckon E l N (m_gt μ1 l0 6) (m_gt μ1 l0 12) (m_gt μ1 l0 13) μ1 _ hq15 hj) (by decide) rfl (Nat.le_of_ble_eq_true rfl) h (fun x1 μ2 hm h => ?_)
  have hk := hm.k hk (by decide)
  have hq4 := hm.k hq4 (by decide)
  have hq15 := hm.k hq15 (by decide)
  refine a_bipush dX1_handicap_25 ⟨rfl, okI_b _ rfl⟩ ?_
  refine a_cSNi (host := "NinepinAlley") [vi 0, vi x1, vi 99] [] dX1_handicap_27 myX7_within (by decide) msX7_within (fun _ hj => tX7_within E l N 0 x1 99 μ2 _  hj) (by decide) rfl (Nat.le_of_ble_eq_true rfl) h (fun x2 μ3 hm h => ?_)
  have hk := hm.k hk (by decide)
  have hq4 := hm.k hq4 (by decide)
  have hq15 := hm.k hq15 (by decide)
  exact a_reti dX1_handicap_30 h
-- X1_hasPins
abbrev aX1_hasPins (E : m_E) (l : Launch) (d : Nat) (z : Nat × Nat) (pc : Nat) (L : List (Nat × AV)) (st : List AV) (μ : Mm) (ρ : Option AV × Mm) : Prop := AA E l d z RX1 "hasPins" cX1_hasPins 2 (some .boolean) pc L st μ ρ
theorem tX1_hasPins_19 (E : m_E) (l : Launch) (z : Nat × Nat) (N : Nat) (l0 s0 : Int) (μ : Mm) (t : Int × Mm) (hk : m_kd μ l0 = (1, 0)) (h : jX1_hasPins_19 N l0 s0 μ = some t) : aX1_hasPins E l 1 z 19 [(0, vr l0)] [vi s0] μ (rI t) := by
  unfold jX1_hasPins_19 at h
  exact a_retz dX1_hasPins_19 h
theorem tX1_hasPins_18 (E : m_E) (l : Launch) (z : Nat × Nat) (N : Nat) (l0 : Int) (μ : Mm) (t : Int × Mm) (hk : m_kd μ l0 = (1, 0)) (h : jX1_hasPins_18 N l0 μ = some t) : aX1_hasPins E l 1 z 18 [(0, vr l0)] [] μ (rI t) := by
  unfold jX1_hasPins_18 at h
  refine a_iconst dX1_hasPins_18 (okI_b _ rfl) ?_
  exact a_sub [0] rfl (tX1_hasPins_19 E l _ N l0 0 μ t hk h)
theorem tX1_hasPins (E : m_E) (l : Launch) (N : Nat) (l0 l1 : Int) (μ : Mm) (t : Int × Mm) (hk : m_kd μ l0 = (1, 0)) (h : jX1_hasPins N l0 l1 μ = some t) : TT E l 1 yX1_hasPins cX1_hasPins 2 (some .boolean) [vr l0, vi l1] μ (rI t) := by
  refine tt_of (L := [(0, vr l0), (1, vi l1)]) (by decide +kernel) (Nat.le_of_ble_eq_true rfl) rfl ?_
  show aX1_hasPins E l 1 (m_sz μ, m_sl μ) 0 [(0, vr l0), (1, vi l1)] [] μ (rI t)
  unfold jX1_hasPins at h
  refine a_iload_n 1 dX1_hasPins_0 rfl rfl ?_
  refine a_if_lt (tgt := 18) dX1_hasPins_1 rfl h (fun h => ?_) (fun h => ?_)
  ·
    exact a_sub [0] rfl (tX1_hasPins_18 E l _ N l0 μ t hk h)
  ·
    refine a_iload_n 1 dX1_hasPins_4 rfl rfl ?_
    refine a_iconst dX1_hasPins_5 (okI_b _ rfl) ?_
    refine a_aload_n 0 dX1_hasPins_6 rfl rfl ?_
    refine a_getfi (c := 1) (i := 1) dX1_hasPins_7 fRX1_44 g1_1 rfl hk ?_
    refine a_ishl dX1_hasPins_10 ?_
    refine a_icmp_ge (tgt := 18) dX1_hasPins_11 rfl h (fun h => ?_) (fun h => ?_)
    ·
      exact a_sub [0] rfl (tX1_hasPins_18 E l _ N l0 μ t hk h)
    ·
      refine a_iconst dX1_hasPins_14 (okI_b _ rfl) ?_
      refine a_goto (tgt := 19) dX1_hasPins_15 rfl ?_
      exact a_sub [0] rfl (tX1_hasPins_19 E l _ N l0 1 μ t hk h)
-- X1_countJoins
abbrev aX1_countJoins (E : m_E) (l : Launch) (d : Nat) (z : Nat × Nat) (pc : Nat) (L : List (Nat × AV)) (st : List AV) (μ : Mm) (ρ : Option AV × Mm) : Prop := AA E l d z RX1 "countJoins" cX1_countJoins 3 (some .int) pc L st μ ρ
theorem tX1_countJoins_4b (E : m_E) (l : Launch) (z : Nat × Nat) (k4 : Int → Int → Int → Mm → Option (Int × Mm)) (p4 : ∀ (l0 l1 l2 : Int) (μ : Mm) (t : Int × Mm), m_kd μ l0 = (1, 0) → k4 l0 l1 l2 μ = some t → aX1_countJoins E l 2 z 4 [(0, vr l0), (1, vi l1), (2, vi l2)] [] μ (rI t)) (N : Nat) (l0 l1 l2 : Int) (μ : Mm) (t : Int × Mm) (hk : m_kd μ l0 = (1, 0)) (h : jX1_countJoins_4b k4 N l0 l1 l2 μ = some t) : aX1_countJoins E l 2 z 4 [(0, vr l0), (1, vi l1), (2, vi l2)] [] μ (rI t) := by
  unfold jX1_countJoins_4b at h
  refine a_iload_n 2 dX1_countJoins_4 rfl rfl ?_
  refine a_aload_n 0 dX1_countJoins_5 rfl rfl ?_
  refine a_getfr (c := 1) (i := 8) dX1_countJoins_6 fRX1_22 g1_8 rfl hk ?_
  refine a_alen dX1_countJoins_9 h (fun x1 h => ?_)
  refine a_icmp_ge (tgt := 31) dX1_countJoins_10 rfl h (fun h => ?_) (fun h => ?_)
  ·
    refine a_iload_n 1 dX1_countJoins_31 rfl rfl ?_
    refine a_iconst dX1_countJoins_32 (okI_b _ rfl) ?_
    refine a_idivn (by decide) dX1_countJoins_33 ?_
    exact a_reti dX1_countJoins_34 h
  ·
    refine a_iload_n 1 dX1_countJoins_13 rfl rfl ?_
    refine a_aload_n 0 dX1_countJoins_14 rfl rfl ?_
    refine a_getfr (c := 1) (i := 8) dX1_countJoins_15 fRX1_22 g1_8 rfl hk ?_
    refine a_iload_n 2 dX1_countJoins_18 rfl rfl ?_
    refine a_iald dX1_countJoins_19 h (fun x2 h => ?_)
    refine a_cSi [vi x2] [vi l1] dX1_countJoins_20 myJ6_bitCount_0f7a4 mRX1_101 msJ6_bitCount_0f7a4 (fun _ hj => tJ6_bitCount_0f7a4 E l N x2 μ _  hj) (by decide) rfl (Nat.le_of_ble_eq_true rfl) h (fun x3 μ1 hm h => ?_)
    have hk := hm.k hk (by decide)
    refine a_iadd dX1_countJoins_23 ?_
    refine a_nmi h (fun x4 h => ?_)
    refine a_istore_n (L' := [(1, vi x4), (0, vr l0), (2, vi l2)]) dX1_countJoins_24 rfl (by decide) rfl ?_
    refine a_iinc (F := fun x5 => [(2, vi x5), (1, vi x4), (0, vr l0)]) 2 dX1_countJoins_25 rfl (by decide) h (fun _ => rfl) (fun x5 h => ?_)
    refine a_goto (tgt := 4) dX1_countJoins_28 rfl ?_
    exact a_sub [2, 1, 0] rfl (p4 l0 x4 x5 μ1 t hk h)
theorem tX1_countJoins_4 (E : m_E) (l : Launch) (z : Nat × Nat) (N : Nat) : ∀ (n : Nat) (l0 l1 l2 : Int) (μ : Mm) (t : Int × Mm), m_kd μ l0 = (1, 0) → jX1_countJoins_4 N n l0 l1 l2 μ = some t → aX1_countJoins E l 2 z 4 [(0, vr l0), (1, vi l1), (2, vi l2)] [] μ (rI t)
  | 0, _, _, _, _, _, _, h => by cases h
  | n + 1, l0, l1, l2, μ, t, hk, h => tX1_countJoins_4b E l z (jX1_countJoins_4 N n) (tX1_countJoins_4 E l z N n) N l0 l1 l2 μ t hk h
theorem tX1_countJoins (E : m_E) (l : Launch) (N : Nat) (l0 : Int) (μ : Mm) (t : Int × Mm) (hk : m_kd μ l0 = (1, 0)) (h : jX1_countJoins N l0 μ = some t) : TT E l 2 yX1_countJoins cX1_countJoins 3 (some .int) [vr l0] μ (rI t) := by
  refine tt_of (L := [(0, vr l0)]) (by decide +kernel) (Nat.le_of_ble_eq_true rfl) rfl ?_
  show aX1_countJoins E l 2 (m_sz μ, m_sl μ) 0 [(0, vr l0)] [] μ (rI t)
  unfold jX1_countJoins at h
  refine a_iconst dX1_countJoins_0 (okI_b _ rfl) ?_
  refine a_istore_n (L' := [(1, vi 0), (0, vr l0)]) dX1_countJoins_1 rfl (by decide) rfl ?_
  refine a_iconst dX1_countJoins_2 (okI_b _ rfl) ?_
  refine a_istore_n (L' := [(2, vi 0), (1, vi 0), (0, vr l0)]) dX1_countJoins_3 rfl (by decide) rfl ?_
  exact a_sub [2, 1, 0] rfl (tX1_countJoins_4 E l _ N N l0 0 0 μ t hk h)
-- X1_cluster
abbrev aX1_cluster (E : m_E) (l : Launch) (d : Nat) (z : Nat × Nat) (pc : Nat) (L : List (Nat × AV)) (st : List AV) (μ : Mm) (ρ : Option AV × Mm) : Prop := AA E l d z RX1 "cluster" cX1_cluster 6 (some .int) pc L st μ ρ
theorem tX1_cluster_53 (E : m_E) (l : Launch) (z : Nat × Nat) (k7 : Int → Int → Int → Int → Mm → Option (Int × Mm)) (p7 : ∀ (l0 l1 l2 l3 : Int) (μ : Mm) (t : Int × Mm), m_kd μ l0 = (1, 0) → k7 l0 l1 l2 l3 μ = some t → aX1_cluster E l 1 z 7 [(0, vr l0), (1, vi l1), (2, vi l2), (3, vi l3)] [] μ (rI t)) (k19 : Int → Int → Int → Int → Int → Int → Mm → Option (Int × Mm)) (p19 : ∀ (l0 l1 l2 l3 l4 l5 : Int) (μ : Mm) (t : Int × Mm), m_kd μ l0 = (1, 0) → k19 l0 l1 l2 l3 l4 l5 μ = some t → aX1_cluster E l 1 z 19 [(0, vr l0), (1, vi l1), (2, vi l2), (3, vi l3), (4, vi l4), (5, vi l5)] [] μ (rI t)) (N : Nat) (l0 l1 l2 l3 l4 l5 : Int) (μ : Mm) (t : Int × Mm) (hk : m_kd μ l0 = (1, 0)) (h : jX1_cluster_53 k7 k19 N l0 l1 l2 l3 l4 l5 μ = some t) : aX1_cluster E l 1 z 53 [(0, vr l0), (1, vi l1), (2, vi l2), (3, vi l3), (4, vi l4), (5, vi l5)] [] μ (rI t) := by
  unfold jX1_cluster_53 at h
  refine a_iinc (F := fun x1 => [(5, vi x1), (0, vr l0), (1, vi l1), (2, vi l2), (3, vi l3), (4, vi l4)]) 5 dX1_cluster_53 rfl (by decide) h (fun _ => rfl) (fun x1 h => ?_)
  refine a_goto (tgt := 19) dX1_cluster_56 rfl ?_
  exact a_sub [1, 2, 3, 4, 5, 0] rfl (p19 l0 l1 l2 l3 l4 x1 μ t hk h)
theorem tX1_cluster_19b (E : m_E) (l : Launch) (z : Nat × Nat) (k7 : Int → Int → Int → Int → Mm → Option (Int × Mm)) (p7 : ∀ (l0 l1 l2 l3 : Int) (μ : Mm) (t : Int × Mm), m_kd μ l0 = (1, 0) → k7 l0 l1 l2 l3 μ = some t → aX1_cluster E l 1 z 7 [(0, vr l0), (1, vi l1), (2, vi l2), (3, vi l3)] [] μ (rI t)) (k19 : Int → Int → Int → Int → Int → Int → Mm → Option (Int × Mm)) (p19 : ∀ (l0 l1 l2 l3 l4 l5 : Int) (μ : Mm) (t : Int × Mm), m_kd μ l0 = (1, 0) → k19 l0 l1 l2 l3 l4 l5 μ = some t → aX1_cluster E l 1 z 19 [(0, vr l0), (1, vi l1), (2, vi l2), (3, vi l3), (4, vi l4), (5, vi l5)] [] μ (rI t)) (N : Nat) (l0 l1 l2 l3 l4 l5 : Int) (μ : Mm) (t : Int × Mm) (hk : m_kd μ l0 = (1, 0)) (h : jX1_cluster_19b k7 k19 N l0 l1 l2 l3 l4 l5 μ = some t) : aX1_cluster E l 1 z 19 [(0, vr l0), (1, vi l1), (2, vi l2), (3, vi l3), (4, vi l4), (5, vi l5)] [] μ (rI t) := by
  unfold jX1_cluster_19b at h
  refine a_iload 5 dX1_cluster_19 rfl ?_
  refine a_aload_n 0 dX1_cluster_21 rfl rfl ?_
  refine a_getfr (c := 1) (i := 8) dX1_cluster_22 fRX1_22 g1_8 rfl hk ?_
  refine a_alen dX1_cluster_25 h (fun x1 h => ?_)
  refine a_icmp_ge (tgt := 59) dX1_cluster_26 rfl h (fun h => ?_) (fun h => ?_)
  ·
    refine a_iload 4 dX1_cluster_59 rfl ?_
    refine a_iload_n 2 dX1_cluster_61 rfl rfl ?_
    refine a_icmp_ne (tgt := 67) dX1_cluster_62 rfl h (fun h => ?_) (fun h => ?_)
    ·
      refine a_iload 4 dX1_cluster_67 rfl ?_
      refine a_istore_n (L' := [(2, vi l4), (0, vr l0), (1, vi l1), (3, vi l3), (4, vi l4), (5, vi l5)]) dX1_cluster_69 rfl (by decide) rfl ?_
      refine a_iinc (F := fun x2 => [(3, vi x2), (2, vi l4), (0, vr l0), (1, vi l1), (4, vi l4), (5, vi l5)]) 3 dX1_cluster_70 rfl (by decide) h (fun _ => rfl) (fun x2 h => ?_)
      refine a_goto (tgt := 7) dX1_cluster_73 rfl ?_
      exact a_sub [2, 3, 1, 0] rfl (p7 l0 l1 l4 x2 μ t hk h)
    ·
      refine a_iload_n 2 dX1_cluster_65 rfl rfl ?_
      exact a_reti dX1_cluster_66 h
  ·
    refine a_iload_n 2 dX1_cluster_29 rfl rfl ?_
    refine a_iload 5 dX1_cluster_30 rfl ?_
    refine a_ishr dX1_cluster_32 ?_
    refine a_iconst dX1_cluster_33 (okI_b _ rfl) ?_
    refine a_iand dX1_cluster_34 ?_
    refine a_iconst dX1_cluster_35 (okI_b _ rfl) ?_
    refine a_icmp_ne (tgt := 53) dX1_cluster_36 rfl h (fun h => ?_) (fun h => ?_)
    ·
      exact a_sub [0, 1, 2, 3, 4, 5] rfl (tX1_cluster_53 E l _ k7 p7 k19 p19 N l0 l1 l2 l3 l4 l5 μ t hk h)
    ·
      refine a_iload 4 dX1_cluster_39 rfl ?_
      refine a_aload_n 0 dX1_cluster_41 rfl rfl ?_
      refine a_getfr (c := 1) (i := 8) dX1_cluster_42 fRX1_22 g1_8 rfl hk ?_
      refine a_iload 5 dX1_cluster_45 rfl ?_
      refine a_iald dX1_cluster_47 h (fun x3 h => ?_)
      refine a_iload_n 1 dX1_cluster_48 rfl rfl ?_
      refine a_iand dX1_cluster_49 ?_
      refine a_ior dX1_cluster_50 ?_
      refine a_nmi h (fun x4 h => ?_)
      refine a_istore (L' := [(4, vi x4), (0, vr l0), (1, vi l1), (2, vi l2), (3, vi l3), (5, vi l5)]) dX1_cluster_51 (by decide) rfl ?_
      exact a_sub [1, 2, 3, 4, 0, 5] rfl (tX1_cluster_53 E l _ k7 p7 k19 p19 N l0 l1 l2 l3 x4 l5 μ t hk h)
theorem tX1_cluster_19 (E : m_E) (l : Launch) (z : Nat × Nat) (k7 : Int → Int → Int → Int → Mm → Option (Int × Mm)) (p7 : ∀ (l0 l1 l2 l3 : Int) (μ : Mm) (t : Int × Mm), m_kd μ l0 = (1, 0) → k7 l0 l1 l2 l3 μ = some t → aX1_cluster E l 1 z 7 [(0, vr l0), (1, vi l1), (2, vi l2), (3, vi l3)] [] μ (rI t)) (N : Nat) : ∀ (n : Nat) (l0 l1 l2 l3 l4 l5 : Int) (μ : Mm) (t : Int × Mm), m_kd μ l0 = (1, 0) → jX1_cluster_19 k7 N n l0 l1 l2 l3 l4 l5 μ = some t → aX1_cluster E l 1 z 19 [(0, vr l0), (1, vi l1), (2, vi l2), (3, vi l3), (4, vi l4), (5, vi l5)] [] μ (rI t)
  | 0, _, _, _, _, _, _, _, _, _, h => by cases h
  | n + 1, l0, l1, l2, l3, l4, l5, μ, t, hk, h => tX1_cluster_19b E l z k7 p7 (jX1_cluster_19 k7 N n) (tX1_cluster_19 E l z k7 p7 N n) N l0 l1 l2 l3 l4 l5 μ t hk h
theorem tX1_cluster_7b (E : m_E) (l : Launch) (z : Nat × Nat) (k7 : Int → Int → Int → Int → Mm → Option (Int × Mm)) (p7 : ∀ (l0 l1 l2 l3 : Int) (μ : Mm) (t : Int × Mm), m_kd μ l0 = (1, 0) → k7 l0 l1 l2 l3 μ = some t → aX1_cluster E l 1 z 7 [(0, vr l0), (1, vi l1), (2, vi l2), (3, vi l3)] [] μ (rI t)) (N : Nat) (l0 l1 l2 l3 : Int) (μ : Mm) (t : Int × Mm) (hk : m_kd μ l0 = (1, 0)) (h : jX1_cluster_7b k7 N l0 l1 l2 l3 μ = some t) : aX1_cluster E l 1 z 7 [(0, vr l0), (1, vi l1), (2, vi l2), (3, vi l3)] [] μ (rI t) := by
  unfold jX1_cluster_7b at h
  refine a_iload_n 3 dX1_cluster_7 rfl rfl ?_
  refine a_bipush dX1_cluster_8 ⟨rfl, okI_b _ rfl⟩ ?_
  refine a_icmp_ge (tgt := 76) dX1_cluster_10 rfl h (fun h => ?_) (fun h => ?_)
  ·
    refine a_iload_n 2 dX1_cluster_76 rfl rfl ?_
    exact a_reti dX1_cluster_77 h
  ·
    refine a_iload_n 2 dX1_cluster_13 rfl rfl ?_
    refine a_istore (L' := [(4, vi l2), (0, vr l0), (1, vi l1), (2, vi l2), (3, vi l3)]) dX1_cluster_14 (by decide) rfl ?_
    refine a_iconst dX1_cluster_16 (okI_b _ rfl) ?_
    refine a_istore (L' := [(5, vi 0), (4, vi l2), (0, vr l0), (1, vi l1), (2, vi l2), (3, vi l3)]) dX1_cluster_17 (by decide) rfl ?_
    exact a_sub [2, 3, 4, 5, 1, 0] rfl (tX1_cluster_19 E l _ k7 p7 N N l0 l1 l2 l3 l2 0 μ t hk h)
theorem tX1_cluster_7 (E : m_E) (l : Launch) (z : Nat × Nat) (N : Nat) : ∀ (n : Nat) (l0 l1 l2 l3 : Int) (μ : Mm) (t : Int × Mm), m_kd μ l0 = (1, 0) → jX1_cluster_7 N n l0 l1 l2 l3 μ = some t → aX1_cluster E l 1 z 7 [(0, vr l0), (1, vi l1), (2, vi l2), (3, vi l3)] [] μ (rI t)
  | 0, _, _, _, _, _, _, _, h => by cases h
  | n + 1, l0, l1, l2, l3, μ, t, hk, h => tX1_cluster_7b E l z (jX1_cluster_7 N n) (tX1_cluster_7 E l z N n) N l0 l1 l2 l3 μ t hk h
theorem tX1_cluster (E : m_E) (l : Launch) (N : Nat) (l0 l1 : Int) (μ : Mm) (t : Int × Mm) (hk : m_kd μ l0 = (1, 0)) (h : jX1_cluster N l0 l1 μ = some t) : TT E l 1 yX1_cluster cX1_cluster 6 (some .int) [vr l0, vi l1] μ (rI t) := by
  refine tt_of (L := [(0, vr l0), (1, vi l1)]) (by decide +kernel) (Nat.le_of_ble_eq_true rfl) rfl ?_
  show aX1_cluster E l 1 (m_sz μ, m_sl μ) 0 [(0, vr l0), (1, vi l1)] [] μ (rI t)
  unfold jX1_cluster at h
  refine a_iload_n 1 dX1_cluster_0 rfl rfl ?_
  refine a_iload_n 1 dX1_cluster_1 rfl rfl ?_
  refine a_ineg dX1_cluster_2 ?_
  refine a_iand dX1_cluster_3 ?_
  refine a_nmi h (fun x1 h => ?_)
  refine a_istore_n (L' := [(2, vi x1), (0, vr l0), (1, vi l1)]) dX1_cluster_4 rfl (by decide) rfl ?_
  refine a_iconst dX1_cluster_5 (okI_b _ rfl) ?_
  refine a_istore_n (L' := [(3, vi 0), (2, vi x1), (0, vr l0), (1, vi l1)]) dX1_cluster_6 rfl (by decide) rfl ?_
  exact a_sub [2, 3, 1, 0] rfl (tX1_cluster_7 E l _ N N l0 l1 x1 0 μ t hk h)
-- X1_hangTogether
abbrev aX1_hangTogether (E : m_E) (l : Launch) (d : Nat) (z : Nat × Nat) (pc : Nat) (L : List (Nat × AV)) (st : List AV) (μ : Mm) (ρ : Option AV × Mm) : Prop := AA E l d z RX1 "hangTogether" cX1_hangTogether 2 (some .boolean) pc L st μ ρ
theorem tX1_hangTogether_18 (E : m_E) (l : Launch) (z : Nat × Nat) (N : Nat) (l0 s0 : Int) (μ : Mm) (t : Int × Mm) (hk : m_kd μ l0 = (1, 0)) (h : jX1_hangTogether_18 N l0 s0 μ = some t) : aX1_hangTogether E l 2 z 18 [(0, vr l0)] [vi s0] μ (rI t) := by
  unfold jX1_hangTogether_18 at h
  exact a_retz dX1_hangTogether_18 h
theorem tX1_hangTogether_17 (E : m_E) (l : Launch) (z : Nat × Nat) (N : Nat) (l0 : Int) (μ : Mm) (t : Int × Mm) (hk : m_kd μ l0 = (1, 0)) (h : jX1_hangTogether_17 N l0 μ = some t) : aX1_hangTogether E l 2 z 17 [(0, vr l0)] [] μ (rI t) := by
  unfold jX1_hangTogether_17 at h
  refine a_iconst dX1_hangTogether_17 (okI_b _ rfl) ?_
  exact a_sub [0] rfl (tX1_hangTogether_18 E l _ N l0 0 μ t hk h)
theorem tX1_hangTogether (E : m_E) (l : Launch) (N : Nat) (l0 l1 : Int) (μ : Mm) (t : Int × Mm) (hk : m_kd μ l0 = (1, 0)) (h : jX1_hangTogether N l0 l1 μ = some t) : TT E l 2 yX1_hangTogether cX1_hangTogether 2 (some .boolean) [vr l0, vi l1] μ (rI t) := by
  refine tt_of (L := [(0, vr l0), (1, vi l1)]) (by decide +kernel) (Nat.le_of_ble_eq_true rfl) rfl ?_
  show aX1_hangTogether E l 2 (m_sz μ, m_sl μ) 0 [(0, vr l0), (1, vi l1)] [] μ (rI t)
  unfold jX1_hangTogether at h
  refine a_iload_n 1 dX1_hangTogether_0 rfl rfl ?_
  refine a_if_eq (tgt := 17) dX1_hangTogether_1 rfl h (fun h => ?_) (fun h => ?_)
  ·
    exact a_sub [0] rfl (tX1_hangTogether_17 E l _ N l0 μ t hk h)
  ·
    refine a_aload_n 0 dX1_hangTogether_4 rfl rfl ?_
    refine a_iload_n 1 dX1_hangTogether_5 rfl rfl ?_
    refine a_cVi (c := 1) [vi l1] [] dX1_hangTogether_6 myX1_cluster mRX1_107 mvX1_cluster rfl (by decide) hk (fun _ hj => tX1_cluster E l N l0 l1 μ _ hk hj) (by decide) rfl (Nat.le_of_ble_eq_true rfl) h (fun x1 μ1 hm h => ?_)
    have hk := hm.k hk (by decide)
    refine a_iload_n 1 dX1_hangTogether_9 rfl rfl ?_
    refine a_icmp_ne (tgt := 17) dX1_hangTogether_10 rfl h (fun h => ?_) (fun h => ?_)
    ·
      exact a_sub [0] rfl (tX1_hangTogether_17 E l _ N l0 μ1 t hk h)
    ·
      refine a_iconst dX1_hangTogether_13 (okI_b _ rfl) ?_
      refine a_goto (tgt := 18) dX1_hangTogether_14 rfl ?_
      exact a_sub [0] rfl (tX1_hangTogether_18 E l _ N l0 1 μ1 t hk h)
-- X1_countClusters
abbrev aX1_countClusters (E : m_E) (l : Launch) (d : Nat) (z : Nat × Nat) (pc : Nat) (L : List (Nat × AV)) (st : List AV) (μ : Mm) (ρ : Option AV × Mm) : Prop := AA E l d z RX1 "countClusters" cX1_countClusters 5 (some .int) pc L st μ ρ
theorem tX1_countClusters_37 (E : m_E) (l : Launch) (z : Nat × Nat) (N : Nat) (l0 l3 : Int) (μ : Mm) (t : Int × Mm) (hk : m_kd μ l0 = (1, 0)) (h : jX1_countClusters_37 N l0 l3 μ = some t) : aX1_countClusters E l 2 z 37 [(0, vr l0), (3, vi l3)] [] μ (rI t) := by
  unfold jX1_countClusters_37 at h
  refine a_iload_n 1 dX1_countClusters_37 rfl rfl ?_
  exact a_reti dX1_countClusters_38 h
theorem tX1_countClusters_7b (E : m_E) (l : Launch) (z : Nat × Nat) (k7 : Int → Int → Int → Int → Mm → Option (Int × Mm)) (p7 : ∀ (l0 l2 l3 l4 : Int) (μ : Mm) (t : Int × Mm), m_kd μ l0 = (1, 0) → k7 l0 l2 l3 l4 μ = some t → aX1_countClusters E l 2 z 7 [(0, vr l0), (2, vi l2), (3, vi l3), (4, vi l4)] [] μ (rI t)) (N : Nat) (l0 l2 l3 l4 : Int) (μ : Mm) (t : Int × Mm) (hk : m_kd μ l0 = (1, 0)) (h : jX1_countClusters_7b k7 N l0 l2 l3 l4 μ = some t) : aX1_countClusters E l 2 z 7 [(0, vr l0), (2, vi l2), (3, vi l3), (4, vi l4)] [] μ (rI t) := by
  unfold jX1_countClusters_7b at h
  refine a_iload 3 dX1_countClusters_7 rfl ?_
  refine a_bipush dX1_countClusters_9 ⟨rfl, okI_b _ rfl⟩ ?_
  refine a_icmp_ge (tgt := 37) dX1_countClusters_11 rfl h (fun h => ?_) (fun h => ?_)
  ·
    exact a_sub [0, 2] rfl (tX1_countClusters_37 E l _ N l0 l3 μ t hk h)
  ·
    refine a_iload_n 1 dX1_countClusters_14 rfl rfl ?_
    refine a_if_eq (tgt := 37) dX1_countClusters_15 rfl h (fun h => ?_) (fun h => ?_)
    ·
      exact a_sub [0, 2] rfl (tX1_countClusters_37 E l _ N l0 l3 μ t hk h)
    ·
      refine a_iload_n 1 dX1_countClusters_18 rfl rfl ?_
      refine a_aload_n 0 dX1_countClusters_19 rfl rfl ?_
      refine a_iload_n 1 dX1_countClusters_20 rfl rfl ?_
      refine a_cVi (c := 1) [vi l2] [vi l2] dX1_countClusters_21 myX1_cluster mRX1_107 mvX1_cluster rfl (by decide) hk (fun _ hj => tX1_cluster E l N l0 l2 μ _ hk hj) (by decide) rfl (Nat.le_of_ble_eq_true rfl) h (fun x1 μ1 hm h => ?_)
      have hk := hm.k hk (by decide)
      refine a_iconst dX1_countClusters_24 (okI_b _ rfl) ?_
      refine a_ixor dX1_countClusters_25 ?_
      refine a_iand dX1_countClusters_26 ?_
      refine a_nmi h (fun x2 h => ?_)
      refine a_istore_n (L' := [(2, vi x2), (0, vr l0), (3, vi l3), (4, vi l4)]) dX1_countClusters_27 rfl (by decide) rfl ?_
      refine a_iinc (F := fun x3 => [(3, vi x3), (2, vi x2), (0, vr l0), (4, vi l4)]) 2 dX1_countClusters_28 rfl (by decide) h (fun _ => rfl) (fun x3 h => ?_)
      refine a_iinc (F := fun x4 => [(4, vi x4), (3, vi x3), (2, vi x2), (0, vr l0)]) 3 dX1_countClusters_31 rfl (by decide) h (fun _ => rfl) (fun x4 h => ?_)
      refine a_goto (tgt := 7) dX1_countClusters_34 rfl ?_
      exact a_sub [3, 2, 1, 0] rfl (p7 l0 x2 x3 x4 μ1 t hk h)
theorem tX1_countClusters_7 (E : m_E) (l : Launch) (z : Nat × Nat) (N : Nat) : ∀ (n : Nat) (l0 l2 l3 l4 : Int) (μ : Mm) (t : Int × Mm), m_kd μ l0 = (1, 0) → jX1_countClusters_7 N n l0 l2 l3 l4 μ = some t → aX1_countClusters E l 2 z 7 [(0, vr l0), (2, vi l2), (3, vi l3), (4, vi l4)] [] μ (rI t)
  | 0, _, _, _, _, _, _, _, h => by cases h
  | n + 1, l0, l2, l3, l4, μ, t, hk, h => tX1_countClusters_7b E l z (jX1_countClusters_7 N n) (tX1_countClusters_7 E l z N n) N l0 l2 l3 l4 μ t hk h
theorem tX1_countClusters (E : m_E) (l : Launch) (N : Nat) (l0 l1 : Int) (μ : Mm) (t : Int × Mm) (hk : m_kd μ l0 = (1, 0)) (h : jX1_countClusters N l0 l1 μ = some t) : TT E l 2 yX1_countClusters cX1_countClusters 5 (some .int) [vr l0, vi l1] μ (rI t) := by
  refine tt_of (L := [(0, vr l0), (1, vi l1)]) (by decide +kernel) (Nat.le_of_ble_eq_true rfl) rfl ?_
  show aX1_countClusters E l 2 (m_sz μ, m_sl μ) 0 [(0, vr l0), (1, vi l1)] [] μ (rI t)
  unfold jX1_countClusters at h
  refine a_iload_n 1 dX1_countClusters_0 rfl rfl ?_
  refine a_istore_n (L' := [(2, vi l1), (0, vr l0), (1, vi l1)]) dX1_countClusters_1 rfl (by decide) rfl ?_
  refine a_iconst dX1_countClusters_2 (okI_b _ rfl) ?_
  refine a_istore_n (L' := [(3, vi 0), (2, vi l1), (0, vr l0), (1, vi l1)]) dX1_countClusters_3 rfl (by decide) rfl ?_
  refine a_iconst dX1_countClusters_4 (okI_b _ rfl) ?_
  refine a_istore (L' := [(4, vi 0), (3, vi 0), (2, vi l1), (0, vr l0), (1, vi l1)]) dX1_countClusters_5 (by decide) rfl ?_
  exact a_sub [3, 2, 1, 0] rfl (tX1_countClusters_7 E l _ N N l0 l1 0 0 μ t hk h)
-- X1_countFalls
abbrev aX1_countFalls (E : m_E) (l : Launch) (d : Nat) (z : Nat × Nat) (pc : Nat) (L : List (Nat × AV)) (st : List AV) (μ : Mm) (ρ : Option AV × Mm) : Prop := AA E l d z RX1 "countFalls" cX1_countFalls 4 (some .int) pc L st μ ρ
theorem tX1_countFalls_28 (E : m_E) (l : Launch) (z : Nat × Nat) (k4 : Int → Int → Int → Int → Mm → Option (Int × Mm)) (p4 : ∀ (l0 l1 l2 l3 : Int) (μ : Mm) (t : Int × Mm), m_kd μ l0 = (1, 0) → k4 l0 l1 l2 l3 μ = some t → aX1_countFalls E l 3 z 4 [(0, vr l0), (1, vi l1), (2, vi l2), (3, vi l3)] [] μ (rI t)) (N : Nat) (l0 l1 l2 l3 : Int) (μ : Mm) (t : Int × Mm) (hk : m_kd μ l0 = (1, 0)) (h : jX1_countFalls_28 k4 N l0 l1 l2 l3 μ = some t) : aX1_countFalls E l 3 z 28 [(0, vr l0), (1, vi l1), (2, vi l2), (3, vi l3)] [] μ (rI t) := by
  unfold jX1_countFalls_28 at h
  refine a_iinc (F := fun x1 => [(3, vi x1), (0, vr l0), (1, vi l1), (2, vi l2)]) 3 dX1_countFalls_28 rfl (by decide) h (fun _ => rfl) (fun x1 h => ?_)
  refine a_goto (tgt := 4) dX1_countFalls_31 rfl ?_
  exact a_sub [1, 2, 3, 0] rfl (p4 l0 l1 l2 x1 μ t hk h)
theorem tX1_countFalls_4b (E : m_E) (l : Launch) (z : Nat × Nat) (k4 : Int → Int → Int → Int → Mm → Option (Int × Mm)) (p4 : ∀ (l0 l1 l2 l3 : Int) (μ : Mm) (t : Int × Mm), m_kd μ l0 = (1, 0) → k4 l0 l1 l2 l3 μ = some t → aX1_countFalls E l 3 z 4 [(0, vr l0), (1, vi l1), (2, vi l2), (3, vi l3)] [] μ (rI t)) (N : Nat) (l0 l1 l2 l3 : Int) (μ : Mm) (t : Int × Mm) (hk : m_kd μ l0 = (1, 0)) (h : jX1_countFalls_4b k4 N l0 l1 l2 l3 μ = some t) : aX1_countFalls E l 3 z 4 [(0, vr l0), (1, vi l1), (2, vi l2), (3, vi l3)] [] μ (rI t) := by
  unfold jX1_countFalls_4b at h
  refine a_iload_n 3 dX1_countFalls_4 rfl rfl ?_
  refine a_iload_n 1 dX1_countFalls_5 rfl rfl ?_
  refine a_icmp_gt (tgt := 34) dX1_countFalls_6 rfl h (fun h => ?_) (fun h => ?_)
  ·
    refine a_iload_n 2 dX1_countFalls_34 rfl rfl ?_
    exact a_reti dX1_countFalls_35 h
  ·
    refine a_iload_n 3 dX1_countFalls_9 rfl rfl ?_
    refine a_iload_n 1 dX1_countFalls_10 rfl rfl ?_
    refine a_iconst dX1_countFalls_11 (okI_b _ rfl) ?_
    refine a_ixor dX1_countFalls_12 ?_
    refine a_iand dX1_countFalls_13 ?_
    refine a_if_ne (tgt := 28) dX1_countFalls_14 rfl h (fun h => ?_) (fun h => ?_)
    ·
      exact a_sub [0, 1, 2, 3] rfl (tX1_countFalls_28 E l _ k4 p4 N l0 l1 l2 l3 μ t hk h)
    ·
      refine a_aload_n 0 dX1_countFalls_17 rfl rfl ?_
      refine a_iload_n 3 dX1_countFalls_18 rfl rfl ?_
      refine a_cVi (c := 1) [vi l3] [] dX1_countFalls_19 myX1_hangTogether mRX1_110 mvX1_hangTogether rfl (by decide) hk (fun _ hj => tX1_hangTogether E l N l0 l3 μ _ hk hj) (by decide) rfl (Nat.le_of_ble_eq_true rfl) h (fun x1 μ1 hm h => ?_)
      have hk := hm.k hk (by decide)
      refine a_if_eq (tgt := 28) dX1_countFalls_22 rfl h (fun h => ?_) (fun h => ?_)
      ·
        exact a_sub [0, 1, 2, 3] rfl (tX1_countFalls_28 E l _ k4 p4 N l0 l1 l2 l3 μ1 t hk h)
      ·
        refine a_iinc (F := fun x2 => [(2, vi x2), (0, vr l0), (1, vi l1), (3, vi l3)]) 2 dX1_countFalls_25 rfl (by decide) h (fun _ => rfl) (fun x2 h => ?_)
        exact a_sub [1, 2, 0, 3] rfl (tX1_countFalls_28 E l _ k4 p4 N l0 l1 x2 l3 μ1 t hk h)
theorem tX1_countFalls_4 (E : m_E) (l : Launch) (z : Nat × Nat) (N : Nat) : ∀ (n : Nat) (l0 l1 l2 l3 : Int) (μ : Mm) (t : Int × Mm), m_kd μ l0 = (1, 0) → jX1_countFalls_4 N n l0 l1 l2 l3 μ = some t → aX1_countFalls E l 3 z 4 [(0, vr l0), (1, vi l1), (2, vi l2), (3, vi l3)] [] μ (rI t)
  | 0, _, _, _, _, _, _, _, h => by cases h
  | n + 1, l0, l1, l2, l3, μ, t, hk, h => tX1_countFalls_4b E l z (jX1_countFalls_4 N n) (tX1_countFalls_4 E l z N n) N l0 l1 l2 l3 μ t hk h
theorem tX1_countFalls (E : m_E) (l : Launch) (N : Nat) (l0 l1 : Int) (μ : Mm) (t : Int × Mm) (hk : m_kd μ l0 = (1, 0)) (h : jX1_countFalls N l0 l1 μ = some t) : TT E l 3 yX1_countFalls cX1_countFalls 4 (some .int) [vr l0, vi l1] μ (rI t) := by
  refine tt_of (L := [(0, vr l0), (1, vi l1)]) (by decide +kernel) (Nat.le_of_ble_eq_true rfl) rfl ?_
  show aX1_countFalls E l 3 (m_sz μ, m_sl μ) 0 [(0, vr l0), (1, vi l1)] [] μ (rI t)
  unfold jX1_countFalls at h
  refine a_iconst dX1_countFalls_0 (okI_b _ rfl) ?_
  refine a_istore_n (L' := [(2, vi 0), (0, vr l0), (1, vi l1)]) dX1_countFalls_1 rfl (by decide) rfl ?_
  refine a_iconst dX1_countFalls_2 (okI_b _ rfl) ?_
  refine a_istore_n (L' := [(3, vi 1), (2, vi 0), (0, vr l0), (1, vi l1)]) dX1_countFalls_3 rfl (by decide) rfl ?_
  exact a_sub [2, 3, 1, 0] rfl (tX1_countFalls_4 E l _ N N l0 l1 0 1 μ t hk h)
-- X4_init
abbrev aX4_init (E : m_E) (l : Launch) (d : Nat) (z : Nat × Nat) (pc : Nat) (L : List (Nat × AV)) (st : List AV) (μ : Mm) (ρ : Option AV × Mm) : Prop := AA E l d z RX4 "<init>" cX4_init 1 none pc L st μ ρ
theorem tX4_init (E : m_E) (l : Launch) (N : Nat) (l0 : Int) (μ : Mm) (t : Mm) (hk : m_kd μ l0 = (4, 0)) (h : jX4_init N l0 μ = some t) : TT E l 2 yX4_init cX4_init 1 none [vr l0] μ (rV t) := by
  refine tt_of (L := [(0, vr l0)]) (by decide +kernel) (Nat.le_of_ble_eq_true rfl) rfl ?_
  show aX4_init E l 2 (m_sz μ, m_sl μ) 0 [(0, vr l0)] [] μ (rV t)
  unfold jX4_init at h
  refine a_aload_n 0 dX4_init_0 rfl rfl ?_
  refine a_objI dX4_init_1 mRX4_3 ob1 ob2 (by decide) hk (by decide) ?_
  refine a_aload_n 0 dX4_init_4 rfl rfl ?_
  refine a_bipush dX4_init_5 ⟨rfl, okI_b _ rfl⟩ ?_
  refine a_nai dX4_init_7 ac_int h (fun μ1 hm hq4 h => ?_)
  have hk := hm.k hk (by decide)
  refine a_putfr (c := 4) (i := 0) dX4_init_9 fRX4_11 g4_0 (Or.inr ⟨rfl, rfl, rfl⟩) rfl hk h (fun μ2 hm h => ?_)
  have hk := hm.k hk (by decide)
  refine a_aload_n 0 dX4_init_12 rfl rfl ?_
  refine a_bipush dX4_init_13 ⟨rfl, okI_b _ rfl⟩ ?_
  refine a_nai dX4_init_15 ac_int h (fun μ3 hm hq10 h => ?_)
  have hk := hm.k hk (by decide)
  refine a_putfr (c := 4) (i := 1) dX4_init_17 fRX4_15 g4_1 (Or.inr ⟨rfl, rfl, rfl⟩) rfl hk h (fun μ4 hm h => ?_)
  have hk := hm.k hk (by decide)
  refine a_aload_n 0 dX4_init_20 rfl rfl ?_
  refine a_bipush dX4_init_21 ⟨rfl, okI_b _ rfl⟩ ?_
  refine a_nai dX4_init_23 ac_int h (fun μ5 hm hq16 h => ?_)
  have hk := hm.k hk (by decide)
  refine a_putfr (c := 4) (i := 2) dX4_init_25 fRX4_18 g4_2 (Or.inr ⟨rfl, rfl, rfl⟩) rfl hk h (fun μ6 hm h => ?_)
  have hk := hm.k hk (by decide)
  exact a_ret0 dX4_init_28 h
-- X4_forget
abbrev aX4_forget (E : m_E) (l : Launch) (d : Nat) (z : Nat × Nat) (pc : Nat) (L : List (Nat × AV)) (st : List AV) (μ : Mm) (ρ : Option AV × Mm) : Prop := AA E l d z RX4 "forget" cX4_forget 2 none pc L st μ ρ
theorem tX4_forget_2b (E : m_E) (l : Launch) (z : Nat × Nat) (k2 : Int → Int → Mm → Option (Mm)) (p2 : ∀ (l0 l1 : Int) (μ : Mm) (t : Mm), m_kd μ l0 = (4, 0) → k2 l0 l1 μ = some t → aX4_forget E l 1 z 2 [(0, vr l0), (1, vi l1)] [] μ (rV t)) (N : Nat) (l0 l1 : Int) (μ : Mm) (t : Mm) (hk : m_kd μ l0 = (4, 0)) (h : jX4_forget_2b k2 N l0 l1 μ = some t) : aX4_forget E l 1 z 2 [(0, vr l0), (1, vi l1)] [] μ (rV t) := by
  unfold jX4_forget_2b at h
  refine a_iload_n 1 dX4_forget_2 rfl rfl ?_
  refine a_bipush dX4_forget_3 ⟨rfl, okI_b _ rfl⟩ ?_
  refine a_icmp_ge (tgt := 21) dX4_forget_5 rfl h (fun h => ?_) (fun h => ?_)
  ·
    exact a_ret0 dX4_forget_21 h
  ·
    refine a_aload_n 0 dX4_forget_8 rfl rfl ?_
    refine a_getfr (c := 4) (i := 1) dX4_forget_9 fRX4_15 g4_1 rfl hk ?_
    refine a_iload_n 1 dX4_forget_12 rfl rfl ?_
    refine a_iconst dX4_forget_13 (okI_b _ rfl) ?_
    refine a_iast dX4_forget_14 h (fun μ1 hm h => ?_)
    have hk := hm.k hk (by decide)
    refine a_iinc (F := fun x1 => [(1, vi x1), (0, vr l0)]) 1 dX4_forget_15 rfl (by decide) h (fun _ => rfl) (fun x1 h => ?_)
    refine a_goto (tgt := 2) dX4_forget_18 rfl ?_
    exact a_sub [1, 0] rfl (p2 l0 x1 μ1 t hk h)
theorem tX4_forget_2 (E : m_E) (l : Launch) (z : Nat × Nat) (N : Nat) : ∀ (n : Nat) (l0 l1 : Int) (μ : Mm) (t : Mm), m_kd μ l0 = (4, 0) → jX4_forget_2 N n l0 l1 μ = some t → aX4_forget E l 1 z 2 [(0, vr l0), (1, vi l1)] [] μ (rV t)
  | 0, _, _, _, _, _, h => by cases h
  | n + 1, l0, l1, μ, t, hk, h => tX4_forget_2b E l z (jX4_forget_2 N n) (tX4_forget_2 E l z N n) N l0 l1 μ t hk h
theorem tX4_forget (E : m_E) (l : Launch) (N : Nat) (l0 : Int) (μ : Mm) (t : Mm) (hk : m_kd μ l0 = (4, 0)) (h : jX4_forget N l0 μ = some t) : TT E l 1 yX4_forget cX4_forget 2 none [vr l0] μ (rV t) := by
  refine tt_of (L := [(0, vr l0)]) (by decide +kernel) (Nat.le_of_ble_eq_true rfl) rfl ?_
  show aX4_forget E l 1 (m_sz μ, m_sl μ) 0 [(0, vr l0)] [] μ (rV t)
  unfold jX4_forget at h
  refine a_iconst dX4_forget_0 (okI_b _ rfl) ?_
  refine a_istore_n (L' := [(1, vi 0), (0, vr l0)]) dX4_forget_1 rfl (by decide) rfl ?_
  exact a_sub [1, 0] rfl (tX4_forget_2 E l _ N N l0 0 μ t hk h)
-- X4_knows
abbrev aX4_knows (E : m_E) (l : Launch) (d : Nat) (z : Nat × Nat) (pc : Nat) (L : List (Nat × AV)) (st : List AV) (μ : Mm) (ρ : Option AV × Mm) : Prop := AA E l d z RX4 "knows" cX4_knows 2 (some .boolean) pc L st μ ρ
theorem tX4_knows_15 (E : m_E) (l : Launch) (z : Nat × Nat) (N : Nat) (l0 s0 : Int) (μ : Mm) (t : Int × Mm) (hk : m_kd μ l0 = (4, 0)) (h : jX4_knows_15 N l0 s0 μ = some t) : aX4_knows E l 1 z 15 [(0, vr l0)] [vi s0] μ (rI t) := by
  unfold jX4_knows_15 at h
  exact a_retz dX4_knows_15 h
theorem tX4_knows_14 (E : m_E) (l : Launch) (z : Nat × Nat) (N : Nat) (l0 : Int) (μ : Mm) (t : Int × Mm) (hk : m_kd μ l0 = (4, 0)) (h : jX4_knows_14 N l0 μ = some t) : aX4_knows E l 1 z 14 [(0, vr l0)] [] μ (rI t) := by
  unfold jX4_knows_14 at h
  refine a_iconst dX4_knows_14 (okI_b _ rfl) ?_
  exact a_sub [0] rfl (tX4_knows_15 E l _ N l0 0 μ t hk h)
theorem tX4_knows (E : m_E) (l : Launch) (N : Nat) (l0 l1 : Int) (μ : Mm) (t : Int × Mm) (hk : m_kd μ l0 = (4, 0)) (h : jX4_knows N l0 l1 μ = some t) : TT E l 1 yX4_knows cX4_knows 2 (some .boolean) [vr l0, vi l1] μ (rI t) := by
  refine tt_of (L := [(0, vr l0), (1, vi l1)]) (by decide +kernel) (Nat.le_of_ble_eq_true rfl) rfl ?_
  show aX4_knows E l 1 (m_sz μ, m_sl μ) 0 [(0, vr l0), (1, vi l1)] [] μ (rI t)
  unfold jX4_knows at h
  refine a_iload_n 1 dX4_knows_0 rfl rfl ?_
  refine a_if_lt (tgt := 14) dX4_knows_1 rfl h (fun h => ?_) (fun h => ?_)
  ·
    exact a_sub [0] rfl (tX4_knows_14 E l _ N l0 μ t hk h)
  ·
    refine a_iload_n 1 dX4_knows_4 rfl rfl ?_
    refine a_bipush dX4_knows_5 ⟨rfl, okI_b _ rfl⟩ ?_
    refine a_icmp_ge (tgt := 14) dX4_knows_7 rfl h (fun h => ?_) (fun h => ?_)
    ·
      exact a_sub [0] rfl (tX4_knows_14 E l _ N l0 μ t hk h)
    ·
      refine a_iconst dX4_knows_10 (okI_b _ rfl) ?_
      refine a_goto (tgt := 15) dX4_knows_11 rfl ?_
      exact a_sub [0] rfl (tX4_knows_15 E l _ N l0 1 μ t hk h)
-- X4_gamesOf
abbrev aX4_gamesOf (E : m_E) (l : Launch) (d : Nat) (z : Nat × Nat) (pc : Nat) (L : List (Nat × AV)) (st : List AV) (μ : Mm) (ρ : Option AV × Mm) : Prop := AA E l d z RX4 "gamesOf" cX4_gamesOf 2 (some .int) pc L st μ ρ
theorem tX4_gamesOf_18 (E : m_E) (l : Launch) (z : Nat × Nat) (N : Nat) (l0 s0 : Int) (μ : Mm) (t : Int × Mm) (hk : m_kd μ l0 = (4, 0)) (h : jX4_gamesOf_18 N l0 s0 μ = some t) : aX4_gamesOf E l 2 z 18 [(0, vr l0)] [vi s0] μ (rI t) := by
  unfold jX4_gamesOf_18 at h
  exact a_reti dX4_gamesOf_18 h
theorem tX4_gamesOf (E : m_E) (l : Launch) (N : Nat) (l0 l1 : Int) (μ : Mm) (t : Int × Mm) (hk : m_kd μ l0 = (4, 0)) (h : jX4_gamesOf N l0 l1 μ = some t) : TT E l 2 yX4_gamesOf cX4_gamesOf 2 (some .int) [vr l0, vi l1] μ (rI t) := by
  refine tt_of (L := [(0, vr l0), (1, vi l1)]) (by decide +kernel) (Nat.le_of_ble_eq_true rfl) rfl ?_
  show aX4_gamesOf E l 2 (m_sz μ, m_sl μ) 0 [(0, vr l0), (1, vi l1)] [] μ (rI t)
  unfold jX4_gamesOf at h
  refine a_aload_n 0 dX4_gamesOf_0 rfl rfl ?_
  refine a_iload_n 1 dX4_gamesOf_1 rfl rfl ?_
  refine a_cVi (c := 4) [vi l1] [] dX4_gamesOf_2 myX4_knows mRX4_21 mvX4_knows rfl (by decide) hk (fun _ hj => tX4_knows E l N l0 l1 μ _ hk hj) (by decide) rfl (Nat.le_of_ble_eq_true rfl) h (fun x1 μ1 hm h => ?_)
  have hk := hm.k hk (by decide)
  refine a_if_eq (tgt := 17) dX4_gamesOf_5 rfl h (fun h => ?_) (fun h => ?_)
  ·
    refine a_iconst dX4_gamesOf_17 (okI_b _ rfl) ?_
    exact a_sub [0] rfl (tX4_gamesOf_18 E l _ N l0 0 μ1 t hk h)
  ·
    refine a_aload_n 0 dX4_gamesOf_8 rfl rfl ?_
    refine a_getfr (c := 4) (i := 1) dX4_gamesOf_9 fRX4_15 g4_1 rfl hk ?_
    refine a_iload_n 1 dX4_gamesOf_12 rfl rfl ?_
    refine a_iald dX4_gamesOf_13 h (fun x2 h => ?_)
    refine a_goto (tgt := 18) dX4_gamesOf_14 rfl ?_
    exact a_sub [0] rfl (tX4_gamesOf_18 E l _ N l0 x2 μ1 t hk h)
