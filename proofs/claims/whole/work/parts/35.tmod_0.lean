-- X8_back
abbrev aX8_back (E : m_E) (l : Launch) (d : Nat) (z : Nat × Nat) (pc : Nat) (L : List (Nat × AV)) (st : List AV) (μ : Mm) (ρ : Option AV × Mm) : Prop := AA E l d z RX8 "back" cX8_back 1 (some .boolean) pc L st μ ρ
theorem tX8_back (E : m_E) (l : Launch) (N : Nat) (l0 : Int) (μ : Mm) (t : Int × Mm) (hk : m_kd μ l0 = (8, 0)) (h : jX8_back N l0 μ = some t) : TT E l 1 yX8_back cX8_back 1 (some .boolean) [vr l0] μ (rI t) := by
  refine tt_of (L := [(0, vr l0)]) (by decide +kernel) (Nat.le_of_ble_eq_true rfl) rfl ?_
  show aX8_back E l 1 (m_sz μ, m_sl μ) 0 [(0, vr l0)] [] μ (rI t)
  unfold jX8_back at h
  refine a_aload_n 0 dX8_back_0 rfl rfl ?_
  refine a_getfi (c := 8) (i := 58) dX8_back_1 fRX8_324 g8_58 rfl hk ?_
  refine a_if_ne (tgt := 9) dX8_back_4 rfl h (fun h => ?_) (fun h => ?_)
  ·
    refine a_aload_n 0 dX8_back_9 rfl rfl ?_
    refine a_dup dX8_back_10 rfl ?_
    refine a_getfi (c := 8) (i := 58) dX8_back_11 fRX8_324 g8_58 rfl hk ?_
    refine a_iconst dX8_back_14 (okI_b _ rfl) ?_
    refine a_isub dX8_back_15 ?_
    refine a_putfi (c := 8) (i := 58) dX8_back_16 fRX8_324 g8_58 (Or.inl rfl) rfl hk h (fun μ1 hm h => ?_)
    have hk := hm.k hk (by decide)
    refine a_aload_n 0 dX8_back_19 rfl rfl ?_
    refine a_iconst dX8_back_20 (okI_b _ rfl) ?_
    refine a_putfi (c := 8) (i := 78) dX8_back_21 fRX8_327 g8_78 (Or.inl rfl) rfl hk h (fun μ2 hm h => ?_)
    have hk := hm.k hk (by decide)
    refine a_aload_n 0 dX8_back_24 rfl rfl ?_
    refine a_iconst dX8_back_25 (okI_b _ rfl) ?_
    refine a_putfz (c := 8) (i := 72) dX8_back_26 fRX8_334 g8_72 (Or.inl rfl) rfl (Or.inl rfl) hk h (fun μ3 hm h => ?_)
    have hk := hm.k hk (by decide)
    refine a_iconst dX8_back_29 (okI_b _ rfl) ?_
    exact a_retzl (Or.inr rfl) dX8_back_30 h
  ·
    refine a_iconst dX8_back_7 (okI_b _ rfl) ?_
    exact a_retzl (Or.inl rfl) dX8_back_8 h
-- X8_clear
abbrev aX8_clear (E : m_E) (l : Launch) (d : Nat) (z : Nat × Nat) (pc : Nat) (L : List (Nat × AV)) (st : List AV) (μ : Mm) (ρ : Option AV × Mm) : Prop := AA E l d z RX8 "clear" cX8_clear 2 (some .int) pc L st μ ρ
theorem tX8_clear (E : m_E) (l : Launch) (N : Nat) (l0 : Int) (μ : Mm) (t : Int × Mm) (hk : m_kd μ l0 = (8, 0)) (h : jX8_clear N l0 μ = some t) : TT E l 1 yX8_clear cX8_clear 2 (some .int) [vr l0] μ (rI t) := by
  refine tt_of (L := [(0, vr l0)]) (by decide +kernel) (Nat.le_of_ble_eq_true rfl) rfl ?_
  show aX8_clear E l 1 (m_sz μ, m_sl μ) 0 [(0, vr l0)] [] μ (rI t)
  unfold jX8_clear at h
  refine a_aload_n 0 dX8_clear_0 rfl rfl ?_
  refine a_getfi (c := 8) (i := 58) dX8_clear_1 fRX8_324 g8_58 rfl hk ?_
  refine a_nmi h (fun x1 h => ?_)
  refine a_istore_n (L' := [(1, vi x1), (0, vr l0)]) dX8_clear_4 rfl (by decide) rfl ?_
  refine a_aload_n 1 dX8_clear_5 rfl rfl ?_
  refine a_iconst dX8_clear_6 (okI_b _ rfl) ?_
  refine a_putfi (c := 8) (i := 58) dX8_clear_7 fRX8_324 g8_58 (Or.inl rfl) rfl hk h (fun μ1 hm h => ?_)
  have hk := hm.k hk (by decide)
  refine a_aload_n 1 dX8_clear_10 rfl rfl ?_
  refine a_iconst dX8_clear_11 (okI_b _ rfl) ?_
  refine a_putfi (c := 8) (i := 78) dX8_clear_12 fRX8_327 g8_78 (Or.inl rfl) rfl hk h (fun μ2 hm h => ?_)
  have hk := hm.k hk (by decide)
  refine a_aload_n 1 dX8_clear_15 rfl rfl ?_
  refine a_iconst dX8_clear_16 (okI_b _ rfl) ?_
  refine a_putfz (c := 8) (i := 72) dX8_clear_17 fRX8_334 g8_72 (Or.inl rfl) rfl (Or.inl rfl) hk h (fun μ3 hm h => ?_)
  have hk := hm.k hk (by decide)
  refine a_iload_n 0 dX8_clear_20 rfl rfl ?_
  exact a_reti dX8_clear_21 h
-- X8_endOfComing
abbrev aX8_endOfComing (E : m_E) (l : Launch) (d : Nat) (z : Nat × Nat) (pc : Nat) (L : List (Nat × AV)) (st : List AV) (μ : Mm) (ρ : Option AV × Mm) : Prop := AA E l d z RX8 "endOfComing" cX8_endOfComing 4 (some .int) pc L st μ ρ
theorem tX8_endOfComing_22 (E : m_E) (l : Launch) (z : Nat × Nat) (k2 : Int → Int → Int → Mm → Option (Int × Mm)) (p2 : ∀ (l0 l1 l2 : Int) (μ : Mm) (t : Int × Mm), m_kd μ l0 = (8, 0) → k2 l0 l1 l2 μ = some t → aX8_endOfComing E l 1 z 2 [(0, vr l0), (1, vi l1), (2, vi l2)] [] μ (rI t)) (N : Nat) (l0 l1 l2 s0 : Int) (μ : Mm) (t : Int × Mm) (hk : m_kd μ l0 = (8, 0)) (h : jX8_endOfComing_22 k2 N l0 l1 l2 s0 μ = some t) : aX8_endOfComing E l 1 z 22 [(0, vr l0), (1, vi l1), (2, vi l2)] [vi s0] μ (rI t) := by
  unfold jX8_endOfComing_22 at h
  refine a_istore_n (L' := [(3, vi s0), (0, vr l0), (1, vi l1), (2, vi l2)]) dX8_endOfComing_22 rfl (by decide) rfl ?_
  refine a_aload_n 1 dX8_endOfComing_23 rfl rfl ?_
  refine a_getfr (c := 8) (i := 77) dX8_endOfComing_24 fRX8_159 g8_77 rfl hk ?_
  refine a_iload_n 0 dX8_endOfComing_27 rfl rfl ?_
  refine a_lald dX8_endOfComing_28 h (fun x1 h => ?_)
  refine a_lconst (v := 0) dX8_endOfComing_29 ⟨rfl, okJ_b _ rfl⟩ ?_
  refine a_lcmp dX8_endOfComing_30 ?_
  refine a_if_le (tgt := 40) dX8_endOfComing_31 rfl h (fun h => ?_) (fun h => ?_)
  ·
    refine a_iinc (F := fun x2 => [(2, vi x2), (3, vi s0), (0, vr l0), (1, vi l1)]) 3 dX8_endOfComing_40 rfl (by decide) h (fun _ => rfl) (fun x2 h => ?_)
    refine a_goto (tgt := 2) dX8_endOfComing_43 rfl ?_
    exact a_sub [2, 3, 0] rfl (p2 l0 l1 x2 μ t hk h)
  ·
    refine a_iload_n 0 dX8_endOfComing_34 rfl rfl ?_
    refine a_sipush dX8_endOfComing_35 ⟨rfl, okI_b _ rfl⟩ ?_
    refine a_isub dX8_endOfComing_38 ?_
    exact a_reti dX8_endOfComing_39 h
theorem tX8_endOfComing_2b (E : m_E) (l : Launch) (z : Nat × Nat) (k2 : Int → Int → Int → Mm → Option (Int × Mm)) (p2 : ∀ (l0 l1 l2 : Int) (μ : Mm) (t : Int × Mm), m_kd μ l0 = (8, 0) → k2 l0 l1 l2 μ = some t → aX8_endOfComing E l 1 z 2 [(0, vr l0), (1, vi l1), (2, vi l2)] [] μ (rI t)) (N : Nat) (l0 l1 l2 : Int) (μ : Mm) (t : Int × Mm) (hk : m_kd μ l0 = (8, 0)) (h : jX8_endOfComing_2b k2 N l0 l1 l2 μ = some t) : aX8_endOfComing E l 1 z 2 [(0, vr l0), (1, vi l1), (2, vi l2)] [] μ (rI t) := by
  unfold jX8_endOfComing_2b at h
  refine a_iload_n 2 dX8_endOfComing_2 rfl rfl ?_
  refine a_sipush dX8_endOfComing_3 ⟨rfl, okI_b _ rfl⟩ ?_
  refine a_icmp_ge (tgt := 46) dX8_endOfComing_6 rfl h (fun h => ?_) (fun h => ?_)
  ·
    refine a_ldcw (x := (-1000000)) dX8_endOfComing_46 kRX8_417 ⟨rfl, okI_b _ rfl⟩ ?_
    exact a_reti dX8_endOfComing_49 h
  ·
    refine a_iload_n 1 dX8_endOfComing_9 rfl rfl ?_
    refine a_if_eq (tgt := 21) dX8_endOfComing_10 rfl h (fun h => ?_) (fun h => ?_)
    ·
      refine a_iload_n 2 dX8_endOfComing_21 rfl rfl ?_
      exact a_sub [0, 1, 2] rfl (tX8_endOfComing_22 E l _ k2 p2 N l0 l1 l2 l2 μ t hk h)
    ·
      refine a_sipush dX8_endOfComing_13 ⟨rfl, okI_b _ rfl⟩ ?_
      refine a_iload_n 2 dX8_endOfComing_16 rfl rfl ?_
      refine a_isub dX8_endOfComing_17 ?_
      refine a_goto (tgt := 22) dX8_endOfComing_18 rfl ?_
      exact a_sub [0, 1, 2] rfl (tX8_endOfComing_22 E l _ k2 p2 N l0 l1 l2 (i_sub 2119 l2) μ t hk h)
theorem tX8_endOfComing_2 (E : m_E) (l : Launch) (z : Nat × Nat) (N : Nat) : ∀ (n : Nat) (l0 l1 l2 : Int) (μ : Mm) (t : Int × Mm), m_kd μ l0 = (8, 0) → jX8_endOfComing_2 N n l0 l1 l2 μ = some t → aX8_endOfComing E l 1 z 2 [(0, vr l0), (1, vi l1), (2, vi l2)] [] μ (rI t)
  | 0, _, _, _, _, _, _, h => by cases h
  | n + 1, l0, l1, l2, μ, t, hk, h => tX8_endOfComing_2b E l z (jX8_endOfComing_2 N n) (tX8_endOfComing_2 E l z N n) N l0 l1 l2 μ t hk h
theorem tX8_endOfComing (E : m_E) (l : Launch) (N : Nat) (l0 l1 : Int) (μ : Mm) (t : Int × Mm) (hk : m_kd μ l0 = (8, 0)) (h : jX8_endOfComing N l0 l1 μ = some t) : TT E l 1 yX8_endOfComing cX8_endOfComing 4 (some .int) [vr l0, vi l1] μ (rI t) := by
  refine tt_of (L := [(0, vr l0), (1, vi l1)]) (by decide +kernel) (Nat.le_of_ble_eq_true rfl) rfl ?_
  show aX8_endOfComing E l 1 (m_sz μ, m_sl μ) 0 [(0, vr l0), (1, vi l1)] [] μ (rI t)
  unfold jX8_endOfComing at h
  refine a_iconst dX8_endOfComing_0 (okI_b _ rfl) ?_
  refine a_istore_n (L' := [(2, vi 0), (0, vr l0), (1, vi l1)]) dX8_endOfComing_1 rfl (by decide) rfl ?_
  exact a_sub [1, 2, 0] rfl (tX8_endOfComing_2 E l _ N N l0 l1 0 μ t hk h)
-- X8_capped
abbrev aX8_capped (E : m_E) (l : Launch) (d : Nat) (z : Nat × Nat) (pc : Nat) (L : List (Nat × AV)) (st : List AV) (μ : Mm) (ρ : Option AV × Mm) : Prop := AA E l d z RX8 "capped" cX8_capped 2 (some .long) pc L st μ ρ
theorem tX8_capped_15 (E : m_E) (l : Launch) (z : Nat × Nat) (N : Nat) (s0 : Int) (μ : Mm) (t : Int × Mm) (h : jX8_capped_15 N s0 μ = some t) : aX8_capped E l 1 z 15 [] [vl s0] μ (rJ t) := by
  unfold jX8_capped_15 at h
  exact a_retl dX8_capped_15 h
theorem tX8_capped (E : m_E) (l : Launch) (N : Nat) (l0 : Int) (μ : Mm) (t : Int × Mm) (h : jX8_capped N l0 μ = some t) : TT E l 1 yX8_capped cX8_capped 2 (some .long) [vl l0] μ (rJ t) := by
  refine tt_of (L := [(0, vl l0)]) (by decide +kernel) (Nat.le_of_ble_eq_true rfl) rfl ?_
  show aX8_capped E l 1 (m_sz μ, m_sl μ) 0 [(0, vl l0)] [] μ (rJ t)
  unfold jX8_capped at h
  refine a_lload_n 0 dX8_capped_0 rfl rfl ?_
  refine a_ldc2 (x := 1000000000000000000) dX8_capped_1 kRX8_428 ⟨rfl, okJ_b _ rfl⟩ ?_
  refine a_lcmp dX8_capped_4 ?_
  refine a_if_le (tgt := 14) dX8_capped_5 rfl h (fun h => ?_) (fun h => ?_)
  ·
    refine a_lload_n 0 dX8_capped_14 rfl rfl ?_
    exact a_sub [] rfl (tX8_capped_15 E l _ N l0 μ t h)
  ·
    refine a_ldc2 (x := 1000000000000000000) dX8_capped_8 kRX8_428 ⟨rfl, okJ_b _ rfl⟩ ?_
    refine a_goto (tgt := 15) dX8_capped_11 rfl ?_
    exact a_sub [] rfl (tX8_capped_15 E l _ N 1000000000000000000 μ t h)
-- X8_cell
abbrev aX8_cell (E : m_E) (l : Launch) (d : Nat) (z : Nat × Nat) (pc : Nat) (L : List (Nat × AV)) (st : List AV) (μ : Mm) (ρ : Option AV × Mm) : Prop := AA E l d z RX8 "cell" cX8_cell 3 (some .int) pc L st μ ρ
theorem tX8_cell (E : m_E) (l : Launch) (N : Nat) (l0 l1 l2 : Int) (μ : Mm) (t : Int × Mm) (h : jX8_cell N l0 l1 l2 μ = some t) : TT E l 1 yX8_cell cX8_cell 3 (some .int) [vi l0, vi l1, vi l2] μ (rI t) := by
  refine tt_of (L := [(0, vi l0), (1, vi l1), (2, vi l2)]) (by decide +kernel) (Nat.le_of_ble_eq_true rfl) rfl ?_
  show aX8_cell E l 1 (m_sz μ, m_sl μ) 0 [(0, vi l0), (1, vi l1), (2, vi l2)] [] μ (rI t)
  unfold jX8_cell at h
  refine a_bipush dX8_cell_0 ⟨rfl, okI_b _ rfl⟩ ?_
  refine a_iload_n 0 dX8_cell_2 rfl rfl ?_
  refine a_imul dX8_cell_3 ?_
  refine a_iload_n 1 dX8_cell_4 rfl rfl ?_
  refine a_iadd dX8_cell_5 ?_
  refine a_sipush dX8_cell_6 ⟨rfl, okI_b _ rfl⟩ ?_
  refine a_imul dX8_cell_9 ?_
  refine a_sipush dX8_cell_10 ⟨rfl, okI_b _ rfl⟩ ?_
  refine a_iadd dX8_cell_13 ?_
  refine a_iload_n 2 dX8_cell_14 rfl rfl ?_
  refine a_iadd dX8_cell_15 ?_
  exact a_reti dX8_cell_16 h
-- X8_oneOf
abbrev aX8_oneOf (E : m_E) (l : Launch) (d : Nat) (z : Nat × Nat) (pc : Nat) (L : List (Nat × AV)) (st : List AV) (μ : Mm) (ρ : Option AV × Mm) : Prop := AA E l d z RX8 "oneOf" cX8_oneOf 1 (some .int) pc L st μ ρ
theorem tX8_oneOf (E : m_E) (l : Launch) (N : Nat) (l0 : Int) (μ : Mm) (t : Int × Mm) (h : jX8_oneOf N l0 μ = some t) : TT E l 1 yX8_oneOf cX8_oneOf 1 (some .int) [vi l0] μ (rI t) := by
  refine tt_of (L := [(0, vi l0)]) (by decide +kernel) (Nat.le_of_ble_eq_true rfl) rfl ?_
  show aX8_oneOf E l 1 (m_sz μ, m_sl μ) 0 [(0, vi l0)] [] μ (rI t)
  unfold jX8_oneOf at h
  refine a_iload_n 0 dX8_oneOf_0 rfl rfl ?_
  refine a_bipush dX8_oneOf_1 ⟨rfl, okI_b _ rfl⟩ ?_
  refine a_idivn (by decide) dX8_oneOf_3 ?_
  exact a_reti dX8_oneOf_4 h
-- X8_comesByFills
abbrev aX8_comesByFills (E : m_E) (l : Launch) (d : Nat) (z : Nat × Nat) (pc : Nat) (L : List (Nat × AV)) (st : List AV) (μ : Mm) (ρ : Option AV × Mm) : Prop := AA E l d z RX8 "comesByFills" cX8_comesByFills 10 none pc L st μ ρ
theorem tX8_comesByFills_196 (E : m_E) (l : Launch) (z : Nat × Nat) (k19 : Int → Int → Int → Int → Int → Int → Mm → Option (Mm)) (p19 : ∀ (l0 l1 l2 l3 l4 l5 : Int) (μ : Mm) (t : Mm), m_kd μ l0 = (8, 0) → k19 l0 l1 l2 l3 l4 l5 μ = some t → aX8_comesByFills E l 2 z 19 [(0, vr l0), (1, vi l1), (2, vi l2), (3, vi l3), (4, vi l4), (5, vi l5)] [] μ (rV t)) (N : Nat) (l0 l1 l2 l3 l4 l5 : Int) (μ : Mm) (t : Mm) (hk : m_kd μ l0 = (8, 0)) (h : jX8_comesByFills_196 k19 N l0 l1 l2 l3 l4 l5 μ = some t) : aX8_comesByFills E l 2 z 196 [(0, vr l0), (1, vi l1), (2, vi l2), (3, vi l3), (4, vi l4), (5, vi l5)] [] μ (rV t) := by
  unfold jX8_comesByFills_196 at h
  refine a_iinc (F := fun x1 => [(5, vi x1), (0, vr l0), (1, vi l1), (2, vi l2), (3, vi l3), (4, vi l4)]) 5 dX8_comesByFills_196 rfl (by decide) h (fun _ => rfl) (fun x1 h => ?_)
  refine a_goto (tgt := 19) dX8_comesByFills_199 rfl ?_
  exact a_sub [1, 2, 3, 4, 5, 0] rfl (p19 l0 l1 l2 l3 l4 x1 μ t hk h)
theorem tX8_comesByFills_143 (E : m_E) (l : Launch) (z : Nat × Nat) (k19 : Int → Int → Int → Int → Int → Int → Mm → Option (Mm)) (p19 : ∀ (l0 l1 l2 l3 l4 l5 : Int) (μ : Mm) (t : Mm), m_kd μ l0 = (8, 0) → k19 l0 l1 l2 l3 l4 l5 μ = some t → aX8_comesByFills E l 2 z 19 [(0, vr l0), (1, vi l1), (2, vi l2), (3, vi l3), (4, vi l4), (5, vi l5)] [] μ (rV t)) (k86 : Int → Int → Int → Int → Int → Int → Int → Int → Mm → Option (Mm)) (p86 : ∀ (l0 l1 l2 l3 l4 l5 l6 l7 : Int) (μ : Mm) (t : Mm), m_kd μ l0 = (8, 0) → k86 l0 l1 l2 l3 l4 l5 l6 l7 μ = some t → aX8_comesByFills E l 2 z 86 [(0, vr l0), (1, vi l1), (2, vi l2), (3, vi l3), (4, vi l4), (5, vi l5), (6, vi l6), (7, vi l7)] [] μ (rV t)) (k129 : Int → Int → Int → Int → Int → Int → Int → Int → Int → Int → Mm → Option (Mm)) (p129 : ∀ (l0 l1 l2 l3 l4 l5 l6 l7 l8 l9 : Int) (μ : Mm) (t : Mm), m_kd μ l0 = (8, 0) → k129 l0 l1 l2 l3 l4 l5 l6 l7 l8 l9 μ = some t → aX8_comesByFills E l 2 z 129 [(0, vr l0), (1, vi l1), (2, vi l2), (3, vi l3), (4, vi l4), (5, vi l5), (6, vi l6), (7, vi l7), (8, vi l8), (9, vi l9)] [] μ (rV t)) (N : Nat) (l0 l1 l2 l3 l4 l5 l6 l7 l8 l9 s0 s1 : Int) (μ : Mm) (t : Mm) (hk : m_kd μ l0 = (8, 0)) (h : jX8_comesByFills_143 k19 k86 k129 N l0 l1 l2 l3 l4 l5 l6 l7 l8 l9 s0 s1 μ = some t) : aX8_comesByFills E l 2 z 143 [(0, vr l0), (1, vi l1), (2, vi l2), (3, vi l3), (4, vi l4), (5, vi l5), (6, vi l6), (7, vi l7), (8, vi l8), (9, vi l9)] [vi s0, vi s1] μ (rV t) := by
  unfold jX8_comesByFills_143 at h
  refine a_icmp_gt (tgt := 190) dX8_comesByFills_143 rfl h (fun h => ?_) (fun h => ?_)
  ·
    refine a_iinc (F := fun x1 => [(7, vi x1), (0, vr l0), (1, vi l1), (2, vi l2), (3, vi l3), (4, vi l4), (5, vi l5), (6, vi l6), (8, vi l8), (9, vi l9)]) 7 dX8_comesByFills_190 rfl (by decide) h (fun _ => rfl) (fun x1 h => ?_)
    refine a_goto (tgt := 86) dX8_comesByFills_193 rfl ?_
    exact a_sub [1, 2, 3, 4, 5, 6, 7, 0] rfl (p86 l0 l1 l2 l3 l4 l5 l6 x1 μ t hk h)
  ·
    refine a_aload_n 0 dX8_comesByFills_146 rfl rfl ?_
    refine a_getfr (c := 8) (i := 77) dX8_comesByFills_147 fRX8_159 g8_77 rfl hk ?_
    refine a_sipush dX8_comesByFills_150 ⟨rfl, okI_b _ rfl⟩ ?_
    refine a_iload_n 1 dX8_comesByFills_153 rfl rfl ?_
    refine a_iadd dX8_comesByFills_154 ?_
    refine a_iload 5 dX8_comesByFills_155 rfl ?_
    refine a_iload_n 2 dX8_comesByFills_157 rfl rfl ?_
    refine a_cSi [vi l2] [vi l5, vi (i_add 1060 l1), vr (m_gt μ l0 77)] dX8_comesByFills_158 myX8_oneOf mRX8_433 msX8_oneOf (fun _ hj => tX8_oneOf E l N l2 μ _  hj) (by decide) rfl (Nat.le_of_ble_eq_true rfl) h (fun x2 μ1 hm h => ?_)
    have hk := hm.k hk (by decide)
    refine a_imul dX8_comesByFills_161 ?_
    refine a_iadd dX8_comesByFills_162 ?_
    refine a_iload 7 dX8_comesByFills_163 rfl ?_
    refine a_iload_n 2 dX8_comesByFills_165 rfl rfl ?_
    refine a_iconst dX8_comesByFills_166 (okI_b _ rfl) ?_
    refine a_idivn (by decide) dX8_comesByFills_167 ?_
    refine a_iconst dX8_comesByFills_168 (okI_b _ rfl) ?_
    refine a_iremn (by decide) dX8_comesByFills_169 ?_
    refine a_imul dX8_comesByFills_170 ?_
    refine a_iadd dX8_comesByFills_171 ?_
    refine a_iload 9 dX8_comesByFills_172 rfl ?_
    refine a_iload_n 2 dX8_comesByFills_174 rfl rfl ?_
    refine a_iconst dX8_comesByFills_175 (okI_b _ rfl) ?_
    refine a_iremn (by decide) dX8_comesByFills_176 ?_
    refine a_imul dX8_comesByFills_177 ?_
    refine a_iadd dX8_comesByFills_178 ?_
    refine a_dup2 dX8_comesByFills_179 rfl rfl ?_
    refine a_lald dX8_comesByFills_180 h (fun x3 h => ?_)
    refine a_lconst (v := 1) dX8_comesByFills_181 ⟨rfl, okJ_b _ rfl⟩ ?_
    refine a_ladd dX8_comesByFills_182 ?_
    refine a_last dX8_comesByFills_183 h (fun μ2 hm h => ?_)
    have hk := hm.k hk (by decide)
    refine a_iinc (F := fun x4 => [(9, vi x4), (0, vr l0), (1, vi l1), (2, vi l2), (3, vi l3), (4, vi l4), (5, vi l5), (6, vi l6), (7, vi l7), (8, vi l8)]) 9 dX8_comesByFills_184 rfl (by decide) h (fun _ => rfl) (fun x4 h => ?_)
    refine a_goto (tgt := 129) dX8_comesByFills_187 rfl ?_
    exact a_sub [1, 2, 3, 4, 5, 6, 7, 8, 9, 0] rfl (p129 l0 l1 l2 l3 l4 l5 l6 l7 l8 x4 μ2 t hk h)
theorem tX8_comesByFills_129b (E : m_E) (l : Launch) (z : Nat × Nat) (k19 : Int → Int → Int → Int → Int → Int → Mm → Option (Mm)) (p19 : ∀ (l0 l1 l2 l3 l4 l5 : Int) (μ : Mm) (t : Mm), m_kd μ l0 = (8, 0) → k19 l0 l1 l2 l3 l4 l5 μ = some t → aX8_comesByFills E l 2 z 19 [(0, vr l0), (1, vi l1), (2, vi l2), (3, vi l3), (4, vi l4), (5, vi l5)] [] μ (rV t)) (k86 : Int → Int → Int → Int → Int → Int → Int → Int → Mm → Option (Mm)) (p86 : ∀ (l0 l1 l2 l3 l4 l5 l6 l7 : Int) (μ : Mm) (t : Mm), m_kd μ l0 = (8, 0) → k86 l0 l1 l2 l3 l4 l5 l6 l7 μ = some t → aX8_comesByFills E l 2 z 86 [(0, vr l0), (1, vi l1), (2, vi l2), (3, vi l3), (4, vi l4), (5, vi l5), (6, vi l6), (7, vi l7)] [] μ (rV t)) (k129 : Int → Int → Int → Int → Int → Int → Int → Int → Int → Int → Mm → Option (Mm)) (p129 : ∀ (l0 l1 l2 l3 l4 l5 l6 l7 l8 l9 : Int) (μ : Mm) (t : Mm), m_kd μ l0 = (8, 0) → k129 l0 l1 l2 l3 l4 l5 l6 l7 l8 l9 μ = some t → aX8_comesByFills E l 2 z 129 [(0, vr l0), (1, vi l1), (2, vi l2), (3, vi l3), (4, vi l4), (5, vi l5), (6, vi l6), (7, vi l7), (8, vi l8), (9, vi l9)] [] μ (rV t)) (N : Nat) (l0 l1 l2 l3 l4 l5 l6 l7 l8 l9 : Int) (μ : Mm) (t : Mm) (hk : m_kd μ l0 = (8, 0)) (h : jX8_comesByFills_129b k19 k86 k129 N l0 l1 l2 l3 l4 l5 l6 l7 l8 l9 μ = some t) : aX8_comesByFills E l 2 z 129 [(0, vr l0), (1, vi l1), (2, vi l2), (3, vi l3), (4, vi l4), (5, vi l5), (6, vi l6), (7, vi l7), (8, vi l8), (9, vi l9)] [] μ (rV t) := by
  unfold jX8_comesByFills_129b at h
  refine a_iload 9 dX8_comesByFills_129 rfl ?_
  refine a_iload 4 dX8_comesByFills_131 rfl ?_
  refine a_iconst dX8_comesByFills_133 (okI_b _ rfl) ?_
  refine a_icmp_le (tgt := 142) dX8_comesByFills_134 rfl h (fun h => ?_) (fun h => ?_)
  ·
    refine a_iconst dX8_comesByFills_142 (okI_b _ rfl) ?_
    exact a_sub [0, 1, 2, 3, 4, 5, 6, 7, 8, 9] rfl (tX8_comesByFills_143 E l _ k19 p19 k86 p86 k129 p129 N l0 l1 l2 l3 l4 l5 l6 l7 l8 l9 0 l9 μ t hk h)
  ·
    refine a_iload 8 dX8_comesByFills_137 rfl ?_
    refine a_goto (tgt := 143) dX8_comesByFills_139 rfl ?_
    exact a_sub [0, 1, 2, 3, 4, 5, 6, 7, 8, 9] rfl (tX8_comesByFills_143 E l _ k19 p19 k86 p86 k129 p129 N l0 l1 l2 l3 l4 l5 l6 l7 l8 l9 l8 l9 μ t hk h)
theorem tX8_comesByFills_129 (E : m_E) (l : Launch) (z : Nat × Nat) (k19 : Int → Int → Int → Int → Int → Int → Mm → Option (Mm)) (p19 : ∀ (l0 l1 l2 l3 l4 l5 : Int) (μ : Mm) (t : Mm), m_kd μ l0 = (8, 0) → k19 l0 l1 l2 l3 l4 l5 μ = some t → aX8_comesByFills E l 2 z 19 [(0, vr l0), (1, vi l1), (2, vi l2), (3, vi l3), (4, vi l4), (5, vi l5)] [] μ (rV t)) (k86 : Int → Int → Int → Int → Int → Int → Int → Int → Mm → Option (Mm)) (p86 : ∀ (l0 l1 l2 l3 l4 l5 l6 l7 : Int) (μ : Mm) (t : Mm), m_kd μ l0 = (8, 0) → k86 l0 l1 l2 l3 l4 l5 l6 l7 μ = some t → aX8_comesByFills E l 2 z 86 [(0, vr l0), (1, vi l1), (2, vi l2), (3, vi l3), (4, vi l4), (5, vi l5), (6, vi l6), (7, vi l7)] [] μ (rV t)) (N : Nat) : ∀ (n : Nat) (l0 l1 l2 l3 l4 l5 l6 l7 l8 l9 : Int) (μ : Mm) (t : Mm), m_kd μ l0 = (8, 0) → jX8_comesByFills_129 k19 k86 N n l0 l1 l2 l3 l4 l5 l6 l7 l8 l9 μ = some t → aX8_comesByFills E l 2 z 129 [(0, vr l0), (1, vi l1), (2, vi l2), (3, vi l3), (4, vi l4), (5, vi l5), (6, vi l6), (7, vi l7), (8, vi l8), (9, vi l9)] [] μ (rV t)
  | 0, _, _, _, _, _, _, _, _, _, _, _, _, _, h => by cases h
  | n + 1, l0, l1, l2, l3, l4, l5, l6, l7, l8, l9, μ, t, hk, h => tX8_comesByFills_129b E l z k19 p19 k86 p86 (jX8_comesByFills_129 k19 k86 N n) (tX8_comesByFills_129 E l z k19 p19 k86 p86 N n) N l0 l1 l2 l3 l4 l5 l6 l7 l8 l9 μ t hk h
theorem tX8_comesByFills_124 (E : m_E) (l : Launch) (z : Nat × Nat) (k19 : Int → Int → Int → Int → Int → Int → Mm → Option (Mm)) (p19 : ∀ (l0 l1 l2 l3 l4 l5 : Int) (μ : Mm) (t : Mm), m_kd μ l0 = (8, 0) → k19 l0 l1 l2 l3 l4 l5 μ = some t → aX8_comesByFills E l 2 z 19 [(0, vr l0), (1, vi l1), (2, vi l2), (3, vi l3), (4, vi l4), (5, vi l5)] [] μ (rV t)) (k86 : Int → Int → Int → Int → Int → Int → Int → Int → Mm → Option (Mm)) (p86 : ∀ (l0 l1 l2 l3 l4 l5 l6 l7 : Int) (μ : Mm) (t : Mm), m_kd μ l0 = (8, 0) → k86 l0 l1 l2 l3 l4 l5 l6 l7 μ = some t → aX8_comesByFills E l 2 z 86 [(0, vr l0), (1, vi l1), (2, vi l2), (3, vi l3), (4, vi l4), (5, vi l5), (6, vi l6), (7, vi l7)] [] μ (rV t)) (N : Nat) (l0 l1 l2 l3 l4 l5 l6 l7 s0 : Int) (μ : Mm) (t : Mm) (hk : m_kd μ l0 = (8, 0)) (h : jX8_comesByFills_124 k19 k86 N l0 l1 l2 l3 l4 l5 l6 l7 s0 μ = some t) : aX8_comesByFills E l 2 z 124 [(0, vr l0), (1, vi l1), (2, vi l2), (3, vi l3), (4, vi l4), (5, vi l5), (6, vi l6), (7, vi l7)] [vi s0] μ (rV t) := by
  unfold jX8_comesByFills_124 at h
  refine a_istore (L' := [(8, vi s0), (0, vr l0), (1, vi l1), (2, vi l2), (3, vi l3), (4, vi l4), (5, vi l5), (6, vi l6), (7, vi l7)]) dX8_comesByFills_124 (by decide) rfl ?_
  refine a_iconst dX8_comesByFills_126 (okI_b _ rfl) ?_
  refine a_istore (L' := [(9, vi 0), (8, vi s0), (0, vr l0), (1, vi l1), (2, vi l2), (3, vi l3), (4, vi l4), (5, vi l5), (6, vi l6), (7, vi l7)]) dX8_comesByFills_127 (by decide) rfl ?_
  exact a_sub [2, 3, 4, 5, 6, 7, 8, 9, 1, 0] rfl (tX8_comesByFills_129 E l _ k19 p19 k86 p86 N N l0 l1 l2 l3 l4 l5 l6 l7 s0 0 μ t hk h)
theorem tX8_comesByFills_100 (E : m_E) (l : Launch) (z : Nat × Nat) (k19 : Int → Int → Int → Int → Int → Int → Mm → Option (Mm)) (p19 : ∀ (l0 l1 l2 l3 l4 l5 : Int) (μ : Mm) (t : Mm), m_kd μ l0 = (8, 0) → k19 l0 l1 l2 l3 l4 l5 μ = some t → aX8_comesByFills E l 2 z 19 [(0, vr l0), (1, vi l1), (2, vi l2), (3, vi l3), (4, vi l4), (5, vi l5)] [] μ (rV t)) (k86 : Int → Int → Int → Int → Int → Int → Int → Int → Mm → Option (Mm)) (p86 : ∀ (l0 l1 l2 l3 l4 l5 l6 l7 : Int) (μ : Mm) (t : Mm), m_kd μ l0 = (8, 0) → k86 l0 l1 l2 l3 l4 l5 l6 l7 μ = some t → aX8_comesByFills E l 2 z 86 [(0, vr l0), (1, vi l1), (2, vi l2), (3, vi l3), (4, vi l4), (5, vi l5), (6, vi l6), (7, vi l7)] [] μ (rV t)) (N : Nat) (l0 l1 l2 l3 l4 l5 l6 l7 s0 s1 : Int) (μ : Mm) (t : Mm) (hk : m_kd μ l0 = (8, 0)) (h : jX8_comesByFills_100 k19 k86 N l0 l1 l2 l3 l4 l5 l6 l7 s0 s1 μ = some t) : aX8_comesByFills E l 2 z 100 [(0, vr l0), (1, vi l1), (2, vi l2), (3, vi l3), (4, vi l4), (5, vi l5), (6, vi l6), (7, vi l7)] [vi s0, vi s1] μ (rV t) := by
  unfold jX8_comesByFills_100 at h
  refine a_icmp_gt (tgt := 196) dX8_comesByFills_100 rfl h (fun h => ?_) (fun h => ?_)
  ·
    exact a_sub [0, 1, 2, 3, 4, 5] rfl (tX8_comesByFills_196 E l _ k19 p19 N l0 l1 l2 l3 l4 l5 μ t hk h)
  ·
    refine a_iload 7 dX8_comesByFills_103 rfl ?_
    refine a_iload 6 dX8_comesByFills_105 rfl ?_
    refine a_icmp_ne (tgt := 119) dX8_comesByFills_107 rfl h (fun h => ?_) (fun h => ?_)
    ·
      refine a_iload 6 dX8_comesByFills_119 rfl ?_
      refine a_iload 7 dX8_comesByFills_121 rfl ?_
      refine a_isub dX8_comesByFills_123 ?_
      exact a_sub [0, 1, 2, 3, 4, 5, 6, 7] rfl (tX8_comesByFills_124 E l _ k19 p19 k86 p86 N l0 l1 l2 l3 l4 l5 l6 l7 (i_sub l6 l7) μ t hk h)
    ·
      refine a_aload_n 0 dX8_comesByFills_110 rfl rfl ?_
      refine a_getfr (c := 8) (i := 31) dX8_comesByFills_111 fRX8_84 g8_31 rfl hk ?_
      refine a_iconst dX8_comesByFills_114 (okI_b _ rfl) ?_
      refine a_iald dX8_comesByFills_115 h (fun x1 h => ?_)
      refine a_goto (tgt := 124) dX8_comesByFills_116 rfl ?_
      exact a_sub [0, 1, 2, 3, 4, 5, 6, 7] rfl (tX8_comesByFills_124 E l _ k19 p19 k86 p86 N l0 l1 l2 l3 l4 l5 l6 l7 x1 μ t hk h)
theorem tX8_comesByFills_86b (E : m_E) (l : Launch) (z : Nat × Nat) (k19 : Int → Int → Int → Int → Int → Int → Mm → Option (Mm)) (p19 : ∀ (l0 l1 l2 l3 l4 l5 : Int) (μ : Mm) (t : Mm), m_kd μ l0 = (8, 0) → k19 l0 l1 l2 l3 l4 l5 μ = some t → aX8_comesByFills E l 2 z 19 [(0, vr l0), (1, vi l1), (2, vi l2), (3, vi l3), (4, vi l4), (5, vi l5)] [] μ (rV t)) (k86 : Int → Int → Int → Int → Int → Int → Int → Int → Mm → Option (Mm)) (p86 : ∀ (l0 l1 l2 l3 l4 l5 l6 l7 : Int) (μ : Mm) (t : Mm), m_kd μ l0 = (8, 0) → k86 l0 l1 l2 l3 l4 l5 l6 l7 μ = some t → aX8_comesByFills E l 2 z 86 [(0, vr l0), (1, vi l1), (2, vi l2), (3, vi l3), (4, vi l4), (5, vi l5), (6, vi l6), (7, vi l7)] [] μ (rV t)) (N : Nat) (l0 l1 l2 l3 l4 l5 l6 l7 : Int) (μ : Mm) (t : Mm) (hk : m_kd μ l0 = (8, 0)) (h : jX8_comesByFills_86b k19 k86 N l0 l1 l2 l3 l4 l5 l6 l7 μ = some t) : aX8_comesByFills E l 2 z 86 [(0, vr l0), (1, vi l1), (2, vi l2), (3, vi l3), (4, vi l4), (5, vi l5), (6, vi l6), (7, vi l7)] [] μ (rV t) := by
  unfold jX8_comesByFills_86b at h
  refine a_iload 7 dX8_comesByFills_86 rfl ?_
  refine a_iload 4 dX8_comesByFills_88 rfl ?_
  refine a_iconst dX8_comesByFills_90 (okI_b _ rfl) ?_
  refine a_icmp_le (tgt := 99) dX8_comesByFills_91 rfl h (fun h => ?_) (fun h => ?_)
  ·
    refine a_iconst dX8_comesByFills_99 (okI_b _ rfl) ?_
    exact a_sub [0, 1, 2, 3, 4, 5, 6, 7] rfl (tX8_comesByFills_100 E l _ k19 p19 k86 p86 N l0 l1 l2 l3 l4 l5 l6 l7 0 l7 μ t hk h)
  ·
    refine a_iload 6 dX8_comesByFills_94 rfl ?_
    refine a_goto (tgt := 100) dX8_comesByFills_96 rfl ?_
    exact a_sub [0, 1, 2, 3, 4, 5, 6, 7] rfl (tX8_comesByFills_100 E l _ k19 p19 k86 p86 N l0 l1 l2 l3 l4 l5 l6 l7 l6 l7 μ t hk h)
theorem tX8_comesByFills_86 (E : m_E) (l : Launch) (z : Nat × Nat) (k19 : Int → Int → Int → Int → Int → Int → Mm → Option (Mm)) (p19 : ∀ (l0 l1 l2 l3 l4 l5 : Int) (μ : Mm) (t : Mm), m_kd μ l0 = (8, 0) → k19 l0 l1 l2 l3 l4 l5 μ = some t → aX8_comesByFills E l 2 z 19 [(0, vr l0), (1, vi l1), (2, vi l2), (3, vi l3), (4, vi l4), (5, vi l5)] [] μ (rV t)) (N : Nat) : ∀ (n : Nat) (l0 l1 l2 l3 l4 l5 l6 l7 : Int) (μ : Mm) (t : Mm), m_kd μ l0 = (8, 0) → jX8_comesByFills_86 k19 N n l0 l1 l2 l3 l4 l5 l6 l7 μ = some t → aX8_comesByFills E l 2 z 86 [(0, vr l0), (1, vi l1), (2, vi l2), (3, vi l3), (4, vi l4), (5, vi l5), (6, vi l6), (7, vi l7)] [] μ (rV t)
  | 0, _, _, _, _, _, _, _, _, _, _, _, h => by cases h
  | n + 1, l0, l1, l2, l3, l4, l5, l6, l7, μ, t, hk, h => tX8_comesByFills_86b E l z k19 p19 (jX8_comesByFills_86 k19 N n) (tX8_comesByFills_86 E l z k19 p19 N n) N l0 l1 l2 l3 l4 l5 l6 l7 μ t hk h
theorem tX8_comesByFills_81 (E : m_E) (l : Launch) (z : Nat × Nat) (k19 : Int → Int → Int → Int → Int → Int → Mm → Option (Mm)) (p19 : ∀ (l0 l1 l2 l3 l4 l5 : Int) (μ : Mm) (t : Mm), m_kd μ l0 = (8, 0) → k19 l0 l1 l2 l3 l4 l5 μ = some t → aX8_comesByFills E l 2 z 19 [(0, vr l0), (1, vi l1), (2, vi l2), (3, vi l3), (4, vi l4), (5, vi l5)] [] μ (rV t)) (N : Nat) (l0 l1 l2 l3 l4 l5 s0 : Int) (μ : Mm) (t : Mm) (hk : m_kd μ l0 = (8, 0)) (h : jX8_comesByFills_81 k19 N l0 l1 l2 l3 l4 l5 s0 μ = some t) : aX8_comesByFills E l 2 z 81 [(0, vr l0), (1, vi l1), (2, vi l2), (3, vi l3), (4, vi l4), (5, vi l5)] [vi s0] μ (rV t) := by
  unfold jX8_comesByFills_81 at h
  refine a_istore (L' := [(6, vi s0), (0, vr l0), (1, vi l1), (2, vi l2), (3, vi l3), (4, vi l4), (5, vi l5)]) dX8_comesByFills_81 (by decide) rfl ?_
  refine a_iconst dX8_comesByFills_83 (okI_b _ rfl) ?_
  refine a_istore (L' := [(7, vi 0), (6, vi s0), (0, vr l0), (1, vi l1), (2, vi l2), (3, vi l3), (4, vi l4), (5, vi l5)]) dX8_comesByFills_84 (by decide) rfl ?_
  exact a_sub [2, 3, 4, 5, 6, 7, 1, 0] rfl (tX8_comesByFills_86 E l _ k19 p19 N N l0 l1 l2 l3 l4 l5 s0 0 μ t hk h)
theorem tX8_comesByFills_56 (E : m_E) (l : Launch) (z : Nat × Nat) (k19 : Int → Int → Int → Int → Int → Int → Mm → Option (Mm)) (p19 : ∀ (l0 l1 l2 l3 l4 l5 : Int) (μ : Mm) (t : Mm), m_kd μ l0 = (8, 0) → k19 l0 l1 l2 l3 l4 l5 μ = some t → aX8_comesByFills E l 2 z 19 [(0, vr l0), (1, vi l1), (2, vi l2), (3, vi l3), (4, vi l4), (5, vi l5)] [] μ (rV t)) (N : Nat) (l0 l1 l2 l3 l4 l5 : Int) (μ : Mm) (t : Mm) (hk : m_kd μ l0 = (8, 0)) (h : jX8_comesByFills_56 k19 N l0 l1 l2 l3 l4 l5 μ = some t) : aX8_comesByFills E l 2 z 56 [(0, vr l0), (1, vi l1), (2, vi l2), (3, vi l3), (4, vi l4), (5, vi l5)] [] μ (rV t) := by
  unfold jX8_comesByFills_56 at h
  refine a_iload 5 dX8_comesByFills_56 rfl ?_
  refine a_aload_n 0 dX8_comesByFills_58 rfl rfl ?_
  refine a_getfi (c := 8) (i := 66) dX8_comesByFills_59 fRX8_398 g8_66 rfl hk ?_
  refine a_icmp_ne (tgt := 74) dX8_comesByFills_62 rfl h (fun h => ?_) (fun h => ?_)
  ·
    refine a_aload_n 0 dX8_comesByFills_74 rfl rfl ?_
    refine a_getfi (c := 8) (i := 66) dX8_comesByFills_75 fRX8_398 g8_66 rfl hk ?_
    refine a_iload 5 dX8_comesByFills_78 rfl ?_
    refine a_isub dX8_comesByFills_80 ?_
    exact a_sub [0, 1, 2, 3, 4, 5] rfl (tX8_comesByFills_81 E l _ k19 p19 N l0 l1 l2 l3 l4 l5 (i_sub (m_gt μ l0 66) l5) μ t hk h)
  ·
    refine a_aload_n 0 dX8_comesByFills_65 rfl rfl ?_
    refine a_getfr (c := 8) (i := 31) dX8_comesByFills_66 fRX8_84 g8_31 rfl hk ?_
    refine a_iconst dX8_comesByFills_69 (okI_b _ rfl) ?_
    refine a_iald dX8_comesByFills_70 h (fun x1 h => ?_)
    refine a_goto (tgt := 81) dX8_comesByFills_71 rfl ?_
    exact a_sub [0, 1, 2, 3, 4, 5] rfl (tX8_comesByFills_81 E l _ k19 p19 N l0 l1 l2 l3 l4 l5 x1 μ t hk h)
theorem tX8_comesByFills_34 (E : m_E) (l : Launch) (z : Nat × Nat) (k19 : Int → Int → Int → Int → Int → Int → Mm → Option (Mm)) (p19 : ∀ (l0 l1 l2 l3 l4 l5 : Int) (μ : Mm) (t : Mm), m_kd μ l0 = (8, 0) → k19 l0 l1 l2 l3 l4 l5 μ = some t → aX8_comesByFills E l 2 z 19 [(0, vr l0), (1, vi l1), (2, vi l2), (3, vi l3), (4, vi l4), (5, vi l5)] [] μ (rV t)) (N : Nat) (l0 l1 l2 l3 l4 l5 s0 s1 : Int) (μ : Mm) (t : Mm) (hk : m_kd μ l0 = (8, 0)) (h : jX8_comesByFills_34 k19 N l0 l1 l2 l3 l4 l5 s0 s1 μ = some t) : aX8_comesByFills E l 2 z 34 [(0, vr l0), (1, vi l1), (2, vi l2), (3, vi l3), (4, vi l4), (5, vi l5)] [vi s0, vi s1] μ (rV t) := by
  unfold jX8_comesByFills_34 at h
  refine a_icmp_gt (tgt := 202) dX8_comesByFills_34 rfl h (fun h => ?_) (fun h => ?_)
  ·
    exact a_ret0 dX8_comesByFills_202 h
  ·
    refine a_iload 4 dX8_comesByFills_37 rfl ?_
    refine a_if_le (tgt := 56) dX8_comesByFills_39 rfl h (fun h => ?_) (fun h => ?_)
    ·
      exact a_sub [0, 1, 2, 3, 4, 5] rfl (tX8_comesByFills_56 E l _ k19 p19 N l0 l1 l2 l3 l4 l5 μ t hk h)
    ·
      refine a_iload_n 3 dX8_comesByFills_42 rfl rfl ?_
      refine a_iconst dX8_comesByFills_43 (okI_b _ rfl) ?_
      refine a_icmp_eq (tgt := 56) dX8_comesByFills_44 rfl h (fun h => ?_) (fun h => ?_)
      ·
        exact a_sub [0, 1, 2, 3, 4, 5] rfl (tX8_comesByFills_56 E l _ k19 p19 N l0 l1 l2 l3 l4 l5 μ t hk h)
      ·
        refine a_iload 5 dX8_comesByFills_47 rfl ?_
        refine a_iload_n 3 dX8_comesByFills_49 rfl rfl ?_
        refine a_icmp_eq (tgt := 56) dX8_comesByFills_50 rfl h (fun h => ?_) (fun h => ?_)
        ·
          exact a_sub [0, 1, 2, 3, 4, 5] rfl (tX8_comesByFills_56 E l _ k19 p19 N l0 l1 l2 l3 l4 l5 μ t hk h)
        ·
          refine a_goto (tgt := 196) dX8_comesByFills_53 rfl ?_
          exact a_sub [0, 1, 2, 3, 4, 5] rfl (tX8_comesByFills_196 E l _ k19 p19 N l0 l1 l2 l3 l4 l5 μ t hk h)
theorem tX8_comesByFills_19b (E : m_E) (l : Launch) (z : Nat × Nat) (k19 : Int → Int → Int → Int → Int → Int → Mm → Option (Mm)) (p19 : ∀ (l0 l1 l2 l3 l4 l5 : Int) (μ : Mm) (t : Mm), m_kd μ l0 = (8, 0) → k19 l0 l1 l2 l3 l4 l5 μ = some t → aX8_comesByFills E l 2 z 19 [(0, vr l0), (1, vi l1), (2, vi l2), (3, vi l3), (4, vi l4), (5, vi l5)] [] μ (rV t)) (N : Nat) (l0 l1 l2 l3 l4 l5 : Int) (μ : Mm) (t : Mm) (hk : m_kd μ l0 = (8, 0)) (h : jX8_comesByFills_19b k19 N l0 l1 l2 l3 l4 l5 μ = some t) : aX8_comesByFills E l 2 z 19 [(0, vr l0), (1, vi l1), (2, vi l2), (3, vi l3), (4, vi l4), (5, vi l5)] [] μ (rV t) := by
  unfold jX8_comesByFills_19b at h
  refine a_iload 5 dX8_comesByFills_19 rfl ?_
  refine a_iload 4 dX8_comesByFills_21 rfl ?_
  refine a_if_le (tgt := 33) dX8_comesByFills_23 rfl h (fun h => ?_) (fun h => ?_)
  ·
    refine a_iconst dX8_comesByFills_33 (okI_b _ rfl) ?_
    exact a_sub [0, 1, 2, 3, 4, 5] rfl (tX8_comesByFills_34 E l _ k19 p19 N l0 l1 l2 l3 l4 l5 0 l5 μ t hk h)
  ·
    refine a_aload_n 0 dX8_comesByFills_26 rfl rfl ?_
    refine a_getfi (c := 8) (i := 66) dX8_comesByFills_27 fRX8_398 g8_66 rfl hk ?_
    refine a_goto (tgt := 34) dX8_comesByFills_30 rfl ?_
    exact a_sub [0, 1, 2, 3, 4, 5] rfl (tX8_comesByFills_34 E l _ k19 p19 N l0 l1 l2 l3 l4 l5 (m_gt μ l0 66) l5 μ t hk h)
theorem tX8_comesByFills_19 (E : m_E) (l : Launch) (z : Nat × Nat) (N : Nat) : ∀ (n : Nat) (l0 l1 l2 l3 l4 l5 : Int) (μ : Mm) (t : Mm), m_kd μ l0 = (8, 0) → jX8_comesByFills_19 N n l0 l1 l2 l3 l4 l5 μ = some t → aX8_comesByFills E l 2 z 19 [(0, vr l0), (1, vi l1), (2, vi l2), (3, vi l3), (4, vi l4), (5, vi l5)] [] μ (rV t)
  | 0, _, _, _, _, _, _, _, _, _, h => by cases h
  | n + 1, l0, l1, l2, l3, l4, l5, μ, t, hk, h => tX8_comesByFills_19b E l z (jX8_comesByFills_19 N n) (tX8_comesByFills_19 E l z N n) N l0 l1 l2 l3 l4 l5 μ t hk h
theorem tX8_comesByFills (E : m_E) (l : Launch) (N : Nat) (l0 l1 l2 l3 : Int) (μ : Mm) (t : Mm) (hk : m_kd μ l0 = (8, 0)) (h : jX8_comesByFills N l0 l1 l2 l3 μ = some t) : TT E l 2 yX8_comesByFills cX8_comesByFills 10 none [vr l0, vi l1, vi l2, vi l3] μ (rV t) := by
  refine tt_of (L := [(0, vr l0), (1, vi l1), (2, vi l2), (3, vi l3)]) (by decide +kernel) (Nat.le_of_ble_eq_true rfl) rfl ?_
  show aX8_comesByFills E l 2 (m_sz μ, m_sl μ) 0 [(0, vr l0), (1, vi l1), (2, vi l2), (3, vi l3)] [] μ (rV t)
  unfold jX8_comesByFills at h
  refine a_aload_n 0 dX8_comesByFills_0 rfl rfl ?_
  refine a_getfi (c := 8) (i := 67) dX8_comesByFills_1 fRX8_401 g8_67 rfl hk ?_
  refine a_aload_n 0 dX8_comesByFills_4 rfl rfl ?_
  refine a_getfr (c := 8) (i := 61) dX8_comesByFills_5 fRX8_137 g8_61 rfl hk ?_
  refine a_aload_n 0 dX8_comesByFills_8 rfl rfl ?_
  refine a_getfi (c := 8) (i := 65) dX8_comesByFills_9 fRX8_385 g8_65 rfl hk ?_
  refine a_iald dX8_comesByFills_12 h (fun x1 h => ?_)
  refine a_isub dX8_comesByFills_13 ?_
  refine a_nmi h (fun x2 h => ?_)
  refine a_istore (L' := [(4, vi x2), (0, vr l0), (1, vi l1), (2, vi l2), (3, vi l3)]) dX8_comesByFills_14 (by decide) rfl ?_
  refine a_iconst dX8_comesByFills_16 (okI_b _ rfl) ?_
  refine a_istore (L' := [(5, vi 0), (4, vi x2), (0, vr l0), (1, vi l1), (2, vi l2), (3, vi l3)]) dX8_comesByFills_17 (by decide) rfl ?_
  exact a_sub [2, 3, 4, 5, 1, 0] rfl (tX8_comesByFills_19 E l _ N N l0 l1 l2 l3 x2 0 μ t hk h)
-- X8_empties
abbrev aX8_empties (E : m_E) (l : Launch) (d : Nat) (z : Nat × Nat) (pc : Nat) (L : List (Nat × AV)) (st : List AV) (μ : Mm) (ρ : Option AV × Mm) : Prop := AA E l d z RX8 "empties" cX8_empties 3 none pc L st μ ρ
theorem tX8_empties (E : m_E) (l : Launch) (N : Nat) (l0 l1 l2 : Int) (μ : Mm) (t : Mm) (hk : m_kd μ l0 = (8, 0)) (h : jX8_empties N l0 l1 l2 μ = some t) : TT E l 1 yX8_empties cX8_empties 3 none [vr l0, vi l1, vi l2] μ (rV t) := by
  refine tt_of (L := [(0, vr l0), (1, vi l1), (2, vi l2)]) (by decide +kernel) (Nat.le_of_ble_eq_true rfl) rfl ?_
  show aX8_empties E l 1 (m_sz μ, m_sl μ) 0 [(0, vr l0), (1, vi l1), (2, vi l2)] [] μ (rV t)
  unfold jX8_empties at h
  refine a_aload_n 0 dX8_empties_0 rfl rfl ?_
  refine a_getfr (c := 8) (i := 60) dX8_empties_1 fRX8_134 g8_60 rfl hk ?_
  refine a_iload_n 1 dX8_empties_4 rfl rfl ?_
  refine a_iload_n 2 dX8_empties_5 rfl rfl ?_
  refine a_iast dX8_empties_6 h (fun μ1 hm h => ?_)
  have hk := hm.k hk (by decide)
  refine a_aload_n 0 dX8_empties_7 rfl rfl ?_
  refine a_getfr (c := 8) (i := 61) dX8_empties_8 fRX8_137 g8_61 rfl hk ?_
  refine a_iload_n 1 dX8_empties_11 rfl rfl ?_
  refine a_iconst dX8_empties_12 (okI_b _ rfl) ?_
  refine a_iast dX8_empties_13 h (fun μ2 hm h => ?_)
  have hk := hm.k hk (by decide)
  refine a_aload_n 0 dX8_empties_14 rfl rfl ?_
  refine a_getfr (c := 8) (i := 62) dX8_empties_15 fRX8_140 g8_62 rfl hk ?_
  refine a_iload_n 1 dX8_empties_18 rfl rfl ?_
  refine a_iconst dX8_empties_19 (okI_b _ rfl) ?_
  refine a_iast dX8_empties_20 h (fun μ3 hm h => ?_)
  have hk := hm.k hk (by decide)
  refine a_aload_n 0 dX8_empties_21 rfl rfl ?_
  refine a_getfr (c := 8) (i := 63) dX8_empties_22 fRX8_143 g8_63 rfl hk ?_
  refine a_iload_n 1 dX8_empties_25 rfl rfl ?_
  refine a_iconst dX8_empties_26 (okI_b _ rfl) ?_
  refine a_iast dX8_empties_27 h (fun μ4 hm h => ?_)
  have hk := hm.k hk (by decide)
  refine a_aload_n 0 dX8_empties_28 rfl rfl ?_
  refine a_getfr (c := 8) (i := 64) dX8_empties_29 fRX8_146 g8_64 rfl hk ?_
  refine a_iload_n 1 dX8_empties_32 rfl rfl ?_
  refine a_iconst dX8_empties_33 (okI_b _ rfl) ?_
  refine a_iast dX8_empties_34 h (fun μ5 hm h => ?_)
  have hk := hm.k hk (by decide)
  exact a_ret0 dX8_empties_35 h
-- X8_owes
abbrev aX8_owes (E : m_E) (l : Launch) (d : Nat) (z : Nat × Nat) (pc : Nat) (L : List (Nat × AV)) (st : List AV) (μ : Mm) (ρ : Option AV × Mm) : Prop := AA E l d z RX8 "owes" cX8_owes 3 (some .int) pc L st μ ρ
theorem tX8_owes (E : m_E) (l : Launch) (N : Nat) (l0 l1 l2 : Int) (μ : Mm) (t : Int × Mm) (h : jX8_owes N l0 l1 l2 μ = some t) : TT E l 1 yX8_owes cX8_owes 3 (some .int) [vi l0, vi l1, vi l2] μ (rI t) := by
  refine tt_of (L := [(0, vi l0), (1, vi l1), (2, vi l2)]) (by decide +kernel) (Nat.le_of_ble_eq_true rfl) rfl ?_
  show aX8_owes E l 1 (m_sz μ, m_sl μ) 0 [(0, vi l0), (1, vi l1), (2, vi l2)] [] μ (rI t)
  unfold jX8_owes at h
  refine a_bipush dX8_owes_0 ⟨rfl, okI_b _ rfl⟩ ?_
  refine a_iload_n 0 dX8_owes_2 rfl rfl ?_
  refine a_imul dX8_owes_3 ?_
  refine a_iconst dX8_owes_4 (okI_b _ rfl) ?_
  refine a_iload_n 1 dX8_owes_5 rfl rfl ?_
  refine a_imul dX8_owes_6 ?_
  refine a_iadd dX8_owes_7 ?_
  refine a_iload_n 2 dX8_owes_8 rfl rfl ?_
  refine a_iadd dX8_owes_9 ?_
  exact a_reti dX8_owes_10 h
-- X8_later
abbrev aX8_later (E : m_E) (l : Launch) (d : Nat) (z : Nat × Nat) (pc : Nat) (L : List (Nat × AV)) (st : List AV) (μ : Mm) (ρ : Option AV × Mm) : Prop := AA E l d z RX8 "later" cX8_later 1 (some .int) pc L st μ ρ
theorem tX8_later (E : m_E) (l : Launch) (N : Nat) (l0 : Int) (μ : Mm) (t : Int × Mm) (h : jX8_later N l0 μ = some t) : TT E l 2 yX8_later cX8_later 1 (some .int) [vi l0] μ (rI t) := by
  refine tt_of (L := [(0, vi l0)]) (by decide +kernel) (Nat.le_of_ble_eq_true rfl) rfl ?_
  show aX8_later E l 2 (m_sz μ, m_sl μ) 0 [(0, vi l0)] [] μ (rI t)
  unfold jX8_later at h
  refine a_iload_n 0 dX8_later_0 rfl rfl ?_
  refine a_iconst dX8_later_1 (okI_b _ rfl) ?_
  refine a_idivn (by decide) dX8_later_2 ?_
  refine a_iconst dX8_later_3 (okI_b _ rfl) ?_
  refine a_iremn (by decide) dX8_later_4 ?_
  refine a_iload_n 0 dX8_later_5 rfl rfl ?_
  refine a_iconst dX8_later_6 (okI_b _ rfl) ?_
  refine a_iremn (by decide) dX8_later_7 ?_
  refine a_iconst dX8_later_8 (okI_b _ rfl) ?_
  refine a_cSi [vi (i_rem (i_div l0 2) 3), vi (i_rem l0 2), vi 0] [] dX8_later_9 myX8_owes mRX8_424 msX8_owes (fun _ hj => tX8_owes E l N (i_rem (i_div l0 2) 3) (i_rem l0 2) 0 μ _  hj) (by decide) rfl (Nat.le_of_ble_eq_true rfl) h (fun x1 μ1 hm h => ?_)
  exact a_reti dX8_later_12 h
-- X8_plus
abbrev aX8_plus (E : m_E) (l : Launch) (d : Nat) (z : Nat × Nat) (pc : Nat) (L : List (Nat × AV)) (st : List AV) (μ : Mm) (ρ : Option AV × Mm) : Prop := AA E l d z RX8 "plus" cX8_plus 3 (some .int) pc L st μ ρ
theorem tX8_plus_25 (E : m_E) (l : Launch) (z : Nat × Nat) (N : Nat) (l2 : Int) (μ : Mm) (t : Int × Mm) (h : jX8_plus_25 N l2 μ = some t) : aX8_plus E l 1 z 25 [(2, vi l2)] [] μ (rI t) := by
  unfold jX8_plus_25 at h
  refine a_iload_n 0 dX8_plus_25 rfl rfl ?_
  exact a_reti dX8_plus_26 h
theorem tX8_plus_17 (E : m_E) (l : Launch) (z : Nat × Nat) (N : Nat) (l1 l2 : Int) (μ : Mm) (t : Int × Mm) (h : jX8_plus_17 N l1 l2 μ = some t) : aX8_plus E l 1 z 17 [(1, vi l1), (2, vi l2)] [] μ (rI t) := by
  unfold jX8_plus_17 at h
  refine a_iload_n 0 dX8_plus_17 rfl rfl ?_
  refine a_iconst dX8_plus_18 (okI_b _ rfl) ?_
  refine a_icmp_le (tgt := 25) dX8_plus_19 rfl h (fun h => ?_) (fun h => ?_)
  ·
    exact a_sub [1] rfl (tX8_plus_25 E l _ N l2 μ t h)
  ·
    refine a_iinc (F := fun x1 => [(2, vi x1), (1, vi l1)]) 1 dX8_plus_22 rfl (by decide) h (fun _ => rfl) (fun x1 h => ?_)
    exact a_sub [0] rfl (tX8_plus_25 E l _ N x1 μ t h)
theorem tX8_plus_9 (E : m_E) (l : Launch) (z : Nat × Nat) (N : Nat) (l1 l2 : Int) (μ : Mm) (t : Int × Mm) (h : jX8_plus_9 N l1 l2 μ = some t) : aX8_plus E l 1 z 9 [(1, vi l1), (2, vi l2)] [] μ (rI t) := by
  unfold jX8_plus_9 at h
  refine a_iload_n 0 dX8_plus_9 rfl rfl ?_
  refine a_iconst dX8_plus_10 (okI_b _ rfl) ?_
  refine a_icmp_le (tgt := 17) dX8_plus_11 rfl h (fun h => ?_) (fun h => ?_)
  ·
    exact a_sub [0, 1] rfl (tX8_plus_17 E l _ N l1 l2 μ t h)
  ·
    refine a_iinc (F := fun x1 => [(2, vi x1), (1, vi l1)]) 1 dX8_plus_14 rfl (by decide) h (fun _ => rfl) (fun x1 h => ?_)
    exact a_sub [1, 0] rfl (tX8_plus_17 E l _ N l1 x1 μ t h)
theorem tX8_plus (E : m_E) (l : Launch) (N : Nat) (l0 l1 : Int) (μ : Mm) (t : Int × Mm) (h : jX8_plus N l0 l1 μ = some t) : TT E l 1 yX8_plus cX8_plus 3 (some .int) [vi l0, vi l1] μ (rI t) := by
  refine tt_of (L := [(0, vi l0), (1, vi l1)]) (by decide +kernel) (Nat.le_of_ble_eq_true rfl) rfl ?_
  show aX8_plus E l 1 (m_sz μ, m_sl μ) 0 [(0, vi l0), (1, vi l1)] [] μ (rI t)
  unfold jX8_plus at h
  refine a_iload_n 0 dX8_plus_0 rfl rfl ?_
  refine a_istore_n (L' := [(2, vi l0), (0, vi l0), (1, vi l1)]) dX8_plus_1 rfl (by decide) rfl ?_
  refine a_iload_n 2 dX8_plus_2 rfl rfl ?_
  refine a_if_le (tgt := 9) dX8_plus_3 rfl h (fun h => ?_) (fun h => ?_)
  ·
    exact a_sub [2, 0] rfl (tX8_plus_9 E l _ N l1 l0 μ t h)
  ·
    refine a_iinc (F := fun x1 => [(2, vi x1), (0, vi l0), (1, vi l1)]) 0 dX8_plus_6 rfl (by decide) h (fun _ => rfl) (fun x1 h => ?_)
    exact a_sub [2, 0] rfl (tX8_plus_9 E l _ N l1 x1 μ t h)
-- X8_taken
abbrev aX8_taken (E : m_E) (l : Launch) (d : Nat) (z : Nat × Nat) (pc : Nat) (L : List (Nat × AV)) (st : List AV) (μ : Mm) (ρ : Option AV × Mm) : Prop := AA E l d z RX8 "taken" cX8_taken 1 (some .int) pc L st μ ρ
theorem tX8_taken_11 (E : m_E) (l : Launch) (z : Nat × Nat) (N : Nat) (s0 : Int) (μ : Mm) (t : Int × Mm) (h : jX8_taken_11 N s0 μ = some t) : aX8_taken E l 1 z 11 [] [vi s0] μ (rI t) := by
  unfold jX8_taken_11 at h
  exact a_reti dX8_taken_11 h
theorem tX8_taken (E : m_E) (l : Launch) (N : Nat) (l0 : Int) (μ : Mm) (t : Int × Mm) (h : jX8_taken N l0 μ = some t) : TT E l 1 yX8_taken cX8_taken 1 (some .int) [vi l0] μ (rI t) := by
  refine tt_of (L := [(0, vi l0)]) (by decide +kernel) (Nat.le_of_ble_eq_true rfl) rfl ?_
  show aX8_taken E l 1 (m_sz μ, m_sl μ) 0 [(0, vi l0)] [] μ (rI t)
  unfold jX8_taken at h
  refine a_iload_n 0 dX8_taken_0 rfl rfl ?_
  refine a_bipush dX8_taken_1 ⟨rfl, okI_b _ rfl⟩ ?_
  refine a_icmp_ne (tgt := 10) dX8_taken_3 rfl h (fun h => ?_) (fun h => ?_)
  ·
    refine a_iload_n 0 dX8_taken_10 rfl rfl ?_
    exact a_sub [] rfl (tX8_taken_11 E l _ N l0 μ t h)
  ·
    refine a_iconst dX8_taken_6 (okI_b _ rfl) ?_
    refine a_goto (tgt := 11) dX8_taken_7 rfl ?_
    exact a_sub [] rfl (tX8_taken_11 E l _ N 0 μ t h)
-- X8_clip
abbrev aX8_clip (E : m_E) (l : Launch) (d : Nat) (z : Nat × Nat) (pc : Nat) (L : List (Nat × AV)) (st : List AV) (μ : Mm) (ρ : Option AV × Mm) : Prop := AA E l d z RX8 "clip" cX8_clip 2 (some .long) pc L st μ ρ
theorem tX8_clip_29 (E : m_E) (l : Launch) (z : Nat × Nat) (N : Nat) (s0 : Int) (μ : Mm) (t : Int × Mm) (h : jX8_clip_29 N s0 μ = some t) : aX8_clip E l 1 z 29 [] [vl s0] μ (rJ t) := by
  unfold jX8_clip_29 at h
  exact a_retl dX8_clip_29 h
theorem tX8_clip (E : m_E) (l : Launch) (N : Nat) (l0 : Int) (μ : Mm) (t : Int × Mm) (h : jX8_clip N l0 μ = some t) : TT E l 1 yX8_clip cX8_clip 2 (some .long) [vl l0] μ (rJ t) := by
  refine tt_of (L := [(0, vl l0)]) (by decide +kernel) (Nat.le_of_ble_eq_true rfl) rfl ?_
  show aX8_clip E l 1 (m_sz μ, m_sl μ) 0 [(0, vl l0)] [] μ (rJ t)
  unfold jX8_clip at h
  refine a_lload_n 0 dX8_clip_0 rfl rfl ?_
  refine a_ldc2 (x := 1000000) dX8_clip_1 kRX8_337 ⟨rfl, okJ_b _ rfl⟩ ?_
  refine a_lcmp dX8_clip_4 ?_
  refine a_if_le (tgt := 14) dX8_clip_5 rfl h (fun h => ?_) (fun h => ?_)
  ·
    refine a_lload_n 0 dX8_clip_14 rfl rfl ?_
    refine a_ldc2 (x := (-1000000)) dX8_clip_15 kRX8_339 ⟨rfl, okJ_b _ rfl⟩ ?_
    refine a_lcmp dX8_clip_18 ?_
    refine a_if_ge (tgt := 28) dX8_clip_19 rfl h (fun h => ?_) (fun h => ?_)
    ·
      refine a_lload_n 0 dX8_clip_28 rfl rfl ?_
      exact a_sub [] rfl (tX8_clip_29 E l _ N l0 μ t h)
    ·
      refine a_ldc2 (x := (-1000000)) dX8_clip_22 kRX8_339 ⟨rfl, okJ_b _ rfl⟩ ?_
      refine a_goto (tgt := 29) dX8_clip_25 rfl ?_
      exact a_sub [] rfl (tX8_clip_29 E l _ N (-1000000) μ t h)
  ·
    refine a_ldc2 (x := 1000000) dX8_clip_8 kRX8_337 ⟨rfl, okJ_b _ rfl⟩ ?_
    refine a_goto (tgt := 29) dX8_clip_11 rfl ?_
    exact a_sub [] rfl (tX8_clip_29 E l _ N 1000000 μ t h)
-- X8_floor
abbrev aX8_floor (E : m_E) (l : Launch) (d : Nat) (z : Nat × Nat) (pc : Nat) (L : List (Nat × AV)) (st : List AV) (μ : Mm) (ρ : Option AV × Mm) : Prop := AA E l d z RX8 "floor" cX8_floor 6 (some .long) pc L st μ ρ
theorem tX8_floor_55 (E : m_E) (l : Launch) (z : Nat × Nat) (N : Nat) (s0 : Int) (μ : Mm) (t : Int × Mm) (h : jX8_floor_55 N s0 μ = some t) : aX8_floor E l 1 z 55 [] [vl s0] μ (rJ t) := by
  unfold jX8_floor_55 at h
  exact a_retl dX8_floor_55 h
theorem tX8_floor_53 (E : m_E) (l : Launch) (z : Nat × Nat) (N : Nat) (l4 : Int) (μ : Mm) (t : Int × Mm) (h : jX8_floor_53 N l4 μ = some t) : aX8_floor E l 1 z 53 [(4, vl l4)] [] μ (rJ t) := by
  unfold jX8_floor_53 at h
  refine a_lload 0 dX8_floor_53 rfl ?_
  exact a_sub [] rfl (tX8_floor_55 E l _ N l4 μ t h)
theorem tX8_floor_43 (E : m_E) (l : Launch) (z : Nat × Nat) (N : Nat) (l4 s0 s1 : Int) (μ : Mm) (t : Int × Mm) (h : jX8_floor_43 N l4 s0 s1 μ = some t) : aX8_floor E l 1 z 43 [(4, vl l4)] [vi s0, vi s1] μ (rJ t) := by
  unfold jX8_floor_43 at h
  refine a_icmp_eq (tgt := 53) dX8_floor_43 rfl h (fun h => ?_) (fun h => ?_)
  ·
    exact a_sub [0] rfl (tX8_floor_53 E l _ N l4 μ t h)
  ·
    refine a_lload 0 dX8_floor_46 rfl ?_
    refine a_lconst (v := 1) dX8_floor_48 ⟨rfl, okJ_b _ rfl⟩ ?_
    refine a_lsub dX8_floor_49 ?_
    refine a_goto (tgt := 55) dX8_floor_50 rfl ?_
    exact a_sub [] rfl (tX8_floor_55 E l _ N (l_sub l4 1) μ t h)
theorem tX8_floor_32 (E : m_E) (l : Launch) (z : Nat × Nat) (N : Nat) (l2 l4 s0 : Int) (μ : Mm) (t : Int × Mm) (h : jX8_floor_32 N l2 l4 s0 μ = some t) : aX8_floor E l 1 z 32 [(2, vl l2), (4, vl l4)] [vi s0] μ (rJ t) := by
  unfold jX8_floor_32 at h
  refine a_lload_n 0 dX8_floor_32 rfl rfl ?_
  refine a_lconst (v := 0) dX8_floor_33 ⟨rfl, okJ_b _ rfl⟩ ?_
  refine a_lcmp dX8_floor_34 ?_
  refine a_if_ge (tgt := 42) dX8_floor_35 rfl h (fun h => ?_) (fun h => ?_)
  ·
    refine a_iconst dX8_floor_42 (okI_b _ rfl) ?_
    exact a_sub [1] rfl (tX8_floor_43 E l _ N l4 0 s0 μ t h)
  ·
    refine a_iconst dX8_floor_38 (okI_b _ rfl) ?_
    refine a_goto (tgt := 43) dX8_floor_39 rfl ?_
    exact a_sub [1] rfl (tX8_floor_43 E l _ N l4 1 s0 μ t h)
theorem tX8_floor (E : m_E) (l : Launch) (N : Nat) (l0 l2 : Int) (μ : Mm) (t : Int × Mm) (h : jX8_floor N l0 l2 μ = some t) : TT E l 1 yX8_floor cX8_floor 6 (some .long) [vl l0, vl l2] μ (rJ t) := by
  refine tt_of (L := [(0, vl l0), (2, vl l2)]) (by decide +kernel) (Nat.le_of_ble_eq_true rfl) rfl ?_
  show aX8_floor E l 1 (m_sz μ, m_sl μ) 0 [(0, vl l0), (2, vl l2)] [] μ (rJ t)
  unfold jX8_floor at h
  refine a_lload_n 1 dX8_floor_0 rfl rfl ?_
  refine a_lconst (v := 0) dX8_floor_1 ⟨rfl, okJ_b _ rfl⟩ ?_
  refine a_lcmp dX8_floor_2 ?_
  refine a_if_ne (tgt := 8) dX8_floor_3 rfl h (fun h => ?_) (fun h => ?_)
  ·
    refine a_lload_n 0 dX8_floor_8 rfl rfl ?_
    refine a_lload_n 1 dX8_floor_9 rfl rfl ?_
    refine a_ldiv dX8_floor_10 h (fun h => ?_)
    refine a_nml h (fun x1 h => ?_)
    refine a_lstore (L' := [(4, vl x1), (0, vl l0), (2, vl l2)]) dX8_floor_11 (by decide) rfl ?_
    refine a_lload_n 1 dX8_floor_13 rfl rfl ?_
    refine a_lload_n 2 dX8_floor_14 rfl rfl ?_
    refine a_lrem dX8_floor_15 h (fun h => ?_)
    refine a_lconst (v := 0) dX8_floor_16 ⟨rfl, okJ_b _ rfl⟩ ?_
    refine a_lcmp dX8_floor_17 ?_
    refine a_if_eq (tgt := 53) dX8_floor_18 rfl h (fun h => ?_) (fun h => ?_)
    ·
      exact a_sub [0] rfl (tX8_floor_53 E l _ N x1 μ t h)
    ·
      refine a_lload_n 1 dX8_floor_21 rfl rfl ?_
      refine a_lconst (v := 0) dX8_floor_22 ⟨rfl, okJ_b _ rfl⟩ ?_
      refine a_lcmp dX8_floor_23 ?_
      refine a_if_ge (tgt := 31) dX8_floor_24 rfl h (fun h => ?_) (fun h => ?_)
      ·
        refine a_iconst dX8_floor_31 (okI_b _ rfl) ?_
        exact a_sub [2, 0] rfl (tX8_floor_32 E l _ N l2 x1 0 μ t h)
      ·
        refine a_iconst dX8_floor_27 (okI_b _ rfl) ?_
        refine a_goto (tgt := 32) dX8_floor_28 rfl ?_
        exact a_sub [2, 0] rfl (tX8_floor_32 E l _ N l2 x1 1 μ t h)
  ·
    refine a_lconst (v := 0) dX8_floor_6 ⟨rfl, okJ_b _ rfl⟩ ?_
    exact a_retl dX8_floor_7 h
-- X8_puts
abbrev aX8_puts (E : m_E) (l : Launch) (d : Nat) (z : Nat × Nat) (pc : Nat) (L : List (Nat × AV)) (st : List AV) (μ : Mm) (ρ : Option AV × Mm) : Prop := AA E l d z RX8 "puts" cX8_puts 3 none pc L st μ ρ
theorem tX8_puts (E : m_E) (l : Launch) (N : Nat) (l0 l1 : Int) (μ : Mm) (t : Mm) (hk : m_kd μ l0 = (8, 0)) (h : jX8_puts N l0 l1 μ = some t) : TT E l 1 yX8_puts cX8_puts 3 none [vr l0, vl l1] μ (rV t) := by
  refine tt_of (L := [(0, vr l0), (1, vl l1)]) (by decide +kernel) (Nat.le_of_ble_eq_true rfl) rfl ?_
  show aX8_puts E l 1 (m_sz μ, m_sl μ) 0 [(0, vr l0), (1, vl l1)] [] μ (rV t)
  unfold jX8_puts at h
  refine a_aload_n 0 dX8_puts_0 rfl rfl ?_
  refine a_getfr (c := 8) (i := 50) dX8_puts_1 fRX8_127 g8_50 rfl hk ?_
  refine a_aload_n 0 dX8_puts_4 rfl rfl ?_
  refine a_getfi (c := 8) (i := 51) dX8_puts_5 fRX8_341 g8_51 rfl hk ?_
  refine a_lload_n 1 dX8_puts_8 rfl rfl ?_
  refine a_last dX8_puts_9 h (fun μ1 hm h => ?_)
  have hk := hm.k hk (by decide)
  refine a_aload_n 0 dX8_puts_10 rfl rfl ?_
  refine a_dup dX8_puts_11 rfl ?_
  refine a_getfi (c := 8) (i := 51) dX8_puts_12 fRX8_341 g8_51 rfl hk ?_
  refine a_iconst dX8_puts_15 (okI_b _ rfl) ?_
  refine a_iadd dX8_puts_16 ?_
  refine a_putfi (c := 8) (i := 51) dX8_puts_17 fRX8_341 g8_51 (Or.inl rfl) rfl hk h (fun μ2 hm h => ?_)
  have hk := hm.k hk (by decide)
  exact a_ret0 dX8_puts_20 h
-- X8_joins
abbrev aX8_joins (E : m_E) (l : Launch) (d : Nat) (z : Nat × Nat) (pc : Nat) (L : List (Nat × AV)) (st : List AV) (μ : Mm) (ρ : Option AV × Mm) : Prop := AA E l d z RX8 "joins" cX8_joins 6 none pc L st μ ρ
theorem tX8_joins_289 (E : m_E) (l : Launch) (z : Nat × Nat) (N : Nat) (l0 : Int) (μ : Mm) (t : Mm) (hk : m_kd μ l0 = (8, 0)) (h : jX8_joins_289 N l0 μ = some t) : aX8_joins E l 2 z 289 [(0, vr l0)] [] μ (rV t) := by
  unfold jX8_joins_289 at h
  exact a_ret0 dX8_joins_289 h
theorem tX8_joins_286 (E : m_E) (l : Launch) (z : Nat × Nat) (N : Nat) (l0 s0 s1 : Int) (μ : Mm) (t : Mm) (hk : m_kd μ l0 = (8, 0)) (h : jX8_joins_286 N l0 s0 s1 μ = some t) : aX8_joins E l 2 z 286 [(0, vr l0)] [vl s0, vr s1] μ (rV t) := by
  unfold jX8_joins_286 at h
  refine m_chk_k h (fun hq0 h => ?_)
  refine a_cVv (c := 8) [vl s0] [] dX8_joins_286 myX8_puts mRX8_348 mvX8_puts rfl (by decide) hq0 (fun _ hj => tX8_puts E l N s1 s0 μ _ hq0 hj) (by decide) rfl (Nat.le_of_ble_eq_true rfl) h (fun μ1 hm h => ?_)
  have hk := hm.k hk (by decide)
  have hq0 := hm.k hq0 (by decide)
  exact a_sub [0] rfl (tX8_joins_289 E l _ N l0 μ1 t hk h)
theorem tX8_joins_254 (E : m_E) (l : Launch) (z : Nat × Nat) (N : Nat) (l0 s0 s1 : Int) (μ : Mm) (t : Mm) (hk : m_kd μ l0 = (8, 0)) (h : jX8_joins_254 N l0 s0 s1 μ = some t) : aX8_joins E l 2 z 254 [(0, vr l0)] [vl s0, vr s1] μ (rV t) := by
  unfold jX8_joins_254 at h
  refine m_chk_k h (fun hq0 h => ?_)
  refine a_cVv (c := 8) [vl s0] [] dX8_joins_254 myX8_puts mRX8_348 mvX8_puts rfl (by decide) hq0 (fun _ hj => tX8_puts E l N s1 s0 μ _ hq0 hj) (by decide) rfl (Nat.le_of_ble_eq_true rfl) h (fun μ1 hm h => ?_)
  have hk := hm.k hk (by decide)
  have hq0 := hm.k hq0 (by decide)
  refine a_goto (tgt := 289) dX8_joins_257 rfl ?_
  exact a_sub [0] rfl (tX8_joins_289 E l _ N l0 μ1 t hk h)
theorem tX8_joins_235 (E : m_E) (l : Launch) (z : Nat × Nat) (N : Nat) (l0 s0 s1 : Int) (μ : Mm) (t : Mm) (hk : m_kd μ l0 = (8, 0)) (h : jX8_joins_235 N l0 s0 s1 μ = some t) : aX8_joins E l 2 z 235 [(0, vr l0)] [vl s0, vr s1] μ (rV t) := by
  unfold jX8_joins_235 at h
  refine m_chk_k h (fun hq0 h => ?_)
  refine a_cVv (c := 8) [vl s0] [] dX8_joins_235 myX8_puts mRX8_348 mvX8_puts rfl (by decide) hq0 (fun _ hj => tX8_puts E l N s1 s0 μ _ hq0 hj) (by decide) rfl (Nat.le_of_ble_eq_true rfl) h (fun μ1 hm h => ?_)
  have hk := hm.k hk (by decide)
  have hq0 := hm.k hq0 (by decide)
  refine a_goto (tgt := 289) dX8_joins_238 rfl ?_
  exact a_sub [0] rfl (tX8_joins_289 E l _ N l0 μ1 t hk h)
theorem tX8_joins_216 (E : m_E) (l : Launch) (z : Nat × Nat) (N : Nat) (l0 s0 s1 : Int) (μ : Mm) (t : Mm) (hk : m_kd μ l0 = (8, 0)) (h : jX8_joins_216 N l0 s0 s1 μ = some t) : aX8_joins E l 2 z 216 [(0, vr l0)] [vl s0, vr s1] μ (rV t) := by
  unfold jX8_joins_216 at h
  refine m_chk_k h (fun hq0 h => ?_)
  refine a_cVv (c := 8) [vl s0] [] dX8_joins_216 myX8_puts mRX8_348 mvX8_puts rfl (by decide) hq0 (fun _ hj => tX8_puts E l N s1 s0 μ _ hq0 hj) (by decide) rfl (Nat.le_of_ble_eq_true rfl) h (fun μ1 hm h => ?_)
  have hk := hm.k hk (by decide)
  have hq0 := hm.k hq0 (by decide)
  refine a_goto (tgt := 289) dX8_joins_219 rfl ?_
  exact a_sub [0] rfl (tX8_joins_289 E l _ N l0 μ1 t hk h)
theorem tX8_joins_197 (E : m_E) (l : Launch) (z : Nat × Nat) (N : Nat) (l0 s0 s1 : Int) (μ : Mm) (t : Mm) (hk : m_kd μ l0 = (8, 0)) (h : jX8_joins_197 N l0 s0 s1 μ = some t) : aX8_joins E l 2 z 197 [(0, vr l0)] [vl s0, vr s1] μ (rV t) := by
  unfold jX8_joins_197 at h
  refine m_chk_k h (fun hq0 h => ?_)
  refine a_cVv (c := 8) [vl s0] [] dX8_joins_197 myX8_puts mRX8_348 mvX8_puts rfl (by decide) hq0 (fun _ hj => tX8_puts E l N s1 s0 μ _ hq0 hj) (by decide) rfl (Nat.le_of_ble_eq_true rfl) h (fun μ1 hm h => ?_)
  have hk := hm.k hk (by decide)
  have hq0 := hm.k hq0 (by decide)
  refine a_goto (tgt := 289) dX8_joins_200 rfl ?_
  exact a_sub [0] rfl (tX8_joins_289 E l _ N l0 μ1 t hk h)
theorem tX8_joins_177 (E : m_E) (l : Launch) (z : Nat × Nat) (N : Nat) (l0 s0 s1 : Int) (μ : Mm) (t : Mm) (hk : m_kd μ l0 = (8, 0)) (h : jX8_joins_177 N l0 s0 s1 μ = some t) : aX8_joins E l 2 z 177 [(0, vr l0)] [vl s0, vr s1] μ (rV t) := by
  unfold jX8_joins_177 at h
  refine m_chk_k h (fun hq0 h => ?_)
  refine a_cVv (c := 8) [vl s0] [] dX8_joins_177 myX8_puts mRX8_348 mvX8_puts rfl (by decide) hq0 (fun _ hj => tX8_puts E l N s1 s0 μ _ hq0 hj) (by decide) rfl (Nat.le_of_ble_eq_true rfl) h (fun μ1 hm h => ?_)
  have hk := hm.k hk (by decide)
  have hq0 := hm.k hq0 (by decide)
  refine a_goto (tgt := 289) dX8_joins_180 rfl ?_
  exact a_sub [0] rfl (tX8_joins_289 E l _ N l0 μ1 t hk h)
theorem tX8_joins (E : m_E) (l : Launch) (N : Nat) (l0 l1 : Int) (μ : Mm) (t : Mm) (hk : m_kd μ l0 = (8, 0)) (h : jX8_joins N l0 l1 μ = some t) : TT E l 2 yX8_joins cX8_joins 6 none [vr l0, vi l1] μ (rV t) := by
  refine tt_of (L := [(0, vr l0), (1, vi l1)]) (by decide +kernel) (Nat.le_of_ble_eq_true rfl) rfl ?_
  show aX8_joins E l 2 (m_sz μ, m_sl μ) 0 [(0, vr l0), (1, vi l1)] [] μ (rV t)
  unfold jX8_joins at h
  refine a_aload_n 0 dX8_joins_0 rfl rfl ?_
  refine a_getfr (c := 8) (i := 50) dX8_joins_1 fRX8_127 g8_50 rfl hk ?_
  refine a_aload_n 0 dX8_joins_4 rfl rfl ?_
  refine a_getfi (c := 8) (i := 51) dX8_joins_5 fRX8_341 g8_51 rfl hk ?_
  refine a_iconst dX8_joins_8 (okI_b _ rfl) ?_
  refine a_isub dX8_joins_9 ?_
  refine a_lald dX8_joins_10 h (fun x1 h => ?_)
  refine a_lstore_n (L' := [(2, vl x1), (0, vr l0), (1, vi l1)]) dX8_joins_11 rfl (by decide) rfl ?_
  refine a_aload_n 1 dX8_joins_12 rfl rfl ?_
  refine a_getfr (c := 8) (i := 50) dX8_joins_13 fRX8_127 g8_50 rfl hk ?_
  refine a_aload_n 1 dX8_joins_16 rfl rfl ?_
  refine a_getfi (c := 8) (i := 51) dX8_joins_17 fRX8_341 g8_51 rfl hk ?_
  refine a_iconst dX8_joins_20 (okI_b _ rfl) ?_
  refine a_isub dX8_joins_21 ?_
  refine a_lald dX8_joins_22 h (fun x2 h => ?_)
  refine a_lstore (L' := [(4, vl x2), (2, vl x1), (0, vr l0), (1, vi l1)]) dX8_joins_23 (by decide) rfl ?_
  refine a_aload_n 2 dX8_joins_25 rfl rfl ?_
  refine a_dup dX8_joins_26 rfl ?_
  refine a_getfi (c := 8) (i := 51) dX8_joins_27 fRX8_341 g8_51 rfl hk ?_
  refine a_iconst dX8_joins_30 (okI_b _ rfl) ?_
  refine a_isub dX8_joins_31 ?_
  refine a_putfi (c := 8) (i := 51) dX8_joins_32 fRX8_341 g8_51 (Or.inl rfl) rfl hk h (fun μ1 hm h => ?_)
  have hk := hm.k hk (by decide)
  refine a_iload_n 3 dX8_joins_35 rfl rfl ?_
  refine a_cs h (fun hx h => ?_) (fun hx0 h => ?_)
  ·
    refine a_tsI (off := 72) (tgt := 108) dX8_joins_36 (by omega) (by omega) (by rw [hx]; rfl) rfl ?_
    refine a_aload_n 2 dX8_joins_108 rfl rfl ?_
    refine a_lload 0 dX8_joins_109 rfl ?_
    refine a_lload_n 1 dX8_joins_111 rfl rfl ?_
    refine a_ladd dX8_joins_112 ?_
    refine a_cSl [vl (l_add x2 x1)] [vr l0] dX8_joins_113 myX8_clip mRX8_344 msX8_clip (fun _ hj => tX8_clip E l N (l_add x2 x1) μ1 _  hj) (by decide) rfl (Nat.le_of_ble_eq_true rfl) h (fun x3 μ2 hm h => ?_)
    have hk := hm.k hk (by decide)
    refine a_cVv (c := 8) [vl x3] [] dX8_joins_116 myX8_puts mRX8_348 mvX8_puts rfl (by decide) hk (fun _ hj => tX8_puts E l N l0 x3 μ2 _ hk hj) (by decide) rfl (Nat.le_of_ble_eq_true rfl) h (fun μ3 hm h => ?_)
    have hk := hm.k hk (by decide)
    refine a_goto (tgt := 289) dX8_joins_119 rfl ?_
    exact a_sub [2] rfl (tX8_joins_289 E l _ N l0 μ3 t hk h)
  refine a_cs h (fun hx h => ?_) (fun hx1 h => ?_)
  ·
    refine a_tsI (off := 86) (tgt := 122) dX8_joins_36 (by omega) (by omega) (by rw [hx]; rfl) rfl ?_
    refine a_aload_n 2 dX8_joins_122 rfl rfl ?_
    refine a_lload 0 dX8_joins_123 rfl ?_
    refine a_lload_n 1 dX8_joins_125 rfl rfl ?_
    refine a_lsub dX8_joins_126 ?_
    refine a_cSl [vl (l_sub x2 x1)] [vr l0] dX8_joins_127 myX8_clip mRX8_344 msX8_clip (fun _ hj => tX8_clip E l N (l_sub x2 x1) μ1 _  hj) (by decide) rfl (Nat.le_of_ble_eq_true rfl) h (fun x4 μ4 hm h => ?_)
    have hk := hm.k hk (by decide)
    refine a_cVv (c := 8) [vl x4] [] dX8_joins_130 myX8_puts mRX8_348 mvX8_puts rfl (by decide) hk (fun _ hj => tX8_puts E l N l0 x4 μ4 _ hk hj) (by decide) rfl (Nat.le_of_ble_eq_true rfl) h (fun μ5 hm h => ?_)
    have hk := hm.k hk (by decide)
    refine a_goto (tgt := 289) dX8_joins_133 rfl ?_
    exact a_sub [2] rfl (tX8_joins_289 E l _ N l0 μ5 t hk h)
  refine a_cs h (fun hx h => ?_) (fun hx2 h => ?_)
  ·
    refine a_tsI (off := 100) (tgt := 136) dX8_joins_36 (by omega) (by omega) (by rw [hx]; rfl) rfl ?_
    refine a_aload_n 2 dX8_joins_136 rfl rfl ?_
    refine a_lload 0 dX8_joins_137 rfl ?_
    refine a_lload_n 1 dX8_joins_139 rfl rfl ?_
    refine a_lmul dX8_joins_140 ?_
    refine a_cSl [vl (l_mul x2 x1)] [vr l0] dX8_joins_141 myX8_clip mRX8_344 msX8_clip (fun _ hj => tX8_clip E l N (l_mul x2 x1) μ1 _  hj) (by decide) rfl (Nat.le_of_ble_eq_true rfl) h (fun x5 μ6 hm h => ?_)
    have hk := hm.k hk (by decide)
    refine a_cVv (c := 8) [vl x5] [] dX8_joins_144 myX8_puts mRX8_348 mvX8_puts rfl (by decide) hk (fun _ hj => tX8_puts E l N l0 x5 μ6 _ hk hj) (by decide) rfl (Nat.le_of_ble_eq_true rfl) h (fun μ7 hm h => ?_)
    have hk := hm.k hk (by decide)
    refine a_goto (tgt := 289) dX8_joins_147 rfl ?_
    exact a_sub [2] rfl (tX8_joins_289 E l _ N l0 μ7 t hk h)
  refine a_cs h (fun hx h => ?_) (fun hx3 h => ?_)
  ·
    refine a_tsI (off := 114) (tgt := 150) dX8_joins_36 (by omega) (by omega) (by rw [hx]; rfl) rfl ?_
    refine a_aload_n 2 dX8_joins_150 rfl rfl ?_
    refine a_lload 0 dX8_joins_151 rfl ?_
    refine a_lload_n 1 dX8_joins_153 rfl rfl ?_
    refine a_cSl [vl x2, vl x1] [vr l0] dX8_joins_154 myX8_floor mRX8_352 msX8_floor (fun _ hj => tX8_floor E l N x2 x1 μ1 _  hj) (by decide) rfl (Nat.le_of_ble_eq_true rfl) h (fun x6 μ8 hm h => ?_)
    have hk := hm.k hk (by decide)
    refine a_cVv (c := 8) [vl x6] [] dX8_joins_157 myX8_puts mRX8_348 mvX8_puts rfl (by decide) hk (fun _ hj => tX8_puts E l N l0 x6 μ8 _ hk hj) (by decide) rfl (Nat.le_of_ble_eq_true rfl) h (fun μ9 hm h => ?_)
    have hk := hm.k hk (by decide)
    refine a_goto (tgt := 289) dX8_joins_160 rfl ?_
    exact a_sub [2] rfl (tX8_joins_289 E l _ N l0 μ9 t hk h)
  refine a_cs h (fun hx h => ?_) (fun hx4 h => ?_)
  ·
    refine a_tsI (off := 127) (tgt := 163) dX8_joins_36 (by omega) (by omega) (by rw [hx]; rfl) rfl ?_
    refine a_aload_n 2 dX8_joins_163 rfl rfl ?_
    refine a_lload 0 dX8_joins_164 rfl ?_
    refine a_lload_n 1 dX8_joins_166 rfl rfl ?_
    refine a_lcmp dX8_joins_167 ?_
    refine a_if_ge (tgt := 176) dX8_joins_168 rfl h (fun h => ?_) (fun h => ?_)
    ·
      refine a_lload_n 1 dX8_joins_176 rfl rfl ?_
      exact a_sub [2] rfl (tX8_joins_177 E l _ N l0 x1 l0 μ1 t hk h)
    ·
      refine a_lload 0 dX8_joins_171 rfl ?_
      refine a_goto (tgt := 177) dX8_joins_173 rfl ?_
      exact a_sub [2] rfl (tX8_joins_177 E l _ N l0 x2 l0 μ1 t hk h)
  refine a_cs h (fun hx h => ?_) (fun hx5 h => ?_)
  ·
    refine a_tsI (off := 147) (tgt := 183) dX8_joins_36 (by omega) (by omega) (by rw [hx]; rfl) rfl ?_
    refine a_aload_n 2 dX8_joins_183 rfl rfl ?_
    refine a_lload 0 dX8_joins_184 rfl ?_
    refine a_lload_n 1 dX8_joins_186 rfl rfl ?_
    refine a_lcmp dX8_joins_187 ?_
    refine a_if_le (tgt := 196) dX8_joins_188 rfl h (fun h => ?_) (fun h => ?_)
    ·
      refine a_lload_n 1 dX8_joins_196 rfl rfl ?_
      exact a_sub [2] rfl (tX8_joins_197 E l _ N l0 x1 l0 μ1 t hk h)
    ·
      refine a_lload 0 dX8_joins_191 rfl ?_
      refine a_goto (tgt := 197) dX8_joins_193 rfl ?_
      exact a_sub [2] rfl (tX8_joins_197 E l _ N l0 x2 l0 μ1 t hk h)
  refine a_cs h (fun hx h => ?_) (fun hx6 h => ?_)
  ·
    refine a_tsI (off := 235) (tgt := 271) dX8_joins_36 (by omega) (by omega) (by rw [hx]; rfl) rfl ?_
    refine a_aload_n 2 dX8_joins_271 rfl rfl ?_
    refine a_lload 0 dX8_joins_272 rfl ?_
    refine a_lload_n 1 dX8_joins_274 rfl rfl ?_
    refine a_ladd dX8_joins_275 ?_
    refine a_lconst (v := 0) dX8_joins_276 ⟨rfl, okJ_b _ rfl⟩ ?_
    refine a_lcmp dX8_joins_277 ?_
    refine a_if_le (tgt := 285) dX8_joins_278 rfl h (fun h => ?_) (fun h => ?_)
    ·
      refine a_lconst (v := 0) dX8_joins_285 ⟨rfl, okJ_b _ rfl⟩ ?_
      exact a_sub [2] rfl (tX8_joins_286 E l _ N l0 0 l0 μ1 t hk h)
    ·
      refine a_lconst (v := 1) dX8_joins_281 ⟨rfl, okJ_b _ rfl⟩ ?_
      refine a_goto (tgt := 286) dX8_joins_282 rfl ?_
      exact a_sub [2] rfl (tX8_joins_286 E l _ N l0 1 l0 μ1 t hk h)
  refine a_cs h (fun hx h => ?_) (fun hx7 h => ?_)
  ·
    refine a_tsI (off := 235) (tgt := 271) dX8_joins_36 (by omega) (by omega) (by rw [hx]; rfl) rfl ?_
    refine a_aload_n 2 dX8_joins_271 rfl rfl ?_
    refine a_lload 0 dX8_joins_272 rfl ?_
    refine a_lload_n 1 dX8_joins_274 rfl rfl ?_
    refine a_ladd dX8_joins_275 ?_
    refine a_lconst (v := 0) dX8_joins_276 ⟨rfl, okJ_b _ rfl⟩ ?_
    refine a_lcmp dX8_joins_277 ?_
    refine a_if_le (tgt := 285) dX8_joins_278 rfl h (fun h => ?_) (fun h => ?_)
    ·
      refine a_lconst (v := 0) dX8_joins_285 ⟨rfl, okJ_b _ rfl⟩ ?_
      exact a_sub [2] rfl (tX8_joins_286 E l _ N l0 0 l0 μ1 t hk h)
    ·
      refine a_lconst (v := 1) dX8_joins_281 ⟨rfl, okJ_b _ rfl⟩ ?_
      refine a_goto (tgt := 286) dX8_joins_282 rfl ?_
      exact a_sub [2] rfl (tX8_joins_286 E l _ N l0 1 l0 μ1 t hk h)
  refine a_cs h (fun hx h => ?_) (fun hx8 h => ?_)
  ·
    refine a_tsI (off := 235) (tgt := 271) dX8_joins_36 (by omega) (by omega) (by rw [hx]; rfl) rfl ?_
    refine a_aload_n 2 dX8_joins_271 rfl rfl ?_
    refine a_lload 0 dX8_joins_272 rfl ?_
    refine a_lload_n 1 dX8_joins_274 rfl rfl ?_
    refine a_ladd dX8_joins_275 ?_
    refine a_lconst (v := 0) dX8_joins_276 ⟨rfl, okJ_b _ rfl⟩ ?_
    refine a_lcmp dX8_joins_277 ?_
    refine a_if_le (tgt := 285) dX8_joins_278 rfl h (fun h => ?_) (fun h => ?_)
    ·
      refine a_lconst (v := 0) dX8_joins_285 ⟨rfl, okJ_b _ rfl⟩ ?_
      exact a_sub [2] rfl (tX8_joins_286 E l _ N l0 0 l0 μ1 t hk h)
    ·
      refine a_lconst (v := 1) dX8_joins_281 ⟨rfl, okJ_b _ rfl⟩ ?_
      refine a_goto (tgt := 286) dX8_joins_282 rfl ?_
      exact a_sub [2] rfl (tX8_joins_286 E l _ N l0 1 l0 μ1 t hk h)
  refine a_cs h (fun hx h => ?_) (fun hx9 h => ?_)
  ·
    refine a_tsI (off := 235) (tgt := 271) dX8_joins_36 (by omega) (by omega) (by rw [hx]; rfl) rfl ?_
    refine a_aload_n 2 dX8_joins_271 rfl rfl ?_
    refine a_lload 0 dX8_joins_272 rfl ?_
    refine a_lload_n 1 dX8_joins_274 rfl rfl ?_
    refine a_ladd dX8_joins_275 ?_
    refine a_lconst (v := 0) dX8_joins_276 ⟨rfl, okJ_b _ rfl⟩ ?_
    refine a_lcmp dX8_joins_277 ?_
    refine a_if_le (tgt := 285) dX8_joins_278 rfl h (fun h => ?_) (fun h => ?_)
    ·
      refine a_lconst (v := 0) dX8_joins_285 ⟨rfl, okJ_b _ rfl⟩ ?_
      exact a_sub [2] rfl (tX8_joins_286 E l _ N l0 0 l0 μ1 t hk h)
    ·
      refine a_lconst (v := 1) dX8_joins_281 ⟨rfl, okJ_b _ rfl⟩ ?_
      refine a_goto (tgt := 286) dX8_joins_282 rfl ?_
      exact a_sub [2] rfl (tX8_joins_286 E l _ N l0 1 l0 μ1 t hk h)
  refine a_cs h (fun hx h => ?_) (fun hx10 h => ?_)
  ·
    refine a_tsI (off := 167) (tgt := 203) dX8_joins_36 (by omega) (by omega) (by rw [hx]; rfl) rfl ?_
    refine a_aload_n 2 dX8_joins_203 rfl rfl ?_
    refine a_lload 0 dX8_joins_204 rfl ?_
    refine a_lload_n 1 dX8_joins_206 rfl rfl ?_
    refine a_lcmp dX8_joins_207 ?_
    refine a_if_ge (tgt := 215) dX8_joins_208 rfl h (fun h => ?_) (fun h => ?_)
    ·
      refine a_lconst (v := 0) dX8_joins_215 ⟨rfl, okJ_b _ rfl⟩ ?_
      exact a_sub [2] rfl (tX8_joins_216 E l _ N l0 0 l0 μ1 t hk h)
    ·
      refine a_lconst (v := 1) dX8_joins_211 ⟨rfl, okJ_b _ rfl⟩ ?_
      refine a_goto (tgt := 216) dX8_joins_212 rfl ?_
      exact a_sub [2] rfl (tX8_joins_216 E l _ N l0 1 l0 μ1 t hk h)
  refine a_cs h (fun hx h => ?_) (fun hx11 h => ?_)
  ·
    refine a_tsI (off := 186) (tgt := 222) dX8_joins_36 (by omega) (by omega) (by rw [hx]; rfl) rfl ?_
    refine a_aload_n 2 dX8_joins_222 rfl rfl ?_
    refine a_lload 0 dX8_joins_223 rfl ?_
    refine a_lload_n 1 dX8_joins_225 rfl rfl ?_
    refine a_lcmp dX8_joins_226 ?_
    refine a_if_le (tgt := 234) dX8_joins_227 rfl h (fun h => ?_) (fun h => ?_)
    ·
      refine a_lconst (v := 0) dX8_joins_234 ⟨rfl, okJ_b _ rfl⟩ ?_
      exact a_sub [2] rfl (tX8_joins_235 E l _ N l0 0 l0 μ1 t hk h)
    ·
      refine a_lconst (v := 1) dX8_joins_230 ⟨rfl, okJ_b _ rfl⟩ ?_
      refine a_goto (tgt := 235) dX8_joins_231 rfl ?_
      exact a_sub [2] rfl (tX8_joins_235 E l _ N l0 1 l0 μ1 t hk h)
  refine a_cs h (fun hx h => ?_) (fun hx12 h => ?_)
  ·
    refine a_tsI (off := 205) (tgt := 241) dX8_joins_36 (by omega) (by omega) (by rw [hx]; rfl) rfl ?_
    refine a_aload_n 2 dX8_joins_241 rfl rfl ?_
    refine a_lload 0 dX8_joins_242 rfl ?_
    refine a_lload_n 1 dX8_joins_244 rfl rfl ?_
    refine a_lcmp dX8_joins_245 ?_
    refine a_if_ne (tgt := 253) dX8_joins_246 rfl h (fun h => ?_) (fun h => ?_)
    ·
      refine a_lconst (v := 0) dX8_joins_253 ⟨rfl, okJ_b _ rfl⟩ ?_
      exact a_sub [2] rfl (tX8_joins_254 E l _ N l0 0 l0 μ1 t hk h)
    ·
      refine a_lconst (v := 1) dX8_joins_249 ⟨rfl, okJ_b _ rfl⟩ ?_
      refine a_goto (tgt := 254) dX8_joins_250 rfl ?_
      exact a_sub [2] rfl (tX8_joins_254 E l _ N l0 1 l0 μ1 t hk h)
  refine a_cs h (fun hx h => ?_) (fun hx13 h => ?_)
  ·
    refine a_tsI (off := 224) (tgt := 260) dX8_joins_36 (by omega) (by omega) (by rw [hx]; rfl) rfl ?_
    refine a_aload_n 2 dX8_joins_260 rfl rfl ?_
    refine a_lload 0 dX8_joins_261 rfl ?_
    refine a_lload_n 1 dX8_joins_263 rfl rfl ?_
    refine a_lmul dX8_joins_264 ?_
    refine a_cVv (c := 8) [vl (l_mul x2 x1)] [] dX8_joins_265 myX8_puts mRX8_348 mvX8_puts rfl (by decide) hk (fun _ hj => tX8_puts E l N l0 (l_mul x2 x1) μ1 _ hk hj) (by decide) rfl (Nat.le_of_ble_eq_true rfl) h (fun μ10 hm h => ?_)
    have hk := hm.k hk (by decide)
    refine a_goto (tgt := 289) dX8_joins_268 rfl ?_
    exact a_sub [2] rfl (tX8_joins_289 E l _ N l0 μ10 t hk h)
  refine a_tsO (tgt := 271) dX8_joins_36 (by omega) rfl ?_
  refine a_aload_n 2 dX8_joins_271 rfl rfl ?_
  refine a_lload 0 dX8_joins_272 rfl ?_
  refine a_lload_n 1 dX8_joins_274 rfl rfl ?_
  refine a_ladd dX8_joins_275 ?_
  refine a_lconst (v := 0) dX8_joins_276 ⟨rfl, okJ_b _ rfl⟩ ?_
  refine a_lcmp dX8_joins_277 ?_
  refine a_if_le (tgt := 285) dX8_joins_278 rfl h (fun h => ?_) (fun h => ?_)
  ·
    refine a_lconst (v := 0) dX8_joins_285 ⟨rfl, okJ_b _ rfl⟩ ?_
    exact a_sub [2] rfl (tX8_joins_286 E l _ N l0 0 l0 μ1 t hk h)
  ·
    refine a_lconst (v := 1) dX8_joins_281 ⟨rfl, okJ_b _ rfl⟩ ?_
    refine a_goto (tgt := 286) dX8_joins_282 rfl ?_
    exact a_sub [2] rfl (tX8_joins_286 E l _ N l0 1 l0 μ1 t hk h)
-- X8_tells
abbrev aX8_tells (E : m_E) (l : Launch) (d : Nat) (z : Nat × Nat) (pc : Nat) (L : List (Nat × AV)) (st : List AV) (μ : Mm) (ρ : Option AV × Mm) : Prop := AA E l d z RX8 "tells" cX8_tells 5 (some .long) pc L st μ ρ
theorem tX8_tells_215 (E : m_E) (l : Launch) (z : Nat × Nat) (k7 : Int → Int → Int → Mm → Option (Int × Mm)) (p7 : ∀ (l0 l2 l3 : Int) (μ : Mm) (t : Int × Mm), m_kd μ l0 = (8, 0) → k7 l0 l2 l3 μ = some t → aX8_tells E l 3 z 7 [(0, vr l0), (2, vi l2), (3, vi l3)] [] μ (rJ t)) (N : Nat) (l0 l2 l3 : Int) (μ : Mm) (t : Int × Mm) (hk : m_kd μ l0 = (8, 0)) (h : jX8_tells_215 k7 N l0 l2 l3 μ = some t) : aX8_tells E l 3 z 215 [(0, vr l0), (2, vi l2), (3, vi l3)] [] μ (rJ t) := by
  unfold jX8_tells_215 at h
  refine a_iinc (F := fun x1 => [(3, vi x1), (0, vr l0), (2, vi l2)]) 2 dX8_tells_215 rfl (by decide) h (fun _ => rfl) (fun x1 h => ?_)
  refine a_goto (tgt := 7) dX8_tells_218 rfl ?_
  exact a_sub [1, 2, 0] rfl (p7 l0 l2 x1 μ t hk h)
theorem tX8_tells_7b (E : m_E) (l : Launch) (z : Nat × Nat) (k7 : Int → Int → Int → Mm → Option (Int × Mm)) (p7 : ∀ (l0 l2 l3 : Int) (μ : Mm) (t : Int × Mm), m_kd μ l0 = (8, 0) → k7 l0 l2 l3 μ = some t → aX8_tells E l 3 z 7 [(0, vr l0), (2, vi l2), (3, vi l3)] [] μ (rJ t)) (N : Nat) (l0 l2 l3 : Int) (μ : Mm) (t : Int × Mm) (hk : m_kd μ l0 = (8, 0)) (h : jX8_tells_7b k7 N l0 l2 l3 μ = some t) : aX8_tells E l 3 z 7 [(0, vr l0), (2, vi l2), (3, vi l3)] [] μ (rJ t) := by
  unfold jX8_tells_7b at h
  refine a_iload_n 2 dX8_tells_7 rfl rfl ?_
  refine a_iload_n 1 dX8_tells_8 rfl rfl ?_
  refine a_icmp_ge (tgt := 221) dX8_tells_9 rfl h (fun h => ?_) (fun h => ?_)
  ·
    refine a_aload_n 0 dX8_tells_221 rfl rfl ?_
    refine a_getfr (c := 8) (i := 50) dX8_tells_222 fRX8_127 g8_50 rfl hk ?_
    refine a_iconst dX8_tells_225 (okI_b _ rfl) ?_
    refine a_lald dX8_tells_226 h (fun x1 h => ?_)
    exact a_retl dX8_tells_227 h
  ·
    refine a_aload_n 0 dX8_tells_12 rfl rfl ?_
    refine a_getfr (c := 8) (i := 43) dX8_tells_13 fRX8_121 g8_43 rfl hk ?_
    refine a_sipush dX8_tells_16 ⟨rfl, okI_b _ rfl⟩ ?_
    refine a_iload_n 2 dX8_tells_19 rfl rfl ?_
    refine a_iadd dX8_tells_20 ?_
    refine a_iald dX8_tells_21 h (fun x2 h => ?_)
    refine a_istore (L' := [(4, vi x2), (0, vr l0), (2, vi l2), (3, vi l3)]) dX8_tells_22 (by decide) rfl ?_
    refine a_iload 0 dX8_tells_24 rfl ?_
    refine a_sipush dX8_tells_26 ⟨rfl, okI_b _ rfl⟩ ?_
    refine a_icmp_lt (tgt := 46) dX8_tells_29 rfl h (fun h => ?_) (fun h => ?_)
    ·
      refine a_iload 0 dX8_tells_46 rfl ?_
      refine a_bipush dX8_tells_48 ⟨rfl, okI_b _ rfl⟩ ?_
      refine a_icmp_ne (tgt := 65) dX8_tells_50 rfl h (fun h => ?_) (fun h => ?_)
      ·
        refine a_iload 0 dX8_tells_65 rfl ?_
        refine a_bipush dX8_tells_67 ⟨rfl, okI_b _ rfl⟩ ?_
        refine a_icmp_ne (tgt := 84) dX8_tells_69 rfl h (fun h => ?_) (fun h => ?_)
        ·
          refine a_iload 0 dX8_tells_84 rfl ?_
          refine a_bipush dX8_tells_86 ⟨rfl, okI_b _ rfl⟩ ?_
          refine a_icmp_ne (tgt := 103) dX8_tells_88 rfl h (fun h => ?_) (fun h => ?_)
          ·
            refine a_iload 0 dX8_tells_103 rfl ?_
            refine a_bipush dX8_tells_105 ⟨rfl, okI_b _ rfl⟩ ?_
            refine a_icmp_ne (tgt := 122) dX8_tells_107 rfl h (fun h => ?_) (fun h => ?_)
            ·
              refine a_iload 0 dX8_tells_122 rfl ?_
              refine a_bipush dX8_tells_124 ⟨rfl, okI_b _ rfl⟩ ?_
              refine a_icmp_ne (tgt := 141) dX8_tells_126 rfl h (fun h => ?_) (fun h => ?_)
              ·
                refine a_iload 0 dX8_tells_141 rfl ?_
                refine a_bipush dX8_tells_143 ⟨rfl, okI_b _ rfl⟩ ?_
                refine a_icmp_ne (tgt := 160) dX8_tells_145 rfl h (fun h => ?_) (fun h => ?_)
                ·
                  refine a_iload 0 dX8_tells_160 rfl ?_
                  refine a_bipush dX8_tells_162 ⟨rfl, okI_b _ rfl⟩ ?_
                  refine a_icmp_ne (tgt := 175) dX8_tells_164 rfl h (fun h => ?_) (fun h => ?_)
                  ·
                    refine a_iload 0 dX8_tells_175 rfl ?_
                    refine a_bipush dX8_tells_177 ⟨rfl, okI_b _ rfl⟩ ?_
                    refine a_icmp_ne (tgt := 209) dX8_tells_179 rfl h (fun h => ?_) (fun h => ?_)
                    ·
                      refine a_aload_n 1 dX8_tells_209 rfl rfl ?_
                      refine a_iload 0 dX8_tells_210 rfl ?_
                      refine a_cVv (c := 8) [vi x2] [] dX8_tells_212 myX8_joins mRX8_374 mvX8_joins rfl (by decide) hk (fun _ hj => tX8_joins E l N l0 x2 μ _ hk hj) (by decide) rfl (Nat.le_of_ble_eq_true rfl) h (fun μ1 hm h => ?_)
                      have hk := hm.k hk (by decide)
                      exact a_sub [1, 2, 3] rfl (tX8_tells_215 E l _ k7 p7 N l0 l2 l3 μ1 t hk h)
                    ·
                      refine a_aload_n 1 dX8_tells_182 rfl rfl ?_
                      refine a_getfr (c := 8) (i := 50) dX8_tells_183 fRX8_127 g8_50 rfl hk ?_
                      refine a_aload_n 1 dX8_tells_186 rfl rfl ?_
                      refine a_getfi (c := 8) (i := 51) dX8_tells_187 fRX8_341 g8_51 rfl hk ?_
                      refine a_iconst dX8_tells_190 (okI_b _ rfl) ?_
                      refine a_isub dX8_tells_191 ?_
                      refine a_lconst (v := 1) dX8_tells_192 ⟨rfl, okJ_b _ rfl⟩ ?_
                      refine a_aload_n 1 dX8_tells_193 rfl rfl ?_
                      refine a_getfr (c := 8) (i := 50) dX8_tells_194 fRX8_127 g8_50 rfl hk ?_
                      refine a_aload_n 1 dX8_tells_197 rfl rfl ?_
                      refine a_getfi (c := 8) (i := 51) dX8_tells_198 fRX8_341 g8_51 rfl hk ?_
                      refine a_iconst dX8_tells_201 (okI_b _ rfl) ?_
                      refine a_isub dX8_tells_202 ?_
                      refine a_lald dX8_tells_203 h (fun x3 h => ?_)
                      refine a_lsub dX8_tells_204 ?_
                      refine a_last dX8_tells_205 h (fun μ2 hm h => ?_)
                      have hk := hm.k hk (by decide)
                      refine a_goto (tgt := 215) dX8_tells_206 rfl ?_
                      exact a_sub [1, 2, 3] rfl (tX8_tells_215 E l _ k7 p7 N l0 l2 l3 μ2 t hk h)
                  ·
                    refine a_aload_n 1 dX8_tells_167 rfl rfl ?_
                    refine a_lconst (v := 1) dX8_tells_168 ⟨rfl, okJ_b _ rfl⟩ ?_
                    refine a_cVv (c := 8) [vl 1] [] dX8_tells_169 myX8_puts mRX8_348 mvX8_puts rfl (by decide) hk (fun _ hj => tX8_puts E l N l0 1 μ _ hk hj) (by decide) rfl (Nat.le_of_ble_eq_true rfl) h (fun μ3 hm h => ?_)
                    have hk := hm.k hk (by decide)
                    refine a_goto (tgt := 215) dX8_tells_172 rfl ?_
                    exact a_sub [1, 2, 3] rfl (tX8_tells_215 E l _ k7 p7 N l0 l2 l3 μ3 t hk h)
                ·
                  refine a_aload_n 1 dX8_tells_148 rfl rfl ?_
                  refine a_aload_n 1 dX8_tells_149 rfl rfl ?_
                  refine a_getfi (c := 8) (i := 57) dX8_tells_150 fRX8_371 g8_57 rfl hk ?_
                  refine a_i2l dX8_tells_153 ?_
                  refine a_cVv (c := 8) [vl (i_2l (m_gt μ l0 57))] [] dX8_tells_154 myX8_puts mRX8_348 mvX8_puts rfl (by decide) hk (fun _ hj => tX8_puts E l N l0 (i_2l (m_gt μ l0 57)) μ _ hk hj) (by decide) rfl (Nat.le_of_ble_eq_true rfl) h (fun μ4 hm h => ?_)
                  have hk := hm.k hk (by decide)
                  refine a_goto (tgt := 215) dX8_tells_157 rfl ?_
                  exact a_sub [1, 2, 3] rfl (tX8_tells_215 E l _ k7 p7 N l0 l2 l3 μ4 t hk h)
              ·
                refine a_aload_n 1 dX8_tells_129 rfl rfl ?_
                refine a_aload_n 1 dX8_tells_130 rfl rfl ?_
                refine a_getfi (c := 8) (i := 56) dX8_tells_131 fRX8_368 g8_56 rfl hk ?_
                refine a_i2l dX8_tells_134 ?_
                refine a_cVv (c := 8) [vl (i_2l (m_gt μ l0 56))] [] dX8_tells_135 myX8_puts mRX8_348 mvX8_puts rfl (by decide) hk (fun _ hj => tX8_puts E l N l0 (i_2l (m_gt μ l0 56)) μ _ hk hj) (by decide) rfl (Nat.le_of_ble_eq_true rfl) h (fun μ5 hm h => ?_)
                have hk := hm.k hk (by decide)
                refine a_goto (tgt := 215) dX8_tells_138 rfl ?_
                exact a_sub [1, 2, 3] rfl (tX8_tells_215 E l _ k7 p7 N l0 l2 l3 μ5 t hk h)
            ·
              refine a_aload_n 1 dX8_tells_110 rfl rfl ?_
              refine a_aload_n 1 dX8_tells_111 rfl rfl ?_
              refine a_getfi (c := 8) (i := 55) dX8_tells_112 fRX8_365 g8_55 rfl hk ?_
              refine a_i2l dX8_tells_115 ?_
              refine a_cVv (c := 8) [vl (i_2l (m_gt μ l0 55))] [] dX8_tells_116 myX8_puts mRX8_348 mvX8_puts rfl (by decide) hk (fun _ hj => tX8_puts E l N l0 (i_2l (m_gt μ l0 55)) μ _ hk hj) (by decide) rfl (Nat.le_of_ble_eq_true rfl) h (fun μ6 hm h => ?_)
              have hk := hm.k hk (by decide)
              refine a_goto (tgt := 215) dX8_tells_119 rfl ?_
              exact a_sub [1, 2, 3] rfl (tX8_tells_215 E l _ k7 p7 N l0 l2 l3 μ6 t hk h)
          ·
            refine a_aload_n 1 dX8_tells_91 rfl rfl ?_
            refine a_aload_n 1 dX8_tells_92 rfl rfl ?_
            refine a_getfi (c := 8) (i := 54) dX8_tells_93 fRX8_362 g8_54 rfl hk ?_
            refine a_i2l dX8_tells_96 ?_
            refine a_cVv (c := 8) [vl (i_2l (m_gt μ l0 54))] [] dX8_tells_97 myX8_puts mRX8_348 mvX8_puts rfl (by decide) hk (fun _ hj => tX8_puts E l N l0 (i_2l (m_gt μ l0 54)) μ _ hk hj) (by decide) rfl (Nat.le_of_ble_eq_true rfl) h (fun μ7 hm h => ?_)
            have hk := hm.k hk (by decide)
            refine a_goto (tgt := 215) dX8_tells_100 rfl ?_
            exact a_sub [1, 2, 3] rfl (tX8_tells_215 E l _ k7 p7 N l0 l2 l3 μ7 t hk h)
        ·
          refine a_aload_n 1 dX8_tells_72 rfl rfl ?_
          refine a_aload_n 1 dX8_tells_73 rfl rfl ?_
          refine a_getfi (c := 8) (i := 53) dX8_tells_74 fRX8_359 g8_53 rfl hk ?_
          refine a_i2l dX8_tells_77 ?_
          refine a_cVv (c := 8) [vl (i_2l (m_gt μ l0 53))] [] dX8_tells_78 myX8_puts mRX8_348 mvX8_puts rfl (by decide) hk (fun _ hj => tX8_puts E l N l0 (i_2l (m_gt μ l0 53)) μ _ hk hj) (by decide) rfl (Nat.le_of_ble_eq_true rfl) h (fun μ8 hm h => ?_)
          have hk := hm.k hk (by decide)
          refine a_goto (tgt := 215) dX8_tells_81 rfl ?_
          exact a_sub [1, 2, 3] rfl (tX8_tells_215 E l _ k7 p7 N l0 l2 l3 μ8 t hk h)
      ·
        refine a_aload_n 1 dX8_tells_53 rfl rfl ?_
        refine a_aload_n 1 dX8_tells_54 rfl rfl ?_
        refine a_getfi (c := 8) (i := 52) dX8_tells_55 fRX8_356 g8_52 rfl hk ?_
        refine a_i2l dX8_tells_58 ?_
        refine a_cVv (c := 8) [vl (i_2l (m_gt μ l0 52))] [] dX8_tells_59 myX8_puts mRX8_348 mvX8_puts rfl (by decide) hk (fun _ hj => tX8_puts E l N l0 (i_2l (m_gt μ l0 52)) μ _ hk hj) (by decide) rfl (Nat.le_of_ble_eq_true rfl) h (fun μ9 hm h => ?_)
        have hk := hm.k hk (by decide)
        refine a_goto (tgt := 215) dX8_tells_62 rfl ?_
        exact a_sub [1, 2, 3] rfl (tX8_tells_215 E l _ k7 p7 N l0 l2 l3 μ9 t hk h)
    ·
      refine a_aload_n 1 dX8_tells_32 rfl rfl ?_
      refine a_iload 0 dX8_tells_33 rfl ?_
      refine a_sipush dX8_tells_35 ⟨rfl, okI_b _ rfl⟩ ?_
      refine a_isub dX8_tells_38 ?_
      refine a_i2l dX8_tells_39 ?_
      refine a_cVv (c := 8) [vl (i_2l (i_sub x2 1000))] [] dX8_tells_40 myX8_puts mRX8_348 mvX8_puts rfl (by decide) hk (fun _ hj => tX8_puts E l N l0 (i_2l (i_sub x2 1000)) μ _ hk hj) (by decide) rfl (Nat.le_of_ble_eq_true rfl) h (fun μ10 hm h => ?_)
      have hk := hm.k hk (by decide)
      refine a_goto (tgt := 215) dX8_tells_43 rfl ?_
      exact a_sub [1, 2, 3] rfl (tX8_tells_215 E l _ k7 p7 N l0 l2 l3 μ10 t hk h)
theorem tX8_tells_7 (E : m_E) (l : Launch) (z : Nat × Nat) (N : Nat) : ∀ (n : Nat) (l0 l2 l3 : Int) (μ : Mm) (t : Int × Mm), m_kd μ l0 = (8, 0) → jX8_tells_7 N n l0 l2 l3 μ = some t → aX8_tells E l 3 z 7 [(0, vr l0), (2, vi l2), (3, vi l3)] [] μ (rJ t)
  | 0, _, _, _, _, _, _, h => by cases h
  | n + 1, l0, l2, l3, μ, t, hk, h => tX8_tells_7b E l z (jX8_tells_7 N n) (tX8_tells_7 E l z N n) N l0 l2 l3 μ t hk h
theorem tX8_tells (E : m_E) (l : Launch) (N : Nat) (l0 l1 l2 : Int) (μ : Mm) (t : Int × Mm) (hk : m_kd μ l0 = (8, 0)) (h : jX8_tells N l0 l1 l2 μ = some t) : TT E l 3 yX8_tells cX8_tells 5 (some .long) [vr l0, vi l1, vi l2] μ (rJ t) := by
  refine tt_of (L := [(0, vr l0), (1, vi l1), (2, vi l2)]) (by decide +kernel) (Nat.le_of_ble_eq_true rfl) rfl ?_
  show aX8_tells E l 3 (m_sz μ, m_sl μ) 0 [(0, vr l0), (1, vi l1), (2, vi l2)] [] μ (rJ t)
  unfold jX8_tells at h
  refine a_aload_n 0 dX8_tells_0 rfl rfl ?_
  refine a_iconst dX8_tells_1 (okI_b _ rfl) ?_
  refine a_putfi (c := 8) (i := 51) dX8_tells_2 fRX8_341 g8_51 (Or.inl rfl) rfl hk h (fun μ1 hm h => ?_)
  have hk := hm.k hk (by decide)
  refine a_iload_n 1 dX8_tells_5 rfl rfl ?_
  refine a_istore_n (L' := [(3, vi l1), (0, vr l0), (1, vi l1), (2, vi l2)]) dX8_tells_6 rfl (by decide) rfl ?_
  exact a_sub [1, 3, 0] rfl (tX8_tells_7 E l _ N N l0 l2 l1 μ1 t hk h)
-- X8_worthOf
abbrev aX8_worthOf (E : m_E) (l : Launch) (d : Nat) (z : Nat × Nat) (pc : Nat) (L : List (Nat × AV)) (st : List AV) (μ : Mm) (ρ : Option AV × Mm) : Prop := AA E l d z RX8 "worthOf" cX8_worthOf 8 (some .int) pc L st μ ρ
theorem tX8_worthOf_128 (E : m_E) (l : Launch) (z : Nat × Nat) (N : Nat) (l0 s0 : Int) (μ : Mm) (t : Int × Mm) (hk : m_kd μ l0 = (8, 0)) (h : jX8_worthOf_128 N l0 s0 μ = some t) : aX8_worthOf E l 4 z 128 [(0, vr l0)] [vi s0] μ (rI t) := by
  unfold jX8_worthOf_128 at h
  exact a_reti dX8_worthOf_128 h
theorem tX8_worthOf_37b (E : m_E) (l : Launch) (z : Nat × Nat) (k37 : Int → Int → Mm → Option (Int × Mm)) (p37 : ∀ (l0 l5 : Int) (μ : Mm) (t : Int × Mm), m_kd μ l0 = (8, 0) → k37 l0 l5 μ = some t → aX8_worthOf E l 4 z 37 [(0, vr l0), (5, vi l5)] [] μ (rI t)) (N : Nat) (l0 l5 : Int) (μ : Mm) (t : Int × Mm) (hk : m_kd μ l0 = (8, 0)) (h : jX8_worthOf_37b k37 N l0 l5 μ = some t) : aX8_worthOf E l 4 z 37 [(0, vr l0), (5, vi l5)] [] μ (rI t) := by
  unfold jX8_worthOf_37b at h
  refine a_iload 1 dX8_worthOf_37 rfl ?_
  refine a_bipush dX8_worthOf_39 ⟨rfl, okI_b _ rfl⟩ ?_
  refine a_aload_n 0 dX8_worthOf_41 rfl rfl ?_
  refine a_getfr (c := 8) (i := 36) dX8_worthOf_42 fRX8_99 g8_36 rfl hk ?_
  refine a_iconst dX8_worthOf_45 (okI_b _ rfl) ?_
  refine a_iald dX8_worthOf_46 h (fun x1 h => ?_)
  refine a_iadd dX8_worthOf_47 ?_
  refine a_icmp_ge (tgt := 135) dX8_worthOf_48 rfl h (fun h => ?_) (fun h => ?_)
  ·
    refine a_iconst dX8_worthOf_135 (okI_b _ rfl) ?_
    exact a_reti dX8_worthOf_136 h
  ·
    refine a_aload_n 0 dX8_worthOf_51 rfl rfl ?_
    refine a_aload_n 0 dX8_worthOf_52 rfl rfl ?_
    refine a_getfr (c := 8) (i := 38) dX8_worthOf_53 fRX8_105 g8_38 rfl hk ?_
    refine a_iload 1 dX8_worthOf_56 rfl ?_
    refine a_iald dX8_worthOf_58 h (fun x2 h => ?_)
    refine a_aload_n 0 dX8_worthOf_59 rfl rfl ?_
    refine a_getfr (c := 8) (i := 39) dX8_worthOf_60 fRX8_108 g8_39 rfl hk ?_
    refine a_iload 1 dX8_worthOf_63 rfl ?_
    refine a_iald dX8_worthOf_65 h (fun x3 h => ?_)
    refine a_cVl (c := 8) [vi x2, vi x3] [] dX8_worthOf_66 myX8_tells mRX8_377 mvX8_tells rfl (by decide) hk (fun _ hj => tX8_tells E l N l0 x2 x3 μ _ hk hj) (by decide) rfl (Nat.le_of_ble_eq_true rfl) h (fun x4 μ1 hm h => ?_)
    have hk := hm.k hk (by decide)
    refine a_lconst (v := 1) dX8_worthOf_69 ⟨rfl, okJ_b _ rfl⟩ ?_
    refine a_lcmp dX8_worthOf_70 ?_
    refine a_if_eq (tgt := 77) dX8_worthOf_71 rfl h (fun h => ?_) (fun h => ?_)
    ·
      refine a_aload_n 0 dX8_worthOf_77 rfl rfl ?_
      refine a_aload_n 0 dX8_worthOf_78 rfl rfl ?_
      refine a_getfr (c := 8) (i := 37) dX8_worthOf_79 fRX8_102 g8_37 rfl hk ?_
      refine a_iload 1 dX8_worthOf_82 rfl ?_
      refine a_iald dX8_worthOf_84 h (fun x5 h => ?_)
      refine a_aload_n 0 dX8_worthOf_85 rfl rfl ?_
      refine a_getfr (c := 8) (i := 38) dX8_worthOf_86 fRX8_105 g8_38 rfl hk ?_
      refine a_iload 1 dX8_worthOf_89 rfl ?_
      refine a_iald dX8_worthOf_91 h (fun x6 h => ?_)
      refine a_cVl (c := 8) [vi x5, vi x6] [] dX8_worthOf_92 myX8_tells mRX8_377 mvX8_tells rfl (by decide) hk (fun _ hj => tX8_tells E l N l0 x5 x6 μ1 _ hk hj) (by decide) rfl (Nat.le_of_ble_eq_true rfl) h (fun x7 μ2 hm h => ?_)
      have hk := hm.k hk (by decide)
      refine a_lstore (L' := [(6, vl x7), (0, vr l0), (5, vi l5)]) dX8_worthOf_95 (by decide) rfl ?_
      refine a_lload 0 dX8_worthOf_97 rfl ?_
      refine a_ldc2 (x := (-20)) dX8_worthOf_99 kRX8_381 ⟨rfl, okJ_b _ rfl⟩ ?_
      refine a_lcmp dX8_worthOf_102 ?_
      refine a_if_ge (tgt := 111) dX8_worthOf_103 rfl h (fun h => ?_) (fun h => ?_)
      ·
        refine a_lload 0 dX8_worthOf_111 rfl ?_
        refine a_ldc2 (x := 20) dX8_worthOf_113 kRX8_383 ⟨rfl, okJ_b _ rfl⟩ ?_
        refine a_lcmp dX8_worthOf_116 ?_
        refine a_if_le (tgt := 125) dX8_worthOf_117 rfl h (fun h => ?_) (fun h => ?_)
        ·
          refine a_lload 0 dX8_worthOf_125 rfl ?_
          refine a_l2i dX8_worthOf_127 ?_
          exact a_sub [1] rfl (tX8_worthOf_128 E l _ N l0 (l_2i x7) μ2 t hk h)
        ·
          refine a_bipush dX8_worthOf_120 ⟨rfl, okI_b _ rfl⟩ ?_
          refine a_goto (tgt := 128) dX8_worthOf_122 rfl ?_
          exact a_sub [1] rfl (tX8_worthOf_128 E l _ N l0 20 μ2 t hk h)
      ·
        refine a_bipush dX8_worthOf_106 ⟨rfl, okI_b _ rfl⟩ ?_
        refine a_goto (tgt := 128) dX8_worthOf_108 rfl ?_
        exact a_sub [1] rfl (tX8_worthOf_128 E l _ N l0 (-20) μ2 t hk h)
    ·
      refine a_goto (tgt := 129) dX8_worthOf_74 rfl ?_
      refine a_iinc (F := fun x8 => [(5, vi x8), (0, vr l0)]) 1 dX8_worthOf_129 rfl (by decide) h (fun _ => rfl) (fun x8 h => ?_)
      refine a_goto (tgt := 37) dX8_worthOf_132 rfl ?_
      exact a_sub [1, 0] rfl (p37 l0 x8 μ1 t hk h)
theorem tX8_worthOf_37 (E : m_E) (l : Launch) (z : Nat × Nat) (N : Nat) : ∀ (n : Nat) (l0 l5 : Int) (μ : Mm) (t : Int × Mm), m_kd μ l0 = (8, 0) → jX8_worthOf_37 N n l0 l5 μ = some t → aX8_worthOf E l 4 z 37 [(0, vr l0), (5, vi l5)] [] μ (rI t)
  | 0, _, _, _, _, _, h => by cases h
  | n + 1, l0, l5, μ, t, hk, h => tX8_worthOf_37b E l z (jX8_worthOf_37 N n) (tX8_worthOf_37 E l z N n) N l0 l5 μ t hk h
theorem tX8_worthOf (E : m_E) (l : Launch) (N : Nat) (l0 l1 l2 l3 l4 : Int) (μ : Mm) (t : Int × Mm) (hk : m_kd μ l0 = (8, 0)) (h : jX8_worthOf N l0 l1 l2 l3 l4 μ = some t) : TT E l 4 yX8_worthOf cX8_worthOf 8 (some .int) [vr l0, vi l1, vi l2, vi l3, vi l4] μ (rI t) := by
  refine tt_of (L := [(0, vr l0), (1, vi l1), (2, vi l2), (3, vi l3), (4, vi l4)]) (by decide +kernel) (Nat.le_of_ble_eq_true rfl) rfl ?_
  show aX8_worthOf E l 4 (m_sz μ, m_sl μ) 0 [(0, vr l0), (1, vi l1), (2, vi l2), (3, vi l3), (4, vi l4)] [] μ (rI t)
  unfold jX8_worthOf at h
  refine a_aload_n 0 dX8_worthOf_0 rfl rfl ?_
  refine a_iload_n 1 dX8_worthOf_1 rfl rfl ?_
  refine a_iconst dX8_worthOf_2 (okI_b _ rfl) ?_
  refine a_iadd dX8_worthOf_3 ?_
  refine a_putfi (c := 8) (i := 52) dX8_worthOf_4 fRX8_356 g8_52 (Or.inl rfl) rfl hk h (fun μ1 hm h => ?_)
  have hk := hm.k hk (by decide)
  refine a_aload_n 0 dX8_worthOf_7 rfl rfl ?_
  refine a_iload_n 2 dX8_worthOf_8 rfl rfl ?_
  refine a_putfi (c := 8) (i := 53) dX8_worthOf_9 fRX8_359 g8_53 (Or.inl rfl) rfl hk h (fun μ2 hm h => ?_)
  have hk := hm.k hk (by decide)
  refine a_aload_n 0 dX8_worthOf_12 rfl rfl ?_
  refine a_iload_n 3 dX8_worthOf_13 rfl rfl ?_
  refine a_putfi (c := 8) (i := 54) dX8_worthOf_14 fRX8_362 g8_54 (Or.inl rfl) rfl hk h (fun μ3 hm h => ?_)
  have hk := hm.k hk (by decide)
  refine a_aload_n 0 dX8_worthOf_17 rfl rfl ?_
  refine a_iload 4 dX8_worthOf_18 rfl ?_
  refine a_putfi (c := 8) (i := 55) dX8_worthOf_20 fRX8_365 g8_55 (Or.inl rfl) rfl hk h (fun μ4 hm h => ?_)
  have hk := hm.k hk (by decide)
  refine a_aload_n 0 dX8_worthOf_23 rfl rfl ?_
  refine a_iconst dX8_worthOf_24 (okI_b _ rfl) ?_
  refine a_putfi (c := 8) (i := 56) dX8_worthOf_25 fRX8_368 g8_56 (Or.inl rfl) rfl hk h (fun μ5 hm h => ?_)
  have hk := hm.k hk (by decide)
  refine a_aload_n 0 dX8_worthOf_28 rfl rfl ?_
  refine a_iconst dX8_worthOf_29 (okI_b _ rfl) ?_
  refine a_putfi (c := 8) (i := 57) dX8_worthOf_30 fRX8_371 g8_57 (Or.inl rfl) rfl hk h (fun μ6 hm h => ?_)
  have hk := hm.k hk (by decide)
  refine a_bipush dX8_worthOf_33 ⟨rfl, okI_b _ rfl⟩ ?_
  refine a_istore (L' := [(5, vi 30), (0, vr l0), (1, vi l1), (2, vi l2), (3, vi l3), (4, vi l4)]) dX8_worthOf_35 (by decide) rfl ?_
  exact a_sub [1, 0] rfl (tX8_worthOf_37 E l _ N N l0 30 μ6 t hk h)
-- X8_ends
abbrev aX8_ends (E : m_E) (l : Launch) (d : Nat) (z : Nat × Nat) (pc : Nat) (L : List (Nat × AV)) (st : List AV) (μ : Mm) (ρ : Option AV × Mm) : Prop := AA E l d z RX8 "ends" cX8_ends 12 (some .boolean) pc L st μ ρ
theorem tX8_ends_189 (E : m_E) (l : Launch) (z : Nat × Nat) (N : Nat) (l0 s0 s1 s2 : Int) (μ : Mm) (t : Int × Mm) (hk : m_kd μ l0 = (8, 0)) (h : jX8_ends_189 N l0 s0 s1 s2 μ = some t) : aX8_ends E l 5 z 189 [(0, vr l0)] [vi s0, vi s1, vr s2] μ (rI t) := by
  unfold jX8_ends_189 at h
  refine a_cSi [vi s1, vi s0] [vr s2] dX8_ends_189 myX8_plus mRX8_442 msX8_plus (fun _ hj => tX8_plus E l N s1 s0 μ _  hj) (by decide) rfl (Nat.le_of_ble_eq_true rfl) h (fun x1 μ1 hm h => ?_)
  have hk := hm.k hk (by decide)
  refine m_chk_k h (fun hq2 h => ?_)
  refine a_putfi (c := 8) (i := 76) dX8_ends_192 fRX8_445 g8_76 (Or.inl rfl) rfl hq2 h (fun μ2 hm h => ?_)
  have hk := hm.k hk (by decide)
  have hq2 := hm.k hq2 (by decide)
  refine a_iconst dX8_ends_195 (okI_b _ rfl) ?_
  exact a_retzl (Or.inr rfl) dX8_ends_196 h
theorem tX8_ends_148 (E : m_E) (l : Launch) (z : Nat × Nat) (N : Nat) (l0 l1 l6 l7 l8 l9 l10 s0 : Int) (μ : Mm) (t : Int × Mm) (hk : m_kd μ l0 = (8, 0)) (h : jX8_ends_148 N l0 l1 l6 l7 l8 l9 l10 s0 μ = some t) : aX8_ends E l 5 z 148 [(0, vr l0), (1, vi l1), (6, vi l6), (7, vi l7), (8, vi l8), (9, vi l9), (10, vi l10)] [vi s0] μ (rI t) := by
  unfold jX8_ends_148 at h
  refine a_istore (L' := [(11, vi s0), (0, vr l0), (1, vi l1), (6, vi l6), (7, vi l7), (8, vi l8), (9, vi l9), (10, vi l10)]) dX8_ends_148 (by decide) rfl ?_
  refine a_aload_n 1 dX8_ends_150 rfl rfl ?_
  refine a_iload 3 dX8_ends_151 rfl ?_
  refine a_aload_n 1 dX8_ends_153 rfl rfl ?_
  refine a_iload_n 2 dX8_ends_154 rfl rfl ?_
  refine a_iload 5 dX8_ends_155 rfl ?_
  refine a_iload 7 dX8_ends_157 rfl ?_
  refine a_iload 6 dX8_ends_159 rfl ?_
  refine a_cVi (c := 8) [vi l1, vi l8, vi l10, vi l9] [vi l6, vr l0] dX8_ends_161 myX8_worthOf mRX8_413 mvX8_worthOf rfl (by decide) hk (fun _ hj => tX8_worthOf E l N l0 l1 l8 l10 l9 μ _ hk hj) (by decide) rfl (Nat.le_of_ble_eq_true rfl) h (fun x1 μ1 hm h => ?_)
  have hk := hm.k hk (by decide)
  refine a_iadd dX8_ends_164 ?_
  refine a_putfi (c := 8) (i := 75) dX8_ends_165 fRX8_439 g8_75 (Or.inl rfl) rfl hk h (fun μ2 hm h => ?_)
  have hk := hm.k hk (by decide)
  refine a_aload_n 1 dX8_ends_168 rfl rfl ?_
  refine a_iload 4 dX8_ends_169 rfl ?_
  refine a_iload 0 dX8_ends_171 rfl ?_
  refine a_if_le (tgt := 188) dX8_ends_173 rfl h (fun h => ?_) (fun h => ?_)
  ·
    refine a_iconst dX8_ends_188 (okI_b _ rfl) ?_
    exact a_sub [1] rfl (tX8_ends_189 E l _ N l0 0 l7 l0 μ2 t hk h)
  ·
    refine a_aload_n 1 dX8_ends_176 rfl rfl ?_
    refine a_getfr (c := 8) (i := 35) dX8_ends_177 fRX8_96 g8_35 rfl hk ?_
    refine a_iconst dX8_ends_180 (okI_b _ rfl) ?_
    refine a_iload 0 dX8_ends_181 rfl ?_
    refine a_iadd dX8_ends_183 ?_
    refine a_iald dX8_ends_184 h (fun x2 h => ?_)
    refine a_goto (tgt := 189) dX8_ends_185 rfl ?_
    exact a_sub [1] rfl (tX8_ends_189 E l _ N l0 x2 l7 l0 μ2 t hk h)
theorem tX8_ends_131 (E : m_E) (l : Launch) (z : Nat × Nat) (N : Nat) (l0 l1 l6 l7 l8 l9 l10 : Int) (μ : Mm) (t : Int × Mm) (hk : m_kd μ l0 = (8, 0)) (h : jX8_ends_131 N l0 l1 l6 l7 l8 l9 l10 μ = some t) : aX8_ends E l 5 z 131 [(0, vr l0), (1, vi l1), (6, vi l6), (7, vi l7), (8, vi l8), (9, vi l9), (10, vi l10)] [] μ (rI t) := by
  unfold jX8_ends_131 at h
  refine a_iload 4 dX8_ends_131 rfl ?_
  refine a_aload_n 0 dX8_ends_133 rfl rfl ?_
  refine a_getfr (c := 8) (i := 31) dX8_ends_134 fRX8_84 g8_31 rfl hk ?_
  refine a_iconst dX8_ends_137 (okI_b _ rfl) ?_
  refine a_iald dX8_ends_138 h (fun x1 h => ?_)
  refine a_icmp_ne (tgt := 147) dX8_ends_139 rfl h (fun h => ?_) (fun h => ?_)
  ·
    refine a_iconst dX8_ends_147 (okI_b _ rfl) ?_
    exact a_sub [0, 1, 2, 3, 4, 5, 6] rfl (tX8_ends_148 E l _ N l0 l1 l6 l7 l8 l9 l10 0 μ t hk h)
  ·
    refine a_iload 6 dX8_ends_142 rfl ?_
    refine a_goto (tgt := 148) dX8_ends_144 rfl ?_
    exact a_sub [0, 1, 2, 3, 4, 5, 6] rfl (tX8_ends_148 E l _ N l0 l1 l6 l7 l8 l9 l10 l10 μ t hk h)
theorem tX8_ends_79 (E : m_E) (l : Launch) (z : Nat × Nat) (k17 : Int → Int → Int → Int → Int → Int → Int → Int → Mm → Option (Int × Mm)) (p17 : ∀ (l0 l1 l3 l6 l7 l8 l9 l10 : Int) (μ : Mm) (t : Int × Mm), m_kd μ l0 = (8, 0) → k17 l0 l1 l3 l6 l7 l8 l9 l10 μ = some t → aX8_ends E l 5 z 17 [(0, vr l0), (1, vi l1), (3, vi l3), (6, vi l6), (7, vi l7), (8, vi l8), (9, vi l9), (10, vi l10)] [] μ (rI t)) (N : Nat) (l0 l1 l3 l6 l7 l8 l9 l10 l11 : Int) (μ : Mm) (t : Int × Mm) (hk : m_kd μ l0 = (8, 0)) (h : jX8_ends_79 k17 N l0 l1 l3 l6 l7 l8 l9 l10 l11 μ = some t) : aX8_ends E l 5 z 79 [(0, vr l0), (1, vi l1), (3, vi l3), (6, vi l6), (7, vi l7), (8, vi l8), (9, vi l9), (10, vi l10), (11, vi l11)] [] μ (rI t) := by
  unfold jX8_ends_79 at h
  refine a_iload 5 dX8_ends_79 rfl ?_
  refine a_iload 8 dX8_ends_81 rfl ?_
  refine a_iadd dX8_ends_83 ?_
  refine a_nmi h (fun x1 h => ?_)
  refine a_istore (L' := [(8, vi x1), (0, vr l0), (1, vi l1), (3, vi l3), (6, vi l6), (7, vi l7), (9, vi l9), (10, vi l10), (11, vi l11)]) dX8_ends_84 (by decide) rfl ?_
  refine a_iload 5 dX8_ends_86 rfl ?_
  refine a_cSi [vi l7] [] dX8_ends_88 myX8_later mRX8_436 msX8_later (fun _ hj => tX8_later E l N l7 μ _  hj) (by decide) rfl (Nat.le_of_ble_eq_true rfl) h (fun x2 μ1 hm h => ?_)
  have hk := hm.k hk (by decide)
  refine a_istore (L' := [(7, vi x2), (8, vi x1), (0, vr l0), (1, vi l1), (3, vi l3), (6, vi l6), (9, vi l9), (10, vi l10), (11, vi l11)]) dX8_ends_91 (by decide) rfl ?_
  refine a_iinc (F := fun x3 => [(10, vi x3), (7, vi x2), (8, vi x1), (0, vr l0), (1, vi l1), (3, vi l3), (6, vi l6), (9, vi l9), (11, vi l11)]) 7 dX8_ends_93 rfl (by decide) h (fun _ => rfl) (fun x3 h => ?_)
  refine a_goto (tgt := 17) dX8_ends_96 rfl ?_
  exact a_sub [3, 4, 5, 6, 1, 2, 7, 0] rfl (p17 l0 l1 l3 l6 x2 x1 l9 x3 μ1 t hk h)
theorem tX8_ends_17b (E : m_E) (l : Launch) (z : Nat × Nat) (k17 : Int → Int → Int → Int → Int → Int → Int → Int → Mm → Option (Int × Mm)) (p17 : ∀ (l0 l1 l3 l6 l7 l8 l9 l10 : Int) (μ : Mm) (t : Int × Mm), m_kd μ l0 = (8, 0) → k17 l0 l1 l3 l6 l7 l8 l9 l10 μ = some t → aX8_ends E l 5 z 17 [(0, vr l0), (1, vi l1), (3, vi l3), (6, vi l6), (7, vi l7), (8, vi l8), (9, vi l9), (10, vi l10)] [] μ (rI t)) (N : Nat) (l0 l1 l3 l6 l7 l8 l9 l10 : Int) (μ : Mm) (t : Int × Mm) (hk : m_kd μ l0 = (8, 0)) (h : jX8_ends_17b k17 N l0 l1 l3 l6 l7 l8 l9 l10 μ = some t) : aX8_ends E l 5 z 17 [(0, vr l0), (1, vi l1), (3, vi l3), (6, vi l6), (7, vi l7), (8, vi l8), (9, vi l9), (10, vi l10)] [] μ (rI t) := by
  unfold jX8_ends_17b at h
  refine a_iload 7 dX8_ends_17 rfl ?_
  refine a_aload_n 0 dX8_ends_19 rfl rfl ?_
  refine a_getfi (c := 8) (i := 74) dX8_ends_20 fRX8_430 g8_74 rfl hk ?_
  refine a_icmp_ge (tgt := 99) dX8_ends_23 rfl h (fun h => ?_) (fun h => ?_)
  ·
    refine a_iload_n 2 dX8_ends_99 rfl rfl ?_
    refine a_aload_n 0 dX8_ends_100 rfl rfl ?_
    refine a_getfi (c := 8) (i := 74) dX8_ends_101 fRX8_430 g8_74 rfl hk ?_
    refine a_iadd dX8_ends_104 ?_
    refine a_nmi h (fun x1 h => ?_)
    refine a_istore (L' := [(10, vi x1), (0, vr l0), (1, vi l1), (3, vi l3), (6, vi l6), (7, vi l7), (8, vi l8), (9, vi l9)]) dX8_ends_105 (by decide) rfl ?_
    refine a_iload 6 dX8_ends_107 rfl ?_
    refine a_aload_n 1 dX8_ends_109 rfl rfl ?_
    refine a_getfr (c := 8) (i := 31) dX8_ends_110 fRX8_84 g8_31 rfl hk ?_
    refine a_iconst dX8_ends_113 (okI_b _ rfl) ?_
    refine a_iald dX8_ends_114 h (fun x2 h => ?_)
    refine a_icmp_ge (tgt := 131) dX8_ends_115 rfl h (fun h => ?_) (fun h => ?_)
    ·
      exact a_sub [1, 2, 4, 5, 6, 7, 0] rfl (tX8_ends_131 E l _ N l0 l1 l6 l7 l8 l9 x1 μ t hk h)
    ·
      refine a_iload 0 dX8_ends_118 rfl ?_
      refine a_aload_n 1 dX8_ends_120 rfl rfl ?_
      refine a_getfr (c := 8) (i := 33) dX8_ends_121 fRX8_90 g8_33 rfl hk ?_
      refine a_iconst dX8_ends_124 (okI_b _ rfl) ?_
      refine a_iald dX8_ends_125 h (fun x3 h => ?_)
      refine a_icmp_ge (tgt := 131) dX8_ends_126 rfl h (fun h => ?_) (fun h => ?_)
      ·
        exact a_sub [1, 2, 4, 5, 6, 7, 0] rfl (tX8_ends_131 E l _ N l0 l1 l6 l7 l8 l9 x1 μ t hk h)
      ·
        refine a_iconst dX8_ends_129 (okI_b _ rfl) ?_
        exact a_retzl (Or.inl rfl) dX8_ends_130 h
  ·
    refine a_aload_n 0 dX8_ends_26 rfl rfl ?_
    refine a_getfr (c := 8) (i := 73) dX8_ends_27 fRX8_156 g8_73 rfl hk ?_
    refine a_iload 7 dX8_ends_30 rfl ?_
    refine a_iald dX8_ends_32 h (fun x4 h => ?_)
    refine a_cSi [vi x4] [] dX8_ends_33 myX8_taken mRX8_391 msX8_taken (fun _ hj => tX8_taken E l N x4 μ _  hj) (by decide) rfl (Nat.le_of_ble_eq_true rfl) h (fun x5 μ1 hm h => ?_)
    have hk := hm.k hk (by decide)
    refine a_istore (L' := [(11, vi x5), (0, vr l0), (1, vi l1), (3, vi l3), (6, vi l6), (7, vi l7), (8, vi l8), (9, vi l9), (10, vi l10)]) dX8_ends_36 (by decide) rfl ?_
    refine a_iload 4 dX8_ends_38 rfl ?_
    refine a_iload 0 dX8_ends_40 rfl ?_
    refine a_iconst dX8_ends_42 (okI_b _ rfl) ?_
    refine a_iload 5 dX8_ends_43 rfl ?_
    refine a_cSi [vi l7] [vi 1, vi x5, vi l6] dX8_ends_45 myX8_oneOf mRX8_433 msX8_oneOf (fun _ hj => tX8_oneOf E l N l7 μ1 _  hj) (by decide) rfl (Nat.le_of_ble_eq_true rfl) h (fun x6 μ2 hm h => ?_)
    have hk := hm.k hk (by decide)
    refine a_iadd dX8_ends_48 ?_
    refine a_imul dX8_ends_49 ?_
    refine a_iadd dX8_ends_50 ?_
    refine a_nmi h (fun x7 h => ?_)
    refine a_istore (L' := [(6, vi x7), (11, vi x5), (0, vr l0), (1, vi l1), (3, vi l3), (7, vi l7), (8, vi l8), (9, vi l9), (10, vi l10)]) dX8_ends_51 (by decide) rfl ?_
    refine a_aload_n 2 dX8_ends_53 rfl rfl ?_
    refine a_getfr (c := 8) (i := 73) dX8_ends_54 fRX8_156 g8_73 rfl hk ?_
    refine a_iload 8 dX8_ends_57 rfl ?_
    refine a_iald dX8_ends_59 h (fun x8 h => ?_)
    refine a_bipush dX8_ends_60 ⟨rfl, okI_b _ rfl⟩ ?_
    refine a_icmp_ne (tgt := 79) dX8_ends_62 rfl h (fun h => ?_) (fun h => ?_)
    ·
      exact a_sub [2, 3, 4, 0, 5, 6, 7, 8, 1] rfl (tX8_ends_79 E l _ k17 p17 N l0 l1 l3 x7 l7 l8 l9 l10 x5 μ2 t hk h)
    ·
      refine a_iinc (F := fun x9 => [(9, vi x9), (6, vi x7), (11, vi x5), (0, vr l0), (1, vi l1), (3, vi l3), (7, vi l7), (8, vi l8), (10, vi l10)]) 7 dX8_ends_65 rfl (by decide) h (fun _ => rfl) (fun x9 h => ?_)
      refine a_iload 1 dX8_ends_68 rfl ?_
      refine a_aload_n 3 dX8_ends_70 rfl rfl ?_
      refine a_getfr (c := 8) (i := 34) dX8_ends_71 fRX8_93 g8_34 rfl hk ?_
      refine a_iconst dX8_ends_74 (okI_b _ rfl) ?_
      refine a_iald dX8_ends_75 h (fun x10 h => ?_)
      refine a_isub dX8_ends_76 ?_
      refine a_nmi h (fun x11 h => ?_)
      refine a_istore (L' := [(6, vi x11), (9, vi x9), (11, vi x5), (0, vr l0), (1, vi l1), (3, vi l3), (7, vi l7), (8, vi l8), (10, vi l10)]) dX8_ends_77 (by decide) rfl ?_
      exact a_sub [3, 4, 5, 0, 6, 7, 1, 8, 2] rfl (tX8_ends_79 E l _ k17 p17 N l0 l1 l3 x11 l7 l8 x9 l10 x5 μ2 t hk h)
theorem tX8_ends_17 (E : m_E) (l : Launch) (z : Nat × Nat) (N : Nat) : ∀ (n : Nat) (l0 l1 l3 l6 l7 l8 l9 l10 : Int) (μ : Mm) (t : Int × Mm), m_kd μ l0 = (8, 0) → jX8_ends_17 N n l0 l1 l3 l6 l7 l8 l9 l10 μ = some t → aX8_ends E l 5 z 17 [(0, vr l0), (1, vi l1), (3, vi l3), (6, vi l6), (7, vi l7), (8, vi l8), (9, vi l9), (10, vi l10)] [] μ (rI t)
  | 0, _, _, _, _, _, _, _, _, _, _, _, h => by cases h
  | n + 1, l0, l1, l3, l6, l7, l8, l9, l10, μ, t, hk, h => tX8_ends_17b E l z (jX8_ends_17 N n) (tX8_ends_17 E l z N n) N l0 l1 l3 l6 l7 l8 l9 l10 μ t hk h
theorem tX8_ends (E : m_E) (l : Launch) (N : Nat) (l0 l1 l2 l3 l4 l5 : Int) (μ : Mm) (t : Int × Mm) (hk : m_kd μ l0 = (8, 0)) (h : jX8_ends N l0 l1 l2 l3 l4 l5 μ = some t) : TT E l 5 yX8_ends cX8_ends 12 (some .boolean) [vr l0, vi l1, vi l2, vi l3, vi l4, vi l5] μ (rI t) := by
  refine tt_of (L := [(0, vr l0), (1, vi l1), (2, vi l2), (3, vi l3), (4, vi l4), (5, vi l5)]) (by decide +kernel) (Nat.le_of_ble_eq_true rfl) rfl ?_
  show aX8_ends E l 5 (m_sz μ, m_sl μ) 0 [(0, vr l0), (1, vi l1), (2, vi l2), (3, vi l3), (4, vi l4), (5, vi l5)] [] μ (rI t)
  unfold jX8_ends at h
  refine a_iconst dX8_ends_0 (okI_b _ rfl) ?_
  refine a_istore (L' := [(6, vi 0), (0, vr l0), (1, vi l1), (2, vi l2), (3, vi l3), (4, vi l4), (5, vi l5)]) dX8_ends_1 (by decide) rfl ?_
  refine a_iload_n 3 dX8_ends_3 rfl rfl ?_
  refine a_istore (L' := [(7, vi l2), (6, vi 0), (0, vr l0), (1, vi l1), (2, vi l2), (3, vi l3), (4, vi l4), (5, vi l5)]) dX8_ends_4 (by decide) rfl ?_
  refine a_iload 6 dX8_ends_6 rfl ?_
  refine a_istore (L' := [(8, vi l4), (7, vi l2), (6, vi 0), (0, vr l0), (1, vi l1), (2, vi l2), (3, vi l3), (4, vi l4), (5, vi l5)]) dX8_ends_8 (by decide) rfl ?_
  refine a_iload 8 dX8_ends_10 rfl ?_
  refine a_istore (L' := [(9, vi l5), (8, vi l4), (7, vi l2), (6, vi 0), (0, vr l0), (1, vi l1), (2, vi l2), (3, vi l3), (4, vi l4), (5, vi l5)]) dX8_ends_12 (by decide) rfl ?_
  refine a_iconst dX8_ends_14 (okI_b _ rfl) ?_
  refine a_istore (L' := [(10, vi 0), (9, vi l5), (8, vi l4), (7, vi l2), (6, vi 0), (0, vr l0), (1, vi l1), (2, vi l2), (3, vi l3), (4, vi l4), (5, vi l5)]) dX8_ends_15 (by decide) rfl ?_
  exact a_sub [5, 6, 8, 4, 3, 2, 1, 0] rfl (tX8_ends_17 E l _ N N l0 l1 l3 0 l2 l4 l5 0 μ t hk h)
-- X8_isOver
abbrev aX8_isOver (E : m_E) (l : Launch) (d : Nat) (z : Nat × Nat) (pc : Nat) (L : List (Nat × AV)) (st : List AV) (μ : Mm) (ρ : Option AV × Mm) : Prop := AA E l d z RX8 "isOver" cX8_isOver 2 (some .boolean) pc L st μ ρ
theorem tX8_isOver_29 (E : m_E) (l : Launch) (z : Nat × Nat) (N : Nat) (l0 s0 : Int) (μ : Mm) (t : Int × Mm) (hk : m_kd μ l0 = (8, 0)) (h : jX8_isOver_29 N l0 s0 μ = some t) : aX8_isOver E l 1 z 29 [(0, vr l0)] [vi s0] μ (rI t) := by
  unfold jX8_isOver_29 at h
  exact a_retz dX8_isOver_29 h
theorem tX8_isOver_24 (E : m_E) (l : Launch) (z : Nat × Nat) (N : Nat) (l0 : Int) (μ : Mm) (t : Int × Mm) (hk : m_kd μ l0 = (8, 0)) (h : jX8_isOver_24 N l0 μ = some t) : aX8_isOver E l 1 z 24 [(0, vr l0)] [] μ (rI t) := by
  unfold jX8_isOver_24 at h
  refine a_iconst dX8_isOver_24 (okI_b _ rfl) ?_
  refine a_goto (tgt := 29) dX8_isOver_25 rfl ?_
  exact a_sub [0] rfl (tX8_isOver_29 E l _ N l0 1 μ t hk h)
theorem tX8_isOver (E : m_E) (l : Launch) (N : Nat) (l0 l1 : Int) (μ : Mm) (t : Int × Mm) (hk : m_kd μ l0 = (8, 0)) (h : jX8_isOver N l0 l1 μ = some t) : TT E l 1 yX8_isOver cX8_isOver 2 (some .boolean) [vr l0, vi l1] μ (rI t) := by
  refine tt_of (L := [(0, vr l0), (1, vi l1)]) (by decide +kernel) (Nat.le_of_ble_eq_true rfl) rfl ?_
  show aX8_isOver E l 1 (m_sz μ, m_sl μ) 0 [(0, vr l0), (1, vi l1)] [] μ (rI t)
  unfold jX8_isOver at h
  refine a_aload_n 0 dX8_isOver_0 rfl rfl ?_
  refine a_getfr (c := 8) (i := 62) dX8_isOver_1 fRX8_140 g8_62 rfl hk ?_
  refine a_iload_n 1 dX8_isOver_4 rfl rfl ?_
  refine a_iald dX8_isOver_5 h (fun x1 h => ?_)
  refine a_if_gt (tgt := 24) dX8_isOver_6 rfl h (fun h => ?_) (fun h => ?_)
  ·
    exact a_sub [0] rfl (tX8_isOver_24 E l _ N l0 μ t hk h)
  ·
    refine a_aload_n 0 dX8_isOver_9 rfl rfl ?_
    refine a_getfr (c := 8) (i := 61) dX8_isOver_10 fRX8_137 g8_61 rfl hk ?_
    refine a_iload_n 1 dX8_isOver_13 rfl rfl ?_
    refine a_iald dX8_isOver_14 h (fun x2 h => ?_)
    refine a_aload_n 0 dX8_isOver_15 rfl rfl ?_
    refine a_getfr (c := 8) (i := 33) dX8_isOver_16 fRX8_90 g8_33 rfl hk ?_
    refine a_iconst dX8_isOver_19 (okI_b _ rfl) ?_
    refine a_iald dX8_isOver_20 h (fun x3 h => ?_)
    refine a_icmp_ne (tgt := 28) dX8_isOver_21 rfl h (fun h => ?_) (fun h => ?_)
    ·
      refine a_iconst dX8_isOver_28 (okI_b _ rfl) ?_
      exact a_sub [0] rfl (tX8_isOver_29 E l _ N l0 0 μ t hk h)
    ·
      exact a_sub [0] rfl (tX8_isOver_24 E l _ N l0 μ t hk h)
-- X8_owed
abbrev aX8_owed (E : m_E) (l : Launch) (d : Nat) (z : Nat × Nat) (pc : Nat) (L : List (Nat × AV)) (st : List AV) (μ : Mm) (ρ : Option AV × Mm) : Prop := AA E l d z RX8 "owed" cX8_owed 2 (some .int) pc L st μ ρ
theorem tX8_owed_26 (E : m_E) (l : Launch) (z : Nat × Nat) (N : Nat) (l0 s0 : Int) (μ : Mm) (t : Int × Mm) (hk : m_kd μ l0 = (8, 0)) (h : jX8_owed_26 N l0 s0 μ = some t) : aX8_owed E l 1 z 26 [(0, vr l0)] [vi s0] μ (rI t) := by
  unfold jX8_owed_26 at h
  exact a_reti dX8_owed_26 h
theorem tX8_owed (E : m_E) (l : Launch) (N : Nat) (l0 l1 : Int) (μ : Mm) (t : Int × Mm) (hk : m_kd μ l0 = (8, 0)) (h : jX8_owed N l0 l1 μ = some t) : TT E l 1 yX8_owed cX8_owed 2 (some .int) [vr l0, vi l1] μ (rI t) := by
  refine tt_of (L := [(0, vr l0), (1, vi l1)]) (by decide +kernel) (Nat.le_of_ble_eq_true rfl) rfl ?_
  show aX8_owed E l 1 (m_sz μ, m_sl μ) 0 [(0, vr l0), (1, vi l1)] [] μ (rI t)
  unfold jX8_owed at h
  refine a_aload_n 0 dX8_owed_0 rfl rfl ?_
  refine a_getfr (c := 8) (i := 62) dX8_owed_1 fRX8_140 g8_62 rfl hk ?_
  refine a_iload_n 1 dX8_owed_4 rfl rfl ?_
  refine a_iald dX8_owed_5 h (fun x1 h => ?_)
  refine a_if_le (tgt := 25) dX8_owed_6 rfl h (fun h => ?_) (fun h => ?_)
  ·
    refine a_iconst dX8_owed_25 (okI_b _ rfl) ?_
    exact a_sub [0] rfl (tX8_owed_26 E l _ N l0 0 μ t hk h)
  ·
    refine a_aload_n 0 dX8_owed_9 rfl rfl ?_
    refine a_getfr (c := 8) (i := 35) dX8_owed_10 fRX8_96 g8_35 rfl hk ?_
    refine a_iconst dX8_owed_13 (okI_b _ rfl) ?_
    refine a_aload_n 0 dX8_owed_14 rfl rfl ?_
    refine a_getfr (c := 8) (i := 62) dX8_owed_15 fRX8_140 g8_62 rfl hk ?_
    refine a_iload_n 1 dX8_owed_18 rfl rfl ?_
    refine a_iald dX8_owed_19 h (fun x2 h => ?_)
    refine a_iadd dX8_owed_20 ?_
    refine a_iald dX8_owed_21 h (fun x3 h => ?_)
    refine a_goto (tgt := 26) dX8_owed_22 rfl ?_
    exact a_sub [0] rfl (tX8_owed_26 E l _ N l0 x3 μ t hk h)
