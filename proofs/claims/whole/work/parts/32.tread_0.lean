-- X3_skip
abbrev aX3_skip (E : m_E) (l : Launch) (d : Nat) (z : Nat × Nat) (pc : Nat) (L : List (Nat × AV)) (st : List AV) (μ : Mm) (ρ : Option AV × Mm) : Prop := AA E l d z RX3 "skip" cX3_skip 1 none pc L st μ ρ
theorem tX3_skip_52 (E : m_E) (l : Launch) (z : Nat × Nat) (N : Nat) (l0 : Int) (μ : Mm) (t : Mm) (hk : m_kd μ l0 = (3, 0)) (h : jX3_skip_52 N l0 μ = some t) : aX3_skip E l 1 z 52 [(0, vr l0)] [] μ (rV t) := by
  unfold jX3_skip_52 at h
  exact a_ret0 dX3_skip_52 h
theorem tX3_skip_39 (E : m_E) (l : Launch) (z : Nat × Nat) (k0 : Int → Mm → Option (Mm)) (p0 : ∀ (l0 : Int) (μ : Mm) (t : Mm), m_kd μ l0 = (3, 0) → k0 l0 μ = some t → aX3_skip E l 1 z 0 [(0, vr l0)] [] μ (rV t)) (N : Nat) (l0 : Int) (μ : Mm) (t : Mm) (hk : m_kd μ l0 = (3, 0)) (h : jX3_skip_39 k0 N l0 μ = some t) : aX3_skip E l 1 z 39 [(0, vr l0)] [] μ (rV t) := by
  unfold jX3_skip_39 at h
  refine a_aload_n 0 dX3_skip_39 rfl rfl ?_
  refine a_dup dX3_skip_40 rfl ?_
  refine a_getfi (c := 3) (i := 4) dX3_skip_41 fRX3_25 g3_4 rfl hk ?_
  refine a_iconst dX3_skip_44 (okI_b _ rfl) ?_
  refine a_iadd dX3_skip_45 ?_
  refine a_putfi (c := 3) (i := 4) dX3_skip_46 fRX3_25 g3_4 (Or.inl rfl) rfl hk h (fun μ1 hm h => ?_)
  have hk := hm.k hk (by decide)
  refine a_goto (tgt := 0) dX3_skip_49 rfl ?_
  exact a_sub [0] rfl (p0 l0 μ1 t hk h)
theorem tX3_skip_0b (E : m_E) (l : Launch) (z : Nat × Nat) (k0 : Int → Mm → Option (Mm)) (p0 : ∀ (l0 : Int) (μ : Mm) (t : Mm), m_kd μ l0 = (3, 0) → k0 l0 μ = some t → aX3_skip E l 1 z 0 [(0, vr l0)] [] μ (rV t)) (N : Nat) (l0 : Int) (μ : Mm) (t : Mm) (hk : m_kd μ l0 = (3, 0)) (h : jX3_skip_0b k0 N l0 μ = some t) : aX3_skip E l 1 z 0 [(0, vr l0)] [] μ (rV t) := by
  unfold jX3_skip_0b at h
  refine a_aload_n 0 dX3_skip_0 rfl rfl ?_
  refine a_getfi (c := 3) (i := 4) dX3_skip_1 fRX3_25 g3_4 rfl hk ?_
  refine a_aload_n 0 dX3_skip_4 rfl rfl ?_
  refine a_getfi (c := 3) (i := 3) dX3_skip_5 fRX3_22 g3_3 rfl hk ?_
  refine a_icmp_ge (tgt := 52) dX3_skip_8 rfl h (fun h => ?_) (fun h => ?_)
  ·
    exact a_sub [0] rfl (tX3_skip_52 E l _ N l0 μ t hk h)
  ·
    refine a_aload_n 0 dX3_skip_11 rfl rfl ?_
    refine a_getfr (c := 3) (i := 2) dX3_skip_12 fRX3_18 g3_2 rfl hk ?_
    refine a_aload_n 0 dX3_skip_15 rfl rfl ?_
    refine a_getfi (c := 3) (i := 4) dX3_skip_16 fRX3_25 g3_4 rfl hk ?_
    refine a_iald dX3_skip_19 h (fun x1 h => ?_)
    refine a_bipush dX3_skip_20 ⟨rfl, okI_b _ rfl⟩ ?_
    refine a_icmp_eq (tgt := 39) dX3_skip_22 rfl h (fun h => ?_) (fun h => ?_)
    ·
      exact a_sub [0] rfl (tX3_skip_39 E l _ k0 p0 N l0 μ t hk h)
    ·
      refine a_aload_n 0 dX3_skip_25 rfl rfl ?_
      refine a_getfr (c := 3) (i := 2) dX3_skip_26 fRX3_18 g3_2 rfl hk ?_
      refine a_aload_n 0 dX3_skip_29 rfl rfl ?_
      refine a_getfi (c := 3) (i := 4) dX3_skip_30 fRX3_25 g3_4 rfl hk ?_
      refine a_iald dX3_skip_33 h (fun x2 h => ?_)
      refine a_bipush dX3_skip_34 ⟨rfl, okI_b _ rfl⟩ ?_
      refine a_icmp_ne (tgt := 52) dX3_skip_36 rfl h (fun h => ?_) (fun h => ?_)
      ·
        exact a_sub [0] rfl (tX3_skip_52 E l _ N l0 μ t hk h)
      ·
        exact a_sub [0] rfl (tX3_skip_39 E l _ k0 p0 N l0 μ t hk h)
theorem tX3_skip_0 (E : m_E) (l : Launch) (z : Nat × Nat) (N : Nat) : ∀ (n : Nat) (l0 : Int) (μ : Mm) (t : Mm), m_kd μ l0 = (3, 0) → jX3_skip_0 N n l0 μ = some t → aX3_skip E l 1 z 0 [(0, vr l0)] [] μ (rV t)
  | 0, _, _, _, _, h => by cases h
  | n + 1, l0, μ, t, hk, h => tX3_skip_0b E l z (jX3_skip_0 N n) (tX3_skip_0 E l z N n) N l0 μ t hk h
theorem tX3_skip (E : m_E) (l : Launch) (N : Nat) (l0 : Int) (μ : Mm) (t : Mm) (hk : m_kd μ l0 = (3, 0)) (h : jX3_skip N l0 μ = some t) : TT E l 1 yX3_skip cX3_skip 1 none [vr l0] μ (rV t) := by
  refine tt_of (L := [(0, vr l0)]) (by decide +kernel) (Nat.le_of_ble_eq_true rfl) rfl ?_
  show aX3_skip E l 1 (m_sz μ, m_sl μ) 0 [(0, vr l0)] [] μ (rV t)
  unfold jX3_skip at h
  exact a_sub [0] rfl (tX3_skip_0 E l _ N N l0 μ t hk h)
-- X3_takesSign
abbrev aX3_takesSign (E : m_E) (l : Launch) (d : Nat) (z : Nat × Nat) (pc : Nat) (L : List (Nat × AV)) (st : List AV) (μ : Mm) (ρ : Option AV × Mm) : Prop := AA E l d z RX3 "takesSign" cX3_takesSign 2 (some .boolean) pc L st μ ρ
theorem tX3_takesSign_24 (E : m_E) (l : Launch) (z : Nat × Nat) (N : Nat) (l0 : Int) (μ : Mm) (t : Int × Mm) (hk : m_kd μ l0 = (3, 0)) (h : jX3_takesSign_24 N l0 μ = some t) : aX3_takesSign E l 2 z 24 [(0, vr l0)] [] μ (rI t) := by
  unfold jX3_takesSign_24 at h
  refine a_iconst dX3_takesSign_24 (okI_b _ rfl) ?_
  exact a_retzl (Or.inl rfl) dX3_takesSign_25 h
theorem tX3_takesSign (E : m_E) (l : Launch) (N : Nat) (l0 l1 : Int) (μ : Mm) (t : Int × Mm) (hk : m_kd μ l0 = (3, 0)) (h : jX3_takesSign N l0 l1 μ = some t) : TT E l 2 yX3_takesSign cX3_takesSign 2 (some .boolean) [vr l0, vi l1] μ (rI t) := by
  refine tt_of (L := [(0, vr l0), (1, vi l1)]) (by decide +kernel) (Nat.le_of_ble_eq_true rfl) rfl ?_
  show aX3_takesSign E l 2 (m_sz μ, m_sl μ) 0 [(0, vr l0), (1, vi l1)] [] μ (rI t)
  unfold jX3_takesSign at h
  refine a_aload_n 0 dX3_takesSign_0 rfl rfl ?_
  refine a_getfi (c := 3) (i := 4) dX3_takesSign_1 fRX3_25 g3_4 rfl hk ?_
  refine a_aload_n 0 dX3_takesSign_4 rfl rfl ?_
  refine a_getfi (c := 3) (i := 3) dX3_takesSign_5 fRX3_22 g3_3 rfl hk ?_
  refine a_icmp_ge (tgt := 24) dX3_takesSign_8 rfl h (fun h => ?_) (fun h => ?_)
  ·
    exact a_sub [0] rfl (tX3_takesSign_24 E l _ N l0 μ t hk h)
  ·
    refine a_aload_n 0 dX3_takesSign_11 rfl rfl ?_
    refine a_getfr (c := 3) (i := 2) dX3_takesSign_12 fRX3_18 g3_2 rfl hk ?_
    refine a_aload_n 0 dX3_takesSign_15 rfl rfl ?_
    refine a_getfi (c := 3) (i := 4) dX3_takesSign_16 fRX3_25 g3_4 rfl hk ?_
    refine a_iald dX3_takesSign_19 h (fun x1 h => ?_)
    refine a_iload_n 1 dX3_takesSign_20 rfl rfl ?_
    refine a_icmp_eq (tgt := 26) dX3_takesSign_21 rfl h (fun h => ?_) (fun h => ?_)
    ·
      refine a_aload_n 0 dX3_takesSign_26 rfl rfl ?_
      refine a_dup dX3_takesSign_27 rfl ?_
      refine a_getfi (c := 3) (i := 4) dX3_takesSign_28 fRX3_25 g3_4 rfl hk ?_
      refine a_iconst dX3_takesSign_31 (okI_b _ rfl) ?_
      refine a_iadd dX3_takesSign_32 ?_
      refine a_putfi (c := 3) (i := 4) dX3_takesSign_33 fRX3_25 g3_4 (Or.inl rfl) rfl hk h (fun μ1 hm h => ?_)
      have hk := hm.k hk (by decide)
      refine a_aload_n 0 dX3_takesSign_36 rfl rfl ?_
      refine a_cVv (c := 3) [] [] dX3_takesSign_37 myX3_skip mRX3_43 mvX3_skip rfl (by decide) hk (fun _ hj => tX3_skip E l N l0 μ1 _ hk hj) (by decide) rfl (Nat.le_of_ble_eq_true rfl) h (fun μ2 hm h => ?_)
      have hk := hm.k hk (by decide)
      refine a_iconst dX3_takesSign_40 (okI_b _ rfl) ?_
      exact a_retzl (Or.inr rfl) dX3_takesSign_41 h
    ·
      exact a_sub [0] rfl (tX3_takesSign_24 E l _ N l0 μ t hk h)
-- X3_fail
abbrev aX3_fail (E : m_E) (l : Launch) (d : Nat) (z : Nat × Nat) (pc : Nat) (L : List (Nat × AV)) (st : List AV) (μ : Mm) (ρ : Option AV × Mm) : Prop := AA E l d z RX3 "fail" cX3_fail 3 (some .boolean) pc L st μ ρ
theorem tX3_fail_17 (E : m_E) (l : Launch) (z : Nat × Nat) (N : Nat) (l0 : Int) (μ : Mm) (t : Int × Mm) (hk : m_kd μ l0 = (3, 0)) (h : jX3_fail_17 N l0 μ = some t) : aX3_fail E l 1 z 17 [(0, vr l0)] [] μ (rI t) := by
  unfold jX3_fail_17 at h
  refine a_iconst dX3_fail_17 (okI_b _ rfl) ?_
  exact a_retzl (Or.inl rfl) dX3_fail_18 h
theorem tX3_fail (E : m_E) (l : Launch) (N : Nat) (l0 l1 l2 : Int) (μ : Mm) (t : Int × Mm) (hk : m_kd μ l0 = (3, 0)) (h : jX3_fail N l0 l1 l2 μ = some t) : TT E l 1 yX3_fail cX3_fail 3 (some .boolean) [vr l0, vi l1, vi l2] μ (rI t) := by
  refine tt_of (L := [(0, vr l0), (1, vi l1), (2, vi l2)]) (by decide +kernel) (Nat.le_of_ble_eq_true rfl) rfl ?_
  show aX3_fail E l 1 (m_sz μ, m_sl μ) 0 [(0, vr l0), (1, vi l1), (2, vi l2)] [] μ (rI t)
  unfold jX3_fail at h
  refine a_aload_n 0 dX3_fail_0 rfl rfl ?_
  refine a_getfi (c := 3) (i := 0) dX3_fail_1 fRX3_9 g3_0 rfl hk ?_
  refine a_if_ne (tgt := 17) dX3_fail_4 rfl h (fun h => ?_) (fun h => ?_)
  ·
    exact a_sub [0] rfl (tX3_fail_17 E l _ N l0 μ t hk h)
  ·
    refine a_aload_n 0 dX3_fail_7 rfl rfl ?_
    refine a_iload_n 1 dX3_fail_8 rfl rfl ?_
    refine a_putfi (c := 3) (i := 0) dX3_fail_9 fRX3_9 g3_0 (Or.inl rfl) rfl hk h (fun μ1 hm h => ?_)
    have hk := hm.k hk (by decide)
    refine a_aload_n 0 dX3_fail_12 rfl rfl ?_
    refine a_iload_n 2 dX3_fail_13 rfl rfl ?_
    refine a_putfi (c := 3) (i := 1) dX3_fail_14 fRX3_15 g3_1 (Or.inl rfl) rfl hk h (fun μ2 hm h => ?_)
    have hk := hm.k hk (by decide)
    exact a_sub [0] rfl (tX3_fail_17 E l _ N l0 μ2 t hk h)
-- X3_mayOpen
abbrev aX3_mayOpen (E : m_E) (l : Launch) (d : Nat) (z : Nat × Nat) (pc : Nat) (L : List (Nat × AV)) (st : List AV) (μ : Mm) (ρ : Option AV × Mm) : Prop := AA E l d z RX3 "mayOpen" cX3_mayOpen 3 (some .boolean) pc L st μ ρ
theorem tX3_mayOpen_20 (E : m_E) (l : Launch) (z : Nat × Nat) (N : Nat) (l0 s0 : Int) (μ : Mm) (t : Int × Mm) (hk : m_kd μ l0 = (3, 0)) (h : jX3_mayOpen_20 N l0 s0 μ = some t) : aX3_mayOpen E l 2 z 20 [(0, vr l0)] [vi s0] μ (rI t) := by
  unfold jX3_mayOpen_20 at h
  exact a_retz dX3_mayOpen_20 h
theorem tX3_mayOpen_15 (E : m_E) (l : Launch) (z : Nat × Nat) (N : Nat) (l0 : Int) (μ : Mm) (t : Int × Mm) (hk : m_kd μ l0 = (3, 0)) (h : jX3_mayOpen_15 N l0 μ = some t) : aX3_mayOpen E l 2 z 15 [(0, vr l0)] [] μ (rI t) := by
  unfold jX3_mayOpen_15 at h
  refine a_iconst dX3_mayOpen_15 (okI_b _ rfl) ?_
  refine a_goto (tgt := 20) dX3_mayOpen_16 rfl ?_
  exact a_sub [0] rfl (tX3_mayOpen_20 E l _ N l0 1 μ t hk h)
theorem tX3_mayOpen (E : m_E) (l : Launch) (N : Nat) (l0 l1 l2 : Int) (μ : Mm) (t : Int × Mm) (hk : m_kd μ l0 = (3, 0)) (h : jX3_mayOpen N l0 l1 l2 μ = some t) : TT E l 2 yX3_mayOpen cX3_mayOpen 3 (some .boolean) [vr l0, vi l1, vi l2] μ (rI t) := by
  refine tt_of (L := [(0, vr l0), (1, vi l1), (2, vi l2)]) (by decide +kernel) (Nat.le_of_ble_eq_true rfl) rfl ?_
  show aX3_mayOpen E l 2 (m_sz μ, m_sl μ) 0 [(0, vr l0), (1, vi l1), (2, vi l2)] [] μ (rI t)
  unfold jX3_mayOpen at h
  refine a_iload_n 1 dX3_mayOpen_0 rfl rfl ?_
  refine a_bipush dX3_mayOpen_1 ⟨rfl, okI_b _ rfl⟩ ?_
  refine a_icmp_lt (tgt := 15) dX3_mayOpen_3 rfl h (fun h => ?_) (fun h => ?_)
  ·
    exact a_sub [0] rfl (tX3_mayOpen_15 E l _ N l0 μ t hk h)
  ·
    refine a_aload_n 0 dX3_mayOpen_6 rfl rfl ?_
    refine a_iconst dX3_mayOpen_7 (okI_b _ rfl) ?_
    refine a_iload_n 2 dX3_mayOpen_8 rfl rfl ?_
    refine a_cVi (c := 3) [vi 4, vi l2] [] dX3_mayOpen_9 myX3_fail mRX3_49 mvX3_fail rfl (by decide) hk (fun _ hj => tX3_fail E l N l0 4 l2 μ _ hk hj) (by decide) rfl (Nat.le_of_ble_eq_true rfl) h (fun x1 μ1 hm h => ?_)
    have hk := hm.k hk (by decide)
    refine a_if_eq (tgt := 19) dX3_mayOpen_12 rfl h (fun h => ?_) (fun h => ?_)
    ·
      refine a_iconst dX3_mayOpen_19 (okI_b _ rfl) ?_
      exact a_sub [0] rfl (tX3_mayOpen_20 E l _ N l0 0 μ1 t hk h)
    ·
      exact a_sub [0] rfl (tX3_mayOpen_15 E l _ N l0 μ1 t hk h)
-- X3_isDigit
abbrev aX3_isDigit (E : m_E) (l : Launch) (d : Nat) (z : Nat × Nat) (pc : Nat) (L : List (Nat × AV)) (st : List AV) (μ : Mm) (ρ : Option AV × Mm) : Prop := AA E l d z RX3 "isDigit" cX3_isDigit 2 (some .boolean) pc L st μ ρ
theorem tX3_isDigit_39 (E : m_E) (l : Launch) (z : Nat × Nat) (N : Nat) (l0 s0 : Int) (μ : Mm) (t : Int × Mm) (hk : m_kd μ l0 = (3, 0)) (h : jX3_isDigit_39 N l0 s0 μ = some t) : aX3_isDigit E l 1 z 39 [(0, vr l0)] [vi s0] μ (rI t) := by
  unfold jX3_isDigit_39 at h
  exact a_retz dX3_isDigit_39 h
theorem tX3_isDigit_38 (E : m_E) (l : Launch) (z : Nat × Nat) (N : Nat) (l0 : Int) (μ : Mm) (t : Int × Mm) (hk : m_kd μ l0 = (3, 0)) (h : jX3_isDigit_38 N l0 μ = some t) : aX3_isDigit E l 1 z 38 [(0, vr l0)] [] μ (rI t) := by
  unfold jX3_isDigit_38 at h
  refine a_iconst dX3_isDigit_38 (okI_b _ rfl) ?_
  exact a_sub [0] rfl (tX3_isDigit_39 E l _ N l0 0 μ t hk h)
theorem tX3_isDigit (E : m_E) (l : Launch) (N : Nat) (l0 l1 : Int) (μ : Mm) (t : Int × Mm) (hk : m_kd μ l0 = (3, 0)) (h : jX3_isDigit N l0 l1 μ = some t) : TT E l 1 yX3_isDigit cX3_isDigit 2 (some .boolean) [vr l0, vi l1] μ (rI t) := by
  refine tt_of (L := [(0, vr l0), (1, vi l1)]) (by decide +kernel) (Nat.le_of_ble_eq_true rfl) rfl ?_
  show aX3_isDigit E l 1 (m_sz μ, m_sl μ) 0 [(0, vr l0), (1, vi l1)] [] μ (rI t)
  unfold jX3_isDigit at h
  refine a_iload_n 1 dX3_isDigit_0 rfl rfl ?_
  refine a_if_lt (tgt := 38) dX3_isDigit_1 rfl h (fun h => ?_) (fun h => ?_)
  ·
    exact a_sub [0] rfl (tX3_isDigit_38 E l _ N l0 μ t hk h)
  ·
    refine a_iload_n 1 dX3_isDigit_4 rfl rfl ?_
    refine a_aload_n 0 dX3_isDigit_5 rfl rfl ?_
    refine a_getfi (c := 3) (i := 3) dX3_isDigit_6 fRX3_22 g3_3 rfl hk ?_
    refine a_icmp_ge (tgt := 38) dX3_isDigit_9 rfl h (fun h => ?_) (fun h => ?_)
    ·
      exact a_sub [0] rfl (tX3_isDigit_38 E l _ N l0 μ t hk h)
    ·
      refine a_aload_n 0 dX3_isDigit_12 rfl rfl ?_
      refine a_getfr (c := 3) (i := 2) dX3_isDigit_13 fRX3_18 g3_2 rfl hk ?_
      refine a_iload_n 1 dX3_isDigit_16 rfl rfl ?_
      refine a_iald dX3_isDigit_17 h (fun x1 h => ?_)
      refine a_bipush dX3_isDigit_18 ⟨rfl, okI_b _ rfl⟩ ?_
      refine a_icmp_lt (tgt := 38) dX3_isDigit_20 rfl h (fun h => ?_) (fun h => ?_)
      ·
        exact a_sub [0] rfl (tX3_isDigit_38 E l _ N l0 μ t hk h)
      ·
        refine a_aload_n 0 dX3_isDigit_23 rfl rfl ?_
        refine a_getfr (c := 3) (i := 2) dX3_isDigit_24 fRX3_18 g3_2 rfl hk ?_
        refine a_iload_n 1 dX3_isDigit_27 rfl rfl ?_
        refine a_iald dX3_isDigit_28 h (fun x2 h => ?_)
        refine a_bipush dX3_isDigit_29 ⟨rfl, okI_b _ rfl⟩ ?_
        refine a_icmp_gt (tgt := 38) dX3_isDigit_31 rfl h (fun h => ?_) (fun h => ?_)
        ·
          exact a_sub [0] rfl (tX3_isDigit_38 E l _ N l0 μ t hk h)
        ·
          refine a_iconst dX3_isDigit_34 (okI_b _ rfl) ?_
          refine a_goto (tgt := 39) dX3_isDigit_35 rfl ?_
          exact a_sub [0] rfl (tX3_isDigit_39 E l _ N l0 1 μ t hk h)
-- X3_isLetter
abbrev aX3_isLetter (E : m_E) (l : Launch) (d : Nat) (z : Nat × Nat) (pc : Nat) (L : List (Nat × AV)) (st : List AV) (μ : Mm) (ρ : Option AV × Mm) : Prop := AA E l d z RX3 "isLetter" cX3_isLetter 2 (some .boolean) pc L st μ ρ
theorem tX3_isLetter_39 (E : m_E) (l : Launch) (z : Nat × Nat) (N : Nat) (l0 s0 : Int) (μ : Mm) (t : Int × Mm) (hk : m_kd μ l0 = (3, 0)) (h : jX3_isLetter_39 N l0 s0 μ = some t) : aX3_isLetter E l 1 z 39 [(0, vr l0)] [vi s0] μ (rI t) := by
  unfold jX3_isLetter_39 at h
  exact a_retz dX3_isLetter_39 h
theorem tX3_isLetter_38 (E : m_E) (l : Launch) (z : Nat × Nat) (N : Nat) (l0 : Int) (μ : Mm) (t : Int × Mm) (hk : m_kd μ l0 = (3, 0)) (h : jX3_isLetter_38 N l0 μ = some t) : aX3_isLetter E l 1 z 38 [(0, vr l0)] [] μ (rI t) := by
  unfold jX3_isLetter_38 at h
  refine a_iconst dX3_isLetter_38 (okI_b _ rfl) ?_
  exact a_sub [0] rfl (tX3_isLetter_39 E l _ N l0 0 μ t hk h)
theorem tX3_isLetter (E : m_E) (l : Launch) (N : Nat) (l0 l1 : Int) (μ : Mm) (t : Int × Mm) (hk : m_kd μ l0 = (3, 0)) (h : jX3_isLetter N l0 l1 μ = some t) : TT E l 1 yX3_isLetter cX3_isLetter 2 (some .boolean) [vr l0, vi l1] μ (rI t) := by
  refine tt_of (L := [(0, vr l0), (1, vi l1)]) (by decide +kernel) (Nat.le_of_ble_eq_true rfl) rfl ?_
  show aX3_isLetter E l 1 (m_sz μ, m_sl μ) 0 [(0, vr l0), (1, vi l1)] [] μ (rI t)
  unfold jX3_isLetter at h
  refine a_iload_n 1 dX3_isLetter_0 rfl rfl ?_
  refine a_if_lt (tgt := 38) dX3_isLetter_1 rfl h (fun h => ?_) (fun h => ?_)
  ·
    exact a_sub [0] rfl (tX3_isLetter_38 E l _ N l0 μ t hk h)
  ·
    refine a_iload_n 1 dX3_isLetter_4 rfl rfl ?_
    refine a_aload_n 0 dX3_isLetter_5 rfl rfl ?_
    refine a_getfi (c := 3) (i := 3) dX3_isLetter_6 fRX3_22 g3_3 rfl hk ?_
    refine a_icmp_ge (tgt := 38) dX3_isLetter_9 rfl h (fun h => ?_) (fun h => ?_)
    ·
      exact a_sub [0] rfl (tX3_isLetter_38 E l _ N l0 μ t hk h)
    ·
      refine a_aload_n 0 dX3_isLetter_12 rfl rfl ?_
      refine a_getfr (c := 3) (i := 2) dX3_isLetter_13 fRX3_18 g3_2 rfl hk ?_
      refine a_iload_n 1 dX3_isLetter_16 rfl rfl ?_
      refine a_iald dX3_isLetter_17 h (fun x1 h => ?_)
      refine a_bipush dX3_isLetter_18 ⟨rfl, okI_b _ rfl⟩ ?_
      refine a_icmp_lt (tgt := 38) dX3_isLetter_20 rfl h (fun h => ?_) (fun h => ?_)
      ·
        exact a_sub [0] rfl (tX3_isLetter_38 E l _ N l0 μ t hk h)
      ·
        refine a_aload_n 0 dX3_isLetter_23 rfl rfl ?_
        refine a_getfr (c := 3) (i := 2) dX3_isLetter_24 fRX3_18 g3_2 rfl hk ?_
        refine a_iload_n 1 dX3_isLetter_27 rfl rfl ?_
        refine a_iald dX3_isLetter_28 h (fun x2 h => ?_)
        refine a_bipush dX3_isLetter_29 ⟨rfl, okI_b _ rfl⟩ ?_
        refine a_icmp_gt (tgt := 38) dX3_isLetter_31 rfl h (fun h => ?_) (fun h => ?_)
        ·
          exact a_sub [0] rfl (tX3_isLetter_38 E l _ N l0 μ t hk h)
        ·
          refine a_iconst dX3_isLetter_34 (okI_b _ rfl) ?_
          refine a_goto (tgt := 39) dX3_isLetter_35 rfl ?_
          exact a_sub [0] rfl (tX3_isLetter_39 E l _ N l0 1 μ t hk h)
-- X3_number
abbrev aX3_number (E : m_E) (l : Launch) (d : Nat) (z : Nat × Nat) (pc : Nat) (L : List (Nat × AV)) (st : List AV) (μ : Mm) (ρ : Option AV × Mm) : Prop := AA E l d z RX3 "number" cX3_number 5 (some .int) pc L st μ ρ
theorem tX3_number_115 (E : m_E) (l : Launch) (z : Nat × Nat) (N : Nat) (l0 : Int) (μ : Mm) (t : Int × Mm) (hk : m_kd μ l0 = (3, 0)) (h : jX3_number_115 N l0 μ = some t) : aX3_number E l 2 z 115 [(0, vr l0)] [] μ (rI t) := by
  unfold jX3_number_115 at h
  refine a_aload_n 0 dX3_number_115 rfl rfl ?_
  refine a_iconst dX3_number_116 (okI_b _ rfl) ?_
  refine a_aload_n 0 dX3_number_117 rfl rfl ?_
  refine a_getfi (c := 3) (i := 4) dX3_number_118 fRX3_25 g3_4 rfl hk ?_
  refine a_cVi (c := 3) [vi 2, vi (m_gt μ l0 4)] [] dX3_number_121 myX3_fail mRX3_49 mvX3_fail rfl (by decide) hk (fun _ hj => tX3_fail E l N l0 2 (m_gt μ l0 4) μ _ hk hj) (by decide) rfl (Nat.le_of_ble_eq_true rfl) h (fun x1 μ1 hm h => ?_)
  have hk := hm.k hk (by decide)
  refine a_pop dX3_number_124 rfl ?_
  refine a_iconst dX3_number_125 (okI_b _ rfl) ?_
  exact a_reti dX3_number_126 h
theorem tX3_number_105 (E : m_E) (l : Launch) (z : Nat × Nat) (N : Nat) (l0 l1 l2 l3 l4 : Int) (μ : Mm) (t : Int × Mm) (hk : m_kd μ l0 = (3, 0)) (h : jX3_number_105 N l0 l1 l2 l3 l4 μ = some t) : aX3_number E l 2 z 105 [(0, vr l0), (1, vi l1), (2, vi l2), (3, vi l3), (4, vi l4)] [] μ (rI t) := by
  unfold jX3_number_105 at h
  refine a_iload_n 3 dX3_number_105 rfl rfl ?_
  refine a_iload_n 1 dX3_number_106 rfl rfl ?_
  refine a_icmp_lt (tgt := 115) dX3_number_107 rfl h (fun h => ?_) (fun h => ?_)
  ·
    exact a_sub [0] rfl (tX3_number_115 E l _ N l0 μ t hk h)
  ·
    refine a_iload_n 3 dX3_number_110 rfl rfl ?_
    refine a_iload_n 2 dX3_number_111 rfl rfl ?_
    refine a_icmp_le (tgt := 127) dX3_number_112 rfl h (fun h => ?_) (fun h => ?_)
    ·
      refine a_aload_n 0 dX3_number_127 rfl rfl ?_
      refine a_iload 4 dX3_number_128 rfl ?_
      refine a_putfi (c := 3) (i := 4) dX3_number_130 fRX3_25 g3_4 (Or.inl rfl) rfl hk h (fun μ1 hm h => ?_)
      have hk := hm.k hk (by decide)
      refine a_aload_n 0 dX3_number_133 rfl rfl ?_
      refine a_cVv (c := 3) [] [] dX3_number_134 myX3_skip mRX3_43 mvX3_skip rfl (by decide) hk (fun _ hj => tX3_skip E l N l0 μ1 _ hk hj) (by decide) rfl (Nat.le_of_ble_eq_true rfl) h (fun μ2 hm h => ?_)
      have hk := hm.k hk (by decide)
      refine a_iload_n 3 dX3_number_137 rfl rfl ?_
      exact a_reti dX3_number_138 h
    ·
      exact a_sub [0] rfl (tX3_number_115 E l _ N l0 μ t hk h)
theorem tX3_number_44b (E : m_E) (l : Launch) (z : Nat × Nat) (k44 : Int → Int → Int → Int → Int → Mm → Option (Int × Mm)) (p44 : ∀ (l0 l1 l2 l3 l4 : Int) (μ : Mm) (t : Int × Mm), m_kd μ l0 = (3, 0) → k44 l0 l1 l2 l3 l4 μ = some t → aX3_number E l 2 z 44 [(0, vr l0), (1, vi l1), (2, vi l2), (3, vi l3), (4, vi l4)] [] μ (rI t)) (N : Nat) (l0 l1 l2 l3 l4 : Int) (μ : Mm) (t : Int × Mm) (hk : m_kd μ l0 = (3, 0)) (h : jX3_number_44b k44 N l0 l1 l2 l3 l4 μ = some t) : aX3_number E l 2 z 44 [(0, vr l0), (1, vi l1), (2, vi l2), (3, vi l3), (4, vi l4)] [] μ (rI t) := by
  unfold jX3_number_44b at h
  refine a_iload 4 dX3_number_44 rfl ?_
  refine a_aload_n 0 dX3_number_46 rfl rfl ?_
  refine a_getfi (c := 3) (i := 3) dX3_number_47 fRX3_22 g3_3 rfl hk ?_
  refine a_icmp_ge (tgt := 105) dX3_number_50 rfl h (fun h => ?_) (fun h => ?_)
  ·
    exact a_sub [0, 1, 2, 3, 4] rfl (tX3_number_105 E l _ N l0 l1 l2 l3 l4 μ t hk h)
  ·
    refine a_aload_n 0 dX3_number_53 rfl rfl ?_
    refine a_iload 4 dX3_number_54 rfl ?_
    refine a_cVi (c := 3) [vi l4] [] dX3_number_56 myX3_isDigit mRX3_190 mvX3_isDigit rfl (by decide) hk (fun _ hj => tX3_isDigit E l N l0 l4 μ _ hk hj) (by decide) rfl (Nat.le_of_ble_eq_true rfl) h (fun x1 μ1 hm h => ?_)
    have hk := hm.k hk (by decide)
    refine a_if_eq (tgt := 105) dX3_number_59 rfl h (fun h => ?_) (fun h => ?_)
    ·
      exact a_sub [0, 1, 2, 3, 4] rfl (tX3_number_105 E l _ N l0 l1 l2 l3 l4 μ1 t hk h)
    ·
      refine a_iload 4 dX3_number_62 rfl ?_
      refine a_aload_n 0 dX3_number_64 rfl rfl ?_
      refine a_getfi (c := 3) (i := 4) dX3_number_65 fRX3_25 g3_4 rfl hk ?_
      refine a_isub dX3_number_68 ?_
      refine a_iconst dX3_number_69 (okI_b _ rfl) ?_
      refine a_icmp_ne (tgt := 83) dX3_number_70 rfl h (fun h => ?_) (fun h => ?_)
      ·
        refine a_bipush dX3_number_83 ⟨rfl, okI_b _ rfl⟩ ?_
        refine a_iload_n 3 dX3_number_85 rfl rfl ?_
        refine a_imul dX3_number_86 ?_
        refine a_aload_n 0 dX3_number_87 rfl rfl ?_
        refine a_getfr (c := 3) (i := 2) dX3_number_88 fRX3_18 g3_2 rfl hk ?_
        refine a_iload 4 dX3_number_91 rfl ?_
        refine a_iald dX3_number_93 h (fun x2 h => ?_)
        refine a_iadd dX3_number_94 ?_
        refine a_bipush dX3_number_95 ⟨rfl, okI_b _ rfl⟩ ?_
        refine a_isub dX3_number_97 ?_
        refine a_nmi h (fun x3 h => ?_)
        refine a_istore_n (L' := [(3, vi x3), (0, vr l0), (1, vi l1), (2, vi l2), (4, vi l4)]) dX3_number_98 rfl (by decide) rfl ?_
        refine a_iinc (F := fun x4 => [(4, vi x4), (3, vi x3), (0, vr l0), (1, vi l1), (2, vi l2)]) 4 dX3_number_99 rfl (by decide) h (fun _ => rfl) (fun x4 h => ?_)
        refine a_goto (tgt := 44) dX3_number_102 rfl ?_
        exact a_sub [2, 3, 4, 1, 0] rfl (p44 l0 l1 l2 x3 x4 μ1 t hk h)
      ·
        refine a_aload_n 0 dX3_number_73 rfl rfl ?_
        refine a_iconst dX3_number_74 (okI_b _ rfl) ?_
        refine a_iload 4 dX3_number_75 rfl ?_
        refine a_cVi (c := 3) [vi 1, vi l4] [] dX3_number_77 myX3_fail mRX3_49 mvX3_fail rfl (by decide) hk (fun _ hj => tX3_fail E l N l0 1 l4 μ1 _ hk hj) (by decide) rfl (Nat.le_of_ble_eq_true rfl) h (fun x5 μ2 hm h => ?_)
        have hk := hm.k hk (by decide)
        refine a_pop dX3_number_80 rfl ?_
        refine a_iconst dX3_number_81 (okI_b _ rfl) ?_
        exact a_reti dX3_number_82 h
theorem tX3_number_44 (E : m_E) (l : Launch) (z : Nat × Nat) (N : Nat) : ∀ (n : Nat) (l0 l1 l2 l3 l4 : Int) (μ : Mm) (t : Int × Mm), m_kd μ l0 = (3, 0) → jX3_number_44 N n l0 l1 l2 l3 l4 μ = some t → aX3_number E l 2 z 44 [(0, vr l0), (1, vi l1), (2, vi l2), (3, vi l3), (4, vi l4)] [] μ (rI t)
  | 0, _, _, _, _, _, _, _, _, h => by cases h
  | n + 1, l0, l1, l2, l3, l4, μ, t, hk, h => tX3_number_44b E l z (jX3_number_44 N n) (tX3_number_44 E l z N n) N l0 l1 l2 l3 l4 μ t hk h
theorem tX3_number_24 (E : m_E) (l : Launch) (z : Nat × Nat) (N : Nat) (l0 : Int) (μ : Mm) (t : Int × Mm) (hk : m_kd μ l0 = (3, 0)) (h : jX3_number_24 N l0 μ = some t) : aX3_number E l 2 z 24 [(0, vr l0)] [] μ (rI t) := by
  unfold jX3_number_24 at h
  refine a_aload_n 0 dX3_number_24 rfl rfl ?_
  refine a_iconst dX3_number_25 (okI_b _ rfl) ?_
  refine a_aload_n 0 dX3_number_26 rfl rfl ?_
  refine a_getfi (c := 3) (i := 4) dX3_number_27 fRX3_25 g3_4 rfl hk ?_
  refine a_cVi (c := 3) [vi 1, vi (m_gt μ l0 4)] [] dX3_number_30 myX3_fail mRX3_49 mvX3_fail rfl (by decide) hk (fun _ hj => tX3_fail E l N l0 1 (m_gt μ l0 4) μ _ hk hj) (by decide) rfl (Nat.le_of_ble_eq_true rfl) h (fun x1 μ1 hm h => ?_)
  have hk := hm.k hk (by decide)
  refine a_pop dX3_number_33 rfl ?_
  refine a_iconst dX3_number_34 (okI_b _ rfl) ?_
  exact a_reti dX3_number_35 h
theorem tX3_number (E : m_E) (l : Launch) (N : Nat) (l0 l1 l2 : Int) (μ : Mm) (t : Int × Mm) (hk : m_kd μ l0 = (3, 0)) (h : jX3_number N l0 l1 l2 μ = some t) : TT E l 2 yX3_number cX3_number 5 (some .int) [vr l0, vi l1, vi l2] μ (rI t) := by
  refine tt_of (L := [(0, vr l0), (1, vi l1), (2, vi l2)]) (by decide +kernel) (Nat.le_of_ble_eq_true rfl) rfl ?_
  show aX3_number E l 2 (m_sz μ, m_sl μ) 0 [(0, vr l0), (1, vi l1), (2, vi l2)] [] μ (rI t)
  unfold jX3_number at h
  refine a_aload_n 0 dX3_number_0 rfl rfl ?_
  refine a_aload_n 0 dX3_number_1 rfl rfl ?_
  refine a_getfi (c := 3) (i := 4) dX3_number_2 fRX3_25 g3_4 rfl hk ?_
  refine a_cVi (c := 3) [vi (m_gt μ l0 4)] [] dX3_number_5 myX3_isDigit mRX3_190 mvX3_isDigit rfl (by decide) hk (fun _ hj => tX3_isDigit E l N l0 (m_gt μ l0 4) μ _ hk hj) (by decide) rfl (Nat.le_of_ble_eq_true rfl) h (fun x1 μ1 hm h => ?_)
  have hk := hm.k hk (by decide)
  refine a_if_eq (tgt := 24) dX3_number_8 rfl h (fun h => ?_) (fun h => ?_)
  ·
    exact a_sub [0] rfl (tX3_number_24 E l _ N l0 μ1 t hk h)
  ·
    refine a_aload_n 0 dX3_number_11 rfl rfl ?_
    refine a_aload_n 0 dX3_number_12 rfl rfl ?_
    refine a_getfi (c := 3) (i := 4) dX3_number_13 fRX3_25 g3_4 rfl hk ?_
    refine a_iconst dX3_number_16 (okI_b _ rfl) ?_
    refine a_isub dX3_number_17 ?_
    refine a_cVi (c := 3) [vi (i_sub (m_gt μ1 l0 4) 1)] [] dX3_number_18 myX3_isLetter mRX3_187 mvX3_isLetter rfl (by decide) hk (fun _ hj => tX3_isLetter E l N l0 (i_sub (m_gt μ1 l0 4) 1) μ1 _ hk hj) (by decide) rfl (Nat.le_of_ble_eq_true rfl) h (fun x2 μ2 hm h => ?_)
    have hk := hm.k hk (by decide)
    refine a_if_eq (tgt := 36) dX3_number_21 rfl h (fun h => ?_) (fun h => ?_)
    ·
      refine a_iconst dX3_number_36 (okI_b _ rfl) ?_
      refine a_istore_n (L' := [(3, vi 0), (0, vr l0), (1, vi l1), (2, vi l2)]) dX3_number_37 rfl (by decide) rfl ?_
      refine a_aload_n 1 dX3_number_38 rfl rfl ?_
      refine a_getfi (c := 3) (i := 4) dX3_number_39 fRX3_25 g3_4 rfl hk ?_
      refine a_nmi h (fun x3 h => ?_)
      refine a_istore (L' := [(4, vi x3), (3, vi 0), (0, vr l0), (1, vi l1), (2, vi l2)]) dX3_number_42 (by decide) rfl ?_
      exact a_sub [2, 3, 4, 1, 0] rfl (tX3_number_44 E l _ N N l0 l1 l2 0 x3 μ2 t hk h)
    ·
      exact a_sub [0] rfl (tX3_number_24 E l _ N l0 μ2 t hk h)
-- X3_takes
abbrev aX3_takes (E : m_E) (l : Launch) (d : Nat) (z : Nat × Nat) (pc : Nat) (L : List (Nat × AV)) (st : List AV) (μ : Mm) (ρ : Option AV × Mm) : Prop := AA E l d z RX3 "takes" cX3_takes 4 (some .boolean) pc L st μ ρ
theorem tX3_takes_43b (E : m_E) (l : Launch) (z : Nat × Nat) (k43 : Int → Int → Int → Int → Mm → Option (Int × Mm)) (p43 : ∀ (l0 l1 l2 l3 : Int) (μ : Mm) (t : Int × Mm), m_kd μ l0 = (3, 0) → k43 l0 l1 l2 l3 μ = some t → aX3_takes E l 8 z 43 [(0, vr l0), (1, vr l1), (2, vi l2), (3, vi l3)] [] μ (rI t)) (N : Nat) (l0 l1 l2 l3 : Int) (μ : Mm) (t : Int × Mm) (hk : m_kd μ l0 = (3, 0)) (h : jX3_takes_43b k43 N l0 l1 l2 l3 μ = some t) : aX3_takes E l 8 z 43 [(0, vr l0), (1, vr l1), (2, vi l2), (3, vi l3)] [] μ (rI t) := by
  unfold jX3_takes_43b at h
  refine a_iload_n 3 dX3_takes_43 rfl rfl ?_
  refine a_aload_n 1 dX3_takes_44 rfl rfl ?_
  refine a_sLen [vi l3] dX3_takes_45 mRX3_183 (by decide) (Nat.le_of_ble_eq_true rfl) h (fun x1 h => ?_)
  refine a_icmp_ge (tgt := 78) dX3_takes_48 rfl h (fun h => ?_) (fun h => ?_)
  ·
    refine a_aload_n 0 dX3_takes_78 rfl rfl ?_
    refine a_iload_n 2 dX3_takes_79 rfl rfl ?_
    refine a_putfi (c := 3) (i := 4) dX3_takes_80 fRX3_25 g3_4 (Or.inl rfl) rfl hk h (fun μ1 hm h => ?_)
    have hk := hm.k hk (by decide)
    refine a_aload_n 0 dX3_takes_83 rfl rfl ?_
    refine a_cVv (c := 3) [] [] dX3_takes_84 myX3_skip mRX3_43 mvX3_skip rfl (by decide) hk (fun _ hj => tX3_skip E l N l0 μ1 _ hk hj) (by decide) rfl (Nat.le_of_ble_eq_true rfl) h (fun μ2 hm h => ?_)
    have hk := hm.k hk (by decide)
    refine a_iconst dX3_takes_87 (okI_b _ rfl) ?_
    exact a_retzl (Or.inr rfl) dX3_takes_88 h
  ·
    refine a_aload_n 0 dX3_takes_51 rfl rfl ?_
    refine a_getfr (c := 3) (i := 2) dX3_takes_52 fRX3_18 g3_2 rfl hk ?_
    refine a_aload_n 0 dX3_takes_55 rfl rfl ?_
    refine a_getfi (c := 3) (i := 4) dX3_takes_56 fRX3_25 g3_4 rfl hk ?_
    refine a_iload_n 3 dX3_takes_59 rfl rfl ?_
    refine a_iadd dX3_takes_60 ?_
    refine a_iald dX3_takes_61 h (fun x2 h => ?_)
    refine a_aload_n 1 dX3_takes_62 rfl rfl ?_
    refine a_iload_n 3 dX3_takes_63 rfl rfl ?_
    refine a_sAt [vi x2] dX3_takes_64 mRX3_193 (by decide) (Nat.le_of_ble_eq_true rfl) h (fun x3 h => ?_)
    refine a_icmp_eq (tgt := 72) dX3_takes_67 rfl h (fun h => ?_) (fun h => ?_)
    ·
      refine a_iinc (F := fun x4 => [(3, vi x4), (0, vr l0), (1, vr l1), (2, vi l2)]) 3 dX3_takes_72 rfl (by decide) h (fun _ => rfl) (fun x4 h => ?_)
      refine a_goto (tgt := 43) dX3_takes_75 rfl ?_
      exact a_sub [1, 2, 3, 0] rfl (p43 l0 l1 l2 x4 μ t hk h)
    ·
      refine a_iconst dX3_takes_70 (okI_b _ rfl) ?_
      exact a_retzl (Or.inl rfl) dX3_takes_71 h
theorem tX3_takes_43 (E : m_E) (l : Launch) (z : Nat × Nat) (N : Nat) : ∀ (n : Nat) (l0 l1 l2 l3 : Int) (μ : Mm) (t : Int × Mm), m_kd μ l0 = (3, 0) → jX3_takes_43 N n l0 l1 l2 l3 μ = some t → aX3_takes E l 8 z 43 [(0, vr l0), (1, vr l1), (2, vi l2), (3, vi l3)] [] μ (rI t)
  | 0, _, _, _, _, _, _, _, h => by cases h
  | n + 1, l0, l1, l2, l3, μ, t, hk, h => tX3_takes_43b E l z (jX3_takes_43 N n) (tX3_takes_43 E l z N n) N l0 l1 l2 l3 μ t hk h
theorem tX3_takes_39 (E : m_E) (l : Launch) (z : Nat × Nat) (N : Nat) (l0 : Int) (μ : Mm) (t : Int × Mm) (hk : m_kd μ l0 = (3, 0)) (h : jX3_takes_39 N l0 μ = some t) : aX3_takes E l 8 z 39 [(0, vr l0)] [] μ (rI t) := by
  unfold jX3_takes_39 at h
  refine a_iconst dX3_takes_39 (okI_b _ rfl) ?_
  exact a_retzl (Or.inl rfl) dX3_takes_40 h
theorem tX3_takes (E : m_E) (l : Launch) (N : Nat) (l0 l1 : Int) (μ : Mm) (t : Int × Mm) (hk : m_kd μ l0 = (3, 0)) (h : jX3_takes N l0 l1 μ = some t) : TT E l 8 yX3_takes cX3_takes 4 (some .boolean) [vr l0, vr l1] μ (rI t) := by
  refine tt_of (L := [(0, vr l0), (1, vr l1)]) (by decide +kernel) (Nat.le_of_ble_eq_true rfl) rfl ?_
  show aX3_takes E l 8 (m_sz μ, m_sl μ) 0 [(0, vr l0), (1, vr l1)] [] μ (rI t)
  unfold jX3_takes at h
  refine a_aload_n 0 dX3_takes_0 rfl rfl ?_
  refine a_getfi (c := 3) (i := 4) dX3_takes_1 fRX3_25 g3_4 rfl hk ?_
  refine a_aload_n 1 dX3_takes_4 rfl rfl ?_
  refine a_sLen [vi (m_gt μ l0 4)] dX3_takes_5 mRX3_183 (by decide) (Nat.le_of_ble_eq_true rfl) h (fun x1 h => ?_)
  refine a_iadd dX3_takes_8 ?_
  refine a_nmi h (fun x2 h => ?_)
  refine a_istore_n (L' := [(2, vi x2), (0, vr l0), (1, vr l1)]) dX3_takes_9 rfl (by decide) rfl ?_
  refine a_iload_n 0 dX3_takes_10 rfl rfl ?_
  refine a_aload_n 1 dX3_takes_11 rfl rfl ?_
  refine a_getfi (c := 3) (i := 3) dX3_takes_12 fRX3_22 g3_3 rfl hk ?_
  refine a_icmp_gt (tgt := 39) dX3_takes_15 rfl h (fun h => ?_) (fun h => ?_)
  ·
    exact a_sub [1] rfl (tX3_takes_39 E l _ N l0 μ t hk h)
  ·
    refine a_aload_n 1 dX3_takes_18 rfl rfl ?_
    refine a_iload_n 0 dX3_takes_19 rfl rfl ?_
    refine a_cVi (c := 3) [vi x2] [] dX3_takes_20 myX3_isLetter mRX3_187 mvX3_isLetter rfl (by decide) hk (fun _ hj => tX3_isLetter E l N l0 x2 μ _ hk hj) (by decide) rfl (Nat.le_of_ble_eq_true rfl) h (fun x3 μ1 hm h => ?_)
    have hk := hm.k hk (by decide)
    refine a_if_ne (tgt := 39) dX3_takes_23 rfl h (fun h => ?_) (fun h => ?_)
    ·
      exact a_sub [1] rfl (tX3_takes_39 E l _ N l0 μ1 t hk h)
    ·
      refine a_aload_n 1 dX3_takes_26 rfl rfl ?_
      refine a_aload_n 1 dX3_takes_27 rfl rfl ?_
      refine a_getfi (c := 3) (i := 4) dX3_takes_28 fRX3_25 g3_4 rfl hk ?_
      refine a_iconst dX3_takes_31 (okI_b _ rfl) ?_
      refine a_isub dX3_takes_32 ?_
      refine a_cVi (c := 3) [vi (i_sub (m_gt μ1 l0 4) 1)] [] dX3_takes_33 myX3_isDigit mRX3_190 mvX3_isDigit rfl (by decide) hk (fun _ hj => tX3_isDigit E l N l0 (i_sub (m_gt μ1 l0 4) 1) μ1 _ hk hj) (by decide) rfl (Nat.le_of_ble_eq_true rfl) h (fun x4 μ2 hm h => ?_)
      have hk := hm.k hk (by decide)
      refine a_if_eq (tgt := 41) dX3_takes_36 rfl h (fun h => ?_) (fun h => ?_)
      ·
        refine a_iconst dX3_takes_41 (okI_b _ rfl) ?_
        refine a_istore_n (L' := [(3, vi 0), (2, vi x2), (0, vr l0), (1, vr l1)]) dX3_takes_42 rfl (by decide) rfl ?_
        exact a_sub [2, 3, 1, 0] rfl (tX3_takes_43 E l _ N N l0 l1 x2 0 μ2 t hk h)
      ·
        exact a_sub [1] rfl (tX3_takes_39 E l _ N l0 μ2 t hk h)
-- X3_pair
abbrev aX3_pair (E : m_E) (l : Launch) (d : Nat) (z : Nat × Nat) (pc : Nat) (L : List (Nat × AV)) (st : List AV) (μ : Mm) (ρ : Option AV × Mm) : Prop := AA E l d z RX3 "pair" cX3_pair 4 (some .boolean) pc L st μ ρ
theorem tX3_pair_92 (E : m_E) (l : Launch) (z : Nat × Nat) (dr : Nat) (hdr : 12 ≤ dr) (rX3_sum : Int → Int → Mm → Option (Int × Mm)) (qX3_sum : ∀ (a0 a1 : Int) (μ : Mm) (t : Int × Mm), m_kd μ a0 = (3, 0) → rX3_sum a0 a1 μ = some t → TT E l dr yX3_sum cX3_sum 4 (some .boolean) [vr a0, vi a1] μ (rI t)) (N : Nat) (l0 s0 : Int) (μ : Mm) (t : Int × Mm) (hk : m_kd μ l0 = (3, 0)) (h : jX3_pair_92 rX3_sum N l0 s0 μ = some t) : aX3_pair E l (dr + 1) z 92 [(0, vr l0)] [vi s0] μ (rI t) := by
  unfold jX3_pair_92 at h
  exact a_retz dX3_pair_92 h
theorem tX3_pair_87 (E : m_E) (l : Launch) (z : Nat × Nat) (dr : Nat) (hdr : 12 ≤ dr) (rX3_sum : Int → Int → Mm → Option (Int × Mm)) (qX3_sum : ∀ (a0 a1 : Int) (μ : Mm) (t : Int × Mm), m_kd μ a0 = (3, 0) → rX3_sum a0 a1 μ = some t → TT E l dr yX3_sum cX3_sum 4 (some .boolean) [vr a0, vi a1] μ (rI t)) (N : Nat) (l0 : Int) (μ : Mm) (t : Int × Mm) (hk : m_kd μ l0 = (3, 0)) (h : jX3_pair_87 rX3_sum N l0 μ = some t) : aX3_pair E l (dr + 1) z 87 [(0, vr l0)] [] μ (rI t) := by
  unfold jX3_pair_87 at h
  refine a_iconst dX3_pair_87 (okI_b _ rfl) ?_
  refine a_goto (tgt := 92) dX3_pair_88 rfl ?_
  exact a_sub [0] rfl (tX3_pair_92 E l _ dr hdr rX3_sum qX3_sum N l0 1 μ t hk h)
theorem tX3_pair_75 (E : m_E) (l : Launch) (z : Nat × Nat) (dr : Nat) (hdr : 12 ≤ dr) (rX3_sum : Int → Int → Mm → Option (Int × Mm)) (qX3_sum : ∀ (a0 a1 : Int) (μ : Mm) (t : Int × Mm), m_kd μ a0 = (3, 0) → rX3_sum a0 a1 μ = some t → TT E l dr yX3_sum cX3_sum 4 (some .boolean) [vr a0, vi a1] μ (rI t)) (N : Nat) (l0 : Int) (μ : Mm) (t : Int × Mm) (hk : m_kd μ l0 = (3, 0)) (h : jX3_pair_75 rX3_sum N l0 μ = some t) : aX3_pair E l (dr + 1) z 75 [(0, vr l0)] [] μ (rI t) := by
  unfold jX3_pair_75 at h
  refine a_aload_n 0 dX3_pair_75 rfl rfl ?_
  refine a_iconst dX3_pair_76 (okI_b _ rfl) ?_
  refine a_aload_n 0 dX3_pair_77 rfl rfl ?_
  refine a_getfi (c := 3) (i := 4) dX3_pair_78 fRX3_25 g3_4 rfl hk ?_
  refine a_cVi (c := 3) [vi 1, vi (m_gt μ l0 4)] [] dX3_pair_81 myX3_fail mRX3_49 mvX3_fail rfl (by decide) hk (fun _ hj => tX3_fail E l N l0 1 (m_gt μ l0 4) μ _ hk hj) (by omega) rfl (Nat.le_of_ble_eq_true rfl) h (fun x1 μ1 hm h => ?_)
  have hk := hm.k hk (by decide)
  refine a_if_eq (tgt := 91) dX3_pair_84 rfl h (fun h => ?_) (fun h => ?_)
  ·
    refine a_iconst dX3_pair_91 (okI_b _ rfl) ?_
    exact a_sub [0] rfl (tX3_pair_92 E l _ dr hdr rX3_sum qX3_sum N l0 0 μ1 t hk h)
  ·
    exact a_sub [0] rfl (tX3_pair_87 E l _ dr hdr rX3_sum qX3_sum N l0 μ1 t hk h)
theorem tX3_pair (E : m_E) (l : Launch) (dr : Nat) (hdr : 12 ≤ dr) (rX3_sum : Int → Int → Mm → Option (Int × Mm)) (qX3_sum : ∀ (a0 a1 : Int) (μ : Mm) (t : Int × Mm), m_kd μ a0 = (3, 0) → rX3_sum a0 a1 μ = some t → TT E l dr yX3_sum cX3_sum 4 (some .boolean) [vr a0, vi a1] μ (rI t)) (N : Nat) (l0 l1 l2 : Int) (μ : Mm) (t : Int × Mm) (hk : m_kd μ l0 = (3, 0)) (h : jX3_pair rX3_sum N l0 l1 l2 μ = some t) : TT E l (dr + 1) yX3_pair cX3_pair 4 (some .boolean) [vr l0, vi l1, vi l2] μ (rI t) := by
  refine tt_of (L := [(0, vr l0), (1, vi l1), (2, vi l2)]) (by decide +kernel) (Nat.le_of_ble_eq_true rfl) rfl ?_
  show aX3_pair E l (dr + 1) (m_sz μ, m_sl μ) 0 [(0, vr l0), (1, vi l1), (2, vi l2)] [] μ (rI t)
  unfold jX3_pair at h
  refine a_aload_n 0 dX3_pair_0 rfl rfl ?_
  refine a_getfi (c := 3) (i := 4) dX3_pair_1 fRX3_25 g3_4 rfl hk ?_
  refine a_nmi h (fun x1 h => ?_)
  refine a_istore_n (L' := [(3, vi x1), (0, vr l0), (1, vi l1), (2, vi l2)]) dX3_pair_4 rfl (by decide) rfl ?_
  refine a_aload_n 1 dX3_pair_5 rfl rfl ?_
  refine a_bipush dX3_pair_6 ⟨rfl, okI_b _ rfl⟩ ?_
  refine a_cVi (c := 3) [vi 40] [] dX3_pair_8 myX3_takesSign mRX3_57 mvX3_takesSign rfl (by decide) hk (fun _ hj => tX3_takesSign E l N l0 40 μ _ hk hj) (by omega) rfl (Nat.le_of_ble_eq_true rfl) h (fun x2 μ1 hm h => ?_)
  have hk := hm.k hk (by decide)
  refine a_if_eq (tgt := 75) dX3_pair_11 rfl h (fun h => ?_) (fun h => ?_)
  ·
    exact a_sub [1] rfl (tX3_pair_75 E l _ dr hdr rX3_sum qX3_sum N l0 μ1 t hk h)
  ·
    refine a_aload_n 1 dX3_pair_14 rfl rfl ?_
    refine a_iload_n 2 dX3_pair_15 rfl rfl ?_
    refine a_iload_n 0 dX3_pair_16 rfl rfl ?_
    refine a_cVi (c := 3) [vi l1, vi x1] [] dX3_pair_17 myX3_mayOpen mRX3_154 mvX3_mayOpen rfl (by decide) hk (fun _ hj => tX3_mayOpen E l N l0 l1 x1 μ1 _ hk hj) (by omega) rfl (Nat.le_of_ble_eq_true rfl) h (fun x3 μ2 hm h => ?_)
    have hk := hm.k hk (by decide)
    refine a_if_eq (tgt := 75) dX3_pair_20 rfl h (fun h => ?_) (fun h => ?_)
    ·
      exact a_sub [1] rfl (tX3_pair_75 E l _ dr hdr rX3_sum qX3_sum N l0 μ2 t hk h)
    ·
      refine a_aload_n 1 dX3_pair_23 rfl rfl ?_
      refine a_iload_n 2 dX3_pair_24 rfl rfl ?_
      refine a_iconst dX3_pair_25 (okI_b _ rfl) ?_
      refine a_iadd dX3_pair_26 ?_
      refine a_cVi (c := 3) [vi (i_add l1 1)] [] dX3_pair_27 myX3_sum mRX3_120 mvX3_sum rfl (by decide) hk (fun _ hj => qX3_sum l0 (i_add l1 1) μ2 _ hk hj) (by omega) rfl (Nat.le_of_ble_eq_true rfl) h (fun x4 μ3 hm h => ?_)
      have hk := hm.k hk (by decide)
      refine a_if_eq (tgt := 75) dX3_pair_30 rfl h (fun h => ?_) (fun h => ?_)
      ·
        exact a_sub [1] rfl (tX3_pair_75 E l _ dr hdr rX3_sum qX3_sum N l0 μ3 t hk h)
      ·
        refine a_aload_n 1 dX3_pair_33 rfl rfl ?_
        refine a_bipush dX3_pair_34 ⟨rfl, okI_b _ rfl⟩ ?_
        refine a_cVi (c := 3) [vi 44] [] dX3_pair_36 myX3_takesSign mRX3_57 mvX3_takesSign rfl (by decide) hk (fun _ hj => tX3_takesSign E l N l0 44 μ3 _ hk hj) (by omega) rfl (Nat.le_of_ble_eq_true rfl) h (fun x5 μ4 hm h => ?_)
        have hk := hm.k hk (by decide)
        refine a_if_eq (tgt := 75) dX3_pair_39 rfl h (fun h => ?_) (fun h => ?_)
        ·
          exact a_sub [1] rfl (tX3_pair_75 E l _ dr hdr rX3_sum qX3_sum N l0 μ4 t hk h)
        ·
          refine a_aload_n 1 dX3_pair_42 rfl rfl ?_
          refine a_iload_n 2 dX3_pair_43 rfl rfl ?_
          refine a_iconst dX3_pair_44 (okI_b _ rfl) ?_
          refine a_iadd dX3_pair_45 ?_
          refine a_cVi (c := 3) [vi (i_add l1 1)] [] dX3_pair_46 myX3_sum mRX3_120 mvX3_sum rfl (by decide) hk (fun _ hj => qX3_sum l0 (i_add l1 1) μ4 _ hk hj) (by omega) rfl (Nat.le_of_ble_eq_true rfl) h (fun x6 μ5 hm h => ?_)
          have hk := hm.k hk (by decide)
          refine a_if_eq (tgt := 75) dX3_pair_49 rfl h (fun h => ?_) (fun h => ?_)
          ·
            exact a_sub [1] rfl (tX3_pair_75 E l _ dr hdr rX3_sum qX3_sum N l0 μ5 t hk h)
          ·
            refine a_aload_n 1 dX3_pair_52 rfl rfl ?_
            refine a_bipush dX3_pair_53 ⟨rfl, okI_b _ rfl⟩ ?_
            refine a_cVi (c := 3) [vi 41] [] dX3_pair_55 myX3_takesSign mRX3_57 mvX3_takesSign rfl (by decide) hk (fun _ hj => tX3_takesSign E l N l0 41 μ5 _ hk hj) (by omega) rfl (Nat.le_of_ble_eq_true rfl) h (fun x7 μ6 hm h => ?_)
            have hk := hm.k hk (by decide)
            refine a_if_eq (tgt := 75) dX3_pair_58 rfl h (fun h => ?_) (fun h => ?_)
            ·
              exact a_sub [1] rfl (tX3_pair_75 E l _ dr hdr rX3_sum qX3_sum N l0 μ6 t hk h)
            ·
              refine a_aload_n 1 dX3_pair_61 rfl rfl ?_
              refine a_getfr (c := 3) (i := 5) dX3_pair_62 fRX3_28 g3_5 rfl hk ?_
              refine m_chk_k h (fun hq59 h => ?_)
              refine a_getfr (c := 1) (i := 6) dX3_pair_65 fRX3_110 g1_6 rfl hq59 ?_
              refine a_iload_n 3 dX3_pair_68 rfl rfl ?_
              refine m_chk_k h (fun hq62 h => ?_)
              refine a_cVi (c := 0) [vi l2] [] dX3_pair_69 myX0_put mRX3_144 mvX0_put rfl (by decide) hq62 (fun _ hj => tX0_put E l N (m_gt μ6 (m_gt μ6 l0 5) 6) l2 μ6 _ hq62 hj) (by omega) rfl (Nat.le_of_ble_eq_true rfl) h (fun x8 μ7 hm h => ?_)
              have hk := hm.k hk (by decide)
              have hq59 := hm.k hq59 (by decide)
              have hq62 := hm.k hq62 (by decide)
              refine a_if_ne (tgt := 87) dX3_pair_72 rfl h (fun h => ?_) (fun h => ?_)
              ·
                exact a_sub [1] rfl (tX3_pair_87 E l _ dr hdr rX3_sum qX3_sum N l0 μ7 t hk h)
              ·
                exact a_sub [1] rfl (tX3_pair_75 E l _ dr hdr rX3_sum qX3_sum N l0 μ7 t hk h)
-- X3_part
abbrev aX3_part (E : m_E) (l : Launch) (d : Nat) (z : Nat × Nat) (pc : Nat) (L : List (Nat × AV)) (st : List AV) (μ : Mm) (ρ : Option AV × Mm) : Prop := AA E l d z RX3 "part" cX3_part 4 (some .boolean) pc L st μ ρ
theorem tX3_part_258 (E : m_E) (l : Launch) (z : Nat × Nat) (dr : Nat) (hdr : 12 ≤ dr) (rX3_sum : Int → Int → Mm → Option (Int × Mm)) (qX3_sum : ∀ (a0 a1 : Int) (μ : Mm) (t : Int × Mm), m_kd μ a0 = (3, 0) → rX3_sum a0 a1 μ = some t → TT E l dr yX3_sum cX3_sum 4 (some .boolean) [vr a0, vi a1] μ (rI t)) (N : Nat) (l0 s0 : Int) (μ : Mm) (t : Int × Mm) (hk : m_kd μ l0 = (3, 0)) (h : jX3_part_258 rX3_sum N l0 s0 μ = some t) : aX3_part E l (dr + 2) z 258 [(0, vr l0)] [vi s0] μ (rI t) := by
  unfold jX3_part_258 at h
  exact a_retz dX3_part_258 h
theorem tX3_part_257 (E : m_E) (l : Launch) (z : Nat × Nat) (dr : Nat) (hdr : 12 ≤ dr) (rX3_sum : Int → Int → Mm → Option (Int × Mm)) (qX3_sum : ∀ (a0 a1 : Int) (μ : Mm) (t : Int × Mm), m_kd μ a0 = (3, 0) → rX3_sum a0 a1 μ = some t → TT E l dr yX3_sum cX3_sum 4 (some .boolean) [vr a0, vi a1] μ (rI t)) (N : Nat) (l0 : Int) (μ : Mm) (t : Int × Mm) (hk : m_kd μ l0 = (3, 0)) (h : jX3_part_257 rX3_sum N l0 μ = some t) : aX3_part E l (dr + 2) z 257 [(0, vr l0)] [] μ (rI t) := by
  unfold jX3_part_257 at h
  refine a_iconst dX3_part_257 (okI_b _ rfl) ?_
  exact a_sub [0] rfl (tX3_part_258 E l _ dr hdr rX3_sum qX3_sum N l0 0 μ t hk h)
theorem tX3_part_59 (E : m_E) (l : Launch) (z : Nat × Nat) (dr : Nat) (hdr : 12 ≤ dr) (rX3_sum : Int → Int → Mm → Option (Int × Mm)) (qX3_sum : ∀ (a0 a1 : Int) (μ : Mm) (t : Int × Mm), m_kd μ a0 = (3, 0) → rX3_sum a0 a1 μ = some t → TT E l dr yX3_sum cX3_sum 4 (some .boolean) [vr a0, vi a1] μ (rI t)) (N : Nat) (l0 s0 : Int) (μ : Mm) (t : Int × Mm) (hk : m_kd μ l0 = (3, 0)) (h : jX3_part_59 rX3_sum N l0 s0 μ = some t) : aX3_part E l (dr + 2) z 59 [(0, vr l0)] [vi s0] μ (rI t) := by
  unfold jX3_part_59 at h
  exact a_retz dX3_part_59 h
theorem tX3_part_54 (E : m_E) (l : Launch) (z : Nat × Nat) (dr : Nat) (hdr : 12 ≤ dr) (rX3_sum : Int → Int → Mm → Option (Int × Mm)) (qX3_sum : ∀ (a0 a1 : Int) (μ : Mm) (t : Int × Mm), m_kd μ a0 = (3, 0) → rX3_sum a0 a1 μ = some t → TT E l dr yX3_sum cX3_sum 4 (some .boolean) [vr a0, vi a1] μ (rI t)) (N : Nat) (l0 : Int) (μ : Mm) (t : Int × Mm) (hk : m_kd μ l0 = (3, 0)) (h : jX3_part_54 rX3_sum N l0 μ = some t) : aX3_part E l (dr + 2) z 54 [(0, vr l0)] [] μ (rI t) := by
  unfold jX3_part_54 at h
  refine a_iconst dX3_part_54 (okI_b _ rfl) ?_
  refine a_goto (tgt := 59) dX3_part_55 rfl ?_
  exact a_sub [0] rfl (tX3_part_59 E l _ dr hdr rX3_sum qX3_sum N l0 1 μ t hk h)
theorem tX3_part_42 (E : m_E) (l : Launch) (z : Nat × Nat) (dr : Nat) (hdr : 12 ≤ dr) (rX3_sum : Int → Int → Mm → Option (Int × Mm)) (qX3_sum : ∀ (a0 a1 : Int) (μ : Mm) (t : Int × Mm), m_kd μ a0 = (3, 0) → rX3_sum a0 a1 μ = some t → TT E l dr yX3_sum cX3_sum 4 (some .boolean) [vr a0, vi a1] μ (rI t)) (N : Nat) (l0 : Int) (μ : Mm) (t : Int × Mm) (hk : m_kd μ l0 = (3, 0)) (h : jX3_part_42 rX3_sum N l0 μ = some t) : aX3_part E l (dr + 2) z 42 [(0, vr l0)] [] μ (rI t) := by
  unfold jX3_part_42 at h
  refine a_aload_n 0 dX3_part_42 rfl rfl ?_
  refine a_iconst dX3_part_43 (okI_b _ rfl) ?_
  refine a_aload_n 0 dX3_part_44 rfl rfl ?_
  refine a_getfi (c := 3) (i := 4) dX3_part_45 fRX3_25 g3_4 rfl hk ?_
  refine a_cVi (c := 3) [vi 1, vi (m_gt μ l0 4)] [] dX3_part_48 myX3_fail mRX3_49 mvX3_fail rfl (by decide) hk (fun _ hj => tX3_fail E l N l0 1 (m_gt μ l0 4) μ _ hk hj) (by omega) rfl (Nat.le_of_ble_eq_true rfl) h (fun x1 μ1 hm h => ?_)
  have hk := hm.k hk (by decide)
  refine a_if_eq (tgt := 58) dX3_part_51 rfl h (fun h => ?_) (fun h => ?_)
  ·
    refine a_iconst dX3_part_58 (okI_b _ rfl) ?_
    exact a_sub [0] rfl (tX3_part_59 E l _ dr hdr rX3_sum qX3_sum N l0 0 μ1 t hk h)
  ·
    exact a_sub [0] rfl (tX3_part_54 E l _ dr hdr rX3_sum qX3_sum N l0 μ1 t hk h)
theorem tX3_part (E : m_E) (l : Launch) (dr : Nat) (hdr : 12 ≤ dr) (rX3_sum : Int → Int → Mm → Option (Int × Mm)) (qX3_sum : ∀ (a0 a1 : Int) (μ : Mm) (t : Int × Mm), m_kd μ a0 = (3, 0) → rX3_sum a0 a1 μ = some t → TT E l dr yX3_sum cX3_sum 4 (some .boolean) [vr a0, vi a1] μ (rI t)) (N : Nat) (l0 l1 : Int) (μ : Mm) (t : Int × Mm) (hk : m_kd μ l0 = (3, 0)) (h : jX3_part rX3_sum N l0 l1 μ = some t) : TT E l (dr + 2) yX3_part cX3_part 4 (some .boolean) [vr l0, vi l1] μ (rI t) := by
  refine tt_of (L := [(0, vr l0), (1, vi l1)]) (by decide +kernel) (Nat.le_of_ble_eq_true rfl) rfl ?_
  show aX3_part E l (dr + 2) (m_sz μ, m_sl μ) 0 [(0, vr l0), (1, vi l1)] [] μ (rI t)
  unfold jX3_part at h
  refine a_aload_n 0 dX3_part_0 rfl rfl ?_
  refine a_getfi (c := 3) (i := 4) dX3_part_1 fRX3_25 g3_4 rfl hk ?_
  refine a_nmi h (fun x1 h => ?_)
  refine a_istore_n (L' := [(2, vi x1), (0, vr l0), (1, vi l1)]) dX3_part_4 rfl (by decide) rfl ?_
  refine a_aload_n 1 dX3_part_5 rfl rfl ?_
  refine a_bipush dX3_part_6 ⟨rfl, okI_b _ rfl⟩ ?_
  refine a_cVi (c := 3) [vi 40] [] dX3_part_8 myX3_takesSign mRX3_57 mvX3_takesSign rfl (by decide) hk (fun _ hj => tX3_takesSign E l N l0 40 μ _ hk hj) (by omega) rfl (Nat.le_of_ble_eq_true rfl) h (fun x2 μ1 hm h => ?_)
  have hk := hm.k hk (by decide)
  refine a_if_eq (tgt := 60) dX3_part_11 rfl h (fun h => ?_) (fun h => ?_)
  ·
    refine a_aload_n 1 dX3_part_60 rfl rfl ?_
    refine a_ldcS (i := 7) dX3_part_61 rfl rfl ?_
    refine a_cVi (c := 3) [vr (-17)] [] dX3_part_63 myX3_takes mRX3_63 mvX3_takes rfl (by decide) hk (fun _ hj => tX3_takes E l N l0 (-17) μ1 _ hk hj) (by omega) rfl (Nat.le_of_ble_eq_true rfl) h (fun x3 μ2 hm h => ?_)
    have hk := hm.k hk (by decide)
    refine a_if_eq (tgt := 77) dX3_part_66 rfl h (fun h => ?_) (fun h => ?_)
    ·
      refine a_aload_n 1 dX3_part_77 rfl rfl ?_
      refine a_ldcS (i := 8) dX3_part_78 rfl rfl ?_
      refine a_cVi (c := 3) [vr (-18)] [] dX3_part_80 myX3_takes mRX3_63 mvX3_takes rfl (by decide) hk (fun _ hj => tX3_takes E l N l0 (-18) μ2 _ hk hj) (by omega) rfl (Nat.le_of_ble_eq_true rfl) h (fun x4 μ3 hm h => ?_)
      have hk := hm.k hk (by decide)
      refine a_if_eq (tgt := 94) dX3_part_83 rfl h (fun h => ?_) (fun h => ?_)
      ·
        refine a_aload_n 1 dX3_part_94 rfl rfl ?_
        refine a_ldcS (i := 9) dX3_part_95 rfl rfl ?_
        refine a_cVi (c := 3) [vr (-19)] [] dX3_part_97 myX3_takes mRX3_63 mvX3_takes rfl (by decide) hk (fun _ hj => tX3_takes E l N l0 (-19) μ3 _ hk hj) (by omega) rfl (Nat.le_of_ble_eq_true rfl) h (fun x5 μ4 hm h => ?_)
        have hk := hm.k hk (by decide)
        refine a_if_eq (tgt := 115) dX3_part_100 rfl h (fun h => ?_) (fun h => ?_)
        ·
          refine a_aload_n 1 dX3_part_115 rfl rfl ?_
          refine a_ldcS (i := 10) dX3_part_116 rfl rfl ?_
          refine a_cVi (c := 3) [vr (-20)] [] dX3_part_118 myX3_takes mRX3_63 mvX3_takes rfl (by decide) hk (fun _ hj => tX3_takes E l N l0 (-20) μ4 _ hk hj) (by omega) rfl (Nat.le_of_ble_eq_true rfl) h (fun x6 μ5 hm h => ?_)
          have hk := hm.k hk (by decide)
          refine a_if_eq (tgt := 137) dX3_part_121 rfl h (fun h => ?_) (fun h => ?_)
          ·
            refine a_aload_n 1 dX3_part_137 rfl rfl ?_
            refine a_ldcS (i := 11) dX3_part_138 rfl rfl ?_
            refine a_cVi (c := 3) [vr (-21)] [] dX3_part_140 myX3_takes mRX3_63 mvX3_takes rfl (by decide) hk (fun _ hj => tX3_takes E l N l0 (-21) μ5 _ hk hj) (by omega) rfl (Nat.le_of_ble_eq_true rfl) h (fun x7 μ6 hm h => ?_)
            have hk := hm.k hk (by decide)
            refine a_if_eq (tgt := 159) dX3_part_143 rfl h (fun h => ?_) (fun h => ?_)
            ·
              refine a_aload_n 1 dX3_part_159 rfl rfl ?_
              refine a_ldcS (i := 12) dX3_part_160 rfl rfl ?_
              refine a_cVi (c := 3) [vr (-22)] [] dX3_part_162 myX3_takes mRX3_63 mvX3_takes rfl (by decide) hk (fun _ hj => tX3_takes E l N l0 (-22) μ6 _ hk hj) (by omega) rfl (Nat.le_of_ble_eq_true rfl) h (fun x8 μ7 hm h => ?_)
              have hk := hm.k hk (by decide)
              refine a_if_eq (tgt := 181) dX3_part_165 rfl h (fun h => ?_) (fun h => ?_)
              ·
                refine a_aload_n 1 dX3_part_181 rfl rfl ?_
                refine a_ldcS (i := 13) dX3_part_182 rfl rfl ?_
                refine a_cVi (c := 3) [vr (-23)] [] dX3_part_184 myX3_takes mRX3_63 mvX3_takes rfl (by decide) hk (fun _ hj => tX3_takes E l N l0 (-23) μ7 _ hk hj) (by omega) rfl (Nat.le_of_ble_eq_true rfl) h (fun x9 μ8 hm h => ?_)
                have hk := hm.k hk (by decide)
                refine a_if_eq (tgt := 203) dX3_part_187 rfl h (fun h => ?_) (fun h => ?_)
                ·
                  refine a_aload_n 1 dX3_part_203 rfl rfl ?_
                  refine a_ldcS (i := 14) dX3_part_204 rfl rfl ?_
                  refine a_cVi (c := 3) [vr (-24)] [] dX3_part_206 myX3_takes mRX3_63 mvX3_takes rfl (by decide) hk (fun _ hj => tX3_takes E l N l0 (-24) μ8 _ hk hj) (by omega) rfl (Nat.le_of_ble_eq_true rfl) h (fun x10 μ9 hm h => ?_)
                  have hk := hm.k hk (by decide)
                  refine a_if_eq (tgt := 225) dX3_part_209 rfl h (fun h => ?_) (fun h => ?_)
                  ·
                    refine a_aload_n 1 dX3_part_225 rfl rfl ?_
                    refine a_iconst dX3_part_226 (okI_b _ rfl) ?_
                    refine a_sipush dX3_part_227 ⟨rfl, okI_b _ rfl⟩ ?_
                    refine a_cVi (c := 3) [vi 0, vi 9999] [] dX3_part_230 myX3_number mRX3_67 mvX3_number rfl (by decide) hk (fun _ hj => tX3_number E l N l0 0 9999 μ9 _ hk hj) (by omega) rfl (Nat.le_of_ble_eq_true rfl) h (fun x11 μ10 hm h => ?_)
                    have hk := hm.k hk (by decide)
                    refine a_istore_n (L' := [(3, vi x11), (2, vi x1), (0, vr l0), (1, vi l1)]) dX3_part_233 rfl (by decide) rfl ?_
                    refine a_iload_n 0 dX3_part_234 rfl rfl ?_
                    refine a_iconst dX3_part_235 (okI_b _ rfl) ?_
                    refine a_icmp_eq (tgt := 257) dX3_part_236 rfl h (fun h => ?_) (fun h => ?_)
                    ·
                      exact a_sub [2] rfl (tX3_part_257 E l _ dr hdr rX3_sum qX3_sum N l0 μ10 t hk h)
                    ·
                      refine a_aload_n 2 dX3_part_239 rfl rfl ?_
                      refine a_getfr (c := 3) (i := 5) dX3_part_240 fRX3_28 g3_5 rfl hk ?_
                      refine m_chk_k h (fun hq72 h => ?_)
                      refine a_getfr (c := 1) (i := 6) dX3_part_243 fRX3_110 g1_6 rfl hq72 ?_
                      refine a_iload_n 0 dX3_part_246 rfl rfl ?_
                      refine m_chk_k h (fun hq75 h => ?_)
                      refine a_cVi (c := 0) [vi x11] [] dX3_part_247 myX0_put mRX3_144 mvX0_put rfl (by decide) hq75 (fun _ hj => tX0_put E l N (m_gt μ10 (m_gt μ10 l0 5) 6) x11 μ10 _ hq75 hj) (by omega) rfl (Nat.le_of_ble_eq_true rfl) h (fun x12 μ11 hm h => ?_)
                      have hk := hm.k hk (by decide)
                      have hq72 := hm.k hq72 (by decide)
                      have hq75 := hm.k hq75 (by decide)
                      refine a_if_eq (tgt := 257) dX3_part_250 rfl h (fun h => ?_) (fun h => ?_)
                      ·
                        exact a_sub [2] rfl (tX3_part_257 E l _ dr hdr rX3_sum qX3_sum N l0 μ11 t hk h)
                      ·
                        refine a_iconst dX3_part_253 (okI_b _ rfl) ?_
                        refine a_goto (tgt := 258) dX3_part_254 rfl ?_
                        exact a_sub [2] rfl (tX3_part_258 E l _ dr hdr rX3_sum qX3_sum N l0 1 μ11 t hk h)
                  ·
                    refine a_aload_n 1 dX3_part_212 rfl rfl ?_
                    refine a_getfr (c := 3) (i := 5) dX3_part_213 fRX3_28 g3_5 rfl hk ?_
                    refine m_chk_k h (fun hq90 h => ?_)
                    refine a_getfr (c := 1) (i := 6) dX3_part_216 fRX3_110 g1_6 rfl hq90 ?_
                    refine a_bipush dX3_part_219 ⟨rfl, okI_b _ rfl⟩ ?_
                    refine m_chk_k h (fun hq93 h => ?_)
                    refine a_cVi (c := 0) [vi (-6)] [] dX3_part_221 myX0_put mRX3_144 mvX0_put rfl (by decide) hq93 (fun _ hj => tX0_put E l N (m_gt μ9 (m_gt μ9 l0 5) 6) (-6) μ9 _ hq93 hj) (by omega) rfl (Nat.le_of_ble_eq_true rfl) h (fun x13 μ12 hm h => ?_)
                    have hk := hm.k hk (by decide)
                    have hq90 := hm.k hq90 (by decide)
                    have hq93 := hm.k hq93 (by decide)
                    exact a_retz dX3_part_224 h
                ·
                  refine a_aload_n 1 dX3_part_190 rfl rfl ?_
                  refine a_getfr (c := 3) (i := 5) dX3_part_191 fRX3_28 g3_5 rfl hk ?_
                  refine m_chk_k h (fun hq102 h => ?_)
                  refine a_getfr (c := 1) (i := 6) dX3_part_194 fRX3_110 g1_6 rfl hq102 ?_
                  refine a_bipush dX3_part_197 ⟨rfl, okI_b _ rfl⟩ ?_
                  refine m_chk_k h (fun hq105 h => ?_)
                  refine a_cVi (c := 0) [vi (-5)] [] dX3_part_199 myX0_put mRX3_144 mvX0_put rfl (by decide) hq105 (fun _ hj => tX0_put E l N (m_gt μ8 (m_gt μ8 l0 5) 6) (-5) μ8 _ hq105 hj) (by omega) rfl (Nat.le_of_ble_eq_true rfl) h (fun x14 μ13 hm h => ?_)
                  have hk := hm.k hk (by decide)
                  have hq102 := hm.k hq102 (by decide)
                  have hq105 := hm.k hq105 (by decide)
                  exact a_retz dX3_part_202 h
              ·
                refine a_aload_n 1 dX3_part_168 rfl rfl ?_
                refine a_getfr (c := 3) (i := 5) dX3_part_169 fRX3_28 g3_5 rfl hk ?_
                refine m_chk_k h (fun hq114 h => ?_)
                refine a_getfr (c := 1) (i := 6) dX3_part_172 fRX3_110 g1_6 rfl hq114 ?_
                refine a_bipush dX3_part_175 ⟨rfl, okI_b _ rfl⟩ ?_
                refine m_chk_k h (fun hq117 h => ?_)
                refine a_cVi (c := 0) [vi (-4)] [] dX3_part_177 myX0_put mRX3_144 mvX0_put rfl (by decide) hq117 (fun _ hj => tX0_put E l N (m_gt μ7 (m_gt μ7 l0 5) 6) (-4) μ7 _ hq117 hj) (by omega) rfl (Nat.le_of_ble_eq_true rfl) h (fun x15 μ14 hm h => ?_)
                have hk := hm.k hk (by decide)
                have hq114 := hm.k hq114 (by decide)
                have hq117 := hm.k hq117 (by decide)
                exact a_retz dX3_part_180 h
            ·
              refine a_aload_n 1 dX3_part_146 rfl rfl ?_
              refine a_getfr (c := 3) (i := 5) dX3_part_147 fRX3_28 g3_5 rfl hk ?_
              refine m_chk_k h (fun hq126 h => ?_)
              refine a_getfr (c := 1) (i := 6) dX3_part_150 fRX3_110 g1_6 rfl hq126 ?_
              refine a_bipush dX3_part_153 ⟨rfl, okI_b _ rfl⟩ ?_
              refine m_chk_k h (fun hq129 h => ?_)
              refine a_cVi (c := 0) [vi (-3)] [] dX3_part_155 myX0_put mRX3_144 mvX0_put rfl (by decide) hq129 (fun _ hj => tX0_put E l N (m_gt μ6 (m_gt μ6 l0 5) 6) (-3) μ6 _ hq129 hj) (by omega) rfl (Nat.le_of_ble_eq_true rfl) h (fun x16 μ15 hm h => ?_)
              have hk := hm.k hk (by decide)
              have hq126 := hm.k hq126 (by decide)
              have hq129 := hm.k hq129 (by decide)
              exact a_retz dX3_part_158 h
          ·
            refine a_aload_n 1 dX3_part_124 rfl rfl ?_
            refine a_getfr (c := 3) (i := 5) dX3_part_125 fRX3_28 g3_5 rfl hk ?_
            refine m_chk_k h (fun hq138 h => ?_)
            refine a_getfr (c := 1) (i := 6) dX3_part_128 fRX3_110 g1_6 rfl hq138 ?_
            refine a_bipush dX3_part_131 ⟨rfl, okI_b _ rfl⟩ ?_
            refine m_chk_k h (fun hq141 h => ?_)
            refine a_cVi (c := 0) [vi (-2)] [] dX3_part_133 myX0_put mRX3_144 mvX0_put rfl (by decide) hq141 (fun _ hj => tX0_put E l N (m_gt μ5 (m_gt μ5 l0 5) 6) (-2) μ5 _ hq141 hj) (by omega) rfl (Nat.le_of_ble_eq_true rfl) h (fun x17 μ16 hm h => ?_)
            have hk := hm.k hk (by decide)
            have hq138 := hm.k hq138 (by decide)
            have hq141 := hm.k hq141 (by decide)
            exact a_retz dX3_part_136 h
        ·
          refine a_aload_n 1 dX3_part_103 rfl rfl ?_
          refine a_getfr (c := 3) (i := 5) dX3_part_104 fRX3_28 g3_5 rfl hk ?_
          refine m_chk_k h (fun hq150 h => ?_)
          refine a_getfr (c := 1) (i := 6) dX3_part_107 fRX3_110 g1_6 rfl hq150 ?_
          refine a_iconst dX3_part_110 (okI_b _ rfl) ?_
          refine m_chk_k h (fun hq153 h => ?_)
          refine a_cVi (c := 0) [vi (-1)] [] dX3_part_111 myX0_put mRX3_144 mvX0_put rfl (by decide) hq153 (fun _ hj => tX0_put E l N (m_gt μ4 (m_gt μ4 l0 5) 6) (-1) μ4 _ hq153 hj) (by omega) rfl (Nat.le_of_ble_eq_true rfl) h (fun x18 μ17 hm h => ?_)
          have hk := hm.k hk (by decide)
          have hq150 := hm.k hq150 (by decide)
          have hq153 := hm.k hq153 (by decide)
          exact a_retz dX3_part_114 h
      ·
        refine a_aload_n 1 dX3_part_86 rfl rfl ?_
        refine a_iload_n 2 dX3_part_87 rfl rfl ?_
        refine a_bipush dX3_part_88 ⟨rfl, okI_b _ rfl⟩ ?_
        refine a_cVi (c := 3) [vi l1, vi (-16)] [] dX3_part_90 myX3_pair mRX3_166 mvX3_pair rfl (by decide) hk (fun _ hj => tX3_pair E l dr hdr rX3_sum qX3_sum N l0 l1 (-16) μ3 _ hk hj) (by omega) rfl (Nat.le_of_ble_eq_true rfl) h (fun x19 μ18 hm h => ?_)
        have hk := hm.k hk (by decide)
        exact a_retz dX3_part_93 h
    ·
      refine a_aload_n 1 dX3_part_69 rfl rfl ?_
      refine a_iload_n 2 dX3_part_70 rfl rfl ?_
      refine a_bipush dX3_part_71 ⟨rfl, okI_b _ rfl⟩ ?_
      refine a_cVi (c := 3) [vi l1, vi (-15)] [] dX3_part_73 myX3_pair mRX3_166 mvX3_pair rfl (by decide) hk (fun _ hj => tX3_pair E l dr hdr rX3_sum qX3_sum N l0 l1 (-15) μ2 _ hk hj) (by omega) rfl (Nat.le_of_ble_eq_true rfl) h (fun x20 μ19 hm h => ?_)
      have hk := hm.k hk (by decide)
      exact a_retz dX3_part_76 h
  ·
    refine a_aload_n 1 dX3_part_14 rfl rfl ?_
    refine a_iload_n 2 dX3_part_15 rfl rfl ?_
    refine a_iload_n 0 dX3_part_16 rfl rfl ?_
    refine a_cVi (c := 3) [vi l1, vi x1] [] dX3_part_17 myX3_mayOpen mRX3_154 mvX3_mayOpen rfl (by decide) hk (fun _ hj => tX3_mayOpen E l N l0 l1 x1 μ1 _ hk hj) (by omega) rfl (Nat.le_of_ble_eq_true rfl) h (fun x21 μ20 hm h => ?_)
    have hk := hm.k hk (by decide)
    refine a_if_eq (tgt := 42) dX3_part_20 rfl h (fun h => ?_) (fun h => ?_)
    ·
      exact a_sub [1] rfl (tX3_part_42 E l _ dr hdr rX3_sum qX3_sum N l0 μ20 t hk h)
    ·
      refine a_aload_n 1 dX3_part_23 rfl rfl ?_
      refine a_iload_n 2 dX3_part_24 rfl rfl ?_
      refine a_iconst dX3_part_25 (okI_b _ rfl) ?_
      refine a_iadd dX3_part_26 ?_
      refine a_cVi (c := 3) [vi (i_add l1 1)] [] dX3_part_27 myX3_sum mRX3_120 mvX3_sum rfl (by decide) hk (fun _ hj => qX3_sum l0 (i_add l1 1) μ20 _ hk hj) (by omega) rfl (Nat.le_of_ble_eq_true rfl) h (fun x22 μ21 hm h => ?_)
      have hk := hm.k hk (by decide)
      refine a_if_eq (tgt := 42) dX3_part_30 rfl h (fun h => ?_) (fun h => ?_)
      ·
        exact a_sub [1] rfl (tX3_part_42 E l _ dr hdr rX3_sum qX3_sum N l0 μ21 t hk h)
      ·
        refine a_aload_n 1 dX3_part_33 rfl rfl ?_
        refine a_bipush dX3_part_34 ⟨rfl, okI_b _ rfl⟩ ?_
        refine a_cVi (c := 3) [vi 41] [] dX3_part_36 myX3_takesSign mRX3_57 mvX3_takesSign rfl (by decide) hk (fun _ hj => tX3_takesSign E l N l0 41 μ21 _ hk hj) (by omega) rfl (Nat.le_of_ble_eq_true rfl) h (fun x23 μ22 hm h => ?_)
        have hk := hm.k hk (by decide)
        refine a_if_ne (tgt := 54) dX3_part_39 rfl h (fun h => ?_) (fun h => ?_)
        ·
          exact a_sub [1] rfl (tX3_part_54 E l _ dr hdr rX3_sum qX3_sum N l0 μ22 t hk h)
        ·
          exact a_sub [1] rfl (tX3_part_42 E l _ dr hdr rX3_sum qX3_sum N l0 μ22 t hk h)
-- X3_product
abbrev aX3_product (E : m_E) (l : Launch) (d : Nat) (z : Nat × Nat) (pc : Nat) (L : List (Nat × AV)) (st : List AV) (μ : Mm) (ρ : Option AV × Mm) : Prop := AA E l d z RX3 "product" cX3_product 4 (some .boolean) pc L st μ ρ
theorem tX3_product_78 (E : m_E) (l : Launch) (z : Nat × Nat) (dr : Nat) (hdr : 12 ≤ dr) (rX3_sum : Int → Int → Mm → Option (Int × Mm)) (qX3_sum : ∀ (a0 a1 : Int) (μ : Mm) (t : Int × Mm), m_kd μ a0 = (3, 0) → rX3_sum a0 a1 μ = some t → TT E l dr yX3_sum cX3_sum 4 (some .boolean) [vr a0, vi a1] μ (rI t)) (N : Nat) (l0 : Int) (μ : Mm) (t : Int × Mm) (hk : m_kd μ l0 = (3, 0)) (h : jX3_product_78 rX3_sum N l0 μ = some t) : aX3_product E l (dr + 3) z 78 [(0, vr l0)] [] μ (rI t) := by
  unfold jX3_product_78 at h
  refine a_iconst dX3_product_78 (okI_b _ rfl) ?_
  exact a_retzl (Or.inl rfl) dX3_product_79 h
theorem tX3_product_49 (E : m_E) (l : Launch) (z : Nat × Nat) (dr : Nat) (hdr : 12 ≤ dr) (rX3_sum : Int → Int → Mm → Option (Int × Mm)) (qX3_sum : ∀ (a0 a1 : Int) (μ : Mm) (t : Int × Mm), m_kd μ a0 = (3, 0) → rX3_sum a0 a1 μ = some t → TT E l dr yX3_sum cX3_sum 4 (some .boolean) [vr a0, vi a1] μ (rI t)) (k12 : Int → Int → Int → Mm → Option (Int × Mm)) (p12 : ∀ (l0 l1 l2 : Int) (μ : Mm) (t : Int × Mm), m_kd μ l0 = (3, 0) → k12 l0 l1 l2 μ = some t → aX3_product E l (dr + 3) z 12 [(0, vr l0), (1, vi l1), (2, vi l2)] [] μ (rI t)) (N : Nat) (l0 l1 l2 s0 : Int) (μ : Mm) (t : Int × Mm) (hk : m_kd μ l0 = (3, 0)) (h : jX3_product_49 rX3_sum k12 N l0 l1 l2 s0 μ = some t) : aX3_product E l (dr + 3) z 49 [(0, vr l0), (1, vi l1), (2, vi l2)] [vi s0] μ (rI t) := by
  unfold jX3_product_49 at h
  refine a_istore_n (L' := [(3, vi s0), (0, vr l0), (1, vi l1), (2, vi l2)]) dX3_product_49 rfl (by decide) rfl ?_
  refine a_iload_n 0 dX3_product_50 rfl rfl ?_
  refine a_if_ne (tgt := 56) dX3_product_51 rfl h (fun h => ?_) (fun h => ?_)
  ·
    refine a_aload_n 1 dX3_product_56 rfl rfl ?_
    refine a_iload_n 2 dX3_product_57 rfl rfl ?_
    refine a_cVi (c := 3) [vi l1] [] dX3_product_58 myX3_part mRX3_162 mvX3_part rfl (by decide) hk (fun _ hj => tX3_part E l dr hdr rX3_sum qX3_sum N l0 l1 μ _ hk hj) (by omega) rfl (Nat.le_of_ble_eq_true rfl) h (fun x1 μ1 hm h => ?_)
    have hk := hm.k hk (by decide)
    refine a_if_eq (tgt := 78) dX3_product_61 rfl h (fun h => ?_) (fun h => ?_)
    ·
      exact a_sub [1] rfl (tX3_product_78 E l _ dr hdr rX3_sum qX3_sum N l0 μ1 t hk h)
    ·
      refine a_aload_n 1 dX3_product_64 rfl rfl ?_
      refine a_getfr (c := 3) (i := 5) dX3_product_65 fRX3_28 g3_5 rfl hk ?_
      refine m_chk_k h (fun hq14 h => ?_)
      refine a_getfr (c := 1) (i := 6) dX3_product_68 fRX3_110 g1_6 rfl hq14 ?_
      refine a_iload_n 0 dX3_product_71 rfl rfl ?_
      refine m_chk_k h (fun hq17 h => ?_)
      refine a_cVi (c := 0) [vi s0] [] dX3_product_72 myX0_put mRX3_144 mvX0_put rfl (by decide) hq17 (fun _ hj => tX0_put E l N (m_gt μ1 (m_gt μ1 l0 5) 6) s0 μ1 _ hq17 hj) (by omega) rfl (Nat.le_of_ble_eq_true rfl) h (fun x2 μ2 hm h => ?_)
      have hk := hm.k hk (by decide)
      have hq14 := hm.k hq14 (by decide)
      have hq17 := hm.k hq17 (by decide)
      refine a_if_ne (tgt := 80) dX3_product_75 rfl h (fun h => ?_) (fun h => ?_)
      ·
        refine a_iinc (F := fun x3 => [(2, vi x3), (3, vi s0), (0, vr l0), (1, vi l1)]) 3 dX3_product_80 rfl (by decide) h (fun _ => rfl) (fun x3 h => ?_)
        refine a_goto (tgt := 12) dX3_product_83 rfl ?_
        exact a_sub [2, 3, 0] rfl (p12 l0 l1 x3 μ2 t hk h)
      ·
        exact a_sub [1] rfl (tX3_product_78 E l _ dr hdr rX3_sum qX3_sum N l0 μ2 t hk h)
  ·
    refine a_iconst dX3_product_54 (okI_b _ rfl) ?_
    exact a_retzl (Or.inr rfl) dX3_product_55 h
theorem tX3_product_12b (E : m_E) (l : Launch) (z : Nat × Nat) (dr : Nat) (hdr : 12 ≤ dr) (rX3_sum : Int → Int → Mm → Option (Int × Mm)) (qX3_sum : ∀ (a0 a1 : Int) (μ : Mm) (t : Int × Mm), m_kd μ a0 = (3, 0) → rX3_sum a0 a1 μ = some t → TT E l dr yX3_sum cX3_sum 4 (some .boolean) [vr a0, vi a1] μ (rI t)) (k12 : Int → Int → Int → Mm → Option (Int × Mm)) (p12 : ∀ (l0 l1 l2 : Int) (μ : Mm) (t : Int × Mm), m_kd μ l0 = (3, 0) → k12 l0 l1 l2 μ = some t → aX3_product E l (dr + 3) z 12 [(0, vr l0), (1, vi l1), (2, vi l2)] [] μ (rI t)) (N : Nat) (l0 l1 l2 : Int) (μ : Mm) (t : Int × Mm) (hk : m_kd μ l0 = (3, 0)) (h : jX3_product_12b rX3_sum k12 N l0 l1 l2 μ = some t) : aX3_product E l (dr + 3) z 12 [(0, vr l0), (1, vi l1), (2, vi l2)] [] μ (rI t) := by
  unfold jX3_product_12b at h
  refine a_iload_n 2 dX3_product_12 rfl rfl ?_
  refine a_aload_n 0 dX3_product_13 rfl rfl ?_
  refine a_getfi (c := 3) (i := 3) dX3_product_14 fRX3_22 g3_3 rfl hk ?_
  refine a_icmp_ge (tgt := 86) dX3_product_17 rfl h (fun h => ?_) (fun h => ?_)
  ·
    refine a_iconst dX3_product_86 (okI_b _ rfl) ?_
    exact a_retzl (Or.inr rfl) dX3_product_87 h
  ·
    refine a_aload_n 0 dX3_product_20 rfl rfl ?_
    refine a_bipush dX3_product_21 ⟨rfl, okI_b _ rfl⟩ ?_
    refine a_cVi (c := 3) [vi 42] [] dX3_product_23 myX3_takesSign mRX3_57 mvX3_takesSign rfl (by decide) hk (fun _ hj => tX3_takesSign E l N l0 42 μ _ hk hj) (by omega) rfl (Nat.le_of_ble_eq_true rfl) h (fun x1 μ1 hm h => ?_)
    have hk := hm.k hk (by decide)
    refine a_if_eq (tgt := 34) dX3_product_26 rfl h (fun h => ?_) (fun h => ?_)
    ·
      refine a_aload_n 0 dX3_product_34 rfl rfl ?_
      refine a_bipush dX3_product_35 ⟨rfl, okI_b _ rfl⟩ ?_
      refine a_cVi (c := 3) [vi 47] [] dX3_product_37 myX3_takesSign mRX3_57 mvX3_takesSign rfl (by decide) hk (fun _ hj => tX3_takesSign E l N l0 47 μ1 _ hk hj) (by omega) rfl (Nat.le_of_ble_eq_true rfl) h (fun x2 μ2 hm h => ?_)
      have hk := hm.k hk (by decide)
      refine a_if_eq (tgt := 48) dX3_product_40 rfl h (fun h => ?_) (fun h => ?_)
      ·
        refine a_iconst dX3_product_48 (okI_b _ rfl) ?_
        exact a_sub [0, 1, 2] rfl (tX3_product_49 E l _ dr hdr rX3_sum qX3_sum k12 p12 N l0 l1 l2 0 μ2 t hk h)
      ·
        refine a_bipush dX3_product_43 ⟨rfl, okI_b _ rfl⟩ ?_
        refine a_goto (tgt := 49) dX3_product_45 rfl ?_
        exact a_sub [0, 1, 2] rfl (tX3_product_49 E l _ dr hdr rX3_sum qX3_sum k12 p12 N l0 l1 l2 (-14) μ2 t hk h)
    ·
      refine a_bipush dX3_product_29 ⟨rfl, okI_b _ rfl⟩ ?_
      refine a_goto (tgt := 49) dX3_product_31 rfl ?_
      exact a_sub [0, 1, 2] rfl (tX3_product_49 E l _ dr hdr rX3_sum qX3_sum k12 p12 N l0 l1 l2 (-13) μ1 t hk h)
theorem tX3_product_12 (E : m_E) (l : Launch) (z : Nat × Nat) (dr : Nat) (hdr : 12 ≤ dr) (rX3_sum : Int → Int → Mm → Option (Int × Mm)) (qX3_sum : ∀ (a0 a1 : Int) (μ : Mm) (t : Int × Mm), m_kd μ a0 = (3, 0) → rX3_sum a0 a1 μ = some t → TT E l dr yX3_sum cX3_sum 4 (some .boolean) [vr a0, vi a1] μ (rI t)) (N : Nat) : ∀ (n : Nat) (l0 l1 l2 : Int) (μ : Mm) (t : Int × Mm), m_kd μ l0 = (3, 0) → jX3_product_12 rX3_sum N n l0 l1 l2 μ = some t → aX3_product E l (dr + 3) z 12 [(0, vr l0), (1, vi l1), (2, vi l2)] [] μ (rI t)
  | 0, _, _, _, _, _, _, h => by cases h
  | n + 1, l0, l1, l2, μ, t, hk, h => tX3_product_12b E l z dr hdr rX3_sum qX3_sum (jX3_product_12 rX3_sum N n) (tX3_product_12 E l z dr hdr rX3_sum qX3_sum N n) N l0 l1 l2 μ t hk h
theorem tX3_product (E : m_E) (l : Launch) (dr : Nat) (hdr : 12 ≤ dr) (rX3_sum : Int → Int → Mm → Option (Int × Mm)) (qX3_sum : ∀ (a0 a1 : Int) (μ : Mm) (t : Int × Mm), m_kd μ a0 = (3, 0) → rX3_sum a0 a1 μ = some t → TT E l dr yX3_sum cX3_sum 4 (some .boolean) [vr a0, vi a1] μ (rI t)) (N : Nat) (l0 l1 : Int) (μ : Mm) (t : Int × Mm) (hk : m_kd μ l0 = (3, 0)) (h : jX3_product rX3_sum N l0 l1 μ = some t) : TT E l (dr + 3) yX3_product cX3_product 4 (some .boolean) [vr l0, vi l1] μ (rI t) := by
  refine tt_of (L := [(0, vr l0), (1, vi l1)]) (by decide +kernel) (Nat.le_of_ble_eq_true rfl) rfl ?_
  show aX3_product E l (dr + 3) (m_sz μ, m_sl μ) 0 [(0, vr l0), (1, vi l1)] [] μ (rI t)
  unfold jX3_product at h
  refine a_aload_n 0 dX3_product_0 rfl rfl ?_
  refine a_iload_n 1 dX3_product_1 rfl rfl ?_
  refine a_cVi (c := 3) [vi l1] [] dX3_product_2 myX3_part mRX3_162 mvX3_part rfl (by decide) hk (fun _ hj => tX3_part E l dr hdr rX3_sum qX3_sum N l0 l1 μ _ hk hj) (by omega) rfl (Nat.le_of_ble_eq_true rfl) h (fun x1 μ1 hm h => ?_)
  have hk := hm.k hk (by decide)
  refine a_if_ne (tgt := 10) dX3_product_5 rfl h (fun h => ?_) (fun h => ?_)
  ·
    refine a_iconst dX3_product_10 (okI_b _ rfl) ?_
    refine a_istore_n (L' := [(2, vi 0), (0, vr l0), (1, vi l1)]) dX3_product_11 rfl (by decide) rfl ?_
    exact a_sub [1, 2, 0] rfl (tX3_product_12 E l _ dr hdr rX3_sum qX3_sum N N l0 l1 0 μ1 t hk h)
  ·
    refine a_iconst dX3_product_8 (okI_b _ rfl) ?_
    exact a_retzl (Or.inl rfl) dX3_product_9 h
-- X3_sum
abbrev aX3_sum (E : m_E) (l : Launch) (d : Nat) (z : Nat × Nat) (pc : Nat) (L : List (Nat × AV)) (st : List AV) (μ : Mm) (ρ : Option AV × Mm) : Prop := AA E l d z RX3 "sum" cX3_sum 4 (some .boolean) pc L st μ ρ
theorem tX3_sum_78 (E : m_E) (l : Launch) (z : Nat × Nat) (dr : Nat) (hdr : 12 ≤ dr) (rX3_sum : Int → Int → Mm → Option (Int × Mm)) (qX3_sum : ∀ (a0 a1 : Int) (μ : Mm) (t : Int × Mm), m_kd μ a0 = (3, 0) → rX3_sum a0 a1 μ = some t → TT E l dr yX3_sum cX3_sum 4 (some .boolean) [vr a0, vi a1] μ (rI t)) (N : Nat) (l0 : Int) (μ : Mm) (t : Int × Mm) (hk : m_kd μ l0 = (3, 0)) (h : jX3_sum_78 rX3_sum N l0 μ = some t) : aX3_sum E l (dr + 4) z 78 [(0, vr l0)] [] μ (rI t) := by
  unfold jX3_sum_78 at h
  refine a_iconst dX3_sum_78 (okI_b _ rfl) ?_
  exact a_retzl (Or.inl rfl) dX3_sum_79 h
theorem tX3_sum_49 (E : m_E) (l : Launch) (z : Nat × Nat) (dr : Nat) (hdr : 12 ≤ dr) (rX3_sum : Int → Int → Mm → Option (Int × Mm)) (qX3_sum : ∀ (a0 a1 : Int) (μ : Mm) (t : Int × Mm), m_kd μ a0 = (3, 0) → rX3_sum a0 a1 μ = some t → TT E l dr yX3_sum cX3_sum 4 (some .boolean) [vr a0, vi a1] μ (rI t)) (k12 : Int → Int → Int → Mm → Option (Int × Mm)) (p12 : ∀ (l0 l1 l2 : Int) (μ : Mm) (t : Int × Mm), m_kd μ l0 = (3, 0) → k12 l0 l1 l2 μ = some t → aX3_sum E l (dr + 4) z 12 [(0, vr l0), (1, vi l1), (2, vi l2)] [] μ (rI t)) (N : Nat) (l0 l1 l2 s0 : Int) (μ : Mm) (t : Int × Mm) (hk : m_kd μ l0 = (3, 0)) (h : jX3_sum_49 rX3_sum k12 N l0 l1 l2 s0 μ = some t) : aX3_sum E l (dr + 4) z 49 [(0, vr l0), (1, vi l1), (2, vi l2)] [vi s0] μ (rI t) := by
  unfold jX3_sum_49 at h
  refine a_istore_n (L' := [(3, vi s0), (0, vr l0), (1, vi l1), (2, vi l2)]) dX3_sum_49 rfl (by decide) rfl ?_
  refine a_iload_n 0 dX3_sum_50 rfl rfl ?_
  refine a_if_ne (tgt := 56) dX3_sum_51 rfl h (fun h => ?_) (fun h => ?_)
  ·
    refine a_aload_n 1 dX3_sum_56 rfl rfl ?_
    refine a_iload_n 2 dX3_sum_57 rfl rfl ?_
    refine a_cVi (c := 3) [vi l1] [] dX3_sum_58 myX3_product mRX3_159 mvX3_product rfl (by decide) hk (fun _ hj => tX3_product E l dr hdr rX3_sum qX3_sum N l0 l1 μ _ hk hj) (by omega) rfl (Nat.le_of_ble_eq_true rfl) h (fun x1 μ1 hm h => ?_)
    have hk := hm.k hk (by decide)
    refine a_if_eq (tgt := 78) dX3_sum_61 rfl h (fun h => ?_) (fun h => ?_)
    ·
      exact a_sub [1] rfl (tX3_sum_78 E l _ dr hdr rX3_sum qX3_sum N l0 μ1 t hk h)
    ·
      refine a_aload_n 1 dX3_sum_64 rfl rfl ?_
      refine a_getfr (c := 3) (i := 5) dX3_sum_65 fRX3_28 g3_5 rfl hk ?_
      refine m_chk_k h (fun hq14 h => ?_)
      refine a_getfr (c := 1) (i := 6) dX3_sum_68 fRX3_110 g1_6 rfl hq14 ?_
      refine a_iload_n 0 dX3_sum_71 rfl rfl ?_
      refine m_chk_k h (fun hq17 h => ?_)
      refine a_cVi (c := 0) [vi s0] [] dX3_sum_72 myX0_put mRX3_144 mvX0_put rfl (by decide) hq17 (fun _ hj => tX0_put E l N (m_gt μ1 (m_gt μ1 l0 5) 6) s0 μ1 _ hq17 hj) (by omega) rfl (Nat.le_of_ble_eq_true rfl) h (fun x2 μ2 hm h => ?_)
      have hk := hm.k hk (by decide)
      have hq14 := hm.k hq14 (by decide)
      have hq17 := hm.k hq17 (by decide)
      refine a_if_ne (tgt := 80) dX3_sum_75 rfl h (fun h => ?_) (fun h => ?_)
      ·
        refine a_iinc (F := fun x3 => [(2, vi x3), (3, vi s0), (0, vr l0), (1, vi l1)]) 3 dX3_sum_80 rfl (by decide) h (fun _ => rfl) (fun x3 h => ?_)
        refine a_goto (tgt := 12) dX3_sum_83 rfl ?_
        exact a_sub [2, 3, 0] rfl (p12 l0 l1 x3 μ2 t hk h)
      ·
        exact a_sub [1] rfl (tX3_sum_78 E l _ dr hdr rX3_sum qX3_sum N l0 μ2 t hk h)
  ·
    refine a_iconst dX3_sum_54 (okI_b _ rfl) ?_
    exact a_retzl (Or.inr rfl) dX3_sum_55 h
theorem tX3_sum_12b (E : m_E) (l : Launch) (z : Nat × Nat) (dr : Nat) (hdr : 12 ≤ dr) (rX3_sum : Int → Int → Mm → Option (Int × Mm)) (qX3_sum : ∀ (a0 a1 : Int) (μ : Mm) (t : Int × Mm), m_kd μ a0 = (3, 0) → rX3_sum a0 a1 μ = some t → TT E l dr yX3_sum cX3_sum 4 (some .boolean) [vr a0, vi a1] μ (rI t)) (k12 : Int → Int → Int → Mm → Option (Int × Mm)) (p12 : ∀ (l0 l1 l2 : Int) (μ : Mm) (t : Int × Mm), m_kd μ l0 = (3, 0) → k12 l0 l1 l2 μ = some t → aX3_sum E l (dr + 4) z 12 [(0, vr l0), (1, vi l1), (2, vi l2)] [] μ (rI t)) (N : Nat) (l0 l1 l2 : Int) (μ : Mm) (t : Int × Mm) (hk : m_kd μ l0 = (3, 0)) (h : jX3_sum_12b rX3_sum k12 N l0 l1 l2 μ = some t) : aX3_sum E l (dr + 4) z 12 [(0, vr l0), (1, vi l1), (2, vi l2)] [] μ (rI t) := by
  unfold jX3_sum_12b at h
  refine a_iload_n 2 dX3_sum_12 rfl rfl ?_
  refine a_aload_n 0 dX3_sum_13 rfl rfl ?_
  refine a_getfi (c := 3) (i := 3) dX3_sum_14 fRX3_22 g3_3 rfl hk ?_
  refine a_icmp_ge (tgt := 86) dX3_sum_17 rfl h (fun h => ?_) (fun h => ?_)
  ·
    refine a_iconst dX3_sum_86 (okI_b _ rfl) ?_
    exact a_retzl (Or.inr rfl) dX3_sum_87 h
  ·
    refine a_aload_n 0 dX3_sum_20 rfl rfl ?_
    refine a_bipush dX3_sum_21 ⟨rfl, okI_b _ rfl⟩ ?_
    refine a_cVi (c := 3) [vi 43] [] dX3_sum_23 myX3_takesSign mRX3_57 mvX3_takesSign rfl (by decide) hk (fun _ hj => tX3_takesSign E l N l0 43 μ _ hk hj) (by omega) rfl (Nat.le_of_ble_eq_true rfl) h (fun x1 μ1 hm h => ?_)
    have hk := hm.k hk (by decide)
    refine a_if_eq (tgt := 34) dX3_sum_26 rfl h (fun h => ?_) (fun h => ?_)
    ·
      refine a_aload_n 0 dX3_sum_34 rfl rfl ?_
      refine a_bipush dX3_sum_35 ⟨rfl, okI_b _ rfl⟩ ?_
      refine a_cVi (c := 3) [vi 45] [] dX3_sum_37 myX3_takesSign mRX3_57 mvX3_takesSign rfl (by decide) hk (fun _ hj => tX3_takesSign E l N l0 45 μ1 _ hk hj) (by omega) rfl (Nat.le_of_ble_eq_true rfl) h (fun x2 μ2 hm h => ?_)
      have hk := hm.k hk (by decide)
      refine a_if_eq (tgt := 48) dX3_sum_40 rfl h (fun h => ?_) (fun h => ?_)
      ·
        refine a_iconst dX3_sum_48 (okI_b _ rfl) ?_
        exact a_sub [0, 1, 2] rfl (tX3_sum_49 E l _ dr hdr rX3_sum qX3_sum k12 p12 N l0 l1 l2 0 μ2 t hk h)
      ·
        refine a_bipush dX3_sum_43 ⟨rfl, okI_b _ rfl⟩ ?_
        refine a_goto (tgt := 49) dX3_sum_45 rfl ?_
        exact a_sub [0, 1, 2] rfl (tX3_sum_49 E l _ dr hdr rX3_sum qX3_sum k12 p12 N l0 l1 l2 (-12) μ2 t hk h)
    ·
      refine a_bipush dX3_sum_29 ⟨rfl, okI_b _ rfl⟩ ?_
      refine a_goto (tgt := 49) dX3_sum_31 rfl ?_
      exact a_sub [0, 1, 2] rfl (tX3_sum_49 E l _ dr hdr rX3_sum qX3_sum k12 p12 N l0 l1 l2 (-11) μ1 t hk h)
theorem tX3_sum_12 (E : m_E) (l : Launch) (z : Nat × Nat) (dr : Nat) (hdr : 12 ≤ dr) (rX3_sum : Int → Int → Mm → Option (Int × Mm)) (qX3_sum : ∀ (a0 a1 : Int) (μ : Mm) (t : Int × Mm), m_kd μ a0 = (3, 0) → rX3_sum a0 a1 μ = some t → TT E l dr yX3_sum cX3_sum 4 (some .boolean) [vr a0, vi a1] μ (rI t)) (N : Nat) : ∀ (n : Nat) (l0 l1 l2 : Int) (μ : Mm) (t : Int × Mm), m_kd μ l0 = (3, 0) → jX3_sum_12 rX3_sum N n l0 l1 l2 μ = some t → aX3_sum E l (dr + 4) z 12 [(0, vr l0), (1, vi l1), (2, vi l2)] [] μ (rI t)
  | 0, _, _, _, _, _, _, h => by cases h
  | n + 1, l0, l1, l2, μ, t, hk, h => tX3_sum_12b E l z dr hdr rX3_sum qX3_sum (jX3_sum_12 rX3_sum N n) (tX3_sum_12 E l z dr hdr rX3_sum qX3_sum N n) N l0 l1 l2 μ t hk h
theorem tX3_sum_B (E : m_E) (l : Launch) (dr : Nat) (hdr : 12 ≤ dr) (rX3_sum : Int → Int → Mm → Option (Int × Mm)) (qX3_sum : ∀ (a0 a1 : Int) (μ : Mm) (t : Int × Mm), m_kd μ a0 = (3, 0) → rX3_sum a0 a1 μ = some t → TT E l dr yX3_sum cX3_sum 4 (some .boolean) [vr a0, vi a1] μ (rI t)) (N : Nat) (l0 l1 : Int) (μ : Mm) (t : Int × Mm) (hk : m_kd μ l0 = (3, 0)) (h : jX3_sum_B rX3_sum N l0 l1 μ = some t) : TT E l (dr + 4) yX3_sum cX3_sum 4 (some .boolean) [vr l0, vi l1] μ (rI t) := by
  refine tt_of (L := [(0, vr l0), (1, vi l1)]) (by decide +kernel) (Nat.le_of_ble_eq_true rfl) rfl ?_
  show aX3_sum E l (dr + 4) (m_sz μ, m_sl μ) 0 [(0, vr l0), (1, vi l1)] [] μ (rI t)
  unfold jX3_sum_B at h
  refine a_aload_n 0 dX3_sum_0 rfl rfl ?_
  refine a_iload_n 1 dX3_sum_1 rfl rfl ?_
  refine a_cVi (c := 3) [vi l1] [] dX3_sum_2 myX3_product mRX3_159 mvX3_product rfl (by decide) hk (fun _ hj => tX3_product E l dr hdr rX3_sum qX3_sum N l0 l1 μ _ hk hj) (by omega) rfl (Nat.le_of_ble_eq_true rfl) h (fun x1 μ1 hm h => ?_)
  have hk := hm.k hk (by decide)
  refine a_if_ne (tgt := 10) dX3_sum_5 rfl h (fun h => ?_) (fun h => ?_)
  ·
    refine a_iconst dX3_sum_10 (okI_b _ rfl) ?_
    refine a_istore_n (L' := [(2, vi 0), (0, vr l0), (1, vi l1)]) dX3_sum_11 rfl (by decide) rfl ?_
    exact a_sub [1, 2, 0] rfl (tX3_sum_12 E l _ dr hdr rX3_sum qX3_sum N N l0 l1 0 μ1 t hk h)
  ·
    refine a_iconst dX3_sum_8 (okI_b _ rfl) ?_
    exact a_retzl (Or.inl rfl) dX3_sum_9 h
theorem tX3_sum_n (E : m_E) (l : Launch) (N : Nat) : ∀ (n : Nat) (l0 l1 : Int) (μ : Mm) (t : Int × Mm), m_kd μ l0 = (3, 0) → jX3_sum N n l0 l1 μ = some t → TT E l (12 + 4 * n) yX3_sum cX3_sum 4 (some .boolean) [vr l0, vi l1] μ (rI t)
  | 0, _, _, _, _, _, h => by cases h
  | n + 1, l0, l1, μ, t, hk, h => tX3_sum_B E l (12 + 4 * n) (by omega) (jX3_sum N n) (tX3_sum_n E l N n) N l0 l1 μ t hk h
theorem tX3_sum (E : m_E) (l : Launch) (N n : Nat) (l0 l1 : Int) (μ : Mm) (t : Int × Mm) (hk : m_kd μ l0 = (3, 0)) (h : jX3_sum N 10 l0 l1 μ = some t) : TT E l 52 yX3_sum cX3_sum 4 (some .boolean) [vr l0, vi l1] μ (rI t) := tX3_sum_n E l N 10 l0 l1 μ t hk h
-- X3_both
abbrev aX3_both (E : m_E) (l : Launch) (d : Nat) (z : Nat × Nat) (pc : Nat) (L : List (Nat × AV)) (st : List AV) (μ : Mm) (ρ : Option AV × Mm) : Prop := AA E l d z RX3 "both" cX3_both 3 (some .boolean) pc L st μ ρ
theorem tX3_both_60 (E : m_E) (l : Launch) (z : Nat × Nat) (dr : Nat) (hdr : 53 ≤ dr) (rX3_fact : Int → Int → Mm → Option (Int × Mm)) (qX3_fact : ∀ (a0 a1 : Int) (μ : Mm) (t : Int × Mm), m_kd μ a0 = (3, 0) → rX3_fact a0 a1 μ = some t → TT E l dr yX3_fact cX3_fact 4 (some .boolean) [vr a0, vi a1] μ (rI t)) (N : Nat) (l0 : Int) (μ : Mm) (t : Int × Mm) (hk : m_kd μ l0 = (3, 0)) (h : jX3_both_60 rX3_fact N l0 μ = some t) : aX3_both E l (dr + 1) z 60 [(0, vr l0)] [] μ (rI t) := by
  unfold jX3_both_60 at h
  refine a_iconst dX3_both_60 (okI_b _ rfl) ?_
  exact a_retzl (Or.inr rfl) dX3_both_61 h
theorem tX3_both_52 (E : m_E) (l : Launch) (z : Nat × Nat) (dr : Nat) (hdr : 53 ≤ dr) (rX3_fact : Int → Int → Mm → Option (Int × Mm)) (qX3_fact : ∀ (a0 a1 : Int) (μ : Mm) (t : Int × Mm), m_kd μ a0 = (3, 0) → rX3_fact a0 a1 μ = some t → TT E l dr yX3_fact cX3_fact 4 (some .boolean) [vr a0, vi a1] μ (rI t)) (N : Nat) (l0 : Int) (μ : Mm) (t : Int × Mm) (hk : m_kd μ l0 = (3, 0)) (h : jX3_both_52 rX3_fact N l0 μ = some t) : aX3_both E l (dr + 1) z 52 [(0, vr l0)] [] μ (rI t) := by
  unfold jX3_both_52 at h
  refine a_iconst dX3_both_52 (okI_b _ rfl) ?_
  exact a_retzl (Or.inl rfl) dX3_both_53 h
theorem tX3_both_12b (E : m_E) (l : Launch) (z : Nat × Nat) (dr : Nat) (hdr : 53 ≤ dr) (rX3_fact : Int → Int → Mm → Option (Int × Mm)) (qX3_fact : ∀ (a0 a1 : Int) (μ : Mm) (t : Int × Mm), m_kd μ a0 = (3, 0) → rX3_fact a0 a1 μ = some t → TT E l dr yX3_fact cX3_fact 4 (some .boolean) [vr a0, vi a1] μ (rI t)) (k12 : Int → Int → Int → Mm → Option (Int × Mm)) (p12 : ∀ (l0 l1 l2 : Int) (μ : Mm) (t : Int × Mm), m_kd μ l0 = (3, 0) → k12 l0 l1 l2 μ = some t → aX3_both E l (dr + 1) z 12 [(0, vr l0), (1, vi l1), (2, vi l2)] [] μ (rI t)) (N : Nat) (l0 l1 l2 : Int) (μ : Mm) (t : Int × Mm) (hk : m_kd μ l0 = (3, 0)) (h : jX3_both_12b rX3_fact k12 N l0 l1 l2 μ = some t) : aX3_both E l (dr + 1) z 12 [(0, vr l0), (1, vi l1), (2, vi l2)] [] μ (rI t) := by
  unfold jX3_both_12b at h
  refine a_iload_n 2 dX3_both_12 rfl rfl ?_
  refine a_aload_n 0 dX3_both_13 rfl rfl ?_
  refine a_getfi (c := 3) (i := 3) dX3_both_14 fRX3_22 g3_3 rfl hk ?_
  refine a_icmp_ge (tgt := 60) dX3_both_17 rfl h (fun h => ?_) (fun h => ?_)
  ·
    exact a_sub [0] rfl (tX3_both_60 E l _ dr hdr rX3_fact qX3_fact N l0 μ t hk h)
  ·
    refine a_aload_n 0 dX3_both_20 rfl rfl ?_
    refine a_ldcS (i := 18) dX3_both_21 rfl rfl ?_
    refine a_cVi (c := 3) [vr (-28)] [] dX3_both_23 myX3_takes mRX3_63 mvX3_takes rfl (by decide) hk (fun _ hj => tX3_takes E l N l0 (-28) μ _ hk hj) (by omega) rfl (Nat.le_of_ble_eq_true rfl) h (fun x1 μ1 hm h => ?_)
    have hk := hm.k hk (by decide)
    refine a_if_eq (tgt := 60) dX3_both_26 rfl h (fun h => ?_) (fun h => ?_)
    ·
      exact a_sub [0] rfl (tX3_both_60 E l _ dr hdr rX3_fact qX3_fact N l0 μ1 t hk h)
    ·
      refine a_aload_n 0 dX3_both_29 rfl rfl ?_
      refine a_iload_n 1 dX3_both_30 rfl rfl ?_
      refine a_cVi (c := 3) [vi l1] [] dX3_both_31 myX3_fact mRX3_147 mvX3_fact rfl (by decide) hk (fun _ hj => qX3_fact l0 l1 μ1 _ hk hj) (by omega) rfl (Nat.le_of_ble_eq_true rfl) h (fun x2 μ2 hm h => ?_)
      have hk := hm.k hk (by decide)
      refine a_if_eq (tgt := 52) dX3_both_34 rfl h (fun h => ?_) (fun h => ?_)
      ·
        exact a_sub [0] rfl (tX3_both_52 E l _ dr hdr rX3_fact qX3_fact N l0 μ2 t hk h)
      ·
        refine a_aload_n 0 dX3_both_37 rfl rfl ?_
        refine a_getfr (c := 3) (i := 5) dX3_both_38 fRX3_28 g3_5 rfl hk ?_
        refine m_chk_k h (fun hq25 h => ?_)
        refine a_getfr (c := 1) (i := 6) dX3_both_41 fRX3_110 g1_6 rfl hq25 ?_
        refine a_bipush dX3_both_44 ⟨rfl, okI_b _ rfl⟩ ?_
        refine m_chk_k h (fun hq28 h => ?_)
        refine a_cVi (c := 0) [vi (-20)] [] dX3_both_46 myX0_put mRX3_144 mvX0_put rfl (by decide) hq28 (fun _ hj => tX0_put E l N (m_gt μ2 (m_gt μ2 l0 5) 6) (-20) μ2 _ hq28 hj) (by omega) rfl (Nat.le_of_ble_eq_true rfl) h (fun x3 μ3 hm h => ?_)
        have hk := hm.k hk (by decide)
        have hq25 := hm.k hq25 (by decide)
        have hq28 := hm.k hq28 (by decide)
        refine a_if_ne (tgt := 54) dX3_both_49 rfl h (fun h => ?_) (fun h => ?_)
        ·
          refine a_iinc (F := fun x4 => [(2, vi x4), (0, vr l0), (1, vi l1)]) 2 dX3_both_54 rfl (by decide) h (fun _ => rfl) (fun x4 h => ?_)
          refine a_goto (tgt := 12) dX3_both_57 rfl ?_
          exact a_sub [1, 2, 0] rfl (p12 l0 l1 x4 μ3 t hk h)
        ·
          exact a_sub [0] rfl (tX3_both_52 E l _ dr hdr rX3_fact qX3_fact N l0 μ3 t hk h)
theorem tX3_both_12 (E : m_E) (l : Launch) (z : Nat × Nat) (dr : Nat) (hdr : 53 ≤ dr) (rX3_fact : Int → Int → Mm → Option (Int × Mm)) (qX3_fact : ∀ (a0 a1 : Int) (μ : Mm) (t : Int × Mm), m_kd μ a0 = (3, 0) → rX3_fact a0 a1 μ = some t → TT E l dr yX3_fact cX3_fact 4 (some .boolean) [vr a0, vi a1] μ (rI t)) (N : Nat) : ∀ (n : Nat) (l0 l1 l2 : Int) (μ : Mm) (t : Int × Mm), m_kd μ l0 = (3, 0) → jX3_both_12 rX3_fact N n l0 l1 l2 μ = some t → aX3_both E l (dr + 1) z 12 [(0, vr l0), (1, vi l1), (2, vi l2)] [] μ (rI t)
  | 0, _, _, _, _, _, _, h => by cases h
  | n + 1, l0, l1, l2, μ, t, hk, h => tX3_both_12b E l z dr hdr rX3_fact qX3_fact (jX3_both_12 rX3_fact N n) (tX3_both_12 E l z dr hdr rX3_fact qX3_fact N n) N l0 l1 l2 μ t hk h
theorem tX3_both (E : m_E) (l : Launch) (dr : Nat) (hdr : 53 ≤ dr) (rX3_fact : Int → Int → Mm → Option (Int × Mm)) (qX3_fact : ∀ (a0 a1 : Int) (μ : Mm) (t : Int × Mm), m_kd μ a0 = (3, 0) → rX3_fact a0 a1 μ = some t → TT E l dr yX3_fact cX3_fact 4 (some .boolean) [vr a0, vi a1] μ (rI t)) (N : Nat) (l0 l1 : Int) (μ : Mm) (t : Int × Mm) (hk : m_kd μ l0 = (3, 0)) (h : jX3_both rX3_fact N l0 l1 μ = some t) : TT E l (dr + 1) yX3_both cX3_both 3 (some .boolean) [vr l0, vi l1] μ (rI t) := by
  refine tt_of (L := [(0, vr l0), (1, vi l1)]) (by decide +kernel) (Nat.le_of_ble_eq_true rfl) rfl ?_
  show aX3_both E l (dr + 1) (m_sz μ, m_sl μ) 0 [(0, vr l0), (1, vi l1)] [] μ (rI t)
  unfold jX3_both at h
  refine a_aload_n 0 dX3_both_0 rfl rfl ?_
  refine a_iload_n 1 dX3_both_1 rfl rfl ?_
  refine a_cVi (c := 3) [vi l1] [] dX3_both_2 myX3_fact mRX3_147 mvX3_fact rfl (by decide) hk (fun _ hj => qX3_fact l0 l1 μ _ hk hj) (by omega) rfl (Nat.le_of_ble_eq_true rfl) h (fun x1 μ1 hm h => ?_)
  have hk := hm.k hk (by decide)
  refine a_if_ne (tgt := 10) dX3_both_5 rfl h (fun h => ?_) (fun h => ?_)
  ·
    refine a_iconst dX3_both_10 (okI_b _ rfl) ?_
    refine a_istore_n (L' := [(2, vi 0), (0, vr l0), (1, vi l1)]) dX3_both_11 rfl (by decide) rfl ?_
    exact a_sub [1, 2, 0] rfl (tX3_both_12 E l _ dr hdr rX3_fact qX3_fact N N l0 l1 0 μ1 t hk h)
  ·
    refine a_iconst dX3_both_8 (okI_b _ rfl) ?_
    exact a_retzl (Or.inl rfl) dX3_both_9 h
-- X3_test
abbrev aX3_test (E : m_E) (l : Launch) (d : Nat) (z : Nat × Nat) (pc : Nat) (L : List (Nat × AV)) (st : List AV) (μ : Mm) (ρ : Option AV × Mm) : Prop := AA E l d z RX3 "test" cX3_test 3 (some .boolean) pc L st μ ρ
theorem tX3_test_60 (E : m_E) (l : Launch) (z : Nat × Nat) (dr : Nat) (hdr : 53 ≤ dr) (rX3_fact : Int → Int → Mm → Option (Int × Mm)) (qX3_fact : ∀ (a0 a1 : Int) (μ : Mm) (t : Int × Mm), m_kd μ a0 = (3, 0) → rX3_fact a0 a1 μ = some t → TT E l dr yX3_fact cX3_fact 4 (some .boolean) [vr a0, vi a1] μ (rI t)) (N : Nat) (l0 : Int) (μ : Mm) (t : Int × Mm) (hk : m_kd μ l0 = (3, 0)) (h : jX3_test_60 rX3_fact N l0 μ = some t) : aX3_test E l (dr + 2) z 60 [(0, vr l0)] [] μ (rI t) := by
  unfold jX3_test_60 at h
  refine a_iconst dX3_test_60 (okI_b _ rfl) ?_
  exact a_retzl (Or.inr rfl) dX3_test_61 h
theorem tX3_test_52 (E : m_E) (l : Launch) (z : Nat × Nat) (dr : Nat) (hdr : 53 ≤ dr) (rX3_fact : Int → Int → Mm → Option (Int × Mm)) (qX3_fact : ∀ (a0 a1 : Int) (μ : Mm) (t : Int × Mm), m_kd μ a0 = (3, 0) → rX3_fact a0 a1 μ = some t → TT E l dr yX3_fact cX3_fact 4 (some .boolean) [vr a0, vi a1] μ (rI t)) (N : Nat) (l0 : Int) (μ : Mm) (t : Int × Mm) (hk : m_kd μ l0 = (3, 0)) (h : jX3_test_52 rX3_fact N l0 μ = some t) : aX3_test E l (dr + 2) z 52 [(0, vr l0)] [] μ (rI t) := by
  unfold jX3_test_52 at h
  refine a_iconst dX3_test_52 (okI_b _ rfl) ?_
  exact a_retzl (Or.inl rfl) dX3_test_53 h
theorem tX3_test_12b (E : m_E) (l : Launch) (z : Nat × Nat) (dr : Nat) (hdr : 53 ≤ dr) (rX3_fact : Int → Int → Mm → Option (Int × Mm)) (qX3_fact : ∀ (a0 a1 : Int) (μ : Mm) (t : Int × Mm), m_kd μ a0 = (3, 0) → rX3_fact a0 a1 μ = some t → TT E l dr yX3_fact cX3_fact 4 (some .boolean) [vr a0, vi a1] μ (rI t)) (k12 : Int → Int → Int → Mm → Option (Int × Mm)) (p12 : ∀ (l0 l1 l2 : Int) (μ : Mm) (t : Int × Mm), m_kd μ l0 = (3, 0) → k12 l0 l1 l2 μ = some t → aX3_test E l (dr + 2) z 12 [(0, vr l0), (1, vi l1), (2, vi l2)] [] μ (rI t)) (N : Nat) (l0 l1 l2 : Int) (μ : Mm) (t : Int × Mm) (hk : m_kd μ l0 = (3, 0)) (h : jX3_test_12b rX3_fact k12 N l0 l1 l2 μ = some t) : aX3_test E l (dr + 2) z 12 [(0, vr l0), (1, vi l1), (2, vi l2)] [] μ (rI t) := by
  unfold jX3_test_12b at h
  refine a_iload_n 2 dX3_test_12 rfl rfl ?_
  refine a_aload_n 0 dX3_test_13 rfl rfl ?_
  refine a_getfi (c := 3) (i := 3) dX3_test_14 fRX3_22 g3_3 rfl hk ?_
  refine a_icmp_ge (tgt := 60) dX3_test_17 rfl h (fun h => ?_) (fun h => ?_)
  ·
    exact a_sub [0] rfl (tX3_test_60 E l _ dr hdr rX3_fact qX3_fact N l0 μ t hk h)
  ·
    refine a_aload_n 0 dX3_test_20 rfl rfl ?_
    refine a_ldcS (i := 19) dX3_test_21 rfl rfl ?_
    refine a_cVi (c := 3) [vr (-29)] [] dX3_test_23 myX3_takes mRX3_63 mvX3_takes rfl (by decide) hk (fun _ hj => tX3_takes E l N l0 (-29) μ _ hk hj) (by omega) rfl (Nat.le_of_ble_eq_true rfl) h (fun x1 μ1 hm h => ?_)
    have hk := hm.k hk (by decide)
    refine a_if_eq (tgt := 60) dX3_test_26 rfl h (fun h => ?_) (fun h => ?_)
    ·
      exact a_sub [0] rfl (tX3_test_60 E l _ dr hdr rX3_fact qX3_fact N l0 μ1 t hk h)
    ·
      refine a_aload_n 0 dX3_test_29 rfl rfl ?_
      refine a_iload_n 1 dX3_test_30 rfl rfl ?_
      refine a_cVi (c := 3) [vi l1] [] dX3_test_31 myX3_both mRX3_139 mvX3_both rfl (by decide) hk (fun _ hj => tX3_both E l dr hdr rX3_fact qX3_fact N l0 l1 μ1 _ hk hj) (by omega) rfl (Nat.le_of_ble_eq_true rfl) h (fun x2 μ2 hm h => ?_)
      have hk := hm.k hk (by decide)
      refine a_if_eq (tgt := 52) dX3_test_34 rfl h (fun h => ?_) (fun h => ?_)
      ·
        exact a_sub [0] rfl (tX3_test_52 E l _ dr hdr rX3_fact qX3_fact N l0 μ2 t hk h)
      ·
        refine a_aload_n 0 dX3_test_37 rfl rfl ?_
        refine a_getfr (c := 3) (i := 5) dX3_test_38 fRX3_28 g3_5 rfl hk ?_
        refine m_chk_k h (fun hq25 h => ?_)
        refine a_getfr (c := 1) (i := 6) dX3_test_41 fRX3_110 g1_6 rfl hq25 ?_
        refine a_bipush dX3_test_44 ⟨rfl, okI_b _ rfl⟩ ?_
        refine m_chk_k h (fun hq28 h => ?_)
        refine a_cVi (c := 0) [vi (-21)] [] dX3_test_46 myX0_put mRX3_144 mvX0_put rfl (by decide) hq28 (fun _ hj => tX0_put E l N (m_gt μ2 (m_gt μ2 l0 5) 6) (-21) μ2 _ hq28 hj) (by omega) rfl (Nat.le_of_ble_eq_true rfl) h (fun x3 μ3 hm h => ?_)
        have hk := hm.k hk (by decide)
        have hq25 := hm.k hq25 (by decide)
        have hq28 := hm.k hq28 (by decide)
        refine a_if_ne (tgt := 54) dX3_test_49 rfl h (fun h => ?_) (fun h => ?_)
        ·
          refine a_iinc (F := fun x4 => [(2, vi x4), (0, vr l0), (1, vi l1)]) 2 dX3_test_54 rfl (by decide) h (fun _ => rfl) (fun x4 h => ?_)
          refine a_goto (tgt := 12) dX3_test_57 rfl ?_
          exact a_sub [1, 2, 0] rfl (p12 l0 l1 x4 μ3 t hk h)
        ·
          exact a_sub [0] rfl (tX3_test_52 E l _ dr hdr rX3_fact qX3_fact N l0 μ3 t hk h)
theorem tX3_test_12 (E : m_E) (l : Launch) (z : Nat × Nat) (dr : Nat) (hdr : 53 ≤ dr) (rX3_fact : Int → Int → Mm → Option (Int × Mm)) (qX3_fact : ∀ (a0 a1 : Int) (μ : Mm) (t : Int × Mm), m_kd μ a0 = (3, 0) → rX3_fact a0 a1 μ = some t → TT E l dr yX3_fact cX3_fact 4 (some .boolean) [vr a0, vi a1] μ (rI t)) (N : Nat) : ∀ (n : Nat) (l0 l1 l2 : Int) (μ : Mm) (t : Int × Mm), m_kd μ l0 = (3, 0) → jX3_test_12 rX3_fact N n l0 l1 l2 μ = some t → aX3_test E l (dr + 2) z 12 [(0, vr l0), (1, vi l1), (2, vi l2)] [] μ (rI t)
  | 0, _, _, _, _, _, _, h => by cases h
  | n + 1, l0, l1, l2, μ, t, hk, h => tX3_test_12b E l z dr hdr rX3_fact qX3_fact (jX3_test_12 rX3_fact N n) (tX3_test_12 E l z dr hdr rX3_fact qX3_fact N n) N l0 l1 l2 μ t hk h
theorem tX3_test (E : m_E) (l : Launch) (dr : Nat) (hdr : 53 ≤ dr) (rX3_fact : Int → Int → Mm → Option (Int × Mm)) (qX3_fact : ∀ (a0 a1 : Int) (μ : Mm) (t : Int × Mm), m_kd μ a0 = (3, 0) → rX3_fact a0 a1 μ = some t → TT E l dr yX3_fact cX3_fact 4 (some .boolean) [vr a0, vi a1] μ (rI t)) (N : Nat) (l0 l1 : Int) (μ : Mm) (t : Int × Mm) (hk : m_kd μ l0 = (3, 0)) (h : jX3_test rX3_fact N l0 l1 μ = some t) : TT E l (dr + 2) yX3_test cX3_test 3 (some .boolean) [vr l0, vi l1] μ (rI t) := by
  refine tt_of (L := [(0, vr l0), (1, vi l1)]) (by decide +kernel) (Nat.le_of_ble_eq_true rfl) rfl ?_
  show aX3_test E l (dr + 2) (m_sz μ, m_sl μ) 0 [(0, vr l0), (1, vi l1)] [] μ (rI t)
  unfold jX3_test at h
  refine a_aload_n 0 dX3_test_0 rfl rfl ?_
  refine a_iload_n 1 dX3_test_1 rfl rfl ?_
  refine a_cVi (c := 3) [vi l1] [] dX3_test_2 myX3_both mRX3_139 mvX3_both rfl (by decide) hk (fun _ hj => tX3_both E l dr hdr rX3_fact qX3_fact N l0 l1 μ _ hk hj) (by omega) rfl (Nat.le_of_ble_eq_true rfl) h (fun x1 μ1 hm h => ?_)
  have hk := hm.k hk (by decide)
  refine a_if_ne (tgt := 10) dX3_test_5 rfl h (fun h => ?_) (fun h => ?_)
  ·
    refine a_iconst dX3_test_10 (okI_b _ rfl) ?_
    refine a_istore_n (L' := [(2, vi 0), (0, vr l0), (1, vi l1)]) dX3_test_11 rfl (by decide) rfl ?_
    exact a_sub [1, 2, 0] rfl (tX3_test_12 E l _ dr hdr rX3_fact qX3_fact N N l0 l1 0 μ1 t hk h)
  ·
    refine a_iconst dX3_test_8 (okI_b _ rfl) ?_
    exact a_retzl (Or.inl rfl) dX3_test_9 h
-- X3_fact
abbrev aX3_fact (E : m_E) (l : Launch) (d : Nat) (z : Nat × Nat) (pc : Nat) (L : List (Nat × AV)) (st : List AV) (μ : Mm) (ρ : Option AV × Mm) : Prop := AA E l d z RX3 "fact" cX3_fact 4 (some .boolean) pc L st μ ρ
theorem tX3_fact_225 (E : m_E) (l : Launch) (z : Nat × Nat) (dr : Nat) (hdr : 53 ≤ dr) (rX3_fact : Int → Int → Mm → Option (Int × Mm)) (qX3_fact : ∀ (a0 a1 : Int) (μ : Mm) (t : Int × Mm), m_kd μ a0 = (3, 0) → rX3_fact a0 a1 μ = some t → TT E l dr yX3_fact cX3_fact 4 (some .boolean) [vr a0, vi a1] μ (rI t)) (N : Nat) (l0 s0 : Int) (μ : Mm) (t : Int × Mm) (hk : m_kd μ l0 = (3, 0)) (h : jX3_fact_225 rX3_fact N l0 s0 μ = some t) : aX3_fact E l (dr + 3) z 225 [(0, vr l0)] [vi s0] μ (rI t) := by
  unfold jX3_fact_225 at h
  exact a_retz dX3_fact_225 h
theorem tX3_fact_224 (E : m_E) (l : Launch) (z : Nat × Nat) (dr : Nat) (hdr : 53 ≤ dr) (rX3_fact : Int → Int → Mm → Option (Int × Mm)) (qX3_fact : ∀ (a0 a1 : Int) (μ : Mm) (t : Int × Mm), m_kd μ a0 = (3, 0) → rX3_fact a0 a1 μ = some t → TT E l dr yX3_fact cX3_fact 4 (some .boolean) [vr a0, vi a1] μ (rI t)) (N : Nat) (l0 : Int) (μ : Mm) (t : Int × Mm) (hk : m_kd μ l0 = (3, 0)) (h : jX3_fact_224 rX3_fact N l0 μ = some t) : aX3_fact E l (dr + 3) z 224 [(0, vr l0)] [] μ (rI t) := by
  unfold jX3_fact_224 at h
  refine a_iconst dX3_fact_224 (okI_b _ rfl) ?_
  exact a_sub [0] rfl (tX3_fact_225 E l _ dr hdr rX3_fact qX3_fact N l0 0 μ t hk h)
theorem tX3_fact_183 (E : m_E) (l : Launch) (z : Nat × Nat) (dr : Nat) (hdr : 53 ≤ dr) (rX3_fact : Int → Int → Mm → Option (Int × Mm)) (qX3_fact : ∀ (a0 a1 : Int) (μ : Mm) (t : Int × Mm), m_kd μ a0 = (3, 0) → rX3_fact a0 a1 μ = some t → TT E l dr yX3_fact cX3_fact 4 (some .boolean) [vr a0, vi a1] μ (rI t)) (N : Nat) (l0 l1 s0 : Int) (μ : Mm) (t : Int × Mm) (hk : m_kd μ l0 = (3, 0)) (h : jX3_fact_183 rX3_fact N l0 l1 s0 μ = some t) : aX3_fact E l (dr + 3) z 183 [(0, vr l0), (1, vi l1)] [vi s0] μ (rI t) := by
  unfold jX3_fact_183 at h
  refine a_istore_n (L' := [(3, vi s0), (0, vr l0), (1, vi l1)]) dX3_fact_183 rfl (by decide) rfl ?_
  refine a_iload_n 0 dX3_fact_184 rfl rfl ?_
  refine a_if_ne (tgt := 198) dX3_fact_185 rfl h (fun h => ?_) (fun h => ?_)
  ·
    refine a_aload_n 1 dX3_fact_198 rfl rfl ?_
    refine a_iload_n 2 dX3_fact_199 rfl rfl ?_
    refine a_cVi (c := 3) [vi l1] [] dX3_fact_200 myX3_sum mRX3_120 mvX3_sum rfl (by decide) hk (fun _ hj => tX3_sum E l N 10 l0 l1 μ _ hk hj) (by omega) rfl (Nat.le_of_ble_eq_true rfl) h (fun x1 μ1 hm h => ?_)
    have hk := hm.k hk (by decide)
    refine a_if_eq (tgt := 224) dX3_fact_203 rfl h (fun h => ?_) (fun h => ?_)
    ·
      exact a_sub [1] rfl (tX3_fact_224 E l _ dr hdr rX3_fact qX3_fact N l0 μ1 t hk h)
    ·
      refine a_aload_n 1 dX3_fact_206 rfl rfl ?_
      refine a_getfr (c := 3) (i := 5) dX3_fact_207 fRX3_28 g3_5 rfl hk ?_
      refine m_chk_k h (fun hq14 h => ?_)
      refine a_getfr (c := 1) (i := 6) dX3_fact_210 fRX3_110 g1_6 rfl hq14 ?_
      refine a_iload_n 0 dX3_fact_213 rfl rfl ?_
      refine m_chk_k h (fun hq17 h => ?_)
      refine a_cVi (c := 0) [vi s0] [] dX3_fact_214 myX0_put mRX3_144 mvX0_put rfl (by decide) hq17 (fun _ hj => tX0_put E l N (m_gt μ1 (m_gt μ1 l0 5) 6) s0 μ1 _ hq17 hj) (by omega) rfl (Nat.le_of_ble_eq_true rfl) h (fun x2 μ2 hm h => ?_)
      have hk := hm.k hk (by decide)
      have hq14 := hm.k hq14 (by decide)
      have hq17 := hm.k hq17 (by decide)
      refine a_if_eq (tgt := 224) dX3_fact_217 rfl h (fun h => ?_) (fun h => ?_)
      ·
        exact a_sub [1] rfl (tX3_fact_224 E l _ dr hdr rX3_fact qX3_fact N l0 μ2 t hk h)
      ·
        refine a_iconst dX3_fact_220 (okI_b _ rfl) ?_
        refine a_goto (tgt := 225) dX3_fact_221 rfl ?_
        exact a_sub [1] rfl (tX3_fact_225 E l _ dr hdr rX3_fact qX3_fact N l0 1 μ2 t hk h)
  ·
    refine a_aload_n 1 dX3_fact_188 rfl rfl ?_
    refine a_iconst dX3_fact_189 (okI_b _ rfl) ?_
    refine a_aload_n 1 dX3_fact_190 rfl rfl ?_
    refine a_getfi (c := 3) (i := 4) dX3_fact_191 fRX3_25 g3_4 rfl hk ?_
    refine a_cVi (c := 3) [vi 1, vi (m_gt μ l0 4)] [] dX3_fact_194 myX3_fail mRX3_49 mvX3_fail rfl (by decide) hk (fun _ hj => tX3_fail E l N l0 1 (m_gt μ l0 4) μ _ hk hj) (by omega) rfl (Nat.le_of_ble_eq_true rfl) h (fun x3 μ3 hm h => ?_)
    have hk := hm.k hk (by decide)
    exact a_retz dX3_fact_197 h
theorem tX3_fact_108 (E : m_E) (l : Launch) (z : Nat × Nat) (dr : Nat) (hdr : 53 ≤ dr) (rX3_fact : Int → Int → Mm → Option (Int × Mm)) (qX3_fact : ∀ (a0 a1 : Int) (μ : Mm) (t : Int × Mm), m_kd μ a0 = (3, 0) → rX3_fact a0 a1 μ = some t → TT E l dr yX3_fact cX3_fact 4 (some .boolean) [vr a0, vi a1] μ (rI t)) (N : Nat) (l0 s0 : Int) (μ : Mm) (t : Int × Mm) (hk : m_kd μ l0 = (3, 0)) (h : jX3_fact_108 rX3_fact N l0 s0 μ = some t) : aX3_fact E l (dr + 3) z 108 [(0, vr l0)] [vi s0] μ (rI t) := by
  unfold jX3_fact_108 at h
  exact a_retz dX3_fact_108 h
theorem tX3_fact_103 (E : m_E) (l : Launch) (z : Nat × Nat) (dr : Nat) (hdr : 53 ≤ dr) (rX3_fact : Int → Int → Mm → Option (Int × Mm)) (qX3_fact : ∀ (a0 a1 : Int) (μ : Mm) (t : Int × Mm), m_kd μ a0 = (3, 0) → rX3_fact a0 a1 μ = some t → TT E l dr yX3_fact cX3_fact 4 (some .boolean) [vr a0, vi a1] μ (rI t)) (N : Nat) (l0 : Int) (μ : Mm) (t : Int × Mm) (hk : m_kd μ l0 = (3, 0)) (h : jX3_fact_103 rX3_fact N l0 μ = some t) : aX3_fact E l (dr + 3) z 103 [(0, vr l0)] [] μ (rI t) := by
  unfold jX3_fact_103 at h
  refine a_iconst dX3_fact_103 (okI_b _ rfl) ?_
  refine a_goto (tgt := 108) dX3_fact_104 rfl ?_
  exact a_sub [0] rfl (tX3_fact_108 E l _ dr hdr rX3_fact qX3_fact N l0 1 μ t hk h)
theorem tX3_fact_91 (E : m_E) (l : Launch) (z : Nat × Nat) (dr : Nat) (hdr : 53 ≤ dr) (rX3_fact : Int → Int → Mm → Option (Int × Mm)) (qX3_fact : ∀ (a0 a1 : Int) (μ : Mm) (t : Int × Mm), m_kd μ a0 = (3, 0) → rX3_fact a0 a1 μ = some t → TT E l dr yX3_fact cX3_fact 4 (some .boolean) [vr a0, vi a1] μ (rI t)) (N : Nat) (l0 : Int) (μ : Mm) (t : Int × Mm) (hk : m_kd μ l0 = (3, 0)) (h : jX3_fact_91 rX3_fact N l0 μ = some t) : aX3_fact E l (dr + 3) z 91 [(0, vr l0)] [] μ (rI t) := by
  unfold jX3_fact_91 at h
  refine a_aload_n 0 dX3_fact_91 rfl rfl ?_
  refine a_iconst dX3_fact_92 (okI_b _ rfl) ?_
  refine a_aload_n 0 dX3_fact_93 rfl rfl ?_
  refine a_getfi (c := 3) (i := 4) dX3_fact_94 fRX3_25 g3_4 rfl hk ?_
  refine a_cVi (c := 3) [vi 1, vi (m_gt μ l0 4)] [] dX3_fact_97 myX3_fail mRX3_49 mvX3_fail rfl (by decide) hk (fun _ hj => tX3_fail E l N l0 1 (m_gt μ l0 4) μ _ hk hj) (by omega) rfl (Nat.le_of_ble_eq_true rfl) h (fun x1 μ1 hm h => ?_)
  have hk := hm.k hk (by decide)
  refine a_if_eq (tgt := 107) dX3_fact_100 rfl h (fun h => ?_) (fun h => ?_)
  ·
    refine a_iconst dX3_fact_107 (okI_b _ rfl) ?_
    exact a_sub [0] rfl (tX3_fact_108 E l _ dr hdr rX3_fact qX3_fact N l0 0 μ1 t hk h)
  ·
    exact a_sub [0] rfl (tX3_fact_103 E l _ dr hdr rX3_fact qX3_fact N l0 μ1 t hk h)
theorem tX3_fact_53 (E : m_E) (l : Launch) (z : Nat × Nat) (dr : Nat) (hdr : 53 ≤ dr) (rX3_fact : Int → Int → Mm → Option (Int × Mm)) (qX3_fact : ∀ (a0 a1 : Int) (μ : Mm) (t : Int × Mm), m_kd μ a0 = (3, 0) → rX3_fact a0 a1 μ = some t → TT E l dr yX3_fact cX3_fact 4 (some .boolean) [vr a0, vi a1] μ (rI t)) (N : Nat) (l0 s0 : Int) (μ : Mm) (t : Int × Mm) (hk : m_kd μ l0 = (3, 0)) (h : jX3_fact_53 rX3_fact N l0 s0 μ = some t) : aX3_fact E l (dr + 3) z 53 [(0, vr l0)] [vi s0] μ (rI t) := by
  unfold jX3_fact_53 at h
  exact a_retz dX3_fact_53 h
theorem tX3_fact_52 (E : m_E) (l : Launch) (z : Nat × Nat) (dr : Nat) (hdr : 53 ≤ dr) (rX3_fact : Int → Int → Mm → Option (Int × Mm)) (qX3_fact : ∀ (a0 a1 : Int) (μ : Mm) (t : Int × Mm), m_kd μ a0 = (3, 0) → rX3_fact a0 a1 μ = some t → TT E l dr yX3_fact cX3_fact 4 (some .boolean) [vr a0, vi a1] μ (rI t)) (N : Nat) (l0 : Int) (μ : Mm) (t : Int × Mm) (hk : m_kd μ l0 = (3, 0)) (h : jX3_fact_52 rX3_fact N l0 μ = some t) : aX3_fact E l (dr + 3) z 52 [(0, vr l0)] [] μ (rI t) := by
  unfold jX3_fact_52 at h
  refine a_iconst dX3_fact_52 (okI_b _ rfl) ?_
  exact a_sub [0] rfl (tX3_fact_53 E l _ dr hdr rX3_fact qX3_fact N l0 0 μ t hk h)
theorem tX3_fact_B (E : m_E) (l : Launch) (dr : Nat) (hdr : 53 ≤ dr) (rX3_fact : Int → Int → Mm → Option (Int × Mm)) (qX3_fact : ∀ (a0 a1 : Int) (μ : Mm) (t : Int × Mm), m_kd μ a0 = (3, 0) → rX3_fact a0 a1 μ = some t → TT E l dr yX3_fact cX3_fact 4 (some .boolean) [vr a0, vi a1] μ (rI t)) (N : Nat) (l0 l1 : Int) (μ : Mm) (t : Int × Mm) (hk : m_kd μ l0 = (3, 0)) (h : jX3_fact_B rX3_fact N l0 l1 μ = some t) : TT E l (dr + 3) yX3_fact cX3_fact 4 (some .boolean) [vr l0, vi l1] μ (rI t) := by
  refine tt_of (L := [(0, vr l0), (1, vi l1)]) (by decide +kernel) (Nat.le_of_ble_eq_true rfl) rfl ?_
  show aX3_fact E l (dr + 3) (m_sz μ, m_sl μ) 0 [(0, vr l0), (1, vi l1)] [] μ (rI t)
  unfold jX3_fact_B at h
  refine a_aload_n 0 dX3_fact_0 rfl rfl ?_
  refine a_getfi (c := 3) (i := 4) dX3_fact_1 fRX3_25 g3_4 rfl hk ?_
  refine a_nmi h (fun x1 h => ?_)
  refine a_istore_n (L' := [(2, vi x1), (0, vr l0), (1, vi l1)]) dX3_fact_4 rfl (by decide) rfl ?_
  refine a_aload_n 1 dX3_fact_5 rfl rfl ?_
  refine a_ldcS (i := 16) dX3_fact_6 rfl rfl ?_
  refine a_cVi (c := 3) [vr (-26)] [] dX3_fact_8 myX3_takes mRX3_63 mvX3_takes rfl (by decide) hk (fun _ hj => tX3_takes E l N l0 (-26) μ _ hk hj) (by omega) rfl (Nat.le_of_ble_eq_true rfl) h (fun x2 μ1 hm h => ?_)
  have hk := hm.k hk (by decide)
  refine a_if_eq (tgt := 54) dX3_fact_11 rfl h (fun h => ?_) (fun h => ?_)
  ·
    refine a_aload_n 1 dX3_fact_54 rfl rfl ?_
    refine a_bipush dX3_fact_55 ⟨rfl, okI_b _ rfl⟩ ?_
    refine a_cVi (c := 3) [vi 91] [] dX3_fact_57 myX3_takesSign mRX3_57 mvX3_takesSign rfl (by decide) hk (fun _ hj => tX3_takesSign E l N l0 91 μ1 _ hk hj) (by omega) rfl (Nat.le_of_ble_eq_true rfl) h (fun x3 μ2 hm h => ?_)
    have hk := hm.k hk (by decide)
    refine a_if_eq (tgt := 109) dX3_fact_60 rfl h (fun h => ?_) (fun h => ?_)
    ·
      refine a_aload_n 1 dX3_fact_109 rfl rfl ?_
      refine a_ldcS (i := 17) dX3_fact_110 rfl rfl ?_
      refine a_cVi (c := 3) [vr (-27)] [] dX3_fact_112 myX3_takes mRX3_63 mvX3_takes rfl (by decide) hk (fun _ hj => tX3_takes E l N l0 (-27) μ2 _ hk hj) (by omega) rfl (Nat.le_of_ble_eq_true rfl) h (fun x4 μ3 hm h => ?_)
      have hk := hm.k hk (by decide)
      refine a_if_eq (tgt := 130) dX3_fact_115 rfl h (fun h => ?_) (fun h => ?_)
      ·
        refine a_aload_n 1 dX3_fact_130 rfl rfl ?_
        refine a_iload_n 2 dX3_fact_131 rfl rfl ?_
        refine a_cVi (c := 3) [vi l1] [] dX3_fact_132 myX3_sum mRX3_120 mvX3_sum rfl (by decide) hk (fun _ hj => tX3_sum E l N 10 l0 l1 μ3 _ hk hj) (by omega) rfl (Nat.le_of_ble_eq_true rfl) h (fun x5 μ4 hm h => ?_)
        have hk := hm.k hk (by decide)
        refine a_if_ne (tgt := 140) dX3_fact_135 rfl h (fun h => ?_) (fun h => ?_)
        ·
          refine a_aload_n 1 dX3_fact_140 rfl rfl ?_
          refine a_bipush dX3_fact_141 ⟨rfl, okI_b _ rfl⟩ ?_
          refine a_cVi (c := 3) [vi 60] [] dX3_fact_143 myX3_takesSign mRX3_57 mvX3_takesSign rfl (by decide) hk (fun _ hj => tX3_takesSign E l N l0 60 μ4 _ hk hj) (by omega) rfl (Nat.le_of_ble_eq_true rfl) h (fun x6 μ5 hm h => ?_)
          have hk := hm.k hk (by decide)
          refine a_if_eq (tgt := 154) dX3_fact_146 rfl h (fun h => ?_) (fun h => ?_)
          ·
            refine a_aload_n 1 dX3_fact_154 rfl rfl ?_
            refine a_bipush dX3_fact_155 ⟨rfl, okI_b _ rfl⟩ ?_
            refine a_cVi (c := 3) [vi 62] [] dX3_fact_157 myX3_takesSign mRX3_57 mvX3_takesSign rfl (by decide) hk (fun _ hj => tX3_takesSign E l N l0 62 μ5 _ hk hj) (by omega) rfl (Nat.le_of_ble_eq_true rfl) h (fun x7 μ6 hm h => ?_)
            have hk := hm.k hk (by decide)
            refine a_if_eq (tgt := 168) dX3_fact_160 rfl h (fun h => ?_) (fun h => ?_)
            ·
              refine a_aload_n 1 dX3_fact_168 rfl rfl ?_
              refine a_bipush dX3_fact_169 ⟨rfl, okI_b _ rfl⟩ ?_
              refine a_cVi (c := 3) [vi 61] [] dX3_fact_171 myX3_takesSign mRX3_57 mvX3_takesSign rfl (by decide) hk (fun _ hj => tX3_takesSign E l N l0 61 μ6 _ hk hj) (by omega) rfl (Nat.le_of_ble_eq_true rfl) h (fun x8 μ7 hm h => ?_)
              have hk := hm.k hk (by decide)
              refine a_if_eq (tgt := 182) dX3_fact_174 rfl h (fun h => ?_) (fun h => ?_)
              ·
                refine a_iconst dX3_fact_182 (okI_b _ rfl) ?_
                exact a_sub [1, 2] rfl (tX3_fact_183 E l _ dr hdr rX3_fact qX3_fact N l0 l1 0 μ7 t hk h)
              ·
                refine a_bipush dX3_fact_177 ⟨rfl, okI_b _ rfl⟩ ?_
                refine a_goto (tgt := 183) dX3_fact_179 rfl ?_
                exact a_sub [1, 2] rfl (tX3_fact_183 E l _ dr hdr rX3_fact qX3_fact N l0 l1 (-19) μ7 t hk h)
            ·
              refine a_bipush dX3_fact_163 ⟨rfl, okI_b _ rfl⟩ ?_
              refine a_goto (tgt := 183) dX3_fact_165 rfl ?_
              exact a_sub [1, 2] rfl (tX3_fact_183 E l _ dr hdr rX3_fact qX3_fact N l0 l1 (-18) μ6 t hk h)
          ·
            refine a_bipush dX3_fact_149 ⟨rfl, okI_b _ rfl⟩ ?_
            refine a_goto (tgt := 183) dX3_fact_151 rfl ?_
            exact a_sub [1, 2] rfl (tX3_fact_183 E l _ dr hdr rX3_fact qX3_fact N l0 l1 (-17) μ5 t hk h)
        ·
          refine a_iconst dX3_fact_138 (okI_b _ rfl) ?_
          exact a_retzl (Or.inl rfl) dX3_fact_139 h
      ·
        refine a_aload_n 1 dX3_fact_118 rfl rfl ?_
        refine a_getfr (c := 3) (i := 5) dX3_fact_119 fRX3_28 g3_5 rfl hk ?_
        refine m_chk_k h (fun hq66 h => ?_)
        refine a_getfr (c := 1) (i := 6) dX3_fact_122 fRX3_110 g1_6 rfl hq66 ?_
        refine a_iconst dX3_fact_125 (okI_b _ rfl) ?_
        refine m_chk_k h (fun hq69 h => ?_)
        refine a_cVi (c := 0) [vi 1] [] dX3_fact_126 myX0_put mRX3_144 mvX0_put rfl (by decide) hq69 (fun _ hj => tX0_put E l N (m_gt μ3 (m_gt μ3 l0 5) 6) 1 μ3 _ hq69 hj) (by omega) rfl (Nat.le_of_ble_eq_true rfl) h (fun x9 μ8 hm h => ?_)
        have hk := hm.k hk (by decide)
        have hq66 := hm.k hq66 (by decide)
        have hq69 := hm.k hq69 (by decide)
        exact a_retz dX3_fact_129 h
    ·
      refine a_aload_n 1 dX3_fact_63 rfl rfl ?_
      refine a_iload_n 2 dX3_fact_64 rfl rfl ?_
      refine a_iload_n 0 dX3_fact_65 rfl rfl ?_
      refine a_cVi (c := 3) [vi l1, vi x1] [] dX3_fact_66 myX3_mayOpen mRX3_154 mvX3_mayOpen rfl (by decide) hk (fun _ hj => tX3_mayOpen E l N l0 l1 x1 μ2 _ hk hj) (by omega) rfl (Nat.le_of_ble_eq_true rfl) h (fun x10 μ9 hm h => ?_)
      have hk := hm.k hk (by decide)
      refine a_if_eq (tgt := 91) dX3_fact_69 rfl h (fun h => ?_) (fun h => ?_)
      ·
        exact a_sub [1] rfl (tX3_fact_91 E l _ dr hdr rX3_fact qX3_fact N l0 μ9 t hk h)
      ·
        refine a_aload_n 1 dX3_fact_72 rfl rfl ?_
        refine a_iload_n 2 dX3_fact_73 rfl rfl ?_
        refine a_iconst dX3_fact_74 (okI_b _ rfl) ?_
        refine a_iadd dX3_fact_75 ?_
        refine a_cVi (c := 3) [vi (i_add l1 1)] [] dX3_fact_76 myX3_test mRX3_126 mvX3_test rfl (by decide) hk (fun _ hj => tX3_test E l dr hdr rX3_fact qX3_fact N l0 (i_add l1 1) μ9 _ hk hj) (by omega) rfl (Nat.le_of_ble_eq_true rfl) h (fun x11 μ10 hm h => ?_)
        have hk := hm.k hk (by decide)
        refine a_if_eq (tgt := 91) dX3_fact_79 rfl h (fun h => ?_) (fun h => ?_)
        ·
          exact a_sub [1] rfl (tX3_fact_91 E l _ dr hdr rX3_fact qX3_fact N l0 μ10 t hk h)
        ·
          refine a_aload_n 1 dX3_fact_82 rfl rfl ?_
          refine a_bipush dX3_fact_83 ⟨rfl, okI_b _ rfl⟩ ?_
          refine a_cVi (c := 3) [vi 93] [] dX3_fact_85 myX3_takesSign mRX3_57 mvX3_takesSign rfl (by decide) hk (fun _ hj => tX3_takesSign E l N l0 93 μ10 _ hk hj) (by omega) rfl (Nat.le_of_ble_eq_true rfl) h (fun x12 μ11 hm h => ?_)
          have hk := hm.k hk (by decide)
          refine a_if_ne (tgt := 103) dX3_fact_88 rfl h (fun h => ?_) (fun h => ?_)
          ·
            exact a_sub [1] rfl (tX3_fact_103 E l _ dr hdr rX3_fact qX3_fact N l0 μ11 t hk h)
          ·
            exact a_sub [1] rfl (tX3_fact_91 E l _ dr hdr rX3_fact qX3_fact N l0 μ11 t hk h)
  ·
    refine a_aload_n 1 dX3_fact_14 rfl rfl ?_
    refine a_iload_n 2 dX3_fact_15 rfl rfl ?_
    refine a_iload_n 0 dX3_fact_16 rfl rfl ?_
    refine a_cVi (c := 3) [vi l1, vi x1] [] dX3_fact_17 myX3_mayOpen mRX3_154 mvX3_mayOpen rfl (by decide) hk (fun _ hj => tX3_mayOpen E l N l0 l1 x1 μ1 _ hk hj) (by omega) rfl (Nat.le_of_ble_eq_true rfl) h (fun x13 μ12 hm h => ?_)
    have hk := hm.k hk (by decide)
    refine a_if_eq (tgt := 52) dX3_fact_20 rfl h (fun h => ?_) (fun h => ?_)
    ·
      exact a_sub [1] rfl (tX3_fact_52 E l _ dr hdr rX3_fact qX3_fact N l0 μ12 t hk h)
    ·
      refine a_aload_n 1 dX3_fact_23 rfl rfl ?_
      refine a_iload_n 2 dX3_fact_24 rfl rfl ?_
      refine a_iconst dX3_fact_25 (okI_b _ rfl) ?_
      refine a_iadd dX3_fact_26 ?_
      refine a_cVi (c := 3) [vi (i_add l1 1)] [] dX3_fact_27 myX3_fact mRX3_147 mvX3_fact rfl (by decide) hk (fun _ hj => qX3_fact l0 (i_add l1 1) μ12 _ hk hj) (by omega) rfl (Nat.le_of_ble_eq_true rfl) h (fun x14 μ13 hm h => ?_)
      have hk := hm.k hk (by decide)
      refine a_if_eq (tgt := 52) dX3_fact_30 rfl h (fun h => ?_) (fun h => ?_)
      ·
        exact a_sub [1] rfl (tX3_fact_52 E l _ dr hdr rX3_fact qX3_fact N l0 μ13 t hk h)
      ·
        refine a_aload_n 1 dX3_fact_33 rfl rfl ?_
        refine a_getfr (c := 3) (i := 5) dX3_fact_34 fRX3_28 g3_5 rfl hk ?_
        refine m_chk_k h (fun hq126 h => ?_)
        refine a_getfr (c := 1) (i := 6) dX3_fact_37 fRX3_110 g1_6 rfl hq126 ?_
        refine a_bipush dX3_fact_40 ⟨rfl, okI_b _ rfl⟩ ?_
        refine m_chk_k h (fun hq129 h => ?_)
        refine a_cVi (c := 0) [vi (-22)] [] dX3_fact_42 myX0_put mRX3_144 mvX0_put rfl (by decide) hq129 (fun _ hj => tX0_put E l N (m_gt μ13 (m_gt μ13 l0 5) 6) (-22) μ13 _ hq129 hj) (by omega) rfl (Nat.le_of_ble_eq_true rfl) h (fun x15 μ14 hm h => ?_)
        have hk := hm.k hk (by decide)
        have hq126 := hm.k hq126 (by decide)
        have hq129 := hm.k hq129 (by decide)
        refine a_if_eq (tgt := 52) dX3_fact_45 rfl h (fun h => ?_) (fun h => ?_)
        ·
          exact a_sub [1] rfl (tX3_fact_52 E l _ dr hdr rX3_fact qX3_fact N l0 μ14 t hk h)
        ·
          refine a_iconst dX3_fact_48 (okI_b _ rfl) ?_
          refine a_goto (tgt := 53) dX3_fact_49 rfl ?_
          exact a_sub [1] rfl (tX3_fact_53 E l _ dr hdr rX3_fact qX3_fact N l0 1 μ14 t hk h)
theorem tX3_fact_n (E : m_E) (l : Launch) (N : Nat) : ∀ (n : Nat) (l0 l1 : Int) (μ : Mm) (t : Int × Mm), m_kd μ l0 = (3, 0) → jX3_fact N n l0 l1 μ = some t → TT E l (53 + 3 * n) yX3_fact cX3_fact 4 (some .boolean) [vr l0, vi l1] μ (rI t)
  | 0, _, _, _, _, _, h => by cases h
  | n + 1, l0, l1, μ, t, hk, h => tX3_fact_B E l (53 + 3 * n) (by omega) (jX3_fact N n) (tX3_fact_n E l N n) N l0 l1 μ t hk h
theorem tX3_fact (E : m_E) (l : Launch) (N n : Nat) (l0 l1 : Int) (μ : Mm) (t : Int × Mm) (hk : m_kd μ l0 = (3, 0)) (h : jX3_fact N 10 l0 l1 μ = some t) : TT E l 83 yX3_fact cX3_fact 4 (some .boolean) [vr l0, vi l1] μ (rI t) := tX3_fact_n E l N 10 l0 l1 μ t hk h
-- X3_init
abbrev aX3_init (E : m_E) (l : Launch) (d : Nat) (z : Nat × Nat) (pc : Nat) (L : List (Nat × AV)) (st : List AV) (μ : Mm) (ρ : Option AV × Mm) : Prop := AA E l d z RX3 "<init>" cX3_init 2 none pc L st μ ρ
theorem tX3_init (E : m_E) (l : Launch) (N : Nat) (l0 l1 : Int) (μ : Mm) (t : Mm) (hk : m_kd μ l0 = (3, 0)) (h : jX3_init N l0 l1 μ = some t) : TT E l 2 yX3_init cX3_init 2 none [vr l0, vr l1] μ (rV t) := by
  refine tt_of (L := [(0, vr l0), (1, vr l1)]) (by decide +kernel) (Nat.le_of_ble_eq_true rfl) rfl ?_
  show aX3_init E l 2 (m_sz μ, m_sl μ) 0 [(0, vr l0), (1, vr l1)] [] μ (rV t)
  unfold jX3_init at h
  refine a_aload_n 0 dX3_init_0 rfl rfl ?_
  refine a_objI dX3_init_1 mRX3_3 ob1 ob2 (by decide) hk (by decide) ?_
  refine a_aload_n 0 dX3_init_4 rfl rfl ?_
  refine a_iconst dX3_init_5 (okI_b _ rfl) ?_
  refine a_putfi (c := 3) (i := 0) dX3_init_6 fRX3_9 g3_0 (Or.inl rfl) rfl hk h (fun μ1 hm h => ?_)
  have hk := hm.k hk (by decide)
  refine a_aload_n 0 dX3_init_9 rfl rfl ?_
  refine a_iconst dX3_init_10 (okI_b _ rfl) ?_
  refine a_putfi (c := 3) (i := 1) dX3_init_11 fRX3_15 g3_1 (Or.inl rfl) rfl hk h (fun μ2 hm h => ?_)
  have hk := hm.k hk (by decide)
  refine a_aload_n 0 dX3_init_14 rfl rfl ?_
  refine a_iconst dX3_init_15 (okI_b _ rfl) ?_
  refine a_nai dX3_init_16 ac_int h (fun μ3 hm hq12 h => ?_)
  have hk := hm.k hk (by decide)
  refine a_putfr (c := 3) (i := 2) dX3_init_18 fRX3_18 g3_2 (Or.inl rfl) rfl hk h (fun μ4 hm h => ?_)
  have hk := hm.k hk (by decide)
  refine a_aload_n 0 dX3_init_21 rfl rfl ?_
  refine a_iconst dX3_init_22 (okI_b _ rfl) ?_
  refine a_putfi (c := 3) (i := 3) dX3_init_23 fRX3_22 g3_3 (Or.inl rfl) rfl hk h (fun μ5 hm h => ?_)
  have hk := hm.k hk (by decide)
  refine a_aload_n 0 dX3_init_26 rfl rfl ?_
  refine a_iconst dX3_init_27 (okI_b _ rfl) ?_
  refine a_putfi (c := 3) (i := 4) dX3_init_28 fRX3_25 g3_4 (Or.inl rfl) rfl hk h (fun μ6 hm h => ?_)
  have hk := hm.k hk (by decide)
  refine a_aload_n 0 dX3_init_31 rfl rfl ?_
  refine a_aload_n 1 dX3_init_32 rfl rfl ?_
  refine a_putfr (c := 3) (i := 5) dX3_init_33 fRX3_28 g3_5 (Or.inl rfl) rfl hk h (fun μ7 hm h => ?_)
  have hk := hm.k hk (by decide)
  exact a_ret0 dX3_init_36 h
-- X3_expectsWord
abbrev aX3_expectsWord (E : m_E) (l : Launch) (d : Nat) (z : Nat × Nat) (pc : Nat) (L : List (Nat × AV)) (st : List AV) (μ : Mm) (ρ : Option AV × Mm) : Prop := AA E l d z RX3 "expectsWord" cX3_expectsWord 2 (some .boolean) pc L st μ ρ
theorem tX3_expectsWord_25 (E : m_E) (l : Launch) (z : Nat × Nat) (N : Nat) (l0 s0 : Int) (μ : Mm) (t : Int × Mm) (hk : m_kd μ l0 = (3, 0)) (h : jX3_expectsWord_25 N l0 s0 μ = some t) : aX3_expectsWord E l 9 z 25 [(0, vr l0)] [vi s0] μ (rI t) := by
  unfold jX3_expectsWord_25 at h
  exact a_retz dX3_expectsWord_25 h
theorem tX3_expectsWord_20 (E : m_E) (l : Launch) (z : Nat × Nat) (N : Nat) (l0 : Int) (μ : Mm) (t : Int × Mm) (hk : m_kd μ l0 = (3, 0)) (h : jX3_expectsWord_20 N l0 μ = some t) : aX3_expectsWord E l 9 z 20 [(0, vr l0)] [] μ (rI t) := by
  unfold jX3_expectsWord_20 at h
  refine a_iconst dX3_expectsWord_20 (okI_b _ rfl) ?_
  refine a_goto (tgt := 25) dX3_expectsWord_21 rfl ?_
  exact a_sub [0] rfl (tX3_expectsWord_25 E l _ N l0 1 μ t hk h)
theorem tX3_expectsWord (E : m_E) (l : Launch) (N : Nat) (l0 l1 : Int) (μ : Mm) (t : Int × Mm) (hk : m_kd μ l0 = (3, 0)) (h : jX3_expectsWord N l0 l1 μ = some t) : TT E l 9 yX3_expectsWord cX3_expectsWord 2 (some .boolean) [vr l0, vr l1] μ (rI t) := by
  refine tt_of (L := [(0, vr l0), (1, vr l1)]) (by decide +kernel) (Nat.le_of_ble_eq_true rfl) rfl ?_
  show aX3_expectsWord E l 9 (m_sz μ, m_sl μ) 0 [(0, vr l0), (1, vr l1)] [] μ (rI t)
  unfold jX3_expectsWord at h
  refine a_aload_n 0 dX3_expectsWord_0 rfl rfl ?_
  refine a_aload_n 1 dX3_expectsWord_1 rfl rfl ?_
  refine a_cVi (c := 3) [vr l1] [] dX3_expectsWord_2 myX3_takes mRX3_63 mvX3_takes rfl (by decide) hk (fun _ hj => tX3_takes E l N l0 l1 μ _ hk hj) (by decide) rfl (Nat.le_of_ble_eq_true rfl) h (fun x1 μ1 hm h => ?_)
  have hk := hm.k hk (by decide)
  refine a_if_ne (tgt := 20) dX3_expectsWord_5 rfl h (fun h => ?_) (fun h => ?_)
  ·
    exact a_sub [0] rfl (tX3_expectsWord_20 E l _ N l0 μ1 t hk h)
  ·
    refine a_aload_n 0 dX3_expectsWord_8 rfl rfl ?_
    refine a_iconst dX3_expectsWord_9 (okI_b _ rfl) ?_
    refine a_aload_n 0 dX3_expectsWord_10 rfl rfl ?_
    refine a_getfi (c := 3) (i := 4) dX3_expectsWord_11 fRX3_25 g3_4 rfl hk ?_
    refine a_cVi (c := 3) [vi 1, vi (m_gt μ1 l0 4)] [] dX3_expectsWord_14 myX3_fail mRX3_49 mvX3_fail rfl (by decide) hk (fun _ hj => tX3_fail E l N l0 1 (m_gt μ1 l0 4) μ1 _ hk hj) (by decide) rfl (Nat.le_of_ble_eq_true rfl) h (fun x2 μ2 hm h => ?_)
    have hk := hm.k hk (by decide)
    refine a_if_eq (tgt := 24) dX3_expectsWord_17 rfl h (fun h => ?_) (fun h => ?_)
    ·
      refine a_iconst dX3_expectsWord_24 (okI_b _ rfl) ?_
      exact a_sub [0] rfl (tX3_expectsWord_25 E l _ N l0 0 μ2 t hk h)
    ·
      exact a_sub [0] rfl (tX3_expectsWord_20 E l _ N l0 μ2 t hk h)
-- X3_clean
abbrev aX3_clean (E : m_E) (l : Launch) (d : Nat) (z : Nat × Nat) (pc : Nat) (L : List (Nat × AV)) (st : List AV) (μ : Mm) (ρ : Option AV × Mm) : Prop := AA E l d z RX3 "clean" cX3_clean 3 (some .boolean) pc L st μ ρ
theorem tX3_clean_49 (E : m_E) (l : Launch) (z : Nat × Nat) (N : Nat) (l0 s0 : Int) (μ : Mm) (t : Int × Mm) (hk : m_kd μ l0 = (3, 0)) (h : jX3_clean_49 N l0 s0 μ = some t) : aX3_clean E l 10 z 49 [(0, vr l0)] [vi s0] μ (rI t) := by
  unfold jX3_clean_49 at h
  exact a_retz dX3_clean_49 h
theorem tX3_clean_21 (E : m_E) (l : Launch) (z : Nat × Nat) (N : Nat) (l0 : Int) (μ : Mm) (t : Int × Mm) (hk : m_kd μ l0 = (3, 0)) (h : jX3_clean_21 N l0 μ = some t) : aX3_clean E l 10 z 21 [(0, vr l0)] [] μ (rI t) := by
  unfold jX3_clean_21 at h
  refine a_iconst dX3_clean_21 (okI_b _ rfl) ?_
  exact a_retzl (Or.inl rfl) dX3_clean_22 h
theorem tX3_clean (E : m_E) (l : Launch) (N : Nat) (l0 : Int) (μ : Mm) (t : Int × Mm) (hk : m_kd μ l0 = (3, 0)) (h : jX3_clean N l0 μ = some t) : TT E l 10 yX3_clean cX3_clean 3 (some .boolean) [vr l0] μ (rI t) := by
  refine tt_of (L := [(0, vr l0)]) (by decide +kernel) (Nat.le_of_ble_eq_true rfl) rfl ?_
  show aX3_clean E l 10 (m_sz μ, m_sl μ) 0 [(0, vr l0)] [] μ (rI t)
  unfold jX3_clean at h
  refine a_aload_n 0 dX3_clean_0 rfl rfl ?_
  refine a_iconst dX3_clean_1 (okI_b _ rfl) ?_
  refine a_iconst dX3_clean_2 (okI_b _ rfl) ?_
  refine a_cVi (c := 3) [vi 1, vi 3] [] dX3_clean_3 myX3_number mRX3_67 mvX3_number rfl (by decide) hk (fun _ hj => tX3_number E l N l0 1 3 μ _ hk hj) (by decide) rfl (Nat.le_of_ble_eq_true rfl) h (fun x1 μ1 hm h => ?_)
  have hk := hm.k hk (by decide)
  refine a_istore_n (L' := [(1, vi x1), (0, vr l0)]) dX3_clean_6 rfl (by decide) rfl ?_
  refine a_iload_n 0 dX3_clean_7 rfl rfl ?_
  refine a_iconst dX3_clean_8 (okI_b _ rfl) ?_
  refine a_icmp_eq (tgt := 21) dX3_clean_9 rfl h (fun h => ?_) (fun h => ?_)
  ·
    exact a_sub [1] rfl (tX3_clean_21 E l _ N l0 μ1 t hk h)
  ·
    refine a_aload_n 1 dX3_clean_12 rfl rfl ?_
    refine a_ldcS (i := 5) dX3_clean_13 rfl rfl ?_
    refine a_cVi (c := 3) [vr (-15)] [] dX3_clean_15 myX3_expectsWord mRX3_103 mvX3_expectsWord rfl (by decide) hk (fun _ hj => tX3_expectsWord E l N l0 (-15) μ1 _ hk hj) (by decide) rfl (Nat.le_of_ble_eq_true rfl) h (fun x2 μ2 hm h => ?_)
    have hk := hm.k hk (by decide)
    refine a_if_ne (tgt := 23) dX3_clean_18 rfl h (fun h => ?_) (fun h => ?_)
    ·
      refine a_aload_n 1 dX3_clean_23 rfl rfl ?_
      refine a_iconst dX3_clean_24 (okI_b _ rfl) ?_
      refine a_iconst dX3_clean_25 (okI_b _ rfl) ?_
      refine a_cVi (c := 3) [vi 0, vi 3] [] dX3_clean_26 myX3_number mRX3_67 mvX3_number rfl (by decide) hk (fun _ hj => tX3_number E l N l0 0 3 μ2 _ hk hj) (by decide) rfl (Nat.le_of_ble_eq_true rfl) h (fun x3 μ3 hm h => ?_)
      have hk := hm.k hk (by decide)
      refine a_istore_n (L' := [(2, vi x3), (1, vi x1), (0, vr l0)]) dX3_clean_29 rfl (by decide) rfl ?_
      refine a_aload_n 2 dX3_clean_30 rfl rfl ?_
      refine a_getfr (c := 3) (i := 5) dX3_clean_31 fRX3_28 g3_5 rfl hk ?_
      refine a_iload_n 1 dX3_clean_34 rfl rfl ?_
      refine a_iload_n 0 dX3_clean_35 rfl rfl ?_
      refine m_chk_k h (fun hq28 h => ?_)
      refine a_cVv (c := 1) [vi x1, vi x3] [] dX3_clean_36 myX1_setEarned mRX3_106 mvX1_setEarned rfl (by decide) hq28 (fun _ hj => tX1_setEarned E l N (m_gt μ3 l0 5) x1 x3 μ3 _ hq28 hj) (by decide) rfl (Nat.le_of_ble_eq_true rfl) h (fun μ4 hm h => ?_)
      have hk := hm.k hk (by decide)
      have hq28 := hm.k hq28 (by decide)
      refine a_iload_n 0 dX3_clean_39 rfl rfl ?_
      refine a_iconst dX3_clean_40 (okI_b _ rfl) ?_
      refine a_icmp_eq (tgt := 48) dX3_clean_41 rfl h (fun h => ?_) (fun h => ?_)
      ·
        refine a_iconst dX3_clean_48 (okI_b _ rfl) ?_
        exact a_sub [2] rfl (tX3_clean_49 E l _ N l0 0 μ4 t hk h)
      ·
        refine a_iconst dX3_clean_44 (okI_b _ rfl) ?_
        refine a_goto (tgt := 49) dX3_clean_45 rfl ?_
        exact a_sub [2] rfl (tX3_clean_49 E l _ N l0 1 μ4 t hk h)
    ·
      exact a_sub [1] rfl (tX3_clean_21 E l _ N l0 μ2 t hk h)
-- X3_handicap
abbrev aX3_handicap (E : m_E) (l : Launch) (d : Nat) (z : Nat × Nat) (pc : Nat) (L : List (Nat × AV)) (st : List AV) (μ : Mm) (ρ : Option AV × Mm) : Prop := AA E l d z RX3 "handicap" cX3_handicap 2 (some .boolean) pc L st μ ρ
theorem tX3_handicap (E : m_E) (l : Launch) (N : Nat) (l0 : Int) (μ : Mm) (t : Int × Mm) (hk : m_kd μ l0 = (3, 0)) (h : jX3_handicap N l0 μ = some t) : TT E l 53 yX3_handicap cX3_handicap 2 (some .boolean) [vr l0] μ (rI t) := by
  refine tt_of (L := [(0, vr l0)]) (by decide +kernel) (Nat.le_of_ble_eq_true rfl) rfl ?_
  show aX3_handicap E l 53 (m_sz μ, m_sl μ) 0 [(0, vr l0)] [] μ (rI t)
  unfold jX3_handicap at h
  refine a_aload_n 0 dX3_handicap_0 rfl rfl ?_
  refine a_getfr (c := 3) (i := 5) dX3_handicap_1 fRX3_28 g3_5 rfl hk ?_
  refine m_chk_k h (fun hq2 h => ?_)
  refine a_getfr (c := 1) (i := 6) dX3_handicap_4 fRX3_110 g1_6 rfl hq2 ?_
  refine m_chk_k h (fun hq4 h => ?_)
  refine a_cVi (c := 0) [] [] dX3_handicap_7 myX0_sizeNow mRX3_114 mvX0_sizeNow rfl (by decide) hq4 (fun _ hj => tX0_sizeNow E l N (m_gt μ (m_gt μ l0 5) 6) μ _ hq4 hj) (by decide) rfl (Nat.le_of_ble_eq_true rfl) h (fun x1 μ1 hm h => ?_)
  have hk := hm.k hk (by decide)
  have hq2 := hm.k hq2 (by decide)
  have hq4 := hm.k hq4 (by decide)
  refine a_istore_n (L' := [(1, vi x1), (0, vr l0)]) dX3_handicap_10 rfl (by decide) rfl ?_
  refine a_aload_n 1 dX3_handicap_11 rfl rfl ?_
  refine a_iconst dX3_handicap_12 (okI_b _ rfl) ?_
  refine a_cVi (c := 3) [vi 0] [] dX3_handicap_13 myX3_sum mRX3_120 mvX3_sum rfl (by decide) hk (fun _ hj => tX3_sum E l N 10 l0 0 μ1 _ hk hj) (by decide) rfl (Nat.le_of_ble_eq_true rfl) h (fun x2 μ2 hm h => ?_)
  have hk := hm.k hk (by decide)
  have hq2 := hm.k hq2 (by decide)
  have hq4 := hm.k hq4 (by decide)
  refine a_if_ne (tgt := 21) dX3_handicap_16 rfl h (fun h => ?_) (fun h => ?_)
  ·
    refine a_aload_n 1 dX3_handicap_21 rfl rfl ?_
    refine a_getfr (c := 3) (i := 5) dX3_handicap_22 fRX3_28 g3_5 rfl hk ?_
    refine a_iload_n 0 dX3_handicap_25 rfl rfl ?_
    refine m_chk_k h (fun hq21 h => ?_)
    refine a_cVv (c := 1) [vi x1] [] dX3_handicap_26 myX1_setHandicap mRX3_132 mvX1_setHandicap rfl (by decide) hq21 (fun _ hj => tX1_setHandicap E l N (m_gt μ2 l0 5) x1 μ2 _ hq21 hj) (by decide) rfl (Nat.le_of_ble_eq_true rfl) h (fun μ3 hm h => ?_)
    have hk := hm.k hk (by decide)
    have hq2 := hm.k hq2 (by decide)
    have hq4 := hm.k hq4 (by decide)
    have hq21 := hm.k hq21 (by decide)
    refine a_iconst dX3_handicap_29 (okI_b _ rfl) ?_
    exact a_retzl (Or.inr rfl) dX3_handicap_30 h
  ·
    refine a_iconst dX3_handicap_19 (okI_b _ rfl) ?_
    exact a_retzl (Or.inl rfl) dX3_handicap_20 h
-- X3_joins
abbrev aX3_joins (E : m_E) (l : Launch) (d : Nat) (z : Nat × Nat) (pc : Nat) (L : List (Nat × AV)) (st : List AV) (μ : Mm) (ρ : Option AV × Mm) : Prop := AA E l d z RX3 "joins" cX3_joins 4 (some .boolean) pc L st μ ρ
theorem tX3_joins (E : m_E) (l : Launch) (N : Nat) (l0 : Int) (μ : Mm) (t : Int × Mm) (hk : m_kd μ l0 = (3, 0)) (h : jX3_joins N l0 μ = some t) : TT E l 3 yX3_joins cX3_joins 4 (some .boolean) [vr l0] μ (rI t) := by
  refine tt_of (L := [(0, vr l0)]) (by decide +kernel) (Nat.le_of_ble_eq_true rfl) rfl ?_
  show aX3_joins E l 3 (m_sz μ, m_sl μ) 0 [(0, vr l0)] [] μ (rI t)
  unfold jX3_joins at h
  refine a_aload_n 0 dX3_joins_0 rfl rfl ?_
  refine a_iconst dX3_joins_1 (okI_b _ rfl) ?_
  refine a_bipush dX3_joins_2 ⟨rfl, okI_b _ rfl⟩ ?_
  refine a_cVi (c := 3) [vi 0, vi 8] [] dX3_joins_4 myX3_number mRX3_67 mvX3_number rfl (by decide) hk (fun _ hj => tX3_number E l N l0 0 8 μ _ hk hj) (by decide) rfl (Nat.le_of_ble_eq_true rfl) h (fun x1 μ1 hm h => ?_)
  have hk := hm.k hk (by decide)
  refine a_istore_n (L' := [(1, vi x1), (0, vr l0)]) dX3_joins_7 rfl (by decide) rfl ?_
  refine a_iload_n 0 dX3_joins_8 rfl rfl ?_
  refine a_iconst dX3_joins_9 (okI_b _ rfl) ?_
  refine a_icmp_ne (tgt := 15) dX3_joins_10 rfl h (fun h => ?_) (fun h => ?_)
  ·
    refine a_aload_n 1 dX3_joins_15 rfl rfl ?_
    refine a_getfi (c := 3) (i := 4) dX3_joins_16 fRX3_25 g3_4 rfl hk ?_
    refine a_nmi h (fun x2 h => ?_)
    refine a_istore_n (L' := [(2, vi x2), (1, vi x1), (0, vr l0)]) dX3_joins_19 rfl (by decide) rfl ?_
    refine a_aload_n 2 dX3_joins_20 rfl rfl ?_
    refine a_iconst dX3_joins_21 (okI_b _ rfl) ?_
    refine a_bipush dX3_joins_22 ⟨rfl, okI_b _ rfl⟩ ?_
    refine a_cVi (c := 3) [vi 0, vi 8] [] dX3_joins_24 myX3_number mRX3_67 mvX3_number rfl (by decide) hk (fun _ hj => tX3_number E l N l0 0 8 μ1 _ hk hj) (by decide) rfl (Nat.le_of_ble_eq_true rfl) h (fun x3 μ2 hm h => ?_)
    have hk := hm.k hk (by decide)
    refine a_istore_n (L' := [(3, vi x3), (2, vi x2), (1, vi x1), (0, vr l0)]) dX3_joins_27 rfl (by decide) rfl ?_
    refine a_iload_n 0 dX3_joins_28 rfl rfl ?_
    refine a_iconst dX3_joins_29 (okI_b _ rfl) ?_
    refine a_icmp_ne (tgt := 35) dX3_joins_30 rfl h (fun h => ?_) (fun h => ?_)
    ·
      refine a_iload_n 0 dX3_joins_35 rfl rfl ?_
      refine a_iload_n 2 dX3_joins_36 rfl rfl ?_
      refine a_icmp_ne (tgt := 47) dX3_joins_37 rfl h (fun h => ?_) (fun h => ?_)
      ·
        refine a_aload_n 3 dX3_joins_47 rfl rfl ?_
        refine a_getfr (c := 3) (i := 5) dX3_joins_48 fRX3_28 g3_5 rfl hk ?_
        refine a_iload_n 2 dX3_joins_51 rfl rfl ?_
        refine a_iload_n 0 dX3_joins_52 rfl rfl ?_
        refine m_chk_k h (fun hq32 h => ?_)
        refine a_cVv (c := 1) [vi x1, vi x3] [] dX3_joins_53 myX1_joinPins mRX3_136 mvX1_joinPins rfl (by decide) hq32 (fun _ hj => tX1_joinPins E l N (m_gt μ2 l0 5) x1 x3 μ2 _ hq32 hj) (by decide) rfl (Nat.le_of_ble_eq_true rfl) h (fun μ3 hm h => ?_)
        have hk := hm.k hk (by decide)
        have hq32 := hm.k hq32 (by decide)
        refine a_iconst dX3_joins_56 (okI_b _ rfl) ?_
        exact a_retzl (Or.inr rfl) dX3_joins_57 h
      ·
        refine a_aload_n 3 dX3_joins_40 rfl rfl ?_
        refine a_iconst dX3_joins_41 (okI_b _ rfl) ?_
        refine a_iload_n 1 dX3_joins_42 rfl rfl ?_
        refine a_cVi (c := 3) [vi 2, vi x2] [] dX3_joins_43 myX3_fail mRX3_49 mvX3_fail rfl (by decide) hk (fun _ hj => tX3_fail E l N l0 2 x2 μ2 _ hk hj) (by decide) rfl (Nat.le_of_ble_eq_true rfl) h (fun x4 μ4 hm h => ?_)
        have hk := hm.k hk (by decide)
        exact a_retz dX3_joins_46 h
    ·
      refine a_iconst dX3_joins_33 (okI_b _ rfl) ?_
      exact a_retzl (Or.inl rfl) dX3_joins_34 h
  ·
    refine a_iconst dX3_joins_13 (okI_b _ rfl) ?_
    exact a_retzl (Or.inl rfl) dX3_joins_14 h
-- X3_worth
abbrev aX3_worth (E : m_E) (l : Launch) (d : Nat) (z : Nat × Nat) (pc : Nat) (L : List (Nat × AV)) (st : List AV) (μ : Mm) (ρ : Option AV × Mm) : Prop := AA E l d z RX3 "worth" cX3_worth 3 (some .boolean) pc L st μ ρ
theorem tX3_worth_28 (E : m_E) (l : Launch) (z : Nat × Nat) (N : Nat) (l0 : Int) (μ : Mm) (t : Int × Mm) (hk : m_kd μ l0 = (3, 0)) (h : jX3_worth_28 N l0 μ = some t) : aX3_worth E l 86 z 28 [(0, vr l0)] [] μ (rI t) := by
  unfold jX3_worth_28 at h
  refine a_iconst dX3_worth_28 (okI_b _ rfl) ?_
  exact a_retzl (Or.inl rfl) dX3_worth_29 h
theorem tX3_worth (E : m_E) (l : Launch) (N : Nat) (l0 : Int) (μ : Mm) (t : Int × Mm) (hk : m_kd μ l0 = (3, 0)) (h : jX3_worth N l0 μ = some t) : TT E l 86 yX3_worth cX3_worth 3 (some .boolean) [vr l0] μ (rI t) := by
  refine tt_of (L := [(0, vr l0)]) (by decide +kernel) (Nat.le_of_ble_eq_true rfl) rfl ?_
  show aX3_worth E l 86 (m_sz μ, m_sl μ) 0 [(0, vr l0)] [] μ (rI t)
  unfold jX3_worth at h
  refine a_aload_n 0 dX3_worth_0 rfl rfl ?_
  refine a_getfr (c := 3) (i := 5) dX3_worth_1 fRX3_28 g3_5 rfl hk ?_
  refine m_chk_k h (fun hq2 h => ?_)
  refine a_getfr (c := 1) (i := 6) dX3_worth_4 fRX3_110 g1_6 rfl hq2 ?_
  refine m_chk_k h (fun hq4 h => ?_)
  refine a_cVi (c := 0) [] [] dX3_worth_7 myX0_sizeNow mRX3_114 mvX0_sizeNow rfl (by decide) hq4 (fun _ hj => tX0_sizeNow E l N (m_gt μ (m_gt μ l0 5) 6) μ _ hq4 hj) (by decide) rfl (Nat.le_of_ble_eq_true rfl) h (fun x1 μ1 hm h => ?_)
  have hk := hm.k hk (by decide)
  have hq2 := hm.k hq2 (by decide)
  have hq4 := hm.k hq4 (by decide)
  refine a_istore_n (L' := [(1, vi x1), (0, vr l0)]) dX3_worth_10 rfl (by decide) rfl ?_
  refine a_aload_n 1 dX3_worth_11 rfl rfl ?_
  refine a_iconst dX3_worth_12 (okI_b _ rfl) ?_
  refine a_cVi (c := 3) [vi 0] [] dX3_worth_13 myX3_sum mRX3_120 mvX3_sum rfl (by decide) hk (fun _ hj => tX3_sum E l N 10 l0 0 μ1 _ hk hj) (by decide) rfl (Nat.le_of_ble_eq_true rfl) h (fun x2 μ2 hm h => ?_)
  have hk := hm.k hk (by decide)
  have hq2 := hm.k hq2 (by decide)
  have hq4 := hm.k hq4 (by decide)
  refine a_if_eq (tgt := 28) dX3_worth_16 rfl h (fun h => ?_) (fun h => ?_)
  ·
    exact a_sub [1] rfl (tX3_worth_28 E l _ N l0 μ2 t hk h)
  ·
    refine a_aload_n 1 dX3_worth_19 rfl rfl ?_
    refine a_ldcS (i := 15) dX3_worth_20 rfl rfl ?_
    refine a_cVi (c := 3) [vr (-25)] [] dX3_worth_22 myX3_expectsWord mRX3_103 mvX3_expectsWord rfl (by decide) hk (fun _ hj => tX3_expectsWord E l N l0 (-25) μ2 _ hk hj) (by decide) rfl (Nat.le_of_ble_eq_true rfl) h (fun x3 μ3 hm h => ?_)
    have hk := hm.k hk (by decide)
    have hq2 := hm.k hq2 (by decide)
    have hq4 := hm.k hq4 (by decide)
    refine a_if_ne (tgt := 30) dX3_worth_25 rfl h (fun h => ?_) (fun h => ?_)
    ·
      refine a_aload_n 1 dX3_worth_30 rfl rfl ?_
      refine a_getfr (c := 3) (i := 5) dX3_worth_31 fRX3_28 g3_5 rfl hk ?_
      refine m_chk_k h (fun hq30 h => ?_)
      refine a_getfr (c := 1) (i := 6) dX3_worth_34 fRX3_110 g1_6 rfl hq30 ?_
      refine m_chk_k h (fun hq32 h => ?_)
      refine a_cVi (c := 0) [] [] dX3_worth_37 myX0_sizeNow mRX3_114 mvX0_sizeNow rfl (by decide) hq32 (fun _ hj => tX0_sizeNow E l N (m_gt μ3 (m_gt μ3 l0 5) 6) μ3 _ hq32 hj) (by decide) rfl (Nat.le_of_ble_eq_true rfl) h (fun x4 μ4 hm h => ?_)
      have hk := hm.k hk (by decide)
      have hq2 := hm.k hq2 (by decide)
      have hq4 := hm.k hq4 (by decide)
      have hq30 := hm.k hq30 (by decide)
      have hq32 := hm.k hq32 (by decide)
      refine a_istore_n (L' := [(2, vi x4), (1, vi x1), (0, vr l0)]) dX3_worth_40 rfl (by decide) rfl ?_
      refine a_aload_n 2 dX3_worth_41 rfl rfl ?_
      refine a_iconst dX3_worth_42 (okI_b _ rfl) ?_
      refine a_cVi (c := 3) [vi 0] [] dX3_worth_43 myX3_test mRX3_126 mvX3_test rfl (by decide) hk (fun _ hj => tX3_test E l 83 (by decide) (jX3_fact N 10) (tX3_fact E l N 10) N l0 0 μ4 _ hk hj) (by decide) rfl (Nat.le_of_ble_eq_true rfl) h (fun x5 μ5 hm h => ?_)
      have hk := hm.k hk (by decide)
      have hq2 := hm.k hq2 (by decide)
      have hq4 := hm.k hq4 (by decide)
      have hq30 := hm.k hq30 (by decide)
      have hq32 := hm.k hq32 (by decide)
      refine a_if_ne (tgt := 51) dX3_worth_46 rfl h (fun h => ?_) (fun h => ?_)
      ·
        refine a_aload_n 2 dX3_worth_51 rfl rfl ?_
        refine a_getfr (c := 3) (i := 5) dX3_worth_52 fRX3_28 g3_5 rfl hk ?_
        refine a_iload_n 1 dX3_worth_55 rfl rfl ?_
        refine a_iload_n 0 dX3_worth_56 rfl rfl ?_
        refine m_chk_k h (fun hq54 h => ?_)
        refine a_cVv (c := 1) [vi x1, vi x4] [] dX3_worth_57 myX1_addWorth mRX3_129 mvX1_addWorth rfl (by decide) hq54 (fun _ hj => tX1_addWorth E l N (m_gt μ5 l0 5) x1 x4 μ5 _ hq54 hj) (by decide) rfl (Nat.le_of_ble_eq_true rfl) h (fun μ6 hm h => ?_)
        have hk := hm.k hk (by decide)
        have hq2 := hm.k hq2 (by decide)
        have hq4 := hm.k hq4 (by decide)
        have hq30 := hm.k hq30 (by decide)
        have hq32 := hm.k hq32 (by decide)
        have hq54 := hm.k hq54 (by decide)
        refine a_iconst dX3_worth_60 (okI_b _ rfl) ?_
        exact a_retzl (Or.inr rfl) dX3_worth_61 h
      ·
        refine a_iconst dX3_worth_49 (okI_b _ rfl) ?_
        exact a_retzl (Or.inl rfl) dX3_worth_50 h
    ·
      exact a_sub [1] rfl (tX3_worth_28 E l _ N l0 μ3 t hk h)
