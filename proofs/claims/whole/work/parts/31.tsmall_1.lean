-- X4_totalOf
abbrev aX4_totalOf (E : m_E) (l : Launch) (d : Nat) (z : Nat × Nat) (pc : Nat) (L : List (Nat × AV)) (st : List AV) (μ : Mm) (ρ : Option AV × Mm) : Prop := AA E l d z RX4 "totalOf" cX4_totalOf 3 (some .int) pc L st μ ρ
theorem tX4_totalOf_34 (E : m_E) (l : Launch) (z : Nat × Nat) (N : Nat) (l0 s0 : Int) (μ : Mm) (t : Int × Mm) (hk : m_kd μ l0 = (4, 0)) (h : jX4_totalOf_34 N l0 s0 μ = some t) : aX4_totalOf E l 3 z 34 [(0, vr l0)] [vi s0] μ (rI t) := by
  unfold jX4_totalOf_34 at h
  exact a_reti dX4_totalOf_34 h
theorem tX4_totalOf_19 (E : m_E) (l : Launch) (z : Nat × Nat) (N : Nat) (l0 : Int) (μ : Mm) (t : Int × Mm) (hk : m_kd μ l0 = (4, 0)) (h : jX4_totalOf_19 N l0 μ = some t) : aX4_totalOf E l 3 z 19 [(0, vr l0)] [] μ (rI t) := by
  unfold jX4_totalOf_19 at h
  refine a_iconst dX4_totalOf_19 (okI_b _ rfl) ?_
  refine a_goto (tgt := 34) dX4_totalOf_20 rfl ?_
  exact a_sub [0] rfl (tX4_totalOf_34 E l _ N l0 0 μ t hk h)
theorem tX4_totalOf (E : m_E) (l : Launch) (N : Nat) (l0 l1 l2 : Int) (μ : Mm) (t : Int × Mm) (hk : m_kd μ l0 = (4, 0)) (h : jX4_totalOf N l0 l1 l2 μ = some t) : TT E l 3 yX4_totalOf cX4_totalOf 3 (some .int) [vr l0, vi l1, vi l2] μ (rI t) := by
  refine tt_of (L := [(0, vr l0), (1, vi l1), (2, vi l2)]) (by decide +kernel) (Nat.le_of_ble_eq_true rfl) rfl ?_
  show aX4_totalOf E l 3 (m_sz μ, m_sl μ) 0 [(0, vr l0), (1, vi l1), (2, vi l2)] [] μ (rI t)
  unfold jX4_totalOf at h
  refine a_iload_n 2 dX4_totalOf_0 rfl rfl ?_
  refine a_if_lt (tgt := 19) dX4_totalOf_1 rfl h (fun h => ?_) (fun h => ?_)
  ·
    exact a_sub [0] rfl (tX4_totalOf_19 E l _ N l0 μ t hk h)
  ·
    refine a_iload_n 2 dX4_totalOf_4 rfl rfl ?_
    refine a_aload_n 0 dX4_totalOf_5 rfl rfl ?_
    refine a_iload_n 1 dX4_totalOf_6 rfl rfl ?_
    refine a_cVi (c := 4) [vi l1] [vi l2] dX4_totalOf_7 myX4_gamesOf mRX4_25 mvX4_gamesOf rfl (by decide) hk (fun _ hj => tX4_gamesOf E l N l0 l1 μ _ hk hj) (by decide) rfl (Nat.le_of_ble_eq_true rfl) h (fun x1 μ1 hm h => ?_)
    have hk := hm.k hk (by decide)
    refine a_icmp_ge (tgt := 19) dX4_totalOf_10 rfl h (fun h => ?_) (fun h => ?_)
    ·
      exact a_sub [0] rfl (tX4_totalOf_19 E l _ N l0 μ1 t hk h)
    ·
      refine a_iload_n 2 dX4_totalOf_13 rfl rfl ?_
      refine a_bipush dX4_totalOf_14 ⟨rfl, okI_b _ rfl⟩ ?_
      refine a_icmp_lt (tgt := 23) dX4_totalOf_16 rfl h (fun h => ?_) (fun h => ?_)
      ·
        refine a_aload_n 0 dX4_totalOf_23 rfl rfl ?_
        refine a_getfr (c := 4) (i := 0) dX4_totalOf_24 fRX4_11 g4_0 rfl hk ?_
        refine a_iload_n 1 dX4_totalOf_27 rfl rfl ?_
        refine a_bipush dX4_totalOf_28 ⟨rfl, okI_b _ rfl⟩ ?_
        refine a_imul dX4_totalOf_30 ?_
        refine a_iload_n 2 dX4_totalOf_31 rfl rfl ?_
        refine a_iadd dX4_totalOf_32 ?_
        refine a_iald dX4_totalOf_33 h (fun x2 h => ?_)
        exact a_sub [0] rfl (tX4_totalOf_34 E l _ N l0 x2 μ1 t hk h)
      ·
        exact a_sub [0] rfl (tX4_totalOf_19 E l _ N l0 μ1 t hk h)
-- X4_add
abbrev aX4_add (E : m_E) (l : Launch) (d : Nat) (z : Nat × Nat) (pc : Nat) (L : List (Nat × AV)) (st : List AV) (μ : Mm) (ρ : Option AV × Mm) : Prop := AA E l d z RX4 "add" cX4_add 4 (some .int) pc L st μ ρ
theorem tX4_add_20 (E : m_E) (l : Launch) (z : Nat × Nat) (N : Nat) (l0 : Int) (μ : Mm) (t : Int × Mm) (hk : m_kd μ l0 = (4, 0)) (h : jX4_add_20 N l0 μ = some t) : aX4_add E l 3 z 20 [(0, vr l0)] [] μ (rI t) := by
  unfold jX4_add_20 at h
  refine a_iconst dX4_add_20 (okI_b _ rfl) ?_
  exact a_reti dX4_add_21 h
theorem tX4_add (E : m_E) (l : Launch) (N : Nat) (l0 l1 l2 : Int) (μ : Mm) (t : Int × Mm) (hk : m_kd μ l0 = (4, 0)) (h : jX4_add N l0 l1 l2 μ = some t) : TT E l 3 yX4_add cX4_add 4 (some .int) [vr l0, vi l1, vi l2] μ (rI t) := by
  refine tt_of (L := [(0, vr l0), (1, vi l1), (2, vi l2)]) (by decide +kernel) (Nat.le_of_ble_eq_true rfl) rfl ?_
  show aX4_add E l 3 (m_sz μ, m_sl μ) 0 [(0, vr l0), (1, vi l1), (2, vi l2)] [] μ (rI t)
  unfold jX4_add at h
  refine a_aload_n 0 dX4_add_0 rfl rfl ?_
  refine a_iload_n 1 dX4_add_1 rfl rfl ?_
  refine a_cVi (c := 4) [vi l1] [] dX4_add_2 myX4_gamesOf mRX4_25 mvX4_gamesOf rfl (by decide) hk (fun _ hj => tX4_gamesOf E l N l0 l1 μ _ hk hj) (by decide) rfl (Nat.le_of_ble_eq_true rfl) h (fun x1 μ1 hm h => ?_)
  have hk := hm.k hk (by decide)
  refine a_istore_n (L' := [(3, vi x1), (0, vr l0), (1, vi l1), (2, vi l2)]) dX4_add_5 rfl (by decide) rfl ?_
  refine a_aload_n 1 dX4_add_6 rfl rfl ?_
  refine a_iload_n 2 dX4_add_7 rfl rfl ?_
  refine a_cVi (c := 4) [vi l1] [] dX4_add_8 myX4_knows mRX4_21 mvX4_knows rfl (by decide) hk (fun _ hj => tX4_knows E l N l0 l1 μ1 _ hk hj) (by decide) rfl (Nat.le_of_ble_eq_true rfl) h (fun x2 μ2 hm h => ?_)
  have hk := hm.k hk (by decide)
  refine a_if_eq (tgt := 20) dX4_add_11 rfl h (fun h => ?_) (fun h => ?_)
  ·
    exact a_sub [1] rfl (tX4_add_20 E l _ N l0 μ2 t hk h)
  ·
    refine a_iload_n 0 dX4_add_14 rfl rfl ?_
    refine a_bipush dX4_add_15 ⟨rfl, okI_b _ rfl⟩ ?_
    refine a_icmp_lt (tgt := 22) dX4_add_17 rfl h (fun h => ?_) (fun h => ?_)
    ·
      refine a_aload_n 1 dX4_add_22 rfl rfl ?_
      refine a_getfr (c := 4) (i := 0) dX4_add_23 fRX4_11 g4_0 rfl hk ?_
      refine a_iload_n 2 dX4_add_26 rfl rfl ?_
      refine a_bipush dX4_add_27 ⟨rfl, okI_b _ rfl⟩ ?_
      refine a_imul dX4_add_29 ?_
      refine a_iload_n 0 dX4_add_30 rfl rfl ?_
      refine a_iadd dX4_add_31 ?_
      refine a_iload_n 3 dX4_add_32 rfl rfl ?_
      refine a_iast dX4_add_33 h (fun μ3 hm h => ?_)
      have hk := hm.k hk (by decide)
      refine a_aload_n 1 dX4_add_34 rfl rfl ?_
      refine a_getfr (c := 4) (i := 1) dX4_add_35 fRX4_15 g4_1 rfl hk ?_
      refine a_iload_n 2 dX4_add_38 rfl rfl ?_
      refine a_iload_n 0 dX4_add_39 rfl rfl ?_
      refine a_iconst dX4_add_40 (okI_b _ rfl) ?_
      refine a_iadd dX4_add_41 ?_
      refine a_iast dX4_add_42 h (fun μ4 hm h => ?_)
      have hk := hm.k hk (by decide)
      refine a_iload_n 0 dX4_add_43 rfl rfl ?_
      refine a_iconst dX4_add_44 (okI_b _ rfl) ?_
      refine a_iadd dX4_add_45 ?_
      exact a_reti dX4_add_46 h
    ·
      exact a_sub [1] rfl (tX4_add_20 E l _ N l0 μ2 t hk h)
-- X4_sumOf
abbrev aX4_sumOf (E : m_E) (l : Launch) (d : Nat) (z : Nat × Nat) (pc : Nat) (L : List (Nat × AV)) (st : List AV) (μ : Mm) (ρ : Option AV × Mm) : Prop := AA E l d z RX4 "sumOf" cX4_sumOf 4 (some .int) pc L st μ ρ
theorem tX4_sumOf_4b (E : m_E) (l : Launch) (z : Nat × Nat) (k4 : Int → Int → Int → Int → Mm → Option (Int × Mm)) (p4 : ∀ (l0 l1 l2 l3 : Int) (μ : Mm) (t : Int × Mm), m_kd μ l0 = (4, 0) → k4 l0 l1 l2 l3 μ = some t → aX4_sumOf E l 4 z 4 [(0, vr l0), (1, vi l1), (2, vi l2), (3, vi l3)] [] μ (rI t)) (N : Nat) (l0 l1 l2 l3 : Int) (μ : Mm) (t : Int × Mm) (hk : m_kd μ l0 = (4, 0)) (h : jX4_sumOf_4b k4 N l0 l1 l2 l3 μ = some t) : aX4_sumOf E l 4 z 4 [(0, vr l0), (1, vi l1), (2, vi l2), (3, vi l3)] [] μ (rI t) := by
  unfold jX4_sumOf_4b at h
  refine a_iload_n 3 dX4_sumOf_4 rfl rfl ?_
  refine a_aload_n 0 dX4_sumOf_5 rfl rfl ?_
  refine a_iload_n 1 dX4_sumOf_6 rfl rfl ?_
  refine a_cVi (c := 4) [vi l1] [vi l3] dX4_sumOf_7 myX4_gamesOf mRX4_25 mvX4_gamesOf rfl (by decide) hk (fun _ hj => tX4_gamesOf E l N l0 l1 μ _ hk hj) (by decide) rfl (Nat.le_of_ble_eq_true rfl) h (fun x1 μ1 hm h => ?_)
  have hk := hm.k hk (by decide)
  refine a_icmp_ge (tgt := 28) dX4_sumOf_10 rfl h (fun h => ?_) (fun h => ?_)
  ·
    refine a_iload_n 2 dX4_sumOf_28 rfl rfl ?_
    exact a_reti dX4_sumOf_29 h
  ·
    refine a_iload_n 2 dX4_sumOf_13 rfl rfl ?_
    refine a_aload_n 0 dX4_sumOf_14 rfl rfl ?_
    refine a_iload_n 1 dX4_sumOf_15 rfl rfl ?_
    refine a_iload_n 3 dX4_sumOf_16 rfl rfl ?_
    refine a_cVi (c := 4) [vi l1, vi l3] [vi l2] dX4_sumOf_17 myX4_totalOf mRX4_29 mvX4_totalOf rfl (by decide) hk (fun _ hj => tX4_totalOf E l N l0 l1 l3 μ1 _ hk hj) (by decide) rfl (Nat.le_of_ble_eq_true rfl) h (fun x2 μ2 hm h => ?_)
    have hk := hm.k hk (by decide)
    refine a_iadd dX4_sumOf_20 ?_
    refine a_nmi h (fun x3 h => ?_)
    refine a_istore_n (L' := [(2, vi x3), (0, vr l0), (1, vi l1), (3, vi l3)]) dX4_sumOf_21 rfl (by decide) rfl ?_
    refine a_iinc (F := fun x4 => [(3, vi x4), (2, vi x3), (0, vr l0), (1, vi l1)]) 3 dX4_sumOf_22 rfl (by decide) h (fun _ => rfl) (fun x4 h => ?_)
    refine a_goto (tgt := 4) dX4_sumOf_25 rfl ?_
    exact a_sub [2, 3, 1, 0] rfl (p4 l0 l1 x3 x4 μ2 t hk h)
theorem tX4_sumOf_4 (E : m_E) (l : Launch) (z : Nat × Nat) (N : Nat) : ∀ (n : Nat) (l0 l1 l2 l3 : Int) (μ : Mm) (t : Int × Mm), m_kd μ l0 = (4, 0) → jX4_sumOf_4 N n l0 l1 l2 l3 μ = some t → aX4_sumOf E l 4 z 4 [(0, vr l0), (1, vi l1), (2, vi l2), (3, vi l3)] [] μ (rI t)
  | 0, _, _, _, _, _, _, _, h => by cases h
  | n + 1, l0, l1, l2, l3, μ, t, hk, h => tX4_sumOf_4b E l z (jX4_sumOf_4 N n) (tX4_sumOf_4 E l z N n) N l0 l1 l2 l3 μ t hk h
theorem tX4_sumOf (E : m_E) (l : Launch) (N : Nat) (l0 l1 : Int) (μ : Mm) (t : Int × Mm) (hk : m_kd μ l0 = (4, 0)) (h : jX4_sumOf N l0 l1 μ = some t) : TT E l 4 yX4_sumOf cX4_sumOf 4 (some .int) [vr l0, vi l1] μ (rI t) := by
  refine tt_of (L := [(0, vr l0), (1, vi l1)]) (by decide +kernel) (Nat.le_of_ble_eq_true rfl) rfl ?_
  show aX4_sumOf E l 4 (m_sz μ, m_sl μ) 0 [(0, vr l0), (1, vi l1)] [] μ (rI t)
  unfold jX4_sumOf at h
  refine a_iconst dX4_sumOf_0 (okI_b _ rfl) ?_
  refine a_istore_n (L' := [(2, vi 0), (0, vr l0), (1, vi l1)]) dX4_sumOf_1 rfl (by decide) rfl ?_
  refine a_iconst dX4_sumOf_2 (okI_b _ rfl) ?_
  refine a_istore_n (L' := [(3, vi 0), (2, vi 0), (0, vr l0), (1, vi l1)]) dX4_sumOf_3 rfl (by decide) rfl ?_
  exact a_sub [2, 3, 1, 0] rfl (tX4_sumOf_4 E l _ N N l0 l1 0 0 μ t hk h)
-- X4_meanOf
abbrev aX4_meanOf (E : m_E) (l : Launch) (d : Nat) (z : Nat × Nat) (pc : Nat) (L : List (Nat × AV)) (st : List AV) (μ : Mm) (ρ : Option AV × Mm) : Prop := AA E l d z RX4 "meanOf" cX4_meanOf 3 (some .int) pc L st μ ρ
theorem tX4_meanOf_23 (E : m_E) (l : Launch) (z : Nat × Nat) (N : Nat) (l0 s0 : Int) (μ : Mm) (t : Int × Mm) (hk : m_kd μ l0 = (4, 0)) (h : jX4_meanOf_23 N l0 s0 μ = some t) : aX4_meanOf E l 5 z 23 [(0, vr l0)] [vi s0] μ (rI t) := by
  unfold jX4_meanOf_23 at h
  exact a_reti dX4_meanOf_23 h
theorem tX4_meanOf (E : m_E) (l : Launch) (N : Nat) (l0 l1 : Int) (μ : Mm) (t : Int × Mm) (hk : m_kd μ l0 = (4, 0)) (h : jX4_meanOf N l0 l1 μ = some t) : TT E l 5 yX4_meanOf cX4_meanOf 3 (some .int) [vr l0, vi l1] μ (rI t) := by
  refine tt_of (L := [(0, vr l0), (1, vi l1)]) (by decide +kernel) (Nat.le_of_ble_eq_true rfl) rfl ?_
  show aX4_meanOf E l 5 (m_sz μ, m_sl μ) 0 [(0, vr l0), (1, vi l1)] [] μ (rI t)
  unfold jX4_meanOf at h
  refine a_aload_n 0 dX4_meanOf_0 rfl rfl ?_
  refine a_iload_n 1 dX4_meanOf_1 rfl rfl ?_
  refine a_cVi (c := 4) [vi l1] [] dX4_meanOf_2 myX4_gamesOf mRX4_25 mvX4_gamesOf rfl (by decide) hk (fun _ hj => tX4_gamesOf E l N l0 l1 μ _ hk hj) (by decide) rfl (Nat.le_of_ble_eq_true rfl) h (fun x1 μ1 hm h => ?_)
  have hk := hm.k hk (by decide)
  refine a_istore_n (L' := [(2, vi x1), (0, vr l0), (1, vi l1)]) dX4_meanOf_5 rfl (by decide) rfl ?_
  refine a_iload_n 0 dX4_meanOf_6 rfl rfl ?_
  refine a_if_ne (tgt := 14) dX4_meanOf_7 rfl h (fun h => ?_) (fun h => ?_)
  ·
    refine a_aload_n 1 dX4_meanOf_14 rfl rfl ?_
    refine a_iload_n 2 dX4_meanOf_15 rfl rfl ?_
    refine a_cVi (c := 4) [vi l1] [] dX4_meanOf_16 myX4_sumOf mRX4_33 mvX4_sumOf rfl (by decide) hk (fun _ hj => tX4_sumOf E l N l0 l1 μ1 _ hk hj) (by decide) rfl (Nat.le_of_ble_eq_true rfl) h (fun x2 μ2 hm h => ?_)
    have hk := hm.k hk (by decide)
    refine a_iload_n 0 dX4_meanOf_19 rfl rfl ?_
    refine a_cSi [vi x2, vi x1] [] dX4_meanOf_20 myJ9_floorDiv_7cf53 mRX4_36 msJ9_floorDiv_7cf53 (fun _ hj => tJ9_floorDiv_7cf53 E l N x2 x1 μ2 _  hj) (by decide) rfl (Nat.le_of_ble_eq_true rfl) h (fun x3 μ3 hm h => ?_)
    have hk := hm.k hk (by decide)
    exact a_sub [1] rfl (tX4_meanOf_23 E l _ N l0 x3 μ3 t hk h)
  ·
    refine a_iconst dX4_meanOf_10 (okI_b _ rfl) ?_
    refine a_goto (tgt := 23) dX4_meanOf_11 rfl ?_
    exact a_sub [1] rfl (tX4_meanOf_23 E l _ N l0 0 μ1 t hk h)
-- X4_bestOf
abbrev aX4_bestOf (E : m_E) (l : Launch) (d : Nat) (z : Nat × Nat) (pc : Nat) (L : List (Nat × AV)) (st : List AV) (μ : Mm) (ρ : Option AV × Mm) : Prop := AA E l d z RX4 "bestOf" cX4_bestOf 4 (some .int) pc L st μ ρ
theorem tX4_bestOf_9b (E : m_E) (l : Launch) (z : Nat × Nat) (k9 : Int → Int → Int → Int → Mm → Option (Int × Mm)) (p9 : ∀ (l0 l1 l2 l3 : Int) (μ : Mm) (t : Int × Mm), m_kd μ l0 = (4, 0) → k9 l0 l1 l2 l3 μ = some t → aX4_bestOf E l 4 z 9 [(0, vr l0), (1, vi l1), (2, vi l2), (3, vi l3)] [] μ (rI t)) (N : Nat) (l0 l1 l2 l3 : Int) (μ : Mm) (t : Int × Mm) (hk : m_kd μ l0 = (4, 0)) (h : jX4_bestOf_9b k9 N l0 l1 l2 l3 μ = some t) : aX4_bestOf E l 4 z 9 [(0, vr l0), (1, vi l1), (2, vi l2), (3, vi l3)] [] μ (rI t) := by
  unfold jX4_bestOf_9b at h
  refine a_iload_n 3 dX4_bestOf_9 rfl rfl ?_
  refine a_aload_n 0 dX4_bestOf_10 rfl rfl ?_
  refine a_iload_n 1 dX4_bestOf_11 rfl rfl ?_
  refine a_cVi (c := 4) [vi l1] [vi l3] dX4_bestOf_12 myX4_gamesOf mRX4_25 mvX4_gamesOf rfl (by decide) hk (fun _ hj => tX4_gamesOf E l N l0 l1 μ _ hk hj) (by decide) rfl (Nat.le_of_ble_eq_true rfl) h (fun x1 μ1 hm h => ?_)
  have hk := hm.k hk (by decide)
  refine a_icmp_ge (tgt := 35) dX4_bestOf_15 rfl h (fun h => ?_) (fun h => ?_)
  ·
    refine a_iload_n 2 dX4_bestOf_35 rfl rfl ?_
    exact a_reti dX4_bestOf_36 h
  ·
    refine a_iload_n 2 dX4_bestOf_18 rfl rfl ?_
    refine a_aload_n 0 dX4_bestOf_19 rfl rfl ?_
    refine a_iload_n 1 dX4_bestOf_20 rfl rfl ?_
    refine a_iload_n 3 dX4_bestOf_21 rfl rfl ?_
    refine a_cVi (c := 4) [vi l1, vi l3] [vi l2] dX4_bestOf_22 myX4_totalOf mRX4_29 mvX4_totalOf rfl (by decide) hk (fun _ hj => tX4_totalOf E l N l0 l1 l3 μ1 _ hk hj) (by decide) rfl (Nat.le_of_ble_eq_true rfl) h (fun x2 μ2 hm h => ?_)
    have hk := hm.k hk (by decide)
    refine a_mmax dX4_bestOf_25 mRX4_41 (by decide) (Nat.le_of_ble_eq_true rfl) ?_
    refine a_nmi h (fun x3 h => ?_)
    refine a_istore_n (L' := [(2, vi x3), (0, vr l0), (1, vi l1), (3, vi l3)]) dX4_bestOf_28 rfl (by decide) rfl ?_
    refine a_iinc (F := fun x4 => [(3, vi x4), (2, vi x3), (0, vr l0), (1, vi l1)]) 3 dX4_bestOf_29 rfl (by decide) h (fun _ => rfl) (fun x4 h => ?_)
    refine a_goto (tgt := 9) dX4_bestOf_32 rfl ?_
    exact a_sub [2, 3, 1, 0] rfl (p9 l0 l1 x3 x4 μ2 t hk h)
theorem tX4_bestOf_9 (E : m_E) (l : Launch) (z : Nat × Nat) (N : Nat) : ∀ (n : Nat) (l0 l1 l2 l3 : Int) (μ : Mm) (t : Int × Mm), m_kd μ l0 = (4, 0) → jX4_bestOf_9 N n l0 l1 l2 l3 μ = some t → aX4_bestOf E l 4 z 9 [(0, vr l0), (1, vi l1), (2, vi l2), (3, vi l3)] [] μ (rI t)
  | 0, _, _, _, _, _, _, _, h => by cases h
  | n + 1, l0, l1, l2, l3, μ, t, hk, h => tX4_bestOf_9b E l z (jX4_bestOf_9 N n) (tX4_bestOf_9 E l z N n) N l0 l1 l2 l3 μ t hk h
theorem tX4_bestOf (E : m_E) (l : Launch) (N : Nat) (l0 l1 : Int) (μ : Mm) (t : Int × Mm) (hk : m_kd μ l0 = (4, 0)) (h : jX4_bestOf N l0 l1 μ = some t) : TT E l 4 yX4_bestOf cX4_bestOf 4 (some .int) [vr l0, vi l1] μ (rI t) := by
  refine tt_of (L := [(0, vr l0), (1, vi l1)]) (by decide +kernel) (Nat.le_of_ble_eq_true rfl) rfl ?_
  show aX4_bestOf E l 4 (m_sz μ, m_sl μ) 0 [(0, vr l0), (1, vi l1)] [] μ (rI t)
  unfold jX4_bestOf at h
  refine a_aload_n 0 dX4_bestOf_0 rfl rfl ?_
  refine a_iload_n 1 dX4_bestOf_1 rfl rfl ?_
  refine a_iconst dX4_bestOf_2 (okI_b _ rfl) ?_
  refine a_cVi (c := 4) [vi l1, vi 0] [] dX4_bestOf_3 myX4_totalOf mRX4_29 mvX4_totalOf rfl (by decide) hk (fun _ hj => tX4_totalOf E l N l0 l1 0 μ _ hk hj) (by decide) rfl (Nat.le_of_ble_eq_true rfl) h (fun x1 μ1 hm h => ?_)
  have hk := hm.k hk (by decide)
  refine a_istore_n (L' := [(2, vi x1), (0, vr l0), (1, vi l1)]) dX4_bestOf_6 rfl (by decide) rfl ?_
  refine a_iconst dX4_bestOf_7 (okI_b _ rfl) ?_
  refine a_istore_n (L' := [(3, vi 1), (2, vi x1), (0, vr l0), (1, vi l1)]) dX4_bestOf_8 rfl (by decide) rfl ?_
  exact a_sub [2, 3, 1, 0] rfl (tX4_bestOf_9 E l _ N N l0 l1 x1 1 μ1 t hk h)
-- X4_setHandicaps
abbrev aX4_setHandicaps (E : m_E) (l : Launch) (d : Nat) (z : Nat × Nat) (pc : Nat) (L : List (Nat × AV)) (st : List AV) (μ : Mm) (ρ : Option AV × Mm) : Prop := AA E l d z RX4 "setHandicaps" cX4_setHandicaps 3 none pc L st μ ρ
theorem tX4_setHandicaps_2b (E : m_E) (l : Launch) (z : Nat × Nat) (k2 : Int → Int → Int → Mm → Option (Mm)) (p2 : ∀ (l0 l1 l2 : Int) (μ : Mm) (t : Mm), m_kd μ l0 = (4, 0) → k2 l0 l1 l2 μ = some t → aX4_setHandicaps E l 7 z 2 [(0, vr l0), (1, vr l1), (2, vi l2)] [] μ (rV t)) (N : Nat) (l0 l1 l2 : Int) (μ : Mm) (t : Mm) (hk : m_kd μ l0 = (4, 0)) (h : jX4_setHandicaps_2b k2 N l0 l1 l2 μ = some t) : aX4_setHandicaps E l 7 z 2 [(0, vr l0), (1, vr l1), (2, vi l2)] [] μ (rV t) := by
  unfold jX4_setHandicaps_2b at h
  refine a_iload_n 2 dX4_setHandicaps_2 rfl rfl ?_
  refine a_bipush dX4_setHandicaps_3 ⟨rfl, okI_b _ rfl⟩ ?_
  refine a_icmp_ge (tgt := 34) dX4_setHandicaps_5 rfl h (fun h => ?_) (fun h => ?_)
  ·
    exact a_ret0 dX4_setHandicaps_34 h
  ·
    refine a_aload_n 0 dX4_setHandicaps_8 rfl rfl ?_
    refine a_getfr (c := 4) (i := 2) dX4_setHandicaps_9 fRX4_18 g4_2 rfl hk ?_
    refine a_iload_n 2 dX4_setHandicaps_12 rfl rfl ?_
    refine a_aload_n 1 dX4_setHandicaps_13 rfl rfl ?_
    refine a_aload_n 0 dX4_setHandicaps_14 rfl rfl ?_
    refine a_iload_n 2 dX4_setHandicaps_15 rfl rfl ?_
    refine a_cVi (c := 4) [vi l2] [vr l1, vi l2, vr (m_gt μ l0 2)] dX4_setHandicaps_16 myX4_meanOf mRX4_44 mvX4_meanOf rfl (by decide) hk (fun _ hj => tX4_meanOf E l N l0 l2 μ _ hk hj) (by decide) rfl (Nat.le_of_ble_eq_true rfl) h (fun x1 μ1 hm h => ?_)
    have hk := hm.k hk (by decide)
    refine a_aload_n 0 dX4_setHandicaps_19 rfl rfl ?_
    refine a_iload_n 2 dX4_setHandicaps_20 rfl rfl ?_
    refine a_cVi (c := 4) [vi l2] [vi x1, vr l1, vi l2, vr (m_gt μ l0 2)] dX4_setHandicaps_21 myX4_gamesOf mRX4_25 mvX4_gamesOf rfl (by decide) hk (fun _ hj => tX4_gamesOf E l N l0 l2 μ1 _ hk hj) (by decide) rfl (Nat.le_of_ble_eq_true rfl) h (fun x2 μ2 hm h => ?_)
    have hk := hm.k hk (by decide)
    refine m_chk_k h (fun hq18 h => ?_)
    refine a_cVi (c := 1) [vi x1, vi x2] [vi l2, vr (m_gt μ l0 2)] dX4_setHandicaps_24 myX1_handicap mRX4_47 mvX1_handicap rfl (by decide) hq18 (fun _ hj => tX1_handicap E l N l1 x1 x2 μ2 _ hq18 hj) (by decide) rfl (Nat.le_of_ble_eq_true rfl) h (fun x3 μ3 hm h => ?_)
    have hk := hm.k hk (by decide)
    have hq18 := hm.k hq18 (by decide)
    refine a_iast dX4_setHandicaps_27 h (fun μ4 hm h => ?_)
    have hk := hm.k hk (by decide)
    have hq18 := hm.k hq18 (by decide)
    refine a_iinc (F := fun x4 => [(2, vi x4), (0, vr l0), (1, vr l1)]) 2 dX4_setHandicaps_28 rfl (by decide) h (fun _ => rfl) (fun x4 h => ?_)
    refine a_goto (tgt := 2) dX4_setHandicaps_31 rfl ?_
    exact a_sub [1, 2, 0] rfl (p2 l0 l1 x4 μ4 t hk h)
theorem tX4_setHandicaps_2 (E : m_E) (l : Launch) (z : Nat × Nat) (N : Nat) : ∀ (n : Nat) (l0 l1 l2 : Int) (μ : Mm) (t : Mm), m_kd μ l0 = (4, 0) → jX4_setHandicaps_2 N n l0 l1 l2 μ = some t → aX4_setHandicaps E l 7 z 2 [(0, vr l0), (1, vr l1), (2, vi l2)] [] μ (rV t)
  | 0, _, _, _, _, _, _, h => by cases h
  | n + 1, l0, l1, l2, μ, t, hk, h => tX4_setHandicaps_2b E l z (jX4_setHandicaps_2 N n) (tX4_setHandicaps_2 E l z N n) N l0 l1 l2 μ t hk h
theorem tX4_setHandicaps (E : m_E) (l : Launch) (N : Nat) (l0 l1 : Int) (μ : Mm) (t : Mm) (hk : m_kd μ l0 = (4, 0)) (h : jX4_setHandicaps N l0 l1 μ = some t) : TT E l 7 yX4_setHandicaps cX4_setHandicaps 3 none [vr l0, vr l1] μ (rV t) := by
  refine tt_of (L := [(0, vr l0), (1, vr l1)]) (by decide +kernel) (Nat.le_of_ble_eq_true rfl) rfl ?_
  show aX4_setHandicaps E l 7 (m_sz μ, m_sl μ) 0 [(0, vr l0), (1, vr l1)] [] μ (rV t)
  unfold jX4_setHandicaps at h
  refine a_iconst dX4_setHandicaps_0 (okI_b _ rfl) ?_
  refine a_istore_n (L' := [(2, vi 0), (0, vr l0), (1, vr l1)]) dX4_setHandicaps_1 rfl (by decide) rfl ?_
  exact a_sub [1, 2, 0] rfl (tX4_setHandicaps_2 E l _ N N l0 l1 0 μ t hk h)
-- X4_handicapOf
abbrev aX4_handicapOf (E : m_E) (l : Launch) (d : Nat) (z : Nat × Nat) (pc : Nat) (L : List (Nat × AV)) (st : List AV) (μ : Mm) (ρ : Option AV × Mm) : Prop := AA E l d z RX4 "handicapOf" cX4_handicapOf 2 (some .int) pc L st μ ρ
theorem tX4_handicapOf_18 (E : m_E) (l : Launch) (z : Nat × Nat) (N : Nat) (l0 s0 : Int) (μ : Mm) (t : Int × Mm) (hk : m_kd μ l0 = (4, 0)) (h : jX4_handicapOf_18 N l0 s0 μ = some t) : aX4_handicapOf E l 2 z 18 [(0, vr l0)] [vi s0] μ (rI t) := by
  unfold jX4_handicapOf_18 at h
  exact a_reti dX4_handicapOf_18 h
theorem tX4_handicapOf (E : m_E) (l : Launch) (N : Nat) (l0 l1 : Int) (μ : Mm) (t : Int × Mm) (hk : m_kd μ l0 = (4, 0)) (h : jX4_handicapOf N l0 l1 μ = some t) : TT E l 2 yX4_handicapOf cX4_handicapOf 2 (some .int) [vr l0, vi l1] μ (rI t) := by
  refine tt_of (L := [(0, vr l0), (1, vi l1)]) (by decide +kernel) (Nat.le_of_ble_eq_true rfl) rfl ?_
  show aX4_handicapOf E l 2 (m_sz μ, m_sl μ) 0 [(0, vr l0), (1, vi l1)] [] μ (rI t)
  unfold jX4_handicapOf at h
  refine a_aload_n 0 dX4_handicapOf_0 rfl rfl ?_
  refine a_iload_n 1 dX4_handicapOf_1 rfl rfl ?_
  refine a_cVi (c := 4) [vi l1] [] dX4_handicapOf_2 myX4_knows mRX4_21 mvX4_knows rfl (by decide) hk (fun _ hj => tX4_knows E l N l0 l1 μ _ hk hj) (by decide) rfl (Nat.le_of_ble_eq_true rfl) h (fun x1 μ1 hm h => ?_)
  have hk := hm.k hk (by decide)
  refine a_if_eq (tgt := 17) dX4_handicapOf_5 rfl h (fun h => ?_) (fun h => ?_)
  ·
    refine a_iconst dX4_handicapOf_17 (okI_b _ rfl) ?_
    exact a_sub [0] rfl (tX4_handicapOf_18 E l _ N l0 0 μ1 t hk h)
  ·
    refine a_aload_n 0 dX4_handicapOf_8 rfl rfl ?_
    refine a_getfr (c := 4) (i := 2) dX4_handicapOf_9 fRX4_18 g4_2 rfl hk ?_
    refine a_iload_n 1 dX4_handicapOf_12 rfl rfl ?_
    refine a_iald dX4_handicapOf_13 h (fun x2 h => ?_)
    refine a_goto (tgt := 18) dX4_handicapOf_14 rfl ?_
    exact a_sub [0] rfl (tX4_handicapOf_18 E l _ N l0 x2 μ1 t hk h)
-- X4_meeting
abbrev aX4_meeting (E : m_E) (l : Launch) (d : Nat) (z : Nat × Nat) (pc : Nat) (L : List (Nat × AV)) (st : List AV) (μ : Mm) (ρ : Option AV × Mm) : Prop := AA E l d z RX4 "meeting" cX4_meeting 7 (some .int) pc L st μ ρ
theorem tX4_meeting_33b (E : m_E) (l : Launch) (z : Nat × Nat) (k33 : Int → Int → Int → Int → Int → Int → Int → Mm → Option (Int × Mm)) (p33 : ∀ (l0 l1 l2 l3 l4 l5 l6 : Int) (μ : Mm) (t : Int × Mm), m_kd μ l0 = (4, 0) → k33 l0 l1 l2 l3 l4 l5 l6 μ = some t → aX4_meeting E l 4 z 33 [(0, vr l0), (1, vi l1), (2, vi l2), (3, vi l3), (4, vi l4), (5, vi l5), (6, vi l6)] [] μ (rI t)) (N : Nat) (l0 l1 l2 l3 l4 l5 l6 : Int) (μ : Mm) (t : Int × Mm) (hk : m_kd μ l0 = (4, 0)) (h : jX4_meeting_33b k33 N l0 l1 l2 l3 l4 l5 l6 μ = some t) : aX4_meeting E l 4 z 33 [(0, vr l0), (1, vi l1), (2, vi l2), (3, vi l3), (4, vi l4), (5, vi l5), (6, vi l6)] [] μ (rI t) := by
  unfold jX4_meeting_33b at h
  refine a_iload 6 dX4_meeting_33 rfl ?_
  refine a_iload_n 3 dX4_meeting_35 rfl rfl ?_
  refine a_icmp_ge (tgt := 73) dX4_meeting_36 rfl h (fun h => ?_) (fun h => ?_)
  ·
    refine a_iload 5 dX4_meeting_73 rfl ?_
    exact a_reti dX4_meeting_75 h
  ·
    refine a_iload 5 dX4_meeting_39 rfl ?_
    refine a_iconst dX4_meeting_41 (okI_b _ rfl) ?_
    refine a_aload_n 0 dX4_meeting_42 rfl rfl ?_
    refine a_iload_n 1 dX4_meeting_43 rfl rfl ?_
    refine a_iload 6 dX4_meeting_44 rfl ?_
    refine a_cVi (c := 4) [vi l1, vi l6] [vi 1, vi l5] dX4_meeting_46 myX4_totalOf mRX4_29 mvX4_totalOf rfl (by decide) hk (fun _ hj => tX4_totalOf E l N l0 l1 l6 μ _ hk hj) (by decide) rfl (Nat.le_of_ble_eq_true rfl) h (fun x1 μ1 hm h => ?_)
    have hk := hm.k hk (by decide)
    refine a_iload 4 dX4_meeting_49 rfl ?_
    refine a_iadd dX4_meeting_51 ?_
    refine a_aload_n 0 dX4_meeting_52 rfl rfl ?_
    refine a_iload_n 2 dX4_meeting_53 rfl rfl ?_
    refine a_iload 6 dX4_meeting_54 rfl ?_
    refine a_cVi (c := 4) [vi l2, vi l6] [vi (i_add x1 l4), vi 1, vi l5] dX4_meeting_56 myX4_totalOf mRX4_29 mvX4_totalOf rfl (by decide) hk (fun _ hj => tX4_totalOf E l N l0 l2 l6 μ1 _ hk hj) (by decide) rfl (Nat.le_of_ble_eq_true rfl) h (fun x2 μ2 hm h => ?_)
    have hk := hm.k hk (by decide)
    refine a_isub dX4_meeting_59 ?_
    refine a_cSi [vi (i_sub (i_add x1 l4) x2)] [vi 1, vi l5] dX4_meeting_60 myJ6_signum_0f7a4 mRX4_58 msJ6_signum_0f7a4 (fun _ hj => tJ6_signum_0f7a4 E l N (i_sub (i_add x1 l4) x2) μ2 _  hj) (by decide) rfl (Nat.le_of_ble_eq_true rfl) h (fun x3 μ3 hm h => ?_)
    have hk := hm.k hk (by decide)
    refine a_iadd dX4_meeting_63 ?_
    refine a_iadd dX4_meeting_64 ?_
    refine a_nmi h (fun x4 h => ?_)
    refine a_istore (L' := [(5, vi x4), (0, vr l0), (1, vi l1), (2, vi l2), (3, vi l3), (4, vi l4), (6, vi l6)]) dX4_meeting_65 (by decide) rfl ?_
    refine a_iinc (F := fun x5 => [(6, vi x5), (5, vi x4), (0, vr l0), (1, vi l1), (2, vi l2), (3, vi l3), (4, vi l4)]) 6 dX4_meeting_67 rfl (by decide) h (fun _ => rfl) (fun x5 h => ?_)
    refine a_goto (tgt := 33) dX4_meeting_70 rfl ?_
    exact a_sub [2, 3, 4, 5, 6, 1, 0] rfl (p33 l0 l1 l2 l3 l4 x4 x5 μ3 t hk h)
theorem tX4_meeting_33 (E : m_E) (l : Launch) (z : Nat × Nat) (N : Nat) : ∀ (n : Nat) (l0 l1 l2 l3 l4 l5 l6 : Int) (μ : Mm) (t : Int × Mm), m_kd μ l0 = (4, 0) → jX4_meeting_33 N n l0 l1 l2 l3 l4 l5 l6 μ = some t → aX4_meeting E l 4 z 33 [(0, vr l0), (1, vi l1), (2, vi l2), (3, vi l3), (4, vi l4), (5, vi l5), (6, vi l6)] [] μ (rI t)
  | 0, _, _, _, _, _, _, _, _, _, _, h => by cases h
  | n + 1, l0, l1, l2, l3, l4, l5, l6, μ, t, hk, h => tX4_meeting_33b E l z (jX4_meeting_33 N n) (tX4_meeting_33 E l z N n) N l0 l1 l2 l3 l4 l5 l6 μ t hk h
theorem tX4_meeting (E : m_E) (l : Launch) (N : Nat) (l0 l1 l2 : Int) (μ : Mm) (t : Int × Mm) (hk : m_kd μ l0 = (4, 0)) (h : jX4_meeting N l0 l1 l2 μ = some t) : TT E l 4 yX4_meeting cX4_meeting 7 (some .int) [vr l0, vi l1, vi l2] μ (rI t) := by
  refine tt_of (L := [(0, vr l0), (1, vi l1), (2, vi l2)]) (by decide +kernel) (Nat.le_of_ble_eq_true rfl) rfl ?_
  show aX4_meeting E l 4 (m_sz μ, m_sl μ) 0 [(0, vr l0), (1, vi l1), (2, vi l2)] [] μ (rI t)
  unfold jX4_meeting at h
  refine a_aload_n 0 dX4_meeting_0 rfl rfl ?_
  refine a_iload_n 1 dX4_meeting_1 rfl rfl ?_
  refine a_cVi (c := 4) [vi l1] [] dX4_meeting_2 myX4_gamesOf mRX4_25 mvX4_gamesOf rfl (by decide) hk (fun _ hj => tX4_gamesOf E l N l0 l1 μ _ hk hj) (by decide) rfl (Nat.le_of_ble_eq_true rfl) h (fun x1 μ1 hm h => ?_)
  have hk := hm.k hk (by decide)
  refine a_aload_n 0 dX4_meeting_5 rfl rfl ?_
  refine a_iload_n 2 dX4_meeting_6 rfl rfl ?_
  refine a_cVi (c := 4) [vi l2] [vi x1] dX4_meeting_7 myX4_gamesOf mRX4_25 mvX4_gamesOf rfl (by decide) hk (fun _ hj => tX4_gamesOf E l N l0 l2 μ1 _ hk hj) (by decide) rfl (Nat.le_of_ble_eq_true rfl) h (fun x2 μ2 hm h => ?_)
  have hk := hm.k hk (by decide)
  refine a_mmin dX4_meeting_10 mRX4_52 (by decide) (Nat.le_of_ble_eq_true rfl) ?_
  refine a_nmi h (fun x3 h => ?_)
  refine a_istore_n (L' := [(3, vi x3), (0, vr l0), (1, vi l1), (2, vi l2)]) dX4_meeting_13 rfl (by decide) rfl ?_
  refine a_aload_n 1 dX4_meeting_14 rfl rfl ?_
  refine a_iload_n 2 dX4_meeting_15 rfl rfl ?_
  refine a_cVi (c := 4) [vi l1] [] dX4_meeting_16 myX4_handicapOf mRX4_55 mvX4_handicapOf rfl (by decide) hk (fun _ hj => tX4_handicapOf E l N l0 l1 μ2 _ hk hj) (by decide) rfl (Nat.le_of_ble_eq_true rfl) h (fun x4 μ3 hm h => ?_)
  have hk := hm.k hk (by decide)
  refine a_aload_n 1 dX4_meeting_19 rfl rfl ?_
  refine a_iload_n 3 dX4_meeting_20 rfl rfl ?_
  refine a_cVi (c := 4) [vi l2] [vi x4] dX4_meeting_21 myX4_handicapOf mRX4_55 mvX4_handicapOf rfl (by decide) hk (fun _ hj => tX4_handicapOf E l N l0 l2 μ3 _ hk hj) (by decide) rfl (Nat.le_of_ble_eq_true rfl) h (fun x5 μ4 hm h => ?_)
  have hk := hm.k hk (by decide)
  refine a_isub dX4_meeting_24 ?_
  refine a_nmi h (fun x6 h => ?_)
  refine a_istore (L' := [(4, vi x6), (3, vi x3), (0, vr l0), (1, vi l1), (2, vi l2)]) dX4_meeting_25 (by decide) rfl ?_
  refine a_iconst dX4_meeting_27 (okI_b _ rfl) ?_
  refine a_istore (L' := [(5, vi 0), (4, vi x6), (3, vi x3), (0, vr l0), (1, vi l1), (2, vi l2)]) dX4_meeting_28 (by decide) rfl ?_
  refine a_iconst dX4_meeting_30 (okI_b _ rfl) ?_
  refine a_istore (L' := [(6, vi 0), (5, vi 0), (4, vi x6), (3, vi x3), (0, vr l0), (1, vi l1), (2, vi l2)]) dX4_meeting_31 (by decide) rfl ?_
  exact a_sub [4, 5, 6, 3, 2, 1, 0] rfl (tX4_meeting_33 E l _ N N l0 l1 l2 x3 x6 0 0 μ4 t hk h)
-- X4_gathered
abbrev aX4_gathered (E : m_E) (l : Launch) (d : Nat) (z : Nat × Nat) (pc : Nat) (L : List (Nat × AV)) (st : List AV) (μ : Mm) (ρ : Option AV × Mm) : Prop := AA E l d z RX4 "gathered" cX4_gathered 4 (some .int) pc L st μ ρ
theorem tX4_gathered_26 (E : m_E) (l : Launch) (z : Nat × Nat) (k4 : Int → Int → Int → Int → Mm → Option (Int × Mm)) (p4 : ∀ (l0 l1 l2 l3 : Int) (μ : Mm) (t : Int × Mm), m_kd μ l0 = (4, 0) → k4 l0 l1 l2 l3 μ = some t → aX4_gathered E l 5 z 4 [(0, vr l0), (1, vi l1), (2, vi l2), (3, vi l3)] [] μ (rI t)) (N : Nat) (l0 l1 l3 s0 s1 : Int) (μ : Mm) (t : Int × Mm) (hk : m_kd μ l0 = (4, 0)) (h : jX4_gathered_26 k4 N l0 l1 l3 s0 s1 μ = some t) : aX4_gathered E l 5 z 26 [(0, vr l0), (1, vi l1), (3, vi l3)] [vi s0, vi s1] μ (rI t) := by
  unfold jX4_gathered_26 at h
  refine a_iadd dX4_gathered_26 ?_
  refine a_nmi h (fun x1 h => ?_)
  refine a_istore_n (L' := [(2, vi x1), (0, vr l0), (1, vi l1), (3, vi l3)]) dX4_gathered_27 rfl (by decide) rfl ?_
  refine a_iinc (F := fun x2 => [(3, vi x2), (2, vi x1), (0, vr l0), (1, vi l1)]) 3 dX4_gathered_28 rfl (by decide) h (fun _ => rfl) (fun x2 h => ?_)
  refine a_goto (tgt := 4) dX4_gathered_31 rfl ?_
  exact a_sub [2, 3, 1, 0] rfl (p4 l0 l1 x1 x2 μ t hk h)
theorem tX4_gathered_4b (E : m_E) (l : Launch) (z : Nat × Nat) (k4 : Int → Int → Int → Int → Mm → Option (Int × Mm)) (p4 : ∀ (l0 l1 l2 l3 : Int) (μ : Mm) (t : Int × Mm), m_kd μ l0 = (4, 0) → k4 l0 l1 l2 l3 μ = some t → aX4_gathered E l 5 z 4 [(0, vr l0), (1, vi l1), (2, vi l2), (3, vi l3)] [] μ (rI t)) (N : Nat) (l0 l1 l2 l3 : Int) (μ : Mm) (t : Int × Mm) (hk : m_kd μ l0 = (4, 0)) (h : jX4_gathered_4b k4 N l0 l1 l2 l3 μ = some t) : aX4_gathered E l 5 z 4 [(0, vr l0), (1, vi l1), (2, vi l2), (3, vi l3)] [] μ (rI t) := by
  unfold jX4_gathered_4b at h
  refine a_iload_n 3 dX4_gathered_4 rfl rfl ?_
  refine a_bipush dX4_gathered_5 ⟨rfl, okI_b _ rfl⟩ ?_
  refine a_icmp_ge (tgt := 34) dX4_gathered_7 rfl h (fun h => ?_) (fun h => ?_)
  ·
    refine a_iload_n 2 dX4_gathered_34 rfl rfl ?_
    exact a_reti dX4_gathered_35 h
  ·
    refine a_iload_n 2 dX4_gathered_10 rfl rfl ?_
    refine a_iload_n 3 dX4_gathered_11 rfl rfl ?_
    refine a_iload_n 1 dX4_gathered_12 rfl rfl ?_
    refine a_icmp_ne (tgt := 20) dX4_gathered_13 rfl h (fun h => ?_) (fun h => ?_)
    ·
      refine a_aload_n 0 dX4_gathered_20 rfl rfl ?_
      refine a_iload_n 1 dX4_gathered_21 rfl rfl ?_
      refine a_iload_n 3 dX4_gathered_22 rfl rfl ?_
      refine a_cVi (c := 4) [vi l1, vi l3] [vi l2] dX4_gathered_23 myX4_meeting mRX4_63 mvX4_meeting rfl (by decide) hk (fun _ hj => tX4_meeting E l N l0 l1 l3 μ _ hk hj) (by decide) rfl (Nat.le_of_ble_eq_true rfl) h (fun x1 μ1 hm h => ?_)
      have hk := hm.k hk (by decide)
      exact a_sub [0, 1, 3] rfl (tX4_gathered_26 E l _ k4 p4 N l0 l1 l3 x1 l2 μ1 t hk h)
    ·
      refine a_iconst dX4_gathered_16 (okI_b _ rfl) ?_
      refine a_goto (tgt := 26) dX4_gathered_17 rfl ?_
      exact a_sub [0, 1, 3] rfl (tX4_gathered_26 E l _ k4 p4 N l0 l1 l3 0 l2 μ t hk h)
theorem tX4_gathered_4 (E : m_E) (l : Launch) (z : Nat × Nat) (N : Nat) : ∀ (n : Nat) (l0 l1 l2 l3 : Int) (μ : Mm) (t : Int × Mm), m_kd μ l0 = (4, 0) → jX4_gathered_4 N n l0 l1 l2 l3 μ = some t → aX4_gathered E l 5 z 4 [(0, vr l0), (1, vi l1), (2, vi l2), (3, vi l3)] [] μ (rI t)
  | 0, _, _, _, _, _, _, _, h => by cases h
  | n + 1, l0, l1, l2, l3, μ, t, hk, h => tX4_gathered_4b E l z (jX4_gathered_4 N n) (tX4_gathered_4 E l z N n) N l0 l1 l2 l3 μ t hk h
theorem tX4_gathered (E : m_E) (l : Launch) (N : Nat) (l0 l1 : Int) (μ : Mm) (t : Int × Mm) (hk : m_kd μ l0 = (4, 0)) (h : jX4_gathered N l0 l1 μ = some t) : TT E l 5 yX4_gathered cX4_gathered 4 (some .int) [vr l0, vi l1] μ (rI t) := by
  refine tt_of (L := [(0, vr l0), (1, vi l1)]) (by decide +kernel) (Nat.le_of_ble_eq_true rfl) rfl ?_
  show aX4_gathered E l 5 (m_sz μ, m_sl μ) 0 [(0, vr l0), (1, vi l1)] [] μ (rI t)
  unfold jX4_gathered at h
  refine a_iconst dX4_gathered_0 (okI_b _ rfl) ?_
  refine a_istore_n (L' := [(2, vi 0), (0, vr l0), (1, vi l1)]) dX4_gathered_1 rfl (by decide) rfl ?_
  refine a_iconst dX4_gathered_2 (okI_b _ rfl) ?_
  refine a_istore_n (L' := [(3, vi 0), (2, vi 0), (0, vr l0), (1, vi l1)]) dX4_gathered_3 rfl (by decide) rfl ?_
  exact a_sub [2, 3, 1, 0] rfl (tX4_gathered_4 E l _ N N l0 l1 0 0 μ t hk h)
-- X4_countAhead
abbrev aX4_countAhead (E : m_E) (l : Launch) (d : Nat) (z : Nat × Nat) (pc : Nat) (L : List (Nat × AV)) (st : List AV) (μ : Mm) (ρ : Option AV × Mm) : Prop := AA E l d z RX4 "countAhead" cX4_countAhead 5 (some .int) pc L st μ ρ
theorem tX4_countAhead_34 (E : m_E) (l : Launch) (z : Nat × Nat) (k11 : Int → Int → Int → Int → Mm → Option (Int × Mm)) (p11 : ∀ (l0 l2 l3 l4 : Int) (μ : Mm) (t : Int × Mm), m_kd μ l0 = (4, 0) → k11 l0 l2 l3 l4 μ = some t → aX4_countAhead E l 6 z 11 [(0, vr l0), (2, vi l2), (3, vi l3), (4, vi l4)] [] μ (rI t)) (N : Nat) (l0 l2 l4 s0 s1 : Int) (μ : Mm) (t : Int × Mm) (hk : m_kd μ l0 = (4, 0)) (h : jX4_countAhead_34 k11 N l0 l2 l4 s0 s1 μ = some t) : aX4_countAhead E l 6 z 34 [(0, vr l0), (2, vi l2), (4, vi l4)] [vi s0, vi s1] μ (rI t) := by
  unfold jX4_countAhead_34 at h
  refine a_iadd dX4_countAhead_34 ?_
  refine a_nmi h (fun x1 h => ?_)
  refine a_istore_n (L' := [(3, vi x1), (0, vr l0), (2, vi l2), (4, vi l4)]) dX4_countAhead_35 rfl (by decide) rfl ?_
  refine a_iinc (F := fun x2 => [(4, vi x2), (3, vi x1), (0, vr l0), (2, vi l2)]) 3 dX4_countAhead_36 rfl (by decide) h (fun _ => rfl) (fun x2 h => ?_)
  refine a_goto (tgt := 11) dX4_countAhead_39 rfl ?_
  exact a_sub [2, 3, 1, 0] rfl (p11 l0 l2 x1 x2 μ t hk h)
theorem tX4_countAhead_11b (E : m_E) (l : Launch) (z : Nat × Nat) (k11 : Int → Int → Int → Int → Mm → Option (Int × Mm)) (p11 : ∀ (l0 l2 l3 l4 : Int) (μ : Mm) (t : Int × Mm), m_kd μ l0 = (4, 0) → k11 l0 l2 l3 l4 μ = some t → aX4_countAhead E l 6 z 11 [(0, vr l0), (2, vi l2), (3, vi l3), (4, vi l4)] [] μ (rI t)) (N : Nat) (l0 l2 l3 l4 : Int) (μ : Mm) (t : Int × Mm) (hk : m_kd μ l0 = (4, 0)) (h : jX4_countAhead_11b k11 N l0 l2 l3 l4 μ = some t) : aX4_countAhead E l 6 z 11 [(0, vr l0), (2, vi l2), (3, vi l3), (4, vi l4)] [] μ (rI t) := by
  unfold jX4_countAhead_11b at h
  refine a_iload 3 dX4_countAhead_11 rfl ?_
  refine a_bipush dX4_countAhead_13 ⟨rfl, okI_b _ rfl⟩ ?_
  refine a_icmp_ge (tgt := 42) dX4_countAhead_15 rfl h (fun h => ?_) (fun h => ?_)
  ·
    refine a_iload_n 2 dX4_countAhead_42 rfl rfl ?_
    exact a_reti dX4_countAhead_43 h
  ·
    refine a_iload_n 2 dX4_countAhead_18 rfl rfl ?_
    refine a_aload_n 0 dX4_countAhead_19 rfl rfl ?_
    refine a_iload 3 dX4_countAhead_20 rfl ?_
    refine a_cVi (c := 4) [vi l4] [vi l3] dX4_countAhead_22 myX4_gathered mRX4_66 mvX4_gathered rfl (by decide) hk (fun _ hj => tX4_gathered E l N l0 l4 μ _ hk hj) (by decide) rfl (Nat.le_of_ble_eq_true rfl) h (fun x1 μ1 hm h => ?_)
    have hk := hm.k hk (by decide)
    refine a_iload_n 1 dX4_countAhead_25 rfl rfl ?_
    refine a_icmp_le (tgt := 33) dX4_countAhead_26 rfl h (fun h => ?_) (fun h => ?_)
    ·
      refine a_iconst dX4_countAhead_33 (okI_b _ rfl) ?_
      exact a_sub [0, 1, 3] rfl (tX4_countAhead_34 E l _ k11 p11 N l0 l2 l4 0 l3 μ1 t hk h)
    ·
      refine a_iconst dX4_countAhead_29 (okI_b _ rfl) ?_
      refine a_goto (tgt := 34) dX4_countAhead_30 rfl ?_
      exact a_sub [0, 1, 3] rfl (tX4_countAhead_34 E l _ k11 p11 N l0 l2 l4 1 l3 μ1 t hk h)
theorem tX4_countAhead_11 (E : m_E) (l : Launch) (z : Nat × Nat) (N : Nat) : ∀ (n : Nat) (l0 l2 l3 l4 : Int) (μ : Mm) (t : Int × Mm), m_kd μ l0 = (4, 0) → jX4_countAhead_11 N n l0 l2 l3 l4 μ = some t → aX4_countAhead E l 6 z 11 [(0, vr l0), (2, vi l2), (3, vi l3), (4, vi l4)] [] μ (rI t)
  | 0, _, _, _, _, _, _, _, h => by cases h
  | n + 1, l0, l2, l3, l4, μ, t, hk, h => tX4_countAhead_11b E l z (jX4_countAhead_11 N n) (tX4_countAhead_11 E l z N n) N l0 l2 l3 l4 μ t hk h
theorem tX4_countAhead (E : m_E) (l : Launch) (N : Nat) (l0 l1 : Int) (μ : Mm) (t : Int × Mm) (hk : m_kd μ l0 = (4, 0)) (h : jX4_countAhead N l0 l1 μ = some t) : TT E l 6 yX4_countAhead cX4_countAhead 5 (some .int) [vr l0, vi l1] μ (rI t) := by
  refine tt_of (L := [(0, vr l0), (1, vi l1)]) (by decide +kernel) (Nat.le_of_ble_eq_true rfl) rfl ?_
  show aX4_countAhead E l 6 (m_sz μ, m_sl μ) 0 [(0, vr l0), (1, vi l1)] [] μ (rI t)
  unfold jX4_countAhead at h
  refine a_aload_n 0 dX4_countAhead_0 rfl rfl ?_
  refine a_iload_n 1 dX4_countAhead_1 rfl rfl ?_
  refine a_cVi (c := 4) [vi l1] [] dX4_countAhead_2 myX4_gathered mRX4_66 mvX4_gathered rfl (by decide) hk (fun _ hj => tX4_gathered E l N l0 l1 μ _ hk hj) (by decide) rfl (Nat.le_of_ble_eq_true rfl) h (fun x1 μ1 hm h => ?_)
  have hk := hm.k hk (by decide)
  refine a_istore_n (L' := [(2, vi x1), (0, vr l0), (1, vi l1)]) dX4_countAhead_5 rfl (by decide) rfl ?_
  refine a_iconst dX4_countAhead_6 (okI_b _ rfl) ?_
  refine a_istore_n (L' := [(3, vi 0), (2, vi x1), (0, vr l0), (1, vi l1)]) dX4_countAhead_7 rfl (by decide) rfl ?_
  refine a_iconst dX4_countAhead_8 (okI_b _ rfl) ?_
  refine a_istore (L' := [(4, vi 0), (3, vi 0), (2, vi x1), (0, vr l0), (1, vi l1)]) dX4_countAhead_9 (by decide) rfl ?_
  exact a_sub [3, 2, 1, 0] rfl (tX4_countAhead_11 E l _ N N l0 x1 0 0 μ1 t hk h)
-- X5_empty
abbrev aX5_empty (E : m_E) (l : Launch) (d : Nat) (z : Nat × Nat) (pc : Nat) (L : List (Nat × AV)) (st : List AV) (μ : Mm) (ρ : Option AV × Mm) : Prop := AA E l d z RX5 "empty" cX5_empty 2 none pc L st μ ρ
theorem tX5_empty (E : m_E) (l : Launch) (N : Nat) (l0 l1 : Int) (μ : Mm) (t : Mm) (hk : m_kd μ l0 = (5, 0)) (h : jX5_empty N l0 l1 μ = some t) : TT E l 1 yX5_empty cX5_empty 2 none [vr l0, vr l1] μ (rV t) := by
  refine tt_of (L := [(0, vr l0), (1, vr l1)]) (by decide +kernel) (Nat.le_of_ble_eq_true rfl) rfl ?_
  show aX5_empty E l 1 (m_sz μ, m_sl μ) 0 [(0, vr l0), (1, vr l1)] [] μ (rV t)
  unfold jX5_empty at h
  refine a_aload_n 0 dX5_empty_0 rfl rfl ?_
  refine a_aload_n 1 dX5_empty_1 rfl rfl ?_
  refine a_putfr (c := 5) (i := 5) dX5_empty_2 fRX5_22 g5_5 (Or.inl rfl) rfl hk h (fun μ1 hm h => ?_)
  have hk := hm.k hk (by decide)
  refine a_aload_n 0 dX5_empty_5 rfl rfl ?_
  refine a_iconst dX5_empty_6 (okI_b _ rfl) ?_
  refine a_putfi (c := 5) (i := 1) dX5_empty_7 fRX5_26 g5_1 (Or.inl rfl) rfl hk h (fun μ2 hm h => ?_)
  have hk := hm.k hk (by decide)
  refine a_aload_n 0 dX5_empty_10 rfl rfl ?_
  refine a_iconst dX5_empty_11 (okI_b _ rfl) ?_
  refine a_putfi (c := 5) (i := 2) dX5_empty_12 fRX5_30 g5_2 (Or.inl rfl) rfl hk h (fun μ3 hm h => ?_)
  have hk := hm.k hk (by decide)
  refine a_aload_n 0 dX5_empty_15 rfl rfl ?_
  refine a_iconst dX5_empty_16 (okI_b _ rfl) ?_
  refine a_putfi (c := 5) (i := 3) dX5_empty_17 fRX5_33 g5_3 (Or.inl rfl) rfl hk h (fun μ4 hm h => ?_)
  have hk := hm.k hk (by decide)
  refine a_aload_n 0 dX5_empty_20 rfl rfl ?_
  refine a_aload_n 1 dX5_empty_21 rfl rfl ?_
  refine m_chk_k h (fun hq18 h => ?_)
  refine a_getfi (c := 1) (i := 1) dX5_empty_22 fRX5_36 g1_1 rfl hq18 ?_
  refine a_putfi (c := 5) (i := 4) dX5_empty_25 fRX5_41 g5_4 (Or.inl rfl) rfl hk h (fun μ5 hm h => ?_)
  have hk := hm.k hk (by decide)
  have hq18 := hm.k hq18 (by decide)
  refine a_aload_n 0 dX5_empty_28 rfl rfl ?_
  refine a_iconst dX5_empty_29 (okI_b _ rfl) ?_
  refine a_putfi (c := 5) (i := 7) dX5_empty_30 fRX5_44 g5_7 (Or.inl rfl) rfl hk h (fun μ6 hm h => ?_)
  have hk := hm.k hk (by decide)
  have hq18 := hm.k hq18 (by decide)
  refine a_aload_n 0 dX5_empty_33 rfl rfl ?_
  refine a_getfr (c := 5) (i := 6) dX5_empty_34 fRX5_15 g5_6 rfl hk ?_
  refine a_iconst dX5_empty_37 (okI_b _ rfl) ?_
  refine a_iconst dX5_empty_38 (okI_b _ rfl) ?_
  refine a_iast dX5_empty_39 h (fun μ7 hm h => ?_)
  have hk := hm.k hk (by decide)
  have hq18 := hm.k hq18 (by decide)
  exact a_ret0 dX5_empty_40 h
-- X5_init
abbrev aX5_init (E : m_E) (l : Launch) (d : Nat) (z : Nat × Nat) (pc : Nat) (L : List (Nat × AV)) (st : List AV) (μ : Mm) (ρ : Option AV × Mm) : Prop := AA E l d z RX5 "<init>" cX5_init 2 none pc L st μ ρ
theorem tX5_init (E : m_E) (l : Launch) (N : Nat) (l0 l1 : Int) (μ : Mm) (t : Mm) (hk : m_kd μ l0 = (5, 0)) (h : jX5_init N l0 l1 μ = some t) : TT E l 2 yX5_init cX5_init 2 none [vr l0, vr l1] μ (rV t) := by
  refine tt_of (L := [(0, vr l0), (1, vr l1)]) (by decide +kernel) (Nat.le_of_ble_eq_true rfl) rfl ?_
  show aX5_init E l 2 (m_sz μ, m_sl μ) 0 [(0, vr l0), (1, vr l1)] [] μ (rV t)
  unfold jX5_init at h
  refine a_aload_n 0 dX5_init_0 rfl rfl ?_
  refine a_objI dX5_init_1 mRX5_3 ob1 ob2 (by decide) hk (by decide) ?_
  refine a_aload_n 0 dX5_init_4 rfl rfl ?_
  refine a_bipush dX5_init_5 ⟨rfl, okI_b _ rfl⟩ ?_
  refine a_nai dX5_init_7 ac_int h (fun μ1 hm hq4 h => ?_)
  have hk := hm.k hk (by decide)
  refine a_putfr (c := 5) (i := 0) dX5_init_9 fRX5_9 g5_0 (Or.inr ⟨rfl, rfl, rfl⟩) rfl hk h (fun μ2 hm h => ?_)
  have hk := hm.k hk (by decide)
  refine a_aload_n 0 dX5_init_12 rfl rfl ?_
  refine a_bipush dX5_init_13 ⟨rfl, okI_b _ rfl⟩ ?_
  refine a_nai dX5_init_15 ac_int h (fun μ3 hm hq10 h => ?_)
  have hk := hm.k hk (by decide)
  refine a_putfr (c := 5) (i := 6) dX5_init_17 fRX5_15 g5_6 (Or.inr ⟨rfl, rfl, rfl⟩) rfl hk h (fun μ4 hm h => ?_)
  have hk := hm.k hk (by decide)
  refine a_aload_n 0 dX5_init_20 rfl rfl ?_
  refine a_aload_n 1 dX5_init_21 rfl rfl ?_
  refine a_cVv (c := 5) [vr l1] [] dX5_init_22 myX5_empty mRX5_18 mvX5_empty rfl (by decide) hk (fun _ hj => tX5_empty E l N l0 l1 μ4 _ hk hj) (by decide) rfl (Nat.le_of_ble_eq_true rfl) h (fun μ5 hm h => ?_)
  have hk := hm.k hk (by decide)
  exact a_ret0 dX5_init_25 h
-- X5_isWhole
abbrev aX5_isWhole (E : m_E) (l : Launch) (d : Nat) (z : Nat × Nat) (pc : Nat) (L : List (Nat × AV)) (st : List AV) (μ : Mm) (ρ : Option AV × Mm) : Prop := AA E l d z RX5 "isWhole" cX5_isWhole 1 (some .boolean) pc L st μ ρ
theorem tX5_isWhole_30 (E : m_E) (l : Launch) (z : Nat × Nat) (N : Nat) (l0 s0 : Int) (μ : Mm) (t : Int × Mm) (hk : m_kd μ l0 = (5, 0)) (h : jX5_isWhole_30 N l0 s0 μ = some t) : aX5_isWhole E l 1 z 30 [(0, vr l0)] [vi s0] μ (rI t) := by
  unfold jX5_isWhole_30 at h
  exact a_retz dX5_isWhole_30 h
theorem tX5_isWhole_29 (E : m_E) (l : Launch) (z : Nat × Nat) (N : Nat) (l0 : Int) (μ : Mm) (t : Int × Mm) (hk : m_kd μ l0 = (5, 0)) (h : jX5_isWhole_29 N l0 μ = some t) : aX5_isWhole E l 1 z 29 [(0, vr l0)] [] μ (rI t) := by
  unfold jX5_isWhole_29 at h
  refine a_iconst dX5_isWhole_29 (okI_b _ rfl) ?_
  exact a_sub [0] rfl (tX5_isWhole_30 E l _ N l0 0 μ t hk h)
theorem tX5_isWhole (E : m_E) (l : Launch) (N : Nat) (l0 : Int) (μ : Mm) (t : Int × Mm) (hk : m_kd μ l0 = (5, 0)) (h : jX5_isWhole N l0 μ = some t) : TT E l 1 yX5_isWhole cX5_isWhole 1 (some .boolean) [vr l0] μ (rI t) := by
  refine tt_of (L := [(0, vr l0)]) (by decide +kernel) (Nat.le_of_ble_eq_true rfl) rfl ?_
  show aX5_isWhole E l 1 (m_sz μ, m_sl μ) 0 [(0, vr l0)] [] μ (rI t)
  unfold jX5_isWhole at h
  refine a_aload_n 0 dX5_isWhole_0 rfl rfl ?_
  refine a_getfi (c := 5) (i := 2) dX5_isWhole_1 fRX5_30 g5_2 rfl hk ?_
  refine a_aload_n 0 dX5_isWhole_4 rfl rfl ?_
  refine a_getfr (c := 5) (i := 5) dX5_isWhole_5 fRX5_22 g5_5 rfl hk ?_
  refine m_chk_k h (fun hq4 h => ?_)
  refine a_getfi (c := 1) (i := 2) dX5_isWhole_8 fRX5_47 g1_2 rfl hq4 ?_
  refine a_icmp_lt (tgt := 29) dX5_isWhole_11 rfl h (fun h => ?_) (fun h => ?_)
  ·
    exact a_sub [0] rfl (tX5_isWhole_29 E l _ N l0 μ t hk h)
  ·
    refine a_aload_n 0 dX5_isWhole_14 rfl rfl ?_
    refine a_getfi (c := 5) (i := 1) dX5_isWhole_15 fRX5_26 g5_1 rfl hk ?_
    refine a_aload_n 0 dX5_isWhole_18 rfl rfl ?_
    refine a_getfi (c := 5) (i := 7) dX5_isWhole_19 fRX5_44 g5_7 rfl hk ?_
    refine a_icmp_lt (tgt := 29) dX5_isWhole_22 rfl h (fun h => ?_) (fun h => ?_)
    ·
      exact a_sub [0] rfl (tX5_isWhole_29 E l _ N l0 μ t hk h)
    ·
      refine a_iconst dX5_isWhole_25 (okI_b _ rfl) ?_
      refine a_goto (tgt := 30) dX5_isWhole_26 rfl ?_
      exact a_sub [0] rfl (tX5_isWhole_30 E l _ N l0 1 μ t hk h)
-- X5_closeFrame
abbrev aX5_closeFrame (E : m_E) (l : Launch) (d : Nat) (z : Nat × Nat) (pc : Nat) (L : List (Nat × AV)) (st : List AV) (μ : Mm) (ρ : Option AV × Mm) : Prop := AA E l d z RX5 "closeFrame" cX5_closeFrame 1 none pc L st μ ρ
theorem tX5_closeFrame_69 (E : m_E) (l : Launch) (z : Nat × Nat) (N : Nat) (l0 : Int) (μ : Mm) (t : Mm) (hk : m_kd μ l0 = (5, 0)) (h : jX5_closeFrame_69 N l0 μ = some t) : aX5_closeFrame E l 2 z 69 [(0, vr l0)] [] μ (rV t) := by
  unfold jX5_closeFrame_69 at h
  refine a_aload_n 0 dX5_closeFrame_69 rfl rfl ?_
  refine a_iconst dX5_closeFrame_70 (okI_b _ rfl) ?_
  refine a_putfi (c := 5) (i := 3) dX5_closeFrame_71 fRX5_33 g5_3 (Or.inl rfl) rfl hk h (fun μ1 hm h => ?_)
  have hk := hm.k hk (by decide)
  refine a_aload_n 0 dX5_closeFrame_74 rfl rfl ?_
  refine a_aload_n 0 dX5_closeFrame_75 rfl rfl ?_
  refine a_getfr (c := 5) (i := 5) dX5_closeFrame_76 fRX5_22 g5_5 rfl hk ?_
  refine m_chk_k h (fun hq7 h => ?_)
  refine a_getfi (c := 1) (i := 1) dX5_closeFrame_79 fRX5_36 g1_1 rfl hq7 ?_
  refine a_putfi (c := 5) (i := 4) dX5_closeFrame_82 fRX5_41 g5_4 (Or.inl rfl) rfl hk h (fun μ2 hm h => ?_)
  have hk := hm.k hk (by decide)
  have hq7 := hm.k hq7 (by decide)
  exact a_ret0 dX5_closeFrame_85 h
theorem tX5_closeFrame_34 (E : m_E) (l : Launch) (z : Nat × Nat) (N : Nat) (l0 : Int) (μ : Mm) (t : Mm) (hk : m_kd μ l0 = (5, 0)) (h : jX5_closeFrame_34 N l0 μ = some t) : aX5_closeFrame E l 2 z 34 [(0, vr l0)] [] μ (rV t) := by
  unfold jX5_closeFrame_34 at h
  refine a_aload_n 0 dX5_closeFrame_34 rfl rfl ?_
  refine a_dup dX5_closeFrame_35 rfl ?_
  refine a_getfi (c := 5) (i := 2) dX5_closeFrame_36 fRX5_30 g5_2 rfl hk ?_
  refine a_iconst dX5_closeFrame_39 (okI_b _ rfl) ?_
  refine a_iadd dX5_closeFrame_40 ?_
  refine a_putfi (c := 5) (i := 2) dX5_closeFrame_41 fRX5_30 g5_2 (Or.inl rfl) rfl hk h (fun μ1 hm h => ?_)
  have hk := hm.k hk (by decide)
  refine a_aload_n 0 dX5_closeFrame_44 rfl rfl ?_
  refine a_getfi (c := 5) (i := 2) dX5_closeFrame_45 fRX5_30 g5_2 rfl hk ?_
  refine a_aload_n 0 dX5_closeFrame_48 rfl rfl ?_
  refine a_getfr (c := 5) (i := 6) dX5_closeFrame_49 fRX5_15 g5_6 rfl hk ?_
  refine a_alen dX5_closeFrame_52 h (fun x1 h => ?_)
  refine a_icmp_ge (tgt := 69) dX5_closeFrame_53 rfl h (fun h => ?_) (fun h => ?_)
  ·
    exact a_sub [0] rfl (tX5_closeFrame_69 E l _ N l0 μ1 t hk h)
  ·
    refine a_aload_n 0 dX5_closeFrame_56 rfl rfl ?_
    refine a_getfr (c := 5) (i := 6) dX5_closeFrame_57 fRX5_15 g5_6 rfl hk ?_
    refine a_aload_n 0 dX5_closeFrame_60 rfl rfl ?_
    refine a_getfi (c := 5) (i := 2) dX5_closeFrame_61 fRX5_30 g5_2 rfl hk ?_
    refine a_aload_n 0 dX5_closeFrame_64 rfl rfl ?_
    refine a_getfi (c := 5) (i := 1) dX5_closeFrame_65 fRX5_26 g5_1 rfl hk ?_
    refine a_iast dX5_closeFrame_68 h (fun μ2 hm h => ?_)
    have hk := hm.k hk (by decide)
    exact a_sub [0] rfl (tX5_closeFrame_69 E l _ N l0 μ2 t hk h)
theorem tX5_closeFrame (E : m_E) (l : Launch) (N : Nat) (l0 : Int) (μ : Mm) (t : Mm) (hk : m_kd μ l0 = (5, 0)) (h : jX5_closeFrame N l0 μ = some t) : TT E l 2 yX5_closeFrame cX5_closeFrame 1 none [vr l0] μ (rV t) := by
  refine tt_of (L := [(0, vr l0)]) (by decide +kernel) (Nat.le_of_ble_eq_true rfl) rfl ?_
  show aX5_closeFrame E l 2 (m_sz μ, m_sl μ) 0 [(0, vr l0)] [] μ (rV t)
  unfold jX5_closeFrame at h
  refine a_aload_n 0 dX5_closeFrame_0 rfl rfl ?_
  refine a_getfi (c := 5) (i := 4) dX5_closeFrame_1 fRX5_41 g5_4 rfl hk ?_
  refine a_if_ne (tgt := 34) dX5_closeFrame_4 rfl h (fun h => ?_) (fun h => ?_)
  ·
    exact a_sub [0] rfl (tX5_closeFrame_34 E l _ N l0 μ t hk h)
  ·
    refine a_aload_n 0 dX5_closeFrame_7 rfl rfl ?_
    refine a_aload_n 0 dX5_closeFrame_8 rfl rfl ?_
    refine a_getfi (c := 5) (i := 7) dX5_closeFrame_9 fRX5_44 g5_7 rfl hk ?_
    refine a_aload_n 0 dX5_closeFrame_12 rfl rfl ?_
    refine a_getfi (c := 5) (i := 1) dX5_closeFrame_13 fRX5_26 g5_1 rfl hk ?_
    refine a_aload_n 0 dX5_closeFrame_16 rfl rfl ?_
    refine a_getfr (c := 5) (i := 5) dX5_closeFrame_17 fRX5_22 g5_5 rfl hk ?_
    refine a_aload_n 0 dX5_closeFrame_20 rfl rfl ?_
    refine a_getfi (c := 5) (i := 3) dX5_closeFrame_21 fRX5_33 g5_3 rfl hk ?_
    refine m_chk_k h (fun hq15 h => ?_)
    refine a_cVi (c := 1) [vi (m_gt μ l0 3)] [vi (m_gt μ l0 1), vi (m_gt μ l0 7), vr l0] dX5_closeFrame_24 myX1_earnedBy mRX5_66 mvX1_earnedBy rfl (by decide) hq15 (fun _ hj => tX1_earnedBy E l N (m_gt μ l0 5) (m_gt μ l0 3) μ _ hq15 hj) (by decide) rfl (Nat.le_of_ble_eq_true rfl) h (fun x1 μ1 hm h => ?_)
    have hk := hm.k hk (by decide)
    have hq15 := hm.k hq15 (by decide)
    refine a_iadd dX5_closeFrame_27 ?_
    refine a_mmax dX5_closeFrame_28 mRX5_54 (by decide) (Nat.le_of_ble_eq_true rfl) ?_
    refine a_putfi (c := 5) (i := 7) dX5_closeFrame_31 fRX5_44 g5_7 (Or.inl rfl) rfl hk h (fun μ2 hm h => ?_)
    have hk := hm.k hk (by decide)
    have hq15 := hm.k hq15 (by decide)
    exact a_sub [0] rfl (tX5_closeFrame_34 E l _ N l0 μ2 t hk h)
-- X5_add
abbrev aX5_add (E : m_E) (l : Launch) (d : Nat) (z : Nat × Nat) (pc : Nat) (L : List (Nat × AV)) (st : List AV) (μ : Mm) (ρ : Option AV × Mm) : Prop := AA E l d z RX5 "add" cX5_add 2 (some .boolean) pc L st μ ρ
theorem tX5_add_147 (E : m_E) (l : Launch) (z : Nat × Nat) (N : Nat) (l0 : Int) (μ : Mm) (t : Int × Mm) (hk : m_kd μ l0 = (5, 0)) (h : jX5_add_147 N l0 μ = some t) : aX5_add E l 3 z 147 [(0, vr l0)] [] μ (rI t) := by
  unfold jX5_add_147 at h
  refine a_iconst dX5_add_147 (okI_b _ rfl) ?_
  exact a_retzl (Or.inr rfl) dX5_add_148 h
theorem tX5_add_143 (E : m_E) (l : Launch) (z : Nat × Nat) (N : Nat) (l0 : Int) (μ : Mm) (t : Int × Mm) (hk : m_kd μ l0 = (5, 0)) (h : jX5_add_143 N l0 μ = some t) : aX5_add E l 3 z 143 [(0, vr l0)] [] μ (rI t) := by
  unfold jX5_add_143 at h
  refine a_aload_n 0 dX5_add_143 rfl rfl ?_
  refine a_cVv (c := 5) [] [] dX5_add_144 myX5_closeFrame mRX5_63 mvX5_closeFrame rfl (by decide) hk (fun _ hj => tX5_closeFrame E l N l0 μ _ hk hj) (by decide) rfl (Nat.le_of_ble_eq_true rfl) h (fun μ1 hm h => ?_)
  have hk := hm.k hk (by decide)
  exact a_sub [0] rfl (tX5_add_147 E l _ N l0 μ1 t hk h)
theorem tX5_add_116 (E : m_E) (l : Launch) (z : Nat × Nat) (N : Nat) (l0 s0 s1 : Int) (μ : Mm) (t : Int × Mm) (hk : m_kd μ l0 = (5, 0)) (h : jX5_add_116 N l0 s0 s1 μ = some t) : aX5_add E l 3 z 116 [(0, vr l0)] [vi s0, vr s1] μ (rI t) := by
  unfold jX5_add_116 at h
  refine m_chk_k h (fun hq0 h => ?_)
  refine a_putfi (c := 5) (i := 4) dX5_add_116 fRX5_41 g5_4 (Or.inl rfl) rfl hq0 h (fun μ1 hm h => ?_)
  have hk := hm.k hk (by decide)
  have hq0 := hm.k hq0 (by decide)
  refine a_goto (tgt := 147) dX5_add_119 rfl ?_
  exact a_sub [0] rfl (tX5_add_147 E l _ N l0 μ1 t hk h)
theorem tX5_add_36 (E : m_E) (l : Launch) (z : Nat × Nat) (N : Nat) (l0 l1 : Int) (μ : Mm) (t : Int × Mm) (hk : m_kd μ l0 = (5, 0)) (h : jX5_add_36 N l0 l1 μ = some t) : aX5_add E l 3 z 36 [(0, vr l0), (1, vi l1)] [] μ (rI t) := by
  unfold jX5_add_36 at h
  refine a_aload_n 0 dX5_add_36 rfl rfl ?_
  refine a_getfr (c := 5) (i := 0) dX5_add_37 fRX5_9 g5_0 rfl hk ?_
  refine a_aload_n 0 dX5_add_40 rfl rfl ?_
  refine a_getfi (c := 5) (i := 1) dX5_add_41 fRX5_26 g5_1 rfl hk ?_
  refine a_iload_n 1 dX5_add_44 rfl rfl ?_
  refine a_iast dX5_add_45 h (fun μ1 hm h => ?_)
  have hk := hm.k hk (by decide)
  refine a_aload_n 0 dX5_add_46 rfl rfl ?_
  refine a_dup dX5_add_47 rfl ?_
  refine a_getfi (c := 5) (i := 1) dX5_add_48 fRX5_26 g5_1 rfl hk ?_
  refine a_iconst dX5_add_51 (okI_b _ rfl) ?_
  refine a_iadd dX5_add_52 ?_
  refine a_putfi (c := 5) (i := 1) dX5_add_53 fRX5_26 g5_1 (Or.inl rfl) rfl hk h (fun μ2 hm h => ?_)
  have hk := hm.k hk (by decide)
  refine a_aload_n 0 dX5_add_56 rfl rfl ?_
  refine a_dup dX5_add_57 rfl ?_
  refine a_getfi (c := 5) (i := 3) dX5_add_58 fRX5_33 g5_3 rfl hk ?_
  refine a_iconst dX5_add_61 (okI_b _ rfl) ?_
  refine a_iadd dX5_add_62 ?_
  refine a_putfi (c := 5) (i := 3) dX5_add_63 fRX5_33 g5_3 (Or.inl rfl) rfl hk h (fun μ3 hm h => ?_)
  have hk := hm.k hk (by decide)
  refine a_aload_n 0 dX5_add_66 rfl rfl ?_
  refine a_dup dX5_add_67 rfl ?_
  refine a_getfi (c := 5) (i := 4) dX5_add_68 fRX5_41 g5_4 rfl hk ?_
  refine a_iload_n 1 dX5_add_71 rfl rfl ?_
  refine a_iconst dX5_add_72 (okI_b _ rfl) ?_
  refine a_mmax dX5_add_73 mRX5_54 (by decide) (Nat.le_of_ble_eq_true rfl) ?_
  refine a_isub dX5_add_76 ?_
  refine a_putfi (c := 5) (i := 4) dX5_add_77 fRX5_41 g5_4 (Or.inl rfl) rfl hk h (fun μ4 hm h => ?_)
  have hk := hm.k hk (by decide)
  refine a_aload_n 0 dX5_add_80 rfl rfl ?_
  refine a_getfi (c := 5) (i := 2) dX5_add_81 fRX5_30 g5_2 rfl hk ?_
  refine a_aload_n 0 dX5_add_84 rfl rfl ?_
  refine a_getfr (c := 5) (i := 5) dX5_add_85 fRX5_22 g5_5 rfl hk ?_
  refine m_chk_k h (fun hq34 h => ?_)
  refine a_getfi (c := 1) (i := 2) dX5_add_88 fRX5_47 g1_2 rfl hq34 ?_
  refine a_icmp_lt (tgt := 122) dX5_add_91 rfl h (fun h => ?_) (fun h => ?_)
  ·
    refine a_aload_n 0 dX5_add_122 rfl rfl ?_
    refine a_getfi (c := 5) (i := 4) dX5_add_123 fRX5_41 g5_4 rfl hk ?_
    refine a_if_eq (tgt := 143) dX5_add_126 rfl h (fun h => ?_) (fun h => ?_)
    ·
      exact a_sub [0] rfl (tX5_add_143 E l _ N l0 μ4 t hk h)
    ·
      refine a_aload_n 0 dX5_add_129 rfl rfl ?_
      refine a_getfi (c := 5) (i := 3) dX5_add_130 fRX5_33 g5_3 rfl hk ?_
      refine a_aload_n 0 dX5_add_133 rfl rfl ?_
      refine a_getfr (c := 5) (i := 5) dX5_add_134 fRX5_22 g5_5 rfl hk ?_
      refine a_getfi (c := 1) (i := 3) dX5_add_137 fRX5_60 g1_3 rfl hq34 ?_
      refine a_icmp_lt (tgt := 147) dX5_add_140 rfl h (fun h => ?_) (fun h => ?_)
      ·
        exact a_sub [0] rfl (tX5_add_147 E l _ N l0 μ4 t hk h)
      ·
        exact a_sub [0] rfl (tX5_add_143 E l _ N l0 μ4 t hk h)
  ·
    refine a_aload_n 0 dX5_add_94 rfl rfl ?_
    refine a_aload_n 0 dX5_add_95 rfl rfl ?_
    refine a_getfi (c := 5) (i := 4) dX5_add_96 fRX5_41 g5_4 rfl hk ?_
    refine a_if_ne (tgt := 112) dX5_add_99 rfl h (fun h => ?_) (fun h => ?_)
    ·
      refine a_aload_n 0 dX5_add_112 rfl rfl ?_
      refine a_getfi (c := 5) (i := 4) dX5_add_113 fRX5_41 g5_4 rfl hk ?_
      exact a_sub [0] rfl (tX5_add_116 E l _ N l0 (m_gt μ4 l0 4) l0 μ4 t hk h)
    ·
      refine a_aload_n 0 dX5_add_102 rfl rfl ?_
      refine a_getfr (c := 5) (i := 5) dX5_add_103 fRX5_22 g5_5 rfl hk ?_
      refine a_getfi (c := 1) (i := 1) dX5_add_106 fRX5_36 g1_1 rfl hq34 ?_
      refine a_goto (tgt := 116) dX5_add_109 rfl ?_
      exact a_sub [0] rfl (tX5_add_116 E l _ N l0 (m_gt μ4 (m_gt μ4 l0 5) 1) l0 μ4 t hk h)
theorem tX5_add_34 (E : m_E) (l : Launch) (z : Nat × Nat) (N : Nat) (l0 : Int) (μ : Mm) (t : Int × Mm) (hk : m_kd μ l0 = (5, 0)) (h : jX5_add_34 N l0 μ = some t) : aX5_add E l 3 z 34 [(0, vr l0)] [] μ (rI t) := by
  unfold jX5_add_34 at h
  refine a_iconst dX5_add_34 (okI_b _ rfl) ?_
  exact a_retzl (Or.inl rfl) dX5_add_35 h
theorem tX5_add (E : m_E) (l : Launch) (N : Nat) (l0 l1 : Int) (μ : Mm) (t : Int × Mm) (hk : m_kd μ l0 = (5, 0)) (h : jX5_add N l0 l1 μ = some t) : TT E l 3 yX5_add cX5_add 2 (some .boolean) [vr l0, vi l1] μ (rI t) := by
  refine tt_of (L := [(0, vr l0), (1, vi l1)]) (by decide +kernel) (Nat.le_of_ble_eq_true rfl) rfl ?_
  show aX5_add E l 3 (m_sz μ, m_sl μ) 0 [(0, vr l0), (1, vi l1)] [] μ (rI t)
  unfold jX5_add at h
  refine a_aload_n 0 dX5_add_0 rfl rfl ?_
  refine a_cVi (c := 5) [] [] dX5_add_1 myX5_isWhole mRX5_50 mvX5_isWhole rfl (by decide) hk (fun _ hj => tX5_isWhole E l N l0 μ _ hk hj) (by decide) rfl (Nat.le_of_ble_eq_true rfl) h (fun x1 μ1 hm h => ?_)
  have hk := hm.k hk (by decide)
  refine a_if_ne (tgt := 34) dX5_add_4 rfl h (fun h => ?_) (fun h => ?_)
  ·
    exact a_sub [0] rfl (tX5_add_34 E l _ N l0 μ1 t hk h)
  ·
    refine a_aload_n 0 dX5_add_7 rfl rfl ?_
    refine a_getfi (c := 5) (i := 1) dX5_add_8 fRX5_26 g5_1 rfl hk ?_
    refine a_bipush dX5_add_11 ⟨rfl, okI_b _ rfl⟩ ?_
    refine a_icmp_ge (tgt := 34) dX5_add_13 rfl h (fun h => ?_) (fun h => ?_)
    ·
      exact a_sub [0] rfl (tX5_add_34 E l _ N l0 μ1 t hk h)
    ·
      refine a_iload_n 1 dX5_add_16 rfl rfl ?_
      refine a_aload_n 0 dX5_add_17 rfl rfl ?_
      refine a_getfi (c := 5) (i := 4) dX5_add_18 fRX5_41 g5_4 rfl hk ?_
      refine a_icmp_gt (tgt := 34) dX5_add_21 rfl h (fun h => ?_) (fun h => ?_)
      ·
        exact a_sub [0] rfl (tX5_add_34 E l _ N l0 μ1 t hk h)
      ·
        refine a_iload_n 1 dX5_add_24 rfl rfl ?_
        refine a_if_ge (tgt := 36) dX5_add_25 rfl h (fun h => ?_) (fun h => ?_)
        ·
          exact a_sub [0, 1] rfl (tX5_add_36 E l _ N l0 l1 μ1 t hk h)
        ·
          refine a_iload_n 1 dX5_add_28 rfl rfl ?_
          refine a_bipush dX5_add_29 ⟨rfl, okI_b _ rfl⟩ ?_
          refine a_icmp_eq (tgt := 36) dX5_add_31 rfl h (fun h => ?_) (fun h => ?_)
          ·
            exact a_sub [0, 1] rfl (tX5_add_36 E l _ N l0 l1 μ1 t hk h)
          ·
            exact a_sub [0] rfl (tX5_add_34 E l _ N l0 μ1 t hk h)
-- X5_takeLast
abbrev aX5_takeLast (E : m_E) (l : Launch) (d : Nat) (z : Nat × Nat) (pc : Nat) (L : List (Nat × AV)) (st : List AV) (μ : Mm) (ρ : Option AV × Mm) : Prop := AA E l d z RX5 "takeLast" cX5_takeLast 3 (some .boolean) pc L st μ ρ
theorem tX5_takeLast_54 (E : m_E) (l : Launch) (z : Nat × Nat) (N : Nat) (l0 : Int) (μ : Mm) (t : Int × Mm) (hk : m_kd μ l0 = (5, 0)) (h : jX5_takeLast_54 N l0 μ = some t) : aX5_takeLast E l 4 z 54 [(0, vr l0)] [] μ (rI t) := by
  unfold jX5_takeLast_54 at h
  refine a_iconst dX5_takeLast_54 (okI_b _ rfl) ?_
  exact a_retzl (Or.inr rfl) dX5_takeLast_55 h
theorem tX5_takeLast_26b (E : m_E) (l : Launch) (z : Nat × Nat) (k26 : Int → Int → Int → Mm → Option (Int × Mm)) (p26 : ∀ (l0 l1 l2 : Int) (μ : Mm) (t : Int × Mm), m_kd μ l0 = (5, 0) → k26 l0 l1 l2 μ = some t → aX5_takeLast E l 4 z 26 [(0, vr l0), (1, vi l1), (2, vi l2)] [] μ (rI t)) (N : Nat) (l0 l1 l2 : Int) (μ : Mm) (t : Int × Mm) (hk : m_kd μ l0 = (5, 0)) (h : jX5_takeLast_26b k26 N l0 l1 l2 μ = some t) : aX5_takeLast E l 4 z 26 [(0, vr l0), (1, vi l1), (2, vi l2)] [] μ (rI t) := by
  unfold jX5_takeLast_26b at h
  refine a_iload_n 2 dX5_takeLast_26 rfl rfl ?_
  refine a_iload_n 1 dX5_takeLast_27 rfl rfl ?_
  refine a_icmp_ge (tgt := 54) dX5_takeLast_28 rfl h (fun h => ?_) (fun h => ?_)
  ·
    exact a_sub [0] rfl (tX5_takeLast_54 E l _ N l0 μ t hk h)
  ·
    refine a_iload_n 2 dX5_takeLast_31 rfl rfl ?_
    refine a_bipush dX5_takeLast_32 ⟨rfl, okI_b _ rfl⟩ ?_
    refine a_icmp_ge (tgt := 54) dX5_takeLast_34 rfl h (fun h => ?_) (fun h => ?_)
    ·
      exact a_sub [0] rfl (tX5_takeLast_54 E l _ N l0 μ t hk h)
    ·
      refine a_aload_n 0 dX5_takeLast_37 rfl rfl ?_
      refine a_aload_n 0 dX5_takeLast_38 rfl rfl ?_
      refine a_getfr (c := 5) (i := 0) dX5_takeLast_39 fRX5_9 g5_0 rfl hk ?_
      refine a_iload_n 2 dX5_takeLast_42 rfl rfl ?_
      refine a_iald dX5_takeLast_43 h (fun x1 h => ?_)
      refine a_cVi (c := 5) [vi x1] [] dX5_takeLast_44 myX5_add mRX5_70 mvX5_add rfl (by decide) hk (fun _ hj => tX5_add E l N l0 x1 μ _ hk hj) (by decide) rfl (Nat.le_of_ble_eq_true rfl) h (fun x2 μ1 hm h => ?_)
      have hk := hm.k hk (by decide)
      refine a_pop dX5_takeLast_47 rfl ?_
      refine a_iinc (F := fun x3 => [(2, vi x3), (0, vr l0), (1, vi l1)]) 2 dX5_takeLast_48 rfl (by decide) h (fun _ => rfl) (fun x3 h => ?_)
      refine a_goto (tgt := 26) dX5_takeLast_51 rfl ?_
      exact a_sub [1, 2, 0] rfl (p26 l0 l1 x3 μ1 t hk h)
theorem tX5_takeLast_26 (E : m_E) (l : Launch) (z : Nat × Nat) (N : Nat) : ∀ (n : Nat) (l0 l1 l2 : Int) (μ : Mm) (t : Int × Mm), m_kd μ l0 = (5, 0) → jX5_takeLast_26 N n l0 l1 l2 μ = some t → aX5_takeLast E l 4 z 26 [(0, vr l0), (1, vi l1), (2, vi l2)] [] μ (rI t)
  | 0, _, _, _, _, _, _, h => by cases h
  | n + 1, l0, l1, l2, μ, t, hk, h => tX5_takeLast_26b E l z (jX5_takeLast_26 N n) (tX5_takeLast_26 E l z N n) N l0 l1 l2 μ t hk h
theorem tX5_takeLast (E : m_E) (l : Launch) (N : Nat) (l0 : Int) (μ : Mm) (t : Int × Mm) (hk : m_kd μ l0 = (5, 0)) (h : jX5_takeLast N l0 μ = some t) : TT E l 4 yX5_takeLast cX5_takeLast 3 (some .boolean) [vr l0] μ (rI t) := by
  refine tt_of (L := [(0, vr l0)]) (by decide +kernel) (Nat.le_of_ble_eq_true rfl) rfl ?_
  show aX5_takeLast E l 4 (m_sz μ, m_sl μ) 0 [(0, vr l0)] [] μ (rI t)
  unfold jX5_takeLast at h
  refine a_aload_n 0 dX5_takeLast_0 rfl rfl ?_
  refine a_getfi (c := 5) (i := 1) dX5_takeLast_1 fRX5_26 g5_1 rfl hk ?_
  refine a_if_ne (tgt := 9) dX5_takeLast_4 rfl h (fun h => ?_) (fun h => ?_)
  ·
    refine a_aload_n 0 dX5_takeLast_9 rfl rfl ?_
    refine a_getfi (c := 5) (i := 1) dX5_takeLast_10 fRX5_26 g5_1 rfl hk ?_
    refine a_iconst dX5_takeLast_13 (okI_b _ rfl) ?_
    refine a_isub dX5_takeLast_14 ?_
    refine a_nmi h (fun x1 h => ?_)
    refine a_istore_n (L' := [(1, vi x1), (0, vr l0)]) dX5_takeLast_15 rfl (by decide) rfl ?_
    refine a_aload_n 1 dX5_takeLast_16 rfl rfl ?_
    refine a_aload_n 1 dX5_takeLast_17 rfl rfl ?_
    refine a_getfr (c := 5) (i := 5) dX5_takeLast_18 fRX5_22 g5_5 rfl hk ?_
    refine a_cVv (c := 5) [vr (m_gt μ l0 5)] [] dX5_takeLast_21 myX5_empty mRX5_18 mvX5_empty rfl (by decide) hk (fun _ hj => tX5_empty E l N l0 (m_gt μ l0 5) μ _ hk hj) (by decide) rfl (Nat.le_of_ble_eq_true rfl) h (fun μ1 hm h => ?_)
    have hk := hm.k hk (by decide)
    refine a_iconst dX5_takeLast_24 (okI_b _ rfl) ?_
    refine a_istore_n (L' := [(2, vi 0), (1, vi x1), (0, vr l0)]) dX5_takeLast_25 rfl (by decide) rfl ?_
    exact a_sub [2, 1, 0] rfl (tX5_takeLast_26 E l _ N N l0 x1 0 μ1 t hk h)
  ·
    refine a_iconst dX5_takeLast_7 (okI_b _ rfl) ?_
    exact a_retzl (Or.inl rfl) dX5_takeLast_8 h
-- X5_firstRoll
abbrev aX5_firstRoll (E : m_E) (l : Launch) (d : Nat) (z : Nat × Nat) (pc : Nat) (L : List (Nat × AV)) (st : List AV) (μ : Mm) (ρ : Option AV × Mm) : Prop := AA E l d z RX5 "firstRoll" cX5_firstRoll 2 (some .int) pc L st μ ρ
theorem tX5_firstRoll_34 (E : m_E) (l : Launch) (z : Nat × Nat) (N : Nat) (l0 s0 : Int) (μ : Mm) (t : Int × Mm) (hk : m_kd μ l0 = (5, 0)) (h : jX5_firstRoll_34 N l0 s0 μ = some t) : aX5_firstRoll E l 1 z 34 [(0, vr l0)] [vi s0] μ (rI t) := by
  unfold jX5_firstRoll_34 at h
  exact a_reti dX5_firstRoll_34 h
theorem tX5_firstRoll_21 (E : m_E) (l : Launch) (z : Nat × Nat) (N : Nat) (l0 : Int) (μ : Mm) (t : Int × Mm) (hk : m_kd μ l0 = (5, 0)) (h : jX5_firstRoll_21 N l0 μ = some t) : aX5_firstRoll E l 1 z 21 [(0, vr l0)] [] μ (rI t) := by
  unfold jX5_firstRoll_21 at h
  refine a_aload_n 0 dX5_firstRoll_21 rfl rfl ?_
  refine a_getfi (c := 5) (i := 1) dX5_firstRoll_22 fRX5_26 g5_1 rfl hk ?_
  refine a_goto (tgt := 34) dX5_firstRoll_25 rfl ?_
  exact a_sub [0] rfl (tX5_firstRoll_34 E l _ N l0 (m_gt μ l0 1) μ t hk h)
theorem tX5_firstRoll (E : m_E) (l : Launch) (N : Nat) (l0 l1 : Int) (μ : Mm) (t : Int × Mm) (hk : m_kd μ l0 = (5, 0)) (h : jX5_firstRoll N l0 l1 μ = some t) : TT E l 1 yX5_firstRoll cX5_firstRoll 2 (some .int) [vr l0, vi l1] μ (rI t) := by
  refine tt_of (L := [(0, vr l0), (1, vi l1)]) (by decide +kernel) (Nat.le_of_ble_eq_true rfl) rfl ?_
  show aX5_firstRoll E l 1 (m_sz μ, m_sl μ) 0 [(0, vr l0), (1, vi l1)] [] μ (rI t)
  unfold jX5_firstRoll at h
  refine a_iload_n 1 dX5_firstRoll_0 rfl rfl ?_
  refine a_if_lt (tgt := 21) dX5_firstRoll_1 rfl h (fun h => ?_) (fun h => ?_)
  ·
    exact a_sub [0] rfl (tX5_firstRoll_21 E l _ N l0 μ t hk h)
  ·
    refine a_iload_n 1 dX5_firstRoll_4 rfl rfl ?_
    refine a_aload_n 0 dX5_firstRoll_5 rfl rfl ?_
    refine a_getfi (c := 5) (i := 2) dX5_firstRoll_6 fRX5_30 g5_2 rfl hk ?_
    refine a_icmp_gt (tgt := 21) dX5_firstRoll_9 rfl h (fun h => ?_) (fun h => ?_)
    ·
      exact a_sub [0] rfl (tX5_firstRoll_21 E l _ N l0 μ t hk h)
    ·
      refine a_iload_n 1 dX5_firstRoll_12 rfl rfl ?_
      refine a_aload_n 0 dX5_firstRoll_13 rfl rfl ?_
      refine a_getfr (c := 5) (i := 6) dX5_firstRoll_14 fRX5_15 g5_6 rfl hk ?_
      refine a_alen dX5_firstRoll_17 h (fun x1 h => ?_)
      refine a_icmp_lt (tgt := 28) dX5_firstRoll_18 rfl h (fun h => ?_) (fun h => ?_)
      ·
        refine a_aload_n 0 dX5_firstRoll_28 rfl rfl ?_
        refine a_getfr (c := 5) (i := 6) dX5_firstRoll_29 fRX5_15 g5_6 rfl hk ?_
        refine a_iload_n 1 dX5_firstRoll_32 rfl rfl ?_
        refine a_iald dX5_firstRoll_33 h (fun x2 h => ?_)
        exact a_sub [0] rfl (tX5_firstRoll_34 E l _ N l0 x2 μ t hk h)
      ·
        exact a_sub [0] rfl (tX5_firstRoll_21 E l _ N l0 μ t hk h)
-- X5_fillsEarned
abbrev aX5_fillsEarned (E : m_E) (l : Launch) (d : Nat) (z : Nat × Nat) (pc : Nat) (L : List (Nat × AV)) (st : List AV) (μ : Mm) (ρ : Option AV × Mm) : Prop := AA E l d z RX5 "fillsEarned" cX5_fillsEarned 1 (some .int) pc L st μ ρ
theorem tX5_fillsEarned_38 (E : m_E) (l : Launch) (z : Nat × Nat) (N : Nat) (l0 s0 : Int) (μ : Mm) (t : Int × Mm) (hk : m_kd μ l0 = (5, 0)) (h : jX5_fillsEarned_38 N l0 s0 μ = some t) : aX5_fillsEarned E l 2 z 38 [(0, vr l0)] [vi s0] μ (rI t) := by
  unfold jX5_fillsEarned_38 at h
  exact a_reti dX5_fillsEarned_38 h
theorem tX5_fillsEarned (E : m_E) (l : Launch) (N : Nat) (l0 : Int) (μ : Mm) (t : Int × Mm) (hk : m_kd μ l0 = (5, 0)) (h : jX5_fillsEarned N l0 μ = some t) : TT E l 2 yX5_fillsEarned cX5_fillsEarned 1 (some .int) [vr l0] μ (rI t) := by
  refine tt_of (L := [(0, vr l0)]) (by decide +kernel) (Nat.le_of_ble_eq_true rfl) rfl ?_
  show aX5_fillsEarned E l 2 (m_sz μ, m_sl μ) 0 [(0, vr l0)] [] μ (rI t)
  unfold jX5_fillsEarned at h
  refine a_aload_n 0 dX5_fillsEarned_0 rfl rfl ?_
  refine a_getfi (c := 5) (i := 2) dX5_fillsEarned_1 fRX5_30 g5_2 rfl hk ?_
  refine a_aload_n 0 dX5_fillsEarned_4 rfl rfl ?_
  refine a_getfr (c := 5) (i := 5) dX5_fillsEarned_5 fRX5_22 g5_5 rfl hk ?_
  refine m_chk_k h (fun hq4 h => ?_)
  refine a_getfi (c := 1) (i := 2) dX5_fillsEarned_8 fRX5_47 g1_2 rfl hq4 ?_
  refine a_icmp_ge (tgt := 18) dX5_fillsEarned_11 rfl h (fun h => ?_) (fun h => ?_)
  ·
    refine a_iconst dX5_fillsEarned_18 (okI_b _ rfl) ?_
    refine a_aload_n 0 dX5_fillsEarned_19 rfl rfl ?_
    refine a_getfi (c := 5) (i := 7) dX5_fillsEarned_20 fRX5_44 g5_7 rfl hk ?_
    refine a_aload_n 0 dX5_fillsEarned_23 rfl rfl ?_
    refine a_aload_n 0 dX5_fillsEarned_24 rfl rfl ?_
    refine a_getfr (c := 5) (i := 5) dX5_fillsEarned_25 fRX5_22 g5_5 rfl hk ?_
    refine a_getfi (c := 1) (i := 2) dX5_fillsEarned_28 fRX5_47 g1_2 rfl hq4 ?_
    refine a_cVi (c := 5) [vi (m_gt μ (m_gt μ l0 5) 2)] [vi (m_gt μ l0 7), vi 0] dX5_fillsEarned_31 myX5_firstRoll mRX5_74 mvX5_firstRoll rfl (by decide) hk (fun _ hj => tX5_firstRoll E l N l0 (m_gt μ (m_gt μ l0 5) 2) μ _ hk hj) (by decide) rfl (Nat.le_of_ble_eq_true rfl) h (fun x1 μ1 hm h => ?_)
    have hk := hm.k hk (by decide)
    have hq4 := hm.k hq4 (by decide)
    refine a_isub dX5_fillsEarned_34 ?_
    refine a_mmax dX5_fillsEarned_35 mRX5_54 (by decide) (Nat.le_of_ble_eq_true rfl) ?_
    exact a_sub [0] rfl (tX5_fillsEarned_38 E l _ N l0 (i_max 0 (i_sub (m_gt μ l0 7) x1)) μ1 t hk h)
  ·
    refine a_iconst dX5_fillsEarned_14 (okI_b _ rfl) ?_
    refine a_goto (tgt := 38) dX5_fillsEarned_15 rfl ?_
    exact a_sub [0] rfl (tX5_fillsEarned_38 E l _ N l0 0 μ t hk h)
-- X5_rollAt
abbrev aX5_rollAt (E : m_E) (l : Launch) (d : Nat) (z : Nat × Nat) (pc : Nat) (L : List (Nat × AV)) (st : List AV) (μ : Mm) (ρ : Option AV × Mm) : Prop := AA E l d z RX5 "rollAt" cX5_rollAt 2 (some .int) pc L st μ ρ
theorem tX5_rollAt_28 (E : m_E) (l : Launch) (z : Nat × Nat) (N : Nat) (l0 s0 : Int) (μ : Mm) (t : Int × Mm) (hk : m_kd μ l0 = (5, 0)) (h : jX5_rollAt_28 N l0 s0 μ = some t) : aX5_rollAt E l 1 z 28 [(0, vr l0)] [vi s0] μ (rI t) := by
  unfold jX5_rollAt_28 at h
  exact a_reti dX5_rollAt_28 h
theorem tX5_rollAt_18 (E : m_E) (l : Launch) (z : Nat × Nat) (N : Nat) (l0 : Int) (μ : Mm) (t : Int × Mm) (hk : m_kd μ l0 = (5, 0)) (h : jX5_rollAt_18 N l0 μ = some t) : aX5_rollAt E l 1 z 18 [(0, vr l0)] [] μ (rI t) := by
  unfold jX5_rollAt_18 at h
  refine a_iconst dX5_rollAt_18 (okI_b _ rfl) ?_
  refine a_goto (tgt := 28) dX5_rollAt_19 rfl ?_
  exact a_sub [0] rfl (tX5_rollAt_28 E l _ N l0 (-1) μ t hk h)
theorem tX5_rollAt (E : m_E) (l : Launch) (N : Nat) (l0 l1 : Int) (μ : Mm) (t : Int × Mm) (hk : m_kd μ l0 = (5, 0)) (h : jX5_rollAt N l0 l1 μ = some t) : TT E l 1 yX5_rollAt cX5_rollAt 2 (some .int) [vr l0, vi l1] μ (rI t) := by
  refine tt_of (L := [(0, vr l0), (1, vi l1)]) (by decide +kernel) (Nat.le_of_ble_eq_true rfl) rfl ?_
  show aX5_rollAt E l 1 (m_sz μ, m_sl μ) 0 [(0, vr l0), (1, vi l1)] [] μ (rI t)
  unfold jX5_rollAt at h
  refine a_iload_n 1 dX5_rollAt_0 rfl rfl ?_
  refine a_if_lt (tgt := 18) dX5_rollAt_1 rfl h (fun h => ?_) (fun h => ?_)
  ·
    exact a_sub [0] rfl (tX5_rollAt_18 E l _ N l0 μ t hk h)
  ·
    refine a_iload_n 1 dX5_rollAt_4 rfl rfl ?_
    refine a_aload_n 0 dX5_rollAt_5 rfl rfl ?_
    refine a_getfi (c := 5) (i := 1) dX5_rollAt_6 fRX5_26 g5_1 rfl hk ?_
    refine a_icmp_ge (tgt := 18) dX5_rollAt_9 rfl h (fun h => ?_) (fun h => ?_)
    ·
      exact a_sub [0] rfl (tX5_rollAt_18 E l _ N l0 μ t hk h)
    ·
      refine a_iload_n 1 dX5_rollAt_12 rfl rfl ?_
      refine a_bipush dX5_rollAt_13 ⟨rfl, okI_b _ rfl⟩ ?_
      refine a_icmp_lt (tgt := 22) dX5_rollAt_15 rfl h (fun h => ?_) (fun h => ?_)
      ·
        refine a_aload_n 0 dX5_rollAt_22 rfl rfl ?_
        refine a_getfr (c := 5) (i := 0) dX5_rollAt_23 fRX5_9 g5_0 rfl hk ?_
        refine a_iload_n 1 dX5_rollAt_26 rfl rfl ?_
        refine a_iald dX5_rollAt_27 h (fun x1 h => ?_)
        exact a_sub [0] rfl (tX5_rollAt_28 E l _ N l0 x1 μ t hk h)
      ·
        exact a_sub [0] rfl (tX5_rollAt_18 E l _ N l0 μ t hk h)
-- X5_sizeOf
abbrev aX5_sizeOf (E : m_E) (l : Launch) (d : Nat) (z : Nat × Nat) (pc : Nat) (L : List (Nat × AV)) (st : List AV) (μ : Mm) (ρ : Option AV × Mm) : Prop := AA E l d z RX5 "sizeOf" cX5_sizeOf 2 (some .int) pc L st μ ρ
theorem tX5_sizeOf (E : m_E) (l : Launch) (N : Nat) (l0 l1 : Int) (μ : Mm) (t : Int × Mm) (hk : m_kd μ l0 = (5, 0)) (h : jX5_sizeOf N l0 l1 μ = some t) : TT E l 2 yX5_sizeOf cX5_sizeOf 2 (some .int) [vr l0, vi l1] μ (rI t) := by
  refine tt_of (L := [(0, vr l0), (1, vi l1)]) (by decide +kernel) (Nat.le_of_ble_eq_true rfl) rfl ?_
  show aX5_sizeOf E l 2 (m_sz μ, m_sl μ) 0 [(0, vr l0), (1, vi l1)] [] μ (rI t)
  unfold jX5_sizeOf at h
  refine a_aload_n 0 dX5_sizeOf_0 rfl rfl ?_
  refine a_iload_n 1 dX5_sizeOf_1 rfl rfl ?_
  refine a_iconst dX5_sizeOf_2 (okI_b _ rfl) ?_
  refine a_iadd dX5_sizeOf_3 ?_
  refine a_cVi (c := 5) [vi (i_add l1 1)] [] dX5_sizeOf_4 myX5_firstRoll mRX5_74 mvX5_firstRoll rfl (by decide) hk (fun _ hj => tX5_firstRoll E l N l0 (i_add l1 1) μ _ hk hj) (by decide) rfl (Nat.le_of_ble_eq_true rfl) h (fun x1 μ1 hm h => ?_)
  have hk := hm.k hk (by decide)
  refine a_aload_n 0 dX5_sizeOf_7 rfl rfl ?_
  refine a_iload_n 1 dX5_sizeOf_8 rfl rfl ?_
  refine a_cVi (c := 5) [vi l1] [vi x1] dX5_sizeOf_9 myX5_firstRoll mRX5_74 mvX5_firstRoll rfl (by decide) hk (fun _ hj => tX5_firstRoll E l N l0 l1 μ1 _ hk hj) (by decide) rfl (Nat.le_of_ble_eq_true rfl) h (fun x2 μ2 hm h => ?_)
  have hk := hm.k hk (by decide)
  refine a_isub dX5_sizeOf_12 ?_
  exact a_reti dX5_sizeOf_13 h
-- X5_takenFrom
abbrev aX5_takenFrom (E : m_E) (l : Launch) (d : Nat) (z : Nat × Nat) (pc : Nat) (L : List (Nat × AV)) (st : List AV) (μ : Mm) (ρ : Option AV × Mm) : Prop := AA E l d z RX5 "takenFrom" cX5_takenFrom 5 (some .int) pc L st μ ρ
theorem tX5_takenFrom_5b (E : m_E) (l : Launch) (z : Nat × Nat) (k5 : Int → Int → Int → Int → Int → Mm → Option (Int × Mm)) (p5 : ∀ (l0 l1 l2 l3 l4 : Int) (μ : Mm) (t : Int × Mm), m_kd μ l0 = (5, 0) → k5 l0 l1 l2 l3 l4 μ = some t → aX5_takenFrom E l 2 z 5 [(0, vr l0), (1, vi l1), (2, vi l2), (3, vi l3), (4, vi l4)] [] μ (rI t)) (N : Nat) (l0 l1 l2 l3 l4 : Int) (μ : Mm) (t : Int × Mm) (hk : m_kd μ l0 = (5, 0)) (h : jX5_takenFrom_5b k5 N l0 l1 l2 l3 l4 μ = some t) : aX5_takenFrom E l 2 z 5 [(0, vr l0), (1, vi l1), (2, vi l2), (3, vi l3), (4, vi l4)] [] μ (rI t) := by
  unfold jX5_takenFrom_5b at h
  refine a_iload 4 dX5_takenFrom_5 rfl ?_
  refine a_iload_n 1 dX5_takenFrom_7 rfl rfl ?_
  refine a_iload_n 2 dX5_takenFrom_8 rfl rfl ?_
  refine a_iadd dX5_takenFrom_9 ?_
  refine a_icmp_ge (tgt := 32) dX5_takenFrom_10 rfl h (fun h => ?_) (fun h => ?_)
  ·
    refine a_iload_n 3 dX5_takenFrom_32 rfl rfl ?_
    exact a_reti dX5_takenFrom_33 h
  ·
    refine a_iload_n 3 dX5_takenFrom_13 rfl rfl ?_
    refine a_aload_n 0 dX5_takenFrom_14 rfl rfl ?_
    refine a_iload 4 dX5_takenFrom_15 rfl ?_
    refine a_cVi (c := 5) [vi l4] [vi l3] dX5_takenFrom_17 myX5_rollAt mRX5_83 mvX5_rollAt rfl (by decide) hk (fun _ hj => tX5_rollAt E l N l0 l4 μ _ hk hj) (by decide) rfl (Nat.le_of_ble_eq_true rfl) h (fun x1 μ1 hm h => ?_)
    have hk := hm.k hk (by decide)
    refine a_iconst dX5_takenFrom_20 (okI_b _ rfl) ?_
    refine a_mmax dX5_takenFrom_21 mRX5_54 (by decide) (Nat.le_of_ble_eq_true rfl) ?_
    refine a_iadd dX5_takenFrom_24 ?_
    refine a_nmi h (fun x2 h => ?_)
    refine a_istore_n (L' := [(3, vi x2), (0, vr l0), (1, vi l1), (2, vi l2), (4, vi l4)]) dX5_takenFrom_25 rfl (by decide) rfl ?_
    refine a_iinc (F := fun x3 => [(4, vi x3), (3, vi x2), (0, vr l0), (1, vi l1), (2, vi l2)]) 4 dX5_takenFrom_26 rfl (by decide) h (fun _ => rfl) (fun x3 h => ?_)
    refine a_goto (tgt := 5) dX5_takenFrom_29 rfl ?_
    exact a_sub [2, 3, 4, 1, 0] rfl (p5 l0 l1 l2 x2 x3 μ1 t hk h)
theorem tX5_takenFrom_5 (E : m_E) (l : Launch) (z : Nat × Nat) (N : Nat) : ∀ (n : Nat) (l0 l1 l2 l3 l4 : Int) (μ : Mm) (t : Int × Mm), m_kd μ l0 = (5, 0) → jX5_takenFrom_5 N n l0 l1 l2 l3 l4 μ = some t → aX5_takenFrom E l 2 z 5 [(0, vr l0), (1, vi l1), (2, vi l2), (3, vi l3), (4, vi l4)] [] μ (rI t)
  | 0, _, _, _, _, _, _, _, _, h => by cases h
  | n + 1, l0, l1, l2, l3, l4, μ, t, hk, h => tX5_takenFrom_5b E l z (jX5_takenFrom_5 N n) (tX5_takenFrom_5 E l z N n) N l0 l1 l2 l3 l4 μ t hk h
theorem tX5_takenFrom (E : m_E) (l : Launch) (N : Nat) (l0 l1 l2 : Int) (μ : Mm) (t : Int × Mm) (hk : m_kd μ l0 = (5, 0)) (h : jX5_takenFrom N l0 l1 l2 μ = some t) : TT E l 2 yX5_takenFrom cX5_takenFrom 5 (some .int) [vr l0, vi l1, vi l2] μ (rI t) := by
  refine tt_of (L := [(0, vr l0), (1, vi l1), (2, vi l2)]) (by decide +kernel) (Nat.le_of_ble_eq_true rfl) rfl ?_
  show aX5_takenFrom E l 2 (m_sz μ, m_sl μ) 0 [(0, vr l0), (1, vi l1), (2, vi l2)] [] μ (rI t)
  unfold jX5_takenFrom at h
  refine a_iconst dX5_takenFrom_0 (okI_b _ rfl) ?_
  refine a_istore_n (L' := [(3, vi 0), (0, vr l0), (1, vi l1), (2, vi l2)]) dX5_takenFrom_1 rfl (by decide) rfl ?_
  refine a_iload_n 2 dX5_takenFrom_2 rfl rfl ?_
  refine a_istore (L' := [(4, vi l1), (3, vi 0), (0, vr l0), (1, vi l1), (2, vi l2)]) dX5_takenFrom_3 (by decide) rfl ?_
  exact a_sub [2, 3, 4, 1, 0] rfl (tX5_takenFrom_5 E l _ N N l0 l1 l2 0 l1 μ t hk h)
-- X5_downIn
abbrev aX5_downIn (E : m_E) (l : Launch) (d : Nat) (z : Nat × Nat) (pc : Nat) (L : List (Nat × AV)) (st : List AV) (μ : Mm) (ρ : Option AV × Mm) : Prop := AA E l d z RX5 "downIn" cX5_downIn 2 (some .int) pc L st μ ρ
theorem tX5_downIn (E : m_E) (l : Launch) (N : Nat) (l0 l1 : Int) (μ : Mm) (t : Int × Mm) (hk : m_kd μ l0 = (5, 0)) (h : jX5_downIn N l0 l1 μ = some t) : TT E l 3 yX5_downIn cX5_downIn 2 (some .int) [vr l0, vi l1] μ (rI t) := by
  refine tt_of (L := [(0, vr l0), (1, vi l1)]) (by decide +kernel) (Nat.le_of_ble_eq_true rfl) rfl ?_
  show aX5_downIn E l 3 (m_sz μ, m_sl μ) 0 [(0, vr l0), (1, vi l1)] [] μ (rI t)
  unfold jX5_downIn at h
  refine a_aload_n 0 dX5_downIn_0 rfl rfl ?_
  refine a_aload_n 0 dX5_downIn_1 rfl rfl ?_
  refine a_iload_n 1 dX5_downIn_2 rfl rfl ?_
  refine a_cVi (c := 5) [vi l1] [vr l0] dX5_downIn_3 myX5_firstRoll mRX5_74 mvX5_firstRoll rfl (by decide) hk (fun _ hj => tX5_firstRoll E l N l0 l1 μ _ hk hj) (by decide) rfl (Nat.le_of_ble_eq_true rfl) h (fun x1 μ1 hm h => ?_)
  have hk := hm.k hk (by decide)
  refine a_aload_n 0 dX5_downIn_6 rfl rfl ?_
  refine a_iload_n 1 dX5_downIn_7 rfl rfl ?_
  refine a_cVi (c := 5) [vi l1] [vi x1, vr l0] dX5_downIn_8 myX5_sizeOf mRX5_77 mvX5_sizeOf rfl (by decide) hk (fun _ hj => tX5_sizeOf E l N l0 l1 μ1 _ hk hj) (by decide) rfl (Nat.le_of_ble_eq_true rfl) h (fun x2 μ2 hm h => ?_)
  have hk := hm.k hk (by decide)
  refine a_cVi (c := 5) [vi x1, vi x2] [] dX5_downIn_11 myX5_takenFrom mRX5_80 mvX5_takenFrom rfl (by decide) hk (fun _ hj => tX5_takenFrom E l N l0 x1 x2 μ2 _ hk hj) (by decide) rfl (Nat.le_of_ble_eq_true rfl) h (fun x3 μ3 hm h => ?_)
  have hk := hm.k hk (by decide)
  exact a_reti dX5_downIn_14 h
-- X5_foulsIn
abbrev aX5_foulsIn (E : m_E) (l : Launch) (d : Nat) (z : Nat × Nat) (pc : Nat) (L : List (Nat × AV)) (st : List AV) (μ : Mm) (ρ : Option AV × Mm) : Prop := AA E l d z RX5 "foulsIn" cX5_foulsIn 4 (some .int) pc L st μ ρ
theorem tX5_foulsIn_35 (E : m_E) (l : Launch) (z : Nat × Nat) (k8 : Int → Int → Int → Int → Mm → Option (Int × Mm)) (p8 : ∀ (l0 l1 l2 l3 : Int) (μ : Mm) (t : Int × Mm), m_kd μ l0 = (5, 0) → k8 l0 l1 l2 l3 μ = some t → aX5_foulsIn E l 2 z 8 [(0, vr l0), (1, vi l1), (2, vi l2), (3, vi l3)] [] μ (rI t)) (N : Nat) (l0 l1 l3 s0 s1 : Int) (μ : Mm) (t : Int × Mm) (hk : m_kd μ l0 = (5, 0)) (h : jX5_foulsIn_35 k8 N l0 l1 l3 s0 s1 μ = some t) : aX5_foulsIn E l 2 z 35 [(0, vr l0), (1, vi l1), (3, vi l3)] [vi s0, vi s1] μ (rI t) := by
  unfold jX5_foulsIn_35 at h
  refine a_iadd dX5_foulsIn_35 ?_
  refine a_nmi h (fun x1 h => ?_)
  refine a_istore_n (L' := [(2, vi x1), (0, vr l0), (1, vi l1), (3, vi l3)]) dX5_foulsIn_36 rfl (by decide) rfl ?_
  refine a_iinc (F := fun x2 => [(3, vi x2), (2, vi x1), (0, vr l0), (1, vi l1)]) 3 dX5_foulsIn_37 rfl (by decide) h (fun _ => rfl) (fun x2 h => ?_)
  refine a_goto (tgt := 8) dX5_foulsIn_40 rfl ?_
  exact a_sub [2, 3, 1, 0] rfl (p8 l0 l1 x1 x2 μ t hk h)
theorem tX5_foulsIn_8b (E : m_E) (l : Launch) (z : Nat × Nat) (k8 : Int → Int → Int → Int → Mm → Option (Int × Mm)) (p8 : ∀ (l0 l1 l2 l3 : Int) (μ : Mm) (t : Int × Mm), m_kd μ l0 = (5, 0) → k8 l0 l1 l2 l3 μ = some t → aX5_foulsIn E l 2 z 8 [(0, vr l0), (1, vi l1), (2, vi l2), (3, vi l3)] [] μ (rI t)) (N : Nat) (l0 l1 l2 l3 : Int) (μ : Mm) (t : Int × Mm) (hk : m_kd μ l0 = (5, 0)) (h : jX5_foulsIn_8b k8 N l0 l1 l2 l3 μ = some t) : aX5_foulsIn E l 2 z 8 [(0, vr l0), (1, vi l1), (2, vi l2), (3, vi l3)] [] μ (rI t) := by
  unfold jX5_foulsIn_8b at h
  refine a_iload_n 3 dX5_foulsIn_8 rfl rfl ?_
  refine a_aload_n 0 dX5_foulsIn_9 rfl rfl ?_
  refine a_iload_n 1 dX5_foulsIn_10 rfl rfl ?_
  refine a_iconst dX5_foulsIn_11 (okI_b _ rfl) ?_
  refine a_iadd dX5_foulsIn_12 ?_
  refine a_cVi (c := 5) [vi (i_add l1 1)] [vi l3] dX5_foulsIn_13 myX5_firstRoll mRX5_74 mvX5_firstRoll rfl (by decide) hk (fun _ hj => tX5_firstRoll E l N l0 (i_add l1 1) μ _ hk hj) (by decide) rfl (Nat.le_of_ble_eq_true rfl) h (fun x1 μ1 hm h => ?_)
  have hk := hm.k hk (by decide)
  refine a_icmp_ge (tgt := 43) dX5_foulsIn_16 rfl h (fun h => ?_) (fun h => ?_)
  ·
    refine a_iload_n 2 dX5_foulsIn_43 rfl rfl ?_
    exact a_reti dX5_foulsIn_44 h
  ·
    refine a_iload_n 2 dX5_foulsIn_19 rfl rfl ?_
    refine a_aload_n 0 dX5_foulsIn_20 rfl rfl ?_
    refine a_iload_n 3 dX5_foulsIn_21 rfl rfl ?_
    refine a_cVi (c := 5) [vi l3] [vi l2] dX5_foulsIn_22 myX5_rollAt mRX5_83 mvX5_rollAt rfl (by decide) hk (fun _ hj => tX5_rollAt E l N l0 l3 μ1 _ hk hj) (by decide) rfl (Nat.le_of_ble_eq_true rfl) h (fun x2 μ2 hm h => ?_)
    have hk := hm.k hk (by decide)
    refine a_bipush dX5_foulsIn_25 ⟨rfl, okI_b _ rfl⟩ ?_
    refine a_icmp_ne (tgt := 34) dX5_foulsIn_27 rfl h (fun h => ?_) (fun h => ?_)
    ·
      refine a_iconst dX5_foulsIn_34 (okI_b _ rfl) ?_
      exact a_sub [0, 1, 3] rfl (tX5_foulsIn_35 E l _ k8 p8 N l0 l1 l3 0 l2 μ2 t hk h)
    ·
      refine a_iconst dX5_foulsIn_30 (okI_b _ rfl) ?_
      refine a_goto (tgt := 35) dX5_foulsIn_31 rfl ?_
      exact a_sub [0, 1, 3] rfl (tX5_foulsIn_35 E l _ k8 p8 N l0 l1 l3 1 l2 μ2 t hk h)
theorem tX5_foulsIn_8 (E : m_E) (l : Launch) (z : Nat × Nat) (N : Nat) : ∀ (n : Nat) (l0 l1 l2 l3 : Int) (μ : Mm) (t : Int × Mm), m_kd μ l0 = (5, 0) → jX5_foulsIn_8 N n l0 l1 l2 l3 μ = some t → aX5_foulsIn E l 2 z 8 [(0, vr l0), (1, vi l1), (2, vi l2), (3, vi l3)] [] μ (rI t)
  | 0, _, _, _, _, _, _, _, h => by cases h
  | n + 1, l0, l1, l2, l3, μ, t, hk, h => tX5_foulsIn_8b E l z (jX5_foulsIn_8 N n) (tX5_foulsIn_8 E l z N n) N l0 l1 l2 l3 μ t hk h
theorem tX5_foulsIn (E : m_E) (l : Launch) (N : Nat) (l0 l1 : Int) (μ : Mm) (t : Int × Mm) (hk : m_kd μ l0 = (5, 0)) (h : jX5_foulsIn N l0 l1 μ = some t) : TT E l 2 yX5_foulsIn cX5_foulsIn 4 (some .int) [vr l0, vi l1] μ (rI t) := by
  refine tt_of (L := [(0, vr l0), (1, vi l1)]) (by decide +kernel) (Nat.le_of_ble_eq_true rfl) rfl ?_
  show aX5_foulsIn E l 2 (m_sz μ, m_sl μ) 0 [(0, vr l0), (1, vi l1)] [] μ (rI t)
  unfold jX5_foulsIn at h
  refine a_iconst dX5_foulsIn_0 (okI_b _ rfl) ?_
  refine a_istore_n (L' := [(2, vi 0), (0, vr l0), (1, vi l1)]) dX5_foulsIn_1 rfl (by decide) rfl ?_
  refine a_aload_n 1 dX5_foulsIn_2 rfl rfl ?_
  refine a_iload_n 2 dX5_foulsIn_3 rfl rfl ?_
  refine a_cVi (c := 5) [vi l1] [] dX5_foulsIn_4 myX5_firstRoll mRX5_74 mvX5_firstRoll rfl (by decide) hk (fun _ hj => tX5_firstRoll E l N l0 l1 μ _ hk hj) (by decide) rfl (Nat.le_of_ble_eq_true rfl) h (fun x1 μ1 hm h => ?_)
  have hk := hm.k hk (by decide)
  refine a_istore_n (L' := [(3, vi x1), (2, vi 0), (0, vr l0), (1, vi l1)]) dX5_foulsIn_7 rfl (by decide) rfl ?_
  exact a_sub [2, 3, 1, 0] rfl (tX5_foulsIn_8 E l _ N N l0 l1 0 x1 μ1 t hk h)
-- X5_cleanBy
abbrev aX5_cleanBy (E : m_E) (l : Launch) (d : Nat) (z : Nat × Nat) (pc : Nat) (L : List (Nat × AV)) (st : List AV) (μ : Mm) (ρ : Option AV × Mm) : Prop := AA E l d z RX5 "cleanBy" cX5_cleanBy 2 (some .int) pc L st μ ρ
theorem tX5_cleanBy_24 (E : m_E) (l : Launch) (z : Nat × Nat) (N : Nat) (l0 s0 : Int) (μ : Mm) (t : Int × Mm) (hk : m_kd μ l0 = (5, 0)) (h : jX5_cleanBy_24 N l0 s0 μ = some t) : aX5_cleanBy E l 4 z 24 [(0, vr l0)] [vi s0] μ (rI t) := by
  unfold jX5_cleanBy_24 at h
  exact a_reti dX5_cleanBy_24 h
theorem tX5_cleanBy (E : m_E) (l : Launch) (N : Nat) (l0 l1 : Int) (μ : Mm) (t : Int × Mm) (hk : m_kd μ l0 = (5, 0)) (h : jX5_cleanBy N l0 l1 μ = some t) : TT E l 4 yX5_cleanBy cX5_cleanBy 2 (some .int) [vr l0, vi l1] μ (rI t) := by
  refine tt_of (L := [(0, vr l0), (1, vi l1)]) (by decide +kernel) (Nat.le_of_ble_eq_true rfl) rfl ?_
  show aX5_cleanBy E l 4 (m_sz μ, m_sl μ) 0 [(0, vr l0), (1, vi l1)] [] μ (rI t)
  unfold jX5_cleanBy at h
  refine a_aload_n 0 dX5_cleanBy_0 rfl rfl ?_
  refine a_iload_n 1 dX5_cleanBy_1 rfl rfl ?_
  refine a_cVi (c := 5) [vi l1] [] dX5_cleanBy_2 myX5_downIn mRX5_86 mvX5_downIn rfl (by decide) hk (fun _ hj => tX5_downIn E l N l0 l1 μ _ hk hj) (by decide) rfl (Nat.le_of_ble_eq_true rfl) h (fun x1 μ1 hm h => ?_)
  have hk := hm.k hk (by decide)
  refine a_aload_n 0 dX5_cleanBy_5 rfl rfl ?_
  refine a_getfr (c := 5) (i := 5) dX5_cleanBy_6 fRX5_22 g5_5 rfl hk ?_
  refine m_chk_k h (fun hq6 h => ?_)
  refine a_getfi (c := 1) (i := 1) dX5_cleanBy_9 fRX5_36 g1_1 rfl hq6 ?_
  refine a_icmp_ne (tgt := 23) dX5_cleanBy_12 rfl h (fun h => ?_) (fun h => ?_)
  ·
    refine a_iconst dX5_cleanBy_23 (okI_b _ rfl) ?_
    exact a_sub [0] rfl (tX5_cleanBy_24 E l _ N l0 0 μ1 t hk h)
  ·
    refine a_aload_n 0 dX5_cleanBy_15 rfl rfl ?_
    refine a_iload_n 1 dX5_cleanBy_16 rfl rfl ?_
    refine a_cVi (c := 5) [vi l1] [] dX5_cleanBy_17 myX5_sizeOf mRX5_77 mvX5_sizeOf rfl (by decide) hk (fun _ hj => tX5_sizeOf E l N l0 l1 μ1 _ hk hj) (by decide) rfl (Nat.le_of_ble_eq_true rfl) h (fun x2 μ2 hm h => ?_)
    have hk := hm.k hk (by decide)
    have hq6 := hm.k hq6 (by decide)
    refine a_goto (tgt := 24) dX5_cleanBy_20 rfl ?_
    exact a_sub [0] rfl (tX5_cleanBy_24 E l _ N l0 x2 μ2 t hk h)
-- X5_isSettled
abbrev aX5_isSettled (E : m_E) (l : Launch) (d : Nat) (z : Nat × Nat) (pc : Nat) (L : List (Nat × AV)) (st : List AV) (μ : Mm) (ρ : Option AV × Mm) : Prop := AA E l d z RX5 "isSettled" cX5_isSettled 2 (some .boolean) pc L st μ ρ
theorem tX5_isSettled_55 (E : m_E) (l : Launch) (z : Nat × Nat) (N : Nat) (l0 s0 : Int) (μ : Mm) (t : Int × Mm) (hk : m_kd μ l0 = (5, 0)) (h : jX5_isSettled_55 N l0 s0 μ = some t) : aX5_isSettled E l 5 z 55 [(0, vr l0)] [vi s0] μ (rI t) := by
  unfold jX5_isSettled_55 at h
  exact a_retz dX5_isSettled_55 h
theorem tX5_isSettled_54 (E : m_E) (l : Launch) (z : Nat × Nat) (N : Nat) (l0 : Int) (μ : Mm) (t : Int × Mm) (hk : m_kd μ l0 = (5, 0)) (h : jX5_isSettled_54 N l0 μ = some t) : aX5_isSettled E l 5 z 54 [(0, vr l0)] [] μ (rI t) := by
  unfold jX5_isSettled_54 at h
  refine a_iconst dX5_isSettled_54 (okI_b _ rfl) ?_
  exact a_sub [0] rfl (tX5_isSettled_55 E l _ N l0 0 μ t hk h)
theorem tX5_isSettled (E : m_E) (l : Launch) (N : Nat) (l0 l1 : Int) (μ : Mm) (t : Int × Mm) (hk : m_kd μ l0 = (5, 0)) (h : jX5_isSettled N l0 l1 μ = some t) : TT E l 5 yX5_isSettled cX5_isSettled 2 (some .boolean) [vr l0, vi l1] μ (rI t) := by
  refine tt_of (L := [(0, vr l0), (1, vi l1)]) (by decide +kernel) (Nat.le_of_ble_eq_true rfl) rfl ?_
  show aX5_isSettled E l 5 (m_sz μ, m_sl μ) 0 [(0, vr l0), (1, vi l1)] [] μ (rI t)
  unfold jX5_isSettled at h
  refine a_iload_n 1 dX5_isSettled_0 rfl rfl ?_
  refine a_if_lt (tgt := 54) dX5_isSettled_1 rfl h (fun h => ?_) (fun h => ?_)
  ·
    exact a_sub [0] rfl (tX5_isSettled_54 E l _ N l0 μ t hk h)
  ·
    refine a_iload_n 1 dX5_isSettled_4 rfl rfl ?_
    refine a_aload_n 0 dX5_isSettled_5 rfl rfl ?_
    refine a_getfi (c := 5) (i := 2) dX5_isSettled_6 fRX5_30 g5_2 rfl hk ?_
    refine a_icmp_ge (tgt := 54) dX5_isSettled_9 rfl h (fun h => ?_) (fun h => ?_)
    ·
      exact a_sub [0] rfl (tX5_isSettled_54 E l _ N l0 μ t hk h)
    ·
      refine a_iload_n 1 dX5_isSettled_12 rfl rfl ?_
      refine a_aload_n 0 dX5_isSettled_13 rfl rfl ?_
      refine a_getfr (c := 5) (i := 5) dX5_isSettled_14 fRX5_22 g5_5 rfl hk ?_
      refine m_chk_k h (fun hq15 h => ?_)
      refine a_getfi (c := 1) (i := 2) dX5_isSettled_17 fRX5_47 g1_2 rfl hq15 ?_
      refine a_icmp_ge (tgt := 54) dX5_isSettled_20 rfl h (fun h => ?_) (fun h => ?_)
      ·
        exact a_sub [0] rfl (tX5_isSettled_54 E l _ N l0 μ t hk h)
      ·
        refine a_aload_n 0 dX5_isSettled_23 rfl rfl ?_
        refine a_iload_n 1 dX5_isSettled_24 rfl rfl ?_
        refine a_iconst dX5_isSettled_25 (okI_b _ rfl) ?_
        refine a_iadd dX5_isSettled_26 ?_
        refine a_cVi (c := 5) [vi (i_add l1 1)] [] dX5_isSettled_27 myX5_firstRoll mRX5_74 mvX5_firstRoll rfl (by decide) hk (fun _ hj => tX5_firstRoll E l N l0 (i_add l1 1) μ _ hk hj) (by decide) rfl (Nat.le_of_ble_eq_true rfl) h (fun x1 μ1 hm h => ?_)
        have hk := hm.k hk (by decide)
        have hq15 := hm.k hq15 (by decide)
        refine a_aload_n 0 dX5_isSettled_30 rfl rfl ?_
        refine a_getfr (c := 5) (i := 5) dX5_isSettled_31 fRX5_22 g5_5 rfl hk ?_
        refine a_aload_n 0 dX5_isSettled_34 rfl rfl ?_
        refine a_iload_n 1 dX5_isSettled_35 rfl rfl ?_
        refine a_cVi (c := 5) [vi l1] [vr (m_gt μ1 l0 5), vi x1] dX5_isSettled_36 myX5_cleanBy mRX5_89 mvX5_cleanBy rfl (by decide) hk (fun _ hj => tX5_cleanBy E l N l0 l1 μ1 _ hk hj) (by decide) rfl (Nat.le_of_ble_eq_true rfl) h (fun x2 μ2 hm h => ?_)
        have hk := hm.k hk (by decide)
        have hq15 := hm.k hq15 (by decide)
        refine m_chk_k h (fun hq35 h => ?_)
        refine a_cVi (c := 1) [vi x2] [vi x1] dX5_isSettled_39 myX1_earnedBy mRX5_66 mvX1_earnedBy rfl (by decide) hq35 (fun _ hj => tX1_earnedBy E l N (m_gt μ1 l0 5) x2 μ2 _ hq35 hj) (by decide) rfl (Nat.le_of_ble_eq_true rfl) h (fun x3 μ3 hm h => ?_)
        have hk := hm.k hk (by decide)
        have hq15 := hm.k hq15 (by decide)
        have hq35 := hm.k hq35 (by decide)
        refine a_iadd dX5_isSettled_42 ?_
        refine a_aload_n 0 dX5_isSettled_43 rfl rfl ?_
        refine a_getfi (c := 5) (i := 1) dX5_isSettled_44 fRX5_26 g5_1 rfl hk ?_
        refine a_icmp_gt (tgt := 54) dX5_isSettled_47 rfl h (fun h => ?_) (fun h => ?_)
        ·
          exact a_sub [0] rfl (tX5_isSettled_54 E l _ N l0 μ3 t hk h)
        ·
          refine a_iconst dX5_isSettled_50 (okI_b _ rfl) ?_
          refine a_goto (tgt := 55) dX5_isSettled_51 rfl ?_
          exact a_sub [0] rfl (tX5_isSettled_55 E l _ N l0 1 μ3 t hk h)
-- X5_worthAndTaken
abbrev aX5_worthAndTaken (E : m_E) (l : Launch) (d : Nat) (z : Nat × Nat) (pc : Nat) (L : List (Nat × AV)) (st : List AV) (μ : Mm) (ρ : Option AV × Mm) : Prop := AA E l d z RX5 "worthAndTaken" cX5_worthAndTaken 5 (some .int) pc L st μ ρ
theorem tX5_worthAndTaken (E : m_E) (l : Launch) (N : Nat) (l0 l1 : Int) (μ : Mm) (t : Int × Mm) (hk : m_kd μ l0 = (5, 0)) (h : jX5_worthAndTaken N l0 l1 μ = some t) : TT E l 5 yX5_worthAndTaken cX5_worthAndTaken 5 (some .int) [vr l0, vi l1] μ (rI t) := by
  refine tt_of (L := [(0, vr l0), (1, vi l1)]) (by decide +kernel) (Nat.le_of_ble_eq_true rfl) rfl ?_
  show aX5_worthAndTaken E l 5 (m_sz μ, m_sl μ) 0 [(0, vr l0), (1, vi l1)] [] μ (rI t)
  unfold jX5_worthAndTaken at h
  refine a_aload_n 0 dX5_worthAndTaken_0 rfl rfl ?_
  refine a_iload_n 1 dX5_worthAndTaken_1 rfl rfl ?_
  refine a_cVi (c := 5) [vi l1] [] dX5_worthAndTaken_2 myX5_downIn mRX5_86 mvX5_downIn rfl (by decide) hk (fun _ hj => tX5_downIn E l N l0 l1 μ _ hk hj) (by decide) rfl (Nat.le_of_ble_eq_true rfl) h (fun x1 μ1 hm h => ?_)
  have hk := hm.k hk (by decide)
  refine a_istore_n (L' := [(2, vi x1), (0, vr l0), (1, vi l1)]) dX5_worthAndTaken_5 rfl (by decide) rfl ?_
  refine a_aload_n 1 dX5_worthAndTaken_6 rfl rfl ?_
  refine a_iload_n 2 dX5_worthAndTaken_7 rfl rfl ?_
  refine a_cVi (c := 5) [vi l1] [] dX5_worthAndTaken_8 myX5_foulsIn mRX5_92 mvX5_foulsIn rfl (by decide) hk (fun _ hj => tX5_foulsIn E l N l0 l1 μ1 _ hk hj) (by decide) rfl (Nat.le_of_ble_eq_true rfl) h (fun x2 μ2 hm h => ?_)
  have hk := hm.k hk (by decide)
  refine a_istore_n (L' := [(3, vi x2), (2, vi x1), (0, vr l0), (1, vi l1)]) dX5_worthAndTaken_11 rfl (by decide) rfl ?_
  refine a_aload_n 2 dX5_worthAndTaken_12 rfl rfl ?_
  refine a_aload_n 2 dX5_worthAndTaken_13 rfl rfl ?_
  refine a_iload_n 3 dX5_worthAndTaken_14 rfl rfl ?_
  refine a_iconst dX5_worthAndTaken_15 (okI_b _ rfl) ?_
  refine a_iadd dX5_worthAndTaken_16 ?_
  refine a_cVi (c := 5) [vi (i_add l1 1)] [vr l0] dX5_worthAndTaken_17 myX5_firstRoll mRX5_74 mvX5_firstRoll rfl (by decide) hk (fun _ hj => tX5_firstRoll E l N l0 (i_add l1 1) μ2 _ hk hj) (by decide) rfl (Nat.le_of_ble_eq_true rfl) h (fun x3 μ3 hm h => ?_)
  have hk := hm.k hk (by decide)
  refine a_aload_n 2 dX5_worthAndTaken_20 rfl rfl ?_
  refine a_getfr (c := 5) (i := 5) dX5_worthAndTaken_21 fRX5_22 g5_5 rfl hk ?_
  refine a_aload_n 2 dX5_worthAndTaken_24 rfl rfl ?_
  refine a_iload_n 3 dX5_worthAndTaken_25 rfl rfl ?_
  refine a_cVi (c := 5) [vi l1] [vr (m_gt μ3 l0 5), vi x3, vr l0] dX5_worthAndTaken_26 myX5_cleanBy mRX5_89 mvX5_cleanBy rfl (by decide) hk (fun _ hj => tX5_cleanBy E l N l0 l1 μ3 _ hk hj) (by decide) rfl (Nat.le_of_ble_eq_true rfl) h (fun x4 μ4 hm h => ?_)
  have hk := hm.k hk (by decide)
  refine m_chk_k h (fun hq23 h => ?_)
  refine a_cVi (c := 1) [vi x4] [vi x3, vr l0] dX5_worthAndTaken_29 myX1_earnedBy mRX5_66 mvX1_earnedBy rfl (by decide) hq23 (fun _ hj => tX1_earnedBy E l N (m_gt μ3 l0 5) x4 μ4 _ hq23 hj) (by decide) rfl (Nat.le_of_ble_eq_true rfl) h (fun x5 μ5 hm h => ?_)
  have hk := hm.k hk (by decide)
  have hq23 := hm.k hq23 (by decide)
  refine a_cVi (c := 5) [vi x3, vi x5] [] dX5_worthAndTaken_32 myX5_takenFrom mRX5_80 mvX5_takenFrom rfl (by decide) hk (fun _ hj => tX5_takenFrom E l N l0 x3 x5 μ5 _ hk hj) (by decide) rfl (Nat.le_of_ble_eq_true rfl) h (fun x6 μ6 hm h => ?_)
  have hk := hm.k hk (by decide)
  have hq23 := hm.k hq23 (by decide)
  refine a_istore (L' := [(4, vi x6), (3, vi x2), (2, vi x1), (0, vr l0), (1, vi l1)]) dX5_worthAndTaken_35 (by decide) rfl ?_
  refine a_iload_n 2 dX5_worthAndTaken_37 rfl rfl ?_
  refine a_iload 0 dX5_worthAndTaken_38 rfl ?_
  refine a_iadd dX5_worthAndTaken_40 ?_
  refine a_aload_n 3 dX5_worthAndTaken_41 rfl rfl ?_
  refine a_getfr (c := 5) (i := 5) dX5_worthAndTaken_42 fRX5_22 g5_5 rfl hk ?_
  refine a_iload_n 4 dX5_worthAndTaken_45 rfl rfl ?_
  refine a_iload_n 2 dX5_worthAndTaken_46 rfl rfl ?_
  refine a_aload_n 3 dX5_worthAndTaken_47 rfl rfl ?_
  refine a_iload_n 4 dX5_worthAndTaken_48 rfl rfl ?_
  refine a_cVi (c := 5) [vi l1] [vi x1, vi l1, vr (m_gt μ6 l0 5), vi (i_add x1 x6)] dX5_worthAndTaken_49 myX5_sizeOf mRX5_77 mvX5_sizeOf rfl (by decide) hk (fun _ hj => tX5_sizeOf E l N l0 l1 μ6 _ hk hj) (by decide) rfl (Nat.le_of_ble_eq_true rfl) h (fun x7 μ7 hm h => ?_)
  have hk := hm.k hk (by decide)
  have hq23 := hm.k hq23 (by decide)
  refine a_iload_n 1 dX5_worthAndTaken_52 rfl rfl ?_
  refine m_chk_k h (fun hq44 h => ?_)
  refine a_cVi (c := 1) [vi l1, vi x1, vi x7, vi x2] [vi (i_add x1 x6)] dX5_worthAndTaken_53 myX1_worthOf mRX5_95 mvX1_worthOf rfl (by decide) hq44 (fun _ hj => tX1_worthOf E l N (m_gt μ6 l0 5) l1 x1 x7 x2 μ7 _ hq44 hj) (by decide) rfl (Nat.le_of_ble_eq_true rfl) h (fun x8 μ8 hm h => ?_)
  have hk := hm.k hk (by decide)
  have hq23 := hm.k hq23 (by decide)
  have hq44 := hm.k hq44 (by decide)
  refine a_iadd dX5_worthAndTaken_56 ?_
  refine a_iload_n 1 dX5_worthAndTaken_57 rfl rfl ?_
  refine a_aload_n 3 dX5_worthAndTaken_58 rfl rfl ?_
  refine a_getfr (c := 5) (i := 5) dX5_worthAndTaken_59 fRX5_22 g5_5 rfl hk ?_
  refine m_chk_k h (fun hq53 h => ?_)
  refine a_getfi (c := 1) (i := 4) dX5_worthAndTaken_62 fRX5_99 g1_4 rfl hq53 ?_
  refine a_imul dX5_worthAndTaken_65 ?_
  refine a_isub dX5_worthAndTaken_66 ?_
  exact a_reti dX5_worthAndTaken_67 h
-- X5_sumOfFrames
abbrev aX5_sumOfFrames (E : m_E) (l : Launch) (d : Nat) (z : Nat × Nat) (pc : Nat) (L : List (Nat × AV)) (st : List AV) (μ : Mm) (ρ : Option AV × Mm) : Prop := AA E l d z RX5 "sumOfFrames" cX5_sumOfFrames 3 (some .int) pc L st μ ρ
theorem tX5_sumOfFrames_4b (E : m_E) (l : Launch) (z : Nat × Nat) (k4 : Int → Int → Int → Mm → Option (Int × Mm)) (p4 : ∀ (l0 l1 l2 : Int) (μ : Mm) (t : Int × Mm), m_kd μ l0 = (5, 0) → k4 l0 l1 l2 μ = some t → aX5_sumOfFrames E l 6 z 4 [(0, vr l0), (1, vi l1), (2, vi l2)] [] μ (rI t)) (N : Nat) (l0 l1 l2 : Int) (μ : Mm) (t : Int × Mm) (hk : m_kd μ l0 = (5, 0)) (h : jX5_sumOfFrames_4b k4 N l0 l1 l2 μ = some t) : aX5_sumOfFrames E l 6 z 4 [(0, vr l0), (1, vi l1), (2, vi l2)] [] μ (rI t) := by
  unfold jX5_sumOfFrames_4b at h
  refine a_iload_n 2 dX5_sumOfFrames_4 rfl rfl ?_
  refine a_aload_n 0 dX5_sumOfFrames_5 rfl rfl ?_
  refine a_getfr (c := 5) (i := 5) dX5_sumOfFrames_6 fRX5_22 g5_5 rfl hk ?_
  refine m_chk_k h (fun hq3 h => ?_)
  refine a_getfi (c := 1) (i := 2) dX5_sumOfFrames_9 fRX5_47 g1_2 rfl hq3 ?_
  refine a_icmp_ge (tgt := 29) dX5_sumOfFrames_12 rfl h (fun h => ?_) (fun h => ?_)
  ·
    refine a_iload_n 1 dX5_sumOfFrames_29 rfl rfl ?_
    exact a_reti dX5_sumOfFrames_30 h
  ·
    refine a_iload_n 1 dX5_sumOfFrames_15 rfl rfl ?_
    refine a_aload_n 0 dX5_sumOfFrames_16 rfl rfl ?_
    refine a_iload_n 2 dX5_sumOfFrames_17 rfl rfl ?_
    refine a_cVi (c := 5) [vi l2] [vi l1] dX5_sumOfFrames_18 myX5_worthAndTaken mRX5_102 mvX5_worthAndTaken rfl (by decide) hk (fun _ hj => tX5_worthAndTaken E l N l0 l2 μ _ hk hj) (by decide) rfl (Nat.le_of_ble_eq_true rfl) h (fun x1 μ1 hm h => ?_)
    have hk := hm.k hk (by decide)
    have hq3 := hm.k hq3 (by decide)
    refine a_iadd dX5_sumOfFrames_21 ?_
    refine a_nmi h (fun x2 h => ?_)
    refine a_istore_n (L' := [(1, vi x2), (0, vr l0), (2, vi l2)]) dX5_sumOfFrames_22 rfl (by decide) rfl ?_
    refine a_iinc (F := fun x3 => [(2, vi x3), (1, vi x2), (0, vr l0)]) 2 dX5_sumOfFrames_23 rfl (by decide) h (fun _ => rfl) (fun x3 h => ?_)
    refine a_goto (tgt := 4) dX5_sumOfFrames_26 rfl ?_
    exact a_sub [2, 1, 0] rfl (p4 l0 x2 x3 μ1 t hk h)
theorem tX5_sumOfFrames_4 (E : m_E) (l : Launch) (z : Nat × Nat) (N : Nat) : ∀ (n : Nat) (l0 l1 l2 : Int) (μ : Mm) (t : Int × Mm), m_kd μ l0 = (5, 0) → jX5_sumOfFrames_4 N n l0 l1 l2 μ = some t → aX5_sumOfFrames E l 6 z 4 [(0, vr l0), (1, vi l1), (2, vi l2)] [] μ (rI t)
  | 0, _, _, _, _, _, _, h => by cases h
  | n + 1, l0, l1, l2, μ, t, hk, h => tX5_sumOfFrames_4b E l z (jX5_sumOfFrames_4 N n) (tX5_sumOfFrames_4 E l z N n) N l0 l1 l2 μ t hk h
theorem tX5_sumOfFrames (E : m_E) (l : Launch) (N : Nat) (l0 : Int) (μ : Mm) (t : Int × Mm) (hk : m_kd μ l0 = (5, 0)) (h : jX5_sumOfFrames N l0 μ = some t) : TT E l 6 yX5_sumOfFrames cX5_sumOfFrames 3 (some .int) [vr l0] μ (rI t) := by
  refine tt_of (L := [(0, vr l0)]) (by decide +kernel) (Nat.le_of_ble_eq_true rfl) rfl ?_
  show aX5_sumOfFrames E l 6 (m_sz μ, m_sl μ) 0 [(0, vr l0)] [] μ (rI t)
  unfold jX5_sumOfFrames at h
  refine a_iconst dX5_sumOfFrames_0 (okI_b _ rfl) ?_
  refine a_istore_n (L' := [(1, vi 0), (0, vr l0)]) dX5_sumOfFrames_1 rfl (by decide) rfl ?_
  refine a_iconst dX5_sumOfFrames_2 (okI_b _ rfl) ?_
  refine a_istore_n (L' := [(2, vi 0), (1, vi 0), (0, vr l0)]) dX5_sumOfFrames_3 rfl (by decide) rfl ?_
  exact a_sub [2, 1, 0] rfl (tX5_sumOfFrames_4 E l _ N N l0 0 0 μ t hk h)
-- X6_init
abbrev aX6_init (E : m_E) (l : Launch) (d : Nat) (z : Nat × Nat) (pc : Nat) (L : List (Nat × AV)) (st : List AV) (μ : Mm) (ρ : Option AV × Mm) : Prop := AA E l d z RX6 "<init>" cX6_init 4 none pc L st μ ρ
theorem tX6_init_44b (E : m_E) (l : Launch) (z : Nat × Nat) (k44 : Int → Int → Mm → Option (Mm)) (p44 : ∀ (l0 l3 : Int) (μ : Mm) (t : Mm), m_kd μ l0 = (6, 0) → k44 l0 l3 μ = some t → aX6_init E l 2 z 44 [(0, vr l0), (3, vi l3)] [] μ (rV t)) (N : Nat) (l0 l3 : Int) (μ : Mm) (t : Mm) (hk : m_kd μ l0 = (6, 0)) (h : jX6_init_44b k44 N l0 l3 μ = some t) : aX6_init E l 2 z 44 [(0, vr l0), (3, vi l3)] [] μ (rV t) := by
  unfold jX6_init_44b at h
  refine a_iload_n 1 dX6_init_44 rfl rfl ?_
  refine a_aload_n 0 dX6_init_45 rfl rfl ?_
  refine a_getfr (c := 6) (i := 2) dX6_init_46 fRX6_25 g6_2 rfl hk ?_
  refine a_alen dX6_init_49 h (fun x1 h => ?_)
  refine a_icmp_ge (tgt := 76) dX6_init_50 rfl h (fun h => ?_) (fun h => ?_)
  ·
    exact a_ret0 dX6_init_76 h
  ·
    refine a_aload_n 0 dX6_init_53 rfl rfl ?_
    refine a_getfr (c := 6) (i := 2) dX6_init_54 fRX6_25 g6_2 rfl hk ?_
    refine a_iload_n 1 dX6_init_57 rfl rfl ?_
    refine a_aload_n 0 dX6_init_58 rfl rfl ?_
    refine a_getfi (c := 6) (i := 0) dX6_init_59 fRX6_21 g6_0 rfl hk ?_
    refine a_iast dX6_init_62 h (fun μ1 hm h => ?_)
    have hk := hm.k hk (by decide)
    refine a_aload_n 0 dX6_init_63 rfl rfl ?_
    refine a_getfr (c := 6) (i := 3) dX6_init_64 fRX6_29 g6_3 rfl hk ?_
    refine a_iload_n 1 dX6_init_67 rfl rfl ?_
    refine a_iconst dX6_init_68 (okI_b _ rfl) ?_
    refine a_iast dX6_init_69 h (fun μ2 hm h => ?_)
    have hk := hm.k hk (by decide)
    refine a_iinc (F := fun x2 => [(3, vi x2), (0, vr l0)]) 1 dX6_init_70 rfl (by decide) h (fun _ => rfl) (fun x2 h => ?_)
    refine a_goto (tgt := 44) dX6_init_73 rfl ?_
    exact a_sub [1, 0] rfl (p44 l0 x2 μ2 t hk h)
theorem tX6_init_44 (E : m_E) (l : Launch) (z : Nat × Nat) (N : Nat) : ∀ (n : Nat) (l0 l3 : Int) (μ : Mm) (t : Mm), m_kd μ l0 = (6, 0) → jX6_init_44 N n l0 l3 μ = some t → aX6_init E l 2 z 44 [(0, vr l0), (3, vi l3)] [] μ (rV t)
  | 0, _, _, _, _, _, h => by cases h
  | n + 1, l0, l3, μ, t, hk, h => tX6_init_44b E l z (jX6_init_44 N n) (tX6_init_44 E l z N n) N l0 l3 μ t hk h
theorem tX6_init (E : m_E) (l : Launch) (N : Nat) (l0 l1 l2 : Int) (μ : Mm) (t : Mm) (hk : m_kd μ l0 = (6, 0)) (h : jX6_init N l0 l1 l2 μ = some t) : TT E l 2 yX6_init cX6_init 4 none [vr l0, vi l1, vi l2] μ (rV t) := by
  refine tt_of (L := [(0, vr l0), (1, vi l1), (2, vi l2)]) (by decide +kernel) (Nat.le_of_ble_eq_true rfl) rfl ?_
  show aX6_init E l 2 (m_sz μ, m_sl μ) 0 [(0, vr l0), (1, vi l1), (2, vi l2)] [] μ (rV t)
  unfold jX6_init at h
  refine a_aload_n 0 dX6_init_0 rfl rfl ?_
  refine a_objI dX6_init_1 mRX6_3 ob1 ob2 (by decide) hk (by decide) ?_
  refine a_aload_n 0 dX6_init_4 rfl rfl ?_
  refine a_iconst dX6_init_5 (okI_b _ rfl) ?_
  refine a_nal dX6_init_6 ac_long h (fun μ1 hm hq4 h => ?_)
  have hk := hm.k hk (by decide)
  refine a_putfr (c := 6) (i := 1) dX6_init_8 fRX6_9 g6_1 (Or.inl rfl) rfl hk h (fun μ2 hm h => ?_)
  have hk := hm.k hk (by decide)
  refine a_aload_n 0 dX6_init_11 rfl rfl ?_
  refine a_iload_n 2 dX6_init_12 rfl rfl ?_
  refine a_iconst dX6_init_13 (okI_b _ rfl) ?_
  refine a_mmax dX6_init_14 mRX6_15 (by decide) (Nat.le_of_ble_eq_true rfl) ?_
  refine a_putfi (c := 6) (i := 0) dX6_init_17 fRX6_21 g6_0 (Or.inr ⟨rfl, rfl, rfl⟩) rfl hk h (fun μ3 hm h => ?_)
  have hk := hm.k hk (by decide)
  refine a_aload_n 0 dX6_init_20 rfl rfl ?_
  refine a_iload_n 1 dX6_init_21 rfl rfl ?_
  refine a_iconst dX6_init_22 (okI_b _ rfl) ?_
  refine a_mmax dX6_init_23 mRX6_15 (by decide) (Nat.le_of_ble_eq_true rfl) ?_
  refine a_nai dX6_init_26 ac_int h (fun μ4 hm hq18 h => ?_)
  have hk := hm.k hk (by decide)
  refine a_putfr (c := 6) (i := 2) dX6_init_28 fRX6_25 g6_2 (Or.inr ⟨rfl, rfl, rfl⟩) rfl hk h (fun μ5 hm h => ?_)
  have hk := hm.k hk (by decide)
  refine a_aload_n 0 dX6_init_31 rfl rfl ?_
  refine a_aload_n 0 dX6_init_32 rfl rfl ?_
  refine a_getfr (c := 6) (i := 2) dX6_init_33 fRX6_25 g6_2 rfl hk ?_
  refine a_alen dX6_init_36 h (fun x1 h => ?_)
  refine a_nai dX6_init_37 ac_int h (fun μ6 hm hq26 h => ?_)
  have hk := hm.k hk (by decide)
  refine a_putfr (c := 6) (i := 3) dX6_init_39 fRX6_29 g6_3 (Or.inr ⟨rfl, rfl, rfl⟩) rfl hk h (fun μ7 hm h => ?_)
  have hk := hm.k hk (by decide)
  refine a_iconst dX6_init_42 (okI_b _ rfl) ?_
  refine a_istore_n (L' := [(3, vi 0), (0, vr l0), (1, vi l1), (2, vi l2)]) dX6_init_43 rfl (by decide) rfl ?_
  exact a_sub [1, 0] rfl (tX6_init_44 E l _ N N l0 0 μ7 t hk h)
-- X6_open
abbrev aX6_open (E : m_E) (l : Launch) (d : Nat) (z : Nat × Nat) (pc : Nat) (L : List (Nat × AV)) (st : List AV) (μ : Mm) (ρ : Option AV × Mm) : Prop := AA E l d z RX6 "open" cX6_open 1 none pc L st μ ρ
theorem tX6_open_24 (E : m_E) (l : Launch) (z : Nat × Nat) (N : Nat) (l0 : Int) (μ : Mm) (t : Mm) (hk : m_kd μ l0 = (6, 0)) (h : jX6_open_24 N l0 μ = some t) : aX6_open E l 1 z 24 [(0, vr l0)] [] μ (rV t) := by
  unfold jX6_open_24 at h
  exact a_ret0 dX6_open_24 h
theorem tX6_open (E : m_E) (l : Launch) (N : Nat) (l0 : Int) (μ : Mm) (t : Mm) (hk : m_kd μ l0 = (6, 0)) (h : jX6_open N l0 μ = some t) : TT E l 1 yX6_open cX6_open 1 none [vr l0] μ (rV t) := by
  refine tt_of (L := [(0, vr l0)]) (by decide +kernel) (Nat.le_of_ble_eq_true rfl) rfl ?_
  show aX6_open E l 1 (m_sz μ, m_sl μ) 0 [(0, vr l0)] [] μ (rV t)
  unfold jX6_open at h
  refine a_aload_n 0 dX6_open_0 rfl rfl ?_
  refine a_getfr (c := 6) (i := 1) dX6_open_1 fRX6_9 g6_1 rfl hk ?_
  refine a_alen dX6_open_4 h (fun x1 h => ?_)
  refine a_if_ne (tgt := 24) dX6_open_5 rfl h (fun h => ?_) (fun h => ?_)
  ·
    exact a_sub [0] rfl (tX6_open_24 E l _ N l0 μ t hk h)
  ·
    refine a_aload_n 0 dX6_open_8 rfl rfl ?_
    refine a_aload_n 0 dX6_open_9 rfl rfl ?_
    refine a_getfr (c := 6) (i := 2) dX6_open_10 fRX6_25 g6_2 rfl hk ?_
    refine a_alen dX6_open_13 h (fun x2 h => ?_)
    refine a_aload_n 0 dX6_open_14 rfl rfl ?_
    refine a_getfi (c := 6) (i := 0) dX6_open_15 fRX6_21 g6_0 rfl hk ?_
    refine a_imul dX6_open_18 ?_
    refine a_nal dX6_open_19 ac_long h (fun μ1 hm hq14 h => ?_)
    have hk := hm.k hk (by decide)
    refine a_putfr (c := 6) (i := 1) dX6_open_21 fRX6_9 g6_1 (Or.inl rfl) rfl hk h (fun μ2 hm h => ?_)
    have hk := hm.k hk (by decide)
    exact a_sub [0] rfl (tX6_open_24 E l _ N l0 μ2 t hk h)
-- X6_isRow
abbrev aX6_isRow (E : m_E) (l : Launch) (d : Nat) (z : Nat × Nat) (pc : Nat) (L : List (Nat × AV)) (st : List AV) (μ : Mm) (ρ : Option AV × Mm) : Prop := AA E l d z RX6 "isRow" cX6_isRow 2 (some .boolean) pc L st μ ρ
theorem tX6_isRow_34 (E : m_E) (l : Launch) (z : Nat × Nat) (N : Nat) (l0 s0 : Int) (μ : Mm) (t : Int × Mm) (hk : m_kd μ l0 = (6, 0)) (h : jX6_isRow_34 N l0 s0 μ = some t) : aX6_isRow E l 1 z 34 [(0, vr l0)] [vi s0] μ (rI t) := by
  unfold jX6_isRow_34 at h
  exact a_retz dX6_isRow_34 h
theorem tX6_isRow_33 (E : m_E) (l : Launch) (z : Nat × Nat) (N : Nat) (l0 : Int) (μ : Mm) (t : Int × Mm) (hk : m_kd μ l0 = (6, 0)) (h : jX6_isRow_33 N l0 μ = some t) : aX6_isRow E l 1 z 33 [(0, vr l0)] [] μ (rI t) := by
  unfold jX6_isRow_33 at h
  refine a_iconst dX6_isRow_33 (okI_b _ rfl) ?_
  exact a_sub [0] rfl (tX6_isRow_34 E l _ N l0 0 μ t hk h)
theorem tX6_isRow (E : m_E) (l : Launch) (N : Nat) (l0 l1 : Int) (μ : Mm) (t : Int × Mm) (hk : m_kd μ l0 = (6, 0)) (h : jX6_isRow N l0 l1 μ = some t) : TT E l 1 yX6_isRow cX6_isRow 2 (some .boolean) [vr l0, vi l1] μ (rI t) := by
  refine tt_of (L := [(0, vr l0), (1, vi l1)]) (by decide +kernel) (Nat.le_of_ble_eq_true rfl) rfl ?_
  show aX6_isRow E l 1 (m_sz μ, m_sl μ) 0 [(0, vr l0), (1, vi l1)] [] μ (rI t)
  unfold jX6_isRow at h
  refine a_iload_n 1 dX6_isRow_0 rfl rfl ?_
  refine a_if_lt (tgt := 33) dX6_isRow_1 rfl h (fun h => ?_) (fun h => ?_)
  ·
    exact a_sub [0] rfl (tX6_isRow_33 E l _ N l0 μ t hk h)
  ·
    refine a_iload_n 1 dX6_isRow_4 rfl rfl ?_
    refine a_aload_n 0 dX6_isRow_5 rfl rfl ?_
    refine a_getfr (c := 6) (i := 2) dX6_isRow_6 fRX6_25 g6_2 rfl hk ?_
    refine a_alen dX6_isRow_9 h (fun x1 h => ?_)
    refine a_icmp_ge (tgt := 33) dX6_isRow_10 rfl h (fun h => ?_) (fun h => ?_)
    ·
      exact a_sub [0] rfl (tX6_isRow_33 E l _ N l0 μ t hk h)
    ·
      refine a_iload_n 1 dX6_isRow_13 rfl rfl ?_
      refine a_iconst dX6_isRow_14 (okI_b _ rfl) ?_
      refine a_iadd dX6_isRow_15 ?_
      refine a_aload_n 0 dX6_isRow_16 rfl rfl ?_
      refine a_getfi (c := 6) (i := 0) dX6_isRow_17 fRX6_21 g6_0 rfl hk ?_
      refine a_imul dX6_isRow_20 ?_
      refine a_aload_n 0 dX6_isRow_21 rfl rfl ?_
      refine a_getfr (c := 6) (i := 1) dX6_isRow_22 fRX6_9 g6_1 rfl hk ?_
      refine a_alen dX6_isRow_25 h (fun x2 h => ?_)
      refine a_icmp_gt (tgt := 33) dX6_isRow_26 rfl h (fun h => ?_) (fun h => ?_)
      ·
        exact a_sub [0] rfl (tX6_isRow_33 E l _ N l0 μ t hk h)
      ·
        refine a_iconst dX6_isRow_29 (okI_b _ rfl) ?_
        refine a_goto (tgt := 34) dX6_isRow_30 rfl ?_
        exact a_sub [0] rfl (tX6_isRow_34 E l _ N l0 1 μ t hk h)
-- X6_low
abbrev aX6_low (E : m_E) (l : Launch) (d : Nat) (z : Nat × Nat) (pc : Nat) (L : List (Nat × AV)) (st : List AV) (μ : Mm) (ρ : Option AV × Mm) : Prop := AA E l d z RX6 "low" cX6_low 2 (some .int) pc L st μ ρ
theorem tX6_low_21 (E : m_E) (l : Launch) (z : Nat × Nat) (N : Nat) (l0 s0 : Int) (μ : Mm) (t : Int × Mm) (hk : m_kd μ l0 = (6, 0)) (h : jX6_low_21 N l0 s0 μ = some t) : aX6_low E l 2 z 21 [(0, vr l0)] [vi s0] μ (rI t) := by
  unfold jX6_low_21 at h
  exact a_reti dX6_low_21 h
theorem tX6_low (E : m_E) (l : Launch) (N : Nat) (l0 l1 : Int) (μ : Mm) (t : Int × Mm) (hk : m_kd μ l0 = (6, 0)) (h : jX6_low N l0 l1 μ = some t) : TT E l 2 yX6_low cX6_low 2 (some .int) [vr l0, vi l1] μ (rI t) := by
  refine tt_of (L := [(0, vr l0), (1, vi l1)]) (by decide +kernel) (Nat.le_of_ble_eq_true rfl) rfl ?_
  show aX6_low E l 2 (m_sz μ, m_sl μ) 0 [(0, vr l0), (1, vi l1)] [] μ (rI t)
  unfold jX6_low at h
  refine a_aload_n 0 dX6_low_0 rfl rfl ?_
  refine a_iload_n 1 dX6_low_1 rfl rfl ?_
  refine a_cVi (c := 6) [vi l1] [] dX6_low_2 myX6_isRow mRX6_32 mvX6_isRow rfl (by decide) hk (fun _ hj => tX6_isRow E l N l0 l1 μ _ hk hj) (by decide) rfl (Nat.le_of_ble_eq_true rfl) h (fun x1 μ1 hm h => ?_)
  have hk := hm.k hk (by decide)
  refine a_if_eq (tgt := 17) dX6_low_5 rfl h (fun h => ?_) (fun h => ?_)
  ·
    refine a_aload_n 0 dX6_low_17 rfl rfl ?_
    refine a_getfi (c := 6) (i := 0) dX6_low_18 fRX6_21 g6_0 rfl hk ?_
    exact a_sub [0] rfl (tX6_low_21 E l _ N l0 (m_gt μ1 l0 0) μ1 t hk h)
  ·
    refine a_aload_n 0 dX6_low_8 rfl rfl ?_
    refine a_getfr (c := 6) (i := 2) dX6_low_9 fRX6_25 g6_2 rfl hk ?_
    refine a_iload_n 1 dX6_low_12 rfl rfl ?_
    refine a_iald dX6_low_13 h (fun x2 h => ?_)
    refine a_goto (tgt := 21) dX6_low_14 rfl ?_
    exact a_sub [0] rfl (tX6_low_21 E l _ N l0 x2 μ1 t hk h)
-- X6_high
abbrev aX6_high (E : m_E) (l : Launch) (d : Nat) (z : Nat × Nat) (pc : Nat) (L : List (Nat × AV)) (st : List AV) (μ : Mm) (ρ : Option AV × Mm) : Prop := AA E l d z RX6 "high" cX6_high 2 (some .int) pc L st μ ρ
theorem tX6_high_18 (E : m_E) (l : Launch) (z : Nat × Nat) (N : Nat) (l0 s0 : Int) (μ : Mm) (t : Int × Mm) (hk : m_kd μ l0 = (6, 0)) (h : jX6_high_18 N l0 s0 μ = some t) : aX6_high E l 2 z 18 [(0, vr l0)] [vi s0] μ (rI t) := by
  unfold jX6_high_18 at h
  exact a_reti dX6_high_18 h
theorem tX6_high (E : m_E) (l : Launch) (N : Nat) (l0 l1 : Int) (μ : Mm) (t : Int × Mm) (hk : m_kd μ l0 = (6, 0)) (h : jX6_high N l0 l1 μ = some t) : TT E l 2 yX6_high cX6_high 2 (some .int) [vr l0, vi l1] μ (rI t) := by
  refine tt_of (L := [(0, vr l0), (1, vi l1)]) (by decide +kernel) (Nat.le_of_ble_eq_true rfl) rfl ?_
  show aX6_high E l 2 (m_sz μ, m_sl μ) 0 [(0, vr l0), (1, vi l1)] [] μ (rI t)
  unfold jX6_high at h
  refine a_aload_n 0 dX6_high_0 rfl rfl ?_
  refine a_iload_n 1 dX6_high_1 rfl rfl ?_
  refine a_cVi (c := 6) [vi l1] [] dX6_high_2 myX6_isRow mRX6_32 mvX6_isRow rfl (by decide) hk (fun _ hj => tX6_isRow E l N l0 l1 μ _ hk hj) (by decide) rfl (Nat.le_of_ble_eq_true rfl) h (fun x1 μ1 hm h => ?_)
  have hk := hm.k hk (by decide)
  refine a_if_eq (tgt := 17) dX6_high_5 rfl h (fun h => ?_) (fun h => ?_)
  ·
    refine a_iconst dX6_high_17 (okI_b _ rfl) ?_
    exact a_sub [0] rfl (tX6_high_18 E l _ N l0 (-1) μ1 t hk h)
  ·
    refine a_aload_n 0 dX6_high_8 rfl rfl ?_
    refine a_getfr (c := 6) (i := 3) dX6_high_9 fRX6_29 g6_3 rfl hk ?_
    refine a_iload_n 1 dX6_high_12 rfl rfl ?_
    refine a_iald dX6_high_13 h (fun x2 h => ?_)
    refine a_goto (tgt := 18) dX6_high_14 rfl ?_
    exact a_sub [0] rfl (tX6_high_18 E l _ N l0 x2 μ1 t hk h)
-- X6_isEmpty
abbrev aX6_isEmpty (E : m_E) (l : Launch) (d : Nat) (z : Nat × Nat) (pc : Nat) (L : List (Nat × AV)) (st : List AV) (μ : Mm) (ρ : Option AV × Mm) : Prop := AA E l d z RX6 "isEmpty" cX6_isEmpty 2 (some .boolean) pc L st μ ρ
theorem tX6_isEmpty_18 (E : m_E) (l : Launch) (z : Nat × Nat) (N : Nat) (l0 s0 : Int) (μ : Mm) (t : Int × Mm) (hk : m_kd μ l0 = (6, 0)) (h : jX6_isEmpty_18 N l0 s0 μ = some t) : aX6_isEmpty E l 3 z 18 [(0, vr l0)] [vi s0] μ (rI t) := by
  unfold jX6_isEmpty_18 at h
  exact a_retz dX6_isEmpty_18 h
theorem tX6_isEmpty (E : m_E) (l : Launch) (N : Nat) (l0 l1 : Int) (μ : Mm) (t : Int × Mm) (hk : m_kd μ l0 = (6, 0)) (h : jX6_isEmpty N l0 l1 μ = some t) : TT E l 3 yX6_isEmpty cX6_isEmpty 2 (some .boolean) [vr l0, vi l1] μ (rI t) := by
  refine tt_of (L := [(0, vr l0), (1, vi l1)]) (by decide +kernel) (Nat.le_of_ble_eq_true rfl) rfl ?_
  show aX6_isEmpty E l 3 (m_sz μ, m_sl μ) 0 [(0, vr l0), (1, vi l1)] [] μ (rI t)
  unfold jX6_isEmpty at h
  refine a_aload_n 0 dX6_isEmpty_0 rfl rfl ?_
  refine a_iload_n 1 dX6_isEmpty_1 rfl rfl ?_
  refine a_cVi (c := 6) [vi l1] [] dX6_isEmpty_2 myX6_low mRX6_36 mvX6_low rfl (by decide) hk (fun _ hj => tX6_low E l N l0 l1 μ _ hk hj) (by decide) rfl (Nat.le_of_ble_eq_true rfl) h (fun x1 μ1 hm h => ?_)
  have hk := hm.k hk (by decide)
  refine a_aload_n 0 dX6_isEmpty_5 rfl rfl ?_
  refine a_iload_n 1 dX6_isEmpty_6 rfl rfl ?_
  refine a_cVi (c := 6) [vi l1] [vi x1] dX6_isEmpty_7 myX6_high mRX6_40 mvX6_high rfl (by decide) hk (fun _ hj => tX6_high E l N l0 l1 μ1 _ hk hj) (by decide) rfl (Nat.le_of_ble_eq_true rfl) h (fun x2 μ2 hm h => ?_)
  have hk := hm.k hk (by decide)
  refine a_icmp_le (tgt := 17) dX6_isEmpty_10 rfl h (fun h => ?_) (fun h => ?_)
  ·
    refine a_iconst dX6_isEmpty_17 (okI_b _ rfl) ?_
    exact a_sub [0] rfl (tX6_isEmpty_18 E l _ N l0 0 μ2 t hk h)
  ·
    refine a_iconst dX6_isEmpty_13 (okI_b _ rfl) ?_
    refine a_goto (tgt := 18) dX6_isEmpty_14 rfl ?_
    exact a_sub [0] rfl (tX6_isEmpty_18 E l _ N l0 1 μ2 t hk h)
-- X6_value
abbrev aX6_value (E : m_E) (l : Launch) (d : Nat) (z : Nat × Nat) (pc : Nat) (L : List (Nat × AV)) (st : List AV) (μ : Mm) (ρ : Option AV × Mm) : Prop := AA E l d z RX6 "value" cX6_value 3 (some .long) pc L st μ ρ
theorem tX6_value_37 (E : m_E) (l : Launch) (z : Nat × Nat) (N : Nat) (l0 s0 : Int) (μ : Mm) (t : Int × Mm) (hk : m_kd μ l0 = (6, 0)) (h : jX6_value_37 N l0 s0 μ = some t) : aX6_value E l 2 z 37 [(0, vr l0)] [vl s0] μ (rJ t) := by
  unfold jX6_value_37 at h
  exact a_retl dX6_value_37 h
theorem tX6_value_36 (E : m_E) (l : Launch) (z : Nat × Nat) (N : Nat) (l0 : Int) (μ : Mm) (t : Int × Mm) (hk : m_kd μ l0 = (6, 0)) (h : jX6_value_36 N l0 μ = some t) : aX6_value E l 2 z 36 [(0, vr l0)] [] μ (rJ t) := by
  unfold jX6_value_36 at h
  refine a_lconst (v := 0) dX6_value_36 ⟨rfl, okJ_b _ rfl⟩ ?_
  exact a_sub [0] rfl (tX6_value_37 E l _ N l0 0 μ t hk h)
theorem tX6_value (E : m_E) (l : Launch) (N : Nat) (l0 l1 l2 : Int) (μ : Mm) (t : Int × Mm) (hk : m_kd μ l0 = (6, 0)) (h : jX6_value N l0 l1 l2 μ = some t) : TT E l 2 yX6_value cX6_value 3 (some .long) [vr l0, vi l1, vi l2] μ (rJ t) := by
  refine tt_of (L := [(0, vr l0), (1, vi l1), (2, vi l2)]) (by decide +kernel) (Nat.le_of_ble_eq_true rfl) rfl ?_
  show aX6_value E l 2 (m_sz μ, m_sl μ) 0 [(0, vr l0), (1, vi l1), (2, vi l2)] [] μ (rJ t)
  unfold jX6_value at h
  refine a_aload_n 0 dX6_value_0 rfl rfl ?_
  refine a_iload_n 1 dX6_value_1 rfl rfl ?_
  refine a_cVi (c := 6) [vi l1] [] dX6_value_2 myX6_isRow mRX6_32 mvX6_isRow rfl (by decide) hk (fun _ hj => tX6_isRow E l N l0 l1 μ _ hk hj) (by decide) rfl (Nat.le_of_ble_eq_true rfl) h (fun x1 μ1 hm h => ?_)
  have hk := hm.k hk (by decide)
  refine a_if_eq (tgt := 36) dX6_value_5 rfl h (fun h => ?_) (fun h => ?_)
  ·
    exact a_sub [0] rfl (tX6_value_36 E l _ N l0 μ1 t hk h)
  ·
    refine a_iload_n 2 dX6_value_8 rfl rfl ?_
    refine a_if_lt (tgt := 36) dX6_value_9 rfl h (fun h => ?_) (fun h => ?_)
    ·
      exact a_sub [0] rfl (tX6_value_36 E l _ N l0 μ1 t hk h)
    ·
      refine a_iload_n 2 dX6_value_12 rfl rfl ?_
      refine a_aload_n 0 dX6_value_13 rfl rfl ?_
      refine a_getfi (c := 6) (i := 0) dX6_value_14 fRX6_21 g6_0 rfl hk ?_
      refine a_icmp_ge (tgt := 36) dX6_value_17 rfl h (fun h => ?_) (fun h => ?_)
      ·
        exact a_sub [0] rfl (tX6_value_36 E l _ N l0 μ1 t hk h)
      ·
        refine a_aload_n 0 dX6_value_20 rfl rfl ?_
        refine a_getfr (c := 6) (i := 1) dX6_value_21 fRX6_9 g6_1 rfl hk ?_
        refine a_iload_n 1 dX6_value_24 rfl rfl ?_
        refine a_aload_n 0 dX6_value_25 rfl rfl ?_
        refine a_getfi (c := 6) (i := 0) dX6_value_26 fRX6_21 g6_0 rfl hk ?_
        refine a_imul dX6_value_29 ?_
        refine a_iload_n 2 dX6_value_30 rfl rfl ?_
        refine a_iadd dX6_value_31 ?_
        refine a_lald dX6_value_32 h (fun x2 h => ?_)
        refine a_goto (tgt := 37) dX6_value_33 rfl ?_
        exact a_sub [0] rfl (tX6_value_37 E l _ N l0 x2 μ1 t hk h)
-- X6_stretch
abbrev aX6_stretch (E : m_E) (l : Launch) (d : Nat) (z : Nat × Nat) (pc : Nat) (L : List (Nat × AV)) (st : List AV) (μ : Mm) (ρ : Option AV × Mm) : Prop := AA E l d z RX6 "stretch" cX6_stretch 4 none pc L st μ ρ
theorem tX6_stretch_40 (E : m_E) (l : Launch) (z : Nat × Nat) (N : Nat) (l0 : Int) (μ : Mm) (t : Mm) (hk : m_kd μ l0 = (6, 0)) (h : jX6_stretch_40 N l0 μ = some t) : aX6_stretch E l 2 z 40 [(0, vr l0)] [] μ (rV t) := by
  unfold jX6_stretch_40 at h
  exact a_ret0 dX6_stretch_40 h
theorem tX6_stretch (E : m_E) (l : Launch) (N : Nat) (l0 l1 l2 l3 : Int) (μ : Mm) (t : Mm) (hk : m_kd μ l0 = (6, 0)) (h : jX6_stretch N l0 l1 l2 l3 μ = some t) : TT E l 2 yX6_stretch cX6_stretch 4 none [vr l0, vi l1, vi l2, vi l3] μ (rV t) := by
  refine tt_of (L := [(0, vr l0), (1, vi l1), (2, vi l2), (3, vi l3)]) (by decide +kernel) (Nat.le_of_ble_eq_true rfl) rfl ?_
  show aX6_stretch E l 2 (m_sz μ, m_sl μ) 0 [(0, vr l0), (1, vi l1), (2, vi l2), (3, vi l3)] [] μ (rV t)
  unfold jX6_stretch at h
  refine a_aload_n 0 dX6_stretch_0 rfl rfl ?_
  refine a_iload_n 1 dX6_stretch_1 rfl rfl ?_
  refine a_cVi (c := 6) [vi l1] [] dX6_stretch_2 myX6_isRow mRX6_32 mvX6_isRow rfl (by decide) hk (fun _ hj => tX6_isRow E l N l0 l1 μ _ hk hj) (by decide) rfl (Nat.le_of_ble_eq_true rfl) h (fun x1 μ1 hm h => ?_)
  have hk := hm.k hk (by decide)
  refine a_if_eq (tgt := 40) dX6_stretch_5 rfl h (fun h => ?_) (fun h => ?_)
  ·
    exact a_sub [0] rfl (tX6_stretch_40 E l _ N l0 μ1 t hk h)
  ·
    refine a_aload_n 0 dX6_stretch_8 rfl rfl ?_
    refine a_getfr (c := 6) (i := 2) dX6_stretch_9 fRX6_25 g6_2 rfl hk ?_
    refine a_iload_n 1 dX6_stretch_12 rfl rfl ?_
    refine a_aload_n 0 dX6_stretch_13 rfl rfl ?_
    refine a_getfr (c := 6) (i := 2) dX6_stretch_14 fRX6_25 g6_2 rfl hk ?_
    refine a_iload_n 1 dX6_stretch_17 rfl rfl ?_
    refine a_iald dX6_stretch_18 h (fun x2 h => ?_)
    refine a_iload_n 2 dX6_stretch_19 rfl rfl ?_
    refine a_mmin dX6_stretch_20 mRX6_47 (by decide) (Nat.le_of_ble_eq_true rfl) ?_
    refine a_iast dX6_stretch_23 h (fun μ2 hm h => ?_)
    have hk := hm.k hk (by decide)
    refine a_aload_n 0 dX6_stretch_24 rfl rfl ?_
    refine a_getfr (c := 6) (i := 3) dX6_stretch_25 fRX6_29 g6_3 rfl hk ?_
    refine a_iload_n 1 dX6_stretch_28 rfl rfl ?_
    refine a_aload_n 0 dX6_stretch_29 rfl rfl ?_
    refine a_getfr (c := 6) (i := 3) dX6_stretch_30 fRX6_29 g6_3 rfl hk ?_
    refine a_iload_n 1 dX6_stretch_33 rfl rfl ?_
    refine a_iald dX6_stretch_34 h (fun x3 h => ?_)
    refine a_iload_n 3 dX6_stretch_35 rfl rfl ?_
    refine a_mmax dX6_stretch_36 mRX6_15 (by decide) (Nat.le_of_ble_eq_true rfl) ?_
    refine a_iast dX6_stretch_39 h (fun μ3 hm h => ?_)
    have hk := hm.k hk (by decide)
    exact a_sub [0] rfl (tX6_stretch_40 E l _ N l0 μ3 t hk h)
-- X6_set
abbrev aX6_set (E : m_E) (l : Launch) (d : Nat) (z : Nat × Nat) (pc : Nat) (L : List (Nat × AV)) (st : List AV) (μ : Mm) (ρ : Option AV × Mm) : Prop := AA E l d z RX6 "set" cX6_set 5 none pc L st μ ρ
theorem tX6_set_41 (E : m_E) (l : Launch) (z : Nat × Nat) (N : Nat) (l0 : Int) (μ : Mm) (t : Mm) (hk : m_kd μ l0 = (6, 0)) (h : jX6_set_41 N l0 μ = some t) : aX6_set E l 3 z 41 [(0, vr l0)] [] μ (rV t) := by
  unfold jX6_set_41 at h
  exact a_ret0 dX6_set_41 h
theorem tX6_set (E : m_E) (l : Launch) (N : Nat) (l0 l1 l2 l3 : Int) (μ : Mm) (t : Mm) (hk : m_kd μ l0 = (6, 0)) (h : jX6_set N l0 l1 l2 l3 μ = some t) : TT E l 3 yX6_set cX6_set 5 none [vr l0, vi l1, vi l2, vl l3] μ (rV t) := by
  refine tt_of (L := [(0, vr l0), (1, vi l1), (2, vi l2), (3, vl l3)]) (by decide +kernel) (Nat.le_of_ble_eq_true rfl) rfl ?_
  show aX6_set E l 3 (m_sz μ, m_sl μ) 0 [(0, vr l0), (1, vi l1), (2, vi l2), (3, vl l3)] [] μ (rV t)
  unfold jX6_set at h
  refine a_aload_n 0 dX6_set_0 rfl rfl ?_
  refine a_iload_n 1 dX6_set_1 rfl rfl ?_
  refine a_cVi (c := 6) [vi l1] [] dX6_set_2 myX6_isRow mRX6_32 mvX6_isRow rfl (by decide) hk (fun _ hj => tX6_isRow E l N l0 l1 μ _ hk hj) (by decide) rfl (Nat.le_of_ble_eq_true rfl) h (fun x1 μ1 hm h => ?_)
  have hk := hm.k hk (by decide)
  refine a_if_eq (tgt := 41) dX6_set_5 rfl h (fun h => ?_) (fun h => ?_)
  ·
    exact a_sub [0] rfl (tX6_set_41 E l _ N l0 μ1 t hk h)
  ·
    refine a_iload_n 2 dX6_set_8 rfl rfl ?_
    refine a_if_lt (tgt := 41) dX6_set_9 rfl h (fun h => ?_) (fun h => ?_)
    ·
      exact a_sub [0] rfl (tX6_set_41 E l _ N l0 μ1 t hk h)
    ·
      refine a_iload_n 2 dX6_set_12 rfl rfl ?_
      refine a_aload_n 0 dX6_set_13 rfl rfl ?_
      refine a_getfi (c := 6) (i := 0) dX6_set_14 fRX6_21 g6_0 rfl hk ?_
      refine a_icmp_ge (tgt := 41) dX6_set_17 rfl h (fun h => ?_) (fun h => ?_)
      ·
        exact a_sub [0] rfl (tX6_set_41 E l _ N l0 μ1 t hk h)
      ·
        refine a_aload_n 0 dX6_set_20 rfl rfl ?_
        refine a_getfr (c := 6) (i := 1) dX6_set_21 fRX6_9 g6_1 rfl hk ?_
        refine a_iload_n 1 dX6_set_24 rfl rfl ?_
        refine a_aload_n 0 dX6_set_25 rfl rfl ?_
        refine a_getfi (c := 6) (i := 0) dX6_set_26 fRX6_21 g6_0 rfl hk ?_
        refine a_imul dX6_set_29 ?_
        refine a_iload_n 2 dX6_set_30 rfl rfl ?_
        refine a_iadd dX6_set_31 ?_
        refine a_lload_n 3 dX6_set_32 rfl rfl ?_
        refine a_last dX6_set_33 h (fun μ2 hm h => ?_)
        have hk := hm.k hk (by decide)
        refine a_aload_n 0 dX6_set_34 rfl rfl ?_
        refine a_iload_n 1 dX6_set_35 rfl rfl ?_
        refine a_iload_n 2 dX6_set_36 rfl rfl ?_
        refine a_iload_n 2 dX6_set_37 rfl rfl ?_
        refine a_cVv (c := 6) [vi l1, vi l2, vi l2] [] dX6_set_38 myX6_stretch mRX6_43 mvX6_stretch rfl (by decide) hk (fun _ hj => tX6_stretch E l N l0 l1 l2 l2 μ2 _ hk hj) (by decide) rfl (Nat.le_of_ble_eq_true rfl) h (fun μ3 hm h => ?_)
        have hk := hm.k hk (by decide)
        exact a_sub [0] rfl (tX6_set_41 E l _ N l0 μ3 t hk h)
-- X6_canTake
abbrev aX6_canTake (E : m_E) (l : Launch) (d : Nat) (z : Nat × Nat) (pc : Nat) (L : List (Nat × AV)) (st : List AV) (μ : Mm) (ρ : Option AV × Mm) : Prop := AA E l d z RX6 "canTake" cX6_canTake 5 (some .boolean) pc L st μ ρ
theorem tX6_canTake_75 (E : m_E) (l : Launch) (z : Nat × Nat) (N : Nat) (l0 s0 : Int) (μ : Mm) (t : Int × Mm) (hk : m_kd μ l0 = (6, 0)) (h : jX6_canTake_75 N l0 s0 μ = some t) : aX6_canTake E l 2 z 75 [(0, vr l0)] [vi s0] μ (rI t) := by
  unfold jX6_canTake_75 at h
  exact a_retz dX6_canTake_75 h
theorem tX6_canTake_74 (E : m_E) (l : Launch) (z : Nat × Nat) (N : Nat) (l0 : Int) (μ : Mm) (t : Int × Mm) (hk : m_kd μ l0 = (6, 0)) (h : jX6_canTake_74 N l0 μ = some t) : aX6_canTake E l 2 z 74 [(0, vr l0)] [] μ (rI t) := by
  unfold jX6_canTake_74 at h
  refine a_iconst dX6_canTake_74 (okI_b _ rfl) ?_
  exact a_sub [0] rfl (tX6_canTake_75 E l _ N l0 0 μ t hk h)
theorem tX6_canTake (E : m_E) (l : Launch) (N : Nat) (l0 l1 l2 l3 l4 : Int) (μ : Mm) (t : Int × Mm) (hk : m_kd μ l0 = (6, 0)) (h : jX6_canTake N l0 l1 l2 l3 l4 μ = some t) : TT E l 2 yX6_canTake cX6_canTake 5 (some .boolean) [vr l0, vr l1, vi l2, vi l3, vi l4] μ (rI t) := by
  refine tt_of (L := [(0, vr l0), (1, vr l1), (2, vi l2), (3, vi l3), (4, vi l4)]) (by decide +kernel) (Nat.le_of_ble_eq_true rfl) rfl ?_
  show aX6_canTake E l 2 (m_sz μ, m_sl μ) 0 [(0, vr l0), (1, vr l1), (2, vi l2), (3, vi l3), (4, vi l4)] [] μ (rI t)
  unfold jX6_canTake at h
  refine a_aload_n 1 dX6_canTake_0 rfl rfl ?_
  refine a_iload_n 2 dX6_canTake_1 rfl rfl ?_
  refine m_chk_k h (fun hq2 h => ?_)
  refine a_cVi (c := 6) [vi l2] [] dX6_canTake_2 myX6_isRow mRX6_32 mvX6_isRow rfl (by decide) hq2 (fun _ hj => tX6_isRow E l N l1 l2 μ _ hq2 hj) (by decide) rfl (Nat.le_of_ble_eq_true rfl) h (fun x1 μ1 hm h => ?_)
  have hk := hm.k hk (by decide)
  have hq2 := hm.k hq2 (by decide)
  refine a_if_eq (tgt := 74) dX6_canTake_5 rfl h (fun h => ?_) (fun h => ?_)
  ·
    exact a_sub [0] rfl (tX6_canTake_74 E l _ N l0 μ1 t hk h)
  ·
    refine a_aload_n 0 dX6_canTake_8 rfl rfl ?_
    refine a_iload_n 3 dX6_canTake_9 rfl rfl ?_
    refine a_cVi (c := 6) [vi l3] [] dX6_canTake_10 myX6_isRow mRX6_32 mvX6_isRow rfl (by decide) hk (fun _ hj => tX6_isRow E l N l0 l3 μ1 _ hk hj) (by decide) rfl (Nat.le_of_ble_eq_true rfl) h (fun x2 μ2 hm h => ?_)
    have hk := hm.k hk (by decide)
    have hq2 := hm.k hq2 (by decide)
    refine a_if_eq (tgt := 74) dX6_canTake_13 rfl h (fun h => ?_) (fun h => ?_)
    ·
      exact a_sub [0] rfl (tX6_canTake_74 E l _ N l0 μ2 t hk h)
    ·
      refine a_aload_n 1 dX6_canTake_16 rfl rfl ?_
      refine a_getfi (c := 6) (i := 0) dX6_canTake_17 fRX6_21 g6_0 rfl hq2 ?_
      refine a_aload_n 0 dX6_canTake_20 rfl rfl ?_
      refine a_getfi (c := 6) (i := 0) dX6_canTake_21 fRX6_21 g6_0 rfl hk ?_
      refine a_icmp_ne (tgt := 74) dX6_canTake_24 rfl h (fun h => ?_) (fun h => ?_)
      ·
        exact a_sub [0] rfl (tX6_canTake_74 E l _ N l0 μ2 t hk h)
      ·
        refine a_aload_n 1 dX6_canTake_27 rfl rfl ?_
        refine a_getfr (c := 6) (i := 2) dX6_canTake_28 fRX6_25 g6_2 rfl hq2 ?_
        refine a_iload_n 2 dX6_canTake_31 rfl rfl ?_
        refine a_iald dX6_canTake_32 h (fun x3 h => ?_)
        refine a_aload_n 1 dX6_canTake_33 rfl rfl ?_
        refine a_getfr (c := 6) (i := 3) dX6_canTake_34 fRX6_29 g6_3 rfl hq2 ?_
        refine a_iload_n 2 dX6_canTake_37 rfl rfl ?_
        refine a_iald dX6_canTake_38 h (fun x4 h => ?_)
        refine a_icmp_gt (tgt := 74) dX6_canTake_39 rfl h (fun h => ?_) (fun h => ?_)
        ·
          exact a_sub [0] rfl (tX6_canTake_74 E l _ N l0 μ2 t hk h)
        ·
          refine a_aload_n 1 dX6_canTake_42 rfl rfl ?_
          refine a_getfr (c := 6) (i := 2) dX6_canTake_43 fRX6_25 g6_2 rfl hq2 ?_
          refine a_iload_n 2 dX6_canTake_46 rfl rfl ?_
          refine a_iald dX6_canTake_47 h (fun x5 h => ?_)
          refine a_iload 4 dX6_canTake_48 rfl ?_
          refine a_iadd dX6_canTake_50 ?_
          refine a_if_lt (tgt := 74) dX6_canTake_51 rfl h (fun h => ?_) (fun h => ?_)
          ·
            exact a_sub [0] rfl (tX6_canTake_74 E l _ N l0 μ2 t hk h)
          ·
            refine a_aload_n 1 dX6_canTake_54 rfl rfl ?_
            refine a_getfr (c := 6) (i := 3) dX6_canTake_55 fRX6_29 g6_3 rfl hq2 ?_
            refine a_iload_n 2 dX6_canTake_58 rfl rfl ?_
            refine a_iald dX6_canTake_59 h (fun x6 h => ?_)
            refine a_iload 4 dX6_canTake_60 rfl ?_
            refine a_iadd dX6_canTake_62 ?_
            refine a_aload_n 0 dX6_canTake_63 rfl rfl ?_
            refine a_getfi (c := 6) (i := 0) dX6_canTake_64 fRX6_21 g6_0 rfl hk ?_
            refine a_icmp_ge (tgt := 74) dX6_canTake_67 rfl h (fun h => ?_) (fun h => ?_)
            ·
              exact a_sub [0] rfl (tX6_canTake_74 E l _ N l0 μ2 t hk h)
            ·
              refine a_iconst dX6_canTake_70 (okI_b _ rfl) ?_
              refine a_goto (tgt := 75) dX6_canTake_71 rfl ?_
              exact a_sub [0] rfl (tX6_canTake_75 E l _ N l0 1 μ2 t hk h)
