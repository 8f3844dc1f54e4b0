-- X6_addCounts
abbrev aX6_addCounts (E : m_E) (l : Launch) (d : Nat) (z : Nat × Nat) (pc : Nat) (L : List (Nat × AV)) (st : List AV) (μ : Mm) (ρ : Option AV × Mm) : Prop := AA E l d z RX6 "addCounts" cX6_addCounts 15 none pc L st μ ρ
theorem tX6_addCounts_93 (E : m_E) (l : Launch) (z : Nat × Nat) (k47 : Int → Int → Int → Int → Int → Int → Int → Int → Int → Mm → Option (Mm)) (p47 : ∀ (l0 l1 l2 l3 l4 l5 l7 l9 l10 : Int) (μ : Mm) (t : Mm), m_kd μ l0 = (6, 0) → k47 l0 l1 l2 l3 l4 l5 l7 l9 l10 μ = some t → aX6_addCounts E l 3 z 47 [(0, vr l0), (1, vr l1), (2, vi l2), (3, vi l3), (4, vi l4), (5, vl l5), (7, vl l7), (9, vi l9), (10, vi l10)] [] μ (rV t)) (N : Nat) (l0 l1 l2 l3 l4 l5 l7 l9 l10 s0 : Int) (μ : Mm) (t : Mm) (hk : m_kd μ l0 = (6, 0)) (h : jX6_addCounts_93 k47 N l0 l1 l2 l3 l4 l5 l7 l9 l10 s0 μ = some t) : aX6_addCounts E l 3 z 93 [(0, vr l0), (1, vr l1), (2, vi l2), (3, vi l3), (4, vi l4), (5, vl l5), (7, vl l7), (9, vi l9), (10, vi l10)] [vl s0] μ (rV t) := by
  unfold jX6_addCounts_93 at h
  refine a_lstore (L' := [(13, vl s0), (0, vr l0), (1, vr l1), (2, vi l2), (3, vi l3), (4, vi l4), (5, vl l5), (7, vl l7), (9, vi l9), (10, vi l10)]) dX6_addCounts_93 (by decide) rfl ?_
  refine a_aload_n 1 dX6_addCounts_95 rfl rfl ?_
  refine a_getfr (c := 6) (i := 1) dX6_addCounts_96 fRX6_9 g6_1 rfl hk ?_
  refine a_iload 8 dX6_addCounts_99 rfl ?_
  refine a_iload 9 dX6_addCounts_101 rfl ?_
  refine a_iadd dX6_addCounts_103 ?_
  refine a_ldc2 (x := 1000000000000000000) dX6_addCounts_104 kRX6_54 ⟨rfl, okJ_b _ rfl⟩ ?_
  refine a_aload_n 1 dX6_addCounts_107 rfl rfl ?_
  refine a_getfr (c := 6) (i := 1) dX6_addCounts_108 fRX6_9 g6_1 rfl hk ?_
  refine a_iload 8 dX6_addCounts_111 rfl ?_
  refine a_iload 9 dX6_addCounts_113 rfl ?_
  refine a_iadd dX6_addCounts_115 ?_
  refine a_lald dX6_addCounts_116 h (fun x1 h => ?_)
  refine a_lload 0 dX6_addCounts_117 rfl ?_
  refine a_ladd dX6_addCounts_119 ?_
  refine a_mminl dX6_addCounts_120 mRX6_56 (by decide) (Nat.le_of_ble_eq_true rfl) ?_
  refine a_last dX6_addCounts_123 h (fun μ1 hm h => ?_)
  have hk := hm.k hk (by decide)
  refine a_iinc (F := fun x2 => [(10, vi x2), (13, vl s0), (0, vr l0), (1, vr l1), (2, vi l2), (3, vi l3), (4, vi l4), (5, vl l5), (7, vl l7), (9, vi l9)]) 9 dX6_addCounts_124 rfl (by decide) h (fun _ => rfl) (fun x2 h => ?_)
  refine a_goto (tgt := 47) dX6_addCounts_127 rfl ?_
  exact a_sub [2, 3, 4, 5, 6, 7, 8, 9, 0] rfl (p47 l0 l1 l2 l3 l4 l5 l7 l9 x2 μ1 t hk h)
theorem tX6_addCounts_47b (E : m_E) (l : Launch) (z : Nat × Nat) (k47 : Int → Int → Int → Int → Int → Int → Int → Int → Int → Mm → Option (Mm)) (p47 : ∀ (l0 l1 l2 l3 l4 l5 l7 l9 l10 : Int) (μ : Mm) (t : Mm), m_kd μ l0 = (6, 0) → k47 l0 l1 l2 l3 l4 l5 l7 l9 l10 μ = some t → aX6_addCounts E l 3 z 47 [(0, vr l0), (1, vr l1), (2, vi l2), (3, vi l3), (4, vi l4), (5, vl l5), (7, vl l7), (9, vi l9), (10, vi l10)] [] μ (rV t)) (N : Nat) (l0 l1 l2 l3 l4 l5 l7 l9 l10 : Int) (μ : Mm) (t : Mm) (hk : m_kd μ l0 = (6, 0)) (h : jX6_addCounts_47b k47 N l0 l1 l2 l3 l4 l5 l7 l9 l10 μ = some t) : aX6_addCounts E l 3 z 47 [(0, vr l0), (1, vr l1), (2, vi l2), (3, vi l3), (4, vi l4), (5, vl l5), (7, vl l7), (9, vi l9), (10, vi l10)] [] μ (rV t) := by
  unfold jX6_addCounts_47b at h
  refine a_iload 8 dX6_addCounts_47 rfl ?_
  refine a_aload_n 1 dX6_addCounts_49 rfl rfl ?_
  refine m_chk_k h (fun hq2 h => ?_)
  refine a_getfr (c := 6) (i := 3) dX6_addCounts_50 fRX6_29 g6_3 rfl hq2 ?_
  refine a_iload_n 2 dX6_addCounts_53 rfl rfl ?_
  refine a_iald dX6_addCounts_54 h (fun x1 h => ?_)
  refine a_icmp_gt (tgt := 130) dX6_addCounts_55 rfl h (fun h => ?_) (fun h => ?_)
  ·
    refine a_aload_n 0 dX6_addCounts_130 rfl rfl ?_
    refine a_iload_n 3 dX6_addCounts_131 rfl rfl ?_
    refine a_aload_n 1 dX6_addCounts_132 rfl rfl ?_
    refine a_getfr (c := 6) (i := 2) dX6_addCounts_133 fRX6_25 g6_2 rfl hq2 ?_
    refine a_iload_n 2 dX6_addCounts_136 rfl rfl ?_
    refine a_iald dX6_addCounts_137 h (fun x2 h => ?_)
    refine a_iload 4 dX6_addCounts_138 rfl ?_
    refine a_iadd dX6_addCounts_140 ?_
    refine a_aload_n 1 dX6_addCounts_141 rfl rfl ?_
    refine a_getfr (c := 6) (i := 3) dX6_addCounts_142 fRX6_29 g6_3 rfl hq2 ?_
    refine a_iload_n 2 dX6_addCounts_145 rfl rfl ?_
    refine a_iald dX6_addCounts_146 h (fun x3 h => ?_)
    refine a_iload 4 dX6_addCounts_147 rfl ?_
    refine a_iadd dX6_addCounts_149 ?_
    refine a_cVv (c := 6) [vi l3, vi (i_add x2 l4), vi (i_add x3 l4)] [] dX6_addCounts_150 myX6_stretch mRX6_43 mvX6_stretch rfl (by decide) hk (fun _ hj => tX6_stretch E l N l0 l3 (i_add x2 l4) (i_add x3 l4) μ _ hk hj) (by decide) rfl (Nat.le_of_ble_eq_true rfl) h (fun μ1 hm h => ?_)
    have hk := hm.k hk (by decide)
    have hq2 := hm.k hq2 (by decide)
    exact a_ret0 dX6_addCounts_153 h
  ·
    refine a_aload_n 1 dX6_addCounts_58 rfl rfl ?_
    refine a_getfr (c := 6) (i := 1) dX6_addCounts_59 fRX6_9 g6_1 rfl hq2 ?_
    refine a_iload_n 2 dX6_addCounts_62 rfl rfl ?_
    refine a_aload_n 0 dX6_addCounts_63 rfl rfl ?_
    refine a_getfi (c := 6) (i := 0) dX6_addCounts_64 fRX6_21 g6_0 rfl hk ?_
    refine a_imul dX6_addCounts_67 ?_
    refine a_iload 8 dX6_addCounts_68 rfl ?_
    refine a_iadd dX6_addCounts_70 ?_
    refine a_lald dX6_addCounts_71 h (fun x4 h => ?_)
    refine a_lstore (L' := [(11, vl x4), (0, vr l0), (1, vr l1), (2, vi l2), (3, vi l3), (4, vi l4), (5, vl l5), (7, vl l7), (9, vi l9), (10, vi l10)]) dX6_addCounts_72 (by decide) rfl ?_
    refine a_lload 0 dX6_addCounts_74 rfl ?_
    refine a_lload 7 dX6_addCounts_76 rfl ?_
    refine a_lcmp dX6_addCounts_78 ?_
    refine a_if_le (tgt := 88) dX6_addCounts_79 rfl h (fun h => ?_) (fun h => ?_)
    ·
      refine a_lload 0 dX6_addCounts_88 rfl ?_
      refine a_lload 6 dX6_addCounts_90 rfl ?_
      refine a_lmul dX6_addCounts_92 ?_
      exact a_sub [1, 2, 3, 4, 5, 6, 7, 8, 9] rfl (tX6_addCounts_93 E l _ k47 p47 N l0 l1 l2 l3 l4 l5 l7 l9 l10 (l_mul x4 l5) μ t hk h)
    ·
      refine a_ldc2 (x := 1000000000000000000) dX6_addCounts_82 kRX6_54 ⟨rfl, okJ_b _ rfl⟩ ?_
      refine a_goto (tgt := 93) dX6_addCounts_85 rfl ?_
      exact a_sub [1, 2, 3, 4, 5, 6, 7, 8, 9] rfl (tX6_addCounts_93 E l _ k47 p47 N l0 l1 l2 l3 l4 l5 l7 l9 l10 1000000000000000000 μ t hk h)
theorem tX6_addCounts_47 (E : m_E) (l : Launch) (z : Nat × Nat) (N : Nat) : ∀ (n : Nat) (l0 l1 l2 l3 l4 l5 l7 l9 l10 : Int) (μ : Mm) (t : Mm), m_kd μ l0 = (6, 0) → jX6_addCounts_47 N n l0 l1 l2 l3 l4 l5 l7 l9 l10 μ = some t → aX6_addCounts E l 3 z 47 [(0, vr l0), (1, vr l1), (2, vi l2), (3, vi l3), (4, vi l4), (5, vl l5), (7, vl l7), (9, vi l9), (10, vi l10)] [] μ (rV t)
  | 0, _, _, _, _, _, _, _, _, _, _, _, _, h => by cases h
  | n + 1, l0, l1, l2, l3, l4, l5, l7, l9, l10, μ, t, hk, h => tX6_addCounts_47b E l z (jX6_addCounts_47 N n) (tX6_addCounts_47 E l z N n) N l0 l1 l2 l3 l4 l5 l7 l9 l10 μ t hk h
theorem tX6_addCounts_19 (E : m_E) (l : Launch) (z : Nat × Nat) (N : Nat) (l0 : Int) (μ : Mm) (t : Mm) (hk : m_kd μ l0 = (6, 0)) (h : jX6_addCounts_19 N l0 μ = some t) : aX6_addCounts E l 3 z 19 [(0, vr l0)] [] μ (rV t) := by
  unfold jX6_addCounts_19 at h
  exact a_ret0 dX6_addCounts_19 h
theorem tX6_addCounts (E : m_E) (l : Launch) (N : Nat) (l0 l1 l2 l3 l4 l5 : Int) (μ : Mm) (t : Mm) (hk : m_kd μ l0 = (6, 0)) (h : jX6_addCounts N l0 l1 l2 l3 l4 l5 μ = some t) : TT E l 3 yX6_addCounts cX6_addCounts 15 none [vr l0, vr l1, vi l2, vi l3, vi l4, vl l5] μ (rV t) := by
  refine tt_of (L := [(0, vr l0), (1, vr l1), (2, vi l2), (3, vi l3), (4, vi l4), (5, vl l5)]) (by decide +kernel) (Nat.le_of_ble_eq_true rfl) rfl ?_
  show aX6_addCounts E l 3 (m_sz μ, m_sl μ) 0 [(0, vr l0), (1, vr l1), (2, vi l2), (3, vi l3), (4, vi l4), (5, vl l5)] [] μ (rV t)
  unfold jX6_addCounts at h
  refine a_lload 5 dX6_addCounts_0 rfl ?_
  refine a_lconst (v := 0) dX6_addCounts_2 ⟨rfl, okJ_b _ rfl⟩ ?_
  refine a_lcmp dX6_addCounts_3 ?_
  refine a_if_le (tgt := 19) dX6_addCounts_4 rfl h (fun h => ?_) (fun h => ?_)
  ·
    exact a_sub [0] rfl (tX6_addCounts_19 E l _ N l0 μ t hk h)
  ·
    refine a_aload_n 0 dX6_addCounts_7 rfl rfl ?_
    refine a_aload_n 1 dX6_addCounts_8 rfl rfl ?_
    refine a_iload_n 2 dX6_addCounts_9 rfl rfl ?_
    refine a_iload_n 3 dX6_addCounts_10 rfl rfl ?_
    refine a_iload 4 dX6_addCounts_11 rfl ?_
    refine a_cVi (c := 6) [vr l1, vi l2, vi l3, vi l4] [] dX6_addCounts_13 myX6_canTake mRX6_50 mvX6_canTake rfl (by decide) hk (fun _ hj => tX6_canTake E l N l0 l1 l2 l3 l4 μ _ hk hj) (by decide) rfl (Nat.le_of_ble_eq_true rfl) h (fun x1 μ1 hm h => ?_)
    have hk := hm.k hk (by decide)
    refine a_if_ne (tgt := 20) dX6_addCounts_16 rfl h (fun h => ?_) (fun h => ?_)
    ·
      refine a_ldc2 (x := 1000000000000000000) dX6_addCounts_20 kRX6_54 ⟨rfl, okJ_b _ rfl⟩ ?_
      refine a_lload 5 dX6_addCounts_23 rfl ?_
      refine a_ldiv dX6_addCounts_25 h (fun h => ?_)
      refine a_nml h (fun x2 h => ?_)
      refine a_lstore (L' := [(7, vl x2), (0, vr l0), (1, vr l1), (2, vi l2), (3, vi l3), (4, vi l4), (5, vl l5)]) dX6_addCounts_26 (by decide) rfl ?_
      refine a_iload_n 4 dX6_addCounts_28 rfl rfl ?_
      refine a_aload_n 1 dX6_addCounts_29 rfl rfl ?_
      refine a_getfi (c := 6) (i := 0) dX6_addCounts_30 fRX6_21 g6_0 rfl hk ?_
      refine a_imul dX6_addCounts_33 ?_
      refine a_iload 5 dX6_addCounts_34 rfl ?_
      refine a_iadd dX6_addCounts_36 ?_
      refine a_nmi h (fun x3 h => ?_)
      refine a_istore (L' := [(9, vi x3), (7, vl x2), (0, vr l0), (1, vr l1), (2, vi l2), (3, vi l3), (4, vi l4), (5, vl l5)]) dX6_addCounts_37 (by decide) rfl ?_
      refine a_aload_n 3 dX6_addCounts_39 rfl rfl ?_
      refine m_chk_k h (fun hq30 h => ?_)
      refine a_getfr (c := 6) (i := 2) dX6_addCounts_40 fRX6_25 g6_2 rfl hq30 ?_
      refine a_iload_n 4 dX6_addCounts_43 rfl rfl ?_
      refine a_iald dX6_addCounts_44 h (fun x4 h => ?_)
      refine a_istore (L' := [(10, vi x4), (9, vi x3), (7, vl x2), (0, vr l0), (1, vr l1), (2, vi l2), (3, vi l3), (4, vi l4), (5, vl l5)]) dX6_addCounts_45 (by decide) rfl ?_
      exact a_sub [3, 4, 5, 6, 7, 8, 2, 1, 0] rfl (tX6_addCounts_47 E l _ N N l0 l1 l2 l3 l4 l5 x2 x3 x4 μ1 t hk h)
    ·
      exact a_sub [0] rfl (tX6_addCounts_19 E l _ N l0 μ1 t hk h)
-- X6_addMarks
abbrev aX6_addMarks (E : m_E) (l : Launch) (d : Nat) (z : Nat × Nat) (pc : Nat) (L : List (Nat × AV)) (st : List AV) (μ : Mm) (ρ : Option AV × Mm) : Prop := AA E l d z RX6 "addMarks" cX6_addMarks 11 none pc L st μ ρ
theorem tX6_addMarks_93 (E : m_E) (l : Launch) (z : Nat × Nat) (k32 : Int → Int → Int → Int → Int → Int → Int → Int → Mm → Option (Mm)) (p32 : ∀ (l0 l1 l2 l3 l4 l5 l7 l8 : Int) (μ : Mm) (t : Mm), m_kd μ l0 = (6, 0) → k32 l0 l1 l2 l3 l4 l5 l7 l8 μ = some t → aX6_addMarks E l 3 z 32 [(0, vr l0), (1, vr l1), (2, vi l2), (3, vi l3), (4, vi l4), (5, vl l5), (7, vi l7), (8, vi l8)] [] μ (rV t)) (N : Nat) (l0 l1 l2 l3 l4 l5 l7 l8 : Int) (μ : Mm) (t : Mm) (hk : m_kd μ l0 = (6, 0)) (h : jX6_addMarks_93 k32 N l0 l1 l2 l3 l4 l5 l7 l8 μ = some t) : aX6_addMarks E l 3 z 93 [(0, vr l0), (1, vr l1), (2, vi l2), (3, vi l3), (4, vi l4), (5, vl l5), (7, vi l7), (8, vi l8)] [] μ (rV t) := by
  unfold jX6_addMarks_93 at h
  refine a_iinc (F := fun x1 => [(8, vi x1), (0, vr l0), (1, vr l1), (2, vi l2), (3, vi l3), (4, vi l4), (5, vl l5), (7, vi l7)]) 7 dX6_addMarks_93 rfl (by decide) h (fun _ => rfl) (fun x1 h => ?_)
  refine a_goto (tgt := 32) dX6_addMarks_96 rfl ?_
  exact a_sub [1, 2, 3, 4, 5, 6, 7, 0] rfl (p32 l0 l1 l2 l3 l4 l5 l7 x1 μ t hk h)
theorem tX6_addMarks_91 (E : m_E) (l : Launch) (z : Nat × Nat) (k32 : Int → Int → Int → Int → Int → Int → Int → Int → Mm → Option (Mm)) (p32 : ∀ (l0 l1 l2 l3 l4 l5 l7 l8 : Int) (μ : Mm) (t : Mm), m_kd μ l0 = (6, 0) → k32 l0 l1 l2 l3 l4 l5 l7 l8 μ = some t → aX6_addMarks E l 3 z 32 [(0, vr l0), (1, vr l1), (2, vi l2), (3, vi l3), (4, vi l4), (5, vl l5), (7, vi l7), (8, vi l8)] [] μ (rV t)) (N : Nat) (l0 l1 l2 l3 l4 l5 l7 l8 s0 s1 s2 s3 : Int) (μ : Mm) (t : Mm) (hk : m_kd μ l0 = (6, 0)) (h : jX6_addMarks_91 k32 N l0 l1 l2 l3 l4 l5 l7 l8 s0 s1 s2 s3 μ = some t) : aX6_addMarks E l 3 z 91 [(0, vr l0), (1, vr l1), (2, vi l2), (3, vi l3), (4, vi l4), (5, vl l5), (7, vi l7), (8, vi l8)] [vl s0, vl s1, vi s2, vr s3] μ (rV t) := by
  unfold jX6_addMarks_91 at h
  refine a_lor dX6_addMarks_91 ?_
  refine a_last dX6_addMarks_92 h (fun μ1 hm h => ?_)
  have hk := hm.k hk (by decide)
  exact a_sub [0, 1, 2, 3, 4, 5, 6, 7] rfl (tX6_addMarks_93 E l _ k32 p32 N l0 l1 l2 l3 l4 l5 l7 l8 μ1 t hk h)
theorem tX6_addMarks_32b (E : m_E) (l : Launch) (z : Nat × Nat) (k32 : Int → Int → Int → Int → Int → Int → Int → Int → Mm → Option (Mm)) (p32 : ∀ (l0 l1 l2 l3 l4 l5 l7 l8 : Int) (μ : Mm) (t : Mm), m_kd μ l0 = (6, 0) → k32 l0 l1 l2 l3 l4 l5 l7 l8 μ = some t → aX6_addMarks E l 3 z 32 [(0, vr l0), (1, vr l1), (2, vi l2), (3, vi l3), (4, vi l4), (5, vl l5), (7, vi l7), (8, vi l8)] [] μ (rV t)) (N : Nat) (l0 l1 l2 l3 l4 l5 l7 l8 : Int) (μ : Mm) (t : Mm) (hk : m_kd μ l0 = (6, 0)) (h : jX6_addMarks_32b k32 N l0 l1 l2 l3 l4 l5 l7 l8 μ = some t) : aX6_addMarks E l 3 z 32 [(0, vr l0), (1, vr l1), (2, vi l2), (3, vi l3), (4, vi l4), (5, vl l5), (7, vi l7), (8, vi l8)] [] μ (rV t) := by
  unfold jX6_addMarks_32b at h
  refine a_iload 7 dX6_addMarks_32 rfl ?_
  refine a_aload_n 1 dX6_addMarks_34 rfl rfl ?_
  refine m_chk_k h (fun hq2 h => ?_)
  refine a_getfr (c := 6) (i := 3) dX6_addMarks_35 fRX6_29 g6_3 rfl hq2 ?_
  refine a_iload_n 2 dX6_addMarks_38 rfl rfl ?_
  refine a_iald dX6_addMarks_39 h (fun x1 h => ?_)
  refine a_icmp_gt (tgt := 99) dX6_addMarks_40 rfl h (fun h => ?_) (fun h => ?_)
  ·
    refine a_aload_n 0 dX6_addMarks_99 rfl rfl ?_
    refine a_iload_n 3 dX6_addMarks_100 rfl rfl ?_
    refine a_aload_n 1 dX6_addMarks_101 rfl rfl ?_
    refine a_getfr (c := 6) (i := 2) dX6_addMarks_102 fRX6_25 g6_2 rfl hq2 ?_
    refine a_iload_n 2 dX6_addMarks_105 rfl rfl ?_
    refine a_iald dX6_addMarks_106 h (fun x2 h => ?_)
    refine a_iload 4 dX6_addMarks_107 rfl ?_
    refine a_iadd dX6_addMarks_109 ?_
    refine a_aload_n 1 dX6_addMarks_110 rfl rfl ?_
    refine a_getfr (c := 6) (i := 3) dX6_addMarks_111 fRX6_29 g6_3 rfl hq2 ?_
    refine a_iload_n 2 dX6_addMarks_114 rfl rfl ?_
    refine a_iald dX6_addMarks_115 h (fun x3 h => ?_)
    refine a_iload 4 dX6_addMarks_116 rfl ?_
    refine a_iadd dX6_addMarks_118 ?_
    refine a_cVv (c := 6) [vi l3, vi (i_add x2 l4), vi (i_add x3 l4)] [] dX6_addMarks_119 myX6_stretch mRX6_43 mvX6_stretch rfl (by decide) hk (fun _ hj => tX6_stretch E l N l0 l3 (i_add x2 l4) (i_add x3 l4) μ _ hk hj) (by decide) rfl (Nat.le_of_ble_eq_true rfl) h (fun μ1 hm h => ?_)
    have hk := hm.k hk (by decide)
    have hq2 := hm.k hq2 (by decide)
    exact a_ret0 dX6_addMarks_122 h
  ·
    refine a_aload_n 1 dX6_addMarks_43 rfl rfl ?_
    refine a_getfr (c := 6) (i := 1) dX6_addMarks_44 fRX6_9 g6_1 rfl hq2 ?_
    refine a_iload_n 2 dX6_addMarks_47 rfl rfl ?_
    refine a_aload_n 0 dX6_addMarks_48 rfl rfl ?_
    refine a_getfi (c := 6) (i := 0) dX6_addMarks_49 fRX6_21 g6_0 rfl hk ?_
    refine a_imul dX6_addMarks_52 ?_
    refine a_iload 7 dX6_addMarks_53 rfl ?_
    refine a_iadd dX6_addMarks_55 ?_
    refine a_lald dX6_addMarks_56 h (fun x4 h => ?_)
    refine a_lstore (L' := [(9, vl x4), (0, vr l0), (1, vr l1), (2, vi l2), (3, vi l3), (4, vi l4), (5, vl l5), (7, vi l7), (8, vi l8)]) dX6_addMarks_57 (by decide) rfl ?_
    refine a_lload 0 dX6_addMarks_59 rfl ?_
    refine a_lconst (v := 0) dX6_addMarks_61 ⟨rfl, okJ_b _ rfl⟩ ?_
    refine a_lcmp dX6_addMarks_62 ?_
    refine a_if_eq (tgt := 93) dX6_addMarks_63 rfl h (fun h => ?_) (fun h => ?_)
    ·
      exact a_sub [1, 2, 3, 4, 5, 6, 7, 8] rfl (tX6_addMarks_93 E l _ k32 p32 N l0 l1 l2 l3 l4 l5 l7 l8 μ t hk h)
    ·
      refine a_aload_n 1 dX6_addMarks_66 rfl rfl ?_
      refine a_getfr (c := 6) (i := 1) dX6_addMarks_67 fRX6_9 g6_1 rfl hk ?_
      refine a_iload 7 dX6_addMarks_70 rfl ?_
      refine a_iload 8 dX6_addMarks_72 rfl ?_
      refine a_iadd dX6_addMarks_74 ?_
      refine a_dup2 dX6_addMarks_75 rfl rfl ?_
      refine a_lald dX6_addMarks_76 h (fun x5 h => ?_)
      refine a_lload 6 dX6_addMarks_77 rfl ?_
      refine a_lconst (v := 0) dX6_addMarks_79 ⟨rfl, okJ_b _ rfl⟩ ?_
      refine a_lcmp dX6_addMarks_80 ?_
      refine a_if_ne (tgt := 89) dX6_addMarks_81 rfl h (fun h => ?_) (fun h => ?_)
      ·
        refine a_lload 6 dX6_addMarks_89 rfl ?_
        exact a_sub [1, 2, 3, 4, 5, 6, 7, 8] rfl (tX6_addMarks_91 E l _ k32 p32 N l0 l1 l2 l3 l4 l5 l7 l8 l5 x5 (i_add l7 l8) (m_gt μ l0 1) μ t hk h)
      ·
        refine a_lload 0 dX6_addMarks_84 rfl ?_
        refine a_goto (tgt := 91) dX6_addMarks_86 rfl ?_
        exact a_sub [1, 2, 3, 4, 5, 6, 7, 8] rfl (tX6_addMarks_91 E l _ k32 p32 N l0 l1 l2 l3 l4 l5 l7 l8 x4 x5 (i_add l7 l8) (m_gt μ l0 1) μ t hk h)
theorem tX6_addMarks_32 (E : m_E) (l : Launch) (z : Nat × Nat) (N : Nat) : ∀ (n : Nat) (l0 l1 l2 l3 l4 l5 l7 l8 : Int) (μ : Mm) (t : Mm), m_kd μ l0 = (6, 0) → jX6_addMarks_32 N n l0 l1 l2 l3 l4 l5 l7 l8 μ = some t → aX6_addMarks E l 3 z 32 [(0, vr l0), (1, vr l1), (2, vi l2), (3, vi l3), (4, vi l4), (5, vl l5), (7, vi l7), (8, vi l8)] [] μ (rV t)
  | 0, _, _, _, _, _, _, _, _, _, _, _, h => by cases h
  | n + 1, l0, l1, l2, l3, l4, l5, l7, l8, μ, t, hk, h => tX6_addMarks_32b E l z (jX6_addMarks_32 N n) (tX6_addMarks_32 E l z N n) N l0 l1 l2 l3 l4 l5 l7 l8 μ t hk h
theorem tX6_addMarks (E : m_E) (l : Launch) (N : Nat) (l0 l1 l2 l3 l4 l5 : Int) (μ : Mm) (t : Mm) (hk : m_kd μ l0 = (6, 0)) (h : jX6_addMarks N l0 l1 l2 l3 l4 l5 μ = some t) : TT E l 3 yX6_addMarks cX6_addMarks 11 none [vr l0, vr l1, vi l2, vi l3, vi l4, vl l5] μ (rV t) := by
  refine tt_of (L := [(0, vr l0), (1, vr l1), (2, vi l2), (3, vi l3), (4, vi l4), (5, vl l5)]) (by decide +kernel) (Nat.le_of_ble_eq_true rfl) rfl ?_
  show aX6_addMarks E l 3 (m_sz μ, m_sl μ) 0 [(0, vr l0), (1, vr l1), (2, vi l2), (3, vi l3), (4, vi l4), (5, vl l5)] [] μ (rV t)
  unfold jX6_addMarks at h
  refine a_aload_n 0 dX6_addMarks_0 rfl rfl ?_
  refine a_aload_n 1 dX6_addMarks_1 rfl rfl ?_
  refine a_iload_n 2 dX6_addMarks_2 rfl rfl ?_
  refine a_iload_n 3 dX6_addMarks_3 rfl rfl ?_
  refine a_iload 4 dX6_addMarks_4 rfl ?_
  refine a_cVi (c := 6) [vr l1, vi l2, vi l3, vi l4] [] dX6_addMarks_6 myX6_canTake mRX6_50 mvX6_canTake rfl (by decide) hk (fun _ hj => tX6_canTake E l N l0 l1 l2 l3 l4 μ _ hk hj) (by decide) rfl (Nat.le_of_ble_eq_true rfl) h (fun x1 μ1 hm h => ?_)
  have hk := hm.k hk (by decide)
  refine a_if_ne (tgt := 13) dX6_addMarks_9 rfl h (fun h => ?_) (fun h => ?_)
  ·
    refine a_iload_n 3 dX6_addMarks_13 rfl rfl ?_
    refine a_aload_n 0 dX6_addMarks_14 rfl rfl ?_
    refine a_getfi (c := 6) (i := 0) dX6_addMarks_15 fRX6_21 g6_0 rfl hk ?_
    refine a_imul dX6_addMarks_18 ?_
    refine a_iload 4 dX6_addMarks_19 rfl ?_
    refine a_iadd dX6_addMarks_21 ?_
    refine a_nmi h (fun x2 h => ?_)
    refine a_istore (L' := [(7, vi x2), (0, vr l0), (1, vr l1), (2, vi l2), (3, vi l3), (4, vi l4), (5, vl l5)]) dX6_addMarks_22 (by decide) rfl ?_
    refine a_aload_n 2 dX6_addMarks_24 rfl rfl ?_
    refine m_chk_k h (fun hq18 h => ?_)
    refine a_getfr (c := 6) (i := 2) dX6_addMarks_25 fRX6_25 g6_2 rfl hq18 ?_
    refine a_iload_n 3 dX6_addMarks_28 rfl rfl ?_
    refine a_iald dX6_addMarks_29 h (fun x3 h => ?_)
    refine a_istore (L' := [(8, vi x3), (7, vi x2), (0, vr l0), (1, vr l1), (2, vi l2), (3, vi l3), (4, vi l4), (5, vl l5)]) dX6_addMarks_30 (by decide) rfl ?_
    exact a_sub [2, 3, 4, 5, 6, 7, 1, 0] rfl (tX6_addMarks_32 E l _ N N l0 l1 l2 l3 l4 l5 x2 x3 μ1 t hk h)
  ·
    exact a_ret0 dX6_addMarks_12 h
-- X6_wipe
abbrev aX6_wipe (E : m_E) (l : Launch) (d : Nat) (z : Nat × Nat) (pc : Nat) (L : List (Nat × AV)) (st : List AV) (μ : Mm) (ρ : Option AV × Mm) : Prop := AA E l d z RX6 "wipe" cX6_wipe 4 none pc L st μ ρ
theorem tX6_wipe_37b (E : m_E) (l : Launch) (z : Nat × Nat) (k2 : Int → Int → Mm → Option (Mm)) (p2 : ∀ (l0 l1 : Int) (μ : Mm) (t : Mm), m_kd μ l0 = (6, 0) → k2 l0 l1 μ = some t → aX6_wipe E l 3 z 2 [(0, vr l0), (1, vi l1)] [] μ (rV t)) (k37 : Int → Int → Int → Int → Mm → Option (Mm)) (p37 : ∀ (l0 l1 l2 l3 : Int) (μ : Mm) (t : Mm), m_kd μ l0 = (6, 0) → k37 l0 l1 l2 l3 μ = some t → aX6_wipe E l 3 z 37 [(0, vr l0), (1, vi l1), (2, vi l2), (3, vi l3)] [] μ (rV t)) (N : Nat) (l0 l1 l2 l3 : Int) (μ : Mm) (t : Mm) (hk : m_kd μ l0 = (6, 0)) (h : jX6_wipe_37b k2 k37 N l0 l1 l2 l3 μ = some t) : aX6_wipe E l 3 z 37 [(0, vr l0), (1, vi l1), (2, vi l2), (3, vi l3)] [] μ (rV t) := by
  unfold jX6_wipe_37b at h
  refine a_iload_n 3 dX6_wipe_37 rfl rfl ?_
  refine a_iload_n 2 dX6_wipe_38 rfl rfl ?_
  refine a_icmp_gt (tgt := 62) dX6_wipe_39 rfl h (fun h => ?_) (fun h => ?_)
  ·
    refine a_aload_n 0 dX6_wipe_62 rfl rfl ?_
    refine a_getfr (c := 6) (i := 2) dX6_wipe_63 fRX6_25 g6_2 rfl hk ?_
    refine a_iload_n 1 dX6_wipe_66 rfl rfl ?_
    refine a_aload_n 0 dX6_wipe_67 rfl rfl ?_
    refine a_getfi (c := 6) (i := 0) dX6_wipe_68 fRX6_21 g6_0 rfl hk ?_
    refine a_iast dX6_wipe_71 h (fun μ1 hm h => ?_)
    have hk := hm.k hk (by decide)
    refine a_aload_n 0 dX6_wipe_72 rfl rfl ?_
    refine a_getfr (c := 6) (i := 3) dX6_wipe_73 fRX6_29 g6_3 rfl hk ?_
    refine a_iload_n 1 dX6_wipe_76 rfl rfl ?_
    refine a_iconst dX6_wipe_77 (okI_b _ rfl) ?_
    refine a_iast dX6_wipe_78 h (fun μ2 hm h => ?_)
    have hk := hm.k hk (by decide)
    refine a_iinc (F := fun x1 => [(1, vi x1), (0, vr l0), (2, vi l2), (3, vi l3)]) 1 dX6_wipe_79 rfl (by decide) h (fun _ => rfl) (fun x1 h => ?_)
    refine a_goto (tgt := 2) dX6_wipe_82 rfl ?_
    exact a_sub [1, 0] rfl (p2 l0 x1 μ2 t hk h)
  ·
    refine a_aload_n 0 dX6_wipe_42 rfl rfl ?_
    refine a_getfr (c := 6) (i := 1) dX6_wipe_43 fRX6_9 g6_1 rfl hk ?_
    refine a_iload_n 1 dX6_wipe_46 rfl rfl ?_
    refine a_aload_n 0 dX6_wipe_47 rfl rfl ?_
    refine a_getfi (c := 6) (i := 0) dX6_wipe_48 fRX6_21 g6_0 rfl hk ?_
    refine a_imul dX6_wipe_51 ?_
    refine a_iload_n 3 dX6_wipe_52 rfl rfl ?_
    refine a_iadd dX6_wipe_53 ?_
    refine a_lconst (v := 0) dX6_wipe_54 ⟨rfl, okJ_b _ rfl⟩ ?_
    refine a_last dX6_wipe_55 h (fun μ3 hm h => ?_)
    have hk := hm.k hk (by decide)
    refine a_iinc (F := fun x2 => [(3, vi x2), (0, vr l0), (1, vi l1), (2, vi l2)]) 3 dX6_wipe_56 rfl (by decide) h (fun _ => rfl) (fun x2 h => ?_)
    refine a_goto (tgt := 37) dX6_wipe_59 rfl ?_
    exact a_sub [1, 2, 3, 0] rfl (p37 l0 l1 l2 x2 μ3 t hk h)
theorem tX6_wipe_37 (E : m_E) (l : Launch) (z : Nat × Nat) (k2 : Int → Int → Mm → Option (Mm)) (p2 : ∀ (l0 l1 : Int) (μ : Mm) (t : Mm), m_kd μ l0 = (6, 0) → k2 l0 l1 μ = some t → aX6_wipe E l 3 z 2 [(0, vr l0), (1, vi l1)] [] μ (rV t)) (N : Nat) : ∀ (n : Nat) (l0 l1 l2 l3 : Int) (μ : Mm) (t : Mm), m_kd μ l0 = (6, 0) → jX6_wipe_37 k2 N n l0 l1 l2 l3 μ = some t → aX6_wipe E l 3 z 37 [(0, vr l0), (1, vi l1), (2, vi l2), (3, vi l3)] [] μ (rV t)
  | 0, _, _, _, _, _, _, _, h => by cases h
  | n + 1, l0, l1, l2, l3, μ, t, hk, h => tX6_wipe_37b E l z k2 p2 (jX6_wipe_37 k2 N n) (tX6_wipe_37 E l z k2 p2 N n) N l0 l1 l2 l3 μ t hk h
theorem tX6_wipe_2b (E : m_E) (l : Launch) (z : Nat × Nat) (k2 : Int → Int → Mm → Option (Mm)) (p2 : ∀ (l0 l1 : Int) (μ : Mm) (t : Mm), m_kd μ l0 = (6, 0) → k2 l0 l1 μ = some t → aX6_wipe E l 3 z 2 [(0, vr l0), (1, vi l1)] [] μ (rV t)) (N : Nat) (l0 l1 : Int) (μ : Mm) (t : Mm) (hk : m_kd μ l0 = (6, 0)) (h : jX6_wipe_2b k2 N l0 l1 μ = some t) : aX6_wipe E l 3 z 2 [(0, vr l0), (1, vi l1)] [] μ (rV t) := by
  unfold jX6_wipe_2b at h
  refine a_iload_n 1 dX6_wipe_2 rfl rfl ?_
  refine a_aload_n 0 dX6_wipe_3 rfl rfl ?_
  refine a_getfr (c := 6) (i := 2) dX6_wipe_4 fRX6_25 g6_2 rfl hk ?_
  refine a_alen dX6_wipe_7 h (fun x1 h => ?_)
  refine a_icmp_ge (tgt := 85) dX6_wipe_8 rfl h (fun h => ?_) (fun h => ?_)
  ·
    exact a_ret0 dX6_wipe_85 h
  ·
    refine a_aload_n 0 dX6_wipe_11 rfl rfl ?_
    refine a_iload_n 1 dX6_wipe_12 rfl rfl ?_
    refine a_cVi (c := 6) [vi l1] [] dX6_wipe_13 myX6_high mRX6_40 mvX6_high rfl (by decide) hk (fun _ hj => tX6_high E l N l0 l1 μ _ hk hj) (by decide) rfl (Nat.le_of_ble_eq_true rfl) h (fun x2 μ1 hm h => ?_)
    have hk := hm.k hk (by decide)
    refine a_aload_n 0 dX6_wipe_16 rfl rfl ?_
    refine a_getfi (c := 6) (i := 0) dX6_wipe_17 fRX6_21 g6_0 rfl hk ?_
    refine a_iconst dX6_wipe_20 (okI_b _ rfl) ?_
    refine a_isub dX6_wipe_21 ?_
    refine a_mmin dX6_wipe_22 mRX6_47 (by decide) (Nat.le_of_ble_eq_true rfl) ?_
    refine a_nmi h (fun x3 h => ?_)
    refine a_istore_n (L' := [(2, vi x3), (0, vr l0), (1, vi l1)]) dX6_wipe_25 rfl (by decide) rfl ?_
    refine a_aload_n 1 dX6_wipe_26 rfl rfl ?_
    refine a_getfr (c := 6) (i := 2) dX6_wipe_27 fRX6_25 g6_2 rfl hk ?_
    refine a_iload_n 2 dX6_wipe_30 rfl rfl ?_
    refine a_iald dX6_wipe_31 h (fun x4 h => ?_)
    refine a_iconst dX6_wipe_32 (okI_b _ rfl) ?_
    refine a_mmax dX6_wipe_33 mRX6_15 (by decide) (Nat.le_of_ble_eq_true rfl) ?_
    refine a_nmi h (fun x5 h => ?_)
    refine a_istore_n (L' := [(3, vi x5), (2, vi x3), (0, vr l0), (1, vi l1)]) dX6_wipe_36 rfl (by decide) rfl ?_
    exact a_sub [2, 3, 1, 0] rfl (tX6_wipe_37 E l _ k2 p2 N N l0 l1 x3 x5 μ1 t hk h)
theorem tX6_wipe_2 (E : m_E) (l : Launch) (z : Nat × Nat) (N : Nat) : ∀ (n : Nat) (l0 l1 : Int) (μ : Mm) (t : Mm), m_kd μ l0 = (6, 0) → jX6_wipe_2 N n l0 l1 μ = some t → aX6_wipe E l 3 z 2 [(0, vr l0), (1, vi l1)] [] μ (rV t)
  | 0, _, _, _, _, _, h => by cases h
  | n + 1, l0, l1, μ, t, hk, h => tX6_wipe_2b E l z (jX6_wipe_2 N n) (tX6_wipe_2 E l z N n) N l0 l1 μ t hk h
theorem tX6_wipe (E : m_E) (l : Launch) (N : Nat) (l0 : Int) (μ : Mm) (t : Mm) (hk : m_kd μ l0 = (6, 0)) (h : jX6_wipe N l0 μ = some t) : TT E l 3 yX6_wipe cX6_wipe 4 none [vr l0] μ (rV t) := by
  refine tt_of (L := [(0, vr l0)]) (by decide +kernel) (Nat.le_of_ble_eq_true rfl) rfl ?_
  show aX6_wipe E l 3 (m_sz μ, m_sl μ) 0 [(0, vr l0)] [] μ (rV t)
  unfold jX6_wipe at h
  refine a_iconst dX6_wipe_0 (okI_b _ rfl) ?_
  refine a_istore_n (L' := [(1, vi 0), (0, vr l0)]) dX6_wipe_1 rfl (by decide) rfl ?_
  exact a_sub [1, 0] rfl (tX6_wipe_2 E l _ N N l0 0 μ t hk h)
