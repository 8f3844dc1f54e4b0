-- X8_isThrough
abbrev aX8_isThrough (E : m_E) (l : Launch) (d : Nat) (z : Nat × Nat) (pc : Nat) (L : List (Nat × AV)) (st : List AV) (μ : Mm) (ρ : Option AV × Mm) : Prop := AA E l d z RX8 "isThrough" cX8_isThrough 11 (some .boolean) pc L st μ ρ
theorem tX8_isThrough_184 (E : m_E) (l : Launch) (z : Nat × Nat) (N : Nat) (l0 s0 : Int) (μ : Mm) (t : Int × Mm) (hk : m_kd μ l0 = (8, 0)) (h : jX8_isThrough_184 N l0 s0 μ = some t) : aX8_isThrough E l 2 z 184 [(0, vr l0)] [vi s0] μ (rI t) := by
  unfold jX8_isThrough_184 at h
  exact a_retz dX8_isThrough_184 h
theorem tX8_isThrough_183 (E : m_E) (l : Launch) (z : Nat × Nat) (N : Nat) (l0 : Int) (μ : Mm) (t : Int × Mm) (hk : m_kd μ l0 = (8, 0)) (h : jX8_isThrough_183 N l0 μ = some t) : aX8_isThrough E l 2 z 183 [(0, vr l0)] [] μ (rI t) := by
  unfold jX8_isThrough_183 at h
  refine a_iconst dX8_isThrough_183 (okI_b _ rfl) ?_
  exact a_sub [0] rfl (tX8_isThrough_184 E l _ N l0 0 μ t hk h)
theorem tX8_isThrough_158 (E : m_E) (l : Launch) (z : Nat × Nat) (k31 : Int → Int → Int → Int → Int → Int → Int → Int → Mm → Option (Int × Mm)) (p31 : ∀ (l0 l3 l4 l5 l6 l7 l8 l9 : Int) (μ : Mm) (t : Int × Mm), m_kd μ l0 = (8, 0) → k31 l0 l3 l4 l5 l6 l7 l8 l9 μ = some t → aX8_isThrough E l 2 z 31 [(0, vr l0), (3, vi l3), (4, vi l4), (5, vi l5), (6, vi l6), (7, vi l7), (8, vi l8), (9, vi l9)] [] μ (rI t)) (N : Nat) (l0 l3 l4 l5 l6 l7 l8 l9 : Int) (μ : Mm) (t : Int × Mm) (hk : m_kd μ l0 = (8, 0)) (h : jX8_isThrough_158 k31 N l0 l3 l4 l5 l6 l7 l8 l9 μ = some t) : aX8_isThrough E l 2 z 158 [(0, vr l0), (3, vi l3), (4, vi l4), (5, vi l5), (6, vi l6), (7, vi l7), (8, vi l8), (9, vi l9)] [] μ (rI t) := by
  unfold jX8_isThrough_158 at h
  refine a_iinc (F := fun x1 => [(9, vi x1), (0, vr l0), (3, vi l3), (4, vi l4), (5, vi l5), (6, vi l6), (7, vi l7), (8, vi l8)]) 7 dX8_isThrough_158 rfl (by decide) h (fun _ => rfl) (fun x1 h => ?_)
  refine a_goto (tgt := 31) dX8_isThrough_161 rfl ?_
  exact a_sub [1, 2, 3, 4, 5, 6, 7, 0] rfl (p31 l0 l3 l4 l5 l6 l7 l8 x1 μ t hk h)
theorem tX8_isThrough_89 (E : m_E) (l : Launch) (z : Nat × Nat) (k31 : Int → Int → Int → Int → Int → Int → Int → Int → Mm → Option (Int × Mm)) (p31 : ∀ (l0 l3 l4 l5 l6 l7 l8 l9 : Int) (μ : Mm) (t : Int × Mm), m_kd μ l0 = (8, 0) → k31 l0 l3 l4 l5 l6 l7 l8 l9 μ = some t → aX8_isThrough E l 2 z 31 [(0, vr l0), (3, vi l3), (4, vi l4), (5, vi l5), (6, vi l6), (7, vi l7), (8, vi l8), (9, vi l9)] [] μ (rI t)) (N : Nat) (l0 l3 l4 l5 l6 l7 l9 s0 : Int) (μ : Mm) (t : Int × Mm) (hk : m_kd μ l0 = (8, 0)) (h : jX8_isThrough_89 k31 N l0 l3 l4 l5 l6 l7 l9 s0 μ = some t) : aX8_isThrough E l 2 z 89 [(0, vr l0), (3, vi l3), (4, vi l4), (5, vi l5), (6, vi l6), (7, vi l7), (9, vi l9)] [vi s0] μ (rI t) := by
  unfold jX8_isThrough_89 at h
  refine a_istore (L' := [(8, vi s0), (0, vr l0), (3, vi l3), (4, vi l4), (5, vi l5), (6, vi l6), (7, vi l7), (9, vi l9)]) dX8_isThrough_89 (by decide) rfl ?_
  refine a_iload_n 2 dX8_isThrough_91 rfl rfl ?_
  refine a_iload 7 dX8_isThrough_92 rfl ?_
  refine a_sipush dX8_isThrough_94 ⟨rfl, okI_b _ rfl⟩ ?_
  refine a_isub dX8_isThrough_97 ?_
  refine a_aload_n 1 dX8_isThrough_98 rfl rfl ?_
  refine a_getfi (c := 8) (i := 75) dX8_isThrough_99 fRX8_439 g8_75 rfl hk ?_
  refine a_iadd dX8_isThrough_102 ?_
  refine a_isub dX8_isThrough_103 ?_
  refine a_sipush dX8_isThrough_104 ⟨rfl, okI_b _ rfl⟩ ?_
  refine a_iadd dX8_isThrough_107 ?_
  refine a_nmi h (fun x1 h => ?_)
  refine a_istore (L' := [(10, vi x1), (8, vi s0), (0, vr l0), (3, vi l3), (4, vi l4), (5, vi l5), (6, vi l6), (7, vi l7), (9, vi l9)]) dX8_isThrough_108 (by decide) rfl ?_
  refine a_iload 4 dX8_isThrough_110 rfl ?_
  refine a_if_ne (tgt := 158) dX8_isThrough_112 rfl h (fun h => ?_) (fun h => ?_)
  ·
    exact a_sub [2, 3, 4, 5, 6, 7, 1, 8] rfl (tX8_isThrough_158 E l _ k31 p31 N l0 l3 l4 l5 l6 l7 s0 l9 μ t hk h)
  ·
    refine a_aload_n 2 dX8_isThrough_115 rfl rfl ?_
    refine a_getfr (c := 8) (i := 79) dX8_isThrough_116 fRX8_162 g8_79 rfl hk ?_
    refine a_iload 5 dX8_isThrough_119 rfl ?_
    refine a_iload 8 dX8_isThrough_121 rfl ?_
    refine a_iadd dX8_isThrough_123 ?_
    refine a_zald dX8_isThrough_124 h (fun x2 h => ?_)
    refine a_if_eq (tgt := 158) dX8_isThrough_125 rfl h (fun h => ?_) (fun h => ?_)
    ·
      exact a_sub [2, 3, 4, 5, 6, 7, 1, 8] rfl (tX8_isThrough_158 E l _ k31 p31 N l0 l3 l4 l5 l6 l7 s0 l9 μ t hk h)
    ·
      refine a_iload 0 dX8_isThrough_128 rfl ?_
      refine a_i2l dX8_isThrough_130 ?_
      refine a_lconst (v := 0) dX8_isThrough_131 ⟨rfl, okJ_b _ rfl⟩ ?_
      refine a_ldc2 (x := 1059) dX8_isThrough_132 kRX8_513 ⟨rfl, okJ_b _ rfl⟩ ?_
      refine a_cSi [vl (i_2l x1), vl 0, vl 1059] [] dX8_isThrough_135 myX8_isIn mRX8_223 msX8_isIn (fun _ hj => tX8_isIn E l N (i_2l x1) 0 1059 μ _  hj) (by decide) rfl (Nat.le_of_ble_eq_true rfl) h (fun x3 μ1 hm h => ?_)
      have hk := hm.k hk (by decide)
      refine a_if_eq (tgt := 158) dX8_isThrough_138 rfl h (fun h => ?_) (fun h => ?_)
      ·
        exact a_sub [2, 3, 4, 5, 6, 7, 1, 8] rfl (tX8_isThrough_158 E l _ k31 p31 N l0 l3 l4 l5 l6 l7 s0 l9 μ1 t hk h)
      ·
        refine a_aload_n 2 dX8_isThrough_141 rfl rfl ?_
        refine a_getfr (c := 8) (i := 71) dX8_isThrough_142 fRX8_153 g8_71 rfl hk ?_
        refine a_iload 6 dX8_isThrough_145 rfl ?_
        refine a_iload 0 dX8_isThrough_147 rfl ?_
        refine a_iadd dX8_isThrough_149 ?_
        refine a_lald dX8_isThrough_150 h (fun x4 h => ?_)
        refine a_lconst (v := 0) dX8_isThrough_151 ⟨rfl, okJ_b _ rfl⟩ ?_
        refine a_lcmp dX8_isThrough_152 ?_
        refine a_if_le (tgt := 158) dX8_isThrough_153 rfl h (fun h => ?_) (fun h => ?_)
        ·
          exact a_sub [2, 3, 4, 5, 6, 7, 1, 8] rfl (tX8_isThrough_158 E l _ k31 p31 N l0 l3 l4 l5 l6 l7 s0 l9 μ1 t hk h)
        ·
          refine a_iconst dX8_isThrough_156 (okI_b _ rfl) ?_
          exact a_retzl (Or.inr rfl) dX8_isThrough_157 h
theorem tX8_isThrough_84 (E : m_E) (l : Launch) (z : Nat × Nat) (k31 : Int → Int → Int → Int → Int → Int → Int → Int → Mm → Option (Int × Mm)) (p31 : ∀ (l0 l3 l4 l5 l6 l7 l8 l9 : Int) (μ : Mm) (t : Int × Mm), m_kd μ l0 = (8, 0) → k31 l0 l3 l4 l5 l6 l7 l8 l9 μ = some t → aX8_isThrough E l 2 z 31 [(0, vr l0), (3, vi l3), (4, vi l4), (5, vi l5), (6, vi l6), (7, vi l7), (8, vi l8), (9, vi l9)] [] μ (rI t)) (N : Nat) (l0 l3 l4 l5 l6 l7 l9 : Int) (μ : Mm) (t : Int × Mm) (hk : m_kd μ l0 = (8, 0)) (h : jX8_isThrough_84 k31 N l0 l3 l4 l5 l6 l7 l9 μ = some t) : aX8_isThrough E l 2 z 84 [(0, vr l0), (3, vi l3), (4, vi l4), (5, vi l5), (6, vi l6), (7, vi l7), (9, vi l9)] [] μ (rI t) := by
  unfold jX8_isThrough_84 at h
  refine a_iconst dX8_isThrough_84 (okI_b _ rfl) ?_
  refine a_goto (tgt := 89) dX8_isThrough_85 rfl ?_
  exact a_sub [0, 1, 2, 3, 4, 5, 6] rfl (tX8_isThrough_89 E l _ k31 p31 N l0 l3 l4 l5 l6 l7 l9 1 μ t hk h)
theorem tX8_isThrough_62 (E : m_E) (l : Launch) (z : Nat × Nat) (k31 : Int → Int → Int → Int → Int → Int → Int → Int → Mm → Option (Int × Mm)) (p31 : ∀ (l0 l3 l4 l5 l6 l7 l8 l9 : Int) (μ : Mm) (t : Int × Mm), m_kd μ l0 = (8, 0) → k31 l0 l3 l4 l5 l6 l7 l8 l9 μ = some t → aX8_isThrough E l 2 z 31 [(0, vr l0), (3, vi l3), (4, vi l4), (5, vi l5), (6, vi l6), (7, vi l7), (8, vi l8), (9, vi l9)] [] μ (rI t)) (N : Nat) (l0 l3 l4 l5 l6 l8 l9 s0 : Int) (μ : Mm) (t : Int × Mm) (hk : m_kd μ l0 = (8, 0)) (h : jX8_isThrough_62 k31 N l0 l3 l4 l5 l6 l8 l9 s0 μ = some t) : aX8_isThrough E l 2 z 62 [(0, vr l0), (3, vi l3), (4, vi l4), (5, vi l5), (6, vi l6), (8, vi l8), (9, vi l9)] [vi s0] μ (rI t) := by
  unfold jX8_isThrough_62 at h
  refine a_istore (L' := [(7, vi s0), (0, vr l0), (3, vi l3), (4, vi l4), (5, vi l5), (6, vi l6), (8, vi l8), (9, vi l9)]) dX8_isThrough_62 (by decide) rfl ?_
  refine a_iload 6 dX8_isThrough_64 rfl ?_
  refine a_if_ne (tgt := 84) dX8_isThrough_66 rfl h (fun h => ?_) (fun h => ?_)
  ·
    exact a_sub [1, 2, 3, 4, 5, 0, 7] rfl (tX8_isThrough_84 E l _ k31 p31 N l0 l3 l4 l5 l6 s0 l9 μ t hk h)
  ·
    refine a_aload_n 1 dX8_isThrough_69 rfl rfl ?_
    refine a_getfr (c := 8) (i := 71) dX8_isThrough_70 fRX8_153 g8_71 rfl hk ?_
    refine a_iload 5 dX8_isThrough_73 rfl ?_
    refine a_iload 7 dX8_isThrough_75 rfl ?_
    refine a_iadd dX8_isThrough_77 ?_
    refine a_lald dX8_isThrough_78 h (fun x1 h => ?_)
    refine a_lconst (v := 0) dX8_isThrough_79 ⟨rfl, okJ_b _ rfl⟩ ?_
    refine a_lcmp dX8_isThrough_80 ?_
    refine a_if_le (tgt := 88) dX8_isThrough_81 rfl h (fun h => ?_) (fun h => ?_)
    ·
      refine a_iconst dX8_isThrough_88 (okI_b _ rfl) ?_
      exact a_sub [1, 2, 3, 4, 5, 0, 7] rfl (tX8_isThrough_89 E l _ k31 p31 N l0 l3 l4 l5 l6 s0 l9 0 μ t hk h)
    ·
      exact a_sub [1, 2, 3, 4, 5, 0, 7] rfl (tX8_isThrough_84 E l _ k31 p31 N l0 l3 l4 l5 l6 s0 l9 μ t hk h)
theorem tX8_isThrough_57 (E : m_E) (l : Launch) (z : Nat × Nat) (k31 : Int → Int → Int → Int → Int → Int → Int → Int → Mm → Option (Int × Mm)) (p31 : ∀ (l0 l3 l4 l5 l6 l7 l8 l9 : Int) (μ : Mm) (t : Int × Mm), m_kd μ l0 = (8, 0) → k31 l0 l3 l4 l5 l6 l7 l8 l9 μ = some t → aX8_isThrough E l 2 z 31 [(0, vr l0), (3, vi l3), (4, vi l4), (5, vi l5), (6, vi l6), (7, vi l7), (8, vi l8), (9, vi l9)] [] μ (rI t)) (N : Nat) (l0 l3 l4 l5 l6 l8 l9 : Int) (μ : Mm) (t : Int × Mm) (hk : m_kd μ l0 = (8, 0)) (h : jX8_isThrough_57 k31 N l0 l3 l4 l5 l6 l8 l9 μ = some t) : aX8_isThrough E l 2 z 57 [(0, vr l0), (3, vi l3), (4, vi l4), (5, vi l5), (6, vi l6), (8, vi l8), (9, vi l9)] [] μ (rI t) := by
  unfold jX8_isThrough_57 at h
  refine a_iconst dX8_isThrough_57 (okI_b _ rfl) ?_
  refine a_goto (tgt := 62) dX8_isThrough_58 rfl ?_
  exact a_sub [0, 1, 2, 3, 4, 5, 6] rfl (tX8_isThrough_62 E l _ k31 p31 N l0 l3 l4 l5 l6 l8 l9 1 μ t hk h)
theorem tX8_isThrough_31b (E : m_E) (l : Launch) (z : Nat × Nat) (k31 : Int → Int → Int → Int → Int → Int → Int → Int → Mm → Option (Int × Mm)) (p31 : ∀ (l0 l3 l4 l5 l6 l7 l8 l9 : Int) (μ : Mm) (t : Int × Mm), m_kd μ l0 = (8, 0) → k31 l0 l3 l4 l5 l6 l7 l8 l9 μ = some t → aX8_isThrough E l 2 z 31 [(0, vr l0), (3, vi l3), (4, vi l4), (5, vi l5), (6, vi l6), (7, vi l7), (8, vi l8), (9, vi l9)] [] μ (rI t)) (N : Nat) (l0 l3 l4 l5 l6 l7 l8 l9 : Int) (μ : Mm) (t : Int × Mm) (hk : m_kd μ l0 = (8, 0)) (h : jX8_isThrough_31b k31 N l0 l3 l4 l5 l6 l7 l8 l9 μ = some t) : aX8_isThrough E l 2 z 31 [(0, vr l0), (3, vi l3), (4, vi l4), (5, vi l5), (6, vi l6), (7, vi l7), (8, vi l8), (9, vi l9)] [] μ (rI t) := by
  unfold jX8_isThrough_31b at h
  refine a_iload 7 dX8_isThrough_31 rfl ?_
  refine a_sipush dX8_isThrough_33 ⟨rfl, okI_b _ rfl⟩ ?_
  refine a_icmp_ge (tgt := 164) dX8_isThrough_36 rfl h (fun h => ?_) (fun h => ?_)
  ·
    refine a_iload 2 dX8_isThrough_164 rfl ?_
    refine a_if_eq (tgt := 183) dX8_isThrough_166 rfl h (fun h => ?_) (fun h => ?_)
    ·
      exact a_sub [0] rfl (tX8_isThrough_183 E l _ N l0 μ t hk h)
    ·
      refine a_iload 5 dX8_isThrough_169 rfl ?_
      refine a_if_eq (tgt := 183) dX8_isThrough_171 rfl h (fun h => ?_) (fun h => ?_)
      ·
        exact a_sub [0] rfl (tX8_isThrough_183 E l _ N l0 μ t hk h)
      ·
        refine a_iload 6 dX8_isThrough_174 rfl ?_
        refine a_if_eq (tgt := 183) dX8_isThrough_176 rfl h (fun h => ?_) (fun h => ?_)
        ·
          exact a_sub [0] rfl (tX8_isThrough_183 E l _ N l0 μ t hk h)
        ·
          refine a_iconst dX8_isThrough_179 (okI_b _ rfl) ?_
          refine a_goto (tgt := 184) dX8_isThrough_180 rfl ?_
          exact a_sub [0] rfl (tX8_isThrough_184 E l _ N l0 1 μ t hk h)
  ·
    refine a_iload 5 dX8_isThrough_39 rfl ?_
    refine a_if_ne (tgt := 57) dX8_isThrough_41 rfl h (fun h => ?_) (fun h => ?_)
    ·
      exact a_sub [0, 1, 2, 3, 4, 6, 7] rfl (tX8_isThrough_57 E l _ k31 p31 N l0 l3 l4 l5 l6 l8 l9 μ t hk h)
    ·
      refine a_aload_n 0 dX8_isThrough_44 rfl rfl ?_
      refine a_getfr (c := 8) (i := 79) dX8_isThrough_45 fRX8_162 g8_79 rfl hk ?_
      refine a_iload 3 dX8_isThrough_48 rfl ?_
      refine a_iload 7 dX8_isThrough_50 rfl ?_
      refine a_iadd dX8_isThrough_52 ?_
      refine a_zald dX8_isThrough_53 h (fun x1 h => ?_)
      refine a_if_eq (tgt := 61) dX8_isThrough_54 rfl h (fun h => ?_) (fun h => ?_)
      ·
        refine a_iconst dX8_isThrough_61 (okI_b _ rfl) ?_
        exact a_sub [0, 1, 2, 3, 4, 6, 7] rfl (tX8_isThrough_62 E l _ k31 p31 N l0 l3 l4 l5 l6 l8 l9 0 μ t hk h)
      ·
        exact a_sub [0, 1, 2, 3, 4, 6, 7] rfl (tX8_isThrough_57 E l _ k31 p31 N l0 l3 l4 l5 l6 l8 l9 μ t hk h)
theorem tX8_isThrough_31 (E : m_E) (l : Launch) (z : Nat × Nat) (N : Nat) : ∀ (n : Nat) (l0 l3 l4 l5 l6 l7 l8 l9 : Int) (μ : Mm) (t : Int × Mm), m_kd μ l0 = (8, 0) → jX8_isThrough_31 N n l0 l3 l4 l5 l6 l7 l8 l9 μ = some t → aX8_isThrough E l 2 z 31 [(0, vr l0), (3, vi l3), (4, vi l4), (5, vi l5), (6, vi l6), (7, vi l7), (8, vi l8), (9, vi l9)] [] μ (rI t)
  | 0, _, _, _, _, _, _, _, _, _, _, _, h => by cases h
  | n + 1, l0, l3, l4, l5, l6, l7, l8, l9, μ, t, hk, h => tX8_isThrough_31b E l z (jX8_isThrough_31 N n) (tX8_isThrough_31 E l z N n) N l0 l3 l4 l5 l6 l7 l8 l9 μ t hk h
theorem tX8_isThrough (E : m_E) (l : Launch) (N : Nat) (l0 l1 l2 l3 l4 : Int) (μ : Mm) (t : Int × Mm) (hk : m_kd μ l0 = (8, 0)) (h : jX8_isThrough N l0 l1 l2 l3 l4 μ = some t) : TT E l 2 yX8_isThrough cX8_isThrough 11 (some .boolean) [vr l0, vi l1, vi l2, vi l3, vi l4] μ (rI t) := by
  refine tt_of (L := [(0, vr l0), (1, vi l1), (2, vi l2), (3, vi l3), (4, vi l4)]) (by decide +kernel) (Nat.le_of_ble_eq_true rfl) rfl ?_
  show aX8_isThrough E l 2 (m_sz μ, m_sl μ) 0 [(0, vr l0), (1, vi l1), (2, vi l2), (3, vi l3), (4, vi l4)] [] μ (rI t)
  unfold jX8_isThrough at h
  refine a_iload_n 2 dX8_isThrough_0 rfl rfl ?_
  refine a_sipush dX8_isThrough_1 ⟨rfl, okI_b _ rfl⟩ ?_
  refine a_imul dX8_isThrough_4 ?_
  refine a_nmi h (fun x1 h => ?_)
  refine a_istore (L' := [(5, vi x1), (0, vr l0), (1, vi l1), (2, vi l2), (3, vi l3), (4, vi l4)]) dX8_isThrough_5 (by decide) rfl ?_
  refine a_iload_n 2 dX8_isThrough_7 rfl rfl ?_
  refine a_iconst dX8_isThrough_8 (okI_b _ rfl) ?_
  refine a_iadd dX8_isThrough_9 ?_
  refine a_aload_n 1 dX8_isThrough_10 rfl rfl ?_
  refine a_getfi (c := 8) (i := 76) dX8_isThrough_11 fRX8_445 g8_76 rfl hk ?_
  refine a_sipush dX8_isThrough_14 ⟨rfl, okI_b _ rfl⟩ ?_
  refine a_cSi [vi (i_add l1 1), vi (m_gt μ l0 76), vi (-460)] [] dX8_isThrough_17 myX8_cell mRX8_448 msX8_cell (fun _ hj => tX8_cell E l N (i_add l1 1) (m_gt μ l0 76) (-460) μ _  hj) (by decide) rfl (Nat.le_of_ble_eq_true rfl) h (fun x2 μ1 hm h => ?_)
  have hk := hm.k hk (by decide)
  refine a_istore (L' := [(6, vi x2), (5, vi x1), (0, vr l0), (1, vi l1), (2, vi l2), (3, vi l3), (4, vi l4)]) dX8_isThrough_20 (by decide) rfl ?_
  refine a_iconst dX8_isThrough_22 (okI_b _ rfl) ?_
  refine a_istore (L' := [(7, vi 0), (6, vi x2), (5, vi x1), (0, vr l0), (1, vi l1), (2, vi l2), (3, vi l3), (4, vi l4)]) dX8_isThrough_23 (by decide) rfl ?_
  refine a_iconst dX8_isThrough_25 (okI_b _ rfl) ?_
  refine a_istore (L' := [(8, vi 0), (7, vi 0), (6, vi x2), (5, vi x1), (0, vr l0), (1, vi l1), (2, vi l2), (3, vi l3), (4, vi l4)]) dX8_isThrough_26 (by decide) rfl ?_
  refine a_iconst dX8_isThrough_28 (okI_b _ rfl) ?_
  refine a_istore (L' := [(9, vi 0), (8, vi 0), (7, vi 0), (6, vi x2), (5, vi x1), (0, vr l0), (1, vi l1), (2, vi l2), (3, vi l3), (4, vi l4)]) dX8_isThrough_29 (by decide) rfl ?_
  exact a_sub [5, 8, 9, 4, 3, 2, 1, 0] rfl (tX8_isThrough_31 E l _ N N l0 l3 l4 x1 x2 0 0 0 μ1 t hk h)
-- X8_leadsOn
abbrev aX8_leadsOn (E : m_E) (l : Launch) (d : Nat) (z : Nat × Nat) (pc : Nat) (L : List (Nat × AV)) (st : List AV) (μ : Mm) (ρ : Option AV × Mm) : Prop := AA E l d z RX8 "leadsOn" cX8_leadsOn 6 none pc L st μ ρ
theorem tX8_leadsOn_55 (E : m_E) (l : Launch) (z : Nat × Nat) (k24 : Int → Int → Int → Int → Mm → Option (Mm)) (p24 : ∀ (l0 l3 l4 l5 : Int) (μ : Mm) (t : Mm), m_kd μ l0 = (8, 0) → k24 l0 l3 l4 l5 μ = some t → aX8_leadsOn E l 1 z 24 [(0, vr l0), (3, vi l3), (4, vi l4), (5, vi l5)] [] μ (rV t)) (N : Nat) (l0 l3 l4 l5 : Int) (μ : Mm) (t : Mm) (hk : m_kd μ l0 = (8, 0)) (h : jX8_leadsOn_55 k24 N l0 l3 l4 l5 μ = some t) : aX8_leadsOn E l 1 z 55 [(0, vr l0), (3, vi l3), (4, vi l4), (5, vi l5)] [] μ (rV t) := by
  unfold jX8_leadsOn_55 at h
  refine a_iinc (F := fun x1 => [(5, vi x1), (0, vr l0), (3, vi l3), (4, vi l4)]) 3 dX8_leadsOn_55 rfl (by decide) h (fun _ => rfl) (fun x1 h => ?_)
  refine a_goto (tgt := 24) dX8_leadsOn_58 rfl ?_
  exact a_sub [1, 2, 3, 0] rfl (p24 l0 l3 l4 x1 μ t hk h)
theorem tX8_leadsOn_24b (E : m_E) (l : Launch) (z : Nat × Nat) (k24 : Int → Int → Int → Int → Mm → Option (Mm)) (p24 : ∀ (l0 l3 l4 l5 : Int) (μ : Mm) (t : Mm), m_kd μ l0 = (8, 0) → k24 l0 l3 l4 l5 μ = some t → aX8_leadsOn E l 1 z 24 [(0, vr l0), (3, vi l3), (4, vi l4), (5, vi l5)] [] μ (rV t)) (N : Nat) (l0 l3 l4 l5 : Int) (μ : Mm) (t : Mm) (hk : m_kd μ l0 = (8, 0)) (h : jX8_leadsOn_24b k24 N l0 l3 l4 l5 μ = some t) : aX8_leadsOn E l 1 z 24 [(0, vr l0), (3, vi l3), (4, vi l4), (5, vi l5)] [] μ (rV t) := by
  unfold jX8_leadsOn_24b at h
  refine a_iload 3 dX8_leadsOn_24 rfl ?_
  refine a_sipush dX8_leadsOn_26 ⟨rfl, okI_b _ rfl⟩ ?_
  refine a_icmp_ge (tgt := 61) dX8_leadsOn_29 rfl h (fun h => ?_) (fun h => ?_)
  ·
    exact a_ret0 dX8_leadsOn_61 h
  ·
    refine a_aload_n 0 dX8_leadsOn_32 rfl rfl ?_
    refine a_getfr (c := 8) (i := 79) dX8_leadsOn_33 fRX8_162 g8_79 rfl hk ?_
    refine a_iload_n 1 dX8_leadsOn_36 rfl rfl ?_
    refine a_iload 3 dX8_leadsOn_37 rfl ?_
    refine a_iadd dX8_leadsOn_39 ?_
    refine a_zald dX8_leadsOn_40 h (fun x1 h => ?_)
    refine a_if_eq (tgt := 55) dX8_leadsOn_41 rfl h (fun h => ?_) (fun h => ?_)
    ·
      exact a_sub [0, 1, 2, 3] rfl (tX8_leadsOn_55 E l _ k24 p24 N l0 l3 l4 l5 μ t hk h)
    ·
      refine a_aload_n 0 dX8_leadsOn_44 rfl rfl ?_
      refine a_getfr (c := 8) (i := 80) dX8_leadsOn_45 fRX8_165 g8_80 rfl hk ?_
      refine a_iload 2 dX8_leadsOn_48 rfl ?_
      refine a_iload 3 dX8_leadsOn_50 rfl ?_
      refine a_iadd dX8_leadsOn_52 ?_
      refine a_iconst dX8_leadsOn_53 (okI_b _ rfl) ?_
      refine a_zast (hz := Or.inr rfl) dX8_leadsOn_54 h (fun μ1 hm h => ?_)
      have hk := hm.k hk (by decide)
      exact a_sub [0, 1, 2, 3] rfl (tX8_leadsOn_55 E l _ k24 p24 N l0 l3 l4 l5 μ1 t hk h)
theorem tX8_leadsOn_24 (E : m_E) (l : Launch) (z : Nat × Nat) (N : Nat) : ∀ (n : Nat) (l0 l3 l4 l5 : Int) (μ : Mm) (t : Mm), m_kd μ l0 = (8, 0) → jX8_leadsOn_24 N n l0 l3 l4 l5 μ = some t → aX8_leadsOn E l 1 z 24 [(0, vr l0), (3, vi l3), (4, vi l4), (5, vi l5)] [] μ (rV t)
  | 0, _, _, _, _, _, _, _, h => by cases h
  | n + 1, l0, l3, l4, l5, μ, t, hk, h => tX8_leadsOn_24b E l z (jX8_leadsOn_24 N n) (tX8_leadsOn_24 E l z N n) N l0 l3 l4 l5 μ t hk h
theorem tX8_leadsOn (E : m_E) (l : Launch) (N : Nat) (l0 l1 l2 : Int) (μ : Mm) (t : Mm) (hk : m_kd μ l0 = (8, 0)) (h : jX8_leadsOn N l0 l1 l2 μ = some t) : TT E l 1 yX8_leadsOn cX8_leadsOn 6 none [vr l0, vi l1, vi l2] μ (rV t) := by
  refine tt_of (L := [(0, vr l0), (1, vi l1), (2, vi l2)]) (by decide +kernel) (Nat.le_of_ble_eq_true rfl) rfl ?_
  show aX8_leadsOn E l 1 (m_sz μ, m_sl μ) 0 [(0, vr l0), (1, vi l1), (2, vi l2)] [] μ (rV t)
  unfold jX8_leadsOn at h
  refine a_iload_n 2 dX8_leadsOn_0 rfl rfl ?_
  refine a_sipush dX8_leadsOn_1 ⟨rfl, okI_b _ rfl⟩ ?_
  refine a_imul dX8_leadsOn_4 ?_
  refine a_nmi h (fun x1 h => ?_)
  refine a_istore_n (L' := [(3, vi x1), (0, vr l0), (1, vi l1), (2, vi l2)]) dX8_leadsOn_5 rfl (by decide) rfl ?_
  refine a_aload_n 1 dX8_leadsOn_6 rfl rfl ?_
  refine a_getfi (c := 8) (i := 76) dX8_leadsOn_7 fRX8_445 g8_76 rfl hk ?_
  refine a_sipush dX8_leadsOn_10 ⟨rfl, okI_b _ rfl⟩ ?_
  refine a_imul dX8_leadsOn_13 ?_
  refine a_aload_n 1 dX8_leadsOn_14 rfl rfl ?_
  refine a_getfi (c := 8) (i := 75) dX8_leadsOn_15 fRX8_439 g8_75 rfl hk ?_
  refine a_iadd dX8_leadsOn_18 ?_
  refine a_nmi h (fun x2 h => ?_)
  refine a_istore (L' := [(4, vi x2), (3, vi x1), (0, vr l0), (1, vi l1), (2, vi l2)]) dX8_leadsOn_19 (by decide) rfl ?_
  refine a_iconst dX8_leadsOn_21 (okI_b _ rfl) ?_
  refine a_istore (L' := [(5, vi 0), (4, vi x2), (3, vi x1), (0, vr l0), (1, vi l1), (2, vi l2)]) dX8_leadsOn_22 (by decide) rfl ?_
  exact a_sub [3, 2, 1, 0] rfl (tX8_leadsOn_24 E l _ N N l0 x1 x2 0 μ t hk h)
-- X8_leads
abbrev aX8_leads (E : m_E) (l : Launch) (d : Nat) (z : Nat × Nat) (pc : Nat) (L : List (Nat × AV)) (st : List AV) (μ : Mm) (ρ : Option AV × Mm) : Prop := AA E l d z RX8 "leads" cX8_leads 3 none pc L st μ ρ
theorem tX8_leads_127b (E : m_E) (l : Launch) (z : Nat × Nat) (k127 : Int → Int → Mm → Option (Mm)) (p127 : ∀ (l0 l2 : Int) (μ : Mm) (t : Mm), m_kd μ l0 = (8, 0) → k127 l0 l2 μ = some t → aX8_leads E l 6 z 127 [(0, vr l0), (2, vi l2)] [] μ (rV t)) (N : Nat) (l0 l2 : Int) (μ : Mm) (t : Mm) (hk : m_kd μ l0 = (8, 0)) (h : jX8_leads_127b k127 N l0 l2 μ = some t) : aX8_leads E l 6 z 127 [(0, vr l0), (2, vi l2)] [] μ (rV t) := by
  unfold jX8_leads_127b at h
  refine a_iload_n 1 dX8_leads_127 rfl rfl ?_
  refine a_sipush dX8_leads_128 ⟨rfl, okI_b _ rfl⟩ ?_
  refine a_icmp_ge (tgt := 152) dX8_leads_131 rfl h (fun h => ?_) (fun h => ?_)
  ·
    exact a_ret0 dX8_leads_152 h
  ·
    refine a_aload_n 0 dX8_leads_134 rfl rfl ?_
    refine a_getfr (c := 8) (i := 79) dX8_leads_135 fRX8_162 g8_79 rfl hk ?_
    refine a_iload_n 1 dX8_leads_138 rfl rfl ?_
    refine a_aload_n 0 dX8_leads_139 rfl rfl ?_
    refine a_getfr (c := 8) (i := 80) dX8_leads_140 fRX8_165 g8_80 rfl hk ?_
    refine a_iload_n 1 dX8_leads_143 rfl rfl ?_
    refine a_zald dX8_leads_144 h (fun x1 h => ?_)
    refine z_k h (fun hz h => ?_)
    refine a_zast (hz := hz) dX8_leads_145 h (fun μ1 hm h => ?_)
    have hk := hm.k hk (by decide)
    refine a_iinc (F := fun x2 => [(2, vi x2), (0, vr l0)]) 1 dX8_leads_146 rfl (by decide) h (fun _ => rfl) (fun x2 h => ?_)
    refine a_goto (tgt := 127) dX8_leads_149 rfl ?_
    exact a_sub [1, 0] rfl (p127 l0 x2 μ1 t hk h)
theorem tX8_leads_127 (E : m_E) (l : Launch) (z : Nat × Nat) (N : Nat) : ∀ (n : Nat) (l0 l2 : Int) (μ : Mm) (t : Mm), m_kd μ l0 = (8, 0) → jX8_leads_127 N n l0 l2 μ = some t → aX8_leads E l 6 z 127 [(0, vr l0), (2, vi l2)] [] μ (rV t)
  | 0, _, _, _, _, _, h => by cases h
  | n + 1, l0, l2, μ, t, hk, h => tX8_leads_127b E l z (jX8_leads_127 N n) (tX8_leads_127 E l z N n) N l0 l2 μ t hk h
theorem tX8_leads_119 (E : m_E) (l : Launch) (z : Nat × Nat) (k24 : Int → Int → Int → Mm → Option (Mm)) (p24 : ∀ (l0 l1 l2 : Int) (μ : Mm) (t : Mm), m_kd μ l0 = (8, 0) → k24 l0 l1 l2 μ = some t → aX8_leads E l 6 z 24 [(0, vr l0), (1, vi l1), (2, vi l2)] [] μ (rV t)) (N : Nat) (l0 l1 l2 : Int) (μ : Mm) (t : Mm) (hk : m_kd μ l0 = (8, 0)) (h : jX8_leads_119 k24 N l0 l1 l2 μ = some t) : aX8_leads E l 6 z 119 [(0, vr l0), (1, vi l1), (2, vi l2)] [] μ (rV t) := by
  unfold jX8_leads_119 at h
  refine a_iinc (F := fun x1 => [(2, vi x1), (0, vr l0), (1, vi l1)]) 2 dX8_leads_119 rfl (by decide) h (fun _ => rfl) (fun x1 h => ?_)
  refine a_goto (tgt := 24) dX8_leads_122 rfl ?_
  exact a_sub [1, 2, 0] rfl (p24 l0 l1 x1 μ t hk h)
theorem tX8_leads_79b (E : m_E) (l : Launch) (z : Nat × Nat) (k24 : Int → Int → Int → Mm → Option (Mm)) (p24 : ∀ (l0 l1 l2 : Int) (μ : Mm) (t : Mm), m_kd μ l0 = (8, 0) → k24 l0 l1 l2 μ = some t → aX8_leads E l 6 z 24 [(0, vr l0), (1, vi l1), (2, vi l2)] [] μ (rV t)) (k79 : Int → Int → Int → Mm → Option (Mm)) (p79 : ∀ (l0 l1 l2 : Int) (μ : Mm) (t : Mm), m_kd μ l0 = (8, 0) → k79 l0 l1 l2 μ = some t → aX8_leads E l 6 z 79 [(0, vr l0), (1, vi l1), (2, vi l2)] [] μ (rV t)) (N : Nat) (l0 l1 l2 : Int) (μ : Mm) (t : Mm) (hk : m_kd μ l0 = (8, 0)) (h : jX8_leads_79b k24 k79 N l0 l1 l2 μ = some t) : aX8_leads E l 6 z 79 [(0, vr l0), (1, vi l1), (2, vi l2)] [] μ (rV t) := by
  unfold jX8_leads_79b at h
  refine a_aload_n 0 dX8_leads_79 rfl rfl ?_
  refine a_aload_n 0 dX8_leads_80 rfl rfl ?_
  refine a_getfr (c := 8) (i := 31) dX8_leads_81 fRX8_84 g8_31 rfl hk ?_
  refine a_iconst dX8_leads_84 (okI_b _ rfl) ?_
  refine a_iald dX8_leads_85 h (fun x1 h => ?_)
  refine a_aload_n 0 dX8_leads_86 rfl rfl ?_
  refine a_getfr (c := 8) (i := 33) dX8_leads_87 fRX8_90 g8_33 rfl hk ?_
  refine a_iconst dX8_leads_90 (okI_b _ rfl) ?_
  refine a_iald dX8_leads_91 h (fun x2 h => ?_)
  refine a_cVi (c := 8) [vi x1, vi x2] [] dX8_leads_92 myX8_nextRow mRX8_454 mvX8_nextRow rfl (by decide) hk (fun _ hj => tX8_nextRow E l N l0 x1 x2 μ _ hk hj) (by decide) rfl (Nat.le_of_ble_eq_true rfl) h (fun x3 μ1 hm h => ?_)
  have hk := hm.k hk (by decide)
  refine a_if_eq (tgt := 119) dX8_leads_95 rfl h (fun h => ?_) (fun h => ?_)
  ·
    exact a_sub [0, 1, 2] rfl (tX8_leads_119 E l _ k24 p24 N l0 l1 l2 μ1 t hk h)
  ·
    refine a_aload_n 0 dX8_leads_98 rfl rfl ?_
    refine a_iload_n 1 dX8_leads_99 rfl rfl ?_
    refine a_iload_n 2 dX8_leads_100 rfl rfl ?_
    refine a_iconst dX8_leads_101 (okI_b _ rfl) ?_
    refine a_iconst dX8_leads_102 (okI_b _ rfl) ?_
    refine a_iconst dX8_leads_103 (okI_b _ rfl) ?_
    refine a_cVi (c := 8) [vi l1, vi l2, vi 0, vi 0, vi 0] [] dX8_leads_104 myX8_ends mRX8_458 mvX8_ends rfl (by decide) hk (fun _ hj => tX8_ends E l N l0 l1 l2 0 0 0 μ1 _ hk hj) (by decide) rfl (Nat.le_of_ble_eq_true rfl) h (fun x4 μ2 hm h => ?_)
    have hk := hm.k hk (by decide)
    refine a_if_eq (tgt := 79) dX8_leads_107 rfl h (fun h => ?_) (fun h => ?_)
    ·
      exact a_sub [0, 1, 2] rfl (p79 l0 l1 l2 μ2 t hk h)
    ·
      refine a_aload_n 0 dX8_leads_110 rfl rfl ?_
      refine a_iload_n 1 dX8_leads_111 rfl rfl ?_
      refine a_iload_n 2 dX8_leads_112 rfl rfl ?_
      refine a_cVv (c := 8) [vi l1, vi l2] [] dX8_leads_113 myX8_leadsOn mRX8_510 mvX8_leadsOn rfl (by decide) hk (fun _ hj => tX8_leadsOn E l N l0 l1 l2 μ2 _ hk hj) (by decide) rfl (Nat.le_of_ble_eq_true rfl) h (fun μ3 hm h => ?_)
      have hk := hm.k hk (by decide)
      refine a_goto (tgt := 79) dX8_leads_116 rfl ?_
      exact a_sub [0, 1, 2] rfl (p79 l0 l1 l2 μ3 t hk h)
theorem tX8_leads_79 (E : m_E) (l : Launch) (z : Nat × Nat) (k24 : Int → Int → Int → Mm → Option (Mm)) (p24 : ∀ (l0 l1 l2 : Int) (μ : Mm) (t : Mm), m_kd μ l0 = (8, 0) → k24 l0 l1 l2 μ = some t → aX8_leads E l 6 z 24 [(0, vr l0), (1, vi l1), (2, vi l2)] [] μ (rV t)) (N : Nat) : ∀ (n : Nat) (l0 l1 l2 : Int) (μ : Mm) (t : Mm), m_kd μ l0 = (8, 0) → jX8_leads_79 k24 N n l0 l1 l2 μ = some t → aX8_leads E l 6 z 79 [(0, vr l0), (1, vi l1), (2, vi l2)] [] μ (rV t)
  | 0, _, _, _, _, _, _, h => by cases h
  | n + 1, l0, l1, l2, μ, t, hk, h => tX8_leads_79b E l z k24 p24 (jX8_leads_79 k24 N n) (tX8_leads_79 E l z k24 p24 N n) N l0 l1 l2 μ t hk h
theorem tX8_leads_24b (E : m_E) (l : Launch) (z : Nat × Nat) (k24 : Int → Int → Int → Mm → Option (Mm)) (p24 : ∀ (l0 l1 l2 : Int) (μ : Mm) (t : Mm), m_kd μ l0 = (8, 0) → k24 l0 l1 l2 μ = some t → aX8_leads E l 6 z 24 [(0, vr l0), (1, vi l1), (2, vi l2)] [] μ (rV t)) (N : Nat) (l0 l1 l2 : Int) (μ : Mm) (t : Mm) (hk : m_kd μ l0 = (8, 0)) (h : jX8_leads_24b k24 N l0 l1 l2 μ = some t) : aX8_leads E l 6 z 24 [(0, vr l0), (1, vi l1), (2, vi l2)] [] μ (rV t) := by
  unfold jX8_leads_24b at h
  refine a_iload_n 2 dX8_leads_24 rfl rfl ?_
  refine a_bipush dX8_leads_25 ⟨rfl, okI_b _ rfl⟩ ?_
  refine a_icmp_ge (tgt := 125) dX8_leads_27 rfl h (fun h => ?_) (fun h => ?_)
  ·
    refine a_iconst dX8_leads_125 (okI_b _ rfl) ?_
    refine a_istore_n (L' := [(2, vi 0), (0, vr l0), (1, vi l1)]) dX8_leads_126 rfl (by decide) rfl ?_
    exact a_sub [1, 0] rfl (tX8_leads_127 E l _ N N l0 0 μ t hk h)
  ·
    refine a_iload_n 2 dX8_leads_30 rfl rfl ?_
    refine a_cSi [vi l2] [] dX8_leads_31 myX8_isOwing mRX8_473 msX8_isOwing (fun _ hj => tX8_isOwing E l N l2 μ _  hj) (by decide) rfl (Nat.le_of_ble_eq_true rfl) h (fun x1 μ1 hm h => ?_)
    have hk := hm.k hk (by decide)
    refine a_if_ne (tgt := 40) dX8_leads_34 rfl h (fun h => ?_) (fun h => ?_)
    ·
      refine a_aload_n 0 dX8_leads_40 rfl rfl ?_
      refine a_iload_n 1 dX8_leads_41 rfl rfl ?_
      refine a_cVi (c := 8) [vi l1] [] dX8_leads_42 myX8_isTorn mRX8_496 mvX8_isTorn rfl (by decide) hk (fun _ hj => tX8_isTorn E l N l0 l1 μ1 _ hk hj) (by decide) rfl (Nat.le_of_ble_eq_true rfl) h (fun x2 μ2 hm h => ?_)
      have hk := hm.k hk (by decide)
      refine a_if_ne (tgt := 74) dX8_leads_45 rfl h (fun h => ?_) (fun h => ?_)
      ·
        refine a_aload_n 0 dX8_leads_74 rfl rfl ?_
        refine a_iconst dX8_leads_75 (okI_b _ rfl) ?_
        refine a_putfi (c := 8) (i := 74) dX8_leads_76 fRX8_430 g8_74 (Or.inl rfl) rfl hk h (fun μ3 hm h => ?_)
        have hk := hm.k hk (by decide)
        exact a_sub [0, 1, 2] rfl (tX8_leads_79 E l _ k24 p24 N N l0 l1 l2 μ3 t hk h)
      ·
        refine a_aload_n 0 dX8_leads_48 rfl rfl ?_
        refine a_iload_n 1 dX8_leads_49 rfl rfl ?_
        refine a_cVv (c := 8) [vi l1] [] dX8_leads_50 myX8_asThere mRX8_502 mvX8_asThere rfl (by decide) hk (fun _ hj => tX8_asThere E l N l0 l1 μ2 _ hk hj) (by decide) rfl (Nat.le_of_ble_eq_true rfl) h (fun μ4 hm h => ?_)
        have hk := hm.k hk (by decide)
        refine a_aload_n 0 dX8_leads_53 rfl rfl ?_
        refine a_iload_n 1 dX8_leads_54 rfl rfl ?_
        refine a_iload_n 2 dX8_leads_55 rfl rfl ?_
        refine a_iconst dX8_leads_56 (okI_b _ rfl) ?_
        refine a_iconst dX8_leads_57 (okI_b _ rfl) ?_
        refine a_iconst dX8_leads_58 (okI_b _ rfl) ?_
        refine a_cVi (c := 8) [vi l1, vi l2, vi 0, vi 0, vi 0] [] dX8_leads_59 myX8_ends mRX8_458 mvX8_ends rfl (by decide) hk (fun _ hj => tX8_ends E l N l0 l1 l2 0 0 0 μ4 _ hk hj) (by decide) rfl (Nat.le_of_ble_eq_true rfl) h (fun x3 μ5 hm h => ?_)
        have hk := hm.k hk (by decide)
        refine a_if_eq (tgt := 119) dX8_leads_62 rfl h (fun h => ?_) (fun h => ?_)
        ·
          exact a_sub [0, 1, 2] rfl (tX8_leads_119 E l _ k24 p24 N l0 l1 l2 μ5 t hk h)
        ·
          refine a_aload_n 0 dX8_leads_65 rfl rfl ?_
          refine a_iload_n 1 dX8_leads_66 rfl rfl ?_
          refine a_iload_n 2 dX8_leads_67 rfl rfl ?_
          refine a_cVv (c := 8) [vi l1, vi l2] [] dX8_leads_68 myX8_leadsOn mRX8_510 mvX8_leadsOn rfl (by decide) hk (fun _ hj => tX8_leadsOn E l N l0 l1 l2 μ5 _ hk hj) (by decide) rfl (Nat.le_of_ble_eq_true rfl) h (fun μ6 hm h => ?_)
          have hk := hm.k hk (by decide)
          refine a_goto (tgt := 119) dX8_leads_71 rfl ?_
          exact a_sub [0, 1, 2] rfl (tX8_leads_119 E l _ k24 p24 N l0 l1 l2 μ6 t hk h)
    ·
      refine a_goto (tgt := 119) dX8_leads_37 rfl ?_
      exact a_sub [0, 1, 2] rfl (tX8_leads_119 E l _ k24 p24 N l0 l1 l2 μ1 t hk h)
theorem tX8_leads_24 (E : m_E) (l : Launch) (z : Nat × Nat) (N : Nat) : ∀ (n : Nat) (l0 l1 l2 : Int) (μ : Mm) (t : Mm), m_kd μ l0 = (8, 0) → jX8_leads_24 N n l0 l1 l2 μ = some t → aX8_leads E l 6 z 24 [(0, vr l0), (1, vi l1), (2, vi l2)] [] μ (rV t)
  | 0, _, _, _, _, _, _, h => by cases h
  | n + 1, l0, l1, l2, μ, t, hk, h => tX8_leads_24b E l z (jX8_leads_24 N n) (tX8_leads_24 E l z N n) N l0 l1 l2 μ t hk h
theorem tX8_leads_2b (E : m_E) (l : Launch) (z : Nat × Nat) (k2 : Int → Int → Int → Mm → Option (Mm)) (p2 : ∀ (l0 l1 l2 : Int) (μ : Mm) (t : Mm), m_kd μ l0 = (8, 0) → k2 l0 l1 l2 μ = some t → aX8_leads E l 6 z 2 [(0, vr l0), (1, vi l1), (2, vi l2)] [] μ (rV t)) (N : Nat) (l0 l1 l2 : Int) (μ : Mm) (t : Mm) (hk : m_kd μ l0 = (8, 0)) (h : jX8_leads_2b k2 N l0 l1 l2 μ = some t) : aX8_leads E l 6 z 2 [(0, vr l0), (1, vi l1), (2, vi l2)] [] μ (rV t) := by
  unfold jX8_leads_2b at h
  refine a_iload_n 2 dX8_leads_2 rfl rfl ?_
  refine a_sipush dX8_leads_3 ⟨rfl, okI_b _ rfl⟩ ?_
  refine a_icmp_ge (tgt := 22) dX8_leads_6 rfl h (fun h => ?_) (fun h => ?_)
  ·
    refine a_iconst dX8_leads_22 (okI_b _ rfl) ?_
    refine a_istore_n (L' := [(2, vi 0), (0, vr l0), (1, vi l1)]) dX8_leads_23 rfl (by decide) rfl ?_
    exact a_sub [1, 2, 0] rfl (tX8_leads_24 E l _ N N l0 l1 0 μ t hk h)
  ·
    refine a_aload_n 0 dX8_leads_9 rfl rfl ?_
    refine a_getfr (c := 8) (i := 80) dX8_leads_10 fRX8_165 g8_80 rfl hk ?_
    refine a_iload_n 2 dX8_leads_13 rfl rfl ?_
    refine a_iconst dX8_leads_14 (okI_b _ rfl) ?_
    refine a_zast (hz := Or.inl rfl) dX8_leads_15 h (fun μ1 hm h => ?_)
    have hk := hm.k hk (by decide)
    refine a_iinc (F := fun x1 => [(2, vi x1), (0, vr l0), (1, vi l1)]) 2 dX8_leads_16 rfl (by decide) h (fun _ => rfl) (fun x1 h => ?_)
    refine a_goto (tgt := 2) dX8_leads_19 rfl ?_
    exact a_sub [1, 2, 0] rfl (p2 l0 l1 x1 μ1 t hk h)
theorem tX8_leads_2 (E : m_E) (l : Launch) (z : Nat × Nat) (N : Nat) : ∀ (n : Nat) (l0 l1 l2 : Int) (μ : Mm) (t : Mm), m_kd μ l0 = (8, 0) → jX8_leads_2 N n l0 l1 l2 μ = some t → aX8_leads E l 6 z 2 [(0, vr l0), (1, vi l1), (2, vi l2)] [] μ (rV t)
  | 0, _, _, _, _, _, _, h => by cases h
  | n + 1, l0, l1, l2, μ, t, hk, h => tX8_leads_2b E l z (jX8_leads_2 N n) (tX8_leads_2 E l z N n) N l0 l1 l2 μ t hk h
theorem tX8_leads (E : m_E) (l : Launch) (N : Nat) (l0 l1 : Int) (μ : Mm) (t : Mm) (hk : m_kd μ l0 = (8, 0)) (h : jX8_leads N l0 l1 μ = some t) : TT E l 6 yX8_leads cX8_leads 3 none [vr l0, vi l1] μ (rV t) := by
  refine tt_of (L := [(0, vr l0), (1, vi l1)]) (by decide +kernel) (Nat.le_of_ble_eq_true rfl) rfl ?_
  show aX8_leads E l 6 (m_sz μ, m_sl μ) 0 [(0, vr l0), (1, vi l1)] [] μ (rV t)
  unfold jX8_leads at h
  refine a_iconst dX8_leads_0 (okI_b _ rfl) ?_
  refine a_istore_n (L' := [(2, vi 0), (0, vr l0), (1, vi l1)]) dX8_leads_1 rfl (by decide) rfl ?_
  exact a_sub [1, 2, 0] rfl (tX8_leads_2 E l _ N N l0 l1 0 μ t hk h)
-- X8_must
abbrev aX8_must (E : m_E) (l : Launch) (d : Nat) (z : Nat × Nat) (pc : Nat) (L : List (Nat × AV)) (st : List AV) (μ : Mm) (ρ : Option AV × Mm) : Prop := AA E l d z RX8 "must" cX8_must 6 (some .int) pc L st μ ρ
theorem tX8_must_273 (E : m_E) (l : Launch) (z : Nat × Nat) (k119 : Int → Int → Int → Int → Int → Int → Mm → Option (Int × Mm)) (p119 : ∀ (l0 l1 l2 l3 l4 l5 : Int) (μ : Mm) (t : Int × Mm), m_kd μ l0 = (8, 0) → k119 l0 l1 l2 l3 l4 l5 μ = some t → aX8_must E l 8 z 119 [(0, vr l0), (1, vi l1), (2, vi l2), (3, vi l3), (4, vi l4), (5, vi l5)] [] μ (rI t)) (N : Nat) (l0 l1 l2 l3 l4 l5 : Int) (μ : Mm) (t : Int × Mm) (hk : m_kd μ l0 = (8, 0)) (h : jX8_must_273 k119 N l0 l1 l2 l3 l4 l5 μ = some t) : aX8_must E l 8 z 273 [(0, vr l0), (1, vi l1), (2, vi l2), (3, vi l3), (4, vi l4), (5, vi l5)] [] μ (rI t) := by
  unfold jX8_must_273 at h
  refine a_iinc (F := fun x1 => [(5, vi x1), (0, vr l0), (1, vi l1), (2, vi l2), (3, vi l3), (4, vi l4)]) 5 dX8_must_273 rfl (by decide) h (fun _ => rfl) (fun x1 h => ?_)
  refine a_goto (tgt := 119) dX8_must_276 rfl ?_
  exact a_sub [1, 2, 3, 4, 5, 0] rfl (p119 l0 l1 l2 l3 l4 x1 μ t hk h)
theorem tX8_must_199b (E : m_E) (l : Launch) (z : Nat × Nat) (k119 : Int → Int → Int → Int → Int → Int → Mm → Option (Int × Mm)) (p119 : ∀ (l0 l1 l2 l3 l4 l5 : Int) (μ : Mm) (t : Int × Mm), m_kd μ l0 = (8, 0) → k119 l0 l1 l2 l3 l4 l5 μ = some t → aX8_must E l 8 z 119 [(0, vr l0), (1, vi l1), (2, vi l2), (3, vi l3), (4, vi l4), (5, vi l5)] [] μ (rI t)) (k199 : Int → Int → Int → Int → Int → Int → Mm → Option (Int × Mm)) (p199 : ∀ (l0 l1 l2 l3 l4 l5 : Int) (μ : Mm) (t : Int × Mm), m_kd μ l0 = (8, 0) → k199 l0 l1 l2 l3 l4 l5 μ = some t → aX8_must E l 8 z 199 [(0, vr l0), (1, vi l1), (2, vi l2), (3, vi l3), (4, vi l4), (5, vi l5)] [] μ (rI t)) (N : Nat) (l0 l1 l2 l3 l4 l5 : Int) (μ : Mm) (t : Int × Mm) (hk : m_kd μ l0 = (8, 0)) (h : jX8_must_199b k119 k199 N l0 l1 l2 l3 l4 l5 μ = some t) : aX8_must E l 8 z 199 [(0, vr l0), (1, vi l1), (2, vi l2), (3, vi l3), (4, vi l4), (5, vi l5)] [] μ (rI t) := by
  unfold jX8_must_199b at h
  refine a_aload_n 0 dX8_must_199 rfl rfl ?_
  refine a_aload_n 0 dX8_must_200 rfl rfl ?_
  refine a_getfr (c := 8) (i := 31) dX8_must_201 fRX8_84 g8_31 rfl hk ?_
  refine a_iconst dX8_must_204 (okI_b _ rfl) ?_
  refine a_iald dX8_must_205 h (fun x1 h => ?_)
  refine a_aload_n 0 dX8_must_206 rfl rfl ?_
  refine a_getfr (c := 8) (i := 33) dX8_must_207 fRX8_90 g8_33 rfl hk ?_
  refine a_iconst dX8_must_210 (okI_b _ rfl) ?_
  refine a_iald dX8_must_211 h (fun x2 h => ?_)
  refine a_cVi (c := 8) [vi x1, vi x2] [] dX8_must_212 myX8_nextRow mRX8_454 mvX8_nextRow rfl (by decide) hk (fun _ hj => tX8_nextRow E l N l0 x1 x2 μ _ hk hj) (by decide) rfl (Nat.le_of_ble_eq_true rfl) h (fun x3 μ1 hm h => ?_)
  have hk := hm.k hk (by decide)
  refine a_if_eq (tgt := 273) dX8_must_215 rfl h (fun h => ?_) (fun h => ?_)
  ·
    exact a_sub [0, 1, 2, 3, 4, 5] rfl (tX8_must_273 E l _ k119 p119 N l0 l1 l2 l3 l4 l5 μ1 t hk h)
  ·
    refine a_iload 4 dX8_must_218 rfl ?_
    refine a_aload_n 0 dX8_must_220 rfl rfl ?_
    refine a_getfr (c := 8) (i := 73) dX8_must_221 fRX8_156 g8_73 rfl hk ?_
    refine a_iconst dX8_must_224 (okI_b _ rfl) ?_
    refine a_iald dX8_must_225 h (fun x4 h => ?_)
    refine a_ishr dX8_must_226 ?_
    refine a_iconst dX8_must_227 (okI_b _ rfl) ?_
    refine a_iand dX8_must_228 ?_
    refine a_if_ne (tgt := 199) dX8_must_229 rfl h (fun h => ?_) (fun h => ?_)
    ·
      exact a_sub [0, 1, 2, 3, 4, 5] rfl (p199 l0 l1 l2 l3 l4 l5 μ1 t hk h)
    ·
      refine a_aload_n 0 dX8_must_232 rfl rfl ?_
      refine a_iload_n 1 dX8_must_233 rfl rfl ?_
      refine a_iload 5 dX8_must_234 rfl ?_
      refine a_iconst dX8_must_236 (okI_b _ rfl) ?_
      refine a_iconst dX8_must_237 (okI_b _ rfl) ?_
      refine a_iconst dX8_must_238 (okI_b _ rfl) ?_
      refine a_cVi (c := 8) [vi l1, vi l5, vi 0, vi 0, vi 0] [] dX8_must_239 myX8_ends mRX8_458 mvX8_ends rfl (by decide) hk (fun _ hj => tX8_ends E l N l0 l1 l5 0 0 0 μ1 _ hk hj) (by decide) rfl (Nat.le_of_ble_eq_true rfl) h (fun x5 μ2 hm h => ?_)
      have hk := hm.k hk (by decide)
      refine a_if_eq (tgt := 199) dX8_must_242 rfl h (fun h => ?_) (fun h => ?_)
      ·
        exact a_sub [0, 1, 2, 3, 4, 5] rfl (p199 l0 l1 l2 l3 l4 l5 μ2 t hk h)
      ·
        refine a_aload_n 0 dX8_must_245 rfl rfl ?_
        refine a_iload_n 1 dX8_must_246 rfl rfl ?_
        refine a_iload 5 dX8_must_247 rfl ?_
        refine a_iload_n 2 dX8_must_249 rfl rfl ?_
        refine a_iload_n 3 dX8_must_250 rfl rfl ?_
        refine a_cVi (c := 8) [vi l1, vi l5, vi l2, vi l3] [] dX8_must_251 myX8_isThrough mRX8_522 mvX8_isThrough rfl (by decide) hk (fun _ hj => tX8_isThrough E l N l0 l1 l5 l2 l3 μ2 _ hk hj) (by decide) rfl (Nat.le_of_ble_eq_true rfl) h (fun x6 μ3 hm h => ?_)
        have hk := hm.k hk (by decide)
        refine a_if_eq (tgt := 199) dX8_must_254 rfl h (fun h => ?_) (fun h => ?_)
        ·
          exact a_sub [0, 1, 2, 3, 4, 5] rfl (p199 l0 l1 l2 l3 l4 l5 μ3 t hk h)
        ·
          refine a_iload 4 dX8_must_257 rfl ?_
          refine a_iconst dX8_must_259 (okI_b _ rfl) ?_
          refine a_aload_n 0 dX8_must_260 rfl rfl ?_
          refine a_getfr (c := 8) (i := 73) dX8_must_261 fRX8_156 g8_73 rfl hk ?_
          refine a_iconst dX8_must_264 (okI_b _ rfl) ?_
          refine a_iald dX8_must_265 h (fun x7 h => ?_)
          refine a_ishl dX8_must_266 ?_
          refine a_ior dX8_must_267 ?_
          refine a_nmi h (fun x8 h => ?_)
          refine a_istore (L' := [(4, vi x8), (0, vr l0), (1, vi l1), (2, vi l2), (3, vi l3), (5, vi l5)]) dX8_must_268 (by decide) rfl ?_
          refine a_goto (tgt := 199) dX8_must_270 rfl ?_
          exact a_sub [1, 2, 3, 4, 0, 5] rfl (p199 l0 l1 l2 l3 x8 l5 μ3 t hk h)
theorem tX8_must_199 (E : m_E) (l : Launch) (z : Nat × Nat) (k119 : Int → Int → Int → Int → Int → Int → Mm → Option (Int × Mm)) (p119 : ∀ (l0 l1 l2 l3 l4 l5 : Int) (μ : Mm) (t : Int × Mm), m_kd μ l0 = (8, 0) → k119 l0 l1 l2 l3 l4 l5 μ = some t → aX8_must E l 8 z 119 [(0, vr l0), (1, vi l1), (2, vi l2), (3, vi l3), (4, vi l4), (5, vi l5)] [] μ (rI t)) (N : Nat) : ∀ (n : Nat) (l0 l1 l2 l3 l4 l5 : Int) (μ : Mm) (t : Int × Mm), m_kd μ l0 = (8, 0) → jX8_must_199 k119 N n l0 l1 l2 l3 l4 l5 μ = some t → aX8_must E l 8 z 199 [(0, vr l0), (1, vi l1), (2, vi l2), (3, vi l3), (4, vi l4), (5, vi l5)] [] μ (rI t)
  | 0, _, _, _, _, _, _, _, _, _, h => by cases h
  | n + 1, l0, l1, l2, l3, l4, l5, μ, t, hk, h => tX8_must_199b E l z k119 p119 (jX8_must_199 k119 N n) (tX8_must_199 E l z k119 p119 N n) N l0 l1 l2 l3 l4 l5 μ t hk h
theorem tX8_must_119b (E : m_E) (l : Launch) (z : Nat × Nat) (k119 : Int → Int → Int → Int → Int → Int → Mm → Option (Int × Mm)) (p119 : ∀ (l0 l1 l2 l3 l4 l5 : Int) (μ : Mm) (t : Int × Mm), m_kd μ l0 = (8, 0) → k119 l0 l1 l2 l3 l4 l5 μ = some t → aX8_must E l 8 z 119 [(0, vr l0), (1, vi l1), (2, vi l2), (3, vi l3), (4, vi l4), (5, vi l5)] [] μ (rI t)) (N : Nat) (l0 l1 l2 l3 l4 l5 : Int) (μ : Mm) (t : Int × Mm) (hk : m_kd μ l0 = (8, 0)) (h : jX8_must_119b k119 N l0 l1 l2 l3 l4 l5 μ = some t) : aX8_must E l 8 z 119 [(0, vr l0), (1, vi l1), (2, vi l2), (3, vi l3), (4, vi l4), (5, vi l5)] [] μ (rI t) := by
  unfold jX8_must_119b at h
  refine a_iload 5 dX8_must_119 rfl ?_
  refine a_bipush dX8_must_121 ⟨rfl, okI_b _ rfl⟩ ?_
  refine a_icmp_ge (tgt := 279) dX8_must_123 rfl h (fun h => ?_) (fun h => ?_)
  ·
    refine a_iload 4 dX8_must_279 rfl ?_
    exact a_reti dX8_must_281 h
  ·
    refine a_iload 5 dX8_must_126 rfl ?_
    refine a_cSi [vi l5] [] dX8_must_128 myX8_isOwing mRX8_473 msX8_isOwing (fun _ hj => tX8_isOwing E l N l5 μ _  hj) (by decide) rfl (Nat.le_of_ble_eq_true rfl) h (fun x1 μ1 hm h => ?_)
    have hk := hm.k hk (by decide)
    refine a_if_ne (tgt := 137) dX8_must_131 rfl h (fun h => ?_) (fun h => ?_)
    ·
      refine a_aload_n 0 dX8_must_137 rfl rfl ?_
      refine a_iload_n 1 dX8_must_138 rfl rfl ?_
      refine a_cVi (c := 8) [vi l1] [] dX8_must_139 myX8_isTorn mRX8_496 mvX8_isTorn rfl (by decide) hk (fun _ hj => tX8_isTorn E l N l0 l1 μ1 _ hk hj) (by decide) rfl (Nat.le_of_ble_eq_true rfl) h (fun x2 μ2 hm h => ?_)
      have hk := hm.k hk (by decide)
      refine a_if_ne (tgt := 194) dX8_must_142 rfl h (fun h => ?_) (fun h => ?_)
      ·
        refine a_aload_n 0 dX8_must_194 rfl rfl ?_
        refine a_iconst dX8_must_195 (okI_b _ rfl) ?_
        refine a_putfi (c := 8) (i := 74) dX8_must_196 fRX8_430 g8_74 (Or.inl rfl) rfl hk h (fun μ3 hm h => ?_)
        have hk := hm.k hk (by decide)
        exact a_sub [0, 1, 2, 3, 4, 5] rfl (tX8_must_199 E l _ k119 p119 N N l0 l1 l2 l3 l4 l5 μ3 t hk h)
      ·
        refine a_aload_n 0 dX8_must_145 rfl rfl ?_
        refine a_iload_n 1 dX8_must_146 rfl rfl ?_
        refine a_cVv (c := 8) [vi l1] [] dX8_must_147 myX8_asThere mRX8_502 mvX8_asThere rfl (by decide) hk (fun _ hj => tX8_asThere E l N l0 l1 μ2 _ hk hj) (by decide) rfl (Nat.le_of_ble_eq_true rfl) h (fun μ4 hm h => ?_)
        have hk := hm.k hk (by decide)
        refine a_aload_n 0 dX8_must_150 rfl rfl ?_
        refine a_iload_n 1 dX8_must_151 rfl rfl ?_
        refine a_iload 5 dX8_must_152 rfl ?_
        refine a_iconst dX8_must_154 (okI_b _ rfl) ?_
        refine a_iconst dX8_must_155 (okI_b _ rfl) ?_
        refine a_iconst dX8_must_156 (okI_b _ rfl) ?_
        refine a_cVi (c := 8) [vi l1, vi l5, vi 0, vi 0, vi 0] [] dX8_must_157 myX8_ends mRX8_458 mvX8_ends rfl (by decide) hk (fun _ hj => tX8_ends E l N l0 l1 l5 0 0 0 μ4 _ hk hj) (by decide) rfl (Nat.le_of_ble_eq_true rfl) h (fun x3 μ5 hm h => ?_)
        have hk := hm.k hk (by decide)
        refine a_if_eq (tgt := 273) dX8_must_160 rfl h (fun h => ?_) (fun h => ?_)
        ·
          exact a_sub [0, 1, 2, 3, 4, 5] rfl (tX8_must_273 E l _ k119 p119 N l0 l1 l2 l3 l4 l5 μ5 t hk h)
        ·
          refine a_aload_n 0 dX8_must_163 rfl rfl ?_
          refine a_iload_n 1 dX8_must_164 rfl rfl ?_
          refine a_iload 5 dX8_must_165 rfl ?_
          refine a_iload_n 2 dX8_must_167 rfl rfl ?_
          refine a_iload_n 3 dX8_must_168 rfl rfl ?_
          refine a_cVi (c := 8) [vi l1, vi l5, vi l2, vi l3] [] dX8_must_169 myX8_isThrough mRX8_522 mvX8_isThrough rfl (by decide) hk (fun _ hj => tX8_isThrough E l N l0 l1 l5 l2 l3 μ5 _ hk hj) (by decide) rfl (Nat.le_of_ble_eq_true rfl) h (fun x4 μ6 hm h => ?_)
          have hk := hm.k hk (by decide)
          refine a_if_eq (tgt := 273) dX8_must_172 rfl h (fun h => ?_) (fun h => ?_)
          ·
            exact a_sub [0, 1, 2, 3, 4, 5] rfl (tX8_must_273 E l _ k119 p119 N l0 l1 l2 l3 l4 l5 μ6 t hk h)
          ·
            refine a_iload 4 dX8_must_175 rfl ?_
            refine a_iconst dX8_must_177 (okI_b _ rfl) ?_
            refine a_aload_n 0 dX8_must_178 rfl rfl ?_
            refine a_getfr (c := 8) (i := 73) dX8_must_179 fRX8_156 g8_73 rfl hk ?_
            refine a_iconst dX8_must_182 (okI_b _ rfl) ?_
            refine a_iald dX8_must_183 h (fun x5 h => ?_)
            refine a_cSi [vi x5] [vi 1, vi l4] dX8_must_184 myX8_taken mRX8_391 msX8_taken (fun _ hj => tX8_taken E l N x5 μ6 _  hj) (by decide) rfl (Nat.le_of_ble_eq_true rfl) h (fun x6 μ7 hm h => ?_)
            have hk := hm.k hk (by decide)
            refine a_ishl dX8_must_187 ?_
            refine a_ior dX8_must_188 ?_
            refine a_nmi h (fun x7 h => ?_)
            refine a_istore (L' := [(4, vi x7), (0, vr l0), (1, vi l1), (2, vi l2), (3, vi l3), (5, vi l5)]) dX8_must_189 (by decide) rfl ?_
            refine a_goto (tgt := 273) dX8_must_191 rfl ?_
            exact a_sub [1, 2, 3, 4, 0, 5] rfl (tX8_must_273 E l _ k119 p119 N l0 l1 l2 l3 x7 l5 μ7 t hk h)
    ·
      refine a_goto (tgt := 273) dX8_must_134 rfl ?_
      exact a_sub [0, 1, 2, 3, 4, 5] rfl (tX8_must_273 E l _ k119 p119 N l0 l1 l2 l3 l4 l5 μ1 t hk h)
theorem tX8_must_119 (E : m_E) (l : Launch) (z : Nat × Nat) (N : Nat) : ∀ (n : Nat) (l0 l1 l2 l3 l4 l5 : Int) (μ : Mm) (t : Int × Mm), m_kd μ l0 = (8, 0) → jX8_must_119 N n l0 l1 l2 l3 l4 l5 μ = some t → aX8_must E l 8 z 119 [(0, vr l0), (1, vi l1), (2, vi l2), (3, vi l3), (4, vi l4), (5, vi l5)] [] μ (rI t)
  | 0, _, _, _, _, _, _, _, _, _, h => by cases h
  | n + 1, l0, l1, l2, l3, l4, l5, μ, t, hk, h => tX8_must_119b E l z (jX8_must_119 N n) (tX8_must_119 E l z N n) N l0 l1 l2 l3 l4 l5 μ t hk h
theorem tX8_must_95b (E : m_E) (l : Launch) (z : Nat × Nat) (k95 : Int → Int → Int → Int → Int → Mm → Option (Int × Mm)) (p95 : ∀ (l0 l1 l2 l3 l4 : Int) (μ : Mm) (t : Int × Mm), m_kd μ l0 = (8, 0) → k95 l0 l1 l2 l3 l4 μ = some t → aX8_must E l 8 z 95 [(0, vr l0), (1, vi l1), (2, vi l2), (3, vi l3), (4, vi l4)] [] μ (rI t)) (N : Nat) (l0 l1 l2 l3 l4 : Int) (μ : Mm) (t : Int × Mm) (hk : m_kd μ l0 = (8, 0)) (h : jX8_must_95b k95 N l0 l1 l2 l3 l4 μ = some t) : aX8_must E l 8 z 95 [(0, vr l0), (1, vi l1), (2, vi l2), (3, vi l3), (4, vi l4)] [] μ (rI t) := by
  unfold jX8_must_95b at h
  refine a_iload 4 dX8_must_95 rfl ?_
  refine a_iload_n 1 dX8_must_97 rfl rfl ?_
  refine a_icmp_ge (tgt := 113) dX8_must_98 rfl h (fun h => ?_) (fun h => ?_)
  ·
    refine a_iconst dX8_must_113 (okI_b _ rfl) ?_
    refine a_istore (L' := [(4, vi 0), (0, vr l0), (1, vi l1), (2, vi l2), (3, vi l3)]) dX8_must_114 (by decide) rfl ?_
    refine a_iconst dX8_must_116 (okI_b _ rfl) ?_
    refine a_istore (L' := [(5, vi 0), (4, vi 0), (0, vr l0), (1, vi l1), (2, vi l2), (3, vi l3)]) dX8_must_117 (by decide) rfl ?_
    exact a_sub [2, 3, 4, 5, 1, 0] rfl (tX8_must_119 E l _ N N l0 l1 l2 l3 0 0 μ t hk h)
  ·
    refine a_aload_n 0 dX8_must_101 rfl rfl ?_
    refine a_iload 4 dX8_must_102 rfl ?_
    refine a_cVv (c := 8) [vi l4] [] dX8_must_104 myX8_leads mRX8_519 mvX8_leads rfl (by decide) hk (fun _ hj => tX8_leads E l N l0 l4 μ _ hk hj) (by decide) rfl (Nat.le_of_ble_eq_true rfl) h (fun μ1 hm h => ?_)
    have hk := hm.k hk (by decide)
    refine a_iinc (F := fun x1 => [(4, vi x1), (0, vr l0), (1, vi l1), (2, vi l2), (3, vi l3)]) 4 dX8_must_107 rfl (by decide) h (fun _ => rfl) (fun x1 h => ?_)
    refine a_goto (tgt := 95) dX8_must_110 rfl ?_
    exact a_sub [1, 2, 3, 4, 0] rfl (p95 l0 l1 l2 l3 x1 μ1 t hk h)
theorem tX8_must_95 (E : m_E) (l : Launch) (z : Nat × Nat) (N : Nat) : ∀ (n : Nat) (l0 l1 l2 l3 l4 : Int) (μ : Mm) (t : Int × Mm), m_kd μ l0 = (8, 0) → jX8_must_95 N n l0 l1 l2 l3 l4 μ = some t → aX8_must E l 8 z 95 [(0, vr l0), (1, vi l1), (2, vi l2), (3, vi l3), (4, vi l4)] [] μ (rI t)
  | 0, _, _, _, _, _, _, _, _, h => by cases h
  | n + 1, l0, l1, l2, l3, l4, μ, t, hk, h => tX8_must_95b E l z (jX8_must_95 N n) (tX8_must_95 E l z N n) N l0 l1 l2 l3 l4 μ t hk h
theorem tX8_must_85 (E : m_E) (l : Launch) (z : Nat × Nat) (k58 : Int → Int → Int → Int → Int → Mm → Option (Int × Mm)) (p58 : ∀ (l0 l1 l2 l3 l4 : Int) (μ : Mm) (t : Int × Mm), m_kd μ l0 = (8, 0) → k58 l0 l1 l2 l3 l4 μ = some t → aX8_must E l 8 z 58 [(0, vr l0), (1, vi l1), (2, vi l2), (3, vi l3), (4, vi l4)] [] μ (rI t)) (N : Nat) (l0 l1 l2 l3 l4 s0 s1 s2 : Int) (μ : Mm) (t : Int × Mm) (hk : m_kd μ l0 = (8, 0)) (h : jX8_must_85 k58 N l0 l1 l2 l3 l4 s0 s1 s2 μ = some t) : aX8_must E l 8 z 85 [(0, vr l0), (1, vi l1), (2, vi l2), (3, vi l3), (4, vi l4)] [vi s0, vi s1, vr s2] μ (rI t) := by
  unfold jX8_must_85 at h
  refine z_k h (fun hz h => ?_)
  refine a_zast (hz := hz) dX8_must_85 h (fun μ1 hm h => ?_)
  have hk := hm.k hk (by decide)
  refine a_iinc (F := fun x1 => [(4, vi x1), (0, vr l0), (1, vi l1), (2, vi l2), (3, vi l3)]) 4 dX8_must_86 rfl (by decide) h (fun _ => rfl) (fun x1 h => ?_)
  refine a_goto (tgt := 58) dX8_must_89 rfl ?_
  exact a_sub [1, 2, 3, 4, 0] rfl (p58 l0 l1 l2 l3 x1 μ1 t hk h)
theorem tX8_must_58b (E : m_E) (l : Launch) (z : Nat × Nat) (k58 : Int → Int → Int → Int → Int → Mm → Option (Int × Mm)) (p58 : ∀ (l0 l1 l2 l3 l4 : Int) (μ : Mm) (t : Int × Mm), m_kd μ l0 = (8, 0) → k58 l0 l1 l2 l3 l4 μ = some t → aX8_must E l 8 z 58 [(0, vr l0), (1, vi l1), (2, vi l2), (3, vi l3), (4, vi l4)] [] μ (rI t)) (N : Nat) (l0 l1 l2 l3 l4 : Int) (μ : Mm) (t : Int × Mm) (hk : m_kd μ l0 = (8, 0)) (h : jX8_must_58b k58 N l0 l1 l2 l3 l4 μ = some t) : aX8_must E l 8 z 58 [(0, vr l0), (1, vi l1), (2, vi l2), (3, vi l3), (4, vi l4)] [] μ (rI t) := by
  unfold jX8_must_58b at h
  refine a_iload 4 dX8_must_58 rfl ?_
  refine a_sipush dX8_must_60 ⟨rfl, okI_b _ rfl⟩ ?_
  refine a_icmp_ge (tgt := 92) dX8_must_63 rfl h (fun h => ?_) (fun h => ?_)
  ·
    refine a_iconst dX8_must_92 (okI_b _ rfl) ?_
    refine a_istore (L' := [(4, vi 0), (0, vr l0), (1, vi l1), (2, vi l2), (3, vi l3)]) dX8_must_93 (by decide) rfl ?_
    exact a_sub [1, 2, 3, 4, 0] rfl (tX8_must_95 E l _ N N l0 l1 l2 l3 0 μ t hk h)
  ·
    refine a_aload_n 0 dX8_must_66 rfl rfl ?_
    refine a_getfr (c := 8) (i := 79) dX8_must_67 fRX8_162 g8_79 rfl hk ?_
    refine a_iload 4 dX8_must_70 rfl ?_
    refine a_iload 4 dX8_must_72 rfl ?_
    refine a_sipush dX8_must_74 ⟨rfl, okI_b _ rfl⟩ ?_
    refine a_icmp_ne (tgt := 84) dX8_must_77 rfl h (fun h => ?_) (fun h => ?_)
    ·
      refine a_iconst dX8_must_84 (okI_b _ rfl) ?_
      exact a_sub [0, 1, 2, 3, 4] rfl (tX8_must_85 E l _ k58 p58 N l0 l1 l2 l3 l4 0 l4 (m_gt μ l0 79) μ t hk h)
    ·
      refine a_iconst dX8_must_80 (okI_b _ rfl) ?_
      refine a_goto (tgt := 85) dX8_must_81 rfl ?_
      exact a_sub [0, 1, 2, 3, 4] rfl (tX8_must_85 E l _ k58 p58 N l0 l1 l2 l3 l4 1 l4 (m_gt μ l0 79) μ t hk h)
theorem tX8_must_58 (E : m_E) (l : Launch) (z : Nat × Nat) (N : Nat) : ∀ (n : Nat) (l0 l1 l2 l3 l4 : Int) (μ : Mm) (t : Int × Mm), m_kd μ l0 = (8, 0) → jX8_must_58 N n l0 l1 l2 l3 l4 μ = some t → aX8_must E l 8 z 58 [(0, vr l0), (1, vi l1), (2, vi l2), (3, vi l3), (4, vi l4)] [] μ (rI t)
  | 0, _, _, _, _, _, _, _, _, h => by cases h
  | n + 1, l0, l1, l2, l3, l4, μ, t, hk, h => tX8_must_58b E l z (jX8_must_58 N n) (tX8_must_58 E l z N n) N l0 l1 l2 l3 l4 μ t hk h
theorem tX8_must_51 (E : m_E) (l : Launch) (z : Nat × Nat) (N : Nat) (l0 l1 l2 l3 : Int) (μ : Mm) (t : Int × Mm) (hk : m_kd μ l0 = (8, 0)) (h : jX8_must_51 N l0 l1 l2 l3 μ = some t) : aX8_must E l 8 z 51 [(0, vr l0), (1, vi l1), (2, vi l2), (3, vi l3)] [] μ (rI t) := by
  unfold jX8_must_51 at h
  refine a_aload_n 0 dX8_must_51 rfl rfl ?_
  refine a_cVv (c := 8) [] [] dX8_must_52 myX8_tellsFits mRX8_507 mvX8_tellsFits rfl (by decide) hk (fun _ hj => tX8_tellsFits E l N l0 μ _ hk hj) (by decide) rfl (Nat.le_of_ble_eq_true rfl) h (fun μ1 hm h => ?_)
  have hk := hm.k hk (by decide)
  refine a_iconst dX8_must_55 (okI_b _ rfl) ?_
  refine a_istore (L' := [(4, vi 0), (0, vr l0), (1, vi l1), (2, vi l2), (3, vi l3)]) dX8_must_56 (by decide) rfl ?_
  exact a_sub [1, 2, 3, 4, 0] rfl (tX8_must_58 E l _ N N l0 l1 l2 l3 0 μ1 t hk h)
theorem tX8_must_29 (E : m_E) (l : Launch) (z : Nat × Nat) (N : Nat) (l0 : Int) (μ : Mm) (t : Int × Mm) (hk : m_kd μ l0 = (8, 0)) (h : jX8_must_29 N l0 μ = some t) : aX8_must E l 8 z 29 [(0, vr l0)] [] μ (rI t) := by
  unfold jX8_must_29 at h
  refine a_iconst dX8_must_29 (okI_b _ rfl) ?_
  exact a_reti dX8_must_30 h
theorem tX8_must (E : m_E) (l : Launch) (N : Nat) (l0 l1 l2 l3 : Int) (μ : Mm) (t : Int × Mm) (hk : m_kd μ l0 = (8, 0)) (h : jX8_must N l0 l1 l2 l3 μ = some t) : TT E l 8 yX8_must cX8_must 6 (some .int) [vr l0, vi l1, vi l2, vi l3] μ (rI t) := by
  refine tt_of (L := [(0, vr l0), (1, vi l1), (2, vi l2), (3, vi l3)]) (by decide +kernel) (Nat.le_of_ble_eq_true rfl) rfl ?_
  show aX8_must E l 8 (m_sz μ, m_sl μ) 0 [(0, vr l0), (1, vi l1), (2, vi l2), (3, vi l3)] [] μ (rI t)
  unfold jX8_must at h
  refine a_aload_n 0 dX8_must_0 rfl rfl ?_
  refine a_cVv (c := 8) [] [] dX8_must_1 myX8_goesThrough mRX8_410 mvX8_goesThrough rfl (by decide) hk (fun _ hj => tX8_goesThrough E l N l0 μ _ hk hj) (by decide) rfl (Nat.le_of_ble_eq_true rfl) h (fun μ1 hm h => ?_)
  have hk := hm.k hk (by decide)
  refine a_aload_n 0 dX8_must_4 rfl rfl ?_
  refine a_getfz (c := 8) (i := 68) dX8_must_5 fRX8_404 g8_68 rfl hk ?_
  refine a_if_eq (tgt := 29) dX8_must_8 rfl h (fun h => ?_) (fun h => ?_)
  ·
    exact a_sub [0] rfl (tX8_must_29 E l _ N l0 μ1 t hk h)
  ·
    refine a_iload_n 1 dX8_must_11 rfl rfl ?_
    refine a_i2l dX8_must_12 ?_
    refine a_lconst (v := 0) dX8_must_13 ⟨rfl, okJ_b _ rfl⟩ ?_
    refine a_aload_n 0 dX8_must_14 rfl rfl ?_
    refine a_getfr (c := 8) (i := 32) dX8_must_15 fRX8_87 g8_32 rfl hk ?_
    refine a_iconst dX8_must_18 (okI_b _ rfl) ?_
    refine a_iald dX8_must_19 h (fun x1 h => ?_)
    refine a_iconst dX8_must_20 (okI_b _ rfl) ?_
    refine a_isub dX8_must_21 ?_
    refine a_i2l dX8_must_22 ?_
    refine a_cSi [vl (i_2l l1), vl 0, vl (i_2l (i_sub x1 1))] [] dX8_must_23 myX8_isIn mRX8_223 msX8_isIn (fun _ hj => tX8_isIn E l N (i_2l l1) 0 (i_2l (i_sub x1 1)) μ1 _  hj) (by decide) rfl (Nat.le_of_ble_eq_true rfl) h (fun x2 μ2 hm h => ?_)
    have hk := hm.k hk (by decide)
    refine a_if_ne (tgt := 31) dX8_must_26 rfl h (fun h => ?_) (fun h => ?_)
    ·
      refine a_iload_n 3 dX8_must_31 rfl rfl ?_
      refine a_if_ne (tgt := 51) dX8_must_32 rfl h (fun h => ?_) (fun h => ?_)
      ·
        exact a_sub [0, 1, 2, 3] rfl (tX8_must_51 E l _ N l0 l1 l2 l3 μ2 t hk h)
      ·
        refine a_iload_n 2 dX8_must_35 rfl rfl ?_
        refine a_i2l dX8_must_36 ?_
        refine a_ldc2 (x := (-920)) dX8_must_37 kRX8_515 ⟨rfl, okJ_b _ rfl⟩ ?_
        refine a_ldc2 (x := 2120) dX8_must_40 kRX8_517 ⟨rfl, okJ_b _ rfl⟩ ?_
        refine a_cSi [vl (i_2l l2), vl (-920), vl 2120] [] dX8_must_43 myX8_isIn mRX8_223 msX8_isIn (fun _ hj => tX8_isIn E l N (i_2l l2) (-920) 2120 μ2 _  hj) (by decide) rfl (Nat.le_of_ble_eq_true rfl) h (fun x3 μ3 hm h => ?_)
        have hk := hm.k hk (by decide)
        refine a_if_ne (tgt := 51) dX8_must_46 rfl h (fun h => ?_) (fun h => ?_)
        ·
          exact a_sub [0, 1, 2, 3] rfl (tX8_must_51 E l _ N l0 l1 l2 l3 μ3 t hk h)
        ·
          refine a_iconst dX8_must_49 (okI_b _ rfl) ?_
          exact a_reti dX8_must_50 h
    ·
      exact a_sub [0] rfl (tX8_must_29 E l _ N l0 μ2 t hk h)
-- X8_needs
abbrev aX8_needs (E : m_E) (l : Launch) (d : Nat) (z : Nat × Nat) (pc : Nat) (L : List (Nat × AV)) (st : List AV) (μ : Mm) (ρ : Option AV × Mm) : Prop := AA E l d z RX8 "needs" cX8_needs 5 (some .int) pc L st μ ρ
theorem tX8_needs_43 (E : m_E) (l : Launch) (z : Nat × Nat) (k21 : Int → Int → Int → Int → Int → Mm → Option (Int × Mm)) (p21 : ∀ (l0 l1 l2 l3 l4 : Int) (μ : Mm) (t : Int × Mm), m_kd μ l0 = (8, 0) → k21 l0 l1 l2 l3 l4 μ = some t → aX8_needs E l 9 z 21 [(0, vr l0), (1, vi l1), (2, vi l2), (3, vi l3), (4, vi l4)] [] μ (rI t)) (N : Nat) (l0 l1 l2 l3 l4 s0 s1 : Int) (μ : Mm) (t : Int × Mm) (hk : m_kd μ l0 = (8, 0)) (h : jX8_needs_43 k21 N l0 l1 l2 l3 l4 s0 s1 μ = some t) : aX8_needs E l 9 z 43 [(0, vr l0), (1, vi l1), (2, vi l2), (3, vi l3), (4, vi l4)] [vi s0, vr s1] μ (rI t) := by
  unfold jX8_needs_43 at h
  refine m_chk_k h (fun hq0 h => ?_)
  refine a_cVi (c := 8) [vi s0] [] dX8_needs_43 myX8_endOfComing mRX8_492 mvX8_endOfComing rfl (by decide) hq0 (fun _ hj => tX8_endOfComing E l N s1 s0 μ _ hq0 hj) (by decide) rfl (Nat.le_of_ble_eq_true rfl) h (fun x1 μ1 hm h => ?_)
  have hk := hm.k hk (by decide)
  have hq0 := hm.k hq0 (by decide)
  refine a_iload_n 1 dX8_needs_46 rfl rfl ?_
  refine a_icmp_lt (tgt := 53) dX8_needs_47 rfl h (fun h => ?_) (fun h => ?_)
  ·
    refine a_iinc (F := fun x2 => [(4, vi x2), (0, vr l0), (1, vi l1), (2, vi l2), (3, vi l3)]) 4 dX8_needs_53 rfl (by decide) h (fun _ => rfl) (fun x2 h => ?_)
    refine a_goto (tgt := 21) dX8_needs_56 rfl ?_
    exact a_sub [1, 2, 3, 4, 0] rfl (p21 l0 l1 l2 l3 x2 μ1 t hk h)
  ·
    refine a_iload 4 dX8_needs_50 rfl ?_
    exact a_reti dX8_needs_52 h
theorem tX8_needs_21b (E : m_E) (l : Launch) (z : Nat × Nat) (k21 : Int → Int → Int → Int → Int → Mm → Option (Int × Mm)) (p21 : ∀ (l0 l1 l2 l3 l4 : Int) (μ : Mm) (t : Int × Mm), m_kd μ l0 = (8, 0) → k21 l0 l1 l2 l3 l4 μ = some t → aX8_needs E l 9 z 21 [(0, vr l0), (1, vi l1), (2, vi l2), (3, vi l3), (4, vi l4)] [] μ (rI t)) (N : Nat) (l0 l1 l2 l3 l4 : Int) (μ : Mm) (t : Int × Mm) (hk : m_kd μ l0 = (8, 0)) (h : jX8_needs_21b k21 N l0 l1 l2 l3 l4 μ = some t) : aX8_needs E l 9 z 21 [(0, vr l0), (1, vi l1), (2, vi l2), (3, vi l3), (4, vi l4)] [] μ (rI t) := by
  unfold jX8_needs_21b at h
  refine a_iload 4 dX8_needs_21 rfl ?_
  refine a_iload_n 3 dX8_needs_23 rfl rfl ?_
  refine a_icmp_gt (tgt := 59) dX8_needs_24 rfl h (fun h => ?_) (fun h => ?_)
  ·
    refine a_iconst dX8_needs_59 (okI_b _ rfl) ?_
    exact a_reti dX8_needs_60 h
  ·
    refine a_aload_n 0 dX8_needs_27 rfl rfl ?_
    refine a_iload 4 dX8_needs_28 rfl ?_
    refine a_cVv (c := 8) [vi l4] [] dX8_needs_30 myX8_tellsComing mRX8_489 mvX8_tellsComing rfl (by decide) hk (fun _ hj => tX8_tellsComing E l N l0 l4 μ _ hk hj) (by decide) rfl (Nat.le_of_ble_eq_true rfl) h (fun μ1 hm h => ?_)
    have hk := hm.k hk (by decide)
    refine a_aload_n 0 dX8_needs_33 rfl rfl ?_
    refine a_iload_n 2 dX8_needs_34 rfl rfl ?_
    refine a_if_ne (tgt := 42) dX8_needs_35 rfl h (fun h => ?_) (fun h => ?_)
    ·
      refine a_iconst dX8_needs_42 (okI_b _ rfl) ?_
      exact a_sub [0, 1, 2, 3, 4] rfl (tX8_needs_43 E l _ k21 p21 N l0 l1 l2 l3 l4 0 l0 μ1 t hk h)
    ·
      refine a_iconst dX8_needs_38 (okI_b _ rfl) ?_
      refine a_goto (tgt := 43) dX8_needs_39 rfl ?_
      exact a_sub [0, 1, 2, 3, 4] rfl (tX8_needs_43 E l _ k21 p21 N l0 l1 l2 l3 l4 1 l0 μ1 t hk h)
theorem tX8_needs_21 (E : m_E) (l : Launch) (z : Nat × Nat) (N : Nat) : ∀ (n : Nat) (l0 l1 l2 l3 l4 : Int) (μ : Mm) (t : Int × Mm), m_kd μ l0 = (8, 0) → jX8_needs_21 N n l0 l1 l2 l3 l4 μ = some t → aX8_needs E l 9 z 21 [(0, vr l0), (1, vi l1), (2, vi l2), (3, vi l3), (4, vi l4)] [] μ (rI t)
  | 0, _, _, _, _, _, _, _, _, h => by cases h
  | n + 1, l0, l1, l2, l3, l4, μ, t, hk, h => tX8_needs_21b E l z (jX8_needs_21 N n) (tX8_needs_21 E l z N n) N l0 l1 l2 l3 l4 μ t hk h
theorem tX8_needs (E : m_E) (l : Launch) (N : Nat) (l0 l1 l2 : Int) (μ : Mm) (t : Int × Mm) (hk : m_kd μ l0 = (8, 0)) (h : jX8_needs N l0 l1 l2 μ = some t) : TT E l 9 yX8_needs cX8_needs 5 (some .int) [vr l0, vi l1, vi l2] μ (rI t) := by
  refine tt_of (L := [(0, vr l0), (1, vi l1), (2, vi l2)]) (by decide +kernel) (Nat.le_of_ble_eq_true rfl) rfl ?_
  show aX8_needs E l 9 (m_sz μ, m_sl μ) 0 [(0, vr l0), (1, vi l1), (2, vi l2)] [] μ (rI t)
  unfold jX8_needs at h
  refine a_aload_n 0 dX8_needs_0 rfl rfl ?_
  refine a_cVv (c := 8) [] [] dX8_needs_1 myX8_goesThrough mRX8_410 mvX8_goesThrough rfl (by decide) hk (fun _ hj => tX8_goesThrough E l N l0 μ _ hk hj) (by decide) rfl (Nat.le_of_ble_eq_true rfl) h (fun μ1 hm h => ?_)
  have hk := hm.k hk (by decide)
  refine a_aload_n 0 dX8_needs_4 rfl rfl ?_
  refine a_getfz (c := 8) (i := 68) dX8_needs_5 fRX8_404 g8_68 rfl hk ?_
  refine a_if_eq (tgt := 13) dX8_needs_8 rfl h (fun h => ?_) (fun h => ?_)
  ·
    refine a_aload_n 0 dX8_needs_13 rfl rfl ?_
    refine a_getfi (c := 8) (i := 66) dX8_needs_14 fRX8_398 g8_66 rfl hk ?_
    refine a_nmi h (fun x1 h => ?_)
    refine a_istore_n (L' := [(3, vi x1), (0, vr l0), (1, vi l1), (2, vi l2)]) dX8_needs_17 rfl (by decide) rfl ?_
    refine a_iconst dX8_needs_18 (okI_b _ rfl) ?_
    refine a_istore (L' := [(4, vi 0), (3, vi x1), (0, vr l0), (1, vi l1), (2, vi l2)]) dX8_needs_19 (by decide) rfl ?_
    exact a_sub [2, 3, 4, 1, 0] rfl (tX8_needs_21 E l _ N N l0 l1 l2 x1 0 μ1 t hk h)
  ·
    refine a_iconst dX8_needs_11 (okI_b _ rfl) ?_
    exact a_reti dX8_needs_12 h
-- X8_octet
abbrev aX8_octet (E : m_E) (l : Launch) (d : Nat) (z : Nat × Nat) (pc : Nat) (L : List (Nat × AV)) (st : List AV) (μ : Mm) (ρ : Option AV × Mm) : Prop := AA E l d z RX8 "octet" cX8_octet 2 (some .int) pc L st μ ρ
theorem tX8_octet_22 (E : m_E) (l : Launch) (z : Nat × Nat) (N : Nat) (l0 s0 : Int) (μ : Mm) (t : Int × Mm) (hk : m_kd μ l0 = (8, 0)) (h : jX8_octet_22 N l0 s0 μ = some t) : aX8_octet E l 1 z 22 [(0, vr l0)] [vi s0] μ (rI t) := by
  unfold jX8_octet_22 at h
  exact a_reti dX8_octet_22 h
theorem tX8_octet_21 (E : m_E) (l : Launch) (z : Nat × Nat) (N : Nat) (l0 : Int) (μ : Mm) (t : Int × Mm) (hk : m_kd μ l0 = (8, 0)) (h : jX8_octet_21 N l0 μ = some t) : aX8_octet E l 1 z 21 [(0, vr l0)] [] μ (rI t) := by
  unfold jX8_octet_21 at h
  refine a_iconst dX8_octet_21 (okI_b _ rfl) ?_
  exact a_sub [0] rfl (tX8_octet_22 E l _ N l0 (-1) μ t hk h)
theorem tX8_octet (E : m_E) (l : Launch) (N : Nat) (l0 l1 : Int) (μ : Mm) (t : Int × Mm) (hk : m_kd μ l0 = (8, 0)) (h : jX8_octet N l0 l1 μ = some t) : TT E l 1 yX8_octet cX8_octet 2 (some .int) [vr l0, vi l1] μ (rI t) := by
  refine tt_of (L := [(0, vr l0), (1, vi l1)]) (by decide +kernel) (Nat.le_of_ble_eq_true rfl) rfl ?_
  show aX8_octet E l 1 (m_sz μ, m_sl μ) 0 [(0, vr l0), (1, vi l1)] [] μ (rI t)
  unfold jX8_octet at h
  refine a_iload_n 1 dX8_octet_0 rfl rfl ?_
  refine a_if_lt (tgt := 21) dX8_octet_1 rfl h (fun h => ?_) (fun h => ?_)
  ·
    exact a_sub [0] rfl (tX8_octet_21 E l _ N l0 μ t hk h)
  ·
    refine a_iload_n 1 dX8_octet_4 rfl rfl ?_
    refine a_aload_n 0 dX8_octet_5 rfl rfl ?_
    refine a_getfi (c := 8) (i := 84) dX8_octet_6 fRX8_562 g8_84 rfl hk ?_
    refine a_icmp_ge (tgt := 21) dX8_octet_9 rfl h (fun h => ?_) (fun h => ?_)
    ·
      exact a_sub [0] rfl (tX8_octet_21 E l _ N l0 μ t hk h)
    ·
      refine a_aload_n 0 dX8_octet_12 rfl rfl ?_
      refine a_getfr (c := 8) (i := 83) dX8_octet_13 fRX8_174 g8_83 rfl hk ?_
      refine a_iload_n 1 dX8_octet_16 rfl rfl ?_
      refine a_iald dX8_octet_17 h (fun x1 h => ?_)
      refine a_goto (tgt := 22) dX8_octet_18 rfl ?_
      exact a_sub [0] rfl (tX8_octet_22 E l _ N l0 x1 μ t hk h)
-- X8_roll
abbrev aX8_roll (E : m_E) (l : Launch) (d : Nat) (z : Nat × Nat) (pc : Nat) (L : List (Nat × AV)) (st : List AV) (μ : Mm) (ρ : Option AV × Mm) : Prop := AA E l d z RX8 "roll" cX8_roll 2 (some .boolean) pc L st μ ρ
theorem tX8_roll_33 (E : m_E) (l : Launch) (z : Nat × Nat) (N : Nat) (l0 l1 : Int) (μ : Mm) (t : Int × Mm) (hk : m_kd μ l0 = (8, 0)) (h : jX8_roll_33 N l0 l1 μ = some t) : aX8_roll E l 3 z 33 [(0, vr l0), (1, vi l1)] [] μ (rI t) := by
  unfold jX8_roll_33 at h
  refine a_aload_n 0 dX8_roll_33 rfl rfl ?_
  refine a_getfr (c := 8) (i := 59) dX8_roll_34 fRX8_131 g8_59 rfl hk ?_
  refine a_aload_n 0 dX8_roll_37 rfl rfl ?_
  refine a_getfi (c := 8) (i := 58) dX8_roll_38 fRX8_324 g8_58 rfl hk ?_
  refine a_iload_n 1 dX8_roll_41 rfl rfl ?_
  refine a_iast dX8_roll_42 h (fun μ1 hm h => ?_)
  have hk := hm.k hk (by decide)
  refine a_aload_n 0 dX8_roll_43 rfl rfl ?_
  refine a_dup dX8_roll_44 rfl ?_
  refine a_getfi (c := 8) (i := 58) dX8_roll_45 fRX8_324 g8_58 rfl hk ?_
  refine a_iconst dX8_roll_48 (okI_b _ rfl) ?_
  refine a_iadd dX8_roll_49 ?_
  refine a_putfi (c := 8) (i := 58) dX8_roll_50 fRX8_324 g8_58 (Or.inl rfl) rfl hk h (fun μ2 hm h => ?_)
  have hk := hm.k hk (by decide)
  refine a_aload_n 0 dX8_roll_53 rfl rfl ?_
  refine a_iconst dX8_roll_54 (okI_b _ rfl) ?_
  refine a_putfz (c := 8) (i := 72) dX8_roll_55 fRX8_334 g8_72 (Or.inl rfl) rfl (Or.inl rfl) hk h (fun μ3 hm h => ?_)
  have hk := hm.k hk (by decide)
  refine a_iconst dX8_roll_58 (okI_b _ rfl) ?_
  exact a_retzl (Or.inr rfl) dX8_roll_59 h
theorem tX8_roll_31 (E : m_E) (l : Launch) (z : Nat × Nat) (N : Nat) (l0 : Int) (μ : Mm) (t : Int × Mm) (hk : m_kd μ l0 = (8, 0)) (h : jX8_roll_31 N l0 μ = some t) : aX8_roll E l 3 z 31 [(0, vr l0)] [] μ (rI t) := by
  unfold jX8_roll_31 at h
  refine a_iconst dX8_roll_31 (okI_b _ rfl) ?_
  exact a_retzl (Or.inl rfl) dX8_roll_32 h
theorem tX8_roll (E : m_E) (l : Launch) (N : Nat) (l0 l1 : Int) (μ : Mm) (t : Int × Mm) (hk : m_kd μ l0 = (8, 0)) (h : jX8_roll N l0 l1 μ = some t) : TT E l 3 yX8_roll cX8_roll 2 (some .boolean) [vr l0, vi l1] μ (rI t) := by
  refine tt_of (L := [(0, vr l0), (1, vi l1)]) (by decide +kernel) (Nat.le_of_ble_eq_true rfl) rfl ?_
  show aX8_roll E l 3 (m_sz μ, m_sl μ) 0 [(0, vr l0), (1, vi l1)] [] μ (rI t)
  unfold jX8_roll at h
  refine a_aload_n 0 dX8_roll_0 rfl rfl ?_
  refine a_cVv (c := 8) [] [] dX8_roll_1 myX8_goesThrough mRX8_410 mvX8_goesThrough rfl (by decide) hk (fun _ hj => tX8_goesThrough E l N l0 μ _ hk hj) (by decide) rfl (Nat.le_of_ble_eq_true rfl) h (fun μ1 hm h => ?_)
  have hk := hm.k hk (by decide)
  refine a_aload_n 0 dX8_roll_4 rfl rfl ?_
  refine a_getfz (c := 8) (i := 68) dX8_roll_5 fRX8_404 g8_68 rfl hk ?_
  refine a_if_ne (tgt := 31) dX8_roll_8 rfl h (fun h => ?_) (fun h => ?_)
  ·
    exact a_sub [0] rfl (tX8_roll_31 E l _ N l0 μ1 t hk h)
  ·
    refine a_iload_n 1 dX8_roll_11 rfl rfl ?_
    refine a_bipush dX8_roll_12 ⟨rfl, okI_b _ rfl⟩ ?_
    refine a_icmp_eq (tgt := 33) dX8_roll_14 rfl h (fun h => ?_) (fun h => ?_)
    ·
      exact a_sub [0, 1] rfl (tX8_roll_33 E l _ N l0 l1 μ1 t hk h)
    ·
      refine a_iload_n 1 dX8_roll_17 rfl rfl ?_
      refine a_i2l dX8_roll_18 ?_
      refine a_lconst (v := 0) dX8_roll_19 ⟨rfl, okJ_b _ rfl⟩ ?_
      refine a_aload_n 0 dX8_roll_20 rfl rfl ?_
      refine a_getfi (c := 8) (i := 66) dX8_roll_21 fRX8_398 g8_66 rfl hk ?_
      refine a_i2l dX8_roll_24 ?_
      refine a_cSi [vl (i_2l l1), vl 0, vl (i_2l (m_gt μ1 l0 66))] [] dX8_roll_25 myX8_isIn mRX8_223 msX8_isIn (fun _ hj => tX8_isIn E l N (i_2l l1) 0 (i_2l (m_gt μ1 l0 66)) μ1 _  hj) (by decide) rfl (Nat.le_of_ble_eq_true rfl) h (fun x1 μ2 hm h => ?_)
      have hk := hm.k hk (by decide)
      refine a_if_ne (tgt := 33) dX8_roll_28 rfl h (fun h => ?_) (fun h => ?_)
      ·
        exact a_sub [0, 1] rfl (tX8_roll_33 E l _ N l0 l1 μ2 t hk h)
      ·
        exact a_sub [0] rfl (tX8_roll_31 E l _ N l0 μ2 t hk h)
-- X8_on
abbrev aX8_on (E : m_E) (l : Launch) (d : Nat) (z : Nat × Nat) (pc : Nat) (L : List (Nat × AV)) (st : List AV) (μ : Mm) (ρ : Option AV × Mm) : Prop := AA E l d z RX8 "on" cX8_on 6 (some .boolean) pc L st μ ρ
theorem tX8_on_187b (E : m_E) (l : Launch) (z : Nat × Nat) (k187 : Int → Int → Int → Mm → Option (Int × Mm)) (p187 : ∀ (l0 l2 l5 : Int) (μ : Mm) (t : Int × Mm), m_kd μ l0 = (8, 0) → k187 l0 l2 l5 μ = some t → aX8_on E l 4 z 187 [(0, vr l0), (2, vi l2), (5, vi l5)] [] μ (rI t)) (N : Nat) (l0 l2 l5 : Int) (μ : Mm) (t : Int × Mm) (hk : m_kd μ l0 = (8, 0)) (h : jX8_on_187b k187 N l0 l2 l5 μ = some t) : aX8_on E l 4 z 187 [(0, vr l0), (2, vi l2), (5, vi l5)] [] μ (rI t) := by
  unfold jX8_on_187b at h
  refine a_iload 2 dX8_on_187 rfl ?_
  refine a_iload_n 1 dX8_on_189 rfl rfl ?_
  refine a_icmp_ge (tgt := 213) dX8_on_190 rfl h (fun h => ?_) (fun h => ?_)
  ·
    refine a_iconst dX8_on_213 (okI_b _ rfl) ?_
    exact a_retzl (Or.inl rfl) dX8_on_214 h
  ·
    refine a_aload_n 0 dX8_on_193 rfl rfl ?_
    refine a_getfr (c := 8) (i := 59) dX8_on_194 fRX8_131 g8_59 rfl hk ?_
    refine a_iload 2 dX8_on_197 rfl ?_
    refine a_aload_n 0 dX8_on_199 rfl rfl ?_
    refine a_getfr (c := 8) (i := 85) dX8_on_200 fRX8_177 g8_85 rfl hk ?_
    refine a_iload 2 dX8_on_203 rfl ?_
    refine a_iald dX8_on_205 h (fun x1 h => ?_)
    refine a_iast dX8_on_206 h (fun μ1 hm h => ?_)
    have hk := hm.k hk (by decide)
    refine a_iinc (F := fun x2 => [(5, vi x2), (0, vr l0), (2, vi l2)]) 2 dX8_on_207 rfl (by decide) h (fun _ => rfl) (fun x2 h => ?_)
    refine a_goto (tgt := 187) dX8_on_210 rfl ?_
    exact a_sub [1, 2, 0] rfl (p187 l0 l2 x2 μ1 t hk h)
theorem tX8_on_187 (E : m_E) (l : Launch) (z : Nat × Nat) (N : Nat) : ∀ (n : Nat) (l0 l2 l5 : Int) (μ : Mm) (t : Int × Mm), m_kd μ l0 = (8, 0) → jX8_on_187 N n l0 l2 l5 μ = some t → aX8_on E l 4 z 187 [(0, vr l0), (2, vi l2), (5, vi l5)] [] μ (rI t)
  | 0, _, _, _, _, _, _, h => by cases h
  | n + 1, l0, l2, l5, μ, t, hk, h => tX8_on_187b E l z (jX8_on_187 N n) (tX8_on_187 E l z N n) N l0 l2 l5 μ t hk h
theorem tX8_on_162 (E : m_E) (l : Launch) (z : Nat × Nat) (N : Nat) (l0 l2 l3 l4 : Int) (μ : Mm) (t : Int × Mm) (hk : m_kd μ l0 = (8, 0)) (h : jX8_on_162 N l0 l2 l3 l4 μ = some t) : aX8_on E l 4 z 162 [(0, vr l0), (2, vi l2), (3, vi l3), (4, vi l4)] [] μ (rI t) := by
  unfold jX8_on_162 at h
  refine a_aload_n 0 dX8_on_162 rfl rfl ?_
  refine a_iconst dX8_on_163 (okI_b _ rfl) ?_
  refine a_putfz (c := 8) (i := 72) dX8_on_164 fRX8_334 g8_72 (Or.inl rfl) rfl (Or.inl rfl) hk h (fun μ1 hm h => ?_)
  have hk := hm.k hk (by decide)
  refine a_iload 3 dX8_on_167 rfl ?_
  refine a_if_eq (tgt := 174) dX8_on_169 rfl h (fun h => ?_) (fun h => ?_)
  ·
    refine a_aload_n 0 dX8_on_174 rfl rfl ?_
    refine a_iload_n 1 dX8_on_175 rfl rfl ?_
    refine a_putfi (c := 8) (i := 58) dX8_on_176 fRX8_324 g8_58 (Or.inl rfl) rfl hk h (fun μ2 hm h => ?_)
    have hk := hm.k hk (by decide)
    refine a_aload_n 0 dX8_on_179 rfl rfl ?_
    refine a_iload_n 2 dX8_on_180 rfl rfl ?_
    refine a_putfi (c := 8) (i := 78) dX8_on_181 fRX8_327 g8_78 (Or.inl rfl) rfl hk h (fun μ3 hm h => ?_)
    have hk := hm.k hk (by decide)
    refine a_iconst dX8_on_184 (okI_b _ rfl) ?_
    refine a_istore (L' := [(5, vi 0), (0, vr l0), (2, vi l2), (3, vi l3), (4, vi l4)]) dX8_on_185 (by decide) rfl ?_
    exact a_sub [1, 2, 0] rfl (tX8_on_187 E l _ N N l0 l2 0 μ3 t hk h)
  ·
    refine a_iconst dX8_on_172 (okI_b _ rfl) ?_
    exact a_retzl (Or.inr rfl) dX8_on_173 h
theorem tX8_on_151 (E : m_E) (l : Launch) (z : Nat × Nat) (k112 : Int → Int → Int → Int → Int → Int → Mm → Option (Int × Mm)) (p112 : ∀ (l0 l1 l2 l3 l4 l5 : Int) (μ : Mm) (t : Int × Mm), m_kd μ l0 = (8, 0) → k112 l0 l1 l2 l3 l4 l5 μ = some t → aX8_on E l 4 z 112 [(0, vr l0), (1, vi l1), (2, vi l2), (3, vi l3), (4, vi l4), (5, vi l5)] [] μ (rI t)) (N : Nat) (l0 l1 l2 l3 l5 s0 s1 : Int) (μ : Mm) (t : Int × Mm) (hk : m_kd μ l0 = (8, 0)) (h : jX8_on_151 k112 N l0 l1 l2 l3 l5 s0 s1 μ = some t) : aX8_on E l 4 z 151 [(0, vr l0), (1, vi l1), (2, vi l2), (3, vi l3), (5, vi l5)] [vi s0, vr s1] μ (rI t) := by
  unfold jX8_on_151 at h
  refine m_chk_k h (fun hq0 h => ?_)
  refine a_cVi (c := 8) [vi s0] [] dX8_on_151 myX8_roll mRX8_572 mvX8_roll rfl (by decide) hq0 (fun _ hj => tX8_roll E l N s1 s0 μ _ hq0 hj) (by decide) rfl (Nat.le_of_ble_eq_true rfl) h (fun x1 μ1 hm h => ?_)
  have hk := hm.k hk (by decide)
  have hq0 := hm.k hq0 (by decide)
  refine a_istore (L' := [(4, vi x1), (0, vr l0), (1, vi l1), (2, vi l2), (3, vi l3), (5, vi l5)]) dX8_on_154 (by decide) rfl ?_
  refine a_iinc (F := fun x2 => [(5, vi x2), (4, vi x1), (0, vr l0), (1, vi l1), (2, vi l2), (3, vi l3)]) 5 dX8_on_156 rfl (by decide) h (fun _ => rfl) (fun x2 h => ?_)
  refine a_goto (tgt := 112) dX8_on_159 rfl ?_
  exact a_sub [2, 3, 4, 5, 1, 0] rfl (p112 l0 l1 l2 l3 x1 x2 μ1 t hk h)
theorem tX8_on_112b (E : m_E) (l : Launch) (z : Nat × Nat) (k112 : Int → Int → Int → Int → Int → Int → Mm → Option (Int × Mm)) (p112 : ∀ (l0 l1 l2 l3 l4 l5 : Int) (μ : Mm) (t : Int × Mm), m_kd μ l0 = (8, 0) → k112 l0 l1 l2 l3 l4 l5 μ = some t → aX8_on E l 4 z 112 [(0, vr l0), (1, vi l1), (2, vi l2), (3, vi l3), (4, vi l4), (5, vi l5)] [] μ (rI t)) (N : Nat) (l0 l1 l2 l3 l4 l5 : Int) (μ : Mm) (t : Int × Mm) (hk : m_kd μ l0 = (8, 0)) (h : jX8_on_112b k112 N l0 l1 l2 l3 l4 l5 μ = some t) : aX8_on E l 4 z 112 [(0, vr l0), (1, vi l1), (2, vi l2), (3, vi l3), (4, vi l4), (5, vi l5)] [] μ (rI t) := by
  unfold jX8_on_112b at h
  refine a_iload 5 dX8_on_112 rfl ?_
  refine a_iload_n 1 dX8_on_114 rfl rfl ?_
  refine a_iconst dX8_on_115 (okI_b _ rfl) ?_
  refine a_isub dX8_on_116 ?_
  refine a_icmp_ge (tgt := 162) dX8_on_117 rfl h (fun h => ?_) (fun h => ?_)
  ·
    exact a_sub [0, 2, 3, 4] rfl (tX8_on_162 E l _ N l0 l2 l3 l4 μ t hk h)
  ·
    refine a_iload 4 dX8_on_120 rfl ?_
    refine a_if_eq (tgt := 162) dX8_on_122 rfl h (fun h => ?_) (fun h => ?_)
    ·
      exact a_sub [0, 2, 3, 4] rfl (tX8_on_162 E l _ N l0 l2 l3 l4 μ t hk h)
    ·
      refine a_aload_n 0 dX8_on_125 rfl rfl ?_
      refine a_aload_n 0 dX8_on_126 rfl rfl ?_
      refine a_getfr (c := 8) (i := 0) dX8_on_127 fRX8_7 g8_0 rfl hk ?_
      refine a_iload 5 dX8_on_130 rfl ?_
      refine a_iald dX8_on_132 h (fun x1 h => ?_)
      refine a_sipush dX8_on_133 ⟨rfl, okI_b _ rfl⟩ ?_
      refine a_icmp_ne (tgt := 144) dX8_on_136 rfl h (fun h => ?_) (fun h => ?_)
      ·
        refine a_aload_n 0 dX8_on_144 rfl rfl ?_
        refine a_getfr (c := 8) (i := 0) dX8_on_145 fRX8_7 g8_0 rfl hk ?_
        refine a_iload 5 dX8_on_148 rfl ?_
        refine a_iald dX8_on_150 h (fun x2 h => ?_)
        exact a_sub [0, 1, 2, 3, 5] rfl (tX8_on_151 E l _ k112 p112 N l0 l1 l2 l3 l5 x2 l0 μ t hk h)
      ·
        refine a_bipush dX8_on_139 ⟨rfl, okI_b _ rfl⟩ ?_
        refine a_goto (tgt := 151) dX8_on_141 rfl ?_
        exact a_sub [0, 1, 2, 3, 5] rfl (tX8_on_151 E l _ k112 p112 N l0 l1 l2 l3 l5 (-2) l0 μ t hk h)
theorem tX8_on_112 (E : m_E) (l : Launch) (z : Nat × Nat) (N : Nat) : ∀ (n : Nat) (l0 l1 l2 l3 l4 l5 : Int) (μ : Mm) (t : Int × Mm), m_kd μ l0 = (8, 0) → jX8_on_112 N n l0 l1 l2 l3 l4 l5 μ = some t → aX8_on E l 4 z 112 [(0, vr l0), (1, vi l1), (2, vi l2), (3, vi l3), (4, vi l4), (5, vi l5)] [] μ (rI t)
  | 0, _, _, _, _, _, _, _, _, _, h => by cases h
  | n + 1, l0, l1, l2, l3, l4, l5, μ, t, hk, h => tX8_on_112b E l z (jX8_on_112 N n) (tX8_on_112 E l z N n) N l0 l1 l2 l3 l4 l5 μ t hk h
theorem tX8_on_68b (E : m_E) (l : Launch) (z : Nat × Nat) (k68 : Int → Int → Int → Int → Mm → Option (Int × Mm)) (p68 : ∀ (l0 l1 l2 l3 : Int) (μ : Mm) (t : Int × Mm), m_kd μ l0 = (8, 0) → k68 l0 l1 l2 l3 μ = some t → aX8_on E l 4 z 68 [(0, vr l0), (1, vi l1), (2, vi l2), (3, vi l3)] [] μ (rI t)) (N : Nat) (l0 l1 l2 l3 : Int) (μ : Mm) (t : Int × Mm) (hk : m_kd μ l0 = (8, 0)) (h : jX8_on_68b k68 N l0 l1 l2 l3 μ = some t) : aX8_on E l 4 z 68 [(0, vr l0), (1, vi l1), (2, vi l2), (3, vi l3)] [] μ (rI t) := by
  unfold jX8_on_68b at h
  refine a_iload_n 3 dX8_on_68 rfl rfl ?_
  refine a_iload_n 2 dX8_on_69 rfl rfl ?_
  refine a_icmp_ge (tgt := 91) dX8_on_70 rfl h (fun h => ?_) (fun h => ?_)
  ·
    refine a_aload_n 0 dX8_on_91 rfl rfl ?_
    refine a_getfi (c := 8) (i := 78) dX8_on_92 fRX8_327 g8_78 rfl hk ?_
    refine a_nmi h (fun x1 h => ?_)
    refine a_istore_n (L' := [(3, vi x1), (0, vr l0), (1, vi l1), (2, vi l2)]) dX8_on_95 rfl (by decide) rfl ?_
    refine a_aload_n 1 dX8_on_96 rfl rfl ?_
    refine a_iconst dX8_on_97 (okI_b _ rfl) ?_
    refine a_putfi (c := 8) (i := 58) dX8_on_98 fRX8_324 g8_58 (Or.inl rfl) rfl hk h (fun μ1 hm h => ?_)
    have hk := hm.k hk (by decide)
    refine a_aload_n 1 dX8_on_101 rfl rfl ?_
    refine a_iconst dX8_on_102 (okI_b _ rfl) ?_
    refine a_putfi (c := 8) (i := 78) dX8_on_103 fRX8_327 g8_78 (Or.inl rfl) rfl hk h (fun μ2 hm h => ?_)
    have hk := hm.k hk (by decide)
    refine a_iconst dX8_on_106 (okI_b _ rfl) ?_
    refine a_istore (L' := [(4, vi 1), (3, vi x1), (0, vr l0), (1, vi l1), (2, vi l2)]) dX8_on_107 (by decide) rfl ?_
    refine a_iconst dX8_on_109 (okI_b _ rfl) ?_
    refine a_istore (L' := [(5, vi 1), (4, vi 1), (3, vi x1), (0, vr l0), (1, vi l1), (2, vi l2)]) dX8_on_110 (by decide) rfl ?_
    exact a_sub [3, 4, 5, 2, 1, 0] rfl (tX8_on_112 E l _ N N l0 l1 l2 x1 1 1 μ2 t hk h)
  ·
    refine a_aload_n 0 dX8_on_73 rfl rfl ?_
    refine a_getfr (c := 8) (i := 85) dX8_on_74 fRX8_177 g8_85 rfl hk ?_
    refine a_iload_n 3 dX8_on_77 rfl rfl ?_
    refine a_aload_n 0 dX8_on_78 rfl rfl ?_
    refine a_getfr (c := 8) (i := 59) dX8_on_79 fRX8_131 g8_59 rfl hk ?_
    refine a_iload_n 3 dX8_on_82 rfl rfl ?_
    refine a_iald dX8_on_83 h (fun x2 h => ?_)
    refine a_iast dX8_on_84 h (fun μ3 hm h => ?_)
    have hk := hm.k hk (by decide)
    refine a_iinc (F := fun x3 => [(3, vi x3), (0, vr l0), (1, vi l1), (2, vi l2)]) 3 dX8_on_85 rfl (by decide) h (fun _ => rfl) (fun x3 h => ?_)
    refine a_goto (tgt := 68) dX8_on_88 rfl ?_
    exact a_sub [1, 2, 3, 0] rfl (p68 l0 l1 l2 x3 μ3 t hk h)
theorem tX8_on_68 (E : m_E) (l : Launch) (z : Nat × Nat) (N : Nat) : ∀ (n : Nat) (l0 l1 l2 l3 : Int) (μ : Mm) (t : Int × Mm), m_kd μ l0 = (8, 0) → jX8_on_68 N n l0 l1 l2 l3 μ = some t → aX8_on E l 4 z 68 [(0, vr l0), (1, vi l1), (2, vi l2), (3, vi l3)] [] μ (rI t)
  | 0, _, _, _, _, _, _, _, h => by cases h
  | n + 1, l0, l1, l2, l3, μ, t, hk, h => tX8_on_68b E l z (jX8_on_68 N n) (tX8_on_68 E l z N n) N l0 l1 l2 l3 μ t hk h
theorem tX8_on_59 (E : m_E) (l : Launch) (z : Nat × Nat) (N : Nat) (l0 : Int) (μ : Mm) (t : Int × Mm) (hk : m_kd μ l0 = (8, 0)) (h : jX8_on_59 N l0 μ = some t) : aX8_on E l 4 z 59 [(0, vr l0)] [] μ (rI t) := by
  unfold jX8_on_59 at h
  refine a_iconst dX8_on_59 (okI_b _ rfl) ?_
  exact a_retzl (Or.inl rfl) dX8_on_60 h
theorem tX8_on (E : m_E) (l : Launch) (N : Nat) (l0 : Int) (μ : Mm) (t : Int × Mm) (hk : m_kd μ l0 = (8, 0)) (h : jX8_on N l0 μ = some t) : TT E l 4 yX8_on cX8_on 6 (some .boolean) [vr l0] μ (rI t) := by
  refine tt_of (L := [(0, vr l0)]) (by decide +kernel) (Nat.le_of_ble_eq_true rfl) rfl ?_
  show aX8_on E l 4 (m_sz μ, m_sl μ) 0 [(0, vr l0)] [] μ (rI t)
  unfold jX8_on at h
  refine a_aload_n 0 dX8_on_0 rfl rfl ?_
  refine a_getfi (c := 8) (i := 1) dX8_on_1 fRX8_180 g8_1 rfl hk ?_
  refine a_nmi h (fun x1 h => ?_)
  refine a_istore_n (L' := [(1, vi x1), (0, vr l0)]) dX8_on_4 rfl (by decide) rfl ?_
  refine a_aload_n 1 dX8_on_5 rfl rfl ?_
  refine a_iconst dX8_on_6 (okI_b _ rfl) ?_
  refine a_putfi (c := 8) (i := 1) dX8_on_7 fRX8_180 g8_1 (Or.inl rfl) rfl hk h (fun μ1 hm h => ?_)
  have hk := hm.k hk (by decide)
  refine a_iload_n 0 dX8_on_10 rfl rfl ?_
  refine a_iconst dX8_on_11 (okI_b _ rfl) ?_
  refine a_icmp_lt (tgt := 59) dX8_on_12 rfl h (fun h => ?_) (fun h => ?_)
  ·
    exact a_sub [1] rfl (tX8_on_59 E l _ N l0 μ1 t hk h)
  ·
    refine a_aload_n 1 dX8_on_15 rfl rfl ?_
    refine a_getfr (c := 8) (i := 0) dX8_on_16 fRX8_7 g8_0 rfl hk ?_
    refine a_iconst dX8_on_19 (okI_b _ rfl) ?_
    refine a_iald dX8_on_20 h (fun x2 h => ?_)
    refine a_iload_n 0 dX8_on_21 rfl rfl ?_
    refine a_iconst dX8_on_22 (okI_b _ rfl) ?_
    refine a_isub dX8_on_23 ?_
    refine a_icmp_ne (tgt := 59) dX8_on_24 rfl h (fun h => ?_) (fun h => ?_)
    ·
      exact a_sub [1] rfl (tX8_on_59 E l _ N l0 μ1 t hk h)
    ·
      refine a_aload_n 1 dX8_on_27 rfl rfl ?_
      refine a_getfr (c := 8) (i := 0) dX8_on_28 fRX8_7 g8_0 rfl hk ?_
      refine a_iconst dX8_on_31 (okI_b _ rfl) ?_
      refine a_iald dX8_on_32 h (fun x3 h => ?_)
      refine a_bipush dX8_on_33 ⟨rfl, okI_b _ rfl⟩ ?_
      refine a_icmp_gt (tgt := 59) dX8_on_35 rfl h (fun h => ?_) (fun h => ?_)
      ·
        exact a_sub [1] rfl (tX8_on_59 E l _ N l0 μ1 t hk h)
      ·
        refine a_aload_n 1 dX8_on_38 rfl rfl ?_
        refine a_getfr (c := 8) (i := 0) dX8_on_39 fRX8_7 g8_0 rfl hk ?_
        refine a_iload_n 0 dX8_on_42 rfl rfl ?_
        refine a_iconst dX8_on_43 (okI_b _ rfl) ?_
        refine a_isub dX8_on_44 ?_
        refine a_iald dX8_on_45 h (fun x4 h => ?_)
        refine a_aload_n 1 dX8_on_46 rfl rfl ?_
        refine a_getfr (c := 8) (i := 0) dX8_on_47 fRX8_7 g8_0 rfl hk ?_
        refine a_iload_n 0 dX8_on_50 rfl rfl ?_
        refine a_iconst dX8_on_51 (okI_b _ rfl) ?_
        refine a_isub dX8_on_52 ?_
        refine a_cSi [vr (m_gt μ1 l0 0), vi (i_sub x1 1)] [vi x4] dX8_on_53 myX8_checked mRX8_568 msX8_checked (fun _ hj => tX8_checked E l N (m_gt μ1 l0 0) (i_sub x1 1) μ1 _  hj) (by decide) rfl (Nat.le_of_ble_eq_true rfl) h (fun x5 μ2 hm h => ?_)
        have hk := hm.k hk (by decide)
        refine a_icmp_eq (tgt := 61) dX8_on_56 rfl h (fun h => ?_) (fun h => ?_)
        ·
          refine a_aload_n 1 dX8_on_61 rfl rfl ?_
          refine a_getfi (c := 8) (i := 58) dX8_on_62 fRX8_324 g8_58 rfl hk ?_
          refine a_nmi h (fun x6 h => ?_)
          refine a_istore_n (L' := [(2, vi x6), (1, vi x1), (0, vr l0)]) dX8_on_65 rfl (by decide) rfl ?_
          refine a_iconst dX8_on_66 (okI_b _ rfl) ?_
          refine a_istore_n (L' := [(3, vi 0), (2, vi x6), (1, vi x1), (0, vr l0)]) dX8_on_67 rfl (by decide) rfl ?_
          exact a_sub [3, 2, 1, 0] rfl (tX8_on_68 E l _ N N l0 x1 x6 0 μ2 t hk h)
        ·
          exact a_sub [1] rfl (tX8_on_59 E l _ N l0 μ2 t hk h)
-- X8_meetsAll
abbrev aX8_meetsAll (E : m_E) (l : Launch) (d : Nat) (z : Nat × Nat) (pc : Nat) (L : List (Nat × AV)) (st : List AV) (μ : Mm) (ρ : Option AV × Mm) : Prop := AA E l d z RX8 "meetsAll" cX8_meetsAll 4 (some .int) pc L st μ ρ
theorem tX8_meetsAll_24 (E : m_E) (l : Launch) (z : Nat × Nat) (k4 : Int → Int → Int → Int → Mm → Option (Int × Mm)) (p4 : ∀ (l0 l1 l2 l3 : Int) (μ : Mm) (t : Int × Mm), m_kd μ l0 = (8, 0) → k4 l0 l1 l2 l3 μ = some t → aX8_meetsAll E l 6 z 4 [(0, vr l0), (1, vi l1), (2, vi l2), (3, vi l3)] [] μ (rI t)) (N : Nat) (l0 l1 l2 l3 : Int) (μ : Mm) (t : Int × Mm) (hk : m_kd μ l0 = (8, 0)) (h : jX8_meetsAll_24 k4 N l0 l1 l2 l3 μ = some t) : aX8_meetsAll E l 6 z 24 [(0, vr l0), (1, vi l1), (2, vi l2), (3, vi l3)] [] μ (rI t) := by
  unfold jX8_meetsAll_24 at h
  refine a_iinc (F := fun x1 => [(3, vi x1), (0, vr l0), (1, vi l1), (2, vi l2)]) 3 dX8_meetsAll_24 rfl (by decide) h (fun _ => rfl) (fun x1 h => ?_)
  refine a_goto (tgt := 4) dX8_meetsAll_27 rfl ?_
  exact a_sub [1, 2, 3, 0] rfl (p4 l0 l1 l2 x1 μ t hk h)
theorem tX8_meetsAll_4b (E : m_E) (l : Launch) (z : Nat × Nat) (k4 : Int → Int → Int → Int → Mm → Option (Int × Mm)) (p4 : ∀ (l0 l1 l2 l3 : Int) (μ : Mm) (t : Int × Mm), m_kd μ l0 = (8, 0) → k4 l0 l1 l2 l3 μ = some t → aX8_meetsAll E l 6 z 4 [(0, vr l0), (1, vi l1), (2, vi l2), (3, vi l3)] [] μ (rI t)) (N : Nat) (l0 l1 l2 l3 : Int) (μ : Mm) (t : Int × Mm) (hk : m_kd μ l0 = (8, 0)) (h : jX8_meetsAll_4b k4 N l0 l1 l2 l3 μ = some t) : aX8_meetsAll E l 6 z 4 [(0, vr l0), (1, vi l1), (2, vi l2), (3, vi l3)] [] μ (rI t) := by
  unfold jX8_meetsAll_4b at h
  refine a_iload_n 3 dX8_meetsAll_4 rfl rfl ?_
  refine a_bipush dX8_meetsAll_5 ⟨rfl, okI_b _ rfl⟩ ?_
  refine a_icmp_ge (tgt := 30) dX8_meetsAll_7 rfl h (fun h => ?_) (fun h => ?_)
  ·
    refine a_iload_n 2 dX8_meetsAll_30 rfl rfl ?_
    exact a_reti dX8_meetsAll_31 h
  ·
    refine a_iload_n 3 dX8_meetsAll_10 rfl rfl ?_
    refine a_iload_n 1 dX8_meetsAll_11 rfl rfl ?_
    refine a_icmp_eq (tgt := 24) dX8_meetsAll_12 rfl h (fun h => ?_) (fun h => ?_)
    ·
      exact a_sub [0, 1, 2, 3] rfl (tX8_meetsAll_24 E l _ k4 p4 N l0 l1 l2 l3 μ t hk h)
    ·
      refine a_iload_n 2 dX8_meetsAll_15 rfl rfl ?_
      refine a_aload_n 0 dX8_meetsAll_16 rfl rfl ?_
      refine a_iload_n 1 dX8_meetsAll_17 rfl rfl ?_
      refine a_iload_n 3 dX8_meetsAll_18 rfl rfl ?_
      refine a_cVi (c := 8) [vi l1, vi l3] [vi l2] dX8_meetsAll_19 myX8_meets mRX8_553 mvX8_meets rfl (by decide) hk (fun _ hj => tX8_meets E l N l0 l1 l3 μ _ hk hj) (by decide) rfl (Nat.le_of_ble_eq_true rfl) h (fun x1 μ1 hm h => ?_)
      have hk := hm.k hk (by decide)
      refine a_iadd dX8_meetsAll_22 ?_
      refine a_nmi h (fun x2 h => ?_)
      refine a_istore_n (L' := [(2, vi x2), (0, vr l0), (1, vi l1), (3, vi l3)]) dX8_meetsAll_23 rfl (by decide) rfl ?_
      exact a_sub [1, 2, 0, 3] rfl (tX8_meetsAll_24 E l _ k4 p4 N l0 l1 x2 l3 μ1 t hk h)
theorem tX8_meetsAll_4 (E : m_E) (l : Launch) (z : Nat × Nat) (N : Nat) : ∀ (n : Nat) (l0 l1 l2 l3 : Int) (μ : Mm) (t : Int × Mm), m_kd μ l0 = (8, 0) → jX8_meetsAll_4 N n l0 l1 l2 l3 μ = some t → aX8_meetsAll E l 6 z 4 [(0, vr l0), (1, vi l1), (2, vi l2), (3, vi l3)] [] μ (rI t)
  | 0, _, _, _, _, _, _, _, h => by cases h
  | n + 1, l0, l1, l2, l3, μ, t, hk, h => tX8_meetsAll_4b E l z (jX8_meetsAll_4 N n) (tX8_meetsAll_4 E l z N n) N l0 l1 l2 l3 μ t hk h
theorem tX8_meetsAll (E : m_E) (l : Launch) (N : Nat) (l0 l1 : Int) (μ : Mm) (t : Int × Mm) (hk : m_kd μ l0 = (8, 0)) (h : jX8_meetsAll N l0 l1 μ = some t) : TT E l 6 yX8_meetsAll cX8_meetsAll 4 (some .int) [vr l0, vi l1] μ (rI t) := by
  refine tt_of (L := [(0, vr l0), (1, vi l1)]) (by decide +kernel) (Nat.le_of_ble_eq_true rfl) rfl ?_
  show aX8_meetsAll E l 6 (m_sz μ, m_sl μ) 0 [(0, vr l0), (1, vi l1)] [] μ (rI t)
  unfold jX8_meetsAll at h
  refine a_iconst dX8_meetsAll_0 (okI_b _ rfl) ?_
  refine a_istore_n (L' := [(2, vi 0), (0, vr l0), (1, vi l1)]) dX8_meetsAll_1 rfl (by decide) rfl ?_
  refine a_iconst dX8_meetsAll_2 (okI_b _ rfl) ?_
  refine a_istore_n (L' := [(3, vi 0), (2, vi 0), (0, vr l0), (1, vi l1)]) dX8_meetsAll_3 rfl (by decide) rfl ?_
  exact a_sub [2, 3, 1, 0] rfl (tX8_meetsAll_4 E l _ N N l0 l1 0 0 μ t hk h)
-- X8_place
abbrev aX8_place (E : m_E) (l : Launch) (d : Nat) (z : Nat × Nat) (pc : Nat) (L : List (Nat × AV)) (st : List AV) (μ : Mm) (ρ : Option AV × Mm) : Prop := AA E l d z RX8 "place" cX8_place 5 (some .int) pc L st μ ρ
theorem tX8_place_40 (E : m_E) (l : Launch) (z : Nat × Nat) (k20 : Int → Int → Int → Int → Mm → Option (Int × Mm)) (p20 : ∀ (l0 l2 l3 l4 : Int) (μ : Mm) (t : Int × Mm), m_kd μ l0 = (8, 0) → k20 l0 l2 l3 l4 μ = some t → aX8_place E l 7 z 20 [(0, vr l0), (2, vi l2), (3, vi l3), (4, vi l4)] [] μ (rI t)) (N : Nat) (l0 l2 l3 l4 : Int) (μ : Mm) (t : Int × Mm) (hk : m_kd μ l0 = (8, 0)) (h : jX8_place_40 k20 N l0 l2 l3 l4 μ = some t) : aX8_place E l 7 z 40 [(0, vr l0), (2, vi l2), (3, vi l3), (4, vi l4)] [] μ (rI t) := by
  unfold jX8_place_40 at h
  refine a_iinc (F := fun x1 => [(4, vi x1), (0, vr l0), (2, vi l2), (3, vi l3)]) 3 dX8_place_40 rfl (by decide) h (fun _ => rfl) (fun x1 h => ?_)
  refine a_goto (tgt := 20) dX8_place_43 rfl ?_
  exact a_sub [1, 2, 3, 0] rfl (p20 l0 l2 l3 x1 μ t hk h)
theorem tX8_place_20b (E : m_E) (l : Launch) (z : Nat × Nat) (k20 : Int → Int → Int → Int → Mm → Option (Int × Mm)) (p20 : ∀ (l0 l2 l3 l4 : Int) (μ : Mm) (t : Int × Mm), m_kd μ l0 = (8, 0) → k20 l0 l2 l3 l4 μ = some t → aX8_place E l 7 z 20 [(0, vr l0), (2, vi l2), (3, vi l3), (4, vi l4)] [] μ (rI t)) (N : Nat) (l0 l2 l3 l4 : Int) (μ : Mm) (t : Int × Mm) (hk : m_kd μ l0 = (8, 0)) (h : jX8_place_20b k20 N l0 l2 l3 l4 μ = some t) : aX8_place E l 7 z 20 [(0, vr l0), (2, vi l2), (3, vi l3), (4, vi l4)] [] μ (rI t) := by
  unfold jX8_place_20b at h
  refine a_iload 3 dX8_place_20 rfl ?_
  refine a_bipush dX8_place_22 ⟨rfl, okI_b _ rfl⟩ ?_
  refine a_icmp_ge (tgt := 46) dX8_place_24 rfl h (fun h => ?_) (fun h => ?_)
  ·
    refine a_iload_n 2 dX8_place_46 rfl rfl ?_
    exact a_reti dX8_place_47 h
  ·
    refine a_aload_n 0 dX8_place_27 rfl rfl ?_
    refine a_iload 3 dX8_place_28 rfl ?_
    refine a_cVi (c := 8) [vi l4] [] dX8_place_30 myX8_meetsAll mRX8_559 mvX8_meetsAll rfl (by decide) hk (fun _ hj => tX8_meetsAll E l N l0 l4 μ _ hk hj) (by decide) rfl (Nat.le_of_ble_eq_true rfl) h (fun x1 μ1 hm h => ?_)
    have hk := hm.k hk (by decide)
    refine a_iload_n 1 dX8_place_33 rfl rfl ?_
    refine a_icmp_le (tgt := 40) dX8_place_34 rfl h (fun h => ?_) (fun h => ?_)
    ·
      exact a_sub [0, 1, 2, 3] rfl (tX8_place_40 E l _ k20 p20 N l0 l2 l3 l4 μ1 t hk h)
    ·
      refine a_iinc (F := fun x2 => [(3, vi x2), (0, vr l0), (2, vi l2), (4, vi l4)]) 2 dX8_place_37 rfl (by decide) h (fun _ => rfl) (fun x2 h => ?_)
      exact a_sub [1, 2, 0, 3] rfl (tX8_place_40 E l _ k20 p20 N l0 l2 x2 l4 μ1 t hk h)
theorem tX8_place_20 (E : m_E) (l : Launch) (z : Nat × Nat) (N : Nat) : ∀ (n : Nat) (l0 l2 l3 l4 : Int) (μ : Mm) (t : Int × Mm), m_kd μ l0 = (8, 0) → jX8_place_20 N n l0 l2 l3 l4 μ = some t → aX8_place E l 7 z 20 [(0, vr l0), (2, vi l2), (3, vi l3), (4, vi l4)] [] μ (rI t)
  | 0, _, _, _, _, _, _, _, h => by cases h
  | n + 1, l0, l2, l3, l4, μ, t, hk, h => tX8_place_20b E l z (jX8_place_20 N n) (tX8_place_20 E l z N n) N l0 l2 l3 l4 μ t hk h
theorem tX8_place (E : m_E) (l : Launch) (N : Nat) (l0 l1 : Int) (μ : Mm) (t : Int × Mm) (hk : m_kd μ l0 = (8, 0)) (h : jX8_place N l0 l1 μ = some t) : TT E l 7 yX8_place cX8_place 5 (some .int) [vr l0, vi l1] μ (rI t) := by
  refine tt_of (L := [(0, vr l0), (1, vi l1)]) (by decide +kernel) (Nat.le_of_ble_eq_true rfl) rfl ?_
  show aX8_place E l 7 (m_sz μ, m_sl μ) 0 [(0, vr l0), (1, vi l1)] [] μ (rI t)
  unfold jX8_place at h
  refine a_iload_n 1 dX8_place_0 rfl rfl ?_
  refine a_cSi [vi l1] [] dX8_place_1 myX8_isPlayer mRX8_539 msX8_isPlayer (fun _ hj => tX8_isPlayer E l N l1 μ _  hj) (by decide) rfl (Nat.le_of_ble_eq_true rfl) h (fun x1 μ1 hm h => ?_)
  have hk := hm.k hk (by decide)
  refine a_if_ne (tgt := 9) dX8_place_4 rfl h (fun h => ?_) (fun h => ?_)
  ·
    refine a_aload_n 0 dX8_place_9 rfl rfl ?_
    refine a_iload_n 1 dX8_place_10 rfl rfl ?_
    refine a_cVi (c := 8) [vi l1] [] dX8_place_11 myX8_meetsAll mRX8_559 mvX8_meetsAll rfl (by decide) hk (fun _ hj => tX8_meetsAll E l N l0 l1 μ1 _ hk hj) (by decide) rfl (Nat.le_of_ble_eq_true rfl) h (fun x2 μ2 hm h => ?_)
    have hk := hm.k hk (by decide)
    refine a_istore_n (L' := [(2, vi x2), (0, vr l0), (1, vi l1)]) dX8_place_14 rfl (by decide) rfl ?_
    refine a_iconst dX8_place_15 (okI_b _ rfl) ?_
    refine a_istore_n (L' := [(3, vi 0), (2, vi x2), (0, vr l0), (1, vi l1)]) dX8_place_16 rfl (by decide) rfl ?_
    refine a_iconst dX8_place_17 (okI_b _ rfl) ?_
    refine a_istore (L' := [(4, vi 0), (3, vi 0), (2, vi x2), (0, vr l0), (1, vi l1)]) dX8_place_18 (by decide) rfl ?_
    exact a_sub [3, 2, 1, 0] rfl (tX8_place_20 E l _ N N l0 x2 0 0 μ2 t hk h)
  ·
    refine a_iconst dX8_place_7 (okI_b _ rfl) ?_
    exact a_reti dX8_place_8 h
-- X8_greatest
abbrev aX8_greatest (E : m_E) (l : Launch) (d : Nat) (z : Nat × Nat) (pc : Nat) (L : List (Nat × AV)) (st : List AV) (μ : Mm) (ρ : Option AV × Mm) : Prop := AA E l d z RX8 "greatest" cX8_greatest 4 (some .int) pc L st μ ρ
theorem tX8_greatest_48 (E : m_E) (l : Launch) (z : Nat × Nat) (k4 : Int → Int → Int → Int → Mm → Option (Int × Mm)) (p4 : ∀ (l0 l1 l2 l3 : Int) (μ : Mm) (t : Int × Mm), m_kd μ l0 = (8, 0) → k4 l0 l1 l2 l3 μ = some t → aX8_greatest E l 1 z 4 [(0, vr l0), (1, vi l1), (2, vi l2), (3, vi l3)] [] μ (rI t)) (N : Nat) (l0 l1 l3 s0 : Int) (μ : Mm) (t : Int × Mm) (hk : m_kd μ l0 = (8, 0)) (h : jX8_greatest_48 k4 N l0 l1 l3 s0 μ = some t) : aX8_greatest E l 1 z 48 [(0, vr l0), (1, vi l1), (3, vi l3)] [vi s0] μ (rI t) := by
  unfold jX8_greatest_48 at h
  refine a_istore_n (L' := [(2, vi s0), (0, vr l0), (1, vi l1), (3, vi l3)]) dX8_greatest_48 rfl (by decide) rfl ?_
  refine a_iinc (F := fun x1 => [(3, vi x1), (2, vi s0), (0, vr l0), (1, vi l1)]) 3 dX8_greatest_49 rfl (by decide) h (fun _ => rfl) (fun x1 h => ?_)
  refine a_goto (tgt := 4) dX8_greatest_52 rfl ?_
  exact a_sub [2, 3, 1, 0] rfl (p4 l0 l1 s0 x1 μ t hk h)
theorem tX8_greatest_33 (E : m_E) (l : Launch) (z : Nat × Nat) (k4 : Int → Int → Int → Int → Mm → Option (Int × Mm)) (p4 : ∀ (l0 l1 l2 l3 : Int) (μ : Mm) (t : Int × Mm), m_kd μ l0 = (8, 0) → k4 l0 l1 l2 l3 μ = some t → aX8_greatest E l 1 z 4 [(0, vr l0), (1, vi l1), (2, vi l2), (3, vi l3)] [] μ (rI t)) (N : Nat) (l0 l1 l3 : Int) (μ : Mm) (t : Int × Mm) (hk : m_kd μ l0 = (8, 0)) (h : jX8_greatest_33 k4 N l0 l1 l3 μ = some t) : aX8_greatest E l 1 z 33 [(0, vr l0), (1, vi l1), (3, vi l3)] [] μ (rI t) := by
  unfold jX8_greatest_33 at h
  refine a_aload_n 0 dX8_greatest_33 rfl rfl ?_
  refine a_getfr (c := 8) (i := 82) dX8_greatest_34 fRX8_171 g8_82 rfl hk ?_
  refine a_bipush dX8_greatest_37 ⟨rfl, okI_b _ rfl⟩ ?_
  refine a_iload_n 1 dX8_greatest_39 rfl rfl ?_
  refine a_imul dX8_greatest_40 ?_
  refine a_iload_n 2 dX8_greatest_41 rfl rfl ?_
  refine a_iadd dX8_greatest_42 ?_
  refine a_iald dX8_greatest_43 h (fun x1 h => ?_)
  refine a_goto (tgt := 48) dX8_greatest_44 rfl ?_
  exact a_sub [0, 1, 2] rfl (tX8_greatest_48 E l _ k4 p4 N l0 l1 l3 x1 μ t hk h)
theorem tX8_greatest_4b (E : m_E) (l : Launch) (z : Nat × Nat) (k4 : Int → Int → Int → Int → Mm → Option (Int × Mm)) (p4 : ∀ (l0 l1 l2 l3 : Int) (μ : Mm) (t : Int × Mm), m_kd μ l0 = (8, 0) → k4 l0 l1 l2 l3 μ = some t → aX8_greatest E l 1 z 4 [(0, vr l0), (1, vi l1), (2, vi l2), (3, vi l3)] [] μ (rI t)) (N : Nat) (l0 l1 l2 l3 : Int) (μ : Mm) (t : Int × Mm) (hk : m_kd μ l0 = (8, 0)) (h : jX8_greatest_4b k4 N l0 l1 l2 l3 μ = some t) : aX8_greatest E l 1 z 4 [(0, vr l0), (1, vi l1), (2, vi l2), (3, vi l3)] [] μ (rI t) := by
  unfold jX8_greatest_4b at h
  refine a_iload_n 3 dX8_greatest_4 rfl rfl ?_
  refine a_aload_n 0 dX8_greatest_5 rfl rfl ?_
  refine a_getfr (c := 8) (i := 81) dX8_greatest_6 fRX8_168 g8_81 rfl hk ?_
  refine a_iload_n 1 dX8_greatest_9 rfl rfl ?_
  refine a_iald dX8_greatest_10 h (fun x1 h => ?_)
  refine a_icmp_ge (tgt := 55) dX8_greatest_11 rfl h (fun h => ?_) (fun h => ?_)
  ·
    refine a_iload_n 2 dX8_greatest_55 rfl rfl ?_
    exact a_reti dX8_greatest_56 h
  ·
    refine a_iload_n 3 dX8_greatest_14 rfl rfl ?_
    refine a_if_eq (tgt := 33) dX8_greatest_15 rfl h (fun h => ?_) (fun h => ?_)
    ·
      exact a_sub [0, 1, 3] rfl (tX8_greatest_33 E l _ k4 p4 N l0 l1 l3 μ t hk h)
    ·
      refine a_aload_n 0 dX8_greatest_18 rfl rfl ?_
      refine a_getfr (c := 8) (i := 82) dX8_greatest_19 fRX8_171 g8_82 rfl hk ?_
      refine a_bipush dX8_greatest_22 ⟨rfl, okI_b _ rfl⟩ ?_
      refine a_iload_n 1 dX8_greatest_24 rfl rfl ?_
      refine a_imul dX8_greatest_25 ?_
      refine a_iload_n 3 dX8_greatest_26 rfl rfl ?_
      refine a_iadd dX8_greatest_27 ?_
      refine a_iald dX8_greatest_28 h (fun x2 h => ?_)
      refine a_iload_n 2 dX8_greatest_29 rfl rfl ?_
      refine a_icmp_le (tgt := 47) dX8_greatest_30 rfl h (fun h => ?_) (fun h => ?_)
      ·
        refine a_iload_n 2 dX8_greatest_47 rfl rfl ?_
        exact a_sub [0, 1, 3] rfl (tX8_greatest_48 E l _ k4 p4 N l0 l1 l3 l2 μ t hk h)
      ·
        exact a_sub [0, 1, 3] rfl (tX8_greatest_33 E l _ k4 p4 N l0 l1 l3 μ t hk h)
theorem tX8_greatest_4 (E : m_E) (l : Launch) (z : Nat × Nat) (N : Nat) : ∀ (n : Nat) (l0 l1 l2 l3 : Int) (μ : Mm) (t : Int × Mm), m_kd μ l0 = (8, 0) → jX8_greatest_4 N n l0 l1 l2 l3 μ = some t → aX8_greatest E l 1 z 4 [(0, vr l0), (1, vi l1), (2, vi l2), (3, vi l3)] [] μ (rI t)
  | 0, _, _, _, _, _, _, _, h => by cases h
  | n + 1, l0, l1, l2, l3, μ, t, hk, h => tX8_greatest_4b E l z (jX8_greatest_4 N n) (tX8_greatest_4 E l z N n) N l0 l1 l2 l3 μ t hk h
theorem tX8_greatest (E : m_E) (l : Launch) (N : Nat) (l0 l1 : Int) (μ : Mm) (t : Int × Mm) (hk : m_kd μ l0 = (8, 0)) (h : jX8_greatest N l0 l1 μ = some t) : TT E l 1 yX8_greatest cX8_greatest 4 (some .int) [vr l0, vi l1] μ (rI t) := by
  refine tt_of (L := [(0, vr l0), (1, vi l1)]) (by decide +kernel) (Nat.le_of_ble_eq_true rfl) rfl ?_
  show aX8_greatest E l 1 (m_sz μ, m_sl μ) 0 [(0, vr l0), (1, vi l1)] [] μ (rI t)
  unfold jX8_greatest at h
  refine a_iconst dX8_greatest_0 (okI_b _ rfl) ?_
  refine a_istore_n (L' := [(2, vi 0), (0, vr l0), (1, vi l1)]) dX8_greatest_1 rfl (by decide) rfl ?_
  refine a_iconst dX8_greatest_2 (okI_b _ rfl) ?_
  refine a_istore_n (L' := [(3, vi 0), (2, vi 0), (0, vr l0), (1, vi l1)]) dX8_greatest_3 rfl (by decide) rfl ?_
  exact a_sub [2, 3, 1, 0] rfl (tX8_greatest_4 E l _ N N l0 l1 0 0 μ t hk h)
-- X8_player
abbrev aX8_player (E : m_E) (l : Launch) (d : Nat) (z : Nat × Nat) (pc : Nat) (L : List (Nat × AV)) (st : List AV) (μ : Mm) (ρ : Option AV × Mm) : Prop := AA E l d z RX8 "player" cX8_player 3 (some .int) pc L st μ ρ
theorem tX8_player (E : m_E) (l : Launch) (N : Nat) (l0 l1 l2 : Int) (μ : Mm) (t : Int × Mm) (hk : m_kd μ l0 = (8, 0)) (h : jX8_player N l0 l1 l2 μ = some t) : TT E l 7 yX8_player cX8_player 3 (some .int) [vr l0, vi l1, vi l2] μ (rI t) := by
  refine tt_of (L := [(0, vr l0), (1, vi l1), (2, vi l2)]) (by decide +kernel) (Nat.le_of_ble_eq_true rfl) rfl ?_
  show aX8_player E l 7 (m_sz μ, m_sl μ) 0 [(0, vr l0), (1, vi l1), (2, vi l2)] [] μ (rI t)
  unfold jX8_player at h
  refine a_iload_n 1 dX8_player_0 rfl rfl ?_
  refine a_cSi [vi l1] [] dX8_player_1 myX8_isPlayer mRX8_539 msX8_isPlayer (fun _ hj => tX8_isPlayer E l N l1 μ _  hj) (by decide) rfl (Nat.le_of_ble_eq_true rfl) h (fun x1 μ1 hm h => ?_)
  have hk := hm.k hk (by decide)
  refine a_if_ne (tgt := 11) dX8_player_4 rfl h (fun h => ?_) (fun h => ?_)
  ·
    refine a_iload_n 2 dX8_player_11 rfl rfl ?_
    refine a_cs h (fun hx h => ?_) (fun hx0 h => ?_)
    ·
      refine a_tsI (off := 40) (tgt := 52) dX8_player_12 (by omega) (by omega) (by rw [hx]; rfl) rfl ?_
      refine a_aload_n 0 dX8_player_52 rfl rfl ?_
      refine a_getfr (c := 8) (i := 81) dX8_player_53 fRX8_168 g8_81 rfl hk ?_
      refine a_iload_n 1 dX8_player_56 rfl rfl ?_
      refine a_iald dX8_player_57 h (fun x2 h => ?_)
      exact a_reti dX8_player_58 h
    refine a_cs h (fun hx h => ?_) (fun hx1 h => ?_)
    ·
      refine a_tsI (off := 47) (tgt := 59) dX8_player_12 (by omega) (by omega) (by rw [hx]; rfl) rfl ?_
      refine a_aload_n 0 dX8_player_59 rfl rfl ?_
      refine a_iload_n 1 dX8_player_60 rfl rfl ?_
      refine a_cVi (c := 8) [vi l1] [] dX8_player_61 myX8_sumOf mRX8_542 mvX8_sumOf rfl (by decide) hk (fun _ hj => tX8_sumOf E l N l0 l1 μ1 _ hk hj) (by decide) rfl (Nat.le_of_ble_eq_true rfl) h (fun x3 μ2 hm h => ?_)
      have hk := hm.k hk (by decide)
      exact a_reti dX8_player_64 h
    refine a_cs h (fun hx h => ?_) (fun hx2 h => ?_)
    ·
      refine a_tsI (off := 53) (tgt := 65) dX8_player_12 (by omega) (by omega) (by rw [hx]; rfl) rfl ?_
      refine a_aload_n 0 dX8_player_65 rfl rfl ?_
      refine a_iload_n 1 dX8_player_66 rfl rfl ?_
      refine a_cVi (c := 8) [vi l1] [] dX8_player_67 myX8_meanOf mRX8_545 mvX8_meanOf rfl (by decide) hk (fun _ hj => tX8_meanOf E l N l0 l1 μ1 _ hk hj) (by decide) rfl (Nat.le_of_ble_eq_true rfl) h (fun x4 μ3 hm h => ?_)
      have hk := hm.k hk (by decide)
      exact a_reti dX8_player_70 h
    refine a_cs h (fun hx h => ?_) (fun hx3 h => ?_)
    ·
      refine a_tsI (off := 59) (tgt := 71) dX8_player_12 (by omega) (by omega) (by rw [hx]; rfl) rfl ?_
      refine a_aload_n 0 dX8_player_71 rfl rfl ?_
      refine a_iload_n 1 dX8_player_72 rfl rfl ?_
      refine a_cVi (c := 8) [vi l1] [] dX8_player_73 myX8_handicapOf mRX8_550 mvX8_handicapOf rfl (by decide) hk (fun _ hj => tX8_handicapOf E l N l0 l1 μ1 _ hk hj) (by decide) rfl (Nat.le_of_ble_eq_true rfl) h (fun x5 μ4 hm h => ?_)
      have hk := hm.k hk (by decide)
      exact a_reti dX8_player_76 h
    refine a_cs h (fun hx h => ?_) (fun hx4 h => ?_)
    ·
      refine a_tsI (off := 65) (tgt := 77) dX8_player_12 (by omega) (by omega) (by rw [hx]; rfl) rfl ?_
      refine a_aload_n 0 dX8_player_77 rfl rfl ?_
      refine a_iload_n 1 dX8_player_78 rfl rfl ?_
      refine a_cVi (c := 8) [vi l1] [] dX8_player_79 myX8_greatest mRX8_556 mvX8_greatest rfl (by decide) hk (fun _ hj => tX8_greatest E l N l0 l1 μ1 _ hk hj) (by decide) rfl (Nat.le_of_ble_eq_true rfl) h (fun x6 μ5 hm h => ?_)
      have hk := hm.k hk (by decide)
      exact a_reti dX8_player_82 h
    refine a_cs h (fun hx h => ?_) (fun hx5 h => ?_)
    ·
      refine a_tsI (off := 71) (tgt := 83) dX8_player_12 (by omega) (by omega) (by rw [hx]; rfl) rfl ?_
      refine a_aload_n 0 dX8_player_83 rfl rfl ?_
      refine a_iload_n 1 dX8_player_84 rfl rfl ?_
      refine a_cVi (c := 8) [vi l1] [] dX8_player_85 myX8_meetsAll mRX8_559 mvX8_meetsAll rfl (by decide) hk (fun _ hj => tX8_meetsAll E l N l0 l1 μ1 _ hk hj) (by decide) rfl (Nat.le_of_ble_eq_true rfl) h (fun x7 μ6 hm h => ?_)
      have hk := hm.k hk (by decide)
      exact a_reti dX8_player_88 h
    refine a_tsO (tgt := 89) dX8_player_12 (by omega) rfl ?_
    refine a_ldcw (x := (-1000000)) dX8_player_89 kRX8_417 ⟨rfl, okI_b _ rfl⟩ ?_
    exact a_reti dX8_player_92 h
  ·
    refine a_ldcw (x := (-1000000)) dX8_player_7 kRX8_417 ⟨rfl, okI_b _ rfl⟩ ?_
    exact a_reti dX8_player_10 h
-- X8_points
abbrev aX8_points (E : m_E) (l : Launch) (d : Nat) (z : Nat × Nat) (pc : Nat) (L : List (Nat × AV)) (st : List AV) (μ : Mm) (ρ : Option AV × Mm) : Prop := AA E l d z RX8 "points" cX8_points 2 (some .int) pc L st μ ρ
theorem tX8_points_56 (E : m_E) (l : Launch) (z : Nat × Nat) (N : Nat) (l0 : Int) (μ : Mm) (t : Int × Mm) (hk : m_kd μ l0 = (8, 0)) (h : jX8_points_56 N l0 μ = some t) : aX8_points E l 6 z 56 [(0, vr l0)] [] μ (rI t) := by
  unfold jX8_points_56 at h
  refine a_ldcw (x := (-1000000)) dX8_points_56 kRX8_417 ⟨rfl, okI_b _ rfl⟩ ?_
  exact a_reti dX8_points_59 h
theorem tX8_points (E : m_E) (l : Launch) (N : Nat) (l0 l1 : Int) (μ : Mm) (t : Int × Mm) (hk : m_kd μ l0 = (8, 0)) (h : jX8_points N l0 l1 μ = some t) : TT E l 6 yX8_points cX8_points 2 (some .int) [vr l0, vi l1] μ (rI t) := by
  refine tt_of (L := [(0, vr l0), (1, vi l1)]) (by decide +kernel) (Nat.le_of_ble_eq_true rfl) rfl ?_
  show aX8_points E l 6 (m_sz μ, m_sl μ) 0 [(0, vr l0), (1, vi l1)] [] μ (rI t)
  unfold jX8_points at h
  refine a_aload_n 0 dX8_points_0 rfl rfl ?_
  refine a_cVv (c := 8) [] [] dX8_points_1 myX8_goesThrough mRX8_410 mvX8_goesThrough rfl (by decide) hk (fun _ hj => tX8_goesThrough E l N l0 μ _ hk hj) (by decide) rfl (Nat.le_of_ble_eq_true rfl) h (fun μ1 hm h => ?_)
  have hk := hm.k hk (by decide)
  refine a_iload_n 1 dX8_points_4 rfl rfl ?_
  refine a_i2l dX8_points_5 ?_
  refine a_lconst (v := 0) dX8_points_6 ⟨rfl, okJ_b _ rfl⟩ ?_
  refine a_aload_n 0 dX8_points_7 rfl rfl ?_
  refine a_getfr (c := 8) (i := 32) dX8_points_8 fRX8_87 g8_32 rfl hk ?_
  refine a_iconst dX8_points_11 (okI_b _ rfl) ?_
  refine a_iald dX8_points_12 h (fun x1 h => ?_)
  refine a_iconst dX8_points_13 (okI_b _ rfl) ?_
  refine a_isub dX8_points_14 ?_
  refine a_i2l dX8_points_15 ?_
  refine a_cSi [vl (i_2l l1), vl 0, vl (i_2l (i_sub x1 1))] [] dX8_points_16 myX8_isIn mRX8_223 msX8_isIn (fun _ hj => tX8_isIn E l N (i_2l l1) 0 (i_2l (i_sub x1 1)) μ1 _  hj) (by decide) rfl (Nat.le_of_ble_eq_true rfl) h (fun x2 μ2 hm h => ?_)
  have hk := hm.k hk (by decide)
  refine a_if_eq (tgt := 56) dX8_points_19 rfl h (fun h => ?_) (fun h => ?_)
  ·
    exact a_sub [0] rfl (tX8_points_56 E l _ N l0 μ2 t hk h)
  ·
    refine a_iload_n 1 dX8_points_22 rfl rfl ?_
    refine a_aload_n 0 dX8_points_23 rfl rfl ?_
    refine a_getfi (c := 8) (i := 65) dX8_points_24 fRX8_385 g8_65 rfl hk ?_
    refine a_icmp_ge (tgt := 56) dX8_points_27 rfl h (fun h => ?_) (fun h => ?_)
    ·
      exact a_sub [0] rfl (tX8_points_56 E l _ N l0 μ2 t hk h)
    ·
      refine a_aload_n 0 dX8_points_30 rfl rfl ?_
      refine a_getfr (c := 8) (i := 60) dX8_points_31 fRX8_134 g8_60 rfl hk ?_
      refine a_iload_n 1 dX8_points_34 rfl rfl ?_
      refine a_iald dX8_points_35 h (fun x3 h => ?_)
      refine a_aload_n 0 dX8_points_36 rfl rfl ?_
      refine a_getfr (c := 8) (i := 61) dX8_points_37 fRX8_137 g8_61 rfl hk ?_
      refine a_iload_n 1 dX8_points_40 rfl rfl ?_
      refine a_iald dX8_points_41 h (fun x4 h => ?_)
      refine a_iadd dX8_points_42 ?_
      refine a_aload_n 0 dX8_points_43 rfl rfl ?_
      refine a_iload_n 1 dX8_points_44 rfl rfl ?_
      refine a_cVi (c := 8) [vi l1] [vi (i_add x3 x4)] dX8_points_45 myX8_owed mRX8_407 mvX8_owed rfl (by decide) hk (fun _ hj => tX8_owed E l N l0 l1 μ2 _ hk hj) (by decide) rfl (Nat.le_of_ble_eq_true rfl) h (fun x5 μ3 hm h => ?_)
      have hk := hm.k hk (by decide)
      refine a_iadd dX8_points_48 ?_
      refine a_aload_n 0 dX8_points_49 rfl rfl ?_
      refine a_getfi (c := 8) (i := 58) dX8_points_50 fRX8_324 g8_58 rfl hk ?_
      refine a_icmp_le (tgt := 60) dX8_points_53 rfl h (fun h => ?_) (fun h => ?_)
      ·
        refine a_aload_n 0 dX8_points_60 rfl rfl ?_
        refine a_iload_n 1 dX8_points_61 rfl rfl ?_
        refine a_cVi (c := 8) [vi l1] [] dX8_points_62 myX8_pointsOf mRX8_418 mvX8_pointsOf rfl (by decide) hk (fun _ hj => tX8_pointsOf E l N l0 l1 μ3 _ hk hj) (by decide) rfl (Nat.le_of_ble_eq_true rfl) h (fun x6 μ4 hm h => ?_)
        have hk := hm.k hk (by decide)
        exact a_reti dX8_points_65 h
      ·
        exact a_sub [0] rfl (tX8_points_56 E l _ N l0 μ3 t hk h)
-- X8_rolled
abbrev aX8_rolled (E : m_E) (l : Launch) (d : Nat) (z : Nat × Nat) (pc : Nat) (L : List (Nat × AV)) (st : List AV) (μ : Mm) (ρ : Option AV × Mm) : Prop := AA E l d z RX8 "rolled" cX8_rolled 2 (some .int) pc L st μ ρ
theorem tX8_rolled_26 (E : m_E) (l : Launch) (z : Nat × Nat) (N : Nat) (l0 s0 : Int) (μ : Mm) (t : Int × Mm) (hk : m_kd μ l0 = (8, 0)) (h : jX8_rolled_26 N l0 s0 μ = some t) : aX8_rolled E l 2 z 26 [(0, vr l0)] [vi s0] μ (rI t) := by
  unfold jX8_rolled_26 at h
  exact a_reti dX8_rolled_26 h
theorem tX8_rolled (E : m_E) (l : Launch) (N : Nat) (l0 l1 : Int) (μ : Mm) (t : Int × Mm) (hk : m_kd μ l0 = (8, 0)) (h : jX8_rolled N l0 l1 μ = some t) : TT E l 2 yX8_rolled cX8_rolled 2 (some .int) [vr l0, vi l1] μ (rI t) := by
  refine tt_of (L := [(0, vr l0), (1, vi l1)]) (by decide +kernel) (Nat.le_of_ble_eq_true rfl) rfl ?_
  show aX8_rolled E l 2 (m_sz μ, m_sl μ) 0 [(0, vr l0), (1, vi l1)] [] μ (rI t)
  unfold jX8_rolled at h
  refine a_iload_n 1 dX8_rolled_0 rfl rfl ?_
  refine a_i2l dX8_rolled_1 ?_
  refine a_lconst (v := 0) dX8_rolled_2 ⟨rfl, okJ_b _ rfl⟩ ?_
  refine a_aload_n 0 dX8_rolled_3 rfl rfl ?_
  refine a_getfi (c := 8) (i := 58) dX8_rolled_4 fRX8_324 g8_58 rfl hk ?_
  refine a_iconst dX8_rolled_7 (okI_b _ rfl) ?_
  refine a_isub dX8_rolled_8 ?_
  refine a_i2l dX8_rolled_9 ?_
  refine a_cSi [vl (i_2l l1), vl 0, vl (i_2l (i_sub (m_gt μ l0 58) 1))] [] dX8_rolled_10 myX8_isIn mRX8_223 msX8_isIn (fun _ hj => tX8_isIn E l N (i_2l l1) 0 (i_2l (i_sub (m_gt μ l0 58) 1)) μ _  hj) (by decide) rfl (Nat.le_of_ble_eq_true rfl) h (fun x1 μ1 hm h => ?_)
  have hk := hm.k hk (by decide)
  refine a_if_eq (tgt := 25) dX8_rolled_13 rfl h (fun h => ?_) (fun h => ?_)
  ·
    refine a_iconst dX8_rolled_25 (okI_b _ rfl) ?_
    exact a_sub [0] rfl (tX8_rolled_26 E l _ N l0 (-1) μ1 t hk h)
  ·
    refine a_aload_n 0 dX8_rolled_16 rfl rfl ?_
    refine a_getfr (c := 8) (i := 59) dX8_rolled_17 fRX8_131 g8_59 rfl hk ?_
    refine a_iload_n 1 dX8_rolled_20 rfl rfl ?_
    refine a_iald dX8_rolled_21 h (fun x2 h => ?_)
    refine a_goto (tgt := 26) dX8_rolled_22 rfl ?_
    exact a_sub [0] rfl (tX8_rolled_26 E l _ N l0 x2 μ1 t hk h)
-- X8_sheet
abbrev aX8_sheet (E : m_E) (l : Launch) (d : Nat) (z : Nat × Nat) (pc : Nat) (L : List (Nat × AV)) (st : List AV) (μ : Mm) (ρ : Option AV × Mm) : Prop := AA E l d z RX8 "sheet" cX8_sheet 2 (some .int) pc L st μ ρ
theorem tX8_sheet_114 (E : m_E) (l : Launch) (z : Nat × Nat) (N : Nat) (l0 s0 : Int) (μ : Mm) (t : Int × Mm) (hk : m_kd μ l0 = (8, 0)) (h : jX8_sheet_114 N l0 s0 μ = some t) : aX8_sheet E l 3 z 114 [(0, vr l0)] [vi s0] μ (rI t) := by
  unfold jX8_sheet_114 at h
  exact a_reti dX8_sheet_114 h
theorem tX8_sheet_101 (E : m_E) (l : Launch) (z : Nat × Nat) (N : Nat) (l0 s0 : Int) (μ : Mm) (t : Int × Mm) (hk : m_kd μ l0 = (8, 0)) (h : jX8_sheet_101 N l0 s0 μ = some t) : aX8_sheet E l 3 z 101 [(0, vr l0)] [vi s0] μ (rI t) := by
  unfold jX8_sheet_101 at h
  exact a_reti dX8_sheet_101 h
theorem tX8_sheet_85 (E : m_E) (l : Launch) (z : Nat × Nat) (N : Nat) (l0 s0 : Int) (μ : Mm) (t : Int × Mm) (hk : m_kd μ l0 = (8, 0)) (h : jX8_sheet_85 N l0 s0 μ = some t) : aX8_sheet E l 3 z 85 [(0, vr l0)] [vi s0] μ (rI t) := by
  unfold jX8_sheet_85 at h
  exact a_reti dX8_sheet_85 h
theorem tX8_sheet_64 (E : m_E) (l : Launch) (z : Nat × Nat) (N : Nat) (l0 s0 : Int) (μ : Mm) (t : Int × Mm) (hk : m_kd μ l0 = (8, 0)) (h : jX8_sheet_64 N l0 s0 μ = some t) : aX8_sheet E l 3 z 64 [(0, vr l0)] [vi s0] μ (rI t) := by
  unfold jX8_sheet_64 at h
  exact a_reti dX8_sheet_64 h
theorem tX8_sheet (E : m_E) (l : Launch) (N : Nat) (l0 l1 : Int) (μ : Mm) (t : Int × Mm) (hk : m_kd μ l0 = (8, 0)) (h : jX8_sheet N l0 l1 μ = some t) : TT E l 3 yX8_sheet cX8_sheet 2 (some .int) [vr l0, vi l1] μ (rI t) := by
  refine tt_of (L := [(0, vr l0), (1, vi l1)]) (by decide +kernel) (Nat.le_of_ble_eq_true rfl) rfl ?_
  show aX8_sheet E l 3 (m_sz μ, m_sl μ) 0 [(0, vr l0), (1, vi l1)] [] μ (rI t)
  unfold jX8_sheet at h
  refine a_aload_n 0 dX8_sheet_0 rfl rfl ?_
  refine a_cVv (c := 8) [] [] dX8_sheet_1 myX8_goesThrough mRX8_410 mvX8_goesThrough rfl (by decide) hk (fun _ hj => tX8_goesThrough E l N l0 μ _ hk hj) (by decide) rfl (Nat.le_of_ble_eq_true rfl) h (fun μ1 hm h => ?_)
  have hk := hm.k hk (by decide)
  refine a_iload_n 1 dX8_sheet_4 rfl rfl ?_
  refine a_cs h (fun hx h => ?_) (fun hx0 h => ?_)
  ·
    refine a_tsI (off := 39) (tgt := 44) dX8_sheet_5 (by omega) (by omega) (by rw [hx]; rfl) rfl ?_
    refine a_aload_n 0 dX8_sheet_44 rfl rfl ?_
    refine a_getfi (c := 8) (i := 58) dX8_sheet_45 fRX8_324 g8_58 rfl hk ?_
    exact a_reti dX8_sheet_48 h
  refine a_cs h (fun hx h => ?_) (fun hx1 h => ?_)
  ·
    refine a_tsI (off := 44) (tgt := 49) dX8_sheet_5 (by omega) (by omega) (by rw [hx]; rfl) rfl ?_
    refine a_aload_n 0 dX8_sheet_49 rfl rfl ?_
    refine a_getfz (c := 8) (i := 68) dX8_sheet_50 fRX8_404 g8_68 rfl hk ?_
    refine a_if_eq (tgt := 60) dX8_sheet_53 rfl h (fun h => ?_) (fun h => ?_)
    ·
      refine a_aload_n 0 dX8_sheet_60 rfl rfl ?_
      refine a_getfi (c := 8) (i := 65) dX8_sheet_61 fRX8_385 g8_65 rfl hk ?_
      exact a_sub [0] rfl (tX8_sheet_64 E l _ N l0 (m_gt μ1 l0 65) μ1 t hk h)
    ·
      refine a_iconst dX8_sheet_56 (okI_b _ rfl) ?_
      refine a_goto (tgt := 64) dX8_sheet_57 rfl ?_
      exact a_sub [0] rfl (tX8_sheet_64 E l _ N l0 (-1) μ1 t hk h)
  refine a_cs h (fun hx h => ?_) (fun hx2 h => ?_)
  ·
    refine a_tsI (off := 60) (tgt := 65) dX8_sheet_5 (by omega) (by omega) (by rw [hx]; rfl) rfl ?_
    refine a_aload_n 0 dX8_sheet_65 rfl rfl ?_
    refine a_getfz (c := 8) (i := 68) dX8_sheet_66 fRX8_404 g8_68 rfl hk ?_
    refine a_if_eq (tgt := 76) dX8_sheet_69 rfl h (fun h => ?_) (fun h => ?_)
    ·
      refine a_aload_n 0 dX8_sheet_76 rfl rfl ?_
      refine a_getfr (c := 8) (i := 61) dX8_sheet_77 fRX8_137 g8_61 rfl hk ?_
      refine a_aload_n 0 dX8_sheet_80 rfl rfl ?_
      refine a_getfi (c := 8) (i := 65) dX8_sheet_81 fRX8_385 g8_65 rfl hk ?_
      refine a_iald dX8_sheet_84 h (fun x1 h => ?_)
      exact a_sub [0] rfl (tX8_sheet_85 E l _ N l0 x1 μ1 t hk h)
    ·
      refine a_iconst dX8_sheet_72 (okI_b _ rfl) ?_
      refine a_goto (tgt := 85) dX8_sheet_73 rfl ?_
      exact a_sub [0] rfl (tX8_sheet_85 E l _ N l0 0 μ1 t hk h)
  refine a_cs h (fun hx h => ?_) (fun hx3 h => ?_)
  ·
    refine a_tsI (off := 81) (tgt := 86) dX8_sheet_5 (by omega) (by omega) (by rw [hx]; rfl) rfl ?_
    refine a_aload_n 0 dX8_sheet_86 rfl rfl ?_
    refine a_getfz (c := 8) (i := 68) dX8_sheet_87 fRX8_404 g8_68 rfl hk ?_
    refine a_if_eq (tgt := 97) dX8_sheet_90 rfl h (fun h => ?_) (fun h => ?_)
    ·
      refine a_aload_n 0 dX8_sheet_97 rfl rfl ?_
      refine a_getfi (c := 8) (i := 66) dX8_sheet_98 fRX8_398 g8_66 rfl hk ?_
      exact a_sub [0] rfl (tX8_sheet_101 E l _ N l0 (m_gt μ1 l0 66) μ1 t hk h)
    ·
      refine a_iconst dX8_sheet_93 (okI_b _ rfl) ?_
      refine a_goto (tgt := 101) dX8_sheet_94 rfl ?_
      exact a_sub [0] rfl (tX8_sheet_101 E l _ N l0 0 μ1 t hk h)
  refine a_cs h (fun hx h => ?_) (fun hx4 h => ?_)
  ·
    refine a_tsI (off := 97) (tgt := 102) dX8_sheet_5 (by omega) (by omega) (by rw [hx]; rfl) rfl ?_
    refine a_aload_n 0 dX8_sheet_102 rfl rfl ?_
    refine a_getfz (c := 8) (i := 68) dX8_sheet_103 fRX8_404 g8_68 rfl hk ?_
    refine a_if_eq (tgt := 113) dX8_sheet_106 rfl h (fun h => ?_) (fun h => ?_)
    ·
      refine a_iconst dX8_sheet_113 (okI_b _ rfl) ?_
      exact a_sub [0] rfl (tX8_sheet_114 E l _ N l0 0 μ1 t hk h)
    ·
      refine a_iconst dX8_sheet_109 (okI_b _ rfl) ?_
      refine a_goto (tgt := 114) dX8_sheet_110 rfl ?_
      exact a_sub [0] rfl (tX8_sheet_114 E l _ N l0 1 μ1 t hk h)
  refine a_cs h (fun hx h => ?_) (fun hx5 h => ?_)
  ·
    refine a_tsI (off := 110) (tgt := 115) dX8_sheet_5 (by omega) (by omega) (by rw [hx]; rfl) rfl ?_
    refine a_aload_n 0 dX8_sheet_115 rfl rfl ?_
    refine a_getfi (c := 8) (i := 67) dX8_sheet_116 fRX8_401 g8_67 rfl hk ?_
    exact a_reti dX8_sheet_119 h
  refine a_tsO (tgt := 120) dX8_sheet_5 (by omega) rfl ?_
  refine a_iconst dX8_sheet_120 (okI_b _ rfl) ?_
  exact a_reti dX8_sheet_121 h
-- X8_many
abbrev aX8_many (E : m_E) (l : Launch) (d : Nat) (z : Nat × Nat) (pc : Nat) (L : List (Nat × AV)) (st : List AV) (μ : Mm) (ρ : Option AV × Mm) : Prop := AA E l d z RX8 "many" cX8_many 3 (some .int) pc L st μ ρ
theorem tX8_many_4b (E : m_E) (l : Launch) (z : Nat × Nat) (k4 : Int → Int → Mm → Option (Int × Mm)) (p4 : ∀ (l1 l2 : Int) (μ : Mm) (t : Int × Mm), k4 l1 l2 μ = some t → aX8_many E l 1 z 4 [(1, vi l1), (2, vi l2)] [] μ (rI t)) (N : Nat) (l1 l2 : Int) (μ : Mm) (t : Int × Mm) (h : jX8_many_4b k4 N l1 l2 μ = some t) : aX8_many E l 1 z 4 [(1, vi l1), (2, vi l2)] [] μ (rI t) := by
  unfold jX8_many_4b at h
  refine a_iload_n 1 dX8_many_4 rfl rfl ?_
  refine a_if_le (tgt := 21) dX8_many_5 rfl h (fun h => ?_) (fun h => ?_)
  ·
    refine a_iload_n 0 dX8_many_21 rfl rfl ?_
    exact a_reti dX8_many_22 h
  ·
    refine a_iload_n 0 dX8_many_8 rfl rfl ?_
    refine a_iload_n 1 dX8_many_9 rfl rfl ?_
    refine a_iconst dX8_many_10 (okI_b _ rfl) ?_
    refine a_iand dX8_many_11 ?_
    refine a_iadd dX8_many_12 ?_
    refine a_nmi h (fun x1 h => ?_)
    refine a_istore_n (L' := [(1, vi x1), (2, vi l2)]) dX8_many_13 rfl (by decide) rfl ?_
    refine a_iload_n 1 dX8_many_14 rfl rfl ?_
    refine a_iconst dX8_many_15 (okI_b _ rfl) ?_
    refine a_ishr dX8_many_16 ?_
    refine a_nmi h (fun x2 h => ?_)
    refine a_istore_n (L' := [(2, vi x2), (1, vi x1)]) dX8_many_17 rfl (by decide) rfl ?_
    refine a_goto (tgt := 4) dX8_many_18 rfl ?_
    exact a_sub [1, 0] rfl (p4 x1 x2 μ t h)
theorem tX8_many_4 (E : m_E) (l : Launch) (z : Nat × Nat) (N : Nat) : ∀ (n : Nat) (l1 l2 : Int) (μ : Mm) (t : Int × Mm), jX8_many_4 N n l1 l2 μ = some t → aX8_many E l 1 z 4 [(1, vi l1), (2, vi l2)] [] μ (rI t)
  | 0, _, _, _, _, h => by cases h
  | n + 1, l1, l2, μ, t, h => tX8_many_4b E l z (jX8_many_4 N n) (tX8_many_4 E l z N n) N l1 l2 μ t h
theorem tX8_many (E : m_E) (l : Launch) (N : Nat) (l0 : Int) (μ : Mm) (t : Int × Mm) (h : jX8_many N l0 μ = some t) : TT E l 1 yX8_many cX8_many 3 (some .int) [vi l0] μ (rI t) := by
  refine tt_of (L := [(0, vi l0)]) (by decide +kernel) (Nat.le_of_ble_eq_true rfl) rfl ?_
  show aX8_many E l 1 (m_sz μ, m_sl μ) 0 [(0, vi l0)] [] μ (rI t)
  unfold jX8_many at h
  refine a_iconst dX8_many_0 (okI_b _ rfl) ?_
  refine a_istore_n (L' := [(1, vi 0), (0, vi l0)]) dX8_many_1 rfl (by decide) rfl ?_
  refine a_iload_n 1 dX8_many_2 rfl rfl ?_
  refine a_istore_n (L' := [(2, vi l0), (1, vi 0), (0, vi l0)]) dX8_many_3 rfl (by decide) rfl ?_
  exact a_sub [1, 0] rfl (tX8_many_4 E l _ N N 0 l0 μ t h)
-- X8_split
abbrev aX8_split (E : m_E) (l : Launch) (d : Nat) (z : Nat × Nat) (pc : Nat) (L : List (Nat × AV)) (st : List AV) (μ : Mm) (ρ : Option AV × Mm) : Prop := AA E l d z RX8 "split" cX8_split 2 (some .int) pc L st μ ρ
theorem tX8_split_33 (E : m_E) (l : Launch) (z : Nat × Nat) (N : Nat) (l0 s0 : Int) (μ : Mm) (t : Int × Mm) (hk : m_kd μ l0 = (8, 0)) (h : jX8_split_33 N l0 s0 μ = some t) : aX8_split E l 3 z 33 [(0, vr l0)] [vi s0] μ (rI t) := by
  unfold jX8_split_33 at h
  exact a_reti dX8_split_33 h
theorem tX8_split_32 (E : m_E) (l : Launch) (z : Nat × Nat) (N : Nat) (l0 : Int) (μ : Mm) (t : Int × Mm) (hk : m_kd μ l0 = (8, 0)) (h : jX8_split_32 N l0 μ = some t) : aX8_split E l 3 z 32 [(0, vr l0)] [] μ (rI t) := by
  unfold jX8_split_32 at h
  refine a_iconst dX8_split_32 (okI_b _ rfl) ?_
  exact a_sub [0] rfl (tX8_split_33 E l _ N l0 0 μ t hk h)
theorem tX8_split (E : m_E) (l : Launch) (N : Nat) (l0 l1 : Int) (μ : Mm) (t : Int × Mm) (hk : m_kd μ l0 = (8, 0)) (h : jX8_split N l0 l1 μ = some t) : TT E l 3 yX8_split cX8_split 2 (some .int) [vr l0, vi l1] μ (rI t) := by
  refine tt_of (L := [(0, vr l0), (1, vi l1)]) (by decide +kernel) (Nat.le_of_ble_eq_true rfl) rfl ?_
  show aX8_split E l 3 (m_sz μ, m_sl μ) 0 [(0, vr l0), (1, vi l1)] [] μ (rI t)
  unfold jX8_split at h
  refine a_aload_n 0 dX8_split_0 rfl rfl ?_
  refine a_iload_n 1 dX8_split_1 rfl rfl ?_
  refine a_iconst dX8_split_2 (okI_b _ rfl) ?_
  refine a_cVi (c := 8) [vi l1, vi 0] [] dX8_split_3 myX8_isPins mRX8_528 mvX8_isPins rfl (by decide) hk (fun _ hj => tX8_isPins E l N l0 l1 0 μ _ hk hj) (by decide) rfl (Nat.le_of_ble_eq_true rfl) h (fun x1 μ1 hm h => ?_)
  have hk := hm.k hk (by decide)
  refine a_if_ne (tgt := 11) dX8_split_6 rfl h (fun h => ?_) (fun h => ?_)
  ·
    refine a_iload_n 1 dX8_split_11 rfl rfl ?_
    refine a_cSi [vi l1] [] dX8_split_12 myX8_many mRX8_534 msX8_many (fun _ hj => tX8_many E l N l1 μ1 _  hj) (by decide) rfl (Nat.le_of_ble_eq_true rfl) h (fun x2 μ2 hm h => ?_)
    have hk := hm.k hk (by decide)
    refine a_iconst dX8_split_15 (okI_b _ rfl) ?_
    refine a_icmp_le (tgt := 32) dX8_split_16 rfl h (fun h => ?_) (fun h => ?_)
    ·
      exact a_sub [0] rfl (tX8_split_32 E l _ N l0 μ2 t hk h)
    ·
      refine a_aload_n 0 dX8_split_19 rfl rfl ?_
      refine a_iload_n 1 dX8_split_20 rfl rfl ?_
      refine a_cVi (c := 8) [vi l1] [] dX8_split_21 myX8_part mRX8_531 mvX8_part rfl (by decide) hk (fun _ hj => tX8_part E l N l0 l1 μ2 _ hk hj) (by decide) rfl (Nat.le_of_ble_eq_true rfl) h (fun x3 μ3 hm h => ?_)
      have hk := hm.k hk (by decide)
      refine a_iload_n 1 dX8_split_24 rfl rfl ?_
      refine a_icmp_eq (tgt := 32) dX8_split_25 rfl h (fun h => ?_) (fun h => ?_)
      ·
        exact a_sub [0] rfl (tX8_split_32 E l _ N l0 μ3 t hk h)
      ·
        refine a_iconst dX8_split_28 (okI_b _ rfl) ?_
        refine a_goto (tgt := 33) dX8_split_29 rfl ?_
        exact a_sub [0] rfl (tX8_split_33 E l _ N l0 1 μ3 t hk h)
  ·
    refine a_iconst dX8_split_9 (okI_b _ rfl) ?_
    exact a_reti dX8_split_10 h
-- X8_tear
abbrev aX8_tear (E : m_E) (l : Launch) (d : Nat) (z : Nat × Nat) (pc : Nat) (L : List (Nat × AV)) (st : List AV) (μ : Mm) (ρ : Option AV × Mm) : Prop := AA E l d z RX8 "tear" cX8_tear 3 (some .boolean) pc L st μ ρ
theorem tX8_tear_55 (E : m_E) (l : Launch) (z : Nat × Nat) (N : Nat) (l0 s0 s1 : Int) (μ : Mm) (t : Int × Mm) (hk : m_kd μ l0 = (8, 0)) (h : jX8_tear_55 N l0 s0 s1 μ = some t) : aX8_tear E l 3 z 55 [(0, vr l0)] [vi s0, vr s1] μ (rI t) := by
  unfold jX8_tear_55 at h
  refine m_chk_k h (fun hq0 h => ?_)
  refine a_putfi (c := 8) (i := 78) dX8_tear_55 fRX8_327 g8_78 (Or.inl rfl) rfl hq0 h (fun μ1 hm h => ?_)
  have hk := hm.k hk (by decide)
  have hq0 := hm.k hq0 (by decide)
  refine a_aload_n 0 dX8_tear_58 rfl rfl ?_
  refine a_iconst dX8_tear_59 (okI_b _ rfl) ?_
  refine a_putfz (c := 8) (i := 72) dX8_tear_60 fRX8_334 g8_72 (Or.inl rfl) rfl (Or.inl rfl) hk h (fun μ2 hm h => ?_)
  have hk := hm.k hk (by decide)
  have hq0 := hm.k hq0 (by decide)
  refine a_iconst dX8_tear_63 (okI_b _ rfl) ?_
  exact a_retzl (Or.inr rfl) dX8_tear_64 h
theorem tX8_tear_27 (E : m_E) (l : Launch) (z : Nat × Nat) (N : Nat) (l0 : Int) (μ : Mm) (t : Int × Mm) (hk : m_kd μ l0 = (8, 0)) (h : jX8_tear_27 N l0 μ = some t) : aX8_tear E l 3 z 27 [(0, vr l0)] [] μ (rI t) := by
  unfold jX8_tear_27 at h
  refine a_iconst dX8_tear_27 (okI_b _ rfl) ?_
  exact a_retzl (Or.inl rfl) dX8_tear_28 h
theorem tX8_tear (E : m_E) (l : Launch) (N : Nat) (l0 l1 l2 : Int) (μ : Mm) (t : Int × Mm) (hk : m_kd μ l0 = (8, 0)) (h : jX8_tear N l0 l1 l2 μ = some t) : TT E l 3 yX8_tear cX8_tear 3 (some .boolean) [vr l0, vi l1, vi l2] μ (rI t) := by
  refine tt_of (L := [(0, vr l0), (1, vi l1), (2, vi l2)]) (by decide +kernel) (Nat.le_of_ble_eq_true rfl) rfl ?_
  show aX8_tear E l 3 (m_sz μ, m_sl μ) 0 [(0, vr l0), (1, vi l1), (2, vi l2)] [] μ (rI t)
  unfold jX8_tear at h
  refine a_aload_n 0 dX8_tear_0 rfl rfl ?_
  refine a_cVv (c := 8) [] [] dX8_tear_1 myX8_goesThrough mRX8_410 mvX8_goesThrough rfl (by decide) hk (fun _ hj => tX8_goesThrough E l N l0 μ _ hk hj) (by decide) rfl (Nat.le_of_ble_eq_true rfl) h (fun μ1 hm h => ?_)
  have hk := hm.k hk (by decide)
  refine a_aload_n 0 dX8_tear_4 rfl rfl ?_
  refine a_getfz (c := 8) (i := 68) dX8_tear_5 fRX8_404 g8_68 rfl hk ?_
  refine a_if_eq (tgt := 27) dX8_tear_8 rfl h (fun h => ?_) (fun h => ?_)
  ·
    exact a_sub [0] rfl (tX8_tear_27 E l _ N l0 μ1 t hk h)
  ·
    refine a_iload_n 1 dX8_tear_11 rfl rfl ?_
    refine a_i2l dX8_tear_12 ?_
    refine a_lconst (v := 0) dX8_tear_13 ⟨rfl, okJ_b _ rfl⟩ ?_
    refine a_aload_n 0 dX8_tear_14 rfl rfl ?_
    refine a_getfr (c := 8) (i := 32) dX8_tear_15 fRX8_87 g8_32 rfl hk ?_
    refine a_iconst dX8_tear_18 (okI_b _ rfl) ?_
    refine a_iald dX8_tear_19 h (fun x1 h => ?_)
    refine a_i2l dX8_tear_20 ?_
    refine a_cSi [vl (i_2l l1), vl 0, vl (i_2l x1)] [] dX8_tear_21 myX8_isIn mRX8_223 msX8_isIn (fun _ hj => tX8_isIn E l N (i_2l l1) 0 (i_2l x1) μ1 _  hj) (by decide) rfl (Nat.le_of_ble_eq_true rfl) h (fun x2 μ2 hm h => ?_)
    have hk := hm.k hk (by decide)
    refine a_if_ne (tgt := 29) dX8_tear_24 rfl h (fun h => ?_) (fun h => ?_)
    ·
      refine a_aload_n 0 dX8_tear_29 rfl rfl ?_
      refine a_iload_n 2 dX8_tear_30 rfl rfl ?_
      refine a_if_eq (tgt := 45) dX8_tear_31 rfl h (fun h => ?_) (fun h => ?_)
      ·
        refine a_aload_n 0 dX8_tear_45 rfl rfl ?_
        refine a_getfi (c := 8) (i := 78) dX8_tear_46 fRX8_327 g8_78 rfl hk ?_
        refine a_iconst dX8_tear_49 (okI_b _ rfl) ?_
        refine a_iload_n 1 dX8_tear_50 rfl rfl ?_
        refine a_ishl dX8_tear_51 ?_
        refine a_iconst dX8_tear_52 (okI_b _ rfl) ?_
        refine a_ixor dX8_tear_53 ?_
        refine a_iand dX8_tear_54 ?_
        exact a_sub [0] rfl (tX8_tear_55 E l _ N l0 (i_and (m_gt μ2 l0 78) (i_xor (i_shl 1 l1) (-1))) l0 μ2 t hk h)
      ·
        refine a_aload_n 0 dX8_tear_34 rfl rfl ?_
        refine a_getfi (c := 8) (i := 78) dX8_tear_35 fRX8_327 g8_78 rfl hk ?_
        refine a_iconst dX8_tear_38 (okI_b _ rfl) ?_
        refine a_iload_n 1 dX8_tear_39 rfl rfl ?_
        refine a_ishl dX8_tear_40 ?_
        refine a_ior dX8_tear_41 ?_
        refine a_goto (tgt := 55) dX8_tear_42 rfl ?_
        exact a_sub [0] rfl (tX8_tear_55 E l _ N l0 (i_or (m_gt μ2 l0 78) (i_shl 1 l1)) l0 μ2 t hk h)
    ·
      exact a_sub [0] rfl (tX8_tear_27 E l _ N l0 μ2 t hk h)
-- X8_total
abbrev aX8_total (E : m_E) (l : Launch) (d : Nat) (z : Nat × Nat) (pc : Nat) (L : List (Nat × AV)) (st : List AV) (μ : Mm) (ρ : Option AV × Mm) : Prop := AA E l d z RX8 "total" cX8_total 1 (some .int) pc L st μ ρ
theorem tX8_total_21 (E : m_E) (l : Launch) (z : Nat × Nat) (N : Nat) (l0 s0 : Int) (μ : Mm) (t : Int × Mm) (hk : m_kd μ l0 = (8, 0)) (h : jX8_total_21 N l0 s0 μ = some t) : aX8_total E l 7 z 21 [(0, vr l0)] [vi s0] μ (rI t) := by
  unfold jX8_total_21 at h
  exact a_reti dX8_total_21 h
theorem tX8_total (E : m_E) (l : Launch) (N : Nat) (l0 : Int) (μ : Mm) (t : Int × Mm) (hk : m_kd μ l0 = (8, 0)) (h : jX8_total N l0 μ = some t) : TT E l 7 yX8_total cX8_total 1 (some .int) [vr l0] μ (rI t) := by
  refine tt_of (L := [(0, vr l0)]) (by decide +kernel) (Nat.le_of_ble_eq_true rfl) rfl ?_
  show aX8_total E l 7 (m_sz μ, m_sl μ) 0 [(0, vr l0)] [] μ (rI t)
  unfold jX8_total at h
  refine a_aload_n 0 dX8_total_0 rfl rfl ?_
  refine a_cVv (c := 8) [] [] dX8_total_1 myX8_goesThrough mRX8_410 mvX8_goesThrough rfl (by decide) hk (fun _ hj => tX8_goesThrough E l N l0 μ _ hk hj) (by decide) rfl (Nat.le_of_ble_eq_true rfl) h (fun μ1 hm h => ?_)
  have hk := hm.k hk (by decide)
  refine a_aload_n 0 dX8_total_4 rfl rfl ?_
  refine a_getfz (c := 8) (i := 68) dX8_total_5 fRX8_404 g8_68 rfl hk ?_
  refine a_if_eq (tgt := 18) dX8_total_8 rfl h (fun h => ?_) (fun h => ?_)
  ·
    refine a_ldcw (x := (-1000000)) dX8_total_18 kRX8_417 ⟨rfl, okI_b _ rfl⟩ ?_
    exact a_sub [0] rfl (tX8_total_21 E l _ N l0 (-1000000) μ1 t hk h)
  ·
    refine a_aload_n 0 dX8_total_11 rfl rfl ?_
    refine a_cVi (c := 8) [] [] dX8_total_12 myX8_soFar mRX8_421 mvX8_soFar rfl (by decide) hk (fun _ hj => tX8_soFar E l N l0 μ1 _ hk hj) (by decide) rfl (Nat.le_of_ble_eq_true rfl) h (fun x1 μ2 hm h => ?_)
    have hk := hm.k hk (by decide)
    refine a_goto (tgt := 21) dX8_total_15 rfl ?_
    exact a_sub [0] rfl (tX8_total_21 E l _ N l0 x1 μ2 t hk h)
