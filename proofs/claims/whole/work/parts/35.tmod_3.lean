-- X8_stands
abbrev aX8_stands (E : m_E) (l : Launch) (d : Nat) (z : Nat × Nat) (pc : Nat) (L : List (Nat × AV)) (st : List AV) (μ : Mm) (ρ : Option AV × Mm) : Prop := AA E l d z RX8 "stands" cX8_stands 2 none pc L st μ ρ
theorem tX8_stands_201b (E : m_E) (l : Launch) (z : Nat × Nat) (k201 : Int → Int → Mm → Option (Mm)) (p201 : ∀ (l0 l1 : Int) (μ : Mm) (t : Mm), m_kd μ l0 = (8, 0) → k201 l0 l1 μ = some t → aX8_stands E l 1 z 201 [(0, vr l0), (1, vi l1)] [] μ (rV t)) (N : Nat) (l0 l1 : Int) (μ : Mm) (t : Mm) (hk : m_kd μ l0 = (8, 0)) (h : jX8_stands_201b k201 N l0 l1 μ = some t) : aX8_stands E l 1 z 201 [(0, vr l0), (1, vi l1)] [] μ (rV t) := by
  unfold jX8_stands_201b at h
  refine a_iload_n 1 dX8_stands_201 rfl rfl ?_
  refine a_aload_n 0 dX8_stands_202 rfl rfl ?_
  refine a_getfi (c := 8) (i := 44) dX8_stands_203 fRX8_227 g8_44 rfl hk ?_
  refine a_icmp_ge (tgt := 231) dX8_stands_206 rfl h (fun h => ?_) (fun h => ?_)
  ·
    exact a_ret0 dX8_stands_231 h
  ·
    refine a_aload_n 0 dX8_stands_209 rfl rfl ?_
    refine a_getfr (c := 8) (i := 43) dX8_stands_210 fRX8_121 g8_43 rfl hk ?_
    refine a_sipush dX8_stands_213 ⟨rfl, okI_b _ rfl⟩ ?_
    refine a_iload_n 1 dX8_stands_216 rfl rfl ?_
    refine a_iadd dX8_stands_217 ?_
    refine a_aload_n 0 dX8_stands_218 rfl rfl ?_
    refine a_getfr (c := 8) (i := 43) dX8_stands_219 fRX8_121 g8_43 rfl hk ?_
    refine a_iload_n 1 dX8_stands_222 rfl rfl ?_
    refine a_iald dX8_stands_223 h (fun x1 h => ?_)
    refine a_iast dX8_stands_224 h (fun μ1 hm h => ?_)
    have hk := hm.k hk (by decide)
    refine a_iinc (F := fun x2 => [(1, vi x2), (0, vr l0)]) 1 dX8_stands_225 rfl (by decide) h (fun _ => rfl) (fun x2 h => ?_)
    refine a_goto (tgt := 201) dX8_stands_228 rfl ?_
    exact a_sub [1, 0] rfl (p201 l0 x2 μ1 t hk h)
theorem tX8_stands_201 (E : m_E) (l : Launch) (z : Nat × Nat) (N : Nat) : ∀ (n : Nat) (l0 l1 : Int) (μ : Mm) (t : Mm), m_kd μ l0 = (8, 0) → jX8_stands_201 N n l0 l1 μ = some t → aX8_stands E l 1 z 201 [(0, vr l0), (1, vi l1)] [] μ (rV t)
  | 0, _, _, _, _, _, h => by cases h
  | n + 1, l0, l1, μ, t, hk, h => tX8_stands_201b E l z (jX8_stands_201 N n) (tX8_stands_201 E l z N n) N l0 l1 μ t hk h
theorem tX8_stands_142b (E : m_E) (l : Launch) (z : Nat × Nat) (k142 : Int → Int → Mm → Option (Mm)) (p142 : ∀ (l0 l1 : Int) (μ : Mm) (t : Mm), m_kd μ l0 = (8, 0) → k142 l0 l1 μ = some t → aX8_stands E l 1 z 142 [(0, vr l0), (1, vi l1)] [] μ (rV t)) (N : Nat) (l0 l1 : Int) (μ : Mm) (t : Mm) (hk : m_kd μ l0 = (8, 0)) (h : jX8_stands_142b k142 N l0 l1 μ = some t) : aX8_stands E l 1 z 142 [(0, vr l0), (1, vi l1)] [] μ (rV t) := by
  unfold jX8_stands_142b at h
  refine a_iload_n 1 dX8_stands_142 rfl rfl ?_
  refine a_bipush dX8_stands_143 ⟨rfl, okI_b _ rfl⟩ ?_
  refine a_icmp_ge (tgt := 199) dX8_stands_145 rfl h (fun h => ?_) (fun h => ?_)
  ·
    refine a_iconst dX8_stands_199 (okI_b _ rfl) ?_
    refine a_istore_n (L' := [(1, vi 0), (0, vr l0)]) dX8_stands_200 rfl (by decide) rfl ?_
    exact a_sub [1, 0] rfl (tX8_stands_201 E l _ N N l0 0 μ t hk h)
  ·
    refine a_aload_n 0 dX8_stands_148 rfl rfl ?_
    refine a_getfr (c := 8) (i := 37) dX8_stands_149 fRX8_102 g8_37 rfl hk ?_
    refine a_bipush dX8_stands_152 ⟨rfl, okI_b _ rfl⟩ ?_
    refine a_iload_n 1 dX8_stands_154 rfl rfl ?_
    refine a_iadd dX8_stands_155 ?_
    refine a_aload_n 0 dX8_stands_156 rfl rfl ?_
    refine a_getfr (c := 8) (i := 37) dX8_stands_157 fRX8_102 g8_37 rfl hk ?_
    refine a_iload_n 1 dX8_stands_160 rfl rfl ?_
    refine a_iald dX8_stands_161 h (fun x1 h => ?_)
    refine a_iast dX8_stands_162 h (fun μ1 hm h => ?_)
    have hk := hm.k hk (by decide)
    refine a_aload_n 0 dX8_stands_163 rfl rfl ?_
    refine a_getfr (c := 8) (i := 38) dX8_stands_164 fRX8_105 g8_38 rfl hk ?_
    refine a_bipush dX8_stands_167 ⟨rfl, okI_b _ rfl⟩ ?_
    refine a_iload_n 1 dX8_stands_169 rfl rfl ?_
    refine a_iadd dX8_stands_170 ?_
    refine a_aload_n 0 dX8_stands_171 rfl rfl ?_
    refine a_getfr (c := 8) (i := 38) dX8_stands_172 fRX8_105 g8_38 rfl hk ?_
    refine a_iload_n 1 dX8_stands_175 rfl rfl ?_
    refine a_iald dX8_stands_176 h (fun x2 h => ?_)
    refine a_iast dX8_stands_177 h (fun μ2 hm h => ?_)
    have hk := hm.k hk (by decide)
    refine a_aload_n 0 dX8_stands_178 rfl rfl ?_
    refine a_getfr (c := 8) (i := 39) dX8_stands_179 fRX8_108 g8_39 rfl hk ?_
    refine a_bipush dX8_stands_182 ⟨rfl, okI_b _ rfl⟩ ?_
    refine a_iload_n 1 dX8_stands_184 rfl rfl ?_
    refine a_iadd dX8_stands_185 ?_
    refine a_aload_n 0 dX8_stands_186 rfl rfl ?_
    refine a_getfr (c := 8) (i := 39) dX8_stands_187 fRX8_108 g8_39 rfl hk ?_
    refine a_iload_n 1 dX8_stands_190 rfl rfl ?_
    refine a_iald dX8_stands_191 h (fun x3 h => ?_)
    refine a_iast dX8_stands_192 h (fun μ3 hm h => ?_)
    have hk := hm.k hk (by decide)
    refine a_iinc (F := fun x4 => [(1, vi x4), (0, vr l0)]) 1 dX8_stands_193 rfl (by decide) h (fun _ => rfl) (fun x4 h => ?_)
    refine a_goto (tgt := 142) dX8_stands_196 rfl ?_
    exact a_sub [1, 0] rfl (p142 l0 x4 μ3 t hk h)
theorem tX8_stands_142 (E : m_E) (l : Launch) (z : Nat × Nat) (N : Nat) : ∀ (n : Nat) (l0 l1 : Int) (μ : Mm) (t : Mm), m_kd μ l0 = (8, 0) → jX8_stands_142 N n l0 l1 μ = some t → aX8_stands E l 1 z 142 [(0, vr l0), (1, vi l1)] [] μ (rV t)
  | 0, _, _, _, _, _, h => by cases h
  | n + 1, l0, l1, μ, t, hk, h => tX8_stands_142b E l z (jX8_stands_142 N n) (tX8_stands_142 E l z N n) N l0 l1 μ t hk h
theorem tX8_stands_113b (E : m_E) (l : Launch) (z : Nat × Nat) (k113 : Int → Int → Mm → Option (Mm)) (p113 : ∀ (l0 l1 : Int) (μ : Mm) (t : Mm), m_kd μ l0 = (8, 0) → k113 l0 l1 μ = some t → aX8_stands E l 1 z 113 [(0, vr l0), (1, vi l1)] [] μ (rV t)) (N : Nat) (l0 l1 : Int) (μ : Mm) (t : Mm) (hk : m_kd μ l0 = (8, 0)) (h : jX8_stands_113b k113 N l0 l1 μ = some t) : aX8_stands E l 1 z 113 [(0, vr l0), (1, vi l1)] [] μ (rV t) := by
  unfold jX8_stands_113b at h
  refine a_iload_n 1 dX8_stands_113 rfl rfl ?_
  refine a_bipush dX8_stands_114 ⟨rfl, okI_b _ rfl⟩ ?_
  refine a_icmp_ge (tgt := 140) dX8_stands_116 rfl h (fun h => ?_) (fun h => ?_)
  ·
    refine a_iconst dX8_stands_140 (okI_b _ rfl) ?_
    refine a_istore_n (L' := [(1, vi 0), (0, vr l0)]) dX8_stands_141 rfl (by decide) rfl ?_
    exact a_sub [1, 0] rfl (tX8_stands_142 E l _ N N l0 0 μ t hk h)
  ·
    refine a_aload_n 0 dX8_stands_119 rfl rfl ?_
    refine a_getfr (c := 8) (i := 42) dX8_stands_120 fRX8_117 g8_42 rfl hk ?_
    refine a_bipush dX8_stands_123 ⟨rfl, okI_b _ rfl⟩ ?_
    refine a_iload_n 1 dX8_stands_125 rfl rfl ?_
    refine a_iadd dX8_stands_126 ?_
    refine a_aload_n 0 dX8_stands_127 rfl rfl ?_
    refine a_getfr (c := 8) (i := 42) dX8_stands_128 fRX8_117 g8_42 rfl hk ?_
    refine a_iload_n 1 dX8_stands_131 rfl rfl ?_
    refine a_zald dX8_stands_132 h (fun x1 h => ?_)
    refine z_k h (fun hz h => ?_)
    refine a_zast (hz := hz) dX8_stands_133 h (fun μ1 hm h => ?_)
    have hk := hm.k hk (by decide)
    refine a_iinc (F := fun x2 => [(1, vi x2), (0, vr l0)]) 1 dX8_stands_134 rfl (by decide) h (fun _ => rfl) (fun x2 h => ?_)
    refine a_goto (tgt := 113) dX8_stands_137 rfl ?_
    exact a_sub [1, 0] rfl (p113 l0 x2 μ1 t hk h)
theorem tX8_stands_113 (E : m_E) (l : Launch) (z : Nat × Nat) (N : Nat) : ∀ (n : Nat) (l0 l1 : Int) (μ : Mm) (t : Mm), m_kd μ l0 = (8, 0) → jX8_stands_113 N n l0 l1 μ = some t → aX8_stands E l 1 z 113 [(0, vr l0), (1, vi l1)] [] μ (rV t)
  | 0, _, _, _, _, _, h => by cases h
  | n + 1, l0, l1, μ, t, hk, h => tX8_stands_113b E l z (jX8_stands_113 N n) (tX8_stands_113 E l z N n) N l0 l1 μ t hk h
theorem tX8_stands_86b (E : m_E) (l : Launch) (z : Nat × Nat) (k86 : Int → Int → Mm → Option (Mm)) (p86 : ∀ (l0 l1 : Int) (μ : Mm) (t : Mm), m_kd μ l0 = (8, 0) → k86 l0 l1 μ = some t → aX8_stands E l 1 z 86 [(0, vr l0), (1, vi l1)] [] μ (rV t)) (N : Nat) (l0 l1 : Int) (μ : Mm) (t : Mm) (hk : m_kd μ l0 = (8, 0)) (h : jX8_stands_86b k86 N l0 l1 μ = some t) : aX8_stands E l 1 z 86 [(0, vr l0), (1, vi l1)] [] μ (rV t) := by
  unfold jX8_stands_86b at h
  refine a_iload_n 1 dX8_stands_86 rfl rfl ?_
  refine a_iconst dX8_stands_87 (okI_b _ rfl) ?_
  refine a_icmp_ge (tgt := 111) dX8_stands_88 rfl h (fun h => ?_) (fun h => ?_)
  ·
    refine a_iconst dX8_stands_111 (okI_b _ rfl) ?_
    refine a_istore_n (L' := [(1, vi 0), (0, vr l0)]) dX8_stands_112 rfl (by decide) rfl ?_
    exact a_sub [1, 0] rfl (tX8_stands_113 E l _ N N l0 0 μ t hk h)
  ·
    refine a_aload_n 0 dX8_stands_91 rfl rfl ?_
    refine a_getfr (c := 8) (i := 35) dX8_stands_92 fRX8_96 g8_35 rfl hk ?_
    refine a_iconst dX8_stands_95 (okI_b _ rfl) ?_
    refine a_iload_n 1 dX8_stands_96 rfl rfl ?_
    refine a_iadd dX8_stands_97 ?_
    refine a_aload_n 0 dX8_stands_98 rfl rfl ?_
    refine a_getfr (c := 8) (i := 35) dX8_stands_99 fRX8_96 g8_35 rfl hk ?_
    refine a_iload_n 1 dX8_stands_102 rfl rfl ?_
    refine a_iald dX8_stands_103 h (fun x1 h => ?_)
    refine a_iast dX8_stands_104 h (fun μ1 hm h => ?_)
    have hk := hm.k hk (by decide)
    refine a_iinc (F := fun x2 => [(1, vi x2), (0, vr l0)]) 1 dX8_stands_105 rfl (by decide) h (fun _ => rfl) (fun x2 h => ?_)
    refine a_goto (tgt := 86) dX8_stands_108 rfl ?_
    exact a_sub [1, 0] rfl (p86 l0 x2 μ1 t hk h)
theorem tX8_stands_86 (E : m_E) (l : Launch) (z : Nat × Nat) (N : Nat) : ∀ (n : Nat) (l0 l1 : Int) (μ : Mm) (t : Mm), m_kd μ l0 = (8, 0) → jX8_stands_86 N n l0 l1 μ = some t → aX8_stands E l 1 z 86 [(0, vr l0), (1, vi l1)] [] μ (rV t)
  | 0, _, _, _, _, _, h => by cases h
  | n + 1, l0, l1, μ, t, hk, h => tX8_stands_86b E l z (jX8_stands_86 N n) (tX8_stands_86 E l z N n) N l0 l1 μ t hk h
theorem tX8_stands (E : m_E) (l : Launch) (N : Nat) (l0 : Int) (μ : Mm) (t : Mm) (hk : m_kd μ l0 = (8, 0)) (h : jX8_stands N l0 μ = some t) : TT E l 1 yX8_stands cX8_stands 2 none [vr l0] μ (rV t) := by
  refine tt_of (L := [(0, vr l0)]) (by decide +kernel) (Nat.le_of_ble_eq_true rfl) rfl ?_
  show aX8_stands E l 1 (m_sz μ, m_sl μ) 0 [(0, vr l0)] [] μ (rV t)
  unfold jX8_stands at h
  refine a_aload_n 0 dX8_stands_0 rfl rfl ?_
  refine a_getfr (c := 8) (i := 31) dX8_stands_1 fRX8_84 g8_31 rfl hk ?_
  refine a_iconst dX8_stands_4 (okI_b _ rfl) ?_
  refine a_aload_n 0 dX8_stands_5 rfl rfl ?_
  refine a_getfr (c := 8) (i := 31) dX8_stands_6 fRX8_84 g8_31 rfl hk ?_
  refine a_iconst dX8_stands_9 (okI_b _ rfl) ?_
  refine a_iald dX8_stands_10 h (fun x1 h => ?_)
  refine a_iast dX8_stands_11 h (fun μ1 hm h => ?_)
  have hk := hm.k hk (by decide)
  refine a_aload_n 0 dX8_stands_12 rfl rfl ?_
  refine a_getfr (c := 8) (i := 32) dX8_stands_13 fRX8_87 g8_32 rfl hk ?_
  refine a_iconst dX8_stands_16 (okI_b _ rfl) ?_
  refine a_aload_n 0 dX8_stands_17 rfl rfl ?_
  refine a_getfr (c := 8) (i := 32) dX8_stands_18 fRX8_87 g8_32 rfl hk ?_
  refine a_iconst dX8_stands_21 (okI_b _ rfl) ?_
  refine a_iald dX8_stands_22 h (fun x2 h => ?_)
  refine a_iast dX8_stands_23 h (fun μ2 hm h => ?_)
  have hk := hm.k hk (by decide)
  refine a_aload_n 0 dX8_stands_24 rfl rfl ?_
  refine a_getfr (c := 8) (i := 33) dX8_stands_25 fRX8_90 g8_33 rfl hk ?_
  refine a_iconst dX8_stands_28 (okI_b _ rfl) ?_
  refine a_aload_n 0 dX8_stands_29 rfl rfl ?_
  refine a_getfr (c := 8) (i := 33) dX8_stands_30 fRX8_90 g8_33 rfl hk ?_
  refine a_iconst dX8_stands_33 (okI_b _ rfl) ?_
  refine a_iald dX8_stands_34 h (fun x3 h => ?_)
  refine a_iast dX8_stands_35 h (fun μ3 hm h => ?_)
  have hk := hm.k hk (by decide)
  refine a_aload_n 0 dX8_stands_36 rfl rfl ?_
  refine a_getfr (c := 8) (i := 34) dX8_stands_37 fRX8_93 g8_34 rfl hk ?_
  refine a_iconst dX8_stands_40 (okI_b _ rfl) ?_
  refine a_aload_n 0 dX8_stands_41 rfl rfl ?_
  refine a_getfr (c := 8) (i := 34) dX8_stands_42 fRX8_93 g8_34 rfl hk ?_
  refine a_iconst dX8_stands_45 (okI_b _ rfl) ?_
  refine a_iald dX8_stands_46 h (fun x4 h => ?_)
  refine a_iast dX8_stands_47 h (fun μ4 hm h => ?_)
  have hk := hm.k hk (by decide)
  refine a_aload_n 0 dX8_stands_48 rfl rfl ?_
  refine a_getfr (c := 8) (i := 36) dX8_stands_49 fRX8_99 g8_36 rfl hk ?_
  refine a_iconst dX8_stands_52 (okI_b _ rfl) ?_
  refine a_aload_n 0 dX8_stands_53 rfl rfl ?_
  refine a_getfr (c := 8) (i := 36) dX8_stands_54 fRX8_99 g8_36 rfl hk ?_
  refine a_iconst dX8_stands_57 (okI_b _ rfl) ?_
  refine a_iald dX8_stands_58 h (fun x5 h => ?_)
  refine a_iast dX8_stands_59 h (fun μ5 hm h => ?_)
  have hk := hm.k hk (by decide)
  refine a_aload_n 0 dX8_stands_60 rfl rfl ?_
  refine a_getfr (c := 8) (i := 40) dX8_stands_61 fRX8_111 g8_40 rfl hk ?_
  refine a_iconst dX8_stands_64 (okI_b _ rfl) ?_
  refine a_aload_n 0 dX8_stands_65 rfl rfl ?_
  refine a_getfr (c := 8) (i := 40) dX8_stands_66 fRX8_111 g8_40 rfl hk ?_
  refine a_iconst dX8_stands_69 (okI_b _ rfl) ?_
  refine a_iald dX8_stands_70 h (fun x6 h => ?_)
  refine a_iast dX8_stands_71 h (fun μ6 hm h => ?_)
  have hk := hm.k hk (by decide)
  refine a_aload_n 0 dX8_stands_72 rfl rfl ?_
  refine a_getfr (c := 8) (i := 41) dX8_stands_73 fRX8_114 g8_41 rfl hk ?_
  refine a_iconst dX8_stands_76 (okI_b _ rfl) ?_
  refine a_aload_n 0 dX8_stands_77 rfl rfl ?_
  refine a_getfr (c := 8) (i := 41) dX8_stands_78 fRX8_114 g8_41 rfl hk ?_
  refine a_iconst dX8_stands_81 (okI_b _ rfl) ?_
  refine a_iald dX8_stands_82 h (fun x7 h => ?_)
  refine a_iast dX8_stands_83 h (fun μ7 hm h => ?_)
  have hk := hm.k hk (by decide)
  refine a_iconst dX8_stands_84 (okI_b _ rfl) ?_
  refine a_istore_n (L' := [(1, vi 0), (0, vr l0)]) dX8_stands_85 rfl (by decide) rfl ?_
  exact a_sub [1, 0] rfl (tX8_stands_86 E l _ N N l0 0 μ7 t hk h)
-- X8_fail
abbrev aX8_fail (E : m_E) (l : Launch) (d : Nat) (z : Nat × Nat) (pc : Nat) (L : List (Nat × AV)) (st : List AV) (μ : Mm) (ρ : Option AV × Mm) : Prop := AA E l d z RX8 "fail" cX8_fail 3 none pc L st μ ρ
theorem tX8_fail (E : m_E) (l : Launch) (N : Nat) (l0 l1 l2 : Int) (μ : Mm) (t : Mm) (hk : m_kd μ l0 = (8, 0)) (h : jX8_fail N l0 l1 l2 μ = some t) : TT E l 1 yX8_fail cX8_fail 3 none [vr l0, vi l1, vi l2] μ (rV t) := by
  refine tt_of (L := [(0, vr l0), (1, vi l1), (2, vi l2)]) (by decide +kernel) (Nat.le_of_ble_eq_true rfl) rfl ?_
  show aX8_fail E l 1 (m_sz μ, m_sl μ) 0 [(0, vr l0), (1, vi l1), (2, vi l2)] [] μ (rV t)
  unfold jX8_fail at h
  refine a_aload_n 0 dX8_fail_0 rfl rfl ?_
  refine a_getfi (c := 8) (i := 5) dX8_fail_1 fRX8_183 g8_5 rfl hk ?_
  refine a_if_eq (tgt := 8) dX8_fail_4 rfl h (fun h => ?_) (fun h => ?_)
  ·
    refine a_aload_n 0 dX8_fail_8 rfl rfl ?_
    refine a_iload_n 1 dX8_fail_9 rfl rfl ?_
    refine a_putfi (c := 8) (i := 5) dX8_fail_10 fRX8_183 g8_5 (Or.inl rfl) rfl hk h (fun μ1 hm h => ?_)
    have hk := hm.k hk (by decide)
    refine a_aload_n 0 dX8_fail_13 rfl rfl ?_
    refine a_iload_n 2 dX8_fail_14 rfl rfl ?_
    refine a_putfi (c := 8) (i := 6) dX8_fail_15 fRX8_186 g8_6 (Or.inl rfl) rfl hk h (fun μ2 hm h => ?_)
    have hk := hm.k hk (by decide)
    exact a_ret0 dX8_fail_18 h
  ·
    exact a_ret0 dX8_fail_7 h
-- X8_isLetter
abbrev aX8_isLetter (E : m_E) (l : Launch) (d : Nat) (z : Nat × Nat) (pc : Nat) (L : List (Nat × AV)) (st : List AV) (μ : Mm) (ρ : Option AV × Mm) : Prop := AA E l d z RX8 "isLetter" cX8_isLetter 1 (some .boolean) pc L st μ ρ
theorem tX8_isLetter_17 (E : m_E) (l : Launch) (z : Nat × Nat) (N : Nat) (s0 : Int) (μ : Mm) (t : Int × Mm) (h : jX8_isLetter_17 N s0 μ = some t) : aX8_isLetter E l 1 z 17 [] [vi s0] μ (rI t) := by
  unfold jX8_isLetter_17 at h
  exact a_retz dX8_isLetter_17 h
theorem tX8_isLetter_16 (E : m_E) (l : Launch) (z : Nat × Nat) (N : Nat) (μ : Mm) (t : Int × Mm) (h : jX8_isLetter_16 N  μ = some t) : aX8_isLetter E l 1 z 16 [] [] μ (rI t) := by
  unfold jX8_isLetter_16 at h
  refine a_iconst dX8_isLetter_16 (okI_b _ rfl) ?_
  exact a_sub [] rfl (tX8_isLetter_17 E l _ N 0 μ t h)
theorem tX8_isLetter (E : m_E) (l : Launch) (N : Nat) (l0 : Int) (μ : Mm) (t : Int × Mm) (h : jX8_isLetter N l0 μ = some t) : TT E l 1 yX8_isLetter cX8_isLetter 1 (some .boolean) [vi l0] μ (rI t) := by
  refine tt_of (L := [(0, vi l0)]) (by decide +kernel) (Nat.le_of_ble_eq_true rfl) rfl ?_
  show aX8_isLetter E l 1 (m_sz μ, m_sl μ) 0 [(0, vi l0)] [] μ (rI t)
  unfold jX8_isLetter at h
  refine a_iload_n 0 dX8_isLetter_0 rfl rfl ?_
  refine a_bipush dX8_isLetter_1 ⟨rfl, okI_b _ rfl⟩ ?_
  refine a_icmp_lt (tgt := 16) dX8_isLetter_3 rfl h (fun h => ?_) (fun h => ?_)
  ·
    exact a_sub [] rfl (tX8_isLetter_16 E l _ N  μ t h)
  ·
    refine a_iload_n 0 dX8_isLetter_6 rfl rfl ?_
    refine a_bipush dX8_isLetter_7 ⟨rfl, okI_b _ rfl⟩ ?_
    refine a_icmp_gt (tgt := 16) dX8_isLetter_9 rfl h (fun h => ?_) (fun h => ?_)
    ·
      exact a_sub [] rfl (tX8_isLetter_16 E l _ N  μ t h)
    ·
      refine a_iconst dX8_isLetter_12 (okI_b _ rfl) ?_
      refine a_goto (tgt := 17) dX8_isLetter_13 rfl ?_
      exact a_sub [] rfl (tX8_isLetter_17 E l _ N 1 μ t h)
-- X8_isHere
abbrev aX8_isHere (E : m_E) (l : Launch) (d : Nat) (z : Nat × Nat) (pc : Nat) (L : List (Nat × AV)) (st : List AV) (μ : Mm) (ρ : Option AV × Mm) : Prop := AA E l d z RX8 "isHere" cX8_isHere 4 (some .boolean) pc L st μ ρ
theorem tX8_isHere_76b (E : m_E) (l : Launch) (z : Nat × Nat) (k76 : Int → Int → Int → Mm → Option (Int × Mm)) (p76 : ∀ (l0 l1 l3 : Int) (μ : Mm) (t : Int × Mm), m_kd μ l0 = (8, 0) → k76 l0 l1 l3 μ = some t → aX8_isHere E l 2 z 76 [(0, vr l0), (1, vr l1), (3, vi l3)] [] μ (rI t)) (N : Nat) (l0 l1 l3 : Int) (μ : Mm) (t : Int × Mm) (hk : m_kd μ l0 = (8, 0)) (h : jX8_isHere_76b k76 N l0 l1 l3 μ = some t) : aX8_isHere E l 2 z 76 [(0, vr l0), (1, vr l1), (3, vi l3)] [] μ (rI t) := by
  unfold jX8_isHere_76b at h
  refine a_iload_n 2 dX8_isHere_76 rfl rfl ?_
  refine a_aload_n 1 dX8_isHere_77 rfl rfl ?_
  refine a_alen dX8_isHere_78 h (fun x1 h => ?_)
  refine a_icmp_ge (tgt := 107) dX8_isHere_79 rfl h (fun h => ?_) (fun h => ?_)
  ·
    refine a_iconst dX8_isHere_107 (okI_b _ rfl) ?_
    exact a_retzl (Or.inr rfl) dX8_isHere_108 h
  ·
    refine a_aload_n 0 dX8_isHere_82 rfl rfl ?_
    refine a_getfr (c := 8) (i := 0) dX8_isHere_83 fRX8_7 g8_0 rfl hk ?_
    refine a_aload_n 0 dX8_isHere_86 rfl rfl ?_
    refine a_getfi (c := 8) (i := 2) dX8_isHere_87 fRX8_189 g8_2 rfl hk ?_
    refine a_iload_n 2 dX8_isHere_90 rfl rfl ?_
    refine a_iadd dX8_isHere_91 ?_
    refine a_iald dX8_isHere_92 h (fun x2 h => ?_)
    refine a_aload_n 1 dX8_isHere_93 rfl rfl ?_
    refine a_iload_n 2 dX8_isHere_94 rfl rfl ?_
    refine a_cald dX8_isHere_95 h (fun x3 h => ?_)
    refine a_icmp_eq (tgt := 101) dX8_isHere_96 rfl h (fun h => ?_) (fun h => ?_)
    ·
      refine a_iinc (F := fun x4 => [(3, vi x4), (0, vr l0), (1, vr l1)]) 2 dX8_isHere_101 rfl (by decide) h (fun _ => rfl) (fun x4 h => ?_)
      refine a_goto (tgt := 76) dX8_isHere_104 rfl ?_
      exact a_sub [1, 2, 0] rfl (p76 l0 l1 x4 μ t hk h)
    ·
      refine a_iconst dX8_isHere_99 (okI_b _ rfl) ?_
      exact a_retzl (Or.inl rfl) dX8_isHere_100 h
theorem tX8_isHere_76 (E : m_E) (l : Launch) (z : Nat × Nat) (N : Nat) : ∀ (n : Nat) (l0 l1 l3 : Int) (μ : Mm) (t : Int × Mm), m_kd μ l0 = (8, 0) → jX8_isHere_76 N n l0 l1 l3 μ = some t → aX8_isHere E l 2 z 76 [(0, vr l0), (1, vr l1), (3, vi l3)] [] μ (rI t)
  | 0, _, _, _, _, _, _, h => by cases h
  | n + 1, l0, l1, l3, μ, t, hk, h => tX8_isHere_76b E l z (jX8_isHere_76 N n) (tX8_isHere_76 E l z N n) N l0 l1 l3 μ t hk h
theorem tX8_isHere_61 (E : m_E) (l : Launch) (z : Nat × Nat) (N : Nat) (l0 l1 l2 : Int) (μ : Mm) (t : Int × Mm) (hk : m_kd μ l0 = (8, 0)) (h : jX8_isHere_61 N l0 l1 l2 μ = some t) : aX8_isHere E l 2 z 61 [(0, vr l0), (1, vr l1), (2, vi l2)] [] μ (rI t) := by
  unfold jX8_isHere_61 at h
  refine a_iload_n 2 dX8_isHere_61 rfl rfl ?_
  refine a_aload_n 0 dX8_isHere_62 rfl rfl ?_
  refine a_getfi (c := 8) (i := 2) dX8_isHere_63 fRX8_189 g8_2 rfl hk ?_
  refine a_isub dX8_isHere_66 ?_
  refine a_aload_n 1 dX8_isHere_67 rfl rfl ?_
  refine a_alen dX8_isHere_68 h (fun x1 h => ?_)
  refine a_icmp_eq (tgt := 74) dX8_isHere_69 rfl h (fun h => ?_) (fun h => ?_)
  ·
    refine a_iconst dX8_isHere_74 (okI_b _ rfl) ?_
    refine a_istore_n (L' := [(3, vi 0), (0, vr l0), (1, vr l1), (2, vi l2)]) dX8_isHere_75 rfl (by decide) rfl ?_
    exact a_sub [1, 2, 0] rfl (tX8_isHere_76 E l _ N N l0 l1 0 μ t hk h)
  ·
    refine a_iconst dX8_isHere_72 (okI_b _ rfl) ?_
    exact a_retzl (Or.inl rfl) dX8_isHere_73 h
theorem tX8_isHere_35b (E : m_E) (l : Launch) (z : Nat × Nat) (k35 : Int → Int → Int → Mm → Option (Int × Mm)) (p35 : ∀ (l0 l1 l2 : Int) (μ : Mm) (t : Int × Mm), m_kd μ l0 = (8, 0) → k35 l0 l1 l2 μ = some t → aX8_isHere E l 2 z 35 [(0, vr l0), (1, vr l1), (2, vi l2)] [] μ (rI t)) (N : Nat) (l0 l1 l2 : Int) (μ : Mm) (t : Int × Mm) (hk : m_kd μ l0 = (8, 0)) (h : jX8_isHere_35b k35 N l0 l1 l2 μ = some t) : aX8_isHere E l 2 z 35 [(0, vr l0), (1, vr l1), (2, vi l2)] [] μ (rI t) := by
  unfold jX8_isHere_35b at h
  refine a_iload_n 2 dX8_isHere_35 rfl rfl ?_
  refine a_aload_n 0 dX8_isHere_36 rfl rfl ?_
  refine a_getfi (c := 8) (i := 3) dX8_isHere_37 fRX8_192 g8_3 rfl hk ?_
  refine a_icmp_ge (tgt := 61) dX8_isHere_40 rfl h (fun h => ?_) (fun h => ?_)
  ·
    exact a_sub [0, 1, 2] rfl (tX8_isHere_61 E l _ N l0 l1 l2 μ t hk h)
  ·
    refine a_aload_n 0 dX8_isHere_43 rfl rfl ?_
    refine a_getfr (c := 8) (i := 0) dX8_isHere_44 fRX8_7 g8_0 rfl hk ?_
    refine a_iload_n 2 dX8_isHere_47 rfl rfl ?_
    refine a_iald dX8_isHere_48 h (fun x1 h => ?_)
    refine a_cSi [vi x1] [] dX8_isHere_49 myX8_isLetter mRX8_199 msX8_isLetter (fun _ hj => tX8_isLetter E l N x1 μ _  hj) (by decide) rfl (Nat.le_of_ble_eq_true rfl) h (fun x2 μ1 hm h => ?_)
    have hk := hm.k hk (by decide)
    refine a_if_eq (tgt := 61) dX8_isHere_52 rfl h (fun h => ?_) (fun h => ?_)
    ·
      exact a_sub [0, 1, 2] rfl (tX8_isHere_61 E l _ N l0 l1 l2 μ1 t hk h)
    ·
      refine a_iinc (F := fun x3 => [(2, vi x3), (0, vr l0), (1, vr l1)]) 2 dX8_isHere_55 rfl (by decide) h (fun _ => rfl) (fun x3 h => ?_)
      refine a_goto (tgt := 35) dX8_isHere_58 rfl ?_
      exact a_sub [1, 2, 0] rfl (p35 l0 l1 x3 μ1 t hk h)
theorem tX8_isHere_35 (E : m_E) (l : Launch) (z : Nat × Nat) (N : Nat) : ∀ (n : Nat) (l0 l1 l2 : Int) (μ : Mm) (t : Int × Mm), m_kd μ l0 = (8, 0) → jX8_isHere_35 N n l0 l1 l2 μ = some t → aX8_isHere E l 2 z 35 [(0, vr l0), (1, vr l1), (2, vi l2)] [] μ (rI t)
  | 0, _, _, _, _, _, _, h => by cases h
  | n + 1, l0, l1, l2, μ, t, hk, h => tX8_isHere_35b E l z (jX8_isHere_35 N n) (tX8_isHere_35 E l z N n) N l0 l1 l2 μ t hk h
theorem tX8_isHere_28 (E : m_E) (l : Launch) (z : Nat × Nat) (N : Nat) (l0 : Int) (μ : Mm) (t : Int × Mm) (hk : m_kd μ l0 = (8, 0)) (h : jX8_isHere_28 N l0 μ = some t) : aX8_isHere E l 2 z 28 [(0, vr l0)] [] μ (rI t) := by
  unfold jX8_isHere_28 at h
  refine a_iconst dX8_isHere_28 (okI_b _ rfl) ?_
  exact a_retzl (Or.inl rfl) dX8_isHere_29 h
theorem tX8_isHere (E : m_E) (l : Launch) (N : Nat) (l0 l1 : Int) (μ : Mm) (t : Int × Mm) (hk : m_kd μ l0 = (8, 0)) (h : jX8_isHere N l0 l1 μ = some t) : TT E l 2 yX8_isHere cX8_isHere 4 (some .boolean) [vr l0, vr l1] μ (rI t) := by
  refine tt_of (L := [(0, vr l0), (1, vr l1)]) (by decide +kernel) (Nat.le_of_ble_eq_true rfl) rfl ?_
  show aX8_isHere E l 2 (m_sz μ, m_sl μ) 0 [(0, vr l0), (1, vr l1)] [] μ (rI t)
  unfold jX8_isHere at h
  refine a_aload_n 0 dX8_isHere_0 rfl rfl ?_
  refine a_getfi (c := 8) (i := 5) dX8_isHere_1 fRX8_183 g8_5 rfl hk ?_
  refine a_if_ne (tgt := 28) dX8_isHere_4 rfl h (fun h => ?_) (fun h => ?_)
  ·
    exact a_sub [0] rfl (tX8_isHere_28 E l _ N l0 μ t hk h)
  ·
    refine a_aload_n 0 dX8_isHere_7 rfl rfl ?_
    refine a_cVi (c := 8) [] [] dX8_isHere_8 myX8_look mRX8_195 mvX8_look rfl (by decide) hk (fun _ hj => tX8_look E l N l0 μ _ hk hj) (by decide) rfl (Nat.le_of_ble_eq_true rfl) h (fun x1 μ1 hm h => ?_)
    have hk := hm.k hk (by decide)
    refine a_cSi [vi x1] [] dX8_isHere_11 myX8_isLetter mRX8_199 msX8_isLetter (fun _ hj => tX8_isLetter E l N x1 μ1 _  hj) (by decide) rfl (Nat.le_of_ble_eq_true rfl) h (fun x2 μ2 hm h => ?_)
    have hk := hm.k hk (by decide)
    refine a_if_eq (tgt := 28) dX8_isHere_14 rfl h (fun h => ?_) (fun h => ?_)
    ·
      exact a_sub [0] rfl (tX8_isHere_28 E l _ N l0 μ2 t hk h)
    ·
      refine a_aload_n 0 dX8_isHere_17 rfl rfl ?_
      refine a_getfi (c := 8) (i := 2) dX8_isHere_18 fRX8_189 g8_2 rfl hk ?_
      refine a_aload_n 0 dX8_isHere_21 rfl rfl ?_
      refine a_getfi (c := 8) (i := 4) dX8_isHere_22 fRX8_203 g8_4 rfl hk ?_
      refine a_icmp_ne (tgt := 30) dX8_isHere_25 rfl h (fun h => ?_) (fun h => ?_)
      ·
        refine a_aload_n 0 dX8_isHere_30 rfl rfl ?_
        refine a_getfi (c := 8) (i := 2) dX8_isHere_31 fRX8_189 g8_2 rfl hk ?_
        refine a_nmi h (fun x3 h => ?_)
        refine a_istore_n (L' := [(2, vi x3), (0, vr l0), (1, vr l1)]) dX8_isHere_34 rfl (by decide) rfl ?_
        exact a_sub [1, 2, 0] rfl (tX8_isHere_35 E l _ N N l0 l1 x3 μ2 t hk h)
      ·
        exact a_sub [0] rfl (tX8_isHere_28 E l _ N l0 μ2 t hk h)
-- X8_takes
abbrev aX8_takes (E : m_E) (l : Launch) (d : Nat) (z : Nat × Nat) (pc : Nat) (L : List (Nat × AV)) (st : List AV) (μ : Mm) (ρ : Option AV × Mm) : Prop := AA E l d z RX8 "takes" cX8_takes 2 (some .boolean) pc L st μ ρ
theorem tX8_takes (E : m_E) (l : Launch) (N : Nat) (l0 l1 : Int) (μ : Mm) (t : Int × Mm) (hk : m_kd μ l0 = (8, 0)) (h : jX8_takes N l0 l1 μ = some t) : TT E l 3 yX8_takes cX8_takes 2 (some .boolean) [vr l0, vr l1] μ (rI t) := by
  refine tt_of (L := [(0, vr l0), (1, vr l1)]) (by decide +kernel) (Nat.le_of_ble_eq_true rfl) rfl ?_
  show aX8_takes E l 3 (m_sz μ, m_sl μ) 0 [(0, vr l0), (1, vr l1)] [] μ (rI t)
  unfold jX8_takes at h
  refine a_aload_n 0 dX8_takes_0 rfl rfl ?_
  refine a_aload_n 1 dX8_takes_1 rfl rfl ?_
  refine a_cVi (c := 8) [vr l1] [] dX8_takes_2 myX8_isHere mRX8_206 mvX8_isHere rfl (by decide) hk (fun _ hj => tX8_isHere E l N l0 l1 μ _ hk hj) (by decide) rfl (Nat.le_of_ble_eq_true rfl) h (fun x1 μ1 hm h => ?_)
  have hk := hm.k hk (by decide)
  refine a_if_ne (tgt := 10) dX8_takes_5 rfl h (fun h => ?_) (fun h => ?_)
  ·
    refine a_aload_n 0 dX8_takes_10 rfl rfl ?_
    refine a_dup dX8_takes_11 rfl ?_
    refine a_getfi (c := 8) (i := 2) dX8_takes_12 fRX8_189 g8_2 rfl hk ?_
    refine a_aload_n 1 dX8_takes_15 rfl rfl ?_
    refine a_alen dX8_takes_16 h (fun x2 h => ?_)
    refine a_iadd dX8_takes_17 ?_
    refine a_putfi (c := 8) (i := 2) dX8_takes_18 fRX8_189 g8_2 (Or.inl rfl) rfl hk h (fun μ2 hm h => ?_)
    have hk := hm.k hk (by decide)
    refine a_aload_n 0 dX8_takes_21 rfl rfl ?_
    refine a_aload_n 0 dX8_takes_22 rfl rfl ?_
    refine a_getfi (c := 8) (i := 2) dX8_takes_23 fRX8_189 g8_2 rfl hk ?_
    refine a_putfi (c := 8) (i := 4) dX8_takes_26 fRX8_203 g8_4 (Or.inl rfl) rfl hk h (fun μ3 hm h => ?_)
    have hk := hm.k hk (by decide)
    refine a_iconst dX8_takes_29 (okI_b _ rfl) ?_
    exact a_retzl (Or.inr rfl) dX8_takes_30 h
  ·
    refine a_iconst dX8_takes_8 (okI_b _ rfl) ?_
    exact a_retzl (Or.inl rfl) dX8_takes_9 h
-- X8_asks
abbrev aX8_asks (E : m_E) (l : Launch) (d : Nat) (z : Nat × Nat) (pc : Nat) (L : List (Nat × AV)) (st : List AV) (μ : Mm) (ρ : Option AV × Mm) : Prop := AA E l d z RX8 "asks" cX8_asks 2 none pc L st μ ρ
theorem tX8_asks_24 (E : m_E) (l : Launch) (z : Nat × Nat) (N : Nat) (l0 : Int) (μ : Mm) (t : Mm) (hk : m_kd μ l0 = (8, 0)) (h : jX8_asks_24 N l0 μ = some t) : aX8_asks E l 4 z 24 [(0, vr l0)] [] μ (rV t) := by
  unfold jX8_asks_24 at h
  exact a_ret0 dX8_asks_24 h
theorem tX8_asks (E : m_E) (l : Launch) (N : Nat) (l0 l1 : Int) (μ : Mm) (t : Mm) (hk : m_kd μ l0 = (8, 0)) (h : jX8_asks N l0 l1 μ = some t) : TT E l 4 yX8_asks cX8_asks 2 none [vr l0, vr l1] μ (rV t) := by
  refine tt_of (L := [(0, vr l0), (1, vr l1)]) (by decide +kernel) (Nat.le_of_ble_eq_true rfl) rfl ?_
  show aX8_asks E l 4 (m_sz μ, m_sl μ) 0 [(0, vr l0), (1, vr l1)] [] μ (rV t)
  unfold jX8_asks at h
  refine a_aload_n 0 dX8_asks_0 rfl rfl ?_
  refine a_getfi (c := 8) (i := 5) dX8_asks_1 fRX8_183 g8_5 rfl hk ?_
  refine a_if_ne (tgt := 24) dX8_asks_4 rfl h (fun h => ?_) (fun h => ?_)
  ·
    exact a_sub [0] rfl (tX8_asks_24 E l _ N l0 μ t hk h)
  ·
    refine a_aload_n 0 dX8_asks_7 rfl rfl ?_
    refine a_aload_n 1 dX8_asks_8 rfl rfl ?_
    refine a_cVi (c := 8) [vr l1] [] dX8_asks_9 myX8_takes mRX8_210 mvX8_takes rfl (by decide) hk (fun _ hj => tX8_takes E l N l0 l1 μ _ hk hj) (by decide) rfl (Nat.le_of_ble_eq_true rfl) h (fun x1 μ1 hm h => ?_)
    have hk := hm.k hk (by decide)
    refine a_if_ne (tgt := 24) dX8_asks_12 rfl h (fun h => ?_) (fun h => ?_)
    ·
      exact a_sub [0] rfl (tX8_asks_24 E l _ N l0 μ1 t hk h)
    ·
      refine a_aload_n 0 dX8_asks_15 rfl rfl ?_
      refine a_iconst dX8_asks_16 (okI_b _ rfl) ?_
      refine a_aload_n 0 dX8_asks_17 rfl rfl ?_
      refine a_getfi (c := 8) (i := 2) dX8_asks_18 fRX8_189 g8_2 rfl hk ?_
      refine a_cVv (c := 8) [vi 1, vi (m_gt μ1 l0 2)] [] dX8_asks_21 myX8_fail mRX8_213 mvX8_fail rfl (by decide) hk (fun _ hj => tX8_fail E l N l0 1 (m_gt μ1 l0 2) μ1 _ hk hj) (by decide) rfl (Nat.le_of_ble_eq_true rfl) h (fun μ2 hm h => ?_)
      have hk := hm.k hk (by decide)
      exact a_sub [0] rfl (tX8_asks_24 E l _ N l0 μ2 t hk h)
-- X8_takesSign
abbrev aX8_takesSign (E : m_E) (l : Launch) (d : Nat) (z : Nat × Nat) (pc : Nat) (L : List (Nat × AV)) (st : List AV) (μ : Mm) (ρ : Option AV × Mm) : Prop := AA E l d z RX8 "takesSign" cX8_takesSign 2 (some .boolean) pc L st μ ρ
theorem tX8_takesSign_15 (E : m_E) (l : Launch) (z : Nat × Nat) (N : Nat) (l0 : Int) (μ : Mm) (t : Int × Mm) (hk : m_kd μ l0 = (8, 0)) (h : jX8_takesSign_15 N l0 μ = some t) : aX8_takesSign E l 2 z 15 [(0, vr l0)] [] μ (rI t) := by
  unfold jX8_takesSign_15 at h
  refine a_iconst dX8_takesSign_15 (okI_b _ rfl) ?_
  exact a_retzl (Or.inl rfl) dX8_takesSign_16 h
theorem tX8_takesSign (E : m_E) (l : Launch) (N : Nat) (l0 l1 : Int) (μ : Mm) (t : Int × Mm) (hk : m_kd μ l0 = (8, 0)) (h : jX8_takesSign N l0 l1 μ = some t) : TT E l 2 yX8_takesSign cX8_takesSign 2 (some .boolean) [vr l0, vi l1] μ (rI t) := by
  refine tt_of (L := [(0, vr l0), (1, vi l1)]) (by decide +kernel) (Nat.le_of_ble_eq_true rfl) rfl ?_
  show aX8_takesSign E l 2 (m_sz μ, m_sl μ) 0 [(0, vr l0), (1, vi l1)] [] μ (rI t)
  unfold jX8_takesSign at h
  refine a_aload_n 0 dX8_takesSign_0 rfl rfl ?_
  refine a_getfi (c := 8) (i := 5) dX8_takesSign_1 fRX8_183 g8_5 rfl hk ?_
  refine a_if_ne (tgt := 15) dX8_takesSign_4 rfl h (fun h => ?_) (fun h => ?_)
  ·
    exact a_sub [0] rfl (tX8_takesSign_15 E l _ N l0 μ t hk h)
  ·
    refine a_aload_n 0 dX8_takesSign_7 rfl rfl ?_
    refine a_cVi (c := 8) [] [] dX8_takesSign_8 myX8_look mRX8_195 mvX8_look rfl (by decide) hk (fun _ hj => tX8_look E l N l0 μ _ hk hj) (by decide) rfl (Nat.le_of_ble_eq_true rfl) h (fun x1 μ1 hm h => ?_)
    have hk := hm.k hk (by decide)
    refine a_iload_n 1 dX8_takesSign_11 rfl rfl ?_
    refine a_icmp_eq (tgt := 17) dX8_takesSign_12 rfl h (fun h => ?_) (fun h => ?_)
    ·
      refine a_aload_n 0 dX8_takesSign_17 rfl rfl ?_
      refine a_dup dX8_takesSign_18 rfl ?_
      refine a_getfi (c := 8) (i := 2) dX8_takesSign_19 fRX8_189 g8_2 rfl hk ?_
      refine a_iconst dX8_takesSign_22 (okI_b _ rfl) ?_
      refine a_iadd dX8_takesSign_23 ?_
      refine a_putfi (c := 8) (i := 2) dX8_takesSign_24 fRX8_189 g8_2 (Or.inl rfl) rfl hk h (fun μ2 hm h => ?_)
      have hk := hm.k hk (by decide)
      refine a_iconst dX8_takesSign_27 (okI_b _ rfl) ?_
      exact a_retzl (Or.inr rfl) dX8_takesSign_28 h
    ·
      exact a_sub [0] rfl (tX8_takesSign_15 E l _ N l0 μ1 t hk h)
-- X8_asksSign
abbrev aX8_asksSign (E : m_E) (l : Launch) (d : Nat) (z : Nat × Nat) (pc : Nat) (L : List (Nat × AV)) (st : List AV) (μ : Mm) (ρ : Option AV × Mm) : Prop := AA E l d z RX8 "asksSign" cX8_asksSign 2 none pc L st μ ρ
theorem tX8_asksSign_24 (E : m_E) (l : Launch) (z : Nat × Nat) (N : Nat) (l0 : Int) (μ : Mm) (t : Mm) (hk : m_kd μ l0 = (8, 0)) (h : jX8_asksSign_24 N l0 μ = some t) : aX8_asksSign E l 3 z 24 [(0, vr l0)] [] μ (rV t) := by
  unfold jX8_asksSign_24 at h
  exact a_ret0 dX8_asksSign_24 h
theorem tX8_asksSign (E : m_E) (l : Launch) (N : Nat) (l0 l1 : Int) (μ : Mm) (t : Mm) (hk : m_kd μ l0 = (8, 0)) (h : jX8_asksSign N l0 l1 μ = some t) : TT E l 3 yX8_asksSign cX8_asksSign 2 none [vr l0, vi l1] μ (rV t) := by
  refine tt_of (L := [(0, vr l0), (1, vi l1)]) (by decide +kernel) (Nat.le_of_ble_eq_true rfl) rfl ?_
  show aX8_asksSign E l 3 (m_sz μ, m_sl μ) 0 [(0, vr l0), (1, vi l1)] [] μ (rV t)
  unfold jX8_asksSign at h
  refine a_aload_n 0 dX8_asksSign_0 rfl rfl ?_
  refine a_getfi (c := 8) (i := 5) dX8_asksSign_1 fRX8_183 g8_5 rfl hk ?_
  refine a_if_ne (tgt := 24) dX8_asksSign_4 rfl h (fun h => ?_) (fun h => ?_)
  ·
    exact a_sub [0] rfl (tX8_asksSign_24 E l _ N l0 μ t hk h)
  ·
    refine a_aload_n 0 dX8_asksSign_7 rfl rfl ?_
    refine a_iload_n 1 dX8_asksSign_8 rfl rfl ?_
    refine a_cVi (c := 8) [vi l1] [] dX8_asksSign_9 myX8_takesSign mRX8_217 mvX8_takesSign rfl (by decide) hk (fun _ hj => tX8_takesSign E l N l0 l1 μ _ hk hj) (by decide) rfl (Nat.le_of_ble_eq_true rfl) h (fun x1 μ1 hm h => ?_)
    have hk := hm.k hk (by decide)
    refine a_if_ne (tgt := 24) dX8_asksSign_12 rfl h (fun h => ?_) (fun h => ?_)
    ·
      exact a_sub [0] rfl (tX8_asksSign_24 E l _ N l0 μ1 t hk h)
    ·
      refine a_aload_n 0 dX8_asksSign_15 rfl rfl ?_
      refine a_iconst dX8_asksSign_16 (okI_b _ rfl) ?_
      refine a_aload_n 0 dX8_asksSign_17 rfl rfl ?_
      refine a_getfi (c := 8) (i := 2) dX8_asksSign_18 fRX8_189 g8_2 rfl hk ?_
      refine a_cVv (c := 8) [vi 1, vi (m_gt μ1 l0 2)] [] dX8_asksSign_21 myX8_fail mRX8_213 mvX8_fail rfl (by decide) hk (fun _ hj => tX8_fail E l N l0 1 (m_gt μ1 l0 2) μ1 _ hk hj) (by decide) rfl (Nat.le_of_ble_eq_true rfl) h (fun μ2 hm h => ?_)
      have hk := hm.k hk (by decide)
      exact a_sub [0] rfl (tX8_asksSign_24 E l _ N l0 μ2 t hk h)
-- X8_isDigit
abbrev aX8_isDigit (E : m_E) (l : Launch) (d : Nat) (z : Nat × Nat) (pc : Nat) (L : List (Nat × AV)) (st : List AV) (μ : Mm) (ρ : Option AV × Mm) : Prop := AA E l d z RX8 "isDigit" cX8_isDigit 1 (some .boolean) pc L st μ ρ
theorem tX8_isDigit_17 (E : m_E) (l : Launch) (z : Nat × Nat) (N : Nat) (s0 : Int) (μ : Mm) (t : Int × Mm) (h : jX8_isDigit_17 N s0 μ = some t) : aX8_isDigit E l 1 z 17 [] [vi s0] μ (rI t) := by
  unfold jX8_isDigit_17 at h
  exact a_retz dX8_isDigit_17 h
theorem tX8_isDigit_16 (E : m_E) (l : Launch) (z : Nat × Nat) (N : Nat) (μ : Mm) (t : Int × Mm) (h : jX8_isDigit_16 N  μ = some t) : aX8_isDigit E l 1 z 16 [] [] μ (rI t) := by
  unfold jX8_isDigit_16 at h
  refine a_iconst dX8_isDigit_16 (okI_b _ rfl) ?_
  exact a_sub [] rfl (tX8_isDigit_17 E l _ N 0 μ t h)
theorem tX8_isDigit (E : m_E) (l : Launch) (N : Nat) (l0 : Int) (μ : Mm) (t : Int × Mm) (h : jX8_isDigit N l0 μ = some t) : TT E l 1 yX8_isDigit cX8_isDigit 1 (some .boolean) [vi l0] μ (rI t) := by
  refine tt_of (L := [(0, vi l0)]) (by decide +kernel) (Nat.le_of_ble_eq_true rfl) rfl ?_
  show aX8_isDigit E l 1 (m_sz μ, m_sl μ) 0 [(0, vi l0)] [] μ (rI t)
  unfold jX8_isDigit at h
  refine a_iload_n 0 dX8_isDigit_0 rfl rfl ?_
  refine a_bipush dX8_isDigit_1 ⟨rfl, okI_b _ rfl⟩ ?_
  refine a_icmp_lt (tgt := 16) dX8_isDigit_3 rfl h (fun h => ?_) (fun h => ?_)
  ·
    exact a_sub [] rfl (tX8_isDigit_16 E l _ N  μ t h)
  ·
    refine a_iload_n 0 dX8_isDigit_6 rfl rfl ?_
    refine a_bipush dX8_isDigit_7 ⟨rfl, okI_b _ rfl⟩ ?_
    refine a_icmp_gt (tgt := 16) dX8_isDigit_9 rfl h (fun h => ?_) (fun h => ?_)
    ·
      exact a_sub [] rfl (tX8_isDigit_16 E l _ N  μ t h)
    ·
      refine a_iconst dX8_isDigit_12 (okI_b _ rfl) ?_
      refine a_goto (tgt := 17) dX8_isDigit_13 rfl ?_
      exact a_sub [] rfl (tX8_isDigit_17 E l _ N 1 μ t h)
-- X8_number
abbrev aX8_number (E : m_E) (l : Launch) (d : Nat) (z : Nat × Nat) (pc : Nat) (L : List (Nat × AV)) (st : List AV) (μ : Mm) (ρ : Option AV × Mm) : Prop := AA E l d z RX8 "number" cX8_number 5 (some .int) pc L st μ ρ
theorem tX8_number_156 (E : m_E) (l : Launch) (z : Nat × Nat) (N : Nat) (l0 l4 : Int) (μ : Mm) (t : Int × Mm) (hk : m_kd μ l0 = (8, 0)) (h : jX8_number_156 N l0 l4 μ = some t) : aX8_number E l 2 z 156 [(0, vr l0), (4, vi l4)] [] μ (rI t) := by
  unfold jX8_number_156 at h
  refine a_iload 1 dX8_number_156 rfl ?_
  exact a_reti dX8_number_158 h
theorem tX8_number_129 (E : m_E) (l : Launch) (z : Nat × Nat) (N : Nat) (l0 l1 l2 l3 l4 : Int) (μ : Mm) (t : Int × Mm) (hk : m_kd μ l0 = (8, 0)) (h : jX8_number_129 N l0 l1 l2 l3 l4 μ = some t) : aX8_number E l 2 z 129 [(0, vr l0), (1, vi l1), (2, vi l2), (3, vi l3), (4, vi l4)] [] μ (rI t) := by
  unfold jX8_number_129 at h
  refine a_aload_n 0 dX8_number_129 rfl rfl ?_
  refine a_aload_n 0 dX8_number_130 rfl rfl ?_
  refine a_getfi (c := 8) (i := 2) dX8_number_131 fRX8_189 g8_2 rfl hk ?_
  refine a_putfi (c := 8) (i := 4) dX8_number_134 fRX8_203 g8_4 (Or.inl rfl) rfl hk h (fun μ1 hm h => ?_)
  have hk := hm.k hk (by decide)
  refine a_iload 4 dX8_number_137 rfl ?_
  refine a_i2l dX8_number_139 ?_
  refine a_iload_n 1 dX8_number_140 rfl rfl ?_
  refine a_i2l dX8_number_141 ?_
  refine a_iload_n 2 dX8_number_142 rfl rfl ?_
  refine a_i2l dX8_number_143 ?_
  refine a_cSi [vl (i_2l l4), vl (i_2l l1), vl (i_2l l2)] [] dX8_number_144 myX8_isIn mRX8_223 msX8_isIn (fun _ hj => tX8_isIn E l N (i_2l l4) (i_2l l1) (i_2l l2) μ1 _  hj) (by decide) rfl (Nat.le_of_ble_eq_true rfl) h (fun x1 μ2 hm h => ?_)
  have hk := hm.k hk (by decide)
  refine a_if_ne (tgt := 156) dX8_number_147 rfl h (fun h => ?_) (fun h => ?_)
  ·
    exact a_sub [0, 4] rfl (tX8_number_156 E l _ N l0 l4 μ2 t hk h)
  ·
    refine a_aload_n 0 dX8_number_150 rfl rfl ?_
    refine a_iconst dX8_number_151 (okI_b _ rfl) ?_
    refine a_iload_n 3 dX8_number_152 rfl rfl ?_
    refine a_cVv (c := 8) [vi 2, vi l3] [] dX8_number_153 myX8_fail mRX8_213 mvX8_fail rfl (by decide) hk (fun _ hj => tX8_fail E l N l0 2 l3 μ2 _ hk hj) (by decide) rfl (Nat.le_of_ble_eq_true rfl) h (fun μ3 hm h => ?_)
    have hk := hm.k hk (by decide)
    exact a_sub [0, 4] rfl (tX8_number_156 E l _ N l0 l4 μ3 t hk h)
theorem tX8_number_49b (E : m_E) (l : Launch) (z : Nat × Nat) (k49 : Int → Int → Int → Int → Int → Mm → Option (Int × Mm)) (p49 : ∀ (l0 l1 l2 l3 l4 : Int) (μ : Mm) (t : Int × Mm), m_kd μ l0 = (8, 0) → k49 l0 l1 l2 l3 l4 μ = some t → aX8_number E l 2 z 49 [(0, vr l0), (1, vi l1), (2, vi l2), (3, vi l3), (4, vi l4)] [] μ (rI t)) (N : Nat) (l0 l1 l2 l3 l4 : Int) (μ : Mm) (t : Int × Mm) (hk : m_kd μ l0 = (8, 0)) (h : jX8_number_49b k49 N l0 l1 l2 l3 l4 μ = some t) : aX8_number E l 2 z 49 [(0, vr l0), (1, vi l1), (2, vi l2), (3, vi l3), (4, vi l4)] [] μ (rI t) := by
  unfold jX8_number_49b at h
  refine a_aload_n 0 dX8_number_49 rfl rfl ?_
  refine a_getfi (c := 8) (i := 2) dX8_number_50 fRX8_189 g8_2 rfl hk ?_
  refine a_aload_n 0 dX8_number_53 rfl rfl ?_
  refine a_getfi (c := 8) (i := 3) dX8_number_54 fRX8_192 g8_3 rfl hk ?_
  refine a_icmp_ge (tgt := 129) dX8_number_57 rfl h (fun h => ?_) (fun h => ?_)
  ·
    exact a_sub [0, 1, 2, 3, 4] rfl (tX8_number_129 E l _ N l0 l1 l2 l3 l4 μ t hk h)
  ·
    refine a_aload_n 0 dX8_number_60 rfl rfl ?_
    refine a_getfr (c := 8) (i := 0) dX8_number_61 fRX8_7 g8_0 rfl hk ?_
    refine a_aload_n 0 dX8_number_64 rfl rfl ?_
    refine a_getfi (c := 8) (i := 2) dX8_number_65 fRX8_189 g8_2 rfl hk ?_
    refine a_iald dX8_number_68 h (fun x1 h => ?_)
    refine a_cSi [vi x1] [] dX8_number_69 myX8_isDigit mRX8_220 msX8_isDigit (fun _ hj => tX8_isDigit E l N x1 μ _  hj) (by decide) rfl (Nat.le_of_ble_eq_true rfl) h (fun x2 μ1 hm h => ?_)
    have hk := hm.k hk (by decide)
    refine a_if_eq (tgt := 129) dX8_number_72 rfl h (fun h => ?_) (fun h => ?_)
    ·
      exact a_sub [0, 1, 2, 3, 4] rfl (tX8_number_129 E l _ N l0 l1 l2 l3 l4 μ1 t hk h)
    ·
      refine a_aload_n 0 dX8_number_75 rfl rfl ?_
      refine a_getfi (c := 8) (i := 2) dX8_number_76 fRX8_189 g8_2 rfl hk ?_
      refine a_iload_n 3 dX8_number_79 rfl rfl ?_
      refine a_isub dX8_number_80 ?_
      refine a_iconst dX8_number_81 (okI_b _ rfl) ?_
      refine a_icmp_ne (tgt := 96) dX8_number_82 rfl h (fun h => ?_) (fun h => ?_)
      ·
        refine a_bipush dX8_number_96 ⟨rfl, okI_b _ rfl⟩ ?_
        refine a_iload 4 dX8_number_98 rfl ?_
        refine a_imul dX8_number_100 ?_
        refine a_aload_n 0 dX8_number_101 rfl rfl ?_
        refine a_getfr (c := 8) (i := 0) dX8_number_102 fRX8_7 g8_0 rfl hk ?_
        refine a_aload_n 0 dX8_number_105 rfl rfl ?_
        refine a_getfi (c := 8) (i := 2) dX8_number_106 fRX8_189 g8_2 rfl hk ?_
        refine a_iald dX8_number_109 h (fun x3 h => ?_)
        refine a_iadd dX8_number_110 ?_
        refine a_bipush dX8_number_111 ⟨rfl, okI_b _ rfl⟩ ?_
        refine a_isub dX8_number_113 ?_
        refine a_nmi h (fun x4 h => ?_)
        refine a_istore (L' := [(4, vi x4), (0, vr l0), (1, vi l1), (2, vi l2), (3, vi l3)]) dX8_number_114 (by decide) rfl ?_
        refine a_aload_n 1 dX8_number_116 rfl rfl ?_
        refine a_dup dX8_number_117 rfl ?_
        refine a_getfi (c := 8) (i := 2) dX8_number_118 fRX8_189 g8_2 rfl hk ?_
        refine a_iconst dX8_number_121 (okI_b _ rfl) ?_
        refine a_iadd dX8_number_122 ?_
        refine a_putfi (c := 8) (i := 2) dX8_number_123 fRX8_189 g8_2 (Or.inl rfl) rfl hk h (fun μ2 hm h => ?_)
        have hk := hm.k hk (by decide)
        refine a_goto (tgt := 49) dX8_number_126 rfl ?_
        exact a_sub [1, 2, 3, 4, 0] rfl (p49 l0 l1 l2 l3 x4 μ2 t hk h)
      ·
        refine a_aload_n 0 dX8_number_85 rfl rfl ?_
        refine a_iconst dX8_number_86 (okI_b _ rfl) ?_
        refine a_aload_n 0 dX8_number_87 rfl rfl ?_
        refine a_getfi (c := 8) (i := 2) dX8_number_88 fRX8_189 g8_2 rfl hk ?_
        refine a_cVv (c := 8) [vi 1, vi (m_gt μ1 l0 2)] [] dX8_number_91 myX8_fail mRX8_213 mvX8_fail rfl (by decide) hk (fun _ hj => tX8_fail E l N l0 1 (m_gt μ1 l0 2) μ1 _ hk hj) (by decide) rfl (Nat.le_of_ble_eq_true rfl) h (fun μ3 hm h => ?_)
        have hk := hm.k hk (by decide)
        refine a_iconst dX8_number_94 (okI_b _ rfl) ?_
        exact a_reti dX8_number_95 h
theorem tX8_number_49 (E : m_E) (l : Launch) (z : Nat × Nat) (N : Nat) : ∀ (n : Nat) (l0 l1 l2 l3 l4 : Int) (μ : Mm) (t : Int × Mm), m_kd μ l0 = (8, 0) → jX8_number_49 N n l0 l1 l2 l3 l4 μ = some t → aX8_number E l 2 z 49 [(0, vr l0), (1, vi l1), (2, vi l2), (3, vi l3), (4, vi l4)] [] μ (rI t)
  | 0, _, _, _, _, _, _, _, _, h => by cases h
  | n + 1, l0, l1, l2, l3, l4, μ, t, hk, h => tX8_number_49b E l z (jX8_number_49 N n) (tX8_number_49 E l z N n) N l0 l1 l2 l3 l4 μ t hk h
theorem tX8_number_30 (E : m_E) (l : Launch) (z : Nat × Nat) (N : Nat) (l0 : Int) (μ : Mm) (t : Int × Mm) (hk : m_kd μ l0 = (8, 0)) (h : jX8_number_30 N l0 μ = some t) : aX8_number E l 2 z 30 [(0, vr l0)] [] μ (rI t) := by
  unfold jX8_number_30 at h
  refine a_aload_n 0 dX8_number_30 rfl rfl ?_
  refine a_iconst dX8_number_31 (okI_b _ rfl) ?_
  refine a_aload_n 0 dX8_number_32 rfl rfl ?_
  refine a_getfi (c := 8) (i := 2) dX8_number_33 fRX8_189 g8_2 rfl hk ?_
  refine a_cVv (c := 8) [vi 1, vi (m_gt μ l0 2)] [] dX8_number_36 myX8_fail mRX8_213 mvX8_fail rfl (by decide) hk (fun _ hj => tX8_fail E l N l0 1 (m_gt μ l0 2) μ _ hk hj) (by decide) rfl (Nat.le_of_ble_eq_true rfl) h (fun μ1 hm h => ?_)
  have hk := hm.k hk (by decide)
  refine a_iconst dX8_number_39 (okI_b _ rfl) ?_
  exact a_reti dX8_number_40 h
theorem tX8_number (E : m_E) (l : Launch) (N : Nat) (l0 l1 l2 : Int) (μ : Mm) (t : Int × Mm) (hk : m_kd μ l0 = (8, 0)) (h : jX8_number N l0 l1 l2 μ = some t) : TT E l 2 yX8_number cX8_number 5 (some .int) [vr l0, vi l1, vi l2] μ (rI t) := by
  refine tt_of (L := [(0, vr l0), (1, vi l1), (2, vi l2)]) (by decide +kernel) (Nat.le_of_ble_eq_true rfl) rfl ?_
  show aX8_number E l 2 (m_sz μ, m_sl μ) 0 [(0, vr l0), (1, vi l1), (2, vi l2)] [] μ (rI t)
  unfold jX8_number at h
  refine a_aload_n 0 dX8_number_0 rfl rfl ?_
  refine a_getfi (c := 8) (i := 5) dX8_number_1 fRX8_183 g8_5 rfl hk ?_
  refine a_if_eq (tgt := 9) dX8_number_4 rfl h (fun h => ?_) (fun h => ?_)
  ·
    refine a_aload_n 0 dX8_number_9 rfl rfl ?_
    refine a_cVi (c := 8) [] [] dX8_number_10 myX8_look mRX8_195 mvX8_look rfl (by decide) hk (fun _ hj => tX8_look E l N l0 μ _ hk hj) (by decide) rfl (Nat.le_of_ble_eq_true rfl) h (fun x1 μ1 hm h => ?_)
    have hk := hm.k hk (by decide)
    refine a_cSi [vi x1] [] dX8_number_13 myX8_isDigit mRX8_220 msX8_isDigit (fun _ hj => tX8_isDigit E l N x1 μ1 _  hj) (by decide) rfl (Nat.le_of_ble_eq_true rfl) h (fun x2 μ2 hm h => ?_)
    have hk := hm.k hk (by decide)
    refine a_if_eq (tgt := 30) dX8_number_16 rfl h (fun h => ?_) (fun h => ?_)
    ·
      exact a_sub [0] rfl (tX8_number_30 E l _ N l0 μ2 t hk h)
    ·
      refine a_aload_n 0 dX8_number_19 rfl rfl ?_
      refine a_getfi (c := 8) (i := 2) dX8_number_20 fRX8_189 g8_2 rfl hk ?_
      refine a_aload_n 0 dX8_number_23 rfl rfl ?_
      refine a_getfi (c := 8) (i := 4) dX8_number_24 fRX8_203 g8_4 rfl hk ?_
      refine a_icmp_ne (tgt := 41) dX8_number_27 rfl h (fun h => ?_) (fun h => ?_)
      ·
        refine a_aload_n 0 dX8_number_41 rfl rfl ?_
        refine a_getfi (c := 8) (i := 2) dX8_number_42 fRX8_189 g8_2 rfl hk ?_
        refine a_nmi h (fun x3 h => ?_)
        refine a_istore_n (L' := [(3, vi x3), (0, vr l0), (1, vi l1), (2, vi l2)]) dX8_number_45 rfl (by decide) rfl ?_
        refine a_iconst dX8_number_46 (okI_b _ rfl) ?_
        refine a_istore (L' := [(4, vi 0), (3, vi x3), (0, vr l0), (1, vi l1), (2, vi l2)]) dX8_number_47 (by decide) rfl ?_
        exact a_sub [2, 3, 4, 1, 0] rfl (tX8_number_49 E l _ N N l0 l1 l2 x3 0 μ2 t hk h)
      ·
        exact a_sub [0] rfl (tX8_number_30 E l _ N l0 μ2 t hk h)
  ·
    refine a_iconst dX8_number_7 (okI_b _ rfl) ?_
    exact a_reti dX8_number_8 h
-- X8_cleanTold
abbrev aX8_cleanTold (E : m_E) (l : Launch) (d : Nat) (z : Nat × Nat) (pc : Nat) (L : List (Nat × AV)) (st : List AV) (μ : Mm) (ρ : Option AV × Mm) : Prop := AA E l d z RX8 "cleanTold" cX8_cleanTold 3 none pc L st μ ρ
theorem tX8_cleanTold_36 (E : m_E) (l : Launch) (z : Nat × Nat) (N : Nat) (l0 : Int) (μ : Mm) (t : Mm) (hk : m_kd μ l0 = (8, 0)) (h : jX8_cleanTold_36 N l0 μ = some t) : aX8_cleanTold E l 5 z 36 [(0, vr l0)] [] μ (rV t) := by
  unfold jX8_cleanTold_36 at h
  exact a_ret0 dX8_cleanTold_36 h
theorem tX8_cleanTold (E : m_E) (l : Launch) (N : Nat) (l0 : Int) (μ : Mm) (t : Mm) (hk : m_kd μ l0 = (8, 0)) (h : jX8_cleanTold N l0 μ = some t) : TT E l 5 yX8_cleanTold cX8_cleanTold 3 none [vr l0] μ (rV t) := by
  refine tt_of (L := [(0, vr l0)]) (by decide +kernel) (Nat.le_of_ble_eq_true rfl) rfl ?_
  show aX8_cleanTold E l 5 (m_sz μ, m_sl μ) 0 [(0, vr l0)] [] μ (rV t)
  unfold jX8_cleanTold at h
  refine a_aload_n 0 dX8_cleanTold_0 rfl rfl ?_
  refine a_iconst dX8_cleanTold_1 (okI_b _ rfl) ?_
  refine a_iconst dX8_cleanTold_2 (okI_b _ rfl) ?_
  refine a_cVi (c := 8) [vi 1, vi 3] [] dX8_cleanTold_3 myX8_number mRX8_259 mvX8_number rfl (by decide) hk (fun _ hj => tX8_number E l N l0 1 3 μ _ hk hj) (by decide) rfl (Nat.le_of_ble_eq_true rfl) h (fun x1 μ1 hm h => ?_)
  have hk := hm.k hk (by decide)
  refine a_istore_n (L' := [(1, vi x1), (0, vr l0)]) dX8_cleanTold_6 rfl (by decide) rfl ?_
  refine a_aload_n 1 dX8_cleanTold_7 rfl rfl ?_
  refine a_aload_n 1 dX8_cleanTold_8 rfl rfl ?_
  refine a_getfr (c := 8) (i := 13) dX8_cleanTold_9 fRX8_30 g8_13 rfl hk ?_
  refine a_cVv (c := 8) [vr (m_gt μ1 l0 13)] [] dX8_cleanTold_12 myX8_asks mRX8_252 mvX8_asks rfl (by decide) hk (fun _ hj => tX8_asks E l N l0 (m_gt μ1 l0 13) μ1 _ hk hj) (by decide) rfl (Nat.le_of_ble_eq_true rfl) h (fun μ2 hm h => ?_)
  have hk := hm.k hk (by decide)
  refine a_aload_n 1 dX8_cleanTold_15 rfl rfl ?_
  refine a_iconst dX8_cleanTold_16 (okI_b _ rfl) ?_
  refine a_iconst dX8_cleanTold_17 (okI_b _ rfl) ?_
  refine a_cVi (c := 8) [vi 0, vi 3] [] dX8_cleanTold_18 myX8_number mRX8_259 mvX8_number rfl (by decide) hk (fun _ hj => tX8_number E l N l0 0 3 μ2 _ hk hj) (by decide) rfl (Nat.le_of_ble_eq_true rfl) h (fun x2 μ3 hm h => ?_)
  have hk := hm.k hk (by decide)
  refine a_istore_n (L' := [(2, vi x2), (1, vi x1), (0, vr l0)]) dX8_cleanTold_21 rfl (by decide) rfl ?_
  refine a_aload_n 2 dX8_cleanTold_22 rfl rfl ?_
  refine a_getfi (c := 8) (i := 5) dX8_cleanTold_23 fRX8_183 g8_5 rfl hk ?_
  refine a_if_ne (tgt := 36) dX8_cleanTold_26 rfl h (fun h => ?_) (fun h => ?_)
  ·
    exact a_sub [2] rfl (tX8_cleanTold_36 E l _ N l0 μ3 t hk h)
  ·
    refine a_aload_n 2 dX8_cleanTold_29 rfl rfl ?_
    refine a_getfr (c := 8) (i := 35) dX8_cleanTold_30 fRX8_96 g8_35 rfl hk ?_
    refine a_iload_n 1 dX8_cleanTold_33 rfl rfl ?_
    refine a_iload_n 0 dX8_cleanTold_34 rfl rfl ?_
    refine a_iast dX8_cleanTold_35 h (fun μ4 hm h => ?_)
    have hk := hm.k hk (by decide)
    exact a_sub [2] rfl (tX8_cleanTold_36 E l _ N l0 μ4 t hk h)
-- X8_joinsTold
abbrev aX8_joinsTold (E : m_E) (l : Launch) (d : Nat) (z : Nat × Nat) (pc : Nat) (L : List (Nat × AV)) (st : List AV) (μ : Mm) (ρ : Option AV × Mm) : Prop := AA E l d z RX8 "joinsTold" cX8_joinsTold 4 none pc L st μ ρ
theorem tX8_joinsTold_44 (E : m_E) (l : Launch) (z : Nat × Nat) (N : Nat) (l0 l1 l3 : Int) (μ : Mm) (t : Mm) (hk : m_kd μ l0 = (8, 0)) (h : jX8_joinsTold_44 N l0 l1 l3 μ = some t) : aX8_joinsTold E l 3 z 44 [(0, vr l0), (1, vi l1), (3, vi l3)] [] μ (rV t) := by
  unfold jX8_joinsTold_44 at h
  refine a_aload_n 0 dX8_joinsTold_44 rfl rfl ?_
  refine a_getfi (c := 8) (i := 5) dX8_joinsTold_45 fRX8_183 g8_5 rfl hk ?_
  refine a_if_eq (tgt := 52) dX8_joinsTold_48 rfl h (fun h => ?_) (fun h => ?_)
  ·
    refine a_aload_n 0 dX8_joinsTold_52 rfl rfl ?_
    refine a_getfr (c := 8) (i := 42) dX8_joinsTold_53 fRX8_117 g8_42 rfl hk ?_
    refine a_bipush dX8_joinsTold_56 ⟨rfl, okI_b _ rfl⟩ ?_
    refine a_iload_n 1 dX8_joinsTold_58 rfl rfl ?_
    refine a_imul dX8_joinsTold_59 ?_
    refine a_iload_n 2 dX8_joinsTold_60 rfl rfl ?_
    refine a_iadd dX8_joinsTold_61 ?_
    refine a_iconst dX8_joinsTold_62 (okI_b _ rfl) ?_
    refine a_zast (hz := Or.inr rfl) dX8_joinsTold_63 h (fun μ1 hm h => ?_)
    have hk := hm.k hk (by decide)
    refine a_aload_n 0 dX8_joinsTold_64 rfl rfl ?_
    refine a_getfr (c := 8) (i := 42) dX8_joinsTold_65 fRX8_117 g8_42 rfl hk ?_
    refine a_bipush dX8_joinsTold_68 ⟨rfl, okI_b _ rfl⟩ ?_
    refine a_iload_n 2 dX8_joinsTold_70 rfl rfl ?_
    refine a_imul dX8_joinsTold_71 ?_
    refine a_iload_n 1 dX8_joinsTold_72 rfl rfl ?_
    refine a_iadd dX8_joinsTold_73 ?_
    refine a_iconst dX8_joinsTold_74 (okI_b _ rfl) ?_
    refine a_zast (hz := Or.inr rfl) dX8_joinsTold_75 h (fun μ2 hm h => ?_)
    have hk := hm.k hk (by decide)
    exact a_ret0 dX8_joinsTold_76 h
  ·
    exact a_ret0 dX8_joinsTold_51 h
theorem tX8_joinsTold (E : m_E) (l : Launch) (N : Nat) (l0 : Int) (μ : Mm) (t : Mm) (hk : m_kd μ l0 = (8, 0)) (h : jX8_joinsTold N l0 μ = some t) : TT E l 3 yX8_joinsTold cX8_joinsTold 4 none [vr l0] μ (rV t) := by
  refine tt_of (L := [(0, vr l0)]) (by decide +kernel) (Nat.le_of_ble_eq_true rfl) rfl ?_
  show aX8_joinsTold E l 3 (m_sz μ, m_sl μ) 0 [(0, vr l0)] [] μ (rV t)
  unfold jX8_joinsTold at h
  refine a_aload_n 0 dX8_joinsTold_0 rfl rfl ?_
  refine a_iconst dX8_joinsTold_1 (okI_b _ rfl) ?_
  refine a_bipush dX8_joinsTold_2 ⟨rfl, okI_b _ rfl⟩ ?_
  refine a_cVi (c := 8) [vi 0, vi 8] [] dX8_joinsTold_4 myX8_number mRX8_259 mvX8_number rfl (by decide) hk (fun _ hj => tX8_number E l N l0 0 8 μ _ hk hj) (by decide) rfl (Nat.le_of_ble_eq_true rfl) h (fun x1 μ1 hm h => ?_)
  have hk := hm.k hk (by decide)
  refine a_istore_n (L' := [(1, vi x1), (0, vr l0)]) dX8_joinsTold_7 rfl (by decide) rfl ?_
  refine a_aload_n 1 dX8_joinsTold_8 rfl rfl ?_
  refine a_cVi (c := 8) [] [] dX8_joinsTold_9 myX8_look mRX8_195 mvX8_look rfl (by decide) hk (fun _ hj => tX8_look E l N l0 μ1 _ hk hj) (by decide) rfl (Nat.le_of_ble_eq_true rfl) h (fun x2 μ2 hm h => ?_)
  have hk := hm.k hk (by decide)
  refine a_pop dX8_joinsTold_12 rfl ?_
  refine a_aload_n 1 dX8_joinsTold_13 rfl rfl ?_
  refine a_getfi (c := 8) (i := 2) dX8_joinsTold_14 fRX8_189 g8_2 rfl hk ?_
  refine a_nmi h (fun x3 h => ?_)
  refine a_istore_n (L' := [(2, vi x3), (1, vi x1), (0, vr l0)]) dX8_joinsTold_17 rfl (by decide) rfl ?_
  refine a_aload_n 2 dX8_joinsTold_18 rfl rfl ?_
  refine a_iconst dX8_joinsTold_19 (okI_b _ rfl) ?_
  refine a_bipush dX8_joinsTold_20 ⟨rfl, okI_b _ rfl⟩ ?_
  refine a_cVi (c := 8) [vi 0, vi 8] [] dX8_joinsTold_22 myX8_number mRX8_259 mvX8_number rfl (by decide) hk (fun _ hj => tX8_number E l N l0 0 8 μ2 _ hk hj) (by decide) rfl (Nat.le_of_ble_eq_true rfl) h (fun x4 μ3 hm h => ?_)
  have hk := hm.k hk (by decide)
  refine a_istore_n (L' := [(3, vi x4), (2, vi x3), (1, vi x1), (0, vr l0)]) dX8_joinsTold_25 rfl (by decide) rfl ?_
  refine a_aload_n 3 dX8_joinsTold_26 rfl rfl ?_
  refine a_getfi (c := 8) (i := 5) dX8_joinsTold_27 fRX8_183 g8_5 rfl hk ?_
  refine a_if_ne (tgt := 44) dX8_joinsTold_30 rfl h (fun h => ?_) (fun h => ?_)
  ·
    exact a_sub [3, 2, 0] rfl (tX8_joinsTold_44 E l _ N l0 x1 x4 μ3 t hk h)
  ·
    refine a_iload_n 2 dX8_joinsTold_33 rfl rfl ?_
    refine a_iload_n 0 dX8_joinsTold_34 rfl rfl ?_
    refine a_icmp_ne (tgt := 44) dX8_joinsTold_35 rfl h (fun h => ?_) (fun h => ?_)
    ·
      exact a_sub [3, 2, 0] rfl (tX8_joinsTold_44 E l _ N l0 x1 x4 μ3 t hk h)
    ·
      refine a_aload_n 3 dX8_joinsTold_38 rfl rfl ?_
      refine a_iconst dX8_joinsTold_39 (okI_b _ rfl) ?_
      refine a_iload_n 1 dX8_joinsTold_40 rfl rfl ?_
      refine a_cVv (c := 8) [vi 2, vi x3] [] dX8_joinsTold_41 myX8_fail mRX8_213 mvX8_fail rfl (by decide) hk (fun _ hj => tX8_fail E l N l0 2 x3 μ3 _ hk hj) (by decide) rfl (Nat.le_of_ble_eq_true rfl) h (fun μ4 hm h => ?_)
      have hk := hm.k hk (by decide)
      exact a_sub [3, 2, 0] rfl (tX8_joinsTold_44 E l _ N l0 x1 x4 μ4 t hk h)
-- X8_code
abbrev aX8_code (E : m_E) (l : Launch) (d : Nat) (z : Nat × Nat) (pc : Nat) (L : List (Nat × AV)) (st : List AV) (μ : Mm) (ρ : Option AV × Mm) : Prop := AA E l d z RX8 "code" cX8_code 2 none pc L st μ ρ
theorem tX8_code (E : m_E) (l : Launch) (N : Nat) (l0 l1 : Int) (μ : Mm) (t : Mm) (hk : m_kd μ l0 = (8, 0)) (h : jX8_code N l0 l1 μ = some t) : TT E l 1 yX8_code cX8_code 2 none [vr l0, vi l1] μ (rV t) := by
  refine tt_of (L := [(0, vr l0), (1, vi l1)]) (by decide +kernel) (Nat.le_of_ble_eq_true rfl) rfl ?_
  show aX8_code E l 1 (m_sz μ, m_sl μ) 0 [(0, vr l0), (1, vi l1)] [] μ (rV t)
  unfold jX8_code at h
  refine a_aload_n 0 dX8_code_0 rfl rfl ?_
  refine a_getfr (c := 8) (i := 43) dX8_code_1 fRX8_121 g8_43 rfl hk ?_
  refine a_aload_n 0 dX8_code_4 rfl rfl ?_
  refine a_getfi (c := 8) (i := 44) dX8_code_5 fRX8_227 g8_44 rfl hk ?_
  refine a_iload_n 1 dX8_code_8 rfl rfl ?_
  refine a_iast dX8_code_9 h (fun μ1 hm h => ?_)
  have hk := hm.k hk (by decide)
  refine a_aload_n 0 dX8_code_10 rfl rfl ?_
  refine a_dup dX8_code_11 rfl ?_
  refine a_getfi (c := 8) (i := 44) dX8_code_12 fRX8_227 g8_44 rfl hk ?_
  refine a_iconst dX8_code_15 (okI_b _ rfl) ?_
  refine a_iadd dX8_code_16 ?_
  refine a_putfi (c := 8) (i := 44) dX8_code_17 fRX8_227 g8_44 (Or.inl rfl) rfl hk h (fun μ2 hm h => ?_)
  have hk := hm.k hk (by decide)
  exact a_ret0 dX8_code_20 h
-- X8_drops
abbrev aX8_drops (E : m_E) (l : Launch) (d : Nat) (z : Nat × Nat) (pc : Nat) (L : List (Nat × AV)) (st : List AV) (μ : Mm) (ρ : Option AV × Mm) : Prop := AA E l d z RX8 "drops" cX8_drops 1 none pc L st μ ρ
theorem tX8_drops (E : m_E) (l : Launch) (N : Nat) (l0 : Int) (μ : Mm) (t : Mm) (hk : m_kd μ l0 = (8, 0)) (h : jX8_drops N l0 μ = some t) : TT E l 2 yX8_drops cX8_drops 1 none [vr l0] μ (rV t) := by
  refine tt_of (L := [(0, vr l0)]) (by decide +kernel) (Nat.le_of_ble_eq_true rfl) rfl ?_
  show aX8_drops E l 2 (m_sz μ, m_sl μ) 0 [(0, vr l0)] [] μ (rV t)
  unfold jX8_drops at h
  refine a_aload_n 0 dX8_drops_0 rfl rfl ?_
  refine a_dup dX8_drops_1 rfl ?_
  refine a_getfi (c := 8) (i := 46) dX8_drops_2 fRX8_233 g8_46 rfl hk ?_
  refine a_iconst dX8_drops_5 (okI_b _ rfl) ?_
  refine a_isub dX8_drops_6 ?_
  refine a_putfi (c := 8) (i := 46) dX8_drops_7 fRX8_233 g8_46 (Or.inl rfl) rfl hk h (fun μ1 hm h => ?_)
  have hk := hm.k hk (by decide)
  refine a_aload_n 0 dX8_drops_10 rfl rfl ?_
  refine a_aload_n 0 dX8_drops_11 rfl rfl ?_
  refine a_getfr (c := 8) (i := 45) dX8_drops_12 fRX8_124 g8_45 rfl hk ?_
  refine a_aload_n 0 dX8_drops_15 rfl rfl ?_
  refine a_getfi (c := 8) (i := 46) dX8_drops_16 fRX8_233 g8_46 rfl hk ?_
  refine a_iald dX8_drops_19 h (fun x1 h => ?_)
  refine a_cVv (c := 8) [vi x1] [] dX8_drops_20 myX8_code mRX8_236 mvX8_code rfl (by decide) hk (fun _ hj => tX8_code E l N l0 x1 μ1 _ hk hj) (by decide) rfl (Nat.le_of_ble_eq_true rfl) h (fun μ2 hm h => ?_)
  have hk := hm.k hk (by decide)
  exact a_ret0 dX8_drops_23 h
-- X8_isMark
abbrev aX8_isMark (E : m_E) (l : Launch) (d : Nat) (z : Nat × Nat) (pc : Nat) (L : List (Nat × AV)) (st : List AV) (μ : Mm) (ρ : Option AV × Mm) : Prop := AA E l d z RX8 "isMark" cX8_isMark 2 (some .boolean) pc L st μ ρ
theorem tX8_isMark_17 (E : m_E) (l : Launch) (z : Nat × Nat) (N : Nat) (l0 s0 : Int) (μ : Mm) (t : Int × Mm) (hk : m_kd μ l0 = (8, 0)) (h : jX8_isMark_17 N l0 s0 μ = some t) : aX8_isMark E l 1 z 17 [(0, vr l0)] [vi s0] μ (rI t) := by
  unfold jX8_isMark_17 at h
  exact a_retz dX8_isMark_17 h
theorem tX8_isMark_16 (E : m_E) (l : Launch) (z : Nat × Nat) (N : Nat) (l0 : Int) (μ : Mm) (t : Int × Mm) (hk : m_kd μ l0 = (8, 0)) (h : jX8_isMark_16 N l0 μ = some t) : aX8_isMark E l 1 z 16 [(0, vr l0)] [] μ (rI t) := by
  unfold jX8_isMark_16 at h
  refine a_iconst dX8_isMark_16 (okI_b _ rfl) ?_
  exact a_sub [0] rfl (tX8_isMark_17 E l _ N l0 0 μ t hk h)
theorem tX8_isMark (E : m_E) (l : Launch) (N : Nat) (l0 l1 : Int) (μ : Mm) (t : Int × Mm) (hk : m_kd μ l0 = (8, 0)) (h : jX8_isMark N l0 l1 μ = some t) : TT E l 1 yX8_isMark cX8_isMark 2 (some .boolean) [vr l0, vi l1] μ (rI t) := by
  refine tt_of (L := [(0, vr l0), (1, vi l1)]) (by decide +kernel) (Nat.le_of_ble_eq_true rfl) rfl ?_
  show aX8_isMark E l 1 (m_sz μ, m_sl μ) 0 [(0, vr l0), (1, vi l1)] [] μ (rI t)
  unfold jX8_isMark at h
  refine a_iload_n 1 dX8_isMark_0 rfl rfl ?_
  refine a_bipush dX8_isMark_1 ⟨rfl, okI_b _ rfl⟩ ?_
  refine a_icmp_lt (tgt := 16) dX8_isMark_3 rfl h (fun h => ?_) (fun h => ?_)
  ·
    exact a_sub [0] rfl (tX8_isMark_16 E l _ N l0 μ t hk h)
  ·
    refine a_iload_n 1 dX8_isMark_6 rfl rfl ?_
    refine a_bipush dX8_isMark_7 ⟨rfl, okI_b _ rfl⟩ ?_
    refine a_icmp_gt (tgt := 16) dX8_isMark_9 rfl h (fun h => ?_) (fun h => ?_)
    ·
      exact a_sub [0] rfl (tX8_isMark_16 E l _ N l0 μ t hk h)
    ·
      refine a_iconst dX8_isMark_12 (okI_b _ rfl) ?_
      refine a_goto (tgt := 17) dX8_isMark_13 rfl ?_
      exact a_sub [0] rfl (tX8_isMark_17 E l _ N l0 1 μ t hk h)
-- X8_dropsToMark
abbrev aX8_dropsToMark (E : m_E) (l : Launch) (d : Nat) (z : Nat × Nat) (pc : Nat) (L : List (Nat × AV)) (st : List AV) (μ : Mm) (ρ : Option AV × Mm) : Prop := AA E l d z RX8 "dropsToMark" cX8_dropsToMark 1 none pc L st μ ρ
theorem tX8_dropsToMark_36 (E : m_E) (l : Launch) (z : Nat × Nat) (N : Nat) (l0 : Int) (μ : Mm) (t : Mm) (hk : m_kd μ l0 = (8, 0)) (h : jX8_dropsToMark_36 N l0 μ = some t) : aX8_dropsToMark E l 3 z 36 [(0, vr l0)] [] μ (rV t) := by
  unfold jX8_dropsToMark_36 at h
  exact a_ret0 dX8_dropsToMark_36 h
theorem tX8_dropsToMark_0b (E : m_E) (l : Launch) (z : Nat × Nat) (k0 : Int → Mm → Option (Mm)) (p0 : ∀ (l0 : Int) (μ : Mm) (t : Mm), m_kd μ l0 = (8, 0) → k0 l0 μ = some t → aX8_dropsToMark E l 3 z 0 [(0, vr l0)] [] μ (rV t)) (N : Nat) (l0 : Int) (μ : Mm) (t : Mm) (hk : m_kd μ l0 = (8, 0)) (h : jX8_dropsToMark_0b k0 N l0 μ = some t) : aX8_dropsToMark E l 3 z 0 [(0, vr l0)] [] μ (rV t) := by
  unfold jX8_dropsToMark_0b at h
  refine a_aload_n 0 dX8_dropsToMark_0 rfl rfl ?_
  refine a_getfi (c := 8) (i := 46) dX8_dropsToMark_1 fRX8_233 g8_46 rfl hk ?_
  refine a_aload_n 0 dX8_dropsToMark_4 rfl rfl ?_
  refine a_getfi (c := 8) (i := 49) dX8_dropsToMark_5 fRX8_240 g8_49 rfl hk ?_
  refine a_icmp_le (tgt := 36) dX8_dropsToMark_8 rfl h (fun h => ?_) (fun h => ?_)
  ·
    exact a_sub [0] rfl (tX8_dropsToMark_36 E l _ N l0 μ t hk h)
  ·
    refine a_aload_n 0 dX8_dropsToMark_11 rfl rfl ?_
    refine a_aload_n 0 dX8_dropsToMark_12 rfl rfl ?_
    refine a_getfr (c := 8) (i := 45) dX8_dropsToMark_13 fRX8_124 g8_45 rfl hk ?_
    refine a_aload_n 0 dX8_dropsToMark_16 rfl rfl ?_
    refine a_getfi (c := 8) (i := 46) dX8_dropsToMark_17 fRX8_233 g8_46 rfl hk ?_
    refine a_iconst dX8_dropsToMark_20 (okI_b _ rfl) ?_
    refine a_isub dX8_dropsToMark_21 ?_
    refine a_iald dX8_dropsToMark_22 h (fun x1 h => ?_)
    refine a_cVi (c := 8) [vi x1] [] dX8_dropsToMark_23 myX8_isMark mRX8_243 mvX8_isMark rfl (by decide) hk (fun _ hj => tX8_isMark E l N l0 x1 μ _ hk hj) (by decide) rfl (Nat.le_of_ble_eq_true rfl) h (fun x2 μ1 hm h => ?_)
    have hk := hm.k hk (by decide)
    refine a_if_ne (tgt := 36) dX8_dropsToMark_26 rfl h (fun h => ?_) (fun h => ?_)
    ·
      exact a_sub [0] rfl (tX8_dropsToMark_36 E l _ N l0 μ1 t hk h)
    ·
      refine a_aload_n 0 dX8_dropsToMark_29 rfl rfl ?_
      refine a_cVv (c := 8) [] [] dX8_dropsToMark_30 myX8_drops mRX8_246 mvX8_drops rfl (by decide) hk (fun _ hj => tX8_drops E l N l0 μ1 _ hk hj) (by decide) rfl (Nat.le_of_ble_eq_true rfl) h (fun μ2 hm h => ?_)
      have hk := hm.k hk (by decide)
      refine a_goto (tgt := 0) dX8_dropsToMark_33 rfl ?_
      exact a_sub [0] rfl (p0 l0 μ2 t hk h)
theorem tX8_dropsToMark_0 (E : m_E) (l : Launch) (z : Nat × Nat) (N : Nat) : ∀ (n : Nat) (l0 : Int) (μ : Mm) (t : Mm), m_kd μ l0 = (8, 0) → jX8_dropsToMark_0 N n l0 μ = some t → aX8_dropsToMark E l 3 z 0 [(0, vr l0)] [] μ (rV t)
  | 0, _, _, _, _, h => by cases h
  | n + 1, l0, μ, t, hk, h => tX8_dropsToMark_0b E l z (jX8_dropsToMark_0 N n) (tX8_dropsToMark_0 E l z N n) N l0 μ t hk h
theorem tX8_dropsToMark (E : m_E) (l : Launch) (N : Nat) (l0 : Int) (μ : Mm) (t : Mm) (hk : m_kd μ l0 = (8, 0)) (h : jX8_dropsToMark N l0 μ = some t) : TT E l 3 yX8_dropsToMark cX8_dropsToMark 1 none [vr l0] μ (rV t) := by
  refine tt_of (L := [(0, vr l0)]) (by decide +kernel) (Nat.le_of_ble_eq_true rfl) rfl ?_
  show aX8_dropsToMark E l 3 (m_sz μ, m_sl μ) 0 [(0, vr l0)] [] μ (rV t)
  unfold jX8_dropsToMark at h
  exact a_sub [0] rfl (tX8_dropsToMark_0 E l _ N N l0 μ t hk h)
-- X8_isOn
abbrev aX8_isOn (E : m_E) (l : Launch) (d : Nat) (z : Nat × Nat) (pc : Nat) (L : List (Nat × AV)) (st : List AV) (μ : Mm) (ρ : Option AV × Mm) : Prop := AA E l d z RX8 "isOn" cX8_isOn 2 (some .boolean) pc L st μ ρ
theorem tX8_isOn_27 (E : m_E) (l : Launch) (z : Nat × Nat) (N : Nat) (l0 s0 : Int) (μ : Mm) (t : Int × Mm) (hk : m_kd μ l0 = (8, 0)) (h : jX8_isOn_27 N l0 s0 μ = some t) : aX8_isOn E l 1 z 27 [(0, vr l0)] [vi s0] μ (rI t) := by
  unfold jX8_isOn_27 at h
  exact a_retz dX8_isOn_27 h
theorem tX8_isOn_26 (E : m_E) (l : Launch) (z : Nat × Nat) (N : Nat) (l0 : Int) (μ : Mm) (t : Int × Mm) (hk : m_kd μ l0 = (8, 0)) (h : jX8_isOn_26 N l0 μ = some t) : aX8_isOn E l 1 z 26 [(0, vr l0)] [] μ (rI t) := by
  unfold jX8_isOn_26 at h
  refine a_iconst dX8_isOn_26 (okI_b _ rfl) ?_
  exact a_sub [0] rfl (tX8_isOn_27 E l _ N l0 0 μ t hk h)
theorem tX8_isOn (E : m_E) (l : Launch) (N : Nat) (l0 l1 : Int) (μ : Mm) (t : Int × Mm) (hk : m_kd μ l0 = (8, 0)) (h : jX8_isOn N l0 l1 μ = some t) : TT E l 1 yX8_isOn cX8_isOn 2 (some .boolean) [vr l0, vi l1] μ (rI t) := by
  refine tt_of (L := [(0, vr l0), (1, vi l1)]) (by decide +kernel) (Nat.le_of_ble_eq_true rfl) rfl ?_
  show aX8_isOn E l 1 (m_sz μ, m_sl μ) 0 [(0, vr l0), (1, vi l1)] [] μ (rI t)
  unfold jX8_isOn at h
  refine a_aload_n 0 dX8_isOn_0 rfl rfl ?_
  refine a_getfi (c := 8) (i := 46) dX8_isOn_1 fRX8_233 g8_46 rfl hk ?_
  refine a_if_le (tgt := 26) dX8_isOn_4 rfl h (fun h => ?_) (fun h => ?_)
  ·
    exact a_sub [0] rfl (tX8_isOn_26 E l _ N l0 μ t hk h)
  ·
    refine a_aload_n 0 dX8_isOn_7 rfl rfl ?_
    refine a_getfr (c := 8) (i := 45) dX8_isOn_8 fRX8_124 g8_45 rfl hk ?_
    refine a_aload_n 0 dX8_isOn_11 rfl rfl ?_
    refine a_getfi (c := 8) (i := 46) dX8_isOn_12 fRX8_233 g8_46 rfl hk ?_
    refine a_iconst dX8_isOn_15 (okI_b _ rfl) ?_
    refine a_isub dX8_isOn_16 ?_
    refine a_iald dX8_isOn_17 h (fun x1 h => ?_)
    refine a_iload_n 1 dX8_isOn_18 rfl rfl ?_
    refine a_icmp_ne (tgt := 26) dX8_isOn_19 rfl h (fun h => ?_) (fun h => ?_)
    ·
      exact a_sub [0] rfl (tX8_isOn_26 E l _ N l0 μ t hk h)
    ·
      refine a_iconst dX8_isOn_22 (okI_b _ rfl) ?_
      refine a_goto (tgt := 27) dX8_isOn_23 rfl ?_
      exact a_sub [0] rfl (tX8_isOn_27 E l _ N l0 1 μ t hk h)
-- X8_mark
abbrev aX8_mark (E : m_E) (l : Launch) (d : Nat) (z : Nat × Nat) (pc : Nat) (L : List (Nat × AV)) (st : List AV) (μ : Mm) (ρ : Option AV × Mm) : Prop := AA E l d z RX8 "mark" cX8_mark 2 (some .int) pc L st μ ρ
theorem tX8_mark_52 (E : m_E) (l : Launch) (z : Nat × Nat) (N : Nat) (l0 s0 : Int) (μ : Mm) (t : Int × Mm) (hk : m_kd μ l0 = (8, 0)) (h : jX8_mark_52 N l0 s0 μ = some t) : aX8_mark E l 2 z 52 [(0, vr l0)] [vi s0] μ (rI t) := by
  unfold jX8_mark_52 at h
  exact a_reti dX8_mark_52 h
theorem tX8_mark_34 (E : m_E) (l : Launch) (z : Nat × Nat) (N : Nat) (l0 l1 : Int) (μ : Mm) (t : Int × Mm) (hk : m_kd μ l0 = (8, 0)) (h : jX8_mark_34 N l0 l1 μ = some t) : aX8_mark E l 2 z 34 [(0, vr l0), (1, vi l1)] [] μ (rI t) := by
  unfold jX8_mark_34 at h
  refine a_iload_n 1 dX8_mark_34 rfl rfl ?_
  refine a_aload_n 0 dX8_mark_35 rfl rfl ?_
  refine a_getfi (c := 8) (i := 49) dX8_mark_36 fRX8_240 g8_49 rfl hk ?_
  refine a_icmp_lt (tgt := 51) dX8_mark_39 rfl h (fun h => ?_) (fun h => ?_)
  ·
    refine a_iconst dX8_mark_51 (okI_b _ rfl) ?_
    exact a_sub [0] rfl (tX8_mark_52 E l _ N l0 (-1) μ t hk h)
  ·
    refine a_aload_n 0 dX8_mark_42 rfl rfl ?_
    refine a_getfr (c := 8) (i := 45) dX8_mark_43 fRX8_124 g8_45 rfl hk ?_
    refine a_iload_n 1 dX8_mark_46 rfl rfl ?_
    refine a_iald dX8_mark_47 h (fun x1 h => ?_)
    refine a_goto (tgt := 52) dX8_mark_48 rfl ?_
    exact a_sub [0] rfl (tX8_mark_52 E l _ N l0 x1 μ t hk h)
theorem tX8_mark_7b (E : m_E) (l : Launch) (z : Nat × Nat) (k7 : Int → Int → Mm → Option (Int × Mm)) (p7 : ∀ (l0 l1 : Int) (μ : Mm) (t : Int × Mm), m_kd μ l0 = (8, 0) → k7 l0 l1 μ = some t → aX8_mark E l 2 z 7 [(0, vr l0), (1, vi l1)] [] μ (rI t)) (N : Nat) (l0 l1 : Int) (μ : Mm) (t : Int × Mm) (hk : m_kd μ l0 = (8, 0)) (h : jX8_mark_7b k7 N l0 l1 μ = some t) : aX8_mark E l 2 z 7 [(0, vr l0), (1, vi l1)] [] μ (rI t) := by
  unfold jX8_mark_7b at h
  refine a_iload_n 1 dX8_mark_7 rfl rfl ?_
  refine a_aload_n 0 dX8_mark_8 rfl rfl ?_
  refine a_getfi (c := 8) (i := 49) dX8_mark_9 fRX8_240 g8_49 rfl hk ?_
  refine a_icmp_lt (tgt := 34) dX8_mark_12 rfl h (fun h => ?_) (fun h => ?_)
  ·
    exact a_sub [0, 1] rfl (tX8_mark_34 E l _ N l0 l1 μ t hk h)
  ·
    refine a_aload_n 0 dX8_mark_15 rfl rfl ?_
    refine a_aload_n 0 dX8_mark_16 rfl rfl ?_
    refine a_getfr (c := 8) (i := 45) dX8_mark_17 fRX8_124 g8_45 rfl hk ?_
    refine a_iload_n 1 dX8_mark_20 rfl rfl ?_
    refine a_iald dX8_mark_21 h (fun x1 h => ?_)
    refine a_cVi (c := 8) [vi x1] [] dX8_mark_22 myX8_isMark mRX8_243 mvX8_isMark rfl (by decide) hk (fun _ hj => tX8_isMark E l N l0 x1 μ _ hk hj) (by decide) rfl (Nat.le_of_ble_eq_true rfl) h (fun x2 μ1 hm h => ?_)
    have hk := hm.k hk (by decide)
    refine a_if_ne (tgt := 34) dX8_mark_25 rfl h (fun h => ?_) (fun h => ?_)
    ·
      exact a_sub [0, 1] rfl (tX8_mark_34 E l _ N l0 l1 μ1 t hk h)
    ·
      refine a_iinc (F := fun x3 => [(1, vi x3), (0, vr l0)]) 1 dX8_mark_28 rfl (by decide) h (fun _ => rfl) (fun x3 h => ?_)
      refine a_goto (tgt := 7) dX8_mark_31 rfl ?_
      exact a_sub [1, 0] rfl (p7 l0 x3 μ1 t hk h)
theorem tX8_mark_7 (E : m_E) (l : Launch) (z : Nat × Nat) (N : Nat) : ∀ (n : Nat) (l0 l1 : Int) (μ : Mm) (t : Int × Mm), m_kd μ l0 = (8, 0) → jX8_mark_7 N n l0 l1 μ = some t → aX8_mark E l 2 z 7 [(0, vr l0), (1, vi l1)] [] μ (rI t)
  | 0, _, _, _, _, _, h => by cases h
  | n + 1, l0, l1, μ, t, hk, h => tX8_mark_7b E l z (jX8_mark_7 N n) (tX8_mark_7 E l z N n) N l0 l1 μ t hk h
theorem tX8_mark (E : m_E) (l : Launch) (N : Nat) (l0 : Int) (μ : Mm) (t : Int × Mm) (hk : m_kd μ l0 = (8, 0)) (h : jX8_mark N l0 μ = some t) : TT E l 2 yX8_mark cX8_mark 2 (some .int) [vr l0] μ (rI t) := by
  refine tt_of (L := [(0, vr l0)]) (by decide +kernel) (Nat.le_of_ble_eq_true rfl) rfl ?_
  show aX8_mark E l 2 (m_sz μ, m_sl μ) 0 [(0, vr l0)] [] μ (rI t)
  unfold jX8_mark at h
  refine a_aload_n 0 dX8_mark_0 rfl rfl ?_
  refine a_getfi (c := 8) (i := 46) dX8_mark_1 fRX8_233 g8_46 rfl hk ?_
  refine a_iconst dX8_mark_4 (okI_b _ rfl) ?_
  refine a_isub dX8_mark_5 ?_
  refine a_nmi h (fun x1 h => ?_)
  refine a_istore_n (L' := [(1, vi x1), (0, vr l0)]) dX8_mark_6 rfl (by decide) rfl ?_
  exact a_sub [1, 0] rfl (tX8_mark_7 E l _ N N l0 x1 μ t hk h)
-- X8_goesOn
abbrev aX8_goesOn (E : m_E) (l : Launch) (d : Nat) (z : Nat × Nat) (pc : Nat) (L : List (Nat × AV)) (st : List AV) (μ : Mm) (ρ : Option AV × Mm) : Prop := AA E l d z RX8 "goesOn" cX8_goesOn 2 (some .boolean) pc L st μ ρ
theorem tX8_goesOn_382 (E : m_E) (l : Launch) (z : Nat × Nat) (N : Nat) (l0 : Int) (μ : Mm) (t : Int × Mm) (hk : m_kd μ l0 = (8, 0)) (h : jX8_goesOn_382 N l0 μ = some t) : aX8_goesOn E l 4 z 382 [(0, vr l0)] [] μ (rI t) := by
  unfold jX8_goesOn_382 at h
  refine a_iconst dX8_goesOn_382 (okI_b _ rfl) ?_
  exact a_retzl (Or.inl rfl) dX8_goesOn_383 h
theorem tX8_goesOn_322 (E : m_E) (l : Launch) (z : Nat × Nat) (N : Nat) (l0 : Int) (μ : Mm) (t : Int × Mm) (hk : m_kd μ l0 = (8, 0)) (h : jX8_goesOn_322 N l0 μ = some t) : aX8_goesOn E l 4 z 322 [(0, vr l0)] [] μ (rI t) := by
  unfold jX8_goesOn_322 at h
  refine a_aload_n 0 dX8_goesOn_322 rfl rfl ?_
  refine a_bipush dX8_goesOn_323 ⟨rfl, okI_b _ rfl⟩ ?_
  refine a_cVv (c := 8) [vi 44] [] dX8_goesOn_325 myX8_asksSign mRX8_256 mvX8_asksSign rfl (by decide) hk (fun _ hj => tX8_asksSign E l N l0 44 μ _ hk hj) (by decide) rfl (Nat.le_of_ble_eq_true rfl) h (fun μ1 hm h => ?_)
  have hk := hm.k hk (by decide)
  refine a_aload_n 0 dX8_goesOn_328 rfl rfl ?_
  refine a_getfi (c := 8) (i := 5) dX8_goesOn_329 fRX8_183 g8_5 rfl hk ?_
  refine a_if_eq (tgt := 337) dX8_goesOn_332 rfl h (fun h => ?_) (fun h => ?_)
  ·
    refine a_aload_n 0 dX8_goesOn_337 rfl rfl ?_
    refine a_cVv (c := 8) [] [] dX8_goesOn_338 myX8_dropsToMark mRX8_266 mvX8_dropsToMark rfl (by decide) hk (fun _ hj => tX8_dropsToMark E l N l0 μ1 _ hk hj) (by decide) rfl (Nat.le_of_ble_eq_true rfl) h (fun μ2 hm h => ?_)
    have hk := hm.k hk (by decide)
    refine a_aload_n 0 dX8_goesOn_341 rfl rfl ?_
    refine a_getfr (c := 8) (i := 45) dX8_goesOn_342 fRX8_124 g8_45 rfl hk ?_
    refine a_aload_n 0 dX8_goesOn_345 rfl rfl ?_
    refine a_getfi (c := 8) (i := 46) dX8_goesOn_346 fRX8_233 g8_46 rfl hk ?_
    refine a_iconst dX8_goesOn_349 (okI_b _ rfl) ?_
    refine a_isub dX8_goesOn_350 ?_
    refine a_dup2 dX8_goesOn_351 rfl rfl ?_
    refine a_iald dX8_goesOn_352 h (fun x1 h => ?_)
    refine a_iconst dX8_goesOn_353 (okI_b _ rfl) ?_
    refine a_iadd dX8_goesOn_354 ?_
    refine a_iast dX8_goesOn_355 h (fun μ3 hm h => ?_)
    have hk := hm.k hk (by decide)
    refine a_iconst dX8_goesOn_356 (okI_b _ rfl) ?_
    exact a_retzl (Or.inr rfl) dX8_goesOn_357 h
  ·
    refine a_iconst dX8_goesOn_335 (okI_b _ rfl) ?_
    exact a_retzl (Or.inl rfl) dX8_goesOn_336 h
theorem tX8_goesOn_275 (E : m_E) (l : Launch) (z : Nat × Nat) (k243 : Int → Int → Mm → Option (Int × Mm)) (p243 : ∀ (l0 l1 : Int) (μ : Mm) (t : Int × Mm), m_kd μ l0 = (8, 0) → k243 l0 l1 μ = some t → aX8_goesOn E l 4 z 243 [(0, vr l0), (1, vi l1)] [] μ (rI t)) (N : Nat) (l0 l1 : Int) (μ : Mm) (t : Int × Mm) (hk : m_kd μ l0 = (8, 0)) (h : jX8_goesOn_275 k243 N l0 l1 μ = some t) : aX8_goesOn E l 4 z 275 [(0, vr l0), (1, vi l1)] [] μ (rI t) := by
  unfold jX8_goesOn_275 at h
  refine a_aload_n 0 dX8_goesOn_275 rfl rfl ?_
  refine a_cVv (c := 8) [] [] dX8_goesOn_276 myX8_drops mRX8_246 mvX8_drops rfl (by decide) hk (fun _ hj => tX8_drops E l N l0 μ _ hk hj) (by decide) rfl (Nat.le_of_ble_eq_true rfl) h (fun μ1 hm h => ?_)
  have hk := hm.k hk (by decide)
  refine a_goto (tgt := 243) dX8_goesOn_279 rfl ?_
  exact a_sub [0, 1] rfl (p243 l0 l1 μ1 t hk h)
theorem tX8_goesOn_243b (E : m_E) (l : Launch) (z : Nat × Nat) (k243 : Int → Int → Mm → Option (Int × Mm)) (p243 : ∀ (l0 l1 : Int) (μ : Mm) (t : Int × Mm), m_kd μ l0 = (8, 0) → k243 l0 l1 μ = some t → aX8_goesOn E l 4 z 243 [(0, vr l0), (1, vi l1)] [] μ (rI t)) (N : Nat) (l0 l1 : Int) (μ : Mm) (t : Int × Mm) (hk : m_kd μ l0 = (8, 0)) (h : jX8_goesOn_243b k243 N l0 l1 μ = some t) : aX8_goesOn E l 4 z 243 [(0, vr l0), (1, vi l1)] [] μ (rI t) := by
  unfold jX8_goesOn_243b at h
  refine a_aload_n 0 dX8_goesOn_243 rfl rfl ?_
  refine a_iconst dX8_goesOn_244 (okI_b _ rfl) ?_
  refine a_cVi (c := 8) [vi 3] [] dX8_goesOn_245 myX8_isOn mRX8_269 mvX8_isOn rfl (by decide) hk (fun _ hj => tX8_isOn E l N l0 3 μ _ hk hj) (by decide) rfl (Nat.le_of_ble_eq_true rfl) h (fun x1 μ1 hm h => ?_)
  have hk := hm.k hk (by decide)
  refine a_if_ne (tgt := 275) dX8_goesOn_248 rfl h (fun h => ?_) (fun h => ?_)
  ·
    exact a_sub [0, 1] rfl (tX8_goesOn_275 E l _ k243 p243 N l0 l1 μ1 t hk h)
  ·
    refine a_aload_n 0 dX8_goesOn_251 rfl rfl ?_
    refine a_iconst dX8_goesOn_252 (okI_b _ rfl) ?_
    refine a_cVi (c := 8) [vi 4] [] dX8_goesOn_253 myX8_isOn mRX8_269 mvX8_isOn rfl (by decide) hk (fun _ hj => tX8_isOn E l N l0 4 μ1 _ hk hj) (by decide) rfl (Nat.le_of_ble_eq_true rfl) h (fun x2 μ2 hm h => ?_)
    have hk := hm.k hk (by decide)
    refine a_if_ne (tgt := 275) dX8_goesOn_256 rfl h (fun h => ?_) (fun h => ?_)
    ·
      exact a_sub [0, 1] rfl (tX8_goesOn_275 E l _ k243 p243 N l0 l1 μ2 t hk h)
    ·
      refine a_aload_n 0 dX8_goesOn_259 rfl rfl ?_
      refine a_iconst dX8_goesOn_260 (okI_b _ rfl) ?_
      refine a_cVi (c := 8) [vi 1] [] dX8_goesOn_261 myX8_isOn mRX8_269 mvX8_isOn rfl (by decide) hk (fun _ hj => tX8_isOn E l N l0 1 μ2 _ hk hj) (by decide) rfl (Nat.le_of_ble_eq_true rfl) h (fun x3 μ3 hm h => ?_)
      have hk := hm.k hk (by decide)
      refine a_if_ne (tgt := 275) dX8_goesOn_264 rfl h (fun h => ?_) (fun h => ?_)
      ·
        exact a_sub [0, 1] rfl (tX8_goesOn_275 E l _ k243 p243 N l0 l1 μ3 t hk h)
      ·
        refine a_aload_n 0 dX8_goesOn_267 rfl rfl ?_
        refine a_iconst dX8_goesOn_268 (okI_b _ rfl) ?_
        refine a_cVi (c := 8) [vi 2] [] dX8_goesOn_269 myX8_isOn mRX8_269 mvX8_isOn rfl (by decide) hk (fun _ hj => tX8_isOn E l N l0 2 μ3 _ hk hj) (by decide) rfl (Nat.le_of_ble_eq_true rfl) h (fun x4 μ4 hm h => ?_)
        have hk := hm.k hk (by decide)
        refine a_if_eq (tgt := 282) dX8_goesOn_272 rfl h (fun h => ?_) (fun h => ?_)
        ·
          refine a_aload_n 0 dX8_goesOn_282 rfl rfl ?_
          refine a_getfr (c := 8) (i := 45) dX8_goesOn_283 fRX8_124 g8_45 rfl hk ?_
          refine a_aload_n 0 dX8_goesOn_286 rfl rfl ?_
          refine a_getfi (c := 8) (i := 46) dX8_goesOn_287 fRX8_233 g8_46 rfl hk ?_
          refine a_iload_n 1 dX8_goesOn_290 rfl rfl ?_
          refine a_iast dX8_goesOn_291 h (fun μ5 hm h => ?_)
          have hk := hm.k hk (by decide)
          refine a_aload_n 0 dX8_goesOn_292 rfl rfl ?_
          refine a_dup dX8_goesOn_293 rfl ?_
          refine a_getfi (c := 8) (i := 46) dX8_goesOn_294 fRX8_233 g8_46 rfl hk ?_
          refine a_iconst dX8_goesOn_297 (okI_b _ rfl) ?_
          refine a_iadd dX8_goesOn_298 ?_
          refine a_putfi (c := 8) (i := 46) dX8_goesOn_299 fRX8_233 g8_46 (Or.inl rfl) rfl hk h (fun μ6 hm h => ?_)
          have hk := hm.k hk (by decide)
          refine a_iconst dX8_goesOn_302 (okI_b _ rfl) ?_
          exact a_retzl (Or.inr rfl) dX8_goesOn_303 h
        ·
          exact a_sub [0, 1] rfl (tX8_goesOn_275 E l _ k243 p243 N l0 l1 μ4 t hk h)
theorem tX8_goesOn_243 (E : m_E) (l : Launch) (z : Nat × Nat) (N : Nat) : ∀ (n : Nat) (l0 l1 : Int) (μ : Mm) (t : Int × Mm), m_kd μ l0 = (8, 0) → jX8_goesOn_243 N n l0 l1 μ = some t → aX8_goesOn E l 4 z 243 [(0, vr l0), (1, vi l1)] [] μ (rI t)
  | 0, _, _, _, _, _, h => by cases h
  | n + 1, l0, l1, μ, t, hk, h => tX8_goesOn_243b E l z (jX8_goesOn_243 N n) (tX8_goesOn_243 E l z N n) N l0 l1 μ t hk h
theorem tX8_goesOn_242 (E : m_E) (l : Launch) (z : Nat × Nat) (N : Nat) (l0 s0 : Int) (μ : Mm) (t : Int × Mm) (hk : m_kd μ l0 = (8, 0)) (h : jX8_goesOn_242 N l0 s0 μ = some t) : aX8_goesOn E l 4 z 242 [(0, vr l0)] [vi s0] μ (rI t) := by
  unfold jX8_goesOn_242 at h
  refine a_istore_n (L' := [(1, vi s0), (0, vr l0)]) dX8_goesOn_242 rfl (by decide) rfl ?_
  exact a_sub [1, 0] rfl (tX8_goesOn_243 E l _ N N l0 s0 μ t hk h)
theorem tX8_goesOn_221 (E : m_E) (l : Launch) (z : Nat × Nat) (N : Nat) (l0 : Int) (μ : Mm) (t : Int × Mm) (hk : m_kd μ l0 = (8, 0)) (h : jX8_goesOn_221 N l0 μ = some t) : aX8_goesOn E l 4 z 221 [(0, vr l0)] [] μ (rI t) := by
  unfold jX8_goesOn_221 at h
  refine a_aload_n 0 dX8_goesOn_221 rfl rfl ?_
  refine a_getfr (c := 8) (i := 0) dX8_goesOn_222 fRX8_7 g8_0 rfl hk ?_
  refine a_aload_n 0 dX8_goesOn_225 rfl rfl ?_
  refine a_getfi (c := 8) (i := 2) dX8_goesOn_226 fRX8_189 g8_2 rfl hk ?_
  refine a_iconst dX8_goesOn_229 (okI_b _ rfl) ?_
  refine a_isub dX8_goesOn_230 ?_
  refine a_iald dX8_goesOn_231 h (fun x1 h => ?_)
  refine a_bipush dX8_goesOn_232 ⟨rfl, okI_b _ rfl⟩ ?_
  refine a_icmp_ne (tgt := 241) dX8_goesOn_234 rfl h (fun h => ?_) (fun h => ?_)
  ·
    refine a_iconst dX8_goesOn_241 (okI_b _ rfl) ?_
    exact a_sub [0] rfl (tX8_goesOn_242 E l _ N l0 2 μ t hk h)
  ·
    refine a_iconst dX8_goesOn_237 (okI_b _ rfl) ?_
    refine a_goto (tgt := 242) dX8_goesOn_238 rfl ?_
    exact a_sub [0] rfl (tX8_goesOn_242 E l _ N l0 1 μ t hk h)
theorem tX8_goesOn_174 (E : m_E) (l : Launch) (z : Nat × Nat) (k158 : Int → Int → Mm → Option (Int × Mm)) (p158 : ∀ (l0 l1 : Int) (μ : Mm) (t : Int × Mm), m_kd μ l0 = (8, 0) → k158 l0 l1 μ = some t → aX8_goesOn E l 4 z 158 [(0, vr l0), (1, vi l1)] [] μ (rI t)) (N : Nat) (l0 l1 : Int) (μ : Mm) (t : Int × Mm) (hk : m_kd μ l0 = (8, 0)) (h : jX8_goesOn_174 k158 N l0 l1 μ = some t) : aX8_goesOn E l 4 z 174 [(0, vr l0), (1, vi l1)] [] μ (rI t) := by
  unfold jX8_goesOn_174 at h
  refine a_aload_n 0 dX8_goesOn_174 rfl rfl ?_
  refine a_cVv (c := 8) [] [] dX8_goesOn_175 myX8_drops mRX8_246 mvX8_drops rfl (by decide) hk (fun _ hj => tX8_drops E l N l0 μ _ hk hj) (by decide) rfl (Nat.le_of_ble_eq_true rfl) h (fun μ1 hm h => ?_)
  have hk := hm.k hk (by decide)
  refine a_goto (tgt := 158) dX8_goesOn_178 rfl ?_
  exact a_sub [0, 1] rfl (p158 l0 l1 μ1 t hk h)
theorem tX8_goesOn_158b (E : m_E) (l : Launch) (z : Nat × Nat) (k158 : Int → Int → Mm → Option (Int × Mm)) (p158 : ∀ (l0 l1 : Int) (μ : Mm) (t : Int × Mm), m_kd μ l0 = (8, 0) → k158 l0 l1 μ = some t → aX8_goesOn E l 4 z 158 [(0, vr l0), (1, vi l1)] [] μ (rI t)) (N : Nat) (l0 l1 : Int) (μ : Mm) (t : Int × Mm) (hk : m_kd μ l0 = (8, 0)) (h : jX8_goesOn_158b k158 N l0 l1 μ = some t) : aX8_goesOn E l 4 z 158 [(0, vr l0), (1, vi l1)] [] μ (rI t) := by
  unfold jX8_goesOn_158b at h
  refine a_aload_n 0 dX8_goesOn_158 rfl rfl ?_
  refine a_iconst dX8_goesOn_159 (okI_b _ rfl) ?_
  refine a_cVi (c := 8) [vi 3] [] dX8_goesOn_160 myX8_isOn mRX8_269 mvX8_isOn rfl (by decide) hk (fun _ hj => tX8_isOn E l N l0 3 μ _ hk hj) (by decide) rfl (Nat.le_of_ble_eq_true rfl) h (fun x1 μ1 hm h => ?_)
  have hk := hm.k hk (by decide)
  refine a_if_ne (tgt := 174) dX8_goesOn_163 rfl h (fun h => ?_) (fun h => ?_)
  ·
    exact a_sub [0, 1] rfl (tX8_goesOn_174 E l _ k158 p158 N l0 l1 μ1 t hk h)
  ·
    refine a_aload_n 0 dX8_goesOn_166 rfl rfl ?_
    refine a_iconst dX8_goesOn_167 (okI_b _ rfl) ?_
    refine a_cVi (c := 8) [vi 4] [] dX8_goesOn_168 myX8_isOn mRX8_269 mvX8_isOn rfl (by decide) hk (fun _ hj => tX8_isOn E l N l0 4 μ1 _ hk hj) (by decide) rfl (Nat.le_of_ble_eq_true rfl) h (fun x2 μ2 hm h => ?_)
    have hk := hm.k hk (by decide)
    refine a_if_eq (tgt := 181) dX8_goesOn_171 rfl h (fun h => ?_) (fun h => ?_)
    ·
      refine a_aload_n 0 dX8_goesOn_181 rfl rfl ?_
      refine a_getfr (c := 8) (i := 45) dX8_goesOn_182 fRX8_124 g8_45 rfl hk ?_
      refine a_aload_n 0 dX8_goesOn_185 rfl rfl ?_
      refine a_getfi (c := 8) (i := 46) dX8_goesOn_186 fRX8_233 g8_46 rfl hk ?_
      refine a_iload_n 1 dX8_goesOn_189 rfl rfl ?_
      refine a_iast dX8_goesOn_190 h (fun μ3 hm h => ?_)
      have hk := hm.k hk (by decide)
      refine a_aload_n 0 dX8_goesOn_191 rfl rfl ?_
      refine a_dup dX8_goesOn_192 rfl ?_
      refine a_getfi (c := 8) (i := 46) dX8_goesOn_193 fRX8_233 g8_46 rfl hk ?_
      refine a_iconst dX8_goesOn_196 (okI_b _ rfl) ?_
      refine a_iadd dX8_goesOn_197 ?_
      refine a_putfi (c := 8) (i := 46) dX8_goesOn_198 fRX8_233 g8_46 (Or.inl rfl) rfl hk h (fun μ4 hm h => ?_)
      have hk := hm.k hk (by decide)
      refine a_iconst dX8_goesOn_201 (okI_b _ rfl) ?_
      exact a_retzl (Or.inr rfl) dX8_goesOn_202 h
    ·
      exact a_sub [0, 1] rfl (tX8_goesOn_174 E l _ k158 p158 N l0 l1 μ2 t hk h)
theorem tX8_goesOn_158 (E : m_E) (l : Launch) (z : Nat × Nat) (N : Nat) : ∀ (n : Nat) (l0 l1 : Int) (μ : Mm) (t : Int × Mm), m_kd μ l0 = (8, 0) → jX8_goesOn_158 N n l0 l1 μ = some t → aX8_goesOn E l 4 z 158 [(0, vr l0), (1, vi l1)] [] μ (rI t)
  | 0, _, _, _, _, _, h => by cases h
  | n + 1, l0, l1, μ, t, hk, h => tX8_goesOn_158b E l z (jX8_goesOn_158 N n) (tX8_goesOn_158 E l z N n) N l0 l1 μ t hk h
theorem tX8_goesOn_157 (E : m_E) (l : Launch) (z : Nat × Nat) (N : Nat) (l0 s0 : Int) (μ : Mm) (t : Int × Mm) (hk : m_kd μ l0 = (8, 0)) (h : jX8_goesOn_157 N l0 s0 μ = some t) : aX8_goesOn E l 4 z 157 [(0, vr l0)] [vi s0] μ (rI t) := by
  unfold jX8_goesOn_157 at h
  refine a_istore_n (L' := [(1, vi s0), (0, vr l0)]) dX8_goesOn_157 rfl (by decide) rfl ?_
  exact a_sub [1, 0] rfl (tX8_goesOn_158 E l _ N N l0 s0 μ t hk h)
theorem tX8_goesOn_136 (E : m_E) (l : Launch) (z : Nat × Nat) (N : Nat) (l0 : Int) (μ : Mm) (t : Int × Mm) (hk : m_kd μ l0 = (8, 0)) (h : jX8_goesOn_136 N l0 μ = some t) : aX8_goesOn E l 4 z 136 [(0, vr l0)] [] μ (rI t) := by
  unfold jX8_goesOn_136 at h
  refine a_aload_n 0 dX8_goesOn_136 rfl rfl ?_
  refine a_getfr (c := 8) (i := 0) dX8_goesOn_137 fRX8_7 g8_0 rfl hk ?_
  refine a_aload_n 0 dX8_goesOn_140 rfl rfl ?_
  refine a_getfi (c := 8) (i := 2) dX8_goesOn_141 fRX8_189 g8_2 rfl hk ?_
  refine a_iconst dX8_goesOn_144 (okI_b _ rfl) ?_
  refine a_isub dX8_goesOn_145 ?_
  refine a_iald dX8_goesOn_146 h (fun x1 h => ?_)
  refine a_bipush dX8_goesOn_147 ⟨rfl, okI_b _ rfl⟩ ?_
  refine a_icmp_ne (tgt := 156) dX8_goesOn_149 rfl h (fun h => ?_) (fun h => ?_)
  ·
    refine a_iconst dX8_goesOn_156 (okI_b _ rfl) ?_
    exact a_sub [0] rfl (tX8_goesOn_157 E l _ N l0 4 μ t hk h)
  ·
    refine a_iconst dX8_goesOn_152 (okI_b _ rfl) ?_
    refine a_goto (tgt := 157) dX8_goesOn_153 rfl ?_
    exact a_sub [0] rfl (tX8_goesOn_157 E l _ N l0 3 μ t hk h)
theorem tX8_goesOn_118 (E : m_E) (l : Launch) (z : Nat × Nat) (N : Nat) (l0 : Int) (μ : Mm) (t : Int × Mm) (hk : m_kd μ l0 = (8, 0)) (h : jX8_goesOn_118 N l0 μ = some t) : aX8_goesOn E l 4 z 118 [(0, vr l0)] [] μ (rI t) := by
  unfold jX8_goesOn_118 at h
  refine a_aload_n 0 dX8_goesOn_118 rfl rfl ?_
  refine a_bipush dX8_goesOn_119 ⟨rfl, okI_b _ rfl⟩ ?_
  refine a_cVi (c := 8) [vi 42] [] dX8_goesOn_121 myX8_takesSign mRX8_217 mvX8_takesSign rfl (by decide) hk (fun _ hj => tX8_takesSign E l N l0 42 μ _ hk hj) (by decide) rfl (Nat.le_of_ble_eq_true rfl) h (fun x1 μ1 hm h => ?_)
  have hk := hm.k hk (by decide)
  refine a_if_ne (tgt := 136) dX8_goesOn_124 rfl h (fun h => ?_) (fun h => ?_)
  ·
    exact a_sub [0] rfl (tX8_goesOn_136 E l _ N l0 μ1 t hk h)
  ·
    refine a_aload_n 0 dX8_goesOn_127 rfl rfl ?_
    refine a_bipush dX8_goesOn_128 ⟨rfl, okI_b _ rfl⟩ ?_
    refine a_cVi (c := 8) [vi 47] [] dX8_goesOn_130 myX8_takesSign mRX8_217 mvX8_takesSign rfl (by decide) hk (fun _ hj => tX8_takesSign E l N l0 47 μ1 _ hk hj) (by decide) rfl (Nat.le_of_ble_eq_true rfl) h (fun x2 μ2 hm h => ?_)
    have hk := hm.k hk (by decide)
    refine a_if_eq (tgt := 203) dX8_goesOn_133 rfl h (fun h => ?_) (fun h => ?_)
    ·
      refine a_aload_n 0 dX8_goesOn_203 rfl rfl ?_
      refine a_bipush dX8_goesOn_204 ⟨rfl, okI_b _ rfl⟩ ?_
      refine a_cVi (c := 8) [vi 43] [] dX8_goesOn_206 myX8_takesSign mRX8_217 mvX8_takesSign rfl (by decide) hk (fun _ hj => tX8_takesSign E l N l0 43 μ2 _ hk hj) (by decide) rfl (Nat.le_of_ble_eq_true rfl) h (fun x3 μ3 hm h => ?_)
      have hk := hm.k hk (by decide)
      refine a_if_ne (tgt := 221) dX8_goesOn_209 rfl h (fun h => ?_) (fun h => ?_)
      ·
        exact a_sub [0] rfl (tX8_goesOn_221 E l _ N l0 μ3 t hk h)
      ·
        refine a_aload_n 0 dX8_goesOn_212 rfl rfl ?_
        refine a_bipush dX8_goesOn_213 ⟨rfl, okI_b _ rfl⟩ ?_
        refine a_cVi (c := 8) [vi 45] [] dX8_goesOn_215 myX8_takesSign mRX8_217 mvX8_takesSign rfl (by decide) hk (fun _ hj => tX8_takesSign E l N l0 45 μ3 _ hk hj) (by decide) rfl (Nat.le_of_ble_eq_true rfl) h (fun x4 μ4 hm h => ?_)
        have hk := hm.k hk (by decide)
        refine a_if_eq (tgt := 304) dX8_goesOn_218 rfl h (fun h => ?_) (fun h => ?_)
        ·
          refine a_aload_n 0 dX8_goesOn_304 rfl rfl ?_
          refine a_cVi (c := 8) [] [] dX8_goesOn_305 myX8_mark mRX8_263 mvX8_mark rfl (by decide) hk (fun _ hj => tX8_mark E l N l0 μ4 _ hk hj) (by decide) rfl (Nat.le_of_ble_eq_true rfl) h (fun x5 μ5 hm h => ?_)
          have hk := hm.k hk (by decide)
          refine a_bipush dX8_goesOn_308 ⟨rfl, okI_b _ rfl⟩ ?_
          refine a_icmp_eq (tgt := 322) dX8_goesOn_310 rfl h (fun h => ?_) (fun h => ?_)
          ·
            exact a_sub [0] rfl (tX8_goesOn_322 E l _ N l0 μ5 t hk h)
          ·
            refine a_aload_n 0 dX8_goesOn_313 rfl rfl ?_
            refine a_cVi (c := 8) [] [] dX8_goesOn_314 myX8_mark mRX8_263 mvX8_mark rfl (by decide) hk (fun _ hj => tX8_mark E l N l0 μ5 _ hk hj) (by decide) rfl (Nat.le_of_ble_eq_true rfl) h (fun x6 μ6 hm h => ?_)
            have hk := hm.k hk (by decide)
            refine a_bipush dX8_goesOn_317 ⟨rfl, okI_b _ rfl⟩ ?_
            refine a_icmp_ne (tgt := 358) dX8_goesOn_319 rfl h (fun h => ?_) (fun h => ?_)
            ·
              refine a_aload_n 0 dX8_goesOn_358 rfl rfl ?_
              refine a_cVi (c := 8) [] [] dX8_goesOn_359 myX8_mark mRX8_263 mvX8_mark rfl (by decide) hk (fun _ hj => tX8_mark E l N l0 μ6 _ hk hj) (by decide) rfl (Nat.le_of_ble_eq_true rfl) h (fun x7 μ7 hm h => ?_)
              have hk := hm.k hk (by decide)
              refine a_iconst dX8_goesOn_362 (okI_b _ rfl) ?_
              refine a_icmp_eq (tgt := 382) dX8_goesOn_363 rfl h (fun h => ?_) (fun h => ?_)
              ·
                exact a_sub [0] rfl (tX8_goesOn_382 E l _ N l0 μ7 t hk h)
              ·
                refine a_aload_n 0 dX8_goesOn_366 rfl rfl ?_
                refine a_getfi (c := 8) (i := 5) dX8_goesOn_367 fRX8_183 g8_5 rfl hk ?_
                refine a_if_ne (tgt := 382) dX8_goesOn_370 rfl h (fun h => ?_) (fun h => ?_)
                ·
                  exact a_sub [0] rfl (tX8_goesOn_382 E l _ N l0 μ7 t hk h)
                ·
                  refine a_aload_n 0 dX8_goesOn_373 rfl rfl ?_
                  refine a_iconst dX8_goesOn_374 (okI_b _ rfl) ?_
                  refine a_aload_n 0 dX8_goesOn_375 rfl rfl ?_
                  refine a_getfi (c := 8) (i := 2) dX8_goesOn_376 fRX8_189 g8_2 rfl hk ?_
                  refine a_cVv (c := 8) [vi 1, vi (m_gt μ7 l0 2)] [] dX8_goesOn_379 myX8_fail mRX8_213 mvX8_fail rfl (by decide) hk (fun _ hj => tX8_fail E l N l0 1 (m_gt μ7 l0 2) μ7 _ hk hj) (by decide) rfl (Nat.le_of_ble_eq_true rfl) h (fun μ8 hm h => ?_)
                  have hk := hm.k hk (by decide)
                  exact a_sub [0] rfl (tX8_goesOn_382 E l _ N l0 μ8 t hk h)
            ·
              exact a_sub [0] rfl (tX8_goesOn_322 E l _ N l0 μ6 t hk h)
        ·
          exact a_sub [0] rfl (tX8_goesOn_221 E l _ N l0 μ4 t hk h)
    ·
      exact a_sub [0] rfl (tX8_goesOn_136 E l _ N l0 μ2 t hk h)
theorem tX8_goesOn_112 (E : m_E) (l : Launch) (z : Nat × Nat) (k0 : Int → Mm → Option (Int × Mm)) (p0 : ∀ (l0 : Int) (μ : Mm) (t : Int × Mm), m_kd μ l0 = (8, 0) → k0 l0 μ = some t → aX8_goesOn E l 4 z 0 [(0, vr l0)] [] μ (rI t)) (N : Nat) (l0 s0 s1 : Int) (μ : Mm) (t : Int × Mm) (hk : m_kd μ l0 = (8, 0)) (h : jX8_goesOn_112 k0 N l0 s0 s1 μ = some t) : aX8_goesOn E l 4 z 112 [(0, vr l0)] [vi s0, vr s1] μ (rI t) := by
  unfold jX8_goesOn_112 at h
  refine m_chk_k h (fun hq0 h => ?_)
  refine a_cVv (c := 8) [vi s0] [] dX8_goesOn_112 myX8_code mRX8_236 mvX8_code rfl (by decide) hq0 (fun _ hj => tX8_code E l N s1 s0 μ _ hq0 hj) (by decide) rfl (Nat.le_of_ble_eq_true rfl) h (fun μ1 hm h => ?_)
  have hk := hm.k hk (by decide)
  have hq0 := hm.k hq0 (by decide)
  refine a_goto (tgt := 0) dX8_goesOn_115 rfl ?_
  exact a_sub [0] rfl (p0 l0 μ1 t hk h)
theorem tX8_goesOn_43 (E : m_E) (l : Launch) (z : Nat × Nat) (k0 : Int → Mm → Option (Int × Mm)) (p0 : ∀ (l0 : Int) (μ : Mm) (t : Int × Mm), m_kd μ l0 = (8, 0) → k0 l0 μ = some t → aX8_goesOn E l 4 z 0 [(0, vr l0)] [] μ (rI t)) (N : Nat) (l0 : Int) (μ : Mm) (t : Int × Mm) (hk : m_kd μ l0 = (8, 0)) (h : jX8_goesOn_43 k0 N l0 μ = some t) : aX8_goesOn E l 4 z 43 [(0, vr l0)] [] μ (rI t) := by
  unfold jX8_goesOn_43 at h
  refine a_aload_n 0 dX8_goesOn_43 rfl rfl ?_
  refine a_dup dX8_goesOn_44 rfl ?_
  refine a_getfi (c := 8) (i := 2) dX8_goesOn_45 fRX8_189 g8_2 rfl hk ?_
  refine a_iconst dX8_goesOn_48 (okI_b _ rfl) ?_
  refine a_iadd dX8_goesOn_49 ?_
  refine a_putfi (c := 8) (i := 2) dX8_goesOn_50 fRX8_189 g8_2 (Or.inl rfl) rfl hk h (fun μ1 hm h => ?_)
  have hk := hm.k hk (by decide)
  refine a_aload_n 0 dX8_goesOn_53 rfl rfl ?_
  refine a_cVv (c := 8) [] [] dX8_goesOn_54 myX8_dropsToMark mRX8_266 mvX8_dropsToMark rfl (by decide) hk (fun _ hj => tX8_dropsToMark E l N l0 μ1 _ hk hj) (by decide) rfl (Nat.le_of_ble_eq_true rfl) h (fun μ2 hm h => ?_)
  have hk := hm.k hk (by decide)
  refine a_aload_n 0 dX8_goesOn_57 rfl rfl ?_
  refine a_dup dX8_goesOn_58 rfl ?_
  refine a_getfi (c := 8) (i := 46) dX8_goesOn_59 fRX8_233 g8_46 rfl hk ?_
  refine a_iconst dX8_goesOn_62 (okI_b _ rfl) ?_
  refine a_isub dX8_goesOn_63 ?_
  refine a_putfi (c := 8) (i := 46) dX8_goesOn_64 fRX8_233 g8_46 (Or.inl rfl) rfl hk h (fun μ3 hm h => ?_)
  have hk := hm.k hk (by decide)
  refine a_aload_n 0 dX8_goesOn_67 rfl rfl ?_
  refine a_dup dX8_goesOn_68 rfl ?_
  refine a_getfi (c := 8) (i := 47) dX8_goesOn_69 fRX8_230 g8_47 rfl hk ?_
  refine a_iconst dX8_goesOn_72 (okI_b _ rfl) ?_
  refine a_isub dX8_goesOn_73 ?_
  refine a_putfi (c := 8) (i := 47) dX8_goesOn_74 fRX8_230 g8_47 (Or.inl rfl) rfl hk h (fun μ4 hm h => ?_)
  have hk := hm.k hk (by decide)
  refine a_aload_n 0 dX8_goesOn_77 rfl rfl ?_
  refine a_getfr (c := 8) (i := 45) dX8_goesOn_78 fRX8_124 g8_45 rfl hk ?_
  refine a_aload_n 0 dX8_goesOn_81 rfl rfl ?_
  refine a_getfi (c := 8) (i := 46) dX8_goesOn_82 fRX8_233 g8_46 rfl hk ?_
  refine a_iald dX8_goesOn_85 h (fun x1 h => ?_)
  refine a_bipush dX8_goesOn_86 ⟨rfl, okI_b _ rfl⟩ ?_
  refine a_icmp_eq (tgt := 0) dX8_goesOn_88 rfl h (fun h => ?_) (fun h => ?_)
  ·
    exact a_sub [0] rfl (p0 l0 μ4 t hk h)
  ·
    refine a_aload_n 0 dX8_goesOn_91 rfl rfl ?_
    refine a_aload_n 0 dX8_goesOn_92 rfl rfl ?_
    refine a_getfr (c := 8) (i := 45) dX8_goesOn_93 fRX8_124 g8_45 rfl hk ?_
    refine a_aload_n 0 dX8_goesOn_96 rfl rfl ?_
    refine a_getfi (c := 8) (i := 46) dX8_goesOn_97 fRX8_233 g8_46 rfl hk ?_
    refine a_iald dX8_goesOn_100 h (fun x2 h => ?_)
    refine a_bipush dX8_goesOn_101 ⟨rfl, okI_b _ rfl⟩ ?_
    refine a_icmp_ne (tgt := 110) dX8_goesOn_103 rfl h (fun h => ?_) (fun h => ?_)
    ·
      refine a_bipush dX8_goesOn_110 ⟨rfl, okI_b _ rfl⟩ ?_
      exact a_sub [0] rfl (tX8_goesOn_112 E l _ k0 p0 N l0 6 l0 μ4 t hk h)
    ·
      refine a_iconst dX8_goesOn_106 (okI_b _ rfl) ?_
      refine a_goto (tgt := 112) dX8_goesOn_107 rfl ?_
      exact a_sub [0] rfl (tX8_goesOn_112 E l _ k0 p0 N l0 5 l0 μ4 t hk h)
theorem tX8_goesOn_0b (E : m_E) (l : Launch) (z : Nat × Nat) (k0 : Int → Mm → Option (Int × Mm)) (p0 : ∀ (l0 : Int) (μ : Mm) (t : Int × Mm), m_kd μ l0 = (8, 0) → k0 l0 μ = some t → aX8_goesOn E l 4 z 0 [(0, vr l0)] [] μ (rI t)) (N : Nat) (l0 : Int) (μ : Mm) (t : Int × Mm) (hk : m_kd μ l0 = (8, 0)) (h : jX8_goesOn_0b k0 N l0 μ = some t) : aX8_goesOn E l 4 z 0 [(0, vr l0)] [] μ (rI t) := by
  unfold jX8_goesOn_0b at h
  refine a_aload_n 0 dX8_goesOn_0 rfl rfl ?_
  refine a_getfi (c := 8) (i := 5) dX8_goesOn_1 fRX8_183 g8_5 rfl hk ?_
  refine a_if_ne (tgt := 118) dX8_goesOn_4 rfl h (fun h => ?_) (fun h => ?_)
  ·
    exact a_sub [0] rfl (tX8_goesOn_118 E l _ N l0 μ t hk h)
  ·
    refine a_aload_n 0 dX8_goesOn_7 rfl rfl ?_
    refine a_cVi (c := 8) [] [] dX8_goesOn_8 myX8_look mRX8_195 mvX8_look rfl (by decide) hk (fun _ hj => tX8_look E l N l0 μ _ hk hj) (by decide) rfl (Nat.le_of_ble_eq_true rfl) h (fun x1 μ1 hm h => ?_)
    have hk := hm.k hk (by decide)
    refine a_bipush dX8_goesOn_11 ⟨rfl, okI_b _ rfl⟩ ?_
    refine a_icmp_ne (tgt := 118) dX8_goesOn_13 rfl h (fun h => ?_) (fun h => ?_)
    ·
      exact a_sub [0] rfl (tX8_goesOn_118 E l _ N l0 μ1 t hk h)
    ·
      refine a_aload_n 0 dX8_goesOn_16 rfl rfl ?_
      refine a_cVi (c := 8) [] [] dX8_goesOn_17 myX8_mark mRX8_263 mvX8_mark rfl (by decide) hk (fun _ hj => tX8_mark E l N l0 μ1 _ hk hj) (by decide) rfl (Nat.le_of_ble_eq_true rfl) h (fun x2 μ2 hm h => ?_)
      have hk := hm.k hk (by decide)
      refine a_bipush dX8_goesOn_20 ⟨rfl, okI_b _ rfl⟩ ?_
      refine a_icmp_eq (tgt := 43) dX8_goesOn_22 rfl h (fun h => ?_) (fun h => ?_)
      ·
        exact a_sub [0] rfl (tX8_goesOn_43 E l _ k0 p0 N l0 μ2 t hk h)
      ·
        refine a_aload_n 0 dX8_goesOn_25 rfl rfl ?_
        refine a_cVi (c := 8) [] [] dX8_goesOn_26 myX8_mark mRX8_263 mvX8_mark rfl (by decide) hk (fun _ hj => tX8_mark E l N l0 μ2 _ hk hj) (by decide) rfl (Nat.le_of_ble_eq_true rfl) h (fun x3 μ3 hm h => ?_)
        have hk := hm.k hk (by decide)
        refine a_bipush dX8_goesOn_29 ⟨rfl, okI_b _ rfl⟩ ?_
        refine a_icmp_eq (tgt := 43) dX8_goesOn_31 rfl h (fun h => ?_) (fun h => ?_)
        ·
          exact a_sub [0] rfl (tX8_goesOn_43 E l _ k0 p0 N l0 μ3 t hk h)
        ·
          refine a_aload_n 0 dX8_goesOn_34 rfl rfl ?_
          refine a_cVi (c := 8) [] [] dX8_goesOn_35 myX8_mark mRX8_263 mvX8_mark rfl (by decide) hk (fun _ hj => tX8_mark E l N l0 μ3 _ hk hj) (by decide) rfl (Nat.le_of_ble_eq_true rfl) h (fun x4 μ4 hm h => ?_)
          have hk := hm.k hk (by decide)
          refine a_bipush dX8_goesOn_38 ⟨rfl, okI_b _ rfl⟩ ?_
          refine a_icmp_ne (tgt := 118) dX8_goesOn_40 rfl h (fun h => ?_) (fun h => ?_)
          ·
            exact a_sub [0] rfl (tX8_goesOn_118 E l _ N l0 μ4 t hk h)
          ·
            exact a_sub [0] rfl (tX8_goesOn_43 E l _ k0 p0 N l0 μ4 t hk h)
theorem tX8_goesOn_0 (E : m_E) (l : Launch) (z : Nat × Nat) (N : Nat) : ∀ (n : Nat) (l0 : Int) (μ : Mm) (t : Int × Mm), m_kd μ l0 = (8, 0) → jX8_goesOn_0 N n l0 μ = some t → aX8_goesOn E l 4 z 0 [(0, vr l0)] [] μ (rI t)
  | 0, _, _, _, _, h => by cases h
  | n + 1, l0, μ, t, hk, h => tX8_goesOn_0b E l z (jX8_goesOn_0 N n) (tX8_goesOn_0 E l z N n) N l0 μ t hk h
theorem tX8_goesOn (E : m_E) (l : Launch) (N : Nat) (l0 : Int) (μ : Mm) (t : Int × Mm) (hk : m_kd μ l0 = (8, 0)) (h : jX8_goesOn N l0 μ = some t) : TT E l 4 yX8_goesOn cX8_goesOn 2 (some .boolean) [vr l0] μ (rI t) := by
  refine tt_of (L := [(0, vr l0)]) (by decide +kernel) (Nat.le_of_ble_eq_true rfl) rfl ?_
  show aX8_goesOn E l 4 (m_sz μ, m_sl μ) 0 [(0, vr l0)] [] μ (rI t)
  unfold jX8_goesOn at h
  exact a_sub [0] rfl (tX8_goesOn_0 E l _ N N l0 μ t hk h)
-- X8_opens
abbrev aX8_opens (E : m_E) (l : Launch) (d : Nat) (z : Nat × Nat) (pc : Nat) (L : List (Nat × AV)) (st : List AV) (μ : Mm) (ρ : Option AV × Mm) : Prop := AA E l d z RX8 "opens" cX8_opens 3 none pc L st μ ρ
theorem tX8_opens (E : m_E) (l : Launch) (N : Nat) (l0 l1 l2 : Int) (μ : Mm) (t : Mm) (hk : m_kd μ l0 = (8, 0)) (h : jX8_opens N l0 l1 l2 μ = some t) : TT E l 2 yX8_opens cX8_opens 3 none [vr l0, vi l1, vi l2] μ (rV t) := by
  refine tt_of (L := [(0, vr l0), (1, vi l1), (2, vi l2)]) (by decide +kernel) (Nat.le_of_ble_eq_true rfl) rfl ?_
  show aX8_opens E l 2 (m_sz μ, m_sl μ) 0 [(0, vr l0), (1, vi l1), (2, vi l2)] [] μ (rV t)
  unfold jX8_opens at h
  refine a_aload_n 0 dX8_opens_0 rfl rfl ?_
  refine a_getfi (c := 8) (i := 47) dX8_opens_1 fRX8_230 g8_47 rfl hk ?_
  refine a_bipush dX8_opens_4 ⟨rfl, okI_b _ rfl⟩ ?_
  refine a_icmp_ne (tgt := 16) dX8_opens_6 rfl h (fun h => ?_) (fun h => ?_)
  ·
    refine a_aload_n 0 dX8_opens_16 rfl rfl ?_
    refine a_dup dX8_opens_17 rfl ?_
    refine a_getfi (c := 8) (i := 47) dX8_opens_18 fRX8_230 g8_47 rfl hk ?_
    refine a_iconst dX8_opens_21 (okI_b _ rfl) ?_
    refine a_iadd dX8_opens_22 ?_
    refine a_putfi (c := 8) (i := 47) dX8_opens_23 fRX8_230 g8_47 (Or.inl rfl) rfl hk h (fun μ1 hm h => ?_)
    have hk := hm.k hk (by decide)
    refine a_aload_n 0 dX8_opens_26 rfl rfl ?_
    refine a_getfr (c := 8) (i := 45) dX8_opens_27 fRX8_124 g8_45 rfl hk ?_
    refine a_aload_n 0 dX8_opens_30 rfl rfl ?_
    refine a_getfi (c := 8) (i := 46) dX8_opens_31 fRX8_233 g8_46 rfl hk ?_
    refine a_iload_n 1 dX8_opens_34 rfl rfl ?_
    refine a_iast dX8_opens_35 h (fun μ2 hm h => ?_)
    have hk := hm.k hk (by decide)
    refine a_aload_n 0 dX8_opens_36 rfl rfl ?_
    refine a_dup dX8_opens_37 rfl ?_
    refine a_getfi (c := 8) (i := 46) dX8_opens_38 fRX8_233 g8_46 rfl hk ?_
    refine a_iconst dX8_opens_41 (okI_b _ rfl) ?_
    refine a_iadd dX8_opens_42 ?_
    refine a_putfi (c := 8) (i := 46) dX8_opens_43 fRX8_233 g8_46 (Or.inl rfl) rfl hk h (fun μ3 hm h => ?_)
    have hk := hm.k hk (by decide)
    exact a_ret0 dX8_opens_46 h
  ·
    refine a_aload_n 0 dX8_opens_9 rfl rfl ?_
    refine a_iconst dX8_opens_10 (okI_b _ rfl) ?_
    refine a_iload_n 2 dX8_opens_11 rfl rfl ?_
    refine a_cVv (c := 8) [vi 4, vi l2] [] dX8_opens_12 myX8_fail mRX8_213 mvX8_fail rfl (by decide) hk (fun _ hj => tX8_fail E l N l0 4 l2 μ _ hk hj) (by decide) rfl (Nat.le_of_ble_eq_true rfl) h (fun μ4 hm h => ?_)
    have hk := hm.k hk (by decide)
    exact a_ret0 dX8_opens_15 h
