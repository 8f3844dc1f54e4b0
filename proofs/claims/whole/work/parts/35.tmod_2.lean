-- X8_tellsComing
abbrev aX8_tellsComing (E : m_E) (l : Launch) (d : Nat) (z : Nat × Nat) (pc : Nat) (L : List (Nat × AV)) (st : List AV) (μ : Mm) (ρ : Option AV × Mm) : Prop := AA E l d z RX8 "tellsComing" cX8_tellsComing 8 none pc L st μ ρ
theorem tX8_tellsComing_313 (E : m_E) (l : Launch) (z : Nat × Nat) (k119 : Int → Int → Int → Int → Mm → Option (Mm)) (p119 : ∀ (l0 l1 l2 l3 : Int) (μ : Mm) (t : Mm), m_kd μ l0 = (8, 0) → k119 l0 l1 l2 l3 μ = some t → aX8_tellsComing E l 8 z 119 [(0, vr l0), (1, vi l1), (2, vi l2), (3, vi l3)] [] μ (rV t)) (k236 : Int → Int → Int → Int → Int → Int → Mm → Option (Mm)) (p236 : ∀ (l0 l1 l2 l3 l4 l5 : Int) (μ : Mm) (t : Mm), m_kd μ l0 = (8, 0) → k236 l0 l1 l2 l3 l4 l5 μ = some t → aX8_tellsComing E l 8 z 236 [(0, vr l0), (1, vi l1), (2, vi l2), (3, vi l3), (4, vi l4), (5, vi l5)] [] μ (rV t)) (N : Nat) (l0 l1 l2 l3 l4 l5 : Int) (μ : Mm) (t : Mm) (hk : m_kd μ l0 = (8, 0)) (h : jX8_tellsComing_313 k119 k236 N l0 l1 l2 l3 l4 l5 μ = some t) : aX8_tellsComing E l 8 z 313 [(0, vr l0), (1, vi l1), (2, vi l2), (3, vi l3), (4, vi l4), (5, vi l5)] [] μ (rV t) := by
  unfold jX8_tellsComing_313 at h
  refine a_iinc (F := fun x1 => [(5, vi x1), (0, vr l0), (1, vi l1), (2, vi l2), (3, vi l3), (4, vi l4)]) 5 dX8_tellsComing_313 rfl (by decide) h (fun _ => rfl) (fun x1 h => ?_)
  refine a_goto (tgt := 236) dX8_tellsComing_316 rfl ?_
  exact a_sub [1, 2, 3, 4, 5, 0] rfl (p236 l0 l1 l2 l3 l4 x1 μ t hk h)
theorem tX8_tellsComing_236b (E : m_E) (l : Launch) (z : Nat × Nat) (k119 : Int → Int → Int → Int → Mm → Option (Mm)) (p119 : ∀ (l0 l1 l2 l3 : Int) (μ : Mm) (t : Mm), m_kd μ l0 = (8, 0) → k119 l0 l1 l2 l3 μ = some t → aX8_tellsComing E l 8 z 119 [(0, vr l0), (1, vi l1), (2, vi l2), (3, vi l3)] [] μ (rV t)) (k236 : Int → Int → Int → Int → Int → Int → Mm → Option (Mm)) (p236 : ∀ (l0 l1 l2 l3 l4 l5 : Int) (μ : Mm) (t : Mm), m_kd μ l0 = (8, 0) → k236 l0 l1 l2 l3 l4 l5 μ = some t → aX8_tellsComing E l 8 z 236 [(0, vr l0), (1, vi l1), (2, vi l2), (3, vi l3), (4, vi l4), (5, vi l5)] [] μ (rV t)) (N : Nat) (l0 l1 l2 l3 l4 l5 : Int) (μ : Mm) (t : Mm) (hk : m_kd μ l0 = (8, 0)) (h : jX8_tellsComing_236b k119 k236 N l0 l1 l2 l3 l4 l5 μ = some t) : aX8_tellsComing E l 8 z 236 [(0, vr l0), (1, vi l1), (2, vi l2), (3, vi l3), (4, vi l4), (5, vi l5)] [] μ (rV t) := by
  unfold jX8_tellsComing_236b at h
  refine a_iload 5 dX8_tellsComing_236 rfl ?_
  refine a_sipush dX8_tellsComing_238 ⟨rfl, okI_b _ rfl⟩ ?_
  refine a_icmp_ge (tgt := 319) dX8_tellsComing_241 rfl h (fun h => ?_) (fun h => ?_)
  ·
    refine a_goto (tgt := 119) dX8_tellsComing_319 rfl ?_
    exact a_sub [0, 1, 2, 3] rfl (p119 l0 l1 l2 l3 μ t hk h)
  ·
    refine a_aload_n 0 dX8_tellsComing_244 rfl rfl ?_
    refine a_getfr (c := 8) (i := 69) dX8_tellsComing_245 fRX8_150 g8_69 rfl hk ?_
    refine a_iload 4 dX8_tellsComing_248 rfl ?_
    refine a_iload 5 dX8_tellsComing_250 rfl ?_
    refine a_iadd dX8_tellsComing_252 ?_
    refine a_lald dX8_tellsComing_253 h (fun x1 h => ?_)
    refine a_lstore (L' := [(6, vl x1), (0, vr l0), (1, vi l1), (2, vi l2), (3, vi l3), (4, vi l4), (5, vi l5)]) dX8_tellsComing_254 (by decide) rfl ?_
    refine a_lload 0 dX8_tellsComing_256 rfl ?_
    refine a_lconst (v := 0) dX8_tellsComing_258 ⟨rfl, okJ_b _ rfl⟩ ?_
    refine a_lcmp dX8_tellsComing_259 ?_
    refine a_if_le (tgt := 313) dX8_tellsComing_260 rfl h (fun h => ?_) (fun h => ?_)
    ·
      exact a_sub [1, 2, 3, 4, 5, 6] rfl (tX8_tellsComing_313 E l _ k119 p119 k236 p236 N l0 l1 l2 l3 l4 l5 μ t hk h)
    ·
      refine a_aload_n 1 dX8_tellsComing_263 rfl rfl ?_
      refine a_getfr (c := 8) (i := 77) dX8_tellsComing_264 fRX8_159 g8_77 rfl hk ?_
      refine a_sipush dX8_tellsComing_267 ⟨rfl, okI_b _ rfl⟩ ?_
      refine a_iload_n 4 dX8_tellsComing_270 rfl rfl ?_
      refine a_iadd dX8_tellsComing_271 ?_
      refine a_aload_n 1 dX8_tellsComing_272 rfl rfl ?_
      refine a_getfi (c := 8) (i := 75) dX8_tellsComing_273 fRX8_439 g8_75 rfl hk ?_
      refine a_iadd dX8_tellsComing_276 ?_
      refine a_iload 6 dX8_tellsComing_277 rfl ?_
      refine a_iadd dX8_tellsComing_279 ?_
      refine a_sipush dX8_tellsComing_280 ⟨rfl, okI_b _ rfl⟩ ?_
      refine a_isub dX8_tellsComing_283 ?_
      refine a_aload_n 1 dX8_tellsComing_284 rfl rfl ?_
      refine a_getfr (c := 8) (i := 77) dX8_tellsComing_285 fRX8_159 g8_77 rfl hk ?_
      refine a_sipush dX8_tellsComing_288 ⟨rfl, okI_b _ rfl⟩ ?_
      refine a_iload_n 4 dX8_tellsComing_291 rfl rfl ?_
      refine a_iadd dX8_tellsComing_292 ?_
      refine a_aload_n 1 dX8_tellsComing_293 rfl rfl ?_
      refine a_getfi (c := 8) (i := 75) dX8_tellsComing_294 fRX8_439 g8_75 rfl hk ?_
      refine a_iadd dX8_tellsComing_297 ?_
      refine a_iload 6 dX8_tellsComing_298 rfl ?_
      refine a_iadd dX8_tellsComing_300 ?_
      refine a_sipush dX8_tellsComing_301 ⟨rfl, okI_b _ rfl⟩ ?_
      refine a_isub dX8_tellsComing_304 ?_
      refine a_lald dX8_tellsComing_305 h (fun x2 h => ?_)
      refine a_lload 0 dX8_tellsComing_306 rfl ?_
      refine a_ladd dX8_tellsComing_308 ?_
      refine a_cSl [vl (l_add x2 x1)] [vi (i_sub (i_add (i_add (i_add 1060 l3) (m_gt μ l0 75)) l5) 460), vr (m_gt μ l0 77)] dX8_tellsComing_309 myX8_capped mRX8_451 msX8_capped (fun _ hj => tX8_capped E l N (l_add x2 x1) μ _  hj) (by decide) rfl (Nat.le_of_ble_eq_true rfl) h (fun x3 μ1 hm h => ?_)
      have hk := hm.k hk (by decide)
      refine a_last dX8_tellsComing_312 h (fun μ2 hm h => ?_)
      have hk := hm.k hk (by decide)
      exact a_sub [1, 2, 3, 4, 5, 6] rfl (tX8_tellsComing_313 E l _ k119 p119 k236 p236 N l0 l1 l2 l3 l4 l5 μ2 t hk h)
theorem tX8_tellsComing_236 (E : m_E) (l : Launch) (z : Nat × Nat) (k119 : Int → Int → Int → Int → Mm → Option (Mm)) (p119 : ∀ (l0 l1 l2 l3 : Int) (μ : Mm) (t : Mm), m_kd μ l0 = (8, 0) → k119 l0 l1 l2 l3 μ = some t → aX8_tellsComing E l 8 z 119 [(0, vr l0), (1, vi l1), (2, vi l2), (3, vi l3)] [] μ (rV t)) (N : Nat) : ∀ (n : Nat) (l0 l1 l2 l3 l4 l5 : Int) (μ : Mm) (t : Mm), m_kd μ l0 = (8, 0) → jX8_tellsComing_236 k119 N n l0 l1 l2 l3 l4 l5 μ = some t → aX8_tellsComing E l 8 z 236 [(0, vr l0), (1, vi l1), (2, vi l2), (3, vi l3), (4, vi l4), (5, vi l5)] [] μ (rV t)
  | 0, _, _, _, _, _, _, _, _, _, h => by cases h
  | n + 1, l0, l1, l2, l3, l4, l5, μ, t, hk, h => tX8_tellsComing_236b E l z k119 p119 (jX8_tellsComing_236 k119 N n) (tX8_tellsComing_236 E l z k119 p119 N n) N l0 l1 l2 l3 l4 l5 μ t hk h
theorem tX8_tellsComing_173 (E : m_E) (l : Launch) (z : Nat × Nat) (k119 : Int → Int → Int → Int → Mm → Option (Mm)) (p119 : ∀ (l0 l1 l2 l3 : Int) (μ : Mm) (t : Mm), m_kd μ l0 = (8, 0) → k119 l0 l1 l2 l3 μ = some t → aX8_tellsComing E l 8 z 119 [(0, vr l0), (1, vi l1), (2, vi l2), (3, vi l3)] [] μ (rV t)) (N : Nat) (l0 l1 l2 l3 : Int) (μ : Mm) (t : Mm) (hk : m_kd μ l0 = (8, 0)) (h : jX8_tellsComing_173 k119 N l0 l1 l2 l3 μ = some t) : aX8_tellsComing E l 8 z 173 [(0, vr l0), (1, vi l1), (2, vi l2), (3, vi l3)] [] μ (rV t) := by
  unfold jX8_tellsComing_173 at h
  refine a_aload_n 0 dX8_tellsComing_173 rfl rfl ?_
  refine a_aload_n 0 dX8_tellsComing_174 rfl rfl ?_
  refine a_getfi (c := 8) (i := 65) dX8_tellsComing_175 fRX8_385 g8_65 rfl hk ?_
  refine a_iload_n 2 dX8_tellsComing_178 rfl rfl ?_
  refine a_aload_n 0 dX8_tellsComing_179 rfl rfl ?_
  refine a_getfr (c := 8) (i := 61) dX8_tellsComing_180 fRX8_137 g8_61 rfl hk ?_
  refine a_aload_n 0 dX8_tellsComing_183 rfl rfl ?_
  refine a_getfi (c := 8) (i := 65) dX8_tellsComing_184 fRX8_385 g8_65 rfl hk ?_
  refine a_iald dX8_tellsComing_187 h (fun x1 h => ?_)
  refine a_aload_n 0 dX8_tellsComing_188 rfl rfl ?_
  refine a_getfr (c := 8) (i := 63) dX8_tellsComing_189 fRX8_143 g8_63 rfl hk ?_
  refine a_aload_n 0 dX8_tellsComing_192 rfl rfl ?_
  refine a_getfi (c := 8) (i := 65) dX8_tellsComing_193 fRX8_385 g8_65 rfl hk ?_
  refine a_iald dX8_tellsComing_196 h (fun x2 h => ?_)
  refine a_aload_n 0 dX8_tellsComing_197 rfl rfl ?_
  refine a_getfr (c := 8) (i := 64) dX8_tellsComing_198 fRX8_146 g8_64 rfl hk ?_
  refine a_aload_n 0 dX8_tellsComing_201 rfl rfl ?_
  refine a_getfi (c := 8) (i := 65) dX8_tellsComing_202 fRX8_385 g8_65 rfl hk ?_
  refine a_iald dX8_tellsComing_205 h (fun x3 h => ?_)
  refine a_cVi (c := 8) [vi (m_gt μ l0 65), vi l2, vi x1, vi x2, vi x3] [] dX8_tellsComing_206 myX8_ends mRX8_458 mvX8_ends rfl (by decide) hk (fun _ hj => tX8_ends E l N l0 (m_gt μ l0 65) l2 x1 x2 x3 μ _ hk hj) (by decide) rfl (Nat.le_of_ble_eq_true rfl) h (fun x4 μ1 hm h => ?_)
  have hk := hm.k hk (by decide)
  refine a_if_ne (tgt := 215) dX8_tellsComing_209 rfl h (fun h => ?_) (fun h => ?_)
  ·
    refine a_aload_n 0 dX8_tellsComing_215 rfl rfl ?_
    refine a_getfi (c := 8) (i := 65) dX8_tellsComing_216 fRX8_385 g8_65 rfl hk ?_
    refine a_iconst dX8_tellsComing_219 (okI_b _ rfl) ?_
    refine a_iadd dX8_tellsComing_220 ?_
    refine a_aload_n 0 dX8_tellsComing_221 rfl rfl ?_
    refine a_getfi (c := 8) (i := 76) dX8_tellsComing_222 fRX8_445 g8_76 rfl hk ?_
    refine a_sipush dX8_tellsComing_225 ⟨rfl, okI_b _ rfl⟩ ?_
    refine a_cSi [vi (i_add (m_gt μ1 l0 65) 1), vi (m_gt μ1 l0 76), vi (-460)] [] dX8_tellsComing_228 myX8_cell mRX8_448 msX8_cell (fun _ hj => tX8_cell E l N (i_add (m_gt μ1 l0 65) 1) (m_gt μ1 l0 76) (-460) μ1 _  hj) (by decide) rfl (Nat.le_of_ble_eq_true rfl) h (fun x5 μ2 hm h => ?_)
    have hk := hm.k hk (by decide)
    refine a_istore (L' := [(4, vi x5), (0, vr l0), (1, vi l1), (2, vi l2), (3, vi l3)]) dX8_tellsComing_231 (by decide) rfl ?_
    refine a_iconst dX8_tellsComing_233 (okI_b _ rfl) ?_
    refine a_istore (L' := [(5, vi 0), (4, vi x5), (0, vr l0), (1, vi l1), (2, vi l2), (3, vi l3)]) dX8_tellsComing_234 (by decide) rfl ?_
    exact a_sub [2, 3, 4, 5, 1, 0] rfl (tX8_tellsComing_236 E l _ k119 p119 N N l0 l1 l2 l3 x5 0 μ2 t hk h)
  ·
    refine a_goto (tgt := 119) dX8_tellsComing_212 rfl ?_
    exact a_sub [0, 1, 2, 3] rfl (p119 l0 l1 l2 l3 μ1 t hk h)
theorem tX8_tellsComing_119b (E : m_E) (l : Launch) (z : Nat × Nat) (k119 : Int → Int → Int → Int → Mm → Option (Mm)) (p119 : ∀ (l0 l1 l2 l3 : Int) (μ : Mm) (t : Mm), m_kd μ l0 = (8, 0) → k119 l0 l1 l2 l3 μ = some t → aX8_tellsComing E l 8 z 119 [(0, vr l0), (1, vi l1), (2, vi l2), (3, vi l3)] [] μ (rV t)) (N : Nat) (l0 l1 l2 l3 : Int) (μ : Mm) (t : Mm) (hk : m_kd μ l0 = (8, 0)) (h : jX8_tellsComing_119b k119 N l0 l1 l2 l3 μ = some t) : aX8_tellsComing E l 8 z 119 [(0, vr l0), (1, vi l1), (2, vi l2), (3, vi l3)] [] μ (rV t) := by
  unfold jX8_tellsComing_119b at h
  refine a_aload_n 0 dX8_tellsComing_119 rfl rfl ?_
  refine a_aload_n 0 dX8_tellsComing_120 rfl rfl ?_
  refine a_getfr (c := 8) (i := 31) dX8_tellsComing_121 fRX8_84 g8_31 rfl hk ?_
  refine a_iconst dX8_tellsComing_124 (okI_b _ rfl) ?_
  refine a_iald dX8_tellsComing_125 h (fun x1 h => ?_)
  refine a_aload_n 0 dX8_tellsComing_126 rfl rfl ?_
  refine a_getfr (c := 8) (i := 63) dX8_tellsComing_127 fRX8_143 g8_63 rfl hk ?_
  refine a_aload_n 0 dX8_tellsComing_130 rfl rfl ?_
  refine a_getfi (c := 8) (i := 65) dX8_tellsComing_131 fRX8_385 g8_65 rfl hk ?_
  refine a_iald dX8_tellsComing_134 h (fun x2 h => ?_)
  refine a_isub dX8_tellsComing_135 ?_
  refine a_aload_n 0 dX8_tellsComing_136 rfl rfl ?_
  refine a_getfr (c := 8) (i := 33) dX8_tellsComing_137 fRX8_90 g8_33 rfl hk ?_
  refine a_iconst dX8_tellsComing_140 (okI_b _ rfl) ?_
  refine a_iald dX8_tellsComing_141 h (fun x3 h => ?_)
  refine a_aload_n 0 dX8_tellsComing_142 rfl rfl ?_
  refine a_getfr (c := 8) (i := 61) dX8_tellsComing_143 fRX8_137 g8_61 rfl hk ?_
  refine a_aload_n 0 dX8_tellsComing_146 rfl rfl ?_
  refine a_getfi (c := 8) (i := 65) dX8_tellsComing_147 fRX8_385 g8_65 rfl hk ?_
  refine a_iald dX8_tellsComing_150 h (fun x4 h => ?_)
  refine a_isub dX8_tellsComing_151 ?_
  refine a_cVi (c := 8) [vi (i_sub x1 x2), vi (i_sub x3 x4)] [] dX8_tellsComing_152 myX8_nextRow mRX8_454 mvX8_nextRow rfl (by decide) hk (fun _ hj => tX8_nextRow E l N l0 (i_sub x1 x2) (i_sub x3 x4) μ _ hk hj) (by decide) rfl (Nat.le_of_ble_eq_true rfl) h (fun x5 μ1 hm h => ?_)
  have hk := hm.k hk (by decide)
  refine a_if_eq (tgt := 322) dX8_tellsComing_155 rfl h (fun h => ?_) (fun h => ?_)
  ·
    exact a_ret0 dX8_tellsComing_322 h
  ·
    refine a_iload_n 1 dX8_tellsComing_158 rfl rfl ?_
    refine a_iconst dX8_tellsComing_159 (okI_b _ rfl) ?_
    refine a_icmp_eq (tgt := 173) dX8_tellsComing_160 rfl h (fun h => ?_) (fun h => ?_)
    ·
      exact a_sub [0, 1, 2, 3] rfl (tX8_tellsComing_173 E l _ k119 p119 N l0 l1 l2 l3 μ1 t hk h)
    ·
      refine a_aload_n 0 dX8_tellsComing_163 rfl rfl ?_
      refine a_getfr (c := 8) (i := 73) dX8_tellsComing_164 fRX8_156 g8_73 rfl hk ?_
      refine a_iconst dX8_tellsComing_167 (okI_b _ rfl) ?_
      refine a_iald dX8_tellsComing_168 h (fun x6 h => ?_)
      refine a_iload_n 1 dX8_tellsComing_169 rfl rfl ?_
      refine a_icmp_ne (tgt := 119) dX8_tellsComing_170 rfl h (fun h => ?_) (fun h => ?_)
      ·
        exact a_sub [0, 1, 2, 3] rfl (p119 l0 l1 l2 l3 μ1 t hk h)
      ·
        exact a_sub [0, 1, 2, 3] rfl (tX8_tellsComing_173 E l _ k119 p119 N l0 l1 l2 l3 μ1 t hk h)
theorem tX8_tellsComing_119 (E : m_E) (l : Launch) (z : Nat × Nat) (N : Nat) : ∀ (n : Nat) (l0 l1 l2 l3 : Int) (μ : Mm) (t : Mm), m_kd μ l0 = (8, 0) → jX8_tellsComing_119 N n l0 l1 l2 l3 μ = some t → aX8_tellsComing E l 8 z 119 [(0, vr l0), (1, vi l1), (2, vi l2), (3, vi l3)] [] μ (rV t)
  | 0, _, _, _, _, _, _, _, h => by cases h
  | n + 1, l0, l1, l2, l3, μ, t, hk, h => tX8_tellsComing_119b E l z (jX8_tellsComing_119 N n) (tX8_tellsComing_119 E l z N n) N l0 l1 l2 l3 μ t hk h
theorem tX8_tellsComing_114 (E : m_E) (l : Launch) (z : Nat × Nat) (N : Nat) (l0 l1 l2 l3 : Int) (μ : Mm) (t : Mm) (hk : m_kd μ l0 = (8, 0)) (h : jX8_tellsComing_114 N l0 l1 l2 l3 μ = some t) : aX8_tellsComing E l 8 z 114 [(0, vr l0), (1, vi l1), (2, vi l2), (3, vi l3)] [] μ (rV t) := by
  unfold jX8_tellsComing_114 at h
  refine a_aload_n 0 dX8_tellsComing_114 rfl rfl ?_
  refine a_iconst dX8_tellsComing_115 (okI_b _ rfl) ?_
  refine a_putfi (c := 8) (i := 74) dX8_tellsComing_116 fRX8_430 g8_74 (Or.inl rfl) rfl hk h (fun μ1 hm h => ?_)
  have hk := hm.k hk (by decide)
  exact a_sub [0, 1, 2, 3] rfl (tX8_tellsComing_119 E l _ N N l0 l1 l2 l3 μ1 t hk h)
theorem tX8_tellsComing_10b (E : m_E) (l : Launch) (z : Nat × Nat) (k10 : Int → Int → Int → Mm → Option (Mm)) (p10 : ∀ (l0 l1 l2 : Int) (μ : Mm) (t : Mm), m_kd μ l0 = (8, 0) → k10 l0 l1 l2 μ = some t → aX8_tellsComing E l 8 z 10 [(0, vr l0), (1, vi l1), (2, vi l2)] [] μ (rV t)) (N : Nat) (l0 l1 l2 : Int) (μ : Mm) (t : Mm) (hk : m_kd μ l0 = (8, 0)) (h : jX8_tellsComing_10b k10 N l0 l1 l2 μ = some t) : aX8_tellsComing E l 8 z 10 [(0, vr l0), (1, vi l1), (2, vi l2)] [] μ (rV t) := by
  unfold jX8_tellsComing_10b at h
  refine a_iload_n 2 dX8_tellsComing_10 rfl rfl ?_
  refine a_sipush dX8_tellsComing_11 ⟨rfl, okI_b _ rfl⟩ ?_
  refine a_icmp_ge (tgt := 30) dX8_tellsComing_14 rfl h (fun h => ?_) (fun h => ?_)
  ·
    refine a_aload_n 0 dX8_tellsComing_30 rfl rfl ?_
    refine a_cVi (c := 8) [] [] dX8_tellsComing_31 myX8_owedNow mRX8_482 mvX8_owedNow rfl (by decide) hk (fun _ hj => tX8_owedNow E l N l0 μ _ hk hj) (by decide) rfl (Nat.le_of_ble_eq_true rfl) h (fun x1 μ1 hm h => ?_)
    have hk := hm.k hk (by decide)
    refine a_istore_n (L' := [(2, vi x1), (0, vr l0), (1, vi l1)]) dX8_tellsComing_34 rfl (by decide) rfl ?_
    refine a_aload_n 1 dX8_tellsComing_35 rfl rfl ?_
    refine a_cVi (c := 8) [] [] dX8_tellsComing_36 myX8_soFar mRX8_421 mvX8_soFar rfl (by decide) hk (fun _ hj => tX8_soFar E l N l0 μ1 _ hk hj) (by decide) rfl (Nat.le_of_ble_eq_true rfl) h (fun x2 μ2 hm h => ?_)
    have hk := hm.k hk (by decide)
    refine a_istore_n (L' := [(3, vi x2), (2, vi x1), (0, vr l0), (1, vi l1)]) dX8_tellsComing_39 rfl (by decide) rfl ?_
    refine a_aload_n 2 dX8_tellsComing_40 rfl rfl ?_
    refine a_getfi (c := 8) (i := 65) dX8_tellsComing_41 fRX8_385 g8_65 rfl hk ?_
    refine a_aload_n 2 dX8_tellsComing_44 rfl rfl ?_
    refine a_getfr (c := 8) (i := 32) dX8_tellsComing_45 fRX8_87 g8_32 rfl hk ?_
    refine a_iconst dX8_tellsComing_48 (okI_b _ rfl) ?_
    refine a_iald dX8_tellsComing_49 h (fun x3 h => ?_)
    refine a_icmp_ne (tgt := 61) dX8_tellsComing_50 rfl h (fun h => ?_) (fun h => ?_)
    ·
      refine a_iload_n 0 dX8_tellsComing_61 rfl rfl ?_
      refine a_aload_n 2 dX8_tellsComing_62 rfl rfl ?_
      refine a_getfr (c := 8) (i := 63) dX8_tellsComing_63 fRX8_143 g8_63 rfl hk ?_
      refine a_aload_n 2 dX8_tellsComing_66 rfl rfl ?_
      refine a_getfi (c := 8) (i := 65) dX8_tellsComing_67 fRX8_385 g8_65 rfl hk ?_
      refine a_iald dX8_tellsComing_70 h (fun x4 h => ?_)
      refine a_aload_n 2 dX8_tellsComing_71 rfl rfl ?_
      refine a_getfr (c := 8) (i := 34) dX8_tellsComing_72 fRX8_93 g8_34 rfl hk ?_
      refine a_iconst dX8_tellsComing_75 (okI_b _ rfl) ?_
      refine a_iald dX8_tellsComing_76 h (fun x5 h => ?_)
      refine a_aload_n 2 dX8_tellsComing_77 rfl rfl ?_
      refine a_getfr (c := 8) (i := 64) dX8_tellsComing_78 fRX8_146 g8_64 rfl hk ?_
      refine a_aload_n 2 dX8_tellsComing_81 rfl rfl ?_
      refine a_getfi (c := 8) (i := 65) dX8_tellsComing_82 fRX8_385 g8_65 rfl hk ?_
      refine a_iald dX8_tellsComing_85 h (fun x6 h => ?_)
      refine a_imul dX8_tellsComing_86 ?_
      refine a_isub dX8_tellsComing_87 ?_
      refine a_iadd dX8_tellsComing_88 ?_
      refine a_nmi h (fun x7 h => ?_)
      refine a_istore_n (L' := [(3, vi x7), (2, vi x1), (0, vr l0), (1, vi l1)]) dX8_tellsComing_89 rfl (by decide) rfl ?_
      refine a_aload_n 2 dX8_tellsComing_90 rfl rfl ?_
      refine a_getfr (c := 8) (i := 61) dX8_tellsComing_91 fRX8_137 g8_61 rfl hk ?_
      refine a_aload_n 2 dX8_tellsComing_94 rfl rfl ?_
      refine a_getfi (c := 8) (i := 65) dX8_tellsComing_95 fRX8_385 g8_65 rfl hk ?_
      refine a_iald dX8_tellsComing_98 h (fun x8 h => ?_)
      refine a_if_ne (tgt := 114) dX8_tellsComing_99 rfl h (fun h => ?_) (fun h => ?_)
      ·
        exact a_sub [2, 3, 1, 0] rfl (tX8_tellsComing_114 E l _ N l0 l1 x1 x7 μ2 t hk h)
      ·
        refine a_aload_n 2 dX8_tellsComing_102 rfl rfl ?_
        refine a_aload_n 2 dX8_tellsComing_103 rfl rfl ?_
        refine a_getfi (c := 8) (i := 65) dX8_tellsComing_104 fRX8_385 g8_65 rfl hk ?_
        refine a_aload_n 2 dX8_tellsComing_107 rfl rfl ?_
        refine a_getfi (c := 8) (i := 58) dX8_tellsComing_108 fRX8_324 g8_58 rfl hk ?_
        refine a_cVv (c := 8) [vi (m_gt μ2 l0 65), vi (m_gt μ2 l0 58)] [] dX8_tellsComing_111 myX8_empties mRX8_388 mvX8_empties rfl (by decide) hk (fun _ hj => tX8_empties E l N l0 (m_gt μ2 l0 65) (m_gt μ2 l0 58) μ2 _ hk hj) (by decide) rfl (Nat.le_of_ble_eq_true rfl) h (fun μ3 hm h => ?_)
        have hk := hm.k hk (by decide)
        exact a_sub [2, 3, 1, 0] rfl (tX8_tellsComing_114 E l _ N l0 l1 x1 x7 μ3 t hk h)
    ·
      refine a_aload_n 2 dX8_tellsComing_53 rfl rfl ?_
      refine a_iload_n 0 dX8_tellsComing_54 rfl rfl ?_
      refine a_iload_n 1 dX8_tellsComing_55 rfl rfl ?_
      refine a_iload_n 3 dX8_tellsComing_56 rfl rfl ?_
      refine a_cVv (c := 8) [vi x2, vi x1, vi l1] [] dX8_tellsComing_57 myX8_comesByFills mRX8_485 mvX8_comesByFills rfl (by decide) hk (fun _ hj => tX8_comesByFills E l N l0 x2 x1 l1 μ2 _ hk hj) (by decide) rfl (Nat.le_of_ble_eq_true rfl) h (fun μ4 hm h => ?_)
      have hk := hm.k hk (by decide)
      exact a_ret0 dX8_tellsComing_60 h
  ·
    refine a_aload_n 0 dX8_tellsComing_17 rfl rfl ?_
    refine a_getfr (c := 8) (i := 77) dX8_tellsComing_18 fRX8_159 g8_77 rfl hk ?_
    refine a_iload_n 2 dX8_tellsComing_21 rfl rfl ?_
    refine a_lconst (v := 0) dX8_tellsComing_22 ⟨rfl, okJ_b _ rfl⟩ ?_
    refine a_last dX8_tellsComing_23 h (fun μ5 hm h => ?_)
    have hk := hm.k hk (by decide)
    refine a_iinc (F := fun x9 => [(2, vi x9), (0, vr l0), (1, vi l1)]) 2 dX8_tellsComing_24 rfl (by decide) h (fun _ => rfl) (fun x9 h => ?_)
    refine a_goto (tgt := 10) dX8_tellsComing_27 rfl ?_
    exact a_sub [1, 2, 0] rfl (p10 l0 l1 x9 μ5 t hk h)
theorem tX8_tellsComing_10 (E : m_E) (l : Launch) (z : Nat × Nat) (N : Nat) : ∀ (n : Nat) (l0 l1 l2 : Int) (μ : Mm) (t : Mm), m_kd μ l0 = (8, 0) → jX8_tellsComing_10 N n l0 l1 l2 μ = some t → aX8_tellsComing E l 8 z 10 [(0, vr l0), (1, vi l1), (2, vi l2)] [] μ (rV t)
  | 0, _, _, _, _, _, _, h => by cases h
  | n + 1, l0, l1, l2, μ, t, hk, h => tX8_tellsComing_10b E l z (jX8_tellsComing_10 N n) (tX8_tellsComing_10 E l z N n) N l0 l1 l2 μ t hk h
theorem tX8_tellsComing (E : m_E) (l : Launch) (N : Nat) (l0 l1 : Int) (μ : Mm) (t : Mm) (hk : m_kd μ l0 = (8, 0)) (h : jX8_tellsComing N l0 l1 μ = some t) : TT E l 8 yX8_tellsComing cX8_tellsComing 8 none [vr l0, vi l1] μ (rV t) := by
  refine tt_of (L := [(0, vr l0), (1, vi l1)]) (by decide +kernel) (Nat.le_of_ble_eq_true rfl) rfl ?_
  show aX8_tellsComing E l 8 (m_sz μ, m_sl μ) 0 [(0, vr l0), (1, vi l1)] [] μ (rV t)
  unfold jX8_tellsComing at h
  refine a_aload_n 0 dX8_tellsComing_0 rfl rfl ?_
  refine a_cVv (c := 8) [] [] dX8_tellsComing_1 myX8_goesThrough mRX8_410 mvX8_goesThrough rfl (by decide) hk (fun _ hj => tX8_goesThrough E l N l0 μ _ hk hj) (by decide) rfl (Nat.le_of_ble_eq_true rfl) h (fun μ1 hm h => ?_)
  have hk := hm.k hk (by decide)
  refine a_aload_n 0 dX8_tellsComing_4 rfl rfl ?_
  refine a_cVv (c := 8) [] [] dX8_tellsComing_5 myX8_tellsAhead mRX8_479 mvX8_tellsAhead rfl (by decide) hk (fun _ hj => tX8_tellsAhead E l N l0 μ1 _ hk hj) (by decide) rfl (Nat.le_of_ble_eq_true rfl) h (fun μ2 hm h => ?_)
  have hk := hm.k hk (by decide)
  refine a_iconst dX8_tellsComing_8 (okI_b _ rfl) ?_
  refine a_istore_n (L' := [(2, vi 0), (0, vr l0), (1, vi l1)]) dX8_tellsComing_9 rfl (by decide) rfl ?_
  exact a_sub [1, 2, 0] rfl (tX8_tellsComing_10 E l _ N N l0 l1 0 μ2 t hk h)
-- X8_come
abbrev aX8_come (E : m_E) (l : Launch) (d : Nat) (z : Nat × Nat) (pc : Nat) (L : List (Nat × AV)) (st : List AV) (μ : Mm) (ρ : Option AV × Mm) : Prop := AA E l d z RX8 "come" cX8_come 2 (some .int) pc L st μ ρ
theorem tX8_come (E : m_E) (l : Launch) (N : Nat) (l0 l1 : Int) (μ : Mm) (t : Int × Mm) (hk : m_kd μ l0 = (8, 0)) (h : jX8_come N l0 l1 μ = some t) : TT E l 9 yX8_come cX8_come 2 (some .int) [vr l0, vi l1] μ (rI t) := by
  refine tt_of (L := [(0, vr l0), (1, vi l1)]) (by decide +kernel) (Nat.le_of_ble_eq_true rfl) rfl ?_
  show aX8_come E l 9 (m_sz μ, m_sl μ) 0 [(0, vr l0), (1, vi l1)] [] μ (rI t)
  unfold jX8_come at h
  refine a_aload_n 0 dX8_come_0 rfl rfl ?_
  refine a_iconst dX8_come_1 (okI_b _ rfl) ?_
  refine a_cVv (c := 8) [vi (-1)] [] dX8_come_2 myX8_tellsComing mRX8_489 mvX8_tellsComing rfl (by decide) hk (fun _ hj => tX8_tellsComing E l N l0 (-1) μ _ hk hj) (by decide) rfl (Nat.le_of_ble_eq_true rfl) h (fun μ1 hm h => ?_)
  have hk := hm.k hk (by decide)
  refine a_aload_n 0 dX8_come_5 rfl rfl ?_
  refine a_iload_n 1 dX8_come_6 rfl rfl ?_
  refine a_cVi (c := 8) [vi l1] [] dX8_come_7 myX8_endOfComing mRX8_492 mvX8_endOfComing rfl (by decide) hk (fun _ hj => tX8_endOfComing E l N l0 l1 μ1 _ hk hj) (by decide) rfl (Nat.le_of_ble_eq_true rfl) h (fun x1 μ2 hm h => ?_)
  have hk := hm.k hk (by decide)
  exact a_reti dX8_come_10 h
-- X8_end
abbrev aX8_end (E : m_E) (l : Launch) (d : Nat) (z : Nat × Nat) (pc : Nat) (L : List (Nat × AV)) (st : List AV) (μ : Mm) (ρ : Option AV × Mm) : Prop := AA E l d z RX8 "end" cX8_end 2 (some .boolean) pc L st μ ρ
theorem tX8_end_12 (E : m_E) (l : Launch) (z : Nat × Nat) (N : Nat) (l0 : Int) (μ : Mm) (t : Int × Mm) (hk : m_kd μ l0 = (8, 0)) (h : jX8_end_12 N l0 μ = some t) : aX8_end E l 1 z 12 [(0, vr l0)] [] μ (rI t) := by
  unfold jX8_end_12 at h
  refine a_iconst dX8_end_12 (okI_b _ rfl) ?_
  exact a_retzl (Or.inl rfl) dX8_end_13 h
theorem tX8_end (E : m_E) (l : Launch) (N : Nat) (l0 l1 : Int) (μ : Mm) (t : Int × Mm) (hk : m_kd μ l0 = (8, 0)) (h : jX8_end N l0 l1 μ = some t) : TT E l 1 yX8_end cX8_end 2 (some .boolean) [vr l0, vi l1] μ (rI t) := by
  refine tt_of (L := [(0, vr l0), (1, vi l1)]) (by decide +kernel) (Nat.le_of_ble_eq_true rfl) rfl ?_
  show aX8_end E l 1 (m_sz μ, m_sl μ) 0 [(0, vr l0), (1, vi l1)] [] μ (rI t)
  unfold jX8_end at h
  refine a_iload_n 1 dX8_end_0 rfl rfl ?_
  refine a_if_lt (tgt := 12) dX8_end_1 rfl h (fun h => ?_) (fun h => ?_)
  ·
    exact a_sub [0] rfl (tX8_end_12 E l _ N l0 μ t hk h)
  ·
    refine a_iload_n 1 dX8_end_4 rfl rfl ?_
    refine a_aload_n 0 dX8_end_5 rfl rfl ?_
    refine a_getfi (c := 8) (i := 1) dX8_end_6 fRX8_180 g8_1 rfl hk ?_
    refine a_icmp_le (tgt := 14) dX8_end_9 rfl h (fun h => ?_) (fun h => ?_)
    ·
      refine a_aload_n 0 dX8_end_14 rfl rfl ?_
      refine a_iload_n 1 dX8_end_15 rfl rfl ?_
      refine a_putfi (c := 8) (i := 1) dX8_end_16 fRX8_180 g8_1 (Or.inl rfl) rfl hk h (fun μ1 hm h => ?_)
      have hk := hm.k hk (by decide)
      refine a_iconst dX8_end_19 (okI_b _ rfl) ?_
      exact a_retzl (Or.inr rfl) dX8_end_20 h
    ·
      exact a_sub [0] rfl (tX8_end_12 E l _ N l0 μ t hk h)
-- X8_isIn
abbrev aX8_isIn (E : m_E) (l : Launch) (d : Nat) (z : Nat × Nat) (pc : Nat) (L : List (Nat × AV)) (st : List AV) (μ : Mm) (ρ : Option AV × Mm) : Prop := AA E l d z RX8 "isIn" cX8_isIn 6 (some .boolean) pc L st μ ρ
theorem tX8_isIn_18 (E : m_E) (l : Launch) (z : Nat × Nat) (N : Nat) (s0 : Int) (μ : Mm) (t : Int × Mm) (h : jX8_isIn_18 N s0 μ = some t) : aX8_isIn E l 1 z 18 [] [vi s0] μ (rI t) := by
  unfold jX8_isIn_18 at h
  exact a_retz dX8_isIn_18 h
theorem tX8_isIn_17 (E : m_E) (l : Launch) (z : Nat × Nat) (N : Nat) (μ : Mm) (t : Int × Mm) (h : jX8_isIn_17 N  μ = some t) : aX8_isIn E l 1 z 17 [] [] μ (rI t) := by
  unfold jX8_isIn_17 at h
  refine a_iconst dX8_isIn_17 (okI_b _ rfl) ?_
  exact a_sub [] rfl (tX8_isIn_18 E l _ N 0 μ t h)
theorem tX8_isIn (E : m_E) (l : Launch) (N : Nat) (l0 l2 l4 : Int) (μ : Mm) (t : Int × Mm) (h : jX8_isIn N l0 l2 l4 μ = some t) : TT E l 1 yX8_isIn cX8_isIn 6 (some .boolean) [vl l0, vl l2, vl l4] μ (rI t) := by
  refine tt_of (L := [(0, vl l0), (2, vl l2), (4, vl l4)]) (by decide +kernel) (Nat.le_of_ble_eq_true rfl) rfl ?_
  show aX8_isIn E l 1 (m_sz μ, m_sl μ) 0 [(0, vl l0), (2, vl l2), (4, vl l4)] [] μ (rI t)
  unfold jX8_isIn at h
  refine a_lload_n 0 dX8_isIn_0 rfl rfl ?_
  refine a_lload_n 1 dX8_isIn_1 rfl rfl ?_
  refine a_lcmp dX8_isIn_2 ?_
  refine a_if_lt (tgt := 17) dX8_isIn_3 rfl h (fun h => ?_) (fun h => ?_)
  ·
    exact a_sub [] rfl (tX8_isIn_17 E l _ N  μ t h)
  ·
    refine a_lload_n 0 dX8_isIn_6 rfl rfl ?_
    refine a_lload 2 dX8_isIn_7 rfl ?_
    refine a_lcmp dX8_isIn_9 ?_
    refine a_if_gt (tgt := 17) dX8_isIn_10 rfl h (fun h => ?_) (fun h => ?_)
    ·
      exact a_sub [] rfl (tX8_isIn_17 E l _ N  μ t h)
    ·
      refine a_iconst dX8_isIn_13 (okI_b _ rfl) ?_
      refine a_goto (tgt := 18) dX8_isIn_14 rfl ?_
      exact a_sub [] rfl (tX8_isIn_18 E l _ N 1 μ t h)
-- X8_isPins
abbrev aX8_isPins (E : m_E) (l : Launch) (d : Nat) (z : Nat × Nat) (pc : Nat) (L : List (Nat × AV)) (st : List AV) (μ : Mm) (ρ : Option AV × Mm) : Prop := AA E l d z RX8 "isPins" cX8_isPins 3 (some .boolean) pc L st μ ρ
theorem tX8_isPins_29 (E : m_E) (l : Launch) (z : Nat × Nat) (N : Nat) (l0 s0 : Int) (μ : Mm) (t : Int × Mm) (hk : m_kd μ l0 = (8, 0)) (h : jX8_isPins_29 N l0 s0 μ = some t) : aX8_isPins E l 2 z 29 [(0, vr l0)] [vi s0] μ (rI t) := by
  unfold jX8_isPins_29 at h
  exact a_retz dX8_isPins_29 h
theorem tX8_isPins_28 (E : m_E) (l : Launch) (z : Nat × Nat) (N : Nat) (l0 : Int) (μ : Mm) (t : Int × Mm) (hk : m_kd μ l0 = (8, 0)) (h : jX8_isPins_28 N l0 μ = some t) : aX8_isPins E l 2 z 28 [(0, vr l0)] [] μ (rI t) := by
  unfold jX8_isPins_28 at h
  refine a_iconst dX8_isPins_28 (okI_b _ rfl) ?_
  exact a_sub [0] rfl (tX8_isPins_29 E l _ N l0 0 μ t hk h)
theorem tX8_isPins (E : m_E) (l : Launch) (N : Nat) (l0 l1 l2 : Int) (μ : Mm) (t : Int × Mm) (hk : m_kd μ l0 = (8, 0)) (h : jX8_isPins N l0 l1 l2 μ = some t) : TT E l 2 yX8_isPins cX8_isPins 3 (some .boolean) [vr l0, vi l1, vi l2] μ (rI t) := by
  refine tt_of (L := [(0, vr l0), (1, vi l1), (2, vi l2)]) (by decide +kernel) (Nat.le_of_ble_eq_true rfl) rfl ?_
  show aX8_isPins E l 2 (m_sz μ, m_sl μ) 0 [(0, vr l0), (1, vi l1), (2, vi l2)] [] μ (rI t)
  unfold jX8_isPins at h
  refine a_iload_n 1 dX8_isPins_0 rfl rfl ?_
  refine a_i2l dX8_isPins_1 ?_
  refine a_iload_n 2 dX8_isPins_2 rfl rfl ?_
  refine a_i2l dX8_isPins_3 ?_
  refine a_ldc2 (x := 511) dX8_isPins_4 kRX8_526 ⟨rfl, okJ_b _ rfl⟩ ?_
  refine a_cSi [vl (i_2l l1), vl (i_2l l2), vl 511] [] dX8_isPins_7 myX8_isIn mRX8_223 msX8_isIn (fun _ hj => tX8_isIn E l N (i_2l l1) (i_2l l2) 511 μ _  hj) (by decide) rfl (Nat.le_of_ble_eq_true rfl) h (fun x1 μ1 hm h => ?_)
  have hk := hm.k hk (by decide)
  refine a_if_eq (tgt := 28) dX8_isPins_10 rfl h (fun h => ?_) (fun h => ?_)
  ·
    exact a_sub [0] rfl (tX8_isPins_28 E l _ N l0 μ1 t hk h)
  ·
    refine a_iload_n 1 dX8_isPins_13 rfl rfl ?_
    refine a_aload_n 0 dX8_isPins_14 rfl rfl ?_
    refine a_getfr (c := 8) (i := 31) dX8_isPins_15 fRX8_84 g8_31 rfl hk ?_
    refine a_iconst dX8_isPins_18 (okI_b _ rfl) ?_
    refine a_iald dX8_isPins_19 h (fun x2 h => ?_)
    refine a_ishr dX8_isPins_20 ?_
    refine a_if_ne (tgt := 28) dX8_isPins_21 rfl h (fun h => ?_) (fun h => ?_)
    ·
      exact a_sub [0] rfl (tX8_isPins_28 E l _ N l0 μ1 t hk h)
    ·
      refine a_iconst dX8_isPins_24 (okI_b _ rfl) ?_
      refine a_goto (tgt := 29) dX8_isPins_25 rfl ?_
      exact a_sub [0] rfl (tX8_isPins_29 E l _ N l0 1 μ1 t hk h)
-- X8_part
abbrev aX8_part (E : m_E) (l : Launch) (d : Nat) (z : Nat × Nat) (pc : Nat) (L : List (Nat × AV)) (st : List AV) (μ : Mm) (ρ : Option AV × Mm) : Prop := AA E l d z RX8 "part" cX8_part 6 (some .int) pc L st μ ρ
theorem tX8_part_100 (E : m_E) (l : Launch) (z : Nat × Nat) (k15 : Int → Int → Int → Int → Mm → Option (Int × Mm)) (p15 : ∀ (l0 l1 l2 l3 : Int) (μ : Mm) (t : Int × Mm), m_kd μ l0 = (8, 0) → k15 l0 l1 l2 l3 μ = some t → aX8_part E l 1 z 15 [(0, vr l0), (1, vi l1), (2, vi l2), (3, vi l3)] [] μ (rI t)) (k24 : Int → Int → Int → Int → Int → Mm → Option (Int × Mm)) (p24 : ∀ (l0 l1 l2 l3 l4 : Int) (μ : Mm) (t : Int × Mm), m_kd μ l0 = (8, 0) → k24 l0 l1 l2 l3 l4 μ = some t → aX8_part E l 1 z 24 [(0, vr l0), (1, vi l1), (2, vi l2), (3, vi l3), (4, vi l4)] [] μ (rI t)) (k34 : Int → Int → Int → Int → Int → Int → Mm → Option (Int × Mm)) (p34 : ∀ (l0 l1 l2 l3 l4 l5 : Int) (μ : Mm) (t : Int × Mm), m_kd μ l0 = (8, 0) → k34 l0 l1 l2 l3 l4 l5 μ = some t → aX8_part E l 1 z 34 [(0, vr l0), (1, vi l1), (2, vi l2), (3, vi l3), (4, vi l4), (5, vi l5)] [] μ (rI t)) (N : Nat) (l0 l1 l2 l3 l4 l5 : Int) (μ : Mm) (t : Int × Mm) (hk : m_kd μ l0 = (8, 0)) (h : jX8_part_100 k15 k24 k34 N l0 l1 l2 l3 l4 l5 μ = some t) : aX8_part E l 1 z 100 [(0, vr l0), (1, vi l1), (2, vi l2), (3, vi l3), (4, vi l4), (5, vi l5)] [] μ (rI t) := by
  unfold jX8_part_100 at h
  refine a_iinc (F := fun x1 => [(5, vi x1), (0, vr l0), (1, vi l1), (2, vi l2), (3, vi l3), (4, vi l4)]) 5 dX8_part_100 rfl (by decide) h (fun _ => rfl) (fun x1 h => ?_)
  refine a_goto (tgt := 34) dX8_part_103 rfl ?_
  exact a_sub [1, 2, 3, 4, 5, 0] rfl (p34 l0 l1 l2 l3 l4 x1 μ t hk h)
theorem tX8_part_34b (E : m_E) (l : Launch) (z : Nat × Nat) (k15 : Int → Int → Int → Int → Mm → Option (Int × Mm)) (p15 : ∀ (l0 l1 l2 l3 : Int) (μ : Mm) (t : Int × Mm), m_kd μ l0 = (8, 0) → k15 l0 l1 l2 l3 μ = some t → aX8_part E l 1 z 15 [(0, vr l0), (1, vi l1), (2, vi l2), (3, vi l3)] [] μ (rI t)) (k24 : Int → Int → Int → Int → Int → Mm → Option (Int × Mm)) (p24 : ∀ (l0 l1 l2 l3 l4 : Int) (μ : Mm) (t : Int × Mm), m_kd μ l0 = (8, 0) → k24 l0 l1 l2 l3 l4 μ = some t → aX8_part E l 1 z 24 [(0, vr l0), (1, vi l1), (2, vi l2), (3, vi l3), (4, vi l4)] [] μ (rI t)) (k34 : Int → Int → Int → Int → Int → Int → Mm → Option (Int × Mm)) (p34 : ∀ (l0 l1 l2 l3 l4 l5 : Int) (μ : Mm) (t : Int × Mm), m_kd μ l0 = (8, 0) → k34 l0 l1 l2 l3 l4 l5 μ = some t → aX8_part E l 1 z 34 [(0, vr l0), (1, vi l1), (2, vi l2), (3, vi l3), (4, vi l4), (5, vi l5)] [] μ (rI t)) (N : Nat) (l0 l1 l2 l3 l4 l5 : Int) (μ : Mm) (t : Int × Mm) (hk : m_kd μ l0 = (8, 0)) (h : jX8_part_34b k15 k24 k34 N l0 l1 l2 l3 l4 l5 μ = some t) : aX8_part E l 1 z 34 [(0, vr l0), (1, vi l1), (2, vi l2), (3, vi l3), (4, vi l4), (5, vi l5)] [] μ (rI t) := by
  unfold jX8_part_34b at h
  refine a_iload 5 dX8_part_34 rfl ?_
  refine a_bipush dX8_part_36 ⟨rfl, okI_b _ rfl⟩ ?_
  refine a_icmp_ge (tgt := 106) dX8_part_38 rfl h (fun h => ?_) (fun h => ?_)
  ·
    refine a_iinc (F := fun x1 => [(4, vi x1), (0, vr l0), (1, vi l1), (2, vi l2), (3, vi l3), (5, vi l5)]) 4 dX8_part_106 rfl (by decide) h (fun _ => rfl) (fun x1 h => ?_)
    refine a_goto (tgt := 24) dX8_part_109 rfl ?_
    exact a_sub [1, 2, 3, 4, 0] rfl (p24 l0 l1 l2 l3 x1 μ t hk h)
  ·
    refine a_iload_n 2 dX8_part_41 rfl rfl ?_
    refine a_iload 4 dX8_part_42 rfl ?_
    refine a_ishr dX8_part_44 ?_
    refine a_iconst dX8_part_45 (okI_b _ rfl) ?_
    refine a_iand dX8_part_46 ?_
    refine a_if_eq (tgt := 100) dX8_part_47 rfl h (fun h => ?_) (fun h => ?_)
    ·
      exact a_sub [0, 1, 2, 3, 4, 5] rfl (tX8_part_100 E l _ k15 p15 k24 p24 k34 p34 N l0 l1 l2 l3 l4 l5 μ t hk h)
    ·
      refine a_iload_n 1 dX8_part_50 rfl rfl ?_
      refine a_iload 5 dX8_part_51 rfl ?_
      refine a_ishr dX8_part_53 ?_
      refine a_iconst dX8_part_54 (okI_b _ rfl) ?_
      refine a_iand dX8_part_55 ?_
      refine a_if_eq (tgt := 100) dX8_part_56 rfl h (fun h => ?_) (fun h => ?_)
      ·
        exact a_sub [0, 1, 2, 3, 4, 5] rfl (tX8_part_100 E l _ k15 p15 k24 p24 k34 p34 N l0 l1 l2 l3 l4 l5 μ t hk h)
      ·
        refine a_iload_n 2 dX8_part_59 rfl rfl ?_
        refine a_iload 5 dX8_part_60 rfl ?_
        refine a_ishr dX8_part_62 ?_
        refine a_iconst dX8_part_63 (okI_b _ rfl) ?_
        refine a_iand dX8_part_64 ?_
        refine a_iconst dX8_part_65 (okI_b _ rfl) ?_
        refine a_icmp_eq (tgt := 100) dX8_part_66 rfl h (fun h => ?_) (fun h => ?_)
        ·
          exact a_sub [0, 1, 2, 3, 4, 5] rfl (tX8_part_100 E l _ k15 p15 k24 p24 k34 p34 N l0 l1 l2 l3 l4 l5 μ t hk h)
        ·
          refine a_aload_n 0 dX8_part_69 rfl rfl ?_
          refine a_getfr (c := 8) (i := 42) dX8_part_70 fRX8_117 g8_42 rfl hk ?_
          refine a_bipush dX8_part_73 ⟨rfl, okI_b _ rfl⟩ ?_
          refine a_bipush dX8_part_75 ⟨rfl, okI_b _ rfl⟩ ?_
          refine a_iload 4 dX8_part_77 rfl ?_
          refine a_imul dX8_part_79 ?_
          refine a_iadd dX8_part_80 ?_
          refine a_iload 5 dX8_part_81 rfl ?_
          refine a_iadd dX8_part_83 ?_
          refine a_zald dX8_part_84 h (fun x2 h => ?_)
          refine a_if_ne (tgt := 91) dX8_part_85 rfl h (fun h => ?_) (fun h => ?_)
          ·
            refine a_iload_n 2 dX8_part_91 rfl rfl ?_
            refine a_iconst dX8_part_92 (okI_b _ rfl) ?_
            refine a_iload 5 dX8_part_93 rfl ?_
            refine a_ishl dX8_part_95 ?_
            refine a_ior dX8_part_96 ?_
            refine a_nmi h (fun x3 h => ?_)
            refine a_istore_n (L' := [(2, vi x3), (0, vr l0), (1, vi l1), (3, vi l3), (4, vi l4), (5, vi l5)]) dX8_part_97 rfl (by decide) rfl ?_
            refine a_iconst dX8_part_98 (okI_b _ rfl) ?_
            refine a_istore_n (L' := [(3, vi 1), (2, vi x3), (0, vr l0), (1, vi l1), (4, vi l4), (5, vi l5)]) dX8_part_99 rfl (by decide) rfl ?_
            exact a_sub [2, 3, 1, 0, 4, 5] rfl (tX8_part_100 E l _ k15 p15 k24 p24 k34 p34 N l0 l1 x3 1 l4 l5 μ t hk h)
          ·
            refine a_goto (tgt := 100) dX8_part_88 rfl ?_
            exact a_sub [0, 1, 2, 3, 4, 5] rfl (tX8_part_100 E l _ k15 p15 k24 p24 k34 p34 N l0 l1 l2 l3 l4 l5 μ t hk h)
theorem tX8_part_34 (E : m_E) (l : Launch) (z : Nat × Nat) (k15 : Int → Int → Int → Int → Mm → Option (Int × Mm)) (p15 : ∀ (l0 l1 l2 l3 : Int) (μ : Mm) (t : Int × Mm), m_kd μ l0 = (8, 0) → k15 l0 l1 l2 l3 μ = some t → aX8_part E l 1 z 15 [(0, vr l0), (1, vi l1), (2, vi l2), (3, vi l3)] [] μ (rI t)) (k24 : Int → Int → Int → Int → Int → Mm → Option (Int × Mm)) (p24 : ∀ (l0 l1 l2 l3 l4 : Int) (μ : Mm) (t : Int × Mm), m_kd μ l0 = (8, 0) → k24 l0 l1 l2 l3 l4 μ = some t → aX8_part E l 1 z 24 [(0, vr l0), (1, vi l1), (2, vi l2), (3, vi l3), (4, vi l4)] [] μ (rI t)) (N : Nat) : ∀ (n : Nat) (l0 l1 l2 l3 l4 l5 : Int) (μ : Mm) (t : Int × Mm), m_kd μ l0 = (8, 0) → jX8_part_34 k15 k24 N n l0 l1 l2 l3 l4 l5 μ = some t → aX8_part E l 1 z 34 [(0, vr l0), (1, vi l1), (2, vi l2), (3, vi l3), (4, vi l4), (5, vi l5)] [] μ (rI t)
  | 0, _, _, _, _, _, _, _, _, _, h => by cases h
  | n + 1, l0, l1, l2, l3, l4, l5, μ, t, hk, h => tX8_part_34b E l z k15 p15 k24 p24 (jX8_part_34 k15 k24 N n) (tX8_part_34 E l z k15 p15 k24 p24 N n) N l0 l1 l2 l3 l4 l5 μ t hk h
theorem tX8_part_24b (E : m_E) (l : Launch) (z : Nat × Nat) (k15 : Int → Int → Int → Int → Mm → Option (Int × Mm)) (p15 : ∀ (l0 l1 l2 l3 : Int) (μ : Mm) (t : Int × Mm), m_kd μ l0 = (8, 0) → k15 l0 l1 l2 l3 μ = some t → aX8_part E l 1 z 15 [(0, vr l0), (1, vi l1), (2, vi l2), (3, vi l3)] [] μ (rI t)) (k24 : Int → Int → Int → Int → Int → Mm → Option (Int × Mm)) (p24 : ∀ (l0 l1 l2 l3 l4 : Int) (μ : Mm) (t : Int × Mm), m_kd μ l0 = (8, 0) → k24 l0 l1 l2 l3 l4 μ = some t → aX8_part E l 1 z 24 [(0, vr l0), (1, vi l1), (2, vi l2), (3, vi l3), (4, vi l4)] [] μ (rI t)) (N : Nat) (l0 l1 l2 l3 l4 : Int) (μ : Mm) (t : Int × Mm) (hk : m_kd μ l0 = (8, 0)) (h : jX8_part_24b k15 k24 N l0 l1 l2 l3 l4 μ = some t) : aX8_part E l 1 z 24 [(0, vr l0), (1, vi l1), (2, vi l2), (3, vi l3), (4, vi l4)] [] μ (rI t) := by
  unfold jX8_part_24b at h
  refine a_iload 4 dX8_part_24 rfl ?_
  refine a_bipush dX8_part_26 ⟨rfl, okI_b _ rfl⟩ ?_
  refine a_icmp_ge (tgt := 112) dX8_part_28 rfl h (fun h => ?_) (fun h => ?_)
  ·
    refine a_goto (tgt := 15) dX8_part_112 rfl ?_
    exact a_sub [0, 1, 2, 3] rfl (p15 l0 l1 l2 l3 μ t hk h)
  ·
    refine a_iconst dX8_part_31 (okI_b _ rfl) ?_
    refine a_istore (L' := [(5, vi 0), (0, vr l0), (1, vi l1), (2, vi l2), (3, vi l3), (4, vi l4)]) dX8_part_32 (by decide) rfl ?_
    exact a_sub [1, 2, 3, 4, 5, 0] rfl (tX8_part_34 E l _ k15 p15 k24 p24 N N l0 l1 l2 l3 l4 0 μ t hk h)
theorem tX8_part_24 (E : m_E) (l : Launch) (z : Nat × Nat) (k15 : Int → Int → Int → Int → Mm → Option (Int × Mm)) (p15 : ∀ (l0 l1 l2 l3 : Int) (μ : Mm) (t : Int × Mm), m_kd μ l0 = (8, 0) → k15 l0 l1 l2 l3 μ = some t → aX8_part E l 1 z 15 [(0, vr l0), (1, vi l1), (2, vi l2), (3, vi l3)] [] μ (rI t)) (N : Nat) : ∀ (n : Nat) (l0 l1 l2 l3 l4 : Int) (μ : Mm) (t : Int × Mm), m_kd μ l0 = (8, 0) → jX8_part_24 k15 N n l0 l1 l2 l3 l4 μ = some t → aX8_part E l 1 z 24 [(0, vr l0), (1, vi l1), (2, vi l2), (3, vi l3), (4, vi l4)] [] μ (rI t)
  | 0, _, _, _, _, _, _, _, _, h => by cases h
  | n + 1, l0, l1, l2, l3, l4, μ, t, hk, h => tX8_part_24b E l z k15 p15 (jX8_part_24 k15 N n) (tX8_part_24 E l z k15 p15 N n) N l0 l1 l2 l3 l4 μ t hk h
theorem tX8_part_15b (E : m_E) (l : Launch) (z : Nat × Nat) (k15 : Int → Int → Int → Int → Mm → Option (Int × Mm)) (p15 : ∀ (l0 l1 l2 l3 : Int) (μ : Mm) (t : Int × Mm), m_kd μ l0 = (8, 0) → k15 l0 l1 l2 l3 μ = some t → aX8_part E l 1 z 15 [(0, vr l0), (1, vi l1), (2, vi l2), (3, vi l3)] [] μ (rI t)) (N : Nat) (l0 l1 l2 l3 : Int) (μ : Mm) (t : Int × Mm) (hk : m_kd μ l0 = (8, 0)) (h : jX8_part_15b k15 N l0 l1 l2 l3 μ = some t) : aX8_part E l 1 z 15 [(0, vr l0), (1, vi l1), (2, vi l2), (3, vi l3)] [] μ (rI t) := by
  unfold jX8_part_15b at h
  refine a_iload_n 3 dX8_part_15 rfl rfl ?_
  refine a_if_eq (tgt := 115) dX8_part_16 rfl h (fun h => ?_) (fun h => ?_)
  ·
    refine a_iload_n 2 dX8_part_115 rfl rfl ?_
    exact a_reti dX8_part_116 h
  ·
    refine a_iconst dX8_part_19 (okI_b _ rfl) ?_
    refine a_istore_n (L' := [(3, vi 0), (0, vr l0), (1, vi l1), (2, vi l2)]) dX8_part_20 rfl (by decide) rfl ?_
    refine a_iconst dX8_part_21 (okI_b _ rfl) ?_
    refine a_istore (L' := [(4, vi 0), (3, vi 0), (0, vr l0), (1, vi l1), (2, vi l2)]) dX8_part_22 (by decide) rfl ?_
    exact a_sub [2, 3, 4, 1, 0] rfl (tX8_part_24 E l _ k15 p15 N N l0 l1 l2 0 0 μ t hk h)
theorem tX8_part_15 (E : m_E) (l : Launch) (z : Nat × Nat) (N : Nat) : ∀ (n : Nat) (l0 l1 l2 l3 : Int) (μ : Mm) (t : Int × Mm), m_kd μ l0 = (8, 0) → jX8_part_15 N n l0 l1 l2 l3 μ = some t → aX8_part E l 1 z 15 [(0, vr l0), (1, vi l1), (2, vi l2), (3, vi l3)] [] μ (rI t)
  | 0, _, _, _, _, _, _, _, h => by cases h
  | n + 1, l0, l1, l2, l3, μ, t, hk, h => tX8_part_15b E l z (jX8_part_15 N n) (tX8_part_15 E l z N n) N l0 l1 l2 l3 μ t hk h
theorem tX8_part_14 (E : m_E) (l : Launch) (z : Nat × Nat) (N : Nat) (l0 l1 l2 s0 : Int) (μ : Mm) (t : Int × Mm) (hk : m_kd μ l0 = (8, 0)) (h : jX8_part_14 N l0 l1 l2 s0 μ = some t) : aX8_part E l 1 z 14 [(0, vr l0), (1, vi l1), (2, vi l2)] [vi s0] μ (rI t) := by
  unfold jX8_part_14 at h
  refine a_istore_n (L' := [(3, vi s0), (0, vr l0), (1, vi l1), (2, vi l2)]) dX8_part_14 rfl (by decide) rfl ?_
  exact a_sub [1, 2, 3, 0] rfl (tX8_part_15 E l _ N N l0 l1 l2 s0 μ t hk h)
theorem tX8_part (E : m_E) (l : Launch) (N : Nat) (l0 l1 : Int) (μ : Mm) (t : Int × Mm) (hk : m_kd μ l0 = (8, 0)) (h : jX8_part N l0 l1 μ = some t) : TT E l 1 yX8_part cX8_part 6 (some .int) [vr l0, vi l1] μ (rI t) := by
  refine tt_of (L := [(0, vr l0), (1, vi l1)]) (by decide +kernel) (Nat.le_of_ble_eq_true rfl) rfl ?_
  show aX8_part E l 1 (m_sz μ, m_sl μ) 0 [(0, vr l0), (1, vi l1)] [] μ (rI t)
  unfold jX8_part at h
  refine a_iload_n 1 dX8_part_0 rfl rfl ?_
  refine a_iload_n 1 dX8_part_1 rfl rfl ?_
  refine a_ineg dX8_part_2 ?_
  refine a_iand dX8_part_3 ?_
  refine a_nmi h (fun x1 h => ?_)
  refine a_istore_n (L' := [(2, vi x1), (0, vr l0), (1, vi l1)]) dX8_part_4 rfl (by decide) rfl ?_
  refine a_iload_n 0 dX8_part_5 rfl rfl ?_
  refine a_if_eq (tgt := 13) dX8_part_6 rfl h (fun h => ?_) (fun h => ?_)
  ·
    refine a_iconst dX8_part_13 (okI_b _ rfl) ?_
    exact a_sub [1, 2, 0] rfl (tX8_part_14 E l _ N l0 l1 x1 0 μ t hk h)
  ·
    refine a_iconst dX8_part_9 (okI_b _ rfl) ?_
    refine a_goto (tgt := 14) dX8_part_10 rfl ?_
    exact a_sub [1, 2, 0] rfl (tX8_part_14 E l _ N l0 l1 x1 1 μ t hk h)
-- X8_falls
abbrev aX8_falls (E : m_E) (l : Launch) (d : Nat) (z : Nat × Nat) (pc : Nat) (L : List (Nat × AV)) (st : List AV) (μ : Mm) (ρ : Option AV × Mm) : Prop := AA E l d z RX8 "falls" cX8_falls 3 (some .int) pc L st μ ρ
theorem tX8_falls_42 (E : m_E) (l : Launch) (z : Nat × Nat) (N : Nat) (l0 s0 : Int) (μ : Mm) (t : Int × Mm) (hk : m_kd μ l0 = (8, 0)) (h : jX8_falls_42 N l0 s0 μ = some t) : aX8_falls E l 3 z 42 [(0, vr l0)] [vi s0] μ (rI t) := by
  unfold jX8_falls_42 at h
  exact a_reti dX8_falls_42 h
theorem tX8_falls_41 (E : m_E) (l : Launch) (z : Nat × Nat) (N : Nat) (l0 : Int) (μ : Mm) (t : Int × Mm) (hk : m_kd μ l0 = (8, 0)) (h : jX8_falls_41 N l0 μ = some t) : aX8_falls E l 3 z 41 [(0, vr l0)] [] μ (rI t) := by
  unfold jX8_falls_41 at h
  refine a_iconst dX8_falls_41 (okI_b _ rfl) ?_
  exact a_sub [0] rfl (tX8_falls_42 E l _ N l0 0 μ t hk h)
theorem tX8_falls_18 (E : m_E) (l : Launch) (z : Nat × Nat) (N : Nat) (l0 : Int) (μ : Mm) (t : Int × Mm) (hk : m_kd μ l0 = (8, 0)) (h : jX8_falls_18 N l0 μ = some t) : aX8_falls E l 3 z 18 [(0, vr l0)] [] μ (rI t) := by
  unfold jX8_falls_18 at h
  refine a_iconst dX8_falls_18 (okI_b _ rfl) ?_
  exact a_reti dX8_falls_19 h
theorem tX8_falls (E : m_E) (l : Launch) (N : Nat) (l0 l1 l2 : Int) (μ : Mm) (t : Int × Mm) (hk : m_kd μ l0 = (8, 0)) (h : jX8_falls N l0 l1 l2 μ = some t) : TT E l 3 yX8_falls cX8_falls 3 (some .int) [vr l0, vi l1, vi l2] μ (rI t) := by
  refine tt_of (L := [(0, vr l0), (1, vi l1), (2, vi l2)]) (by decide +kernel) (Nat.le_of_ble_eq_true rfl) rfl ?_
  show aX8_falls E l 3 (m_sz μ, m_sl μ) 0 [(0, vr l0), (1, vi l1), (2, vi l2)] [] μ (rI t)
  unfold jX8_falls at h
  refine a_aload_n 0 dX8_falls_0 rfl rfl ?_
  refine a_iload_n 1 dX8_falls_1 rfl rfl ?_
  refine a_iconst dX8_falls_2 (okI_b _ rfl) ?_
  refine a_cVi (c := 8) [vi l1, vi 0] [] dX8_falls_3 myX8_isPins mRX8_528 mvX8_isPins rfl (by decide) hk (fun _ hj => tX8_isPins E l N l0 l1 0 μ _ hk hj) (by decide) rfl (Nat.le_of_ble_eq_true rfl) h (fun x1 μ1 hm h => ?_)
  have hk := hm.k hk (by decide)
  refine a_if_eq (tgt := 18) dX8_falls_6 rfl h (fun h => ?_) (fun h => ?_)
  ·
    exact a_sub [0] rfl (tX8_falls_18 E l _ N l0 μ1 t hk h)
  ·
    refine a_aload_n 0 dX8_falls_9 rfl rfl ?_
    refine a_iload_n 2 dX8_falls_10 rfl rfl ?_
    refine a_iconst dX8_falls_11 (okI_b _ rfl) ?_
    refine a_cVi (c := 8) [vi l2, vi 1] [] dX8_falls_12 myX8_isPins mRX8_528 mvX8_isPins rfl (by decide) hk (fun _ hj => tX8_isPins E l N l0 l2 1 μ1 _ hk hj) (by decide) rfl (Nat.le_of_ble_eq_true rfl) h (fun x2 μ2 hm h => ?_)
    have hk := hm.k hk (by decide)
    refine a_if_ne (tgt := 20) dX8_falls_15 rfl h (fun h => ?_) (fun h => ?_)
    ·
      refine a_iload_n 2 dX8_falls_20 rfl rfl ?_
      refine a_iload_n 1 dX8_falls_21 rfl rfl ?_
      refine a_iconst dX8_falls_22 (okI_b _ rfl) ?_
      refine a_ixor dX8_falls_23 ?_
      refine a_iand dX8_falls_24 ?_
      refine a_if_ne (tgt := 41) dX8_falls_25 rfl h (fun h => ?_) (fun h => ?_)
      ·
        exact a_sub [0] rfl (tX8_falls_41 E l _ N l0 μ2 t hk h)
      ·
        refine a_aload_n 0 dX8_falls_28 rfl rfl ?_
        refine a_iload_n 2 dX8_falls_29 rfl rfl ?_
        refine a_cVi (c := 8) [vi l2] [] dX8_falls_30 myX8_part mRX8_531 mvX8_part rfl (by decide) hk (fun _ hj => tX8_part E l N l0 l2 μ2 _ hk hj) (by decide) rfl (Nat.le_of_ble_eq_true rfl) h (fun x3 μ3 hm h => ?_)
        have hk := hm.k hk (by decide)
        refine a_iload_n 2 dX8_falls_33 rfl rfl ?_
        refine a_icmp_ne (tgt := 41) dX8_falls_34 rfl h (fun h => ?_) (fun h => ?_)
        ·
          exact a_sub [0] rfl (tX8_falls_41 E l _ N l0 μ3 t hk h)
        ·
          refine a_iconst dX8_falls_37 (okI_b _ rfl) ?_
          refine a_goto (tgt := 42) dX8_falls_38 rfl ?_
          exact a_sub [0] rfl (tX8_falls_42 E l _ N l0 1 μ3 t hk h)
    ·
      exact a_sub [0] rfl (tX8_falls_18 E l _ N l0 μ2 t hk h)
-- X8_fault
abbrev aX8_fault (E : m_E) (l : Launch) (d : Nat) (z : Nat × Nat) (pc : Nat) (L : List (Nat × AV)) (st : List AV) (μ : Mm) (ρ : Option AV × Mm) : Prop := AA E l d z RX8 "fault" cX8_fault 2 (some .int) pc L st μ ρ
theorem tX8_fault_24 (E : m_E) (l : Launch) (z : Nat × Nat) (N : Nat) (l0 s0 : Int) (μ : Mm) (t : Int × Mm) (hk : m_kd μ l0 = (8, 0)) (h : jX8_fault_24 N l0 s0 μ = some t) : aX8_fault E l 1 z 24 [(0, vr l0)] [vi s0] μ (rI t) := by
  unfold jX8_fault_24 at h
  exact a_reti dX8_fault_24 h
theorem tX8_fault (E : m_E) (l : Launch) (N : Nat) (l0 l1 : Int) (μ : Mm) (t : Int × Mm) (hk : m_kd μ l0 = (8, 0)) (h : jX8_fault N l0 l1 μ = some t) : TT E l 1 yX8_fault cX8_fault 2 (some .int) [vr l0, vi l1] μ (rI t) := by
  refine tt_of (L := [(0, vr l0), (1, vi l1)]) (by decide +kernel) (Nat.le_of_ble_eq_true rfl) rfl ?_
  show aX8_fault E l 1 (m_sz μ, m_sl μ) 0 [(0, vr l0), (1, vi l1)] [] μ (rI t)
  unfold jX8_fault at h
  refine a_iload_n 1 dX8_fault_0 rfl rfl ?_
  refine a_if_ne (tgt := 11) dX8_fault_1 rfl h (fun h => ?_) (fun h => ?_)
  ·
    refine a_iload_n 1 dX8_fault_11 rfl rfl ?_
    refine a_iconst dX8_fault_12 (okI_b _ rfl) ?_
    refine a_icmp_ne (tgt := 23) dX8_fault_13 rfl h (fun h => ?_) (fun h => ?_)
    ·
      refine a_iconst dX8_fault_23 (okI_b _ rfl) ?_
      exact a_sub [0] rfl (tX8_fault_24 E l _ N l0 (-1) μ t hk h)
    ·
      refine a_aload_n 0 dX8_fault_16 rfl rfl ?_
      refine a_getfi (c := 8) (i := 8) dX8_fault_17 fRX8_13 g8_8 rfl hk ?_
      refine a_goto (tgt := 24) dX8_fault_20 rfl ?_
      exact a_sub [0] rfl (tX8_fault_24 E l _ N l0 (m_gt μ l0 8) μ t hk h)
  ·
    refine a_aload_n 0 dX8_fault_4 rfl rfl ?_
    refine a_getfi (c := 8) (i := 7) dX8_fault_5 fRX8_318 g8_7 rfl hk ?_
    refine a_goto (tgt := 24) dX8_fault_8 rfl ?_
    exact a_sub [0] rfl (tX8_fault_24 E l _ N l0 (m_gt μ l0 7) μ t hk h)
-- X8_feed
abbrev aX8_feed (E : m_E) (l : Launch) (d : Nat) (z : Nat × Nat) (pc : Nat) (L : List (Nat × AV)) (st : List AV) (μ : Mm) (ρ : Option AV × Mm) : Prop := AA E l d z RX8 "feed" cX8_feed 8 (some .int) pc L st μ ρ
theorem tX8_feed_71 (E : m_E) (l : Launch) (z : Nat × Nat) (k18 : Int → Int → Int → Int → Int → Int → Int → Mm → Option (Int × Mm)) (p18 : ∀ (l0 l1 l2 l3 l4 l5 l6 : Int) (μ : Mm) (t : Int × Mm), m_kd μ l0 = (8, 0) → k18 l0 l1 l2 l3 l4 l5 l6 μ = some t → aX8_feed E l 1 z 18 [(0, vr l0), (1, vi l1), (2, vi l2), (3, vi l3), (4, vi l4), (5, vi l5), (6, vi l6)] [] μ (rI t)) (N : Nat) (l0 l1 l2 l3 l4 l5 l6 s0 : Int) (μ : Mm) (t : Int × Mm) (hk : m_kd μ l0 = (8, 0)) (h : jX8_feed_71 k18 N l0 l1 l2 l3 l4 l5 l6 s0 μ = some t) : aX8_feed E l 1 z 71 [(0, vr l0), (1, vi l1), (2, vi l2), (3, vi l3), (4, vi l4), (5, vi l5), (6, vi l6)] [vi s0] μ (rI t) := by
  unfold jX8_feed_71 at h
  refine a_istore (L' := [(7, vi s0), (0, vr l0), (1, vi l1), (2, vi l2), (3, vi l3), (4, vi l4), (5, vi l5), (6, vi l6)]) dX8_feed_71 (by decide) rfl ?_
  refine a_aload_n 1 dX8_feed_73 rfl rfl ?_
  refine a_getfr (c := 8) (i := 0) dX8_feed_74 fRX8_7 g8_0 rfl hk ?_
  refine a_aload_n 1 dX8_feed_77 rfl rfl ?_
  refine a_getfi (c := 8) (i := 1) dX8_feed_78 fRX8_180 g8_1 rfl hk ?_
  refine a_iload 0 dX8_feed_81 rfl ?_
  refine a_bipush dX8_feed_83 ⟨rfl, okI_b _ rfl⟩ ?_
  refine a_iconst dX8_feed_85 (okI_b _ rfl) ?_
  refine a_iload 7 dX8_feed_86 rfl ?_
  refine a_iconst dX8_feed_88 (okI_b _ rfl) ?_
  refine a_iremn (by decide) dX8_feed_89 ?_
  refine a_isub dX8_feed_90 ?_
  refine a_imul dX8_feed_91 ?_
  refine a_ishr dX8_feed_92 ?_
  refine a_sipush dX8_feed_93 ⟨rfl, okI_b _ rfl⟩ ?_
  refine a_iand dX8_feed_96 ?_
  refine a_iast dX8_feed_97 h (fun μ1 hm h => ?_)
  have hk := hm.k hk (by decide)
  refine a_aload_n 1 dX8_feed_98 rfl rfl ?_
  refine a_dup dX8_feed_99 rfl ?_
  refine a_getfi (c := 8) (i := 1) dX8_feed_100 fRX8_180 g8_1 rfl hk ?_
  refine a_iconst dX8_feed_103 (okI_b _ rfl) ?_
  refine a_iadd dX8_feed_104 ?_
  refine a_putfi (c := 8) (i := 1) dX8_feed_105 fRX8_180 g8_1 (Or.inl rfl) rfl hk h (fun μ2 hm h => ?_)
  have hk := hm.k hk (by decide)
  refine a_iinc (F := fun x1 => [(6, vi x1), (7, vi s0), (0, vr l0), (1, vi l1), (2, vi l2), (3, vi l3), (4, vi l4), (5, vi l5)]) 7 dX8_feed_108 rfl (by decide) h (fun _ => rfl) (fun x1 h => ?_)
  refine a_goto (tgt := 18) dX8_feed_111 rfl ?_
  exact a_sub [2, 3, 4, 5, 6, 7, 0] rfl (p18 l0 l1 l2 l3 l4 l5 x1 μ2 t hk h)
theorem tX8_feed_18b (E : m_E) (l : Launch) (z : Nat × Nat) (k18 : Int → Int → Int → Int → Int → Int → Int → Mm → Option (Int × Mm)) (p18 : ∀ (l0 l1 l2 l3 l4 l5 l6 : Int) (μ : Mm) (t : Int × Mm), m_kd μ l0 = (8, 0) → k18 l0 l1 l2 l3 l4 l5 l6 μ = some t → aX8_feed E l 1 z 18 [(0, vr l0), (1, vi l1), (2, vi l2), (3, vi l3), (4, vi l4), (5, vi l5), (6, vi l6)] [] μ (rI t)) (N : Nat) (l0 l1 l2 l3 l4 l5 l6 : Int) (μ : Mm) (t : Int × Mm) (hk : m_kd μ l0 = (8, 0)) (h : jX8_feed_18b k18 N l0 l1 l2 l3 l4 l5 l6 μ = some t) : aX8_feed E l 1 z 18 [(0, vr l0), (1, vi l1), (2, vi l2), (3, vi l3), (4, vi l4), (5, vi l5), (6, vi l6)] [] μ (rI t) := by
  unfold jX8_feed_18b at h
  refine a_iload 6 dX8_feed_18 rfl ?_
  refine a_bipush dX8_feed_20 ⟨rfl, okI_b _ rfl⟩ ?_
  refine a_icmp_ge (tgt := 114) dX8_feed_22 rfl h (fun h => ?_) (fun h => ?_)
  ·
    refine a_aload_n 0 dX8_feed_114 rfl rfl ?_
    refine a_getfi (c := 8) (i := 1) dX8_feed_115 fRX8_180 g8_1 rfl hk ?_
    exact a_reti dX8_feed_118 h
  ·
    refine a_iload 6 dX8_feed_25 rfl ?_
    refine a_iconst dX8_feed_27 (okI_b _ rfl) ?_
    refine a_icmp_ge (tgt := 35) dX8_feed_28 rfl h (fun h => ?_) (fun h => ?_)
    ·
      refine a_iload 6 dX8_feed_35 rfl ?_
      refine a_bipush dX8_feed_37 ⟨rfl, okI_b _ rfl⟩ ?_
      refine a_icmp_ge (tgt := 46) dX8_feed_39 rfl h (fun h => ?_) (fun h => ?_)
      ·
        refine a_iload 6 dX8_feed_46 rfl ?_
        refine a_bipush dX8_feed_48 ⟨rfl, okI_b _ rfl⟩ ?_
        refine a_icmp_ge (tgt := 57) dX8_feed_50 rfl h (fun h => ?_) (fun h => ?_)
        ·
          refine a_iload 6 dX8_feed_57 rfl ?_
          refine a_bipush dX8_feed_59 ⟨rfl, okI_b _ rfl⟩ ?_
          refine a_icmp_ge (tgt := 69) dX8_feed_61 rfl h (fun h => ?_) (fun h => ?_)
          ·
            refine a_iload 5 dX8_feed_69 rfl ?_
            exact a_sub [0, 1, 2, 3, 4, 5, 6] rfl (tX8_feed_71 E l _ k18 p18 N l0 l1 l2 l3 l4 l5 l6 l5 μ t hk h)
          ·
            refine a_iload 4 dX8_feed_64 rfl ?_
            refine a_goto (tgt := 71) dX8_feed_66 rfl ?_
            exact a_sub [0, 1, 2, 3, 4, 5, 6] rfl (tX8_feed_71 E l _ k18 p18 N l0 l1 l2 l3 l4 l5 l6 l4 μ t hk h)
        ·
          refine a_iload_n 3 dX8_feed_53 rfl rfl ?_
          refine a_goto (tgt := 71) dX8_feed_54 rfl ?_
          exact a_sub [0, 1, 2, 3, 4, 5, 6] rfl (tX8_feed_71 E l _ k18 p18 N l0 l1 l2 l3 l4 l5 l6 l3 μ t hk h)
      ·
        refine a_iload_n 2 dX8_feed_42 rfl rfl ?_
        refine a_goto (tgt := 71) dX8_feed_43 rfl ?_
        exact a_sub [0, 1, 2, 3, 4, 5, 6] rfl (tX8_feed_71 E l _ k18 p18 N l0 l1 l2 l3 l4 l5 l6 l2 μ t hk h)
    ·
      refine a_iload_n 1 dX8_feed_31 rfl rfl ?_
      refine a_goto (tgt := 71) dX8_feed_32 rfl ?_
      exact a_sub [0, 1, 2, 3, 4, 5, 6] rfl (tX8_feed_71 E l _ k18 p18 N l0 l1 l2 l3 l4 l5 l6 l1 μ t hk h)
theorem tX8_feed_18 (E : m_E) (l : Launch) (z : Nat × Nat) (N : Nat) : ∀ (n : Nat) (l0 l1 l2 l3 l4 l5 l6 : Int) (μ : Mm) (t : Int × Mm), m_kd μ l0 = (8, 0) → jX8_feed_18 N n l0 l1 l2 l3 l4 l5 l6 μ = some t → aX8_feed E l 1 z 18 [(0, vr l0), (1, vi l1), (2, vi l2), (3, vi l3), (4, vi l4), (5, vi l5), (6, vi l6)] [] μ (rI t)
  | 0, _, _, _, _, _, _, _, _, _, _, h => by cases h
  | n + 1, l0, l1, l2, l3, l4, l5, l6, μ, t, hk, h => tX8_feed_18b E l z (jX8_feed_18 N n) (tX8_feed_18 E l z N n) N l0 l1 l2 l3 l4 l5 l6 μ t hk h
theorem tX8_feed (E : m_E) (l : Launch) (N : Nat) (l0 l1 l2 l3 l4 l5 : Int) (μ : Mm) (t : Int × Mm) (hk : m_kd μ l0 = (8, 0)) (h : jX8_feed N l0 l1 l2 l3 l4 l5 μ = some t) : TT E l 1 yX8_feed cX8_feed 8 (some .int) [vr l0, vi l1, vi l2, vi l3, vi l4, vi l5] μ (rI t) := by
  refine tt_of (L := [(0, vr l0), (1, vi l1), (2, vi l2), (3, vi l3), (4, vi l4), (5, vi l5)]) (by decide +kernel) (Nat.le_of_ble_eq_true rfl) rfl ?_
  show aX8_feed E l 1 (m_sz μ, m_sl μ) 0 [(0, vr l0), (1, vi l1), (2, vi l2), (3, vi l3), (4, vi l4), (5, vi l5)] [] μ (rI t)
  unfold jX8_feed at h
  refine a_aload_n 0 dX8_feed_0 rfl rfl ?_
  refine a_getfi (c := 8) (i := 1) dX8_feed_1 fRX8_180 g8_1 rfl hk ?_
  refine a_bipush dX8_feed_4 ⟨rfl, okI_b _ rfl⟩ ?_
  refine a_iadd dX8_feed_6 ?_
  refine a_sipush dX8_feed_7 ⟨rfl, okI_b _ rfl⟩ ?_
  refine a_icmp_le (tgt := 15) dX8_feed_10 rfl h (fun h => ?_) (fun h => ?_)
  ·
    refine a_iconst dX8_feed_15 (okI_b _ rfl) ?_
    refine a_istore (L' := [(6, vi 0), (0, vr l0), (1, vi l1), (2, vi l2), (3, vi l3), (4, vi l4), (5, vi l5)]) dX8_feed_16 (by decide) rfl ?_
    exact a_sub [1, 2, 3, 4, 5, 6, 0] rfl (tX8_feed_18 E l _ N N l0 l1 l2 l3 l4 l5 0 μ t hk h)
  ·
    refine a_iconst dX8_feed_13 (okI_b _ rfl) ?_
    exact a_reti dX8_feed_14 h
-- X8_fewest
abbrev aX8_fewest (E : m_E) (l : Launch) (d : Nat) (z : Nat × Nat) (pc : Nat) (L : List (Nat × AV)) (st : List AV) (μ : Mm) (ρ : Option AV × Mm) : Prop := AA E l d z RX8 "fewest" cX8_fewest 4 (some .int) pc L st μ ρ
theorem tX8_fewest_15b (E : m_E) (l : Launch) (z : Nat × Nat) (k15 : Int → Int → Int → Mm → Option (Int × Mm)) (p15 : ∀ (l0 l2 l3 : Int) (μ : Mm) (t : Int × Mm), m_kd μ l0 = (8, 0) → k15 l0 l2 l3 μ = some t → aX8_fewest E l 3 z 15 [(0, vr l0), (2, vi l2), (3, vi l3)] [] μ (rI t)) (N : Nat) (l0 l2 l3 : Int) (μ : Mm) (t : Int × Mm) (hk : m_kd μ l0 = (8, 0)) (h : jX8_fewest_15b k15 N l0 l2 l3 μ = some t) : aX8_fewest E l 3 z 15 [(0, vr l0), (2, vi l2), (3, vi l3)] [] μ (rI t) := by
  unfold jX8_fewest_15b at h
  refine a_iload_n 2 dX8_fewest_15 rfl rfl ?_
  refine a_if_eq (tgt := 35) dX8_fewest_16 rfl h (fun h => ?_) (fun h => ?_)
  ·
    refine a_iload_n 1 dX8_fewest_35 rfl rfl ?_
    exact a_reti dX8_fewest_36 h
  ·
    refine a_iinc (F := fun x1 => [(2, vi x1), (0, vr l0), (3, vi l3)]) 1 dX8_fewest_19 rfl (by decide) h (fun _ => rfl) (fun x1 h => ?_)
    refine a_iload_n 2 dX8_fewest_22 rfl rfl ?_
    refine a_aload_n 1 dX8_fewest_23 rfl rfl ?_
    refine a_iload_n 2 dX8_fewest_24 rfl rfl ?_
    refine a_cVi (c := 8) [vi l3] [vi l3] dX8_fewest_25 myX8_part mRX8_531 mvX8_part rfl (by decide) hk (fun _ hj => tX8_part E l N l0 l3 μ _ hk hj) (by decide) rfl (Nat.le_of_ble_eq_true rfl) h (fun x2 μ1 hm h => ?_)
    have hk := hm.k hk (by decide)
    refine a_iconst dX8_fewest_28 (okI_b _ rfl) ?_
    refine a_ixor dX8_fewest_29 ?_
    refine a_iand dX8_fewest_30 ?_
    refine a_nmi h (fun x3 h => ?_)
    refine a_istore_n (L' := [(3, vi x3), (2, vi x1), (0, vr l0)]) dX8_fewest_31 rfl (by decide) rfl ?_
    refine a_goto (tgt := 15) dX8_fewest_32 rfl ?_
    exact a_sub [2, 1, 0] rfl (p15 l0 x1 x3 μ1 t hk h)
theorem tX8_fewest_15 (E : m_E) (l : Launch) (z : Nat × Nat) (N : Nat) : ∀ (n : Nat) (l0 l2 l3 : Int) (μ : Mm) (t : Int × Mm), m_kd μ l0 = (8, 0) → jX8_fewest_15 N n l0 l2 l3 μ = some t → aX8_fewest E l 3 z 15 [(0, vr l0), (2, vi l2), (3, vi l3)] [] μ (rI t)
  | 0, _, _, _, _, _, _, h => by cases h
  | n + 1, l0, l2, l3, μ, t, hk, h => tX8_fewest_15b E l z (jX8_fewest_15 N n) (tX8_fewest_15 E l z N n) N l0 l2 l3 μ t hk h
theorem tX8_fewest (E : m_E) (l : Launch) (N : Nat) (l0 l1 : Int) (μ : Mm) (t : Int × Mm) (hk : m_kd μ l0 = (8, 0)) (h : jX8_fewest N l0 l1 μ = some t) : TT E l 3 yX8_fewest cX8_fewest 4 (some .int) [vr l0, vi l1] μ (rI t) := by
  refine tt_of (L := [(0, vr l0), (1, vi l1)]) (by decide +kernel) (Nat.le_of_ble_eq_true rfl) rfl ?_
  show aX8_fewest E l 3 (m_sz μ, m_sl μ) 0 [(0, vr l0), (1, vi l1)] [] μ (rI t)
  unfold jX8_fewest at h
  refine a_aload_n 0 dX8_fewest_0 rfl rfl ?_
  refine a_iload_n 1 dX8_fewest_1 rfl rfl ?_
  refine a_iconst dX8_fewest_2 (okI_b _ rfl) ?_
  refine a_cVi (c := 8) [vi l1, vi 0] [] dX8_fewest_3 myX8_isPins mRX8_528 mvX8_isPins rfl (by decide) hk (fun _ hj => tX8_isPins E l N l0 l1 0 μ _ hk hj) (by decide) rfl (Nat.le_of_ble_eq_true rfl) h (fun x1 μ1 hm h => ?_)
  have hk := hm.k hk (by decide)
  refine a_if_ne (tgt := 11) dX8_fewest_6 rfl h (fun h => ?_) (fun h => ?_)
  ·
    refine a_iconst dX8_fewest_11 (okI_b _ rfl) ?_
    refine a_istore_n (L' := [(2, vi 0), (0, vr l0), (1, vi l1)]) dX8_fewest_12 rfl (by decide) rfl ?_
    refine a_iload_n 2 dX8_fewest_13 rfl rfl ?_
    refine a_istore_n (L' := [(3, vi l1), (2, vi 0), (0, vr l0), (1, vi l1)]) dX8_fewest_14 rfl (by decide) rfl ?_
    exact a_sub [2, 1, 0] rfl (tX8_fewest_15 E l _ N N l0 0 l1 μ1 t hk h)
  ·
    refine a_iconst dX8_fewest_9 (okI_b _ rfl) ?_
    exact a_reti dX8_fewest_10 h
-- X8_asThere
abbrev aX8_asThere (E : m_E) (l : Launch) (d : Nat) (z : Nat × Nat) (pc : Nat) (L : List (Nat × AV)) (st : List AV) (μ : Mm) (ρ : Option AV × Mm) : Prop := AA E l d z RX8 "asThere" cX8_asThere 3 none pc L st μ ρ
theorem tX8_asThere_12b (E : m_E) (l : Launch) (z : Nat × Nat) (k12 : Int → Int → Int → Mm → Option (Mm)) (p12 : ∀ (l0 l1 l2 : Int) (μ : Mm) (t : Mm), m_kd μ l0 = (8, 0) → k12 l0 l1 l2 μ = some t → aX8_asThere E l 1 z 12 [(0, vr l0), (1, vi l1), (2, vi l2)] [] μ (rV t)) (N : Nat) (l0 l1 l2 : Int) (μ : Mm) (t : Mm) (hk : m_kd μ l0 = (8, 0)) (h : jX8_asThere_12b k12 N l0 l1 l2 μ = some t) : aX8_asThere E l 1 z 12 [(0, vr l0), (1, vi l1), (2, vi l2)] [] μ (rV t) := by
  unfold jX8_asThere_12b at h
  refine a_iload_n 2 dX8_asThere_12 rfl rfl ?_
  refine a_aload_n 0 dX8_asThere_13 rfl rfl ?_
  refine a_getfi (c := 8) (i := 74) dX8_asThere_14 fRX8_430 g8_74 rfl hk ?_
  refine a_icmp_ge (tgt := 45) dX8_asThere_17 rfl h (fun h => ?_) (fun h => ?_)
  ·
    exact a_ret0 dX8_asThere_45 h
  ·
    refine a_aload_n 0 dX8_asThere_20 rfl rfl ?_
    refine a_getfr (c := 8) (i := 73) dX8_asThere_21 fRX8_156 g8_73 rfl hk ?_
    refine a_iload_n 2 dX8_asThere_24 rfl rfl ?_
    refine a_aload_n 0 dX8_asThere_25 rfl rfl ?_
    refine a_getfr (c := 8) (i := 59) dX8_asThere_26 fRX8_131 g8_59 rfl hk ?_
    refine a_aload_n 0 dX8_asThere_29 rfl rfl ?_
    refine a_getfr (c := 8) (i := 60) dX8_asThere_30 fRX8_134 g8_60 rfl hk ?_
    refine a_iload_n 1 dX8_asThere_33 rfl rfl ?_
    refine a_iald dX8_asThere_34 h (fun x1 h => ?_)
    refine a_iload_n 2 dX8_asThere_35 rfl rfl ?_
    refine a_iadd dX8_asThere_36 ?_
    refine a_iald dX8_asThere_37 h (fun x2 h => ?_)
    refine a_iast dX8_asThere_38 h (fun μ1 hm h => ?_)
    have hk := hm.k hk (by decide)
    refine a_iinc (F := fun x3 => [(2, vi x3), (0, vr l0), (1, vi l1)]) 2 dX8_asThere_39 rfl (by decide) h (fun _ => rfl) (fun x3 h => ?_)
    refine a_goto (tgt := 12) dX8_asThere_42 rfl ?_
    exact a_sub [1, 2, 0] rfl (p12 l0 l1 x3 μ1 t hk h)
theorem tX8_asThere_12 (E : m_E) (l : Launch) (z : Nat × Nat) (N : Nat) : ∀ (n : Nat) (l0 l1 l2 : Int) (μ : Mm) (t : Mm), m_kd μ l0 = (8, 0) → jX8_asThere_12 N n l0 l1 l2 μ = some t → aX8_asThere E l 1 z 12 [(0, vr l0), (1, vi l1), (2, vi l2)] [] μ (rV t)
  | 0, _, _, _, _, _, _, h => by cases h
  | n + 1, l0, l1, l2, μ, t, hk, h => tX8_asThere_12b E l z (jX8_asThere_12 N n) (tX8_asThere_12 E l z N n) N l0 l1 l2 μ t hk h
theorem tX8_asThere (E : m_E) (l : Launch) (N : Nat) (l0 l1 : Int) (μ : Mm) (t : Mm) (hk : m_kd μ l0 = (8, 0)) (h : jX8_asThere N l0 l1 μ = some t) : TT E l 1 yX8_asThere cX8_asThere 3 none [vr l0, vi l1] μ (rV t) := by
  refine tt_of (L := [(0, vr l0), (1, vi l1)]) (by decide +kernel) (Nat.le_of_ble_eq_true rfl) rfl ?_
  show aX8_asThere E l 1 (m_sz μ, m_sl μ) 0 [(0, vr l0), (1, vi l1)] [] μ (rV t)
  unfold jX8_asThere at h
  refine a_aload_n 0 dX8_asThere_0 rfl rfl ?_
  refine a_aload_n 0 dX8_asThere_1 rfl rfl ?_
  refine a_getfr (c := 8) (i := 61) dX8_asThere_2 fRX8_137 g8_61 rfl hk ?_
  refine a_iload_n 1 dX8_asThere_5 rfl rfl ?_
  refine a_iald dX8_asThere_6 h (fun x1 h => ?_)
  refine a_putfi (c := 8) (i := 74) dX8_asThere_7 fRX8_430 g8_74 (Or.inl rfl) rfl hk h (fun μ1 hm h => ?_)
  have hk := hm.k hk (by decide)
  refine a_iconst dX8_asThere_10 (okI_b _ rfl) ?_
  refine a_istore_n (L' := [(2, vi 0), (0, vr l0), (1, vi l1)]) dX8_asThere_11 rfl (by decide) rfl ?_
  exact a_sub [1, 2, 0] rfl (tX8_asThere_12 E l _ N N l0 l1 0 μ1 t hk h)
-- X8_isTorn
abbrev aX8_isTorn (E : m_E) (l : Launch) (d : Nat) (z : Nat × Nat) (pc : Nat) (L : List (Nat × AV)) (st : List AV) (μ : Mm) (ρ : Option AV × Mm) : Prop := AA E l d z RX8 "isTorn" cX8_isTorn 2 (some .boolean) pc L st μ ρ
theorem tX8_isTorn_17 (E : m_E) (l : Launch) (z : Nat × Nat) (N : Nat) (l0 s0 : Int) (μ : Mm) (t : Int × Mm) (hk : m_kd μ l0 = (8, 0)) (h : jX8_isTorn_17 N l0 s0 μ = some t) : aX8_isTorn E l 1 z 17 [(0, vr l0)] [vi s0] μ (rI t) := by
  unfold jX8_isTorn_17 at h
  exact a_retz dX8_isTorn_17 h
theorem tX8_isTorn (E : m_E) (l : Launch) (N : Nat) (l0 l1 : Int) (μ : Mm) (t : Int × Mm) (hk : m_kd μ l0 = (8, 0)) (h : jX8_isTorn N l0 l1 μ = some t) : TT E l 1 yX8_isTorn cX8_isTorn 2 (some .boolean) [vr l0, vi l1] μ (rI t) := by
  refine tt_of (L := [(0, vr l0), (1, vi l1)]) (by decide +kernel) (Nat.le_of_ble_eq_true rfl) rfl ?_
  show aX8_isTorn E l 1 (m_sz μ, m_sl μ) 0 [(0, vr l0), (1, vi l1)] [] μ (rI t)
  unfold jX8_isTorn at h
  refine a_aload_n 0 dX8_isTorn_0 rfl rfl ?_
  refine a_getfi (c := 8) (i := 78) dX8_isTorn_1 fRX8_327 g8_78 rfl hk ?_
  refine a_iload_n 1 dX8_isTorn_4 rfl rfl ?_
  refine a_ishr dX8_isTorn_5 ?_
  refine a_iconst dX8_isTorn_6 (okI_b _ rfl) ?_
  refine a_iand dX8_isTorn_7 ?_
  refine a_iconst dX8_isTorn_8 (okI_b _ rfl) ?_
  refine a_icmp_ne (tgt := 16) dX8_isTorn_9 rfl h (fun h => ?_) (fun h => ?_)
  ·
    refine a_iconst dX8_isTorn_16 (okI_b _ rfl) ?_
    exact a_sub [0] rfl (tX8_isTorn_17 E l _ N l0 0 μ t hk h)
  ·
    refine a_iconst dX8_isTorn_12 (okI_b _ rfl) ?_
    refine a_goto (tgt := 17) dX8_isTorn_13 rfl ?_
    exact a_sub [0] rfl (tX8_isTorn_17 E l _ N l0 1 μ t hk h)
-- X8_fitsFills
abbrev aX8_fitsFills (E : m_E) (l : Launch) (d : Nat) (z : Nat × Nat) (pc : Nat) (L : List (Nat × AV)) (st : List AV) (μ : Mm) (ρ : Option AV × Mm) : Prop := AA E l d z RX8 "fitsFills" cX8_fitsFills 6 none pc L st μ ρ
theorem tX8_fitsFills_80b (E : m_E) (l : Launch) (z : Nat × Nat) (k80 : Int → Int → Int → Int → Int → Mm → Option (Mm)) (p80 : ∀ (l0 l1 l3 l4 l5 : Int) (μ : Mm) (t : Mm), m_kd μ l0 = (8, 0) → k80 l0 l1 l3 l4 l5 μ = some t → aX8_fitsFills E l 3 z 80 [(0, vr l0), (1, vi l1), (3, vi l3), (4, vi l4), (5, vi l5)] [] μ (rV t)) (N : Nat) (l0 l1 l3 l4 l5 : Int) (μ : Mm) (t : Mm) (hk : m_kd μ l0 = (8, 0)) (h : jX8_fitsFills_80b k80 N l0 l1 l3 l4 l5 μ = some t) : aX8_fitsFills E l 3 z 80 [(0, vr l0), (1, vi l1), (3, vi l3), (4, vi l4), (5, vi l5)] [] μ (rV t) := by
  unfold jX8_fitsFills_80b at h
  refine a_iload 4 dX8_fitsFills_80 rfl ?_
  refine a_aload_n 0 dX8_fitsFills_82 rfl rfl ?_
  refine a_getfi (c := 8) (i := 58) dX8_fitsFills_83 fRX8_324 g8_58 rfl hk ?_
  refine a_icmp_ge (tgt := 121) dX8_fitsFills_86 rfl h (fun h => ?_) (fun h => ?_)
  ·
    refine a_aload_n 0 dX8_fitsFills_121 rfl rfl ?_
    refine a_getfr (c := 8) (i := 71) dX8_fitsFills_122 fRX8_153 g8_71 rfl hk ?_
    refine a_aload_n 0 dX8_fitsFills_125 rfl rfl ?_
    refine a_getfr (c := 8) (i := 32) dX8_fitsFills_126 fRX8_87 g8_32 rfl hk ?_
    refine a_iconst dX8_fitsFills_129 (okI_b _ rfl) ?_
    refine a_iald dX8_fitsFills_130 h (fun x1 h => ?_)
    refine a_iload_n 1 dX8_fitsFills_131 rfl rfl ?_
    refine a_iload_n 2 dX8_fitsFills_132 rfl rfl ?_
    refine a_cSi [vi x1, vi l1, vi l3] [vr (m_gt μ l0 71)] dX8_fitsFills_133 myX8_cell mRX8_448 msX8_cell (fun _ hj => tX8_cell E l N x1 l1 l3 μ _  hj) (by decide) rfl (Nat.le_of_ble_eq_true rfl) h (fun x2 μ1 hm h => ?_)
    have hk := hm.k hk (by decide)
    refine a_dup2 dX8_fitsFills_136 rfl rfl ?_
    refine a_lald dX8_fitsFills_137 h (fun x3 h => ?_)
    refine a_lconst (v := 1) dX8_fitsFills_138 ⟨rfl, okJ_b _ rfl⟩ ?_
    refine a_ladd dX8_fitsFills_139 ?_
    refine a_last dX8_fitsFills_140 h (fun μ2 hm h => ?_)
    have hk := hm.k hk (by decide)
    exact a_ret0 dX8_fitsFills_141 h
  ·
    refine a_iload_n 2 dX8_fitsFills_89 rfl rfl ?_
    refine a_aload_n 0 dX8_fitsFills_90 rfl rfl ?_
    refine a_getfr (c := 8) (i := 59) dX8_fitsFills_91 fRX8_131 g8_59 rfl hk ?_
    refine a_iload 4 dX8_fitsFills_94 rfl ?_
    refine a_iald dX8_fitsFills_96 h (fun x4 h => ?_)
    refine a_cSi [vi x4] [vi l3] dX8_fitsFills_97 myX8_taken mRX8_391 msX8_taken (fun _ hj => tX8_taken E l N x4 μ _  hj) (by decide) rfl (Nat.le_of_ble_eq_true rfl) h (fun x5 μ3 hm h => ?_)
    have hk := hm.k hk (by decide)
    refine a_iload 3 dX8_fitsFills_100 rfl ?_
    refine a_cSi [vi l4] [vi x5, vi l3] dX8_fitsFills_102 myX8_oneOf mRX8_433 msX8_oneOf (fun _ hj => tX8_oneOf E l N l4 μ3 _  hj) (by decide) rfl (Nat.le_of_ble_eq_true rfl) h (fun x6 μ4 hm h => ?_)
    have hk := hm.k hk (by decide)
    refine a_imul dX8_fitsFills_105 ?_
    refine a_iadd dX8_fitsFills_106 ?_
    refine a_nmi h (fun x7 h => ?_)
    refine a_istore_n (L' := [(3, vi x7), (0, vr l0), (1, vi l1), (4, vi l4), (5, vi l5)]) dX8_fitsFills_107 rfl (by decide) rfl ?_
    refine a_iload 3 dX8_fitsFills_108 rfl ?_
    refine a_cSi [vi l4] [] dX8_fitsFills_110 myX8_later mRX8_436 msX8_later (fun _ hj => tX8_later E l N l4 μ4 _  hj) (by decide) rfl (Nat.le_of_ble_eq_true rfl) h (fun x8 μ5 hm h => ?_)
    have hk := hm.k hk (by decide)
    refine a_istore (L' := [(4, vi x8), (3, vi x7), (0, vr l0), (1, vi l1), (5, vi l5)]) dX8_fitsFills_113 (by decide) rfl ?_
    refine a_iinc (F := fun x9 => [(5, vi x9), (4, vi x8), (3, vi x7), (0, vr l0), (1, vi l1)]) 4 dX8_fitsFills_115 rfl (by decide) h (fun _ => rfl) (fun x9 h => ?_)
    refine a_goto (tgt := 80) dX8_fitsFills_118 rfl ?_
    exact a_sub [3, 4, 2, 1, 0] rfl (p80 l0 l1 x7 x8 x9 μ5 t hk h)
theorem tX8_fitsFills_80 (E : m_E) (l : Launch) (z : Nat × Nat) (N : Nat) : ∀ (n : Nat) (l0 l1 l3 l4 l5 : Int) (μ : Mm) (t : Mm), m_kd μ l0 = (8, 0) → jX8_fitsFills_80 N n l0 l1 l3 l4 l5 μ = some t → aX8_fitsFills E l 3 z 80 [(0, vr l0), (1, vi l1), (3, vi l3), (4, vi l4), (5, vi l5)] [] μ (rV t)
  | 0, _, _, _, _, _, _, _, _, h => by cases h
  | n + 1, l0, l1, l3, l4, l5, μ, t, hk, h => tX8_fitsFills_80b E l z (jX8_fitsFills_80 N n) (tX8_fitsFills_80 E l z N n) N l0 l1 l3 l4 l5 μ t hk h
theorem tX8_fitsFills_54 (E : m_E) (l : Launch) (z : Nat × Nat) (N : Nat) (l0 l1 s0 : Int) (μ : Mm) (t : Mm) (hk : m_kd μ l0 = (8, 0)) (h : jX8_fitsFills_54 N l0 l1 s0 μ = some t) : aX8_fitsFills E l 3 z 54 [(0, vr l0), (1, vi l1)] [vi s0] μ (rV t) := by
  unfold jX8_fitsFills_54 at h
  refine a_istore_n (L' := [(2, vi s0), (0, vr l0), (1, vi l1)]) dX8_fitsFills_54 rfl (by decide) rfl ?_
  refine a_iload_n 0 dX8_fitsFills_55 rfl rfl ?_
  refine a_aload_n 1 dX8_fitsFills_56 rfl rfl ?_
  refine a_getfi (c := 8) (i := 67) dX8_fitsFills_57 fRX8_401 g8_67 rfl hk ?_
  refine a_icmp_eq (tgt := 64) dX8_fitsFills_60 rfl h (fun h => ?_) (fun h => ?_)
  ·
    refine a_iconst dX8_fitsFills_64 (okI_b _ rfl) ?_
    refine a_istore_n (L' := [(3, vi 0), (2, vi s0), (0, vr l0), (1, vi l1)]) dX8_fitsFills_65 rfl (by decide) rfl ?_
    refine a_iload_n 3 dX8_fitsFills_66 rfl rfl ?_
    refine a_istore (L' := [(4, vi l1), (3, vi 0), (2, vi s0), (0, vr l0), (1, vi l1)]) dX8_fitsFills_67 (by decide) rfl ?_
    refine a_aload_n 3 dX8_fitsFills_69 rfl rfl ?_
    refine a_getfr (c := 8) (i := 60) dX8_fitsFills_70 fRX8_134 g8_60 rfl hk ?_
    refine a_aload_n 3 dX8_fitsFills_73 rfl rfl ?_
    refine a_getfi (c := 8) (i := 65) dX8_fitsFills_74 fRX8_385 g8_65 rfl hk ?_
    refine a_iald dX8_fitsFills_77 h (fun x1 h => ?_)
    refine a_istore (L' := [(5, vi x1), (4, vi l1), (3, vi 0), (2, vi s0), (0, vr l0), (1, vi l1)]) dX8_fitsFills_78 (by decide) rfl ?_
    exact a_sub [4, 5, 2, 1, 0] rfl (tX8_fitsFills_80 E l _ N N l0 l1 0 l1 x1 μ t hk h)
  ·
    exact a_ret0 dX8_fitsFills_63 h
theorem tX8_fitsFills (E : m_E) (l : Launch) (N : Nat) (l0 l1 : Int) (μ : Mm) (t : Mm) (hk : m_kd μ l0 = (8, 0)) (h : jX8_fitsFills N l0 l1 μ = some t) : TT E l 3 yX8_fitsFills cX8_fitsFills 6 none [vr l0, vi l1] μ (rV t) := by
  refine tt_of (L := [(0, vr l0), (1, vi l1)]) (by decide +kernel) (Nat.le_of_ble_eq_true rfl) rfl ?_
  show aX8_fitsFills E l 3 (m_sz μ, m_sl μ) 0 [(0, vr l0), (1, vi l1)] [] μ (rV t)
  unfold jX8_fitsFills at h
  refine a_aload_n 0 dX8_fitsFills_0 rfl rfl ?_
  refine a_aload_n 0 dX8_fitsFills_1 rfl rfl ?_
  refine a_getfr (c := 8) (i := 32) dX8_fitsFills_2 fRX8_87 g8_32 rfl hk ?_
  refine a_iconst dX8_fitsFills_5 (okI_b _ rfl) ?_
  refine a_iald dX8_fitsFills_6 h (fun x1 h => ?_)
  refine a_cVi (c := 8) [vi x1] [] dX8_fitsFills_7 myX8_isTorn mRX8_496 mvX8_isTorn rfl (by decide) hk (fun _ hj => tX8_isTorn E l N l0 x1 μ _ hk hj) (by decide) rfl (Nat.le_of_ble_eq_true rfl) h (fun x2 μ1 hm h => ?_)
  have hk := hm.k hk (by decide)
  refine a_if_eq (tgt := 23) dX8_fitsFills_10 rfl h (fun h => ?_) (fun h => ?_)
  ·
    refine a_iload_n 1 dX8_fitsFills_23 rfl rfl ?_
    refine a_if_ne (tgt := 31) dX8_fitsFills_24 rfl h (fun h => ?_) (fun h => ?_)
    ·
      refine a_iload_n 1 dX8_fitsFills_31 rfl rfl ?_
      refine a_iconst dX8_fitsFills_32 (okI_b _ rfl) ?_
      refine a_iremn (by decide) dX8_fitsFills_33 ?_
      refine a_if_le (tgt := 41) dX8_fitsFills_34 rfl h (fun h => ?_) (fun h => ?_)
      ·
        refine a_iload_n 1 dX8_fitsFills_41 rfl rfl ?_
        refine a_iconst dX8_fitsFills_42 (okI_b _ rfl) ?_
        refine a_idivn (by decide) dX8_fitsFills_43 ?_
        refine a_iconst dX8_fitsFills_44 (okI_b _ rfl) ?_
        refine a_iremn (by decide) dX8_fitsFills_45 ?_
        refine a_if_le (tgt := 53) dX8_fitsFills_46 rfl h (fun h => ?_) (fun h => ?_)
        ·
          refine a_iconst dX8_fitsFills_53 (okI_b _ rfl) ?_
          exact a_sub [0, 1] rfl (tX8_fitsFills_54 E l _ N l0 l1 1 μ1 t hk h)
        ·
          refine a_iconst dX8_fitsFills_49 (okI_b _ rfl) ?_
          refine a_goto (tgt := 54) dX8_fitsFills_50 rfl ?_
          exact a_sub [0, 1] rfl (tX8_fitsFills_54 E l _ N l0 l1 2 μ1 t hk h)
      ·
        refine a_iconst dX8_fitsFills_37 (okI_b _ rfl) ?_
        refine a_goto (tgt := 54) dX8_fitsFills_38 rfl ?_
        exact a_sub [0, 1] rfl (tX8_fitsFills_54 E l _ N l0 l1 3 μ1 t hk h)
    ·
      refine a_iconst dX8_fitsFills_27 (okI_b _ rfl) ?_
      refine a_goto (tgt := 54) dX8_fitsFills_28 rfl ?_
      exact a_sub [0, 1] rfl (tX8_fitsFills_54 E l _ N l0 l1 0 μ1 t hk h)
  ·
    refine a_aload_n 0 dX8_fitsFills_13 rfl rfl ?_
    refine a_aload_n 0 dX8_fitsFills_14 rfl rfl ?_
    refine a_getfr (c := 8) (i := 71) dX8_fitsFills_15 fRX8_153 g8_71 rfl hk ?_
    refine a_iload_n 1 dX8_fitsFills_18 rfl rfl ?_
    refine a_cVv (c := 8) [vr (m_gt μ1 l0 71), vi l1] [] dX8_fitsFills_19 myX8_fillsAhead mRX8_466 mvX8_fillsAhead rfl (by decide) hk (fun _ hj => tX8_fillsAhead E l N l0 (m_gt μ1 l0 71) l1 μ1 _ hk hj) (by decide) rfl (Nat.le_of_ble_eq_true rfl) h (fun μ2 hm h => ?_)
    have hk := hm.k hk (by decide)
    exact a_ret0 dX8_fitsFills_22 h
-- X8_tellsFits
abbrev aX8_tellsFits (E : m_E) (l : Launch) (d : Nat) (z : Nat × Nat) (pc : Nat) (L : List (Nat × AV)) (st : List AV) (μ : Mm) (ρ : Option AV × Mm) : Prop := AA E l d z RX8 "tellsFits" cX8_tellsFits 3 none pc L st μ ρ
theorem tX8_tellsFits_152 (E : m_E) (l : Launch) (z : Nat × Nat) (k73 : Int → Int → Mm → Option (Mm)) (p73 : ∀ (l0 l1 : Int) (μ : Mm) (t : Mm), m_kd μ l0 = (8, 0) → k73 l0 l1 μ = some t → aX8_tellsFits E l 7 z 73 [(0, vr l0), (1, vi l1)] [] μ (rV t)) (k79 : Int → Int → Int → Mm → Option (Mm)) (p79 : ∀ (l0 l1 l2 : Int) (μ : Mm) (t : Mm), m_kd μ l0 = (8, 0) → k79 l0 l1 l2 μ = some t → aX8_tellsFits E l 7 z 79 [(0, vr l0), (1, vi l1), (2, vi l2)] [] μ (rV t)) (N : Nat) (l0 l1 l2 : Int) (μ : Mm) (t : Mm) (hk : m_kd μ l0 = (8, 0)) (h : jX8_tellsFits_152 k73 k79 N l0 l1 l2 μ = some t) : aX8_tellsFits E l 7 z 152 [(0, vr l0), (1, vi l1), (2, vi l2)] [] μ (rV t) := by
  unfold jX8_tellsFits_152 at h
  refine a_iinc (F := fun x1 => [(2, vi x1), (0, vr l0), (1, vi l1)]) 2 dX8_tellsFits_152 rfl (by decide) h (fun _ => rfl) (fun x1 h => ?_)
  refine a_goto (tgt := 79) dX8_tellsFits_155 rfl ?_
  exact a_sub [1, 2, 0] rfl (p79 l0 l1 x1 μ t hk h)
theorem tX8_tellsFits_79b (E : m_E) (l : Launch) (z : Nat × Nat) (k73 : Int → Int → Mm → Option (Mm)) (p73 : ∀ (l0 l1 : Int) (μ : Mm) (t : Mm), m_kd μ l0 = (8, 0) → k73 l0 l1 μ = some t → aX8_tellsFits E l 7 z 73 [(0, vr l0), (1, vi l1)] [] μ (rV t)) (k79 : Int → Int → Int → Mm → Option (Mm)) (p79 : ∀ (l0 l1 l2 : Int) (μ : Mm) (t : Mm), m_kd μ l0 = (8, 0) → k79 l0 l1 l2 μ = some t → aX8_tellsFits E l 7 z 79 [(0, vr l0), (1, vi l1), (2, vi l2)] [] μ (rV t)) (N : Nat) (l0 l1 l2 : Int) (μ : Mm) (t : Mm) (hk : m_kd μ l0 = (8, 0)) (h : jX8_tellsFits_79b k73 k79 N l0 l1 l2 μ = some t) : aX8_tellsFits E l 7 z 79 [(0, vr l0), (1, vi l1), (2, vi l2)] [] μ (rV t) := by
  unfold jX8_tellsFits_79b at h
  refine a_iload_n 2 dX8_tellsFits_79 rfl rfl ?_
  refine a_bipush dX8_tellsFits_80 ⟨rfl, okI_b _ rfl⟩ ?_
  refine a_icmp_ge (tgt := 158) dX8_tellsFits_82 rfl h (fun h => ?_) (fun h => ?_)
  ·
    refine a_iinc (F := fun x1 => [(1, vi x1), (0, vr l0), (2, vi l2)]) 1 dX8_tellsFits_158 rfl (by decide) h (fun _ => rfl) (fun x1 h => ?_)
    refine a_goto (tgt := 73) dX8_tellsFits_161 rfl ?_
    exact a_sub [1, 0] rfl (p73 l0 x1 μ t hk h)
  ·
    refine a_aload_n 0 dX8_tellsFits_85 rfl rfl ?_
    refine a_iload_n 1 dX8_tellsFits_86 rfl rfl ?_
    refine a_iload_n 2 dX8_tellsFits_87 rfl rfl ?_
    refine a_cVi (c := 8) [vi l1, vi l2] [] dX8_tellsFits_88 myX8_mayOwe mRX8_470 mvX8_mayOwe rfl (by decide) hk (fun _ hj => tX8_mayOwe E l N l0 l1 l2 μ _ hk hj) (by decide) rfl (Nat.le_of_ble_eq_true rfl) h (fun x2 μ1 hm h => ?_)
    have hk := hm.k hk (by decide)
    refine a_if_eq (tgt := 152) dX8_tellsFits_91 rfl h (fun h => ?_) (fun h => ?_)
    ·
      exact a_sub [0, 1, 2] rfl (tX8_tellsFits_152 E l _ k73 p73 k79 p79 N l0 l1 l2 μ1 t hk h)
    ·
      refine a_iload_n 2 dX8_tellsFits_94 rfl rfl ?_
      refine a_cSi [vi l2] [] dX8_tellsFits_95 myX8_isOwing mRX8_473 msX8_isOwing (fun _ hj => tX8_isOwing E l N l2 μ1 _  hj) (by decide) rfl (Nat.le_of_ble_eq_true rfl) h (fun x3 μ2 hm h => ?_)
      have hk := hm.k hk (by decide)
      refine a_if_ne (tgt := 104) dX8_tellsFits_98 rfl h (fun h => ?_) (fun h => ?_)
      ·
        refine a_aload_n 0 dX8_tellsFits_104 rfl rfl ?_
        refine a_iload_n 1 dX8_tellsFits_105 rfl rfl ?_
        refine a_cVi (c := 8) [vi l1] [] dX8_tellsFits_106 myX8_isTorn mRX8_496 mvX8_isTorn rfl (by decide) hk (fun _ hj => tX8_isTorn E l N l0 l1 μ2 _ hk hj) (by decide) rfl (Nat.le_of_ble_eq_true rfl) h (fun x4 μ3 hm h => ?_)
        have hk := hm.k hk (by decide)
        refine a_if_eq (tgt := 125) dX8_tellsFits_109 rfl h (fun h => ?_) (fun h => ?_)
        ·
          refine a_aload_n 0 dX8_tellsFits_125 rfl rfl ?_
          refine a_iload_n 1 dX8_tellsFits_126 rfl rfl ?_
          refine a_cVv (c := 8) [vi l1] [] dX8_tellsFits_127 myX8_asThere mRX8_502 mvX8_asThere rfl (by decide) hk (fun _ hj => tX8_asThere E l N l0 l1 μ3 _ hk hj) (by decide) rfl (Nat.le_of_ble_eq_true rfl) h (fun μ4 hm h => ?_)
          have hk := hm.k hk (by decide)
          refine a_aload_n 0 dX8_tellsFits_130 rfl rfl ?_
          refine a_iload_n 1 dX8_tellsFits_131 rfl rfl ?_
          refine a_iload_n 2 dX8_tellsFits_132 rfl rfl ?_
          refine a_iconst dX8_tellsFits_133 (okI_b _ rfl) ?_
          refine a_iconst dX8_tellsFits_134 (okI_b _ rfl) ?_
          refine a_iconst dX8_tellsFits_135 (okI_b _ rfl) ?_
          refine a_cVi (c := 8) [vi l1, vi l2, vi 0, vi 0, vi 0] [] dX8_tellsFits_136 myX8_ends mRX8_458 mvX8_ends rfl (by decide) hk (fun _ hj => tX8_ends E l N l0 l1 l2 0 0 0 μ4 _ hk hj) (by decide) rfl (Nat.le_of_ble_eq_true rfl) h (fun x5 μ5 hm h => ?_)
          have hk := hm.k hk (by decide)
          refine a_if_eq (tgt := 152) dX8_tellsFits_139 rfl h (fun h => ?_) (fun h => ?_)
          ·
            exact a_sub [0, 1, 2] rfl (tX8_tellsFits_152 E l _ k73 p73 k79 p79 N l0 l1 l2 μ5 t hk h)
          ·
            refine a_aload_n 0 dX8_tellsFits_142 rfl rfl ?_
            refine a_aload_n 0 dX8_tellsFits_143 rfl rfl ?_
            refine a_getfr (c := 8) (i := 71) dX8_tellsFits_144 fRX8_153 g8_71 rfl hk ?_
            refine a_iload_n 1 dX8_tellsFits_147 rfl rfl ?_
            refine a_iload_n 2 dX8_tellsFits_148 rfl rfl ?_
            refine a_cVv (c := 8) [vr (m_gt μ5 l0 71), vi l1, vi l2] [] dX8_tellsFits_149 myX8_lays mRX8_462 mvX8_lays rfl (by decide) hk (fun _ hj => tX8_lays E l N l0 (m_gt μ5 l0 71) l1 l2 μ5 _ hk hj) (by decide) rfl (Nat.le_of_ble_eq_true rfl) h (fun μ6 hm h => ?_)
            have hk := hm.k hk (by decide)
            exact a_sub [0, 1, 2] rfl (tX8_tellsFits_152 E l _ k73 p73 k79 p79 N l0 l1 l2 μ6 t hk h)
        ·
          refine a_aload_n 0 dX8_tellsFits_112 rfl rfl ?_
          refine a_aload_n 0 dX8_tellsFits_113 rfl rfl ?_
          refine a_getfr (c := 8) (i := 71) dX8_tellsFits_114 fRX8_153 g8_71 rfl hk ?_
          refine a_iload_n 1 dX8_tellsFits_117 rfl rfl ?_
          refine a_iload_n 2 dX8_tellsFits_118 rfl rfl ?_
          refine a_cVv (c := 8) [vr (m_gt μ3 l0 71), vi l1, vi l2] [] dX8_tellsFits_119 myX8_opensFrame mRX8_476 mvX8_opensFrame rfl (by decide) hk (fun _ hj => tX8_opensFrame E l N l0 (m_gt μ3 l0 71) l1 l2 μ3 _ hk hj) (by decide) rfl (Nat.le_of_ble_eq_true rfl) h (fun μ7 hm h => ?_)
          have hk := hm.k hk (by decide)
          refine a_goto (tgt := 152) dX8_tellsFits_122 rfl ?_
          exact a_sub [0, 1, 2] rfl (tX8_tellsFits_152 E l _ k73 p73 k79 p79 N l0 l1 l2 μ7 t hk h)
      ·
        refine a_goto (tgt := 152) dX8_tellsFits_101 rfl ?_
        exact a_sub [0, 1, 2] rfl (tX8_tellsFits_152 E l _ k73 p73 k79 p79 N l0 l1 l2 μ2 t hk h)
theorem tX8_tellsFits_79 (E : m_E) (l : Launch) (z : Nat × Nat) (k73 : Int → Int → Mm → Option (Mm)) (p73 : ∀ (l0 l1 : Int) (μ : Mm) (t : Mm), m_kd μ l0 = (8, 0) → k73 l0 l1 μ = some t → aX8_tellsFits E l 7 z 73 [(0, vr l0), (1, vi l1)] [] μ (rV t)) (N : Nat) : ∀ (n : Nat) (l0 l1 l2 : Int) (μ : Mm) (t : Mm), m_kd μ l0 = (8, 0) → jX8_tellsFits_79 k73 N n l0 l1 l2 μ = some t → aX8_tellsFits E l 7 z 79 [(0, vr l0), (1, vi l1), (2, vi l2)] [] μ (rV t)
  | 0, _, _, _, _, _, _, h => by cases h
  | n + 1, l0, l1, l2, μ, t, hk, h => tX8_tellsFits_79b E l z k73 p73 (jX8_tellsFits_79 k73 N n) (tX8_tellsFits_79 E l z k73 p73 N n) N l0 l1 l2 μ t hk h
theorem tX8_tellsFits_73b (E : m_E) (l : Launch) (z : Nat × Nat) (k73 : Int → Int → Mm → Option (Mm)) (p73 : ∀ (l0 l1 : Int) (μ : Mm) (t : Mm), m_kd μ l0 = (8, 0) → k73 l0 l1 μ = some t → aX8_tellsFits E l 7 z 73 [(0, vr l0), (1, vi l1)] [] μ (rV t)) (N : Nat) (l0 l1 : Int) (μ : Mm) (t : Mm) (hk : m_kd μ l0 = (8, 0)) (h : jX8_tellsFits_73b k73 N l0 l1 μ = some t) : aX8_tellsFits E l 7 z 73 [(0, vr l0), (1, vi l1)] [] μ (rV t) := by
  unfold jX8_tellsFits_73b at h
  refine a_iload_n 1 dX8_tellsFits_73 rfl rfl ?_
  refine a_if_lt (tgt := 164) dX8_tellsFits_74 rfl h (fun h => ?_) (fun h => ?_)
  ·
    exact a_ret0 dX8_tellsFits_164 h
  ·
    refine a_iconst dX8_tellsFits_77 (okI_b _ rfl) ?_
    refine a_istore_n (L' := [(2, vi 0), (0, vr l0), (1, vi l1)]) dX8_tellsFits_78 rfl (by decide) rfl ?_
    exact a_sub [1, 2, 0] rfl (tX8_tellsFits_79 E l _ k73 p73 N N l0 l1 0 μ t hk h)
theorem tX8_tellsFits_73 (E : m_E) (l : Launch) (z : Nat × Nat) (N : Nat) : ∀ (n : Nat) (l0 l1 : Int) (μ : Mm) (t : Mm), m_kd μ l0 = (8, 0) → jX8_tellsFits_73 N n l0 l1 μ = some t → aX8_tellsFits E l 7 z 73 [(0, vr l0), (1, vi l1)] [] μ (rV t)
  | 0, _, _, _, _, _, h => by cases h
  | n + 1, l0, l1, μ, t, hk, h => tX8_tellsFits_73b E l z (jX8_tellsFits_73 N n) (tX8_tellsFits_73 E l z N n) N l0 l1 μ t hk h
theorem tX8_tellsFits_58 (E : m_E) (l : Launch) (z : Nat × Nat) (k40 : Int → Int → Mm → Option (Mm)) (p40 : ∀ (l0 l1 : Int) (μ : Mm) (t : Mm), m_kd μ l0 = (8, 0) → k40 l0 l1 μ = some t → aX8_tellsFits E l 7 z 40 [(0, vr l0), (1, vi l1)] [] μ (rV t)) (N : Nat) (l0 l1 : Int) (μ : Mm) (t : Mm) (hk : m_kd μ l0 = (8, 0)) (h : jX8_tellsFits_58 k40 N l0 l1 μ = some t) : aX8_tellsFits E l 7 z 58 [(0, vr l0), (1, vi l1)] [] μ (rV t) := by
  unfold jX8_tellsFits_58 at h
  refine a_iinc (F := fun x1 => [(1, vi x1), (0, vr l0)]) 1 dX8_tellsFits_58 rfl (by decide) h (fun _ => rfl) (fun x1 h => ?_)
  refine a_goto (tgt := 40) dX8_tellsFits_61 rfl ?_
  exact a_sub [1, 0] rfl (p40 l0 x1 μ t hk h)
theorem tX8_tellsFits_40b (E : m_E) (l : Launch) (z : Nat × Nat) (k40 : Int → Int → Mm → Option (Mm)) (p40 : ∀ (l0 l1 : Int) (μ : Mm) (t : Mm), m_kd μ l0 = (8, 0) → k40 l0 l1 μ = some t → aX8_tellsFits E l 7 z 40 [(0, vr l0), (1, vi l1)] [] μ (rV t)) (N : Nat) (l0 l1 : Int) (μ : Mm) (t : Mm) (hk : m_kd μ l0 = (8, 0)) (h : jX8_tellsFits_40b k40 N l0 l1 μ = some t) : aX8_tellsFits E l 7 z 40 [(0, vr l0), (1, vi l1)] [] μ (rV t) := by
  unfold jX8_tellsFits_40b at h
  refine a_iload_n 1 dX8_tellsFits_40 rfl rfl ?_
  refine a_bipush dX8_tellsFits_41 ⟨rfl, okI_b _ rfl⟩ ?_
  refine a_icmp_ge (tgt := 64) dX8_tellsFits_43 rfl h (fun h => ?_) (fun h => ?_)
  ·
    refine a_aload_n 0 dX8_tellsFits_64 rfl rfl ?_
    refine a_getfr (c := 8) (i := 32) dX8_tellsFits_65 fRX8_87 g8_32 rfl hk ?_
    refine a_iconst dX8_tellsFits_68 (okI_b _ rfl) ?_
    refine a_iald dX8_tellsFits_69 h (fun x1 h => ?_)
    refine a_iconst dX8_tellsFits_70 (okI_b _ rfl) ?_
    refine a_isub dX8_tellsFits_71 ?_
    refine a_nmi h (fun x2 h => ?_)
    refine a_istore_n (L' := [(1, vi x2), (0, vr l0)]) dX8_tellsFits_72 rfl (by decide) rfl ?_
    exact a_sub [1, 0] rfl (tX8_tellsFits_73 E l _ N N l0 x2 μ t hk h)
  ·
    refine a_iload_n 1 dX8_tellsFits_46 rfl rfl ?_
    refine a_cSi [vi l1] [] dX8_tellsFits_47 myX8_isOwing mRX8_473 msX8_isOwing (fun _ hj => tX8_isOwing E l N l1 μ _  hj) (by decide) rfl (Nat.le_of_ble_eq_true rfl) h (fun x3 μ1 hm h => ?_)
    have hk := hm.k hk (by decide)
    refine a_if_eq (tgt := 58) dX8_tellsFits_50 rfl h (fun h => ?_) (fun h => ?_)
    ·
      exact a_sub [0, 1] rfl (tX8_tellsFits_58 E l _ k40 p40 N l0 l1 μ1 t hk h)
    ·
      refine a_aload_n 0 dX8_tellsFits_53 rfl rfl ?_
      refine a_iload_n 1 dX8_tellsFits_54 rfl rfl ?_
      refine a_cVv (c := 8) [vi l1] [] dX8_tellsFits_55 myX8_fitsFills mRX8_499 mvX8_fitsFills rfl (by decide) hk (fun _ hj => tX8_fitsFills E l N l0 l1 μ1 _ hk hj) (by decide) rfl (Nat.le_of_ble_eq_true rfl) h (fun μ2 hm h => ?_)
      have hk := hm.k hk (by decide)
      exact a_sub [0, 1] rfl (tX8_tellsFits_58 E l _ k40 p40 N l0 l1 μ2 t hk h)
theorem tX8_tellsFits_40 (E : m_E) (l : Launch) (z : Nat × Nat) (N : Nat) : ∀ (n : Nat) (l0 l1 : Int) (μ : Mm) (t : Mm), m_kd μ l0 = (8, 0) → jX8_tellsFits_40 N n l0 l1 μ = some t → aX8_tellsFits E l 7 z 40 [(0, vr l0), (1, vi l1)] [] μ (rV t)
  | 0, _, _, _, _, _, h => by cases h
  | n + 1, l0, l1, μ, t, hk, h => tX8_tellsFits_40b E l z (jX8_tellsFits_40 N n) (tX8_tellsFits_40 E l z N n) N l0 l1 μ t hk h
theorem tX8_tellsFits_19b (E : m_E) (l : Launch) (z : Nat × Nat) (k19 : Int → Int → Mm → Option (Mm)) (p19 : ∀ (l0 l1 : Int) (μ : Mm) (t : Mm), m_kd μ l0 = (8, 0) → k19 l0 l1 μ = some t → aX8_tellsFits E l 7 z 19 [(0, vr l0), (1, vi l1)] [] μ (rV t)) (N : Nat) (l0 l1 : Int) (μ : Mm) (t : Mm) (hk : m_kd μ l0 = (8, 0)) (h : jX8_tellsFits_19b k19 N l0 l1 μ = some t) : aX8_tellsFits E l 7 z 19 [(0, vr l0), (1, vi l1)] [] μ (rV t) := by
  unfold jX8_tellsFits_19b at h
  refine a_iload_n 1 dX8_tellsFits_19 rfl rfl ?_
  refine a_ldc (x := 228960) dX8_tellsFits_20 kRX8_149 ⟨rfl, okI_b _ rfl⟩ ?_
  refine a_icmp_ge (tgt := 38) dX8_tellsFits_22 rfl h (fun h => ?_) (fun h => ?_)
  ·
    refine a_iconst dX8_tellsFits_38 (okI_b _ rfl) ?_
    refine a_istore_n (L' := [(1, vi 0), (0, vr l0)]) dX8_tellsFits_39 rfl (by decide) rfl ?_
    exact a_sub [1, 0] rfl (tX8_tellsFits_40 E l _ N N l0 0 μ t hk h)
  ·
    refine a_aload_n 0 dX8_tellsFits_25 rfl rfl ?_
    refine a_getfr (c := 8) (i := 71) dX8_tellsFits_26 fRX8_153 g8_71 rfl hk ?_
    refine a_iload_n 1 dX8_tellsFits_29 rfl rfl ?_
    refine a_lconst (v := 0) dX8_tellsFits_30 ⟨rfl, okJ_b _ rfl⟩ ?_
    refine a_last dX8_tellsFits_31 h (fun μ1 hm h => ?_)
    have hk := hm.k hk (by decide)
    refine a_iinc (F := fun x1 => [(1, vi x1), (0, vr l0)]) 1 dX8_tellsFits_32 rfl (by decide) h (fun _ => rfl) (fun x1 h => ?_)
    refine a_goto (tgt := 19) dX8_tellsFits_35 rfl ?_
    exact a_sub [1, 0] rfl (p19 l0 x1 μ1 t hk h)
theorem tX8_tellsFits_19 (E : m_E) (l : Launch) (z : Nat × Nat) (N : Nat) : ∀ (n : Nat) (l0 l1 : Int) (μ : Mm) (t : Mm), m_kd μ l0 = (8, 0) → jX8_tellsFits_19 N n l0 l1 μ = some t → aX8_tellsFits E l 7 z 19 [(0, vr l0), (1, vi l1)] [] μ (rV t)
  | 0, _, _, _, _, _, h => by cases h
  | n + 1, l0, l1, μ, t, hk, h => tX8_tellsFits_19b E l z (jX8_tellsFits_19 N n) (tX8_tellsFits_19 E l z N n) N l0 l1 μ t hk h
theorem tX8_tellsFits (E : m_E) (l : Launch) (N : Nat) (l0 : Int) (μ : Mm) (t : Mm) (hk : m_kd μ l0 = (8, 0)) (h : jX8_tellsFits N l0 μ = some t) : TT E l 7 yX8_tellsFits cX8_tellsFits 3 none [vr l0] μ (rV t) := by
  refine tt_of (L := [(0, vr l0)]) (by decide +kernel) (Nat.le_of_ble_eq_true rfl) rfl ?_
  show aX8_tellsFits E l 7 (m_sz μ, m_sl μ) 0 [(0, vr l0)] [] μ (rV t)
  unfold jX8_tellsFits at h
  refine a_aload_n 0 dX8_tellsFits_0 rfl rfl ?_
  refine a_cVv (c := 8) [] [] dX8_tellsFits_1 myX8_goesThrough mRX8_410 mvX8_goesThrough rfl (by decide) hk (fun _ hj => tX8_goesThrough E l N l0 μ _ hk hj) (by decide) rfl (Nat.le_of_ble_eq_true rfl) h (fun μ1 hm h => ?_)
  have hk := hm.k hk (by decide)
  refine a_aload_n 0 dX8_tellsFits_4 rfl rfl ?_
  refine a_getfz (c := 8) (i := 72) dX8_tellsFits_5 fRX8_334 g8_72 rfl hk ?_
  refine a_if_eq (tgt := 12) dX8_tellsFits_8 rfl h (fun h => ?_) (fun h => ?_)
  ·
    refine a_aload_n 0 dX8_tellsFits_12 rfl rfl ?_
    refine a_iconst dX8_tellsFits_13 (okI_b _ rfl) ?_
    refine a_putfz (c := 8) (i := 72) dX8_tellsFits_14 fRX8_334 g8_72 (Or.inl rfl) rfl (Or.inr rfl) hk h (fun μ2 hm h => ?_)
    have hk := hm.k hk (by decide)
    refine a_iconst dX8_tellsFits_17 (okI_b _ rfl) ?_
    refine a_istore_n (L' := [(1, vi 0), (0, vr l0)]) dX8_tellsFits_18 rfl (by decide) rfl ?_
    exact a_sub [1, 0] rfl (tX8_tellsFits_19 E l _ N N l0 0 μ2 t hk h)
  ·
    exact a_ret0 dX8_tellsFits_11 h
-- X8_fits
abbrev aX8_fits (E : m_E) (l : Launch) (d : Nat) (z : Nat × Nat) (pc : Nat) (L : List (Nat × AV)) (st : List AV) (μ : Mm) (ρ : Option AV × Mm) : Prop := AA E l d z RX8 "fits" cX8_fits 6 (some .long) pc L st μ ρ
theorem tX8_fits_62 (E : m_E) (l : Launch) (z : Nat × Nat) (k26 : Int → Int → Int → Int → Int → Mm → Option (Int × Mm)) (p26 : ∀ (l0 l1 l2 l3 l5 : Int) (μ : Mm) (t : Int × Mm), m_kd μ l0 = (8, 0) → k26 l0 l1 l2 l3 l5 μ = some t → aX8_fits E l 8 z 26 [(0, vr l0), (1, vi l1), (2, vi l2), (3, vl l3), (5, vi l5)] [] μ (rJ t)) (N : Nat) (l0 l1 l2 l3 l5 : Int) (μ : Mm) (t : Int × Mm) (hk : m_kd μ l0 = (8, 0)) (h : jX8_fits_62 k26 N l0 l1 l2 l3 l5 μ = some t) : aX8_fits E l 8 z 62 [(0, vr l0), (1, vi l1), (2, vi l2), (3, vl l3), (5, vi l5)] [] μ (rJ t) := by
  unfold jX8_fits_62 at h
  refine a_iinc (F := fun x1 => [(5, vi x1), (0, vr l0), (1, vi l1), (2, vi l2), (3, vl l3)]) 4 dX8_fits_62 rfl (by decide) h (fun _ => rfl) (fun x1 h => ?_)
  refine a_goto (tgt := 26) dX8_fits_65 rfl ?_
  exact a_sub [1, 2, 3, 4, 0] rfl (p26 l0 l1 l2 l3 x1 μ t hk h)
theorem tX8_fits_44 (E : m_E) (l : Launch) (z : Nat × Nat) (k26 : Int → Int → Int → Int → Int → Mm → Option (Int × Mm)) (p26 : ∀ (l0 l1 l2 l3 l5 : Int) (μ : Mm) (t : Int × Mm), m_kd μ l0 = (8, 0) → k26 l0 l1 l2 l3 l5 μ = some t → aX8_fits E l 8 z 26 [(0, vr l0), (1, vi l1), (2, vi l2), (3, vl l3), (5, vi l5)] [] μ (rJ t)) (N : Nat) (l0 l1 l2 l3 l5 : Int) (μ : Mm) (t : Int × Mm) (hk : m_kd μ l0 = (8, 0)) (h : jX8_fits_44 k26 N l0 l1 l2 l3 l5 μ = some t) : aX8_fits E l 8 z 44 [(0, vr l0), (1, vi l1), (2, vi l2), (3, vl l3), (5, vi l5)] [] μ (rJ t) := by
  unfold jX8_fits_44 at h
  refine a_lload_n 3 dX8_fits_44 rfl rfl ?_
  refine a_aload_n 0 dX8_fits_45 rfl rfl ?_
  refine a_getfr (c := 8) (i := 71) dX8_fits_46 fRX8_153 g8_71 rfl hk ?_
  refine a_iconst dX8_fits_49 (okI_b _ rfl) ?_
  refine a_iconst dX8_fits_50 (okI_b _ rfl) ?_
  refine a_iload 4 dX8_fits_51 rfl ?_
  refine a_cSi [vi 0, vi 0, vi l5] [vr (m_gt μ l0 71), vl l3] dX8_fits_53 myX8_cell mRX8_448 msX8_cell (fun _ hj => tX8_cell E l N 0 0 l5 μ _  hj) (by decide) rfl (Nat.le_of_ble_eq_true rfl) h (fun x1 μ1 hm h => ?_)
  have hk := hm.k hk (by decide)
  refine a_lald dX8_fits_56 h (fun x2 h => ?_)
  refine a_ladd dX8_fits_57 ?_
  refine a_cSl [vl (l_add l3 x2)] [] dX8_fits_58 myX8_capped mRX8_451 msX8_capped (fun _ hj => tX8_capped E l N (l_add l3 x2) μ1 _  hj) (by decide) rfl (Nat.le_of_ble_eq_true rfl) h (fun x3 μ2 hm h => ?_)
  have hk := hm.k hk (by decide)
  refine a_lstore_n (L' := [(3, vl x3), (0, vr l0), (1, vi l1), (2, vi l2), (5, vi l5)]) dX8_fits_61 rfl (by decide) rfl ?_
  exact a_sub [1, 2, 3, 0, 4] rfl (tX8_fits_62 E l _ k26 p26 N l0 l1 l2 x3 l5 μ2 t hk h)
theorem tX8_fits_26b (E : m_E) (l : Launch) (z : Nat × Nat) (k26 : Int → Int → Int → Int → Int → Mm → Option (Int × Mm)) (p26 : ∀ (l0 l1 l2 l3 l5 : Int) (μ : Mm) (t : Int × Mm), m_kd μ l0 = (8, 0) → k26 l0 l1 l2 l3 l5 μ = some t → aX8_fits E l 8 z 26 [(0, vr l0), (1, vi l1), (2, vi l2), (3, vl l3), (5, vi l5)] [] μ (rJ t)) (N : Nat) (l0 l1 l2 l3 l5 : Int) (μ : Mm) (t : Int × Mm) (hk : m_kd μ l0 = (8, 0)) (h : jX8_fits_26b k26 N l0 l1 l2 l3 l5 μ = some t) : aX8_fits E l 8 z 26 [(0, vr l0), (1, vi l1), (2, vi l2), (3, vl l3), (5, vi l5)] [] μ (rJ t) := by
  unfold jX8_fits_26b at h
  refine a_iload 4 dX8_fits_26 rfl ?_
  refine a_sipush dX8_fits_28 ⟨rfl, okI_b _ rfl⟩ ?_
  refine a_icmp_ge (tgt := 68) dX8_fits_31 rfl h (fun h => ?_) (fun h => ?_)
  ·
    refine a_lload_n 3 dX8_fits_68 rfl rfl ?_
    exact a_retl dX8_fits_69 h
  ·
    refine a_iload_n 2 dX8_fits_34 rfl rfl ?_
    refine a_if_ne (tgt := 44) dX8_fits_35 rfl h (fun h => ?_) (fun h => ?_)
    ·
      exact a_sub [0, 1, 2, 3, 4] rfl (tX8_fits_44 E l _ k26 p26 N l0 l1 l2 l3 l5 μ t hk h)
    ·
      refine a_iload 4 dX8_fits_38 rfl ?_
      refine a_iload_n 1 dX8_fits_40 rfl rfl ?_
      refine a_icmp_ne (tgt := 62) dX8_fits_41 rfl h (fun h => ?_) (fun h => ?_)
      ·
        exact a_sub [0, 1, 2, 3, 4] rfl (tX8_fits_62 E l _ k26 p26 N l0 l1 l2 l3 l5 μ t hk h)
      ·
        exact a_sub [0, 1, 2, 3, 4] rfl (tX8_fits_44 E l _ k26 p26 N l0 l1 l2 l3 l5 μ t hk h)
theorem tX8_fits_26 (E : m_E) (l : Launch) (z : Nat × Nat) (N : Nat) : ∀ (n : Nat) (l0 l1 l2 l3 l5 : Int) (μ : Mm) (t : Int × Mm), m_kd μ l0 = (8, 0) → jX8_fits_26 N n l0 l1 l2 l3 l5 μ = some t → aX8_fits E l 8 z 26 [(0, vr l0), (1, vi l1), (2, vi l2), (3, vl l3), (5, vi l5)] [] μ (rJ t)
  | 0, _, _, _, _, _, _, _, _, h => by cases h
  | n + 1, l0, l1, l2, l3, l5, μ, t, hk, h => tX8_fits_26b E l z (jX8_fits_26 N n) (tX8_fits_26 E l z N n) N l0 l1 l2 l3 l5 μ t hk h
theorem tX8_fits (E : m_E) (l : Launch) (N : Nat) (l0 l1 l2 : Int) (μ : Mm) (t : Int × Mm) (hk : m_kd μ l0 = (8, 0)) (h : jX8_fits N l0 l1 l2 μ = some t) : TT E l 8 yX8_fits cX8_fits 6 (some .long) [vr l0, vi l1, vi l2] μ (rJ t) := by
  refine tt_of (L := [(0, vr l0), (1, vi l1), (2, vi l2)]) (by decide +kernel) (Nat.le_of_ble_eq_true rfl) rfl ?_
  show aX8_fits E l 8 (m_sz μ, m_sl μ) 0 [(0, vr l0), (1, vi l1), (2, vi l2)] [] μ (rJ t)
  unfold jX8_fits at h
  refine a_aload_n 0 dX8_fits_0 rfl rfl ?_
  refine a_cVv (c := 8) [] [] dX8_fits_1 myX8_goesThrough mRX8_410 mvX8_goesThrough rfl (by decide) hk (fun _ hj => tX8_goesThrough E l N l0 μ _ hk hj) (by decide) rfl (Nat.le_of_ble_eq_true rfl) h (fun μ1 hm h => ?_)
  have hk := hm.k hk (by decide)
  refine a_aload_n 0 dX8_fits_4 rfl rfl ?_
  refine a_getfz (c := 8) (i := 68) dX8_fits_5 fRX8_404 g8_68 rfl hk ?_
  refine a_if_ne (tgt := 15) dX8_fits_8 rfl h (fun h => ?_) (fun h => ?_)
  ·
    refine a_aload_n 0 dX8_fits_15 rfl rfl ?_
    refine a_cVv (c := 8) [] [] dX8_fits_16 myX8_tellsFits mRX8_507 mvX8_tellsFits rfl (by decide) hk (fun _ hj => tX8_tellsFits E l N l0 μ1 _ hk hj) (by decide) rfl (Nat.le_of_ble_eq_true rfl) h (fun μ2 hm h => ?_)
    have hk := hm.k hk (by decide)
    refine a_lconst (v := 0) dX8_fits_19 ⟨rfl, okJ_b _ rfl⟩ ?_
    refine a_lstore_n (L' := [(3, vl 0), (0, vr l0), (1, vi l1), (2, vi l2)]) dX8_fits_20 rfl (by decide) rfl ?_
    refine a_sipush dX8_fits_21 ⟨rfl, okI_b _ rfl⟩ ?_
    refine a_istore (L' := [(5, vi (-460)), (3, vl 0), (0, vr l0), (1, vi l1), (2, vi l2)]) dX8_fits_24 (by decide) rfl ?_
    exact a_sub [2, 3, 4, 1, 0] rfl (tX8_fits_26 E l _ N N l0 l1 l2 0 (-460) μ2 t hk h)
  ·
    refine a_ldc2 (x := (-1)) dX8_fits_11 kRX8_505 ⟨rfl, okJ_b _ rfl⟩ ?_
    exact a_retl dX8_fits_14 h
-- X8_frame
abbrev aX8_frame (E : m_E) (l : Launch) (d : Nat) (z : Nat × Nat) (pc : Nat) (L : List (Nat × AV)) (st : List AV) (μ : Mm) (ρ : Option AV × Mm) : Prop := AA E l d z RX8 "frame" cX8_frame 3 (some .int) pc L st μ ρ
theorem tX8_frame_39 (E : m_E) (l : Launch) (z : Nat × Nat) (N : Nat) (l0 : Int) (μ : Mm) (t : Int × Mm) (hk : m_kd μ l0 = (8, 0)) (h : jX8_frame_39 N l0 μ = some t) : aX8_frame E l 3 z 39 [(0, vr l0)] [] μ (rI t) := by
  unfold jX8_frame_39 at h
  refine a_iconst dX8_frame_39 (okI_b _ rfl) ?_
  exact a_reti dX8_frame_40 h
theorem tX8_frame (E : m_E) (l : Launch) (N : Nat) (l0 l1 l2 : Int) (μ : Mm) (t : Int × Mm) (hk : m_kd μ l0 = (8, 0)) (h : jX8_frame N l0 l1 l2 μ = some t) : TT E l 3 yX8_frame cX8_frame 3 (some .int) [vr l0, vi l1, vi l2] μ (rI t) := by
  refine tt_of (L := [(0, vr l0), (1, vi l1), (2, vi l2)]) (by decide +kernel) (Nat.le_of_ble_eq_true rfl) rfl ?_
  show aX8_frame E l 3 (m_sz μ, m_sl μ) 0 [(0, vr l0), (1, vi l1), (2, vi l2)] [] μ (rI t)
  unfold jX8_frame at h
  refine a_aload_n 0 dX8_frame_0 rfl rfl ?_
  refine a_cVv (c := 8) [] [] dX8_frame_1 myX8_goesThrough mRX8_410 mvX8_goesThrough rfl (by decide) hk (fun _ hj => tX8_goesThrough E l N l0 μ _ hk hj) (by decide) rfl (Nat.le_of_ble_eq_true rfl) h (fun μ1 hm h => ?_)
  have hk := hm.k hk (by decide)
  refine a_iload_n 1 dX8_frame_4 rfl rfl ?_
  refine a_i2l dX8_frame_5 ?_
  refine a_lconst (v := 0) dX8_frame_6 ⟨rfl, okJ_b _ rfl⟩ ?_
  refine a_aload_n 0 dX8_frame_7 rfl rfl ?_
  refine a_getfr (c := 8) (i := 32) dX8_frame_8 fRX8_87 g8_32 rfl hk ?_
  refine a_iconst dX8_frame_11 (okI_b _ rfl) ?_
  refine a_iald dX8_frame_12 h (fun x1 h => ?_)
  refine a_iconst dX8_frame_13 (okI_b _ rfl) ?_
  refine a_isub dX8_frame_14 ?_
  refine a_i2l dX8_frame_15 ?_
  refine a_cSi [vl (i_2l l1), vl 0, vl (i_2l (i_sub x1 1))] [] dX8_frame_16 myX8_isIn mRX8_223 msX8_isIn (fun _ hj => tX8_isIn E l N (i_2l l1) 0 (i_2l (i_sub x1 1)) μ1 _  hj) (by decide) rfl (Nat.le_of_ble_eq_true rfl) h (fun x2 μ2 hm h => ?_)
  have hk := hm.k hk (by decide)
  refine a_if_eq (tgt := 39) dX8_frame_19 rfl h (fun h => ?_) (fun h => ?_)
  ·
    exact a_sub [0] rfl (tX8_frame_39 E l _ N l0 μ2 t hk h)
  ·
    refine a_iload_n 1 dX8_frame_22 rfl rfl ?_
    refine a_aload_n 0 dX8_frame_23 rfl rfl ?_
    refine a_getfi (c := 8) (i := 65) dX8_frame_24 fRX8_385 g8_65 rfl hk ?_
    refine a_icmp_gt (tgt := 39) dX8_frame_27 rfl h (fun h => ?_) (fun h => ?_)
    ·
      exact a_sub [0] rfl (tX8_frame_39 E l _ N l0 μ2 t hk h)
    ·
      refine a_aload_n 0 dX8_frame_30 rfl rfl ?_
      refine a_getfr (c := 8) (i := 61) dX8_frame_31 fRX8_137 g8_61 rfl hk ?_
      refine a_iload_n 1 dX8_frame_34 rfl rfl ?_
      refine a_iald dX8_frame_35 h (fun x3 h => ?_)
      refine a_if_ne (tgt := 41) dX8_frame_36 rfl h (fun h => ?_) (fun h => ?_)
      ·
        refine a_iload_n 2 dX8_frame_41 rfl rfl ?_
        refine a_cs h (fun hx h => ?_) (fun hx0 h => ?_)
        ·
          refine a_tsI (off := 30) (tgt := 72) dX8_frame_42 (by omega) (by omega) (by rw [hx]; rfl) rfl ?_
          refine a_aload_n 0 dX8_frame_72 rfl rfl ?_
          refine a_getfr (c := 8) (i := 63) dX8_frame_73 fRX8_143 g8_63 rfl hk ?_
          refine a_iload_n 1 dX8_frame_76 rfl rfl ?_
          refine a_iald dX8_frame_77 h (fun x4 h => ?_)
          exact a_reti dX8_frame_78 h
        refine a_cs h (fun hx h => ?_) (fun hx1 h => ?_)
        ·
          refine a_tsI (off := 37) (tgt := 79) dX8_frame_42 (by omega) (by omega) (by rw [hx]; rfl) rfl ?_
          refine a_aload_n 0 dX8_frame_79 rfl rfl ?_
          refine a_getfr (c := 8) (i := 61) dX8_frame_80 fRX8_137 g8_61 rfl hk ?_
          refine a_iload_n 1 dX8_frame_83 rfl rfl ?_
          refine a_iald dX8_frame_84 h (fun x5 h => ?_)
          exact a_reti dX8_frame_85 h
        refine a_cs h (fun hx h => ?_) (fun hx2 h => ?_)
        ·
          refine a_tsI (off := 44) (tgt := 86) dX8_frame_42 (by omega) (by omega) (by rw [hx]; rfl) rfl ?_
          refine a_aload_n 0 dX8_frame_86 rfl rfl ?_
          refine a_getfr (c := 8) (i := 62) dX8_frame_87 fRX8_140 g8_62 rfl hk ?_
          refine a_iload_n 1 dX8_frame_90 rfl rfl ?_
          refine a_iald dX8_frame_91 h (fun x6 h => ?_)
          exact a_reti dX8_frame_92 h
        refine a_cs h (fun hx h => ?_) (fun hx3 h => ?_)
        ·
          refine a_tsI (off := 51) (tgt := 93) dX8_frame_42 (by omega) (by omega) (by rw [hx]; rfl) rfl ?_
          refine a_aload_n 0 dX8_frame_93 rfl rfl ?_
          refine a_getfr (c := 8) (i := 64) dX8_frame_94 fRX8_146 g8_64 rfl hk ?_
          refine a_iload_n 1 dX8_frame_97 rfl rfl ?_
          refine a_iald dX8_frame_98 h (fun x7 h => ?_)
          exact a_reti dX8_frame_99 h
        refine a_tsO (tgt := 100) dX8_frame_42 (by omega) rfl ?_
        refine a_iconst dX8_frame_100 (okI_b _ rfl) ?_
        exact a_reti dX8_frame_101 h
      ·
        exact a_sub [0] rfl (tX8_frame_39 E l _ N l0 μ2 t hk h)
-- X8_forgets
abbrev aX8_forgets (E : m_E) (l : Launch) (d : Nat) (z : Nat × Nat) (pc : Nat) (L : List (Nat × AV)) (st : List AV) (μ : Mm) (ρ : Option AV × Mm) : Prop := AA E l d z RX8 "forgets" cX8_forgets 2 none pc L st μ ρ
theorem tX8_forgets_73b (E : m_E) (l : Launch) (z : Nat × Nat) (k73 : Int → Int → Mm → Option (Mm)) (p73 : ∀ (l0 l1 : Int) (μ : Mm) (t : Mm), m_kd μ l0 = (8, 0) → k73 l0 l1 μ = some t → aX8_forgets E l 1 z 73 [(0, vr l0), (1, vi l1)] [] μ (rV t)) (N : Nat) (l0 l1 : Int) (μ : Mm) (t : Mm) (hk : m_kd μ l0 = (8, 0)) (h : jX8_forgets_73b k73 N l0 l1 μ = some t) : aX8_forgets E l 1 z 73 [(0, vr l0), (1, vi l1)] [] μ (rV t) := by
  unfold jX8_forgets_73b at h
  refine a_iload_n 1 dX8_forgets_73 rfl rfl ?_
  refine a_bipush dX8_forgets_74 ⟨rfl, okI_b _ rfl⟩ ?_
  refine a_icmp_ge (tgt := 92) dX8_forgets_76 rfl h (fun h => ?_) (fun h => ?_)
  ·
    refine a_aload_n 0 dX8_forgets_92 rfl rfl ?_
    refine a_iconst dX8_forgets_93 (okI_b _ rfl) ?_
    refine a_putfi (c := 8) (i := 44) dX8_forgets_94 fRX8_227 g8_44 (Or.inl rfl) rfl hk h (fun μ1 hm h => ?_)
    have hk := hm.k hk (by decide)
    refine a_aload_n 0 dX8_forgets_97 rfl rfl ?_
    refine a_iconst dX8_forgets_98 (okI_b _ rfl) ?_
    refine a_putfi (c := 8) (i := 48) dX8_forgets_99 fRX8_300 g8_48 (Or.inl rfl) rfl hk h (fun μ2 hm h => ?_)
    have hk := hm.k hk (by decide)
    exact a_ret0 dX8_forgets_102 h
  ·
    refine a_aload_n 0 dX8_forgets_79 rfl rfl ?_
    refine a_getfr (c := 8) (i := 42) dX8_forgets_80 fRX8_117 g8_42 rfl hk ?_
    refine a_iload_n 1 dX8_forgets_83 rfl rfl ?_
    refine a_iconst dX8_forgets_84 (okI_b _ rfl) ?_
    refine a_zast (hz := Or.inl rfl) dX8_forgets_85 h (fun μ3 hm h => ?_)
    have hk := hm.k hk (by decide)
    refine a_iinc (F := fun x1 => [(1, vi x1), (0, vr l0)]) 1 dX8_forgets_86 rfl (by decide) h (fun _ => rfl) (fun x1 h => ?_)
    refine a_goto (tgt := 73) dX8_forgets_89 rfl ?_
    exact a_sub [1, 0] rfl (p73 l0 x1 μ3 t hk h)
theorem tX8_forgets_73 (E : m_E) (l : Launch) (z : Nat × Nat) (N : Nat) : ∀ (n : Nat) (l0 l1 : Int) (μ : Mm) (t : Mm), m_kd μ l0 = (8, 0) → jX8_forgets_73 N n l0 l1 μ = some t → aX8_forgets E l 1 z 73 [(0, vr l0), (1, vi l1)] [] μ (rV t)
  | 0, _, _, _, _, _, h => by cases h
  | n + 1, l0, l1, μ, t, hk, h => tX8_forgets_73b E l z (jX8_forgets_73 N n) (tX8_forgets_73 E l z N n) N l0 l1 μ t hk h
theorem tX8_forgets_53b (E : m_E) (l : Launch) (z : Nat × Nat) (k53 : Int → Int → Mm → Option (Mm)) (p53 : ∀ (l0 l1 : Int) (μ : Mm) (t : Mm), m_kd μ l0 = (8, 0) → k53 l0 l1 μ = some t → aX8_forgets E l 1 z 53 [(0, vr l0), (1, vi l1)] [] μ (rV t)) (N : Nat) (l0 l1 : Int) (μ : Mm) (t : Mm) (hk : m_kd μ l0 = (8, 0)) (h : jX8_forgets_53b k53 N l0 l1 μ = some t) : aX8_forgets E l 1 z 53 [(0, vr l0), (1, vi l1)] [] μ (rV t) := by
  unfold jX8_forgets_53b at h
  refine a_iload_n 1 dX8_forgets_53 rfl rfl ?_
  refine a_iconst dX8_forgets_54 (okI_b _ rfl) ?_
  refine a_icmp_ge (tgt := 71) dX8_forgets_55 rfl h (fun h => ?_) (fun h => ?_)
  ·
    refine a_iconst dX8_forgets_71 (okI_b _ rfl) ?_
    refine a_istore_n (L' := [(1, vi 0), (0, vr l0)]) dX8_forgets_72 rfl (by decide) rfl ?_
    exact a_sub [1, 0] rfl (tX8_forgets_73 E l _ N N l0 0 μ t hk h)
  ·
    refine a_aload_n 0 dX8_forgets_58 rfl rfl ?_
    refine a_getfr (c := 8) (i := 35) dX8_forgets_59 fRX8_96 g8_35 rfl hk ?_
    refine a_iload_n 1 dX8_forgets_62 rfl rfl ?_
    refine a_iconst dX8_forgets_63 (okI_b _ rfl) ?_
    refine a_iast dX8_forgets_64 h (fun μ1 hm h => ?_)
    have hk := hm.k hk (by decide)
    refine a_iinc (F := fun x1 => [(1, vi x1), (0, vr l0)]) 1 dX8_forgets_65 rfl (by decide) h (fun _ => rfl) (fun x1 h => ?_)
    refine a_goto (tgt := 53) dX8_forgets_68 rfl ?_
    exact a_sub [1, 0] rfl (p53 l0 x1 μ1 t hk h)
theorem tX8_forgets_53 (E : m_E) (l : Launch) (z : Nat × Nat) (N : Nat) : ∀ (n : Nat) (l0 l1 : Int) (μ : Mm) (t : Mm), m_kd μ l0 = (8, 0) → jX8_forgets_53 N n l0 l1 μ = some t → aX8_forgets E l 1 z 53 [(0, vr l0), (1, vi l1)] [] μ (rV t)
  | 0, _, _, _, _, _, h => by cases h
  | n + 1, l0, l1, μ, t, hk, h => tX8_forgets_53b E l z (jX8_forgets_53 N n) (tX8_forgets_53 E l z N n) N l0 l1 μ t hk h
theorem tX8_forgets (E : m_E) (l : Launch) (N : Nat) (l0 : Int) (μ : Mm) (t : Mm) (hk : m_kd μ l0 = (8, 0)) (h : jX8_forgets N l0 μ = some t) : TT E l 1 yX8_forgets cX8_forgets 2 none [vr l0] μ (rV t) := by
  refine tt_of (L := [(0, vr l0)]) (by decide +kernel) (Nat.le_of_ble_eq_true rfl) rfl ?_
  show aX8_forgets E l 1 (m_sz μ, m_sl μ) 0 [(0, vr l0)] [] μ (rV t)
  unfold jX8_forgets at h
  refine a_aload_n 0 dX8_forgets_0 rfl rfl ?_
  refine a_getfr (c := 8) (i := 31) dX8_forgets_1 fRX8_84 g8_31 rfl hk ?_
  refine a_iconst dX8_forgets_4 (okI_b _ rfl) ?_
  refine a_bipush dX8_forgets_5 ⟨rfl, okI_b _ rfl⟩ ?_
  refine a_iast dX8_forgets_7 h (fun μ1 hm h => ?_)
  have hk := hm.k hk (by decide)
  refine a_aload_n 0 dX8_forgets_8 rfl rfl ?_
  refine a_getfr (c := 8) (i := 32) dX8_forgets_9 fRX8_87 g8_32 rfl hk ?_
  refine a_iconst dX8_forgets_12 (okI_b _ rfl) ?_
  refine a_bipush dX8_forgets_13 ⟨rfl, okI_b _ rfl⟩ ?_
  refine a_iast dX8_forgets_15 h (fun μ2 hm h => ?_)
  have hk := hm.k hk (by decide)
  refine a_aload_n 0 dX8_forgets_16 rfl rfl ?_
  refine a_getfr (c := 8) (i := 33) dX8_forgets_17 fRX8_90 g8_33 rfl hk ?_
  refine a_iconst dX8_forgets_20 (okI_b _ rfl) ?_
  refine a_iconst dX8_forgets_21 (okI_b _ rfl) ?_
  refine a_iast dX8_forgets_22 h (fun μ3 hm h => ?_)
  have hk := hm.k hk (by decide)
  refine a_aload_n 0 dX8_forgets_23 rfl rfl ?_
  refine a_getfr (c := 8) (i := 34) dX8_forgets_24 fRX8_93 g8_34 rfl hk ?_
  refine a_iconst dX8_forgets_27 (okI_b _ rfl) ?_
  refine a_iconst dX8_forgets_28 (okI_b _ rfl) ?_
  refine a_iast dX8_forgets_29 h (fun μ4 hm h => ?_)
  have hk := hm.k hk (by decide)
  refine a_aload_n 0 dX8_forgets_30 rfl rfl ?_
  refine a_getfr (c := 8) (i := 36) dX8_forgets_31 fRX8_99 g8_36 rfl hk ?_
  refine a_iconst dX8_forgets_34 (okI_b _ rfl) ?_
  refine a_iconst dX8_forgets_35 (okI_b _ rfl) ?_
  refine a_iast dX8_forgets_36 h (fun μ5 hm h => ?_)
  have hk := hm.k hk (by decide)
  refine a_aload_n 0 dX8_forgets_37 rfl rfl ?_
  refine a_getfr (c := 8) (i := 40) dX8_forgets_38 fRX8_111 g8_40 rfl hk ?_
  refine a_iconst dX8_forgets_41 (okI_b _ rfl) ?_
  refine a_iconst dX8_forgets_42 (okI_b _ rfl) ?_
  refine a_iast dX8_forgets_43 h (fun μ6 hm h => ?_)
  have hk := hm.k hk (by decide)
  refine a_aload_n 0 dX8_forgets_44 rfl rfl ?_
  refine a_getfr (c := 8) (i := 41) dX8_forgets_45 fRX8_114 g8_41 rfl hk ?_
  refine a_iconst dX8_forgets_48 (okI_b _ rfl) ?_
  refine a_iconst dX8_forgets_49 (okI_b _ rfl) ?_
  refine a_iast dX8_forgets_50 h (fun μ7 hm h => ?_)
  have hk := hm.k hk (by decide)
  refine a_iconst dX8_forgets_51 (okI_b _ rfl) ?_
  refine a_istore_n (L' := [(1, vi 0), (0, vr l0)]) dX8_forgets_52 rfl (by decide) rfl ?_
  exact a_sub [1, 0] rfl (tX8_forgets_53 E l _ N N l0 0 μ7 t hk h)
-- X8_look
abbrev aX8_look (E : m_E) (l : Launch) (d : Nat) (z : Nat × Nat) (pc : Nat) (L : List (Nat × AV)) (st : List AV) (μ : Mm) (ρ : Option AV × Mm) : Prop := AA E l d z RX8 "look" cX8_look 1 (some .int) pc L st μ ρ
theorem tX8_look_76 (E : m_E) (l : Launch) (z : Nat × Nat) (N : Nat) (l0 s0 : Int) (μ : Mm) (t : Int × Mm) (hk : m_kd μ l0 = (8, 0)) (h : jX8_look_76 N l0 s0 μ = some t) : aX8_look E l 1 z 76 [(0, vr l0)] [vi s0] μ (rI t) := by
  unfold jX8_look_76 at h
  exact a_reti dX8_look_76 h
theorem tX8_look_52 (E : m_E) (l : Launch) (z : Nat × Nat) (N : Nat) (l0 : Int) (μ : Mm) (t : Int × Mm) (hk : m_kd μ l0 = (8, 0)) (h : jX8_look_52 N l0 μ = some t) : aX8_look E l 1 z 52 [(0, vr l0)] [] μ (rI t) := by
  unfold jX8_look_52 at h
  refine a_aload_n 0 dX8_look_52 rfl rfl ?_
  refine a_getfi (c := 8) (i := 2) dX8_look_53 fRX8_189 g8_2 rfl hk ?_
  refine a_aload_n 0 dX8_look_56 rfl rfl ?_
  refine a_getfi (c := 8) (i := 3) dX8_look_57 fRX8_192 g8_3 rfl hk ?_
  refine a_icmp_ge (tgt := 75) dX8_look_60 rfl h (fun h => ?_) (fun h => ?_)
  ·
    refine a_iconst dX8_look_75 (okI_b _ rfl) ?_
    exact a_sub [0] rfl (tX8_look_76 E l _ N l0 (-1) μ t hk h)
  ·
    refine a_aload_n 0 dX8_look_63 rfl rfl ?_
    refine a_getfr (c := 8) (i := 0) dX8_look_64 fRX8_7 g8_0 rfl hk ?_
    refine a_aload_n 0 dX8_look_67 rfl rfl ?_
    refine a_getfi (c := 8) (i := 2) dX8_look_68 fRX8_189 g8_2 rfl hk ?_
    refine a_iald dX8_look_71 h (fun x1 h => ?_)
    refine a_goto (tgt := 76) dX8_look_72 rfl ?_
    exact a_sub [0] rfl (tX8_look_76 E l _ N l0 x1 μ t hk h)
theorem tX8_look_39 (E : m_E) (l : Launch) (z : Nat × Nat) (k0 : Int → Mm → Option (Int × Mm)) (p0 : ∀ (l0 : Int) (μ : Mm) (t : Int × Mm), m_kd μ l0 = (8, 0) → k0 l0 μ = some t → aX8_look E l 1 z 0 [(0, vr l0)] [] μ (rI t)) (N : Nat) (l0 : Int) (μ : Mm) (t : Int × Mm) (hk : m_kd μ l0 = (8, 0)) (h : jX8_look_39 k0 N l0 μ = some t) : aX8_look E l 1 z 39 [(0, vr l0)] [] μ (rI t) := by
  unfold jX8_look_39 at h
  refine a_aload_n 0 dX8_look_39 rfl rfl ?_
  refine a_dup dX8_look_40 rfl ?_
  refine a_getfi (c := 8) (i := 2) dX8_look_41 fRX8_189 g8_2 rfl hk ?_
  refine a_iconst dX8_look_44 (okI_b _ rfl) ?_
  refine a_iadd dX8_look_45 ?_
  refine a_putfi (c := 8) (i := 2) dX8_look_46 fRX8_189 g8_2 (Or.inl rfl) rfl hk h (fun μ1 hm h => ?_)
  have hk := hm.k hk (by decide)
  refine a_goto (tgt := 0) dX8_look_49 rfl ?_
  exact a_sub [0] rfl (p0 l0 μ1 t hk h)
theorem tX8_look_0b (E : m_E) (l : Launch) (z : Nat × Nat) (k0 : Int → Mm → Option (Int × Mm)) (p0 : ∀ (l0 : Int) (μ : Mm) (t : Int × Mm), m_kd μ l0 = (8, 0) → k0 l0 μ = some t → aX8_look E l 1 z 0 [(0, vr l0)] [] μ (rI t)) (N : Nat) (l0 : Int) (μ : Mm) (t : Int × Mm) (hk : m_kd μ l0 = (8, 0)) (h : jX8_look_0b k0 N l0 μ = some t) : aX8_look E l 1 z 0 [(0, vr l0)] [] μ (rI t) := by
  unfold jX8_look_0b at h
  refine a_aload_n 0 dX8_look_0 rfl rfl ?_
  refine a_getfi (c := 8) (i := 2) dX8_look_1 fRX8_189 g8_2 rfl hk ?_
  refine a_aload_n 0 dX8_look_4 rfl rfl ?_
  refine a_getfi (c := 8) (i := 3) dX8_look_5 fRX8_192 g8_3 rfl hk ?_
  refine a_icmp_ge (tgt := 52) dX8_look_8 rfl h (fun h => ?_) (fun h => ?_)
  ·
    exact a_sub [0] rfl (tX8_look_52 E l _ N l0 μ t hk h)
  ·
    refine a_aload_n 0 dX8_look_11 rfl rfl ?_
    refine a_getfr (c := 8) (i := 0) dX8_look_12 fRX8_7 g8_0 rfl hk ?_
    refine a_aload_n 0 dX8_look_15 rfl rfl ?_
    refine a_getfi (c := 8) (i := 2) dX8_look_16 fRX8_189 g8_2 rfl hk ?_
    refine a_iald dX8_look_19 h (fun x1 h => ?_)
    refine a_bipush dX8_look_20 ⟨rfl, okI_b _ rfl⟩ ?_
    refine a_icmp_eq (tgt := 39) dX8_look_22 rfl h (fun h => ?_) (fun h => ?_)
    ·
      exact a_sub [0] rfl (tX8_look_39 E l _ k0 p0 N l0 μ t hk h)
    ·
      refine a_aload_n 0 dX8_look_25 rfl rfl ?_
      refine a_getfr (c := 8) (i := 0) dX8_look_26 fRX8_7 g8_0 rfl hk ?_
      refine a_aload_n 0 dX8_look_29 rfl rfl ?_
      refine a_getfi (c := 8) (i := 2) dX8_look_30 fRX8_189 g8_2 rfl hk ?_
      refine a_iald dX8_look_33 h (fun x2 h => ?_)
      refine a_bipush dX8_look_34 ⟨rfl, okI_b _ rfl⟩ ?_
      refine a_icmp_ne (tgt := 52) dX8_look_36 rfl h (fun h => ?_) (fun h => ?_)
      ·
        exact a_sub [0] rfl (tX8_look_52 E l _ N l0 μ t hk h)
      ·
        exact a_sub [0] rfl (tX8_look_39 E l _ k0 p0 N l0 μ t hk h)
theorem tX8_look_0 (E : m_E) (l : Launch) (z : Nat × Nat) (N : Nat) : ∀ (n : Nat) (l0 : Int) (μ : Mm) (t : Int × Mm), m_kd μ l0 = (8, 0) → jX8_look_0 N n l0 μ = some t → aX8_look E l 1 z 0 [(0, vr l0)] [] μ (rI t)
  | 0, _, _, _, _, h => by cases h
  | n + 1, l0, μ, t, hk, h => tX8_look_0b E l z (jX8_look_0 N n) (tX8_look_0 E l z N n) N l0 μ t hk h
theorem tX8_look (E : m_E) (l : Launch) (N : Nat) (l0 : Int) (μ : Mm) (t : Int × Mm) (hk : m_kd μ l0 = (8, 0)) (h : jX8_look N l0 μ = some t) : TT E l 1 yX8_look cX8_look 1 (some .int) [vr l0] μ (rI t) := by
  refine tt_of (L := [(0, vr l0)]) (by decide +kernel) (Nat.le_of_ble_eq_true rfl) rfl ?_
  show aX8_look E l 1 (m_sz μ, m_sl μ) 0 [(0, vr l0)] [] μ (rI t)
  unfold jX8_look at h
  exact a_sub [0] rfl (tX8_look_0 E l _ N N l0 μ t hk h)
