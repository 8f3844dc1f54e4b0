-- X8_goesThrough
abbrev aX8_goesThrough (E : m_E) (l : Launch) (d : Nat) (z : Nat × Nat) (pc : Nat) (L : List (Nat × AV)) (st : List AV) (μ : Mm) (ρ : Option AV × Mm) : Prop := AA E l d z RX8 "goesThrough" cX8_goesThrough 4 none pc L st μ ρ
theorem tX8_goesThrough_397 (E : m_E) (l : Launch) (z : Nat × Nat) (N : Nat) (l0 s0 s1 : Int) (μ : Mm) (t : Mm) (hk : m_kd μ l0 = (8, 0)) (h : jX8_goesThrough_397 N l0 s0 s1 μ = some t) : aX8_goesThrough E l 2 z 397 [(0, vr l0)] [vi s0, vr s1] μ (rV t) := by
  unfold jX8_goesThrough_397 at h
  refine m_chk_k h (fun hq0 h => ?_)
  refine z_k h (fun hz h => ?_)
  refine a_putfz (c := 8) (i := 68) dX8_goesThrough_397 fRX8_404 g8_68 (Or.inl rfl) rfl hz hq0 h (fun μ1 hm h => ?_)
  have hk := hm.k hk (by decide)
  have hq0 := hm.k hq0 (by decide)
  exact a_ret0 dX8_goesThrough_400 h
theorem tX8_goesThrough_366 (E : m_E) (l : Launch) (z : Nat × Nat) (k319 : Int → Int → Mm → Option (Mm)) (p319 : ∀ (l0 l1 : Int) (μ : Mm) (t : Mm), m_kd μ l0 = (8, 0) → k319 l0 l1 μ = some t → aX8_goesThrough E l 2 z 319 [(0, vr l0), (1, vi l1)] [] μ (rV t)) (N : Nat) (l0 l1 s0 s1 : Int) (μ : Mm) (t : Mm) (hk : m_kd μ l0 = (8, 0)) (h : jX8_goesThrough_366 k319 N l0 l1 s0 s1 μ = some t) : aX8_goesThrough E l 2 z 366 [(0, vr l0), (1, vi l1)] [vi s0, vr s1] μ (rV t) := by
  unfold jX8_goesThrough_366 at h
  refine m_chk_k h (fun hq0 h => ?_)
  refine a_putfi (c := 8) (i := 66) dX8_goesThrough_366 fRX8_398 g8_66 (Or.inl rfl) rfl hq0 h (fun μ1 hm h => ?_)
  have hk := hm.k hk (by decide)
  have hq0 := hm.k hq0 (by decide)
  refine a_iinc (F := fun x1 => [(1, vi x1), (0, vr l0)]) 1 dX8_goesThrough_369 rfl (by decide) h (fun _ => rfl) (fun x1 h => ?_)
  refine a_goto (tgt := 319) dX8_goesThrough_372 rfl ?_
  exact a_sub [1, 0] rfl (p319 l0 x1 μ1 t hk h)
theorem tX8_goesThrough_319b (E : m_E) (l : Launch) (z : Nat × Nat) (k319 : Int → Int → Mm → Option (Mm)) (p319 : ∀ (l0 l1 : Int) (μ : Mm) (t : Mm), m_kd μ l0 = (8, 0) → k319 l0 l1 μ = some t → aX8_goesThrough E l 2 z 319 [(0, vr l0), (1, vi l1)] [] μ (rV t)) (N : Nat) (l0 l1 : Int) (μ : Mm) (t : Mm) (hk : m_kd μ l0 = (8, 0)) (h : jX8_goesThrough_319b k319 N l0 l1 μ = some t) : aX8_goesThrough E l 2 z 319 [(0, vr l0), (1, vi l1)] [] μ (rV t) := by
  unfold jX8_goesThrough_319b at h
  refine a_iload_n 1 dX8_goesThrough_319 rfl rfl ?_
  refine a_aload_n 0 dX8_goesThrough_320 rfl rfl ?_
  refine a_getfi (c := 8) (i := 58) dX8_goesThrough_321 fRX8_324 g8_58 rfl hk ?_
  refine a_icmp_ge (tgt := 375) dX8_goesThrough_324 rfl h (fun h => ?_) (fun h => ?_)
  ·
    refine a_aload_n 0 dX8_goesThrough_375 rfl rfl ?_
    refine a_aload_n 0 dX8_goesThrough_376 rfl rfl ?_
    refine a_getfr (c := 8) (i := 61) dX8_goesThrough_377 fRX8_137 g8_61 rfl hk ?_
    refine a_aload_n 0 dX8_goesThrough_380 rfl rfl ?_
    refine a_getfi (c := 8) (i := 65) dX8_goesThrough_381 fRX8_385 g8_65 rfl hk ?_
    refine a_iald dX8_goesThrough_384 h (fun x1 h => ?_)
    refine a_aload_n 0 dX8_goesThrough_385 rfl rfl ?_
    refine a_getfi (c := 8) (i := 67) dX8_goesThrough_386 fRX8_401 g8_67 rfl hk ?_
    refine a_icmp_ne (tgt := 396) dX8_goesThrough_389 rfl h (fun h => ?_) (fun h => ?_)
    ·
      refine a_iconst dX8_goesThrough_396 (okI_b _ rfl) ?_
      exact a_sub [0] rfl (tX8_goesThrough_397 E l _ N l0 0 l0 μ t hk h)
    ·
      refine a_iconst dX8_goesThrough_392 (okI_b _ rfl) ?_
      refine a_goto (tgt := 397) dX8_goesThrough_393 rfl ?_
      exact a_sub [0] rfl (tX8_goesThrough_397 E l _ N l0 1 l0 μ t hk h)
  ·
    refine a_aload_n 0 dX8_goesThrough_327 rfl rfl ?_
    refine a_dup dX8_goesThrough_328 rfl ?_
    refine a_getfi (c := 8) (i := 66) dX8_goesThrough_329 fRX8_398 g8_66 rfl hk ?_
    refine a_aload_n 0 dX8_goesThrough_332 rfl rfl ?_
    refine a_getfr (c := 8) (i := 59) dX8_goesThrough_333 fRX8_131 g8_59 rfl hk ?_
    refine a_iload_n 1 dX8_goesThrough_336 rfl rfl ?_
    refine a_iald dX8_goesThrough_337 h (fun x2 h => ?_)
    refine a_cSi [vi x2] [vi (m_gt μ l0 66), vr l0] dX8_goesThrough_338 myX8_taken mRX8_391 msX8_taken (fun _ hj => tX8_taken E l N x2 μ _  hj) (by decide) rfl (Nat.le_of_ble_eq_true rfl) h (fun x3 μ1 hm h => ?_)
    have hk := hm.k hk (by decide)
    refine a_isub dX8_goesThrough_341 ?_
    refine a_putfi (c := 8) (i := 66) dX8_goesThrough_342 fRX8_398 g8_66 (Or.inl rfl) rfl hk h (fun μ2 hm h => ?_)
    have hk := hm.k hk (by decide)
    refine a_aload_n 0 dX8_goesThrough_345 rfl rfl ?_
    refine a_aload_n 0 dX8_goesThrough_346 rfl rfl ?_
    refine a_getfi (c := 8) (i := 66) dX8_goesThrough_347 fRX8_398 g8_66 rfl hk ?_
    refine a_if_ne (tgt := 362) dX8_goesThrough_350 rfl h (fun h => ?_) (fun h => ?_)
    ·
      refine a_aload_n 0 dX8_goesThrough_362 rfl rfl ?_
      refine a_getfi (c := 8) (i := 66) dX8_goesThrough_363 fRX8_398 g8_66 rfl hk ?_
      exact a_sub [0, 1] rfl (tX8_goesThrough_366 E l _ k319 p319 N l0 l1 (m_gt μ2 l0 66) l0 μ2 t hk h)
    ·
      refine a_aload_n 0 dX8_goesThrough_353 rfl rfl ?_
      refine a_getfr (c := 8) (i := 31) dX8_goesThrough_354 fRX8_84 g8_31 rfl hk ?_
      refine a_iconst dX8_goesThrough_357 (okI_b _ rfl) ?_
      refine a_iald dX8_goesThrough_358 h (fun x4 h => ?_)
      refine a_goto (tgt := 366) dX8_goesThrough_359 rfl ?_
      exact a_sub [0, 1] rfl (tX8_goesThrough_366 E l _ k319 p319 N l0 l1 x4 l0 μ2 t hk h)
theorem tX8_goesThrough_319 (E : m_E) (l : Launch) (z : Nat × Nat) (N : Nat) : ∀ (n : Nat) (l0 l1 : Int) (μ : Mm) (t : Mm), m_kd μ l0 = (8, 0) → jX8_goesThrough_319 N n l0 l1 μ = some t → aX8_goesThrough E l 2 z 319 [(0, vr l0), (1, vi l1)] [] μ (rV t)
  | 0, _, _, _, _, _, h => by cases h
  | n + 1, l0, l1, μ, t, hk, h => tX8_goesThrough_319b E l z (jX8_goesThrough_319 N n) (tX8_goesThrough_319 E l z N n) N l0 l1 μ t hk h
theorem tX8_goesThrough_287 (E : m_E) (l : Launch) (z : Nat × Nat) (k230 : Int → Int → Int → Mm → Option (Mm)) (p230 : ∀ (l0 l1 l2 : Int) (μ : Mm) (t : Mm), m_kd μ l0 = (8, 0) → k230 l0 l1 l2 μ = some t → aX8_goesThrough E l 2 z 230 [(0, vr l0), (1, vi l1), (2, vi l2)] [] μ (rV t)) (N : Nat) (l0 l1 l2 s0 s1 : Int) (μ : Mm) (t : Mm) (hk : m_kd μ l0 = (8, 0)) (h : jX8_goesThrough_287 k230 N l0 l1 l2 s0 s1 μ = some t) : aX8_goesThrough E l 2 z 287 [(0, vr l0), (1, vi l1), (2, vi l2)] [vi s0, vr s1] μ (rV t) := by
  unfold jX8_goesThrough_287 at h
  refine m_chk_k h (fun hq0 h => ?_)
  refine a_putfi (c := 8) (i := 67) dX8_goesThrough_287 fRX8_401 g8_67 (Or.inl rfl) rfl hq0 h (fun μ1 hm h => ?_)
  have hk := hm.k hk (by decide)
  have hq0 := hm.k hq0 (by decide)
  refine a_iinc (F := fun x1 => [(2, vi x1), (0, vr l0), (1, vi l1)]) 2 dX8_goesThrough_290 rfl (by decide) h (fun _ => rfl) (fun x1 h => ?_)
  refine a_goto (tgt := 230) dX8_goesThrough_293 rfl ?_
  exact a_sub [1, 2, 0] rfl (p230 l0 l1 x1 μ1 t hk h)
theorem tX8_goesThrough_230b (E : m_E) (l : Launch) (z : Nat × Nat) (k230 : Int → Int → Int → Mm → Option (Mm)) (p230 : ∀ (l0 l1 l2 : Int) (μ : Mm) (t : Mm), m_kd μ l0 = (8, 0) → k230 l0 l1 l2 μ = some t → aX8_goesThrough E l 2 z 230 [(0, vr l0), (1, vi l1), (2, vi l2)] [] μ (rV t)) (N : Nat) (l0 l1 l2 : Int) (μ : Mm) (t : Mm) (hk : m_kd μ l0 = (8, 0)) (h : jX8_goesThrough_230b k230 N l0 l1 l2 μ = some t) : aX8_goesThrough E l 2 z 230 [(0, vr l0), (1, vi l1), (2, vi l2)] [] μ (rV t) := by
  unfold jX8_goesThrough_230b at h
  refine a_iload_n 2 dX8_goesThrough_230 rfl rfl ?_
  refine a_aload_n 0 dX8_goesThrough_231 rfl rfl ?_
  refine a_getfr (c := 8) (i := 32) dX8_goesThrough_232 fRX8_87 g8_32 rfl hk ?_
  refine a_iconst dX8_goesThrough_235 (okI_b _ rfl) ?_
  refine a_iald dX8_goesThrough_236 h (fun x1 h => ?_)
  refine a_icmp_ge (tgt := 296) dX8_goesThrough_237 rfl h (fun h => ?_) (fun h => ?_)
  ·
    refine a_aload_n 0 dX8_goesThrough_296 rfl rfl ?_
    refine a_getfr (c := 8) (i := 61) dX8_goesThrough_297 fRX8_137 g8_61 rfl hk ?_
    refine a_aload_n 0 dX8_goesThrough_300 rfl rfl ?_
    refine a_getfi (c := 8) (i := 65) dX8_goesThrough_301 fRX8_385 g8_65 rfl hk ?_
    refine a_aload_n 0 dX8_goesThrough_304 rfl rfl ?_
    refine a_getfi (c := 8) (i := 58) dX8_goesThrough_305 fRX8_324 g8_58 rfl hk ?_
    refine a_aload_n 0 dX8_goesThrough_308 rfl rfl ?_
    refine a_getfr (c := 8) (i := 60) dX8_goesThrough_309 fRX8_134 g8_60 rfl hk ?_
    refine a_aload_n 0 dX8_goesThrough_312 rfl rfl ?_
    refine a_getfi (c := 8) (i := 65) dX8_goesThrough_313 fRX8_385 g8_65 rfl hk ?_
    refine a_iald dX8_goesThrough_316 h (fun x2 h => ?_)
    refine a_isub dX8_goesThrough_317 ?_
    refine a_iast dX8_goesThrough_318 h (fun μ1 hm h => ?_)
    have hk := hm.k hk (by decide)
    exact a_sub [0, 1] rfl (tX8_goesThrough_319 E l _ N N l0 l1 μ1 t hk h)
  ·
    refine a_aload_n 0 dX8_goesThrough_240 rfl rfl ?_
    refine a_iload_n 2 dX8_goesThrough_241 rfl rfl ?_
    refine a_cVi (c := 8) [vi l2] [] dX8_goesThrough_242 myX8_owed mRX8_407 mvX8_owed rfl (by decide) hk (fun _ hj => tX8_owed E l N l0 l2 μ _ hk hj) (by decide) rfl (Nat.le_of_ble_eq_true rfl) h (fun x3 μ2 hm h => ?_)
    have hk := hm.k hk (by decide)
    refine a_aload_n 0 dX8_goesThrough_245 rfl rfl ?_
    refine a_getfr (c := 8) (i := 60) dX8_goesThrough_246 fRX8_134 g8_60 rfl hk ?_
    refine a_aload_n 0 dX8_goesThrough_249 rfl rfl ?_
    refine a_getfi (c := 8) (i := 65) dX8_goesThrough_250 fRX8_385 g8_65 rfl hk ?_
    refine a_iald dX8_goesThrough_253 h (fun x4 h => ?_)
    refine a_aload_n 0 dX8_goesThrough_254 rfl rfl ?_
    refine a_getfr (c := 8) (i := 60) dX8_goesThrough_255 fRX8_134 g8_60 rfl hk ?_
    refine a_iload_n 2 dX8_goesThrough_258 rfl rfl ?_
    refine a_iald dX8_goesThrough_259 h (fun x5 h => ?_)
    refine a_isub dX8_goesThrough_260 ?_
    refine a_aload_n 0 dX8_goesThrough_261 rfl rfl ?_
    refine a_getfr (c := 8) (i := 61) dX8_goesThrough_262 fRX8_137 g8_61 rfl hk ?_
    refine a_iload_n 2 dX8_goesThrough_265 rfl rfl ?_
    refine a_iald dX8_goesThrough_266 h (fun x6 h => ?_)
    refine a_isub dX8_goesThrough_267 ?_
    refine a_isub dX8_goesThrough_268 ?_
    refine a_nmi h (fun x7 h => ?_)
    refine a_istore_n (L' := [(3, vi x7), (0, vr l0), (1, vi l1), (2, vi l2)]) dX8_goesThrough_269 rfl (by decide) rfl ?_
    refine a_aload_n 1 dX8_goesThrough_270 rfl rfl ?_
    refine a_iload_n 0 dX8_goesThrough_271 rfl rfl ?_
    refine a_aload_n 1 dX8_goesThrough_272 rfl rfl ?_
    refine a_getfi (c := 8) (i := 67) dX8_goesThrough_273 fRX8_401 g8_67 rfl hk ?_
    refine a_icmp_le (tgt := 283) dX8_goesThrough_276 rfl h (fun h => ?_) (fun h => ?_)
    ·
      refine a_aload_n 1 dX8_goesThrough_283 rfl rfl ?_
      refine a_getfi (c := 8) (i := 67) dX8_goesThrough_284 fRX8_401 g8_67 rfl hk ?_
      exact a_sub [1, 2, 3] rfl (tX8_goesThrough_287 E l _ k230 p230 N l0 l1 l2 (m_gt μ2 l0 67) l0 μ2 t hk h)
    ·
      refine a_iload_n 0 dX8_goesThrough_279 rfl rfl ?_
      refine a_goto (tgt := 287) dX8_goesThrough_280 rfl ?_
      exact a_sub [1, 2, 3] rfl (tX8_goesThrough_287 E l _ k230 p230 N l0 l1 l2 x7 l0 μ2 t hk h)
theorem tX8_goesThrough_230 (E : m_E) (l : Launch) (z : Nat × Nat) (N : Nat) : ∀ (n : Nat) (l0 l1 l2 : Int) (μ : Mm) (t : Mm), m_kd μ l0 = (8, 0) → jX8_goesThrough_230 N n l0 l1 l2 μ = some t → aX8_goesThrough E l 2 z 230 [(0, vr l0), (1, vi l1), (2, vi l2)] [] μ (rV t)
  | 0, _, _, _, _, _, _, h => by cases h
  | n + 1, l0, l1, l2, μ, t, hk, h => tX8_goesThrough_230b E l z (jX8_goesThrough_230 N n) (tX8_goesThrough_230 E l z N n) N l0 l1 l2 μ t hk h
theorem tX8_goesThrough_176 (E : m_E) (l : Launch) (z : Nat × Nat) (N : Nat) (l0 l1 : Int) (μ : Mm) (t : Mm) (hk : m_kd μ l0 = (8, 0)) (h : jX8_goesThrough_176 N l0 l1 μ = some t) : aX8_goesThrough E l 2 z 176 [(0, vr l0), (1, vi l1)] [] μ (rV t) := by
  unfold jX8_goesThrough_176 at h
  refine a_aload_n 0 dX8_goesThrough_176 rfl rfl ?_
  refine a_aload_n 0 dX8_goesThrough_177 rfl rfl ?_
  refine a_getfr (c := 8) (i := 31) dX8_goesThrough_178 fRX8_84 g8_31 rfl hk ?_
  refine a_iconst dX8_goesThrough_181 (okI_b _ rfl) ?_
  refine a_iald dX8_goesThrough_182 h (fun x1 h => ?_)
  refine a_putfi (c := 8) (i := 66) dX8_goesThrough_183 fRX8_398 g8_66 (Or.inl rfl) rfl hk h (fun μ1 hm h => ?_)
  have hk := hm.k hk (by decide)
  refine a_aload_n 0 dX8_goesThrough_186 rfl rfl ?_
  refine a_iconst dX8_goesThrough_187 (okI_b _ rfl) ?_
  refine a_putfi (c := 8) (i := 67) dX8_goesThrough_188 fRX8_401 g8_67 (Or.inl rfl) rfl hk h (fun μ2 hm h => ?_)
  have hk := hm.k hk (by decide)
  refine a_aload_n 0 dX8_goesThrough_191 rfl rfl ?_
  refine a_iconst dX8_goesThrough_192 (okI_b _ rfl) ?_
  refine a_putfz (c := 8) (i := 68) dX8_goesThrough_193 fRX8_404 g8_68 (Or.inl rfl) rfl (Or.inl rfl) hk h (fun μ3 hm h => ?_)
  have hk := hm.k hk (by decide)
  refine a_aload_n 0 dX8_goesThrough_196 rfl rfl ?_
  refine a_getfi (c := 8) (i := 65) dX8_goesThrough_197 fRX8_385 g8_65 rfl hk ?_
  refine a_aload_n 0 dX8_goesThrough_200 rfl rfl ?_
  refine a_getfr (c := 8) (i := 32) dX8_goesThrough_201 fRX8_87 g8_32 rfl hk ?_
  refine a_iconst dX8_goesThrough_204 (okI_b _ rfl) ?_
  refine a_iald dX8_goesThrough_205 h (fun x2 h => ?_)
  refine a_icmp_ge (tgt := 228) dX8_goesThrough_206 rfl h (fun h => ?_) (fun h => ?_)
  ·
    refine a_iconst dX8_goesThrough_228 (okI_b _ rfl) ?_
    refine a_istore_n (L' := [(2, vi 0), (0, vr l0), (1, vi l1)]) dX8_goesThrough_229 rfl (by decide) rfl ?_
    exact a_sub [1, 2, 0] rfl (tX8_goesThrough_230 E l _ N N l0 l1 0 μ3 t hk h)
  ·
    refine a_aload_n 0 dX8_goesThrough_209 rfl rfl ?_
    refine a_dup dX8_goesThrough_210 rfl ?_
    refine a_getfi (c := 8) (i := 66) dX8_goesThrough_211 fRX8_398 g8_66 rfl hk ?_
    refine a_aload_n 0 dX8_goesThrough_214 rfl rfl ?_
    refine a_getfr (c := 8) (i := 63) dX8_goesThrough_215 fRX8_143 g8_63 rfl hk ?_
    refine a_aload_n 0 dX8_goesThrough_218 rfl rfl ?_
    refine a_getfi (c := 8) (i := 65) dX8_goesThrough_219 fRX8_385 g8_65 rfl hk ?_
    refine a_iald dX8_goesThrough_222 h (fun x3 h => ?_)
    refine a_isub dX8_goesThrough_223 ?_
    refine a_putfi (c := 8) (i := 66) dX8_goesThrough_224 fRX8_398 g8_66 (Or.inl rfl) rfl hk h (fun μ4 hm h => ?_)
    have hk := hm.k hk (by decide)
    exact a_ret0 dX8_goesThrough_227 h
theorem tX8_goesThrough_140 (E : m_E) (l : Launch) (z : Nat × Nat) (k13 : Int → Int → Mm → Option (Mm)) (p13 : ∀ (l0 l1 : Int) (μ : Mm) (t : Mm), m_kd μ l0 = (8, 0) → k13 l0 l1 μ = some t → aX8_goesThrough E l 2 z 13 [(0, vr l0), (1, vi l1)] [] μ (rV t)) (N : Nat) (l0 l1 : Int) (μ : Mm) (t : Mm) (hk : m_kd μ l0 = (8, 0)) (h : jX8_goesThrough_140 k13 N l0 l1 μ = some t) : aX8_goesThrough E l 2 z 140 [(0, vr l0), (1, vi l1)] [] μ (rV t) := by
  unfold jX8_goesThrough_140 at h
  refine a_aload_n 0 dX8_goesThrough_140 rfl rfl ?_
  refine a_aload_n 0 dX8_goesThrough_141 rfl rfl ?_
  refine a_getfi (c := 8) (i := 65) dX8_goesThrough_142 fRX8_385 g8_65 rfl hk ?_
  refine a_cVi (c := 8) [vi (m_gt μ l0 65)] [] dX8_goesThrough_145 myX8_isOver mRX8_395 mvX8_isOver rfl (by decide) hk (fun _ hj => tX8_isOver E l N l0 (m_gt μ l0 65) μ _ hk hj) (by decide) rfl (Nat.le_of_ble_eq_true rfl) h (fun x1 μ1 hm h => ?_)
  have hk := hm.k hk (by decide)
  refine a_if_ne (tgt := 154) dX8_goesThrough_148 rfl h (fun h => ?_) (fun h => ?_)
  ·
    refine a_aload_n 0 dX8_goesThrough_154 rfl rfl ?_
    refine a_dup dX8_goesThrough_155 rfl ?_
    refine a_getfi (c := 8) (i := 65) dX8_goesThrough_156 fRX8_385 g8_65 rfl hk ?_
    refine a_iconst dX8_goesThrough_159 (okI_b _ rfl) ?_
    refine a_iadd dX8_goesThrough_160 ?_
    refine a_putfi (c := 8) (i := 65) dX8_goesThrough_161 fRX8_385 g8_65 (Or.inl rfl) rfl hk h (fun μ2 hm h => ?_)
    have hk := hm.k hk (by decide)
    refine a_aload_n 0 dX8_goesThrough_164 rfl rfl ?_
    refine a_aload_n 0 dX8_goesThrough_165 rfl rfl ?_
    refine a_getfi (c := 8) (i := 65) dX8_goesThrough_166 fRX8_385 g8_65 rfl hk ?_
    refine a_iload_n 1 dX8_goesThrough_169 rfl rfl ?_
    refine a_cVv (c := 8) [vi (m_gt μ2 l0 65), vi l1] [] dX8_goesThrough_170 myX8_empties mRX8_388 mvX8_empties rfl (by decide) hk (fun _ hj => tX8_empties E l N l0 (m_gt μ2 l0 65) l1 μ2 _ hk hj) (by decide) rfl (Nat.le_of_ble_eq_true rfl) h (fun μ3 hm h => ?_)
    have hk := hm.k hk (by decide)
    refine a_goto (tgt := 13) dX8_goesThrough_173 rfl ?_
    exact a_sub [0, 1] rfl (p13 l0 l1 μ3 t hk h)
  ·
    refine a_goto (tgt := 13) dX8_goesThrough_151 rfl ?_
    exact a_sub [0, 1] rfl (p13 l0 l1 μ1 t hk h)
theorem tX8_goesThrough_92 (E : m_E) (l : Launch) (z : Nat × Nat) (k13 : Int → Int → Mm → Option (Mm)) (p13 : ∀ (l0 l1 : Int) (μ : Mm) (t : Mm), m_kd μ l0 = (8, 0) → k13 l0 l1 μ = some t → aX8_goesThrough E l 2 z 13 [(0, vr l0), (1, vi l1)] [] μ (rV t)) (N : Nat) (l0 l1 : Int) (μ : Mm) (t : Mm) (hk : m_kd μ l0 = (8, 0)) (h : jX8_goesThrough_92 k13 N l0 l1 μ = some t) : aX8_goesThrough E l 2 z 92 [(0, vr l0), (1, vi l1)] [] μ (rV t) := by
  unfold jX8_goesThrough_92 at h
  refine a_aload_n 0 dX8_goesThrough_92 rfl rfl ?_
  refine a_getfr (c := 8) (i := 63) dX8_goesThrough_93 fRX8_143 g8_63 rfl hk ?_
  refine a_aload_n 0 dX8_goesThrough_96 rfl rfl ?_
  refine a_getfi (c := 8) (i := 65) dX8_goesThrough_97 fRX8_385 g8_65 rfl hk ?_
  refine a_iald dX8_goesThrough_100 h (fun x1 h => ?_)
  refine a_aload_n 0 dX8_goesThrough_101 rfl rfl ?_
  refine a_getfr (c := 8) (i := 31) dX8_goesThrough_102 fRX8_84 g8_31 rfl hk ?_
  refine a_iconst dX8_goesThrough_105 (okI_b _ rfl) ?_
  refine a_iald dX8_goesThrough_106 h (fun x2 h => ?_)
  refine a_icmp_ne (tgt := 140) dX8_goesThrough_107 rfl h (fun h => ?_) (fun h => ?_)
  ·
    exact a_sub [0, 1] rfl (tX8_goesThrough_140 E l _ k13 p13 N l0 l1 μ t hk h)
  ·
    refine a_aload_n 0 dX8_goesThrough_110 rfl rfl ?_
    refine a_getfr (c := 8) (i := 62) dX8_goesThrough_111 fRX8_140 g8_62 rfl hk ?_
    refine a_aload_n 0 dX8_goesThrough_114 rfl rfl ?_
    refine a_getfi (c := 8) (i := 65) dX8_goesThrough_115 fRX8_385 g8_65 rfl hk ?_
    refine a_iald dX8_goesThrough_118 h (fun x3 h => ?_)
    refine a_if_ne (tgt := 140) dX8_goesThrough_119 rfl h (fun h => ?_) (fun h => ?_)
    ·
      exact a_sub [0, 1] rfl (tX8_goesThrough_140 E l _ k13 p13 N l0 l1 μ t hk h)
    ·
      refine a_aload_n 0 dX8_goesThrough_122 rfl rfl ?_
      refine a_getfr (c := 8) (i := 62) dX8_goesThrough_123 fRX8_140 g8_62 rfl hk ?_
      refine a_aload_n 0 dX8_goesThrough_126 rfl rfl ?_
      refine a_getfi (c := 8) (i := 65) dX8_goesThrough_127 fRX8_385 g8_65 rfl hk ?_
      refine a_aload_n 0 dX8_goesThrough_130 rfl rfl ?_
      refine a_getfr (c := 8) (i := 61) dX8_goesThrough_131 fRX8_137 g8_61 rfl hk ?_
      refine a_aload_n 0 dX8_goesThrough_134 rfl rfl ?_
      refine a_getfi (c := 8) (i := 65) dX8_goesThrough_135 fRX8_385 g8_65 rfl hk ?_
      refine a_iald dX8_goesThrough_138 h (fun x4 h => ?_)
      refine a_iast dX8_goesThrough_139 h (fun μ1 hm h => ?_)
      have hk := hm.k hk (by decide)
      exact a_sub [0, 1] rfl (tX8_goesThrough_140 E l _ k13 p13 N l0 l1 μ1 t hk h)
theorem tX8_goesThrough_13b (E : m_E) (l : Launch) (z : Nat × Nat) (k13 : Int → Int → Mm → Option (Mm)) (p13 : ∀ (l0 l1 : Int) (μ : Mm) (t : Mm), m_kd μ l0 = (8, 0) → k13 l0 l1 μ = some t → aX8_goesThrough E l 2 z 13 [(0, vr l0), (1, vi l1)] [] μ (rV t)) (N : Nat) (l0 l1 : Int) (μ : Mm) (t : Mm) (hk : m_kd μ l0 = (8, 0)) (h : jX8_goesThrough_13b k13 N l0 l1 μ = some t) : aX8_goesThrough E l 2 z 13 [(0, vr l0), (1, vi l1)] [] μ (rV t) := by
  unfold jX8_goesThrough_13b at h
  refine a_iload_n 1 dX8_goesThrough_13 rfl rfl ?_
  refine a_aload_n 0 dX8_goesThrough_14 rfl rfl ?_
  refine a_getfi (c := 8) (i := 58) dX8_goesThrough_15 fRX8_324 g8_58 rfl hk ?_
  refine a_icmp_ge (tgt := 176) dX8_goesThrough_18 rfl h (fun h => ?_) (fun h => ?_)
  ·
    exact a_sub [0, 1] rfl (tX8_goesThrough_176 E l _ N l0 l1 μ t hk h)
  ·
    refine a_aload_n 0 dX8_goesThrough_21 rfl rfl ?_
    refine a_getfi (c := 8) (i := 65) dX8_goesThrough_22 fRX8_385 g8_65 rfl hk ?_
    refine a_aload_n 0 dX8_goesThrough_25 rfl rfl ?_
    refine a_getfr (c := 8) (i := 32) dX8_goesThrough_26 fRX8_87 g8_32 rfl hk ?_
    refine a_iconst dX8_goesThrough_29 (okI_b _ rfl) ?_
    refine a_iald dX8_goesThrough_30 h (fun x1 h => ?_)
    refine a_icmp_ge (tgt := 176) dX8_goesThrough_31 rfl h (fun h => ?_) (fun h => ?_)
    ·
      exact a_sub [0, 1] rfl (tX8_goesThrough_176 E l _ N l0 l1 μ t hk h)
    ·
      refine a_aload_n 0 dX8_goesThrough_34 rfl rfl ?_
      refine a_getfr (c := 8) (i := 59) dX8_goesThrough_35 fRX8_131 g8_59 rfl hk ?_
      refine a_iload_n 1 dX8_goesThrough_38 rfl rfl ?_
      refine a_iald dX8_goesThrough_39 h (fun x2 h => ?_)
      refine a_istore_n (L' := [(2, vi x2), (0, vr l0), (1, vi l1)]) dX8_goesThrough_40 rfl (by decide) rfl ?_
      refine a_iinc (F := fun x3 => [(1, vi x3), (2, vi x2), (0, vr l0)]) 2 dX8_goesThrough_41 rfl (by decide) h (fun _ => rfl) (fun x3 h => ?_)
      refine a_aload_n 2 dX8_goesThrough_44 rfl rfl ?_
      refine a_getfr (c := 8) (i := 61) dX8_goesThrough_45 fRX8_137 g8_61 rfl hk ?_
      refine a_aload_n 2 dX8_goesThrough_48 rfl rfl ?_
      refine a_getfi (c := 8) (i := 65) dX8_goesThrough_49 fRX8_385 g8_65 rfl hk ?_
      refine a_dup2 dX8_goesThrough_52 rfl rfl ?_
      refine a_iald dX8_goesThrough_53 h (fun x4 h => ?_)
      refine a_iconst dX8_goesThrough_54 (okI_b _ rfl) ?_
      refine a_iadd dX8_goesThrough_55 ?_
      refine a_iast dX8_goesThrough_56 h (fun μ1 hm h => ?_)
      have hk := hm.k hk (by decide)
      refine a_aload_n 2 dX8_goesThrough_57 rfl rfl ?_
      refine a_getfr (c := 8) (i := 63) dX8_goesThrough_58 fRX8_143 g8_63 rfl hk ?_
      refine a_aload_n 2 dX8_goesThrough_61 rfl rfl ?_
      refine a_getfi (c := 8) (i := 65) dX8_goesThrough_62 fRX8_385 g8_65 rfl hk ?_
      refine a_dup2 dX8_goesThrough_65 rfl rfl ?_
      refine a_iald dX8_goesThrough_66 h (fun x5 h => ?_)
      refine a_iload_n 1 dX8_goesThrough_67 rfl rfl ?_
      refine a_cSi [vi x2] [vi x5, vi (m_gt μ1 l0 65), vr (m_gt μ1 l0 63)] dX8_goesThrough_68 myX8_taken mRX8_391 msX8_taken (fun _ hj => tX8_taken E l N x2 μ1 _  hj) (by decide) rfl (Nat.le_of_ble_eq_true rfl) h (fun x6 μ2 hm h => ?_)
      have hk := hm.k hk (by decide)
      refine a_iadd dX8_goesThrough_71 ?_
      refine a_iast dX8_goesThrough_72 h (fun μ3 hm h => ?_)
      have hk := hm.k hk (by decide)
      refine a_iload_n 1 dX8_goesThrough_73 rfl rfl ?_
      refine a_bipush dX8_goesThrough_74 ⟨rfl, okI_b _ rfl⟩ ?_
      refine a_icmp_ne (tgt := 92) dX8_goesThrough_76 rfl h (fun h => ?_) (fun h => ?_)
      ·
        exact a_sub [2, 0] rfl (tX8_goesThrough_92 E l _ k13 p13 N l0 x3 μ3 t hk h)
      ·
        refine a_aload_n 2 dX8_goesThrough_79 rfl rfl ?_
        refine a_getfr (c := 8) (i := 64) dX8_goesThrough_80 fRX8_146 g8_64 rfl hk ?_
        refine a_aload_n 2 dX8_goesThrough_83 rfl rfl ?_
        refine a_getfi (c := 8) (i := 65) dX8_goesThrough_84 fRX8_385 g8_65 rfl hk ?_
        refine a_dup2 dX8_goesThrough_87 rfl rfl ?_
        refine a_iald dX8_goesThrough_88 h (fun x7 h => ?_)
        refine a_iconst dX8_goesThrough_89 (okI_b _ rfl) ?_
        refine a_iadd dX8_goesThrough_90 ?_
        refine a_iast dX8_goesThrough_91 h (fun μ4 hm h => ?_)
        have hk := hm.k hk (by decide)
        exact a_sub [2, 0] rfl (tX8_goesThrough_92 E l _ k13 p13 N l0 x3 μ4 t hk h)
theorem tX8_goesThrough_13 (E : m_E) (l : Launch) (z : Nat × Nat) (N : Nat) : ∀ (n : Nat) (l0 l1 : Int) (μ : Mm) (t : Mm), m_kd μ l0 = (8, 0) → jX8_goesThrough_13 N n l0 l1 μ = some t → aX8_goesThrough E l 2 z 13 [(0, vr l0), (1, vi l1)] [] μ (rV t)
  | 0, _, _, _, _, _, h => by cases h
  | n + 1, l0, l1, μ, t, hk, h => tX8_goesThrough_13b E l z (jX8_goesThrough_13 N n) (tX8_goesThrough_13 E l z N n) N l0 l1 μ t hk h
theorem tX8_goesThrough (E : m_E) (l : Launch) (N : Nat) (l0 : Int) (μ : Mm) (t : Mm) (hk : m_kd μ l0 = (8, 0)) (h : jX8_goesThrough N l0 μ = some t) : TT E l 2 yX8_goesThrough cX8_goesThrough 4 none [vr l0] μ (rV t) := by
  refine tt_of (L := [(0, vr l0)]) (by decide +kernel) (Nat.le_of_ble_eq_true rfl) rfl ?_
  show aX8_goesThrough E l 2 (m_sz μ, m_sl μ) 0 [(0, vr l0)] [] μ (rV t)
  unfold jX8_goesThrough at h
  refine a_iconst dX8_goesThrough_0 (okI_b _ rfl) ?_
  refine a_istore_n (L' := [(1, vi 0), (0, vr l0)]) dX8_goesThrough_1 rfl (by decide) rfl ?_
  refine a_aload_n 1 dX8_goesThrough_2 rfl rfl ?_
  refine a_iconst dX8_goesThrough_3 (okI_b _ rfl) ?_
  refine a_putfi (c := 8) (i := 65) dX8_goesThrough_4 fRX8_385 g8_65 (Or.inl rfl) rfl hk h (fun μ1 hm h => ?_)
  have hk := hm.k hk (by decide)
  refine a_aload_n 1 dX8_goesThrough_7 rfl rfl ?_
  refine a_iconst dX8_goesThrough_8 (okI_b _ rfl) ?_
  refine a_iconst dX8_goesThrough_9 (okI_b _ rfl) ?_
  refine a_cVv (c := 8) [vi 0, vi 0] [] dX8_goesThrough_10 myX8_empties mRX8_388 mvX8_empties rfl (by decide) hk (fun _ hj => tX8_empties E l N l0 0 0 μ1 _ hk hj) (by decide) rfl (Nat.le_of_ble_eq_true rfl) h (fun μ2 hm h => ?_)
  have hk := hm.k hk (by decide)
  exact a_sub [1, 0] rfl (tX8_goesThrough_13 E l _ N N l0 0 μ2 t hk h)
-- X8_nextRow
abbrev aX8_nextRow (E : m_E) (l : Launch) (d : Nat) (z : Nat × Nat) (pc : Nat) (L : List (Nat × AV)) (st : List AV) (μ : Mm) (ρ : Option AV × Mm) : Prop := AA E l d z RX8 "nextRow" cX8_nextRow 5 (some .boolean) pc L st μ ρ
theorem tX8_nextRow_65b (E : m_E) (l : Launch) (z : Nat × Nat) (k65 : Int → Int → Int → Mm → Option (Int × Mm)) (p65 : ∀ (l0 l1 l3 : Int) (μ : Mm) (t : Int × Mm), m_kd μ l0 = (8, 0) → k65 l0 l1 l3 μ = some t → aX8_nextRow E l 1 z 65 [(0, vr l0), (1, vi l1), (3, vi l3)] [] μ (rI t)) (N : Nat) (l0 l1 l3 : Int) (μ : Mm) (t : Int × Mm) (hk : m_kd μ l0 = (8, 0)) (h : jX8_nextRow_65b k65 N l0 l1 l3 μ = some t) : aX8_nextRow E l 1 z 65 [(0, vr l0), (1, vi l1), (3, vi l3)] [] μ (rI t) := by
  unfold jX8_nextRow_65b at h
  refine a_aload_n 0 dX8_nextRow_65 rfl rfl ?_
  refine a_getfi (c := 8) (i := 74) dX8_nextRow_66 fRX8_430 g8_74 rfl hk ?_
  refine a_if_le (tgt := 134) dX8_nextRow_69 rfl h (fun h => ?_) (fun h => ?_)
  ·
    refine a_iconst dX8_nextRow_134 (okI_b _ rfl) ?_
    exact a_retzl (Or.inl rfl) dX8_nextRow_135 h
  ·
    refine a_aload_n 0 dX8_nextRow_72 rfl rfl ?_
    refine a_dup dX8_nextRow_73 rfl ?_
    refine a_getfi (c := 8) (i := 74) dX8_nextRow_74 fRX8_430 g8_74 rfl hk ?_
    refine a_iconst dX8_nextRow_77 (okI_b _ rfl) ?_
    refine a_isub dX8_nextRow_78 ?_
    refine a_putfi (c := 8) (i := 74) dX8_nextRow_79 fRX8_430 g8_74 (Or.inl rfl) rfl hk h (fun μ1 hm h => ?_)
    have hk := hm.k hk (by decide)
    refine a_iload_n 2 dX8_nextRow_82 rfl rfl ?_
    refine a_aload_n 0 dX8_nextRow_83 rfl rfl ?_
    refine a_getfr (c := 8) (i := 73) dX8_nextRow_84 fRX8_156 g8_73 rfl hk ?_
    refine a_aload_n 0 dX8_nextRow_87 rfl rfl ?_
    refine a_getfi (c := 8) (i := 74) dX8_nextRow_88 fRX8_430 g8_74 rfl hk ?_
    refine a_iald dX8_nextRow_91 h (fun x1 h => ?_)
    refine a_isub dX8_nextRow_92 ?_
    refine a_nmi h (fun x2 h => ?_)
    refine a_istore_n (L' := [(3, vi x2), (0, vr l0), (1, vi l1)]) dX8_nextRow_93 rfl (by decide) rfl ?_
    refine a_aload_n 1 dX8_nextRow_94 rfl rfl ?_
    refine a_getfr (c := 8) (i := 73) dX8_nextRow_95 fRX8_156 g8_73 rfl hk ?_
    refine a_aload_n 1 dX8_nextRow_98 rfl rfl ?_
    refine a_getfi (c := 8) (i := 74) dX8_nextRow_99 fRX8_430 g8_74 rfl hk ?_
    refine a_iald dX8_nextRow_102 h (fun x3 h => ?_)
    refine a_iload_n 0 dX8_nextRow_103 rfl rfl ?_
    refine a_iadd dX8_nextRow_104 ?_
    refine a_iload_n 2 dX8_nextRow_105 rfl rfl ?_
    refine a_icmp_ge (tgt := 65) dX8_nextRow_106 rfl h (fun h => ?_) (fun h => ?_)
    ·
      exact a_sub [1, 2, 0] rfl (p65 l0 l1 x2 μ1 t hk h)
    ·
      refine a_aload_n 1 dX8_nextRow_109 rfl rfl ?_
      refine a_getfr (c := 8) (i := 73) dX8_nextRow_110 fRX8_156 g8_73 rfl hk ?_
      refine a_aload_n 1 dX8_nextRow_113 rfl rfl ?_
      refine a_getfi (c := 8) (i := 74) dX8_nextRow_114 fRX8_430 g8_74 rfl hk ?_
      refine a_dup2 dX8_nextRow_117 rfl rfl ?_
      refine a_iald dX8_nextRow_118 h (fun x4 h => ?_)
      refine a_iconst dX8_nextRow_119 (okI_b _ rfl) ?_
      refine a_iadd dX8_nextRow_120 ?_
      refine a_iast dX8_nextRow_121 h (fun μ2 hm h => ?_)
      have hk := hm.k hk (by decide)
      refine a_aload_n 1 dX8_nextRow_122 rfl rfl ?_
      refine a_dup dX8_nextRow_123 rfl ?_
      refine a_getfi (c := 8) (i := 74) dX8_nextRow_124 fRX8_430 g8_74 rfl hk ?_
      refine a_iconst dX8_nextRow_127 (okI_b _ rfl) ?_
      refine a_iadd dX8_nextRow_128 ?_
      refine a_putfi (c := 8) (i := 74) dX8_nextRow_129 fRX8_430 g8_74 (Or.inl rfl) rfl hk h (fun μ3 hm h => ?_)
      have hk := hm.k hk (by decide)
      refine a_iconst dX8_nextRow_132 (okI_b _ rfl) ?_
      exact a_retzl (Or.inr rfl) dX8_nextRow_133 h
theorem tX8_nextRow_65 (E : m_E) (l : Launch) (z : Nat × Nat) (N : Nat) : ∀ (n : Nat) (l0 l1 l3 : Int) (μ : Mm) (t : Int × Mm), m_kd μ l0 = (8, 0) → jX8_nextRow_65 N n l0 l1 l3 μ = some t → aX8_nextRow E l 1 z 65 [(0, vr l0), (1, vi l1), (3, vi l3)] [] μ (rI t)
  | 0, _, _, _, _, _, _, h => by cases h
  | n + 1, l0, l1, l3, μ, t, hk, h => tX8_nextRow_65b E l z (jX8_nextRow_65 N n) (tX8_nextRow_65 E l z N n) N l0 l1 l3 μ t hk h
theorem tX8_nextRow_5b (E : m_E) (l : Launch) (z : Nat × Nat) (k5 : Int → Int → Int → Int → Int → Mm → Option (Int × Mm)) (p5 : ∀ (l0 l1 l2 l3 l4 : Int) (μ : Mm) (t : Int × Mm), m_kd μ l0 = (8, 0) → k5 l0 l1 l2 l3 l4 μ = some t → aX8_nextRow E l 1 z 5 [(0, vr l0), (1, vi l1), (2, vi l2), (3, vi l3), (4, vi l4)] [] μ (rI t)) (N : Nat) (l0 l1 l2 l3 l4 : Int) (μ : Mm) (t : Int × Mm) (hk : m_kd μ l0 = (8, 0)) (h : jX8_nextRow_5b k5 N l0 l1 l2 l3 l4 μ = some t) : aX8_nextRow E l 1 z 5 [(0, vr l0), (1, vi l1), (2, vi l2), (3, vi l3), (4, vi l4)] [] μ (rI t) := by
  unfold jX8_nextRow_5b at h
  refine a_iload 4 dX8_nextRow_5 rfl ?_
  refine a_aload_n 0 dX8_nextRow_7 rfl rfl ?_
  refine a_getfi (c := 8) (i := 74) dX8_nextRow_8 fRX8_430 g8_74 rfl hk ?_
  refine a_icmp_ge (tgt := 30) dX8_nextRow_11 rfl h (fun h => ?_) (fun h => ?_)
  ·
    refine a_aload_n 0 dX8_nextRow_30 rfl rfl ?_
    refine a_getfi (c := 8) (i := 74) dX8_nextRow_31 fRX8_430 g8_74 rfl hk ?_
    refine a_iload_n 2 dX8_nextRow_34 rfl rfl ?_
    refine a_icmp_ge (tgt := 65) dX8_nextRow_35 rfl h (fun h => ?_) (fun h => ?_)
    ·
      exact a_sub [0, 1, 3] rfl (tX8_nextRow_65 E l _ N N l0 l1 l3 μ t hk h)
    ·
      refine a_iload_n 3 dX8_nextRow_38 rfl rfl ?_
      refine a_iload_n 1 dX8_nextRow_39 rfl rfl ?_
      refine a_icmp_ge (tgt := 65) dX8_nextRow_40 rfl h (fun h => ?_) (fun h => ?_)
      ·
        exact a_sub [0, 1, 3] rfl (tX8_nextRow_65 E l _ N N l0 l1 l3 μ t hk h)
      ·
        refine a_aload_n 0 dX8_nextRow_43 rfl rfl ?_
        refine a_getfr (c := 8) (i := 73) dX8_nextRow_44 fRX8_156 g8_73 rfl hk ?_
        refine a_aload_n 0 dX8_nextRow_47 rfl rfl ?_
        refine a_getfi (c := 8) (i := 74) dX8_nextRow_48 fRX8_430 g8_74 rfl hk ?_
        refine a_iconst dX8_nextRow_51 (okI_b _ rfl) ?_
        refine a_iast dX8_nextRow_52 h (fun μ1 hm h => ?_)
        have hk := hm.k hk (by decide)
        refine a_aload_n 0 dX8_nextRow_53 rfl rfl ?_
        refine a_dup dX8_nextRow_54 rfl ?_
        refine a_getfi (c := 8) (i := 74) dX8_nextRow_55 fRX8_430 g8_74 rfl hk ?_
        refine a_iconst dX8_nextRow_58 (okI_b _ rfl) ?_
        refine a_iadd dX8_nextRow_59 ?_
        refine a_putfi (c := 8) (i := 74) dX8_nextRow_60 fRX8_430 g8_74 (Or.inl rfl) rfl hk h (fun μ2 hm h => ?_)
        have hk := hm.k hk (by decide)
        refine a_iconst dX8_nextRow_63 (okI_b _ rfl) ?_
        exact a_retzl (Or.inr rfl) dX8_nextRow_64 h
  ·
    refine a_iload_n 3 dX8_nextRow_14 rfl rfl ?_
    refine a_aload_n 0 dX8_nextRow_15 rfl rfl ?_
    refine a_getfr (c := 8) (i := 73) dX8_nextRow_16 fRX8_156 g8_73 rfl hk ?_
    refine a_iload 4 dX8_nextRow_19 rfl ?_
    refine a_iald dX8_nextRow_21 h (fun x1 h => ?_)
    refine a_iadd dX8_nextRow_22 ?_
    refine a_nmi h (fun x2 h => ?_)
    refine a_istore_n (L' := [(3, vi x2), (0, vr l0), (1, vi l1), (2, vi l2), (4, vi l4)]) dX8_nextRow_23 rfl (by decide) rfl ?_
    refine a_iinc (F := fun x3 => [(4, vi x3), (3, vi x2), (0, vr l0), (1, vi l1), (2, vi l2)]) 4 dX8_nextRow_24 rfl (by decide) h (fun _ => rfl) (fun x3 h => ?_)
    refine a_goto (tgt := 5) dX8_nextRow_27 rfl ?_
    exact a_sub [2, 3, 4, 1, 0] rfl (p5 l0 l1 l2 x2 x3 μ t hk h)
theorem tX8_nextRow_5 (E : m_E) (l : Launch) (z : Nat × Nat) (N : Nat) : ∀ (n : Nat) (l0 l1 l2 l3 l4 : Int) (μ : Mm) (t : Int × Mm), m_kd μ l0 = (8, 0) → jX8_nextRow_5 N n l0 l1 l2 l3 l4 μ = some t → aX8_nextRow E l 1 z 5 [(0, vr l0), (1, vi l1), (2, vi l2), (3, vi l3), (4, vi l4)] [] μ (rI t)
  | 0, _, _, _, _, _, _, _, _, h => by cases h
  | n + 1, l0, l1, l2, l3, l4, μ, t, hk, h => tX8_nextRow_5b E l z (jX8_nextRow_5 N n) (tX8_nextRow_5 E l z N n) N l0 l1 l2 l3 l4 μ t hk h
theorem tX8_nextRow (E : m_E) (l : Launch) (N : Nat) (l0 l1 l2 : Int) (μ : Mm) (t : Int × Mm) (hk : m_kd μ l0 = (8, 0)) (h : jX8_nextRow N l0 l1 l2 μ = some t) : TT E l 1 yX8_nextRow cX8_nextRow 5 (some .boolean) [vr l0, vi l1, vi l2] μ (rI t) := by
  refine tt_of (L := [(0, vr l0), (1, vi l1), (2, vi l2)]) (by decide +kernel) (Nat.le_of_ble_eq_true rfl) rfl ?_
  show aX8_nextRow E l 1 (m_sz μ, m_sl μ) 0 [(0, vr l0), (1, vi l1), (2, vi l2)] [] μ (rI t)
  unfold jX8_nextRow at h
  refine a_iconst dX8_nextRow_0 (okI_b _ rfl) ?_
  refine a_istore_n (L' := [(3, vi 0), (0, vr l0), (1, vi l1), (2, vi l2)]) dX8_nextRow_1 rfl (by decide) rfl ?_
  refine a_iconst dX8_nextRow_2 (okI_b _ rfl) ?_
  refine a_istore (L' := [(4, vi 0), (3, vi 0), (0, vr l0), (1, vi l1), (2, vi l2)]) dX8_nextRow_3 (by decide) rfl ?_
  exact a_sub [2, 3, 4, 1, 0] rfl (tX8_nextRow_5 E l _ N N l0 l1 l2 0 0 μ t hk h)
-- X8_owedNow
abbrev aX8_owedNow (E : m_E) (l : Launch) (d : Nat) (z : Nat × Nat) (pc : Nat) (L : List (Nat × AV)) (st : List AV) (μ : Mm) (ρ : Option AV × Mm) : Prop := AA E l d z RX8 "owedNow" cX8_owedNow 4 (some .int) pc L st μ ρ
theorem tX8_owedNow_63 (E : m_E) (l : Launch) (z : Nat × Nat) (N : Nat) (l0 l1 : Int) (μ : Mm) (t : Int × Mm) (hk : m_kd μ l0 = (8, 0)) (h : jX8_owedNow_63 N l0 l1 μ = some t) : aX8_owedNow E l 2 z 63 [(0, vr l0), (1, vi l1)] [] μ (rI t) := by
  unfold jX8_owedNow_63 at h
  refine a_iload_n 1 dX8_owedNow_63 rfl rfl ?_
  exact a_reti dX8_owedNow_64 h
theorem tX8_owedNow_57 (E : m_E) (l : Launch) (z : Nat × Nat) (k4 : Int → Int → Int → Mm → Option (Int × Mm)) (p4 : ∀ (l0 l1 l2 : Int) (μ : Mm) (t : Int × Mm), m_kd μ l0 = (8, 0) → k4 l0 l1 l2 μ = some t → aX8_owedNow E l 2 z 4 [(0, vr l0), (1, vi l1), (2, vi l2)] [] μ (rI t)) (N : Nat) (l0 l1 l2 : Int) (μ : Mm) (t : Int × Mm) (hk : m_kd μ l0 = (8, 0)) (h : jX8_owedNow_57 k4 N l0 l1 l2 μ = some t) : aX8_owedNow E l 2 z 57 [(0, vr l0), (1, vi l1), (2, vi l2)] [] μ (rI t) := by
  unfold jX8_owedNow_57 at h
  refine a_iinc (F := fun x1 => [(2, vi x1), (0, vr l0), (1, vi l1)]) 2 dX8_owedNow_57 rfl (by decide) h (fun _ => rfl) (fun x1 h => ?_)
  refine a_goto (tgt := 4) dX8_owedNow_60 rfl ?_
  exact a_sub [1, 2, 0] rfl (p4 l0 l1 x1 μ t hk h)
theorem tX8_owedNow_4b (E : m_E) (l : Launch) (z : Nat × Nat) (k4 : Int → Int → Int → Mm → Option (Int × Mm)) (p4 : ∀ (l0 l1 l2 : Int) (μ : Mm) (t : Int × Mm), m_kd μ l0 = (8, 0) → k4 l0 l1 l2 μ = some t → aX8_owedNow E l 2 z 4 [(0, vr l0), (1, vi l1), (2, vi l2)] [] μ (rI t)) (N : Nat) (l0 l1 l2 : Int) (μ : Mm) (t : Int × Mm) (hk : m_kd μ l0 = (8, 0)) (h : jX8_owedNow_4b k4 N l0 l1 l2 μ = some t) : aX8_owedNow E l 2 z 4 [(0, vr l0), (1, vi l1), (2, vi l2)] [] μ (rI t) := by
  unfold jX8_owedNow_4b at h
  refine a_iload_n 2 dX8_owedNow_4 rfl rfl ?_
  refine a_aload_n 0 dX8_owedNow_5 rfl rfl ?_
  refine a_getfi (c := 8) (i := 65) dX8_owedNow_6 fRX8_385 g8_65 rfl hk ?_
  refine a_icmp_ge (tgt := 63) dX8_owedNow_9 rfl h (fun h => ?_) (fun h => ?_)
  ·
    exact a_sub [0, 1] rfl (tX8_owedNow_63 E l _ N l0 l1 μ t hk h)
  ·
    refine a_iload_n 2 dX8_owedNow_12 rfl rfl ?_
    refine a_aload_n 0 dX8_owedNow_13 rfl rfl ?_
    refine a_getfr (c := 8) (i := 32) dX8_owedNow_14 fRX8_87 g8_32 rfl hk ?_
    refine a_iconst dX8_owedNow_17 (okI_b _ rfl) ?_
    refine a_iald dX8_owedNow_18 h (fun x1 h => ?_)
    refine a_icmp_ge (tgt := 63) dX8_owedNow_19 rfl h (fun h => ?_) (fun h => ?_)
    ·
      exact a_sub [0, 1] rfl (tX8_owedNow_63 E l _ N l0 l1 μ t hk h)
    ·
      refine a_aload_n 0 dX8_owedNow_22 rfl rfl ?_
      refine a_iload_n 2 dX8_owedNow_23 rfl rfl ?_
      refine a_cVi (c := 8) [vi l2] [] dX8_owedNow_24 myX8_owed mRX8_407 mvX8_owed rfl (by decide) hk (fun _ hj => tX8_owed E l N l0 l2 μ _ hk hj) (by decide) rfl (Nat.le_of_ble_eq_true rfl) h (fun x2 μ1 hm h => ?_)
      have hk := hm.k hk (by decide)
      refine a_aload_n 0 dX8_owedNow_27 rfl rfl ?_
      refine a_getfi (c := 8) (i := 58) dX8_owedNow_28 fRX8_324 g8_58 rfl hk ?_
      refine a_aload_n 0 dX8_owedNow_31 rfl rfl ?_
      refine a_getfr (c := 8) (i := 60) dX8_owedNow_32 fRX8_134 g8_60 rfl hk ?_
      refine a_iload_n 2 dX8_owedNow_35 rfl rfl ?_
      refine a_iald dX8_owedNow_36 h (fun x3 h => ?_)
      refine a_isub dX8_owedNow_37 ?_
      refine a_aload_n 0 dX8_owedNow_38 rfl rfl ?_
      refine a_getfr (c := 8) (i := 61) dX8_owedNow_39 fRX8_137 g8_61 rfl hk ?_
      refine a_iload_n 2 dX8_owedNow_42 rfl rfl ?_
      refine a_iald dX8_owedNow_43 h (fun x4 h => ?_)
      refine a_isub dX8_owedNow_44 ?_
      refine a_isub dX8_owedNow_45 ?_
      refine a_nmi h (fun x5 h => ?_)
      refine a_istore_n (L' := [(3, vi x5), (0, vr l0), (1, vi l1), (2, vi l2)]) dX8_owedNow_46 rfl (by decide) rfl ?_
      refine a_iload_n 0 dX8_owedNow_47 rfl rfl ?_
      refine a_if_le (tgt := 57) dX8_owedNow_48 rfl h (fun h => ?_) (fun h => ?_)
      ·
        exact a_sub [1, 2, 3] rfl (tX8_owedNow_57 E l _ k4 p4 N l0 l1 l2 μ1 t hk h)
      ·
        refine a_iload_n 2 dX8_owedNow_51 rfl rfl ?_
        refine a_iload_n 0 dX8_owedNow_52 rfl rfl ?_
        refine a_cSi [vi l1, vi x5] [] dX8_owedNow_53 myX8_plus mRX8_442 msX8_plus (fun _ hj => tX8_plus E l N l1 x5 μ1 _  hj) (by decide) rfl (Nat.le_of_ble_eq_true rfl) h (fun x6 μ2 hm h => ?_)
        have hk := hm.k hk (by decide)
        refine a_istore_n (L' := [(1, vi x6), (3, vi x5), (0, vr l0), (2, vi l2)]) dX8_owedNow_56 rfl (by decide) rfl ?_
        exact a_sub [2, 0, 3] rfl (tX8_owedNow_57 E l _ k4 p4 N l0 x6 l2 μ2 t hk h)
theorem tX8_owedNow_4 (E : m_E) (l : Launch) (z : Nat × Nat) (N : Nat) : ∀ (n : Nat) (l0 l1 l2 : Int) (μ : Mm) (t : Int × Mm), m_kd μ l0 = (8, 0) → jX8_owedNow_4 N n l0 l1 l2 μ = some t → aX8_owedNow E l 2 z 4 [(0, vr l0), (1, vi l1), (2, vi l2)] [] μ (rI t)
  | 0, _, _, _, _, _, _, h => by cases h
  | n + 1, l0, l1, l2, μ, t, hk, h => tX8_owedNow_4b E l z (jX8_owedNow_4 N n) (tX8_owedNow_4 E l z N n) N l0 l1 l2 μ t hk h
theorem tX8_owedNow (E : m_E) (l : Launch) (N : Nat) (l0 : Int) (μ : Mm) (t : Int × Mm) (hk : m_kd μ l0 = (8, 0)) (h : jX8_owedNow N l0 μ = some t) : TT E l 2 yX8_owedNow cX8_owedNow 4 (some .int) [vr l0] μ (rI t) := by
  refine tt_of (L := [(0, vr l0)]) (by decide +kernel) (Nat.le_of_ble_eq_true rfl) rfl ?_
  show aX8_owedNow E l 2 (m_sz μ, m_sl μ) 0 [(0, vr l0)] [] μ (rI t)
  unfold jX8_owedNow at h
  refine a_iconst dX8_owedNow_0 (okI_b _ rfl) ?_
  refine a_istore_n (L' := [(1, vi 0), (0, vr l0)]) dX8_owedNow_1 rfl (by decide) rfl ?_
  refine a_iconst dX8_owedNow_2 (okI_b _ rfl) ?_
  refine a_istore_n (L' := [(2, vi 0), (1, vi 0), (0, vr l0)]) dX8_owedNow_3 rfl (by decide) rfl ?_
  exact a_sub [2, 1, 0] rfl (tX8_owedNow_4 E l _ N N l0 0 0 μ t hk h)
-- X8_pointsOf
abbrev aX8_pointsOf (E : m_E) (l : Launch) (d : Nat) (z : Nat × Nat) (pc : Nat) (L : List (Nat × AV)) (st : List AV) (μ : Mm) (ρ : Option AV × Mm) : Prop := AA E l d z RX8 "pointsOf" cX8_pointsOf 5 (some .int) pc L st μ ρ
theorem tX8_pointsOf_102 (E : m_E) (l : Launch) (z : Nat × Nat) (N : Nat) (l0 l2 : Int) (μ : Mm) (t : Int × Mm) (hk : m_kd μ l0 = (8, 0)) (h : jX8_pointsOf_102 N l0 l2 μ = some t) : aX8_pointsOf E l 5 z 102 [(0, vr l0), (2, vi l2)] [] μ (rI t) := by
  unfold jX8_pointsOf_102 at h
  refine a_iload_n 1 dX8_pointsOf_102 rfl rfl ?_
  exact a_reti dX8_pointsOf_103 h
theorem tX8_pointsOf_62b (E : m_E) (l : Launch) (z : Nat × Nat) (k62 : Int → Int → Int → Int → Int → Mm → Option (Int × Mm)) (p62 : ∀ (l0 l1 l2 l3 l4 : Int) (μ : Mm) (t : Int × Mm), m_kd μ l0 = (8, 0) → k62 l0 l1 l2 l3 l4 μ = some t → aX8_pointsOf E l 5 z 62 [(0, vr l0), (1, vi l1), (2, vi l2), (3, vi l3), (4, vi l4)] [] μ (rI t)) (N : Nat) (l0 l1 l2 l3 l4 : Int) (μ : Mm) (t : Int × Mm) (hk : m_kd μ l0 = (8, 0)) (h : jX8_pointsOf_62b k62 N l0 l1 l2 l3 l4 μ = some t) : aX8_pointsOf E l 5 z 62 [(0, vr l0), (1, vi l1), (2, vi l2), (3, vi l3), (4, vi l4)] [] μ (rI t) := by
  unfold jX8_pointsOf_62b at h
  refine a_iload 4 dX8_pointsOf_62 rfl ?_
  refine a_iload_n 3 dX8_pointsOf_64 rfl rfl ?_
  refine a_aload_n 0 dX8_pointsOf_65 rfl rfl ?_
  refine a_iload_n 1 dX8_pointsOf_66 rfl rfl ?_
  refine a_cVi (c := 8) [vi l1] [vi l3, vi l4] dX8_pointsOf_67 myX8_owed mRX8_407 mvX8_owed rfl (by decide) hk (fun _ hj => tX8_owed E l N l0 l1 μ _ hk hj) (by decide) rfl (Nat.le_of_ble_eq_true rfl) h (fun x1 μ1 hm h => ?_)
  have hk := hm.k hk (by decide)
  refine a_iadd dX8_pointsOf_70 ?_
  refine a_icmp_ge (tgt := 102) dX8_pointsOf_71 rfl h (fun h => ?_) (fun h => ?_)
  ·
    exact a_sub [0, 2] rfl (tX8_pointsOf_102 E l _ N l0 l2 μ1 t hk h)
  ·
    refine a_iload 4 dX8_pointsOf_74 rfl ?_
    refine a_aload_n 0 dX8_pointsOf_76 rfl rfl ?_
    refine a_getfi (c := 8) (i := 58) dX8_pointsOf_77 fRX8_324 g8_58 rfl hk ?_
    refine a_icmp_ge (tgt := 102) dX8_pointsOf_80 rfl h (fun h => ?_) (fun h => ?_)
    ·
      exact a_sub [0, 2] rfl (tX8_pointsOf_102 E l _ N l0 l2 μ1 t hk h)
    ·
      refine a_iload_n 2 dX8_pointsOf_83 rfl rfl ?_
      refine a_aload_n 0 dX8_pointsOf_84 rfl rfl ?_
      refine a_getfr (c := 8) (i := 59) dX8_pointsOf_85 fRX8_131 g8_59 rfl hk ?_
      refine a_iload 4 dX8_pointsOf_88 rfl ?_
      refine a_iald dX8_pointsOf_90 h (fun x2 h => ?_)
      refine a_cSi [vi x2] [vi l2] dX8_pointsOf_91 myX8_taken mRX8_391 msX8_taken (fun _ hj => tX8_taken E l N x2 μ1 _  hj) (by decide) rfl (Nat.le_of_ble_eq_true rfl) h (fun x3 μ2 hm h => ?_)
      have hk := hm.k hk (by decide)
      refine a_iadd dX8_pointsOf_94 ?_
      refine a_nmi h (fun x4 h => ?_)
      refine a_istore_n (L' := [(2, vi x4), (0, vr l0), (1, vi l1), (3, vi l3), (4, vi l4)]) dX8_pointsOf_95 rfl (by decide) rfl ?_
      refine a_iinc (F := fun x5 => [(4, vi x5), (2, vi x4), (0, vr l0), (1, vi l1), (3, vi l3)]) 4 dX8_pointsOf_96 rfl (by decide) h (fun _ => rfl) (fun x5 h => ?_)
      refine a_goto (tgt := 62) dX8_pointsOf_99 rfl ?_
      exact a_sub [2, 3, 1, 4, 0] rfl (p62 l0 l1 x4 l3 x5 μ2 t hk h)
theorem tX8_pointsOf_62 (E : m_E) (l : Launch) (z : Nat × Nat) (N : Nat) : ∀ (n : Nat) (l0 l1 l2 l3 l4 : Int) (μ : Mm) (t : Int × Mm), m_kd μ l0 = (8, 0) → jX8_pointsOf_62 N n l0 l1 l2 l3 l4 μ = some t → aX8_pointsOf E l 5 z 62 [(0, vr l0), (1, vi l1), (2, vi l2), (3, vi l3), (4, vi l4)] [] μ (rI t)
  | 0, _, _, _, _, _, _, _, _, h => by cases h
  | n + 1, l0, l1, l2, l3, l4, μ, t, hk, h => tX8_pointsOf_62b E l z (jX8_pointsOf_62 N n) (tX8_pointsOf_62 E l z N n) N l0 l1 l2 l3 l4 μ t hk h
theorem tX8_pointsOf (E : m_E) (l : Launch) (N : Nat) (l0 l1 : Int) (μ : Mm) (t : Int × Mm) (hk : m_kd μ l0 = (8, 0)) (h : jX8_pointsOf N l0 l1 μ = some t) : TT E l 5 yX8_pointsOf cX8_pointsOf 5 (some .int) [vr l0, vi l1] μ (rI t) := by
  refine tt_of (L := [(0, vr l0), (1, vi l1)]) (by decide +kernel) (Nat.le_of_ble_eq_true rfl) rfl ?_
  show aX8_pointsOf E l 5 (m_sz μ, m_sl μ) 0 [(0, vr l0), (1, vi l1)] [] μ (rI t)
  unfold jX8_pointsOf at h
  refine a_aload_n 0 dX8_pointsOf_0 rfl rfl ?_
  refine a_getfr (c := 8) (i := 63) dX8_pointsOf_1 fRX8_143 g8_63 rfl hk ?_
  refine a_iload_n 1 dX8_pointsOf_4 rfl rfl ?_
  refine a_iald dX8_pointsOf_5 h (fun x1 h => ?_)
  refine a_aload_n 0 dX8_pointsOf_6 rfl rfl ?_
  refine a_getfr (c := 8) (i := 34) dX8_pointsOf_7 fRX8_93 g8_34 rfl hk ?_
  refine a_iconst dX8_pointsOf_10 (okI_b _ rfl) ?_
  refine a_iald dX8_pointsOf_11 h (fun x2 h => ?_)
  refine a_aload_n 0 dX8_pointsOf_12 rfl rfl ?_
  refine a_getfr (c := 8) (i := 64) dX8_pointsOf_13 fRX8_146 g8_64 rfl hk ?_
  refine a_iload_n 1 dX8_pointsOf_16 rfl rfl ?_
  refine a_iald dX8_pointsOf_17 h (fun x3 h => ?_)
  refine a_imul dX8_pointsOf_18 ?_
  refine a_isub dX8_pointsOf_19 ?_
  refine a_aload_n 0 dX8_pointsOf_20 rfl rfl ?_
  refine a_iload_n 1 dX8_pointsOf_21 rfl rfl ?_
  refine a_aload_n 0 dX8_pointsOf_22 rfl rfl ?_
  refine a_getfr (c := 8) (i := 63) dX8_pointsOf_23 fRX8_143 g8_63 rfl hk ?_
  refine a_iload_n 1 dX8_pointsOf_26 rfl rfl ?_
  refine a_iald dX8_pointsOf_27 h (fun x4 h => ?_)
  refine a_aload_n 0 dX8_pointsOf_28 rfl rfl ?_
  refine a_getfr (c := 8) (i := 61) dX8_pointsOf_29 fRX8_137 g8_61 rfl hk ?_
  refine a_iload_n 1 dX8_pointsOf_32 rfl rfl ?_
  refine a_iald dX8_pointsOf_33 h (fun x5 h => ?_)
  refine a_aload_n 0 dX8_pointsOf_34 rfl rfl ?_
  refine a_getfr (c := 8) (i := 64) dX8_pointsOf_35 fRX8_146 g8_64 rfl hk ?_
  refine a_iload_n 1 dX8_pointsOf_38 rfl rfl ?_
  refine a_iald dX8_pointsOf_39 h (fun x6 h => ?_)
  refine a_cVi (c := 8) [vi l1, vi x4, vi x5, vi x6] [vi (i_sub x1 (i_mul x2 x3))] dX8_pointsOf_40 myX8_worthOf mRX8_413 mvX8_worthOf rfl (by decide) hk (fun _ hj => tX8_worthOf E l N l0 l1 x4 x5 x6 μ _ hk hj) (by decide) rfl (Nat.le_of_ble_eq_true rfl) h (fun x7 μ1 hm h => ?_)
  have hk := hm.k hk (by decide)
  refine a_iadd dX8_pointsOf_43 ?_
  refine a_nmi h (fun x8 h => ?_)
  refine a_istore_n (L' := [(2, vi x8), (0, vr l0), (1, vi l1)]) dX8_pointsOf_44 rfl (by decide) rfl ?_
  refine a_aload_n 1 dX8_pointsOf_45 rfl rfl ?_
  refine a_getfr (c := 8) (i := 60) dX8_pointsOf_46 fRX8_134 g8_60 rfl hk ?_
  refine a_iload_n 2 dX8_pointsOf_49 rfl rfl ?_
  refine a_iald dX8_pointsOf_50 h (fun x9 h => ?_)
  refine a_aload_n 1 dX8_pointsOf_51 rfl rfl ?_
  refine a_getfr (c := 8) (i := 61) dX8_pointsOf_52 fRX8_137 g8_61 rfl hk ?_
  refine a_iload_n 2 dX8_pointsOf_55 rfl rfl ?_
  refine a_iald dX8_pointsOf_56 h (fun x10 h => ?_)
  refine a_iadd dX8_pointsOf_57 ?_
  refine a_nmi h (fun x11 h => ?_)
  refine a_istore_n (L' := [(3, vi x11), (2, vi x8), (0, vr l0), (1, vi l1)]) dX8_pointsOf_58 rfl (by decide) rfl ?_
  refine a_iload_n 0 dX8_pointsOf_59 rfl rfl ?_
  refine a_istore (L' := [(4, vi x11), (3, vi x11), (2, vi x8), (0, vr l0), (1, vi l1)]) dX8_pointsOf_60 (by decide) rfl ?_
  exact a_sub [3, 4, 2, 1, 0] rfl (tX8_pointsOf_62 E l _ N N l0 l1 x8 x11 x11 μ1 t hk h)
-- X8_soFar
abbrev aX8_soFar (E : m_E) (l : Launch) (d : Nat) (z : Nat × Nat) (pc : Nat) (L : List (Nat × AV)) (st : List AV) (μ : Mm) (ρ : Option AV × Mm) : Prop := AA E l d z RX8 "soFar" cX8_soFar 3 (some .int) pc L st μ ρ
theorem tX8_soFar_4b (E : m_E) (l : Launch) (z : Nat × Nat) (k4 : Int → Int → Int → Mm → Option (Int × Mm)) (p4 : ∀ (l0 l1 l2 : Int) (μ : Mm) (t : Int × Mm), m_kd μ l0 = (8, 0) → k4 l0 l1 l2 μ = some t → aX8_soFar E l 6 z 4 [(0, vr l0), (1, vi l1), (2, vi l2)] [] μ (rI t)) (N : Nat) (l0 l1 l2 : Int) (μ : Mm) (t : Int × Mm) (hk : m_kd μ l0 = (8, 0)) (h : jX8_soFar_4b k4 N l0 l1 l2 μ = some t) : aX8_soFar E l 6 z 4 [(0, vr l0), (1, vi l1), (2, vi l2)] [] μ (rI t) := by
  unfold jX8_soFar_4b at h
  refine a_iload_n 2 dX8_soFar_4 rfl rfl ?_
  refine a_aload_n 0 dX8_soFar_5 rfl rfl ?_
  refine a_getfi (c := 8) (i := 65) dX8_soFar_6 fRX8_385 g8_65 rfl hk ?_
  refine a_icmp_ge (tgt := 26) dX8_soFar_9 rfl h (fun h => ?_) (fun h => ?_)
  ·
    refine a_iload_n 1 dX8_soFar_26 rfl rfl ?_
    exact a_reti dX8_soFar_27 h
  ·
    refine a_iload_n 1 dX8_soFar_12 rfl rfl ?_
    refine a_aload_n 0 dX8_soFar_13 rfl rfl ?_
    refine a_iload_n 2 dX8_soFar_14 rfl rfl ?_
    refine a_cVi (c := 8) [vi l2] [vi l1] dX8_soFar_15 myX8_pointsOf mRX8_418 mvX8_pointsOf rfl (by decide) hk (fun _ hj => tX8_pointsOf E l N l0 l2 μ _ hk hj) (by decide) rfl (Nat.le_of_ble_eq_true rfl) h (fun x1 μ1 hm h => ?_)
    have hk := hm.k hk (by decide)
    refine a_iadd dX8_soFar_18 ?_
    refine a_nmi h (fun x2 h => ?_)
    refine a_istore_n (L' := [(1, vi x2), (0, vr l0), (2, vi l2)]) dX8_soFar_19 rfl (by decide) rfl ?_
    refine a_iinc (F := fun x3 => [(2, vi x3), (1, vi x2), (0, vr l0)]) 2 dX8_soFar_20 rfl (by decide) h (fun _ => rfl) (fun x3 h => ?_)
    refine a_goto (tgt := 4) dX8_soFar_23 rfl ?_
    exact a_sub [2, 1, 0] rfl (p4 l0 x2 x3 μ1 t hk h)
theorem tX8_soFar_4 (E : m_E) (l : Launch) (z : Nat × Nat) (N : Nat) : ∀ (n : Nat) (l0 l1 l2 : Int) (μ : Mm) (t : Int × Mm), m_kd μ l0 = (8, 0) → jX8_soFar_4 N n l0 l1 l2 μ = some t → aX8_soFar E l 6 z 4 [(0, vr l0), (1, vi l1), (2, vi l2)] [] μ (rI t)
  | 0, _, _, _, _, _, _, h => by cases h
  | n + 1, l0, l1, l2, μ, t, hk, h => tX8_soFar_4b E l z (jX8_soFar_4 N n) (tX8_soFar_4 E l z N n) N l0 l1 l2 μ t hk h
theorem tX8_soFar (E : m_E) (l : Launch) (N : Nat) (l0 : Int) (μ : Mm) (t : Int × Mm) (hk : m_kd μ l0 = (8, 0)) (h : jX8_soFar N l0 μ = some t) : TT E l 6 yX8_soFar cX8_soFar 3 (some .int) [vr l0] μ (rI t) := by
  refine tt_of (L := [(0, vr l0)]) (by decide +kernel) (Nat.le_of_ble_eq_true rfl) rfl ?_
  show aX8_soFar E l 6 (m_sz μ, m_sl μ) 0 [(0, vr l0)] [] μ (rI t)
  unfold jX8_soFar at h
  refine a_iconst dX8_soFar_0 (okI_b _ rfl) ?_
  refine a_istore_n (L' := [(1, vi 0), (0, vr l0)]) dX8_soFar_1 rfl (by decide) rfl ?_
  refine a_iconst dX8_soFar_2 (okI_b _ rfl) ?_
  refine a_istore_n (L' := [(2, vi 0), (1, vi 0), (0, vr l0)]) dX8_soFar_3 rfl (by decide) rfl ?_
  exact a_sub [2, 1, 0] rfl (tX8_soFar_4 E l _ N N l0 0 0 μ t hk h)
-- X8_fillsAhead
abbrev aX8_fillsAhead (E : m_E) (l : Launch) (d : Nat) (z : Nat × Nat) (pc : Nat) (L : List (Nat × AV)) (st : List AV) (μ : Mm) (ρ : Option AV × Mm) : Prop := AA E l d z RX8 "fillsAhead" cX8_fillsAhead 9 none pc L st μ ρ
theorem tX8_fillsAhead_143 (E : m_E) (l : Launch) (z : Nat × Nat) (k35 : Int → Int → Int → Int → Int → Mm → Option (Mm)) (p35 : ∀ (l0 l1 l2 l3 l4 : Int) (μ : Mm) (t : Mm), m_kd μ l0 = (8, 0) → k35 l0 l1 l2 l3 l4 μ = some t → aX8_fillsAhead E l 2 z 35 [(0, vr l0), (1, vr l1), (2, vi l2), (3, vi l3), (4, vi l4)] [] μ (rV t)) (k88 : Int → Int → Int → Int → Int → Int → Int → Mm → Option (Mm)) (p88 : ∀ (l0 l1 l2 l3 l4 l5 l6 : Int) (μ : Mm) (t : Mm), m_kd μ l0 = (8, 0) → k88 l0 l1 l2 l3 l4 l5 l6 μ = some t → aX8_fillsAhead E l 2 z 88 [(0, vr l0), (1, vr l1), (2, vi l2), (3, vi l3), (4, vi l4), (5, vi l5), (6, vi l6)] [] μ (rV t)) (k130 : Int → Int → Int → Int → Int → Int → Int → Int → Int → Mm → Option (Mm)) (p130 : ∀ (l0 l1 l2 l3 l4 l5 l6 l7 l8 : Int) (μ : Mm) (t : Mm), m_kd μ l0 = (8, 0) → k130 l0 l1 l2 l3 l4 l5 l6 l7 l8 μ = some t → aX8_fillsAhead E l 2 z 130 [(0, vr l0), (1, vr l1), (2, vi l2), (3, vi l3), (4, vi l4), (5, vi l5), (6, vi l6), (7, vi l7), (8, vi l8)] [] μ (rV t)) (N : Nat) (l0 l1 l2 l3 l4 l5 l6 l7 l8 s0 s1 : Int) (μ : Mm) (t : Mm) (hk : m_kd μ l0 = (8, 0)) (h : jX8_fillsAhead_143 k35 k88 k130 N l0 l1 l2 l3 l4 l5 l6 l7 l8 s0 s1 μ = some t) : aX8_fillsAhead E l 2 z 143 [(0, vr l0), (1, vr l1), (2, vi l2), (3, vi l3), (4, vi l4), (5, vi l5), (6, vi l6), (7, vi l7), (8, vi l8)] [vi s0, vi s1] μ (rV t) := by
  unfold jX8_fillsAhead_143 at h
  refine a_icmp_gt (tgt := 191) dX8_fillsAhead_143 rfl h (fun h => ?_) (fun h => ?_)
  ·
    refine a_iinc (F := fun x1 => [(6, vi x1), (0, vr l0), (1, vr l1), (2, vi l2), (3, vi l3), (4, vi l4), (5, vi l5), (7, vi l7), (8, vi l8)]) 6 dX8_fillsAhead_191 rfl (by decide) h (fun _ => rfl) (fun x1 h => ?_)
    refine a_goto (tgt := 88) dX8_fillsAhead_194 rfl ?_
    exact a_sub [1, 2, 3, 4, 5, 6, 0] rfl (p88 l0 l1 l2 l3 l4 l5 x1 μ t hk h)
  ·
    refine a_aload_n 1 dX8_fillsAhead_146 rfl rfl ?_
    refine a_aload_n 0 dX8_fillsAhead_147 rfl rfl ?_
    refine a_getfr (c := 8) (i := 32) dX8_fillsAhead_148 fRX8_87 g8_32 rfl hk ?_
    refine a_iconst dX8_fillsAhead_151 (okI_b _ rfl) ?_
    refine a_iald dX8_fillsAhead_152 h (fun x2 h => ?_)
    refine a_iload_n 2 dX8_fillsAhead_153 rfl rfl ?_
    refine a_iload 4 dX8_fillsAhead_154 rfl ?_
    refine a_iload_n 2 dX8_fillsAhead_156 rfl rfl ?_
    refine a_cSi [vi l2] [vi l4, vi l2, vi x2, vr l1] dX8_fillsAhead_157 myX8_oneOf mRX8_433 msX8_oneOf (fun _ hj => tX8_oneOf E l N l2 μ _  hj) (by decide) rfl (Nat.le_of_ble_eq_true rfl) h (fun x3 μ1 hm h => ?_)
    have hk := hm.k hk (by decide)
    refine a_imul dX8_fillsAhead_160 ?_
    refine a_iload 6 dX8_fillsAhead_161 rfl ?_
    refine a_iload_n 2 dX8_fillsAhead_163 rfl rfl ?_
    refine a_iconst dX8_fillsAhead_164 (okI_b _ rfl) ?_
    refine a_idivn (by decide) dX8_fillsAhead_165 ?_
    refine a_iconst dX8_fillsAhead_166 (okI_b _ rfl) ?_
    refine a_iremn (by decide) dX8_fillsAhead_167 ?_
    refine a_imul dX8_fillsAhead_168 ?_
    refine a_iadd dX8_fillsAhead_169 ?_
    refine a_iload 8 dX8_fillsAhead_170 rfl ?_
    refine a_iload_n 2 dX8_fillsAhead_172 rfl rfl ?_
    refine a_iconst dX8_fillsAhead_173 (okI_b _ rfl) ?_
    refine a_iremn (by decide) dX8_fillsAhead_174 ?_
    refine a_imul dX8_fillsAhead_175 ?_
    refine a_iadd dX8_fillsAhead_176 ?_
    refine a_cSi [vi x2, vi l2, vi (i_add (i_add (i_mul l4 x3) (i_mul l6 (i_rem (i_div l2 2) 3))) (i_mul l8 (i_rem l2 2)))] [vr l1] dX8_fillsAhead_177 myX8_cell mRX8_448 msX8_cell (fun _ hj => tX8_cell E l N x2 l2 (i_add (i_add (i_mul l4 x3) (i_mul l6 (i_rem (i_div l2 2) 3))) (i_mul l8 (i_rem l2 2))) μ1 _  hj) (by decide) rfl (Nat.le_of_ble_eq_true rfl) h (fun x4 μ2 hm h => ?_)
    have hk := hm.k hk (by decide)
    refine a_dup2 dX8_fillsAhead_180 rfl rfl ?_
    refine a_lald dX8_fillsAhead_181 h (fun x5 h => ?_)
    refine a_lconst (v := 1) dX8_fillsAhead_182 ⟨rfl, okJ_b _ rfl⟩ ?_
    refine a_ladd dX8_fillsAhead_183 ?_
    refine a_last dX8_fillsAhead_184 h (fun μ3 hm h => ?_)
    have hk := hm.k hk (by decide)
    refine a_iinc (F := fun x6 => [(8, vi x6), (0, vr l0), (1, vr l1), (2, vi l2), (3, vi l3), (4, vi l4), (5, vi l5), (6, vi l6), (7, vi l7)]) 8 dX8_fillsAhead_185 rfl (by decide) h (fun _ => rfl) (fun x6 h => ?_)
    refine a_goto (tgt := 130) dX8_fillsAhead_188 rfl ?_
    exact a_sub [1, 2, 3, 4, 5, 6, 7, 8, 0] rfl (p130 l0 l1 l2 l3 l4 l5 l6 l7 x6 μ3 t hk h)
theorem tX8_fillsAhead_130b (E : m_E) (l : Launch) (z : Nat × Nat) (k35 : Int → Int → Int → Int → Int → Mm → Option (Mm)) (p35 : ∀ (l0 l1 l2 l3 l4 : Int) (μ : Mm) (t : Mm), m_kd μ l0 = (8, 0) → k35 l0 l1 l2 l3 l4 μ = some t → aX8_fillsAhead E l 2 z 35 [(0, vr l0), (1, vr l1), (2, vi l2), (3, vi l3), (4, vi l4)] [] μ (rV t)) (k88 : Int → Int → Int → Int → Int → Int → Int → Mm → Option (Mm)) (p88 : ∀ (l0 l1 l2 l3 l4 l5 l6 : Int) (μ : Mm) (t : Mm), m_kd μ l0 = (8, 0) → k88 l0 l1 l2 l3 l4 l5 l6 μ = some t → aX8_fillsAhead E l 2 z 88 [(0, vr l0), (1, vr l1), (2, vi l2), (3, vi l3), (4, vi l4), (5, vi l5), (6, vi l6)] [] μ (rV t)) (k130 : Int → Int → Int → Int → Int → Int → Int → Int → Int → Mm → Option (Mm)) (p130 : ∀ (l0 l1 l2 l3 l4 l5 l6 l7 l8 : Int) (μ : Mm) (t : Mm), m_kd μ l0 = (8, 0) → k130 l0 l1 l2 l3 l4 l5 l6 l7 l8 μ = some t → aX8_fillsAhead E l 2 z 130 [(0, vr l0), (1, vr l1), (2, vi l2), (3, vi l3), (4, vi l4), (5, vi l5), (6, vi l6), (7, vi l7), (8, vi l8)] [] μ (rV t)) (N : Nat) (l0 l1 l2 l3 l4 l5 l6 l7 l8 : Int) (μ : Mm) (t : Mm) (hk : m_kd μ l0 = (8, 0)) (h : jX8_fillsAhead_130b k35 k88 k130 N l0 l1 l2 l3 l4 l5 l6 l7 l8 μ = some t) : aX8_fillsAhead E l 2 z 130 [(0, vr l0), (1, vr l1), (2, vi l2), (3, vi l3), (4, vi l4), (5, vi l5), (6, vi l6), (7, vi l7), (8, vi l8)] [] μ (rV t) := by
  unfold jX8_fillsAhead_130b at h
  refine a_iload 8 dX8_fillsAhead_130 rfl ?_
  refine a_iload_n 3 dX8_fillsAhead_132 rfl rfl ?_
  refine a_iconst dX8_fillsAhead_133 (okI_b _ rfl) ?_
  refine a_icmp_le (tgt := 142) dX8_fillsAhead_134 rfl h (fun h => ?_) (fun h => ?_)
  ·
    refine a_iconst dX8_fillsAhead_142 (okI_b _ rfl) ?_
    exact a_sub [0, 1, 2, 3, 4, 5, 6, 7, 8] rfl (tX8_fillsAhead_143 E l _ k35 p35 k88 p88 k130 p130 N l0 l1 l2 l3 l4 l5 l6 l7 l8 0 l8 μ t hk h)
  ·
    refine a_iload 7 dX8_fillsAhead_137 rfl ?_
    refine a_goto (tgt := 143) dX8_fillsAhead_139 rfl ?_
    exact a_sub [0, 1, 2, 3, 4, 5, 6, 7, 8] rfl (tX8_fillsAhead_143 E l _ k35 p35 k88 p88 k130 p130 N l0 l1 l2 l3 l4 l5 l6 l7 l8 l7 l8 μ t hk h)
theorem tX8_fillsAhead_130 (E : m_E) (l : Launch) (z : Nat × Nat) (k35 : Int → Int → Int → Int → Int → Mm → Option (Mm)) (p35 : ∀ (l0 l1 l2 l3 l4 : Int) (μ : Mm) (t : Mm), m_kd μ l0 = (8, 0) → k35 l0 l1 l2 l3 l4 μ = some t → aX8_fillsAhead E l 2 z 35 [(0, vr l0), (1, vr l1), (2, vi l2), (3, vi l3), (4, vi l4)] [] μ (rV t)) (k88 : Int → Int → Int → Int → Int → Int → Int → Mm → Option (Mm)) (p88 : ∀ (l0 l1 l2 l3 l4 l5 l6 : Int) (μ : Mm) (t : Mm), m_kd μ l0 = (8, 0) → k88 l0 l1 l2 l3 l4 l5 l6 μ = some t → aX8_fillsAhead E l 2 z 88 [(0, vr l0), (1, vr l1), (2, vi l2), (3, vi l3), (4, vi l4), (5, vi l5), (6, vi l6)] [] μ (rV t)) (N : Nat) : ∀ (n : Nat) (l0 l1 l2 l3 l4 l5 l6 l7 l8 : Int) (μ : Mm) (t : Mm), m_kd μ l0 = (8, 0) → jX8_fillsAhead_130 k35 k88 N n l0 l1 l2 l3 l4 l5 l6 l7 l8 μ = some t → aX8_fillsAhead E l 2 z 130 [(0, vr l0), (1, vr l1), (2, vi l2), (3, vi l3), (4, vi l4), (5, vi l5), (6, vi l6), (7, vi l7), (8, vi l8)] [] μ (rV t)
  | 0, _, _, _, _, _, _, _, _, _, _, _, _, h => by cases h
  | n + 1, l0, l1, l2, l3, l4, l5, l6, l7, l8, μ, t, hk, h => tX8_fillsAhead_130b E l z k35 p35 k88 p88 (jX8_fillsAhead_130 k35 k88 N n) (tX8_fillsAhead_130 E l z k35 p35 k88 p88 N n) N l0 l1 l2 l3 l4 l5 l6 l7 l8 μ t hk h
theorem tX8_fillsAhead_125 (E : m_E) (l : Launch) (z : Nat × Nat) (k35 : Int → Int → Int → Int → Int → Mm → Option (Mm)) (p35 : ∀ (l0 l1 l2 l3 l4 : Int) (μ : Mm) (t : Mm), m_kd μ l0 = (8, 0) → k35 l0 l1 l2 l3 l4 μ = some t → aX8_fillsAhead E l 2 z 35 [(0, vr l0), (1, vr l1), (2, vi l2), (3, vi l3), (4, vi l4)] [] μ (rV t)) (k88 : Int → Int → Int → Int → Int → Int → Int → Mm → Option (Mm)) (p88 : ∀ (l0 l1 l2 l3 l4 l5 l6 : Int) (μ : Mm) (t : Mm), m_kd μ l0 = (8, 0) → k88 l0 l1 l2 l3 l4 l5 l6 μ = some t → aX8_fillsAhead E l 2 z 88 [(0, vr l0), (1, vr l1), (2, vi l2), (3, vi l3), (4, vi l4), (5, vi l5), (6, vi l6)] [] μ (rV t)) (N : Nat) (l0 l1 l2 l3 l4 l5 l6 s0 : Int) (μ : Mm) (t : Mm) (hk : m_kd μ l0 = (8, 0)) (h : jX8_fillsAhead_125 k35 k88 N l0 l1 l2 l3 l4 l5 l6 s0 μ = some t) : aX8_fillsAhead E l 2 z 125 [(0, vr l0), (1, vr l1), (2, vi l2), (3, vi l3), (4, vi l4), (5, vi l5), (6, vi l6)] [vi s0] μ (rV t) := by
  unfold jX8_fillsAhead_125 at h
  refine a_istore (L' := [(7, vi s0), (0, vr l0), (1, vr l1), (2, vi l2), (3, vi l3), (4, vi l4), (5, vi l5), (6, vi l6)]) dX8_fillsAhead_125 (by decide) rfl ?_
  refine a_iconst dX8_fillsAhead_127 (okI_b _ rfl) ?_
  refine a_istore (L' := [(8, vi 0), (7, vi s0), (0, vr l0), (1, vr l1), (2, vi l2), (3, vi l3), (4, vi l4), (5, vi l5), (6, vi l6)]) dX8_fillsAhead_128 (by decide) rfl ?_
  exact a_sub [2, 3, 4, 5, 6, 7, 8, 1, 0] rfl (tX8_fillsAhead_130 E l _ k35 p35 k88 p88 N N l0 l1 l2 l3 l4 l5 l6 s0 0 μ t hk h)
theorem tX8_fillsAhead_101 (E : m_E) (l : Launch) (z : Nat × Nat) (k35 : Int → Int → Int → Int → Int → Mm → Option (Mm)) (p35 : ∀ (l0 l1 l2 l3 l4 : Int) (μ : Mm) (t : Mm), m_kd μ l0 = (8, 0) → k35 l0 l1 l2 l3 l4 μ = some t → aX8_fillsAhead E l 2 z 35 [(0, vr l0), (1, vr l1), (2, vi l2), (3, vi l3), (4, vi l4)] [] μ (rV t)) (k88 : Int → Int → Int → Int → Int → Int → Int → Mm → Option (Mm)) (p88 : ∀ (l0 l1 l2 l3 l4 l5 l6 : Int) (μ : Mm) (t : Mm), m_kd μ l0 = (8, 0) → k88 l0 l1 l2 l3 l4 l5 l6 μ = some t → aX8_fillsAhead E l 2 z 88 [(0, vr l0), (1, vr l1), (2, vi l2), (3, vi l3), (4, vi l4), (5, vi l5), (6, vi l6)] [] μ (rV t)) (N : Nat) (l0 l1 l2 l3 l4 l5 l6 s0 s1 : Int) (μ : Mm) (t : Mm) (hk : m_kd μ l0 = (8, 0)) (h : jX8_fillsAhead_101 k35 k88 N l0 l1 l2 l3 l4 l5 l6 s0 s1 μ = some t) : aX8_fillsAhead E l 2 z 101 [(0, vr l0), (1, vr l1), (2, vi l2), (3, vi l3), (4, vi l4), (5, vi l5), (6, vi l6)] [vi s0, vi s1] μ (rV t) := by
  unfold jX8_fillsAhead_101 at h
  refine a_icmp_gt (tgt := 197) dX8_fillsAhead_101 rfl h (fun h => ?_) (fun h => ?_)
  ·
    refine a_iinc (F := fun x1 => [(4, vi x1), (0, vr l0), (1, vr l1), (2, vi l2), (3, vi l3), (5, vi l5), (6, vi l6)]) 4 dX8_fillsAhead_197 rfl (by decide) h (fun _ => rfl) (fun x1 h => ?_)
    refine a_goto (tgt := 35) dX8_fillsAhead_200 rfl ?_
    exact a_sub [1, 2, 3, 4, 0] rfl (p35 l0 l1 l2 l3 x1 μ t hk h)
  ·
    refine a_iload 6 dX8_fillsAhead_104 rfl ?_
    refine a_iload 5 dX8_fillsAhead_106 rfl ?_
    refine a_icmp_ne (tgt := 120) dX8_fillsAhead_108 rfl h (fun h => ?_) (fun h => ?_)
    ·
      refine a_iload 5 dX8_fillsAhead_120 rfl ?_
      refine a_iload 6 dX8_fillsAhead_122 rfl ?_
      refine a_isub dX8_fillsAhead_124 ?_
      exact a_sub [0, 1, 2, 3, 4, 5, 6] rfl (tX8_fillsAhead_125 E l _ k35 p35 k88 p88 N l0 l1 l2 l3 l4 l5 l6 (i_sub l5 l6) μ t hk h)
    ·
      refine a_aload_n 0 dX8_fillsAhead_111 rfl rfl ?_
      refine a_getfr (c := 8) (i := 31) dX8_fillsAhead_112 fRX8_84 g8_31 rfl hk ?_
      refine a_iconst dX8_fillsAhead_115 (okI_b _ rfl) ?_
      refine a_iald dX8_fillsAhead_116 h (fun x2 h => ?_)
      refine a_goto (tgt := 125) dX8_fillsAhead_117 rfl ?_
      exact a_sub [0, 1, 2, 3, 4, 5, 6] rfl (tX8_fillsAhead_125 E l _ k35 p35 k88 p88 N l0 l1 l2 l3 l4 l5 l6 x2 μ t hk h)
theorem tX8_fillsAhead_88b (E : m_E) (l : Launch) (z : Nat × Nat) (k35 : Int → Int → Int → Int → Int → Mm → Option (Mm)) (p35 : ∀ (l0 l1 l2 l3 l4 : Int) (μ : Mm) (t : Mm), m_kd μ l0 = (8, 0) → k35 l0 l1 l2 l3 l4 μ = some t → aX8_fillsAhead E l 2 z 35 [(0, vr l0), (1, vr l1), (2, vi l2), (3, vi l3), (4, vi l4)] [] μ (rV t)) (k88 : Int → Int → Int → Int → Int → Int → Int → Mm → Option (Mm)) (p88 : ∀ (l0 l1 l2 l3 l4 l5 l6 : Int) (μ : Mm) (t : Mm), m_kd μ l0 = (8, 0) → k88 l0 l1 l2 l3 l4 l5 l6 μ = some t → aX8_fillsAhead E l 2 z 88 [(0, vr l0), (1, vr l1), (2, vi l2), (3, vi l3), (4, vi l4), (5, vi l5), (6, vi l6)] [] μ (rV t)) (N : Nat) (l0 l1 l2 l3 l4 l5 l6 : Int) (μ : Mm) (t : Mm) (hk : m_kd μ l0 = (8, 0)) (h : jX8_fillsAhead_88b k35 k88 N l0 l1 l2 l3 l4 l5 l6 μ = some t) : aX8_fillsAhead E l 2 z 88 [(0, vr l0), (1, vr l1), (2, vi l2), (3, vi l3), (4, vi l4), (5, vi l5), (6, vi l6)] [] μ (rV t) := by
  unfold jX8_fillsAhead_88b at h
  refine a_iload 6 dX8_fillsAhead_88 rfl ?_
  refine a_iload_n 3 dX8_fillsAhead_90 rfl rfl ?_
  refine a_iconst dX8_fillsAhead_91 (okI_b _ rfl) ?_
  refine a_icmp_le (tgt := 100) dX8_fillsAhead_92 rfl h (fun h => ?_) (fun h => ?_)
  ·
    refine a_iconst dX8_fillsAhead_100 (okI_b _ rfl) ?_
    exact a_sub [0, 1, 2, 3, 4, 5, 6] rfl (tX8_fillsAhead_101 E l _ k35 p35 k88 p88 N l0 l1 l2 l3 l4 l5 l6 0 l6 μ t hk h)
  ·
    refine a_iload 5 dX8_fillsAhead_95 rfl ?_
    refine a_goto (tgt := 101) dX8_fillsAhead_97 rfl ?_
    exact a_sub [0, 1, 2, 3, 4, 5, 6] rfl (tX8_fillsAhead_101 E l _ k35 p35 k88 p88 N l0 l1 l2 l3 l4 l5 l6 l5 l6 μ t hk h)
theorem tX8_fillsAhead_88 (E : m_E) (l : Launch) (z : Nat × Nat) (k35 : Int → Int → Int → Int → Int → Mm → Option (Mm)) (p35 : ∀ (l0 l1 l2 l3 l4 : Int) (μ : Mm) (t : Mm), m_kd μ l0 = (8, 0) → k35 l0 l1 l2 l3 l4 μ = some t → aX8_fillsAhead E l 2 z 35 [(0, vr l0), (1, vr l1), (2, vi l2), (3, vi l3), (4, vi l4)] [] μ (rV t)) (N : Nat) : ∀ (n : Nat) (l0 l1 l2 l3 l4 l5 l6 : Int) (μ : Mm) (t : Mm), m_kd μ l0 = (8, 0) → jX8_fillsAhead_88 k35 N n l0 l1 l2 l3 l4 l5 l6 μ = some t → aX8_fillsAhead E l 2 z 88 [(0, vr l0), (1, vr l1), (2, vi l2), (3, vi l3), (4, vi l4), (5, vi l5), (6, vi l6)] [] μ (rV t)
  | 0, _, _, _, _, _, _, _, _, _, _, h => by cases h
  | n + 1, l0, l1, l2, l3, l4, l5, l6, μ, t, hk, h => tX8_fillsAhead_88b E l z k35 p35 (jX8_fillsAhead_88 k35 N n) (tX8_fillsAhead_88 E l z k35 p35 N n) N l0 l1 l2 l3 l4 l5 l6 μ t hk h
theorem tX8_fillsAhead_83 (E : m_E) (l : Launch) (z : Nat × Nat) (k35 : Int → Int → Int → Int → Int → Mm → Option (Mm)) (p35 : ∀ (l0 l1 l2 l3 l4 : Int) (μ : Mm) (t : Mm), m_kd μ l0 = (8, 0) → k35 l0 l1 l2 l3 l4 μ = some t → aX8_fillsAhead E l 2 z 35 [(0, vr l0), (1, vr l1), (2, vi l2), (3, vi l3), (4, vi l4)] [] μ (rV t)) (N : Nat) (l0 l1 l2 l3 l4 s0 : Int) (μ : Mm) (t : Mm) (hk : m_kd μ l0 = (8, 0)) (h : jX8_fillsAhead_83 k35 N l0 l1 l2 l3 l4 s0 μ = some t) : aX8_fillsAhead E l 2 z 83 [(0, vr l0), (1, vr l1), (2, vi l2), (3, vi l3), (4, vi l4)] [vi s0] μ (rV t) := by
  unfold jX8_fillsAhead_83 at h
  refine a_istore (L' := [(5, vi s0), (0, vr l0), (1, vr l1), (2, vi l2), (3, vi l3), (4, vi l4)]) dX8_fillsAhead_83 (by decide) rfl ?_
  refine a_iconst dX8_fillsAhead_85 (okI_b _ rfl) ?_
  refine a_istore (L' := [(6, vi 0), (5, vi s0), (0, vr l0), (1, vr l1), (2, vi l2), (3, vi l3), (4, vi l4)]) dX8_fillsAhead_86 (by decide) rfl ?_
  exact a_sub [2, 3, 4, 5, 6, 1, 0] rfl (tX8_fillsAhead_88 E l _ k35 p35 N N l0 l1 l2 l3 l4 s0 0 μ t hk h)
theorem tX8_fillsAhead_51 (E : m_E) (l : Launch) (z : Nat × Nat) (k35 : Int → Int → Int → Int → Int → Mm → Option (Mm)) (p35 : ∀ (l0 l1 l2 l3 l4 : Int) (μ : Mm) (t : Mm), m_kd μ l0 = (8, 0) → k35 l0 l1 l2 l3 l4 μ = some t → aX8_fillsAhead E l 2 z 35 [(0, vr l0), (1, vr l1), (2, vi l2), (3, vi l3), (4, vi l4)] [] μ (rV t)) (N : Nat) (l0 l1 l2 l3 l4 s0 s1 : Int) (μ : Mm) (t : Mm) (hk : m_kd μ l0 = (8, 0)) (h : jX8_fillsAhead_51 k35 N l0 l1 l2 l3 l4 s0 s1 μ = some t) : aX8_fillsAhead E l 2 z 51 [(0, vr l0), (1, vr l1), (2, vi l2), (3, vi l3), (4, vi l4)] [vi s0, vi s1] μ (rV t) := by
  unfold jX8_fillsAhead_51 at h
  refine a_icmp_gt (tgt := 203) dX8_fillsAhead_51 rfl h (fun h => ?_) (fun h => ?_)
  ·
    exact a_ret0 dX8_fillsAhead_203 h
  ·
    refine a_iload 4 dX8_fillsAhead_54 rfl ?_
    refine a_aload_n 0 dX8_fillsAhead_56 rfl rfl ?_
    refine a_getfr (c := 8) (i := 31) dX8_fillsAhead_57 fRX8_84 g8_31 rfl hk ?_
    refine a_iconst dX8_fillsAhead_60 (okI_b _ rfl) ?_
    refine a_iald dX8_fillsAhead_61 h (fun x1 h => ?_)
    refine a_icmp_ne (tgt := 74) dX8_fillsAhead_62 rfl h (fun h => ?_) (fun h => ?_)
    ·
      refine a_aload_n 0 dX8_fillsAhead_74 rfl rfl ?_
      refine a_getfr (c := 8) (i := 31) dX8_fillsAhead_75 fRX8_84 g8_31 rfl hk ?_
      refine a_iconst dX8_fillsAhead_78 (okI_b _ rfl) ?_
      refine a_iald dX8_fillsAhead_79 h (fun x2 h => ?_)
      refine a_iload 4 dX8_fillsAhead_80 rfl ?_
      refine a_isub dX8_fillsAhead_82 ?_
      exact a_sub [0, 1, 2, 3, 4] rfl (tX8_fillsAhead_83 E l _ k35 p35 N l0 l1 l2 l3 l4 (i_sub x2 l4) μ t hk h)
    ·
      refine a_aload_n 0 dX8_fillsAhead_65 rfl rfl ?_
      refine a_getfr (c := 8) (i := 31) dX8_fillsAhead_66 fRX8_84 g8_31 rfl hk ?_
      refine a_iconst dX8_fillsAhead_69 (okI_b _ rfl) ?_
      refine a_iald dX8_fillsAhead_70 h (fun x3 h => ?_)
      refine a_goto (tgt := 83) dX8_fillsAhead_71 rfl ?_
      exact a_sub [0, 1, 2, 3, 4] rfl (tX8_fillsAhead_83 E l _ k35 p35 N l0 l1 l2 l3 l4 x3 μ t hk h)
theorem tX8_fillsAhead_35b (E : m_E) (l : Launch) (z : Nat × Nat) (k35 : Int → Int → Int → Int → Int → Mm → Option (Mm)) (p35 : ∀ (l0 l1 l2 l3 l4 : Int) (μ : Mm) (t : Mm), m_kd μ l0 = (8, 0) → k35 l0 l1 l2 l3 l4 μ = some t → aX8_fillsAhead E l 2 z 35 [(0, vr l0), (1, vr l1), (2, vi l2), (3, vi l3), (4, vi l4)] [] μ (rV t)) (N : Nat) (l0 l1 l2 l3 l4 : Int) (μ : Mm) (t : Mm) (hk : m_kd μ l0 = (8, 0)) (h : jX8_fillsAhead_35b k35 N l0 l1 l2 l3 l4 μ = some t) : aX8_fillsAhead E l 2 z 35 [(0, vr l0), (1, vr l1), (2, vi l2), (3, vi l3), (4, vi l4)] [] μ (rV t) := by
  unfold jX8_fillsAhead_35b at h
  refine a_iload 4 dX8_fillsAhead_35 rfl ?_
  refine a_iload_n 3 dX8_fillsAhead_37 rfl rfl ?_
  refine a_if_le (tgt := 50) dX8_fillsAhead_38 rfl h (fun h => ?_) (fun h => ?_)
  ·
    refine a_iconst dX8_fillsAhead_50 (okI_b _ rfl) ?_
    exact a_sub [0, 1, 2, 3, 4] rfl (tX8_fillsAhead_51 E l _ k35 p35 N l0 l1 l2 l3 l4 0 l4 μ t hk h)
  ·
    refine a_aload_n 0 dX8_fillsAhead_41 rfl rfl ?_
    refine a_getfr (c := 8) (i := 31) dX8_fillsAhead_42 fRX8_84 g8_31 rfl hk ?_
    refine a_iconst dX8_fillsAhead_45 (okI_b _ rfl) ?_
    refine a_iald dX8_fillsAhead_46 h (fun x1 h => ?_)
    refine a_goto (tgt := 51) dX8_fillsAhead_47 rfl ?_
    exact a_sub [0, 1, 2, 3, 4] rfl (tX8_fillsAhead_51 E l _ k35 p35 N l0 l1 l2 l3 l4 x1 l4 μ t hk h)
theorem tX8_fillsAhead_35 (E : m_E) (l : Launch) (z : Nat × Nat) (N : Nat) : ∀ (n : Nat) (l0 l1 l2 l3 l4 : Int) (μ : Mm) (t : Mm), m_kd μ l0 = (8, 0) → jX8_fillsAhead_35 N n l0 l1 l2 l3 l4 μ = some t → aX8_fillsAhead E l 2 z 35 [(0, vr l0), (1, vr l1), (2, vi l2), (3, vi l3), (4, vi l4)] [] μ (rV t)
  | 0, _, _, _, _, _, _, _, _, h => by cases h
  | n + 1, l0, l1, l2, l3, l4, μ, t, hk, h => tX8_fillsAhead_35b E l z (jX8_fillsAhead_35 N n) (tX8_fillsAhead_35 E l z N n) N l0 l1 l2 l3 l4 μ t hk h
theorem tX8_fillsAhead_31 (E : m_E) (l : Launch) (z : Nat × Nat) (N : Nat) (l0 l1 l2 s0 : Int) (μ : Mm) (t : Mm) (hk : m_kd μ l0 = (8, 0)) (h : jX8_fillsAhead_31 N l0 l1 l2 s0 μ = some t) : aX8_fillsAhead E l 2 z 31 [(0, vr l0), (1, vr l1), (2, vi l2)] [vi s0] μ (rV t) := by
  unfold jX8_fillsAhead_31 at h
  refine a_istore_n (L' := [(3, vi s0), (0, vr l0), (1, vr l1), (2, vi l2)]) dX8_fillsAhead_31 rfl (by decide) rfl ?_
  refine a_iconst dX8_fillsAhead_32 (okI_b _ rfl) ?_
  refine a_istore (L' := [(4, vi 0), (3, vi s0), (0, vr l0), (1, vr l1), (2, vi l2)]) dX8_fillsAhead_33 (by decide) rfl ?_
  exact a_sub [2, 3, 4, 1, 0] rfl (tX8_fillsAhead_35 E l _ N N l0 l1 l2 s0 0 μ t hk h)
theorem tX8_fillsAhead (E : m_E) (l : Launch) (N : Nat) (l0 l1 l2 : Int) (μ : Mm) (t : Mm) (hk : m_kd μ l0 = (8, 0)) (h : jX8_fillsAhead N l0 l1 l2 μ = some t) : TT E l 2 yX8_fillsAhead cX8_fillsAhead 9 none [vr l0, vr l1, vi l2] μ (rV t) := by
  refine tt_of (L := [(0, vr l0), (1, vr l1), (2, vi l2)]) (by decide +kernel) (Nat.le_of_ble_eq_true rfl) rfl ?_
  show aX8_fillsAhead E l 2 (m_sz μ, m_sl μ) 0 [(0, vr l0), (1, vr l1), (2, vi l2)] [] μ (rV t)
  unfold jX8_fillsAhead at h
  refine a_iload_n 2 dX8_fillsAhead_0 rfl rfl ?_
  refine a_if_ne (tgt := 8) dX8_fillsAhead_1 rfl h (fun h => ?_) (fun h => ?_)
  ·
    refine a_iload_n 2 dX8_fillsAhead_8 rfl rfl ?_
    refine a_iconst dX8_fillsAhead_9 (okI_b _ rfl) ?_
    refine a_iremn (by decide) dX8_fillsAhead_10 ?_
    refine a_if_le (tgt := 18) dX8_fillsAhead_11 rfl h (fun h => ?_) (fun h => ?_)
    ·
      refine a_iload_n 2 dX8_fillsAhead_18 rfl rfl ?_
      refine a_iconst dX8_fillsAhead_19 (okI_b _ rfl) ?_
      refine a_idivn (by decide) dX8_fillsAhead_20 ?_
      refine a_iconst dX8_fillsAhead_21 (okI_b _ rfl) ?_
      refine a_iremn (by decide) dX8_fillsAhead_22 ?_
      refine a_if_le (tgt := 30) dX8_fillsAhead_23 rfl h (fun h => ?_) (fun h => ?_)
      ·
        refine a_iconst dX8_fillsAhead_30 (okI_b _ rfl) ?_
        exact a_sub [0, 1, 2] rfl (tX8_fillsAhead_31 E l _ N l0 l1 l2 1 μ t hk h)
      ·
        refine a_iconst dX8_fillsAhead_26 (okI_b _ rfl) ?_
        refine a_goto (tgt := 31) dX8_fillsAhead_27 rfl ?_
        exact a_sub [0, 1, 2] rfl (tX8_fillsAhead_31 E l _ N l0 l1 l2 2 μ t hk h)
    ·
      refine a_iconst dX8_fillsAhead_14 (okI_b _ rfl) ?_
      refine a_goto (tgt := 31) dX8_fillsAhead_15 rfl ?_
      exact a_sub [0, 1, 2] rfl (tX8_fillsAhead_31 E l _ N l0 l1 l2 3 μ t hk h)
  ·
    refine a_iconst dX8_fillsAhead_4 (okI_b _ rfl) ?_
    refine a_goto (tgt := 31) dX8_fillsAhead_5 rfl ?_
    exact a_sub [0, 1, 2] rfl (tX8_fillsAhead_31 E l _ N l0 l1 l2 0 μ t hk h)
-- X8_isOwing
abbrev aX8_isOwing (E : m_E) (l : Launch) (d : Nat) (z : Nat × Nat) (pc : Nat) (L : List (Nat × AV)) (st : List AV) (μ : Mm) (ρ : Option AV × Mm) : Prop := AA E l d z RX8 "isOwing" cX8_isOwing 1 (some .boolean) pc L st μ ρ
theorem tX8_isOwing_28 (E : m_E) (l : Launch) (z : Nat × Nat) (N : Nat) (s0 : Int) (μ : Mm) (t : Int × Mm) (h : jX8_isOwing_28 N s0 μ = some t) : aX8_isOwing E l 2 z 28 [] [vi s0] μ (rI t) := by
  unfold jX8_isOwing_28 at h
  exact a_retz dX8_isOwing_28 h
theorem tX8_isOwing_27 (E : m_E) (l : Launch) (z : Nat × Nat) (N : Nat) (μ : Mm) (t : Int × Mm) (h : jX8_isOwing_27 N  μ = some t) : aX8_isOwing E l 2 z 27 [] [] μ (rI t) := by
  unfold jX8_isOwing_27 at h
  refine a_iconst dX8_isOwing_27 (okI_b _ rfl) ?_
  exact a_sub [] rfl (tX8_isOwing_28 E l _ N 0 μ t h)
theorem tX8_isOwing (E : m_E) (l : Launch) (N : Nat) (l0 : Int) (μ : Mm) (t : Int × Mm) (h : jX8_isOwing N l0 μ = some t) : TT E l 2 yX8_isOwing cX8_isOwing 1 (some .boolean) [vi l0] μ (rI t) := by
  refine tt_of (L := [(0, vi l0)]) (by decide +kernel) (Nat.le_of_ble_eq_true rfl) rfl ?_
  show aX8_isOwing E l 2 (m_sz μ, m_sl μ) 0 [(0, vi l0)] [] μ (rI t)
  unfold jX8_isOwing at h
  refine a_iload_n 0 dX8_isOwing_0 rfl rfl ?_
  refine a_iconst dX8_isOwing_1 (okI_b _ rfl) ?_
  refine a_iremn (by decide) dX8_isOwing_2 ?_
  refine a_iload_n 0 dX8_isOwing_3 rfl rfl ?_
  refine a_iconst dX8_isOwing_4 (okI_b _ rfl) ?_
  refine a_idivn (by decide) dX8_isOwing_5 ?_
  refine a_iconst dX8_isOwing_6 (okI_b _ rfl) ?_
  refine a_iremn (by decide) dX8_isOwing_7 ?_
  refine a_icmp_gt (tgt := 27) dX8_isOwing_8 rfl h (fun h => ?_) (fun h => ?_)
  ·
    exact a_sub [] rfl (tX8_isOwing_27 E l _ N  μ t h)
  ·
    refine a_iload_n 0 dX8_isOwing_11 rfl rfl ?_
    refine a_iconst dX8_isOwing_12 (okI_b _ rfl) ?_
    refine a_idivn (by decide) dX8_isOwing_13 ?_
    refine a_iconst dX8_isOwing_14 (okI_b _ rfl) ?_
    refine a_iremn (by decide) dX8_isOwing_15 ?_
    refine a_iload_n 0 dX8_isOwing_16 rfl rfl ?_
    refine a_cSi [vi l0] [vi (i_rem (i_div l0 2) 3)] dX8_isOwing_17 myX8_oneOf mRX8_433 msX8_oneOf (fun _ hj => tX8_oneOf E l N l0 μ _  hj) (by decide) rfl (Nat.le_of_ble_eq_true rfl) h (fun x1 μ1 hm h => ?_)
    refine a_icmp_gt (tgt := 27) dX8_isOwing_20 rfl h (fun h => ?_) (fun h => ?_)
    ·
      exact a_sub [] rfl (tX8_isOwing_27 E l _ N  μ1 t h)
    ·
      refine a_iconst dX8_isOwing_23 (okI_b _ rfl) ?_
      refine a_goto (tgt := 28) dX8_isOwing_24 rfl ?_
      exact a_sub [] rfl (tX8_isOwing_28 E l _ N 1 μ1 t h)
-- X8_mayOwe
abbrev aX8_mayOwe (E : m_E) (l : Launch) (d : Nat) (z : Nat × Nat) (pc : Nat) (L : List (Nat × AV)) (st : List AV) (μ : Mm) (ρ : Option AV × Mm) : Prop := AA E l d z RX8 "mayOwe" cX8_mayOwe 3 (some .boolean) pc L st μ ρ
theorem tX8_mayOwe_13 (E : m_E) (l : Launch) (z : Nat × Nat) (N : Nat) (l0 s0 : Int) (μ : Mm) (t : Int × Mm) (hk : m_kd μ l0 = (8, 0)) (h : jX8_mayOwe_13 N l0 s0 μ = some t) : aX8_mayOwe E l 1 z 13 [(0, vr l0)] [vi s0] μ (rI t) := by
  unfold jX8_mayOwe_13 at h
  exact a_retz dX8_mayOwe_13 h
theorem tX8_mayOwe_8 (E : m_E) (l : Launch) (z : Nat × Nat) (N : Nat) (l0 : Int) (μ : Mm) (t : Int × Mm) (hk : m_kd μ l0 = (8, 0)) (h : jX8_mayOwe_8 N l0 μ = some t) : aX8_mayOwe E l 1 z 8 [(0, vr l0)] [] μ (rI t) := by
  unfold jX8_mayOwe_8 at h
  refine a_iconst dX8_mayOwe_8 (okI_b _ rfl) ?_
  refine a_goto (tgt := 13) dX8_mayOwe_9 rfl ?_
  exact a_sub [0] rfl (tX8_mayOwe_13 E l _ N l0 1 μ t hk h)
theorem tX8_mayOwe (E : m_E) (l : Launch) (N : Nat) (l0 l1 l2 : Int) (μ : Mm) (t : Int × Mm) (hk : m_kd μ l0 = (8, 0)) (h : jX8_mayOwe N l0 l1 l2 μ = some t) : TT E l 1 yX8_mayOwe cX8_mayOwe 3 (some .boolean) [vr l0, vi l1, vi l2] μ (rI t) := by
  refine tt_of (L := [(0, vr l0), (1, vi l1), (2, vi l2)]) (by decide +kernel) (Nat.le_of_ble_eq_true rfl) rfl ?_
  show aX8_mayOwe E l 1 (m_sz μ, m_sl μ) 0 [(0, vr l0), (1, vi l1), (2, vi l2)] [] μ (rI t)
  unfold jX8_mayOwe at h
  refine a_iload_n 1 dX8_mayOwe_0 rfl rfl ?_
  refine a_if_gt (tgt := 8) dX8_mayOwe_1 rfl h (fun h => ?_) (fun h => ?_)
  ·
    exact a_sub [0] rfl (tX8_mayOwe_8 E l _ N l0 μ t hk h)
  ·
    refine a_iload_n 2 dX8_mayOwe_4 rfl rfl ?_
    refine a_if_ne (tgt := 12) dX8_mayOwe_5 rfl h (fun h => ?_) (fun h => ?_)
    ·
      refine a_iconst dX8_mayOwe_12 (okI_b _ rfl) ?_
      exact a_sub [0] rfl (tX8_mayOwe_13 E l _ N l0 0 μ t hk h)
    ·
      exact a_sub [0] rfl (tX8_mayOwe_8 E l _ N l0 μ t hk h)
-- X8_lays
abbrev aX8_lays (E : m_E) (l : Launch) (d : Nat) (z : Nat × Nat) (pc : Nat) (L : List (Nat × AV)) (st : List AV) (μ : Mm) (ρ : Option AV × Mm) : Prop := AA E l d z RX8 "lays" cX8_lays 9 none pc L st μ ρ
theorem tX8_lays_82 (E : m_E) (l : Launch) (z : Nat × Nat) (k28 : Int → Int → Int → Int → Int → Mm → Option (Mm)) (p28 : ∀ (l0 l1 l4 l5 l6 : Int) (μ : Mm) (t : Mm), m_kd μ l0 = (8, 0) → k28 l0 l1 l4 l5 l6 μ = some t → aX8_lays E l 2 z 28 [(0, vr l0), (1, vr l1), (4, vi l4), (5, vi l5), (6, vi l6)] [] μ (rV t)) (N : Nat) (l0 l1 l4 l5 l6 : Int) (μ : Mm) (t : Mm) (hk : m_kd μ l0 = (8, 0)) (h : jX8_lays_82 k28 N l0 l1 l4 l5 l6 μ = some t) : aX8_lays E l 2 z 82 [(0, vr l0), (1, vr l1), (4, vi l4), (5, vi l5), (6, vi l6)] [] μ (rV t) := by
  unfold jX8_lays_82 at h
  refine a_iinc (F := fun x1 => [(6, vi x1), (0, vr l0), (1, vr l1), (4, vi l4), (5, vi l5)]) 4 dX8_lays_82 rfl (by decide) h (fun _ => rfl) (fun x1 h => ?_)
  refine a_goto (tgt := 28) dX8_lays_85 rfl ?_
  exact a_sub [1, 2, 3, 4, 0] rfl (p28 l0 l1 l4 l5 x1 μ t hk h)
theorem tX8_lays_28b (E : m_E) (l : Launch) (z : Nat × Nat) (k28 : Int → Int → Int → Int → Int → Mm → Option (Mm)) (p28 : ∀ (l0 l1 l4 l5 l6 : Int) (μ : Mm) (t : Mm), m_kd μ l0 = (8, 0) → k28 l0 l1 l4 l5 l6 μ = some t → aX8_lays E l 2 z 28 [(0, vr l0), (1, vr l1), (4, vi l4), (5, vi l5), (6, vi l6)] [] μ (rV t)) (N : Nat) (l0 l1 l4 l5 l6 : Int) (μ : Mm) (t : Mm) (hk : m_kd μ l0 = (8, 0)) (h : jX8_lays_28b k28 N l0 l1 l4 l5 l6 μ = some t) : aX8_lays E l 2 z 28 [(0, vr l0), (1, vr l1), (4, vi l4), (5, vi l5), (6, vi l6)] [] μ (rV t) := by
  unfold jX8_lays_28b at h
  refine a_iload 4 dX8_lays_28 rfl ?_
  refine a_sipush dX8_lays_30 ⟨rfl, okI_b _ rfl⟩ ?_
  refine a_icmp_ge (tgt := 88) dX8_lays_33 rfl h (fun h => ?_) (fun h => ?_)
  ·
    exact a_ret0 dX8_lays_88 h
  ·
    refine a_aload_n 1 dX8_lays_36 rfl rfl ?_
    refine a_iload 2 dX8_lays_37 rfl ?_
    refine a_iload 4 dX8_lays_39 rfl ?_
    refine a_iadd dX8_lays_41 ?_
    refine a_lald dX8_lays_42 h (fun x1 h => ?_)
    refine a_lstore (L' := [(7, vl x1), (0, vr l0), (1, vr l1), (4, vi l4), (5, vi l5), (6, vi l6)]) dX8_lays_43 (by decide) rfl ?_
    refine a_lload 0 dX8_lays_45 rfl ?_
    refine a_lconst (v := 0) dX8_lays_47 ⟨rfl, okJ_b _ rfl⟩ ?_
    refine a_lcmp dX8_lays_48 ?_
    refine a_if_le (tgt := 82) dX8_lays_49 rfl h (fun h => ?_) (fun h => ?_)
    ·
      exact a_sub [1, 2, 3, 4, 5] rfl (tX8_lays_82 E l _ k28 p28 N l0 l1 l4 l5 l6 μ t hk h)
    ·
      refine a_aload_n 2 dX8_lays_52 rfl rfl ?_
      refine a_iload 4 dX8_lays_53 rfl ?_
      refine a_iload 5 dX8_lays_55 rfl ?_
      refine a_iadd dX8_lays_57 ?_
      refine a_aload_n 1 dX8_lays_58 rfl rfl ?_
      refine a_getfi (c := 8) (i := 75) dX8_lays_59 fRX8_439 g8_75 rfl hk ?_
      refine a_iadd dX8_lays_62 ?_
      refine a_aload_n 2 dX8_lays_63 rfl rfl ?_
      refine a_iload 4 dX8_lays_64 rfl ?_
      refine a_iload 5 dX8_lays_66 rfl ?_
      refine a_iadd dX8_lays_68 ?_
      refine a_aload_n 1 dX8_lays_69 rfl rfl ?_
      refine a_getfi (c := 8) (i := 75) dX8_lays_70 fRX8_439 g8_75 rfl hk ?_
      refine a_iadd dX8_lays_73 ?_
      refine a_lald dX8_lays_74 h (fun x2 h => ?_)
      refine a_lload 0 dX8_lays_75 rfl ?_
      refine a_ladd dX8_lays_77 ?_
      refine a_cSl [vl (l_add x2 x1)] [vi (i_add (i_add l5 l6) (m_gt μ l0 75)), vr l1] dX8_lays_78 myX8_capped mRX8_451 msX8_capped (fun _ hj => tX8_capped E l N (l_add x2 x1) μ _  hj) (by decide) rfl (Nat.le_of_ble_eq_true rfl) h (fun x3 μ1 hm h => ?_)
      have hk := hm.k hk (by decide)
      refine a_last dX8_lays_81 h (fun μ2 hm h => ?_)
      have hk := hm.k hk (by decide)
      exact a_sub [1, 2, 3, 4, 5] rfl (tX8_lays_82 E l _ k28 p28 N l0 l1 l4 l5 l6 μ2 t hk h)
theorem tX8_lays_28 (E : m_E) (l : Launch) (z : Nat × Nat) (N : Nat) : ∀ (n : Nat) (l0 l1 l4 l5 l6 : Int) (μ : Mm) (t : Mm), m_kd μ l0 = (8, 0) → jX8_lays_28 N n l0 l1 l4 l5 l6 μ = some t → aX8_lays E l 2 z 28 [(0, vr l0), (1, vr l1), (4, vi l4), (5, vi l5), (6, vi l6)] [] μ (rV t)
  | 0, _, _, _, _, _, _, _, _, h => by cases h
  | n + 1, l0, l1, l4, l5, l6, μ, t, hk, h => tX8_lays_28b E l z (jX8_lays_28 N n) (tX8_lays_28 E l z N n) N l0 l1 l4 l5 l6 μ t hk h
theorem tX8_lays (E : m_E) (l : Launch) (N : Nat) (l0 l1 l2 l3 : Int) (μ : Mm) (t : Mm) (hk : m_kd μ l0 = (8, 0)) (h : jX8_lays N l0 l1 l2 l3 μ = some t) : TT E l 2 yX8_lays cX8_lays 9 none [vr l0, vr l1, vi l2, vi l3] μ (rV t) := by
  refine tt_of (L := [(0, vr l0), (1, vr l1), (2, vi l2), (3, vi l3)]) (by decide +kernel) (Nat.le_of_ble_eq_true rfl) rfl ?_
  show aX8_lays E l 2 (m_sz μ, m_sl μ) 0 [(0, vr l0), (1, vr l1), (2, vi l2), (3, vi l3)] [] μ (rV t)
  unfold jX8_lays at h
  refine a_iload_n 2 dX8_lays_0 rfl rfl ?_
  refine a_iconst dX8_lays_1 (okI_b _ rfl) ?_
  refine a_iadd dX8_lays_2 ?_
  refine a_aload_n 0 dX8_lays_3 rfl rfl ?_
  refine a_getfi (c := 8) (i := 76) dX8_lays_4 fRX8_445 g8_76 rfl hk ?_
  refine a_sipush dX8_lays_7 ⟨rfl, okI_b _ rfl⟩ ?_
  refine a_cSi [vi (i_add l2 1), vi (m_gt μ l0 76), vi (-460)] [] dX8_lays_10 myX8_cell mRX8_448 msX8_cell (fun _ hj => tX8_cell E l N (i_add l2 1) (m_gt μ l0 76) (-460) μ _  hj) (by decide) rfl (Nat.le_of_ble_eq_true rfl) h (fun x1 μ1 hm h => ?_)
  have hk := hm.k hk (by decide)
  refine a_istore (L' := [(4, vi x1), (0, vr l0), (1, vr l1), (2, vi l2), (3, vi l3)]) dX8_lays_13 (by decide) rfl ?_
  refine a_iload_n 3 dX8_lays_15 rfl rfl ?_
  refine a_iload_n 4 dX8_lays_16 rfl rfl ?_
  refine a_sipush dX8_lays_17 ⟨rfl, okI_b _ rfl⟩ ?_
  refine a_cSi [vi l2, vi l3, vi (-460)] [] dX8_lays_20 myX8_cell mRX8_448 msX8_cell (fun _ hj => tX8_cell E l N l2 l3 (-460) μ1 _  hj) (by decide) rfl (Nat.le_of_ble_eq_true rfl) h (fun x2 μ2 hm h => ?_)
  have hk := hm.k hk (by decide)
  refine a_istore (L' := [(5, vi x2), (4, vi x1), (0, vr l0), (1, vr l1), (2, vi l2), (3, vi l3)]) dX8_lays_23 (by decide) rfl ?_
  refine a_iconst dX8_lays_25 (okI_b _ rfl) ?_
  refine a_istore (L' := [(6, vi 0), (5, vi x2), (4, vi x1), (0, vr l0), (1, vr l1), (2, vi l2), (3, vi l3)]) dX8_lays_26 (by decide) rfl ?_
  exact a_sub [3, 4, 2, 1, 0] rfl (tX8_lays_28 E l _ N N l0 l1 x1 x2 0 μ2 t hk h)
-- X8_opensFrame
abbrev aX8_opensFrame (E : m_E) (l : Launch) (d : Nat) (z : Nat × Nat) (pc : Nat) (L : List (Nat × AV)) (st : List AV) (μ : Mm) (ρ : Option AV × Mm) : Prop := AA E l d z RX8 "opensFrame" cX8_opensFrame 4 none pc L st μ ρ
theorem tX8_opensFrame_5b (E : m_E) (l : Launch) (z : Nat × Nat) (k5 : Int → Int → Int → Int → Mm → Option (Mm)) (p5 : ∀ (l0 l1 l2 l3 : Int) (μ : Mm) (t : Mm), m_kd μ l0 = (8, 0) → k5 l0 l1 l2 l3 μ = some t → aX8_opensFrame E l 6 z 5 [(0, vr l0), (1, vr l1), (2, vi l2), (3, vi l3)] [] μ (rV t)) (N : Nat) (l0 l1 l2 l3 : Int) (μ : Mm) (t : Mm) (hk : m_kd μ l0 = (8, 0)) (h : jX8_opensFrame_5b k5 N l0 l1 l2 l3 μ = some t) : aX8_opensFrame E l 6 z 5 [(0, vr l0), (1, vr l1), (2, vi l2), (3, vi l3)] [] μ (rV t) := by
  unfold jX8_opensFrame_5b at h
  refine a_aload_n 0 dX8_opensFrame_5 rfl rfl ?_
  refine a_aload_n 0 dX8_opensFrame_6 rfl rfl ?_
  refine a_getfr (c := 8) (i := 31) dX8_opensFrame_7 fRX8_84 g8_31 rfl hk ?_
  refine a_iconst dX8_opensFrame_10 (okI_b _ rfl) ?_
  refine a_iald dX8_opensFrame_11 h (fun x1 h => ?_)
  refine a_aload_n 0 dX8_opensFrame_12 rfl rfl ?_
  refine a_getfr (c := 8) (i := 33) dX8_opensFrame_13 fRX8_90 g8_33 rfl hk ?_
  refine a_iconst dX8_opensFrame_16 (okI_b _ rfl) ?_
  refine a_iald dX8_opensFrame_17 h (fun x2 h => ?_)
  refine a_cVi (c := 8) [vi x1, vi x2] [] dX8_opensFrame_18 myX8_nextRow mRX8_454 mvX8_nextRow rfl (by decide) hk (fun _ hj => tX8_nextRow E l N l0 x1 x2 μ _ hk hj) (by decide) rfl (Nat.le_of_ble_eq_true rfl) h (fun x3 μ1 hm h => ?_)
  have hk := hm.k hk (by decide)
  refine a_if_eq (tgt := 46) dX8_opensFrame_21 rfl h (fun h => ?_) (fun h => ?_)
  ·
    exact a_ret0 dX8_opensFrame_46 h
  ·
    refine a_aload_n 0 dX8_opensFrame_24 rfl rfl ?_
    refine a_iload_n 2 dX8_opensFrame_25 rfl rfl ?_
    refine a_iload_n 3 dX8_opensFrame_26 rfl rfl ?_
    refine a_iconst dX8_opensFrame_27 (okI_b _ rfl) ?_
    refine a_iconst dX8_opensFrame_28 (okI_b _ rfl) ?_
    refine a_iconst dX8_opensFrame_29 (okI_b _ rfl) ?_
    refine a_cVi (c := 8) [vi l2, vi l3, vi 0, vi 0, vi 0] [] dX8_opensFrame_30 myX8_ends mRX8_458 mvX8_ends rfl (by decide) hk (fun _ hj => tX8_ends E l N l0 l2 l3 0 0 0 μ1 _ hk hj) (by decide) rfl (Nat.le_of_ble_eq_true rfl) h (fun x4 μ2 hm h => ?_)
    have hk := hm.k hk (by decide)
    refine a_if_eq (tgt := 5) dX8_opensFrame_33 rfl h (fun h => ?_) (fun h => ?_)
    ·
      exact a_sub [0, 1, 2, 3] rfl (p5 l0 l1 l2 l3 μ2 t hk h)
    ·
      refine a_aload_n 0 dX8_opensFrame_36 rfl rfl ?_
      refine a_aload_n 1 dX8_opensFrame_37 rfl rfl ?_
      refine a_iload_n 2 dX8_opensFrame_38 rfl rfl ?_
      refine a_iload_n 3 dX8_opensFrame_39 rfl rfl ?_
      refine a_cVv (c := 8) [vr l1, vi l2, vi l3] [] dX8_opensFrame_40 myX8_lays mRX8_462 mvX8_lays rfl (by decide) hk (fun _ hj => tX8_lays E l N l0 l1 l2 l3 μ2 _ hk hj) (by decide) rfl (Nat.le_of_ble_eq_true rfl) h (fun μ3 hm h => ?_)
      have hk := hm.k hk (by decide)
      refine a_goto (tgt := 5) dX8_opensFrame_43 rfl ?_
      exact a_sub [0, 1, 2, 3] rfl (p5 l0 l1 l2 l3 μ3 t hk h)
theorem tX8_opensFrame_5 (E : m_E) (l : Launch) (z : Nat × Nat) (N : Nat) : ∀ (n : Nat) (l0 l1 l2 l3 : Int) (μ : Mm) (t : Mm), m_kd μ l0 = (8, 0) → jX8_opensFrame_5 N n l0 l1 l2 l3 μ = some t → aX8_opensFrame E l 6 z 5 [(0, vr l0), (1, vr l1), (2, vi l2), (3, vi l3)] [] μ (rV t)
  | 0, _, _, _, _, _, _, _, h => by cases h
  | n + 1, l0, l1, l2, l3, μ, t, hk, h => tX8_opensFrame_5b E l z (jX8_opensFrame_5 N n) (tX8_opensFrame_5 E l z N n) N l0 l1 l2 l3 μ t hk h
theorem tX8_opensFrame (E : m_E) (l : Launch) (N : Nat) (l0 l1 l2 l3 : Int) (μ : Mm) (t : Mm) (hk : m_kd μ l0 = (8, 0)) (h : jX8_opensFrame N l0 l1 l2 l3 μ = some t) : TT E l 6 yX8_opensFrame cX8_opensFrame 4 none [vr l0, vr l1, vi l2, vi l3] μ (rV t) := by
  refine tt_of (L := [(0, vr l0), (1, vr l1), (2, vi l2), (3, vi l3)]) (by decide +kernel) (Nat.le_of_ble_eq_true rfl) rfl ?_
  show aX8_opensFrame E l 6 (m_sz μ, m_sl μ) 0 [(0, vr l0), (1, vr l1), (2, vi l2), (3, vi l3)] [] μ (rV t)
  unfold jX8_opensFrame at h
  refine a_aload_n 0 dX8_opensFrame_0 rfl rfl ?_
  refine a_iconst dX8_opensFrame_1 (okI_b _ rfl) ?_
  refine a_putfi (c := 8) (i := 74) dX8_opensFrame_2 fRX8_430 g8_74 (Or.inl rfl) rfl hk h (fun μ1 hm h => ?_)
  have hk := hm.k hk (by decide)
  exact a_sub [0, 1, 2, 3] rfl (tX8_opensFrame_5 E l _ N N l0 l1 l2 l3 μ1 t hk h)
-- X8_tellsAhead
abbrev aX8_tellsAhead (E : m_E) (l : Launch) (d : Nat) (z : Nat × Nat) (pc : Nat) (L : List (Nat × AV)) (st : List AV) (μ : Mm) (ρ : Option AV × Mm) : Prop := AA E l d z RX8 "tellsAhead" cX8_tellsAhead 3 none pc L st μ ρ
theorem tX8_tellsAhead_104 (E : m_E) (l : Launch) (z : Nat × Nat) (k66 : Int → Int → Mm → Option (Mm)) (p66 : ∀ (l0 l1 : Int) (μ : Mm) (t : Mm), m_kd μ l0 = (8, 0) → k66 l0 l1 μ = some t → aX8_tellsAhead E l 7 z 66 [(0, vr l0), (1, vi l1)] [] μ (rV t)) (k72 : Int → Int → Int → Mm → Option (Mm)) (p72 : ∀ (l0 l1 l2 : Int) (μ : Mm) (t : Mm), m_kd μ l0 = (8, 0) → k72 l0 l1 l2 μ = some t → aX8_tellsAhead E l 7 z 72 [(0, vr l0), (1, vi l1), (2, vi l2)] [] μ (rV t)) (N : Nat) (l0 l1 l2 : Int) (μ : Mm) (t : Mm) (hk : m_kd μ l0 = (8, 0)) (h : jX8_tellsAhead_104 k66 k72 N l0 l1 l2 μ = some t) : aX8_tellsAhead E l 7 z 104 [(0, vr l0), (1, vi l1), (2, vi l2)] [] μ (rV t) := by
  unfold jX8_tellsAhead_104 at h
  refine a_iinc (F := fun x1 => [(2, vi x1), (0, vr l0), (1, vi l1)]) 2 dX8_tellsAhead_104 rfl (by decide) h (fun _ => rfl) (fun x1 h => ?_)
  refine a_goto (tgt := 72) dX8_tellsAhead_107 rfl ?_
  exact a_sub [1, 2, 0] rfl (p72 l0 l1 x1 μ t hk h)
theorem tX8_tellsAhead_72b (E : m_E) (l : Launch) (z : Nat × Nat) (k66 : Int → Int → Mm → Option (Mm)) (p66 : ∀ (l0 l1 : Int) (μ : Mm) (t : Mm), m_kd μ l0 = (8, 0) → k66 l0 l1 μ = some t → aX8_tellsAhead E l 7 z 66 [(0, vr l0), (1, vi l1)] [] μ (rV t)) (k72 : Int → Int → Int → Mm → Option (Mm)) (p72 : ∀ (l0 l1 l2 : Int) (μ : Mm) (t : Mm), m_kd μ l0 = (8, 0) → k72 l0 l1 l2 μ = some t → aX8_tellsAhead E l 7 z 72 [(0, vr l0), (1, vi l1), (2, vi l2)] [] μ (rV t)) (N : Nat) (l0 l1 l2 : Int) (μ : Mm) (t : Mm) (hk : m_kd μ l0 = (8, 0)) (h : jX8_tellsAhead_72b k66 k72 N l0 l1 l2 μ = some t) : aX8_tellsAhead E l 7 z 72 [(0, vr l0), (1, vi l1), (2, vi l2)] [] μ (rV t) := by
  unfold jX8_tellsAhead_72b at h
  refine a_iload_n 2 dX8_tellsAhead_72 rfl rfl ?_
  refine a_bipush dX8_tellsAhead_73 ⟨rfl, okI_b _ rfl⟩ ?_
  refine a_icmp_ge (tgt := 110) dX8_tellsAhead_75 rfl h (fun h => ?_) (fun h => ?_)
  ·
    refine a_iinc (F := fun x1 => [(1, vi x1), (0, vr l0), (2, vi l2)]) 1 dX8_tellsAhead_110 rfl (by decide) h (fun _ => rfl) (fun x1 h => ?_)
    refine a_goto (tgt := 66) dX8_tellsAhead_113 rfl ?_
    exact a_sub [1, 0] rfl (p66 l0 x1 μ t hk h)
  ·
    refine a_aload_n 0 dX8_tellsAhead_78 rfl rfl ?_
    refine a_iload_n 1 dX8_tellsAhead_79 rfl rfl ?_
    refine a_iload_n 2 dX8_tellsAhead_80 rfl rfl ?_
    refine a_cVi (c := 8) [vi l1, vi l2] [] dX8_tellsAhead_81 myX8_mayOwe mRX8_470 mvX8_mayOwe rfl (by decide) hk (fun _ hj => tX8_mayOwe E l N l0 l1 l2 μ _ hk hj) (by decide) rfl (Nat.le_of_ble_eq_true rfl) h (fun x2 μ1 hm h => ?_)
    have hk := hm.k hk (by decide)
    refine a_if_eq (tgt := 104) dX8_tellsAhead_84 rfl h (fun h => ?_) (fun h => ?_)
    ·
      exact a_sub [0, 1, 2] rfl (tX8_tellsAhead_104 E l _ k66 p66 k72 p72 N l0 l1 l2 μ1 t hk h)
    ·
      refine a_iload_n 2 dX8_tellsAhead_87 rfl rfl ?_
      refine a_cSi [vi l2] [] dX8_tellsAhead_88 myX8_isOwing mRX8_473 msX8_isOwing (fun _ hj => tX8_isOwing E l N l2 μ1 _  hj) (by decide) rfl (Nat.le_of_ble_eq_true rfl) h (fun x3 μ2 hm h => ?_)
      have hk := hm.k hk (by decide)
      refine a_if_eq (tgt := 104) dX8_tellsAhead_91 rfl h (fun h => ?_) (fun h => ?_)
      ·
        exact a_sub [0, 1, 2] rfl (tX8_tellsAhead_104 E l _ k66 p66 k72 p72 N l0 l1 l2 μ2 t hk h)
      ·
        refine a_aload_n 0 dX8_tellsAhead_94 rfl rfl ?_
        refine a_aload_n 0 dX8_tellsAhead_95 rfl rfl ?_
        refine a_getfr (c := 8) (i := 69) dX8_tellsAhead_96 fRX8_150 g8_69 rfl hk ?_
        refine a_iload_n 1 dX8_tellsAhead_99 rfl rfl ?_
        refine a_iload_n 2 dX8_tellsAhead_100 rfl rfl ?_
        refine a_cVv (c := 8) [vr (m_gt μ2 l0 69), vi l1, vi l2] [] dX8_tellsAhead_101 myX8_opensFrame mRX8_476 mvX8_opensFrame rfl (by decide) hk (fun _ hj => tX8_opensFrame E l N l0 (m_gt μ2 l0 69) l1 l2 μ2 _ hk hj) (by decide) rfl (Nat.le_of_ble_eq_true rfl) h (fun μ3 hm h => ?_)
        have hk := hm.k hk (by decide)
        exact a_sub [0, 1, 2] rfl (tX8_tellsAhead_104 E l _ k66 p66 k72 p72 N l0 l1 l2 μ3 t hk h)
theorem tX8_tellsAhead_72 (E : m_E) (l : Launch) (z : Nat × Nat) (k66 : Int → Int → Mm → Option (Mm)) (p66 : ∀ (l0 l1 : Int) (μ : Mm) (t : Mm), m_kd μ l0 = (8, 0) → k66 l0 l1 μ = some t → aX8_tellsAhead E l 7 z 66 [(0, vr l0), (1, vi l1)] [] μ (rV t)) (N : Nat) : ∀ (n : Nat) (l0 l1 l2 : Int) (μ : Mm) (t : Mm), m_kd μ l0 = (8, 0) → jX8_tellsAhead_72 k66 N n l0 l1 l2 μ = some t → aX8_tellsAhead E l 7 z 72 [(0, vr l0), (1, vi l1), (2, vi l2)] [] μ (rV t)
  | 0, _, _, _, _, _, _, h => by cases h
  | n + 1, l0, l1, l2, μ, t, hk, h => tX8_tellsAhead_72b E l z k66 p66 (jX8_tellsAhead_72 k66 N n) (tX8_tellsAhead_72 E l z k66 p66 N n) N l0 l1 l2 μ t hk h
theorem tX8_tellsAhead_66b (E : m_E) (l : Launch) (z : Nat × Nat) (k66 : Int → Int → Mm → Option (Mm)) (p66 : ∀ (l0 l1 : Int) (μ : Mm) (t : Mm), m_kd μ l0 = (8, 0) → k66 l0 l1 μ = some t → aX8_tellsAhead E l 7 z 66 [(0, vr l0), (1, vi l1)] [] μ (rV t)) (N : Nat) (l0 l1 : Int) (μ : Mm) (t : Mm) (hk : m_kd μ l0 = (8, 0)) (h : jX8_tellsAhead_66b k66 N l0 l1 μ = some t) : aX8_tellsAhead E l 7 z 66 [(0, vr l0), (1, vi l1)] [] μ (rV t) := by
  unfold jX8_tellsAhead_66b at h
  refine a_iload_n 1 dX8_tellsAhead_66 rfl rfl ?_
  refine a_if_lt (tgt := 116) dX8_tellsAhead_67 rfl h (fun h => ?_) (fun h => ?_)
  ·
    exact a_ret0 dX8_tellsAhead_116 h
  ·
    refine a_iconst dX8_tellsAhead_70 (okI_b _ rfl) ?_
    refine a_istore_n (L' := [(2, vi 0), (0, vr l0), (1, vi l1)]) dX8_tellsAhead_71 rfl (by decide) rfl ?_
    exact a_sub [1, 2, 0] rfl (tX8_tellsAhead_72 E l _ k66 p66 N N l0 l1 0 μ t hk h)
theorem tX8_tellsAhead_66 (E : m_E) (l : Launch) (z : Nat × Nat) (N : Nat) : ∀ (n : Nat) (l0 l1 : Int) (μ : Mm) (t : Mm), m_kd μ l0 = (8, 0) → jX8_tellsAhead_66 N n l0 l1 μ = some t → aX8_tellsAhead E l 7 z 66 [(0, vr l0), (1, vi l1)] [] μ (rV t)
  | 0, _, _, _, _, _, h => by cases h
  | n + 1, l0, l1, μ, t, hk, h => tX8_tellsAhead_66b E l z (jX8_tellsAhead_66 N n) (tX8_tellsAhead_66 E l z N n) N l0 l1 μ t hk h
theorem tX8_tellsAhead_36b (E : m_E) (l : Launch) (z : Nat × Nat) (k36 : Int → Int → Mm → Option (Mm)) (p36 : ∀ (l0 l1 : Int) (μ : Mm) (t : Mm), m_kd μ l0 = (8, 0) → k36 l0 l1 μ = some t → aX8_tellsAhead E l 7 z 36 [(0, vr l0), (1, vi l1)] [] μ (rV t)) (N : Nat) (l0 l1 : Int) (μ : Mm) (t : Mm) (hk : m_kd μ l0 = (8, 0)) (h : jX8_tellsAhead_36b k36 N l0 l1 μ = some t) : aX8_tellsAhead E l 7 z 36 [(0, vr l0), (1, vi l1)] [] μ (rV t) := by
  unfold jX8_tellsAhead_36b at h
  refine a_iload_n 1 dX8_tellsAhead_36 rfl rfl ?_
  refine a_bipush dX8_tellsAhead_37 ⟨rfl, okI_b _ rfl⟩ ?_
  refine a_icmp_ge (tgt := 57) dX8_tellsAhead_39 rfl h (fun h => ?_) (fun h => ?_)
  ·
    refine a_aload_n 0 dX8_tellsAhead_57 rfl rfl ?_
    refine a_getfr (c := 8) (i := 32) dX8_tellsAhead_58 fRX8_87 g8_32 rfl hk ?_
    refine a_iconst dX8_tellsAhead_61 (okI_b _ rfl) ?_
    refine a_iald dX8_tellsAhead_62 h (fun x1 h => ?_)
    refine a_iconst dX8_tellsAhead_63 (okI_b _ rfl) ?_
    refine a_isub dX8_tellsAhead_64 ?_
    refine a_nmi h (fun x2 h => ?_)
    refine a_istore_n (L' := [(1, vi x2), (0, vr l0)]) dX8_tellsAhead_65 rfl (by decide) rfl ?_
    exact a_sub [1, 0] rfl (tX8_tellsAhead_66 E l _ N N l0 x2 μ t hk h)
  ·
    refine a_aload_n 0 dX8_tellsAhead_42 rfl rfl ?_
    refine a_aload_n 0 dX8_tellsAhead_43 rfl rfl ?_
    refine a_getfr (c := 8) (i := 69) dX8_tellsAhead_44 fRX8_150 g8_69 rfl hk ?_
    refine a_iload_n 1 dX8_tellsAhead_47 rfl rfl ?_
    refine a_cVv (c := 8) [vr (m_gt μ l0 69), vi l1] [] dX8_tellsAhead_48 myX8_fillsAhead mRX8_466 mvX8_fillsAhead rfl (by decide) hk (fun _ hj => tX8_fillsAhead E l N l0 (m_gt μ l0 69) l1 μ _ hk hj) (by decide) rfl (Nat.le_of_ble_eq_true rfl) h (fun μ1 hm h => ?_)
    have hk := hm.k hk (by decide)
    refine a_iinc (F := fun x3 => [(1, vi x3), (0, vr l0)]) 1 dX8_tellsAhead_51 rfl (by decide) h (fun _ => rfl) (fun x3 h => ?_)
    refine a_goto (tgt := 36) dX8_tellsAhead_54 rfl ?_
    exact a_sub [1, 0] rfl (p36 l0 x3 μ1 t hk h)
theorem tX8_tellsAhead_36 (E : m_E) (l : Launch) (z : Nat × Nat) (N : Nat) : ∀ (n : Nat) (l0 l1 : Int) (μ : Mm) (t : Mm), m_kd μ l0 = (8, 0) → jX8_tellsAhead_36 N n l0 l1 μ = some t → aX8_tellsAhead E l 7 z 36 [(0, vr l0), (1, vi l1)] [] μ (rV t)
  | 0, _, _, _, _, _, h => by cases h
  | n + 1, l0, l1, μ, t, hk, h => tX8_tellsAhead_36b E l z (jX8_tellsAhead_36 N n) (tX8_tellsAhead_36 E l z N n) N l0 l1 μ t hk h
theorem tX8_tellsAhead_15b (E : m_E) (l : Launch) (z : Nat × Nat) (k15 : Int → Int → Mm → Option (Mm)) (p15 : ∀ (l0 l1 : Int) (μ : Mm) (t : Mm), m_kd μ l0 = (8, 0) → k15 l0 l1 μ = some t → aX8_tellsAhead E l 7 z 15 [(0, vr l0), (1, vi l1)] [] μ (rV t)) (N : Nat) (l0 l1 : Int) (μ : Mm) (t : Mm) (hk : m_kd μ l0 = (8, 0)) (h : jX8_tellsAhead_15b k15 N l0 l1 μ = some t) : aX8_tellsAhead E l 7 z 15 [(0, vr l0), (1, vi l1)] [] μ (rV t) := by
  unfold jX8_tellsAhead_15b at h
  refine a_iload_n 1 dX8_tellsAhead_15 rfl rfl ?_
  refine a_ldc (x := 228960) dX8_tellsAhead_16 kRX8_149 ⟨rfl, okI_b _ rfl⟩ ?_
  refine a_icmp_ge (tgt := 34) dX8_tellsAhead_18 rfl h (fun h => ?_) (fun h => ?_)
  ·
    refine a_iconst dX8_tellsAhead_34 (okI_b _ rfl) ?_
    refine a_istore_n (L' := [(1, vi 0), (0, vr l0)]) dX8_tellsAhead_35 rfl (by decide) rfl ?_
    exact a_sub [1, 0] rfl (tX8_tellsAhead_36 E l _ N N l0 0 μ t hk h)
  ·
    refine a_aload_n 0 dX8_tellsAhead_21 rfl rfl ?_
    refine a_getfr (c := 8) (i := 69) dX8_tellsAhead_22 fRX8_150 g8_69 rfl hk ?_
    refine a_iload_n 1 dX8_tellsAhead_25 rfl rfl ?_
    refine a_lconst (v := 0) dX8_tellsAhead_26 ⟨rfl, okJ_b _ rfl⟩ ?_
    refine a_last dX8_tellsAhead_27 h (fun μ1 hm h => ?_)
    have hk := hm.k hk (by decide)
    refine a_iinc (F := fun x1 => [(1, vi x1), (0, vr l0)]) 1 dX8_tellsAhead_28 rfl (by decide) h (fun _ => rfl) (fun x1 h => ?_)
    refine a_goto (tgt := 15) dX8_tellsAhead_31 rfl ?_
    exact a_sub [1, 0] rfl (p15 l0 x1 μ1 t hk h)
theorem tX8_tellsAhead_15 (E : m_E) (l : Launch) (z : Nat × Nat) (N : Nat) : ∀ (n : Nat) (l0 l1 : Int) (μ : Mm) (t : Mm), m_kd μ l0 = (8, 0) → jX8_tellsAhead_15 N n l0 l1 μ = some t → aX8_tellsAhead E l 7 z 15 [(0, vr l0), (1, vi l1)] [] μ (rV t)
  | 0, _, _, _, _, _, h => by cases h
  | n + 1, l0, l1, μ, t, hk, h => tX8_tellsAhead_15b E l z (jX8_tellsAhead_15 N n) (tX8_tellsAhead_15 E l z N n) N l0 l1 μ t hk h
theorem tX8_tellsAhead (E : m_E) (l : Launch) (N : Nat) (l0 : Int) (μ : Mm) (t : Mm) (hk : m_kd μ l0 = (8, 0)) (h : jX8_tellsAhead N l0 μ = some t) : TT E l 7 yX8_tellsAhead cX8_tellsAhead 3 none [vr l0] μ (rV t) := by
  refine tt_of (L := [(0, vr l0)]) (by decide +kernel) (Nat.le_of_ble_eq_true rfl) rfl ?_
  show aX8_tellsAhead E l 7 (m_sz μ, m_sl μ) 0 [(0, vr l0)] [] μ (rV t)
  unfold jX8_tellsAhead at h
  refine a_aload_n 0 dX8_tellsAhead_0 rfl rfl ?_
  refine a_getfz (c := 8) (i := 70) dX8_tellsAhead_1 fRX8_330 g8_70 rfl hk ?_
  refine a_if_eq (tgt := 8) dX8_tellsAhead_4 rfl h (fun h => ?_) (fun h => ?_)
  ·
    refine a_aload_n 0 dX8_tellsAhead_8 rfl rfl ?_
    refine a_iconst dX8_tellsAhead_9 (okI_b _ rfl) ?_
    refine a_putfz (c := 8) (i := 70) dX8_tellsAhead_10 fRX8_330 g8_70 (Or.inl rfl) rfl (Or.inr rfl) hk h (fun μ1 hm h => ?_)
    have hk := hm.k hk (by decide)
    refine a_iconst dX8_tellsAhead_13 (okI_b _ rfl) ?_
    refine a_istore_n (L' := [(1, vi 0), (0, vr l0)]) dX8_tellsAhead_14 rfl (by decide) rfl ?_
    exact a_sub [1, 0] rfl (tX8_tellsAhead_15 E l _ N N l0 0 μ1 t hk h)
  ·
    exact a_ret0 dX8_tellsAhead_7 h
