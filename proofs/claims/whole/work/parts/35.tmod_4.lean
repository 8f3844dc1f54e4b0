-- X8_onePart
abbrev aX8_onePart (E : m_E) (l : Launch) (d : Nat) (z : Nat × Nat) (pc : Nat) (L : List (Nat × AV)) (st : List AV) (μ : Mm) (ρ : Option AV × Mm) : Prop := AA E l d z RX8 "onePart" cX8_onePart 5 none pc L st μ ρ
theorem tX8_onePart_274 (E : m_E) (l : Launch) (z : Nat × Nat) (N : Nat) (l0 s0 s1 : Int) (μ : Mm) (t : Mm) (hk : m_kd μ l0 = (8, 0)) (h : jX8_onePart_274 N l0 s0 s1 μ = some t) : aX8_onePart E l 5 z 274 [(0, vr l0)] [vi s0, vr s1] μ (rV t) := by
  unfold jX8_onePart_274 at h
  refine m_chk_k h (fun hq0 h => ?_)
  refine a_cVv (c := 8) [vi s0] [] dX8_onePart_274 myX8_code mRX8_236 mvX8_code rfl (by decide) hq0 (fun _ hj => tX8_code E l N s1 s0 μ _ hq0 hj) (by decide) rfl (Nat.le_of_ble_eq_true rfl) h (fun μ1 hm h => ?_)
  have hk := hm.k hk (by decide)
  have hq0 := hm.k hq0 (by decide)
  exact a_ret0 dX8_onePart_277 h
theorem tX8_onePart_251 (E : m_E) (l : Launch) (z : Nat × Nat) (N : Nat) (l0 s0 : Int) (μ : Mm) (t : Mm) (hk : m_kd μ l0 = (8, 0)) (h : jX8_onePart_251 N l0 s0 μ = some t) : aX8_onePart E l 5 z 251 [(0, vr l0)] [vi s0] μ (rV t) := by
  unfold jX8_onePart_251 at h
  refine a_istore_n (L' := [(2, vi s0), (0, vr l0)]) dX8_onePart_251 rfl (by decide) rfl ?_
  refine a_aload_n 1 dX8_onePart_252 rfl rfl ?_
  refine a_iload_n 0 dX8_onePart_253 rfl rfl ?_
  refine a_iconst dX8_onePart_254 (okI_b _ rfl) ?_
  refine a_icmp_eq (tgt := 262) dX8_onePart_255 rfl h (fun h => ?_) (fun h => ?_)
  ·
    refine a_sipush dX8_onePart_262 ⟨rfl, okI_b _ rfl⟩ ?_
    refine a_aload_n 1 dX8_onePart_265 rfl rfl ?_
    refine a_iconst dX8_onePart_266 (okI_b _ rfl) ?_
    refine a_sipush dX8_onePart_267 ⟨rfl, okI_b _ rfl⟩ ?_
    refine a_cVi (c := 8) [vi 0, vi 9999] [vi 1000, vr l0] dX8_onePart_270 myX8_number mRX8_259 mvX8_number rfl (by decide) hk (fun _ hj => tX8_number E l N l0 0 9999 μ _ hk hj) (by decide) rfl (Nat.le_of_ble_eq_true rfl) h (fun x1 μ1 hm h => ?_)
    have hk := hm.k hk (by decide)
    refine a_iadd dX8_onePart_273 ?_
    exact a_sub [1] rfl (tX8_onePart_274 E l _ N l0 (i_add 1000 x1) l0 μ1 t hk h)
  ·
    refine a_iload_n 0 dX8_onePart_258 rfl rfl ?_
    refine a_goto (tgt := 274) dX8_onePart_259 rfl ?_
    exact a_sub [1] rfl (tX8_onePart_274 E l _ N l0 s0 l0 μ t hk h)
theorem tX8_onePart_146 (E : m_E) (l : Launch) (z : Nat × Nat) (N : Nat) (l0 : Int) (μ : Mm) (t : Mm) (hk : m_kd μ l0 = (8, 0)) (h : jX8_onePart_146 N l0 μ = some t) : aX8_onePart E l 5 z 146 [(0, vr l0)] [] μ (rV t) := by
  unfold jX8_onePart_146 at h
  refine a_aload_n 0 dX8_onePart_146 rfl rfl ?_
  refine a_getfi (c := 8) (i := 5) dX8_onePart_147 fRX8_183 g8_5 rfl hk ?_
  refine a_if_eq (tgt := 154) dX8_onePart_150 rfl h (fun h => ?_) (fun h => ?_)
  ·
    refine a_aload_n 0 dX8_onePart_154 rfl rfl ?_
    refine a_aload_n 0 dX8_onePart_155 rfl rfl ?_
    refine a_getfr (c := 8) (i := 23) dX8_onePart_156 fRX8_60 g8_23 rfl hk ?_
    refine a_cVi (c := 8) [vr (m_gt μ l0 23)] [] dX8_onePart_159 myX8_takes mRX8_210 mvX8_takes rfl (by decide) hk (fun _ hj => tX8_takes E l N l0 (m_gt μ l0 23) μ _ hk hj) (by decide) rfl (Nat.le_of_ble_eq_true rfl) h (fun x1 μ1 hm h => ?_)
    have hk := hm.k hk (by decide)
    refine a_if_eq (tgt := 170) dX8_onePart_162 rfl h (fun h => ?_) (fun h => ?_)
    ·
      refine a_aload_n 0 dX8_onePart_170 rfl rfl ?_
      refine a_aload_n 0 dX8_onePart_171 rfl rfl ?_
      refine a_getfr (c := 8) (i := 24) dX8_onePart_172 fRX8_63 g8_24 rfl hk ?_
      refine a_cVi (c := 8) [vr (m_gt μ1 l0 24)] [] dX8_onePart_175 myX8_takes mRX8_210 mvX8_takes rfl (by decide) hk (fun _ hj => tX8_takes E l N l0 (m_gt μ1 l0 24) μ1 _ hk hj) (by decide) rfl (Nat.le_of_ble_eq_true rfl) h (fun x2 μ2 hm h => ?_)
      have hk := hm.k hk (by decide)
      refine a_if_eq (tgt := 186) dX8_onePart_178 rfl h (fun h => ?_) (fun h => ?_)
      ·
        refine a_aload_n 0 dX8_onePart_186 rfl rfl ?_
        refine a_aload_n 0 dX8_onePart_187 rfl rfl ?_
        refine a_getfr (c := 8) (i := 25) dX8_onePart_188 fRX8_66 g8_25 rfl hk ?_
        refine a_cVi (c := 8) [vr (m_gt μ2 l0 25)] [] dX8_onePart_191 myX8_takes mRX8_210 mvX8_takes rfl (by decide) hk (fun _ hj => tX8_takes E l N l0 (m_gt μ2 l0 25) μ2 _ hk hj) (by decide) rfl (Nat.le_of_ble_eq_true rfl) h (fun x3 μ3 hm h => ?_)
        have hk := hm.k hk (by decide)
        refine a_if_eq (tgt := 202) dX8_onePart_194 rfl h (fun h => ?_) (fun h => ?_)
        ·
          refine a_aload_n 0 dX8_onePart_202 rfl rfl ?_
          refine a_aload_n 0 dX8_onePart_203 rfl rfl ?_
          refine a_getfr (c := 8) (i := 26) dX8_onePart_204 fRX8_69 g8_26 rfl hk ?_
          refine a_cVi (c := 8) [vr (m_gt μ3 l0 26)] [] dX8_onePart_207 myX8_takes mRX8_210 mvX8_takes rfl (by decide) hk (fun _ hj => tX8_takes E l N l0 (m_gt μ3 l0 26) μ3 _ hk hj) (by decide) rfl (Nat.le_of_ble_eq_true rfl) h (fun x4 μ4 hm h => ?_)
          have hk := hm.k hk (by decide)
          refine a_if_eq (tgt := 218) dX8_onePart_210 rfl h (fun h => ?_) (fun h => ?_)
          ·
            refine a_aload_n 0 dX8_onePart_218 rfl rfl ?_
            refine a_aload_n 0 dX8_onePart_219 rfl rfl ?_
            refine a_getfr (c := 8) (i := 27) dX8_onePart_220 fRX8_72 g8_27 rfl hk ?_
            refine a_cVi (c := 8) [vr (m_gt μ4 l0 27)] [] dX8_onePart_223 myX8_takes mRX8_210 mvX8_takes rfl (by decide) hk (fun _ hj => tX8_takes E l N l0 (m_gt μ4 l0 27) μ4 _ hk hj) (by decide) rfl (Nat.le_of_ble_eq_true rfl) h (fun x5 μ5 hm h => ?_)
            have hk := hm.k hk (by decide)
            refine a_if_eq (tgt := 234) dX8_onePart_226 rfl h (fun h => ?_) (fun h => ?_)
            ·
              refine a_aload_n 0 dX8_onePart_234 rfl rfl ?_
              refine a_aload_n 0 dX8_onePart_235 rfl rfl ?_
              refine a_getfr (c := 8) (i := 28) dX8_onePart_236 fRX8_75 g8_28 rfl hk ?_
              refine a_cVi (c := 8) [vr (m_gt μ5 l0 28)] [] dX8_onePart_239 myX8_takes mRX8_210 mvX8_takes rfl (by decide) hk (fun _ hj => tX8_takes E l N l0 (m_gt μ5 l0 28) μ5 _ hk hj) (by decide) rfl (Nat.le_of_ble_eq_true rfl) h (fun x6 μ6 hm h => ?_)
              have hk := hm.k hk (by decide)
              refine a_if_eq (tgt := 250) dX8_onePart_242 rfl h (fun h => ?_) (fun h => ?_)
              ·
                refine a_iconst dX8_onePart_250 (okI_b _ rfl) ?_
                exact a_sub [0] rfl (tX8_onePart_251 E l _ N l0 (-1) μ6 t hk h)
              ·
                refine a_bipush dX8_onePart_245 ⟨rfl, okI_b _ rfl⟩ ?_
                refine a_goto (tgt := 251) dX8_onePart_247 rfl ?_
                exact a_sub [0] rfl (tX8_onePart_251 E l _ N l0 30 μ6 t hk h)
            ·
              refine a_bipush dX8_onePart_229 ⟨rfl, okI_b _ rfl⟩ ?_
              refine a_goto (tgt := 251) dX8_onePart_231 rfl ?_
              exact a_sub [0] rfl (tX8_onePart_251 E l _ N l0 18 μ5 t hk h)
          ·
            refine a_bipush dX8_onePart_213 ⟨rfl, okI_b _ rfl⟩ ?_
            refine a_goto (tgt := 251) dX8_onePart_215 rfl ?_
            exact a_sub [0] rfl (tX8_onePart_251 E l _ N l0 10 μ4 t hk h)
        ·
          refine a_bipush dX8_onePart_197 ⟨rfl, okI_b _ rfl⟩ ?_
          refine a_goto (tgt := 251) dX8_onePart_199 rfl ?_
          exact a_sub [0] rfl (tX8_onePart_251 E l _ N l0 9 μ3 t hk h)
      ·
        refine a_bipush dX8_onePart_181 ⟨rfl, okI_b _ rfl⟩ ?_
        refine a_goto (tgt := 251) dX8_onePart_183 rfl ?_
        exact a_sub [0] rfl (tX8_onePart_251 E l _ N l0 8 μ2 t hk h)
    ·
      refine a_bipush dX8_onePart_165 ⟨rfl, okI_b _ rfl⟩ ?_
      refine a_goto (tgt := 251) dX8_onePart_167 rfl ?_
      exact a_sub [0] rfl (tX8_onePart_251 E l _ N l0 7 μ1 t hk h)
  ·
    exact a_ret0 dX8_onePart_153 h
theorem tX8_onePart_143 (E : m_E) (l : Launch) (z : Nat × Nat) (k2 : Int → Int → Mm → Option (Mm)) (p2 : ∀ (l0 l1 : Int) (μ : Mm) (t : Mm), m_kd μ l0 = (8, 0) → k2 l0 l1 μ = some t → aX8_onePart E l 5 z 2 [(0, vr l0), (1, vi l1)] [] μ (rV t)) (N : Nat) (l0 l1 : Int) (μ : Mm) (t : Mm) (hk : m_kd μ l0 = (8, 0)) (h : jX8_onePart_143 k2 N l0 l1 μ = some t) : aX8_onePart E l 5 z 143 [(0, vr l0), (1, vi l1)] [] μ (rV t) := by
  unfold jX8_onePart_143 at h
  refine a_goto (tgt := 2) dX8_onePart_143 rfl ?_
  exact a_sub [0, 1] rfl (p2 l0 l1 μ t hk h)
theorem tX8_onePart_132 (E : m_E) (l : Launch) (z : Nat × Nat) (k2 : Int → Int → Mm → Option (Mm)) (p2 : ∀ (l0 l1 : Int) (μ : Mm) (t : Mm), m_kd μ l0 = (8, 0) → k2 l0 l1 μ = some t → aX8_onePart E l 5 z 2 [(0, vr l0), (1, vi l1)] [] μ (rV t)) (N : Nat) (l0 l1 : Int) (μ : Mm) (t : Mm) (hk : m_kd μ l0 = (8, 0)) (h : jX8_onePart_132 k2 N l0 l1 μ = some t) : aX8_onePart E l 5 z 132 [(0, vr l0), (1, vi l1)] [] μ (rV t) := by
  unfold jX8_onePart_132 at h
  refine a_aload_n 0 dX8_onePart_132 rfl rfl ?_
  refine a_bipush dX8_onePart_133 ⟨rfl, okI_b _ rfl⟩ ?_
  refine a_cVv (c := 8) [vi 40] [] dX8_onePart_135 myX8_asksSign mRX8_256 mvX8_asksSign rfl (by decide) hk (fun _ hj => tX8_asksSign E l N l0 40 μ _ hk hj) (by decide) rfl (Nat.le_of_ble_eq_true rfl) h (fun μ1 hm h => ?_)
  have hk := hm.k hk (by decide)
  refine a_goto (tgt := 143) dX8_onePart_138 rfl ?_
  exact a_sub [0, 1] rfl (tX8_onePart_143 E l _ k2 p2 N l0 l1 μ1 t hk h)
theorem tX8_onePart_127 (E : m_E) (l : Launch) (z : Nat × Nat) (k2 : Int → Int → Mm → Option (Mm)) (p2 : ∀ (l0 l1 : Int) (μ : Mm) (t : Mm), m_kd μ l0 = (8, 0) → k2 l0 l1 μ = some t → aX8_onePart E l 5 z 2 [(0, vr l0), (1, vi l1)] [] μ (rV t)) (N : Nat) (l0 l1 l4 s0 s1 : Int) (μ : Mm) (t : Mm) (hk : m_kd μ l0 = (8, 0)) (h : jX8_onePart_127 k2 N l0 l1 l4 s0 s1 μ = some t) : aX8_onePart E l 5 z 127 [(0, vr l0), (1, vi l1), (4, vi l4)] [vi s0, vr s1] μ (rV t) := by
  unfold jX8_onePart_127 at h
  refine a_iload 2 dX8_onePart_127 rfl ?_
  refine m_chk_k h (fun hq1 h => ?_)
  refine a_cVv (c := 8) [vi s0, vi l4] [] dX8_onePart_129 myX8_opens mRX8_249 mvX8_opens rfl (by decide) hq1 (fun _ hj => tX8_opens E l N s1 s0 l4 μ _ hq1 hj) (by decide) rfl (Nat.le_of_ble_eq_true rfl) h (fun μ1 hm h => ?_)
  have hk := hm.k hk (by decide)
  have hq1 := hm.k hq1 (by decide)
  exact a_sub [0, 1] rfl (tX8_onePart_132 E l _ k2 p2 N l0 l1 μ1 t hk h)
theorem tX8_onePart_107 (E : m_E) (l : Launch) (z : Nat × Nat) (k2 : Int → Int → Mm → Option (Mm)) (p2 : ∀ (l0 l1 : Int) (μ : Mm) (t : Mm), m_kd μ l0 = (8, 0) → k2 l0 l1 μ = some t → aX8_onePart E l 5 z 2 [(0, vr l0), (1, vi l1)] [] μ (rV t)) (N : Nat) (l0 l1 l3 s0 : Int) (μ : Mm) (t : Mm) (hk : m_kd μ l0 = (8, 0)) (h : jX8_onePart_107 k2 N l0 l1 l3 s0 μ = some t) : aX8_onePart E l 5 z 107 [(0, vr l0), (1, vi l1), (3, vi l3)] [vi s0] μ (rV t) := by
  unfold jX8_onePart_107 at h
  refine a_istore (L' := [(4, vi s0), (0, vr l0), (1, vi l1), (3, vi l3)]) dX8_onePart_107 (by decide) rfl ?_
  refine a_iload 0 dX8_onePart_109 rfl ?_
  refine a_iconst dX8_onePart_111 (okI_b _ rfl) ?_
  refine a_icmp_eq (tgt := 132) dX8_onePart_112 rfl h (fun h => ?_) (fun h => ?_)
  ·
    exact a_sub [1, 2] rfl (tX8_onePart_132 E l _ k2 p2 N l0 l1 μ t hk h)
  ·
    refine a_aload_n 1 dX8_onePart_115 rfl rfl ?_
    refine a_iload_n 3 dX8_onePart_116 rfl rfl ?_
    refine a_if_eq (tgt := 125) dX8_onePart_117 rfl h (fun h => ?_) (fun h => ?_)
    ·
      refine a_bipush dX8_onePart_125 ⟨rfl, okI_b _ rfl⟩ ?_
      exact a_sub [1, 2, 0] rfl (tX8_onePart_127 E l _ k2 p2 N l0 l1 s0 22 l0 μ t hk h)
    ·
      refine a_bipush dX8_onePart_120 ⟨rfl, okI_b _ rfl⟩ ?_
      refine a_goto (tgt := 127) dX8_onePart_122 rfl ?_
      exact a_sub [1, 2, 0] rfl (tX8_onePart_127 E l _ k2 p2 N l0 l1 s0 21 l0 μ t hk h)
theorem tX8_onePart_90 (E : m_E) (l : Launch) (z : Nat × Nat) (k2 : Int → Int → Mm → Option (Mm)) (p2 : ∀ (l0 l1 : Int) (μ : Mm) (t : Mm), m_kd μ l0 = (8, 0) → k2 l0 l1 μ = some t → aX8_onePart E l 5 z 2 [(0, vr l0), (1, vi l1)] [] μ (rV t)) (N : Nat) (l0 l1 l3 : Int) (μ : Mm) (t : Mm) (hk : m_kd μ l0 = (8, 0)) (h : jX8_onePart_90 k2 N l0 l1 l3 μ = some t) : aX8_onePart E l 5 z 90 [(0, vr l0), (1, vi l1), (3, vi l3)] [] μ (rV t) := by
  unfold jX8_onePart_90 at h
  refine a_aload_n 0 dX8_onePart_90 rfl rfl ?_
  refine a_cVi (c := 8) [] [] dX8_onePart_91 myX8_look mRX8_195 mvX8_look rfl (by decide) hk (fun _ hj => tX8_look E l N l0 μ _ hk hj) (by decide) rfl (Nat.le_of_ble_eq_true rfl) h (fun x1 μ1 hm h => ?_)
  have hk := hm.k hk (by decide)
  refine a_bipush dX8_onePart_94 ⟨rfl, okI_b _ rfl⟩ ?_
  refine a_icmp_ne (tgt := 106) dX8_onePart_96 rfl h (fun h => ?_) (fun h => ?_)
  ·
    refine a_iconst dX8_onePart_106 (okI_b _ rfl) ?_
    exact a_sub [0, 1, 2] rfl (tX8_onePart_107 E l _ k2 p2 N l0 l1 l3 (-1) μ1 t hk h)
  ·
    refine a_aload_n 0 dX8_onePart_99 rfl rfl ?_
    refine a_getfi (c := 8) (i := 2) dX8_onePart_100 fRX8_189 g8_2 rfl hk ?_
    refine a_goto (tgt := 107) dX8_onePart_103 rfl ?_
    exact a_sub [0, 1, 2] rfl (tX8_onePart_107 E l _ k2 p2 N l0 l1 l3 (m_gt μ1 l0 2) μ1 t hk h)
theorem tX8_onePart_69 (E : m_E) (l : Launch) (z : Nat × Nat) (k2 : Int → Int → Mm → Option (Mm)) (p2 : ∀ (l0 l1 : Int) (μ : Mm) (t : Mm), m_kd μ l0 = (8, 0) → k2 l0 l1 μ = some t → aX8_onePart E l 5 z 2 [(0, vr l0), (1, vi l1)] [] μ (rV t)) (N : Nat) (l0 l1 : Int) (μ : Mm) (t : Mm) (hk : m_kd μ l0 = (8, 0)) (h : jX8_onePart_69 k2 N l0 l1 μ = some t) : aX8_onePart E l 5 z 69 [(0, vr l0), (1, vi l1)] [] μ (rV t) := by
  unfold jX8_onePart_69 at h
  refine a_aload_n 0 dX8_onePart_69 rfl rfl ?_
  refine a_aload_n 0 dX8_onePart_70 rfl rfl ?_
  refine a_getfr (c := 8) (i := 29) dX8_onePart_71 fRX8_78 g8_29 rfl hk ?_
  refine a_cVi (c := 8) [vr (m_gt μ l0 29)] [] dX8_onePart_74 myX8_takes mRX8_210 mvX8_takes rfl (by decide) hk (fun _ hj => tX8_takes E l N l0 (m_gt μ l0 29) μ _ hk hj) (by decide) rfl (Nat.le_of_ble_eq_true rfl) h (fun x1 μ1 hm h => ?_)
  have hk := hm.k hk (by decide)
  refine a_istore_n (L' := [(3, vi x1), (0, vr l0), (1, vi l1)]) dX8_onePart_77 rfl (by decide) rfl ?_
  refine a_iload_n 0 dX8_onePart_78 rfl rfl ?_
  refine a_if_ne (tgt := 90) dX8_onePart_79 rfl h (fun h => ?_) (fun h => ?_)
  ·
    exact a_sub [1, 2, 0] rfl (tX8_onePart_90 E l _ k2 p2 N l0 l1 x1 μ1 t hk h)
  ·
    refine a_aload_n 1 dX8_onePart_82 rfl rfl ?_
    refine a_aload_n 1 dX8_onePart_83 rfl rfl ?_
    refine a_getfr (c := 8) (i := 30) dX8_onePart_84 fRX8_81 g8_30 rfl hk ?_
    refine a_cVv (c := 8) [vr (m_gt μ1 l0 30)] [] dX8_onePart_87 myX8_asks mRX8_252 mvX8_asks rfl (by decide) hk (fun _ hj => tX8_asks E l N l0 (m_gt μ1 l0 30) μ1 _ hk hj) (by decide) rfl (Nat.le_of_ble_eq_true rfl) h (fun μ2 hm h => ?_)
    have hk := hm.k hk (by decide)
    exact a_sub [1, 2, 0] rfl (tX8_onePart_90 E l _ k2 p2 N l0 l1 x1 μ2 t hk h)
theorem tX8_onePart_2b (E : m_E) (l : Launch) (z : Nat × Nat) (k2 : Int → Int → Mm → Option (Mm)) (p2 : ∀ (l0 l1 : Int) (μ : Mm) (t : Mm), m_kd μ l0 = (8, 0) → k2 l0 l1 μ = some t → aX8_onePart E l 5 z 2 [(0, vr l0), (1, vi l1)] [] μ (rV t)) (N : Nat) (l0 l1 : Int) (μ : Mm) (t : Mm) (hk : m_kd μ l0 = (8, 0)) (h : jX8_onePart_2b k2 N l0 l1 μ = some t) : aX8_onePart E l 5 z 2 [(0, vr l0), (1, vi l1)] [] μ (rV t) := by
  unfold jX8_onePart_2b at h
  refine a_iload_n 1 dX8_onePart_2 rfl rfl ?_
  refine a_if_eq (tgt := 146) dX8_onePart_3 rfl h (fun h => ?_) (fun h => ?_)
  ·
    exact a_sub [0] rfl (tX8_onePart_146 E l _ N l0 μ t hk h)
  ·
    refine a_aload_n 0 dX8_onePart_6 rfl rfl ?_
    refine a_getfi (c := 8) (i := 5) dX8_onePart_7 fRX8_183 g8_5 rfl hk ?_
    refine a_if_ne (tgt := 146) dX8_onePart_10 rfl h (fun h => ?_) (fun h => ?_)
    ·
      exact a_sub [0] rfl (tX8_onePart_146 E l _ N l0 μ t hk h)
    ·
      refine a_aload_n 0 dX8_onePart_13 rfl rfl ?_
      refine a_cVi (c := 8) [] [] dX8_onePart_14 myX8_look mRX8_195 mvX8_look rfl (by decide) hk (fun _ hj => tX8_look E l N l0 μ _ hk hj) (by decide) rfl (Nat.le_of_ble_eq_true rfl) h (fun x1 μ1 hm h => ?_)
      have hk := hm.k hk (by decide)
      refine a_istore_n (L' := [(2, vi x1), (0, vr l0), (1, vi l1)]) dX8_onePart_17 rfl (by decide) rfl ?_
      refine a_iload_n 0 dX8_onePart_18 rfl rfl ?_
      refine a_bipush dX8_onePart_19 ⟨rfl, okI_b _ rfl⟩ ?_
      refine a_icmp_ne (tgt := 47) dX8_onePart_21 rfl h (fun h => ?_) (fun h => ?_)
      ·
        refine a_aload_n 1 dX8_onePart_47 rfl rfl ?_
        refine a_aload_n 1 dX8_onePart_48 rfl rfl ?_
        refine a_getfr (c := 8) (i := 29) dX8_onePart_49 fRX8_78 g8_29 rfl hk ?_
        refine a_cVi (c := 8) [vr (m_gt μ1 l0 29)] [] dX8_onePart_52 myX8_isHere mRX8_206 mvX8_isHere rfl (by decide) hk (fun _ hj => tX8_isHere E l N l0 (m_gt μ1 l0 29) μ1 _ hk hj) (by decide) rfl (Nat.le_of_ble_eq_true rfl) h (fun x2 μ2 hm h => ?_)
        have hk := hm.k hk (by decide)
        refine a_if_ne (tgt := 69) dX8_onePart_55 rfl h (fun h => ?_) (fun h => ?_)
        ·
          exact a_sub [1, 2] rfl (tX8_onePart_69 E l _ k2 p2 N l0 l1 μ2 t hk h)
        ·
          refine a_aload_n 1 dX8_onePart_58 rfl rfl ?_
          refine a_aload_n 1 dX8_onePart_59 rfl rfl ?_
          refine a_getfr (c := 8) (i := 30) dX8_onePart_60 fRX8_81 g8_30 rfl hk ?_
          refine a_cVi (c := 8) [vr (m_gt μ2 l0 30)] [] dX8_onePart_63 myX8_isHere mRX8_206 mvX8_isHere rfl (by decide) hk (fun _ hj => tX8_isHere E l N l0 (m_gt μ2 l0 30) μ2 _ hk hj) (by decide) rfl (Nat.le_of_ble_eq_true rfl) h (fun x3 μ3 hm h => ?_)
          have hk := hm.k hk (by decide)
          refine a_if_eq (tgt := 141) dX8_onePart_66 rfl h (fun h => ?_) (fun h => ?_)
          ·
            refine a_iconst dX8_onePart_141 (okI_b _ rfl) ?_
            refine a_istore_n (L' := [(1, vi 0), (2, vi x1), (0, vr l0)]) dX8_onePart_142 rfl (by decide) rfl ?_
            exact a_sub [2, 0] rfl (tX8_onePart_143 E l _ k2 p2 N l0 0 μ3 t hk h)
          ·
            exact a_sub [1, 2] rfl (tX8_onePart_69 E l _ k2 p2 N l0 l1 μ3 t hk h)
      ·
        refine a_aload_n 1 dX8_onePart_24 rfl rfl ?_
        refine a_bipush dX8_onePart_25 ⟨rfl, okI_b _ rfl⟩ ?_
        refine a_aload_n 1 dX8_onePart_27 rfl rfl ?_
        refine a_getfi (c := 8) (i := 2) dX8_onePart_28 fRX8_189 g8_2 rfl hk ?_
        refine a_cVv (c := 8) [vi 20, vi (m_gt μ1 l0 2)] [] dX8_onePart_31 myX8_opens mRX8_249 mvX8_opens rfl (by decide) hk (fun _ hj => tX8_opens E l N l0 20 (m_gt μ1 l0 2) μ1 _ hk hj) (by decide) rfl (Nat.le_of_ble_eq_true rfl) h (fun μ4 hm h => ?_)
        have hk := hm.k hk (by decide)
        refine a_aload_n 1 dX8_onePart_34 rfl rfl ?_
        refine a_dup dX8_onePart_35 rfl ?_
        refine a_getfi (c := 8) (i := 2) dX8_onePart_36 fRX8_189 g8_2 rfl hk ?_
        refine a_iconst dX8_onePart_39 (okI_b _ rfl) ?_
        refine a_iadd dX8_onePart_40 ?_
        refine a_putfi (c := 8) (i := 2) dX8_onePart_41 fRX8_189 g8_2 (Or.inl rfl) rfl hk h (fun μ5 hm h => ?_)
        have hk := hm.k hk (by decide)
        refine a_goto (tgt := 143) dX8_onePart_44 rfl ?_
        exact a_sub [1, 2] rfl (tX8_onePart_143 E l _ k2 p2 N l0 l1 μ5 t hk h)
theorem tX8_onePart_2 (E : m_E) (l : Launch) (z : Nat × Nat) (N : Nat) : ∀ (n : Nat) (l0 l1 : Int) (μ : Mm) (t : Mm), m_kd μ l0 = (8, 0) → jX8_onePart_2 N n l0 l1 μ = some t → aX8_onePart E l 5 z 2 [(0, vr l0), (1, vi l1)] [] μ (rV t)
  | 0, _, _, _, _, _, h => by cases h
  | n + 1, l0, l1, μ, t, hk, h => tX8_onePart_2b E l z (jX8_onePart_2 N n) (tX8_onePart_2 E l z N n) N l0 l1 μ t hk h
theorem tX8_onePart (E : m_E) (l : Launch) (N : Nat) (l0 : Int) (μ : Mm) (t : Mm) (hk : m_kd μ l0 = (8, 0)) (h : jX8_onePart N l0 μ = some t) : TT E l 5 yX8_onePart cX8_onePart 5 none [vr l0] μ (rV t) := by
  refine tt_of (L := [(0, vr l0)]) (by decide +kernel) (Nat.le_of_ble_eq_true rfl) rfl ?_
  show aX8_onePart E l 5 (m_sz μ, m_sl μ) 0 [(0, vr l0)] [] μ (rV t)
  unfold jX8_onePart at h
  refine a_iconst dX8_onePart_0 (okI_b _ rfl) ?_
  refine a_istore_n (L' := [(1, vi 1), (0, vr l0)]) dX8_onePart_1 rfl (by decide) rfl ?_
  exact a_sub [1, 0] rfl (tX8_onePart_2 E l _ N N l0 1 μ t hk h)
-- X8_sums
abbrev aX8_sums (E : m_E) (l : Launch) (d : Nat) (z : Nat × Nat) (pc : Nat) (L : List (Nat × AV)) (st : List AV) (μ : Mm) (ρ : Option AV × Mm) : Prop := AA E l d z RX8 "sums" cX8_sums 3 none pc L st μ ρ
theorem tX8_sums_78 (E : m_E) (l : Launch) (z : Nat × Nat) (N : Nat) (l0 l1 : Int) (μ : Mm) (t : Mm) (hk : m_kd μ l0 = (8, 0)) (h : jX8_sums_78 N l0 l1 μ = some t) : aX8_sums E l 6 z 78 [(0, vr l0), (1, vi l1)] [] μ (rV t) := by
  unfold jX8_sums_78 at h
  refine a_aload_n 0 dX8_sums_78 rfl rfl ?_
  refine a_iload_n 1 dX8_sums_79 rfl rfl ?_
  refine a_putfi (c := 8) (i := 49) dX8_sums_80 fRX8_240 g8_49 (Or.inl rfl) rfl hk h (fun μ1 hm h => ?_)
  have hk := hm.k hk (by decide)
  exact a_ret0 dX8_sums_83 h
theorem tX8_sums_53b (E : m_E) (l : Launch) (z : Nat × Nat) (k53 : Int → Int → Mm → Option (Mm)) (p53 : ∀ (l0 l1 : Int) (μ : Mm) (t : Mm), m_kd μ l0 = (8, 0) → k53 l0 l1 μ = some t → aX8_sums E l 6 z 53 [(0, vr l0), (1, vi l1)] [] μ (rV t)) (N : Nat) (l0 l1 : Int) (μ : Mm) (t : Mm) (hk : m_kd μ l0 = (8, 0)) (h : jX8_sums_53b k53 N l0 l1 μ = some t) : aX8_sums E l 6 z 53 [(0, vr l0), (1, vi l1)] [] μ (rV t) := by
  unfold jX8_sums_53b at h
  refine a_aload_n 0 dX8_sums_53 rfl rfl ?_
  refine a_getfi (c := 8) (i := 5) dX8_sums_54 fRX8_183 g8_5 rfl hk ?_
  refine a_if_ne (tgt := 78) dX8_sums_57 rfl h (fun h => ?_) (fun h => ?_)
  ·
    exact a_sub [0, 1] rfl (tX8_sums_78 E l _ N l0 l1 μ t hk h)
  ·
    refine a_aload_n 0 dX8_sums_60 rfl rfl ?_
    refine a_getfi (c := 8) (i := 46) dX8_sums_61 fRX8_233 g8_46 rfl hk ?_
    refine a_aload_n 0 dX8_sums_64 rfl rfl ?_
    refine a_getfi (c := 8) (i := 49) dX8_sums_65 fRX8_240 g8_49 rfl hk ?_
    refine a_icmp_le (tgt := 78) dX8_sums_68 rfl h (fun h => ?_) (fun h => ?_)
    ·
      exact a_sub [0, 1] rfl (tX8_sums_78 E l _ N l0 l1 μ t hk h)
    ·
      refine a_aload_n 0 dX8_sums_71 rfl rfl ?_
      refine a_cVv (c := 8) [] [] dX8_sums_72 myX8_drops mRX8_246 mvX8_drops rfl (by decide) hk (fun _ hj => tX8_drops E l N l0 μ _ hk hj) (by decide) rfl (Nat.le_of_ble_eq_true rfl) h (fun μ1 hm h => ?_)
      have hk := hm.k hk (by decide)
      refine a_goto (tgt := 53) dX8_sums_75 rfl ?_
      exact a_sub [0, 1] rfl (p53 l0 l1 μ1 t hk h)
theorem tX8_sums_53 (E : m_E) (l : Launch) (z : Nat × Nat) (N : Nat) : ∀ (n : Nat) (l0 l1 : Int) (μ : Mm) (t : Mm), m_kd μ l0 = (8, 0) → jX8_sums_53 N n l0 l1 μ = some t → aX8_sums E l 6 z 53 [(0, vr l0), (1, vi l1)] [] μ (rV t)
  | 0, _, _, _, _, _, h => by cases h
  | n + 1, l0, l1, μ, t, hk, h => tX8_sums_53b E l z (jX8_sums_53 N n) (tX8_sums_53 E l z N n) N l0 l1 μ t hk h
theorem tX8_sums_49 (E : m_E) (l : Launch) (z : Nat × Nat) (k15 : Int → Int → Int → Mm → Option (Mm)) (p15 : ∀ (l0 l1 l2 : Int) (μ : Mm) (t : Mm), m_kd μ l0 = (8, 0) → k15 l0 l1 l2 μ = some t → aX8_sums E l 6 z 15 [(0, vr l0), (1, vi l1), (2, vi l2)] [] μ (rV t)) (N : Nat) (l0 l1 s0 : Int) (μ : Mm) (t : Mm) (hk : m_kd μ l0 = (8, 0)) (h : jX8_sums_49 k15 N l0 l1 s0 μ = some t) : aX8_sums E l 6 z 49 [(0, vr l0), (1, vi l1)] [vi s0] μ (rV t) := by
  unfold jX8_sums_49 at h
  refine a_istore_n (L' := [(2, vi s0), (0, vr l0), (1, vi l1)]) dX8_sums_49 rfl (by decide) rfl ?_
  refine a_goto (tgt := 15) dX8_sums_50 rfl ?_
  exact a_sub [1, 2, 0] rfl (p15 l0 l1 s0 μ t hk h)
theorem tX8_sums_48 (E : m_E) (l : Launch) (z : Nat × Nat) (k15 : Int → Int → Int → Mm → Option (Mm)) (p15 : ∀ (l0 l1 l2 : Int) (μ : Mm) (t : Mm), m_kd μ l0 = (8, 0) → k15 l0 l1 l2 μ = some t → aX8_sums E l 6 z 15 [(0, vr l0), (1, vi l1), (2, vi l2)] [] μ (rV t)) (N : Nat) (l0 l1 : Int) (μ : Mm) (t : Mm) (hk : m_kd μ l0 = (8, 0)) (h : jX8_sums_48 k15 N l0 l1 μ = some t) : aX8_sums E l 6 z 48 [(0, vr l0), (1, vi l1)] [] μ (rV t) := by
  unfold jX8_sums_48 at h
  refine a_iconst dX8_sums_48 (okI_b _ rfl) ?_
  exact a_sub [0, 1] rfl (tX8_sums_49 E l _ k15 p15 N l0 l1 0 μ t hk h)
theorem tX8_sums_15b (E : m_E) (l : Launch) (z : Nat × Nat) (k15 : Int → Int → Int → Mm → Option (Mm)) (p15 : ∀ (l0 l1 l2 : Int) (μ : Mm) (t : Mm), m_kd μ l0 = (8, 0) → k15 l0 l1 l2 μ = some t → aX8_sums E l 6 z 15 [(0, vr l0), (1, vi l1), (2, vi l2)] [] μ (rV t)) (N : Nat) (l0 l1 l2 : Int) (μ : Mm) (t : Mm) (hk : m_kd μ l0 = (8, 0)) (h : jX8_sums_15b k15 N l0 l1 l2 μ = some t) : aX8_sums E l 6 z 15 [(0, vr l0), (1, vi l1), (2, vi l2)] [] μ (rV t) := by
  unfold jX8_sums_15b at h
  refine a_iload_n 2 dX8_sums_15 rfl rfl ?_
  refine a_if_eq (tgt := 53) dX8_sums_16 rfl h (fun h => ?_) (fun h => ?_)
  ·
    exact a_sub [0, 1] rfl (tX8_sums_53 E l _ N N l0 l1 μ t hk h)
  ·
    refine a_aload_n 0 dX8_sums_19 rfl rfl ?_
    refine a_getfi (c := 8) (i := 5) dX8_sums_20 fRX8_183 g8_5 rfl hk ?_
    refine a_if_ne (tgt := 53) dX8_sums_23 rfl h (fun h => ?_) (fun h => ?_)
    ·
      exact a_sub [0, 1] rfl (tX8_sums_53 E l _ N N l0 l1 μ t hk h)
    ·
      refine a_aload_n 0 dX8_sums_26 rfl rfl ?_
      refine a_cVv (c := 8) [] [] dX8_sums_27 myX8_onePart mRX8_272 mvX8_onePart rfl (by decide) hk (fun _ hj => tX8_onePart E l N l0 μ _ hk hj) (by decide) rfl (Nat.le_of_ble_eq_true rfl) h (fun μ1 hm h => ?_)
      have hk := hm.k hk (by decide)
      refine a_aload_n 0 dX8_sums_30 rfl rfl ?_
      refine a_getfi (c := 8) (i := 5) dX8_sums_31 fRX8_183 g8_5 rfl hk ?_
      refine a_if_ne (tgt := 48) dX8_sums_34 rfl h (fun h => ?_) (fun h => ?_)
      ·
        exact a_sub [0, 1] rfl (tX8_sums_48 E l _ k15 p15 N l0 l1 μ1 t hk h)
      ·
        refine a_aload_n 0 dX8_sums_37 rfl rfl ?_
        refine a_cVi (c := 8) [] [] dX8_sums_38 myX8_goesOn mRX8_275 mvX8_goesOn rfl (by decide) hk (fun _ hj => tX8_goesOn E l N l0 μ1 _ hk hj) (by decide) rfl (Nat.le_of_ble_eq_true rfl) h (fun x1 μ2 hm h => ?_)
        have hk := hm.k hk (by decide)
        refine a_if_eq (tgt := 48) dX8_sums_41 rfl h (fun h => ?_) (fun h => ?_)
        ·
          exact a_sub [0, 1] rfl (tX8_sums_48 E l _ k15 p15 N l0 l1 μ2 t hk h)
        ·
          refine a_iconst dX8_sums_44 (okI_b _ rfl) ?_
          refine a_goto (tgt := 49) dX8_sums_45 rfl ?_
          exact a_sub [0, 1] rfl (tX8_sums_49 E l _ k15 p15 N l0 l1 1 μ2 t hk h)
theorem tX8_sums_15 (E : m_E) (l : Launch) (z : Nat × Nat) (N : Nat) : ∀ (n : Nat) (l0 l1 l2 : Int) (μ : Mm) (t : Mm), m_kd μ l0 = (8, 0) → jX8_sums_15 N n l0 l1 l2 μ = some t → aX8_sums E l 6 z 15 [(0, vr l0), (1, vi l1), (2, vi l2)] [] μ (rV t)
  | 0, _, _, _, _, _, _, h => by cases h
  | n + 1, l0, l1, l2, μ, t, hk, h => tX8_sums_15b E l z (jX8_sums_15 N n) (tX8_sums_15 E l z N n) N l0 l1 l2 μ t hk h
theorem tX8_sums (E : m_E) (l : Launch) (N : Nat) (l0 : Int) (μ : Mm) (t : Mm) (hk : m_kd μ l0 = (8, 0)) (h : jX8_sums N l0 μ = some t) : TT E l 6 yX8_sums cX8_sums 3 none [vr l0] μ (rV t) := by
  refine tt_of (L := [(0, vr l0)]) (by decide +kernel) (Nat.le_of_ble_eq_true rfl) rfl ?_
  show aX8_sums E l 6 (m_sz μ, m_sl μ) 0 [(0, vr l0)] [] μ (rV t)
  unfold jX8_sums at h
  refine a_aload_n 0 dX8_sums_0 rfl rfl ?_
  refine a_getfi (c := 8) (i := 49) dX8_sums_1 fRX8_240 g8_49 rfl hk ?_
  refine a_nmi h (fun x1 h => ?_)
  refine a_istore_n (L' := [(1, vi x1), (0, vr l0)]) dX8_sums_4 rfl (by decide) rfl ?_
  refine a_aload_n 1 dX8_sums_5 rfl rfl ?_
  refine a_aload_n 1 dX8_sums_6 rfl rfl ?_
  refine a_getfi (c := 8) (i := 46) dX8_sums_7 fRX8_233 g8_46 rfl hk ?_
  refine a_putfi (c := 8) (i := 49) dX8_sums_10 fRX8_240 g8_49 (Or.inl rfl) rfl hk h (fun μ1 hm h => ?_)
  have hk := hm.k hk (by decide)
  refine a_iconst dX8_sums_13 (okI_b _ rfl) ?_
  refine a_istore_n (L' := [(2, vi 1), (1, vi x1), (0, vr l0)]) dX8_sums_14 rfl (by decide) rfl ?_
  exact a_sub [2, 1, 0] rfl (tX8_sums_15 E l _ N N l0 x1 1 μ1 t hk h)
-- X8_readsSum
abbrev aX8_readsSum (E : m_E) (l : Launch) (d : Nat) (z : Nat × Nat) (pc : Nat) (L : List (Nat × AV)) (st : List AV) (μ : Mm) (ρ : Option AV × Mm) : Prop := AA E l d z RX8 "readsSum" cX8_readsSum 1 none pc L st μ ρ
theorem tX8_readsSum_26 (E : m_E) (l : Launch) (z : Nat × Nat) (N : Nat) (l0 : Int) (μ : Mm) (t : Mm) (hk : m_kd μ l0 = (8, 0)) (h : jX8_readsSum_26 N l0 μ = some t) : aX8_readsSum E l 7 z 26 [(0, vr l0)] [] μ (rV t) := by
  unfold jX8_readsSum_26 at h
  exact a_ret0 dX8_readsSum_26 h
theorem tX8_readsSum (E : m_E) (l : Launch) (N : Nat) (l0 : Int) (μ : Mm) (t : Mm) (hk : m_kd μ l0 = (8, 0)) (h : jX8_readsSum N l0 μ = some t) : TT E l 7 yX8_readsSum cX8_readsSum 1 none [vr l0] μ (rV t) := by
  refine tt_of (L := [(0, vr l0)]) (by decide +kernel) (Nat.le_of_ble_eq_true rfl) rfl ?_
  show aX8_readsSum E l 7 (m_sz μ, m_sl μ) 0 [(0, vr l0)] [] μ (rV t)
  unfold jX8_readsSum at h
  refine a_aload_n 0 dX8_readsSum_0 rfl rfl ?_
  refine a_iconst dX8_readsSum_1 (okI_b _ rfl) ?_
  refine a_putfi (c := 8) (i := 46) dX8_readsSum_2 fRX8_233 g8_46 (Or.inl rfl) rfl hk h (fun μ1 hm h => ?_)
  have hk := hm.k hk (by decide)
  refine a_aload_n 0 dX8_readsSum_5 rfl rfl ?_
  refine a_iconst dX8_readsSum_6 (okI_b _ rfl) ?_
  refine a_putfi (c := 8) (i := 47) dX8_readsSum_7 fRX8_230 g8_47 (Or.inl rfl) rfl hk h (fun μ2 hm h => ?_)
  have hk := hm.k hk (by decide)
  refine a_aload_n 0 dX8_readsSum_10 rfl rfl ?_
  refine a_iconst dX8_readsSum_11 (okI_b _ rfl) ?_
  refine a_putfi (c := 8) (i := 49) dX8_readsSum_12 fRX8_240 g8_49 (Or.inl rfl) rfl hk h (fun μ3 hm h => ?_)
  have hk := hm.k hk (by decide)
  refine a_aload_n 0 dX8_readsSum_15 rfl rfl ?_
  refine a_getfi (c := 8) (i := 5) dX8_readsSum_16 fRX8_183 g8_5 rfl hk ?_
  refine a_if_ne (tgt := 26) dX8_readsSum_19 rfl h (fun h => ?_) (fun h => ?_)
  ·
    exact a_sub [0] rfl (tX8_readsSum_26 E l _ N l0 μ3 t hk h)
  ·
    refine a_aload_n 0 dX8_readsSum_22 rfl rfl ?_
    refine a_cVv (c := 8) [] [] dX8_readsSum_23 myX8_sums mRX8_279 mvX8_sums rfl (by decide) hk (fun _ hj => tX8_sums E l N l0 μ3 _ hk hj) (by decide) rfl (Nat.le_of_ble_eq_true rfl) h (fun μ4 hm h => ?_)
    have hk := hm.k hk (by decide)
    exact a_sub [0] rfl (tX8_readsSum_26 E l _ N l0 μ4 t hk h)
-- X8_dropsNots
abbrev aX8_dropsNots (E : m_E) (l : Launch) (d : Nat) (z : Nat × Nat) (pc : Nat) (L : List (Nat × AV)) (st : List AV) (μ : Mm) (ρ : Option AV × Mm) : Prop := AA E l d z RX8 "dropsNots" cX8_dropsNots 1 none pc L st μ ρ
theorem tX8_dropsNots_33 (E : m_E) (l : Launch) (z : Nat × Nat) (N : Nat) (l0 : Int) (μ : Mm) (t : Mm) (hk : m_kd μ l0 = (8, 0)) (h : jX8_dropsNots_33 N l0 μ = some t) : aX8_dropsNots E l 3 z 33 [(0, vr l0)] [] μ (rV t) := by
  unfold jX8_dropsNots_33 at h
  exact a_ret0 dX8_dropsNots_33 h
theorem tX8_dropsNots_0b (E : m_E) (l : Launch) (z : Nat × Nat) (k0 : Int → Mm → Option (Mm)) (p0 : ∀ (l0 : Int) (μ : Mm) (t : Mm), m_kd μ l0 = (8, 0) → k0 l0 μ = some t → aX8_dropsNots E l 3 z 0 [(0, vr l0)] [] μ (rV t)) (N : Nat) (l0 : Int) (μ : Mm) (t : Mm) (hk : m_kd μ l0 = (8, 0)) (h : jX8_dropsNots_0b k0 N l0 μ = some t) : aX8_dropsNots E l 3 z 0 [(0, vr l0)] [] μ (rV t) := by
  unfold jX8_dropsNots_0b at h
  refine a_aload_n 0 dX8_dropsNots_0 rfl rfl ?_
  refine a_getfi (c := 8) (i := 5) dX8_dropsNots_1 fRX8_183 g8_5 rfl hk ?_
  refine a_if_ne (tgt := 33) dX8_dropsNots_4 rfl h (fun h => ?_) (fun h => ?_)
  ·
    exact a_sub [0] rfl (tX8_dropsNots_33 E l _ N l0 μ t hk h)
  ·
    refine a_aload_n 0 dX8_dropsNots_7 rfl rfl ?_
    refine a_bipush dX8_dropsNots_8 ⟨rfl, okI_b _ rfl⟩ ?_
    refine a_cVi (c := 8) [vi 16] [] dX8_dropsNots_10 myX8_isOn mRX8_269 mvX8_isOn rfl (by decide) hk (fun _ hj => tX8_isOn E l N l0 16 μ _ hk hj) (by decide) rfl (Nat.le_of_ble_eq_true rfl) h (fun x1 μ1 hm h => ?_)
    have hk := hm.k hk (by decide)
    refine a_if_eq (tgt := 33) dX8_dropsNots_13 rfl h (fun h => ?_) (fun h => ?_)
    ·
      exact a_sub [0] rfl (tX8_dropsNots_33 E l _ N l0 μ1 t hk h)
    ·
      refine a_aload_n 0 dX8_dropsNots_16 rfl rfl ?_
      refine a_dup dX8_dropsNots_17 rfl ?_
      refine a_getfi (c := 8) (i := 47) dX8_dropsNots_18 fRX8_230 g8_47 rfl hk ?_
      refine a_iconst dX8_dropsNots_21 (okI_b _ rfl) ?_
      refine a_isub dX8_dropsNots_22 ?_
      refine a_putfi (c := 8) (i := 47) dX8_dropsNots_23 fRX8_230 g8_47 (Or.inl rfl) rfl hk h (fun μ2 hm h => ?_)
      have hk := hm.k hk (by decide)
      refine a_aload_n 0 dX8_dropsNots_26 rfl rfl ?_
      refine a_cVv (c := 8) [] [] dX8_dropsNots_27 myX8_drops mRX8_246 mvX8_drops rfl (by decide) hk (fun _ hj => tX8_drops E l N l0 μ2 _ hk hj) (by decide) rfl (Nat.le_of_ble_eq_true rfl) h (fun μ3 hm h => ?_)
      have hk := hm.k hk (by decide)
      refine a_goto (tgt := 0) dX8_dropsNots_30 rfl ?_
      exact a_sub [0] rfl (p0 l0 μ3 t hk h)
theorem tX8_dropsNots_0 (E : m_E) (l : Launch) (z : Nat × Nat) (N : Nat) : ∀ (n : Nat) (l0 : Int) (μ : Mm) (t : Mm), m_kd μ l0 = (8, 0) → jX8_dropsNots_0 N n l0 μ = some t → aX8_dropsNots E l 3 z 0 [(0, vr l0)] [] μ (rV t)
  | 0, _, _, _, _, h => by cases h
  | n + 1, l0, μ, t, hk, h => tX8_dropsNots_0b E l z (jX8_dropsNots_0 N n) (tX8_dropsNots_0 E l z N n) N l0 μ t hk h
theorem tX8_dropsNots (E : m_E) (l : Launch) (N : Nat) (l0 : Int) (μ : Mm) (t : Mm) (hk : m_kd μ l0 = (8, 0)) (h : jX8_dropsNots N l0 μ = some t) : TT E l 3 yX8_dropsNots cX8_dropsNots 1 none [vr l0] μ (rV t) := by
  refine tt_of (L := [(0, vr l0)]) (by decide +kernel) (Nat.le_of_ble_eq_true rfl) rfl ?_
  show aX8_dropsNots E l 3 (m_sz μ, m_sl μ) 0 [(0, vr l0)] [] μ (rV t)
  unfold jX8_dropsNots at h
  exact a_sub [0] rfl (tX8_dropsNots_0 E l _ N N l0 μ t hk h)
-- X8_fact
abbrev aX8_fact (E : m_E) (l : Launch) (d : Nat) (z : Nat × Nat) (pc : Nat) (L : List (Nat × AV)) (st : List AV) (μ : Mm) (ρ : Option AV × Mm) : Prop := AA E l d z RX8 "fact" cX8_fact 2 none pc L st μ ρ
theorem tX8_fact_102 (E : m_E) (l : Launch) (z : Nat × Nat) (N : Nat) (l0 s0 s1 : Int) (μ : Mm) (t : Mm) (hk : m_kd μ l0 = (8, 0)) (h : jX8_fact_102 N l0 s0 s1 μ = some t) : aX8_fact E l 7 z 102 [(0, vr l0)] [vi s0, vr s1] μ (rV t) := by
  unfold jX8_fact_102 at h
  refine m_chk_k h (fun hq0 h => ?_)
  refine a_cVv (c := 8) [vi s0] [] dX8_fact_102 myX8_code mRX8_236 mvX8_code rfl (by decide) hq0 (fun _ hj => tX8_code E l N s1 s0 μ _ hq0 hj) (by decide) rfl (Nat.le_of_ble_eq_true rfl) h (fun μ1 hm h => ?_)
  have hk := hm.k hk (by decide)
  have hq0 := hm.k hq0 (by decide)
  exact a_ret0 dX8_fact_105 h
theorem tX8_fact_63 (E : m_E) (l : Launch) (z : Nat × Nat) (N : Nat) (l0 l1 : Int) (μ : Mm) (t : Mm) (hk : m_kd μ l0 = (8, 0)) (h : jX8_fact_63 N l0 l1 μ = some t) : aX8_fact E l 7 z 63 [(0, vr l0), (1, vi l1)] [] μ (rV t) := by
  unfold jX8_fact_63 at h
  refine a_aload_n 0 dX8_fact_63 rfl rfl ?_
  refine a_dup dX8_fact_64 rfl ?_
  refine a_getfi (c := 8) (i := 2) dX8_fact_65 fRX8_189 g8_2 rfl hk ?_
  refine a_iconst dX8_fact_68 (okI_b _ rfl) ?_
  refine a_iadd dX8_fact_69 ?_
  refine a_putfi (c := 8) (i := 2) dX8_fact_70 fRX8_189 g8_2 (Or.inl rfl) rfl hk h (fun μ1 hm h => ?_)
  have hk := hm.k hk (by decide)
  refine a_aload_n 0 dX8_fact_73 rfl rfl ?_
  refine a_cVv (c := 8) [] [] dX8_fact_74 myX8_sums mRX8_279 mvX8_sums rfl (by decide) hk (fun _ hj => tX8_sums E l N l0 μ1 _ hk hj) (by decide) rfl (Nat.le_of_ble_eq_true rfl) h (fun μ2 hm h => ?_)
  have hk := hm.k hk (by decide)
  refine a_aload_n 0 dX8_fact_77 rfl rfl ?_
  refine a_iload_n 1 dX8_fact_78 rfl rfl ?_
  refine a_bipush dX8_fact_79 ⟨rfl, okI_b _ rfl⟩ ?_
  refine a_icmp_ne (tgt := 89) dX8_fact_81 rfl h (fun h => ?_) (fun h => ?_)
  ·
    refine a_iload_n 1 dX8_fact_89 rfl rfl ?_
    refine a_bipush dX8_fact_90 ⟨rfl, okI_b _ rfl⟩ ?_
    refine a_icmp_ne (tgt := 100) dX8_fact_92 rfl h (fun h => ?_) (fun h => ?_)
    ·
      refine a_bipush dX8_fact_100 ⟨rfl, okI_b _ rfl⟩ ?_
      exact a_sub [0] rfl (tX8_fact_102 E l _ N l0 13 l0 μ2 t hk h)
    ·
      refine a_bipush dX8_fact_95 ⟨rfl, okI_b _ rfl⟩ ?_
      refine a_goto (tgt := 102) dX8_fact_97 rfl ?_
      exact a_sub [0] rfl (tX8_fact_102 E l _ N l0 12 l0 μ2 t hk h)
  ·
    refine a_bipush dX8_fact_84 ⟨rfl, okI_b _ rfl⟩ ?_
    refine a_goto (tgt := 102) dX8_fact_86 rfl ?_
    exact a_sub [0] rfl (tX8_fact_102 E l _ N l0 11 l0 μ2 t hk h)
theorem tX8_fact (E : m_E) (l : Launch) (N : Nat) (l0 : Int) (μ : Mm) (t : Mm) (hk : m_kd μ l0 = (8, 0)) (h : jX8_fact N l0 μ = some t) : TT E l 7 yX8_fact cX8_fact 2 none [vr l0] μ (rV t) := by
  refine tt_of (L := [(0, vr l0)]) (by decide +kernel) (Nat.le_of_ble_eq_true rfl) rfl ?_
  show aX8_fact E l 7 (m_sz μ, m_sl μ) 0 [(0, vr l0)] [] μ (rV t)
  unfold jX8_fact at h
  refine a_aload_n 0 dX8_fact_0 rfl rfl ?_
  refine a_aload_n 0 dX8_fact_1 rfl rfl ?_
  refine a_getfr (c := 8) (i := 22) dX8_fact_2 fRX8_57 g8_22 rfl hk ?_
  refine a_cVi (c := 8) [vr (m_gt μ l0 22)] [] dX8_fact_5 myX8_takes mRX8_210 mvX8_takes rfl (by decide) hk (fun _ hj => tX8_takes E l N l0 (m_gt μ l0 22) μ _ hk hj) (by decide) rfl (Nat.le_of_ble_eq_true rfl) h (fun x1 μ1 hm h => ?_)
  have hk := hm.k hk (by decide)
  refine a_if_eq (tgt := 18) dX8_fact_8 rfl h (fun h => ?_) (fun h => ?_)
  ·
    refine a_aload_n 0 dX8_fact_18 rfl rfl ?_
    refine a_cVv (c := 8) [] [] dX8_fact_19 myX8_sums mRX8_279 mvX8_sums rfl (by decide) hk (fun _ hj => tX8_sums E l N l0 μ1 _ hk hj) (by decide) rfl (Nat.le_of_ble_eq_true rfl) h (fun μ2 hm h => ?_)
    have hk := hm.k hk (by decide)
    refine a_aload_n 0 dX8_fact_22 rfl rfl ?_
    refine a_getfi (c := 8) (i := 5) dX8_fact_23 fRX8_183 g8_5 rfl hk ?_
    refine a_if_eq (tgt := 30) dX8_fact_26 rfl h (fun h => ?_) (fun h => ?_)
    ·
      refine a_aload_n 0 dX8_fact_30 rfl rfl ?_
      refine a_cVi (c := 8) [] [] dX8_fact_31 myX8_look mRX8_195 mvX8_look rfl (by decide) hk (fun _ hj => tX8_look E l N l0 μ2 _ hk hj) (by decide) rfl (Nat.le_of_ble_eq_true rfl) h (fun x2 μ3 hm h => ?_)
      have hk := hm.k hk (by decide)
      refine a_istore_n (L' := [(1, vi x2), (0, vr l0)]) dX8_fact_34 rfl (by decide) rfl ?_
      refine a_iload_n 0 dX8_fact_35 rfl rfl ?_
      refine a_bipush dX8_fact_36 ⟨rfl, okI_b _ rfl⟩ ?_
      refine a_icmp_eq (tgt := 63) dX8_fact_38 rfl h (fun h => ?_) (fun h => ?_)
      ·
        exact a_sub [1, 0] rfl (tX8_fact_63 E l _ N l0 x2 μ3 t hk h)
      ·
        refine a_iload_n 0 dX8_fact_41 rfl rfl ?_
        refine a_bipush dX8_fact_42 ⟨rfl, okI_b _ rfl⟩ ?_
        refine a_icmp_eq (tgt := 63) dX8_fact_44 rfl h (fun h => ?_) (fun h => ?_)
        ·
          exact a_sub [1, 0] rfl (tX8_fact_63 E l _ N l0 x2 μ3 t hk h)
        ·
          refine a_iload_n 0 dX8_fact_47 rfl rfl ?_
          refine a_bipush dX8_fact_48 ⟨rfl, okI_b _ rfl⟩ ?_
          refine a_icmp_eq (tgt := 63) dX8_fact_50 rfl h (fun h => ?_) (fun h => ?_)
          ·
            exact a_sub [1, 0] rfl (tX8_fact_63 E l _ N l0 x2 μ3 t hk h)
          ·
            refine a_aload_n 1 dX8_fact_53 rfl rfl ?_
            refine a_iconst dX8_fact_54 (okI_b _ rfl) ?_
            refine a_aload_n 1 dX8_fact_55 rfl rfl ?_
            refine a_getfi (c := 8) (i := 2) dX8_fact_56 fRX8_189 g8_2 rfl hk ?_
            refine a_cVv (c := 8) [vi 1, vi (m_gt μ3 l0 2)] [] dX8_fact_59 myX8_fail mRX8_213 mvX8_fail rfl (by decide) hk (fun _ hj => tX8_fail E l N l0 1 (m_gt μ3 l0 2) μ3 _ hk hj) (by decide) rfl (Nat.le_of_ble_eq_true rfl) h (fun μ4 hm h => ?_)
            have hk := hm.k hk (by decide)
            exact a_ret0 dX8_fact_62 h
    ·
      exact a_ret0 dX8_fact_29 h
  ·
    refine a_aload_n 0 dX8_fact_11 rfl rfl ?_
    refine a_bipush dX8_fact_12 ⟨rfl, okI_b _ rfl⟩ ?_
    refine a_cVv (c := 8) [vi 17] [] dX8_fact_14 myX8_code mRX8_236 mvX8_code rfl (by decide) hk (fun _ hj => tX8_code E l N l0 17 μ1 _ hk hj) (by decide) rfl (Nat.le_of_ble_eq_true rfl) h (fun μ5 hm h => ?_)
    have hk := hm.k hk (by decide)
    exact a_ret0 dX8_fact_17 h
-- X8_hasSquare
abbrev aX8_hasSquare (E : m_E) (l : Launch) (d : Nat) (z : Nat × Nat) (pc : Nat) (L : List (Nat × AV)) (st : List AV) (μ : Mm) (ρ : Option AV × Mm) : Prop := AA E l d z RX8 "hasSquare" cX8_hasSquare 2 (some .boolean) pc L st μ ρ
theorem tX8_hasSquare_2b (E : m_E) (l : Launch) (z : Nat × Nat) (k2 : Int → Int → Mm → Option (Int × Mm)) (p2 : ∀ (l0 l1 : Int) (μ : Mm) (t : Int × Mm), m_kd μ l0 = (8, 0) → k2 l0 l1 μ = some t → aX8_hasSquare E l 1 z 2 [(0, vr l0), (1, vi l1)] [] μ (rI t)) (N : Nat) (l0 l1 : Int) (μ : Mm) (t : Int × Mm) (hk : m_kd μ l0 = (8, 0)) (h : jX8_hasSquare_2b k2 N l0 l1 μ = some t) : aX8_hasSquare E l 1 z 2 [(0, vr l0), (1, vi l1)] [] μ (rI t) := by
  unfold jX8_hasSquare_2b at h
  refine a_iload_n 1 dX8_hasSquare_2 rfl rfl ?_
  refine a_aload_n 0 dX8_hasSquare_3 rfl rfl ?_
  refine a_getfi (c := 8) (i := 46) dX8_hasSquare_4 fRX8_233 g8_46 rfl hk ?_
  refine a_icmp_ge (tgt := 29) dX8_hasSquare_7 rfl h (fun h => ?_) (fun h => ?_)
  ·
    refine a_iconst dX8_hasSquare_29 (okI_b _ rfl) ?_
    exact a_retzl (Or.inl rfl) dX8_hasSquare_30 h
  ·
    refine a_aload_n 0 dX8_hasSquare_10 rfl rfl ?_
    refine a_getfr (c := 8) (i := 45) dX8_hasSquare_11 fRX8_124 g8_45 rfl hk ?_
    refine a_iload_n 1 dX8_hasSquare_14 rfl rfl ?_
    refine a_iald dX8_hasSquare_15 h (fun x1 h => ?_)
    refine a_bipush dX8_hasSquare_16 ⟨rfl, okI_b _ rfl⟩ ?_
    refine a_icmp_ne (tgt := 23) dX8_hasSquare_18 rfl h (fun h => ?_) (fun h => ?_)
    ·
      refine a_iinc (F := fun x2 => [(1, vi x2), (0, vr l0)]) 1 dX8_hasSquare_23 rfl (by decide) h (fun _ => rfl) (fun x2 h => ?_)
      refine a_goto (tgt := 2) dX8_hasSquare_26 rfl ?_
      exact a_sub [1, 0] rfl (p2 l0 x2 μ t hk h)
    ·
      refine a_iconst dX8_hasSquare_21 (okI_b _ rfl) ?_
      exact a_retzl (Or.inr rfl) dX8_hasSquare_22 h
theorem tX8_hasSquare_2 (E : m_E) (l : Launch) (z : Nat × Nat) (N : Nat) : ∀ (n : Nat) (l0 l1 : Int) (μ : Mm) (t : Int × Mm), m_kd μ l0 = (8, 0) → jX8_hasSquare_2 N n l0 l1 μ = some t → aX8_hasSquare E l 1 z 2 [(0, vr l0), (1, vi l1)] [] μ (rI t)
  | 0, _, _, _, _, _, h => by cases h
  | n + 1, l0, l1, μ, t, hk, h => tX8_hasSquare_2b E l z (jX8_hasSquare_2 N n) (tX8_hasSquare_2 E l z N n) N l0 l1 μ t hk h
theorem tX8_hasSquare (E : m_E) (l : Launch) (N : Nat) (l0 : Int) (μ : Mm) (t : Int × Mm) (hk : m_kd μ l0 = (8, 0)) (h : jX8_hasSquare N l0 μ = some t) : TT E l 1 yX8_hasSquare cX8_hasSquare 2 (some .boolean) [vr l0] μ (rI t) := by
  refine tt_of (L := [(0, vr l0)]) (by decide +kernel) (Nat.le_of_ble_eq_true rfl) rfl ?_
  show aX8_hasSquare E l 1 (m_sz μ, m_sl μ) 0 [(0, vr l0)] [] μ (rI t)
  unfold jX8_hasSquare at h
  refine a_iconst dX8_hasSquare_0 (okI_b _ rfl) ?_
  refine a_istore_n (L' := [(1, vi 0), (0, vr l0)]) dX8_hasSquare_1 rfl (by decide) rfl ?_
  exact a_sub [1, 0] rfl (tX8_hasSquare_2 E l _ N N l0 0 μ t hk h)
-- X8_goesOnTest
abbrev aX8_goesOnTest (E : m_E) (l : Launch) (d : Nat) (z : Nat × Nat) (pc : Nat) (L : List (Nat × AV)) (st : List AV) (μ : Mm) (ρ : Option AV × Mm) : Prop := AA E l d z RX8 "goesOnTest" cX8_goesOnTest 1 (some .boolean) pc L st μ ρ
theorem tX8_goesOnTest_208 (E : m_E) (l : Launch) (z : Nat × Nat) (N : Nat) (l0 : Int) (μ : Mm) (t : Int × Mm) (hk : m_kd μ l0 = (8, 0)) (h : jX8_goesOnTest_208 N l0 μ = some t) : aX8_goesOnTest E l 4 z 208 [(0, vr l0)] [] μ (rI t) := by
  unfold jX8_goesOnTest_208 at h
  refine a_iconst dX8_goesOnTest_208 (okI_b _ rfl) ?_
  exact a_retzl (Or.inl rfl) dX8_goesOnTest_209 h
theorem tX8_goesOnTest_155 (E : m_E) (l : Launch) (z : Nat × Nat) (k137 : Int → Mm → Option (Int × Mm)) (p137 : ∀ (l0 : Int) (μ : Mm) (t : Int × Mm), m_kd μ l0 = (8, 0) → k137 l0 μ = some t → aX8_goesOnTest E l 4 z 137 [(0, vr l0)] [] μ (rI t)) (N : Nat) (l0 : Int) (μ : Mm) (t : Int × Mm) (hk : m_kd μ l0 = (8, 0)) (h : jX8_goesOnTest_155 k137 N l0 μ = some t) : aX8_goesOnTest E l 4 z 155 [(0, vr l0)] [] μ (rI t) := by
  unfold jX8_goesOnTest_155 at h
  refine a_aload_n 0 dX8_goesOnTest_155 rfl rfl ?_
  refine a_cVv (c := 8) [] [] dX8_goesOnTest_156 myX8_drops mRX8_246 mvX8_drops rfl (by decide) hk (fun _ hj => tX8_drops E l N l0 μ _ hk hj) (by decide) rfl (Nat.le_of_ble_eq_true rfl) h (fun μ1 hm h => ?_)
  have hk := hm.k hk (by decide)
  refine a_goto (tgt := 137) dX8_goesOnTest_159 rfl ?_
  exact a_sub [0] rfl (p137 l0 μ1 t hk h)
theorem tX8_goesOnTest_137b (E : m_E) (l : Launch) (z : Nat × Nat) (k137 : Int → Mm → Option (Int × Mm)) (p137 : ∀ (l0 : Int) (μ : Mm) (t : Int × Mm), m_kd μ l0 = (8, 0) → k137 l0 μ = some t → aX8_goesOnTest E l 4 z 137 [(0, vr l0)] [] μ (rI t)) (N : Nat) (l0 : Int) (μ : Mm) (t : Int × Mm) (hk : m_kd μ l0 = (8, 0)) (h : jX8_goesOnTest_137b k137 N l0 μ = some t) : aX8_goesOnTest E l 4 z 137 [(0, vr l0)] [] μ (rI t) := by
  unfold jX8_goesOnTest_137b at h
  refine a_aload_n 0 dX8_goesOnTest_137 rfl rfl ?_
  refine a_bipush dX8_goesOnTest_138 ⟨rfl, okI_b _ rfl⟩ ?_
  refine a_cVi (c := 8) [vi 14] [] dX8_goesOnTest_140 myX8_isOn mRX8_269 mvX8_isOn rfl (by decide) hk (fun _ hj => tX8_isOn E l N l0 14 μ _ hk hj) (by decide) rfl (Nat.le_of_ble_eq_true rfl) h (fun x1 μ1 hm h => ?_)
  have hk := hm.k hk (by decide)
  refine a_if_ne (tgt := 155) dX8_goesOnTest_143 rfl h (fun h => ?_) (fun h => ?_)
  ·
    exact a_sub [0] rfl (tX8_goesOnTest_155 E l _ k137 p137 N l0 μ1 t hk h)
  ·
    refine a_aload_n 0 dX8_goesOnTest_146 rfl rfl ?_
    refine a_bipush dX8_goesOnTest_147 ⟨rfl, okI_b _ rfl⟩ ?_
    refine a_cVi (c := 8) [vi 15] [] dX8_goesOnTest_149 myX8_isOn mRX8_269 mvX8_isOn rfl (by decide) hk (fun _ hj => tX8_isOn E l N l0 15 μ1 _ hk hj) (by decide) rfl (Nat.le_of_ble_eq_true rfl) h (fun x2 μ2 hm h => ?_)
    have hk := hm.k hk (by decide)
    refine a_if_eq (tgt := 162) dX8_goesOnTest_152 rfl h (fun h => ?_) (fun h => ?_)
    ·
      refine a_aload_n 0 dX8_goesOnTest_162 rfl rfl ?_
      refine a_getfr (c := 8) (i := 45) dX8_goesOnTest_163 fRX8_124 g8_45 rfl hk ?_
      refine a_aload_n 0 dX8_goesOnTest_166 rfl rfl ?_
      refine a_getfi (c := 8) (i := 46) dX8_goesOnTest_167 fRX8_233 g8_46 rfl hk ?_
      refine a_bipush dX8_goesOnTest_170 ⟨rfl, okI_b _ rfl⟩ ?_
      refine a_iast dX8_goesOnTest_172 h (fun μ3 hm h => ?_)
      have hk := hm.k hk (by decide)
      refine a_aload_n 0 dX8_goesOnTest_173 rfl rfl ?_
      refine a_dup dX8_goesOnTest_174 rfl ?_
      refine a_getfi (c := 8) (i := 46) dX8_goesOnTest_175 fRX8_233 g8_46 rfl hk ?_
      refine a_iconst dX8_goesOnTest_178 (okI_b _ rfl) ?_
      refine a_iadd dX8_goesOnTest_179 ?_
      refine a_putfi (c := 8) (i := 46) dX8_goesOnTest_180 fRX8_233 g8_46 (Or.inl rfl) rfl hk h (fun μ4 hm h => ?_)
      have hk := hm.k hk (by decide)
      refine a_iconst dX8_goesOnTest_183 (okI_b _ rfl) ?_
      exact a_retzl (Or.inr rfl) dX8_goesOnTest_184 h
    ·
      exact a_sub [0] rfl (tX8_goesOnTest_155 E l _ k137 p137 N l0 μ2 t hk h)
theorem tX8_goesOnTest_137 (E : m_E) (l : Launch) (z : Nat × Nat) (N : Nat) : ∀ (n : Nat) (l0 : Int) (μ : Mm) (t : Int × Mm), m_kd μ l0 = (8, 0) → jX8_goesOnTest_137 N n l0 μ = some t → aX8_goesOnTest E l 4 z 137 [(0, vr l0)] [] μ (rI t)
  | 0, _, _, _, _, h => by cases h
  | n + 1, l0, μ, t, hk, h => tX8_goesOnTest_137b E l z (jX8_goesOnTest_137 N n) (tX8_goesOnTest_137 E l z N n) N l0 μ t hk h
theorem tX8_goesOnTest_87b (E : m_E) (l : Launch) (z : Nat × Nat) (k87 : Int → Mm → Option (Int × Mm)) (p87 : ∀ (l0 : Int) (μ : Mm) (t : Int × Mm), m_kd μ l0 = (8, 0) → k87 l0 μ = some t → aX8_goesOnTest E l 4 z 87 [(0, vr l0)] [] μ (rI t)) (N : Nat) (l0 : Int) (μ : Mm) (t : Int × Mm) (hk : m_kd μ l0 = (8, 0)) (h : jX8_goesOnTest_87b k87 N l0 μ = some t) : aX8_goesOnTest E l 4 z 87 [(0, vr l0)] [] μ (rI t) := by
  unfold jX8_goesOnTest_87b at h
  refine a_aload_n 0 dX8_goesOnTest_87 rfl rfl ?_
  refine a_bipush dX8_goesOnTest_88 ⟨rfl, okI_b _ rfl⟩ ?_
  refine a_cVi (c := 8) [vi 14] [] dX8_goesOnTest_90 myX8_isOn mRX8_269 mvX8_isOn rfl (by decide) hk (fun _ hj => tX8_isOn E l N l0 14 μ _ hk hj) (by decide) rfl (Nat.le_of_ble_eq_true rfl) h (fun x1 μ1 hm h => ?_)
  have hk := hm.k hk (by decide)
  refine a_if_eq (tgt := 103) dX8_goesOnTest_93 rfl h (fun h => ?_) (fun h => ?_)
  ·
    refine a_aload_n 0 dX8_goesOnTest_103 rfl rfl ?_
    refine a_getfr (c := 8) (i := 45) dX8_goesOnTest_104 fRX8_124 g8_45 rfl hk ?_
    refine a_aload_n 0 dX8_goesOnTest_107 rfl rfl ?_
    refine a_getfi (c := 8) (i := 46) dX8_goesOnTest_108 fRX8_233 g8_46 rfl hk ?_
    refine a_bipush dX8_goesOnTest_111 ⟨rfl, okI_b _ rfl⟩ ?_
    refine a_iast dX8_goesOnTest_113 h (fun μ2 hm h => ?_)
    have hk := hm.k hk (by decide)
    refine a_aload_n 0 dX8_goesOnTest_114 rfl rfl ?_
    refine a_dup dX8_goesOnTest_115 rfl ?_
    refine a_getfi (c := 8) (i := 46) dX8_goesOnTest_116 fRX8_233 g8_46 rfl hk ?_
    refine a_iconst dX8_goesOnTest_119 (okI_b _ rfl) ?_
    refine a_iadd dX8_goesOnTest_120 ?_
    refine a_putfi (c := 8) (i := 46) dX8_goesOnTest_121 fRX8_233 g8_46 (Or.inl rfl) rfl hk h (fun μ3 hm h => ?_)
    have hk := hm.k hk (by decide)
    refine a_iconst dX8_goesOnTest_124 (okI_b _ rfl) ?_
    exact a_retzl (Or.inr rfl) dX8_goesOnTest_125 h
  ·
    refine a_aload_n 0 dX8_goesOnTest_96 rfl rfl ?_
    refine a_cVv (c := 8) [] [] dX8_goesOnTest_97 myX8_drops mRX8_246 mvX8_drops rfl (by decide) hk (fun _ hj => tX8_drops E l N l0 μ1 _ hk hj) (by decide) rfl (Nat.le_of_ble_eq_true rfl) h (fun μ4 hm h => ?_)
    have hk := hm.k hk (by decide)
    refine a_goto (tgt := 87) dX8_goesOnTest_100 rfl ?_
    exact a_sub [0] rfl (p87 l0 μ4 t hk h)
theorem tX8_goesOnTest_87 (E : m_E) (l : Launch) (z : Nat × Nat) (N : Nat) : ∀ (n : Nat) (l0 : Int) (μ : Mm) (t : Int × Mm), m_kd μ l0 = (8, 0) → jX8_goesOnTest_87 N n l0 μ = some t → aX8_goesOnTest E l 4 z 87 [(0, vr l0)] [] μ (rI t)
  | 0, _, _, _, _, h => by cases h
  | n + 1, l0, μ, t, hk, h => tX8_goesOnTest_87b E l z (jX8_goesOnTest_87 N n) (tX8_goesOnTest_87 E l z N n) N l0 μ t hk h
theorem tX8_goesOnTest_76 (E : m_E) (l : Launch) (z : Nat × Nat) (N : Nat) (l0 : Int) (μ : Mm) (t : Int × Mm) (hk : m_kd μ l0 = (8, 0)) (h : jX8_goesOnTest_76 N l0 μ = some t) : aX8_goesOnTest E l 4 z 76 [(0, vr l0)] [] μ (rI t) := by
  unfold jX8_goesOnTest_76 at h
  refine a_aload_n 0 dX8_goesOnTest_76 rfl rfl ?_
  refine a_aload_n 0 dX8_goesOnTest_77 rfl rfl ?_
  refine a_getfr (c := 8) (i := 20) dX8_goesOnTest_78 fRX8_51 g8_20 rfl hk ?_
  refine a_cVi (c := 8) [vr (m_gt μ l0 20)] [] dX8_goesOnTest_81 myX8_takes mRX8_210 mvX8_takes rfl (by decide) hk (fun _ hj => tX8_takes E l N l0 (m_gt μ l0 20) μ _ hk hj) (by decide) rfl (Nat.le_of_ble_eq_true rfl) h (fun x1 μ1 hm h => ?_)
  have hk := hm.k hk (by decide)
  refine a_if_eq (tgt := 126) dX8_goesOnTest_84 rfl h (fun h => ?_) (fun h => ?_)
  ·
    refine a_aload_n 0 dX8_goesOnTest_126 rfl rfl ?_
    refine a_aload_n 0 dX8_goesOnTest_127 rfl rfl ?_
    refine a_getfr (c := 8) (i := 19) dX8_goesOnTest_128 fRX8_48 g8_19 rfl hk ?_
    refine a_cVi (c := 8) [vr (m_gt μ1 l0 19)] [] dX8_goesOnTest_131 myX8_takes mRX8_210 mvX8_takes rfl (by decide) hk (fun _ hj => tX8_takes E l N l0 (m_gt μ1 l0 19) μ1 _ hk hj) (by decide) rfl (Nat.le_of_ble_eq_true rfl) h (fun x2 μ2 hm h => ?_)
    have hk := hm.k hk (by decide)
    refine a_if_eq (tgt := 185) dX8_goesOnTest_134 rfl h (fun h => ?_) (fun h => ?_)
    ·
      refine a_aload_n 0 dX8_goesOnTest_185 rfl rfl ?_
      refine a_getfi (c := 8) (i := 5) dX8_goesOnTest_186 fRX8_183 g8_5 rfl hk ?_
      refine a_if_ne (tgt := 208) dX8_goesOnTest_189 rfl h (fun h => ?_) (fun h => ?_)
      ·
        exact a_sub [0] rfl (tX8_goesOnTest_208 E l _ N l0 μ2 t hk h)
      ·
        refine a_aload_n 0 dX8_goesOnTest_192 rfl rfl ?_
        refine a_cVi (c := 8) [] [] dX8_goesOnTest_193 myX8_hasSquare mRX8_291 mvX8_hasSquare rfl (by decide) hk (fun _ hj => tX8_hasSquare E l N l0 μ2 _ hk hj) (by decide) rfl (Nat.le_of_ble_eq_true rfl) h (fun x3 μ3 hm h => ?_)
        have hk := hm.k hk (by decide)
        refine a_if_eq (tgt := 208) dX8_goesOnTest_196 rfl h (fun h => ?_) (fun h => ?_)
        ·
          exact a_sub [0] rfl (tX8_goesOnTest_208 E l _ N l0 μ3 t hk h)
        ·
          refine a_aload_n 0 dX8_goesOnTest_199 rfl rfl ?_
          refine a_iconst dX8_goesOnTest_200 (okI_b _ rfl) ?_
          refine a_aload_n 0 dX8_goesOnTest_201 rfl rfl ?_
          refine a_getfi (c := 8) (i := 2) dX8_goesOnTest_202 fRX8_189 g8_2 rfl hk ?_
          refine a_cVv (c := 8) [vi 1, vi (m_gt μ3 l0 2)] [] dX8_goesOnTest_205 myX8_fail mRX8_213 mvX8_fail rfl (by decide) hk (fun _ hj => tX8_fail E l N l0 1 (m_gt μ3 l0 2) μ3 _ hk hj) (by decide) rfl (Nat.le_of_ble_eq_true rfl) h (fun μ4 hm h => ?_)
          have hk := hm.k hk (by decide)
          exact a_sub [0] rfl (tX8_goesOnTest_208 E l _ N l0 μ4 t hk h)
    ·
      exact a_sub [0] rfl (tX8_goesOnTest_137 E l _ N N l0 μ2 t hk h)
  ·
    exact a_sub [0] rfl (tX8_goesOnTest_87 E l _ N N l0 μ1 t hk h)
theorem tX8_goesOnTest_33b (E : m_E) (l : Launch) (z : Nat × Nat) (k0 : Int → Mm → Option (Int × Mm)) (p0 : ∀ (l0 : Int) (μ : Mm) (t : Int × Mm), m_kd μ l0 = (8, 0) → k0 l0 μ = some t → aX8_goesOnTest E l 4 z 0 [(0, vr l0)] [] μ (rI t)) (k33 : Int → Mm → Option (Int × Mm)) (p33 : ∀ (l0 : Int) (μ : Mm) (t : Int × Mm), m_kd μ l0 = (8, 0) → k33 l0 μ = some t → aX8_goesOnTest E l 4 z 33 [(0, vr l0)] [] μ (rI t)) (N : Nat) (l0 : Int) (μ : Mm) (t : Int × Mm) (hk : m_kd μ l0 = (8, 0)) (h : jX8_goesOnTest_33b k0 k33 N l0 μ = some t) : aX8_goesOnTest E l 4 z 33 [(0, vr l0)] [] μ (rI t) := by
  unfold jX8_goesOnTest_33b at h
  refine a_aload_n 0 dX8_goesOnTest_33 rfl rfl ?_
  refine a_bipush dX8_goesOnTest_34 ⟨rfl, okI_b _ rfl⟩ ?_
  refine a_cVi (c := 8) [vi 25] [] dX8_goesOnTest_36 myX8_isOn mRX8_269 mvX8_isOn rfl (by decide) hk (fun _ hj => tX8_isOn E l N l0 25 μ _ hk hj) (by decide) rfl (Nat.le_of_ble_eq_true rfl) h (fun x1 μ1 hm h => ?_)
  have hk := hm.k hk (by decide)
  refine a_if_ne (tgt := 49) dX8_goesOnTest_39 rfl h (fun h => ?_) (fun h => ?_)
  ·
    refine a_aload_n 0 dX8_goesOnTest_49 rfl rfl ?_
    refine a_dup dX8_goesOnTest_50 rfl ?_
    refine a_getfi (c := 8) (i := 46) dX8_goesOnTest_51 fRX8_233 g8_46 rfl hk ?_
    refine a_iconst dX8_goesOnTest_54 (okI_b _ rfl) ?_
    refine a_isub dX8_goesOnTest_55 ?_
    refine a_putfi (c := 8) (i := 46) dX8_goesOnTest_56 fRX8_233 g8_46 (Or.inl rfl) rfl hk h (fun μ2 hm h => ?_)
    have hk := hm.k hk (by decide)
    refine a_aload_n 0 dX8_goesOnTest_59 rfl rfl ?_
    refine a_dup dX8_goesOnTest_60 rfl ?_
    refine a_getfi (c := 8) (i := 47) dX8_goesOnTest_61 fRX8_230 g8_47 rfl hk ?_
    refine a_iconst dX8_goesOnTest_64 (okI_b _ rfl) ?_
    refine a_isub dX8_goesOnTest_65 ?_
    refine a_putfi (c := 8) (i := 47) dX8_goesOnTest_66 fRX8_230 g8_47 (Or.inl rfl) rfl hk h (fun μ3 hm h => ?_)
    have hk := hm.k hk (by decide)
    refine a_aload_n 0 dX8_goesOnTest_69 rfl rfl ?_
    refine a_cVv (c := 8) [] [] dX8_goesOnTest_70 myX8_dropsNots mRX8_285 mvX8_dropsNots rfl (by decide) hk (fun _ hj => tX8_dropsNots E l N l0 μ3 _ hk hj) (by decide) rfl (Nat.le_of_ble_eq_true rfl) h (fun μ4 hm h => ?_)
    have hk := hm.k hk (by decide)
    refine a_goto (tgt := 0) dX8_goesOnTest_73 rfl ?_
    exact a_sub [0] rfl (p0 l0 μ4 t hk h)
  ·
    refine a_aload_n 0 dX8_goesOnTest_42 rfl rfl ?_
    refine a_cVv (c := 8) [] [] dX8_goesOnTest_43 myX8_drops mRX8_246 mvX8_drops rfl (by decide) hk (fun _ hj => tX8_drops E l N l0 μ1 _ hk hj) (by decide) rfl (Nat.le_of_ble_eq_true rfl) h (fun μ5 hm h => ?_)
    have hk := hm.k hk (by decide)
    refine a_goto (tgt := 33) dX8_goesOnTest_46 rfl ?_
    exact a_sub [0] rfl (p33 l0 μ5 t hk h)
theorem tX8_goesOnTest_33 (E : m_E) (l : Launch) (z : Nat × Nat) (k0 : Int → Mm → Option (Int × Mm)) (p0 : ∀ (l0 : Int) (μ : Mm) (t : Int × Mm), m_kd μ l0 = (8, 0) → k0 l0 μ = some t → aX8_goesOnTest E l 4 z 0 [(0, vr l0)] [] μ (rI t)) (N : Nat) : ∀ (n : Nat) (l0 : Int) (μ : Mm) (t : Int × Mm), m_kd μ l0 = (8, 0) → jX8_goesOnTest_33 k0 N n l0 μ = some t → aX8_goesOnTest E l 4 z 33 [(0, vr l0)] [] μ (rI t)
  | 0, _, _, _, _, h => by cases h
  | n + 1, l0, μ, t, hk, h => tX8_goesOnTest_33b E l z k0 p0 (jX8_goesOnTest_33 k0 N n) (tX8_goesOnTest_33 E l z k0 p0 N n) N l0 μ t hk h
theorem tX8_goesOnTest_0b (E : m_E) (l : Launch) (z : Nat × Nat) (k0 : Int → Mm → Option (Int × Mm)) (p0 : ∀ (l0 : Int) (μ : Mm) (t : Int × Mm), m_kd μ l0 = (8, 0) → k0 l0 μ = some t → aX8_goesOnTest E l 4 z 0 [(0, vr l0)] [] μ (rI t)) (N : Nat) (l0 : Int) (μ : Mm) (t : Int × Mm) (hk : m_kd μ l0 = (8, 0)) (h : jX8_goesOnTest_0b k0 N l0 μ = some t) : aX8_goesOnTest E l 4 z 0 [(0, vr l0)] [] μ (rI t) := by
  unfold jX8_goesOnTest_0b at h
  refine a_aload_n 0 dX8_goesOnTest_0 rfl rfl ?_
  refine a_getfi (c := 8) (i := 5) dX8_goesOnTest_1 fRX8_183 g8_5 rfl hk ?_
  refine a_if_ne (tgt := 76) dX8_goesOnTest_4 rfl h (fun h => ?_) (fun h => ?_)
  ·
    exact a_sub [0] rfl (tX8_goesOnTest_76 E l _ N l0 μ t hk h)
  ·
    refine a_aload_n 0 dX8_goesOnTest_7 rfl rfl ?_
    refine a_cVi (c := 8) [] [] dX8_goesOnTest_8 myX8_look mRX8_195 mvX8_look rfl (by decide) hk (fun _ hj => tX8_look E l N l0 μ _ hk hj) (by decide) rfl (Nat.le_of_ble_eq_true rfl) h (fun x1 μ1 hm h => ?_)
    have hk := hm.k hk (by decide)
    refine a_bipush dX8_goesOnTest_11 ⟨rfl, okI_b _ rfl⟩ ?_
    refine a_icmp_ne (tgt := 76) dX8_goesOnTest_13 rfl h (fun h => ?_) (fun h => ?_)
    ·
      exact a_sub [0] rfl (tX8_goesOnTest_76 E l _ N l0 μ1 t hk h)
    ·
      refine a_aload_n 0 dX8_goesOnTest_16 rfl rfl ?_
      refine a_cVi (c := 8) [] [] dX8_goesOnTest_17 myX8_hasSquare mRX8_291 mvX8_hasSquare rfl (by decide) hk (fun _ hj => tX8_hasSquare E l N l0 μ1 _ hk hj) (by decide) rfl (Nat.le_of_ble_eq_true rfl) h (fun x2 μ2 hm h => ?_)
      have hk := hm.k hk (by decide)
      refine a_if_eq (tgt := 76) dX8_goesOnTest_20 rfl h (fun h => ?_) (fun h => ?_)
      ·
        exact a_sub [0] rfl (tX8_goesOnTest_76 E l _ N l0 μ2 t hk h)
      ·
        refine a_aload_n 0 dX8_goesOnTest_23 rfl rfl ?_
        refine a_dup dX8_goesOnTest_24 rfl ?_
        refine a_getfi (c := 8) (i := 2) dX8_goesOnTest_25 fRX8_189 g8_2 rfl hk ?_
        refine a_iconst dX8_goesOnTest_28 (okI_b _ rfl) ?_
        refine a_iadd dX8_goesOnTest_29 ?_
        refine a_putfi (c := 8) (i := 2) dX8_goesOnTest_30 fRX8_189 g8_2 (Or.inl rfl) rfl hk h (fun μ3 hm h => ?_)
        have hk := hm.k hk (by decide)
        exact a_sub [0] rfl (tX8_goesOnTest_33 E l _ k0 p0 N N l0 μ3 t hk h)
theorem tX8_goesOnTest_0 (E : m_E) (l : Launch) (z : Nat × Nat) (N : Nat) : ∀ (n : Nat) (l0 : Int) (μ : Mm) (t : Int × Mm), m_kd μ l0 = (8, 0) → jX8_goesOnTest_0 N n l0 μ = some t → aX8_goesOnTest E l 4 z 0 [(0, vr l0)] [] μ (rI t)
  | 0, _, _, _, _, h => by cases h
  | n + 1, l0, μ, t, hk, h => tX8_goesOnTest_0b E l z (jX8_goesOnTest_0 N n) (tX8_goesOnTest_0 E l z N n) N l0 μ t hk h
theorem tX8_goesOnTest (E : m_E) (l : Launch) (N : Nat) (l0 : Int) (μ : Mm) (t : Int × Mm) (hk : m_kd μ l0 = (8, 0)) (h : jX8_goesOnTest N l0 μ = some t) : TT E l 4 yX8_goesOnTest cX8_goesOnTest 1 (some .boolean) [vr l0] μ (rI t) := by
  refine tt_of (L := [(0, vr l0)]) (by decide +kernel) (Nat.le_of_ble_eq_true rfl) rfl ?_
  show aX8_goesOnTest E l 4 (m_sz μ, m_sl μ) 0 [(0, vr l0)] [] μ (rI t)
  unfold jX8_goesOnTest at h
  exact a_sub [0] rfl (tX8_goesOnTest_0 E l _ N N l0 μ t hk h)
-- X8_test
abbrev aX8_test (E : m_E) (l : Launch) (d : Nat) (z : Nat × Nat) (pc : Nat) (L : List (Nat × AV)) (st : List AV) (μ : Mm) (ρ : Option AV × Mm) : Prop := AA E l d z RX8 "test" cX8_test 3 none pc L st μ ρ
theorem tX8_test_131 (E : m_E) (l : Launch) (z : Nat × Nat) (N : Nat) (l0 : Int) (μ : Mm) (t : Mm) (hk : m_kd μ l0 = (8, 0)) (h : jX8_test_131 N l0 μ = some t) : aX8_test E l 8 z 131 [(0, vr l0)] [] μ (rV t) := by
  unfold jX8_test_131 at h
  exact a_ret0 dX8_test_131 h
theorem tX8_test_110b (E : m_E) (l : Launch) (z : Nat × Nat) (k110 : Int → Mm → Option (Mm)) (p110 : ∀ (l0 : Int) (μ : Mm) (t : Mm), m_kd μ l0 = (8, 0) → k110 l0 μ = some t → aX8_test E l 8 z 110 [(0, vr l0)] [] μ (rV t)) (N : Nat) (l0 : Int) (μ : Mm) (t : Mm) (hk : m_kd μ l0 = (8, 0)) (h : jX8_test_110b k110 N l0 μ = some t) : aX8_test E l 8 z 110 [(0, vr l0)] [] μ (rV t) := by
  unfold jX8_test_110b at h
  refine a_aload_n 0 dX8_test_110 rfl rfl ?_
  refine a_getfi (c := 8) (i := 5) dX8_test_111 fRX8_183 g8_5 rfl hk ?_
  refine a_if_ne (tgt := 131) dX8_test_114 rfl h (fun h => ?_) (fun h => ?_)
  ·
    exact a_sub [0] rfl (tX8_test_131 E l _ N l0 μ t hk h)
  ·
    refine a_aload_n 0 dX8_test_117 rfl rfl ?_
    refine a_getfi (c := 8) (i := 46) dX8_test_118 fRX8_233 g8_46 rfl hk ?_
    refine a_if_le (tgt := 131) dX8_test_121 rfl h (fun h => ?_) (fun h => ?_)
    ·
      exact a_sub [0] rfl (tX8_test_131 E l _ N l0 μ t hk h)
    ·
      refine a_aload_n 0 dX8_test_124 rfl rfl ?_
      refine a_cVv (c := 8) [] [] dX8_test_125 myX8_drops mRX8_246 mvX8_drops rfl (by decide) hk (fun _ hj => tX8_drops E l N l0 μ _ hk hj) (by decide) rfl (Nat.le_of_ble_eq_true rfl) h (fun μ1 hm h => ?_)
      have hk := hm.k hk (by decide)
      refine a_goto (tgt := 110) dX8_test_128 rfl ?_
      exact a_sub [0] rfl (p110 l0 μ1 t hk h)
theorem tX8_test_110 (E : m_E) (l : Launch) (z : Nat × Nat) (N : Nat) : ∀ (n : Nat) (l0 : Int) (μ : Mm) (t : Mm), m_kd μ l0 = (8, 0) → jX8_test_110 N n l0 μ = some t → aX8_test E l 8 z 110 [(0, vr l0)] [] μ (rV t)
  | 0, _, _, _, _, h => by cases h
  | n + 1, l0, μ, t, hk, h => tX8_test_110b E l z (jX8_test_110 N n) (tX8_test_110 E l z N n) N l0 μ t hk h
theorem tX8_test_106 (E : m_E) (l : Launch) (z : Nat × Nat) (k2 : Int → Int → Mm → Option (Mm)) (p2 : ∀ (l0 l1 : Int) (μ : Mm) (t : Mm), m_kd μ l0 = (8, 0) → k2 l0 l1 μ = some t → aX8_test E l 8 z 2 [(0, vr l0), (1, vi l1)] [] μ (rV t)) (N : Nat) (l0 s0 : Int) (μ : Mm) (t : Mm) (hk : m_kd μ l0 = (8, 0)) (h : jX8_test_106 k2 N l0 s0 μ = some t) : aX8_test E l 8 z 106 [(0, vr l0)] [vi s0] μ (rV t) := by
  unfold jX8_test_106 at h
  refine a_istore_n (L' := [(1, vi s0), (0, vr l0)]) dX8_test_106 rfl (by decide) rfl ?_
  refine a_goto (tgt := 2) dX8_test_107 rfl ?_
  exact a_sub [1, 0] rfl (p2 l0 s0 μ t hk h)
theorem tX8_test_105 (E : m_E) (l : Launch) (z : Nat × Nat) (k2 : Int → Int → Mm → Option (Mm)) (p2 : ∀ (l0 l1 : Int) (μ : Mm) (t : Mm), m_kd μ l0 = (8, 0) → k2 l0 l1 μ = some t → aX8_test E l 8 z 2 [(0, vr l0), (1, vi l1)] [] μ (rV t)) (N : Nat) (l0 : Int) (μ : Mm) (t : Mm) (hk : m_kd μ l0 = (8, 0)) (h : jX8_test_105 k2 N l0 μ = some t) : aX8_test E l 8 z 105 [(0, vr l0)] [] μ (rV t) := by
  unfold jX8_test_105 at h
  refine a_iconst dX8_test_105 (okI_b _ rfl) ?_
  exact a_sub [0] rfl (tX8_test_106 E l _ k2 p2 N l0 0 μ t hk h)
theorem tX8_test_2b (E : m_E) (l : Launch) (z : Nat × Nat) (k2 : Int → Int → Mm → Option (Mm)) (p2 : ∀ (l0 l1 : Int) (μ : Mm) (t : Mm), m_kd μ l0 = (8, 0) → k2 l0 l1 μ = some t → aX8_test E l 8 z 2 [(0, vr l0), (1, vi l1)] [] μ (rV t)) (N : Nat) (l0 l1 : Int) (μ : Mm) (t : Mm) (hk : m_kd μ l0 = (8, 0)) (h : jX8_test_2b k2 N l0 l1 μ = some t) : aX8_test E l 8 z 2 [(0, vr l0), (1, vi l1)] [] μ (rV t) := by
  unfold jX8_test_2b at h
  refine a_iload_n 1 dX8_test_2 rfl rfl ?_
  refine a_if_eq (tgt := 110) dX8_test_3 rfl h (fun h => ?_) (fun h => ?_)
  ·
    exact a_sub [0] rfl (tX8_test_110 E l _ N N l0 μ t hk h)
  ·
    refine a_aload_n 0 dX8_test_6 rfl rfl ?_
    refine a_getfi (c := 8) (i := 5) dX8_test_7 fRX8_183 g8_5 rfl hk ?_
    refine a_if_ne (tgt := 110) dX8_test_10 rfl h (fun h => ?_) (fun h => ?_)
    ·
      exact a_sub [0] rfl (tX8_test_110 E l _ N N l0 μ t hk h)
    ·
      refine a_aload_n 0 dX8_test_13 rfl rfl ?_
      refine a_cVi (c := 8) [] [] dX8_test_14 myX8_look mRX8_195 mvX8_look rfl (by decide) hk (fun _ hj => tX8_look E l N l0 μ _ hk hj) (by decide) rfl (Nat.le_of_ble_eq_true rfl) h (fun x1 μ1 hm h => ?_)
      have hk := hm.k hk (by decide)
      refine a_istore_n (L' := [(2, vi x1), (0, vr l0), (1, vi l1)]) dX8_test_17 rfl (by decide) rfl ?_
      refine a_iload_n 0 dX8_test_18 rfl rfl ?_
      refine a_bipush dX8_test_19 ⟨rfl, okI_b _ rfl⟩ ?_
      refine a_icmp_ne (tgt := 47) dX8_test_21 rfl h (fun h => ?_) (fun h => ?_)
      ·
        refine a_aload_n 1 dX8_test_47 rfl rfl ?_
        refine a_aload_n 1 dX8_test_48 rfl rfl ?_
        refine a_getfr (c := 8) (i := 21) dX8_test_49 fRX8_54 g8_21 rfl hk ?_
        refine a_cVi (c := 8) [vr (m_gt μ1 l0 21)] [] dX8_test_52 myX8_isHere mRX8_206 mvX8_isHere rfl (by decide) hk (fun _ hj => tX8_isHere E l N l0 (m_gt μ1 l0 21) μ1 _ hk hj) (by decide) rfl (Nat.le_of_ble_eq_true rfl) h (fun x2 μ2 hm h => ?_)
        have hk := hm.k hk (by decide)
        refine a_if_eq (tgt := 79) dX8_test_55 rfl h (fun h => ?_) (fun h => ?_)
        ·
          refine a_aload_n 1 dX8_test_79 rfl rfl ?_
          refine a_cVv (c := 8) [] [] dX8_test_80 myX8_fact mRX8_282 mvX8_fact rfl (by decide) hk (fun _ hj => tX8_fact E l N l0 μ2 _ hk hj) (by decide) rfl (Nat.le_of_ble_eq_true rfl) h (fun μ3 hm h => ?_)
          have hk := hm.k hk (by decide)
          refine a_aload_n 1 dX8_test_83 rfl rfl ?_
          refine a_cVv (c := 8) [] [] dX8_test_84 myX8_dropsNots mRX8_285 mvX8_dropsNots rfl (by decide) hk (fun _ hj => tX8_dropsNots E l N l0 μ3 _ hk hj) (by decide) rfl (Nat.le_of_ble_eq_true rfl) h (fun μ4 hm h => ?_)
          have hk := hm.k hk (by decide)
          refine a_aload_n 1 dX8_test_87 rfl rfl ?_
          refine a_getfi (c := 8) (i := 5) dX8_test_88 fRX8_183 g8_5 rfl hk ?_
          refine a_if_ne (tgt := 105) dX8_test_91 rfl h (fun h => ?_) (fun h => ?_)
          ·
            exact a_sub [1] rfl (tX8_test_105 E l _ k2 p2 N l0 μ4 t hk h)
          ·
            refine a_aload_n 1 dX8_test_94 rfl rfl ?_
            refine a_cVi (c := 8) [] [] dX8_test_95 myX8_goesOnTest mRX8_288 mvX8_goesOnTest rfl (by decide) hk (fun _ hj => tX8_goesOnTest E l N l0 μ4 _ hk hj) (by decide) rfl (Nat.le_of_ble_eq_true rfl) h (fun x3 μ5 hm h => ?_)
            have hk := hm.k hk (by decide)
            refine a_if_eq (tgt := 105) dX8_test_98 rfl h (fun h => ?_) (fun h => ?_)
            ·
              exact a_sub [1] rfl (tX8_test_105 E l _ k2 p2 N l0 μ5 t hk h)
            ·
              refine a_iconst dX8_test_101 (okI_b _ rfl) ?_
              refine a_goto (tgt := 106) dX8_test_102 rfl ?_
              exact a_sub [1] rfl (tX8_test_106 E l _ k2 p2 N l0 1 μ5 t hk h)
        ·
          refine a_aload_n 1 dX8_test_58 rfl rfl ?_
          refine a_bipush dX8_test_59 ⟨rfl, okI_b _ rfl⟩ ?_
          refine a_aload_n 1 dX8_test_61 rfl rfl ?_
          refine a_getfi (c := 8) (i := 2) dX8_test_62 fRX8_189 g8_2 rfl hk ?_
          refine a_cVv (c := 8) [vi 16, vi (m_gt μ2 l0 2)] [] dX8_test_65 myX8_opens mRX8_249 mvX8_opens rfl (by decide) hk (fun _ hj => tX8_opens E l N l0 16 (m_gt μ2 l0 2) μ2 _ hk hj) (by decide) rfl (Nat.le_of_ble_eq_true rfl) h (fun μ6 hm h => ?_)
          have hk := hm.k hk (by decide)
          refine a_aload_n 1 dX8_test_68 rfl rfl ?_
          refine a_aload_n 1 dX8_test_69 rfl rfl ?_
          refine a_getfr (c := 8) (i := 21) dX8_test_70 fRX8_54 g8_21 rfl hk ?_
          refine a_cVv (c := 8) [vr (m_gt μ6 l0 21)] [] dX8_test_73 myX8_asks mRX8_252 mvX8_asks rfl (by decide) hk (fun _ hj => tX8_asks E l N l0 (m_gt μ6 l0 21) μ6 _ hk hj) (by decide) rfl (Nat.le_of_ble_eq_true rfl) h (fun μ7 hm h => ?_)
          have hk := hm.k hk (by decide)
          refine a_goto (tgt := 2) dX8_test_76 rfl ?_
          exact a_sub [1, 2] rfl (p2 l0 l1 μ7 t hk h)
      ·
        refine a_aload_n 1 dX8_test_24 rfl rfl ?_
        refine a_bipush dX8_test_25 ⟨rfl, okI_b _ rfl⟩ ?_
        refine a_aload_n 1 dX8_test_27 rfl rfl ?_
        refine a_getfi (c := 8) (i := 2) dX8_test_28 fRX8_189 g8_2 rfl hk ?_
        refine a_cVv (c := 8) [vi 25, vi (m_gt μ1 l0 2)] [] dX8_test_31 myX8_opens mRX8_249 mvX8_opens rfl (by decide) hk (fun _ hj => tX8_opens E l N l0 25 (m_gt μ1 l0 2) μ1 _ hk hj) (by decide) rfl (Nat.le_of_ble_eq_true rfl) h (fun μ8 hm h => ?_)
        have hk := hm.k hk (by decide)
        refine a_aload_n 1 dX8_test_34 rfl rfl ?_
        refine a_dup dX8_test_35 rfl ?_
        refine a_getfi (c := 8) (i := 2) dX8_test_36 fRX8_189 g8_2 rfl hk ?_
        refine a_iconst dX8_test_39 (okI_b _ rfl) ?_
        refine a_iadd dX8_test_40 ?_
        refine a_putfi (c := 8) (i := 2) dX8_test_41 fRX8_189 g8_2 (Or.inl rfl) rfl hk h (fun μ9 hm h => ?_)
        have hk := hm.k hk (by decide)
        refine a_goto (tgt := 2) dX8_test_44 rfl ?_
        exact a_sub [1, 2] rfl (p2 l0 l1 μ9 t hk h)
theorem tX8_test_2 (E : m_E) (l : Launch) (z : Nat × Nat) (N : Nat) : ∀ (n : Nat) (l0 l1 : Int) (μ : Mm) (t : Mm), m_kd μ l0 = (8, 0) → jX8_test_2 N n l0 l1 μ = some t → aX8_test E l 8 z 2 [(0, vr l0), (1, vi l1)] [] μ (rV t)
  | 0, _, _, _, _, _, h => by cases h
  | n + 1, l0, l1, μ, t, hk, h => tX8_test_2b E l z (jX8_test_2 N n) (tX8_test_2 E l z N n) N l0 l1 μ t hk h
theorem tX8_test (E : m_E) (l : Launch) (N : Nat) (l0 : Int) (μ : Mm) (t : Mm) (hk : m_kd μ l0 = (8, 0)) (h : jX8_test N l0 μ = some t) : TT E l 8 yX8_test cX8_test 3 none [vr l0] μ (rV t) := by
  refine tt_of (L := [(0, vr l0)]) (by decide +kernel) (Nat.le_of_ble_eq_true rfl) rfl ?_
  show aX8_test E l 8 (m_sz μ, m_sl μ) 0 [(0, vr l0)] [] μ (rV t)
  unfold jX8_test at h
  refine a_iconst dX8_test_0 (okI_b _ rfl) ?_
  refine a_istore_n (L' := [(1, vi 1), (0, vr l0)]) dX8_test_1 rfl (by decide) rfl ?_
  exact a_sub [1, 0] rfl (tX8_test_2 E l _ N N l0 1 μ t hk h)
-- X8_worthTold
abbrev aX8_worthTold (E : m_E) (l : Launch) (d : Nat) (z : Nat × Nat) (pc : Nat) (L : List (Nat × AV)) (st : List AV) (μ : Mm) (ρ : Option AV × Mm) : Prop := AA E l d z RX8 "worthTold" cX8_worthTold 2 none pc L st μ ρ
theorem tX8_worthTold_50 (E : m_E) (l : Launch) (z : Nat × Nat) (N : Nat) (l0 l1 : Int) (μ : Mm) (t : Mm) (hk : m_kd μ l0 = (8, 0)) (h : jX8_worthTold_50 N l0 l1 μ = some t) : aX8_worthTold E l 9 z 50 [(0, vr l0), (1, vi l1)] [] μ (rV t) := by
  unfold jX8_worthTold_50 at h
  refine a_aload_n 0 dX8_worthTold_50 rfl rfl ?_
  refine a_getfr (c := 8) (i := 39) dX8_worthTold_51 fRX8_108 g8_39 rfl hk ?_
  refine a_iload_n 1 dX8_worthTold_54 rfl rfl ?_
  refine a_aload_n 0 dX8_worthTold_55 rfl rfl ?_
  refine a_getfi (c := 8) (i := 44) dX8_worthTold_56 fRX8_227 g8_44 rfl hk ?_
  refine a_iast dX8_worthTold_59 h (fun μ1 hm h => ?_)
  have hk := hm.k hk (by decide)
  refine a_aload_n 0 dX8_worthTold_60 rfl rfl ?_
  refine a_getfr (c := 8) (i := 36) dX8_worthTold_61 fRX8_99 g8_36 rfl hk ?_
  refine a_iconst dX8_worthTold_64 (okI_b _ rfl) ?_
  refine a_dup2 dX8_worthTold_65 rfl rfl ?_
  refine a_iald dX8_worthTold_66 h (fun x1 h => ?_)
  refine a_iconst dX8_worthTold_67 (okI_b _ rfl) ?_
  refine a_iadd dX8_worthTold_68 ?_
  refine a_iast dX8_worthTold_69 h (fun μ2 hm h => ?_)
  have hk := hm.k hk (by decide)
  exact a_ret0 dX8_worthTold_70 h
theorem tX8_worthTold (E : m_E) (l : Launch) (N : Nat) (l0 : Int) (μ : Mm) (t : Mm) (hk : m_kd μ l0 = (8, 0)) (h : jX8_worthTold N l0 μ = some t) : TT E l 9 yX8_worthTold cX8_worthTold 2 none [vr l0] μ (rV t) := by
  refine tt_of (L := [(0, vr l0)]) (by decide +kernel) (Nat.le_of_ble_eq_true rfl) rfl ?_
  show aX8_worthTold E l 9 (m_sz μ, m_sl μ) 0 [(0, vr l0)] [] μ (rV t)
  unfold jX8_worthTold at h
  refine a_aload_n 0 dX8_worthTold_0 rfl rfl ?_
  refine a_getfr (c := 8) (i := 36) dX8_worthTold_1 fRX8_99 g8_36 rfl hk ?_
  refine a_iconst dX8_worthTold_4 (okI_b _ rfl) ?_
  refine a_iald dX8_worthTold_5 h (fun x1 h => ?_)
  refine a_istore_n (L' := [(1, vi x1), (0, vr l0)]) dX8_worthTold_6 rfl (by decide) rfl ?_
  refine a_aload_n 1 dX8_worthTold_7 rfl rfl ?_
  refine a_getfr (c := 8) (i := 37) dX8_worthTold_8 fRX8_102 g8_37 rfl hk ?_
  refine a_iload_n 0 dX8_worthTold_11 rfl rfl ?_
  refine a_aload_n 1 dX8_worthTold_12 rfl rfl ?_
  refine a_getfi (c := 8) (i := 44) dX8_worthTold_13 fRX8_227 g8_44 rfl hk ?_
  refine a_iast dX8_worthTold_16 h (fun μ1 hm h => ?_)
  have hk := hm.k hk (by decide)
  refine a_aload_n 1 dX8_worthTold_17 rfl rfl ?_
  refine a_cVv (c := 8) [] [] dX8_worthTold_18 myX8_readsSum mRX8_294 mvX8_readsSum rfl (by decide) hk (fun _ hj => tX8_readsSum E l N l0 μ1 _ hk hj) (by decide) rfl (Nat.le_of_ble_eq_true rfl) h (fun μ2 hm h => ?_)
  have hk := hm.k hk (by decide)
  refine a_aload_n 1 dX8_worthTold_21 rfl rfl ?_
  refine a_getfr (c := 8) (i := 38) dX8_worthTold_22 fRX8_105 g8_38 rfl hk ?_
  refine a_iload_n 0 dX8_worthTold_25 rfl rfl ?_
  refine a_aload_n 1 dX8_worthTold_26 rfl rfl ?_
  refine a_getfi (c := 8) (i := 44) dX8_worthTold_27 fRX8_227 g8_44 rfl hk ?_
  refine a_iast dX8_worthTold_30 h (fun μ3 hm h => ?_)
  have hk := hm.k hk (by decide)
  refine a_aload_n 1 dX8_worthTold_31 rfl rfl ?_
  refine a_aload_n 1 dX8_worthTold_32 rfl rfl ?_
  refine a_getfr (c := 8) (i := 16) dX8_worthTold_33 fRX8_39 g8_16 rfl hk ?_
  refine a_cVv (c := 8) [vr (m_gt μ3 l0 16)] [] dX8_worthTold_36 myX8_asks mRX8_252 mvX8_asks rfl (by decide) hk (fun _ hj => tX8_asks E l N l0 (m_gt μ3 l0 16) μ3 _ hk hj) (by decide) rfl (Nat.le_of_ble_eq_true rfl) h (fun μ4 hm h => ?_)
  have hk := hm.k hk (by decide)
  refine a_aload_n 1 dX8_worthTold_39 rfl rfl ?_
  refine a_getfi (c := 8) (i := 5) dX8_worthTold_40 fRX8_183 g8_5 rfl hk ?_
  refine a_if_ne (tgt := 50) dX8_worthTold_43 rfl h (fun h => ?_) (fun h => ?_)
  ·
    exact a_sub [1, 0] rfl (tX8_worthTold_50 E l _ N l0 x1 μ4 t hk h)
  ·
    refine a_aload_n 1 dX8_worthTold_46 rfl rfl ?_
    refine a_cVv (c := 8) [] [] dX8_worthTold_47 myX8_test mRX8_297 mvX8_test rfl (by decide) hk (fun _ hj => tX8_test E l N l0 μ4 _ hk hj) (by decide) rfl (Nat.le_of_ble_eq_true rfl) h (fun μ5 hm h => ?_)
    have hk := hm.k hk (by decide)
    exact a_sub [1, 0] rfl (tX8_worthTold_50 E l _ N l0 x1 μ5 t hk h)
-- X8_statement
abbrev aX8_statement (E : m_E) (l : Launch) (d : Nat) (z : Nat × Nat) (pc : Nat) (L : List (Nat × AV)) (st : List AV) (μ : Mm) (ρ : Option AV × Mm) : Prop := AA E l d z RX8 "statement" cX8_statement 1 none pc L st μ ρ
theorem tX8_statement_212 (E : m_E) (l : Launch) (z : Nat × Nat) (N : Nat) (l0 : Int) (μ : Mm) (t : Mm) (hk : m_kd μ l0 = (8, 0)) (h : jX8_statement_212 N l0 μ = some t) : aX8_statement E l 10 z 212 [(0, vr l0)] [] μ (rV t) := by
  unfold jX8_statement_212 at h
  refine a_aload_n 0 dX8_statement_212 rfl rfl ?_
  refine a_bipush dX8_statement_213 ⟨rfl, okI_b _ rfl⟩ ?_
  refine a_cVv (c := 8) [vi 59] [] dX8_statement_215 myX8_asksSign mRX8_256 mvX8_asksSign rfl (by decide) hk (fun _ hj => tX8_asksSign E l N l0 59 μ _ hk hj) (by decide) rfl (Nat.le_of_ble_eq_true rfl) h (fun μ1 hm h => ?_)
  have hk := hm.k hk (by decide)
  refine a_aload_n 0 dX8_statement_218 rfl rfl ?_
  refine a_dup dX8_statement_219 rfl ?_
  refine a_getfi (c := 8) (i := 48) dX8_statement_220 fRX8_300 g8_48 rfl hk ?_
  refine a_iconst dX8_statement_223 (okI_b _ rfl) ?_
  refine a_iadd dX8_statement_224 ?_
  refine a_putfi (c := 8) (i := 48) dX8_statement_225 fRX8_300 g8_48 (Or.inl rfl) rfl hk h (fun μ2 hm h => ?_)
  have hk := hm.k hk (by decide)
  exact a_ret0 dX8_statement_228 h
theorem tX8_statement (E : m_E) (l : Launch) (N : Nat) (l0 : Int) (μ : Mm) (t : Mm) (hk : m_kd μ l0 = (8, 0)) (h : jX8_statement N l0 μ = some t) : TT E l 10 yX8_statement cX8_statement 1 none [vr l0] μ (rV t) := by
  refine tt_of (L := [(0, vr l0)]) (by decide +kernel) (Nat.le_of_ble_eq_true rfl) rfl ?_
  show aX8_statement E l 10 (m_sz μ, m_sl μ) 0 [(0, vr l0)] [] μ (rV t)
  unfold jX8_statement at h
  refine a_aload_n 0 dX8_statement_0 rfl rfl ?_
  refine a_getfi (c := 8) (i := 48) dX8_statement_1 fRX8_300 g8_48 rfl hk ?_
  refine a_bipush dX8_statement_4 ⟨rfl, okI_b _ rfl⟩ ?_
  refine a_icmp_ne (tgt := 19) dX8_statement_6 rfl h (fun h => ?_) (fun h => ?_)
  ·
    refine a_aload_n 0 dX8_statement_19 rfl rfl ?_
    refine a_aload_n 0 dX8_statement_20 rfl rfl ?_
    refine a_getfr (c := 8) (i := 9) dX8_statement_21 fRX8_17 g8_9 rfl hk ?_
    refine a_cVi (c := 8) [vr (m_gt μ l0 9)] [] dX8_statement_24 myX8_takes mRX8_210 mvX8_takes rfl (by decide) hk (fun _ hj => tX8_takes E l N l0 (m_gt μ l0 9) μ _ hk hj) (by decide) rfl (Nat.le_of_ble_eq_true rfl) h (fun x1 μ1 hm h => ?_)
    have hk := hm.k hk (by decide)
    refine a_if_eq (tgt := 46) dX8_statement_27 rfl h (fun h => ?_) (fun h => ?_)
    ·
      refine a_aload_n 0 dX8_statement_46 rfl rfl ?_
      refine a_aload_n 0 dX8_statement_47 rfl rfl ?_
      refine a_getfr (c := 8) (i := 10) dX8_statement_48 fRX8_21 g8_10 rfl hk ?_
      refine a_cVi (c := 8) [vr (m_gt μ1 l0 10)] [] dX8_statement_51 myX8_takes mRX8_210 mvX8_takes rfl (by decide) hk (fun _ hj => tX8_takes E l N l0 (m_gt μ1 l0 10) μ1 _ hk hj) (by decide) rfl (Nat.le_of_ble_eq_true rfl) h (fun x2 μ2 hm h => ?_)
      have hk := hm.k hk (by decide)
      refine a_if_eq (tgt := 73) dX8_statement_54 rfl h (fun h => ?_) (fun h => ?_)
      ·
        refine a_aload_n 0 dX8_statement_73 rfl rfl ?_
        refine a_aload_n 0 dX8_statement_74 rfl rfl ?_
        refine a_getfr (c := 8) (i := 11) dX8_statement_75 fRX8_24 g8_11 rfl hk ?_
        refine a_cVi (c := 8) [vr (m_gt μ2 l0 11)] [] dX8_statement_78 myX8_takes mRX8_210 mvX8_takes rfl (by decide) hk (fun _ hj => tX8_takes E l N l0 (m_gt μ2 l0 11) μ2 _ hk hj) (by decide) rfl (Nat.le_of_ble_eq_true rfl) h (fun x3 μ3 hm h => ?_)
        have hk := hm.k hk (by decide)
        refine a_if_eq (tgt := 99) dX8_statement_81 rfl h (fun h => ?_) (fun h => ?_)
        ·
          refine a_aload_n 0 dX8_statement_99 rfl rfl ?_
          refine a_aload_n 0 dX8_statement_100 rfl rfl ?_
          refine a_getfr (c := 8) (i := 12) dX8_statement_101 fRX8_27 g8_12 rfl hk ?_
          refine a_cVi (c := 8) [vr (m_gt μ3 l0 12)] [] dX8_statement_104 myX8_takes mRX8_210 mvX8_takes rfl (by decide) hk (fun _ hj => tX8_takes E l N l0 (m_gt μ3 l0 12) μ3 _ hk hj) (by decide) rfl (Nat.le_of_ble_eq_true rfl) h (fun x4 μ4 hm h => ?_)
          have hk := hm.k hk (by decide)
          refine a_if_eq (tgt := 117) dX8_statement_107 rfl h (fun h => ?_) (fun h => ?_)
          ·
            refine a_aload_n 0 dX8_statement_117 rfl rfl ?_
            refine a_aload_n 0 dX8_statement_118 rfl rfl ?_
            refine a_getfr (c := 8) (i := 14) dX8_statement_119 fRX8_33 g8_14 rfl hk ?_
            refine a_cVi (c := 8) [vr (m_gt μ4 l0 14)] [] dX8_statement_122 myX8_takes mRX8_210 mvX8_takes rfl (by decide) hk (fun _ hj => tX8_takes E l N l0 (m_gt μ4 l0 14) μ4 _ hk hj) (by decide) rfl (Nat.le_of_ble_eq_true rfl) h (fun x5 μ5 hm h => ?_)
            have hk := hm.k hk (by decide)
            refine a_if_eq (tgt := 144) dX8_statement_125 rfl h (fun h => ?_) (fun h => ?_)
            ·
              refine a_aload_n 0 dX8_statement_144 rfl rfl ?_
              refine a_aload_n 0 dX8_statement_145 rfl rfl ?_
              refine a_getfr (c := 8) (i := 15) dX8_statement_146 fRX8_36 g8_15 rfl hk ?_
              refine a_cVi (c := 8) [vr (m_gt μ5 l0 15)] [] dX8_statement_149 myX8_takes mRX8_210 mvX8_takes rfl (by decide) hk (fun _ hj => tX8_takes E l N l0 (m_gt μ5 l0 15) μ5 _ hk hj) (by decide) rfl (Nat.le_of_ble_eq_true rfl) h (fun x6 μ6 hm h => ?_)
              have hk := hm.k hk (by decide)
              refine a_if_eq (tgt := 162) dX8_statement_152 rfl h (fun h => ?_) (fun h => ?_)
              ·
                refine a_aload_n 0 dX8_statement_162 rfl rfl ?_
                refine a_aload_n 0 dX8_statement_163 rfl rfl ?_
                refine a_getfr (c := 8) (i := 17) dX8_statement_164 fRX8_42 g8_17 rfl hk ?_
                refine a_cVi (c := 8) [vr (m_gt μ6 l0 17)] [] dX8_statement_167 myX8_takes mRX8_210 mvX8_takes rfl (by decide) hk (fun _ hj => tX8_takes E l N l0 (m_gt μ6 l0 17) μ6 _ hk hj) (by decide) rfl (Nat.le_of_ble_eq_true rfl) h (fun x7 μ7 hm h => ?_)
                have hk := hm.k hk (by decide)
                refine a_if_eq (tgt := 200) dX8_statement_170 rfl h (fun h => ?_) (fun h => ?_)
                ·
                  refine a_aload_n 0 dX8_statement_200 rfl rfl ?_
                  refine a_aload_n 0 dX8_statement_201 rfl rfl ?_
                  refine a_getfr (c := 8) (i := 18) dX8_statement_202 fRX8_45 g8_18 rfl hk ?_
                  refine a_cVv (c := 8) [vr (m_gt μ7 l0 18)] [] dX8_statement_205 myX8_asks mRX8_252 mvX8_asks rfl (by decide) hk (fun _ hj => tX8_asks E l N l0 (m_gt μ7 l0 18) μ7 _ hk hj) (by decide) rfl (Nat.le_of_ble_eq_true rfl) h (fun μ8 hm h => ?_)
                  have hk := hm.k hk (by decide)
                  refine a_aload_n 0 dX8_statement_208 rfl rfl ?_
                  refine a_cVv (c := 8) [] [] dX8_statement_209 myX8_joinsTold mRX8_309 mvX8_joinsTold rfl (by decide) hk (fun _ hj => tX8_joinsTold E l N l0 μ8 _ hk hj) (by decide) rfl (Nat.le_of_ble_eq_true rfl) h (fun μ9 hm h => ?_)
                  have hk := hm.k hk (by decide)
                  exact a_sub [0] rfl (tX8_statement_212 E l _ N l0 μ9 t hk h)
                ·
                  refine a_aload_n 0 dX8_statement_173 rfl rfl ?_
                  refine a_getfr (c := 8) (i := 40) dX8_statement_174 fRX8_111 g8_40 rfl hk ?_
                  refine a_iconst dX8_statement_177 (okI_b _ rfl) ?_
                  refine a_aload_n 0 dX8_statement_178 rfl rfl ?_
                  refine a_getfi (c := 8) (i := 44) dX8_statement_179 fRX8_227 g8_44 rfl hk ?_
                  refine a_iast dX8_statement_182 h (fun μ10 hm h => ?_)
                  have hk := hm.k hk (by decide)
                  refine a_aload_n 0 dX8_statement_183 rfl rfl ?_
                  refine a_cVv (c := 8) [] [] dX8_statement_184 myX8_readsSum mRX8_294 mvX8_readsSum rfl (by decide) hk (fun _ hj => tX8_readsSum E l N l0 μ10 _ hk hj) (by decide) rfl (Nat.le_of_ble_eq_true rfl) h (fun μ11 hm h => ?_)
                  have hk := hm.k hk (by decide)
                  refine a_aload_n 0 dX8_statement_187 rfl rfl ?_
                  refine a_getfr (c := 8) (i := 41) dX8_statement_188 fRX8_114 g8_41 rfl hk ?_
                  refine a_iconst dX8_statement_191 (okI_b _ rfl) ?_
                  refine a_aload_n 0 dX8_statement_192 rfl rfl ?_
                  refine a_getfi (c := 8) (i := 44) dX8_statement_193 fRX8_227 g8_44 rfl hk ?_
                  refine a_iast dX8_statement_196 h (fun μ12 hm h => ?_)
                  have hk := hm.k hk (by decide)
                  refine a_goto (tgt := 212) dX8_statement_197 rfl ?_
                  exact a_sub [0] rfl (tX8_statement_212 E l _ N l0 μ12 t hk h)
              ·
                refine a_aload_n 0 dX8_statement_155 rfl rfl ?_
                refine a_cVv (c := 8) [] [] dX8_statement_156 myX8_worthTold mRX8_306 mvX8_worthTold rfl (by decide) hk (fun _ hj => tX8_worthTold E l N l0 μ6 _ hk hj) (by decide) rfl (Nat.le_of_ble_eq_true rfl) h (fun μ13 hm h => ?_)
                have hk := hm.k hk (by decide)
                refine a_goto (tgt := 212) dX8_statement_159 rfl ?_
                exact a_sub [0] rfl (tX8_statement_212 E l _ N l0 μ13 t hk h)
            ·
              refine a_aload_n 0 dX8_statement_128 rfl rfl ?_
              refine a_getfr (c := 8) (i := 34) dX8_statement_129 fRX8_93 g8_34 rfl hk ?_
              refine a_iconst dX8_statement_132 (okI_b _ rfl) ?_
              refine a_aload_n 0 dX8_statement_133 rfl rfl ?_
              refine a_iconst dX8_statement_134 (okI_b _ rfl) ?_
              refine a_bipush dX8_statement_135 ⟨rfl, okI_b _ rfl⟩ ?_
              refine a_cVi (c := 8) [vi 0, vi 10] [vi 0, vr (m_gt μ5 l0 34)] dX8_statement_137 myX8_number mRX8_259 mvX8_number rfl (by decide) hk (fun _ hj => tX8_number E l N l0 0 10 μ5 _ hk hj) (by decide) rfl (Nat.le_of_ble_eq_true rfl) h (fun x8 μ14 hm h => ?_)
              have hk := hm.k hk (by decide)
              refine a_iast dX8_statement_140 h (fun μ15 hm h => ?_)
              have hk := hm.k hk (by decide)
              refine a_goto (tgt := 212) dX8_statement_141 rfl ?_
              exact a_sub [0] rfl (tX8_statement_212 E l _ N l0 μ15 t hk h)
          ·
            refine a_aload_n 0 dX8_statement_110 rfl rfl ?_
            refine a_cVv (c := 8) [] [] dX8_statement_111 myX8_cleanTold mRX8_303 mvX8_cleanTold rfl (by decide) hk (fun _ hj => tX8_cleanTold E l N l0 μ4 _ hk hj) (by decide) rfl (Nat.le_of_ble_eq_true rfl) h (fun μ16 hm h => ?_)
            have hk := hm.k hk (by decide)
            refine a_goto (tgt := 212) dX8_statement_114 rfl ?_
            exact a_sub [0] rfl (tX8_statement_212 E l _ N l0 μ16 t hk h)
        ·
          refine a_aload_n 0 dX8_statement_84 rfl rfl ?_
          refine a_getfr (c := 8) (i := 33) dX8_statement_85 fRX8_90 g8_33 rfl hk ?_
          refine a_iconst dX8_statement_88 (okI_b _ rfl) ?_
          refine a_aload_n 0 dX8_statement_89 rfl rfl ?_
          refine a_iconst dX8_statement_90 (okI_b _ rfl) ?_
          refine a_iconst dX8_statement_91 (okI_b _ rfl) ?_
          refine a_cVi (c := 8) [vi 1, vi 3] [vi 0, vr (m_gt μ3 l0 33)] dX8_statement_92 myX8_number mRX8_259 mvX8_number rfl (by decide) hk (fun _ hj => tX8_number E l N l0 1 3 μ3 _ hk hj) (by decide) rfl (Nat.le_of_ble_eq_true rfl) h (fun x9 μ17 hm h => ?_)
          have hk := hm.k hk (by decide)
          refine a_iast dX8_statement_95 h (fun μ18 hm h => ?_)
          have hk := hm.k hk (by decide)
          refine a_goto (tgt := 212) dX8_statement_96 rfl ?_
          exact a_sub [0] rfl (tX8_statement_212 E l _ N l0 μ18 t hk h)
      ·
        refine a_aload_n 0 dX8_statement_57 rfl rfl ?_
        refine a_getfr (c := 8) (i := 32) dX8_statement_58 fRX8_87 g8_32 rfl hk ?_
        refine a_iconst dX8_statement_61 (okI_b _ rfl) ?_
        refine a_aload_n 0 dX8_statement_62 rfl rfl ?_
        refine a_iconst dX8_statement_63 (okI_b _ rfl) ?_
        refine a_bipush dX8_statement_64 ⟨rfl, okI_b _ rfl⟩ ?_
        refine a_cVi (c := 8) [vi 1, vi 8] [vi 0, vr (m_gt μ2 l0 32)] dX8_statement_66 myX8_number mRX8_259 mvX8_number rfl (by decide) hk (fun _ hj => tX8_number E l N l0 1 8 μ2 _ hk hj) (by decide) rfl (Nat.le_of_ble_eq_true rfl) h (fun x10 μ19 hm h => ?_)
        have hk := hm.k hk (by decide)
        refine a_iast dX8_statement_69 h (fun μ20 hm h => ?_)
        have hk := hm.k hk (by decide)
        refine a_goto (tgt := 212) dX8_statement_70 rfl ?_
        exact a_sub [0] rfl (tX8_statement_212 E l _ N l0 μ20 t hk h)
    ·
      refine a_aload_n 0 dX8_statement_30 rfl rfl ?_
      refine a_getfr (c := 8) (i := 31) dX8_statement_31 fRX8_84 g8_31 rfl hk ?_
      refine a_iconst dX8_statement_34 (okI_b _ rfl) ?_
      refine a_aload_n 0 dX8_statement_35 rfl rfl ?_
      refine a_iconst dX8_statement_36 (okI_b _ rfl) ?_
      refine a_bipush dX8_statement_37 ⟨rfl, okI_b _ rfl⟩ ?_
      refine a_cVi (c := 8) [vi 1, vi 9] [vi 0, vr (m_gt μ1 l0 31)] dX8_statement_39 myX8_number mRX8_259 mvX8_number rfl (by decide) hk (fun _ hj => tX8_number E l N l0 1 9 μ1 _ hk hj) (by decide) rfl (Nat.le_of_ble_eq_true rfl) h (fun x11 μ21 hm h => ?_)
      have hk := hm.k hk (by decide)
      refine a_iast dX8_statement_42 h (fun μ22 hm h => ?_)
      have hk := hm.k hk (by decide)
      refine a_goto (tgt := 212) dX8_statement_43 rfl ?_
      exact a_sub [0] rfl (tX8_statement_212 E l _ N l0 μ22 t hk h)
  ·
    refine a_aload_n 0 dX8_statement_9 rfl rfl ?_
    refine a_iconst dX8_statement_10 (okI_b _ rfl) ?_
    refine a_aload_n 0 dX8_statement_11 rfl rfl ?_
    refine a_getfi (c := 8) (i := 2) dX8_statement_12 fRX8_189 g8_2 rfl hk ?_
    refine a_cVv (c := 8) [vi 5, vi (m_gt μ l0 2)] [] dX8_statement_15 myX8_fail mRX8_213 mvX8_fail rfl (by decide) hk (fun _ hj => tX8_fail E l N l0 5 (m_gt μ l0 2) μ _ hk hj) (by decide) rfl (Nat.le_of_ble_eq_true rfl) h (fun μ23 hm h => ?_)
    have hk := hm.k hk (by decide)
    exact a_ret0 dX8_statement_18 h
-- X8_game
abbrev aX8_game (E : m_E) (l : Launch) (d : Nat) (z : Nat × Nat) (pc : Nat) (L : List (Nat × AV)) (st : List AV) (μ : Mm) (ρ : Option AV × Mm) : Prop := AA E l d z RX8 "game" cX8_game 2 (some .int) pc L st μ ρ
theorem tX8_game_100b (E : m_E) (l : Launch) (z : Nat × Nat) (k100 : Int → Int → Mm → Option (Int × Mm)) (p100 : ∀ (l0 l1 : Int) (μ : Mm) (t : Int × Mm), m_kd μ l0 = (8, 0) → k100 l0 l1 μ = some t → aX8_game E l 11 z 100 [(0, vr l0), (1, vi l1)] [] μ (rI t)) (N : Nat) (l0 l1 : Int) (μ : Mm) (t : Int × Mm) (hk : m_kd μ l0 = (8, 0)) (h : jX8_game_100b k100 N l0 l1 μ = some t) : aX8_game E l 11 z 100 [(0, vr l0), (1, vi l1)] [] μ (rI t) := by
  unfold jX8_game_100b at h
  refine a_iload_n 1 dX8_game_100 rfl rfl ?_
  refine a_bipush dX8_game_101 ⟨rfl, okI_b _ rfl⟩ ?_
  refine a_icmp_ge (tgt := 119) dX8_game_103 rfl h (fun h => ?_) (fun h => ?_)
  ·
    refine a_aload_n 0 dX8_game_119 rfl rfl ?_
    refine a_iconst dX8_game_120 (okI_b _ rfl) ?_
    refine a_putfz (c := 8) (i := 70) dX8_game_121 fRX8_330 g8_70 (Or.inl rfl) rfl (Or.inl rfl) hk h (fun μ1 hm h => ?_)
    have hk := hm.k hk (by decide)
    refine a_aload_n 0 dX8_game_124 rfl rfl ?_
    refine a_iconst dX8_game_125 (okI_b _ rfl) ?_
    refine a_putfz (c := 8) (i := 72) dX8_game_126 fRX8_334 g8_72 (Or.inl rfl) rfl (Or.inl rfl) hk h (fun μ2 hm h => ?_)
    have hk := hm.k hk (by decide)
    refine a_aload_n 0 dX8_game_129 rfl rfl ?_
    refine a_getfi (c := 8) (i := 48) dX8_game_130 fRX8_300 g8_48 rfl hk ?_
    exact a_reti dX8_game_133 h
  ·
    refine a_aload_n 0 dX8_game_106 rfl rfl ?_
    refine a_getfr (c := 8) (i := 81) dX8_game_107 fRX8_168 g8_81 rfl hk ?_
    refine a_iload_n 1 dX8_game_110 rfl rfl ?_
    refine a_iconst dX8_game_111 (okI_b _ rfl) ?_
    refine a_iast dX8_game_112 h (fun μ3 hm h => ?_)
    have hk := hm.k hk (by decide)
    refine a_iinc (F := fun x1 => [(1, vi x1), (0, vr l0)]) 1 dX8_game_113 rfl (by decide) h (fun _ => rfl) (fun x1 h => ?_)
    refine a_goto (tgt := 100) dX8_game_116 rfl ?_
    exact a_sub [1, 0] rfl (p100 l0 x1 μ3 t hk h)
theorem tX8_game_100 (E : m_E) (l : Launch) (z : Nat × Nat) (N : Nat) : ∀ (n : Nat) (l0 l1 : Int) (μ : Mm) (t : Int × Mm), m_kd μ l0 = (8, 0) → jX8_game_100 N n l0 l1 μ = some t → aX8_game E l 11 z 100 [(0, vr l0), (1, vi l1)] [] μ (rI t)
  | 0, _, _, _, _, _, h => by cases h
  | n + 1, l0, l1, μ, t, hk, h => tX8_game_100b E l z (jX8_game_100 N n) (tX8_game_100 E l z N n) N l0 l1 μ t hk h
theorem tX8_game_59 (E : m_E) (l : Launch) (z : Nat × Nat) (N : Nat) (l0 : Int) (μ : Mm) (t : Int × Mm) (hk : m_kd μ l0 = (8, 0)) (h : jX8_game_59 N l0 μ = some t) : aX8_game E l 11 z 59 [(0, vr l0)] [] μ (rI t) := by
  unfold jX8_game_59 at h
  refine a_aload_n 0 dX8_game_59 rfl rfl ?_
  refine a_aload_n 0 dX8_game_60 rfl rfl ?_
  refine a_getfi (c := 8) (i := 5) dX8_game_61 fRX8_183 g8_5 rfl hk ?_
  refine a_putfi (c := 8) (i := 7) dX8_game_64 fRX8_318 g8_7 (Or.inl rfl) rfl hk h (fun μ1 hm h => ?_)
  have hk := hm.k hk (by decide)
  refine a_aload_n 0 dX8_game_67 rfl rfl ?_
  refine a_aload_n 0 dX8_game_68 rfl rfl ?_
  refine a_getfi (c := 8) (i := 6) dX8_game_69 fRX8_186 g8_6 rfl hk ?_
  refine a_putfi (c := 8) (i := 8) dX8_game_72 fRX8_13 g8_8 (Or.inl rfl) rfl hk h (fun μ2 hm h => ?_)
  have hk := hm.k hk (by decide)
  refine a_aload_n 0 dX8_game_75 rfl rfl ?_
  refine a_getfi (c := 8) (i := 5) dX8_game_76 fRX8_183 g8_5 rfl hk ?_
  refine a_if_eq (tgt := 84) dX8_game_79 rfl h (fun h => ?_) (fun h => ?_)
  ·
    refine a_aload_n 0 dX8_game_84 rfl rfl ?_
    refine a_cVv (c := 8) [] [] dX8_game_85 myX8_stands mRX8_321 mvX8_stands rfl (by decide) hk (fun _ hj => tX8_stands E l N l0 μ2 _ hk hj) (by decide) rfl (Nat.le_of_ble_eq_true rfl) h (fun μ3 hm h => ?_)
    have hk := hm.k hk (by decide)
    refine a_aload_n 0 dX8_game_88 rfl rfl ?_
    refine a_iconst dX8_game_89 (okI_b _ rfl) ?_
    refine a_putfi (c := 8) (i := 58) dX8_game_90 fRX8_324 g8_58 (Or.inl rfl) rfl hk h (fun μ4 hm h => ?_)
    have hk := hm.k hk (by decide)
    refine a_aload_n 0 dX8_game_93 rfl rfl ?_
    refine a_iconst dX8_game_94 (okI_b _ rfl) ?_
    refine a_putfi (c := 8) (i := 78) dX8_game_95 fRX8_327 g8_78 (Or.inl rfl) rfl hk h (fun μ5 hm h => ?_)
    have hk := hm.k hk (by decide)
    refine a_iconst dX8_game_98 (okI_b _ rfl) ?_
    refine a_istore_n (L' := [(1, vi 0), (0, vr l0)]) dX8_game_99 rfl (by decide) rfl ?_
    exact a_sub [1, 0] rfl (tX8_game_100 E l _ N N l0 0 μ5 t hk h)
  ·
    refine a_iconst dX8_game_82 (okI_b _ rfl) ?_
    exact a_reti dX8_game_83 h
theorem tX8_game_37b (E : m_E) (l : Launch) (z : Nat × Nat) (k37 : Int → Mm → Option (Int × Mm)) (p37 : ∀ (l0 : Int) (μ : Mm) (t : Int × Mm), m_kd μ l0 = (8, 0) → k37 l0 μ = some t → aX8_game E l 11 z 37 [(0, vr l0)] [] μ (rI t)) (N : Nat) (l0 : Int) (μ : Mm) (t : Int × Mm) (hk : m_kd μ l0 = (8, 0)) (h : jX8_game_37b k37 N l0 μ = some t) : aX8_game E l 11 z 37 [(0, vr l0)] [] μ (rI t) := by
  unfold jX8_game_37b at h
  refine a_aload_n 0 dX8_game_37 rfl rfl ?_
  refine a_getfi (c := 8) (i := 5) dX8_game_38 fRX8_183 g8_5 rfl hk ?_
  refine a_if_ne (tgt := 59) dX8_game_41 rfl h (fun h => ?_) (fun h => ?_)
  ·
    exact a_sub [0] rfl (tX8_game_59 E l _ N l0 μ t hk h)
  ·
    refine a_aload_n 0 dX8_game_44 rfl rfl ?_
    refine a_cVi (c := 8) [] [] dX8_game_45 myX8_look mRX8_195 mvX8_look rfl (by decide) hk (fun _ hj => tX8_look E l N l0 μ _ hk hj) (by decide) rfl (Nat.le_of_ble_eq_true rfl) h (fun x1 μ1 hm h => ?_)
    have hk := hm.k hk (by decide)
    refine a_iconst dX8_game_48 (okI_b _ rfl) ?_
    refine a_icmp_eq (tgt := 59) dX8_game_49 rfl h (fun h => ?_) (fun h => ?_)
    ·
      exact a_sub [0] rfl (tX8_game_59 E l _ N l0 μ1 t hk h)
    ·
      refine a_aload_n 0 dX8_game_52 rfl rfl ?_
      refine a_cVv (c := 8) [] [] dX8_game_53 myX8_statement mRX8_315 mvX8_statement rfl (by decide) hk (fun _ hj => tX8_statement E l N l0 μ1 _ hk hj) (by decide) rfl (Nat.le_of_ble_eq_true rfl) h (fun μ2 hm h => ?_)
      have hk := hm.k hk (by decide)
      refine a_goto (tgt := 37) dX8_game_56 rfl ?_
      exact a_sub [0] rfl (p37 l0 μ2 t hk h)
theorem tX8_game_37 (E : m_E) (l : Launch) (z : Nat × Nat) (N : Nat) : ∀ (n : Nat) (l0 : Int) (μ : Mm) (t : Int × Mm), m_kd μ l0 = (8, 0) → jX8_game_37 N n l0 μ = some t → aX8_game E l 11 z 37 [(0, vr l0)] [] μ (rI t)
  | 0, _, _, _, _, h => by cases h
  | n + 1, l0, μ, t, hk, h => tX8_game_37b E l z (jX8_game_37 N n) (tX8_game_37 E l z N n) N l0 μ t hk h
theorem tX8_game (E : m_E) (l : Launch) (N : Nat) (l0 : Int) (μ : Mm) (t : Int × Mm) (hk : m_kd μ l0 = (8, 0)) (h : jX8_game N l0 μ = some t) : TT E l 11 yX8_game cX8_game 2 (some .int) [vr l0] μ (rI t) := by
  refine tt_of (L := [(0, vr l0)]) (by decide +kernel) (Nat.le_of_ble_eq_true rfl) rfl ?_
  show aX8_game E l 11 (m_sz μ, m_sl μ) 0 [(0, vr l0)] [] μ (rI t)
  unfold jX8_game at h
  refine a_aload_n 0 dX8_game_0 rfl rfl ?_
  refine a_aload_n 0 dX8_game_1 rfl rfl ?_
  refine a_getfi (c := 8) (i := 1) dX8_game_2 fRX8_180 g8_1 rfl hk ?_
  refine a_putfi (c := 8) (i := 3) dX8_game_5 fRX8_192 g8_3 (Or.inl rfl) rfl hk h (fun μ1 hm h => ?_)
  have hk := hm.k hk (by decide)
  refine a_aload_n 0 dX8_game_8 rfl rfl ?_
  refine a_iconst dX8_game_9 (okI_b _ rfl) ?_
  refine a_putfi (c := 8) (i := 1) dX8_game_10 fRX8_180 g8_1 (Or.inl rfl) rfl hk h (fun μ2 hm h => ?_)
  have hk := hm.k hk (by decide)
  refine a_aload_n 0 dX8_game_13 rfl rfl ?_
  refine a_iconst dX8_game_14 (okI_b _ rfl) ?_
  refine a_putfi (c := 8) (i := 2) dX8_game_15 fRX8_189 g8_2 (Or.inl rfl) rfl hk h (fun μ3 hm h => ?_)
  have hk := hm.k hk (by decide)
  refine a_aload_n 0 dX8_game_18 rfl rfl ?_
  refine a_iconst dX8_game_19 (okI_b _ rfl) ?_
  refine a_putfi (c := 8) (i := 4) dX8_game_20 fRX8_203 g8_4 (Or.inl rfl) rfl hk h (fun μ4 hm h => ?_)
  have hk := hm.k hk (by decide)
  refine a_aload_n 0 dX8_game_23 rfl rfl ?_
  refine a_iconst dX8_game_24 (okI_b _ rfl) ?_
  refine a_putfi (c := 8) (i := 5) dX8_game_25 fRX8_183 g8_5 (Or.inl rfl) rfl hk h (fun μ5 hm h => ?_)
  have hk := hm.k hk (by decide)
  refine a_aload_n 0 dX8_game_28 rfl rfl ?_
  refine a_iconst dX8_game_29 (okI_b _ rfl) ?_
  refine a_putfi (c := 8) (i := 6) dX8_game_30 fRX8_186 g8_6 (Or.inl rfl) rfl hk h (fun μ6 hm h => ?_)
  have hk := hm.k hk (by decide)
  refine a_aload_n 0 dX8_game_33 rfl rfl ?_
  refine a_cVv (c := 8) [] [] dX8_game_34 myX8_forgets mRX8_312 mvX8_forgets rfl (by decide) hk (fun _ hj => tX8_forgets E l N l0 μ6 _ hk hj) (by decide) rfl (Nat.le_of_ble_eq_true rfl) h (fun μ7 hm h => ?_)
  have hk := hm.k hk (by decide)
  exact a_sub [0] rfl (tX8_game_37 E l _ N N l0 μ7 t hk h)
-- X8_has
abbrev aX8_has (E : m_E) (l : Launch) (d : Nat) (z : Nat × Nat) (pc : Nat) (L : List (Nat × AV)) (st : List AV) (μ : Mm) (ρ : Option AV × Mm) : Prop := AA E l d z RX8 "has" cX8_has 5 (some .int) pc L st μ ρ
theorem tX8_has_134 (E : m_E) (l : Launch) (z : Nat × Nat) (k98 : Int → Int → Int → Mm → Option (Int × Mm)) (p98 : ∀ (l0 l2 l3 : Int) (μ : Mm) (t : Int × Mm), m_kd μ l0 = (8, 0) → k98 l0 l2 l3 μ = some t → aX8_has E l 1 z 98 [(0, vr l0), (2, vi l2), (3, vi l3)] [] μ (rI t)) (k107 : Int → Int → Int → Int → Mm → Option (Int × Mm)) (p107 : ∀ (l0 l2 l3 l4 : Int) (μ : Mm) (t : Int × Mm), m_kd μ l0 = (8, 0) → k107 l0 l2 l3 l4 μ = some t → aX8_has E l 1 z 107 [(0, vr l0), (2, vi l2), (3, vi l3), (4, vi l4)] [] μ (rI t)) (N : Nat) (l0 l2 l3 l4 : Int) (μ : Mm) (t : Int × Mm) (hk : m_kd μ l0 = (8, 0)) (h : jX8_has_134 k98 k107 N l0 l2 l3 l4 μ = some t) : aX8_has E l 1 z 134 [(0, vr l0), (2, vi l2), (3, vi l3), (4, vi l4)] [] μ (rI t) := by
  unfold jX8_has_134 at h
  refine a_iinc (F := fun x1 => [(4, vi x1), (0, vr l0), (2, vi l2), (3, vi l3)]) 3 dX8_has_134 rfl (by decide) h (fun _ => rfl) (fun x1 h => ?_)
  refine a_goto (tgt := 107) dX8_has_137 rfl ?_
  exact a_sub [1, 2, 3, 0] rfl (p107 l0 l2 l3 x1 μ t hk h)
theorem tX8_has_107b (E : m_E) (l : Launch) (z : Nat × Nat) (k98 : Int → Int → Int → Mm → Option (Int × Mm)) (p98 : ∀ (l0 l2 l3 : Int) (μ : Mm) (t : Int × Mm), m_kd μ l0 = (8, 0) → k98 l0 l2 l3 μ = some t → aX8_has E l 1 z 98 [(0, vr l0), (2, vi l2), (3, vi l3)] [] μ (rI t)) (k107 : Int → Int → Int → Int → Mm → Option (Int × Mm)) (p107 : ∀ (l0 l2 l3 l4 : Int) (μ : Mm) (t : Int × Mm), m_kd μ l0 = (8, 0) → k107 l0 l2 l3 l4 μ = some t → aX8_has E l 1 z 107 [(0, vr l0), (2, vi l2), (3, vi l3), (4, vi l4)] [] μ (rI t)) (N : Nat) (l0 l2 l3 l4 : Int) (μ : Mm) (t : Int × Mm) (hk : m_kd μ l0 = (8, 0)) (h : jX8_has_107b k98 k107 N l0 l2 l3 l4 μ = some t) : aX8_has E l 1 z 107 [(0, vr l0), (2, vi l2), (3, vi l3), (4, vi l4)] [] μ (rI t) := by
  unfold jX8_has_107b at h
  refine a_iload 3 dX8_has_107 rfl ?_
  refine a_iload_n 2 dX8_has_109 rfl rfl ?_
  refine a_icmp_ge (tgt := 140) dX8_has_110 rfl h (fun h => ?_) (fun h => ?_)
  ·
    refine a_iinc (F := fun x1 => [(3, vi x1), (0, vr l0), (2, vi l2), (4, vi l4)]) 2 dX8_has_140 rfl (by decide) h (fun _ => rfl) (fun x1 h => ?_)
    refine a_goto (tgt := 98) dX8_has_143 rfl ?_
    exact a_sub [1, 2, 0] rfl (p98 l0 l2 x1 μ t hk h)
  ·
    refine a_aload_n 0 dX8_has_113 rfl rfl ?_
    refine a_getfr (c := 8) (i := 42) dX8_has_114 fRX8_117 g8_42 rfl hk ?_
    refine a_bipush dX8_has_117 ⟨rfl, okI_b _ rfl⟩ ?_
    refine a_bipush dX8_has_119 ⟨rfl, okI_b _ rfl⟩ ?_
    refine a_iload_n 2 dX8_has_121 rfl rfl ?_
    refine a_imul dX8_has_122 ?_
    refine a_iadd dX8_has_123 ?_
    refine a_iload 3 dX8_has_124 rfl ?_
    refine a_iadd dX8_has_126 ?_
    refine a_zald dX8_has_127 h (fun x2 h => ?_)
    refine a_if_eq (tgt := 134) dX8_has_128 rfl h (fun h => ?_) (fun h => ?_)
    ·
      exact a_sub [0, 1, 2, 3] rfl (tX8_has_134 E l _ k98 p98 k107 p107 N l0 l2 l3 l4 μ t hk h)
    ·
      refine a_iinc (F := fun x3 => [(2, vi x3), (0, vr l0), (3, vi l3), (4, vi l4)]) 1 dX8_has_131 rfl (by decide) h (fun _ => rfl) (fun x3 h => ?_)
      exact a_sub [1, 0, 2, 3] rfl (tX8_has_134 E l _ k98 p98 k107 p107 N l0 x3 l3 l4 μ t hk h)
theorem tX8_has_107 (E : m_E) (l : Launch) (z : Nat × Nat) (k98 : Int → Int → Int → Mm → Option (Int × Mm)) (p98 : ∀ (l0 l2 l3 : Int) (μ : Mm) (t : Int × Mm), m_kd μ l0 = (8, 0) → k98 l0 l2 l3 μ = some t → aX8_has E l 1 z 98 [(0, vr l0), (2, vi l2), (3, vi l3)] [] μ (rI t)) (N : Nat) : ∀ (n : Nat) (l0 l2 l3 l4 : Int) (μ : Mm) (t : Int × Mm), m_kd μ l0 = (8, 0) → jX8_has_107 k98 N n l0 l2 l3 l4 μ = some t → aX8_has E l 1 z 107 [(0, vr l0), (2, vi l2), (3, vi l3), (4, vi l4)] [] μ (rI t)
  | 0, _, _, _, _, _, _, _, h => by cases h
  | n + 1, l0, l2, l3, l4, μ, t, hk, h => tX8_has_107b E l z k98 p98 (jX8_has_107 k98 N n) (tX8_has_107 E l z k98 p98 N n) N l0 l2 l3 l4 μ t hk h
theorem tX8_has_98b (E : m_E) (l : Launch) (z : Nat × Nat) (k98 : Int → Int → Int → Mm → Option (Int × Mm)) (p98 : ∀ (l0 l2 l3 : Int) (μ : Mm) (t : Int × Mm), m_kd μ l0 = (8, 0) → k98 l0 l2 l3 μ = some t → aX8_has E l 1 z 98 [(0, vr l0), (2, vi l2), (3, vi l3)] [] μ (rI t)) (N : Nat) (l0 l2 l3 : Int) (μ : Mm) (t : Int × Mm) (hk : m_kd μ l0 = (8, 0)) (h : jX8_has_98b k98 N l0 l2 l3 μ = some t) : aX8_has E l 1 z 98 [(0, vr l0), (2, vi l2), (3, vi l3)] [] μ (rI t) := by
  unfold jX8_has_98b at h
  refine a_iload_n 2 dX8_has_98 rfl rfl ?_
  refine a_bipush dX8_has_99 ⟨rfl, okI_b _ rfl⟩ ?_
  refine a_icmp_ge (tgt := 146) dX8_has_101 rfl h (fun h => ?_) (fun h => ?_)
  ·
    refine a_iload_n 1 dX8_has_146 rfl rfl ?_
    exact a_reti dX8_has_147 h
  ·
    refine a_iconst dX8_has_104 (okI_b _ rfl) ?_
    refine a_istore (L' := [(4, vi 0), (0, vr l0), (2, vi l2), (3, vi l3)]) dX8_has_105 (by decide) rfl ?_
    exact a_sub [1, 2, 3, 0] rfl (tX8_has_107 E l _ k98 p98 N N l0 l2 l3 0 μ t hk h)
theorem tX8_has_98 (E : m_E) (l : Launch) (z : Nat × Nat) (N : Nat) : ∀ (n : Nat) (l0 l2 l3 : Int) (μ : Mm) (t : Int × Mm), m_kd μ l0 = (8, 0) → jX8_has_98 N n l0 l2 l3 μ = some t → aX8_has E l 1 z 98 [(0, vr l0), (2, vi l2), (3, vi l3)] [] μ (rI t)
  | 0, _, _, _, _, _, _, h => by cases h
  | n + 1, l0, l2, l3, μ, t, hk, h => tX8_has_98b E l z (jX8_has_98 N n) (tX8_has_98 E l z N n) N l0 l2 l3 μ t hk h
theorem tX8_has (E : m_E) (l : Launch) (N : Nat) (l0 l1 : Int) (μ : Mm) (t : Int × Mm) (hk : m_kd μ l0 = (8, 0)) (h : jX8_has N l0 l1 μ = some t) : TT E l 1 yX8_has cX8_has 5 (some .int) [vr l0, vi l1] μ (rI t) := by
  refine tt_of (L := [(0, vr l0), (1, vi l1)]) (by decide +kernel) (Nat.le_of_ble_eq_true rfl) rfl ?_
  show aX8_has E l 1 (m_sz μ, m_sl μ) 0 [(0, vr l0), (1, vi l1)] [] μ (rI t)
  unfold jX8_has at h
  refine a_iconst dX8_has_0 (okI_b _ rfl) ?_
  refine a_istore_n (L' := [(2, vi 0), (0, vr l0), (1, vi l1)]) dX8_has_1 rfl (by decide) rfl ?_
  refine a_iload_n 2 dX8_has_2 rfl rfl ?_
  refine a_cs h (fun hx h => ?_) (fun hx0 h => ?_)
  ·
    refine a_tsI (off := 49) (tgt := 52) dX8_has_3 (by omega) (by omega) (by rw [hx]; rfl) rfl ?_
    refine a_aload_n 1 dX8_has_52 rfl rfl ?_
    refine a_getfr (c := 8) (i := 31) dX8_has_53 fRX8_84 g8_31 rfl hk ?_
    refine a_iconst dX8_has_56 (okI_b _ rfl) ?_
    refine a_iald dX8_has_57 h (fun x1 h => ?_)
    exact a_reti dX8_has_58 h
  refine a_cs h (fun hx h => ?_) (fun hx1 h => ?_)
  ·
    refine a_tsI (off := 56) (tgt := 59) dX8_has_3 (by omega) (by omega) (by rw [hx]; rfl) rfl ?_
    refine a_aload_n 1 dX8_has_59 rfl rfl ?_
    refine a_getfr (c := 8) (i := 32) dX8_has_60 fRX8_87 g8_32 rfl hk ?_
    refine a_iconst dX8_has_63 (okI_b _ rfl) ?_
    refine a_iald dX8_has_64 h (fun x2 h => ?_)
    exact a_reti dX8_has_65 h
  refine a_cs h (fun hx h => ?_) (fun hx2 h => ?_)
  ·
    refine a_tsI (off := 63) (tgt := 66) dX8_has_3 (by omega) (by omega) (by rw [hx]; rfl) rfl ?_
    refine a_aload_n 1 dX8_has_66 rfl rfl ?_
    refine a_getfr (c := 8) (i := 33) dX8_has_67 fRX8_90 g8_33 rfl hk ?_
    refine a_iconst dX8_has_70 (okI_b _ rfl) ?_
    refine a_iald dX8_has_71 h (fun x3 h => ?_)
    exact a_reti dX8_has_72 h
  refine a_cs h (fun hx h => ?_) (fun hx3 h => ?_)
  ·
    refine a_tsI (off := 70) (tgt := 73) dX8_has_3 (by omega) (by omega) (by rw [hx]; rfl) rfl ?_
    refine a_aload_n 1 dX8_has_73 rfl rfl ?_
    refine a_getfr (c := 8) (i := 34) dX8_has_74 fRX8_93 g8_34 rfl hk ?_
    refine a_iconst dX8_has_77 (okI_b _ rfl) ?_
    refine a_iald dX8_has_78 h (fun x4 h => ?_)
    exact a_reti dX8_has_79 h
  refine a_cs h (fun hx h => ?_) (fun hx4 h => ?_)
  ·
    refine a_tsI (off := 77) (tgt := 80) dX8_has_3 (by omega) (by omega) (by rw [hx]; rfl) rfl ?_
    refine a_aload_n 1 dX8_has_80 rfl rfl ?_
    refine a_getfr (c := 8) (i := 35) dX8_has_81 fRX8_96 g8_35 rfl hk ?_
    refine a_iload_n 2 dX8_has_84 rfl rfl ?_
    refine a_iconst dX8_has_85 (okI_b _ rfl) ?_
    refine a_iadd dX8_has_86 ?_
    refine a_iald dX8_has_87 h (fun x5 h => ?_)
    exact a_reti dX8_has_88 h
  refine a_cs h (fun hx h => ?_) (fun hx5 h => ?_)
  ·
    refine a_tsI (off := 77) (tgt := 80) dX8_has_3 (by omega) (by omega) (by rw [hx]; rfl) rfl ?_
    refine a_aload_n 1 dX8_has_80 rfl rfl ?_
    refine a_getfr (c := 8) (i := 35) dX8_has_81 fRX8_96 g8_35 rfl hk ?_
    refine a_iload_n 2 dX8_has_84 rfl rfl ?_
    refine a_iconst dX8_has_85 (okI_b _ rfl) ?_
    refine a_iadd dX8_has_86 ?_
    refine a_iald dX8_has_87 h (fun x6 h => ?_)
    exact a_reti dX8_has_88 h
  refine a_cs h (fun hx h => ?_) (fun hx6 h => ?_)
  ·
    refine a_tsI (off := 77) (tgt := 80) dX8_has_3 (by omega) (by omega) (by rw [hx]; rfl) rfl ?_
    refine a_aload_n 1 dX8_has_80 rfl rfl ?_
    refine a_getfr (c := 8) (i := 35) dX8_has_81 fRX8_96 g8_35 rfl hk ?_
    refine a_iload_n 2 dX8_has_84 rfl rfl ?_
    refine a_iconst dX8_has_85 (okI_b _ rfl) ?_
    refine a_iadd dX8_has_86 ?_
    refine a_iald dX8_has_87 h (fun x7 h => ?_)
    exact a_reti dX8_has_88 h
  refine a_cs h (fun hx h => ?_) (fun hx7 h => ?_)
  ·
    refine a_tsI (off := 86) (tgt := 89) dX8_has_3 (by omega) (by omega) (by rw [hx]; rfl) rfl ?_
    refine a_aload_n 1 dX8_has_89 rfl rfl ?_
    refine a_getfr (c := 8) (i := 36) dX8_has_90 fRX8_99 g8_36 rfl hk ?_
    refine a_iconst dX8_has_93 (okI_b _ rfl) ?_
    refine a_iald dX8_has_94 h (fun x8 h => ?_)
    exact a_reti dX8_has_95 h
  refine a_cs h (fun hx h => ?_) (fun hx8 h => ?_)
  ·
    refine a_tsI (off := 93) (tgt := 96) dX8_has_3 (by omega) (by omega) (by rw [hx]; rfl) rfl ?_
    refine a_iconst dX8_has_96 (okI_b _ rfl) ?_
    refine a_istore_n (L' := [(3, vi 0), (2, vi 0), (0, vr l0), (1, vi l1)]) dX8_has_97 rfl (by decide) rfl ?_
    exact a_sub [2, 1, 0] rfl (tX8_has_98 E l _ N N l0 0 0 μ t hk h)
  refine a_tsO (tgt := 148) dX8_has_3 (by omega) rfl ?_
  refine a_iconst dX8_has_148 (okI_b _ rfl) ?_
  exact a_reti dX8_has_149 h
-- X8_checked
abbrev aX8_checked (E : m_E) (l : Launch) (d : Nat) (z : Nat × Nat) (pc : Nat) (L : List (Nat × AV)) (st : List AV) (μ : Mm) (ρ : Option AV × Mm) : Prop := AA E l d z RX8 "checked" cX8_checked 4 (some .int) pc L st μ ρ
theorem tX8_checked_5b (E : m_E) (l : Launch) (z : Nat × Nat) (k5 : Int → Int → Int → Int → Mm → Option (Int × Mm)) (p5 : ∀ (l0 l1 l2 l3 : Int) (μ : Mm) (t : Int × Mm), k5 l0 l1 l2 l3 μ = some t → aX8_checked E l 1 z 5 [(0, vr l0), (1, vi l1), (2, vi l2), (3, vi l3)] [] μ (rI t)) (N : Nat) (l0 l1 l2 l3 : Int) (μ : Mm) (t : Int × Mm) (h : jX8_checked_5b k5 N l0 l1 l2 l3 μ = some t) : aX8_checked E l 1 z 5 [(0, vr l0), (1, vi l1), (2, vi l2), (3, vi l3)] [] μ (rI t) := by
  unfold jX8_checked_5b at h
  refine a_iload_n 3 dX8_checked_5 rfl rfl ?_
  refine a_iload_n 1 dX8_checked_6 rfl rfl ?_
  refine a_icmp_ge (tgt := 29) dX8_checked_7 rfl h (fun h => ?_) (fun h => ?_)
  ·
    refine a_iload_n 2 dX8_checked_29 rfl rfl ?_
    exact a_reti dX8_checked_30 h
  ·
    refine a_bipush dX8_checked_10 ⟨rfl, okI_b _ rfl⟩ ?_
    refine a_iload_n 2 dX8_checked_12 rfl rfl ?_
    refine a_imul dX8_checked_13 ?_
    refine a_aload_n 0 dX8_checked_14 rfl rfl ?_
    refine a_iload_n 3 dX8_checked_15 rfl rfl ?_
    refine a_iald dX8_checked_16 h (fun x1 h => ?_)
    refine a_iadd dX8_checked_17 ?_
    refine a_sipush dX8_checked_18 ⟨rfl, okI_b _ rfl⟩ ?_
    refine a_iremn (by decide) dX8_checked_21 ?_
    refine a_nmi h (fun x2 h => ?_)
    refine a_istore_n (L' := [(2, vi x2), (0, vr l0), (1, vi l1), (3, vi l3)]) dX8_checked_22 rfl (by decide) rfl ?_
    refine a_iinc (F := fun x3 => [(3, vi x3), (2, vi x2), (0, vr l0), (1, vi l1)]) 3 dX8_checked_23 rfl (by decide) h (fun _ => rfl) (fun x3 h => ?_)
    refine a_goto (tgt := 5) dX8_checked_26 rfl ?_
    exact a_sub [2, 3, 1, 0] rfl (p5 l0 l1 x2 x3 μ t h)
theorem tX8_checked_5 (E : m_E) (l : Launch) (z : Nat × Nat) (N : Nat) : ∀ (n : Nat) (l0 l1 l2 l3 : Int) (μ : Mm) (t : Int × Mm), jX8_checked_5 N n l0 l1 l2 l3 μ = some t → aX8_checked E l 1 z 5 [(0, vr l0), (1, vi l1), (2, vi l2), (3, vi l3)] [] μ (rI t)
  | 0, _, _, _, _, _, _, h => by cases h
  | n + 1, l0, l1, l2, l3, μ, t, h => tX8_checked_5b E l z (jX8_checked_5 N n) (tX8_checked_5 E l z N n) N l0 l1 l2 l3 μ t h
theorem tX8_checked (E : m_E) (l : Launch) (N : Nat) (l0 l1 : Int) (μ : Mm) (t : Int × Mm) (h : jX8_checked N l0 l1 μ = some t) : TT E l 1 yX8_checked cX8_checked 4 (some .int) [vr l0, vi l1] μ (rI t) := by
  refine tt_of (L := [(0, vr l0), (1, vi l1)]) (by decide +kernel) (Nat.le_of_ble_eq_true rfl) rfl ?_
  show aX8_checked E l 1 (m_sz μ, m_sl μ) 0 [(0, vr l0), (1, vi l1)] [] μ (rI t)
  unfold jX8_checked at h
  refine a_bipush dX8_checked_0 ⟨rfl, okI_b _ rfl⟩ ?_
  refine a_istore_n (L' := [(2, vi 11), (0, vr l0), (1, vi l1)]) dX8_checked_2 rfl (by decide) rfl ?_
  refine a_iconst dX8_checked_3 (okI_b _ rfl) ?_
  refine a_istore_n (L' := [(3, vi 0), (2, vi 11), (0, vr l0), (1, vi l1)]) dX8_checked_4 rfl (by decide) rfl ?_
  exact a_sub [2, 3, 1, 0] rfl (tX8_checked_5 E l _ N N l0 l1 11 0 μ t h)
-- X8_writes
abbrev aX8_writes (E : m_E) (l : Launch) (d : Nat) (z : Nat × Nat) (pc : Nat) (L : List (Nat × AV)) (st : List AV) (μ : Mm) (ρ : Option AV × Mm) : Prop := AA E l d z RX8 "writes" cX8_writes 2 none pc L st μ ρ
theorem tX8_writes (E : m_E) (l : Launch) (N : Nat) (l0 l1 : Int) (μ : Mm) (t : Mm) (hk : m_kd μ l0 = (8, 0)) (h : jX8_writes N l0 l1 μ = some t) : TT E l 1 yX8_writes cX8_writes 2 none [vr l0, vi l1] μ (rV t) := by
  refine tt_of (L := [(0, vr l0), (1, vi l1)]) (by decide +kernel) (Nat.le_of_ble_eq_true rfl) rfl ?_
  show aX8_writes E l 1 (m_sz μ, m_sl μ) 0 [(0, vr l0), (1, vi l1)] [] μ (rV t)
  unfold jX8_writes at h
  refine a_aload_n 0 dX8_writes_0 rfl rfl ?_
  refine a_getfr (c := 8) (i := 83) dX8_writes_1 fRX8_174 g8_83 rfl hk ?_
  refine a_aload_n 0 dX8_writes_4 rfl rfl ?_
  refine a_getfi (c := 8) (i := 84) dX8_writes_5 fRX8_562 g8_84 rfl hk ?_
  refine a_iload_n 1 dX8_writes_8 rfl rfl ?_
  refine a_iast dX8_writes_9 h (fun μ1 hm h => ?_)
  have hk := hm.k hk (by decide)
  refine a_aload_n 0 dX8_writes_10 rfl rfl ?_
  refine a_dup dX8_writes_11 rfl ?_
  refine a_getfi (c := 8) (i := 84) dX8_writes_12 fRX8_562 g8_84 rfl hk ?_
  refine a_iconst dX8_writes_15 (okI_b _ rfl) ?_
  refine a_iadd dX8_writes_16 ?_
  refine a_putfi (c := 8) (i := 84) dX8_writes_17 fRX8_562 g8_84 (Or.inl rfl) rfl hk h (fun μ2 hm h => ?_)
  have hk := hm.k hk (by decide)
  exact a_ret0 dX8_writes_20 h
-- X8_image
abbrev aX8_image (E : m_E) (l : Launch) (d : Nat) (z : Nat × Nat) (pc : Nat) (L : List (Nat × AV)) (st : List AV) (μ : Mm) (ρ : Option AV × Mm) : Prop := AA E l d z RX8 "image" cX8_image 2 (some .int) pc L st μ ρ
theorem tX8_image_47 (E : m_E) (l : Launch) (z : Nat × Nat) (k15 : Int → Int → Mm → Option (Int × Mm)) (p15 : ∀ (l0 l1 : Int) (μ : Mm) (t : Int × Mm), m_kd μ l0 = (8, 0) → k15 l0 l1 μ = some t → aX8_image E l 2 z 15 [(0, vr l0), (1, vi l1)] [] μ (rI t)) (N : Nat) (l0 l1 s0 s1 : Int) (μ : Mm) (t : Int × Mm) (hk : m_kd μ l0 = (8, 0)) (h : jX8_image_47 k15 N l0 l1 s0 s1 μ = some t) : aX8_image E l 2 z 47 [(0, vr l0), (1, vi l1)] [vi s0, vr s1] μ (rI t) := by
  unfold jX8_image_47 at h
  refine m_chk_k h (fun hq0 h => ?_)
  refine a_cVv (c := 8) [vi s0] [] dX8_image_47 myX8_writes mRX8_565 mvX8_writes rfl (by decide) hq0 (fun _ hj => tX8_writes E l N s1 s0 μ _ hq0 hj) (by decide) rfl (Nat.le_of_ble_eq_true rfl) h (fun μ1 hm h => ?_)
  have hk := hm.k hk (by decide)
  have hq0 := hm.k hq0 (by decide)
  refine a_iinc (F := fun x1 => [(1, vi x1), (0, vr l0)]) 1 dX8_image_50 rfl (by decide) h (fun _ => rfl) (fun x1 h => ?_)
  refine a_goto (tgt := 15) dX8_image_53 rfl ?_
  exact a_sub [1, 0] rfl (p15 l0 x1 μ1 t hk h)
theorem tX8_image_15b (E : m_E) (l : Launch) (z : Nat × Nat) (k15 : Int → Int → Mm → Option (Int × Mm)) (p15 : ∀ (l0 l1 : Int) (μ : Mm) (t : Int × Mm), m_kd μ l0 = (8, 0) → k15 l0 l1 μ = some t → aX8_image E l 2 z 15 [(0, vr l0), (1, vi l1)] [] μ (rI t)) (N : Nat) (l0 l1 : Int) (μ : Mm) (t : Int × Mm) (hk : m_kd μ l0 = (8, 0)) (h : jX8_image_15b k15 N l0 l1 μ = some t) : aX8_image E l 2 z 15 [(0, vr l0), (1, vi l1)] [] μ (rI t) := by
  unfold jX8_image_15b at h
  refine a_iload_n 1 dX8_image_15 rfl rfl ?_
  refine a_aload_n 0 dX8_image_16 rfl rfl ?_
  refine a_getfi (c := 8) (i := 58) dX8_image_17 fRX8_324 g8_58 rfl hk ?_
  refine a_icmp_ge (tgt := 56) dX8_image_20 rfl h (fun h => ?_) (fun h => ?_)
  ·
    refine a_aload_n 0 dX8_image_56 rfl rfl ?_
    refine a_aload_n 0 dX8_image_57 rfl rfl ?_
    refine a_getfr (c := 8) (i := 83) dX8_image_58 fRX8_174 g8_83 rfl hk ?_
    refine a_aload_n 0 dX8_image_61 rfl rfl ?_
    refine a_getfi (c := 8) (i := 84) dX8_image_62 fRX8_562 g8_84 rfl hk ?_
    refine a_cSi [vr (m_gt μ l0 83), vi (m_gt μ l0 84)] [vr l0] dX8_image_65 myX8_checked mRX8_568 msX8_checked (fun _ hj => tX8_checked E l N (m_gt μ l0 83) (m_gt μ l0 84) μ _  hj) (by decide) rfl (Nat.le_of_ble_eq_true rfl) h (fun x1 μ1 hm h => ?_)
    have hk := hm.k hk (by decide)
    refine a_cVv (c := 8) [vi x1] [] dX8_image_68 myX8_writes mRX8_565 mvX8_writes rfl (by decide) hk (fun _ hj => tX8_writes E l N l0 x1 μ1 _ hk hj) (by decide) rfl (Nat.le_of_ble_eq_true rfl) h (fun μ2 hm h => ?_)
    have hk := hm.k hk (by decide)
    refine a_aload_n 0 dX8_image_71 rfl rfl ?_
    refine a_getfi (c := 8) (i := 84) dX8_image_72 fRX8_562 g8_84 rfl hk ?_
    exact a_reti dX8_image_75 h
  ·
    refine a_aload_n 0 dX8_image_23 rfl rfl ?_
    refine a_aload_n 0 dX8_image_24 rfl rfl ?_
    refine a_getfr (c := 8) (i := 59) dX8_image_25 fRX8_131 g8_59 rfl hk ?_
    refine a_iload_n 1 dX8_image_28 rfl rfl ?_
    refine a_iald dX8_image_29 h (fun x2 h => ?_)
    refine a_bipush dX8_image_30 ⟨rfl, okI_b _ rfl⟩ ?_
    refine a_icmp_ne (tgt := 41) dX8_image_32 rfl h (fun h => ?_) (fun h => ?_)
    ·
      refine a_aload_n 0 dX8_image_41 rfl rfl ?_
      refine a_getfr (c := 8) (i := 59) dX8_image_42 fRX8_131 g8_59 rfl hk ?_
      refine a_iload_n 1 dX8_image_45 rfl rfl ?_
      refine a_iald dX8_image_46 h (fun x3 h => ?_)
      exact a_sub [0, 1] rfl (tX8_image_47 E l _ k15 p15 N l0 l1 x3 l0 μ t hk h)
    ·
      refine a_sipush dX8_image_35 ⟨rfl, okI_b _ rfl⟩ ?_
      refine a_goto (tgt := 47) dX8_image_38 rfl ?_
      exact a_sub [0, 1] rfl (tX8_image_47 E l _ k15 p15 N l0 l1 200 l0 μ t hk h)
theorem tX8_image_15 (E : m_E) (l : Launch) (z : Nat × Nat) (N : Nat) : ∀ (n : Nat) (l0 l1 : Int) (μ : Mm) (t : Int × Mm), m_kd μ l0 = (8, 0) → jX8_image_15 N n l0 l1 μ = some t → aX8_image E l 2 z 15 [(0, vr l0), (1, vi l1)] [] μ (rI t)
  | 0, _, _, _, _, _, h => by cases h
  | n + 1, l0, l1, μ, t, hk, h => tX8_image_15b E l z (jX8_image_15 N n) (tX8_image_15 E l z N n) N l0 l1 μ t hk h
theorem tX8_image (E : m_E) (l : Launch) (N : Nat) (l0 : Int) (μ : Mm) (t : Int × Mm) (hk : m_kd μ l0 = (8, 0)) (h : jX8_image N l0 μ = some t) : TT E l 2 yX8_image cX8_image 2 (some .int) [vr l0] μ (rI t) := by
  refine tt_of (L := [(0, vr l0)]) (by decide +kernel) (Nat.le_of_ble_eq_true rfl) rfl ?_
  show aX8_image E l 2 (m_sz μ, m_sl μ) 0 [(0, vr l0)] [] μ (rI t)
  unfold jX8_image at h
  refine a_aload_n 0 dX8_image_0 rfl rfl ?_
  refine a_iconst dX8_image_1 (okI_b _ rfl) ?_
  refine a_putfi (c := 8) (i := 84) dX8_image_2 fRX8_562 g8_84 (Or.inl rfl) rfl hk h (fun μ1 hm h => ?_)
  have hk := hm.k hk (by decide)
  refine a_aload_n 0 dX8_image_5 rfl rfl ?_
  refine a_aload_n 0 dX8_image_6 rfl rfl ?_
  refine a_getfi (c := 8) (i := 58) dX8_image_7 fRX8_324 g8_58 rfl hk ?_
  refine a_cVv (c := 8) [vi (m_gt μ1 l0 58)] [] dX8_image_10 myX8_writes mRX8_565 mvX8_writes rfl (by decide) hk (fun _ hj => tX8_writes E l N l0 (m_gt μ1 l0 58) μ1 _ hk hj) (by decide) rfl (Nat.le_of_ble_eq_true rfl) h (fun μ2 hm h => ?_)
  have hk := hm.k hk (by decide)
  refine a_iconst dX8_image_13 (okI_b _ rfl) ?_
  refine a_istore_n (L' := [(1, vi 0), (0, vr l0)]) dX8_image_14 rfl (by decide) rfl ?_
  exact a_sub [1, 0] rfl (tX8_image_15 E l _ N N l0 0 μ2 t hk h)
