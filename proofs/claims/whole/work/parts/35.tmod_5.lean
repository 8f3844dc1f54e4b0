-- X8_init
abbrev aX8_init (E : m_E) (l : Launch) (d : Nat) (z : Nat × Nat) (pc : Nat) (L : List (Nat × AV)) (st : List AV) (μ : Mm) (ρ : Option AV × Mm) : Prop := AA E l d z RX8 "<init>" cX8_init 1 none pc L st μ ρ
theorem tX8_init (E : m_E) (l : Launch) (N : Nat) (l0 : Int) (μ : Mm) (t : Mm) (hk : m_kd μ l0 = (8, 0)) (h : jX8_init N l0 μ = some t) : TT E l 2 yX8_init cX8_init 1 none [vr l0] μ (rV t) := by
  refine tt_of (L := [(0, vr l0)]) (by decide +kernel) (Nat.le_of_ble_eq_true rfl) rfl ?_
  show aX8_init E l 2 (m_sz μ, m_sl μ) 0 [(0, vr l0)] [] μ (rV t)
  unfold jX8_init at h
  refine a_aload_n 0 dX8_init_0 rfl rfl ?_
  refine a_objI dX8_init_1 mRX8_1 ob1 ob2 (by decide) hk (by decide) ?_
  refine a_aload_n 0 dX8_init_4 rfl rfl ?_
  refine a_sipush dX8_init_5 ⟨rfl, okI_b _ rfl⟩ ?_
  refine a_nai dX8_init_8 ac_int h (fun μ1 hm hq4 h => ?_)
  have hk := hm.k hk (by decide)
  refine a_putfr (c := 8) (i := 0) dX8_init_10 fRX8_7 g8_0 (Or.inr ⟨rfl, rfl, rfl⟩) rfl hk h (fun μ2 hm h => ?_)
  have hk := hm.k hk (by decide)
  refine a_aload_n 0 dX8_init_13 rfl rfl ?_
  refine a_iconst dX8_init_14 (okI_b _ rfl) ?_
  refine a_putfi (c := 8) (i := 8) dX8_init_15 fRX8_13 g8_8 (Or.inl rfl) rfl hk h (fun μ3 hm h => ?_)
  have hk := hm.k hk (by decide)
  refine a_aload_n 0 dX8_init_18 rfl rfl ?_
  refine a_iconst dX8_init_19 (okI_b _ rfl) ?_
  refine a_nac dX8_init_20 ac_char h (fun μ4 hm hq14 h => ?_)
  have hk := hm.k hk (by decide)
  refine a_dup dX8_init_22 rfl ?_
  refine a_iconst dX8_init_23 (okI_b _ rfl) ?_
  refine a_bipush dX8_init_24 ⟨rfl, okI_b _ rfl⟩ ?_
  refine a_cast (hz := by decide) dX8_init_26 h (fun μ5 hm h => ?_)
  have hk := hm.k hk (by decide)
  refine a_dup dX8_init_27 rfl ?_
  refine a_iconst dX8_init_28 (okI_b _ rfl) ?_
  refine a_bipush dX8_init_29 ⟨rfl, okI_b _ rfl⟩ ?_
  refine a_cast (hz := by decide) dX8_init_31 h (fun μ6 hm h => ?_)
  have hk := hm.k hk (by decide)
  refine a_dup dX8_init_32 rfl ?_
  refine a_iconst dX8_init_33 (okI_b _ rfl) ?_
  refine a_bipush dX8_init_34 ⟨rfl, okI_b _ rfl⟩ ?_
  refine a_cast (hz := by decide) dX8_init_36 h (fun μ7 hm h => ?_)
  have hk := hm.k hk (by decide)
  refine a_dup dX8_init_37 rfl ?_
  refine a_iconst dX8_init_38 (okI_b _ rfl) ?_
  refine a_bipush dX8_init_39 ⟨rfl, okI_b _ rfl⟩ ?_
  refine a_cast (hz := by decide) dX8_init_41 h (fun μ8 hm h => ?_)
  have hk := hm.k hk (by decide)
  refine a_putfr (c := 8) (i := 9) dX8_init_42 fRX8_17 g8_9 (Or.inr ⟨rfl, rfl, rfl⟩) rfl hk h (fun μ9 hm h => ?_)
  have hk := hm.k hk (by decide)
  refine a_aload_n 0 dX8_init_45 rfl rfl ?_
  refine a_bipush dX8_init_46 ⟨rfl, okI_b _ rfl⟩ ?_
  refine a_nac dX8_init_48 ac_char h (fun μ10 hm hq40 h => ?_)
  have hk := hm.k hk (by decide)
  refine a_dup dX8_init_50 rfl ?_
  refine a_iconst dX8_init_51 (okI_b _ rfl) ?_
  refine a_bipush dX8_init_52 ⟨rfl, okI_b _ rfl⟩ ?_
  refine a_cast (hz := by decide) dX8_init_54 h (fun μ11 hm h => ?_)
  have hk := hm.k hk (by decide)
  refine a_dup dX8_init_55 rfl ?_
  refine a_iconst dX8_init_56 (okI_b _ rfl) ?_
  refine a_bipush dX8_init_57 ⟨rfl, okI_b _ rfl⟩ ?_
  refine a_cast (hz := by decide) dX8_init_59 h (fun μ12 hm h => ?_)
  have hk := hm.k hk (by decide)
  refine a_dup dX8_init_60 rfl ?_
  refine a_iconst dX8_init_61 (okI_b _ rfl) ?_
  refine a_bipush dX8_init_62 ⟨rfl, okI_b _ rfl⟩ ?_
  refine a_cast (hz := by decide) dX8_init_64 h (fun μ13 hm h => ?_)
  have hk := hm.k hk (by decide)
  refine a_dup dX8_init_65 rfl ?_
  refine a_iconst dX8_init_66 (okI_b _ rfl) ?_
  refine a_bipush dX8_init_67 ⟨rfl, okI_b _ rfl⟩ ?_
  refine a_cast (hz := by decide) dX8_init_69 h (fun μ14 hm h => ?_)
  have hk := hm.k hk (by decide)
  refine a_dup dX8_init_70 rfl ?_
  refine a_iconst dX8_init_71 (okI_b _ rfl) ?_
  refine a_bipush dX8_init_72 ⟨rfl, okI_b _ rfl⟩ ?_
  refine a_cast (hz := by decide) dX8_init_74 h (fun μ15 hm h => ?_)
  have hk := hm.k hk (by decide)
  refine a_dup dX8_init_75 rfl ?_
  refine a_iconst dX8_init_76 (okI_b _ rfl) ?_
  refine a_bipush dX8_init_77 ⟨rfl, okI_b _ rfl⟩ ?_
  refine a_cast (hz := by decide) dX8_init_79 h (fun μ16 hm h => ?_)
  have hk := hm.k hk (by decide)
  refine a_putfr (c := 8) (i := 10) dX8_init_80 fRX8_21 g8_10 (Or.inr ⟨rfl, rfl, rfl⟩) rfl hk h (fun μ17 hm h => ?_)
  have hk := hm.k hk (by decide)
  refine a_aload_n 0 dX8_init_83 rfl rfl ?_
  refine a_iconst dX8_init_84 (okI_b _ rfl) ?_
  refine a_nac dX8_init_85 ac_char h (fun μ18 hm hq76 h => ?_)
  have hk := hm.k hk (by decide)
  refine a_dup dX8_init_87 rfl ?_
  refine a_iconst dX8_init_88 (okI_b _ rfl) ?_
  refine a_bipush dX8_init_89 ⟨rfl, okI_b _ rfl⟩ ?_
  refine a_cast (hz := by decide) dX8_init_91 h (fun μ19 hm h => ?_)
  have hk := hm.k hk (by decide)
  refine a_dup dX8_init_92 rfl ?_
  refine a_iconst dX8_init_93 (okI_b _ rfl) ?_
  refine a_bipush dX8_init_94 ⟨rfl, okI_b _ rfl⟩ ?_
  refine a_cast (hz := by decide) dX8_init_96 h (fun μ20 hm h => ?_)
  have hk := hm.k hk (by decide)
  refine a_dup dX8_init_97 rfl ?_
  refine a_iconst dX8_init_98 (okI_b _ rfl) ?_
  refine a_bipush dX8_init_99 ⟨rfl, okI_b _ rfl⟩ ?_
  refine a_cast (hz := by decide) dX8_init_101 h (fun μ21 hm h => ?_)
  have hk := hm.k hk (by decide)
  refine a_dup dX8_init_102 rfl ?_
  refine a_iconst dX8_init_103 (okI_b _ rfl) ?_
  refine a_bipush dX8_init_104 ⟨rfl, okI_b _ rfl⟩ ?_
  refine a_cast (hz := by decide) dX8_init_106 h (fun μ22 hm h => ?_)
  have hk := hm.k hk (by decide)
  refine a_dup dX8_init_107 rfl ?_
  refine a_iconst dX8_init_108 (okI_b _ rfl) ?_
  refine a_bipush dX8_init_109 ⟨rfl, okI_b _ rfl⟩ ?_
  refine a_cast (hz := by decide) dX8_init_111 h (fun μ23 hm h => ?_)
  have hk := hm.k hk (by decide)
  refine a_putfr (c := 8) (i := 11) dX8_init_112 fRX8_24 g8_11 (Or.inr ⟨rfl, rfl, rfl⟩) rfl hk h (fun μ24 hm h => ?_)
  have hk := hm.k hk (by decide)
  refine a_aload_n 0 dX8_init_115 rfl rfl ?_
  refine a_iconst dX8_init_116 (okI_b _ rfl) ?_
  refine a_nac dX8_init_117 ac_char h (fun μ25 hm hq107 h => ?_)
  have hk := hm.k hk (by decide)
  refine a_dup dX8_init_119 rfl ?_
  refine a_iconst dX8_init_120 (okI_b _ rfl) ?_
  refine a_bipush dX8_init_121 ⟨rfl, okI_b _ rfl⟩ ?_
  refine a_cast (hz := by decide) dX8_init_123 h (fun μ26 hm h => ?_)
  have hk := hm.k hk (by decide)
  refine a_dup dX8_init_124 rfl ?_
  refine a_iconst dX8_init_125 (okI_b _ rfl) ?_
  refine a_bipush dX8_init_126 ⟨rfl, okI_b _ rfl⟩ ?_
  refine a_cast (hz := by decide) dX8_init_128 h (fun μ27 hm h => ?_)
  have hk := hm.k hk (by decide)
  refine a_dup dX8_init_129 rfl ?_
  refine a_iconst dX8_init_130 (okI_b _ rfl) ?_
  refine a_bipush dX8_init_131 ⟨rfl, okI_b _ rfl⟩ ?_
  refine a_cast (hz := by decide) dX8_init_133 h (fun μ28 hm h => ?_)
  have hk := hm.k hk (by decide)
  refine a_dup dX8_init_134 rfl ?_
  refine a_iconst dX8_init_135 (okI_b _ rfl) ?_
  refine a_bipush dX8_init_136 ⟨rfl, okI_b _ rfl⟩ ?_
  refine a_cast (hz := by decide) dX8_init_138 h (fun μ29 hm h => ?_)
  have hk := hm.k hk (by decide)
  refine a_dup dX8_init_139 rfl ?_
  refine a_iconst dX8_init_140 (okI_b _ rfl) ?_
  refine a_bipush dX8_init_141 ⟨rfl, okI_b _ rfl⟩ ?_
  refine a_cast (hz := by decide) dX8_init_143 h (fun μ30 hm h => ?_)
  have hk := hm.k hk (by decide)
  refine a_putfr (c := 8) (i := 12) dX8_init_144 fRX8_27 g8_12 (Or.inr ⟨rfl, rfl, rfl⟩) rfl hk h (fun μ31 hm h => ?_)
  have hk := hm.k hk (by decide)
  refine a_aload_n 0 dX8_init_147 rfl rfl ?_
  refine a_iconst dX8_init_148 (okI_b _ rfl) ?_
  refine a_nac dX8_init_149 ac_char h (fun μ32 hm hq138 h => ?_)
  have hk := hm.k hk (by decide)
  refine a_dup dX8_init_151 rfl ?_
  refine a_iconst dX8_init_152 (okI_b _ rfl) ?_
  refine a_bipush dX8_init_153 ⟨rfl, okI_b _ rfl⟩ ?_
  refine a_cast (hz := by decide) dX8_init_155 h (fun μ33 hm h => ?_)
  have hk := hm.k hk (by decide)
  refine a_dup dX8_init_156 rfl ?_
  refine a_iconst dX8_init_157 (okI_b _ rfl) ?_
  refine a_bipush dX8_init_158 ⟨rfl, okI_b _ rfl⟩ ?_
  refine a_cast (hz := by decide) dX8_init_160 h (fun μ34 hm h => ?_)
  have hk := hm.k hk (by decide)
  refine a_dup dX8_init_161 rfl ?_
  refine a_iconst dX8_init_162 (okI_b _ rfl) ?_
  refine a_bipush dX8_init_163 ⟨rfl, okI_b _ rfl⟩ ?_
  refine a_cast (hz := by decide) dX8_init_165 h (fun μ35 hm h => ?_)
  have hk := hm.k hk (by decide)
  refine a_dup dX8_init_166 rfl ?_
  refine a_iconst dX8_init_167 (okI_b _ rfl) ?_
  refine a_bipush dX8_init_168 ⟨rfl, okI_b _ rfl⟩ ?_
  refine a_cast (hz := by decide) dX8_init_170 h (fun μ36 hm h => ?_)
  have hk := hm.k hk (by decide)
  refine a_dup dX8_init_171 rfl ?_
  refine a_iconst dX8_init_172 (okI_b _ rfl) ?_
  refine a_bipush dX8_init_173 ⟨rfl, okI_b _ rfl⟩ ?_
  refine a_cast (hz := by decide) dX8_init_175 h (fun μ37 hm h => ?_)
  have hk := hm.k hk (by decide)
  refine a_putfr (c := 8) (i := 13) dX8_init_176 fRX8_30 g8_13 (Or.inr ⟨rfl, rfl, rfl⟩) rfl hk h (fun μ38 hm h => ?_)
  have hk := hm.k hk (by decide)
  refine a_aload_n 0 dX8_init_179 rfl rfl ?_
  refine a_iconst dX8_init_180 (okI_b _ rfl) ?_
  refine a_nac dX8_init_181 ac_char h (fun μ39 hm hq169 h => ?_)
  have hk := hm.k hk (by decide)
  refine a_dup dX8_init_183 rfl ?_
  refine a_iconst dX8_init_184 (okI_b _ rfl) ?_
  refine a_bipush dX8_init_185 ⟨rfl, okI_b _ rfl⟩ ?_
  refine a_cast (hz := by decide) dX8_init_187 h (fun μ40 hm h => ?_)
  have hk := hm.k hk (by decide)
  refine a_dup dX8_init_188 rfl ?_
  refine a_iconst dX8_init_189 (okI_b _ rfl) ?_
  refine a_bipush dX8_init_190 ⟨rfl, okI_b _ rfl⟩ ?_
  refine a_cast (hz := by decide) dX8_init_192 h (fun μ41 hm h => ?_)
  have hk := hm.k hk (by decide)
  refine a_dup dX8_init_193 rfl ?_
  refine a_iconst dX8_init_194 (okI_b _ rfl) ?_
  refine a_bipush dX8_init_195 ⟨rfl, okI_b _ rfl⟩ ?_
  refine a_cast (hz := by decide) dX8_init_197 h (fun μ42 hm h => ?_)
  have hk := hm.k hk (by decide)
  refine a_dup dX8_init_198 rfl ?_
  refine a_iconst dX8_init_199 (okI_b _ rfl) ?_
  refine a_bipush dX8_init_200 ⟨rfl, okI_b _ rfl⟩ ?_
  refine a_cast (hz := by decide) dX8_init_202 h (fun μ43 hm h => ?_)
  have hk := hm.k hk (by decide)
  refine a_putfr (c := 8) (i := 14) dX8_init_203 fRX8_33 g8_14 (Or.inr ⟨rfl, rfl, rfl⟩) rfl hk h (fun μ44 hm h => ?_)
  have hk := hm.k hk (by decide)
  refine a_aload_n 0 dX8_init_206 rfl rfl ?_
  refine a_iconst dX8_init_207 (okI_b _ rfl) ?_
  refine a_nac dX8_init_208 ac_char h (fun μ45 hm hq195 h => ?_)
  have hk := hm.k hk (by decide)
  refine a_dup dX8_init_210 rfl ?_
  refine a_iconst dX8_init_211 (okI_b _ rfl) ?_
  refine a_bipush dX8_init_212 ⟨rfl, okI_b _ rfl⟩ ?_
  refine a_cast (hz := by decide) dX8_init_214 h (fun μ46 hm h => ?_)
  have hk := hm.k hk (by decide)
  refine a_dup dX8_init_215 rfl ?_
  refine a_iconst dX8_init_216 (okI_b _ rfl) ?_
  refine a_bipush dX8_init_217 ⟨rfl, okI_b _ rfl⟩ ?_
  refine a_cast (hz := by decide) dX8_init_219 h (fun μ47 hm h => ?_)
  have hk := hm.k hk (by decide)
  refine a_dup dX8_init_220 rfl ?_
  refine a_iconst dX8_init_221 (okI_b _ rfl) ?_
  refine a_bipush dX8_init_222 ⟨rfl, okI_b _ rfl⟩ ?_
  refine a_cast (hz := by decide) dX8_init_224 h (fun μ48 hm h => ?_)
  have hk := hm.k hk (by decide)
  refine a_dup dX8_init_225 rfl ?_
  refine a_iconst dX8_init_226 (okI_b _ rfl) ?_
  refine a_bipush dX8_init_227 ⟨rfl, okI_b _ rfl⟩ ?_
  refine a_cast (hz := by decide) dX8_init_229 h (fun μ49 hm h => ?_)
  have hk := hm.k hk (by decide)
  refine a_dup dX8_init_230 rfl ?_
  refine a_iconst dX8_init_231 (okI_b _ rfl) ?_
  refine a_bipush dX8_init_232 ⟨rfl, okI_b _ rfl⟩ ?_
  refine a_cast (hz := by decide) dX8_init_234 h (fun μ50 hm h => ?_)
  have hk := hm.k hk (by decide)
  refine a_putfr (c := 8) (i := 15) dX8_init_235 fRX8_36 g8_15 (Or.inr ⟨rfl, rfl, rfl⟩) rfl hk h (fun μ51 hm h => ?_)
  have hk := hm.k hk (by decide)
  refine a_aload_n 0 dX8_init_238 rfl rfl ?_
  refine a_iconst dX8_init_239 (okI_b _ rfl) ?_
  refine a_nac dX8_init_240 ac_char h (fun μ52 hm hq226 h => ?_)
  have hk := hm.k hk (by decide)
  refine a_dup dX8_init_242 rfl ?_
  refine a_iconst dX8_init_243 (okI_b _ rfl) ?_
  refine a_bipush dX8_init_244 ⟨rfl, okI_b _ rfl⟩ ?_
  refine a_cast (hz := by decide) dX8_init_246 h (fun μ53 hm h => ?_)
  have hk := hm.k hk (by decide)
  refine a_dup dX8_init_247 rfl ?_
  refine a_iconst dX8_init_248 (okI_b _ rfl) ?_
  refine a_bipush dX8_init_249 ⟨rfl, okI_b _ rfl⟩ ?_
  refine a_cast (hz := by decide) dX8_init_251 h (fun μ54 hm h => ?_)
  have hk := hm.k hk (by decide)
  refine a_dup dX8_init_252 rfl ?_
  refine a_iconst dX8_init_253 (okI_b _ rfl) ?_
  refine a_bipush dX8_init_254 ⟨rfl, okI_b _ rfl⟩ ?_
  refine a_cast (hz := by decide) dX8_init_256 h (fun μ55 hm h => ?_)
  have hk := hm.k hk (by decide)
  refine a_dup dX8_init_257 rfl ?_
  refine a_iconst dX8_init_258 (okI_b _ rfl) ?_
  refine a_bipush dX8_init_259 ⟨rfl, okI_b _ rfl⟩ ?_
  refine a_cast (hz := by decide) dX8_init_261 h (fun μ56 hm h => ?_)
  have hk := hm.k hk (by decide)
  refine a_putfr (c := 8) (i := 16) dX8_init_262 fRX8_39 g8_16 (Or.inr ⟨rfl, rfl, rfl⟩) rfl hk h (fun μ57 hm h => ?_)
  have hk := hm.k hk (by decide)
  refine a_aload_n 0 dX8_init_265 rfl rfl ?_
  refine a_bipush dX8_init_266 ⟨rfl, okI_b _ rfl⟩ ?_
  refine a_nac dX8_init_268 ac_char h (fun μ58 hm hq252 h => ?_)
  have hk := hm.k hk (by decide)
  refine a_dup dX8_init_270 rfl ?_
  refine a_iconst dX8_init_271 (okI_b _ rfl) ?_
  refine a_bipush dX8_init_272 ⟨rfl, okI_b _ rfl⟩ ?_
  refine a_cast (hz := by decide) dX8_init_274 h (fun μ59 hm h => ?_)
  have hk := hm.k hk (by decide)
  refine a_dup dX8_init_275 rfl ?_
  refine a_iconst dX8_init_276 (okI_b _ rfl) ?_
  refine a_bipush dX8_init_277 ⟨rfl, okI_b _ rfl⟩ ?_
  refine a_cast (hz := by decide) dX8_init_279 h (fun μ60 hm h => ?_)
  have hk := hm.k hk (by decide)
  refine a_dup dX8_init_280 rfl ?_
  refine a_iconst dX8_init_281 (okI_b _ rfl) ?_
  refine a_bipush dX8_init_282 ⟨rfl, okI_b _ rfl⟩ ?_
  refine a_cast (hz := by decide) dX8_init_284 h (fun μ61 hm h => ?_)
  have hk := hm.k hk (by decide)
  refine a_dup dX8_init_285 rfl ?_
  refine a_iconst dX8_init_286 (okI_b _ rfl) ?_
  refine a_bipush dX8_init_287 ⟨rfl, okI_b _ rfl⟩ ?_
  refine a_cast (hz := by decide) dX8_init_289 h (fun μ62 hm h => ?_)
  have hk := hm.k hk (by decide)
  refine a_dup dX8_init_290 rfl ?_
  refine a_iconst dX8_init_291 (okI_b _ rfl) ?_
  refine a_bipush dX8_init_292 ⟨rfl, okI_b _ rfl⟩ ?_
  refine a_cast (hz := by decide) dX8_init_294 h (fun μ63 hm h => ?_)
  have hk := hm.k hk (by decide)
  refine a_dup dX8_init_295 rfl ?_
  refine a_iconst dX8_init_296 (okI_b _ rfl) ?_
  refine a_bipush dX8_init_297 ⟨rfl, okI_b _ rfl⟩ ?_
  refine a_cast (hz := by decide) dX8_init_299 h (fun μ64 hm h => ?_)
  have hk := hm.k hk (by decide)
  refine a_dup dX8_init_300 rfl ?_
  refine a_bipush dX8_init_301 ⟨rfl, okI_b _ rfl⟩ ?_
  refine a_bipush dX8_init_303 ⟨rfl, okI_b _ rfl⟩ ?_
  refine a_cast (hz := by decide) dX8_init_305 h (fun μ65 hm h => ?_)
  have hk := hm.k hk (by decide)
  refine a_dup dX8_init_306 rfl ?_
  refine a_bipush dX8_init_307 ⟨rfl, okI_b _ rfl⟩ ?_
  refine a_bipush dX8_init_309 ⟨rfl, okI_b _ rfl⟩ ?_
  refine a_cast (hz := by decide) dX8_init_311 h (fun μ66 hm h => ?_)
  have hk := hm.k hk (by decide)
  refine a_putfr (c := 8) (i := 17) dX8_init_312 fRX8_42 g8_17 (Or.inr ⟨rfl, rfl, rfl⟩) rfl hk h (fun μ67 hm h => ?_)
  have hk := hm.k hk (by decide)
  refine a_aload_n 0 dX8_init_315 rfl rfl ?_
  refine a_iconst dX8_init_316 (okI_b _ rfl) ?_
  refine a_nac dX8_init_317 ac_char h (fun μ68 hm hq298 h => ?_)
  have hk := hm.k hk (by decide)
  refine a_dup dX8_init_319 rfl ?_
  refine a_iconst dX8_init_320 (okI_b _ rfl) ?_
  refine a_bipush dX8_init_321 ⟨rfl, okI_b _ rfl⟩ ?_
  refine a_cast (hz := by decide) dX8_init_323 h (fun μ69 hm h => ?_)
  have hk := hm.k hk (by decide)
  refine a_dup dX8_init_324 rfl ?_
  refine a_iconst dX8_init_325 (okI_b _ rfl) ?_
  refine a_bipush dX8_init_326 ⟨rfl, okI_b _ rfl⟩ ?_
  refine a_cast (hz := by decide) dX8_init_328 h (fun μ70 hm h => ?_)
  have hk := hm.k hk (by decide)
  refine a_dup dX8_init_329 rfl ?_
  refine a_iconst dX8_init_330 (okI_b _ rfl) ?_
  refine a_bipush dX8_init_331 ⟨rfl, okI_b _ rfl⟩ ?_
  refine a_cast (hz := by decide) dX8_init_333 h (fun μ71 hm h => ?_)
  have hk := hm.k hk (by decide)
  refine a_dup dX8_init_334 rfl ?_
  refine a_iconst dX8_init_335 (okI_b _ rfl) ?_
  refine a_bipush dX8_init_336 ⟨rfl, okI_b _ rfl⟩ ?_
  refine a_cast (hz := by decide) dX8_init_338 h (fun μ72 hm h => ?_)
  have hk := hm.k hk (by decide)
  refine a_dup dX8_init_339 rfl ?_
  refine a_iconst dX8_init_340 (okI_b _ rfl) ?_
  refine a_bipush dX8_init_341 ⟨rfl, okI_b _ rfl⟩ ?_
  refine a_cast (hz := by decide) dX8_init_343 h (fun μ73 hm h => ?_)
  have hk := hm.k hk (by decide)
  refine a_putfr (c := 8) (i := 18) dX8_init_344 fRX8_45 g8_18 (Or.inr ⟨rfl, rfl, rfl⟩) rfl hk h (fun μ74 hm h => ?_)
  have hk := hm.k hk (by decide)
  refine a_aload_n 0 dX8_init_347 rfl rfl ?_
  refine a_iconst dX8_init_348 (okI_b _ rfl) ?_
  refine a_nac dX8_init_349 ac_char h (fun μ75 hm hq329 h => ?_)
  have hk := hm.k hk (by decide)
  refine a_dup dX8_init_351 rfl ?_
  refine a_iconst dX8_init_352 (okI_b _ rfl) ?_
  refine a_bipush dX8_init_353 ⟨rfl, okI_b _ rfl⟩ ?_
  refine a_cast (hz := by decide) dX8_init_355 h (fun μ76 hm h => ?_)
  have hk := hm.k hk (by decide)
  refine a_dup dX8_init_356 rfl ?_
  refine a_iconst dX8_init_357 (okI_b _ rfl) ?_
  refine a_bipush dX8_init_358 ⟨rfl, okI_b _ rfl⟩ ?_
  refine a_cast (hz := by decide) dX8_init_360 h (fun μ77 hm h => ?_)
  have hk := hm.k hk (by decide)
  refine a_putfr (c := 8) (i := 19) dX8_init_361 fRX8_48 g8_19 (Or.inr ⟨rfl, rfl, rfl⟩) rfl hk h (fun μ78 hm h => ?_)
  have hk := hm.k hk (by decide)
  refine a_aload_n 0 dX8_init_364 rfl rfl ?_
  refine a_iconst dX8_init_365 (okI_b _ rfl) ?_
  refine a_nac dX8_init_366 ac_char h (fun μ79 hm hq345 h => ?_)
  have hk := hm.k hk (by decide)
  refine a_dup dX8_init_368 rfl ?_
  refine a_iconst dX8_init_369 (okI_b _ rfl) ?_
  refine a_bipush dX8_init_370 ⟨rfl, okI_b _ rfl⟩ ?_
  refine a_cast (hz := by decide) dX8_init_372 h (fun μ80 hm h => ?_)
  have hk := hm.k hk (by decide)
  refine a_dup dX8_init_373 rfl ?_
  refine a_iconst dX8_init_374 (okI_b _ rfl) ?_
  refine a_bipush dX8_init_375 ⟨rfl, okI_b _ rfl⟩ ?_
  refine a_cast (hz := by decide) dX8_init_377 h (fun μ81 hm h => ?_)
  have hk := hm.k hk (by decide)
  refine a_dup dX8_init_378 rfl ?_
  refine a_iconst dX8_init_379 (okI_b _ rfl) ?_
  refine a_bipush dX8_init_380 ⟨rfl, okI_b _ rfl⟩ ?_
  refine a_cast (hz := by decide) dX8_init_382 h (fun μ82 hm h => ?_)
  have hk := hm.k hk (by decide)
  refine a_putfr (c := 8) (i := 20) dX8_init_383 fRX8_51 g8_20 (Or.inr ⟨rfl, rfl, rfl⟩) rfl hk h (fun μ83 hm h => ?_)
  have hk := hm.k hk (by decide)
  refine a_aload_n 0 dX8_init_386 rfl rfl ?_
  refine a_iconst dX8_init_387 (okI_b _ rfl) ?_
  refine a_nac dX8_init_388 ac_char h (fun μ84 hm hq366 h => ?_)
  have hk := hm.k hk (by decide)
  refine a_dup dX8_init_390 rfl ?_
  refine a_iconst dX8_init_391 (okI_b _ rfl) ?_
  refine a_bipush dX8_init_392 ⟨rfl, okI_b _ rfl⟩ ?_
  refine a_cast (hz := by decide) dX8_init_394 h (fun μ85 hm h => ?_)
  have hk := hm.k hk (by decide)
  refine a_dup dX8_init_395 rfl ?_
  refine a_iconst dX8_init_396 (okI_b _ rfl) ?_
  refine a_bipush dX8_init_397 ⟨rfl, okI_b _ rfl⟩ ?_
  refine a_cast (hz := by decide) dX8_init_399 h (fun μ86 hm h => ?_)
  have hk := hm.k hk (by decide)
  refine a_dup dX8_init_400 rfl ?_
  refine a_iconst dX8_init_401 (okI_b _ rfl) ?_
  refine a_bipush dX8_init_402 ⟨rfl, okI_b _ rfl⟩ ?_
  refine a_cast (hz := by decide) dX8_init_404 h (fun μ87 hm h => ?_)
  have hk := hm.k hk (by decide)
  refine a_putfr (c := 8) (i := 21) dX8_init_405 fRX8_54 g8_21 (Or.inr ⟨rfl, rfl, rfl⟩) rfl hk h (fun μ88 hm h => ?_)
  have hk := hm.k hk (by decide)
  refine a_aload_n 0 dX8_init_408 rfl rfl ?_
  refine a_iconst dX8_init_409 (okI_b _ rfl) ?_
  refine a_nac dX8_init_410 ac_char h (fun μ89 hm hq387 h => ?_)
  have hk := hm.k hk (by decide)
  refine a_dup dX8_init_412 rfl ?_
  refine a_iconst dX8_init_413 (okI_b _ rfl) ?_
  refine a_bipush dX8_init_414 ⟨rfl, okI_b _ rfl⟩ ?_
  refine a_cast (hz := by decide) dX8_init_416 h (fun μ90 hm h => ?_)
  have hk := hm.k hk (by decide)
  refine a_dup dX8_init_417 rfl ?_
  refine a_iconst dX8_init_418 (okI_b _ rfl) ?_
  refine a_bipush dX8_init_419 ⟨rfl, okI_b _ rfl⟩ ?_
  refine a_cast (hz := by decide) dX8_init_421 h (fun μ91 hm h => ?_)
  have hk := hm.k hk (by decide)
  refine a_dup dX8_init_422 rfl ?_
  refine a_iconst dX8_init_423 (okI_b _ rfl) ?_
  refine a_bipush dX8_init_424 ⟨rfl, okI_b _ rfl⟩ ?_
  refine a_cast (hz := by decide) dX8_init_426 h (fun μ92 hm h => ?_)
  have hk := hm.k hk (by decide)
  refine a_putfr (c := 8) (i := 22) dX8_init_427 fRX8_57 g8_22 (Or.inr ⟨rfl, rfl, rfl⟩) rfl hk h (fun μ93 hm h => ?_)
  have hk := hm.k hk (by decide)
  refine a_aload_n 0 dX8_init_430 rfl rfl ?_
  refine a_iconst dX8_init_431 (okI_b _ rfl) ?_
  refine a_nac dX8_init_432 ac_char h (fun μ94 hm hq408 h => ?_)
  have hk := hm.k hk (by decide)
  refine a_dup dX8_init_434 rfl ?_
  refine a_iconst dX8_init_435 (okI_b _ rfl) ?_
  refine a_bipush dX8_init_436 ⟨rfl, okI_b _ rfl⟩ ?_
  refine a_cast (hz := by decide) dX8_init_438 h (fun μ95 hm h => ?_)
  have hk := hm.k hk (by decide)
  refine a_dup dX8_init_439 rfl ?_
  refine a_iconst dX8_init_440 (okI_b _ rfl) ?_
  refine a_bipush dX8_init_441 ⟨rfl, okI_b _ rfl⟩ ?_
  refine a_cast (hz := by decide) dX8_init_443 h (fun μ96 hm h => ?_)
  have hk := hm.k hk (by decide)
  refine a_dup dX8_init_444 rfl ?_
  refine a_iconst dX8_init_445 (okI_b _ rfl) ?_
  refine a_bipush dX8_init_446 ⟨rfl, okI_b _ rfl⟩ ?_
  refine a_cast (hz := by decide) dX8_init_448 h (fun μ97 hm h => ?_)
  have hk := hm.k hk (by decide)
  refine a_dup dX8_init_449 rfl ?_
  refine a_iconst dX8_init_450 (okI_b _ rfl) ?_
  refine a_bipush dX8_init_451 ⟨rfl, okI_b _ rfl⟩ ?_
  refine a_cast (hz := by decide) dX8_init_453 h (fun μ98 hm h => ?_)
  have hk := hm.k hk (by decide)
  refine a_dup dX8_init_454 rfl ?_
  refine a_iconst dX8_init_455 (okI_b _ rfl) ?_
  refine a_bipush dX8_init_456 ⟨rfl, okI_b _ rfl⟩ ?_
  refine a_cast (hz := by decide) dX8_init_458 h (fun μ99 hm h => ?_)
  have hk := hm.k hk (by decide)
  refine a_putfr (c := 8) (i := 23) dX8_init_459 fRX8_60 g8_23 (Or.inr ⟨rfl, rfl, rfl⟩) rfl hk h (fun μ100 hm h => ?_)
  have hk := hm.k hk (by decide)
  refine a_aload_n 0 dX8_init_462 rfl rfl ?_
  refine a_iconst dX8_init_463 (okI_b _ rfl) ?_
  refine a_nac dX8_init_464 ac_char h (fun μ101 hm hq439 h => ?_)
  have hk := hm.k hk (by decide)
  refine a_dup dX8_init_466 rfl ?_
  refine a_iconst dX8_init_467 (okI_b _ rfl) ?_
  refine a_bipush dX8_init_468 ⟨rfl, okI_b _ rfl⟩ ?_
  refine a_cast (hz := by decide) dX8_init_470 h (fun μ102 hm h => ?_)
  have hk := hm.k hk (by decide)
  refine a_dup dX8_init_471 rfl ?_
  refine a_iconst dX8_init_472 (okI_b _ rfl) ?_
  refine a_bipush dX8_init_473 ⟨rfl, okI_b _ rfl⟩ ?_
  refine a_cast (hz := by decide) dX8_init_475 h (fun μ103 hm h => ?_)
  have hk := hm.k hk (by decide)
  refine a_dup dX8_init_476 rfl ?_
  refine a_iconst dX8_init_477 (okI_b _ rfl) ?_
  refine a_bipush dX8_init_478 ⟨rfl, okI_b _ rfl⟩ ?_
  refine a_cast (hz := by decide) dX8_init_480 h (fun μ104 hm h => ?_)
  have hk := hm.k hk (by decide)
  refine a_dup dX8_init_481 rfl ?_
  refine a_iconst dX8_init_482 (okI_b _ rfl) ?_
  refine a_bipush dX8_init_483 ⟨rfl, okI_b _ rfl⟩ ?_
  refine a_cast (hz := by decide) dX8_init_485 h (fun μ105 hm h => ?_)
  have hk := hm.k hk (by decide)
  refine a_putfr (c := 8) (i := 24) dX8_init_486 fRX8_63 g8_24 (Or.inr ⟨rfl, rfl, rfl⟩) rfl hk h (fun μ106 hm h => ?_)
  have hk := hm.k hk (by decide)
  refine a_aload_n 0 dX8_init_489 rfl rfl ?_
  refine a_iconst dX8_init_490 (okI_b _ rfl) ?_
  refine a_nac dX8_init_491 ac_char h (fun μ107 hm hq465 h => ?_)
  have hk := hm.k hk (by decide)
  refine a_dup dX8_init_493 rfl ?_
  refine a_iconst dX8_init_494 (okI_b _ rfl) ?_
  refine a_bipush dX8_init_495 ⟨rfl, okI_b _ rfl⟩ ?_
  refine a_cast (hz := by decide) dX8_init_497 h (fun μ108 hm h => ?_)
  have hk := hm.k hk (by decide)
  refine a_dup dX8_init_498 rfl ?_
  refine a_iconst dX8_init_499 (okI_b _ rfl) ?_
  refine a_bipush dX8_init_500 ⟨rfl, okI_b _ rfl⟩ ?_
  refine a_cast (hz := by decide) dX8_init_502 h (fun μ109 hm h => ?_)
  have hk := hm.k hk (by decide)
  refine a_dup dX8_init_503 rfl ?_
  refine a_iconst dX8_init_504 (okI_b _ rfl) ?_
  refine a_bipush dX8_init_505 ⟨rfl, okI_b _ rfl⟩ ?_
  refine a_cast (hz := by decide) dX8_init_507 h (fun μ110 hm h => ?_)
  have hk := hm.k hk (by decide)
  refine a_dup dX8_init_508 rfl ?_
  refine a_iconst dX8_init_509 (okI_b _ rfl) ?_
  refine a_bipush dX8_init_510 ⟨rfl, okI_b _ rfl⟩ ?_
  refine a_cast (hz := by decide) dX8_init_512 h (fun μ111 hm h => ?_)
  have hk := hm.k hk (by decide)
  refine a_putfr (c := 8) (i := 25) dX8_init_513 fRX8_66 g8_25 (Or.inr ⟨rfl, rfl, rfl⟩) rfl hk h (fun μ112 hm h => ?_)
  have hk := hm.k hk (by decide)
  refine a_aload_n 0 dX8_init_516 rfl rfl ?_
  refine a_iconst dX8_init_517 (okI_b _ rfl) ?_
  refine a_nac dX8_init_518 ac_char h (fun μ113 hm hq491 h => ?_)
  have hk := hm.k hk (by decide)
  refine a_dup dX8_init_520 rfl ?_
  refine a_iconst dX8_init_521 (okI_b _ rfl) ?_
  refine a_bipush dX8_init_522 ⟨rfl, okI_b _ rfl⟩ ?_
  refine a_cast (hz := by decide) dX8_init_524 h (fun μ114 hm h => ?_)
  have hk := hm.k hk (by decide)
  refine a_dup dX8_init_525 rfl ?_
  refine a_iconst dX8_init_526 (okI_b _ rfl) ?_
  refine a_bipush dX8_init_527 ⟨rfl, okI_b _ rfl⟩ ?_
  refine a_cast (hz := by decide) dX8_init_529 h (fun μ115 hm h => ?_)
  have hk := hm.k hk (by decide)
  refine a_dup dX8_init_530 rfl ?_
  refine a_iconst dX8_init_531 (okI_b _ rfl) ?_
  refine a_bipush dX8_init_532 ⟨rfl, okI_b _ rfl⟩ ?_
  refine a_cast (hz := by decide) dX8_init_534 h (fun μ116 hm h => ?_)
  have hk := hm.k hk (by decide)
  refine a_dup dX8_init_535 rfl ?_
  refine a_iconst dX8_init_536 (okI_b _ rfl) ?_
  refine a_bipush dX8_init_537 ⟨rfl, okI_b _ rfl⟩ ?_
  refine a_cast (hz := by decide) dX8_init_539 h (fun μ117 hm h => ?_)
  have hk := hm.k hk (by decide)
  refine a_dup dX8_init_540 rfl ?_
  refine a_iconst dX8_init_541 (okI_b _ rfl) ?_
  refine a_bipush dX8_init_542 ⟨rfl, okI_b _ rfl⟩ ?_
  refine a_cast (hz := by decide) dX8_init_544 h (fun μ118 hm h => ?_)
  have hk := hm.k hk (by decide)
  refine a_putfr (c := 8) (i := 26) dX8_init_545 fRX8_69 g8_26 (Or.inr ⟨rfl, rfl, rfl⟩) rfl hk h (fun μ119 hm h => ?_)
  have hk := hm.k hk (by decide)
  refine a_aload_n 0 dX8_init_548 rfl rfl ?_
  refine a_iconst dX8_init_549 (okI_b _ rfl) ?_
  refine a_nac dX8_init_550 ac_char h (fun μ120 hm hq522 h => ?_)
  have hk := hm.k hk (by decide)
  refine a_dup dX8_init_552 rfl ?_
  refine a_iconst dX8_init_553 (okI_b _ rfl) ?_
  refine a_bipush dX8_init_554 ⟨rfl, okI_b _ rfl⟩ ?_
  refine a_cast (hz := by decide) dX8_init_556 h (fun μ121 hm h => ?_)
  have hk := hm.k hk (by decide)
  refine a_dup dX8_init_557 rfl ?_
  refine a_iconst dX8_init_558 (okI_b _ rfl) ?_
  refine a_bipush dX8_init_559 ⟨rfl, okI_b _ rfl⟩ ?_
  refine a_cast (hz := by decide) dX8_init_561 h (fun μ122 hm h => ?_)
  have hk := hm.k hk (by decide)
  refine a_dup dX8_init_562 rfl ?_
  refine a_iconst dX8_init_563 (okI_b _ rfl) ?_
  refine a_bipush dX8_init_564 ⟨rfl, okI_b _ rfl⟩ ?_
  refine a_cast (hz := by decide) dX8_init_566 h (fun μ123 hm h => ?_)
  have hk := hm.k hk (by decide)
  refine a_dup dX8_init_567 rfl ?_
  refine a_iconst dX8_init_568 (okI_b _ rfl) ?_
  refine a_bipush dX8_init_569 ⟨rfl, okI_b _ rfl⟩ ?_
  refine a_cast (hz := by decide) dX8_init_571 h (fun μ124 hm h => ?_)
  have hk := hm.k hk (by decide)
  refine a_putfr (c := 8) (i := 27) dX8_init_572 fRX8_72 g8_27 (Or.inr ⟨rfl, rfl, rfl⟩) rfl hk h (fun μ125 hm h => ?_)
  have hk := hm.k hk (by decide)
  refine a_aload_n 0 dX8_init_575 rfl rfl ?_
  refine a_iconst dX8_init_576 (okI_b _ rfl) ?_
  refine a_nac dX8_init_577 ac_char h (fun μ126 hm hq548 h => ?_)
  have hk := hm.k hk (by decide)
  refine a_dup dX8_init_579 rfl ?_
  refine a_iconst dX8_init_580 (okI_b _ rfl) ?_
  refine a_bipush dX8_init_581 ⟨rfl, okI_b _ rfl⟩ ?_
  refine a_cast (hz := by decide) dX8_init_583 h (fun μ127 hm h => ?_)
  have hk := hm.k hk (by decide)
  refine a_dup dX8_init_584 rfl ?_
  refine a_iconst dX8_init_585 (okI_b _ rfl) ?_
  refine a_bipush dX8_init_586 ⟨rfl, okI_b _ rfl⟩ ?_
  refine a_cast (hz := by decide) dX8_init_588 h (fun μ128 hm h => ?_)
  have hk := hm.k hk (by decide)
  refine a_dup dX8_init_589 rfl ?_
  refine a_iconst dX8_init_590 (okI_b _ rfl) ?_
  refine a_bipush dX8_init_591 ⟨rfl, okI_b _ rfl⟩ ?_
  refine a_cast (hz := by decide) dX8_init_593 h (fun μ129 hm h => ?_)
  have hk := hm.k hk (by decide)
  refine a_dup dX8_init_594 rfl ?_
  refine a_iconst dX8_init_595 (okI_b _ rfl) ?_
  refine a_bipush dX8_init_596 ⟨rfl, okI_b _ rfl⟩ ?_
  refine a_cast (hz := by decide) dX8_init_598 h (fun μ130 hm h => ?_)
  have hk := hm.k hk (by decide)
  refine a_dup dX8_init_599 rfl ?_
  refine a_iconst dX8_init_600 (okI_b _ rfl) ?_
  refine a_bipush dX8_init_601 ⟨rfl, okI_b _ rfl⟩ ?_
  refine a_cast (hz := by decide) dX8_init_603 h (fun μ131 hm h => ?_)
  have hk := hm.k hk (by decide)
  refine a_putfr (c := 8) (i := 28) dX8_init_604 fRX8_75 g8_28 (Or.inr ⟨rfl, rfl, rfl⟩) rfl hk h (fun μ132 hm h => ?_)
  have hk := hm.k hk (by decide)
  refine a_aload_n 0 dX8_init_607 rfl rfl ?_
  refine a_iconst dX8_init_608 (okI_b _ rfl) ?_
  refine a_nac dX8_init_609 ac_char h (fun μ133 hm hq579 h => ?_)
  have hk := hm.k hk (by decide)
  refine a_dup dX8_init_611 rfl ?_
  refine a_iconst dX8_init_612 (okI_b _ rfl) ?_
  refine a_bipush dX8_init_613 ⟨rfl, okI_b _ rfl⟩ ?_
  refine a_cast (hz := by decide) dX8_init_615 h (fun μ134 hm h => ?_)
  have hk := hm.k hk (by decide)
  refine a_dup dX8_init_616 rfl ?_
  refine a_iconst dX8_init_617 (okI_b _ rfl) ?_
  refine a_bipush dX8_init_618 ⟨rfl, okI_b _ rfl⟩ ?_
  refine a_cast (hz := by decide) dX8_init_620 h (fun μ135 hm h => ?_)
  have hk := hm.k hk (by decide)
  refine a_dup dX8_init_621 rfl ?_
  refine a_iconst dX8_init_622 (okI_b _ rfl) ?_
  refine a_bipush dX8_init_623 ⟨rfl, okI_b _ rfl⟩ ?_
  refine a_cast (hz := by decide) dX8_init_625 h (fun μ136 hm h => ?_)
  have hk := hm.k hk (by decide)
  refine a_putfr (c := 8) (i := 29) dX8_init_626 fRX8_78 g8_29 (Or.inr ⟨rfl, rfl, rfl⟩) rfl hk h (fun μ137 hm h => ?_)
  have hk := hm.k hk (by decide)
  refine a_aload_n 0 dX8_init_629 rfl rfl ?_
  refine a_iconst dX8_init_630 (okI_b _ rfl) ?_
  refine a_nac dX8_init_631 ac_char h (fun μ138 hm hq600 h => ?_)
  have hk := hm.k hk (by decide)
  refine a_dup dX8_init_633 rfl ?_
  refine a_iconst dX8_init_634 (okI_b _ rfl) ?_
  refine a_bipush dX8_init_635 ⟨rfl, okI_b _ rfl⟩ ?_
  refine a_cast (hz := by decide) dX8_init_637 h (fun μ139 hm h => ?_)
  have hk := hm.k hk (by decide)
  refine a_dup dX8_init_638 rfl ?_
  refine a_iconst dX8_init_639 (okI_b _ rfl) ?_
  refine a_bipush dX8_init_640 ⟨rfl, okI_b _ rfl⟩ ?_
  refine a_cast (hz := by decide) dX8_init_642 h (fun μ140 hm h => ?_)
  have hk := hm.k hk (by decide)
  refine a_dup dX8_init_643 rfl ?_
  refine a_iconst dX8_init_644 (okI_b _ rfl) ?_
  refine a_bipush dX8_init_645 ⟨rfl, okI_b _ rfl⟩ ?_
  refine a_cast (hz := by decide) dX8_init_647 h (fun μ141 hm h => ?_)
  have hk := hm.k hk (by decide)
  refine a_putfr (c := 8) (i := 30) dX8_init_648 fRX8_81 g8_30 (Or.inr ⟨rfl, rfl, rfl⟩) rfl hk h (fun μ142 hm h => ?_)
  have hk := hm.k hk (by decide)
  refine a_aload_n 0 dX8_init_651 rfl rfl ?_
  refine a_iconst dX8_init_652 (okI_b _ rfl) ?_
  refine a_nai dX8_init_653 ac_int h (fun μ143 hm hq621 h => ?_)
  have hk := hm.k hk (by decide)
  refine a_dup dX8_init_655 rfl ?_
  refine a_iconst dX8_init_656 (okI_b _ rfl) ?_
  refine a_bipush dX8_init_657 ⟨rfl, okI_b _ rfl⟩ ?_
  refine a_iast dX8_init_659 h (fun μ144 hm h => ?_)
  have hk := hm.k hk (by decide)
  refine a_dup dX8_init_660 rfl ?_
  refine a_iconst dX8_init_661 (okI_b _ rfl) ?_
  refine a_bipush dX8_init_662 ⟨rfl, okI_b _ rfl⟩ ?_
  refine a_iast dX8_init_664 h (fun μ145 hm h => ?_)
  have hk := hm.k hk (by decide)
  refine a_putfr (c := 8) (i := 31) dX8_init_665 fRX8_84 g8_31 (Or.inr ⟨rfl, rfl, rfl⟩) rfl hk h (fun μ146 hm h => ?_)
  have hk := hm.k hk (by decide)
  refine a_aload_n 0 dX8_init_668 rfl rfl ?_
  refine a_iconst dX8_init_669 (okI_b _ rfl) ?_
  refine a_nai dX8_init_670 ac_int h (fun μ147 hm hq637 h => ?_)
  have hk := hm.k hk (by decide)
  refine a_dup dX8_init_672 rfl ?_
  refine a_iconst dX8_init_673 (okI_b _ rfl) ?_
  refine a_bipush dX8_init_674 ⟨rfl, okI_b _ rfl⟩ ?_
  refine a_iast dX8_init_676 h (fun μ148 hm h => ?_)
  have hk := hm.k hk (by decide)
  refine a_dup dX8_init_677 rfl ?_
  refine a_iconst dX8_init_678 (okI_b _ rfl) ?_
  refine a_bipush dX8_init_679 ⟨rfl, okI_b _ rfl⟩ ?_
  refine a_iast dX8_init_681 h (fun μ149 hm h => ?_)
  have hk := hm.k hk (by decide)
  refine a_putfr (c := 8) (i := 32) dX8_init_682 fRX8_87 g8_32 (Or.inr ⟨rfl, rfl, rfl⟩) rfl hk h (fun μ150 hm h => ?_)
  have hk := hm.k hk (by decide)
  refine a_aload_n 0 dX8_init_685 rfl rfl ?_
  refine a_iconst dX8_init_686 (okI_b _ rfl) ?_
  refine a_nai dX8_init_687 ac_int h (fun μ151 hm hq653 h => ?_)
  have hk := hm.k hk (by decide)
  refine a_dup dX8_init_689 rfl ?_
  refine a_iconst dX8_init_690 (okI_b _ rfl) ?_
  refine a_iconst dX8_init_691 (okI_b _ rfl) ?_
  refine a_iast dX8_init_692 h (fun μ152 hm h => ?_)
  have hk := hm.k hk (by decide)
  refine a_dup dX8_init_693 rfl ?_
  refine a_iconst dX8_init_694 (okI_b _ rfl) ?_
  refine a_iconst dX8_init_695 (okI_b _ rfl) ?_
  refine a_iast dX8_init_696 h (fun μ153 hm h => ?_)
  have hk := hm.k hk (by decide)
  refine a_putfr (c := 8) (i := 33) dX8_init_697 fRX8_90 g8_33 (Or.inr ⟨rfl, rfl, rfl⟩) rfl hk h (fun μ154 hm h => ?_)
  have hk := hm.k hk (by decide)
  refine a_aload_n 0 dX8_init_700 rfl rfl ?_
  refine a_iconst dX8_init_701 (okI_b _ rfl) ?_
  refine a_nai dX8_init_702 ac_int h (fun μ155 hm hq669 h => ?_)
  have hk := hm.k hk (by decide)
  refine a_putfr (c := 8) (i := 34) dX8_init_704 fRX8_93 g8_34 (Or.inr ⟨rfl, rfl, rfl⟩) rfl hk h (fun μ156 hm h => ?_)
  have hk := hm.k hk (by decide)
  refine a_aload_n 0 dX8_init_707 rfl rfl ?_
  refine a_bipush dX8_init_708 ⟨rfl, okI_b _ rfl⟩ ?_
  refine a_nai dX8_init_710 ac_int h (fun μ157 hm hq675 h => ?_)
  have hk := hm.k hk (by decide)
  refine a_putfr (c := 8) (i := 35) dX8_init_712 fRX8_96 g8_35 (Or.inr ⟨rfl, rfl, rfl⟩) rfl hk h (fun μ158 hm h => ?_)
  have hk := hm.k hk (by decide)
  refine a_aload_n 0 dX8_init_715 rfl rfl ?_
  refine a_iconst dX8_init_716 (okI_b _ rfl) ?_
  refine a_nai dX8_init_717 ac_int h (fun μ159 hm hq681 h => ?_)
  have hk := hm.k hk (by decide)
  refine a_putfr (c := 8) (i := 36) dX8_init_719 fRX8_99 g8_36 (Or.inr ⟨rfl, rfl, rfl⟩) rfl hk h (fun μ160 hm h => ?_)
  have hk := hm.k hk (by decide)
  refine a_aload_n 0 dX8_init_722 rfl rfl ?_
  refine a_bipush dX8_init_723 ⟨rfl, okI_b _ rfl⟩ ?_
  refine a_nai dX8_init_725 ac_int h (fun μ161 hm hq687 h => ?_)
  have hk := hm.k hk (by decide)
  refine a_putfr (c := 8) (i := 37) dX8_init_727 fRX8_102 g8_37 (Or.inr ⟨rfl, rfl, rfl⟩) rfl hk h (fun μ162 hm h => ?_)
  have hk := hm.k hk (by decide)
  refine a_aload_n 0 dX8_init_730 rfl rfl ?_
  refine a_bipush dX8_init_731 ⟨rfl, okI_b _ rfl⟩ ?_
  refine a_nai dX8_init_733 ac_int h (fun μ163 hm hq693 h => ?_)
  have hk := hm.k hk (by decide)
  refine a_putfr (c := 8) (i := 38) dX8_init_735 fRX8_105 g8_38 (Or.inr ⟨rfl, rfl, rfl⟩) rfl hk h (fun μ164 hm h => ?_)
  have hk := hm.k hk (by decide)
  refine a_aload_n 0 dX8_init_738 rfl rfl ?_
  refine a_bipush dX8_init_739 ⟨rfl, okI_b _ rfl⟩ ?_
  refine a_nai dX8_init_741 ac_int h (fun μ165 hm hq699 h => ?_)
  have hk := hm.k hk (by decide)
  refine a_putfr (c := 8) (i := 39) dX8_init_743 fRX8_108 g8_39 (Or.inr ⟨rfl, rfl, rfl⟩) rfl hk h (fun μ166 hm h => ?_)
  have hk := hm.k hk (by decide)
  refine a_aload_n 0 dX8_init_746 rfl rfl ?_
  refine a_iconst dX8_init_747 (okI_b _ rfl) ?_
  refine a_nai dX8_init_748 ac_int h (fun μ167 hm hq705 h => ?_)
  have hk := hm.k hk (by decide)
  refine a_putfr (c := 8) (i := 40) dX8_init_750 fRX8_111 g8_40 (Or.inr ⟨rfl, rfl, rfl⟩) rfl hk h (fun μ168 hm h => ?_)
  have hk := hm.k hk (by decide)
  refine a_aload_n 0 dX8_init_753 rfl rfl ?_
  refine a_iconst dX8_init_754 (okI_b _ rfl) ?_
  refine a_nai dX8_init_755 ac_int h (fun μ169 hm hq711 h => ?_)
  have hk := hm.k hk (by decide)
  refine a_putfr (c := 8) (i := 41) dX8_init_757 fRX8_114 g8_41 (Or.inr ⟨rfl, rfl, rfl⟩) rfl hk h (fun μ170 hm h => ?_)
  have hk := hm.k hk (by decide)
  refine a_aload_n 0 dX8_init_760 rfl rfl ?_
  refine a_sipush dX8_init_761 ⟨rfl, okI_b _ rfl⟩ ?_
  refine a_naz dX8_init_764 ac_boolean h (fun μ171 hm hq717 h => ?_)
  have hk := hm.k hk (by decide)
  refine a_putfr (c := 8) (i := 42) dX8_init_766 fRX8_117 g8_42 (Or.inr ⟨rfl, rfl, rfl⟩) rfl hk h (fun μ172 hm h => ?_)
  have hk := hm.k hk (by decide)
  refine a_aload_n 0 dX8_init_769 rfl rfl ?_
  refine a_sipush dX8_init_770 ⟨rfl, okI_b _ rfl⟩ ?_
  refine a_nai dX8_init_773 ac_int h (fun μ173 hm hq723 h => ?_)
  have hk := hm.k hk (by decide)
  refine a_putfr (c := 8) (i := 43) dX8_init_775 fRX8_121 g8_43 (Or.inr ⟨rfl, rfl, rfl⟩) rfl hk h (fun μ174 hm h => ?_)
  have hk := hm.k hk (by decide)
  refine a_aload_n 0 dX8_init_778 rfl rfl ?_
  refine a_sipush dX8_init_779 ⟨rfl, okI_b _ rfl⟩ ?_
  refine a_nai dX8_init_782 ac_int h (fun μ175 hm hq729 h => ?_)
  have hk := hm.k hk (by decide)
  refine a_putfr (c := 8) (i := 45) dX8_init_784 fRX8_124 g8_45 (Or.inr ⟨rfl, rfl, rfl⟩) rfl hk h (fun μ176 hm h => ?_)
  have hk := hm.k hk (by decide)
  refine a_aload_n 0 dX8_init_787 rfl rfl ?_
  refine a_sipush dX8_init_788 ⟨rfl, okI_b _ rfl⟩ ?_
  refine a_nal dX8_init_791 ac_long h (fun μ177 hm hq735 h => ?_)
  have hk := hm.k hk (by decide)
  refine a_putfr (c := 8) (i := 50) dX8_init_793 fRX8_127 g8_50 (Or.inr ⟨rfl, rfl, rfl⟩) rfl hk h (fun μ178 hm h => ?_)
  have hk := hm.k hk (by decide)
  refine a_aload_n 0 dX8_init_796 rfl rfl ?_
  refine a_bipush dX8_init_797 ⟨rfl, okI_b _ rfl⟩ ?_
  refine a_nai dX8_init_799 ac_int h (fun μ179 hm hq741 h => ?_)
  have hk := hm.k hk (by decide)
  refine a_putfr (c := 8) (i := 59) dX8_init_801 fRX8_131 g8_59 (Or.inr ⟨rfl, rfl, rfl⟩) rfl hk h (fun μ180 hm h => ?_)
  have hk := hm.k hk (by decide)
  refine a_aload_n 0 dX8_init_804 rfl rfl ?_
  refine a_bipush dX8_init_805 ⟨rfl, okI_b _ rfl⟩ ?_
  refine a_nai dX8_init_807 ac_int h (fun μ181 hm hq747 h => ?_)
  have hk := hm.k hk (by decide)
  refine a_putfr (c := 8) (i := 60) dX8_init_809 fRX8_134 g8_60 (Or.inr ⟨rfl, rfl, rfl⟩) rfl hk h (fun μ182 hm h => ?_)
  have hk := hm.k hk (by decide)
  refine a_aload_n 0 dX8_init_812 rfl rfl ?_
  refine a_bipush dX8_init_813 ⟨rfl, okI_b _ rfl⟩ ?_
  refine a_nai dX8_init_815 ac_int h (fun μ183 hm hq753 h => ?_)
  have hk := hm.k hk (by decide)
  refine a_putfr (c := 8) (i := 61) dX8_init_817 fRX8_137 g8_61 (Or.inr ⟨rfl, rfl, rfl⟩) rfl hk h (fun μ184 hm h => ?_)
  have hk := hm.k hk (by decide)
  refine a_aload_n 0 dX8_init_820 rfl rfl ?_
  refine a_bipush dX8_init_821 ⟨rfl, okI_b _ rfl⟩ ?_
  refine a_nai dX8_init_823 ac_int h (fun μ185 hm hq759 h => ?_)
  have hk := hm.k hk (by decide)
  refine a_putfr (c := 8) (i := 62) dX8_init_825 fRX8_140 g8_62 (Or.inr ⟨rfl, rfl, rfl⟩) rfl hk h (fun μ186 hm h => ?_)
  have hk := hm.k hk (by decide)
  refine a_aload_n 0 dX8_init_828 rfl rfl ?_
  refine a_bipush dX8_init_829 ⟨rfl, okI_b _ rfl⟩ ?_
  refine a_nai dX8_init_831 ac_int h (fun μ187 hm hq765 h => ?_)
  have hk := hm.k hk (by decide)
  refine a_putfr (c := 8) (i := 63) dX8_init_833 fRX8_143 g8_63 (Or.inr ⟨rfl, rfl, rfl⟩) rfl hk h (fun μ188 hm h => ?_)
  have hk := hm.k hk (by decide)
  refine a_aload_n 0 dX8_init_836 rfl rfl ?_
  refine a_bipush dX8_init_837 ⟨rfl, okI_b _ rfl⟩ ?_
  refine a_nai dX8_init_839 ac_int h (fun μ189 hm hq771 h => ?_)
  have hk := hm.k hk (by decide)
  refine a_putfr (c := 8) (i := 64) dX8_init_841 fRX8_146 g8_64 (Or.inr ⟨rfl, rfl, rfl⟩) rfl hk h (fun μ190 hm h => ?_)
  have hk := hm.k hk (by decide)
  refine a_aload_n 0 dX8_init_844 rfl rfl ?_
  refine a_ldc (x := 228960) dX8_init_845 kRX8_149 ⟨rfl, okI_b _ rfl⟩ ?_
  refine a_nal dX8_init_847 ac_long h (fun μ191 hm hq777 h => ?_)
  have hk := hm.k hk (by decide)
  refine a_putfr (c := 8) (i := 69) dX8_init_849 fRX8_150 g8_69 (Or.inr ⟨rfl, rfl, rfl⟩) rfl hk h (fun μ192 hm h => ?_)
  have hk := hm.k hk (by decide)
  refine a_aload_n 0 dX8_init_852 rfl rfl ?_
  refine a_ldc (x := 228960) dX8_init_853 kRX8_149 ⟨rfl, okI_b _ rfl⟩ ?_
  refine a_nal dX8_init_855 ac_long h (fun μ193 hm hq783 h => ?_)
  have hk := hm.k hk (by decide)
  refine a_putfr (c := 8) (i := 71) dX8_init_857 fRX8_153 g8_71 (Or.inr ⟨rfl, rfl, rfl⟩) rfl hk h (fun μ194 hm h => ?_)
  have hk := hm.k hk (by decide)
  refine a_aload_n 0 dX8_init_860 rfl rfl ?_
  refine a_iconst dX8_init_861 (okI_b _ rfl) ?_
  refine a_nai dX8_init_862 ac_int h (fun μ195 hm hq789 h => ?_)
  have hk := hm.k hk (by decide)
  refine a_putfr (c := 8) (i := 73) dX8_init_864 fRX8_156 g8_73 (Or.inr ⟨rfl, rfl, rfl⟩) rfl hk h (fun μ196 hm h => ?_)
  have hk := hm.k hk (by decide)
  refine a_aload_n 0 dX8_init_867 rfl rfl ?_
  refine a_sipush dX8_init_868 ⟨rfl, okI_b _ rfl⟩ ?_
  refine a_nal dX8_init_871 ac_long h (fun μ197 hm hq795 h => ?_)
  have hk := hm.k hk (by decide)
  refine a_putfr (c := 8) (i := 77) dX8_init_873 fRX8_159 g8_77 (Or.inr ⟨rfl, rfl, rfl⟩) rfl hk h (fun μ198 hm h => ?_)
  have hk := hm.k hk (by decide)
  refine a_aload_n 0 dX8_init_876 rfl rfl ?_
  refine a_sipush dX8_init_877 ⟨rfl, okI_b _ rfl⟩ ?_
  refine a_naz dX8_init_880 ac_boolean h (fun μ199 hm hq801 h => ?_)
  have hk := hm.k hk (by decide)
  refine a_putfr (c := 8) (i := 79) dX8_init_882 fRX8_162 g8_79 (Or.inr ⟨rfl, rfl, rfl⟩) rfl hk h (fun μ200 hm h => ?_)
  have hk := hm.k hk (by decide)
  refine a_aload_n 0 dX8_init_885 rfl rfl ?_
  refine a_sipush dX8_init_886 ⟨rfl, okI_b _ rfl⟩ ?_
  refine a_naz dX8_init_889 ac_boolean h (fun μ201 hm hq807 h => ?_)
  have hk := hm.k hk (by decide)
  refine a_putfr (c := 8) (i := 80) dX8_init_891 fRX8_165 g8_80 (Or.inr ⟨rfl, rfl, rfl⟩) rfl hk h (fun μ202 hm h => ?_)
  have hk := hm.k hk (by decide)
  refine a_aload_n 0 dX8_init_894 rfl rfl ?_
  refine a_bipush dX8_init_895 ⟨rfl, okI_b _ rfl⟩ ?_
  refine a_nai dX8_init_897 ac_int h (fun μ203 hm hq813 h => ?_)
  have hk := hm.k hk (by decide)
  refine a_putfr (c := 8) (i := 81) dX8_init_899 fRX8_168 g8_81 (Or.inr ⟨rfl, rfl, rfl⟩) rfl hk h (fun μ204 hm h => ?_)
  have hk := hm.k hk (by decide)
  refine a_aload_n 0 dX8_init_902 rfl rfl ?_
  refine a_bipush dX8_init_903 ⟨rfl, okI_b _ rfl⟩ ?_
  refine a_nai dX8_init_905 ac_int h (fun μ205 hm hq819 h => ?_)
  have hk := hm.k hk (by decide)
  refine a_putfr (c := 8) (i := 82) dX8_init_907 fRX8_171 g8_82 (Or.inr ⟨rfl, rfl, rfl⟩) rfl hk h (fun μ206 hm h => ?_)
  have hk := hm.k hk (by decide)
  refine a_aload_n 0 dX8_init_910 rfl rfl ?_
  refine a_bipush dX8_init_911 ⟨rfl, okI_b _ rfl⟩ ?_
  refine a_nai dX8_init_913 ac_int h (fun μ207 hm hq825 h => ?_)
  have hk := hm.k hk (by decide)
  refine a_putfr (c := 8) (i := 83) dX8_init_915 fRX8_174 g8_83 (Or.inr ⟨rfl, rfl, rfl⟩) rfl hk h (fun μ208 hm h => ?_)
  have hk := hm.k hk (by decide)
  refine a_aload_n 0 dX8_init_918 rfl rfl ?_
  refine a_bipush dX8_init_919 ⟨rfl, okI_b _ rfl⟩ ?_
  refine a_nai dX8_init_921 ac_int h (fun μ209 hm hq831 h => ?_)
  have hk := hm.k hk (by decide)
  refine a_putfr (c := 8) (i := 85) dX8_init_923 fRX8_177 g8_85 (Or.inr ⟨rfl, rfl, rfl⟩) rfl hk h (fun μ210 hm h => ?_)
  have hk := hm.k hk (by decide)
  exact a_ret0 dX8_init_926 h
-- X8_isPlayer
abbrev aX8_isPlayer (E : m_E) (l : Launch) (d : Nat) (z : Nat × Nat) (pc : Nat) (L : List (Nat × AV)) (st : List AV) (μ : Mm) (ρ : Option AV × Mm) : Prop := AA E l d z RX8 "isPlayer" cX8_isPlayer 1 (some .boolean) pc L st μ ρ
theorem tX8_isPlayer (E : m_E) (l : Launch) (N : Nat) (l0 : Int) (μ : Mm) (t : Int × Mm) (h : jX8_isPlayer N l0 μ = some t) : TT E l 2 yX8_isPlayer cX8_isPlayer 1 (some .boolean) [vi l0] μ (rI t) := by
  refine tt_of (L := [(0, vi l0)]) (by decide +kernel) (Nat.le_of_ble_eq_true rfl) rfl ?_
  show aX8_isPlayer E l 2 (m_sz μ, m_sl μ) 0 [(0, vi l0)] [] μ (rI t)
  unfold jX8_isPlayer at h
  refine a_iload_n 0 dX8_isPlayer_0 rfl rfl ?_
  refine a_i2l dX8_isPlayer_1 ?_
  refine a_lconst (v := 0) dX8_isPlayer_2 ⟨rfl, okJ_b _ rfl⟩ ?_
  refine a_ldc2 (x := 5) dX8_isPlayer_3 kRX8_537 ⟨rfl, okJ_b _ rfl⟩ ?_
  refine a_cSi [vl (i_2l l0), vl 0, vl 5] [] dX8_isPlayer_6 myX8_isIn mRX8_223 msX8_isIn (fun _ hj => tX8_isIn E l N (i_2l l0) 0 5 μ _  hj) (by decide) rfl (Nat.le_of_ble_eq_true rfl) h (fun x1 μ1 hm h => ?_)
  exact a_retz dX8_isPlayer_9 h
-- X8_keep
abbrev aX8_keep (E : m_E) (l : Launch) (d : Nat) (z : Nat × Nat) (pc : Nat) (L : List (Nat × AV)) (st : List AV) (μ : Mm) (ρ : Option AV × Mm) : Prop := AA E l d z RX8 "keep" cX8_keep 2 (some .int) pc L st μ ρ
theorem tX8_keep_29 (E : m_E) (l : Launch) (z : Nat × Nat) (N : Nat) (l0 : Int) (μ : Mm) (t : Int × Mm) (hk : m_kd μ l0 = (8, 0)) (h : jX8_keep_29 N l0 μ = some t) : aX8_keep E l 7 z 29 [(0, vr l0)] [] μ (rI t) := by
  unfold jX8_keep_29 at h
  refine a_iconst dX8_keep_29 (okI_b _ rfl) ?_
  exact a_reti dX8_keep_30 h
theorem tX8_keep (E : m_E) (l : Launch) (N : Nat) (l0 l1 : Int) (μ : Mm) (t : Int × Mm) (hk : m_kd μ l0 = (8, 0)) (h : jX8_keep N l0 l1 μ = some t) : TT E l 7 yX8_keep cX8_keep 2 (some .int) [vr l0, vi l1] μ (rI t) := by
  refine tt_of (L := [(0, vr l0), (1, vi l1)]) (by decide +kernel) (Nat.le_of_ble_eq_true rfl) rfl ?_
  show aX8_keep E l 7 (m_sz μ, m_sl μ) 0 [(0, vr l0), (1, vi l1)] [] μ (rI t)
  unfold jX8_keep at h
  refine a_aload_n 0 dX8_keep_0 rfl rfl ?_
  refine a_cVv (c := 8) [] [] dX8_keep_1 myX8_goesThrough mRX8_410 mvX8_goesThrough rfl (by decide) hk (fun _ hj => tX8_goesThrough E l N l0 μ _ hk hj) (by decide) rfl (Nat.le_of_ble_eq_true rfl) h (fun μ1 hm h => ?_)
  have hk := hm.k hk (by decide)
  refine a_iload_n 1 dX8_keep_4 rfl rfl ?_
  refine a_cSi [vi l1] [] dX8_keep_5 myX8_isPlayer mRX8_539 msX8_isPlayer (fun _ hj => tX8_isPlayer E l N l1 μ1 _  hj) (by decide) rfl (Nat.le_of_ble_eq_true rfl) h (fun x1 μ2 hm h => ?_)
  have hk := hm.k hk (by decide)
  refine a_if_eq (tgt := 29) dX8_keep_8 rfl h (fun h => ?_) (fun h => ?_)
  ·
    exact a_sub [0] rfl (tX8_keep_29 E l _ N l0 μ2 t hk h)
  ·
    refine a_aload_n 0 dX8_keep_11 rfl rfl ?_
    refine a_getfz (c := 8) (i := 68) dX8_keep_12 fRX8_404 g8_68 rfl hk ?_
    refine a_if_eq (tgt := 29) dX8_keep_15 rfl h (fun h => ?_) (fun h => ?_)
    ·
      exact a_sub [0] rfl (tX8_keep_29 E l _ N l0 μ2 t hk h)
    ·
      refine a_aload_n 0 dX8_keep_18 rfl rfl ?_
      refine a_getfr (c := 8) (i := 81) dX8_keep_19 fRX8_168 g8_81 rfl hk ?_
      refine a_iload_n 1 dX8_keep_22 rfl rfl ?_
      refine a_iald dX8_keep_23 h (fun x2 h => ?_)
      refine a_bipush dX8_keep_24 ⟨rfl, okI_b _ rfl⟩ ?_
      refine a_icmp_ne (tgt := 31) dX8_keep_26 rfl h (fun h => ?_) (fun h => ?_)
      ·
        refine a_aload_n 0 dX8_keep_31 rfl rfl ?_
        refine a_getfr (c := 8) (i := 82) dX8_keep_32 fRX8_171 g8_82 rfl hk ?_
        refine a_bipush dX8_keep_35 ⟨rfl, okI_b _ rfl⟩ ?_
        refine a_iload_n 1 dX8_keep_37 rfl rfl ?_
        refine a_imul dX8_keep_38 ?_
        refine a_aload_n 0 dX8_keep_39 rfl rfl ?_
        refine a_getfr (c := 8) (i := 81) dX8_keep_40 fRX8_168 g8_81 rfl hk ?_
        refine a_iload_n 1 dX8_keep_43 rfl rfl ?_
        refine a_iald dX8_keep_44 h (fun x3 h => ?_)
        refine a_iadd dX8_keep_45 ?_
        refine a_aload_n 0 dX8_keep_46 rfl rfl ?_
        refine a_cVi (c := 8) [] [vi (i_add (i_mul 10 l1) x3), vr (m_gt μ2 l0 82)] dX8_keep_47 myX8_soFar mRX8_421 mvX8_soFar rfl (by decide) hk (fun _ hj => tX8_soFar E l N l0 μ2 _ hk hj) (by decide) rfl (Nat.le_of_ble_eq_true rfl) h (fun x4 μ3 hm h => ?_)
        have hk := hm.k hk (by decide)
        refine a_iast dX8_keep_50 h (fun μ4 hm h => ?_)
        have hk := hm.k hk (by decide)
        refine a_aload_n 0 dX8_keep_51 rfl rfl ?_
        refine a_getfr (c := 8) (i := 81) dX8_keep_52 fRX8_168 g8_81 rfl hk ?_
        refine a_iload_n 1 dX8_keep_55 rfl rfl ?_
        refine a_dup2 dX8_keep_56 rfl rfl ?_
        refine a_iald dX8_keep_57 h (fun x5 h => ?_)
        refine a_iconst dX8_keep_58 (okI_b _ rfl) ?_
        refine a_iadd dX8_keep_59 ?_
        refine a_iast dX8_keep_60 h (fun μ5 hm h => ?_)
        have hk := hm.k hk (by decide)
        refine a_aload_n 0 dX8_keep_61 rfl rfl ?_
        refine a_getfr (c := 8) (i := 81) dX8_keep_62 fRX8_168 g8_81 rfl hk ?_
        refine a_iload_n 1 dX8_keep_65 rfl rfl ?_
        refine a_iald dX8_keep_66 h (fun x6 h => ?_)
        exact a_reti dX8_keep_67 h
      ·
        exact a_sub [0] rfl (tX8_keep_29 E l _ N l0 μ2 t hk h)
-- X8_leaves
abbrev aX8_leaves (E : m_E) (l : Launch) (d : Nat) (z : Nat × Nat) (pc : Nat) (L : List (Nat × AV)) (st : List AV) (μ : Mm) (ρ : Option AV × Mm) : Prop := AA E l d z RX8 "leaves" cX8_leaves 4 (some .int) pc L st μ ρ
theorem tX8_leaves_40 (E : m_E) (l : Launch) (z : Nat × Nat) (k15 : Int → Int → Int → Int → Mm → Option (Int × Mm)) (p15 : ∀ (l0 l1 l2 l3 : Int) (μ : Mm) (t : Int × Mm), m_kd μ l0 = (8, 0) → k15 l0 l1 l2 l3 μ = some t → aX8_leaves E l 3 z 15 [(0, vr l0), (1, vi l1), (2, vi l2), (3, vi l3)] [] μ (rI t)) (N : Nat) (l0 l1 l2 l3 : Int) (μ : Mm) (t : Int × Mm) (hk : m_kd μ l0 = (8, 0)) (h : jX8_leaves_40 k15 N l0 l1 l2 l3 μ = some t) : aX8_leaves E l 3 z 40 [(0, vr l0), (1, vi l1), (2, vi l2), (3, vi l3)] [] μ (rI t) := by
  unfold jX8_leaves_40 at h
  refine a_iinc (F := fun x1 => [(3, vi x1), (0, vr l0), (1, vi l1), (2, vi l2)]) 3 dX8_leaves_40 rfl (by decide) h (fun _ => rfl) (fun x1 h => ?_)
  refine a_goto (tgt := 15) dX8_leaves_43 rfl ?_
  exact a_sub [1, 2, 3, 0] rfl (p15 l0 l1 l2 x1 μ t hk h)
theorem tX8_leaves_15b (E : m_E) (l : Launch) (z : Nat × Nat) (k15 : Int → Int → Int → Int → Mm → Option (Int × Mm)) (p15 : ∀ (l0 l1 l2 l3 : Int) (μ : Mm) (t : Int × Mm), m_kd μ l0 = (8, 0) → k15 l0 l1 l2 l3 μ = some t → aX8_leaves E l 3 z 15 [(0, vr l0), (1, vi l1), (2, vi l2), (3, vi l3)] [] μ (rI t)) (N : Nat) (l0 l1 l2 l3 : Int) (μ : Mm) (t : Int × Mm) (hk : m_kd μ l0 = (8, 0)) (h : jX8_leaves_15b k15 N l0 l1 l2 l3 μ = some t) : aX8_leaves E l 3 z 15 [(0, vr l0), (1, vi l1), (2, vi l2), (3, vi l3)] [] μ (rI t) := by
  unfold jX8_leaves_15b at h
  refine a_iload_n 3 dX8_leaves_15 rfl rfl ?_
  refine a_iload_n 1 dX8_leaves_16 rfl rfl ?_
  refine a_icmp_gt (tgt := 46) dX8_leaves_17 rfl h (fun h => ?_) (fun h => ?_)
  ·
    refine a_iload_n 2 dX8_leaves_46 rfl rfl ?_
    exact a_reti dX8_leaves_47 h
  ·
    refine a_iload_n 3 dX8_leaves_20 rfl rfl ?_
    refine a_iload_n 1 dX8_leaves_21 rfl rfl ?_
    refine a_iconst dX8_leaves_22 (okI_b _ rfl) ?_
    refine a_ixor dX8_leaves_23 ?_
    refine a_iand dX8_leaves_24 ?_
    refine a_if_ne (tgt := 40) dX8_leaves_25 rfl h (fun h => ?_) (fun h => ?_)
    ·
      exact a_sub [0, 1, 2, 3] rfl (tX8_leaves_40 E l _ k15 p15 N l0 l1 l2 l3 μ t hk h)
    ·
      refine a_aload_n 0 dX8_leaves_28 rfl rfl ?_
      refine a_iload_n 3 dX8_leaves_29 rfl rfl ?_
      refine a_cVi (c := 8) [vi l3] [] dX8_leaves_30 myX8_part mRX8_531 mvX8_part rfl (by decide) hk (fun _ hj => tX8_part E l N l0 l3 μ _ hk hj) (by decide) rfl (Nat.le_of_ble_eq_true rfl) h (fun x1 μ1 hm h => ?_)
      have hk := hm.k hk (by decide)
      refine a_iload_n 3 dX8_leaves_33 rfl rfl ?_
      refine a_icmp_ne (tgt := 40) dX8_leaves_34 rfl h (fun h => ?_) (fun h => ?_)
      ·
        exact a_sub [0, 1, 2, 3] rfl (tX8_leaves_40 E l _ k15 p15 N l0 l1 l2 l3 μ1 t hk h)
      ·
        refine a_iinc (F := fun x2 => [(2, vi x2), (0, vr l0), (1, vi l1), (3, vi l3)]) 2 dX8_leaves_37 rfl (by decide) h (fun _ => rfl) (fun x2 h => ?_)
        exact a_sub [1, 2, 0, 3] rfl (tX8_leaves_40 E l _ k15 p15 N l0 l1 x2 l3 μ1 t hk h)
theorem tX8_leaves_15 (E : m_E) (l : Launch) (z : Nat × Nat) (N : Nat) : ∀ (n : Nat) (l0 l1 l2 l3 : Int) (μ : Mm) (t : Int × Mm), m_kd μ l0 = (8, 0) → jX8_leaves_15 N n l0 l1 l2 l3 μ = some t → aX8_leaves E l 3 z 15 [(0, vr l0), (1, vi l1), (2, vi l2), (3, vi l3)] [] μ (rI t)
  | 0, _, _, _, _, _, _, _, h => by cases h
  | n + 1, l0, l1, l2, l3, μ, t, hk, h => tX8_leaves_15b E l z (jX8_leaves_15 N n) (tX8_leaves_15 E l z N n) N l0 l1 l2 l3 μ t hk h
theorem tX8_leaves (E : m_E) (l : Launch) (N : Nat) (l0 l1 : Int) (μ : Mm) (t : Int × Mm) (hk : m_kd μ l0 = (8, 0)) (h : jX8_leaves N l0 l1 μ = some t) : TT E l 3 yX8_leaves cX8_leaves 4 (some .int) [vr l0, vi l1] μ (rI t) := by
  refine tt_of (L := [(0, vr l0), (1, vi l1)]) (by decide +kernel) (Nat.le_of_ble_eq_true rfl) rfl ?_
  show aX8_leaves E l 3 (m_sz μ, m_sl μ) 0 [(0, vr l0), (1, vi l1)] [] μ (rI t)
  unfold jX8_leaves at h
  refine a_aload_n 0 dX8_leaves_0 rfl rfl ?_
  refine a_iload_n 1 dX8_leaves_1 rfl rfl ?_
  refine a_iconst dX8_leaves_2 (okI_b _ rfl) ?_
  refine a_cVi (c := 8) [vi l1, vi 0] [] dX8_leaves_3 myX8_isPins mRX8_528 mvX8_isPins rfl (by decide) hk (fun _ hj => tX8_isPins E l N l0 l1 0 μ _ hk hj) (by decide) rfl (Nat.le_of_ble_eq_true rfl) h (fun x1 μ1 hm h => ?_)
  have hk := hm.k hk (by decide)
  refine a_if_ne (tgt := 11) dX8_leaves_6 rfl h (fun h => ?_) (fun h => ?_)
  ·
    refine a_iconst dX8_leaves_11 (okI_b _ rfl) ?_
    refine a_istore_n (L' := [(2, vi 0), (0, vr l0), (1, vi l1)]) dX8_leaves_12 rfl (by decide) rfl ?_
    refine a_iconst dX8_leaves_13 (okI_b _ rfl) ?_
    refine a_istore_n (L' := [(3, vi 1), (2, vi 0), (0, vr l0), (1, vi l1)]) dX8_leaves_14 rfl (by decide) rfl ?_
    exact a_sub [2, 3, 1, 0] rfl (tX8_leaves_15 E l _ N N l0 l1 0 1 μ1 t hk h)
  ·
    refine a_iconst dX8_leaves_9 (okI_b _ rfl) ?_
    exact a_reti dX8_leaves_10 h
-- X8_sumOf
abbrev aX8_sumOf (E : m_E) (l : Launch) (d : Nat) (z : Nat × Nat) (pc : Nat) (L : List (Nat × AV)) (st : List AV) (μ : Mm) (ρ : Option AV × Mm) : Prop := AA E l d z RX8 "sumOf" cX8_sumOf 4 (some .int) pc L st μ ρ
theorem tX8_sumOf_4b (E : m_E) (l : Launch) (z : Nat × Nat) (k4 : Int → Int → Int → Int → Mm → Option (Int × Mm)) (p4 : ∀ (l0 l1 l2 l3 : Int) (μ : Mm) (t : Int × Mm), m_kd μ l0 = (8, 0) → k4 l0 l1 l2 l3 μ = some t → aX8_sumOf E l 1 z 4 [(0, vr l0), (1, vi l1), (2, vi l2), (3, vi l3)] [] μ (rI t)) (N : Nat) (l0 l1 l2 l3 : Int) (μ : Mm) (t : Int × Mm) (hk : m_kd μ l0 = (8, 0)) (h : jX8_sumOf_4b k4 N l0 l1 l2 l3 μ = some t) : aX8_sumOf E l 1 z 4 [(0, vr l0), (1, vi l1), (2, vi l2), (3, vi l3)] [] μ (rI t) := by
  unfold jX8_sumOf_4b at h
  refine a_iload_n 3 dX8_sumOf_4 rfl rfl ?_
  refine a_aload_n 0 dX8_sumOf_5 rfl rfl ?_
  refine a_getfr (c := 8) (i := 81) dX8_sumOf_6 fRX8_168 g8_81 rfl hk ?_
  refine a_iload_n 1 dX8_sumOf_9 rfl rfl ?_
  refine a_iald dX8_sumOf_10 h (fun x1 h => ?_)
  refine a_icmp_ge (tgt := 34) dX8_sumOf_11 rfl h (fun h => ?_) (fun h => ?_)
  ·
    refine a_iload_n 2 dX8_sumOf_34 rfl rfl ?_
    exact a_reti dX8_sumOf_35 h
  ·
    refine a_iload_n 2 dX8_sumOf_14 rfl rfl ?_
    refine a_aload_n 0 dX8_sumOf_15 rfl rfl ?_
    refine a_getfr (c := 8) (i := 82) dX8_sumOf_16 fRX8_171 g8_82 rfl hk ?_
    refine a_bipush dX8_sumOf_19 ⟨rfl, okI_b _ rfl⟩ ?_
    refine a_iload_n 1 dX8_sumOf_21 rfl rfl ?_
    refine a_imul dX8_sumOf_22 ?_
    refine a_iload_n 3 dX8_sumOf_23 rfl rfl ?_
    refine a_iadd dX8_sumOf_24 ?_
    refine a_iald dX8_sumOf_25 h (fun x2 h => ?_)
    refine a_iadd dX8_sumOf_26 ?_
    refine a_nmi h (fun x3 h => ?_)
    refine a_istore_n (L' := [(2, vi x3), (0, vr l0), (1, vi l1), (3, vi l3)]) dX8_sumOf_27 rfl (by decide) rfl ?_
    refine a_iinc (F := fun x4 => [(3, vi x4), (2, vi x3), (0, vr l0), (1, vi l1)]) 3 dX8_sumOf_28 rfl (by decide) h (fun _ => rfl) (fun x4 h => ?_)
    refine a_goto (tgt := 4) dX8_sumOf_31 rfl ?_
    exact a_sub [2, 3, 1, 0] rfl (p4 l0 l1 x3 x4 μ t hk h)
theorem tX8_sumOf_4 (E : m_E) (l : Launch) (z : Nat × Nat) (N : Nat) : ∀ (n : Nat) (l0 l1 l2 l3 : Int) (μ : Mm) (t : Int × Mm), m_kd μ l0 = (8, 0) → jX8_sumOf_4 N n l0 l1 l2 l3 μ = some t → aX8_sumOf E l 1 z 4 [(0, vr l0), (1, vi l1), (2, vi l2), (3, vi l3)] [] μ (rI t)
  | 0, _, _, _, _, _, _, _, h => by cases h
  | n + 1, l0, l1, l2, l3, μ, t, hk, h => tX8_sumOf_4b E l z (jX8_sumOf_4 N n) (tX8_sumOf_4 E l z N n) N l0 l1 l2 l3 μ t hk h
theorem tX8_sumOf (E : m_E) (l : Launch) (N : Nat) (l0 l1 : Int) (μ : Mm) (t : Int × Mm) (hk : m_kd μ l0 = (8, 0)) (h : jX8_sumOf N l0 l1 μ = some t) : TT E l 1 yX8_sumOf cX8_sumOf 4 (some .int) [vr l0, vi l1] μ (rI t) := by
  refine tt_of (L := [(0, vr l0), (1, vi l1)]) (by decide +kernel) (Nat.le_of_ble_eq_true rfl) rfl ?_
  show aX8_sumOf E l 1 (m_sz μ, m_sl μ) 0 [(0, vr l0), (1, vi l1)] [] μ (rI t)
  unfold jX8_sumOf at h
  refine a_iconst dX8_sumOf_0 (okI_b _ rfl) ?_
  refine a_istore_n (L' := [(2, vi 0), (0, vr l0), (1, vi l1)]) dX8_sumOf_1 rfl (by decide) rfl ?_
  refine a_iconst dX8_sumOf_2 (okI_b _ rfl) ?_
  refine a_istore_n (L' := [(3, vi 0), (2, vi 0), (0, vr l0), (1, vi l1)]) dX8_sumOf_3 rfl (by decide) rfl ?_
  exact a_sub [2, 3, 1, 0] rfl (tX8_sumOf_4 E l _ N N l0 l1 0 0 μ t hk h)
-- X8_meanOf
abbrev aX8_meanOf (E : m_E) (l : Launch) (d : Nat) (z : Nat × Nat) (pc : Nat) (L : List (Nat × AV)) (st : List AV) (μ : Mm) (ρ : Option AV × Mm) : Prop := AA E l d z RX8 "meanOf" cX8_meanOf 4 (some .int) pc L st μ ρ
theorem tX8_meanOf_45 (E : m_E) (l : Launch) (z : Nat × Nat) (N : Nat) (l0 s0 : Int) (μ : Mm) (t : Int × Mm) (hk : m_kd μ l0 = (8, 0)) (h : jX8_meanOf_45 N l0 s0 μ = some t) : aX8_meanOf E l 2 z 45 [(0, vr l0)] [vi s0] μ (rI t) := by
  unfold jX8_meanOf_45 at h
  exact a_reti dX8_meanOf_45 h
theorem tX8_meanOf (E : m_E) (l : Launch) (N : Nat) (l0 l1 : Int) (μ : Mm) (t : Int × Mm) (hk : m_kd μ l0 = (8, 0)) (h : jX8_meanOf N l0 l1 μ = some t) : TT E l 2 yX8_meanOf cX8_meanOf 4 (some .int) [vr l0, vi l1] μ (rI t) := by
  refine tt_of (L := [(0, vr l0), (1, vi l1)]) (by decide +kernel) (Nat.le_of_ble_eq_true rfl) rfl ?_
  show aX8_meanOf E l 2 (m_sz μ, m_sl μ) 0 [(0, vr l0), (1, vi l1)] [] μ (rI t)
  unfold jX8_meanOf at h
  refine a_aload_n 0 dX8_meanOf_0 rfl rfl ?_
  refine a_getfr (c := 8) (i := 81) dX8_meanOf_1 fRX8_168 g8_81 rfl hk ?_
  refine a_iload_n 1 dX8_meanOf_4 rfl rfl ?_
  refine a_iald dX8_meanOf_5 h (fun x1 h => ?_)
  refine a_if_ne (tgt := 11) dX8_meanOf_6 rfl h (fun h => ?_) (fun h => ?_)
  ·
    refine a_aload_n 0 dX8_meanOf_11 rfl rfl ?_
    refine a_iload_n 1 dX8_meanOf_12 rfl rfl ?_
    refine a_cVi (c := 8) [vi l1] [] dX8_meanOf_13 myX8_sumOf mRX8_542 mvX8_sumOf rfl (by decide) hk (fun _ hj => tX8_sumOf E l N l0 l1 μ _ hk hj) (by decide) rfl (Nat.le_of_ble_eq_true rfl) h (fun x2 μ1 hm h => ?_)
    have hk := hm.k hk (by decide)
    refine a_istore_n (L' := [(2, vi x2), (0, vr l0), (1, vi l1)]) dX8_meanOf_16 rfl (by decide) rfl ?_
    refine a_iload_n 0 dX8_meanOf_17 rfl rfl ?_
    refine a_aload_n 1 dX8_meanOf_18 rfl rfl ?_
    refine a_getfr (c := 8) (i := 81) dX8_meanOf_19 fRX8_168 g8_81 rfl hk ?_
    refine a_iload_n 2 dX8_meanOf_22 rfl rfl ?_
    refine a_iald dX8_meanOf_23 h (fun x3 h => ?_)
    refine a_idiv dX8_meanOf_24 h (fun h => ?_)
    refine a_nmi h (fun x4 h => ?_)
    refine a_istore_n (L' := [(3, vi x4), (2, vi x2), (0, vr l0), (1, vi l1)]) dX8_meanOf_25 rfl (by decide) rfl ?_
    refine a_iload_n 0 dX8_meanOf_26 rfl rfl ?_
    refine a_aload_n 2 dX8_meanOf_27 rfl rfl ?_
    refine a_getfr (c := 8) (i := 81) dX8_meanOf_28 fRX8_168 g8_81 rfl hk ?_
    refine a_iload_n 3 dX8_meanOf_31 rfl rfl ?_
    refine a_iald dX8_meanOf_32 h (fun x5 h => ?_)
    refine a_imul dX8_meanOf_33 ?_
    refine a_iload_n 1 dX8_meanOf_34 rfl rfl ?_
    refine a_icmp_le (tgt := 44) dX8_meanOf_35 rfl h (fun h => ?_) (fun h => ?_)
    ·
      refine a_iload_n 0 dX8_meanOf_44 rfl rfl ?_
      exact a_sub [2] rfl (tX8_meanOf_45 E l _ N l0 x4 μ1 t hk h)
    ·
      refine a_iload_n 0 dX8_meanOf_38 rfl rfl ?_
      refine a_iconst dX8_meanOf_39 (okI_b _ rfl) ?_
      refine a_isub dX8_meanOf_40 ?_
      refine a_goto (tgt := 45) dX8_meanOf_41 rfl ?_
      exact a_sub [2] rfl (tX8_meanOf_45 E l _ N l0 (i_sub x4 1) μ1 t hk h)
  ·
    refine a_iconst dX8_meanOf_9 (okI_b _ rfl) ?_
    exact a_reti dX8_meanOf_10 h
-- X8_handicapOf
abbrev aX8_handicapOf (E : m_E) (l : Launch) (d : Nat) (z : Nat × Nat) (pc : Nat) (L : List (Nat × AV)) (st : List AV) (μ : Mm) (ρ : Option AV × Mm) : Prop := AA E l d z RX8 "handicapOf" cX8_handicapOf 4 (some .int) pc L st μ ρ
theorem tX8_handicapOf_98 (E : m_E) (l : Launch) (z : Nat × Nat) (N : Nat) (l0 s0 : Int) (μ : Mm) (t : Int × Mm) (hk : m_kd μ l0 = (8, 0)) (h : jX8_handicapOf_98 N l0 s0 μ = some t) : aX8_handicapOf E l 4 z 98 [(0, vr l0)] [vi s0] μ (rI t) := by
  unfold jX8_handicapOf_98 at h
  exact a_reti dX8_handicapOf_98 h
theorem tX8_handicapOf (E : m_E) (l : Launch) (N : Nat) (l0 l1 : Int) (μ : Mm) (t : Int × Mm) (hk : m_kd μ l0 = (8, 0)) (h : jX8_handicapOf N l0 l1 μ = some t) : TT E l 4 yX8_handicapOf cX8_handicapOf 4 (some .int) [vr l0, vi l1] μ (rI t) := by
  refine tt_of (L := [(0, vr l0), (1, vi l1)]) (by decide +kernel) (Nat.le_of_ble_eq_true rfl) rfl ?_
  show aX8_handicapOf E l 4 (m_sz μ, m_sl μ) 0 [(0, vr l0), (1, vi l1)] [] μ (rI t)
  unfold jX8_handicapOf at h
  refine a_aload_n 0 dX8_handicapOf_0 rfl rfl ?_
  refine a_iconst dX8_handicapOf_1 (okI_b _ rfl) ?_
  refine a_putfi (c := 8) (i := 52) dX8_handicapOf_2 fRX8_356 g8_52 (Or.inl rfl) rfl hk h (fun μ1 hm h => ?_)
  have hk := hm.k hk (by decide)
  refine a_aload_n 0 dX8_handicapOf_5 rfl rfl ?_
  refine a_iconst dX8_handicapOf_6 (okI_b _ rfl) ?_
  refine a_putfi (c := 8) (i := 53) dX8_handicapOf_7 fRX8_359 g8_53 (Or.inl rfl) rfl hk h (fun μ2 hm h => ?_)
  have hk := hm.k hk (by decide)
  refine a_aload_n 0 dX8_handicapOf_10 rfl rfl ?_
  refine a_iconst dX8_handicapOf_11 (okI_b _ rfl) ?_
  refine a_putfi (c := 8) (i := 54) dX8_handicapOf_12 fRX8_362 g8_54 (Or.inl rfl) rfl hk h (fun μ3 hm h => ?_)
  have hk := hm.k hk (by decide)
  refine a_aload_n 0 dX8_handicapOf_15 rfl rfl ?_
  refine a_iconst dX8_handicapOf_16 (okI_b _ rfl) ?_
  refine a_putfi (c := 8) (i := 55) dX8_handicapOf_17 fRX8_365 g8_55 (Or.inl rfl) rfl hk h (fun μ4 hm h => ?_)
  have hk := hm.k hk (by decide)
  refine a_aload_n 0 dX8_handicapOf_20 rfl rfl ?_
  refine a_aload_n 0 dX8_handicapOf_21 rfl rfl ?_
  refine a_iload_n 1 dX8_handicapOf_22 rfl rfl ?_
  refine a_cVi (c := 8) [vi l1] [vr l0] dX8_handicapOf_23 myX8_meanOf mRX8_545 mvX8_meanOf rfl (by decide) hk (fun _ hj => tX8_meanOf E l N l0 l1 μ4 _ hk hj) (by decide) rfl (Nat.le_of_ble_eq_true rfl) h (fun x1 μ5 hm h => ?_)
  have hk := hm.k hk (by decide)
  refine a_putfi (c := 8) (i := 56) dX8_handicapOf_26 fRX8_368 g8_56 (Or.inl rfl) rfl hk h (fun μ6 hm h => ?_)
  have hk := hm.k hk (by decide)
  refine a_aload_n 0 dX8_handicapOf_29 rfl rfl ?_
  refine a_aload_n 0 dX8_handicapOf_30 rfl rfl ?_
  refine a_getfr (c := 8) (i := 81) dX8_handicapOf_31 fRX8_168 g8_81 rfl hk ?_
  refine a_iload_n 1 dX8_handicapOf_34 rfl rfl ?_
  refine a_iald dX8_handicapOf_35 h (fun x2 h => ?_)
  refine a_putfi (c := 8) (i := 57) dX8_handicapOf_36 fRX8_371 g8_57 (Or.inl rfl) rfl hk h (fun μ7 hm h => ?_)
  have hk := hm.k hk (by decide)
  refine a_aload_n 0 dX8_handicapOf_39 rfl rfl ?_
  refine a_getfr (c := 8) (i := 40) dX8_handicapOf_40 fRX8_111 g8_40 rfl hk ?_
  refine a_iconst dX8_handicapOf_43 (okI_b _ rfl) ?_
  refine a_iald dX8_handicapOf_44 h (fun x3 h => ?_)
  refine a_aload_n 0 dX8_handicapOf_45 rfl rfl ?_
  refine a_getfr (c := 8) (i := 41) dX8_handicapOf_46 fRX8_114 g8_41 rfl hk ?_
  refine a_iconst dX8_handicapOf_49 (okI_b _ rfl) ?_
  refine a_iald dX8_handicapOf_50 h (fun x4 h => ?_)
  refine a_icmp_ne (tgt := 56) dX8_handicapOf_51 rfl h (fun h => ?_) (fun h => ?_)
  ·
    refine a_aload_n 0 dX8_handicapOf_56 rfl rfl ?_
    refine a_aload_n 0 dX8_handicapOf_57 rfl rfl ?_
    refine a_getfr (c := 8) (i := 40) dX8_handicapOf_58 fRX8_111 g8_40 rfl hk ?_
    refine a_iconst dX8_handicapOf_61 (okI_b _ rfl) ?_
    refine a_iald dX8_handicapOf_62 h (fun x5 h => ?_)
    refine a_aload_n 0 dX8_handicapOf_63 rfl rfl ?_
    refine a_getfr (c := 8) (i := 41) dX8_handicapOf_64 fRX8_114 g8_41 rfl hk ?_
    refine a_iconst dX8_handicapOf_67 (okI_b _ rfl) ?_
    refine a_iald dX8_handicapOf_68 h (fun x6 h => ?_)
    refine a_cVl (c := 8) [vi x5, vi x6] [] dX8_handicapOf_69 myX8_tells mRX8_377 mvX8_tells rfl (by decide) hk (fun _ hj => tX8_tells E l N l0 x5 x6 μ7 _ hk hj) (by decide) rfl (Nat.le_of_ble_eq_true rfl) h (fun x7 μ8 hm h => ?_)
    have hk := hm.k hk (by decide)
    refine a_lstore_n (L' := [(2, vl x7), (0, vr l0), (1, vi l1)]) dX8_handicapOf_72 rfl (by decide) rfl ?_
    refine a_lload_n 0 dX8_handicapOf_73 rfl rfl ?_
    refine a_lconst (v := 0) dX8_handicapOf_74 ⟨rfl, okJ_b _ rfl⟩ ?_
    refine a_lcmp dX8_handicapOf_75 ?_
    refine a_if_ge (tgt := 83) dX8_handicapOf_76 rfl h (fun h => ?_) (fun h => ?_)
    ·
      refine a_lload_n 0 dX8_handicapOf_83 rfl rfl ?_
      refine a_ldc2 (x := 99) dX8_handicapOf_84 kRX8_548 ⟨rfl, okJ_b _ rfl⟩ ?_
      refine a_lcmp dX8_handicapOf_87 ?_
      refine a_if_le (tgt := 96) dX8_handicapOf_88 rfl h (fun h => ?_) (fun h => ?_)
      ·
        refine a_lload_n 0 dX8_handicapOf_96 rfl rfl ?_
        refine a_l2i dX8_handicapOf_97 ?_
        exact a_sub [1] rfl (tX8_handicapOf_98 E l _ N l0 (l_2i x7) μ8 t hk h)
      ·
        refine a_bipush dX8_handicapOf_91 ⟨rfl, okI_b _ rfl⟩ ?_
        refine a_goto (tgt := 98) dX8_handicapOf_93 rfl ?_
        exact a_sub [1] rfl (tX8_handicapOf_98 E l _ N l0 99 μ8 t hk h)
    ·
      refine a_iconst dX8_handicapOf_79 (okI_b _ rfl) ?_
      refine a_goto (tgt := 98) dX8_handicapOf_80 rfl ?_
      exact a_sub [1] rfl (tX8_handicapOf_98 E l _ N l0 0 μ8 t hk h)
  ·
    refine a_iconst dX8_handicapOf_54 (okI_b _ rfl) ?_
    exact a_reti dX8_handicapOf_55 h
-- X8_meets
abbrev aX8_meets (E : m_E) (l : Launch) (d : Nat) (z : Nat × Nat) (pc : Nat) (L : List (Nat × AV)) (st : List AV) (μ : Mm) (ρ : Option AV × Mm) : Prop := AA E l d z RX8 "meets" cX8_meets 8 (some .int) pc L st μ ρ
theorem tX8_meets_103 (E : m_E) (l : Launch) (z : Nat × Nat) (N : Nat) (l0 l5 : Int) (μ : Mm) (t : Int × Mm) (hk : m_kd μ l0 = (8, 0)) (h : jX8_meets_103 N l0 l5 μ = some t) : aX8_meets E l 5 z 103 [(0, vr l0), (5, vi l5)] [] μ (rI t) := by
  unfold jX8_meets_103 at h
  refine a_iload 1 dX8_meets_103 rfl ?_
  exact a_reti dX8_meets_105 h
theorem tX8_meets_94 (E : m_E) (l : Launch) (z : Nat × Nat) (k19 : Int → Int → Int → Int → Int → Int → Int → Mm → Option (Int × Mm)) (p19 : ∀ (l0 l1 l2 l3 l4 l5 l6 : Int) (μ : Mm) (t : Int × Mm), m_kd μ l0 = (8, 0) → k19 l0 l1 l2 l3 l4 l5 l6 μ = some t → aX8_meets E l 5 z 19 [(0, vr l0), (1, vi l1), (2, vi l2), (3, vi l3), (4, vi l4), (5, vi l5), (6, vi l6)] [] μ (rI t)) (N : Nat) (l0 l1 l2 l3 l4 l6 s0 s1 : Int) (μ : Mm) (t : Int × Mm) (hk : m_kd μ l0 = (8, 0)) (h : jX8_meets_94 k19 N l0 l1 l2 l3 l4 l6 s0 s1 μ = some t) : aX8_meets E l 5 z 94 [(0, vr l0), (1, vi l1), (2, vi l2), (3, vi l3), (4, vi l4), (6, vi l6)] [vi s0, vi s1] μ (rI t) := by
  unfold jX8_meets_94 at h
  refine a_iadd dX8_meets_94 ?_
  refine a_nmi h (fun x1 h => ?_)
  refine a_istore (L' := [(5, vi x1), (0, vr l0), (1, vi l1), (2, vi l2), (3, vi l3), (4, vi l4), (6, vi l6)]) dX8_meets_95 (by decide) rfl ?_
  refine a_iinc (F := fun x2 => [(6, vi x2), (5, vi x1), (0, vr l0), (1, vi l1), (2, vi l2), (3, vi l3), (4, vi l4)]) 6 dX8_meets_97 rfl (by decide) h (fun _ => rfl) (fun x2 h => ?_)
  refine a_goto (tgt := 19) dX8_meets_100 rfl ?_
  exact a_sub [2, 3, 4, 5, 6, 1, 0] rfl (p19 l0 l1 l2 l3 l4 x1 x2 μ t hk h)
theorem tX8_meets_19b (E : m_E) (l : Launch) (z : Nat × Nat) (k19 : Int → Int → Int → Int → Int → Int → Int → Mm → Option (Int × Mm)) (p19 : ∀ (l0 l1 l2 l3 l4 l5 l6 : Int) (μ : Mm) (t : Int × Mm), m_kd μ l0 = (8, 0) → k19 l0 l1 l2 l3 l4 l5 l6 μ = some t → aX8_meets E l 5 z 19 [(0, vr l0), (1, vi l1), (2, vi l2), (3, vi l3), (4, vi l4), (5, vi l5), (6, vi l6)] [] μ (rI t)) (N : Nat) (l0 l1 l2 l3 l4 l5 l6 : Int) (μ : Mm) (t : Int × Mm) (hk : m_kd μ l0 = (8, 0)) (h : jX8_meets_19b k19 N l0 l1 l2 l3 l4 l5 l6 μ = some t) : aX8_meets E l 5 z 19 [(0, vr l0), (1, vi l1), (2, vi l2), (3, vi l3), (4, vi l4), (5, vi l5), (6, vi l6)] [] μ (rI t) := by
  unfold jX8_meets_19b at h
  refine a_iload 6 dX8_meets_19 rfl ?_
  refine a_aload_n 0 dX8_meets_21 rfl rfl ?_
  refine a_getfr (c := 8) (i := 81) dX8_meets_22 fRX8_168 g8_81 rfl hk ?_
  refine a_iload_n 1 dX8_meets_25 rfl rfl ?_
  refine a_iald dX8_meets_26 h (fun x1 h => ?_)
  refine a_icmp_ge (tgt := 103) dX8_meets_27 rfl h (fun h => ?_) (fun h => ?_)
  ·
    exact a_sub [0, 5] rfl (tX8_meets_103 E l _ N l0 l5 μ t hk h)
  ·
    refine a_iload 6 dX8_meets_30 rfl ?_
    refine a_aload_n 0 dX8_meets_32 rfl rfl ?_
    refine a_getfr (c := 8) (i := 81) dX8_meets_33 fRX8_168 g8_81 rfl hk ?_
    refine a_iload_n 2 dX8_meets_36 rfl rfl ?_
    refine a_iald dX8_meets_37 h (fun x2 h => ?_)
    refine a_icmp_ge (tgt := 103) dX8_meets_38 rfl h (fun h => ?_) (fun h => ?_)
    ·
      exact a_sub [0, 5] rfl (tX8_meets_103 E l _ N l0 l5 μ t hk h)
    ·
      refine a_aload_n 0 dX8_meets_41 rfl rfl ?_
      refine a_getfr (c := 8) (i := 82) dX8_meets_42 fRX8_171 g8_82 rfl hk ?_
      refine a_bipush dX8_meets_45 ⟨rfl, okI_b _ rfl⟩ ?_
      refine a_iload_n 1 dX8_meets_47 rfl rfl ?_
      refine a_imul dX8_meets_48 ?_
      refine a_iload 6 dX8_meets_49 rfl ?_
      refine a_iadd dX8_meets_51 ?_
      refine a_iald dX8_meets_52 h (fun x3 h => ?_)
      refine a_iload_n 3 dX8_meets_53 rfl rfl ?_
      refine a_iadd dX8_meets_54 ?_
      refine a_aload_n 0 dX8_meets_55 rfl rfl ?_
      refine a_getfr (c := 8) (i := 82) dX8_meets_56 fRX8_171 g8_82 rfl hk ?_
      refine a_bipush dX8_meets_59 ⟨rfl, okI_b _ rfl⟩ ?_
      refine a_iload_n 2 dX8_meets_61 rfl rfl ?_
      refine a_imul dX8_meets_62 ?_
      refine a_iload 6 dX8_meets_63 rfl ?_
      refine a_iadd dX8_meets_65 ?_
      refine a_iald dX8_meets_66 h (fun x4 h => ?_)
      refine a_isub dX8_meets_67 ?_
      refine a_iload 4 dX8_meets_68 rfl ?_
      refine a_isub dX8_meets_70 ?_
      refine a_nmi h (fun x5 h => ?_)
      refine a_istore (L' := [(7, vi x5), (0, vr l0), (1, vi l1), (2, vi l2), (3, vi l3), (4, vi l4), (5, vi l5), (6, vi l6)]) dX8_meets_71 (by decide) rfl ?_
      refine a_iload 6 dX8_meets_73 rfl ?_
      refine a_iload 0 dX8_meets_75 rfl ?_
      refine a_if_le (tgt := 84) dX8_meets_77 rfl h (fun h => ?_) (fun h => ?_)
      ·
        refine a_iload 0 dX8_meets_84 rfl ?_
        refine a_if_ne (tgt := 93) dX8_meets_86 rfl h (fun h => ?_) (fun h => ?_)
        ·
          refine a_iconst dX8_meets_93 (okI_b _ rfl) ?_
          exact a_sub [1, 2, 3, 4, 5, 7] rfl (tX8_meets_94 E l _ k19 p19 N l0 l1 l2 l3 l4 l6 0 l5 μ t hk h)
        ·
          refine a_iconst dX8_meets_89 (okI_b _ rfl) ?_
          refine a_goto (tgt := 94) dX8_meets_90 rfl ?_
          exact a_sub [1, 2, 3, 4, 5, 7] rfl (tX8_meets_94 E l _ k19 p19 N l0 l1 l2 l3 l4 l6 1 l5 μ t hk h)
      ·
        refine a_iconst dX8_meets_80 (okI_b _ rfl) ?_
        refine a_goto (tgt := 94) dX8_meets_81 rfl ?_
        exact a_sub [1, 2, 3, 4, 5, 7] rfl (tX8_meets_94 E l _ k19 p19 N l0 l1 l2 l3 l4 l6 2 l5 μ t hk h)
theorem tX8_meets_19 (E : m_E) (l : Launch) (z : Nat × Nat) (N : Nat) : ∀ (n : Nat) (l0 l1 l2 l3 l4 l5 l6 : Int) (μ : Mm) (t : Int × Mm), m_kd μ l0 = (8, 0) → jX8_meets_19 N n l0 l1 l2 l3 l4 l5 l6 μ = some t → aX8_meets E l 5 z 19 [(0, vr l0), (1, vi l1), (2, vi l2), (3, vi l3), (4, vi l4), (5, vi l5), (6, vi l6)] [] μ (rI t)
  | 0, _, _, _, _, _, _, _, _, _, _, h => by cases h
  | n + 1, l0, l1, l2, l3, l4, l5, l6, μ, t, hk, h => tX8_meets_19b E l z (jX8_meets_19 N n) (tX8_meets_19 E l z N n) N l0 l1 l2 l3 l4 l5 l6 μ t hk h
theorem tX8_meets (E : m_E) (l : Launch) (N : Nat) (l0 l1 l2 : Int) (μ : Mm) (t : Int × Mm) (hk : m_kd μ l0 = (8, 0)) (h : jX8_meets N l0 l1 l2 μ = some t) : TT E l 5 yX8_meets cX8_meets 8 (some .int) [vr l0, vi l1, vi l2] μ (rI t) := by
  refine tt_of (L := [(0, vr l0), (1, vi l1), (2, vi l2)]) (by decide +kernel) (Nat.le_of_ble_eq_true rfl) rfl ?_
  show aX8_meets E l 5 (m_sz μ, m_sl μ) 0 [(0, vr l0), (1, vi l1), (2, vi l2)] [] μ (rI t)
  unfold jX8_meets at h
  refine a_aload_n 0 dX8_meets_0 rfl rfl ?_
  refine a_iload_n 1 dX8_meets_1 rfl rfl ?_
  refine a_cVi (c := 8) [vi l1] [] dX8_meets_2 myX8_handicapOf mRX8_550 mvX8_handicapOf rfl (by decide) hk (fun _ hj => tX8_handicapOf E l N l0 l1 μ _ hk hj) (by decide) rfl (Nat.le_of_ble_eq_true rfl) h (fun x1 μ1 hm h => ?_)
  have hk := hm.k hk (by decide)
  refine a_istore_n (L' := [(3, vi x1), (0, vr l0), (1, vi l1), (2, vi l2)]) dX8_meets_5 rfl (by decide) rfl ?_
  refine a_aload_n 1 dX8_meets_6 rfl rfl ?_
  refine a_iload_n 3 dX8_meets_7 rfl rfl ?_
  refine a_cVi (c := 8) [vi l2] [] dX8_meets_8 myX8_handicapOf mRX8_550 mvX8_handicapOf rfl (by decide) hk (fun _ hj => tX8_handicapOf E l N l0 l2 μ1 _ hk hj) (by decide) rfl (Nat.le_of_ble_eq_true rfl) h (fun x2 μ2 hm h => ?_)
  have hk := hm.k hk (by decide)
  refine a_istore (L' := [(4, vi x2), (3, vi x1), (0, vr l0), (1, vi l1), (2, vi l2)]) dX8_meets_11 (by decide) rfl ?_
  refine a_iconst dX8_meets_13 (okI_b _ rfl) ?_
  refine a_istore (L' := [(5, vi 0), (4, vi x2), (3, vi x1), (0, vr l0), (1, vi l1), (2, vi l2)]) dX8_meets_14 (by decide) rfl ?_
  refine a_iconst dX8_meets_16 (okI_b _ rfl) ?_
  refine a_istore (L' := [(6, vi 0), (5, vi 0), (4, vi x2), (3, vi x1), (0, vr l0), (1, vi l1), (2, vi l2)]) dX8_meets_17 (by decide) rfl ?_
  exact a_sub [4, 5, 6, 3, 2, 1, 0] rfl (tX8_meets_19 E l _ N N l0 l1 l2 x1 x2 0 0 μ2 t hk h)
-- X8_meet
abbrev aX8_meet (E : m_E) (l : Launch) (d : Nat) (z : Nat × Nat) (pc : Nat) (L : List (Nat × AV)) (st : List AV) (μ : Mm) (ρ : Option AV × Mm) : Prop := AA E l d z RX8 "meet" cX8_meet 3 (some .int) pc L st μ ρ
theorem tX8_meet_29 (E : m_E) (l : Launch) (z : Nat × Nat) (N : Nat) (l0 s0 : Int) (μ : Mm) (t : Int × Mm) (hk : m_kd μ l0 = (8, 0)) (h : jX8_meet_29 N l0 s0 μ = some t) : aX8_meet E l 6 z 29 [(0, vr l0)] [vi s0] μ (rI t) := by
  unfold jX8_meet_29 at h
  exact a_reti dX8_meet_29 h
theorem tX8_meet_28 (E : m_E) (l : Launch) (z : Nat × Nat) (N : Nat) (l0 : Int) (μ : Mm) (t : Int × Mm) (hk : m_kd μ l0 = (8, 0)) (h : jX8_meet_28 N l0 μ = some t) : aX8_meet E l 6 z 28 [(0, vr l0)] [] μ (rI t) := by
  unfold jX8_meet_28 at h
  refine a_iconst dX8_meet_28 (okI_b _ rfl) ?_
  exact a_sub [0] rfl (tX8_meet_29 E l _ N l0 (-1) μ t hk h)
theorem tX8_meet (E : m_E) (l : Launch) (N : Nat) (l0 l1 l2 : Int) (μ : Mm) (t : Int × Mm) (hk : m_kd μ l0 = (8, 0)) (h : jX8_meet N l0 l1 l2 μ = some t) : TT E l 6 yX8_meet cX8_meet 3 (some .int) [vr l0, vi l1, vi l2] μ (rI t) := by
  refine tt_of (L := [(0, vr l0), (1, vi l1), (2, vi l2)]) (by decide +kernel) (Nat.le_of_ble_eq_true rfl) rfl ?_
  show aX8_meet E l 6 (m_sz μ, m_sl μ) 0 [(0, vr l0), (1, vi l1), (2, vi l2)] [] μ (rI t)
  unfold jX8_meet at h
  refine a_iload_n 1 dX8_meet_0 rfl rfl ?_
  refine a_cSi [vi l1] [] dX8_meet_1 myX8_isPlayer mRX8_539 msX8_isPlayer (fun _ hj => tX8_isPlayer E l N l1 μ _  hj) (by decide) rfl (Nat.le_of_ble_eq_true rfl) h (fun x1 μ1 hm h => ?_)
  have hk := hm.k hk (by decide)
  refine a_if_eq (tgt := 28) dX8_meet_4 rfl h (fun h => ?_) (fun h => ?_)
  ·
    exact a_sub [0] rfl (tX8_meet_28 E l _ N l0 μ1 t hk h)
  ·
    refine a_iload_n 2 dX8_meet_7 rfl rfl ?_
    refine a_cSi [vi l2] [] dX8_meet_8 myX8_isPlayer mRX8_539 msX8_isPlayer (fun _ hj => tX8_isPlayer E l N l2 μ1 _  hj) (by decide) rfl (Nat.le_of_ble_eq_true rfl) h (fun x2 μ2 hm h => ?_)
    have hk := hm.k hk (by decide)
    refine a_if_eq (tgt := 28) dX8_meet_11 rfl h (fun h => ?_) (fun h => ?_)
    ·
      exact a_sub [0] rfl (tX8_meet_28 E l _ N l0 μ2 t hk h)
    ·
      refine a_iload_n 1 dX8_meet_14 rfl rfl ?_
      refine a_iload_n 2 dX8_meet_15 rfl rfl ?_
      refine a_icmp_eq (tgt := 28) dX8_meet_16 rfl h (fun h => ?_) (fun h => ?_)
      ·
        exact a_sub [0] rfl (tX8_meet_28 E l _ N l0 μ2 t hk h)
      ·
        refine a_aload_n 0 dX8_meet_19 rfl rfl ?_
        refine a_iload_n 1 dX8_meet_20 rfl rfl ?_
        refine a_iload_n 2 dX8_meet_21 rfl rfl ?_
        refine a_cVi (c := 8) [vi l1, vi l2] [] dX8_meet_22 myX8_meets mRX8_553 mvX8_meets rfl (by decide) hk (fun _ hj => tX8_meets E l N l0 l1 l2 μ2 _ hk hj) (by decide) rfl (Nat.le_of_ble_eq_true rfl) h (fun x3 μ3 hm h => ?_)
        have hk := hm.k hk (by decide)
        refine a_goto (tgt := 29) dX8_meet_25 rfl ?_
        exact a_sub [0] rfl (tX8_meet_29 E l _ N l0 x3 μ3 t hk h)
