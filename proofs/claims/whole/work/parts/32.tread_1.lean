-- X3_statement
abbrev aX3_statement (E : m_E) (l : Launch) (d : Nat) (z : Nat × Nat) (pc : Nat) (L : List (Nat × AV)) (st : List AV) (μ : Mm) (ρ : Option AV × Mm) : Prop := AA E l d z RX3 "statement" cX3_statement 1 (some .boolean) pc L st μ ρ
theorem tX3_statement_181 (E : m_E) (l : Launch) (z : Nat × Nat) (N : Nat) (l0 s0 : Int) (μ : Mm) (t : Int × Mm) (hk : m_kd μ l0 = (3, 0)) (h : jX3_statement_181 N l0 s0 μ = some t) : aX3_statement E l 87 z 181 [(0, vr l0)] [vi s0] μ (rI t) := by
  unfold jX3_statement_181 at h
  exact a_retz dX3_statement_181 h
theorem tX3_statement_169 (E : m_E) (l : Launch) (z : Nat × Nat) (N : Nat) (l0 : Int) (μ : Mm) (t : Int × Mm) (hk : m_kd μ l0 = (3, 0)) (h : jX3_statement_169 N l0 μ = some t) : aX3_statement E l 87 z 169 [(0, vr l0)] [] μ (rI t) := by
  unfold jX3_statement_169 at h
  refine a_aload_n 0 dX3_statement_169 rfl rfl ?_
  refine a_getfi (c := 3) (i := 0) dX3_statement_170 fRX3_9 g3_0 rfl hk ?_
  refine a_if_ne (tgt := 180) dX3_statement_173 rfl h (fun h => ?_) (fun h => ?_)
  ·
    refine a_iconst dX3_statement_180 (okI_b _ rfl) ?_
    exact a_sub [0] rfl (tX3_statement_181 E l _ N l0 0 μ t hk h)
  ·
    refine a_iconst dX3_statement_176 (okI_b _ rfl) ?_
    refine a_goto (tgt := 181) dX3_statement_177 rfl ?_
    exact a_sub [0] rfl (tX3_statement_181 E l _ N l0 1 μ t hk h)
theorem tX3_statement (E : m_E) (l : Launch) (N : Nat) (l0 : Int) (μ : Mm) (t : Int × Mm) (hk : m_kd μ l0 = (3, 0)) (h : jX3_statement N l0 μ = some t) : TT E l 87 yX3_statement cX3_statement 1 (some .boolean) [vr l0] μ (rI t) := by
  refine tt_of (L := [(0, vr l0)]) (by decide +kernel) (Nat.le_of_ble_eq_true rfl) rfl ?_
  show aX3_statement E l 87 (m_sz μ, m_sl μ) 0 [(0, vr l0)] [] μ (rI t)
  unfold jX3_statement at h
  refine a_aload_n 0 dX3_statement_0 rfl rfl ?_
  refine a_ldcS (i := 0) dX3_statement_1 rfl rfl ?_
  refine a_cVi (c := 3) [vr (-10)] [] dX3_statement_3 myX3_takes mRX3_63 mvX3_takes rfl (by decide) hk (fun _ hj => tX3_takes E l N l0 (-10) μ _ hk hj) (by decide) rfl (Nat.le_of_ble_eq_true rfl) h (fun x1 μ1 hm h => ?_)
  have hk := hm.k hk (by decide)
  refine a_if_eq (tgt := 26) dX3_statement_6 rfl h (fun h => ?_) (fun h => ?_)
  ·
    refine a_aload_n 0 dX3_statement_26 rfl rfl ?_
    refine a_ldcS (i := 1) dX3_statement_27 rfl rfl ?_
    refine a_cVi (c := 3) [vr (-11)] [] dX3_statement_29 myX3_takes mRX3_63 mvX3_takes rfl (by decide) hk (fun _ hj => tX3_takes E l N l0 (-11) μ1 _ hk hj) (by decide) rfl (Nat.le_of_ble_eq_true rfl) h (fun x2 μ2 hm h => ?_)
    have hk := hm.k hk (by decide)
    refine a_if_eq (tgt := 52) dX3_statement_32 rfl h (fun h => ?_) (fun h => ?_)
    ·
      refine a_aload_n 0 dX3_statement_52 rfl rfl ?_
      refine a_ldcS (i := 2) dX3_statement_53 rfl rfl ?_
      refine a_cVi (c := 3) [vr (-12)] [] dX3_statement_55 myX3_takes mRX3_63 mvX3_takes rfl (by decide) hk (fun _ hj => tX3_takes E l N l0 (-12) μ2 _ hk hj) (by decide) rfl (Nat.le_of_ble_eq_true rfl) h (fun x3 μ3 hm h => ?_)
      have hk := hm.k hk (by decide)
      refine a_if_eq (tgt := 77) dX3_statement_58 rfl h (fun h => ?_) (fun h => ?_)
      ·
        refine a_aload_n 0 dX3_statement_77 rfl rfl ?_
        refine a_ldcS (i := 3) dX3_statement_78 rfl rfl ?_
        refine a_cVi (c := 3) [vr (-13)] [] dX3_statement_80 myX3_takes mRX3_63 mvX3_takes rfl (by decide) hk (fun _ hj => tX3_takes E l N l0 (-13) μ3 _ hk hj) (by decide) rfl (Nat.le_of_ble_eq_true rfl) h (fun x4 μ4 hm h => ?_)
        have hk := hm.k hk (by decide)
        refine a_if_eq (tgt := 103) dX3_statement_83 rfl h (fun h => ?_) (fun h => ?_)
        ·
          refine a_aload_n 0 dX3_statement_103 rfl rfl ?_
          refine a_ldcS (i := 4) dX3_statement_104 rfl rfl ?_
          refine a_cVi (c := 3) [vr (-14)] [] dX3_statement_106 myX3_takes mRX3_63 mvX3_takes rfl (by decide) hk (fun _ hj => tX3_takes E l N l0 (-14) μ4 _ hk hj) (by decide) rfl (Nat.le_of_ble_eq_true rfl) h (fun x5 μ5 hm h => ?_)
          have hk := hm.k hk (by decide)
          refine a_if_eq (tgt := 117) dX3_statement_109 rfl h (fun h => ?_) (fun h => ?_)
          ·
            refine a_aload_n 0 dX3_statement_117 rfl rfl ?_
            refine a_ldcS (i := 6) dX3_statement_118 rfl rfl ?_
            refine a_cVi (c := 3) [vr (-16)] [] dX3_statement_120 myX3_takes mRX3_63 mvX3_takes rfl (by decide) hk (fun _ hj => tX3_takes E l N l0 (-16) μ5 _ hk hj) (by decide) rfl (Nat.le_of_ble_eq_true rfl) h (fun x6 μ6 hm h => ?_)
            have hk := hm.k hk (by decide)
            refine a_if_eq (tgt := 131) dX3_statement_123 rfl h (fun h => ?_) (fun h => ?_)
            ·
              refine a_aload_n 0 dX3_statement_131 rfl rfl ?_
              refine a_ldcS (i := 20) dX3_statement_132 rfl rfl ?_
              refine a_cVi (c := 3) [vr (-30)] [] dX3_statement_134 myX3_takes mRX3_63 mvX3_takes rfl (by decide) hk (fun _ hj => tX3_takes E l N l0 (-30) μ6 _ hk hj) (by decide) rfl (Nat.le_of_ble_eq_true rfl) h (fun x7 μ7 hm h => ?_)
              have hk := hm.k hk (by decide)
              refine a_if_eq (tgt := 145) dX3_statement_137 rfl h (fun h => ?_) (fun h => ?_)
              ·
                refine a_aload_n 0 dX3_statement_145 rfl rfl ?_
                refine a_ldcS (i := 21) dX3_statement_146 rfl rfl ?_
                refine a_cVi (c := 3) [vr (-31)] [] dX3_statement_148 myX3_takes mRX3_63 mvX3_takes rfl (by decide) hk (fun _ hj => tX3_takes E l N l0 (-31) μ7 _ hk hj) (by decide) rfl (Nat.le_of_ble_eq_true rfl) h (fun x8 μ8 hm h => ?_)
                have hk := hm.k hk (by decide)
                refine a_if_eq (tgt := 159) dX3_statement_151 rfl h (fun h => ?_) (fun h => ?_)
                ·
                  refine a_aload_n 0 dX3_statement_159 rfl rfl ?_
                  refine a_iconst dX3_statement_160 (okI_b _ rfl) ?_
                  refine a_aload_n 0 dX3_statement_161 rfl rfl ?_
                  refine a_getfi (c := 3) (i := 4) dX3_statement_162 fRX3_25 g3_4 rfl hk ?_
                  refine a_cVi (c := 3) [vi 1, vi (m_gt μ8 l0 4)] [] dX3_statement_165 myX3_fail mRX3_49 mvX3_fail rfl (by decide) hk (fun _ hj => tX3_fail E l N l0 1 (m_gt μ8 l0 4) μ8 _ hk hj) (by decide) rfl (Nat.le_of_ble_eq_true rfl) h (fun x9 μ9 hm h => ?_)
                  have hk := hm.k hk (by decide)
                  exact a_retz dX3_statement_168 h
                ·
                  refine a_aload_n 0 dX3_statement_154 rfl rfl ?_
                  refine a_cVi (c := 3) [] [] dX3_statement_155 myX3_joins mRX3_99 mvX3_joins rfl (by decide) hk (fun _ hj => tX3_joins E l N l0 μ8 _ hk hj) (by decide) rfl (Nat.le_of_ble_eq_true rfl) h (fun x10 μ10 hm h => ?_)
                  have hk := hm.k hk (by decide)
                  exact a_retz dX3_statement_158 h
              ·
                refine a_aload_n 0 dX3_statement_140 rfl rfl ?_
                refine a_cVi (c := 3) [] [] dX3_statement_141 myX3_handicap mRX3_95 mvX3_handicap rfl (by decide) hk (fun _ hj => tX3_handicap E l N l0 μ7 _ hk hj) (by decide) rfl (Nat.le_of_ble_eq_true rfl) h (fun x11 μ11 hm h => ?_)
                have hk := hm.k hk (by decide)
                exact a_retz dX3_statement_144 h
            ·
              refine a_aload_n 0 dX3_statement_126 rfl rfl ?_
              refine a_cVi (c := 3) [] [] dX3_statement_127 myX3_worth mRX3_91 mvX3_worth rfl (by decide) hk (fun _ hj => tX3_worth E l N l0 μ6 _ hk hj) (by decide) rfl (Nat.le_of_ble_eq_true rfl) h (fun x12 μ12 hm h => ?_)
              have hk := hm.k hk (by decide)
              exact a_retz dX3_statement_130 h
          ·
            refine a_aload_n 0 dX3_statement_112 rfl rfl ?_
            refine a_cVi (c := 3) [] [] dX3_statement_113 myX3_clean mRX3_87 mvX3_clean rfl (by decide) hk (fun _ hj => tX3_clean E l N l0 μ5 _ hk hj) (by decide) rfl (Nat.le_of_ble_eq_true rfl) h (fun x13 μ13 hm h => ?_)
            have hk := hm.k hk (by decide)
            exact a_retz dX3_statement_116 h
        ·
          refine a_aload_n 0 dX3_statement_86 rfl rfl ?_
          refine a_getfr (c := 3) (i := 5) dX3_statement_87 fRX3_28 g3_5 rfl hk ?_
          refine a_aload_n 0 dX3_statement_90 rfl rfl ?_
          refine a_iconst dX3_statement_91 (okI_b _ rfl) ?_
          refine a_bipush dX3_statement_92 ⟨rfl, okI_b _ rfl⟩ ?_
          refine a_cVi (c := 3) [vi 0, vi 10] [vr (m_gt μ4 l0 5)] dX3_statement_94 myX3_number mRX3_67 mvX3_number rfl (by decide) hk (fun _ hj => tX3_number E l N l0 0 10 μ4 _ hk hj) (by decide) rfl (Nat.le_of_ble_eq_true rfl) h (fun x14 μ14 hm h => ?_)
          have hk := hm.k hk (by decide)
          refine m_chk_k h (fun hq83 h => ?_)
          refine a_putfi (c := 1) (i := 4) dX3_statement_97 fRX3_82 g1_4 (Or.inl rfl) rfl hq83 h (fun μ15 hm h => ?_)
          have hk := hm.k hk (by decide)
          have hq83 := hm.k hq83 (by decide)
          refine a_goto (tgt := 169) dX3_statement_100 rfl ?_
          exact a_sub [0] rfl (tX3_statement_169 E l _ N l0 μ15 t hk h)
      ·
        refine a_aload_n 0 dX3_statement_61 rfl rfl ?_
        refine a_getfr (c := 3) (i := 5) dX3_statement_62 fRX3_28 g3_5 rfl hk ?_
        refine a_aload_n 0 dX3_statement_65 rfl rfl ?_
        refine a_iconst dX3_statement_66 (okI_b _ rfl) ?_
        refine a_iconst dX3_statement_67 (okI_b _ rfl) ?_
        refine a_cVi (c := 3) [vi 1, vi 3] [vr (m_gt μ3 l0 5)] dX3_statement_68 myX3_number mRX3_67 mvX3_number rfl (by decide) hk (fun _ hj => tX3_number E l N l0 1 3 μ3 _ hk hj) (by decide) rfl (Nat.le_of_ble_eq_true rfl) h (fun x15 μ16 hm h => ?_)
        have hk := hm.k hk (by decide)
        refine m_chk_k h (fun hq97 h => ?_)
        refine a_putfi (c := 1) (i := 3) dX3_statement_71 fRX3_78 g1_3 (Or.inl rfl) rfl hq97 h (fun μ17 hm h => ?_)
        have hk := hm.k hk (by decide)
        have hq97 := hm.k hq97 (by decide)
        refine a_goto (tgt := 169) dX3_statement_74 rfl ?_
        exact a_sub [0] rfl (tX3_statement_169 E l _ N l0 μ17 t hk h)
    ·
      refine a_aload_n 0 dX3_statement_35 rfl rfl ?_
      refine a_getfr (c := 3) (i := 5) dX3_statement_36 fRX3_28 g3_5 rfl hk ?_
      refine a_aload_n 0 dX3_statement_39 rfl rfl ?_
      refine a_iconst dX3_statement_40 (okI_b _ rfl) ?_
      refine a_bipush dX3_statement_41 ⟨rfl, okI_b _ rfl⟩ ?_
      refine a_cVi (c := 3) [vi 1, vi 8] [vr (m_gt μ2 l0 5)] dX3_statement_43 myX3_number mRX3_67 mvX3_number rfl (by decide) hk (fun _ hj => tX3_number E l N l0 1 8 μ2 _ hk hj) (by decide) rfl (Nat.le_of_ble_eq_true rfl) h (fun x16 μ18 hm h => ?_)
      have hk := hm.k hk (by decide)
      refine m_chk_k h (fun hq111 h => ?_)
      refine a_putfi (c := 1) (i := 2) dX3_statement_46 fRX3_74 g1_2 (Or.inl rfl) rfl hq111 h (fun μ19 hm h => ?_)
      have hk := hm.k hk (by decide)
      have hq111 := hm.k hq111 (by decide)
      refine a_goto (tgt := 169) dX3_statement_49 rfl ?_
      exact a_sub [0] rfl (tX3_statement_169 E l _ N l0 μ19 t hk h)
  ·
    refine a_aload_n 0 dX3_statement_9 rfl rfl ?_
    refine a_getfr (c := 3) (i := 5) dX3_statement_10 fRX3_28 g3_5 rfl hk ?_
    refine a_aload_n 0 dX3_statement_13 rfl rfl ?_
    refine a_iconst dX3_statement_14 (okI_b _ rfl) ?_
    refine a_bipush dX3_statement_15 ⟨rfl, okI_b _ rfl⟩ ?_
    refine a_cVi (c := 3) [vi 1, vi 9] [vr (m_gt μ1 l0 5)] dX3_statement_17 myX3_number mRX3_67 mvX3_number rfl (by decide) hk (fun _ hj => tX3_number E l N l0 1 9 μ1 _ hk hj) (by decide) rfl (Nat.le_of_ble_eq_true rfl) h (fun x17 μ20 hm h => ?_)
    have hk := hm.k hk (by decide)
    refine m_chk_k h (fun hq125 h => ?_)
    refine a_putfi (c := 1) (i := 1) dX3_statement_20 fRX3_70 g1_1 (Or.inl rfl) rfl hq125 h (fun μ21 hm h => ?_)
    have hk := hm.k hk (by decide)
    have hq125 := hm.k hq125 (by decide)
    refine a_goto (tgt := 169) dX3_statement_23 rfl ?_
    exact a_sub [0] rfl (tX3_statement_169 E l _ N l0 μ21 t hk h)
-- X3_read
abbrev aX3_read (E : m_E) (l : Launch) (d : Nat) (z : Nat × Nat) (pc : Nat) (L : List (Nat × AV)) (st : List AV) (μ : Mm) (ρ : Option AV × Mm) : Prop := AA E l d z RX3 "read" cX3_read 5 (some .boolean) pc L st μ ρ
theorem tX3_read_111 (E : m_E) (l : Launch) (z : Nat × Nat) (N : Nat) (l0 : Int) (μ : Mm) (t : Int × Mm) (hk : m_kd μ l0 = (3, 0)) (h : jX3_read_111 N l0 μ = some t) : aX3_read E l 88 z 111 [(0, vr l0)] [] μ (rI t) := by
  unfold jX3_read_111 at h
  refine a_aload_n 0 dX3_read_111 rfl rfl ?_
  refine a_iconst dX3_read_112 (okI_b _ rfl) ?_
  refine a_aload_n 0 dX3_read_113 rfl rfl ?_
  refine a_getfi (c := 3) (i := 4) dX3_read_114 fRX3_25 g3_4 rfl hk ?_
  refine a_cVi (c := 3) [vi 1, vi (m_gt μ l0 4)] [] dX3_read_117 myX3_fail mRX3_49 mvX3_fail rfl (by decide) hk (fun _ hj => tX3_fail E l N l0 1 (m_gt μ l0 4) μ _ hk hj) (by decide) rfl (Nat.le_of_ble_eq_true rfl) h (fun x1 μ1 hm h => ?_)
  have hk := hm.k hk (by decide)
  exact a_retz dX3_read_120 h
theorem tX3_read_49b (E : m_E) (l : Launch) (z : Nat × Nat) (k49 : Int → Int → Mm → Option (Int × Mm)) (p49 : ∀ (l0 l4 : Int) (μ : Mm) (t : Int × Mm), m_kd μ l0 = (3, 0) → k49 l0 l4 μ = some t → aX3_read E l 88 z 49 [(0, vr l0), (4, vi l4)] [] μ (rI t)) (N : Nat) (l0 l4 : Int) (μ : Mm) (t : Int × Mm) (hk : m_kd μ l0 = (3, 0)) (h : jX3_read_49b k49 N l0 l4 μ = some t) : aX3_read E l 88 z 49 [(0, vr l0), (4, vi l4)] [] μ (rI t) := by
  unfold jX3_read_49b at h
  refine a_iload 1 dX3_read_49 rfl ?_
  refine a_bipush dX3_read_51 ⟨rfl, okI_b _ rfl⟩ ?_
  refine a_icmp_gt (tgt := 127) dX3_read_53 rfl h (fun h => ?_) (fun h => ?_)
  ·
    refine a_iconst dX3_read_127 (okI_b _ rfl) ?_
    exact a_retzl (Or.inl rfl) dX3_read_128 h
  ·
    refine a_aload_n 0 dX3_read_56 rfl rfl ?_
    refine a_getfr (c := 3) (i := 5) dX3_read_57 fRX3_28 g3_5 rfl hk ?_
    refine a_iload 1 dX3_read_60 rfl ?_
    refine m_chk_k h (fun hq10 h => ?_)
    refine a_putfi (c := 1) (i := 0) dX3_read_62 fRX3_46 g1_0 (Or.inl rfl) rfl hq10 h (fun μ1 hm h => ?_)
    have hk := hm.k hk (by decide)
    have hq10 := hm.k hq10 (by decide)
    refine a_aload_n 0 dX3_read_65 rfl rfl ?_
    refine a_getfi (c := 3) (i := 4) dX3_read_66 fRX3_25 g3_4 rfl hk ?_
    refine a_aload_n 0 dX3_read_69 rfl rfl ?_
    refine a_getfi (c := 3) (i := 3) dX3_read_70 fRX3_22 g3_3 rfl hk ?_
    refine a_icmp_lt (tgt := 78) dX3_read_73 rfl h (fun h => ?_) (fun h => ?_)
    ·
      refine a_iload 1 dX3_read_78 rfl ?_
      refine a_bipush dX3_read_80 ⟨rfl, okI_b _ rfl⟩ ?_
      refine a_icmp_ne (tgt := 95) dX3_read_82 rfl h (fun h => ?_) (fun h => ?_)
      ·
        refine a_aload_n 0 dX3_read_95 rfl rfl ?_
        refine a_cVi (c := 3) [] [] dX3_read_96 myX3_statement mRX3_53 mvX3_statement rfl (by decide) hk (fun _ hj => tX3_statement E l N l0 μ1 _ hk hj) (by decide) rfl (Nat.le_of_ble_eq_true rfl) h (fun x1 μ2 hm h => ?_)
        have hk := hm.k hk (by decide)
        have hq10 := hm.k hq10 (by decide)
        refine a_if_eq (tgt := 111) dX3_read_99 rfl h (fun h => ?_) (fun h => ?_)
        ·
          exact a_sub [0] rfl (tX3_read_111 E l _ N l0 μ2 t hk h)
        ·
          refine a_aload_n 0 dX3_read_102 rfl rfl ?_
          refine a_bipush dX3_read_103 ⟨rfl, okI_b _ rfl⟩ ?_
          refine a_cVi (c := 3) [vi 59] [] dX3_read_105 myX3_takesSign mRX3_57 mvX3_takesSign rfl (by decide) hk (fun _ hj => tX3_takesSign E l N l0 59 μ2 _ hk hj) (by decide) rfl (Nat.le_of_ble_eq_true rfl) h (fun x2 μ3 hm h => ?_)
          have hk := hm.k hk (by decide)
          have hq10 := hm.k hq10 (by decide)
          refine a_if_ne (tgt := 121) dX3_read_108 rfl h (fun h => ?_) (fun h => ?_)
          ·
            refine a_iinc (F := fun x3 => [(4, vi x3), (0, vr l0)]) 1 dX3_read_121 rfl (by decide) h (fun _ => rfl) (fun x3 h => ?_)
            refine a_goto (tgt := 49) dX3_read_124 rfl ?_
            exact a_sub [1, 0] rfl (p49 l0 x3 μ3 t hk h)
          ·
            exact a_sub [0] rfl (tX3_read_111 E l _ N l0 μ3 t hk h)
      ·
        refine a_aload_n 0 dX3_read_85 rfl rfl ?_
        refine a_iconst dX3_read_86 (okI_b _ rfl) ?_
        refine a_aload_n 0 dX3_read_87 rfl rfl ?_
        refine a_getfi (c := 3) (i := 4) dX3_read_88 fRX3_25 g3_4 rfl hk ?_
        refine a_cVi (c := 3) [vi 5, vi (m_gt μ1 l0 4)] [] dX3_read_91 myX3_fail mRX3_49 mvX3_fail rfl (by decide) hk (fun _ hj => tX3_fail E l N l0 5 (m_gt μ1 l0 4) μ1 _ hk hj) (by decide) rfl (Nat.le_of_ble_eq_true rfl) h (fun x4 μ4 hm h => ?_)
        have hk := hm.k hk (by decide)
        have hq10 := hm.k hq10 (by decide)
        exact a_retz dX3_read_94 h
    ·
      refine a_iconst dX3_read_76 (okI_b _ rfl) ?_
      exact a_retzl (Or.inr rfl) dX3_read_77 h
theorem tX3_read_49 (E : m_E) (l : Launch) (z : Nat × Nat) (N : Nat) : ∀ (n : Nat) (l0 l4 : Int) (μ : Mm) (t : Int × Mm), m_kd μ l0 = (3, 0) → jX3_read_49 N n l0 l4 μ = some t → aX3_read E l 88 z 49 [(0, vr l0), (4, vi l4)] [] μ (rI t)
  | 0, _, _, _, _, _, h => by cases h
  | n + 1, l0, l4, μ, t, hk, h => tX3_read_49b E l z (jX3_read_49 N n) (tX3_read_49 E l z N n) N l0 l4 μ t hk h
theorem tX3_read (E : m_E) (l : Launch) (N : Nat) (l0 l1 l2 l3 : Int) (μ : Mm) (t : Int × Mm) (hk : m_kd μ l0 = (3, 0)) (h : jX3_read N l0 l1 l2 l3 μ = some t) : TT E l 88 yX3_read cX3_read 5 (some .boolean) [vr l0, vr l1, vi l2, vr l3] μ (rI t) := by
  refine tt_of (L := [(0, vr l0), (1, vr l1), (2, vi l2), (3, vr l3)]) (by decide +kernel) (Nat.le_of_ble_eq_true rfl) rfl ?_
  show aX3_read E l 88 (m_sz μ, m_sl μ) 0 [(0, vr l0), (1, vr l1), (2, vi l2), (3, vr l3)] [] μ (rI t)
  unfold jX3_read at h
  refine a_aload_n 0 dX3_read_0 rfl rfl ?_
  refine a_aload_n 1 dX3_read_1 rfl rfl ?_
  refine a_putfr (c := 3) (i := 2) dX3_read_2 fRX3_18 g3_2 (Or.inl rfl) rfl hk h (fun μ1 hm h => ?_)
  have hk := hm.k hk (by decide)
  refine a_aload_n 0 dX3_read_5 rfl rfl ?_
  refine a_iload_n 2 dX3_read_6 rfl rfl ?_
  refine a_aload_n 1 dX3_read_7 rfl rfl ?_
  refine a_alen dX3_read_8 h (fun x1 h => ?_)
  refine a_mmin dX3_read_9 mRX3_32 (by decide) (Nat.le_of_ble_eq_true rfl) ?_
  refine a_putfi (c := 3) (i := 3) dX3_read_12 fRX3_22 g3_3 (Or.inl rfl) rfl hk h (fun μ2 hm h => ?_)
  have hk := hm.k hk (by decide)
  refine a_aload_n 0 dX3_read_15 rfl rfl ?_
  refine a_iconst dX3_read_16 (okI_b _ rfl) ?_
  refine a_putfi (c := 3) (i := 4) dX3_read_17 fRX3_25 g3_4 (Or.inl rfl) rfl hk h (fun μ3 hm h => ?_)
  have hk := hm.k hk (by decide)
  refine a_aload_n 0 dX3_read_20 rfl rfl ?_
  refine a_iconst dX3_read_21 (okI_b _ rfl) ?_
  refine a_putfi (c := 3) (i := 0) dX3_read_22 fRX3_9 g3_0 (Or.inl rfl) rfl hk h (fun μ4 hm h => ?_)
  have hk := hm.k hk (by decide)
  refine a_aload_n 0 dX3_read_25 rfl rfl ?_
  refine a_iconst dX3_read_26 (okI_b _ rfl) ?_
  refine a_putfi (c := 3) (i := 1) dX3_read_27 fRX3_15 g3_1 (Or.inl rfl) rfl hk h (fun μ5 hm h => ?_)
  have hk := hm.k hk (by decide)
  refine a_aload_n 0 dX3_read_30 rfl rfl ?_
  refine a_aload_n 3 dX3_read_31 rfl rfl ?_
  refine a_putfr (c := 3) (i := 5) dX3_read_32 fRX3_28 g3_5 (Or.inl rfl) rfl hk h (fun μ6 hm h => ?_)
  have hk := hm.k hk (by decide)
  refine a_aload_n 0 dX3_read_35 rfl rfl ?_
  refine a_getfr (c := 3) (i := 5) dX3_read_36 fRX3_28 g3_5 rfl hk ?_
  refine m_chk_k h (fun hq29 h => ?_)
  refine a_cVv (c := 1) [] [] dX3_read_39 myX1_empty mRX3_38 mvX1_empty rfl (by decide) hq29 (fun _ hj => tX1_empty E l N (m_gt μ6 l0 5) μ6 _ hq29 hj) (by decide) rfl (Nat.le_of_ble_eq_true rfl) h (fun μ7 hm h => ?_)
  have hk := hm.k hk (by decide)
  have hq29 := hm.k hq29 (by decide)
  refine a_aload_n 0 dX3_read_42 rfl rfl ?_
  refine a_cVv (c := 3) [] [] dX3_read_43 myX3_skip mRX3_43 mvX3_skip rfl (by decide) hk (fun _ hj => tX3_skip E l N l0 μ7 _ hk hj) (by decide) rfl (Nat.le_of_ble_eq_true rfl) h (fun μ8 hm h => ?_)
  have hk := hm.k hk (by decide)
  have hq29 := hm.k hq29 (by decide)
  refine a_iconst dX3_read_46 (okI_b _ rfl) ?_
  refine a_istore (L' := [(4, vi 0), (0, vr l0), (1, vr l1), (2, vi l2), (3, vr l3)]) dX3_read_47 (by decide) rfl ?_
  exact a_sub [1, 0] rfl (tX3_read_49 E l _ N N l0 0 μ8 t hk h)
