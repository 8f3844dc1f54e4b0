-- X2_init
abbrev aX2_init (E : m_E) (l : Launch) (d : Nat) (z : Nat × Nat) (pc : Nat) (L : List (Nat × AV)) (st : List AV) (μ : Mm) (ρ : Option AV × Mm) : Prop := AA E l d z RX2 "<init>" cX2_init 2 none pc L st μ ρ
theorem tX2_init (E : m_E) (l : Launch) (N : Nat) (l0 l1 : Int) (μ : Mm) (t : Mm) (hk : m_kd μ l0 = (2, 0)) (h : jX2_init N l0 l1 μ = some t) : TT E l 3 yX2_init cX2_init 2 none [vr l0, vr l1] μ (rV t) := by
  refine tt_of (L := [(0, vr l0), (1, vr l1)]) (by decide +kernel) (Nat.le_of_ble_eq_true rfl) rfl ?_
  show aX2_init E l 3 (m_sz μ, m_sl μ) 0 [(0, vr l0), (1, vr l1)] [] μ (rV t)
  unfold jX2_init at h
  refine a_aload_n 0 dX2_init_0 rfl rfl ?_
  refine a_objI dX2_init_1 mRX2_3 ob1 ob2 (by decide) hk (by decide) ?_
  refine a_aload_n 0 dX2_init_4 rfl rfl ?_
  refine a_iconst dX2_init_5 (okI_b _ rfl) ?_
  refine a_putfi (c := 2) (i := 0) dX2_init_6 fRX2_11 g2_0 (Or.inl rfl) rfl hk h (fun μ1 hm h => ?_)
  have hk := hm.k hk (by decide)
  refine a_aload_n 0 dX2_init_9 rfl rfl ?_
  refine a_new (c := 6) dX2_init_10 (by decide) ng6 wRX2_15 in6 ii6 h (fun μ2 hm hq7 h => ?_)
  have hk := hm.k hk (by decide)
  refine a_dup dX2_init_13 rfl ?_
  refine a_bipush dX2_init_14 ⟨rfl, okI_b _ rfl⟩ ?_
  refine a_sipush dX2_init_16 ⟨rfl, okI_b _ rfl⟩ ?_
  refine a_cIv [vi 14, vi 850] [vr (m_sz μ1 : Int), vr l0] dX2_init_19 myX6_init mRX2_17 miX6_init rfl hq7 (by decide) (fun _ hj => tX6_init E l N (m_sz μ1 : Int) 14 850 μ2 _ hq7 hj) (by decide) rfl (Nat.le_of_ble_eq_true rfl) h (fun μ3 hm h => ?_)
  have hk := hm.k hk (by decide)
  have hq7 := hm.k hq7 (by decide)
  refine a_putfr (c := 2) (i := 1) dX2_init_22 fRX2_20 g2_1 (Or.inl rfl) rfl hk h (fun μ4 hm h => ?_)
  have hk := hm.k hk (by decide)
  have hq7 := hm.k hq7 (by decide)
  refine a_aload_n 0 dX2_init_25 rfl rfl ?_
  refine a_new (c := 6) dX2_init_26 (by decide) ng6 wRX2_15 in6 ii6 h (fun μ5 hm hq19 h => ?_)
  have hk := hm.k hk (by decide)
  have hq7 := hm.k hq7 (by decide)
  refine a_dup dX2_init_29 rfl ?_
  refine a_bipush dX2_init_30 ⟨rfl, okI_b _ rfl⟩ ?_
  refine a_sipush dX2_init_32 ⟨rfl, okI_b _ rfl⟩ ?_
  refine a_cIv [vi 14, vi 850] [vr (m_sz μ4 : Int), vr l0] dX2_init_35 myX6_init mRX2_17 miX6_init rfl hq19 (by decide) (fun _ hj => tX6_init E l N (m_sz μ4 : Int) 14 850 μ5 _ hq19 hj) (by decide) rfl (Nat.le_of_ble_eq_true rfl) h (fun μ6 hm h => ?_)
  have hk := hm.k hk (by decide)
  have hq7 := hm.k hq7 (by decide)
  have hq19 := hm.k hq19 (by decide)
  refine a_putfr (c := 2) (i := 2) dX2_init_38 fRX2_24 g2_2 (Or.inl rfl) rfl hk h (fun μ7 hm h => ?_)
  have hk := hm.k hk (by decide)
  have hq7 := hm.k hq7 (by decide)
  have hq19 := hm.k hq19 (by decide)
  refine a_aload_n 0 dX2_init_41 rfl rfl ?_
  refine a_bipush dX2_init_42 ⟨rfl, okI_b _ rfl⟩ ?_
  refine a_nai dX2_init_44 ac_int h (fun μ8 hm hq35 h => ?_)
  have hk := hm.k hk (by decide)
  have hq7 := hm.k hq7 (by decide)
  have hq19 := hm.k hq19 (by decide)
  refine a_putfr (c := 2) (i := 5) dX2_init_46 fRX2_27 g2_5 (Or.inr ⟨rfl, rfl, rfl⟩) rfl hk h (fun μ9 hm h => ?_)
  have hk := hm.k hk (by decide)
  have hq7 := hm.k hq7 (by decide)
  have hq19 := hm.k hq19 (by decide)
  refine a_aload_n 0 dX2_init_49 rfl rfl ?_
  refine a_iconst dX2_init_50 (okI_b _ rfl) ?_
  refine a_putfz (c := 2) (i := 6) dX2_init_51 fRX2_31 g2_6 (Or.inl rfl) rfl (Or.inl rfl) hk h (fun μ10 hm h => ?_)
  have hk := hm.k hk (by decide)
  have hq7 := hm.k hq7 (by decide)
  have hq19 := hm.k hq19 (by decide)
  refine a_aload_n 0 dX2_init_54 rfl rfl ?_
  refine a_iconst dX2_init_55 (okI_b _ rfl) ?_
  refine a_putfz (c := 2) (i := 7) dX2_init_56 fRX2_35 g2_7 (Or.inl rfl) rfl (Or.inl rfl) hk h (fun μ11 hm h => ?_)
  have hk := hm.k hk (by decide)
  have hq7 := hm.k hq7 (by decide)
  have hq19 := hm.k hq19 (by decide)
  refine a_aload_n 0 dX2_init_59 rfl rfl ?_
  refine a_iconst dX2_init_60 (okI_b _ rfl) ?_
  refine a_putfi (c := 2) (i := 8) dX2_init_61 fRX2_38 g2_8 (Or.inl rfl) rfl hk h (fun μ12 hm h => ?_)
  have hk := hm.k hk (by decide)
  have hq7 := hm.k hq7 (by decide)
  have hq19 := hm.k hq19 (by decide)
  refine a_aload_n 0 dX2_init_64 rfl rfl ?_
  refine a_iconst dX2_init_65 (okI_b _ rfl) ?_
  refine a_putfi (c := 2) (i := 9) dX2_init_66 fRX2_41 g2_9 (Or.inl rfl) rfl hk h (fun μ13 hm h => ?_)
  have hk := hm.k hk (by decide)
  have hq7 := hm.k hq7 (by decide)
  have hq19 := hm.k hq19 (by decide)
  refine a_aload_n 0 dX2_init_69 rfl rfl ?_
  refine a_lconst (v := 1) dX2_init_70 ⟨rfl, okJ_b _ rfl⟩ ?_
  refine a_putfl (c := 2) (i := 10) dX2_init_71 fRX2_44 g2_10 (Or.inl rfl) rfl hk h (fun μ14 hm h => ?_)
  have hk := hm.k hk (by decide)
  have hq7 := hm.k hq7 (by decide)
  have hq19 := hm.k hq19 (by decide)
  refine a_aload_n 0 dX2_init_74 rfl rfl ?_
  refine a_sipush dX2_init_75 ⟨rfl, okI_b _ rfl⟩ ?_
  refine a_nal dX2_init_78 ac_long h (fun μ15 hm hq75 h => ?_)
  have hk := hm.k hk (by decide)
  have hq7 := hm.k hq7 (by decide)
  have hq19 := hm.k hq19 (by decide)
  refine a_putfr (c := 2) (i := 11) dX2_init_80 fRX2_48 g2_11 (Or.inr ⟨rfl, rfl, rfl⟩) rfl hk h (fun μ16 hm h => ?_)
  have hk := hm.k hk (by decide)
  have hq7 := hm.k hq7 (by decide)
  have hq19 := hm.k hq19 (by decide)
  refine a_aload_n 0 dX2_init_83 rfl rfl ?_
  refine a_sipush dX2_init_84 ⟨rfl, okI_b _ rfl⟩ ?_
  refine a_nai dX2_init_87 ac_int h (fun μ17 hm hq85 h => ?_)
  have hk := hm.k hk (by decide)
  have hq7 := hm.k hq7 (by decide)
  have hq19 := hm.k hq19 (by decide)
  refine a_putfr (c := 2) (i := 12) dX2_init_89 fRX2_52 g2_12 (Or.inr ⟨rfl, rfl, rfl⟩) rfl hk h (fun μ18 hm h => ?_)
  have hk := hm.k hk (by decide)
  have hq7 := hm.k hq7 (by decide)
  have hq19 := hm.k hq19 (by decide)
  refine a_aload_n 0 dX2_init_92 rfl rfl ?_
  refine a_iconst dX2_init_93 (okI_b _ rfl) ?_
  refine a_putfi (c := 2) (i := 13) dX2_init_94 fRX2_55 g2_13 (Or.inl rfl) rfl hk h (fun μ19 hm h => ?_)
  have hk := hm.k hk (by decide)
  have hq7 := hm.k hq7 (by decide)
  have hq19 := hm.k hq19 (by decide)
  refine a_aload_n 0 dX2_init_97 rfl rfl ?_
  refine a_aload_n 1 dX2_init_98 rfl rfl ?_
  refine a_putfr (c := 2) (i := 3) dX2_init_99 fRX2_58 g2_3 (Or.inl rfl) rfl hk h (fun μ20 hm h => ?_)
  have hk := hm.k hk (by decide)
  have hq7 := hm.k hq7 (by decide)
  have hq19 := hm.k hq19 (by decide)
  refine a_aload_n 0 dX2_init_102 rfl rfl ?_
  refine a_aload_n 1 dX2_init_103 rfl rfl ?_
  refine m_chk_k h (fun hq107 h => ?_)
  refine a_getfN (c := 5) (i := 5) (host := "NinepinAlley") dX2_init_104 (by decide) ⟨by decide, by decide⟩ rfl hq107 ?_
  refine a_putfr (c := 2) (i := 4) dX2_init_107 fRX2_68 g2_4 (Or.inl rfl) rfl hk h (fun μ21 hm h => ?_)
  have hk := hm.k hk (by decide)
  have hq7 := hm.k hq7 (by decide)
  have hq19 := hm.k hq19 (by decide)
  have hq107 := hm.k hq107 (by decide)
  exact a_ret0 dX2_init_110 h
-- X2_forget
abbrev aX2_forget (E : m_E) (l : Launch) (d : Nat) (z : Nat × Nat) (pc : Nat) (L : List (Nat × AV)) (st : List AV) (μ : Mm) (ρ : Option AV × Mm) : Prop := AA E l d z RX2 "forget" cX2_forget 1 none pc L st μ ρ
theorem tX2_forget (E : m_E) (l : Launch) (N : Nat) (l0 : Int) (μ : Mm) (t : Mm) (hk : m_kd μ l0 = (2, 0)) (h : jX2_forget N l0 μ = some t) : TT E l 1 yX2_forget cX2_forget 1 none [vr l0] μ (rV t) := by
  refine tt_of (L := [(0, vr l0)]) (by decide +kernel) (Nat.le_of_ble_eq_true rfl) rfl ?_
  show aX2_forget E l 1 (m_sz μ, m_sl μ) 0 [(0, vr l0)] [] μ (rV t)
  unfold jX2_forget at h
  refine a_aload_n 0 dX2_forget_0 rfl rfl ?_
  refine a_iconst dX2_forget_1 (okI_b _ rfl) ?_
  refine a_putfi (c := 2) (i := 0) dX2_forget_2 fRX2_11 g2_0 (Or.inl rfl) rfl hk h (fun μ1 hm h => ?_)
  have hk := hm.k hk (by decide)
  exact a_ret0 dX2_forget_5 h
-- X2_fillsOf
abbrev aX2_fillsOf (E : m_E) (l : Launch) (d : Nat) (z : Nat × Nat) (pc : Nat) (L : List (Nat × AV)) (st : List AV) (μ : Mm) (ρ : Option AV × Mm) : Prop := AA E l d z RX2 "fillsOf" cX2_fillsOf 1 (some .int) pc L st μ ρ
theorem tX2_fillsOf_10 (E : m_E) (l : Launch) (z : Nat × Nat) (N : Nat) (μ : Mm) (t : Int × Mm) (h : jX2_fillsOf_10 N  μ = some t) : aX2_fillsOf E l 2 z 10 [] [] μ (rI t) := by
  unfold jX2_fillsOf_10 at h
  refine a_iconst dX2_fillsOf_10 (okI_b _ rfl) ?_
  exact a_reti dX2_fillsOf_11 h
theorem tX2_fillsOf (E : m_E) (l : Launch) (N : Nat) (l0 : Int) (μ : Mm) (t : Int × Mm) (h : jX2_fillsOf N l0 μ = some t) : TT E l 2 yX2_fillsOf cX2_fillsOf 1 (some .int) [vi l0] μ (rI t) := by
  refine tt_of (L := [(0, vi l0)]) (by decide +kernel) (Nat.le_of_ble_eq_true rfl) rfl ?_
  show aX2_fillsOf E l 2 (m_sz μ, m_sl μ) 0 [(0, vi l0)] [] μ (rI t)
  unfold jX2_fillsOf at h
  refine a_iload_n 0 dX2_fillsOf_0 rfl rfl ?_
  refine a_if_lt (tgt := 10) dX2_fillsOf_1 rfl h (fun h => ?_) (fun h => ?_)
  ·
    exact a_sub [] rfl (tX2_fillsOf_10 E l _ N  μ t h)
  ·
    refine a_iload_n 0 dX2_fillsOf_4 rfl rfl ?_
    refine a_bipush dX2_fillsOf_5 ⟨rfl, okI_b _ rfl⟩ ?_
    refine a_icmp_lt (tgt := 12) dX2_fillsOf_7 rfl h (fun h => ?_) (fun h => ?_)
    ·
      refine a_gets (j := 2) dX2_fillsOf_12 fRX2_209 (by decide) ?_
      refine a_iload_n 0 dX2_fillsOf_15 rfl rfl ?_
      refine a_sald (j := 2) (by decide) dX2_fillsOf_16 h (fun x1 h => ?_)
      refine a_iconst dX2_fillsOf_17 (okI_b _ rfl) ?_
      refine a_mmin dX2_fillsOf_18 mRX2_212 (by decide) (Nat.le_of_ble_eq_true rfl) ?_
      refine a_gets (j := 3) dX2_fillsOf_21 fRX2_214 (by decide) ?_
      refine a_iload_n 0 dX2_fillsOf_24 rfl rfl ?_
      refine a_sald (j := 3) (by decide) dX2_fillsOf_25 h (fun x2 h => ?_)
      refine a_iconst dX2_fillsOf_26 (okI_b _ rfl) ?_
      refine a_mmin dX2_fillsOf_27 mRX2_212 (by decide) (Nat.le_of_ble_eq_true rfl) ?_
      refine a_iadd dX2_fillsOf_30 ?_
      refine a_gets (j := 4) dX2_fillsOf_31 fRX2_217 (by decide) ?_
      refine a_iload_n 0 dX2_fillsOf_34 rfl rfl ?_
      refine a_sald (j := 4) (by decide) dX2_fillsOf_35 h (fun x3 h => ?_)
      refine a_iadd dX2_fillsOf_36 ?_
      exact a_reti dX2_fillsOf_37 h
    ·
      exact a_sub [] rfl (tX2_fillsOf_10 E l _ N  μ t h)
-- X2_givenIn
abbrev aX2_givenIn (E : m_E) (l : Launch) (d : Nat) (z : Nat × Nat) (pc : Nat) (L : List (Nat × AV)) (st : List AV) (μ : Mm) (ρ : Option AV × Mm) : Prop := AA E l d z RX2 "givenIn" cX2_givenIn 2 (some .int) pc L st μ ρ
theorem tX2_givenIn_23 (E : m_E) (l : Launch) (z : Nat × Nat) (N : Nat) (l0 s0 : Int) (μ : Mm) (t : Int × Mm) (hk : m_kd μ l0 = (2, 0)) (h : jX2_givenIn_23 N l0 s0 μ = some t) : aX2_givenIn E l 1 z 23 [(0, vr l0)] [vi s0] μ (rI t) := by
  unfold jX2_givenIn_23 at h
  exact a_reti dX2_givenIn_23 h
theorem tX2_givenIn_13 (E : m_E) (l : Launch) (z : Nat × Nat) (N : Nat) (l0 : Int) (μ : Mm) (t : Int × Mm) (hk : m_kd μ l0 = (2, 0)) (h : jX2_givenIn_13 N l0 μ = some t) : aX2_givenIn E l 1 z 13 [(0, vr l0)] [] μ (rI t) := by
  unfold jX2_givenIn_13 at h
  refine a_iconst dX2_givenIn_13 (okI_b _ rfl) ?_
  refine a_goto (tgt := 23) dX2_givenIn_14 rfl ?_
  exact a_sub [0] rfl (tX2_givenIn_23 E l _ N l0 0 μ t hk h)
theorem tX2_givenIn (E : m_E) (l : Launch) (N : Nat) (l0 l1 : Int) (μ : Mm) (t : Int × Mm) (hk : m_kd μ l0 = (2, 0)) (h : jX2_givenIn N l0 l1 μ = some t) : TT E l 1 yX2_givenIn cX2_givenIn 2 (some .int) [vr l0, vi l1] μ (rI t) := by
  refine tt_of (L := [(0, vr l0), (1, vi l1)]) (by decide +kernel) (Nat.le_of_ble_eq_true rfl) rfl ?_
  show aX2_givenIn E l 1 (m_sz μ, m_sl μ) 0 [(0, vr l0), (1, vi l1)] [] μ (rI t)
  unfold jX2_givenIn at h
  refine a_iload_n 1 dX2_givenIn_0 rfl rfl ?_
  refine a_if_lt (tgt := 13) dX2_givenIn_1 rfl h (fun h => ?_) (fun h => ?_)
  ·
    exact a_sub [0] rfl (tX2_givenIn_13 E l _ N l0 μ t hk h)
  ·
    refine a_iload_n 1 dX2_givenIn_4 rfl rfl ?_
    refine a_aload_n 0 dX2_givenIn_5 rfl rfl ?_
    refine a_getfr (c := 2) (i := 5) dX2_givenIn_6 fRX2_27 g2_5 rfl hk ?_
    refine a_alen dX2_givenIn_9 h (fun x1 h => ?_)
    refine a_icmp_lt (tgt := 17) dX2_givenIn_10 rfl h (fun h => ?_) (fun h => ?_)
    ·
      refine a_aload_n 0 dX2_givenIn_17 rfl rfl ?_
      refine a_getfr (c := 2) (i := 5) dX2_givenIn_18 fRX2_27 g2_5 rfl hk ?_
      refine a_iload_n 1 dX2_givenIn_21 rfl rfl ?_
      refine a_iald dX2_givenIn_22 h (fun x2 h => ?_)
      exact a_sub [0] rfl (tX2_givenIn_23 E l _ N l0 x2 μ t hk h)
    ·
      exact a_sub [0] rfl (tX2_givenIn_13 E l _ N l0 μ t hk h)
-- X2_moveGroup
abbrev aX2_moveGroup (E : m_E) (l : Launch) (d : Nat) (z : Nat × Nat) (pc : Nat) (L : List (Nat × AV)) (st : List AV) (μ : Mm) (ρ : Option AV × Mm) : Prop := AA E l d z RX2 "moveGroup" cX2_moveGroup 6 none pc L st μ ρ
theorem tX2_moveGroup_91 (E : m_E) (l : Launch) (z : Nat × Nat) (N : Nat) (l0 l2 : Int) (μ : Mm) (t : Mm) (hk : m_kd μ l0 = (2, 0)) (h : jX2_moveGroup_91 N l0 l2 μ = some t) : aX2_moveGroup E l 4 z 91 [(0, vr l0), (2, vi l2)] [] μ (rV t) := by
  unfold jX2_moveGroup_91 at h
  refine a_aload_n 0 dX2_moveGroup_91 rfl rfl ?_
  refine a_getfr (c := 2) (i := 11) dX2_moveGroup_92 fRX2_48 g2_11 rfl hk ?_
  refine a_iload_n 1 dX2_moveGroup_95 rfl rfl ?_
  refine a_lconst (v := 0) dX2_moveGroup_96 ⟨rfl, okJ_b _ rfl⟩ ?_
  refine a_last dX2_moveGroup_97 h (fun μ1 hm h => ?_)
  have hk := hm.k hk (by decide)
  exact a_ret0 dX2_moveGroup_98 h
theorem tX2_moveGroup_88 (E : m_E) (l : Launch) (z : Nat × Nat) (N : Nat) (l0 l2 s0 s1 s2 s3 s4 s5 : Int) (μ : Mm) (t : Mm) (hk : m_kd μ l0 = (2, 0)) (h : jX2_moveGroup_88 N l0 l2 s0 s1 s2 s3 s4 s5 μ = some t) : aX2_moveGroup E l 4 z 88 [(0, vr l0), (2, vi l2)] [vl s0, vi s1, vi s2, vi s3, vr s4, vr s5] μ (rV t) := by
  unfold jX2_moveGroup_88 at h
  refine m_chk_k h (fun hq0 h => ?_)
  refine a_cVv (c := 6) [vr s4, vi s3, vi s2, vi s1, vl s0] [] dX2_moveGroup_88 myX6_addMarks mRX2_206 mvX6_addMarks rfl (by decide) hq0 (fun _ hj => tX6_addMarks E l N s5 s4 s3 s2 s1 s0 μ _ hq0 hj) (by decide) rfl (Nat.le_of_ble_eq_true rfl) h (fun μ1 hm h => ?_)
  have hk := hm.k hk (by decide)
  have hq0 := hm.k hq0 (by decide)
  exact a_sub [0, 1] rfl (tX2_moveGroup_91 E l _ N l0 l2 μ1 t hk h)
theorem tX2_moveGroup_13 (E : m_E) (l : Launch) (z : Nat × Nat) (N : Nat) (l0 : Int) (μ : Mm) (t : Mm) (hk : m_kd μ l0 = (2, 0)) (h : jX2_moveGroup_13 N l0 μ = some t) : aX2_moveGroup E l 4 z 13 [(0, vr l0)] [] μ (rV t) := by
  unfold jX2_moveGroup_13 at h
  exact a_ret0 dX2_moveGroup_13 h
theorem tX2_moveGroup (E : m_E) (l : Launch) (N : Nat) (l0 l1 l2 l3 : Int) (μ : Mm) (t : Mm) (hk : m_kd μ l0 = (2, 0)) (h : jX2_moveGroup N l0 l1 l2 l3 μ = some t) : TT E l 4 yX2_moveGroup cX2_moveGroup 6 none [vr l0, vi l1, vi l2, vi l3] μ (rV t) := by
  refine tt_of (L := [(0, vr l0), (1, vi l1), (2, vi l2), (3, vi l3)]) (by decide +kernel) (Nat.le_of_ble_eq_true rfl) rfl ?_
  show aX2_moveGroup E l 4 (m_sz μ, m_sl μ) 0 [(0, vr l0), (1, vi l1), (2, vi l2), (3, vi l3)] [] μ (rV t)
  unfold jX2_moveGroup at h
  refine a_iload_n 2 dX2_moveGroup_0 rfl rfl ?_
  refine a_if_lt (tgt := 13) dX2_moveGroup_1 rfl h (fun h => ?_) (fun h => ?_)
  ·
    exact a_sub [0] rfl (tX2_moveGroup_13 E l _ N l0 μ t hk h)
  ·
    refine a_iload_n 2 dX2_moveGroup_4 rfl rfl ?_
    refine a_aload_n 0 dX2_moveGroup_5 rfl rfl ?_
    refine a_getfr (c := 2) (i := 11) dX2_moveGroup_6 fRX2_48 g2_11 rfl hk ?_
    refine a_alen dX2_moveGroup_9 h (fun x1 h => ?_)
    refine a_icmp_lt (tgt := 14) dX2_moveGroup_10 rfl h (fun h => ?_) (fun h => ?_)
    ·
      refine a_iload_n 2 dX2_moveGroup_14 rfl rfl ?_
      refine a_bipush dX2_moveGroup_15 ⟨rfl, okI_b _ rfl⟩ ?_
      refine a_idivn (by decide) dX2_moveGroup_17 ?_
      refine a_nmi h (fun x2 h => ?_)
      refine a_istore (L' := [(4, vi x2), (0, vr l0), (1, vi l1), (2, vi l2), (3, vi l3)]) dX2_moveGroup_18 (by decide) rfl ?_
      refine a_iload_n 3 dX2_moveGroup_20 rfl rfl ?_
      refine a_bipush dX2_moveGroup_21 ⟨rfl, okI_b _ rfl⟩ ?_
      refine a_iremn (by decide) dX2_moveGroup_23 ?_
      refine a_bipush dX2_moveGroup_24 ⟨rfl, okI_b _ rfl⟩ ?_
      refine a_iadd dX2_moveGroup_26 ?_
      refine a_nmi h (fun x3 h => ?_)
      refine a_istore (L' := [(5, vi x3), (4, vi x2), (0, vr l0), (1, vi l1), (2, vi l2), (3, vi l3)]) dX2_moveGroup_27 (by decide) rfl ?_
      refine a_aload_n 2 dX2_moveGroup_29 rfl rfl ?_
      refine a_getfz (c := 2) (i := 7) dX2_moveGroup_30 fRX2_35 g2_7 rfl hk ?_
      refine a_if_eq (tgt := 61) dX2_moveGroup_33 rfl h (fun h => ?_) (fun h => ?_)
      ·
        refine a_aload_n 2 dX2_moveGroup_61 rfl rfl ?_
        refine a_getfr (c := 2) (i := 2) dX2_moveGroup_62 fRX2_24 g2_2 rfl hk ?_
        refine a_aload_n 2 dX2_moveGroup_65 rfl rfl ?_
        refine a_getfr (c := 2) (i := 1) dX2_moveGroup_66 fRX2_20 g2_1 rfl hk ?_
        refine a_iload_n 3 dX2_moveGroup_69 rfl rfl ?_
        refine a_iload 1 dX2_moveGroup_70 rfl ?_
        refine a_iload 0 dX2_moveGroup_72 rfl ?_
        refine a_iload_n 5 dX2_moveGroup_74 rfl rfl ?_
        refine a_if_eq (tgt := 87) dX2_moveGroup_75 rfl h (fun h => ?_) (fun h => ?_)
        ·
          refine a_lconst (v := 0) dX2_moveGroup_87 ⟨rfl, okJ_b _ rfl⟩ ?_
          exact a_sub [2, 4] rfl (tX2_moveGroup_88 E l _ N l0 l2 0 x3 x2 l1 (m_gt μ l0 1) (m_gt μ l0 2) μ t hk h)
        ·
          refine a_aload_n 2 dX2_moveGroup_78 rfl rfl ?_
          refine a_getfr (c := 2) (i := 11) dX2_moveGroup_79 fRX2_48 g2_11 rfl hk ?_
          refine a_iload_n 4 dX2_moveGroup_82 rfl rfl ?_
          refine a_lald dX2_moveGroup_83 h (fun x4 h => ?_)
          refine a_goto (tgt := 88) dX2_moveGroup_84 rfl ?_
          exact a_sub [2, 4] rfl (tX2_moveGroup_88 E l _ N l0 l2 x4 x3 x2 l1 (m_gt μ l0 1) (m_gt μ l0 2) μ t hk h)
      ·
        refine a_aload_n 2 dX2_moveGroup_36 rfl rfl ?_
        refine a_getfr (c := 2) (i := 2) dX2_moveGroup_37 fRX2_24 g2_2 rfl hk ?_
        refine a_aload_n 2 dX2_moveGroup_40 rfl rfl ?_
        refine a_getfr (c := 2) (i := 1) dX2_moveGroup_41 fRX2_20 g2_1 rfl hk ?_
        refine a_iload_n 3 dX2_moveGroup_44 rfl rfl ?_
        refine a_iload 1 dX2_moveGroup_45 rfl ?_
        refine a_iload 0 dX2_moveGroup_47 rfl ?_
        refine a_aload_n 2 dX2_moveGroup_49 rfl rfl ?_
        refine a_getfr (c := 2) (i := 11) dX2_moveGroup_50 fRX2_48 g2_11 rfl hk ?_
        refine a_iload_n 4 dX2_moveGroup_53 rfl rfl ?_
        refine a_lald dX2_moveGroup_54 h (fun x5 h => ?_)
        refine m_chk_k h (fun hq58 h => ?_)
        refine a_cVv (c := 6) [vr (m_gt μ l0 1), vi l1, vi x2, vi x3, vl x5] [] dX2_moveGroup_55 myX6_addCounts mRX2_202 mvX6_addCounts rfl (by decide) hq58 (fun _ hj => tX6_addCounts E l N (m_gt μ l0 2) (m_gt μ l0 1) l1 x2 x3 x5 μ _ hq58 hj) (by decide) rfl (Nat.le_of_ble_eq_true rfl) h (fun μ1 hm h => ?_)
        have hk := hm.k hk (by decide)
        have hq58 := hm.k hq58 (by decide)
        refine a_goto (tgt := 91) dX2_moveGroup_58 rfl ?_
        exact a_sub [2, 4] rfl (tX2_moveGroup_91 E l _ N l0 l2 μ1 t hk h)
    ·
      exact a_sub [0] rfl (tX2_moveGroup_13 E l _ N l0 μ t hk h)
-- X2_addToGroup
abbrev aX2_addToGroup (E : m_E) (l : Launch) (d : Nat) (z : Nat × Nat) (pc : Nat) (L : List (Nat × AV)) (st : List AV) (μ : Mm) (ρ : Option AV × Mm) : Prop := AA E l d z RX2 "addToGroup" cX2_addToGroup 4 none pc L st μ ρ
theorem tX2_addToGroup_101 (E : m_E) (l : Launch) (z : Nat × Nat) (N : Nat) (l0 s0 s1 s2 : Int) (μ : Mm) (t : Mm) (hk : m_kd μ l0 = (2, 0)) (h : jX2_addToGroup_101 N l0 s0 s1 s2 μ = some t) : aX2_addToGroup E l 1 z 101 [(0, vr l0)] [vl s0, vi s1, vr s2] μ (rV t) := by
  unfold jX2_addToGroup_101 at h
  refine a_last dX2_addToGroup_101 h (fun μ1 hm h => ?_)
  have hk := hm.k hk (by decide)
  exact a_ret0 dX2_addToGroup_102 h
theorem tX2_addToGroup_67 (E : m_E) (l : Launch) (z : Nat × Nat) (N : Nat) (l0 l3 : Int) (μ : Mm) (t : Mm) (hk : m_kd μ l0 = (2, 0)) (h : jX2_addToGroup_67 N l0 l3 μ = some t) : aX2_addToGroup E l 1 z 67 [(0, vr l0), (3, vi l3)] [] μ (rV t) := by
  unfold jX2_addToGroup_67 at h
  refine a_aload_n 0 dX2_addToGroup_67 rfl rfl ?_
  refine a_getfr (c := 2) (i := 11) dX2_addToGroup_68 fRX2_48 g2_11 rfl hk ?_
  refine a_iload_n 1 dX2_addToGroup_71 rfl rfl ?_
  refine a_aload_n 0 dX2_addToGroup_72 rfl rfl ?_
  refine a_getfz (c := 2) (i := 7) dX2_addToGroup_73 fRX2_35 g2_7 rfl hk ?_
  refine a_if_eq (tgt := 90) dX2_addToGroup_76 rfl h (fun h => ?_) (fun h => ?_)
  ·
    refine a_aload_n 0 dX2_addToGroup_90 rfl rfl ?_
    refine a_getfr (c := 2) (i := 11) dX2_addToGroup_91 fRX2_48 g2_11 rfl hk ?_
    refine a_iload_n 1 dX2_addToGroup_94 rfl rfl ?_
    refine a_lald dX2_addToGroup_95 h (fun x1 h => ?_)
    refine a_aload_n 0 dX2_addToGroup_96 rfl rfl ?_
    refine a_getfl (c := 2) (i := 10) dX2_addToGroup_97 fRX2_44 g2_10 rfl hk ?_
    refine a_lor dX2_addToGroup_100 ?_
    exact a_sub [0] rfl (tX2_addToGroup_101 E l _ N l0 (l_or x1 (m_gt μ l0 10)) l3 (m_gt μ l0 11) μ t hk h)
  ·
    refine a_aload_n 0 dX2_addToGroup_79 rfl rfl ?_
    refine a_getfr (c := 2) (i := 11) dX2_addToGroup_80 fRX2_48 g2_11 rfl hk ?_
    refine a_iload_n 1 dX2_addToGroup_83 rfl rfl ?_
    refine a_lald dX2_addToGroup_84 h (fun x2 h => ?_)
    refine a_lconst (v := 1) dX2_addToGroup_85 ⟨rfl, okJ_b _ rfl⟩ ?_
    refine a_ladd dX2_addToGroup_86 ?_
    refine a_goto (tgt := 101) dX2_addToGroup_87 rfl ?_
    exact a_sub [0] rfl (tX2_addToGroup_101 E l _ N l0 (l_add x2 1) l3 (m_gt μ l0 11) μ t hk h)
theorem tX2_addToGroup_23 (E : m_E) (l : Launch) (z : Nat × Nat) (N : Nat) (l0 : Int) (μ : Mm) (t : Mm) (hk : m_kd μ l0 = (2, 0)) (h : jX2_addToGroup_23 N l0 μ = some t) : aX2_addToGroup E l 1 z 23 [(0, vr l0)] [] μ (rV t) := by
  unfold jX2_addToGroup_23 at h
  exact a_ret0 dX2_addToGroup_23 h
theorem tX2_addToGroup (E : m_E) (l : Launch) (N : Nat) (l0 l1 l2 : Int) (μ : Mm) (t : Mm) (hk : m_kd μ l0 = (2, 0)) (h : jX2_addToGroup N l0 l1 l2 μ = some t) : TT E l 1 yX2_addToGroup cX2_addToGroup 4 none [vr l0, vi l1, vi l2] μ (rV t) := by
  refine tt_of (L := [(0, vr l0), (1, vi l1), (2, vi l2)]) (by decide +kernel) (Nat.le_of_ble_eq_true rfl) rfl ?_
  show aX2_addToGroup E l 1 (m_sz μ, m_sl μ) 0 [(0, vr l0), (1, vi l1), (2, vi l2)] [] μ (rV t)
  unfold jX2_addToGroup at h
  refine a_iload_n 1 dX2_addToGroup_0 rfl rfl ?_
  refine a_bipush dX2_addToGroup_1 ⟨rfl, okI_b _ rfl⟩ ?_
  refine a_imul dX2_addToGroup_3 ?_
  refine a_iload_n 2 dX2_addToGroup_4 rfl rfl ?_
  refine a_iadd dX2_addToGroup_5 ?_
  refine a_bipush dX2_addToGroup_6 ⟨rfl, okI_b _ rfl⟩ ?_
  refine a_isub dX2_addToGroup_8 ?_
  refine a_nmi h (fun x1 h => ?_)
  refine a_istore_n (L' := [(3, vi x1), (0, vr l0), (1, vi l1), (2, vi l2)]) dX2_addToGroup_9 rfl (by decide) rfl ?_
  refine a_iload_n 0 dX2_addToGroup_10 rfl rfl ?_
  refine a_if_lt (tgt := 23) dX2_addToGroup_11 rfl h (fun h => ?_) (fun h => ?_)
  ·
    exact a_sub [1] rfl (tX2_addToGroup_23 E l _ N l0 μ t hk h)
  ·
    refine a_iload_n 0 dX2_addToGroup_14 rfl rfl ?_
    refine a_aload_n 1 dX2_addToGroup_15 rfl rfl ?_
    refine a_getfr (c := 2) (i := 11) dX2_addToGroup_16 fRX2_48 g2_11 rfl hk ?_
    refine a_alen dX2_addToGroup_19 h (fun x2 h => ?_)
    refine a_icmp_lt (tgt := 24) dX2_addToGroup_20 rfl h (fun h => ?_) (fun h => ?_)
    ·
      refine a_aload_n 1 dX2_addToGroup_24 rfl rfl ?_
      refine a_getfr (c := 2) (i := 11) dX2_addToGroup_25 fRX2_48 g2_11 rfl hk ?_
      refine a_iload_n 0 dX2_addToGroup_28 rfl rfl ?_
      refine a_lald dX2_addToGroup_29 h (fun x3 h => ?_)
      refine a_lconst (v := 0) dX2_addToGroup_30 ⟨rfl, okJ_b _ rfl⟩ ?_
      refine a_lcmp dX2_addToGroup_31 ?_
      refine a_if_ne (tgt := 67) dX2_addToGroup_32 rfl h (fun h => ?_) (fun h => ?_)
      ·
        exact a_sub [1, 0] rfl (tX2_addToGroup_67 E l _ N l0 x1 μ t hk h)
      ·
        refine a_aload_n 1 dX2_addToGroup_35 rfl rfl ?_
        refine a_getfi (c := 2) (i := 13) dX2_addToGroup_36 fRX2_55 g2_13 rfl hk ?_
        refine a_aload_n 1 dX2_addToGroup_39 rfl rfl ?_
        refine a_getfr (c := 2) (i := 12) dX2_addToGroup_40 fRX2_52 g2_12 rfl hk ?_
        refine a_alen dX2_addToGroup_43 h (fun x4 h => ?_)
        refine a_icmp_ge (tgt := 67) dX2_addToGroup_44 rfl h (fun h => ?_) (fun h => ?_)
        ·
          exact a_sub [1, 0] rfl (tX2_addToGroup_67 E l _ N l0 x1 μ t hk h)
        ·
          refine a_aload_n 1 dX2_addToGroup_47 rfl rfl ?_
          refine a_getfr (c := 2) (i := 12) dX2_addToGroup_48 fRX2_52 g2_12 rfl hk ?_
          refine a_aload_n 1 dX2_addToGroup_51 rfl rfl ?_
          refine a_getfi (c := 2) (i := 13) dX2_addToGroup_52 fRX2_55 g2_13 rfl hk ?_
          refine a_iload_n 0 dX2_addToGroup_55 rfl rfl ?_
          refine a_iast dX2_addToGroup_56 h (fun μ1 hm h => ?_)
          have hk := hm.k hk (by decide)
          refine a_aload_n 1 dX2_addToGroup_57 rfl rfl ?_
          refine a_dup dX2_addToGroup_58 rfl ?_
          refine a_getfi (c := 2) (i := 13) dX2_addToGroup_59 fRX2_55 g2_13 rfl hk ?_
          refine a_iconst dX2_addToGroup_62 (okI_b _ rfl) ?_
          refine a_iadd dX2_addToGroup_63 ?_
          refine a_putfi (c := 2) (i := 13) dX2_addToGroup_64 fRX2_55 g2_13 (Or.inl rfl) rfl hk h (fun μ2 hm h => ?_)
          have hk := hm.k hk (by decide)
          exact a_sub [1, 0] rfl (tX2_addToGroup_67 E l _ N l0 x1 μ2 t hk h)
    ·
      exact a_sub [1] rfl (tX2_addToGroup_23 E l _ N l0 μ t hk h)
-- X2_markTake
abbrev aX2_markTake (E : m_E) (l : Launch) (d : Nat) (z : Nat × Nat) (pc : Nat) (L : List (Nat × AV)) (st : List AV) (μ : Mm) (ρ : Option AV × Mm) : Prop := AA E l d z RX2 "markTake" cX2_markTake 4 none pc L st μ ρ
theorem tX2_markTake_23 (E : m_E) (l : Launch) (z : Nat × Nat) (N : Nat) (l0 : Int) (μ : Mm) (t : Mm) (hk : m_kd μ l0 = (2, 0)) (h : jX2_markTake_23 N l0 μ = some t) : aX2_markTake E l 1 z 23 [(0, vr l0)] [] μ (rV t) := by
  unfold jX2_markTake_23 at h
  exact a_ret0 dX2_markTake_23 h
theorem tX2_markTake (E : m_E) (l : Launch) (N : Nat) (l0 l1 l2 l3 : Int) (μ : Mm) (t : Mm) (hk : m_kd μ l0 = (2, 0)) (h : jX2_markTake N l0 l1 l2 l3 μ = some t) : TT E l 1 yX2_markTake cX2_markTake 4 none [vr l0, vi l1, vi l2, vi l3] μ (rV t) := by
  refine tt_of (L := [(0, vr l0), (1, vi l1), (2, vi l2), (3, vi l3)]) (by decide +kernel) (Nat.le_of_ble_eq_true rfl) rfl ?_
  show aX2_markTake E l 1 (m_sz μ, m_sl μ) 0 [(0, vr l0), (1, vi l1), (2, vi l2), (3, vi l3)] [] μ (rV t)
  unfold jX2_markTake at h
  refine a_iload_n 1 dX2_markTake_0 rfl rfl ?_
  refine a_aload_n 0 dX2_markTake_1 rfl rfl ?_
  refine a_getfi (c := 2) (i := 8) dX2_markTake_2 fRX2_38 g2_8 rfl hk ?_
  refine a_icmp_ne (tgt := 23) dX2_markTake_5 rfl h (fun h => ?_) (fun h => ?_)
  ·
    exact a_sub [0] rfl (tX2_markTake_23 E l _ N l0 μ t hk h)
  ·
    refine a_iload_n 2 dX2_markTake_8 rfl rfl ?_
    refine a_aload_n 0 dX2_markTake_9 rfl rfl ?_
    refine a_getfi (c := 2) (i := 9) dX2_markTake_10 fRX2_41 g2_9 rfl hk ?_
    refine a_icmp_ne (tgt := 23) dX2_markTake_13 rfl h (fun h => ?_) (fun h => ?_)
    ·
      exact a_sub [0] rfl (tX2_markTake_23 E l _ N l0 μ t hk h)
    ·
      refine a_aload_n 0 dX2_markTake_16 rfl rfl ?_
      refine a_lconst (v := 1) dX2_markTake_17 ⟨rfl, okJ_b _ rfl⟩ ?_
      refine a_iload_n 3 dX2_markTake_18 rfl rfl ?_
      refine a_lshl dX2_markTake_19 ?_
      refine a_putfl (c := 2) (i := 10) dX2_markTake_20 fRX2_44 g2_10 (Or.inl rfl) rfl hk h (fun μ1 hm h => ?_)
      have hk := hm.k hk (by decide)
      exact a_sub [0] rfl (tX2_markTake_23 E l _ N l0 μ1 t hk h)
-- X2_nextOf
abbrev aX2_nextOf (E : m_E) (l : Launch) (d : Nat) (z : Nat × Nat) (pc : Nat) (L : List (Nat × AV)) (st : List AV) (μ : Mm) (ρ : Option AV × Mm) : Prop := AA E l d z RX2 "nextOf" cX2_nextOf 1 (some .int) pc L st μ ρ
theorem tX2_nextOf_19 (E : m_E) (l : Launch) (z : Nat × Nat) (N : Nat) (s0 : Int) (μ : Mm) (t : Int × Mm) (h : jX2_nextOf_19 N s0 μ = some t) : aX2_nextOf E l 1 z 19 [] [vi s0] μ (rI t) := by
  unfold jX2_nextOf_19 at h
  exact a_reti dX2_nextOf_19 h
theorem tX2_nextOf_10 (E : m_E) (l : Launch) (z : Nat × Nat) (N : Nat) (μ : Mm) (t : Int × Mm) (h : jX2_nextOf_10 N  μ = some t) : aX2_nextOf E l 1 z 10 [] [] μ (rI t) := by
  unfold jX2_nextOf_10 at h
  refine a_iconst dX2_nextOf_10 (okI_b _ rfl) ?_
  refine a_goto (tgt := 19) dX2_nextOf_11 rfl ?_
  exact a_sub [] rfl (tX2_nextOf_19 E l _ N 0 μ t h)
theorem tX2_nextOf (E : m_E) (l : Launch) (N : Nat) (l0 : Int) (μ : Mm) (t : Int × Mm) (h : jX2_nextOf N l0 μ = some t) : TT E l 1 yX2_nextOf cX2_nextOf 1 (some .int) [vi l0] μ (rI t) := by
  refine tt_of (L := [(0, vi l0)]) (by decide +kernel) (Nat.le_of_ble_eq_true rfl) rfl ?_
  show aX2_nextOf E l 1 (m_sz μ, m_sl μ) 0 [(0, vi l0)] [] μ (rI t)
  unfold jX2_nextOf at h
  refine a_iload_n 0 dX2_nextOf_0 rfl rfl ?_
  refine a_if_lt (tgt := 10) dX2_nextOf_1 rfl h (fun h => ?_) (fun h => ?_)
  ·
    exact a_sub [] rfl (tX2_nextOf_10 E l _ N  μ t h)
  ·
    refine a_iload_n 0 dX2_nextOf_4 rfl rfl ?_
    refine a_bipush dX2_nextOf_5 ⟨rfl, okI_b _ rfl⟩ ?_
    refine a_icmp_lt (tgt := 14) dX2_nextOf_7 rfl h (fun h => ?_) (fun h => ?_)
    ·
      refine a_gets (j := 2) dX2_nextOf_14 fRX2_209 (by decide) ?_
      refine a_iload_n 0 dX2_nextOf_17 rfl rfl ?_
      refine a_sald (j := 2) (by decide) dX2_nextOf_18 h (fun x1 h => ?_)
      exact a_sub [] rfl (tX2_nextOf_19 E l _ N x1 μ t h)
    ·
      exact a_sub [] rfl (tX2_nextOf_10 E l _ N  μ t h)
-- X2_stateOf
abbrev aX2_stateOf (E : m_E) (l : Launch) (d : Nat) (z : Nat × Nat) (pc : Nat) (L : List (Nat × AV)) (st : List AV) (μ : Mm) (ρ : Option AV × Mm) : Prop := AA E l d z RX2 "stateOf" cX2_stateOf 3 (some .int) pc L st μ ρ
theorem tX2_stateOf_34 (E : m_E) (l : Launch) (z : Nat × Nat) (N : Nat) (s0 s1 : Int) (μ : Mm) (t : Int × Mm) (h : jX2_stateOf_34 N s0 s1 μ = some t) : aX2_stateOf E l 1 z 34 [] [vi s0, vi s1] μ (rI t) := by
  unfold jX2_stateOf_34 at h
  refine a_iadd dX2_stateOf_34 ?_
  exact a_reti dX2_stateOf_35 h
theorem tX2_stateOf_12 (E : m_E) (l : Launch) (z : Nat × Nat) (N : Nat) (μ : Mm) (t : Int × Mm) (h : jX2_stateOf_12 N  μ = some t) : aX2_stateOf E l 1 z 12 [] [] μ (rI t) := by
  unfold jX2_stateOf_12 at h
  refine a_iconst dX2_stateOf_12 (okI_b _ rfl) ?_
  exact a_reti dX2_stateOf_13 h
theorem tX2_stateOf (E : m_E) (l : Launch) (N : Nat) (l0 l1 l2 : Int) (μ : Mm) (t : Int × Mm) (h : jX2_stateOf N l0 l1 l2 μ = some t) : TT E l 1 yX2_stateOf cX2_stateOf 3 (some .int) [vi l0, vi l1, vi l2] μ (rI t) := by
  refine tt_of (L := [(0, vi l0), (1, vi l1), (2, vi l2)]) (by decide +kernel) (Nat.le_of_ble_eq_true rfl) rfl ?_
  show aX2_stateOf E l 1 (m_sz μ, m_sl μ) 0 [(0, vi l0), (1, vi l1), (2, vi l2)] [] μ (rI t)
  unfold jX2_stateOf at h
  refine a_iload_n 0 dX2_stateOf_0 rfl rfl ?_
  refine a_if_lt (tgt := 12) dX2_stateOf_1 rfl h (fun h => ?_) (fun h => ?_)
  ·
    exact a_sub [] rfl (tX2_stateOf_12 E l _ N  μ t h)
  ·
    refine a_iload_n 0 dX2_stateOf_4 rfl rfl ?_
    refine a_gets (j := 5) dX2_stateOf_5 fRX2_223 (by decide) ?_
    refine a_slen (j := 5) (by decide) dX2_stateOf_8 ?_
    refine a_icmp_lt (tgt := 14) dX2_stateOf_9 rfl h (fun h => ?_) (fun h => ?_)
    ·
      refine a_gets (j := 5) dX2_stateOf_14 fRX2_223 (by decide) ?_
      refine a_iload_n 0 dX2_stateOf_17 rfl rfl ?_
      refine a_sald (j := 5) (by decide) dX2_stateOf_18 h (fun x1 h => ?_)
      refine a_iload_n 1 dX2_stateOf_19 rfl rfl ?_
      refine a_if_ne (tgt := 27) dX2_stateOf_20 rfl h (fun h => ?_) (fun h => ?_)
      ·
        refine a_iconst dX2_stateOf_27 (okI_b _ rfl) ?_
        refine a_iload_n 1 dX2_stateOf_28 rfl rfl ?_
        refine a_imul dX2_stateOf_29 ?_
        refine a_iconst dX2_stateOf_30 (okI_b _ rfl) ?_
        refine a_isub dX2_stateOf_31 ?_
        refine a_iload_n 2 dX2_stateOf_32 rfl rfl ?_
        refine a_iadd dX2_stateOf_33 ?_
        exact a_sub [] rfl (tX2_stateOf_34 E l _ N (i_add (i_sub (i_mul 2 l1) 1) l2) x1 μ t h)
      ·
        refine a_iconst dX2_stateOf_23 (okI_b _ rfl) ?_
        refine a_goto (tgt := 34) dX2_stateOf_24 rfl ?_
        exact a_sub [] rfl (tX2_stateOf_34 E l _ N 0 x1 μ t h)
    ·
      exact a_sub [] rfl (tX2_stateOf_12 E l _ N  μ t h)
-- X2_stateBehind
abbrev aX2_stateBehind (E : m_E) (l : Launch) (d : Nat) (z : Nat × Nat) (pc : Nat) (L : List (Nat × AV)) (st : List AV) (μ : Mm) (ρ : Option AV × Mm) : Prop := AA E l d z RX2 "stateBehind" cX2_stateBehind 1 (some .int) pc L st μ ρ
theorem tX2_stateBehind_28 (E : m_E) (l : Launch) (z : Nat × Nat) (N : Nat) (s0 : Int) (μ : Mm) (t : Int × Mm) (h : jX2_stateBehind_28 N s0 μ = some t) : aX2_stateBehind E l 2 z 28 [] [vi s0] μ (rI t) := by
  unfold jX2_stateBehind_28 at h
  exact a_reti dX2_stateBehind_28 h
theorem tX2_stateBehind_10 (E : m_E) (l : Launch) (z : Nat × Nat) (N : Nat) (μ : Mm) (t : Int × Mm) (h : jX2_stateBehind_10 N  μ = some t) : aX2_stateBehind E l 2 z 10 [] [] μ (rI t) := by
  unfold jX2_stateBehind_10 at h
  refine a_iconst dX2_stateBehind_10 (okI_b _ rfl) ?_
  refine a_goto (tgt := 28) dX2_stateBehind_11 rfl ?_
  exact a_sub [] rfl (tX2_stateBehind_28 E l _ N 0 μ t h)
theorem tX2_stateBehind (E : m_E) (l : Launch) (N : Nat) (l0 : Int) (μ : Mm) (t : Int × Mm) (h : jX2_stateBehind N l0 μ = some t) : TT E l 2 yX2_stateBehind cX2_stateBehind 1 (some .int) [vi l0] μ (rI t) := by
  refine tt_of (L := [(0, vi l0)]) (by decide +kernel) (Nat.le_of_ble_eq_true rfl) rfl ?_
  show aX2_stateBehind E l 2 (m_sz μ, m_sl μ) 0 [(0, vi l0)] [] μ (rI t)
  unfold jX2_stateBehind at h
  refine a_iload_n 0 dX2_stateBehind_0 rfl rfl ?_
  refine a_if_lt (tgt := 10) dX2_stateBehind_1 rfl h (fun h => ?_) (fun h => ?_)
  ·
    exact a_sub [] rfl (tX2_stateBehind_10 E l _ N  μ t h)
  ·
    refine a_iload_n 0 dX2_stateBehind_4 rfl rfl ?_
    refine a_bipush dX2_stateBehind_5 ⟨rfl, okI_b _ rfl⟩ ?_
    refine a_icmp_lt (tgt := 14) dX2_stateBehind_7 rfl h (fun h => ?_) (fun h => ?_)
    ·
      refine a_gets (j := 3) dX2_stateBehind_14 fRX2_214 (by decide) ?_
      refine a_iload_n 0 dX2_stateBehind_17 rfl rfl ?_
      refine a_sald (j := 3) (by decide) dX2_stateBehind_18 h (fun x1 h => ?_)
      refine a_gets (j := 4) dX2_stateBehind_19 fRX2_217 (by decide) ?_
      refine a_iload_n 0 dX2_stateBehind_22 rfl rfl ?_
      refine a_sald (j := 4) (by decide) dX2_stateBehind_23 h (fun x2 h => ?_)
      refine a_iconst dX2_stateBehind_24 (okI_b _ rfl) ?_
      refine a_cSi [vi x1, vi x2, vi 0] [] dX2_stateBehind_25 myX2_stateOf mRX2_220 msX2_stateOf (fun _ hj => tX2_stateOf E l N x1 x2 0 μ _  hj) (by decide) rfl (Nat.le_of_ble_eq_true rfl) h (fun x3 μ1 hm h => ?_)
      exact a_sub [] rfl (tX2_stateBehind_28 E l _ N x3 μ1 t h)
    ·
      exact a_sub [] rfl (tX2_stateBehind_10 E l _ N  μ t h)
-- X2_playFills
abbrev aX2_playFills (E : m_E) (l : Launch) (d : Nat) (z : Nat × Nat) (pc : Nat) (L : List (Nat × AV)) (st : List AV) (μ : Mm) (ρ : Option AV × Mm) : Prop := AA E l d z RX2 "playFills" cX2_playFills 10 none pc L st μ ρ
theorem tX2_playFills_124 (E : m_E) (l : Launch) (z : Nat × Nat) (dr : Nat) (hdr : 12 ≤ dr) (rX2_playFills : Int → Int → Int → Int → Int → Mm → Option (Mm)) (qX2_playFills : ∀ (a0 a1 a2 a3 a4 : Int) (μ : Mm) (t : Mm), m_kd μ a0 = (2, 0) → rX2_playFills a0 a1 a2 a3 a4 μ = some t → TT E l dr yX2_playFills cX2_playFills 10 none [vr a0, vi a1, vi a2, vi a3, vi a4] μ (rV t)) (k83 : Int → Int → Int → Int → Int → Int → Int → Int → Mm → Option (Mm)) (p83 : ∀ (l0 l1 l2 l3 l4 l5 l7 l8 : Int) (μ : Mm) (t : Mm), m_kd μ l0 = (2, 0) → k83 l0 l1 l2 l3 l4 l5 l7 l8 μ = some t → aX2_playFills E l (dr + 1) z 83 [(0, vr l0), (1, vi l1), (2, vi l2), (3, vi l3), (4, vi l4), (5, vi l5), (7, vi l7), (8, vi l8)] [] μ (rV t)) (N : Nat) (l0 l1 l2 l3 l4 l5 l7 l8 s0 : Int) (μ : Mm) (t : Mm) (hk : m_kd μ l0 = (2, 0)) (h : jX2_playFills_124 rX2_playFills k83 N l0 l1 l2 l3 l4 l5 l7 l8 s0 μ = some t) : aX2_playFills E l (dr + 1) z 124 [(0, vr l0), (1, vi l1), (2, vi l2), (3, vi l3), (4, vi l4), (5, vi l5), (7, vi l7), (8, vi l8)] [vi s0] μ (rV t) := by
  unfold jX2_playFills_124 at h
  refine a_istore (L' := [(9, vi s0), (0, vr l0), (1, vi l1), (2, vi l2), (3, vi l3), (4, vi l4), (5, vi l5), (7, vi l7), (8, vi l8)]) dX2_playFills_124 (by decide) rfl ?_
  refine a_aload_n 1 dX2_playFills_126 rfl rfl ?_
  refine a_iload_n 2 dX2_playFills_127 rfl rfl ?_
  refine a_iconst dX2_playFills_128 (okI_b _ rfl) ?_
  refine a_iadd dX2_playFills_129 ?_
  refine a_iload 0 dX2_playFills_130 rfl ?_
  refine a_iload_n 4 dX2_playFills_132 rfl rfl ?_
  refine a_cSi [vi l3] [vi s0, vi (i_add l1 1), vr l0] dX2_playFills_133 myX2_stateBehind mRX2_185 msX2_stateBehind (fun _ hj => tX2_stateBehind E l N l3 μ _  hj) (by omega) rfl (Nat.le_of_ble_eq_true rfl) h (fun x1 μ1 hm h => ?_)
  have hk := hm.k hk (by decide)
  refine a_iload 5 dX2_playFills_136 rfl ?_
  refine a_iload 6 dX2_playFills_138 rfl ?_
  refine a_iload 8 dX2_playFills_140 rfl ?_
  refine a_imul dX2_playFills_142 ?_
  refine a_iadd dX2_playFills_143 ?_
  refine a_cVv (c := 2) [vi (i_add l1 1), vi s0, vi x1, vi (i_add l4 (i_mul l5 l8))] [] dX2_playFills_144 myX2_playFills mRX2_155 mvX2_playFills rfl (by decide) hk (fun _ hj => qX2_playFills l0 (i_add l1 1) s0 x1 (i_add l4 (i_mul l5 l8)) μ1 _ hk hj) (by omega) rfl (Nat.le_of_ble_eq_true rfl) h (fun μ2 hm h => ?_)
  have hk := hm.k hk (by decide)
  refine a_iinc (F := fun x2 => [(8, vi x2), (9, vi s0), (0, vr l0), (1, vi l1), (2, vi l2), (3, vi l3), (4, vi l4), (5, vi l5), (7, vi l7)]) 8 dX2_playFills_147 rfl (by decide) h (fun _ => rfl) (fun x2 h => ?_)
  refine a_goto (tgt := 83) dX2_playFills_150 rfl ?_
  exact a_sub [2, 3, 4, 5, 6, 7, 8, 0] rfl (p83 l0 l1 l2 l3 l4 l5 l7 x2 μ2 t hk h)
theorem tX2_playFills_83b (E : m_E) (l : Launch) (z : Nat × Nat) (dr : Nat) (hdr : 12 ≤ dr) (rX2_playFills : Int → Int → Int → Int → Int → Mm → Option (Mm)) (qX2_playFills : ∀ (a0 a1 a2 a3 a4 : Int) (μ : Mm) (t : Mm), m_kd μ a0 = (2, 0) → rX2_playFills a0 a1 a2 a3 a4 μ = some t → TT E l dr yX2_playFills cX2_playFills 10 none [vr a0, vi a1, vi a2, vi a3, vi a4] μ (rV t)) (k83 : Int → Int → Int → Int → Int → Int → Int → Int → Mm → Option (Mm)) (p83 : ∀ (l0 l1 l2 l3 l4 l5 l7 l8 : Int) (μ : Mm) (t : Mm), m_kd μ l0 = (2, 0) → k83 l0 l1 l2 l3 l4 l5 l7 l8 μ = some t → aX2_playFills E l (dr + 1) z 83 [(0, vr l0), (1, vi l1), (2, vi l2), (3, vi l3), (4, vi l4), (5, vi l5), (7, vi l7), (8, vi l8)] [] μ (rV t)) (N : Nat) (l0 l1 l2 l3 l4 l5 l7 l8 : Int) (μ : Mm) (t : Mm) (hk : m_kd μ l0 = (2, 0)) (h : jX2_playFills_83b rX2_playFills k83 N l0 l1 l2 l3 l4 l5 l7 l8 μ = some t) : aX2_playFills E l (dr + 1) z 83 [(0, vr l0), (1, vi l1), (2, vi l2), (3, vi l3), (4, vi l4), (5, vi l5), (7, vi l7), (8, vi l8)] [] μ (rV t) := by
  unfold jX2_playFills_83b at h
  refine a_iload 7 dX2_playFills_83 rfl ?_
  refine a_iload 6 dX2_playFills_85 rfl ?_
  refine a_icmp_gt (tgt := 153) dX2_playFills_87 rfl h (fun h => ?_) (fun h => ?_)
  ·
    exact a_ret0 dX2_playFills_153 h
  ·
    refine a_aload_n 0 dX2_playFills_90 rfl rfl ?_
    refine a_aload_n 0 dX2_playFills_91 rfl rfl ?_
    refine a_getfr (c := 2) (i := 4) dX2_playFills_92 fRX2_68 g2_4 rfl hk ?_
    refine m_chk_k h (fun hq9 h => ?_)
    refine a_getfi (c := 1) (i := 2) dX2_playFills_95 fRX2_87 g1_2 rfl hq9 ?_
    refine a_iload_n 1 dX2_playFills_98 rfl rfl ?_
    refine a_iload 7 dX2_playFills_99 rfl ?_
    refine a_cVv (c := 2) [vi (m_gt μ (m_gt μ l0 4) 2), vi l1, vi l8] [] dX2_playFills_101 myX2_markTake mRX2_198 mvX2_markTake rfl (by decide) hk (fun _ hj => tX2_markTake E l N l0 (m_gt μ (m_gt μ l0 4) 2) l1 l8 μ _ hk hj) (by omega) rfl (Nat.le_of_ble_eq_true rfl) h (fun μ1 hm h => ?_)
    have hk := hm.k hk (by decide)
    have hq9 := hm.k hq9 (by decide)
    refine a_iload 7 dX2_playFills_104 rfl ?_
    refine a_iload_n 2 dX2_playFills_106 rfl rfl ?_
    refine a_icmp_ne (tgt := 120) dX2_playFills_107 rfl h (fun h => ?_) (fun h => ?_)
    ·
      refine a_iload_n 2 dX2_playFills_120 rfl rfl ?_
      refine a_iload 7 dX2_playFills_121 rfl ?_
      refine a_isub dX2_playFills_123 ?_
      exact a_sub [0, 1, 2, 3, 4, 5, 6, 7] rfl (tX2_playFills_124 E l _ dr hdr rX2_playFills qX2_playFills k83 p83 N l0 l1 l2 l3 l4 l5 l7 l8 (i_sub l2 l8) μ1 t hk h)
    ·
      refine a_aload_n 0 dX2_playFills_110 rfl rfl ?_
      refine a_getfr (c := 2) (i := 4) dX2_playFills_111 fRX2_68 g2_4 rfl hk ?_
      refine m_chk_k h (fun hq27 h => ?_)
      refine a_getfi (c := 1) (i := 1) dX2_playFills_114 fRX2_142 g1_1 rfl hq27 ?_
      refine a_goto (tgt := 124) dX2_playFills_117 rfl ?_
      exact a_sub [0, 1, 2, 3, 4, 5, 6, 7] rfl (tX2_playFills_124 E l _ dr hdr rX2_playFills qX2_playFills k83 p83 N l0 l1 l2 l3 l4 l5 l7 l8 (m_gt μ1 (m_gt μ1 l0 4) 1) μ1 t hk h)
theorem tX2_playFills_83 (E : m_E) (l : Launch) (z : Nat × Nat) (dr : Nat) (hdr : 12 ≤ dr) (rX2_playFills : Int → Int → Int → Int → Int → Mm → Option (Mm)) (qX2_playFills : ∀ (a0 a1 a2 a3 a4 : Int) (μ : Mm) (t : Mm), m_kd μ a0 = (2, 0) → rX2_playFills a0 a1 a2 a3 a4 μ = some t → TT E l dr yX2_playFills cX2_playFills 10 none [vr a0, vi a1, vi a2, vi a3, vi a4] μ (rV t)) (N : Nat) : ∀ (n : Nat) (l0 l1 l2 l3 l4 l5 l7 l8 : Int) (μ : Mm) (t : Mm), m_kd μ l0 = (2, 0) → jX2_playFills_83 rX2_playFills N n l0 l1 l2 l3 l4 l5 l7 l8 μ = some t → aX2_playFills E l (dr + 1) z 83 [(0, vr l0), (1, vi l1), (2, vi l2), (3, vi l3), (4, vi l4), (5, vi l5), (7, vi l7), (8, vi l8)] [] μ (rV t)
  | 0, _, _, _, _, _, _, _, _, _, _, _, h => by cases h
  | n + 1, l0, l1, l2, l3, l4, l5, l7, l8, μ, t, hk, h => tX2_playFills_83b E l z dr hdr rX2_playFills qX2_playFills (jX2_playFills_83 rX2_playFills N n) (tX2_playFills_83 E l z dr hdr rX2_playFills qX2_playFills N n) N l0 l1 l2 l3 l4 l5 l7 l8 μ t hk h
theorem tX2_playFills_79 (E : m_E) (l : Launch) (z : Nat × Nat) (dr : Nat) (hdr : 12 ≤ dr) (rX2_playFills : Int → Int → Int → Int → Int → Mm → Option (Mm)) (qX2_playFills : ∀ (a0 a1 a2 a3 a4 : Int) (μ : Mm) (t : Mm), m_kd μ a0 = (2, 0) → rX2_playFills a0 a1 a2 a3 a4 μ = some t → TT E l dr yX2_playFills cX2_playFills 10 none [vr a0, vi a1, vi a2, vi a3, vi a4] μ (rV t)) (N : Nat) (l0 l1 l2 l3 l4 l5 l6 l7 : Int) (μ : Mm) (t : Mm) (hk : m_kd μ l0 = (2, 0)) (h : jX2_playFills_79 rX2_playFills N l0 l1 l2 l3 l4 l5 l6 l7 μ = some t) : aX2_playFills E l (dr + 1) z 79 [(0, vr l0), (1, vi l1), (2, vi l2), (3, vi l3), (4, vi l4), (5, vi l5), (6, vi l6), (7, vi l7)] [] μ (rV t) := by
  unfold jX2_playFills_79 at h
  refine a_iload 6 dX2_playFills_79 rfl ?_
  refine a_istore (L' := [(8, vi l6), (0, vr l0), (1, vi l1), (2, vi l2), (3, vi l3), (4, vi l4), (5, vi l5), (6, vi l6), (7, vi l7)]) dX2_playFills_81 (by decide) rfl ?_
  exact a_sub [1, 2, 3, 4, 5, 6, 8, 0] rfl (tX2_playFills_83 E l _ dr hdr rX2_playFills qX2_playFills N N l0 l1 l2 l3 l4 l5 l7 l6 μ t hk h)
theorem tX2_playFills_16 (E : m_E) (l : Launch) (z : Nat × Nat) (dr : Nat) (hdr : 12 ≤ dr) (rX2_playFills : Int → Int → Int → Int → Int → Mm → Option (Mm)) (qX2_playFills : ∀ (a0 a1 a2 a3 a4 : Int) (μ : Mm) (t : Mm), m_kd μ a0 = (2, 0) → rX2_playFills a0 a1 a2 a3 a4 μ = some t → TT E l dr yX2_playFills cX2_playFills 10 none [vr a0, vi a1, vi a2, vi a3, vi a4] μ (rV t)) (N : Nat) (l0 l4 : Int) (μ : Mm) (t : Mm) (hk : m_kd μ l0 = (2, 0)) (h : jX2_playFills_16 rX2_playFills N l0 l4 μ = some t) : aX2_playFills E l (dr + 1) z 16 [(0, vr l0), (4, vi l4)] [] μ (rV t) := by
  unfold jX2_playFills_16 at h
  refine a_aload_n 0 dX2_playFills_16 rfl rfl ?_
  refine a_iconst dX2_playFills_17 (okI_b _ rfl) ?_
  refine a_iload 1 dX2_playFills_18 rfl ?_
  refine a_cVv (c := 2) [vi 0, vi l4] [] dX2_playFills_20 myX2_addToGroup mRX2_179 mvX2_addToGroup rfl (by decide) hk (fun _ hj => tX2_addToGroup E l N l0 0 l4 μ _ hk hj) (by omega) rfl (Nat.le_of_ble_eq_true rfl) h (fun μ1 hm h => ?_)
  have hk := hm.k hk (by decide)
  exact a_ret0 dX2_playFills_23 h
theorem tX2_playFills_B (E : m_E) (l : Launch) (dr : Nat) (hdr : 12 ≤ dr) (rX2_playFills : Int → Int → Int → Int → Int → Mm → Option (Mm)) (qX2_playFills : ∀ (a0 a1 a2 a3 a4 : Int) (μ : Mm) (t : Mm), m_kd μ a0 = (2, 0) → rX2_playFills a0 a1 a2 a3 a4 μ = some t → TT E l dr yX2_playFills cX2_playFills 10 none [vr a0, vi a1, vi a2, vi a3, vi a4] μ (rV t)) (N : Nat) (l0 l1 l2 l3 l4 : Int) (μ : Mm) (t : Mm) (hk : m_kd μ l0 = (2, 0)) (h : jX2_playFills_B rX2_playFills N l0 l1 l2 l3 l4 μ = some t) : TT E l (dr + 1) yX2_playFills cX2_playFills 10 none [vr l0, vi l1, vi l2, vi l3, vi l4] μ (rV t) := by
  refine tt_of (L := [(0, vr l0), (1, vi l1), (2, vi l2), (3, vi l3), (4, vi l4)]) (by decide +kernel) (Nat.le_of_ble_eq_true rfl) rfl ?_
  show aX2_playFills E l (dr + 1) (m_sz μ, m_sl μ) 0 [(0, vr l0), (1, vi l1), (2, vi l2), (3, vi l3), (4, vi l4)] [] μ (rV t)
  unfold jX2_playFills_B at h
  refine a_iload_n 3 dX2_playFills_0 rfl rfl ?_
  refine a_cSi [vi l3] [] dX2_playFills_1 myX2_nextOf mRX2_182 msX2_nextOf (fun _ hj => tX2_nextOf E l N l3 μ _  hj) (by omega) rfl (Nat.le_of_ble_eq_true rfl) h (fun x1 μ1 hm h => ?_)
  have hk := hm.k hk (by decide)
  refine a_istore (L' := [(5, vi x1), (0, vr l0), (1, vi l1), (2, vi l2), (3, vi l3), (4, vi l4)]) dX2_playFills_4 (by decide) rfl ?_
  refine a_iload 0 dX2_playFills_6 rfl ?_
  refine a_if_eq (tgt := 16) dX2_playFills_8 rfl h (fun h => ?_) (fun h => ?_)
  ·
    exact a_sub [1, 5] rfl (tX2_playFills_16 E l _ dr hdr rX2_playFills qX2_playFills N l0 l4 μ1 t hk h)
  ·
    refine a_iload_n 2 dX2_playFills_11 rfl rfl ?_
    refine a_iconst dX2_playFills_12 (okI_b _ rfl) ?_
    refine a_icmp_lt (tgt := 24) dX2_playFills_13 rfl h (fun h => ?_) (fun h => ?_)
    ·
      refine a_iconst dX2_playFills_24 (okI_b _ rfl) ?_
      refine a_istore (L' := [(6, vi 0), (5, vi x1), (0, vr l0), (1, vi l1), (2, vi l2), (3, vi l3), (4, vi l4)]) dX2_playFills_25 (by decide) rfl ?_
      refine a_iload_n 4 dX2_playFills_27 rfl rfl ?_
      refine a_istore (L' := [(7, vi l2), (6, vi 0), (5, vi x1), (0, vr l0), (1, vi l1), (2, vi l2), (3, vi l3), (4, vi l4)]) dX2_playFills_28 (by decide) rfl ?_
      refine a_iload_n 4 dX2_playFills_30 rfl rfl ?_
      refine a_aload_n 3 dX2_playFills_31 rfl rfl ?_
      refine a_aload_n 3 dX2_playFills_32 rfl rfl ?_
      refine a_getfr (c := 2) (i := 4) dX2_playFills_33 fRX2_68 g2_4 rfl hk ?_
      refine m_chk_k h (fun hq21 h => ?_)
      refine a_getfi (c := 1) (i := 2) dX2_playFills_36 fRX2_87 g1_2 rfl hq21 ?_
      refine a_cVi (c := 2) [vi (m_gt μ1 (m_gt μ1 l0 4) 2)] [vi l1] dX2_playFills_39 myX2_givenIn mRX2_152 mvX2_givenIn rfl (by decide) hk (fun _ hj => tX2_givenIn E l N l0 (m_gt μ1 (m_gt μ1 l0 4) 2) μ1 _ hk hj) (by omega) rfl (Nat.le_of_ble_eq_true rfl) h (fun x2 μ2 hm h => ?_)
      have hk := hm.k hk (by decide)
      have hq21 := hm.k hq21 (by decide)
      refine a_icmp_ge (tgt := 79) dX2_playFills_42 rfl h (fun h => ?_) (fun h => ?_)
      ·
        exact a_sub [3, 4, 5, 6, 7, 2, 1, 0] rfl (tX2_playFills_79 E l _ dr hdr rX2_playFills qX2_playFills N l0 l1 l2 l3 l4 x1 0 l2 μ2 t hk h)
      ·
        refine a_iconst dX2_playFills_45 (okI_b _ rfl) ?_
        refine a_aload_n 3 dX2_playFills_46 rfl rfl ?_
        refine a_getfr (c := 2) (i := 3) dX2_playFills_47 fRX2_58 g2_3 rfl hk ?_
        refine a_aload_n 3 dX2_playFills_50 rfl rfl ?_
        refine a_getfr (c := 2) (i := 3) dX2_playFills_51 fRX2_58 g2_3 rfl hk ?_
        refine a_aload_n 3 dX2_playFills_54 rfl rfl ?_
        refine a_getfr (c := 2) (i := 4) dX2_playFills_55 fRX2_68 g2_4 rfl hk ?_
        refine m_chk_k h (fun hq37 h => ?_)
        refine a_getfi (c := 1) (i := 2) dX2_playFills_58 fRX2_87 g1_2 rfl hq37 ?_
        refine m_chk_k h (fun hq39 h => ?_)
        refine a_cVi (c := 5) [vi (m_gt μ2 (m_gt μ2 l0 4) 2)] [vr (m_gt μ2 l0 3), vi 0] dX2_playFills_61 myX5_firstRoll mRX2_188 mvX5_firstRoll rfl (by decide) hq39 (fun _ hj => tX5_firstRoll E l N (m_gt μ2 l0 3) (m_gt μ2 (m_gt μ2 l0 4) 2) μ2 _ hq39 hj) (by omega) rfl (Nat.le_of_ble_eq_true rfl) h (fun x3 μ3 hm h => ?_)
        have hk := hm.k hk (by decide)
        have hq21 := hm.k hq21 (by decide)
        have hq37 := hm.k hq37 (by decide)
        have hq39 := hm.k hq39 (by decide)
        refine a_iload_n 4 dX2_playFills_64 rfl rfl ?_
        refine a_iadd dX2_playFills_65 ?_
        refine a_cVi (c := 5) [vi (i_add x3 l1)] [vi 0] dX2_playFills_66 myX5_rollAt mRX2_191 mvX5_rollAt rfl (by decide) hq39 (fun _ hj => tX5_rollAt E l N (m_gt μ2 l0 3) (i_add x3 l1) μ3 _ hq39 hj) (by omega) rfl (Nat.le_of_ble_eq_true rfl) h (fun x4 μ4 hm h => ?_)
        have hk := hm.k hk (by decide)
        have hq21 := hm.k hq21 (by decide)
        have hq37 := hm.k hq37 (by decide)
        have hq39 := hm.k hq39 (by decide)
        refine a_iload_n 5 dX2_playFills_69 rfl rfl ?_
        refine a_cSNi (host := "NinepinAlley") [vi 0, vi x4, vi l2] [] dX2_playFills_70 myX7_within (by decide) msX7_within (fun _ hj => tX7_within E l N 0 x4 l2 μ4 _  hj) (by omega) rfl (Nat.le_of_ble_eq_true rfl) h (fun x5 μ5 hm h => ?_)
        have hk := hm.k hk (by decide)
        have hq21 := hm.k hq21 (by decide)
        have hq37 := hm.k hq37 (by decide)
        have hq39 := hm.k hq39 (by decide)
        refine a_istore (L' := [(6, vi x5), (7, vi l2), (5, vi x1), (0, vr l0), (1, vi l1), (2, vi l2), (3, vi l3), (4, vi l4)]) dX2_playFills_73 (by decide) rfl ?_
        refine a_iload 0 dX2_playFills_75 rfl ?_
        refine a_istore (L' := [(7, vi x5), (6, vi x5), (5, vi x1), (0, vr l0), (1, vi l1), (2, vi l2), (3, vi l3), (4, vi l4)]) dX2_playFills_77 (by decide) rfl ?_
        exact a_sub [3, 4, 5, 6, 7, 2, 1, 0] rfl (tX2_playFills_79 E l _ dr hdr rX2_playFills qX2_playFills N l0 l1 l2 l3 l4 x1 x5 x5 μ5 t hk h)
    ·
      exact a_sub [1, 5] rfl (tX2_playFills_16 E l _ dr hdr rX2_playFills qX2_playFills N l0 l4 μ1 t hk h)
theorem tX2_playFills_n (E : m_E) (l : Launch) (N : Nat) : ∀ (n : Nat) (l0 l1 l2 l3 l4 : Int) (μ : Mm) (t : Mm), m_kd μ l0 = (2, 0) → jX2_playFills N n l0 l1 l2 l3 l4 μ = some t → TT E l (12 + 1 * n) yX2_playFills cX2_playFills 10 none [vr l0, vi l1, vi l2, vi l3, vi l4] μ (rV t)
  | 0, _, _, _, _, _, _, _, _, h => by cases h
  | n + 1, l0, l1, l2, l3, l4, μ, t, hk, h => tX2_playFills_B E l (12 + 1 * n) (by omega) (jX2_playFills N n) (tX2_playFills_n E l N n) N l0 l1 l2 l3 l4 μ t hk h
theorem tX2_playFills (E : m_E) (l : Launch) (N n : Nat) (l0 l1 l2 l3 l4 : Int) (μ : Mm) (t : Mm) (hk : m_kd μ l0 = (2, 0)) (h : jX2_playFills N 10 l0 l1 l2 l3 l4 μ = some t) : TT E l 22 yX2_playFills cX2_playFills 10 none [vr l0, vi l1, vi l2, vi l3, vi l4] μ (rV t) := tX2_playFills_n E l N 10 l0 l1 l2 l3 l4 μ t hk h
-- X2_stateWith
abbrev aX2_stateWith (E : m_E) (l : Launch) (d : Nat) (z : Nat × Nat) (pc : Nat) (L : List (Nat × AV)) (st : List AV) (μ : Mm) (ρ : Option AV × Mm) : Prop := AA E l d z RX2 "stateWith" cX2_stateWith 2 (some .int) pc L st μ ρ
theorem tX2_stateWith_58 (E : m_E) (l : Launch) (z : Nat × Nat) (N : Nat) (s0 s1 s2 s3 : Int) (μ : Mm) (t : Int × Mm) (h : jX2_stateWith_58 N s0 s1 s2 s3 μ = some t) : aX2_stateWith E l 2 z 58 [] [vi s0, vi s1, vi s2, vi s3] μ (rI t) := by
  unfold jX2_stateWith_58 at h
  refine a_iadd dX2_stateWith_58 ?_
  refine a_cSi [vi s3, vi s2, vi (i_add s1 s0)] [] dX2_stateWith_59 myX2_stateOf mRX2_220 msX2_stateOf (fun _ hj => tX2_stateOf E l N s3 s2 (i_add s1 s0) μ _  hj) (by decide) rfl (Nat.le_of_ble_eq_true rfl) h (fun x1 μ1 hm h => ?_)
  exact a_reti dX2_stateWith_62 h
theorem tX2_stateWith_42 (E : m_E) (l : Launch) (z : Nat × Nat) (N : Nat) (l0 l1 s0 s1 s2 : Int) (μ : Mm) (t : Int × Mm) (h : jX2_stateWith_42 N l0 l1 s0 s1 s2 μ = some t) : aX2_stateWith E l 2 z 42 [(0, vi l0), (1, vi l1)] [vi s0, vi s1, vi s2] μ (rI t) := by
  unfold jX2_stateWith_42 at h
  refine a_iadd dX2_stateWith_42 ?_
  refine a_gets (j := 4) dX2_stateWith_43 fRX2_217 (by decide) ?_
  refine a_iload_n 0 dX2_stateWith_46 rfl rfl ?_
  refine a_sald (j := 4) (by decide) dX2_stateWith_47 h (fun x1 h => ?_)
  refine a_iload_n 1 dX2_stateWith_48 rfl rfl ?_
  refine a_iconst dX2_stateWith_49 (okI_b _ rfl) ?_
  refine a_icmp_le (tgt := 57) dX2_stateWith_50 rfl h (fun h => ?_) (fun h => ?_)
  ·
    refine a_iconst dX2_stateWith_57 (okI_b _ rfl) ?_
    exact a_sub [] rfl (tX2_stateWith_58 E l _ N 0 x1 (i_add s1 s0) s2 μ t h)
  ·
    refine a_iconst dX2_stateWith_53 (okI_b _ rfl) ?_
    refine a_goto (tgt := 58) dX2_stateWith_54 rfl ?_
    exact a_sub [] rfl (tX2_stateWith_58 E l _ N 1 x1 (i_add s1 s0) s2 μ t h)
theorem tX2_stateWith_26 (E : m_E) (l : Launch) (z : Nat × Nat) (N : Nat) (l0 l1 s0 s1 : Int) (μ : Mm) (t : Int × Mm) (h : jX2_stateWith_26 N l0 l1 s0 s1 μ = some t) : aX2_stateWith E l 2 z 26 [(0, vi l0), (1, vi l1)] [vi s0, vi s1] μ (rI t) := by
  unfold jX2_stateWith_26 at h
  refine a_iadd dX2_stateWith_26 ?_
  refine a_gets (j := 3) dX2_stateWith_27 fRX2_214 (by decide) ?_
  refine a_iload_n 0 dX2_stateWith_30 rfl rfl ?_
  refine a_sald (j := 3) (by decide) dX2_stateWith_31 h (fun x1 h => ?_)
  refine a_iload_n 1 dX2_stateWith_32 rfl rfl ?_
  refine a_iconst dX2_stateWith_33 (okI_b _ rfl) ?_
  refine a_icmp_le (tgt := 41) dX2_stateWith_34 rfl h (fun h => ?_) (fun h => ?_)
  ·
    refine a_iconst dX2_stateWith_41 (okI_b _ rfl) ?_
    exact a_sub [0, 1] rfl (tX2_stateWith_42 E l _ N l0 l1 0 x1 (i_add s1 s0) μ t h)
  ·
    refine a_iconst dX2_stateWith_37 (okI_b _ rfl) ?_
    refine a_goto (tgt := 42) dX2_stateWith_38 rfl ?_
    exact a_sub [0, 1] rfl (tX2_stateWith_42 E l _ N l0 l1 1 x1 (i_add s1 s0) μ t h)
theorem tX2_stateWith_10 (E : m_E) (l : Launch) (z : Nat × Nat) (N : Nat) (μ : Mm) (t : Int × Mm) (h : jX2_stateWith_10 N  μ = some t) : aX2_stateWith E l 2 z 10 [] [] μ (rI t) := by
  unfold jX2_stateWith_10 at h
  refine a_iconst dX2_stateWith_10 (okI_b _ rfl) ?_
  exact a_reti dX2_stateWith_11 h
theorem tX2_stateWith (E : m_E) (l : Launch) (N : Nat) (l0 l1 : Int) (μ : Mm) (t : Int × Mm) (h : jX2_stateWith N l0 l1 μ = some t) : TT E l 2 yX2_stateWith cX2_stateWith 2 (some .int) [vi l0, vi l1] μ (rI t) := by
  refine tt_of (L := [(0, vi l0), (1, vi l1)]) (by decide +kernel) (Nat.le_of_ble_eq_true rfl) rfl ?_
  show aX2_stateWith E l 2 (m_sz μ, m_sl μ) 0 [(0, vi l0), (1, vi l1)] [] μ (rI t)
  unfold jX2_stateWith at h
  refine a_iload_n 0 dX2_stateWith_0 rfl rfl ?_
  refine a_if_lt (tgt := 10) dX2_stateWith_1 rfl h (fun h => ?_) (fun h => ?_)
  ·
    exact a_sub [] rfl (tX2_stateWith_10 E l _ N  μ t h)
  ·
    refine a_iload_n 0 dX2_stateWith_4 rfl rfl ?_
    refine a_bipush dX2_stateWith_5 ⟨rfl, okI_b _ rfl⟩ ?_
    refine a_icmp_lt (tgt := 12) dX2_stateWith_7 rfl h (fun h => ?_) (fun h => ?_)
    ·
      refine a_gets (j := 2) dX2_stateWith_12 fRX2_209 (by decide) ?_
      refine a_iload_n 0 dX2_stateWith_15 rfl rfl ?_
      refine a_sald (j := 2) (by decide) dX2_stateWith_16 h (fun x1 h => ?_)
      refine a_iload_n 1 dX2_stateWith_17 rfl rfl ?_
      refine a_if_le (tgt := 25) dX2_stateWith_18 rfl h (fun h => ?_) (fun h => ?_)
      ·
        refine a_iconst dX2_stateWith_25 (okI_b _ rfl) ?_
        exact a_sub [0, 1] rfl (tX2_stateWith_26 E l _ N l0 l1 0 x1 μ t h)
      ·
        refine a_iconst dX2_stateWith_21 (okI_b _ rfl) ?_
        refine a_goto (tgt := 26) dX2_stateWith_22 rfl ?_
        exact a_sub [0, 1] rfl (tX2_stateWith_26 E l _ N l0 l1 1 x1 μ t h)
    ·
      exact a_sub [] rfl (tX2_stateWith_10 E l _ N  μ t h)
-- X2_playFrame
abbrev aX2_playFrame (E : m_E) (l : Launch) (d : Nat) (z : Nat × Nat) (pc : Nat) (L : List (Nat × AV)) (st : List AV) (μ : Mm) (ρ : Option AV × Mm) : Prop := AA E l d z RX2 "playFrame" cX2_playFrame 11 none pc L st μ ρ
theorem tX2_playFrame_185b (E : m_E) (l : Launch) (z : Nat × Nat) (dr : Nat) (hdr : 12 ≤ dr) (rX2_playFrame : Int → Int → Int → Int → Int → Int → Int → Mm → Option (Mm)) (qX2_playFrame : ∀ (a0 a1 a2 a3 a4 a5 a6 : Int) (μ : Mm) (t : Mm), m_kd μ a0 = (2, 0) → rX2_playFrame a0 a1 a2 a3 a4 a5 a6 μ = some t → TT E l dr yX2_playFrame cX2_playFrame 11 none [vr a0, vi a1, vi a2, vi a3, vi a4, vi a5, vi a6] μ (rV t)) (k185 : Int → Int → Int → Int → Int → Int → Int → Int → Int → Mm → Option (Mm)) (p185 : ∀ (l0 l1 l2 l3 l5 l6 l7 l8 l9 : Int) (μ : Mm) (t : Mm), m_kd μ l0 = (2, 0) → k185 l0 l1 l2 l3 l5 l6 l7 l8 l9 μ = some t → aX2_playFrame E l (dr + 1) z 185 [(0, vr l0), (1, vi l1), (2, vi l2), (3, vi l3), (5, vi l5), (6, vi l6), (7, vi l7), (8, vi l8), (9, vi l9)] [] μ (rV t)) (N : Nat) (l0 l1 l2 l3 l5 l6 l7 l8 l9 : Int) (μ : Mm) (t : Mm) (hk : m_kd μ l0 = (2, 0)) (h : jX2_playFrame_185b rX2_playFrame k185 N l0 l1 l2 l3 l5 l6 l7 l8 l9 μ = some t) : aX2_playFrame E l (dr + 1) z 185 [(0, vr l0), (1, vi l1), (2, vi l2), (3, vi l3), (5, vi l5), (6, vi l6), (7, vi l7), (8, vi l8), (9, vi l9)] [] μ (rV t) := by
  unfold jX2_playFrame_185b at h
  refine a_iload 8 dX2_playFrame_185 rfl ?_
  refine a_iload_n 3 dX2_playFrame_187 rfl rfl ?_
  refine a_icmp_gt (tgt := 229) dX2_playFrame_188 rfl h (fun h => ?_) (fun h => ?_)
  ·
    exact a_ret0 dX2_playFrame_229 h
  ·
    refine a_aload_n 0 dX2_playFrame_191 rfl rfl ?_
    refine a_iload_n 1 dX2_playFrame_192 rfl rfl ?_
    refine a_iload_n 2 dX2_playFrame_193 rfl rfl ?_
    refine a_iload 8 dX2_playFrame_194 rfl ?_
    refine a_cVv (c := 2) [vi l1, vi l2, vi l9] [] dX2_playFrame_196 myX2_markTake mRX2_198 mvX2_markTake rfl (by decide) hk (fun _ hj => tX2_markTake E l N l0 l1 l2 l9 μ _ hk hj) (by omega) rfl (Nat.le_of_ble_eq_true rfl) h (fun μ1 hm h => ?_)
    have hk := hm.k hk (by decide)
    refine a_aload_n 0 dX2_playFrame_199 rfl rfl ?_
    refine a_iload_n 1 dX2_playFrame_200 rfl rfl ?_
    refine a_iload_n 2 dX2_playFrame_201 rfl rfl ?_
    refine a_iconst dX2_playFrame_202 (okI_b _ rfl) ?_
    refine a_iadd dX2_playFrame_203 ?_
    refine a_iload_n 3 dX2_playFrame_204 rfl rfl ?_
    refine a_iload 8 dX2_playFrame_205 rfl ?_
    refine a_isub dX2_playFrame_207 ?_
    refine a_iload 7 dX2_playFrame_208 rfl ?_
    refine a_iload 4 dX2_playFrame_210 rfl ?_
    refine a_iload 6 dX2_playFrame_212 rfl ?_
    refine a_iload 8 dX2_playFrame_214 rfl ?_
    refine a_imul dX2_playFrame_216 ?_
    refine a_iadd dX2_playFrame_217 ?_
    refine a_iload 5 dX2_playFrame_218 rfl ?_
    refine a_cVv (c := 2) [vi l1, vi (i_add l2 1), vi (i_sub l3 l9), vi l8, vi (i_add l5 (i_mul l7 l9)), vi l6] [] dX2_playFrame_220 myX2_playFrame mRX2_145 mvX2_playFrame rfl (by decide) hk (fun _ hj => qX2_playFrame l0 l1 (i_add l2 1) (i_sub l3 l9) l8 (i_add l5 (i_mul l7 l9)) l6 μ1 _ hk hj) (by omega) rfl (Nat.le_of_ble_eq_true rfl) h (fun μ2 hm h => ?_)
    have hk := hm.k hk (by decide)
    refine a_iinc (F := fun x1 => [(9, vi x1), (0, vr l0), (1, vi l1), (2, vi l2), (3, vi l3), (5, vi l5), (6, vi l6), (7, vi l7), (8, vi l8)]) 8 dX2_playFrame_223 rfl (by decide) h (fun _ => rfl) (fun x1 h => ?_)
    refine a_goto (tgt := 185) dX2_playFrame_226 rfl ?_
    exact a_sub [1, 2, 3, 4, 5, 6, 7, 8, 0] rfl (p185 l0 l1 l2 l3 l5 l6 l7 l8 x1 μ2 t hk h)
theorem tX2_playFrame_185 (E : m_E) (l : Launch) (z : Nat × Nat) (dr : Nat) (hdr : 12 ≤ dr) (rX2_playFrame : Int → Int → Int → Int → Int → Int → Int → Mm → Option (Mm)) (qX2_playFrame : ∀ (a0 a1 a2 a3 a4 a5 a6 : Int) (μ : Mm) (t : Mm), m_kd μ a0 = (2, 0) → rX2_playFrame a0 a1 a2 a3 a4 a5 a6 μ = some t → TT E l dr yX2_playFrame cX2_playFrame 11 none [vr a0, vi a1, vi a2, vi a3, vi a4, vi a5, vi a6] μ (rV t)) (N : Nat) : ∀ (n : Nat) (l0 l1 l2 l3 l5 l6 l7 l8 l9 : Int) (μ : Mm) (t : Mm), m_kd μ l0 = (2, 0) → jX2_playFrame_185 rX2_playFrame N n l0 l1 l2 l3 l5 l6 l7 l8 l9 μ = some t → aX2_playFrame E l (dr + 1) z 185 [(0, vr l0), (1, vi l1), (2, vi l2), (3, vi l3), (5, vi l5), (6, vi l6), (7, vi l7), (8, vi l8), (9, vi l9)] [] μ (rV t)
  | 0, _, _, _, _, _, _, _, _, _, _, _, _, h => by cases h
  | n + 1, l0, l1, l2, l3, l5, l6, l7, l8, l9, μ, t, hk, h => tX2_playFrame_185b E l z dr hdr rX2_playFrame qX2_playFrame (jX2_playFrame_185 rX2_playFrame N n) (tX2_playFrame_185 E l z dr hdr rX2_playFrame qX2_playFrame N n) N l0 l1 l2 l3 l5 l6 l7 l8 l9 μ t hk h
theorem tX2_playFrame_177 (E : m_E) (l : Launch) (z : Nat × Nat) (dr : Nat) (hdr : 12 ≤ dr) (rX2_playFrame : Int → Int → Int → Int → Int → Int → Int → Mm → Option (Mm)) (qX2_playFrame : ∀ (a0 a1 a2 a3 a4 a5 a6 : Int) (μ : Mm) (t : Mm), m_kd μ a0 = (2, 0) → rX2_playFrame a0 a1 a2 a3 a4 a5 a6 μ = some t → TT E l dr yX2_playFrame cX2_playFrame 11 none [vr a0, vi a1, vi a2, vi a3, vi a4, vi a5, vi a6] μ (rV t)) (N : Nat) (l0 s0 s1 s2 s3 s4 s5 s6 s7 : Int) (μ : Mm) (t : Mm) (hk : m_kd μ l0 = (2, 0)) (h : jX2_playFrame_177 rX2_playFrame N l0 s0 s1 s2 s3 s4 s5 s6 s7 μ = some t) : aX2_playFrame E l (dr + 1) z 177 [(0, vr l0)] [vi s0, vi s1, vi s2, vi s3, vi s4, vi s5, vi s6, vr s7] μ (rV t) := by
  unfold jX2_playFrame_177 at h
  refine a_iadd dX2_playFrame_177 ?_
  refine m_chk_k h (fun hq1 h => ?_)
  refine a_cVv (c := 2) [vi s6, vi s5, vi s4, vi s3, vi s2, vi (i_add s1 s0)] [] dX2_playFrame_178 myX2_playFrame mRX2_145 mvX2_playFrame rfl (by decide) hq1 (fun _ hj => qX2_playFrame s7 s6 s5 s4 s3 s2 (i_add s1 s0) μ _ hq1 hj) (by omega) rfl (Nat.le_of_ble_eq_true rfl) h (fun μ1 hm h => ?_)
  have hk := hm.k hk (by decide)
  have hq1 := hm.k hq1 (by decide)
  exact a_ret0 dX2_playFrame_181 h
theorem tX2_playFrame_53 (E : m_E) (l : Launch) (z : Nat × Nat) (dr : Nat) (hdr : 12 ≤ dr) (rX2_playFrame : Int → Int → Int → Int → Int → Int → Int → Mm → Option (Mm)) (qX2_playFrame : ∀ (a0 a1 a2 a3 a4 a5 a6 : Int) (μ : Mm) (t : Mm), m_kd μ a0 = (2, 0) → rX2_playFrame a0 a1 a2 a3 a4 a5 a6 μ = some t → TT E l dr yX2_playFrame cX2_playFrame 11 none [vr a0, vi a1, vi a2, vi a3, vi a4, vi a5, vi a6] μ (rV t)) (N : Nat) (l0 l4 l5 l6 l7 s0 : Int) (μ : Mm) (t : Mm) (hk : m_kd μ l0 = (2, 0)) (h : jX2_playFrame_53 rX2_playFrame N l0 l4 l5 l6 l7 s0 μ = some t) : aX2_playFrame E l (dr + 1) z 53 [(0, vr l0), (4, vi l4), (5, vi l5), (6, vi l6), (7, vi l7)] [vi s0] μ (rV t) := by
  unfold jX2_playFrame_53 at h
  refine a_istore (L' := [(8, vi s0), (0, vr l0), (4, vi l4), (5, vi l5), (6, vi l6), (7, vi l7)]) dX2_playFrame_53 (by decide) rfl ?_
  refine a_aload_n 1 dX2_playFrame_55 rfl rfl ?_
  refine a_iload 2 dX2_playFrame_56 rfl ?_
  refine a_iload 0 dX2_playFrame_58 rfl ?_
  refine a_cSi [vi l4, vi s0] [vr l0] dX2_playFrame_60 myX2_stateWith mRX2_173 msX2_stateWith (fun _ hj => tX2_stateWith E l N l4 s0 μ _  hj) (by omega) rfl (Nat.le_of_ble_eq_true rfl) h (fun x1 μ1 hm h => ?_)
  have hk := hm.k hk (by decide)
  refine a_iload 3 dX2_playFrame_63 rfl ?_
  refine a_iload 5 dX2_playFrame_65 rfl ?_
  refine a_iadd dX2_playFrame_67 ?_
  refine a_iload 4 dX2_playFrame_68 rfl ?_
  refine a_aload_n 1 dX2_playFrame_70 rfl rfl ?_
  refine a_getfr (c := 2) (i := 4) dX2_playFrame_71 fRX2_68 g2_4 rfl hk ?_
  refine m_chk_k h (fun hq12 h => ?_)
  refine a_getfi (c := 1) (i := 4) dX2_playFrame_74 fRX2_176 g1_4 rfl hq12 ?_
  refine a_imul dX2_playFrame_77 ?_
  refine a_isub dX2_playFrame_78 ?_
  refine a_cVv (c := 2) [vi x1, vi (i_sub (i_add l5 l7) (i_mul l6 (m_gt μ1 (m_gt μ1 l0 4) 4)))] [] dX2_playFrame_79 myX2_addToGroup mRX2_179 mvX2_addToGroup rfl (by decide) hk (fun _ hj => tX2_addToGroup E l N l0 x1 (i_sub (i_add l5 l7) (i_mul l6 (m_gt μ1 (m_gt μ1 l0 4) 4))) μ1 _ hk hj) (by omega) rfl (Nat.le_of_ble_eq_true rfl) h (fun μ2 hm h => ?_)
  have hk := hm.k hk (by decide)
  have hq12 := hm.k hq12 (by decide)
  exact a_ret0 dX2_playFrame_82 h
theorem tX2_playFrame_15 (E : m_E) (l : Launch) (z : Nat × Nat) (dr : Nat) (hdr : 12 ≤ dr) (rX2_playFrame : Int → Int → Int → Int → Int → Int → Int → Mm → Option (Mm)) (qX2_playFrame : ∀ (a0 a1 a2 a3 a4 a5 a6 : Int) (μ : Mm) (t : Mm), m_kd μ a0 = (2, 0) → rX2_playFrame a0 a1 a2 a3 a4 a5 a6 μ = some t → TT E l dr yX2_playFrame cX2_playFrame 11 none [vr a0, vi a1, vi a2, vi a3, vi a4, vi a5, vi a6] μ (rV t)) (N : Nat) (l0 l1 l2 l3 l4 l5 l6 : Int) (μ : Mm) (t : Mm) (hk : m_kd μ l0 = (2, 0)) (h : jX2_playFrame_15 rX2_playFrame N l0 l1 l2 l3 l4 l5 l6 μ = some t) : aX2_playFrame E l (dr + 1) z 15 [(0, vr l0), (1, vi l1), (2, vi l2), (3, vi l3), (4, vi l4), (5, vi l5), (6, vi l6)] [] μ (rV t) := by
  unfold jX2_playFrame_15 at h
  refine a_aload_n 0 dX2_playFrame_15 rfl rfl ?_
  refine a_getfr (c := 2) (i := 4) dX2_playFrame_16 fRX2_68 g2_4 rfl hk ?_
  refine a_iload_n 1 dX2_playFrame_19 rfl rfl ?_
  refine a_aload_n 0 dX2_playFrame_20 rfl rfl ?_
  refine a_getfr (c := 2) (i := 4) dX2_playFrame_21 fRX2_68 g2_4 rfl hk ?_
  refine m_chk_k h (fun hq5 h => ?_)
  refine a_getfi (c := 1) (i := 1) dX2_playFrame_24 fRX2_142 g1_1 rfl hq5 ?_
  refine a_iload_n 3 dX2_playFrame_27 rfl rfl ?_
  refine a_isub dX2_playFrame_28 ?_
  refine a_iload_n 2 dX2_playFrame_29 rfl rfl ?_
  refine a_iload 6 dX2_playFrame_30 rfl ?_
  refine a_cVi (c := 1) [vi l1, vi (i_sub (m_gt μ (m_gt μ l0 4) 1) l3), vi l2, vi l6] [] dX2_playFrame_32 myX1_worthOf mRX2_166 mvX1_worthOf rfl (by decide) hq5 (fun _ hj => tX1_worthOf E l N (m_gt μ l0 4) l1 (i_sub (m_gt μ (m_gt μ l0 4) 1) l3) l2 l6 μ _ hq5 hj) (by omega) rfl (Nat.le_of_ble_eq_true rfl) h (fun x1 μ1 hm h => ?_)
  have hk := hm.k hk (by decide)
  have hq5 := hm.k hq5 (by decide)
  refine a_istore (L' := [(7, vi x1), (0, vr l0), (1, vi l1), (2, vi l2), (3, vi l3), (4, vi l4), (5, vi l5), (6, vi l6)]) dX2_playFrame_35 (by decide) rfl ?_
  refine a_iload_n 4 dX2_playFrame_37 rfl rfl ?_
  refine a_if_gt (tgt := 52) dX2_playFrame_38 rfl h (fun h => ?_) (fun h => ?_)
  ·
    refine a_iconst dX2_playFrame_52 (okI_b _ rfl) ?_
    exact a_sub [1, 5, 6, 7, 0] rfl (tX2_playFrame_53 E l _ dr hdr rX2_playFrame qX2_playFrame N l0 l4 l5 l6 x1 0 μ1 t hk h)
  ·
    refine a_aload_n 1 dX2_playFrame_41 rfl rfl ?_
    refine a_getfr (c := 2) (i := 4) dX2_playFrame_42 fRX2_68 g2_4 rfl hk ?_
    refine a_iload_n 3 dX2_playFrame_45 rfl rfl ?_
    refine m_chk_k h (fun hq24 h => ?_)
    refine a_cVi (c := 1) [vi l2] [] dX2_playFrame_46 myX1_earnedBy mRX2_170 mvX1_earnedBy rfl (by decide) hq24 (fun _ hj => tX1_earnedBy E l N (m_gt μ1 l0 4) l2 μ1 _ hq24 hj) (by omega) rfl (Nat.le_of_ble_eq_true rfl) h (fun x2 μ2 hm h => ?_)
    have hk := hm.k hk (by decide)
    have hq5 := hm.k hq5 (by decide)
    have hq24 := hm.k hq24 (by decide)
    refine a_goto (tgt := 53) dX2_playFrame_49 rfl ?_
    exact a_sub [1, 5, 6, 7, 0] rfl (tX2_playFrame_53 E l _ dr hdr rX2_playFrame qX2_playFrame N l0 l4 l5 l6 x1 x2 μ2 t hk h)
theorem tX2_playFrame_B (E : m_E) (l : Launch) (dr : Nat) (hdr : 12 ≤ dr) (rX2_playFrame : Int → Int → Int → Int → Int → Int → Int → Mm → Option (Mm)) (qX2_playFrame : ∀ (a0 a1 a2 a3 a4 a5 a6 : Int) (μ : Mm) (t : Mm), m_kd μ a0 = (2, 0) → rX2_playFrame a0 a1 a2 a3 a4 a5 a6 μ = some t → TT E l dr yX2_playFrame cX2_playFrame 11 none [vr a0, vi a1, vi a2, vi a3, vi a4, vi a5, vi a6] μ (rV t)) (N : Nat) (l0 l1 l2 l3 l4 l5 l6 : Int) (μ : Mm) (t : Mm) (hk : m_kd μ l0 = (2, 0)) (h : jX2_playFrame_B rX2_playFrame N l0 l1 l2 l3 l4 l5 l6 μ = some t) : TT E l (dr + 1) yX2_playFrame cX2_playFrame 11 none [vr l0, vi l1, vi l2, vi l3, vi l4, vi l5, vi l6] μ (rV t) := by
  refine tt_of (L := [(0, vr l0), (1, vi l1), (2, vi l2), (3, vi l3), (4, vi l4), (5, vi l5), (6, vi l6)]) (by decide +kernel) (Nat.le_of_ble_eq_true rfl) rfl ?_
  show aX2_playFrame E l (dr + 1) (m_sz μ, m_sl μ) 0 [(0, vr l0), (1, vi l1), (2, vi l2), (3, vi l3), (4, vi l4), (5, vi l5), (6, vi l6)] [] μ (rV t)
  unfold jX2_playFrame_B at h
  refine a_iload_n 3 dX2_playFrame_0 rfl rfl ?_
  refine a_if_le (tgt := 15) dX2_playFrame_1 rfl h (fun h => ?_) (fun h => ?_)
  ·
    exact a_sub [0, 1, 2, 3, 4, 5, 6] rfl (tX2_playFrame_15 E l _ dr hdr rX2_playFrame qX2_playFrame N l0 l1 l2 l3 l4 l5 l6 μ t hk h)
  ·
    refine a_iload_n 2 dX2_playFrame_4 rfl rfl ?_
    refine a_aload_n 0 dX2_playFrame_5 rfl rfl ?_
    refine a_getfr (c := 2) (i := 4) dX2_playFrame_6 fRX2_68 g2_4 rfl hk ?_
    refine m_chk_k h (fun hq8 h => ?_)
    refine a_getfi (c := 1) (i := 3) dX2_playFrame_9 fRX2_163 g1_3 rfl hq8 ?_
    refine a_icmp_lt (tgt := 83) dX2_playFrame_12 rfl h (fun h => ?_) (fun h => ?_)
    ·
      refine a_iconst dX2_playFrame_83 (okI_b _ rfl) ?_
      refine a_iload 4 dX2_playFrame_84 rfl ?_
      refine a_cSi [vi l4] [vi 1] dX2_playFrame_86 myX2_nextOf mRX2_182 msX2_nextOf (fun _ hj => tX2_nextOf E l N l4 μ _  hj) (by omega) rfl (Nat.le_of_ble_eq_true rfl) h (fun x1 μ1 hm h => ?_)
      have hk := hm.k hk (by decide)
      have hq8 := hm.k hq8 (by decide)
      refine a_iadd dX2_playFrame_89 ?_
      refine a_nmi h (fun x2 h => ?_)
      refine a_istore (L' := [(7, vi x2), (0, vr l0), (1, vi l1), (2, vi l2), (3, vi l3), (4, vi l4), (5, vi l5), (6, vi l6)]) dX2_playFrame_90 (by decide) rfl ?_
      refine a_iload 5 dX2_playFrame_92 rfl ?_
      refine a_cSi [vi l4] [] dX2_playFrame_94 myX2_stateBehind mRX2_185 msX2_stateBehind (fun _ hj => tX2_stateBehind E l N l4 μ1 _  hj) (by omega) rfl (Nat.le_of_ble_eq_true rfl) h (fun x3 μ2 hm h => ?_)
      have hk := hm.k hk (by decide)
      have hq8 := hm.k hq8 (by decide)
      refine a_istore (L' := [(8, vi x3), (7, vi x2), (0, vr l0), (1, vi l1), (2, vi l2), (3, vi l3), (4, vi l4), (5, vi l5), (6, vi l6)]) dX2_playFrame_97 (by decide) rfl ?_
      refine a_iload_n 4 dX2_playFrame_99 rfl rfl ?_
      refine a_aload_n 2 dX2_playFrame_100 rfl rfl ?_
      refine a_iload_n 3 dX2_playFrame_101 rfl rfl ?_
      refine a_cVi (c := 2) [vi l1] [vi l2] dX2_playFrame_102 myX2_givenIn mRX2_152 mvX2_givenIn rfl (by decide) hk (fun _ hj => tX2_givenIn E l N l0 l1 μ2 _ hk hj) (by omega) rfl (Nat.le_of_ble_eq_true rfl) h (fun x4 μ3 hm h => ?_)
      have hk := hm.k hk (by decide)
      have hq8 := hm.k hq8 (by decide)
      refine a_icmp_ge (tgt := 182) dX2_playFrame_105 rfl h (fun h => ?_) (fun h => ?_)
      ·
        refine a_iconst dX2_playFrame_182 (okI_b _ rfl) ?_
        refine a_istore (L' := [(9, vi 0), (8, vi x3), (7, vi x2), (0, vr l0), (1, vi l1), (2, vi l2), (3, vi l3), (4, vi l4), (5, vi l5), (6, vi l6)]) dX2_playFrame_183 (by decide) rfl ?_
        exact a_sub [3, 4, 5, 6, 8, 9, 2, 1, 0] rfl (tX2_playFrame_185 E l _ dr hdr rX2_playFrame qX2_playFrame N N l0 l1 l2 l3 l5 l6 x2 x3 0 μ3 t hk h)
      ·
        refine a_aload_n 2 dX2_playFrame_108 rfl rfl ?_
        refine a_getfr (c := 2) (i := 3) dX2_playFrame_109 fRX2_58 g2_3 rfl hk ?_
        refine a_aload_n 2 dX2_playFrame_112 rfl rfl ?_
        refine a_getfr (c := 2) (i := 3) dX2_playFrame_113 fRX2_58 g2_3 rfl hk ?_
        refine a_iload_n 3 dX2_playFrame_116 rfl rfl ?_
        refine m_chk_k h (fun hq42 h => ?_)
        refine a_cVi (c := 5) [vi l1] [vr (m_gt μ3 l0 3)] dX2_playFrame_117 myX5_firstRoll mRX2_188 mvX5_firstRoll rfl (by decide) hq42 (fun _ hj => tX5_firstRoll E l N (m_gt μ3 l0 3) l1 μ3 _ hq42 hj) (by omega) rfl (Nat.le_of_ble_eq_true rfl) h (fun x5 μ4 hm h => ?_)
        have hk := hm.k hk (by decide)
        have hq8 := hm.k hq8 (by decide)
        have hq42 := hm.k hq42 (by decide)
        refine a_iload_n 4 dX2_playFrame_120 rfl rfl ?_
        refine a_iadd dX2_playFrame_121 ?_
        refine a_cVi (c := 5) [vi (i_add x5 l2)] [] dX2_playFrame_122 myX5_rollAt mRX2_191 mvX5_rollAt rfl (by decide) hq42 (fun _ hj => tX5_rollAt E l N (m_gt μ3 l0 3) (i_add x5 l2) μ4 _ hq42 hj) (by omega) rfl (Nat.le_of_ble_eq_true rfl) h (fun x6 μ5 hm h => ?_)
        have hk := hm.k hk (by decide)
        have hq8 := hm.k hq8 (by decide)
        have hq42 := hm.k hq42 (by decide)
        refine a_istore (L' := [(9, vi x6), (8, vi x3), (7, vi x2), (0, vr l0), (1, vi l1), (2, vi l2), (3, vi l3), (4, vi l4), (5, vi l5), (6, vi l6)]) dX2_playFrame_125 (by decide) rfl ?_
        refine a_iconst dX2_playFrame_127 (okI_b _ rfl) ?_
        refine a_iload 0 dX2_playFrame_128 rfl ?_
        refine a_iload_n 6 dX2_playFrame_130 rfl rfl ?_
        refine a_cSNi (host := "NinepinAlley") [vi 0, vi x6, vi l3] [] dX2_playFrame_131 myX7_within (by decide) msX7_within (fun _ hj => tX7_within E l N 0 x6 l3 μ5 _  hj) (by omega) rfl (Nat.le_of_ble_eq_true rfl) h (fun x7 μ6 hm h => ?_)
        have hk := hm.k hk (by decide)
        have hq8 := hm.k hq8 (by decide)
        have hq42 := hm.k hq42 (by decide)
        refine a_istore (L' := [(10, vi x7), (9, vi x6), (8, vi x3), (7, vi x2), (0, vr l0), (1, vi l1), (2, vi l2), (3, vi l3), (4, vi l4), (5, vi l5), (6, vi l6)]) dX2_playFrame_134 (by decide) rfl ?_
        refine a_aload_n 4 dX2_playFrame_136 rfl rfl ?_
        refine a_iload_n 5 dX2_playFrame_137 rfl rfl ?_
        refine a_iload_n 6 dX2_playFrame_138 rfl rfl ?_
        refine a_iload 0 dX2_playFrame_139 rfl ?_
        refine a_cVv (c := 2) [vi l1, vi l2, vi x7] [] dX2_playFrame_141 myX2_markTake mRX2_198 mvX2_markTake rfl (by decide) hk (fun _ hj => tX2_markTake E l N l0 l1 l2 x7 μ6 _ hk hj) (by omega) rfl (Nat.le_of_ble_eq_true rfl) h (fun μ7 hm h => ?_)
        have hk := hm.k hk (by decide)
        have hq8 := hm.k hq8 (by decide)
        have hq42 := hm.k hq42 (by decide)
        refine a_aload_n 4 dX2_playFrame_144 rfl rfl ?_
        refine a_iload_n 5 dX2_playFrame_145 rfl rfl ?_
        refine a_iload_n 6 dX2_playFrame_146 rfl rfl ?_
        refine a_iconst dX2_playFrame_147 (okI_b _ rfl) ?_
        refine a_iadd dX2_playFrame_148 ?_
        refine a_iload_n 7 dX2_playFrame_149 rfl rfl ?_
        refine a_iload 0 dX2_playFrame_150 rfl ?_
        refine a_isub dX2_playFrame_152 ?_
        refine a_iload 2 dX2_playFrame_153 rfl ?_
        refine a_iload 9 dX2_playFrame_155 rfl ?_
        refine a_iload 3 dX2_playFrame_157 rfl ?_
        refine a_iload 0 dX2_playFrame_159 rfl ?_
        refine a_imul dX2_playFrame_161 ?_
        refine a_iadd dX2_playFrame_162 ?_
        refine a_iload 10 dX2_playFrame_163 rfl ?_
        refine a_iload 1 dX2_playFrame_165 rfl ?_
        refine a_bipush dX2_playFrame_167 ⟨rfl, okI_b _ rfl⟩ ?_
        refine a_icmp_ne (tgt := 176) dX2_playFrame_169 rfl h (fun h => ?_) (fun h => ?_)
        ·
          refine a_iconst dX2_playFrame_176 (okI_b _ rfl) ?_
          exact a_sub [4] rfl (tX2_playFrame_177 E l _ dr hdr rX2_playFrame qX2_playFrame N l0 0 l6 (i_add l5 (i_mul x2 x7)) x3 (i_sub l3 x7) (i_add l2 1) l1 l0 μ7 t hk h)
        ·
          refine a_iconst dX2_playFrame_172 (okI_b _ rfl) ?_
          refine a_goto (tgt := 177) dX2_playFrame_173 rfl ?_
          exact a_sub [4] rfl (tX2_playFrame_177 E l _ dr hdr rX2_playFrame qX2_playFrame N l0 1 l6 (i_add l5 (i_mul x2 x7)) x3 (i_sub l3 x7) (i_add l2 1) l1 l0 μ7 t hk h)
    ·
      exact a_sub [0, 1, 2, 3, 4, 5, 6] rfl (tX2_playFrame_15 E l _ dr hdr rX2_playFrame qX2_playFrame N l0 l1 l2 l3 l4 l5 l6 μ t hk h)
theorem tX2_playFrame_n (E : m_E) (l : Launch) (N : Nat) : ∀ (n : Nat) (l0 l1 l2 l3 l4 l5 l6 : Int) (μ : Mm) (t : Mm), m_kd μ l0 = (2, 0) → jX2_playFrame N n l0 l1 l2 l3 l4 l5 l6 μ = some t → TT E l (12 + 1 * n) yX2_playFrame cX2_playFrame 11 none [vr l0, vi l1, vi l2, vi l3, vi l4, vi l5, vi l6] μ (rV t)
  | 0, _, _, _, _, _, _, _, _, _, _, h => by cases h
  | n + 1, l0, l1, l2, l3, l4, l5, l6, μ, t, hk, h => tX2_playFrame_B E l (12 + 1 * n) (by omega) (jX2_playFrame N n) (tX2_playFrame_n E l N n) N l0 l1 l2 l3 l4 l5 l6 μ t hk h
theorem tX2_playFrame (E : m_E) (l : Launch) (N n : Nat) (l0 l1 l2 l3 l4 l5 l6 : Int) (μ : Mm) (t : Mm) (hk : m_kd μ l0 = (2, 0)) (h : jX2_playFrame N 10 l0 l1 l2 l3 l4 l5 l6 μ = some t) : TT E l 22 yX2_playFrame cX2_playFrame 11 none [vr l0, vi l1, vi l2, vi l3, vi l4, vi l5, vi l6] μ (rV t) := tX2_playFrame_n E l N 10 l0 l1 l2 l3 l4 l5 l6 μ t hk h
-- X2_goThroughFrame
abbrev aX2_goThroughFrame (E : m_E) (l : Launch) (d : Nat) (z : Nat × Nat) (pc : Nat) (L : List (Nat × AV)) (st : List AV) (μ : Mm) (ρ : Option AV × Mm) : Prop := AA E l d z RX2 "goThroughFrame" cX2_goThroughFrame 4 none pc L st μ ρ
theorem tX2_goThroughFrame_144 (E : m_E) (l : Launch) (z : Nat × Nat) (k2 : Int → Int → Int → Mm → Option (Mm)) (p2 : ∀ (l0 l1 l2 : Int) (μ : Mm) (t : Mm), m_kd μ l0 = (2, 0) → k2 l0 l1 l2 μ = some t → aX2_goThroughFrame E l 23 z 2 [(0, vr l0), (1, vi l1), (2, vi l2)] [] μ (rV t)) (N : Nat) (l0 l1 l2 : Int) (μ : Mm) (t : Mm) (hk : m_kd μ l0 = (2, 0)) (h : jX2_goThroughFrame_144 k2 N l0 l1 l2 μ = some t) : aX2_goThroughFrame E l 23 z 144 [(0, vr l0), (1, vi l1), (2, vi l2)] [] μ (rV t) := by
  unfold jX2_goThroughFrame_144 at h
  refine a_iinc (F := fun x1 => [(2, vi x1), (0, vr l0), (1, vi l1)]) 2 dX2_goThroughFrame_144 rfl (by decide) h (fun _ => rfl) (fun x1 h => ?_)
  refine a_goto (tgt := 2) dX2_goThroughFrame_147 rfl ?_
  exact a_sub [1, 2, 0] rfl (p2 l0 l1 x1 μ t hk h)
theorem tX2_goThroughFrame_139 (E : m_E) (l : Launch) (z : Nat × Nat) (k2 : Int → Int → Int → Mm → Option (Mm)) (p2 : ∀ (l0 l1 l2 : Int) (μ : Mm) (t : Mm), m_kd μ l0 = (2, 0) → k2 l0 l1 l2 μ = some t → aX2_goThroughFrame E l 23 z 2 [(0, vr l0), (1, vi l1), (2, vi l2)] [] μ (rV t)) (N : Nat) (l0 l1 l2 : Int) (μ : Mm) (t : Mm) (hk : m_kd μ l0 = (2, 0)) (h : jX2_goThroughFrame_139 k2 N l0 l1 l2 μ = some t) : aX2_goThroughFrame E l 23 z 139 [(0, vr l0), (1, vi l1), (2, vi l2)] [] μ (rV t) := by
  unfold jX2_goThroughFrame_139 at h
  refine a_aload_n 0 dX2_goThroughFrame_139 rfl rfl ?_
  refine a_iconst dX2_goThroughFrame_140 (okI_b _ rfl) ?_
  refine a_putfi (c := 2) (i := 13) dX2_goThroughFrame_141 fRX2_55 g2_13 (Or.inl rfl) rfl hk h (fun μ1 hm h => ?_)
  have hk := hm.k hk (by decide)
  exact a_sub [0, 1, 2] rfl (tX2_goThroughFrame_144 E l _ k2 p2 N l0 l1 l2 μ1 t hk h)
theorem tX2_goThroughFrame_130 (E : m_E) (l : Launch) (z : Nat × Nat) (k2 : Int → Int → Int → Mm → Option (Mm)) (p2 : ∀ (l0 l1 l2 : Int) (μ : Mm) (t : Mm), m_kd μ l0 = (2, 0) → k2 l0 l1 l2 μ = some t → aX2_goThroughFrame E l 23 z 2 [(0, vr l0), (1, vi l1), (2, vi l2)] [] μ (rV t)) (k92 : Int → Int → Int → Int → Mm → Option (Mm)) (p92 : ∀ (l0 l1 l2 l3 : Int) (μ : Mm) (t : Mm), m_kd μ l0 = (2, 0) → k92 l0 l1 l2 l3 μ = some t → aX2_goThroughFrame E l 23 z 92 [(0, vr l0), (1, vi l1), (2, vi l2), (3, vi l3)] [] μ (rV t)) (N : Nat) (l0 l1 l2 l3 s0 s1 s2 s3 : Int) (μ : Mm) (t : Mm) (hk : m_kd μ l0 = (2, 0)) (h : jX2_goThroughFrame_130 k2 k92 N l0 l1 l2 l3 s0 s1 s2 s3 μ = some t) : aX2_goThroughFrame E l 23 z 130 [(0, vr l0), (1, vi l1), (2, vi l2), (3, vi l3)] [vi s0, vi s1, vi s2, vr s3] μ (rV t) := by
  unfold jX2_goThroughFrame_130 at h
  refine m_chk_k h (fun hq0 h => ?_)
  refine a_cVv (c := 2) [vi s2, vi s1, vi s0] [] dX2_goThroughFrame_130 myX2_moveGroup mRX2_159 mvX2_moveGroup rfl (by decide) hq0 (fun _ hj => tX2_moveGroup E l N s3 s2 s1 s0 μ _ hq0 hj) (by decide) rfl (Nat.le_of_ble_eq_true rfl) h (fun μ1 hm h => ?_)
  have hk := hm.k hk (by decide)
  have hq0 := hm.k hq0 (by decide)
  refine a_iinc (F := fun x1 => [(3, vi x1), (0, vr l0), (1, vi l1), (2, vi l2)]) 3 dX2_goThroughFrame_133 rfl (by decide) h (fun _ => rfl) (fun x1 h => ?_)
  refine a_goto (tgt := 92) dX2_goThroughFrame_136 rfl ?_
  exact a_sub [1, 2, 3, 0] rfl (p92 l0 l1 l2 x1 μ1 t hk h)
theorem tX2_goThroughFrame_92b (E : m_E) (l : Launch) (z : Nat × Nat) (k2 : Int → Int → Int → Mm → Option (Mm)) (p2 : ∀ (l0 l1 l2 : Int) (μ : Mm) (t : Mm), m_kd μ l0 = (2, 0) → k2 l0 l1 l2 μ = some t → aX2_goThroughFrame E l 23 z 2 [(0, vr l0), (1, vi l1), (2, vi l2)] [] μ (rV t)) (k92 : Int → Int → Int → Int → Mm → Option (Mm)) (p92 : ∀ (l0 l1 l2 l3 : Int) (μ : Mm) (t : Mm), m_kd μ l0 = (2, 0) → k92 l0 l1 l2 l3 μ = some t → aX2_goThroughFrame E l 23 z 92 [(0, vr l0), (1, vi l1), (2, vi l2), (3, vi l3)] [] μ (rV t)) (N : Nat) (l0 l1 l2 l3 : Int) (μ : Mm) (t : Mm) (hk : m_kd μ l0 = (2, 0)) (h : jX2_goThroughFrame_92b k2 k92 N l0 l1 l2 l3 μ = some t) : aX2_goThroughFrame E l 23 z 92 [(0, vr l0), (1, vi l1), (2, vi l2), (3, vi l3)] [] μ (rV t) := by
  unfold jX2_goThroughFrame_92b at h
  refine a_iload_n 3 dX2_goThroughFrame_92 rfl rfl ?_
  refine a_aload_n 0 dX2_goThroughFrame_93 rfl rfl ?_
  refine a_getfi (c := 2) (i := 13) dX2_goThroughFrame_94 fRX2_55 g2_13 rfl hk ?_
  refine a_icmp_ge (tgt := 139) dX2_goThroughFrame_97 rfl h (fun h => ?_) (fun h => ?_)
  ·
    exact a_sub [0, 1, 2] rfl (tX2_goThroughFrame_139 E l _ k2 p2 N l0 l1 l2 μ t hk h)
  ·
    refine a_iload_n 3 dX2_goThroughFrame_100 rfl rfl ?_
    refine a_aload_n 0 dX2_goThroughFrame_101 rfl rfl ?_
    refine a_getfr (c := 2) (i := 12) dX2_goThroughFrame_102 fRX2_52 g2_12 rfl hk ?_
    refine a_alen dX2_goThroughFrame_105 h (fun x1 h => ?_)
    refine a_icmp_ge (tgt := 139) dX2_goThroughFrame_106 rfl h (fun h => ?_) (fun h => ?_)
    ·
      exact a_sub [0, 1, 2] rfl (tX2_goThroughFrame_139 E l _ k2 p2 N l0 l1 l2 μ t hk h)
    ·
      refine a_aload_n 0 dX2_goThroughFrame_109 rfl rfl ?_
      refine a_iload_n 2 dX2_goThroughFrame_110 rfl rfl ?_
      refine a_aload_n 0 dX2_goThroughFrame_111 rfl rfl ?_
      refine a_getfr (c := 2) (i := 12) dX2_goThroughFrame_112 fRX2_52 g2_12 rfl hk ?_
      refine a_iload_n 3 dX2_goThroughFrame_115 rfl rfl ?_
      refine a_iald dX2_goThroughFrame_116 h (fun x2 h => ?_)
      refine a_iload_n 1 dX2_goThroughFrame_117 rfl rfl ?_
      refine a_aload_n 0 dX2_goThroughFrame_118 rfl rfl ?_
      refine a_getfi (c := 2) (i := 8) dX2_goThroughFrame_119 fRX2_38 g2_8 rfl hk ?_
      refine a_icmp_ne (tgt := 129) dX2_goThroughFrame_122 rfl h (fun h => ?_) (fun h => ?_)
      ·
        refine a_iconst dX2_goThroughFrame_129 (okI_b _ rfl) ?_
        exact a_sub [0, 1, 2, 3] rfl (tX2_goThroughFrame_130 E l _ k2 p2 k92 p92 N l0 l1 l2 l3 0 x2 l2 l0 μ t hk h)
      ·
        refine a_iconst dX2_goThroughFrame_125 (okI_b _ rfl) ?_
        refine a_goto (tgt := 130) dX2_goThroughFrame_126 rfl ?_
        exact a_sub [0, 1, 2, 3] rfl (tX2_goThroughFrame_130 E l _ k2 p2 k92 p92 N l0 l1 l2 l3 1 x2 l2 l0 μ t hk h)
theorem tX2_goThroughFrame_92 (E : m_E) (l : Launch) (z : Nat × Nat) (k2 : Int → Int → Int → Mm → Option (Mm)) (p2 : ∀ (l0 l1 l2 : Int) (μ : Mm) (t : Mm), m_kd μ l0 = (2, 0) → k2 l0 l1 l2 μ = some t → aX2_goThroughFrame E l 23 z 2 [(0, vr l0), (1, vi l1), (2, vi l2)] [] μ (rV t)) (N : Nat) : ∀ (n : Nat) (l0 l1 l2 l3 : Int) (μ : Mm) (t : Mm), m_kd μ l0 = (2, 0) → jX2_goThroughFrame_92 k2 N n l0 l1 l2 l3 μ = some t → aX2_goThroughFrame E l 23 z 92 [(0, vr l0), (1, vi l1), (2, vi l2), (3, vi l3)] [] μ (rV t)
  | 0, _, _, _, _, _, _, _, h => by cases h
  | n + 1, l0, l1, l2, l3, μ, t, hk, h => tX2_goThroughFrame_92b E l z k2 p2 (jX2_goThroughFrame_92 k2 N n) (tX2_goThroughFrame_92 E l z k2 p2 N n) N l0 l1 l2 l3 μ t hk h
theorem tX2_goThroughFrame_90 (E : m_E) (l : Launch) (z : Nat × Nat) (k2 : Int → Int → Int → Mm → Option (Mm)) (p2 : ∀ (l0 l1 l2 : Int) (μ : Mm) (t : Mm), m_kd μ l0 = (2, 0) → k2 l0 l1 l2 μ = some t → aX2_goThroughFrame E l 23 z 2 [(0, vr l0), (1, vi l1), (2, vi l2)] [] μ (rV t)) (N : Nat) (l0 l1 l2 : Int) (μ : Mm) (t : Mm) (hk : m_kd μ l0 = (2, 0)) (h : jX2_goThroughFrame_90 k2 N l0 l1 l2 μ = some t) : aX2_goThroughFrame E l 23 z 90 [(0, vr l0), (1, vi l1), (2, vi l2)] [] μ (rV t) := by
  unfold jX2_goThroughFrame_90 at h
  refine a_iconst dX2_goThroughFrame_90 (okI_b _ rfl) ?_
  refine a_istore_n (L' := [(3, vi 0), (0, vr l0), (1, vi l1), (2, vi l2)]) dX2_goThroughFrame_91 rfl (by decide) rfl ?_
  exact a_sub [1, 2, 3, 0] rfl (tX2_goThroughFrame_92 E l _ k2 p2 N N l0 l1 l2 0 μ t hk h)
theorem tX2_goThroughFrame_76 (E : m_E) (l : Launch) (z : Nat × Nat) (k2 : Int → Int → Int → Mm → Option (Mm)) (p2 : ∀ (l0 l1 l2 : Int) (μ : Mm) (t : Mm), m_kd μ l0 = (2, 0) → k2 l0 l1 l2 μ = some t → aX2_goThroughFrame E l 23 z 2 [(0, vr l0), (1, vi l1), (2, vi l2)] [] μ (rV t)) (N : Nat) (l0 l1 l2 : Int) (μ : Mm) (t : Mm) (hk : m_kd μ l0 = (2, 0)) (h : jX2_goThroughFrame_76 k2 N l0 l1 l2 μ = some t) : aX2_goThroughFrame E l 23 z 76 [(0, vr l0), (1, vi l1), (2, vi l2)] [] μ (rV t) := by
  unfold jX2_goThroughFrame_76 at h
  refine a_aload_n 0 dX2_goThroughFrame_76 rfl rfl ?_
  refine a_iconst dX2_goThroughFrame_77 (okI_b _ rfl) ?_
  refine a_aload_n 0 dX2_goThroughFrame_78 rfl rfl ?_
  refine a_getfr (c := 2) (i := 4) dX2_goThroughFrame_79 fRX2_68 g2_4 rfl hk ?_
  refine m_chk_k h (fun hq4 h => ?_)
  refine a_getfi (c := 1) (i := 1) dX2_goThroughFrame_82 fRX2_142 g1_1 rfl hq4 ?_
  refine a_iload_n 2 dX2_goThroughFrame_85 rfl rfl ?_
  refine a_iconst dX2_goThroughFrame_86 (okI_b _ rfl) ?_
  refine a_cVv (c := 2) [vi 0, vi (m_gt μ (m_gt μ l0 4) 1), vi l2, vi 0] [] dX2_goThroughFrame_87 myX2_playFills mRX2_155 mvX2_playFills rfl (by decide) hk (fun _ hj => tX2_playFills E l N 10 l0 0 (m_gt μ (m_gt μ l0 4) 1) l2 0 μ _ hk hj) (by decide) rfl (Nat.le_of_ble_eq_true rfl) h (fun μ1 hm h => ?_)
  have hk := hm.k hk (by decide)
  have hq4 := hm.k hq4 (by decide)
  exact a_sub [0, 1, 2] rfl (tX2_goThroughFrame_90 E l _ k2 p2 N l0 l1 l2 μ1 t hk h)
theorem tX2_goThroughFrame_2b (E : m_E) (l : Launch) (z : Nat × Nat) (k2 : Int → Int → Int → Mm → Option (Mm)) (p2 : ∀ (l0 l1 l2 : Int) (μ : Mm) (t : Mm), m_kd μ l0 = (2, 0) → k2 l0 l1 l2 μ = some t → aX2_goThroughFrame E l 23 z 2 [(0, vr l0), (1, vi l1), (2, vi l2)] [] μ (rV t)) (N : Nat) (l0 l1 l2 : Int) (μ : Mm) (t : Mm) (hk : m_kd μ l0 = (2, 0)) (h : jX2_goThroughFrame_2b k2 N l0 l1 l2 μ = some t) : aX2_goThroughFrame E l 23 z 2 [(0, vr l0), (1, vi l1), (2, vi l2)] [] μ (rV t) := by
  unfold jX2_goThroughFrame_2b at h
  refine a_iload_n 2 dX2_goThroughFrame_2 rfl rfl ?_
  refine a_bipush dX2_goThroughFrame_3 ⟨rfl, okI_b _ rfl⟩ ?_
  refine a_icmp_ge (tgt := 150) dX2_goThroughFrame_5 rfl h (fun h => ?_) (fun h => ?_)
  ·
    refine a_aload_n 0 dX2_goThroughFrame_150 rfl rfl ?_
    refine a_getfr (c := 2) (i := 1) dX2_goThroughFrame_151 fRX2_20 g2_1 rfl hk ?_
    refine m_chk_k h (fun hq6 h => ?_)
    refine a_cVv (c := 6) [] [] dX2_goThroughFrame_154 myX6_wipe mRX2_127 mvX6_wipe rfl (by decide) hq6 (fun _ hj => tX6_wipe E l N (m_gt μ l0 1) μ _ hq6 hj) (by decide) rfl (Nat.le_of_ble_eq_true rfl) h (fun μ1 hm h => ?_)
    have hk := hm.k hk (by decide)
    have hq6 := hm.k hq6 (by decide)
    refine a_aload_n 0 dX2_goThroughFrame_157 rfl rfl ?_
    refine a_getfr (c := 2) (i := 1) dX2_goThroughFrame_158 fRX2_20 g2_1 rfl hk ?_
    refine a_astore_n (L' := [(2, vr (m_gt μ1 l0 1)), (0, vr l0), (1, vi l1)]) dX2_goThroughFrame_161 rfl (by decide) rfl ?_
    refine a_aload_n 1 dX2_goThroughFrame_162 rfl rfl ?_
    refine a_aload_n 1 dX2_goThroughFrame_163 rfl rfl ?_
    refine a_getfr (c := 2) (i := 2) dX2_goThroughFrame_164 fRX2_24 g2_2 rfl hk ?_
    refine a_putfr (c := 2) (i := 1) dX2_goThroughFrame_167 fRX2_20 g2_1 (Or.inl rfl) rfl hk h (fun μ2 hm h => ?_)
    have hk := hm.k hk (by decide)
    have hq6 := hm.k hq6 (by decide)
    refine a_aload_n 1 dX2_goThroughFrame_170 rfl rfl ?_
    refine a_aload_n 0 dX2_goThroughFrame_171 rfl rfl ?_
    refine a_putfr (c := 2) (i := 2) dX2_goThroughFrame_172 fRX2_24 g2_2 (Or.inl rfl) rfl hk h (fun μ3 hm h => ?_)
    have hk := hm.k hk (by decide)
    have hq6 := hm.k hq6 (by decide)
    exact a_ret0 dX2_goThroughFrame_175 h
  ·
    refine a_aload_n 0 dX2_goThroughFrame_8 rfl rfl ?_
    refine a_getfr (c := 2) (i := 1) dX2_goThroughFrame_9 fRX2_20 g2_1 rfl hk ?_
    refine a_iload_n 2 dX2_goThroughFrame_12 rfl rfl ?_
    refine m_chk_k h (fun hq29 h => ?_)
    refine a_cVi (c := 6) [vi l2] [] dX2_goThroughFrame_13 myX6_isEmpty mRX2_138 mvX6_isEmpty rfl (by decide) hq29 (fun _ hj => tX6_isEmpty E l N (m_gt μ l0 1) l2 μ _ hq29 hj) (by decide) rfl (Nat.le_of_ble_eq_true rfl) h (fun x1 μ4 hm h => ?_)
    have hk := hm.k hk (by decide)
    have hq29 := hm.k hq29 (by decide)
    refine a_if_eq (tgt := 22) dX2_goThroughFrame_16 rfl h (fun h => ?_) (fun h => ?_)
    ·
      refine a_aload_n 0 dX2_goThroughFrame_22 rfl rfl ?_
      refine a_lconst (v := 1) dX2_goThroughFrame_23 ⟨rfl, okJ_b _ rfl⟩ ?_
      refine a_putfl (c := 2) (i := 10) dX2_goThroughFrame_24 fRX2_44 g2_10 (Or.inl rfl) rfl hk h (fun μ5 hm h => ?_)
      have hk := hm.k hk (by decide)
      have hq29 := hm.k hq29 (by decide)
      refine a_iload_n 1 dX2_goThroughFrame_27 rfl rfl ?_
      refine a_aload_n 0 dX2_goThroughFrame_28 rfl rfl ?_
      refine a_getfr (c := 2) (i := 4) dX2_goThroughFrame_29 fRX2_68 g2_4 rfl hk ?_
      refine m_chk_k h (fun hq43 h => ?_)
      refine a_getfi (c := 1) (i := 2) dX2_goThroughFrame_32 fRX2_87 g1_2 rfl hq43 ?_
      refine a_icmp_ge (tgt := 57) dX2_goThroughFrame_35 rfl h (fun h => ?_) (fun h => ?_)
      ·
        refine a_aload_n 0 dX2_goThroughFrame_57 rfl rfl ?_
        refine a_getfz (c := 2) (i := 6) dX2_goThroughFrame_58 fRX2_31 g2_6 rfl hk ?_
        refine a_if_eq (tgt := 76) dX2_goThroughFrame_61 rfl h (fun h => ?_) (fun h => ?_)
        ·
          exact a_sub [0, 1, 2] rfl (tX2_goThroughFrame_76 E l _ k2 p2 N l0 l1 l2 μ5 t hk h)
        ·
          refine a_iload_n 2 dX2_goThroughFrame_64 rfl rfl ?_
          refine a_cSi [vi l2] [] dX2_goThroughFrame_65 myX2_fillsOf mRX2_149 msX2_fillsOf (fun _ hj => tX2_fillsOf E l N l2 μ5 _  hj) (by decide) rfl (Nat.le_of_ble_eq_true rfl) h (fun x2 μ6 hm h => ?_)
          have hk := hm.k hk (by decide)
          have hq29 := hm.k hq29 (by decide)
          have hq43 := hm.k hq43 (by decide)
          refine a_aload_n 0 dX2_goThroughFrame_68 rfl rfl ?_
          refine a_iload_n 1 dX2_goThroughFrame_69 rfl rfl ?_
          refine a_cVi (c := 2) [vi l1] [vi x2] dX2_goThroughFrame_70 myX2_givenIn mRX2_152 mvX2_givenIn rfl (by decide) hk (fun _ hj => tX2_givenIn E l N l0 l1 μ6 _ hk hj) (by decide) rfl (Nat.le_of_ble_eq_true rfl) h (fun x3 μ7 hm h => ?_)
          have hk := hm.k hk (by decide)
          have hq29 := hm.k hq29 (by decide)
          have hq43 := hm.k hq43 (by decide)
          refine a_icmp_ne (tgt := 90) dX2_goThroughFrame_73 rfl h (fun h => ?_) (fun h => ?_)
          ·
            exact a_sub [0, 1, 2] rfl (tX2_goThroughFrame_90 E l _ k2 p2 N l0 l1 l2 μ7 t hk h)
          ·
            exact a_sub [0, 1, 2] rfl (tX2_goThroughFrame_76 E l _ k2 p2 N l0 l1 l2 μ7 t hk h)
      ·
        refine a_aload_n 0 dX2_goThroughFrame_38 rfl rfl ?_
        refine a_iload_n 1 dX2_goThroughFrame_39 rfl rfl ?_
        refine a_iconst dX2_goThroughFrame_40 (okI_b _ rfl) ?_
        refine a_aload_n 0 dX2_goThroughFrame_41 rfl rfl ?_
        refine a_getfr (c := 2) (i := 4) dX2_goThroughFrame_42 fRX2_68 g2_4 rfl hk ?_
        refine a_getfi (c := 1) (i := 1) dX2_goThroughFrame_45 fRX2_142 g1_1 rfl hq43 ?_
        refine a_iload_n 2 dX2_goThroughFrame_48 rfl rfl ?_
        refine a_iconst dX2_goThroughFrame_49 (okI_b _ rfl) ?_
        refine a_iconst dX2_goThroughFrame_50 (okI_b _ rfl) ?_
        refine a_cVv (c := 2) [vi l1, vi 0, vi (m_gt μ5 (m_gt μ5 l0 4) 1), vi l2, vi 0, vi 0] [] dX2_goThroughFrame_51 myX2_playFrame mRX2_145 mvX2_playFrame rfl (by decide) hk (fun _ hj => tX2_playFrame E l N 10 l0 l1 0 (m_gt μ5 (m_gt μ5 l0 4) 1) l2 0 0 μ5 _ hk hj) (by decide) rfl (Nat.le_of_ble_eq_true rfl) h (fun μ8 hm h => ?_)
        have hk := hm.k hk (by decide)
        have hq29 := hm.k hq29 (by decide)
        have hq43 := hm.k hq43 (by decide)
        refine a_goto (tgt := 90) dX2_goThroughFrame_54 rfl ?_
        exact a_sub [0, 1, 2] rfl (tX2_goThroughFrame_90 E l _ k2 p2 N l0 l1 l2 μ8 t hk h)
    ·
      refine a_goto (tgt := 144) dX2_goThroughFrame_19 rfl ?_
      exact a_sub [0, 1, 2] rfl (tX2_goThroughFrame_144 E l _ k2 p2 N l0 l1 l2 μ4 t hk h)
theorem tX2_goThroughFrame_2 (E : m_E) (l : Launch) (z : Nat × Nat) (N : Nat) : ∀ (n : Nat) (l0 l1 l2 : Int) (μ : Mm) (t : Mm), m_kd μ l0 = (2, 0) → jX2_goThroughFrame_2 N n l0 l1 l2 μ = some t → aX2_goThroughFrame E l 23 z 2 [(0, vr l0), (1, vi l1), (2, vi l2)] [] μ (rV t)
  | 0, _, _, _, _, _, _, h => by cases h
  | n + 1, l0, l1, l2, μ, t, hk, h => tX2_goThroughFrame_2b E l z (jX2_goThroughFrame_2 N n) (tX2_goThroughFrame_2 E l z N n) N l0 l1 l2 μ t hk h
theorem tX2_goThroughFrame (E : m_E) (l : Launch) (N : Nat) (l0 l1 : Int) (μ : Mm) (t : Mm) (hk : m_kd μ l0 = (2, 0)) (h : jX2_goThroughFrame N l0 l1 μ = some t) : TT E l 23 yX2_goThroughFrame cX2_goThroughFrame 4 none [vr l0, vi l1] μ (rV t) := by
  refine tt_of (L := [(0, vr l0), (1, vi l1)]) (by decide +kernel) (Nat.le_of_ble_eq_true rfl) rfl ?_
  show aX2_goThroughFrame E l 23 (m_sz μ, m_sl μ) 0 [(0, vr l0), (1, vi l1)] [] μ (rV t)
  unfold jX2_goThroughFrame at h
  refine a_iconst dX2_goThroughFrame_0 (okI_b _ rfl) ?_
  refine a_istore_n (L' := [(2, vi 0), (0, vr l0), (1, vi l1)]) dX2_goThroughFrame_1 rfl (by decide) rfl ?_
  exact a_sub [1, 2, 0] rfl (tX2_goThroughFrame_2 E l _ N N l0 l1 0 μ t hk h)
-- X2_goThrough
abbrev aX2_goThrough (E : m_E) (l : Launch) (d : Nat) (z : Nat × Nat) (pc : Nat) (L : List (Nat × AV)) (st : List AV) (μ : Mm) (ρ : Option AV × Mm) : Prop := AA E l d z RX2 "goThrough" cX2_goThrough 3 none pc L st μ ρ
theorem tX2_goThrough_48b (E : m_E) (l : Launch) (z : Nat × Nat) (k48 : Int → Int → Mm → Option (Mm)) (p48 : ∀ (l0 l2 : Int) (μ : Mm) (t : Mm), m_kd μ l0 = (2, 0) → k48 l0 l2 μ = some t → aX2_goThrough E l 24 z 48 [(0, vr l0), (2, vi l2)] [] μ (rV t)) (N : Nat) (l0 l2 : Int) (μ : Mm) (t : Mm) (hk : m_kd μ l0 = (2, 0)) (h : jX2_goThrough_48b k48 N l0 l2 μ = some t) : aX2_goThrough E l 24 z 48 [(0, vr l0), (2, vi l2)] [] μ (rV t) := by
  unfold jX2_goThrough_48b at h
  refine a_iload_n 1 dX2_goThrough_48 rfl rfl ?_
  refine a_aload_n 0 dX2_goThrough_49 rfl rfl ?_
  refine a_getfr (c := 2) (i := 4) dX2_goThrough_50 fRX2_68 g2_4 rfl hk ?_
  refine m_chk_k h (fun hq3 h => ?_)
  refine a_getfi (c := 1) (i := 2) dX2_goThrough_53 fRX2_87 g1_2 rfl hq3 ?_
  refine a_icmp_gt (tgt := 70) dX2_goThrough_56 rfl h (fun h => ?_) (fun h => ?_)
  ·
    exact a_ret0 dX2_goThrough_70 h
  ·
    refine a_aload_n 0 dX2_goThrough_59 rfl rfl ?_
    refine a_iload_n 1 dX2_goThrough_60 rfl rfl ?_
    refine a_cVv (c := 2) [vi l2] [] dX2_goThrough_61 myX2_goThroughFrame mRX2_134 mvX2_goThroughFrame rfl (by decide) hk (fun _ hj => tX2_goThroughFrame E l N l0 l2 μ _ hk hj) (by decide) rfl (Nat.le_of_ble_eq_true rfl) h (fun μ1 hm h => ?_)
    have hk := hm.k hk (by decide)
    have hq3 := hm.k hq3 (by decide)
    refine a_iinc (F := fun x1 => [(2, vi x1), (0, vr l0)]) 1 dX2_goThrough_64 rfl (by decide) h (fun _ => rfl) (fun x1 h => ?_)
    refine a_goto (tgt := 48) dX2_goThrough_67 rfl ?_
    exact a_sub [1, 0] rfl (p48 l0 x1 μ1 t hk h)
theorem tX2_goThrough_48 (E : m_E) (l : Launch) (z : Nat × Nat) (N : Nat) : ∀ (n : Nat) (l0 l2 : Int) (μ : Mm) (t : Mm), m_kd μ l0 = (2, 0) → jX2_goThrough_48 N n l0 l2 μ = some t → aX2_goThrough E l 24 z 48 [(0, vr l0), (2, vi l2)] [] μ (rV t)
  | 0, _, _, _, _, _, h => by cases h
  | n + 1, l0, l2, μ, t, hk, h => tX2_goThrough_48b E l z (jX2_goThrough_48 N n) (tX2_goThrough_48 E l z N n) N l0 l2 μ t hk h
theorem tX2_goThrough (E : m_E) (l : Launch) (N : Nat) (l0 l1 : Int) (μ : Mm) (t : Mm) (hk : m_kd μ l0 = (2, 0)) (h : jX2_goThrough N l0 l1 μ = some t) : TT E l 24 yX2_goThrough cX2_goThrough 3 none [vr l0, vr l1] μ (rV t) := by
  refine tt_of (L := [(0, vr l0), (1, vr l1)]) (by decide +kernel) (Nat.le_of_ble_eq_true rfl) rfl ?_
  show aX2_goThrough E l 24 (m_sz μ, m_sl μ) 0 [(0, vr l0), (1, vr l1)] [] μ (rV t)
  unfold jX2_goThrough at h
  refine a_aload_n 0 dX2_goThrough_0 rfl rfl ?_
  refine a_aload_n 1 dX2_goThrough_1 rfl rfl ?_
  refine a_putfr (c := 2) (i := 3) dX2_goThrough_2 fRX2_58 g2_3 (Or.inl rfl) rfl hk h (fun μ1 hm h => ?_)
  have hk := hm.k hk (by decide)
  refine a_aload_n 0 dX2_goThrough_5 rfl rfl ?_
  refine a_aload_n 1 dX2_goThrough_6 rfl rfl ?_
  refine m_chk_k h (fun hq6 h => ?_)
  refine a_getfN (c := 5) (i := 5) (host := "NinepinAlley") dX2_goThrough_7 (by decide) ⟨by decide, by decide⟩ rfl hq6 ?_
  refine a_putfr (c := 2) (i := 4) dX2_goThrough_10 fRX2_68 g2_4 (Or.inl rfl) rfl hk h (fun μ2 hm h => ?_)
  have hk := hm.k hk (by decide)
  have hq6 := hm.k hq6 (by decide)
  refine a_aload_n 0 dX2_goThrough_13 rfl rfl ?_
  refine a_getfr (c := 2) (i := 1) dX2_goThrough_14 fRX2_20 g2_1 rfl hk ?_
  refine m_chk_k h (fun hq13 h => ?_)
  refine a_cVv (c := 6) [] [] dX2_goThrough_17 myX6_open mRX2_124 mvX6_open rfl (by decide) hq13 (fun _ hj => tX6_open E l N (m_gt μ2 l0 1) μ2 _ hq13 hj) (by decide) rfl (Nat.le_of_ble_eq_true rfl) h (fun μ3 hm h => ?_)
  have hk := hm.k hk (by decide)
  have hq6 := hm.k hq6 (by decide)
  have hq13 := hm.k hq13 (by decide)
  refine a_aload_n 0 dX2_goThrough_20 rfl rfl ?_
  refine a_getfr (c := 2) (i := 2) dX2_goThrough_21 fRX2_24 g2_2 rfl hk ?_
  refine m_chk_k h (fun hq20 h => ?_)
  refine a_cVv (c := 6) [] [] dX2_goThrough_24 myX6_open mRX2_124 mvX6_open rfl (by decide) hq20 (fun _ hj => tX6_open E l N (m_gt μ3 l0 2) μ3 _ hq20 hj) (by decide) rfl (Nat.le_of_ble_eq_true rfl) h (fun μ4 hm h => ?_)
  have hk := hm.k hk (by decide)
  have hq6 := hm.k hq6 (by decide)
  have hq13 := hm.k hq13 (by decide)
  have hq20 := hm.k hq20 (by decide)
  refine a_aload_n 0 dX2_goThrough_27 rfl rfl ?_
  refine a_getfr (c := 2) (i := 1) dX2_goThrough_28 fRX2_20 g2_1 rfl hk ?_
  refine m_chk_k h (fun hq28 h => ?_)
  refine a_cVv (c := 6) [] [] dX2_goThrough_31 myX6_wipe mRX2_127 mvX6_wipe rfl (by decide) hq28 (fun _ hj => tX6_wipe E l N (m_gt μ4 l0 1) μ4 _ hq28 hj) (by decide) rfl (Nat.le_of_ble_eq_true rfl) h (fun μ5 hm h => ?_)
  have hk := hm.k hk (by decide)
  have hq6 := hm.k hq6 (by decide)
  have hq13 := hm.k hq13 (by decide)
  have hq20 := hm.k hq20 (by decide)
  have hq28 := hm.k hq28 (by decide)
  refine a_aload_n 0 dX2_goThrough_34 rfl rfl ?_
  refine a_getfr (c := 2) (i := 1) dX2_goThrough_35 fRX2_20 g2_1 rfl hk ?_
  refine a_iconst dX2_goThrough_38 (okI_b _ rfl) ?_
  refine a_sipush dX2_goThrough_39 ⟨rfl, okI_b _ rfl⟩ ?_
  refine a_lconst (v := 1) dX2_goThrough_42 ⟨rfl, okJ_b _ rfl⟩ ?_
  refine m_chk_k h (fun hq40 h => ?_)
  refine a_cVv (c := 6) [vi 0, vi 400, vl 1] [] dX2_goThrough_43 myX6_set mRX2_130 mvX6_set rfl (by decide) hq40 (fun _ hj => tX6_set E l N (m_gt μ5 l0 1) 0 400 1 μ5 _ hq40 hj) (by decide) rfl (Nat.le_of_ble_eq_true rfl) h (fun μ6 hm h => ?_)
  have hk := hm.k hk (by decide)
  have hq6 := hm.k hq6 (by decide)
  have hq13 := hm.k hq13 (by decide)
  have hq20 := hm.k hq20 (by decide)
  have hq28 := hm.k hq28 (by decide)
  have hq40 := hm.k hq40 (by decide)
  refine a_iconst dX2_goThrough_46 (okI_b _ rfl) ?_
  refine a_istore_n (L' := [(2, vi 0), (0, vr l0), (1, vr l1)]) dX2_goThrough_47 rfl (by decide) rfl ?_
  exact a_sub [1, 0] rfl (tX2_goThrough_48 E l _ N N l0 0 μ6 t hk h)
-- X2_lookAhead
abbrev aX2_lookAhead (E : m_E) (l : Launch) (d : Nat) (z : Nat × Nat) (pc : Nat) (L : List (Nat × AV)) (st : List AV) (μ : Mm) (ρ : Option AV × Mm) : Prop := AA E l d z RX2 "lookAhead" cX2_lookAhead 5 none pc L st μ ρ
theorem tX2_lookAhead_53b (E : m_E) (l : Launch) (z : Nat × Nat) (k53 : Int → Int → Int → Mm → Option (Mm)) (p53 : ∀ (l0 l1 l4 : Int) (μ : Mm) (t : Mm), m_kd μ l0 = (2, 0) → k53 l0 l1 l4 μ = some t → aX2_lookAhead E l 25 z 53 [(0, vr l0), (1, vr l1), (4, vi l4)] [] μ (rV t)) (N : Nat) (l0 l1 l4 : Int) (μ : Mm) (t : Mm) (hk : m_kd μ l0 = (2, 0)) (h : jX2_lookAhead_53b k53 N l0 l1 l4 μ = some t) : aX2_lookAhead E l 25 z 53 [(0, vr l0), (1, vr l1), (4, vi l4)] [] μ (rV t) := by
  unfold jX2_lookAhead_53b at h
  refine a_iload 2 dX2_lookAhead_53 rfl ?_
  refine a_aload_n 0 dX2_lookAhead_55 rfl rfl ?_
  refine a_getfr (c := 2) (i := 5) dX2_lookAhead_56 fRX2_27 g2_5 rfl hk ?_
  refine a_alen dX2_lookAhead_59 h (fun x1 h => ?_)
  refine a_icmp_ge (tgt := 82) dX2_lookAhead_60 rfl h (fun h => ?_) (fun h => ?_)
  ·
    refine a_aload_n 0 dX2_lookAhead_82 rfl rfl ?_
    refine a_aload_n 1 dX2_lookAhead_83 rfl rfl ?_
    refine a_cVv (c := 2) [vr l1] [] dX2_lookAhead_84 myX2_goThrough mRX2_79 mvX2_goThrough rfl (by decide) hk (fun _ hj => tX2_goThrough E l N l0 l1 μ _ hk hj) (by decide) rfl (Nat.le_of_ble_eq_true rfl) h (fun μ1 hm h => ?_)
    have hk := hm.k hk (by decide)
    exact a_ret0 dX2_lookAhead_87 h
  ·
    refine a_aload_n 0 dX2_lookAhead_63 rfl rfl ?_
    refine a_getfr (c := 2) (i := 5) dX2_lookAhead_64 fRX2_27 g2_5 rfl hk ?_
    refine a_iload 2 dX2_lookAhead_67 rfl ?_
    refine a_aload_n 1 dX2_lookAhead_69 rfl rfl ?_
    refine a_iload 2 dX2_lookAhead_70 rfl ?_
    refine m_chk_k h (fun hq17 h => ?_)
    refine a_cVi (c := 5) [vi l4] [vi l4, vr (m_gt μ l0 5)] dX2_lookAhead_72 myX5_sizeOf mRX2_75 mvX5_sizeOf rfl (by decide) hq17 (fun _ hj => tX5_sizeOf E l N l1 l4 μ _ hq17 hj) (by decide) rfl (Nat.le_of_ble_eq_true rfl) h (fun x2 μ2 hm h => ?_)
    have hk := hm.k hk (by decide)
    have hq17 := hm.k hq17 (by decide)
    refine a_iast dX2_lookAhead_75 h (fun μ3 hm h => ?_)
    have hk := hm.k hk (by decide)
    have hq17 := hm.k hq17 (by decide)
    refine a_iinc (F := fun x3 => [(4, vi x3), (0, vr l0), (1, vr l1)]) 2 dX2_lookAhead_76 rfl (by decide) h (fun _ => rfl) (fun x3 h => ?_)
    refine a_goto (tgt := 53) dX2_lookAhead_79 rfl ?_
    exact a_sub [1, 2, 0] rfl (p53 l0 l1 x3 μ3 t hk h)
theorem tX2_lookAhead_53 (E : m_E) (l : Launch) (z : Nat × Nat) (N : Nat) : ∀ (n : Nat) (l0 l1 l4 : Int) (μ : Mm) (t : Mm), m_kd μ l0 = (2, 0) → jX2_lookAhead_53 N n l0 l1 l4 μ = some t → aX2_lookAhead E l 25 z 53 [(0, vr l0), (1, vr l1), (4, vi l4)] [] μ (rV t)
  | 0, _, _, _, _, _, _, h => by cases h
  | n + 1, l0, l1, l4, μ, t, hk, h => tX2_lookAhead_53b E l z (jX2_lookAhead_53 N n) (tX2_lookAhead_53 E l z N n) N l0 l1 l4 μ t hk h
theorem tX2_lookAhead_9 (E : m_E) (l : Launch) (z : Nat × Nat) (N : Nat) (l0 l1 l2 s0 : Int) (μ : Mm) (t : Mm) (hk : m_kd μ l0 = (2, 0)) (h : jX2_lookAhead_9 N l0 l1 l2 s0 μ = some t) : aX2_lookAhead E l 25 z 9 [(0, vr l0), (1, vr l1), (2, vi l2)] [vi s0] μ (rV t) := by
  unfold jX2_lookAhead_9 at h
  refine a_istore_n (L' := [(3, vi s0), (0, vr l0), (1, vr l1), (2, vi l2)]) dX2_lookAhead_9 rfl (by decide) rfl ?_
  refine a_aload_n 1 dX2_lookAhead_10 rfl rfl ?_
  refine a_getfi (c := 2) (i := 0) dX2_lookAhead_11 fRX2_11 g2_0 rfl hk ?_
  refine a_iload_n 0 dX2_lookAhead_14 rfl rfl ?_
  refine a_icmp_ne (tgt := 19) dX2_lookAhead_15 rfl h (fun h => ?_) (fun h => ?_)
  ·
    refine a_aload_n 1 dX2_lookAhead_19 rfl rfl ?_
    refine a_iload_n 0 dX2_lookAhead_20 rfl rfl ?_
    refine a_putfi (c := 2) (i := 0) dX2_lookAhead_21 fRX2_11 g2_0 (Or.inl rfl) rfl hk h (fun μ1 hm h => ?_)
    have hk := hm.k hk (by decide)
    refine a_aload_n 1 dX2_lookAhead_24 rfl rfl ?_
    refine a_iload_n 3 dX2_lookAhead_25 rfl rfl ?_
    refine z_k h (fun hz h => ?_)
    refine a_putfz (c := 2) (i := 7) dX2_lookAhead_26 fRX2_35 g2_7 (Or.inl rfl) rfl hz hk h (fun μ2 hm h => ?_)
    have hk := hm.k hk (by decide)
    refine a_aload_n 1 dX2_lookAhead_29 rfl rfl ?_
    refine a_iconst dX2_lookAhead_30 (okI_b _ rfl) ?_
    refine a_putfz (c := 2) (i := 6) dX2_lookAhead_31 fRX2_31 g2_6 (Or.inl rfl) rfl (Or.inl rfl) hk h (fun μ3 hm h => ?_)
    have hk := hm.k hk (by decide)
    refine a_aload_n 1 dX2_lookAhead_34 rfl rfl ?_
    refine a_aload_n 2 dX2_lookAhead_35 rfl rfl ?_
    refine m_chk_k h (fun hq21 h => ?_)
    refine a_getfi (c := 5) (i := 2) dX2_lookAhead_36 fRX2_69 g5_2 rfl hq21 ?_
    refine a_putfi (c := 2) (i := 8) dX2_lookAhead_39 fRX2_38 g2_8 (Or.inl rfl) rfl hk h (fun μ4 hm h => ?_)
    have hk := hm.k hk (by decide)
    have hq21 := hm.k hq21 (by decide)
    refine a_aload_n 1 dX2_lookAhead_42 rfl rfl ?_
    refine a_aload_n 2 dX2_lookAhead_43 rfl rfl ?_
    refine a_getfi (c := 5) (i := 3) dX2_lookAhead_44 fRX2_72 g5_3 rfl hq21 ?_
    refine a_putfi (c := 2) (i := 9) dX2_lookAhead_47 fRX2_41 g2_9 (Or.inl rfl) rfl hk h (fun μ5 hm h => ?_)
    have hk := hm.k hk (by decide)
    have hq21 := hm.k hq21 (by decide)
    refine a_iconst dX2_lookAhead_50 (okI_b _ rfl) ?_
    refine a_istore (L' := [(4, vi 0), (3, vi s0), (0, vr l0), (1, vr l1), (2, vi l2)]) dX2_lookAhead_51 (by decide) rfl ?_
    exact a_sub [2, 3, 0] rfl (tX2_lookAhead_53 E l _ N N l0 l1 0 μ5 t hk h)
  ·
    exact a_ret0 dX2_lookAhead_18 h
theorem tX2_lookAhead (E : m_E) (l : Launch) (N : Nat) (l0 l1 l2 : Int) (μ : Mm) (t : Mm) (hk : m_kd μ l0 = (2, 0)) (h : jX2_lookAhead N l0 l1 l2 μ = some t) : TT E l 25 yX2_lookAhead cX2_lookAhead 5 none [vr l0, vr l1, vi l2] μ (rV t) := by
  refine tt_of (L := [(0, vr l0), (1, vr l1), (2, vi l2)]) (by decide +kernel) (Nat.le_of_ble_eq_true rfl) rfl ?_
  show aX2_lookAhead E l 25 (m_sz μ, m_sl μ) 0 [(0, vr l0), (1, vr l1), (2, vi l2)] [] μ (rV t)
  unfold jX2_lookAhead at h
  refine a_iload_n 2 dX2_lookAhead_0 rfl rfl ?_
  refine a_if_eq (tgt := 8) dX2_lookAhead_1 rfl h (fun h => ?_) (fun h => ?_)
  ·
    refine a_iconst dX2_lookAhead_8 (okI_b _ rfl) ?_
    exact a_sub [0, 1, 2] rfl (tX2_lookAhead_9 E l _ N l0 l1 l2 2 μ t hk h)
  ·
    refine a_iconst dX2_lookAhead_4 (okI_b _ rfl) ?_
    refine a_goto (tgt := 9) dX2_lookAhead_5 rfl ?_
    exact a_sub [0, 1, 2] rfl (tX2_lookAhead_9 E l _ N l0 l1 l2 1 μ t hk h)
-- X2_isTorn
abbrev aX2_isTorn (E : m_E) (l : Launch) (d : Nat) (z : Nat × Nat) (pc : Nat) (L : List (Nat × AV)) (st : List AV) (μ : Mm) (ρ : Option AV × Mm) : Prop := AA E l d z RX2 "isTorn" cX2_isTorn 2 (some .boolean) pc L st μ ρ
theorem tX2_isTorn_21 (E : m_E) (l : Launch) (z : Nat × Nat) (N : Nat) (s0 : Int) (μ : Mm) (t : Int × Mm) (h : jX2_isTorn_21 N s0 μ = some t) : aX2_isTorn E l 1 z 21 [] [vi s0] μ (rI t) := by
  unfold jX2_isTorn_21 at h
  exact a_retz dX2_isTorn_21 h
theorem tX2_isTorn_20 (E : m_E) (l : Launch) (z : Nat × Nat) (N : Nat) (μ : Mm) (t : Int × Mm) (h : jX2_isTorn_20 N  μ = some t) : aX2_isTorn E l 1 z 20 [] [] μ (rI t) := by
  unfold jX2_isTorn_20 at h
  refine a_iconst dX2_isTorn_20 (okI_b _ rfl) ?_
  exact a_sub [] rfl (tX2_isTorn_21 E l _ N 0 μ t h)
theorem tX2_isTorn (E : m_E) (l : Launch) (N : Nat) (l0 l1 : Int) (μ : Mm) (t : Int × Mm) (h : jX2_isTorn N l0 l1 μ = some t) : TT E l 1 yX2_isTorn cX2_isTorn 2 (some .boolean) [vr l0, vi l1] μ (rI t) := by
  refine tt_of (L := [(0, vr l0), (1, vi l1)]) (by decide +kernel) (Nat.le_of_ble_eq_true rfl) rfl ?_
  show aX2_isTorn E l 1 (m_sz μ, m_sl μ) 0 [(0, vr l0), (1, vi l1)] [] μ (rI t)
  unfold jX2_isTorn at h
  refine a_iload_n 1 dX2_isTorn_0 rfl rfl ?_
  refine a_if_lt (tgt := 20) dX2_isTorn_1 rfl h (fun h => ?_) (fun h => ?_)
  ·
    exact a_sub [] rfl (tX2_isTorn_20 E l _ N  μ t h)
  ·
    refine a_iload_n 1 dX2_isTorn_4 rfl rfl ?_
    refine a_aload_n 0 dX2_isTorn_5 rfl rfl ?_
    refine a_alen dX2_isTorn_6 h (fun x1 h => ?_)
    refine a_icmp_ge (tgt := 20) dX2_isTorn_7 rfl h (fun h => ?_) (fun h => ?_)
    ·
      exact a_sub [] rfl (tX2_isTorn_20 E l _ N  μ t h)
    ·
      refine a_aload_n 0 dX2_isTorn_10 rfl rfl ?_
      refine a_iload_n 1 dX2_isTorn_11 rfl rfl ?_
      refine a_zald dX2_isTorn_12 h (fun x2 h => ?_)
      refine a_if_eq (tgt := 20) dX2_isTorn_13 rfl h (fun h => ?_) (fun h => ?_)
      ·
        exact a_sub [] rfl (tX2_isTorn_20 E l _ N  μ t h)
      ·
        refine a_iconst dX2_isTorn_16 (okI_b _ rfl) ?_
        refine a_goto (tgt := 21) dX2_isTorn_17 rfl ?_
        exact a_sub [] rfl (tX2_isTorn_21 E l _ N 1 μ t h)
-- X2_lookAtTorn
abbrev aX2_lookAtTorn (E : m_E) (l : Launch) (d : Nat) (z : Nat × Nat) (pc : Nat) (L : List (Nat × AV)) (st : List AV) (μ : Mm) (ρ : Option AV × Mm) : Prop := AA E l d z RX2 "lookAtTorn" cX2_lookAtTorn 6 none pc L st μ ρ
theorem tX2_lookAtTorn_119 (E : m_E) (l : Launch) (z : Nat × Nat) (N : Nat) (l0 l1 s0 s1 : Int) (μ : Mm) (t : Mm) (hk : m_kd μ l0 = (2, 0)) (h : jX2_lookAtTorn_119 N l0 l1 s0 s1 μ = some t) : aX2_lookAtTorn E l 25 z 119 [(0, vr l0), (1, vr l1)] [vi s0, vr s1] μ (rV t) := by
  unfold jX2_lookAtTorn_119 at h
  refine m_chk_k h (fun hq0 h => ?_)
  refine z_k h (fun hz h => ?_)
  refine a_putfz (c := 2) (i := 6) dX2_lookAtTorn_119 fRX2_31 g2_6 (Or.inl rfl) rfl hz hq0 h (fun μ1 hm h => ?_)
  have hk := hm.k hk (by decide)
  have hq0 := hm.k hq0 (by decide)
  refine a_aload_n 0 dX2_lookAtTorn_122 rfl rfl ?_
  refine a_aload_n 1 dX2_lookAtTorn_123 rfl rfl ?_
  refine a_cVv (c := 2) [vr l1] [] dX2_lookAtTorn_124 myX2_goThrough mRX2_79 mvX2_goThrough rfl (by decide) hk (fun _ hj => tX2_goThrough E l N l0 l1 μ1 _ hk hj) (by decide) rfl (Nat.le_of_ble_eq_true rfl) h (fun μ2 hm h => ?_)
  have hk := hm.k hk (by decide)
  have hq0 := hm.k hq0 (by decide)
  exact a_ret0 dX2_lookAtTorn_127 h
theorem tX2_lookAtTorn_92 (E : m_E) (l : Launch) (z : Nat × Nat) (k57 : Int → Int → Int → Int → Mm → Option (Mm)) (p57 : ∀ (l0 l1 l2 l5 : Int) (μ : Mm) (t : Mm), m_kd μ l0 = (2, 0) → k57 l0 l1 l2 l5 μ = some t → aX2_lookAtTorn E l 25 z 57 [(0, vr l0), (1, vr l1), (2, vr l2), (5, vi l5)] [] μ (rV t)) (N : Nat) (l0 l1 l2 l5 s0 s1 s2 : Int) (μ : Mm) (t : Mm) (hk : m_kd μ l0 = (2, 0)) (h : jX2_lookAtTorn_92 k57 N l0 l1 l2 l5 s0 s1 s2 μ = some t) : aX2_lookAtTorn E l 25 z 92 [(0, vr l0), (1, vr l1), (2, vr l2), (5, vi l5)] [vi s0, vi s1, vr s2] μ (rV t) := by
  unfold jX2_lookAtTorn_92 at h
  refine a_iast dX2_lookAtTorn_92 h (fun μ1 hm h => ?_)
  have hk := hm.k hk (by decide)
  refine a_iinc (F := fun x1 => [(5, vi x1), (0, vr l0), (1, vr l1), (2, vr l2)]) 3 dX2_lookAtTorn_93 rfl (by decide) h (fun _ => rfl) (fun x1 h => ?_)
  refine a_goto (tgt := 57) dX2_lookAtTorn_96 rfl ?_
  exact a_sub [1, 2, 3, 0] rfl (p57 l0 l1 l2 x1 μ1 t hk h)
theorem tX2_lookAtTorn_57b (E : m_E) (l : Launch) (z : Nat × Nat) (k57 : Int → Int → Int → Int → Mm → Option (Mm)) (p57 : ∀ (l0 l1 l2 l5 : Int) (μ : Mm) (t : Mm), m_kd μ l0 = (2, 0) → k57 l0 l1 l2 l5 μ = some t → aX2_lookAtTorn E l 25 z 57 [(0, vr l0), (1, vr l1), (2, vr l2), (5, vi l5)] [] μ (rV t)) (N : Nat) (l0 l1 l2 l5 : Int) (μ : Mm) (t : Mm) (hk : m_kd μ l0 = (2, 0)) (h : jX2_lookAtTorn_57b k57 N l0 l1 l2 l5 μ = some t) : aX2_lookAtTorn E l 25 z 57 [(0, vr l0), (1, vr l1), (2, vr l2), (5, vi l5)] [] μ (rV t) := by
  unfold jX2_lookAtTorn_57b at h
  refine a_iload 3 dX2_lookAtTorn_57 rfl ?_
  refine a_aload_n 0 dX2_lookAtTorn_59 rfl rfl ?_
  refine a_getfr (c := 2) (i := 5) dX2_lookAtTorn_60 fRX2_27 g2_5 rfl hk ?_
  refine a_alen dX2_lookAtTorn_63 h (fun x1 h => ?_)
  refine a_icmp_ge (tgt := 99) dX2_lookAtTorn_64 rfl h (fun h => ?_) (fun h => ?_)
  ·
    refine a_aload_n 0 dX2_lookAtTorn_99 rfl rfl ?_
    refine a_aload_n 2 dX2_lookAtTorn_100 rfl rfl ?_
    refine a_aload_n 1 dX2_lookAtTorn_101 rfl rfl ?_
    refine m_chk_k h (fun hq9 h => ?_)
    refine a_getfN (c := 5) (i := 5) (host := "NinepinAlley") dX2_lookAtTorn_102 (by decide) ⟨by decide, by decide⟩ rfl hq9 ?_
    refine m_chk_k h (fun hq11 h => ?_)
    refine a_getfi (c := 1) (i := 2) dX2_lookAtTorn_105 fRX2_87 g1_2 rfl hq11 ?_
    refine a_cSi [vr l2, vi (m_gt μ (m_gt μ l1 5) 2)] [vr l0] dX2_lookAtTorn_108 myX2_isTorn mRX2_83 msX2_isTorn (fun _ hj => tX2_isTorn E l N l2 (m_gt μ (m_gt μ l1 5) 2) μ _  hj) (by decide) rfl (Nat.le_of_ble_eq_true rfl) h (fun x2 μ1 hm h => ?_)
    have hk := hm.k hk (by decide)
    have hq9 := hm.k hq9 (by decide)
    have hq11 := hm.k hq11 (by decide)
    refine a_if_ne (tgt := 118) dX2_lookAtTorn_111 rfl h (fun h => ?_) (fun h => ?_)
    ·
      refine a_iconst dX2_lookAtTorn_118 (okI_b _ rfl) ?_
      exact a_sub [0, 1] rfl (tX2_lookAtTorn_119 E l _ N l0 l1 0 l0 μ1 t hk h)
    ·
      refine a_iconst dX2_lookAtTorn_114 (okI_b _ rfl) ?_
      refine a_goto (tgt := 119) dX2_lookAtTorn_115 rfl ?_
      exact a_sub [0, 1] rfl (tX2_lookAtTorn_119 E l _ N l0 l1 1 l0 μ1 t hk h)
  ·
    refine a_aload_n 0 dX2_lookAtTorn_67 rfl rfl ?_
    refine a_getfr (c := 2) (i := 5) dX2_lookAtTorn_68 fRX2_27 g2_5 rfl hk ?_
    refine a_iload 3 dX2_lookAtTorn_71 rfl ?_
    refine a_aload_n 2 dX2_lookAtTorn_73 rfl rfl ?_
    refine a_iload 3 dX2_lookAtTorn_74 rfl ?_
    refine a_cSi [vr l2, vi l5] [vi l5, vr (m_gt μ l0 5)] dX2_lookAtTorn_76 myX2_isTorn mRX2_83 msX2_isTorn (fun _ hj => tX2_isTorn E l N l2 l5 μ _  hj) (by decide) rfl (Nat.le_of_ble_eq_true rfl) h (fun x3 μ2 hm h => ?_)
    have hk := hm.k hk (by decide)
    refine a_if_eq (tgt := 86) dX2_lookAtTorn_79 rfl h (fun h => ?_) (fun h => ?_)
    ·
      refine a_aload_n 1 dX2_lookAtTorn_86 rfl rfl ?_
      refine a_iload 3 dX2_lookAtTorn_87 rfl ?_
      refine m_chk_k h (fun hq37 h => ?_)
      refine a_cVi (c := 5) [vi l5] [vi l5, vr (m_gt μ l0 5)] dX2_lookAtTorn_89 myX5_sizeOf mRX2_75 mvX5_sizeOf rfl (by decide) hq37 (fun _ hj => tX5_sizeOf E l N l1 l5 μ2 _ hq37 hj) (by decide) rfl (Nat.le_of_ble_eq_true rfl) h (fun x4 μ3 hm h => ?_)
      have hk := hm.k hk (by decide)
      have hq37 := hm.k hq37 (by decide)
      exact a_sub [0, 1, 2, 3] rfl (tX2_lookAtTorn_92 E l _ k57 p57 N l0 l1 l2 l5 x4 l5 (m_gt μ l0 5) μ3 t hk h)
    ·
      refine a_iconst dX2_lookAtTorn_82 (okI_b _ rfl) ?_
      refine a_goto (tgt := 92) dX2_lookAtTorn_83 rfl ?_
      exact a_sub [0, 1, 2, 3] rfl (tX2_lookAtTorn_92 E l _ k57 p57 N l0 l1 l2 l5 0 l5 (m_gt μ l0 5) μ2 t hk h)
theorem tX2_lookAtTorn_57 (E : m_E) (l : Launch) (z : Nat × Nat) (N : Nat) : ∀ (n : Nat) (l0 l1 l2 l5 : Int) (μ : Mm) (t : Mm), m_kd μ l0 = (2, 0) → jX2_lookAtTorn_57 N n l0 l1 l2 l5 μ = some t → aX2_lookAtTorn E l 25 z 57 [(0, vr l0), (1, vr l1), (2, vr l2), (5, vi l5)] [] μ (rV t)
  | 0, _, _, _, _, _, _, _, h => by cases h
  | n + 1, l0, l1, l2, l5, μ, t, hk, h => tX2_lookAtTorn_57b E l z (jX2_lookAtTorn_57 N n) (tX2_lookAtTorn_57 E l z N n) N l0 l1 l2 l5 μ t hk h
theorem tX2_lookAtTorn_41 (E : m_E) (l : Launch) (z : Nat × Nat) (N : Nat) (l0 l1 l2 l3 s0 s1 : Int) (μ : Mm) (t : Mm) (hk : m_kd μ l0 = (2, 0)) (h : jX2_lookAtTorn_41 N l0 l1 l2 l3 s0 s1 μ = some t) : aX2_lookAtTorn E l 25 z 41 [(0, vr l0), (1, vr l1), (2, vr l2), (3, vi l3)] [vi s0, vr s1] μ (rV t) := by
  unfold jX2_lookAtTorn_41 at h
  refine m_chk_k h (fun hq0 h => ?_)
  refine z_k h (fun hz h => ?_)
  refine a_putfz (c := 2) (i := 7) dX2_lookAtTorn_41 fRX2_35 g2_7 (Or.inl rfl) rfl hz hq0 h (fun μ1 hm h => ?_)
  have hk := hm.k hk (by decide)
  have hq0 := hm.k hq0 (by decide)
  refine a_aload_n 0 dX2_lookAtTorn_44 rfl rfl ?_
  refine a_iload_n 3 dX2_lookAtTorn_45 rfl rfl ?_
  refine a_putfi (c := 2) (i := 8) dX2_lookAtTorn_46 fRX2_38 g2_8 (Or.inl rfl) rfl hk h (fun μ2 hm h => ?_)
  have hk := hm.k hk (by decide)
  have hq0 := hm.k hq0 (by decide)
  refine a_aload_n 0 dX2_lookAtTorn_49 rfl rfl ?_
  refine a_iconst dX2_lookAtTorn_50 (okI_b _ rfl) ?_
  refine a_putfi (c := 2) (i := 9) dX2_lookAtTorn_51 fRX2_41 g2_9 (Or.inl rfl) rfl hk h (fun μ3 hm h => ?_)
  have hk := hm.k hk (by decide)
  have hq0 := hm.k hq0 (by decide)
  refine a_iconst dX2_lookAtTorn_54 (okI_b _ rfl) ?_
  refine a_istore (L' := [(5, vi 0), (0, vr l0), (1, vr l1), (2, vr l2), (3, vi l3)]) dX2_lookAtTorn_55 (by decide) rfl ?_
  exact a_sub [1, 2, 3, 0] rfl (tX2_lookAtTorn_57 E l _ N N l0 l1 l2 0 μ3 t hk h)
theorem tX2_lookAtTorn_12 (E : m_E) (l : Launch) (z : Nat × Nat) (N : Nat) (l0 l1 l2 l3 s0 : Int) (μ : Mm) (t : Mm) (hk : m_kd μ l0 = (2, 0)) (h : jX2_lookAtTorn_12 N l0 l1 l2 l3 s0 μ = some t) : aX2_lookAtTorn E l 25 z 12 [(0, vr l0), (1, vr l1), (2, vr l2), (3, vi l3)] [vi s0] μ (rV t) := by
  unfold jX2_lookAtTorn_12 at h
  refine a_istore (L' := [(4, vi s0), (0, vr l0), (1, vr l1), (2, vr l2), (3, vi l3)]) dX2_lookAtTorn_12 (by decide) rfl ?_
  refine a_aload_n 1 dX2_lookAtTorn_14 rfl rfl ?_
  refine a_getfi (c := 2) (i := 0) dX2_lookAtTorn_15 fRX2_11 g2_0 rfl hk ?_
  refine a_iload 0 dX2_lookAtTorn_18 rfl ?_
  refine a_icmp_ne (tgt := 24) dX2_lookAtTorn_20 rfl h (fun h => ?_) (fun h => ?_)
  ·
    refine a_aload_n 1 dX2_lookAtTorn_24 rfl rfl ?_
    refine a_iload 0 dX2_lookAtTorn_25 rfl ?_
    refine a_putfi (c := 2) (i := 0) dX2_lookAtTorn_27 fRX2_11 g2_0 (Or.inl rfl) rfl hk h (fun μ1 hm h => ?_)
    have hk := hm.k hk (by decide)
    refine a_aload_n 1 dX2_lookAtTorn_30 rfl rfl ?_
    refine a_iload_n 4 dX2_lookAtTorn_31 rfl rfl ?_
    refine a_iconst dX2_lookAtTorn_32 (okI_b _ rfl) ?_
    refine a_icmp_ne (tgt := 40) dX2_lookAtTorn_33 rfl h (fun h => ?_) (fun h => ?_)
    ·
      refine a_iconst dX2_lookAtTorn_40 (okI_b _ rfl) ?_
      exact a_sub [1, 2, 3, 4] rfl (tX2_lookAtTorn_41 E l _ N l0 l1 l2 l3 0 l0 μ1 t hk h)
    ·
      refine a_iconst dX2_lookAtTorn_36 (okI_b _ rfl) ?_
      refine a_goto (tgt := 41) dX2_lookAtTorn_37 rfl ?_
      exact a_sub [1, 2, 3, 4] rfl (tX2_lookAtTorn_41 E l _ N l0 l1 l2 l3 1 l0 μ1 t hk h)
  ·
    exact a_ret0 dX2_lookAtTorn_23 h
theorem tX2_lookAtTorn (E : m_E) (l : Launch) (N : Nat) (l0 l1 l2 l3 : Int) (μ : Mm) (t : Mm) (hk : m_kd μ l0 = (2, 0)) (h : jX2_lookAtTorn N l0 l1 l2 l3 μ = some t) : TT E l 25 yX2_lookAtTorn cX2_lookAtTorn 6 none [vr l0, vr l1, vr l2, vi l3] μ (rV t) := by
  refine tt_of (L := [(0, vr l0), (1, vr l1), (2, vr l2), (3, vi l3)]) (by decide +kernel) (Nat.le_of_ble_eq_true rfl) rfl ?_
  show aX2_lookAtTorn E l 25 (m_sz μ, m_sl μ) 0 [(0, vr l0), (1, vr l1), (2, vr l2), (3, vi l3)] [] μ (rV t)
  unfold jX2_lookAtTorn at h
  refine a_iload_n 3 dX2_lookAtTorn_0 rfl rfl ?_
  refine a_iconst dX2_lookAtTorn_1 (okI_b _ rfl) ?_
  refine a_icmp_ne (tgt := 9) dX2_lookAtTorn_2 rfl h (fun h => ?_) (fun h => ?_)
  ·
    refine a_iconst dX2_lookAtTorn_9 (okI_b _ rfl) ?_
    refine a_iload_n 3 dX2_lookAtTorn_10 rfl rfl ?_
    refine a_iadd dX2_lookAtTorn_11 ?_
    exact a_sub [0, 1, 2, 3] rfl (tX2_lookAtTorn_12 E l _ N l0 l1 l2 l3 (i_add 4 l3) μ t hk h)
  ·
    refine a_iconst dX2_lookAtTorn_5 (okI_b _ rfl) ?_
    refine a_goto (tgt := 12) dX2_lookAtTorn_6 rfl ?_
    exact a_sub [0, 1, 2, 3] rfl (tX2_lookAtTorn_12 E l _ N l0 l1 l2 l3 3 μ t hk h)
-- X2_at
abbrev aX2_at (E : m_E) (l : Launch) (d : Nat) (z : Nat × Nat) (pc : Nat) (L : List (Nat × AV)) (st : List AV) (μ : Mm) (ρ : Option AV × Mm) : Prop := AA E l d z RX2 "at" cX2_at 2 (some .long) pc L st μ ρ
theorem tX2_at_31 (E : m_E) (l : Launch) (z : Nat × Nat) (N : Nat) (l0 s0 : Int) (μ : Mm) (t : Int × Mm) (hk : m_kd μ l0 = (2, 0)) (h : jX2_at_31 N l0 s0 μ = some t) : aX2_at E l 3 z 31 [(0, vr l0)] [vl s0] μ (rJ t) := by
  unfold jX2_at_31 at h
  exact a_retl dX2_at_31 h
theorem tX2_at_14 (E : m_E) (l : Launch) (z : Nat × Nat) (N : Nat) (l0 : Int) (μ : Mm) (t : Int × Mm) (hk : m_kd μ l0 = (2, 0)) (h : jX2_at_14 N l0 μ = some t) : aX2_at E l 3 z 14 [(0, vr l0)] [] μ (rJ t) := by
  unfold jX2_at_14 at h
  refine a_lconst (v := 0) dX2_at_14 ⟨rfl, okJ_b _ rfl⟩ ?_
  refine a_goto (tgt := 31) dX2_at_15 rfl ?_
  exact a_sub [0] rfl (tX2_at_31 E l _ N l0 0 μ t hk h)
theorem tX2_at (E : m_E) (l : Launch) (N : Nat) (l0 l1 : Int) (μ : Mm) (t : Int × Mm) (hk : m_kd μ l0 = (2, 0)) (h : jX2_at N l0 l1 μ = some t) : TT E l 3 yX2_at cX2_at 2 (some .long) [vr l0, vi l1] μ (rJ t) := by
  refine tt_of (L := [(0, vr l0), (1, vi l1)]) (by decide +kernel) (Nat.le_of_ble_eq_true rfl) rfl ?_
  show aX2_at E l 3 (m_sz μ, m_sl μ) 0 [(0, vr l0), (1, vi l1)] [] μ (rJ t)
  unfold jX2_at at h
  refine a_iload_n 1 dX2_at_0 rfl rfl ?_
  refine a_sipush dX2_at_1 ⟨rfl, okI_b _ rfl⟩ ?_
  refine a_icmp_lt (tgt := 14) dX2_at_4 rfl h (fun h => ?_) (fun h => ?_)
  ·
    exact a_sub [0] rfl (tX2_at_14 E l _ N l0 μ t hk h)
  ·
    refine a_iload_n 1 dX2_at_7 rfl rfl ?_
    refine a_sipush dX2_at_8 ⟨rfl, okI_b _ rfl⟩ ?_
    refine a_icmp_lt (tgt := 18) dX2_at_11 rfl h (fun h => ?_) (fun h => ?_)
    ·
      refine a_aload_n 0 dX2_at_18 rfl rfl ?_
      refine a_getfr (c := 2) (i := 1) dX2_at_19 fRX2_20 g2_1 rfl hk ?_
      refine a_iconst dX2_at_22 (okI_b _ rfl) ?_
      refine a_iload_n 1 dX2_at_23 rfl rfl ?_
      refine a_sipush dX2_at_24 ⟨rfl, okI_b _ rfl⟩ ?_
      refine a_isub dX2_at_27 ?_
      refine m_chk_k h (fun hq16 h => ?_)
      refine a_cVl (c := 6) [vi 0, vi (i_sub l1 (-400))] [] dX2_at_28 myX6_value mRX2_92 mvX6_value rfl (by decide) hq16 (fun _ hj => tX6_value E l N (m_gt μ l0 1) 0 (i_sub l1 (-400)) μ _ hq16 hj) (by decide) rfl (Nat.le_of_ble_eq_true rfl) h (fun x1 μ1 hm h => ?_)
      have hk := hm.k hk (by decide)
      have hq16 := hm.k hq16 (by decide)
      exact a_sub [0] rfl (tX2_at_31 E l _ N l0 x1 μ1 t hk h)
    ·
      exact a_sub [0] rfl (tX2_at_14 E l _ N l0 μ t hk h)
-- X2_least
abbrev aX2_least (E : m_E) (l : Launch) (d : Nat) (z : Nat × Nat) (pc : Nat) (L : List (Nat × AV)) (st : List AV) (μ : Mm) (ρ : Option AV × Mm) : Prop := AA E l d z RX2 "least" cX2_least 1 (some .int) pc L st μ ρ
theorem tX2_least (E : m_E) (l : Launch) (N : Nat) (l0 : Int) (μ : Mm) (t : Int × Mm) (hk : m_kd μ l0 = (2, 0)) (h : jX2_least N l0 μ = some t) : TT E l 3 yX2_least cX2_least 1 (some .int) [vr l0] μ (rI t) := by
  refine tt_of (L := [(0, vr l0)]) (by decide +kernel) (Nat.le_of_ble_eq_true rfl) rfl ?_
  show aX2_least E l 3 (m_sz μ, m_sl μ) 0 [(0, vr l0)] [] μ (rI t)
  unfold jX2_least at h
  refine a_sipush dX2_least_0 ⟨rfl, okI_b _ rfl⟩ ?_
  refine a_aload_n 0 dX2_least_3 rfl rfl ?_
  refine a_getfr (c := 2) (i := 1) dX2_least_4 fRX2_20 g2_1 rfl hk ?_
  refine a_iconst dX2_least_7 (okI_b _ rfl) ?_
  refine m_chk_k h (fun hq4 h => ?_)
  refine a_cVi (c := 6) [vi 0] [vi (-400)] dX2_least_8 myX6_low mRX2_96 mvX6_low rfl (by decide) hq4 (fun _ hj => tX6_low E l N (m_gt μ l0 1) 0 μ _ hq4 hj) (by decide) rfl (Nat.le_of_ble_eq_true rfl) h (fun x1 μ1 hm h => ?_)
  have hk := hm.k hk (by decide)
  have hq4 := hm.k hq4 (by decide)
  refine a_iadd dX2_least_11 ?_
  exact a_reti dX2_least_12 h
-- X2_greatest
abbrev aX2_greatest (E : m_E) (l : Launch) (d : Nat) (z : Nat × Nat) (pc : Nat) (L : List (Nat × AV)) (st : List AV) (μ : Mm) (ρ : Option AV × Mm) : Prop := AA E l d z RX2 "greatest" cX2_greatest 1 (some .int) pc L st μ ρ
theorem tX2_greatest (E : m_E) (l : Launch) (N : Nat) (l0 : Int) (μ : Mm) (t : Int × Mm) (hk : m_kd μ l0 = (2, 0)) (h : jX2_greatest N l0 μ = some t) : TT E l 3 yX2_greatest cX2_greatest 1 (some .int) [vr l0] μ (rI t) := by
  refine tt_of (L := [(0, vr l0)]) (by decide +kernel) (Nat.le_of_ble_eq_true rfl) rfl ?_
  show aX2_greatest E l 3 (m_sz μ, m_sl μ) 0 [(0, vr l0)] [] μ (rI t)
  unfold jX2_greatest at h
  refine a_sipush dX2_greatest_0 ⟨rfl, okI_b _ rfl⟩ ?_
  refine a_aload_n 0 dX2_greatest_3 rfl rfl ?_
  refine a_getfr (c := 2) (i := 1) dX2_greatest_4 fRX2_20 g2_1 rfl hk ?_
  refine a_iconst dX2_greatest_7 (okI_b _ rfl) ?_
  refine m_chk_k h (fun hq4 h => ?_)
  refine a_cVi (c := 6) [vi 0] [vi (-400)] dX2_greatest_8 myX6_high mRX2_99 mvX6_high rfl (by decide) hq4 (fun _ hj => tX6_high E l N (m_gt μ l0 1) 0 μ _ hq4 hj) (by decide) rfl (Nat.le_of_ble_eq_true rfl) h (fun x1 μ1 hm h => ?_)
  have hk := hm.k hk (by decide)
  have hq4 := hm.k hq4 (by decide)
  refine a_iadd dX2_greatest_11 ?_
  exact a_reti dX2_greatest_12 h
-- X2_countFrom
abbrev aX2_countFrom (E : m_E) (l : Launch) (d : Nat) (z : Nat × Nat) (pc : Nat) (L : List (Nat × AV)) (st : List AV) (μ : Mm) (ρ : Option AV × Mm) : Prop := AA E l d z RX2 "countFrom" cX2_countFrom 5 (some .long) pc L st μ ρ
theorem tX2_countFrom_12b (E : m_E) (l : Launch) (z : Nat × Nat) (k12 : Int → Int → Int → Mm → Option (Int × Mm)) (p12 : ∀ (l0 l2 l4 : Int) (μ : Mm) (t : Int × Mm), m_kd μ l0 = (2, 0) → k12 l0 l2 l4 μ = some t → aX2_countFrom E l 4 z 12 [(0, vr l0), (2, vl l2), (4, vi l4)] [] μ (rJ t)) (N : Nat) (l0 l2 l4 : Int) (μ : Mm) (t : Int × Mm) (hk : m_kd μ l0 = (2, 0)) (h : jX2_countFrom_12b k12 N l0 l2 l4 μ = some t) : aX2_countFrom E l 4 z 12 [(0, vr l0), (2, vl l2), (4, vi l4)] [] μ (rJ t) := by
  unfold jX2_countFrom_12b at h
  refine a_iload 2 dX2_countFrom_12 rfl ?_
  refine a_aload_n 0 dX2_countFrom_14 rfl rfl ?_
  refine a_cVi (c := 2) [] [vi l4] dX2_countFrom_15 myX2_greatest mRX2_112 mvX2_greatest rfl (by decide) hk (fun _ hj => tX2_greatest E l N l0 μ _ hk hj) (by decide) rfl (Nat.le_of_ble_eq_true rfl) h (fun x1 μ1 hm h => ?_)
  have hk := hm.k hk (by decide)
  refine a_icmp_gt (tgt := 42) dX2_countFrom_18 rfl h (fun h => ?_) (fun h => ?_)
  ·
    refine a_lload_n 1 dX2_countFrom_42 rfl rfl ?_
    exact a_retl dX2_countFrom_43 h
  ·
    refine a_ldc2 (x := 1000000000000000000) dX2_countFrom_21 kRX2_115 ⟨rfl, okJ_b _ rfl⟩ ?_
    refine a_lload_n 1 dX2_countFrom_24 rfl rfl ?_
    refine a_aload_n 0 dX2_countFrom_25 rfl rfl ?_
    refine a_iload 2 dX2_countFrom_26 rfl ?_
    refine a_cVl (c := 2) [vi l4] [vl l2, vl 1000000000000000000] dX2_countFrom_28 myX2_at mRX2_117 mvX2_at rfl (by decide) hk (fun _ hj => tX2_at E l N l0 l4 μ1 _ hk hj) (by decide) rfl (Nat.le_of_ble_eq_true rfl) h (fun x2 μ2 hm h => ?_)
    have hk := hm.k hk (by decide)
    refine a_ladd dX2_countFrom_31 ?_
    refine a_mminl dX2_countFrom_32 mRX2_120 (by decide) (Nat.le_of_ble_eq_true rfl) ?_
    refine a_nml h (fun x3 h => ?_)
    refine a_lstore_n (L' := [(2, vl x3), (0, vr l0), (4, vi l4)]) dX2_countFrom_35 rfl (by decide) rfl ?_
    refine a_iinc (F := fun x4 => [(4, vi x4), (2, vl x3), (0, vr l0)]) 2 dX2_countFrom_36 rfl (by decide) h (fun _ => rfl) (fun x4 h => ?_)
    refine a_goto (tgt := 12) dX2_countFrom_39 rfl ?_
    exact a_sub [2, 1, 0] rfl (p12 l0 x3 x4 μ2 t hk h)
theorem tX2_countFrom_12 (E : m_E) (l : Launch) (z : Nat × Nat) (N : Nat) : ∀ (n : Nat) (l0 l2 l4 : Int) (μ : Mm) (t : Int × Mm), m_kd μ l0 = (2, 0) → jX2_countFrom_12 N n l0 l2 l4 μ = some t → aX2_countFrom E l 4 z 12 [(0, vr l0), (2, vl l2), (4, vi l4)] [] μ (rJ t)
  | 0, _, _, _, _, _, _, h => by cases h
  | n + 1, l0, l2, l4, μ, t, hk, h => tX2_countFrom_12b E l z (jX2_countFrom_12 N n) (tX2_countFrom_12 E l z N n) N l0 l2 l4 μ t hk h
theorem tX2_countFrom (E : m_E) (l : Launch) (N : Nat) (l0 l1 : Int) (μ : Mm) (t : Int × Mm) (hk : m_kd μ l0 = (2, 0)) (h : jX2_countFrom N l0 l1 μ = some t) : TT E l 4 yX2_countFrom cX2_countFrom 5 (some .long) [vr l0, vi l1] μ (rJ t) := by
  refine tt_of (L := [(0, vr l0), (1, vi l1)]) (by decide +kernel) (Nat.le_of_ble_eq_true rfl) rfl ?_
  show aX2_countFrom E l 4 (m_sz μ, m_sl μ) 0 [(0, vr l0), (1, vi l1)] [] μ (rJ t)
  unfold jX2_countFrom at h
  refine a_lconst (v := 0) dX2_countFrom_0 ⟨rfl, okJ_b _ rfl⟩ ?_
  refine a_lstore_n (L' := [(2, vl 0), (0, vr l0), (1, vi l1)]) dX2_countFrom_1 rfl (by decide) rfl ?_
  refine a_iload_n 2 dX2_countFrom_2 rfl rfl ?_
  refine a_aload_n 1 dX2_countFrom_3 rfl rfl ?_
  refine a_cVi (c := 2) [] [vi l1] dX2_countFrom_4 myX2_least mRX2_102 mvX2_least rfl (by decide) hk (fun _ hj => tX2_least E l N l0 μ _ hk hj) (by decide) rfl (Nat.le_of_ble_eq_true rfl) h (fun x1 μ1 hm h => ?_)
  have hk := hm.k hk (by decide)
  refine a_mmax dX2_countFrom_7 mRX2_106 (by decide) (Nat.le_of_ble_eq_true rfl) ?_
  refine a_nmi h (fun x2 h => ?_)
  refine a_istore (L' := [(4, vi x2), (2, vl 0), (0, vr l0), (1, vi l1)]) dX2_countFrom_10 (by decide) rfl ?_
  exact a_sub [2, 1, 0] rfl (tX2_countFrom_12 E l _ N N l0 0 x2 μ1 t hk h)
-- X2_marksFrom
abbrev aX2_marksFrom (E : m_E) (l : Launch) (d : Nat) (z : Nat × Nat) (pc : Nat) (L : List (Nat × AV)) (st : List AV) (μ : Mm) (ρ : Option AV × Mm) : Prop := AA E l d z RX2 "marksFrom" cX2_marksFrom 5 (some .long) pc L st μ ρ
theorem tX2_marksFrom_12b (E : m_E) (l : Launch) (z : Nat × Nat) (k12 : Int → Int → Int → Mm → Option (Int × Mm)) (p12 : ∀ (l0 l2 l4 : Int) (μ : Mm) (t : Int × Mm), m_kd μ l0 = (2, 0) → k12 l0 l2 l4 μ = some t → aX2_marksFrom E l 4 z 12 [(0, vr l0), (2, vl l2), (4, vi l4)] [] μ (rJ t)) (N : Nat) (l0 l2 l4 : Int) (μ : Mm) (t : Int × Mm) (hk : m_kd μ l0 = (2, 0)) (h : jX2_marksFrom_12b k12 N l0 l2 l4 μ = some t) : aX2_marksFrom E l 4 z 12 [(0, vr l0), (2, vl l2), (4, vi l4)] [] μ (rJ t) := by
  unfold jX2_marksFrom_12b at h
  refine a_iload 2 dX2_marksFrom_12 rfl ?_
  refine a_aload_n 0 dX2_marksFrom_14 rfl rfl ?_
  refine a_cVi (c := 2) [] [vi l4] dX2_marksFrom_15 myX2_greatest mRX2_112 mvX2_greatest rfl (by decide) hk (fun _ hj => tX2_greatest E l N l0 μ _ hk hj) (by decide) rfl (Nat.le_of_ble_eq_true rfl) h (fun x1 μ1 hm h => ?_)
  have hk := hm.k hk (by decide)
  refine a_icmp_gt (tgt := 36) dX2_marksFrom_18 rfl h (fun h => ?_) (fun h => ?_)
  ·
    refine a_lload_n 1 dX2_marksFrom_36 rfl rfl ?_
    exact a_retl dX2_marksFrom_37 h
  ·
    refine a_lload_n 1 dX2_marksFrom_21 rfl rfl ?_
    refine a_aload_n 0 dX2_marksFrom_22 rfl rfl ?_
    refine a_iload 2 dX2_marksFrom_23 rfl ?_
    refine a_cVl (c := 2) [vi l4] [vl l2] dX2_marksFrom_25 myX2_at mRX2_117 mvX2_at rfl (by decide) hk (fun _ hj => tX2_at E l N l0 l4 μ1 _ hk hj) (by decide) rfl (Nat.le_of_ble_eq_true rfl) h (fun x2 μ2 hm h => ?_)
    have hk := hm.k hk (by decide)
    refine a_lor dX2_marksFrom_28 ?_
    refine a_nml h (fun x3 h => ?_)
    refine a_lstore_n (L' := [(2, vl x3), (0, vr l0), (4, vi l4)]) dX2_marksFrom_29 rfl (by decide) rfl ?_
    refine a_iinc (F := fun x4 => [(4, vi x4), (2, vl x3), (0, vr l0)]) 2 dX2_marksFrom_30 rfl (by decide) h (fun _ => rfl) (fun x4 h => ?_)
    refine a_goto (tgt := 12) dX2_marksFrom_33 rfl ?_
    exact a_sub [2, 1, 0] rfl (p12 l0 x3 x4 μ2 t hk h)
theorem tX2_marksFrom_12 (E : m_E) (l : Launch) (z : Nat × Nat) (N : Nat) : ∀ (n : Nat) (l0 l2 l4 : Int) (μ : Mm) (t : Int × Mm), m_kd μ l0 = (2, 0) → jX2_marksFrom_12 N n l0 l2 l4 μ = some t → aX2_marksFrom E l 4 z 12 [(0, vr l0), (2, vl l2), (4, vi l4)] [] μ (rJ t)
  | 0, _, _, _, _, _, _, h => by cases h
  | n + 1, l0, l2, l4, μ, t, hk, h => tX2_marksFrom_12b E l z (jX2_marksFrom_12 N n) (tX2_marksFrom_12 E l z N n) N l0 l2 l4 μ t hk h
theorem tX2_marksFrom (E : m_E) (l : Launch) (N : Nat) (l0 l1 : Int) (μ : Mm) (t : Int × Mm) (hk : m_kd μ l0 = (2, 0)) (h : jX2_marksFrom N l0 l1 μ = some t) : TT E l 4 yX2_marksFrom cX2_marksFrom 5 (some .long) [vr l0, vi l1] μ (rJ t) := by
  refine tt_of (L := [(0, vr l0), (1, vi l1)]) (by decide +kernel) (Nat.le_of_ble_eq_true rfl) rfl ?_
  show aX2_marksFrom E l 4 (m_sz μ, m_sl μ) 0 [(0, vr l0), (1, vi l1)] [] μ (rJ t)
  unfold jX2_marksFrom at h
  refine a_lconst (v := 0) dX2_marksFrom_0 ⟨rfl, okJ_b _ rfl⟩ ?_
  refine a_lstore_n (L' := [(2, vl 0), (0, vr l0), (1, vi l1)]) dX2_marksFrom_1 rfl (by decide) rfl ?_
  refine a_iload_n 2 dX2_marksFrom_2 rfl rfl ?_
  refine a_aload_n 1 dX2_marksFrom_3 rfl rfl ?_
  refine a_cVi (c := 2) [] [vi l1] dX2_marksFrom_4 myX2_least mRX2_102 mvX2_least rfl (by decide) hk (fun _ hj => tX2_least E l N l0 μ _ hk hj) (by decide) rfl (Nat.le_of_ble_eq_true rfl) h (fun x1 μ1 hm h => ?_)
  have hk := hm.k hk (by decide)
  refine a_mmax dX2_marksFrom_7 mRX2_106 (by decide) (Nat.le_of_ble_eq_true rfl) ?_
  refine a_nmi h (fun x2 h => ?_)
  refine a_istore (L' := [(4, vi x2), (2, vl 0), (0, vr l0), (1, vi l1)]) dX2_marksFrom_10 (by decide) rfl ?_
  exact a_sub [2, 1, 0] rfl (tX2_marksFrom_12 E l _ N N l0 0 x2 μ1 t hk h)
-- X2_marksBelow
abbrev aX2_marksBelow (E : m_E) (l : Launch) (d : Nat) (z : Nat × Nat) (pc : Nat) (L : List (Nat × AV)) (st : List AV) (μ : Mm) (ρ : Option AV × Mm) : Prop := AA E l d z RX2 "marksBelow" cX2_marksBelow 5 (some .long) pc L st μ ρ
theorem tX2_marksBelow_38 (E : m_E) (l : Launch) (z : Nat × Nat) (N : Nat) (l0 l2 : Int) (μ : Mm) (t : Int × Mm) (hk : m_kd μ l0 = (2, 0)) (h : jX2_marksBelow_38 N l0 l2 μ = some t) : aX2_marksBelow E l 4 z 38 [(0, vr l0), (2, vl l2)] [] μ (rJ t) := by
  unfold jX2_marksBelow_38 at h
  refine a_lload_n 1 dX2_marksBelow_38 rfl rfl ?_
  exact a_retl dX2_marksBelow_39 h
theorem tX2_marksBelow_8b (E : m_E) (l : Launch) (z : Nat × Nat) (k8 : Int → Int → Int → Int → Mm → Option (Int × Mm)) (p8 : ∀ (l0 l1 l2 l4 : Int) (μ : Mm) (t : Int × Mm), m_kd μ l0 = (2, 0) → k8 l0 l1 l2 l4 μ = some t → aX2_marksBelow E l 4 z 8 [(0, vr l0), (1, vi l1), (2, vl l2), (4, vi l4)] [] μ (rJ t)) (N : Nat) (l0 l1 l2 l4 : Int) (μ : Mm) (t : Int × Mm) (hk : m_kd μ l0 = (2, 0)) (h : jX2_marksBelow_8b k8 N l0 l1 l2 l4 μ = some t) : aX2_marksBelow E l 4 z 8 [(0, vr l0), (1, vi l1), (2, vl l2), (4, vi l4)] [] μ (rJ t) := by
  unfold jX2_marksBelow_8b at h
  refine a_iload 3 dX2_marksBelow_8 rfl ?_
  refine a_iload_n 1 dX2_marksBelow_10 rfl rfl ?_
  refine a_icmp_ge (tgt := 38) dX2_marksBelow_11 rfl h (fun h => ?_) (fun h => ?_)
  ·
    exact a_sub [0, 2] rfl (tX2_marksBelow_38 E l _ N l0 l2 μ t hk h)
  ·
    refine a_iload 3 dX2_marksBelow_14 rfl ?_
    refine a_aload_n 0 dX2_marksBelow_16 rfl rfl ?_
    refine a_cVi (c := 2) [] [vi l4] dX2_marksBelow_17 myX2_greatest mRX2_112 mvX2_greatest rfl (by decide) hk (fun _ hj => tX2_greatest E l N l0 μ _ hk hj) (by decide) rfl (Nat.le_of_ble_eq_true rfl) h (fun x1 μ1 hm h => ?_)
    have hk := hm.k hk (by decide)
    refine a_icmp_gt (tgt := 38) dX2_marksBelow_20 rfl h (fun h => ?_) (fun h => ?_)
    ·
      exact a_sub [0, 2] rfl (tX2_marksBelow_38 E l _ N l0 l2 μ1 t hk h)
    ·
      refine a_lload_n 2 dX2_marksBelow_23 rfl rfl ?_
      refine a_aload_n 0 dX2_marksBelow_24 rfl rfl ?_
      refine a_iload 3 dX2_marksBelow_25 rfl ?_
      refine a_cVl (c := 2) [vi l4] [vl l2] dX2_marksBelow_27 myX2_at mRX2_117 mvX2_at rfl (by decide) hk (fun _ hj => tX2_at E l N l0 l4 μ1 _ hk hj) (by decide) rfl (Nat.le_of_ble_eq_true rfl) h (fun x2 μ2 hm h => ?_)
      have hk := hm.k hk (by decide)
      refine a_lor dX2_marksBelow_30 ?_
      refine a_nml h (fun x3 h => ?_)
      refine a_lstore_n (L' := [(2, vl x3), (0, vr l0), (1, vi l1), (4, vi l4)]) dX2_marksBelow_31 rfl (by decide) rfl ?_
      refine a_iinc (F := fun x4 => [(4, vi x4), (2, vl x3), (0, vr l0), (1, vi l1)]) 3 dX2_marksBelow_32 rfl (by decide) h (fun _ => rfl) (fun x4 h => ?_)
      refine a_goto (tgt := 8) dX2_marksBelow_35 rfl ?_
      exact a_sub [2, 3, 1, 0] rfl (p8 l0 l1 x3 x4 μ2 t hk h)
theorem tX2_marksBelow_8 (E : m_E) (l : Launch) (z : Nat × Nat) (N : Nat) : ∀ (n : Nat) (l0 l1 l2 l4 : Int) (μ : Mm) (t : Int × Mm), m_kd μ l0 = (2, 0) → jX2_marksBelow_8 N n l0 l1 l2 l4 μ = some t → aX2_marksBelow E l 4 z 8 [(0, vr l0), (1, vi l1), (2, vl l2), (4, vi l4)] [] μ (rJ t)
  | 0, _, _, _, _, _, _, _, h => by cases h
  | n + 1, l0, l1, l2, l4, μ, t, hk, h => tX2_marksBelow_8b E l z (jX2_marksBelow_8 N n) (tX2_marksBelow_8 E l z N n) N l0 l1 l2 l4 μ t hk h
theorem tX2_marksBelow (E : m_E) (l : Launch) (N : Nat) (l0 l1 : Int) (μ : Mm) (t : Int × Mm) (hk : m_kd μ l0 = (2, 0)) (h : jX2_marksBelow N l0 l1 μ = some t) : TT E l 4 yX2_marksBelow cX2_marksBelow 5 (some .long) [vr l0, vi l1] μ (rJ t) := by
  refine tt_of (L := [(0, vr l0), (1, vi l1)]) (by decide +kernel) (Nat.le_of_ble_eq_true rfl) rfl ?_
  show aX2_marksBelow E l 4 (m_sz μ, m_sl μ) 0 [(0, vr l0), (1, vi l1)] [] μ (rJ t)
  unfold jX2_marksBelow at h
  refine a_lconst (v := 0) dX2_marksBelow_0 ⟨rfl, okJ_b _ rfl⟩ ?_
  refine a_lstore_n (L' := [(2, vl 0), (0, vr l0), (1, vi l1)]) dX2_marksBelow_1 rfl (by decide) rfl ?_
  refine a_aload_n 1 dX2_marksBelow_2 rfl rfl ?_
  refine a_cVi (c := 2) [] [] dX2_marksBelow_3 myX2_least mRX2_102 mvX2_least rfl (by decide) hk (fun _ hj => tX2_least E l N l0 μ _ hk hj) (by decide) rfl (Nat.le_of_ble_eq_true rfl) h (fun x1 μ1 hm h => ?_)
  have hk := hm.k hk (by decide)
  refine a_istore (L' := [(4, vi x1), (2, vl 0), (0, vr l0), (1, vi l1)]) dX2_marksBelow_6 (by decide) rfl ?_
  exact a_sub [2, 3, 1, 0] rfl (tX2_marksBelow_8 E l _ N N l0 l1 0 x1 μ1 t hk h)
