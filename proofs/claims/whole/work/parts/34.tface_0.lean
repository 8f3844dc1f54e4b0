-- X7_init
abbrev aX7_init (E : m_E) (l : Launch) (d : Nat) (z : Nat × Nat) (pc : Nat) (L : List (Nat × AV)) (st : List AV) (μ : Mm) (ρ : Option AV × Mm) : Prop := AA E l d z RX7 "<init>" cX7_init 1 none pc L st μ ρ
theorem tX7_init (E : m_E) (l : Launch) (N : Nat) (l0 : Int) (μ : Mm) (t : Mm) (hk : m_kd μ l0 = (7, 0)) (h : jX7_init N l0 μ = some t) : TT E l 4 yX7_init cX7_init 1 none [vr l0] μ (rV t) := by
  refine tt_of (L := [(0, vr l0)]) (by decide +kernel) (Nat.le_of_ble_eq_true rfl) rfl ?_
  show aX7_init E l 4 (m_sz μ, m_sl μ) 0 [(0, vr l0)] [] μ (rV t)
  unfold jX7_init at h
  refine a_aload_n 0 dX7_init_0 rfl rfl ?_
  refine a_objI dX7_init_1 mRX7_3 ob1 ob2 (by decide) hk (by decide) ?_
  refine a_aload_n 0 dX7_init_4 rfl rfl ?_
  refine a_sipush dX7_init_5 ⟨rfl, okI_b _ rfl⟩ ?_
  refine a_nai dX7_init_8 ac_int h (fun μ1 hm hq4 h => ?_)
  have hk := hm.k hk (by decide)
  refine a_putfr (c := 7) (i := 0) dX7_init_10 fRX7_9 g7_0 (Or.inr ⟨rfl, rfl, rfl⟩) rfl hk h (fun μ2 hm h => ?_)
  have hk := hm.k hk (by decide)
  refine a_aload_n 0 dX7_init_13 rfl rfl ?_
  refine a_iconst dX7_init_14 (okI_b _ rfl) ?_
  refine a_putfi (c := 7) (i := 1) dX7_init_15 fRX7_13 g7_1 (Or.inl rfl) rfl hk h (fun μ3 hm h => ?_)
  have hk := hm.k hk (by decide)
  refine a_aload_n 0 dX7_init_18 rfl rfl ?_
  refine a_new (c := 1) dX7_init_19 (by decide) ng1 wRX7_17 in1 ii1 h (fun μ4 hm hq13 h => ?_)
  have hk := hm.k hk (by decide)
  refine a_dup dX7_init_22 rfl ?_
  refine a_cIv [] [vr (m_sz μ3 : Int), vr l0] dX7_init_23 myX1_init mRX7_19 miX1_init rfl hq13 (by decide) (fun _ hj => tX1_init E l N (m_sz μ3 : Int) μ4 _ hq13 hj) (by decide) rfl (Nat.le_of_ble_eq_true rfl) h (fun μ5 hm h => ?_)
  have hk := hm.k hk (by decide)
  have hq13 := hm.k hq13 (by decide)
  refine a_putfr (c := 7) (i := 2) dX7_init_26 fRX7_20 g7_2 (Or.inl rfl) rfl hk h (fun μ6 hm h => ?_)
  have hk := hm.k hk (by decide)
  have hq13 := hm.k hq13 (by decide)
  refine a_aload_n 0 dX7_init_29 rfl rfl ?_
  refine a_new (c := 1) dX7_init_30 (by decide) ng1 wRX7_17 in1 ii1 h (fun μ7 hm hq23 h => ?_)
  have hk := hm.k hk (by decide)
  have hq13 := hm.k hq13 (by decide)
  refine a_dup dX7_init_33 rfl ?_
  refine a_cIv [] [vr (m_sz μ6 : Int), vr l0] dX7_init_34 myX1_init mRX7_19 miX1_init rfl hq23 (by decide) (fun _ hj => tX1_init E l N (m_sz μ6 : Int) μ7 _ hq23 hj) (by decide) rfl (Nat.le_of_ble_eq_true rfl) h (fun μ8 hm h => ?_)
  have hk := hm.k hk (by decide)
  have hq13 := hm.k hq13 (by decide)
  have hq23 := hm.k hq23 (by decide)
  refine a_putfr (c := 7) (i := 3) dX7_init_37 fRX7_24 g7_3 (Or.inl rfl) rfl hk h (fun μ9 hm h => ?_)
  have hk := hm.k hk (by decide)
  have hq13 := hm.k hq13 (by decide)
  have hq23 := hm.k hq23 (by decide)
  refine a_aload_n 0 dX7_init_40 rfl rfl ?_
  refine a_new (c := 3) dX7_init_41 (by decide) ng3 wRX7_27 in3 ii3 h (fun μ10 hm hq36 h => ?_)
  have hk := hm.k hk (by decide)
  have hq13 := hm.k hq13 (by decide)
  have hq23 := hm.k hq23 (by decide)
  refine a_dup dX7_init_44 rfl ?_
  refine a_aload_n 0 dX7_init_45 rfl rfl ?_
  refine a_getfr (c := 7) (i := 3) dX7_init_46 fRX7_24 g7_3 rfl hk ?_
  refine a_cIv [vr (m_gt μ10 l0 3)] [vr (m_sz μ9 : Int), vr l0] dX7_init_49 myX3_init mRX7_29 miX3_init rfl hq36 (by decide) (fun _ hj => tX3_init E l N (m_sz μ9 : Int) (m_gt μ10 l0 3) μ10 _ hq36 hj) (by decide) rfl (Nat.le_of_ble_eq_true rfl) h (fun μ11 hm h => ?_)
  have hk := hm.k hk (by decide)
  have hq13 := hm.k hq13 (by decide)
  have hq23 := hm.k hq23 (by decide)
  have hq36 := hm.k hq36 (by decide)
  refine a_putfr (c := 7) (i := 4) dX7_init_52 fRX7_32 g7_4 (Or.inr ⟨rfl, rfl, rfl⟩) rfl hk h (fun μ12 hm h => ?_)
  have hk := hm.k hk (by decide)
  have hq13 := hm.k hq13 (by decide)
  have hq23 := hm.k hq23 (by decide)
  have hq36 := hm.k hq36 (by decide)
  refine a_aload_n 0 dX7_init_55 rfl rfl ?_
  refine a_new (c := 5) dX7_init_56 (by decide) ng5 wRX7_36 in5 ii5 h (fun μ13 hm hq54 h => ?_)
  have hk := hm.k hk (by decide)
  have hq13 := hm.k hq13 (by decide)
  have hq23 := hm.k hq23 (by decide)
  have hq36 := hm.k hq36 (by decide)
  refine a_dup dX7_init_59 rfl ?_
  refine a_aload_n 0 dX7_init_60 rfl rfl ?_
  refine a_getfr (c := 7) (i := 2) dX7_init_61 fRX7_20 g7_2 rfl hk ?_
  refine a_cIv [vr (m_gt μ13 l0 2)] [vr (m_sz μ12 : Int), vr l0] dX7_init_64 myX5_init mRX7_38 miX5_init rfl hq54 (by decide) (fun _ hj => tX5_init E l N (m_sz μ12 : Int) (m_gt μ13 l0 2) μ13 _ hq54 hj) (by decide) rfl (Nat.le_of_ble_eq_true rfl) h (fun μ14 hm h => ?_)
  have hk := hm.k hk (by decide)
  have hq13 := hm.k hq13 (by decide)
  have hq23 := hm.k hq23 (by decide)
  have hq36 := hm.k hq36 (by decide)
  have hq54 := hm.k hq54 (by decide)
  refine a_putfr (c := 7) (i := 5) dX7_init_67 fRX7_39 g7_5 (Or.inl rfl) rfl hk h (fun μ15 hm h => ?_)
  have hk := hm.k hk (by decide)
  have hq13 := hm.k hq13 (by decide)
  have hq23 := hm.k hq23 (by decide)
  have hq36 := hm.k hq36 (by decide)
  have hq54 := hm.k hq54 (by decide)
  refine a_aload_n 0 dX7_init_70 rfl rfl ?_
  refine a_new (c := 5) dX7_init_71 (by decide) ng5 wRX7_36 in5 ii5 h (fun μ16 hm hq75 h => ?_)
  have hk := hm.k hk (by decide)
  have hq13 := hm.k hq13 (by decide)
  have hq23 := hm.k hq23 (by decide)
  have hq36 := hm.k hq36 (by decide)
  have hq54 := hm.k hq54 (by decide)
  refine a_dup dX7_init_74 rfl ?_
  refine a_aload_n 0 dX7_init_75 rfl rfl ?_
  refine a_getfr (c := 7) (i := 2) dX7_init_76 fRX7_20 g7_2 rfl hk ?_
  refine a_cIv [vr (m_gt μ16 l0 2)] [vr (m_sz μ15 : Int), vr l0] dX7_init_79 myX5_init mRX7_38 miX5_init rfl hq75 (by decide) (fun _ hj => tX5_init E l N (m_sz μ15 : Int) (m_gt μ16 l0 2) μ16 _ hq75 hj) (by decide) rfl (Nat.le_of_ble_eq_true rfl) h (fun μ17 hm h => ?_)
  have hk := hm.k hk (by decide)
  have hq13 := hm.k hq13 (by decide)
  have hq23 := hm.k hq23 (by decide)
  have hq36 := hm.k hq36 (by decide)
  have hq54 := hm.k hq54 (by decide)
  have hq75 := hm.k hq75 (by decide)
  refine a_putfr (c := 7) (i := 6) dX7_init_82 fRX7_43 g7_6 (Or.inl rfl) rfl hk h (fun μ18 hm h => ?_)
  have hk := hm.k hk (by decide)
  have hq13 := hm.k hq13 (by decide)
  have hq23 := hm.k hq23 (by decide)
  have hq36 := hm.k hq36 (by decide)
  have hq54 := hm.k hq54 (by decide)
  have hq75 := hm.k hq75 (by decide)
  refine a_aload_n 0 dX7_init_85 rfl rfl ?_
  refine a_bipush dX7_init_86 ⟨rfl, okI_b _ rfl⟩ ?_
  refine a_naz dX7_init_88 ac_boolean h (fun μ19 hm hq100 h => ?_)
  have hk := hm.k hk (by decide)
  have hq13 := hm.k hq13 (by decide)
  have hq23 := hm.k hq23 (by decide)
  have hq36 := hm.k hq36 (by decide)
  have hq54 := hm.k hq54 (by decide)
  have hq75 := hm.k hq75 (by decide)
  refine a_putfr (c := 7) (i := 7) dX7_init_90 fRX7_46 g7_7 (Or.inr ⟨rfl, rfl, rfl⟩) rfl hk h (fun μ20 hm h => ?_)
  have hk := hm.k hk (by decide)
  have hq13 := hm.k hq13 (by decide)
  have hq23 := hm.k hq23 (by decide)
  have hq36 := hm.k hq36 (by decide)
  have hq54 := hm.k hq54 (by decide)
  have hq75 := hm.k hq75 (by decide)
  refine a_aload_n 0 dX7_init_93 rfl rfl ?_
  refine a_new (c := 2) dX7_init_94 (by decide) ng2 wRX7_50 in2 ii2 h (fun μ21 hm hq115 h => ?_)
  have hk := hm.k hk (by decide)
  have hq13 := hm.k hq13 (by decide)
  have hq23 := hm.k hq23 (by decide)
  have hq36 := hm.k hq36 (by decide)
  have hq54 := hm.k hq54 (by decide)
  have hq75 := hm.k hq75 (by decide)
  refine a_dup dX7_init_97 rfl ?_
  refine a_aload_n 0 dX7_init_98 rfl rfl ?_
  refine a_getfr (c := 7) (i := 5) dX7_init_99 fRX7_39 g7_5 rfl hk ?_
  refine a_cIv [vr (m_gt μ21 l0 5)] [vr (m_sz μ20 : Int), vr l0] dX7_init_102 myX2_init mRX7_52 miX2_init rfl hq115 (by decide) (fun _ hj => tX2_init E l N (m_sz μ20 : Int) (m_gt μ21 l0 5) μ21 _ hq115 hj) (by decide) rfl (Nat.le_of_ble_eq_true rfl) h (fun μ22 hm h => ?_)
  have hk := hm.k hk (by decide)
  have hq13 := hm.k hq13 (by decide)
  have hq23 := hm.k hq23 (by decide)
  have hq36 := hm.k hq36 (by decide)
  have hq54 := hm.k hq54 (by decide)
  have hq75 := hm.k hq75 (by decide)
  have hq115 := hm.k hq115 (by decide)
  refine a_putfr (c := 7) (i := 8) dX7_init_105 fRX7_55 g7_8 (Or.inr ⟨rfl, rfl, rfl⟩) rfl hk h (fun μ23 hm h => ?_)
  have hk := hm.k hk (by decide)
  have hq13 := hm.k hq13 (by decide)
  have hq23 := hm.k hq23 (by decide)
  have hq36 := hm.k hq36 (by decide)
  have hq54 := hm.k hq54 (by decide)
  have hq75 := hm.k hq75 (by decide)
  have hq115 := hm.k hq115 (by decide)
  refine a_aload_n 0 dX7_init_108 rfl rfl ?_
  refine a_new (c := 4) dX7_init_109 (by decide) ng4 wRX7_59 in4 ii4 h (fun μ24 hm hq142 h => ?_)
  have hk := hm.k hk (by decide)
  have hq13 := hm.k hq13 (by decide)
  have hq23 := hm.k hq23 (by decide)
  have hq36 := hm.k hq36 (by decide)
  have hq54 := hm.k hq54 (by decide)
  have hq75 := hm.k hq75 (by decide)
  have hq115 := hm.k hq115 (by decide)
  refine a_dup dX7_init_112 rfl ?_
  refine a_cINv (host := "NinepinAlley") [] [vr (m_sz μ23 : Int), vr l0] dX7_init_113 myX4_init (by decide) miX4_init rfl hq142 (by decide) (fun _ hj => tX4_init E l N (m_sz μ23 : Int) μ24 _ hq142 hj) (by decide) rfl (Nat.le_of_ble_eq_true rfl) h (fun μ25 hm h => ?_)
  have hk := hm.k hk (by decide)
  have hq13 := hm.k hq13 (by decide)
  have hq23 := hm.k hq23 (by decide)
  have hq36 := hm.k hq36 (by decide)
  have hq54 := hm.k hq54 (by decide)
  have hq75 := hm.k hq75 (by decide)
  have hq115 := hm.k hq115 (by decide)
  have hq142 := hm.k hq142 (by decide)
  refine a_putfr (c := 7) (i := 9) dX7_init_116 fRX7_62 g7_9 (Or.inr ⟨rfl, rfl, rfl⟩) rfl hk h (fun μ26 hm h => ?_)
  have hk := hm.k hk (by decide)
  have hq13 := hm.k hq13 (by decide)
  have hq23 := hm.k hq23 (by decide)
  have hq36 := hm.k hq36 (by decide)
  have hq54 := hm.k hq54 (by decide)
  have hq75 := hm.k hq75 (by decide)
  have hq115 := hm.k hq115 (by decide)
  have hq142 := hm.k hq142 (by decide)
  refine a_aload_n 0 dX7_init_119 rfl rfl ?_
  refine a_bipush dX7_init_120 ⟨rfl, okI_b _ rfl⟩ ?_
  refine a_nai dX7_init_122 ac_int h (fun μ27 hm hq171 h => ?_)
  have hk := hm.k hk (by decide)
  have hq13 := hm.k hq13 (by decide)
  have hq23 := hm.k hq23 (by decide)
  have hq36 := hm.k hq36 (by decide)
  have hq54 := hm.k hq54 (by decide)
  have hq75 := hm.k hq75 (by decide)
  have hq115 := hm.k hq115 (by decide)
  have hq142 := hm.k hq142 (by decide)
  refine a_putfr (c := 7) (i := 10) dX7_init_124 fRX7_66 g7_10 (Or.inr ⟨rfl, rfl, rfl⟩) rfl hk h (fun μ28 hm h => ?_)
  have hk := hm.k hk (by decide)
  have hq13 := hm.k hq13 (by decide)
  have hq23 := hm.k hq23 (by decide)
  have hq36 := hm.k hq36 (by decide)
  have hq54 := hm.k hq54 (by decide)
  have hq75 := hm.k hq75 (by decide)
  have hq115 := hm.k hq115 (by decide)
  have hq142 := hm.k hq142 (by decide)
  refine a_aload_n 0 dX7_init_127 rfl rfl ?_
  refine a_iconst dX7_init_128 (okI_b _ rfl) ?_
  refine a_putfi (c := 7) (i := 11) dX7_init_129 fRX7_69 g7_11 (Or.inl rfl) rfl hk h (fun μ29 hm h => ?_)
  have hk := hm.k hk (by decide)
  have hq13 := hm.k hq13 (by decide)
  have hq23 := hm.k hq23 (by decide)
  have hq36 := hm.k hq36 (by decide)
  have hq54 := hm.k hq54 (by decide)
  have hq75 := hm.k hq75 (by decide)
  have hq115 := hm.k hq115 (by decide)
  have hq142 := hm.k hq142 (by decide)
  exact a_ret0 dX7_init_132 h
-- X7_append
abbrev aX7_append (E : m_E) (l : Launch) (d : Nat) (z : Nat × Nat) (pc : Nat) (L : List (Nat × AV)) (st : List AV) (μ : Mm) (ρ : Option AV × Mm) : Prop := AA E l d z RX7 "append" cX7_append 3 none pc L st μ ρ
theorem tX7_append_49 (E : m_E) (l : Launch) (z : Nat × Nat) (N : Nat) (l0 : Int) (μ : Mm) (t : Mm) (hk : m_kd μ l0 = (7, 0)) (h : jX7_append_49 N l0 μ = some t) : aX7_append E l 1 z 49 [(0, vr l0)] [] μ (rV t) := by
  unfold jX7_append_49 at h
  exact a_ret0 dX7_append_49 h
theorem tX7_append_3b (E : m_E) (l : Launch) (z : Nat × Nat) (k3 : Int → Int → Int → Mm → Option (Mm)) (p3 : ∀ (l0 l1 l2 : Int) (μ : Mm) (t : Mm), m_kd μ l0 = (7, 0) → k3 l0 l1 l2 μ = some t → aX7_append E l 1 z 3 [(0, vr l0), (1, vi l1), (2, vi l2)] [] μ (rV t)) (N : Nat) (l0 l1 l2 : Int) (μ : Mm) (t : Mm) (hk : m_kd μ l0 = (7, 0)) (h : jX7_append_3b k3 N l0 l1 l2 μ = some t) : aX7_append E l 1 z 3 [(0, vr l0), (1, vi l1), (2, vi l2)] [] μ (rV t) := by
  unfold jX7_append_3b at h
  refine a_iload_n 2 dX7_append_3 rfl rfl ?_
  refine a_if_lt (tgt := 49) dX7_append_4 rfl h (fun h => ?_) (fun h => ?_)
  ·
    exact a_sub [0] rfl (tX7_append_49 E l _ N l0 μ t hk h)
  ·
    refine a_aload_n 0 dX7_append_7 rfl rfl ?_
    refine a_getfi (c := 7) (i := 1) dX7_append_8 fRX7_13 g7_1 rfl hk ?_
    refine a_sipush dX7_append_11 ⟨rfl, okI_b _ rfl⟩ ?_
    refine a_icmp_ge (tgt := 49) dX7_append_14 rfl h (fun h => ?_) (fun h => ?_)
    ·
      exact a_sub [0] rfl (tX7_append_49 E l _ N l0 μ t hk h)
    ·
      refine a_aload_n 0 dX7_append_17 rfl rfl ?_
      refine a_getfr (c := 7) (i := 0) dX7_append_18 fRX7_9 g7_0 rfl hk ?_
      refine a_aload_n 0 dX7_append_21 rfl rfl ?_
      refine a_getfi (c := 7) (i := 1) dX7_append_22 fRX7_13 g7_1 rfl hk ?_
      refine a_iload_n 1 dX7_append_25 rfl rfl ?_
      refine a_iload_n 2 dX7_append_26 rfl rfl ?_
      refine a_iushr dX7_append_27 ?_
      refine a_sipush dX7_append_28 ⟨rfl, okI_b _ rfl⟩ ?_
      refine a_iand dX7_append_31 ?_
      refine a_iast dX7_append_32 h (fun μ1 hm h => ?_)
      have hk := hm.k hk (by decide)
      refine a_aload_n 0 dX7_append_33 rfl rfl ?_
      refine a_dup dX7_append_34 rfl ?_
      refine a_getfi (c := 7) (i := 1) dX7_append_35 fRX7_13 g7_1 rfl hk ?_
      refine a_iconst dX7_append_38 (okI_b _ rfl) ?_
      refine a_iadd dX7_append_39 ?_
      refine a_putfi (c := 7) (i := 1) dX7_append_40 fRX7_13 g7_1 (Or.inl rfl) rfl hk h (fun μ2 hm h => ?_)
      have hk := hm.k hk (by decide)
      refine a_iinc (F := fun x1 => [(2, vi x1), (0, vr l0), (1, vi l1)]) 2 dX7_append_43 rfl (by decide) h (fun _ => rfl) (fun x1 h => ?_)
      refine a_goto (tgt := 3) dX7_append_46 rfl ?_
      exact a_sub [1, 2, 0] rfl (p3 l0 l1 x1 μ2 t hk h)
theorem tX7_append_3 (E : m_E) (l : Launch) (z : Nat × Nat) (N : Nat) : ∀ (n : Nat) (l0 l1 l2 : Int) (μ : Mm) (t : Mm), m_kd μ l0 = (7, 0) → jX7_append_3 N n l0 l1 l2 μ = some t → aX7_append E l 1 z 3 [(0, vr l0), (1, vi l1), (2, vi l2)] [] μ (rV t)
  | 0, _, _, _, _, _, _, h => by cases h
  | n + 1, l0, l1, l2, μ, t, hk, h => tX7_append_3b E l z (jX7_append_3 N n) (tX7_append_3 E l z N n) N l0 l1 l2 μ t hk h
theorem tX7_append (E : m_E) (l : Launch) (N : Nat) (l0 l1 : Int) (μ : Mm) (t : Mm) (hk : m_kd μ l0 = (7, 0)) (h : jX7_append N l0 l1 μ = some t) : TT E l 1 yX7_append cX7_append 3 none [vr l0, vi l1] μ (rV t) := by
  refine tt_of (L := [(0, vr l0), (1, vi l1)]) (by decide +kernel) (Nat.le_of_ble_eq_true rfl) rfl ?_
  show aX7_append E l 1 (m_sz μ, m_sl μ) 0 [(0, vr l0), (1, vi l1)] [] μ (rV t)
  unfold jX7_append at h
  refine a_bipush dX7_append_0 ⟨rfl, okI_b _ rfl⟩ ?_
  refine a_istore_n (L' := [(2, vi 24), (0, vr l0), (1, vi l1)]) dX7_append_2 rfl (by decide) rfl ?_
  exact a_sub [1, 2, 0] rfl (tX7_append_3 E l _ N N l0 l1 24 μ t hk h)
-- X7_feed
abbrev aX7_feed (E : m_E) (l : Launch) (d : Nat) (z : Nat × Nat) (pc : Nat) (L : List (Nat × AV)) (st : List AV) (μ : Mm) (ρ : Option AV × Mm) : Prop := AA E l d z RX7 "feed" cX7_feed 6 (some .int) pc L st μ ρ
theorem tX7_feed (E : m_E) (l : Launch) (N : Nat) (l0 l1 l2 l3 l4 l5 : Int) (μ : Mm) (t : Int × Mm) (hk : m_kd μ l0 = (7, 0)) (h : jX7_feed N l0 l1 l2 l3 l4 l5 μ = some t) : TT E l 2 yX7_feed cX7_feed 6 (some .int) [vr l0, vi l1, vi l2, vi l3, vi l4, vi l5] μ (rI t) := by
  refine tt_of (L := [(0, vr l0), (1, vi l1), (2, vi l2), (3, vi l3), (4, vi l4), (5, vi l5)]) (by decide +kernel) (Nat.le_of_ble_eq_true rfl) rfl ?_
  show aX7_feed E l 2 (m_sz μ, m_sl μ) 0 [(0, vr l0), (1, vi l1), (2, vi l2), (3, vi l3), (4, vi l4), (5, vi l5)] [] μ (rI t)
  unfold jX7_feed at h
  refine a_aload_n 0 dX7_feed_0 rfl rfl ?_
  refine a_getfi (c := 7) (i := 1) dX7_feed_1 fRX7_13 g7_1 rfl hk ?_
  refine a_bipush dX7_feed_4 ⟨rfl, okI_b _ rfl⟩ ?_
  refine a_iadd dX7_feed_6 ?_
  refine a_sipush dX7_feed_7 ⟨rfl, okI_b _ rfl⟩ ?_
  refine a_icmp_le (tgt := 15) dX7_feed_10 rfl h (fun h => ?_) (fun h => ?_)
  ·
    refine a_aload_n 0 dX7_feed_15 rfl rfl ?_
    refine a_iload_n 1 dX7_feed_16 rfl rfl ?_
    refine a_cVv (c := 7) [vi l1] [] dX7_feed_17 myX7_append mRX7_72 mvX7_append rfl (by decide) hk (fun _ hj => tX7_append E l N l0 l1 μ _ hk hj) (by decide) rfl (Nat.le_of_ble_eq_true rfl) h (fun μ1 hm h => ?_)
    have hk := hm.k hk (by decide)
    refine a_aload_n 0 dX7_feed_20 rfl rfl ?_
    refine a_iload_n 2 dX7_feed_21 rfl rfl ?_
    refine a_cVv (c := 7) [vi l2] [] dX7_feed_22 myX7_append mRX7_72 mvX7_append rfl (by decide) hk (fun _ hj => tX7_append E l N l0 l2 μ1 _ hk hj) (by decide) rfl (Nat.le_of_ble_eq_true rfl) h (fun μ2 hm h => ?_)
    have hk := hm.k hk (by decide)
    refine a_aload_n 0 dX7_feed_25 rfl rfl ?_
    refine a_iload_n 3 dX7_feed_26 rfl rfl ?_
    refine a_cVv (c := 7) [vi l3] [] dX7_feed_27 myX7_append mRX7_72 mvX7_append rfl (by decide) hk (fun _ hj => tX7_append E l N l0 l3 μ2 _ hk hj) (by decide) rfl (Nat.le_of_ble_eq_true rfl) h (fun μ3 hm h => ?_)
    have hk := hm.k hk (by decide)
    refine a_aload_n 0 dX7_feed_30 rfl rfl ?_
    refine a_iload 4 dX7_feed_31 rfl ?_
    refine a_cVv (c := 7) [vi l4] [] dX7_feed_33 myX7_append mRX7_72 mvX7_append rfl (by decide) hk (fun _ hj => tX7_append E l N l0 l4 μ3 _ hk hj) (by decide) rfl (Nat.le_of_ble_eq_true rfl) h (fun μ4 hm h => ?_)
    have hk := hm.k hk (by decide)
    refine a_aload_n 0 dX7_feed_36 rfl rfl ?_
    refine a_iload 5 dX7_feed_37 rfl ?_
    refine a_cVv (c := 7) [vi l5] [] dX7_feed_39 myX7_append mRX7_72 mvX7_append rfl (by decide) hk (fun _ hj => tX7_append E l N l0 l5 μ4 _ hk hj) (by decide) rfl (Nat.le_of_ble_eq_true rfl) h (fun μ5 hm h => ?_)
    have hk := hm.k hk (by decide)
    refine a_aload_n 0 dX7_feed_42 rfl rfl ?_
    refine a_getfi (c := 7) (i := 1) dX7_feed_43 fRX7_13 g7_1 rfl hk ?_
    exact a_reti dX7_feed_46 h
  ·
    refine a_iconst dX7_feed_13 (okI_b _ rfl) ?_
    exact a_reti dX7_feed_14 h
-- X7_end
abbrev aX7_end (E : m_E) (l : Launch) (d : Nat) (z : Nat × Nat) (pc : Nat) (L : List (Nat × AV)) (st : List AV) (μ : Mm) (ρ : Option AV × Mm) : Prop := AA E l d z RX7 "end" cX7_end 2 (some .boolean) pc L st μ ρ
theorem tX7_end_12 (E : m_E) (l : Launch) (z : Nat × Nat) (N : Nat) (l0 : Int) (μ : Mm) (t : Int × Mm) (hk : m_kd μ l0 = (7, 0)) (h : jX7_end_12 N l0 μ = some t) : aX7_end E l 1 z 12 [(0, vr l0)] [] μ (rI t) := by
  unfold jX7_end_12 at h
  refine a_iconst dX7_end_12 (okI_b _ rfl) ?_
  exact a_retzl (Or.inl rfl) dX7_end_13 h
theorem tX7_end (E : m_E) (l : Launch) (N : Nat) (l0 l1 : Int) (μ : Mm) (t : Int × Mm) (hk : m_kd μ l0 = (7, 0)) (h : jX7_end N l0 l1 μ = some t) : TT E l 1 yX7_end cX7_end 2 (some .boolean) [vr l0, vi l1] μ (rI t) := by
  refine tt_of (L := [(0, vr l0), (1, vi l1)]) (by decide +kernel) (Nat.le_of_ble_eq_true rfl) rfl ?_
  show aX7_end E l 1 (m_sz μ, m_sl μ) 0 [(0, vr l0), (1, vi l1)] [] μ (rI t)
  unfold jX7_end at h
  refine a_iload_n 1 dX7_end_0 rfl rfl ?_
  refine a_if_lt (tgt := 12) dX7_end_1 rfl h (fun h => ?_) (fun h => ?_)
  ·
    exact a_sub [0] rfl (tX7_end_12 E l _ N l0 μ t hk h)
  ·
    refine a_iload_n 1 dX7_end_4 rfl rfl ?_
    refine a_aload_n 0 dX7_end_5 rfl rfl ?_
    refine a_getfi (c := 7) (i := 1) dX7_end_6 fRX7_13 g7_1 rfl hk ?_
    refine a_icmp_le (tgt := 14) dX7_end_9 rfl h (fun h => ?_) (fun h => ?_)
    ·
      refine a_aload_n 0 dX7_end_14 rfl rfl ?_
      refine a_iload_n 1 dX7_end_15 rfl rfl ?_
      refine a_putfi (c := 7) (i := 1) dX7_end_16 fRX7_13 g7_1 (Or.inl rfl) rfl hk h (fun μ1 hm h => ?_)
      have hk := hm.k hk (by decide)
      refine a_iconst dX7_end_19 (okI_b _ rfl) ?_
      exact a_retzl (Or.inr rfl) dX7_end_20 h
    ·
      exact a_sub [0] rfl (tX7_end_12 E l _ N l0 μ t hk h)
-- X7_sheetIsNew
abbrev aX7_sheetIsNew (E : m_E) (l : Launch) (d : Nat) (z : Nat × Nat) (pc : Nat) (L : List (Nat × AV)) (st : List AV) (μ : Mm) (ρ : Option AV × Mm) : Prop := AA E l d z RX7 "sheetIsNew" cX7_sheetIsNew 2 none pc L st μ ρ
theorem tX7_sheetIsNew_2b (E : m_E) (l : Launch) (z : Nat × Nat) (k2 : Int → Int → Mm → Option (Mm)) (p2 : ∀ (l0 l1 : Int) (μ : Mm) (t : Mm), m_kd μ l0 = (7, 0) → k2 l0 l1 μ = some t → aX7_sheetIsNew E l 2 z 2 [(0, vr l0), (1, vi l1)] [] μ (rV t)) (N : Nat) (l0 l1 : Int) (μ : Mm) (t : Mm) (hk : m_kd μ l0 = (7, 0)) (h : jX7_sheetIsNew_2b k2 N l0 l1 μ = some t) : aX7_sheetIsNew E l 2 z 2 [(0, vr l0), (1, vi l1)] [] μ (rV t) := by
  unfold jX7_sheetIsNew_2b at h
  refine a_iload_n 1 dX7_sheetIsNew_2 rfl rfl ?_
  refine a_aload_n 0 dX7_sheetIsNew_3 rfl rfl ?_
  refine a_getfr (c := 7) (i := 7) dX7_sheetIsNew_4 fRX7_46 g7_7 rfl hk ?_
  refine a_alen dX7_sheetIsNew_7 h (fun x1 h => ?_)
  refine a_icmp_ge (tgt := 24) dX7_sheetIsNew_8 rfl h (fun h => ?_) (fun h => ?_)
  ·
    refine a_aload_n 0 dX7_sheetIsNew_24 rfl rfl ?_
    refine a_getfr (c := 7) (i := 8) dX7_sheetIsNew_25 fRX7_55 g7_8 rfl hk ?_
    refine m_chk_k h (fun hq8 h => ?_)
    refine a_cVv (c := 2) [] [] dX7_sheetIsNew_28 myX2_forget mRX7_199 mvX2_forget rfl (by decide) hq8 (fun _ hj => tX2_forget E l N (m_gt μ l0 8) μ _ hq8 hj) (by decide) rfl (Nat.le_of_ble_eq_true rfl) h (fun μ1 hm h => ?_)
    have hk := hm.k hk (by decide)
    have hq8 := hm.k hq8 (by decide)
    exact a_ret0 dX7_sheetIsNew_31 h
  ·
    refine a_aload_n 0 dX7_sheetIsNew_11 rfl rfl ?_
    refine a_getfr (c := 7) (i := 7) dX7_sheetIsNew_12 fRX7_46 g7_7 rfl hk ?_
    refine a_iload_n 1 dX7_sheetIsNew_15 rfl rfl ?_
    refine a_iconst dX7_sheetIsNew_16 (okI_b _ rfl) ?_
    refine a_zast (hz := Or.inl rfl) dX7_sheetIsNew_17 h (fun μ2 hm h => ?_)
    have hk := hm.k hk (by decide)
    refine a_iinc (F := fun x2 => [(1, vi x2), (0, vr l0)]) 1 dX7_sheetIsNew_18 rfl (by decide) h (fun _ => rfl) (fun x2 h => ?_)
    refine a_goto (tgt := 2) dX7_sheetIsNew_21 rfl ?_
    exact a_sub [1, 0] rfl (p2 l0 x2 μ2 t hk h)
theorem tX7_sheetIsNew_2 (E : m_E) (l : Launch) (z : Nat × Nat) (N : Nat) : ∀ (n : Nat) (l0 l1 : Int) (μ : Mm) (t : Mm), m_kd μ l0 = (7, 0) → jX7_sheetIsNew_2 N n l0 l1 μ = some t → aX7_sheetIsNew E l 2 z 2 [(0, vr l0), (1, vi l1)] [] μ (rV t)
  | 0, _, _, _, _, _, h => by cases h
  | n + 1, l0, l1, μ, t, hk, h => tX7_sheetIsNew_2b E l z (jX7_sheetIsNew_2 N n) (tX7_sheetIsNew_2 E l z N n) N l0 l1 μ t hk h
theorem tX7_sheetIsNew (E : m_E) (l : Launch) (N : Nat) (l0 : Int) (μ : Mm) (t : Mm) (hk : m_kd μ l0 = (7, 0)) (h : jX7_sheetIsNew N l0 μ = some t) : TT E l 2 yX7_sheetIsNew cX7_sheetIsNew 2 none [vr l0] μ (rV t) := by
  refine tt_of (L := [(0, vr l0)]) (by decide +kernel) (Nat.le_of_ble_eq_true rfl) rfl ?_
  show aX7_sheetIsNew E l 2 (m_sz μ, m_sl μ) 0 [(0, vr l0)] [] μ (rV t)
  unfold jX7_sheetIsNew at h
  refine a_iconst dX7_sheetIsNew_0 (okI_b _ rfl) ?_
  refine a_istore_n (L' := [(1, vi 0), (0, vr l0)]) dX7_sheetIsNew_1 rfl (by decide) rfl ?_
  exact a_sub [1, 0] rfl (tX7_sheetIsNew_2 E l _ N N l0 0 μ t hk h)
-- X7_game
abbrev aX7_game (E : m_E) (l : Launch) (d : Nat) (z : Nat × Nat) (pc : Nat) (L : List (Nat × AV)) (st : List AV) (μ : Mm) (ρ : Option AV × Mm) : Prop := AA E l d z RX7 "game" cX7_game 3 (some .int) pc L st μ ρ
theorem tX7_game (E : m_E) (l : Launch) (N : Nat) (l0 : Int) (μ : Mm) (t : Int × Mm) (hk : m_kd μ l0 = (7, 0)) (h : jX7_game N l0 μ = some t) : TT E l 89 yX7_game cX7_game 3 (some .int) [vr l0] μ (rI t) := by
  refine tt_of (L := [(0, vr l0)]) (by decide +kernel) (Nat.le_of_ble_eq_true rfl) rfl ?_
  show aX7_game E l 89 (m_sz μ, m_sl μ) 0 [(0, vr l0)] [] μ (rI t)
  unfold jX7_game at h
  refine a_aload_n 0 dX7_game_0 rfl rfl ?_
  refine a_getfr (c := 7) (i := 4) dX7_game_1 fRX7_32 g7_4 rfl hk ?_
  refine a_aload_n 0 dX7_game_4 rfl rfl ?_
  refine a_getfr (c := 7) (i := 0) dX7_game_5 fRX7_9 g7_0 rfl hk ?_
  refine a_aload_n 0 dX7_game_8 rfl rfl ?_
  refine a_getfi (c := 7) (i := 1) dX7_game_9 fRX7_13 g7_1 rfl hk ?_
  refine a_aload_n 0 dX7_game_12 rfl rfl ?_
  refine a_getfr (c := 7) (i := 3) dX7_game_13 fRX7_24 g7_3 rfl hk ?_
  refine m_chk_k h (fun hq8 h => ?_)
  refine a_cVi (c := 3) [vr (m_gt μ l0 0), vi (m_gt μ l0 1), vr (m_gt μ l0 3)] [] dX7_game_16 myX3_read mRX7_76 mvX3_read rfl (by decide) hq8 (fun _ hj => tX3_read E l N (m_gt μ l0 4) (m_gt μ l0 0) (m_gt μ l0 1) (m_gt μ l0 3) μ _ hq8 hj) (by decide) rfl (Nat.le_of_ble_eq_true rfl) h (fun x1 μ1 hm h => ?_)
  have hk := hm.k hk (by decide)
  have hq8 := hm.k hq8 (by decide)
  refine a_istore_n (L' := [(1, vi x1), (0, vr l0)]) dX7_game_19 rfl (by decide) rfl ?_
  refine a_aload_n 1 dX7_game_20 rfl rfl ?_
  refine a_iconst dX7_game_21 (okI_b _ rfl) ?_
  refine a_putfi (c := 7) (i := 1) dX7_game_22 fRX7_13 g7_1 (Or.inl rfl) rfl hk h (fun μ2 hm h => ?_)
  have hk := hm.k hk (by decide)
  have hq8 := hm.k hq8 (by decide)
  refine a_iload_n 0 dX7_game_25 rfl rfl ?_
  refine a_if_ne (tgt := 31) dX7_game_26 rfl h (fun h => ?_) (fun h => ?_)
  ·
    refine a_aload_n 1 dX7_game_31 rfl rfl ?_
    refine a_getfr (c := 7) (i := 2) dX7_game_32 fRX7_20 g7_2 rfl hk ?_
    refine a_astore_n (L' := [(2, vr (m_gt μ2 l0 2)), (1, vi x1), (0, vr l0)]) dX7_game_35 rfl (by decide) rfl ?_
    refine a_aload_n 2 dX7_game_36 rfl rfl ?_
    refine a_aload_n 2 dX7_game_37 rfl rfl ?_
    refine a_getfr (c := 7) (i := 3) dX7_game_38 fRX7_24 g7_3 rfl hk ?_
    refine a_putfr (c := 7) (i := 2) dX7_game_41 fRX7_20 g7_2 (Or.inl rfl) rfl hk h (fun μ3 hm h => ?_)
    have hk := hm.k hk (by decide)
    have hq8 := hm.k hq8 (by decide)
    refine a_aload_n 2 dX7_game_44 rfl rfl ?_
    refine a_aload_n 0 dX7_game_45 rfl rfl ?_
    refine a_putfr (c := 7) (i := 3) dX7_game_46 fRX7_24 g7_3 (Or.inl rfl) rfl hk h (fun μ4 hm h => ?_)
    have hk := hm.k hk (by decide)
    have hq8 := hm.k hq8 (by decide)
    refine a_aload_n 2 dX7_game_49 rfl rfl ?_
    refine a_getfr (c := 7) (i := 2) dX7_game_50 fRX7_20 g7_2 rfl hk ?_
    refine m_chk_k h (fun hq37 h => ?_)
    refine a_cVv (c := 1) [] [] dX7_game_53 myX1_settle mRX7_80 mvX1_settle rfl (by decide) hq37 (fun _ hj => tX1_settle E l N (m_gt μ4 l0 2) μ4 _ hq37 hj) (by decide) rfl (Nat.le_of_ble_eq_true rfl) h (fun μ5 hm h => ?_)
    have hk := hm.k hk (by decide)
    have hq8 := hm.k hq8 (by decide)
    have hq37 := hm.k hq37 (by decide)
    refine a_aload_n 2 dX7_game_56 rfl rfl ?_
    refine a_getfr (c := 7) (i := 5) dX7_game_57 fRX7_39 g7_5 rfl hk ?_
    refine a_aload_n 2 dX7_game_60 rfl rfl ?_
    refine a_getfr (c := 7) (i := 2) dX7_game_61 fRX7_20 g7_2 rfl hk ?_
    refine m_chk_k h (fun hq46 h => ?_)
    refine a_cVv (c := 5) [vr (m_gt μ5 l0 2)] [] dX7_game_64 myX5_empty mRX7_83 mvX5_empty rfl (by decide) hq46 (fun _ hj => tX5_empty E l N (m_gt μ5 l0 5) (m_gt μ5 l0 2) μ5 _ hq46 hj) (by decide) rfl (Nat.le_of_ble_eq_true rfl) h (fun μ6 hm h => ?_)
    have hk := hm.k hk (by decide)
    have hq8 := hm.k hq8 (by decide)
    have hq37 := hm.k hq37 (by decide)
    have hq46 := hm.k hq46 (by decide)
    refine a_aload_n 2 dX7_game_67 rfl rfl ?_
    refine a_getfr (c := 7) (i := 9) dX7_game_68 fRX7_62 g7_9 rfl hk ?_
    refine m_chk_k h (fun hq54 h => ?_)
    refine a_cVv (c := 4) [] [] dX7_game_71 myX4_forget mRX7_86 mvX4_forget rfl (by decide) hq54 (fun _ hj => tX4_forget E l N (m_gt μ6 l0 9) μ6 _ hq54 hj) (by decide) rfl (Nat.le_of_ble_eq_true rfl) h (fun μ7 hm h => ?_)
    have hk := hm.k hk (by decide)
    have hq8 := hm.k hq8 (by decide)
    have hq37 := hm.k hq37 (by decide)
    have hq46 := hm.k hq46 (by decide)
    have hq54 := hm.k hq54 (by decide)
    refine a_aload_n 2 dX7_game_74 rfl rfl ?_
    refine a_cVv (c := 7) [] [] dX7_game_75 myX7_sheetIsNew mRX7_89 mvX7_sheetIsNew rfl (by decide) hk (fun _ hj => tX7_sheetIsNew E l N l0 μ7 _ hk hj) (by decide) rfl (Nat.le_of_ble_eq_true rfl) h (fun μ8 hm h => ?_)
    have hk := hm.k hk (by decide)
    have hq8 := hm.k hq8 (by decide)
    have hq37 := hm.k hq37 (by decide)
    have hq46 := hm.k hq46 (by decide)
    have hq54 := hm.k hq54 (by decide)
    refine a_aload_n 2 dX7_game_78 rfl rfl ?_
    refine a_getfr (c := 7) (i := 2) dX7_game_79 fRX7_20 g7_2 rfl hk ?_
    refine m_chk_k h (fun hq70 h => ?_)
    refine a_getfi (c := 1) (i := 0) dX7_game_82 fRX7_92 g1_0 rfl hq70 ?_
    exact a_reti dX7_game_85 h
  ·
    refine a_iconst dX7_game_29 (okI_b _ rfl) ?_
    exact a_reti dX7_game_30 h
-- X7_fault
abbrev aX7_fault (E : m_E) (l : Launch) (d : Nat) (z : Nat × Nat) (pc : Nat) (L : List (Nat × AV)) (st : List AV) (μ : Mm) (ρ : Option AV × Mm) : Prop := AA E l d z RX7 "fault" cX7_fault 2 (some .int) pc L st μ ρ
theorem tX7_fault_28 (E : m_E) (l : Launch) (z : Nat × Nat) (N : Nat) (l0 s0 : Int) (μ : Mm) (t : Int × Mm) (hk : m_kd μ l0 = (7, 0)) (h : jX7_fault_28 N l0 s0 μ = some t) : aX7_fault E l 1 z 28 [(0, vr l0)] [vi s0] μ (rI t) := by
  unfold jX7_fault_28 at h
  exact a_reti dX7_fault_28 h
theorem tX7_fault (E : m_E) (l : Launch) (N : Nat) (l0 l1 : Int) (μ : Mm) (t : Int × Mm) (hk : m_kd μ l0 = (7, 0)) (h : jX7_fault N l0 l1 μ = some t) : TT E l 1 yX7_fault cX7_fault 2 (some .int) [vr l0, vi l1] μ (rI t) := by
  refine tt_of (L := [(0, vr l0), (1, vi l1)]) (by decide +kernel) (Nat.le_of_ble_eq_true rfl) rfl ?_
  show aX7_fault E l 1 (m_sz μ, m_sl μ) 0 [(0, vr l0), (1, vi l1)] [] μ (rI t)
  unfold jX7_fault at h
  refine a_iload_n 1 dX7_fault_0 rfl rfl ?_
  refine a_if_ne (tgt := 12) dX7_fault_1 rfl h (fun h => ?_) (fun h => ?_)
  ·
    refine a_iload_n 1 dX7_fault_12 rfl rfl ?_
    refine a_iconst dX7_fault_13 (okI_b _ rfl) ?_
    refine a_icmp_ne (tgt := 27) dX7_fault_14 rfl h (fun h => ?_) (fun h => ?_)
    ·
      refine a_iconst dX7_fault_27 (okI_b _ rfl) ?_
      exact a_sub [0] rfl (tX7_fault_28 E l _ N l0 (-1) μ t hk h)
    ·
      refine a_aload_n 0 dX7_fault_17 rfl rfl ?_
      refine a_getfr (c := 7) (i := 4) dX7_fault_18 fRX7_32 g7_4 rfl hk ?_
      refine m_chk_k h (fun hq12 h => ?_)
      refine a_getfi (c := 3) (i := 1) dX7_fault_21 fRX7_98 g3_1 rfl hq12 ?_
      refine a_goto (tgt := 28) dX7_fault_24 rfl ?_
      exact a_sub [0] rfl (tX7_fault_28 E l _ N l0 (m_gt μ (m_gt μ l0 4) 1) μ t hk h)
  ·
    refine a_aload_n 0 dX7_fault_4 rfl rfl ?_
    refine a_getfr (c := 7) (i := 4) dX7_fault_5 fRX7_32 g7_4 rfl hk ?_
    refine m_chk_k h (fun hq19 h => ?_)
    refine a_getfi (c := 3) (i := 0) dX7_fault_8 fRX7_95 g3_0 rfl hq19 ?_
    exact a_reti dX7_fault_11 h
-- X7_has
abbrev aX7_has (E : m_E) (l : Launch) (d : Nat) (z : Nat × Nat) (pc : Nat) (L : List (Nat × AV)) (st : List AV) (μ : Mm) (ρ : Option AV × Mm) : Prop := AA E l d z RX7 "has" cX7_has 2 (some .int) pc L st μ ρ
theorem tX7_has (E : m_E) (l : Launch) (N : Nat) (l0 l1 : Int) (μ : Mm) (t : Int × Mm) (hk : m_kd μ l0 = (7, 0)) (h : jX7_has N l0 l1 μ = some t) : TT E l 3 yX7_has cX7_has 2 (some .int) [vr l0, vi l1] μ (rI t) := by
  refine tt_of (L := [(0, vr l0), (1, vi l1)]) (by decide +kernel) (Nat.le_of_ble_eq_true rfl) rfl ?_
  show aX7_has E l 3 (m_sz μ, m_sl μ) 0 [(0, vr l0), (1, vi l1)] [] μ (rI t)
  unfold jX7_has at h
  refine a_iload_n 1 dX7_has_0 rfl rfl ?_
  refine a_cs h (fun hx h => ?_) (fun hx0 h => ?_)
  ·
    refine a_tsI (off := 51) (tgt := 52) dX7_has_1 (by omega) (by omega) (by rw [hx]; rfl) rfl ?_
    refine a_aload_n 0 dX7_has_52 rfl rfl ?_
    refine a_getfr (c := 7) (i := 2) dX7_has_53 fRX7_20 g7_2 rfl hk ?_
    refine m_chk_k h (fun hq6 h => ?_)
    refine a_getfi (c := 1) (i := 1) dX7_has_56 fRX7_101 g1_1 rfl hq6 ?_
    exact a_reti dX7_has_59 h
  refine a_cs h (fun hx h => ?_) (fun hx1 h => ?_)
  ·
    refine a_tsI (off := 59) (tgt := 60) dX7_has_1 (by omega) (by omega) (by rw [hx]; rfl) rfl ?_
    refine a_aload_n 0 dX7_has_60 rfl rfl ?_
    refine a_getfr (c := 7) (i := 2) dX7_has_61 fRX7_20 g7_2 rfl hk ?_
    refine m_chk_k h (fun hq14 h => ?_)
    refine a_getfi (c := 1) (i := 2) dX7_has_64 fRX7_104 g1_2 rfl hq14 ?_
    exact a_reti dX7_has_67 h
  refine a_cs h (fun hx h => ?_) (fun hx2 h => ?_)
  ·
    refine a_tsI (off := 67) (tgt := 68) dX7_has_1 (by omega) (by omega) (by rw [hx]; rfl) rfl ?_
    refine a_aload_n 0 dX7_has_68 rfl rfl ?_
    refine a_getfr (c := 7) (i := 2) dX7_has_69 fRX7_20 g7_2 rfl hk ?_
    refine m_chk_k h (fun hq22 h => ?_)
    refine a_getfi (c := 1) (i := 3) dX7_has_72 fRX7_107 g1_3 rfl hq22 ?_
    exact a_reti dX7_has_75 h
  refine a_cs h (fun hx h => ?_) (fun hx3 h => ?_)
  ·
    refine a_tsI (off := 75) (tgt := 76) dX7_has_1 (by omega) (by omega) (by rw [hx]; rfl) rfl ?_
    refine a_aload_n 0 dX7_has_76 rfl rfl ?_
    refine a_getfr (c := 7) (i := 2) dX7_has_77 fRX7_20 g7_2 rfl hk ?_
    refine m_chk_k h (fun hq30 h => ?_)
    refine a_getfi (c := 1) (i := 4) dX7_has_80 fRX7_110 g1_4 rfl hq30 ?_
    exact a_reti dX7_has_83 h
  refine a_cs h (fun hx h => ?_) (fun hx4 h => ?_)
  ·
    refine a_tsI (off := 83) (tgt := 84) dX7_has_1 (by omega) (by omega) (by rw [hx]; rfl) rfl ?_
    refine a_aload_n 0 dX7_has_84 rfl rfl ?_
    refine a_getfr (c := 7) (i := 2) dX7_has_85 fRX7_20 g7_2 rfl hk ?_
    refine a_iload_n 1 dX7_has_88 rfl rfl ?_
    refine a_iconst dX7_has_89 (okI_b _ rfl) ?_
    refine a_isub dX7_has_90 ?_
    refine m_chk_k h (fun hq41 h => ?_)
    refine a_cVi (c := 1) [vi (i_sub l1 3)] [] dX7_has_91 myX1_earnedBy mRX7_113 mvX1_earnedBy rfl (by decide) hq41 (fun _ hj => tX1_earnedBy E l N (m_gt μ l0 2) (i_sub l1 3) μ _ hq41 hj) (by decide) rfl (Nat.le_of_ble_eq_true rfl) h (fun x1 μ1 hm h => ?_)
    have hk := hm.k hk (by decide)
    have hq41 := hm.k hq41 (by decide)
    exact a_reti dX7_has_94 h
  refine a_cs h (fun hx h => ?_) (fun hx5 h => ?_)
  ·
    refine a_tsI (off := 83) (tgt := 84) dX7_has_1 (by omega) (by omega) (by rw [hx]; rfl) rfl ?_
    refine a_aload_n 0 dX7_has_84 rfl rfl ?_
    refine a_getfr (c := 7) (i := 2) dX7_has_85 fRX7_20 g7_2 rfl hk ?_
    refine a_iload_n 1 dX7_has_88 rfl rfl ?_
    refine a_iconst dX7_has_89 (okI_b _ rfl) ?_
    refine a_isub dX7_has_90 ?_
    refine m_chk_k h (fun hq54 h => ?_)
    refine a_cVi (c := 1) [vi (i_sub l1 3)] [] dX7_has_91 myX1_earnedBy mRX7_113 mvX1_earnedBy rfl (by decide) hq54 (fun _ hj => tX1_earnedBy E l N (m_gt μ l0 2) (i_sub l1 3) μ _ hq54 hj) (by decide) rfl (Nat.le_of_ble_eq_true rfl) h (fun x2 μ2 hm h => ?_)
    have hk := hm.k hk (by decide)
    have hq54 := hm.k hq54 (by decide)
    exact a_reti dX7_has_94 h
  refine a_cs h (fun hx h => ?_) (fun hx6 h => ?_)
  ·
    refine a_tsI (off := 83) (tgt := 84) dX7_has_1 (by omega) (by omega) (by rw [hx]; rfl) rfl ?_
    refine a_aload_n 0 dX7_has_84 rfl rfl ?_
    refine a_getfr (c := 7) (i := 2) dX7_has_85 fRX7_20 g7_2 rfl hk ?_
    refine a_iload_n 1 dX7_has_88 rfl rfl ?_
    refine a_iconst dX7_has_89 (okI_b _ rfl) ?_
    refine a_isub dX7_has_90 ?_
    refine m_chk_k h (fun hq67 h => ?_)
    refine a_cVi (c := 1) [vi (i_sub l1 3)] [] dX7_has_91 myX1_earnedBy mRX7_113 mvX1_earnedBy rfl (by decide) hq67 (fun _ hj => tX1_earnedBy E l N (m_gt μ l0 2) (i_sub l1 3) μ _ hq67 hj) (by decide) rfl (Nat.le_of_ble_eq_true rfl) h (fun x3 μ3 hm h => ?_)
    have hk := hm.k hk (by decide)
    have hq67 := hm.k hq67 (by decide)
    exact a_reti dX7_has_94 h
  refine a_cs h (fun hx h => ?_) (fun hx7 h => ?_)
  ·
    refine a_tsI (off := 94) (tgt := 95) dX7_has_1 (by omega) (by omega) (by rw [hx]; rfl) rfl ?_
    refine a_aload_n 0 dX7_has_95 rfl rfl ?_
    refine a_getfr (c := 7) (i := 2) dX7_has_96 fRX7_20 g7_2 rfl hk ?_
    refine m_chk_k h (fun hq77 h => ?_)
    refine a_getfi (c := 1) (i := 5) dX7_has_99 fRX7_117 g1_5 rfl hq77 ?_
    exact a_reti dX7_has_102 h
  refine a_cs h (fun hx h => ?_) (fun hx8 h => ?_)
  ·
    refine a_tsI (off := 102) (tgt := 103) dX7_has_1 (by omega) (by omega) (by rw [hx]; rfl) rfl ?_
    refine a_aload_n 0 dX7_has_103 rfl rfl ?_
    refine a_getfr (c := 7) (i := 2) dX7_has_104 fRX7_20 g7_2 rfl hk ?_
    refine m_chk_k h (fun hq85 h => ?_)
    refine a_cVi (c := 1) [] [] dX7_has_107 myX1_countJoins mRX7_120 mvX1_countJoins rfl (by decide) hq85 (fun _ hj => tX1_countJoins E l N (m_gt μ l0 2) μ _ hq85 hj) (by decide) rfl (Nat.le_of_ble_eq_true rfl) h (fun x4 μ4 hm h => ?_)
    have hk := hm.k hk (by decide)
    have hq85 := hm.k hq85 (by decide)
    exact a_reti dX7_has_110 h
  refine a_tsO (tgt := 111) dX7_has_1 (by omega) rfl ?_
  refine a_iconst dX7_has_111 (okI_b _ rfl) ?_
  exact a_reti dX7_has_112 h
-- X7_roll
abbrev aX7_roll (E : m_E) (l : Launch) (d : Nat) (z : Nat × Nat) (pc : Nat) (L : List (Nat × AV)) (st : List AV) (μ : Mm) (ρ : Option AV × Mm) : Prop := AA E l d z RX7 "roll" cX7_roll 2 (some .boolean) pc L st μ ρ
theorem tX7_roll (E : m_E) (l : Launch) (N : Nat) (l0 l1 : Int) (μ : Mm) (t : Int × Mm) (hk : m_kd μ l0 = (7, 0)) (h : jX7_roll N l0 l1 μ = some t) : TT E l 4 yX7_roll cX7_roll 2 (some .boolean) [vr l0, vi l1] μ (rI t) := by
  refine tt_of (L := [(0, vr l0), (1, vi l1)]) (by decide +kernel) (Nat.le_of_ble_eq_true rfl) rfl ?_
  show aX7_roll E l 4 (m_sz μ, m_sl μ) 0 [(0, vr l0), (1, vi l1)] [] μ (rI t)
  unfold jX7_roll at h
  refine a_aload_n 0 dX7_roll_0 rfl rfl ?_
  refine a_getfr (c := 7) (i := 5) dX7_roll_1 fRX7_39 g7_5 rfl hk ?_
  refine a_iload_n 1 dX7_roll_4 rfl rfl ?_
  refine m_chk_k h (fun hq3 h => ?_)
  refine a_cVi (c := 5) [vi l1] [] dX7_roll_5 myX5_add mRX7_124 mvX5_add rfl (by decide) hq3 (fun _ hj => tX5_add E l N (m_gt μ l0 5) l1 μ _ hq3 hj) (by decide) rfl (Nat.le_of_ble_eq_true rfl) h (fun x1 μ1 hm h => ?_)
  have hk := hm.k hk (by decide)
  have hq3 := hm.k hq3 (by decide)
  refine a_if_ne (tgt := 13) dX7_roll_8 rfl h (fun h => ?_) (fun h => ?_)
  ·
    refine a_aload_n 0 dX7_roll_13 rfl rfl ?_
    refine a_cVv (c := 7) [] [] dX7_roll_14 myX7_sheetIsNew mRX7_89 mvX7_sheetIsNew rfl (by decide) hk (fun _ hj => tX7_sheetIsNew E l N l0 μ1 _ hk hj) (by decide) rfl (Nat.le_of_ble_eq_true rfl) h (fun μ2 hm h => ?_)
    have hk := hm.k hk (by decide)
    have hq3 := hm.k hq3 (by decide)
    refine a_iconst dX7_roll_17 (okI_b _ rfl) ?_
    exact a_retzl (Or.inr rfl) dX7_roll_18 h
  ·
    refine a_iconst dX7_roll_11 (okI_b _ rfl) ?_
    exact a_retzl (Or.inl rfl) dX7_roll_12 h
-- X7_back
abbrev aX7_back (E : m_E) (l : Launch) (d : Nat) (z : Nat × Nat) (pc : Nat) (L : List (Nat × AV)) (st : List AV) (μ : Mm) (ρ : Option AV × Mm) : Prop := AA E l d z RX7 "back" cX7_back 1 (some .boolean) pc L st μ ρ
theorem tX7_back (E : m_E) (l : Launch) (N : Nat) (l0 : Int) (μ : Mm) (t : Int × Mm) (hk : m_kd μ l0 = (7, 0)) (h : jX7_back N l0 μ = some t) : TT E l 5 yX7_back cX7_back 1 (some .boolean) [vr l0] μ (rI t) := by
  refine tt_of (L := [(0, vr l0)]) (by decide +kernel) (Nat.le_of_ble_eq_true rfl) rfl ?_
  show aX7_back E l 5 (m_sz μ, m_sl μ) 0 [(0, vr l0)] [] μ (rI t)
  unfold jX7_back at h
  refine a_aload_n 0 dX7_back_0 rfl rfl ?_
  refine a_getfr (c := 7) (i := 5) dX7_back_1 fRX7_39 g7_5 rfl hk ?_
  refine m_chk_k h (fun hq2 h => ?_)
  refine a_cVi (c := 5) [] [] dX7_back_4 myX5_takeLast mRX7_128 mvX5_takeLast rfl (by decide) hq2 (fun _ hj => tX5_takeLast E l N (m_gt μ l0 5) μ _ hq2 hj) (by decide) rfl (Nat.le_of_ble_eq_true rfl) h (fun x1 μ1 hm h => ?_)
  have hk := hm.k hk (by decide)
  have hq2 := hm.k hq2 (by decide)
  refine a_if_ne (tgt := 12) dX7_back_7 rfl h (fun h => ?_) (fun h => ?_)
  ·
    refine a_aload_n 0 dX7_back_12 rfl rfl ?_
    refine a_cVv (c := 7) [] [] dX7_back_13 myX7_sheetIsNew mRX7_89 mvX7_sheetIsNew rfl (by decide) hk (fun _ hj => tX7_sheetIsNew E l N l0 μ1 _ hk hj) (by decide) rfl (Nat.le_of_ble_eq_true rfl) h (fun μ2 hm h => ?_)
    have hk := hm.k hk (by decide)
    have hq2 := hm.k hq2 (by decide)
    refine a_iconst dX7_back_16 (okI_b _ rfl) ?_
    exact a_retzl (Or.inr rfl) dX7_back_17 h
  ·
    refine a_iconst dX7_back_10 (okI_b _ rfl) ?_
    exact a_retzl (Or.inl rfl) dX7_back_11 h
-- X7_clear
abbrev aX7_clear (E : m_E) (l : Launch) (d : Nat) (z : Nat × Nat) (pc : Nat) (L : List (Nat × AV)) (st : List AV) (μ : Mm) (ρ : Option AV × Mm) : Prop := AA E l d z RX7 "clear" cX7_clear 2 (some .int) pc L st μ ρ
theorem tX7_clear (E : m_E) (l : Launch) (N : Nat) (l0 : Int) (μ : Mm) (t : Int × Mm) (hk : m_kd μ l0 = (7, 0)) (h : jX7_clear N l0 μ = some t) : TT E l 3 yX7_clear cX7_clear 2 (some .int) [vr l0] μ (rI t) := by
  refine tt_of (L := [(0, vr l0)]) (by decide +kernel) (Nat.le_of_ble_eq_true rfl) rfl ?_
  show aX7_clear E l 3 (m_sz μ, m_sl μ) 0 [(0, vr l0)] [] μ (rI t)
  unfold jX7_clear at h
  refine a_aload_n 0 dX7_clear_0 rfl rfl ?_
  refine a_getfr (c := 7) (i := 5) dX7_clear_1 fRX7_39 g7_5 rfl hk ?_
  refine m_chk_k h (fun hq2 h => ?_)
  refine a_getfi (c := 5) (i := 1) dX7_clear_4 fRX7_132 g5_1 rfl hq2 ?_
  refine a_nmi h (fun x1 h => ?_)
  refine a_istore_n (L' := [(1, vi x1), (0, vr l0)]) dX7_clear_7 rfl (by decide) rfl ?_
  refine a_aload_n 1 dX7_clear_8 rfl rfl ?_
  refine a_getfr (c := 7) (i := 5) dX7_clear_9 fRX7_39 g7_5 rfl hk ?_
  refine a_aload_n 1 dX7_clear_12 rfl rfl ?_
  refine a_getfr (c := 7) (i := 2) dX7_clear_13 fRX7_20 g7_2 rfl hk ?_
  refine a_cVv (c := 5) [vr (m_gt μ l0 2)] [] dX7_clear_16 myX5_empty mRX7_83 mvX5_empty rfl (by decide) hq2 (fun _ hj => tX5_empty E l N (m_gt μ l0 5) (m_gt μ l0 2) μ _ hq2 hj) (by decide) rfl (Nat.le_of_ble_eq_true rfl) h (fun μ1 hm h => ?_)
  have hk := hm.k hk (by decide)
  have hq2 := hm.k hq2 (by decide)
  refine a_aload_n 1 dX7_clear_19 rfl rfl ?_
  refine a_cVv (c := 7) [] [] dX7_clear_20 myX7_sheetIsNew mRX7_89 mvX7_sheetIsNew rfl (by decide) hk (fun _ hj => tX7_sheetIsNew E l N l0 μ1 _ hk hj) (by decide) rfl (Nat.le_of_ble_eq_true rfl) h (fun μ2 hm h => ?_)
  have hk := hm.k hk (by decide)
  have hq2 := hm.k hq2 (by decide)
  refine a_iload_n 0 dX7_clear_23 rfl rfl ?_
  exact a_reti dX7_clear_24 h
-- X7_sheet
abbrev aX7_sheet (E : m_E) (l : Launch) (d : Nat) (z : Nat × Nat) (pc : Nat) (L : List (Nat × AV)) (st : List AV) (μ : Mm) (ρ : Option AV × Mm) : Prop := AA E l d z RX7 "sheet" cX7_sheet 3 (some .int) pc L st μ ρ
theorem tX7_sheet_113 (E : m_E) (l : Launch) (z : Nat × Nat) (N : Nat) (l0 s0 : Int) (μ : Mm) (t : Int × Mm) (hk : m_kd μ l0 = (7, 0)) (h : jX7_sheet_113 N l0 s0 μ = some t) : aX7_sheet E l 3 z 113 [(0, vr l0)] [vi s0] μ (rI t) := by
  unfold jX7_sheet_113 at h
  exact a_reti dX7_sheet_113 h
theorem tX7_sheet_103 (E : m_E) (l : Launch) (z : Nat × Nat) (N : Nat) (l0 s0 : Int) (μ : Mm) (t : Int × Mm) (hk : m_kd μ l0 = (7, 0)) (h : jX7_sheet_103 N l0 s0 μ = some t) : aX7_sheet E l 3 z 103 [(0, vr l0)] [vi s0] μ (rI t) := by
  unfold jX7_sheet_103 at h
  exact a_reti dX7_sheet_103 h
theorem tX7_sheet_87 (E : m_E) (l : Launch) (z : Nat × Nat) (N : Nat) (l0 s0 : Int) (μ : Mm) (t : Int × Mm) (hk : m_kd μ l0 = (7, 0)) (h : jX7_sheet_87 N l0 s0 μ = some t) : aX7_sheet E l 3 z 87 [(0, vr l0)] [vi s0] μ (rI t) := by
  unfold jX7_sheet_87 at h
  exact a_reti dX7_sheet_87 h
theorem tX7_sheet_71 (E : m_E) (l : Launch) (z : Nat × Nat) (N : Nat) (l0 s0 : Int) (μ : Mm) (t : Int × Mm) (hk : m_kd μ l0 = (7, 0)) (h : jX7_sheet_71 N l0 s0 μ = some t) : aX7_sheet E l 3 z 71 [(0, vr l0)] [vi s0] μ (rI t) := by
  unfold jX7_sheet_71 at h
  exact a_reti dX7_sheet_71 h
theorem tX7_sheet (E : m_E) (l : Launch) (N : Nat) (l0 l1 : Int) (μ : Mm) (t : Int × Mm) (hk : m_kd μ l0 = (7, 0)) (h : jX7_sheet N l0 l1 μ = some t) : TT E l 3 yX7_sheet cX7_sheet 3 (some .int) [vr l0, vi l1] μ (rI t) := by
  refine tt_of (L := [(0, vr l0), (1, vi l1)]) (by decide +kernel) (Nat.le_of_ble_eq_true rfl) rfl ?_
  show aX7_sheet E l 3 (m_sz μ, m_sl μ) 0 [(0, vr l0), (1, vi l1)] [] μ (rI t)
  unfold jX7_sheet at h
  refine a_aload_n 0 dX7_sheet_0 rfl rfl ?_
  refine a_getfr (c := 7) (i := 5) dX7_sheet_1 fRX7_39 g7_5 rfl hk ?_
  refine m_chk_k h (fun hq2 h => ?_)
  refine a_cVi (c := 5) [] [] dX7_sheet_4 myX5_isWhole mRX7_135 mvX5_isWhole rfl (by decide) hq2 (fun _ hj => tX5_isWhole E l N (m_gt μ l0 5) μ _ hq2 hj) (by decide) rfl (Nat.le_of_ble_eq_true rfl) h (fun x1 μ1 hm h => ?_)
  have hk := hm.k hk (by decide)
  have hq2 := hm.k hq2 (by decide)
  refine a_istore_n (L' := [(2, vi x1), (0, vr l0), (1, vi l1)]) dX7_sheet_7 rfl (by decide) rfl ?_
  refine a_iload_n 2 dX7_sheet_8 rfl rfl ?_
  refine a_cs h (fun hx h => ?_) (fun hx0 h => ?_)
  ·
    refine a_tsI (off := 39) (tgt := 48) dX7_sheet_9 (by omega) (by omega) (by rw [hx]; rfl) rfl ?_
    refine a_aload_n 1 dX7_sheet_48 rfl rfl ?_
    refine a_getfr (c := 7) (i := 5) dX7_sheet_49 fRX7_39 g7_5 rfl hk ?_
    refine m_chk_k h (fun hq13 h => ?_)
    refine a_getfi (c := 5) (i := 1) dX7_sheet_52 fRX7_132 g5_1 rfl hq13 ?_
    exact a_reti dX7_sheet_55 h
  refine a_cs h (fun hx h => ?_) (fun hx1 h => ?_)
  ·
    refine a_tsI (off := 47) (tgt := 56) dX7_sheet_9 (by omega) (by omega) (by rw [hx]; rfl) rfl ?_
    refine a_iload_n 0 dX7_sheet_56 rfl rfl ?_
    refine a_if_eq (tgt := 64) dX7_sheet_57 rfl h (fun h => ?_) (fun h => ?_)
    ·
      refine a_aload_n 1 dX7_sheet_64 rfl rfl ?_
      refine a_getfr (c := 7) (i := 5) dX7_sheet_65 fRX7_39 g7_5 rfl hk ?_
      refine m_chk_k h (fun hq24 h => ?_)
      refine a_getfi (c := 5) (i := 2) dX7_sheet_68 fRX7_138 g5_2 rfl hq24 ?_
      exact a_sub [1] rfl (tX7_sheet_71 E l _ N l0 (m_gt μ1 (m_gt μ1 l0 5) 2) μ1 t hk h)
    ·
      refine a_iconst dX7_sheet_60 (okI_b _ rfl) ?_
      refine a_goto (tgt := 71) dX7_sheet_61 rfl ?_
      exact a_sub [1] rfl (tX7_sheet_71 E l _ N l0 (-1) μ1 t hk h)
  refine a_cs h (fun hx h => ?_) (fun hx2 h => ?_)
  ·
    refine a_tsI (off := 63) (tgt := 72) dX7_sheet_9 (by omega) (by omega) (by rw [hx]; rfl) rfl ?_
    refine a_iload_n 0 dX7_sheet_72 rfl rfl ?_
    refine a_if_eq (tgt := 80) dX7_sheet_73 rfl h (fun h => ?_) (fun h => ?_)
    ·
      refine a_aload_n 1 dX7_sheet_80 rfl rfl ?_
      refine a_getfr (c := 7) (i := 5) dX7_sheet_81 fRX7_39 g7_5 rfl hk ?_
      refine m_chk_k h (fun hq39 h => ?_)
      refine a_getfi (c := 5) (i := 3) dX7_sheet_84 fRX7_141 g5_3 rfl hq39 ?_
      exact a_sub [1] rfl (tX7_sheet_87 E l _ N l0 (m_gt μ1 (m_gt μ1 l0 5) 3) μ1 t hk h)
    ·
      refine a_iconst dX7_sheet_76 (okI_b _ rfl) ?_
      refine a_goto (tgt := 87) dX7_sheet_77 rfl ?_
      exact a_sub [1] rfl (tX7_sheet_87 E l _ N l0 0 μ1 t hk h)
  refine a_cs h (fun hx h => ?_) (fun hx3 h => ?_)
  ·
    refine a_tsI (off := 79) (tgt := 88) dX7_sheet_9 (by omega) (by omega) (by rw [hx]; rfl) rfl ?_
    refine a_iload_n 0 dX7_sheet_88 rfl rfl ?_
    refine a_if_eq (tgt := 96) dX7_sheet_89 rfl h (fun h => ?_) (fun h => ?_)
    ·
      refine a_aload_n 1 dX7_sheet_96 rfl rfl ?_
      refine a_getfr (c := 7) (i := 5) dX7_sheet_97 fRX7_39 g7_5 rfl hk ?_
      refine m_chk_k h (fun hq54 h => ?_)
      refine a_getfi (c := 5) (i := 4) dX7_sheet_100 fRX7_144 g5_4 rfl hq54 ?_
      exact a_sub [1] rfl (tX7_sheet_103 E l _ N l0 (m_gt μ1 (m_gt μ1 l0 5) 4) μ1 t hk h)
    ·
      refine a_iconst dX7_sheet_92 (okI_b _ rfl) ?_
      refine a_goto (tgt := 103) dX7_sheet_93 rfl ?_
      exact a_sub [1] rfl (tX7_sheet_103 E l _ N l0 0 μ1 t hk h)
  refine a_cs h (fun hx h => ?_) (fun hx4 h => ?_)
  ·
    refine a_tsI (off := 95) (tgt := 104) dX7_sheet_9 (by omega) (by omega) (by rw [hx]; rfl) rfl ?_
    refine a_iload_n 0 dX7_sheet_104 rfl rfl ?_
    refine a_if_eq (tgt := 112) dX7_sheet_105 rfl h (fun h => ?_) (fun h => ?_)
    ·
      refine a_iconst dX7_sheet_112 (okI_b _ rfl) ?_
      exact a_sub [1] rfl (tX7_sheet_113 E l _ N l0 0 μ1 t hk h)
    ·
      refine a_iconst dX7_sheet_108 (okI_b _ rfl) ?_
      refine a_goto (tgt := 113) dX7_sheet_109 rfl ?_
      exact a_sub [1] rfl (tX7_sheet_113 E l _ N l0 1 μ1 t hk h)
  refine a_cs h (fun hx h => ?_) (fun hx5 h => ?_)
  ·
    refine a_tsI (off := 105) (tgt := 114) dX7_sheet_9 (by omega) (by omega) (by rw [hx]; rfl) rfl ?_
    refine a_aload_n 1 dX7_sheet_114 rfl rfl ?_
    refine a_getfr (c := 7) (i := 5) dX7_sheet_115 fRX7_39 g7_5 rfl hk ?_
    refine m_chk_k h (fun hq78 h => ?_)
    refine a_cVi (c := 5) [] [] dX7_sheet_118 myX5_fillsEarned mRX7_147 mvX5_fillsEarned rfl (by decide) hq78 (fun _ hj => tX5_fillsEarned E l N (m_gt μ1 l0 5) μ1 _ hq78 hj) (by decide) rfl (Nat.le_of_ble_eq_true rfl) h (fun x2 μ2 hm h => ?_)
    have hk := hm.k hk (by decide)
    have hq2 := hm.k hq2 (by decide)
    have hq78 := hm.k hq78 (by decide)
    exact a_reti dX7_sheet_121 h
  refine a_tsO (tgt := 122) dX7_sheet_9 (by omega) rfl ?_
  refine a_iconst dX7_sheet_122 (okI_b _ rfl) ?_
  exact a_reti dX7_sheet_123 h
-- X7_rolled
abbrev aX7_rolled (E : m_E) (l : Launch) (d : Nat) (z : Nat × Nat) (pc : Nat) (L : List (Nat × AV)) (st : List AV) (μ : Mm) (ρ : Option AV × Mm) : Prop := AA E l d z RX7 "rolled" cX7_rolled 2 (some .int) pc L st μ ρ
theorem tX7_rolled_27 (E : m_E) (l : Launch) (z : Nat × Nat) (N : Nat) (l0 : Int) (μ : Mm) (t : Int × Mm) (hk : m_kd μ l0 = (7, 0)) (h : jX7_rolled_27 N l0 μ = some t) : aX7_rolled E l 1 z 27 [(0, vr l0)] [] μ (rI t) := by
  unfold jX7_rolled_27 at h
  refine a_iconst dX7_rolled_27 (okI_b _ rfl) ?_
  exact a_reti dX7_rolled_28 h
theorem tX7_rolled (E : m_E) (l : Launch) (N : Nat) (l0 l1 : Int) (μ : Mm) (t : Int × Mm) (hk : m_kd μ l0 = (7, 0)) (h : jX7_rolled N l0 l1 μ = some t) : TT E l 1 yX7_rolled cX7_rolled 2 (some .int) [vr l0, vi l1] μ (rI t) := by
  refine tt_of (L := [(0, vr l0), (1, vi l1)]) (by decide +kernel) (Nat.le_of_ble_eq_true rfl) rfl ?_
  show aX7_rolled E l 1 (m_sz μ, m_sl μ) 0 [(0, vr l0), (1, vi l1)] [] μ (rI t)
  unfold jX7_rolled at h
  refine a_iload_n 1 dX7_rolled_0 rfl rfl ?_
  refine a_if_lt (tgt := 27) dX7_rolled_1 rfl h (fun h => ?_) (fun h => ?_)
  ·
    exact a_sub [0] rfl (tX7_rolled_27 E l _ N l0 μ t hk h)
  ·
    refine a_iload_n 1 dX7_rolled_4 rfl rfl ?_
    refine a_aload_n 0 dX7_rolled_5 rfl rfl ?_
    refine a_getfr (c := 7) (i := 5) dX7_rolled_6 fRX7_39 g7_5 rfl hk ?_
    refine m_chk_k h (fun hq8 h => ?_)
    refine a_getfi (c := 5) (i := 1) dX7_rolled_9 fRX7_132 g5_1 rfl hq8 ?_
    refine a_icmp_ge (tgt := 27) dX7_rolled_12 rfl h (fun h => ?_) (fun h => ?_)
    ·
      exact a_sub [0] rfl (tX7_rolled_27 E l _ N l0 μ t hk h)
    ·
      refine a_iload_n 1 dX7_rolled_15 rfl rfl ?_
      refine a_aload_n 0 dX7_rolled_16 rfl rfl ?_
      refine a_getfr (c := 7) (i := 5) dX7_rolled_17 fRX7_39 g7_5 rfl hk ?_
      refine a_getfr (c := 5) (i := 0) dX7_rolled_20 fRX7_150 g5_0 rfl hq8 ?_
      refine a_alen dX7_rolled_23 h (fun x1 h => ?_)
      refine a_icmp_lt (tgt := 29) dX7_rolled_24 rfl h (fun h => ?_) (fun h => ?_)
      ·
        refine a_aload_n 0 dX7_rolled_29 rfl rfl ?_
        refine a_getfr (c := 7) (i := 5) dX7_rolled_30 fRX7_39 g7_5 rfl hk ?_
        refine a_getfr (c := 5) (i := 0) dX7_rolled_33 fRX7_150 g5_0 rfl hq8 ?_
        refine a_iload_n 1 dX7_rolled_36 rfl rfl ?_
        refine a_iald dX7_rolled_37 h (fun x2 h => ?_)
        exact a_reti dX7_rolled_38 h
      ·
        exact a_sub [0] rfl (tX7_rolled_27 E l _ N l0 μ t hk h)
-- X7_frame
abbrev aX7_frame (E : m_E) (l : Launch) (d : Nat) (z : Nat × Nat) (pc : Nat) (L : List (Nat × AV)) (st : List AV) (μ : Mm) (ρ : Option AV × Mm) : Prop := AA E l d z RX7 "frame" cX7_frame 3 (some .int) pc L st μ ρ
theorem tX7_frame_26 (E : m_E) (l : Launch) (z : Nat × Nat) (N : Nat) (l0 : Int) (μ : Mm) (t : Int × Mm) (hk : m_kd μ l0 = (7, 0)) (h : jX7_frame_26 N l0 μ = some t) : aX7_frame E l 5 z 26 [(0, vr l0)] [] μ (rI t) := by
  unfold jX7_frame_26 at h
  refine a_iconst dX7_frame_26 (okI_b _ rfl) ?_
  exact a_reti dX7_frame_27 h
theorem tX7_frame (E : m_E) (l : Launch) (N : Nat) (l0 l1 l2 : Int) (μ : Mm) (t : Int × Mm) (hk : m_kd μ l0 = (7, 0)) (h : jX7_frame N l0 l1 l2 μ = some t) : TT E l 5 yX7_frame cX7_frame 3 (some .int) [vr l0, vi l1, vi l2] μ (rI t) := by
  refine tt_of (L := [(0, vr l0), (1, vi l1), (2, vi l2)]) (by decide +kernel) (Nat.le_of_ble_eq_true rfl) rfl ?_
  show aX7_frame E l 5 (m_sz μ, m_sl μ) 0 [(0, vr l0), (1, vi l1), (2, vi l2)] [] μ (rI t)
  unfold jX7_frame at h
  refine a_iload_n 1 dX7_frame_0 rfl rfl ?_
  refine a_if_lt (tgt := 26) dX7_frame_1 rfl h (fun h => ?_) (fun h => ?_)
  ·
    exact a_sub [0] rfl (tX7_frame_26 E l _ N l0 μ t hk h)
  ·
    refine a_iload_n 1 dX7_frame_4 rfl rfl ?_
    refine a_aload_n 0 dX7_frame_5 rfl rfl ?_
    refine a_getfr (c := 7) (i := 2) dX7_frame_6 fRX7_20 g7_2 rfl hk ?_
    refine m_chk_k h (fun hq8 h => ?_)
    refine a_getfi (c := 1) (i := 2) dX7_frame_9 fRX7_104 g1_2 rfl hq8 ?_
    refine a_icmp_ge (tgt := 26) dX7_frame_12 rfl h (fun h => ?_) (fun h => ?_)
    ·
      exact a_sub [0] rfl (tX7_frame_26 E l _ N l0 μ t hk h)
    ·
      refine a_aload_n 0 dX7_frame_15 rfl rfl ?_
      refine a_getfr (c := 7) (i := 5) dX7_frame_16 fRX7_39 g7_5 rfl hk ?_
      refine a_iload_n 1 dX7_frame_19 rfl rfl ?_
      refine m_chk_k h (fun hq17 h => ?_)
      refine a_cVi (c := 5) [vi l1] [] dX7_frame_20 myX5_sizeOf mRX7_153 mvX5_sizeOf rfl (by decide) hq17 (fun _ hj => tX5_sizeOf E l N (m_gt μ l0 5) l1 μ _ hq17 hj) (by decide) rfl (Nat.le_of_ble_eq_true rfl) h (fun x1 μ1 hm h => ?_)
      have hk := hm.k hk (by decide)
      have hq8 := hm.k hq8 (by decide)
      have hq17 := hm.k hq17 (by decide)
      refine a_if_ne (tgt := 28) dX7_frame_23 rfl h (fun h => ?_) (fun h => ?_)
      ·
        refine a_iload_n 2 dX7_frame_28 rfl rfl ?_
        refine a_cs h (fun hx h => ?_) (fun hx0 h => ?_)
        ·
          refine a_tsI (off := 31) (tgt := 60) dX7_frame_29 (by omega) (by omega) (by rw [hx]; rfl) rfl ?_
          refine a_aload_n 0 dX7_frame_60 rfl rfl ?_
          refine a_getfr (c := 7) (i := 5) dX7_frame_61 fRX7_39 g7_5 rfl hk ?_
          refine a_iload_n 1 dX7_frame_64 rfl rfl ?_
          refine m_chk_k h (fun hq31 h => ?_)
          refine a_cVi (c := 5) [vi l1] [] dX7_frame_65 myX5_downIn mRX7_156 mvX5_downIn rfl (by decide) hq31 (fun _ hj => tX5_downIn E l N (m_gt μ1 l0 5) l1 μ1 _ hq31 hj) (by decide) rfl (Nat.le_of_ble_eq_true rfl) h (fun x2 μ2 hm h => ?_)
          have hk := hm.k hk (by decide)
          have hq8 := hm.k hq8 (by decide)
          have hq17 := hm.k hq17 (by decide)
          have hq31 := hm.k hq31 (by decide)
          exact a_reti dX7_frame_68 h
        refine a_cs h (fun hx h => ?_) (fun hx1 h => ?_)
        ·
          refine a_tsI (off := 40) (tgt := 69) dX7_frame_29 (by omega) (by omega) (by rw [hx]; rfl) rfl ?_
          refine a_aload_n 0 dX7_frame_69 rfl rfl ?_
          refine a_getfr (c := 7) (i := 5) dX7_frame_70 fRX7_39 g7_5 rfl hk ?_
          refine a_iload_n 1 dX7_frame_73 rfl rfl ?_
          refine m_chk_k h (fun hq44 h => ?_)
          refine a_cVi (c := 5) [vi l1] [] dX7_frame_74 myX5_sizeOf mRX7_153 mvX5_sizeOf rfl (by decide) hq44 (fun _ hj => tX5_sizeOf E l N (m_gt μ1 l0 5) l1 μ1 _ hq44 hj) (by decide) rfl (Nat.le_of_ble_eq_true rfl) h (fun x3 μ3 hm h => ?_)
          have hk := hm.k hk (by decide)
          have hq8 := hm.k hq8 (by decide)
          have hq17 := hm.k hq17 (by decide)
          have hq44 := hm.k hq44 (by decide)
          exact a_reti dX7_frame_77 h
        refine a_cs h (fun hx h => ?_) (fun hx2 h => ?_)
        ·
          refine a_tsI (off := 49) (tgt := 78) dX7_frame_29 (by omega) (by omega) (by rw [hx]; rfl) rfl ?_
          refine a_aload_n 0 dX7_frame_78 rfl rfl ?_
          refine a_getfr (c := 7) (i := 5) dX7_frame_79 fRX7_39 g7_5 rfl hk ?_
          refine a_iload_n 1 dX7_frame_82 rfl rfl ?_
          refine m_chk_k h (fun hq57 h => ?_)
          refine a_cVi (c := 5) [vi l1] [] dX7_frame_83 myX5_cleanBy mRX7_159 mvX5_cleanBy rfl (by decide) hq57 (fun _ hj => tX5_cleanBy E l N (m_gt μ1 l0 5) l1 μ1 _ hq57 hj) (by decide) rfl (Nat.le_of_ble_eq_true rfl) h (fun x4 μ4 hm h => ?_)
          have hk := hm.k hk (by decide)
          have hq8 := hm.k hq8 (by decide)
          have hq17 := hm.k hq17 (by decide)
          have hq57 := hm.k hq57 (by decide)
          exact a_reti dX7_frame_86 h
        refine a_cs h (fun hx h => ?_) (fun hx3 h => ?_)
        ·
          refine a_tsI (off := 58) (tgt := 87) dX7_frame_29 (by omega) (by omega) (by rw [hx]; rfl) rfl ?_
          refine a_aload_n 0 dX7_frame_87 rfl rfl ?_
          refine a_getfr (c := 7) (i := 5) dX7_frame_88 fRX7_39 g7_5 rfl hk ?_
          refine a_iload_n 1 dX7_frame_91 rfl rfl ?_
          refine m_chk_k h (fun hq70 h => ?_)
          refine a_cVi (c := 5) [vi l1] [] dX7_frame_92 myX5_foulsIn mRX7_162 mvX5_foulsIn rfl (by decide) hq70 (fun _ hj => tX5_foulsIn E l N (m_gt μ1 l0 5) l1 μ1 _ hq70 hj) (by decide) rfl (Nat.le_of_ble_eq_true rfl) h (fun x5 μ5 hm h => ?_)
          have hk := hm.k hk (by decide)
          have hq8 := hm.k hq8 (by decide)
          have hq17 := hm.k hq17 (by decide)
          have hq70 := hm.k hq70 (by decide)
          exact a_reti dX7_frame_95 h
        refine a_tsO (tgt := 96) dX7_frame_29 (by omega) rfl ?_
        refine a_iconst dX7_frame_96 (okI_b _ rfl) ?_
        exact a_reti dX7_frame_97 h
      ·
        exact a_sub [0] rfl (tX7_frame_26 E l _ N l0 μ1 t hk h)
-- X7_points
abbrev aX7_points (E : m_E) (l : Launch) (d : Nat) (z : Nat × Nat) (pc : Nat) (L : List (Nat × AV)) (st : List AV) (μ : Mm) (ρ : Option AV × Mm) : Prop := AA E l d z RX7 "points" cX7_points 2 (some .int) pc L st μ ρ
theorem tX7_points_24 (E : m_E) (l : Launch) (z : Nat × Nat) (N : Nat) (l0 s0 : Int) (μ : Mm) (t : Int × Mm) (hk : m_kd μ l0 = (7, 0)) (h : jX7_points_24 N l0 s0 μ = some t) : aX7_points E l 6 z 24 [(0, vr l0)] [vi s0] μ (rI t) := by
  unfold jX7_points_24 at h
  exact a_reti dX7_points_24 h
theorem tX7_points (E : m_E) (l : Launch) (N : Nat) (l0 l1 : Int) (μ : Mm) (t : Int × Mm) (hk : m_kd μ l0 = (7, 0)) (h : jX7_points N l0 l1 μ = some t) : TT E l 6 yX7_points cX7_points 2 (some .int) [vr l0, vi l1] μ (rI t) := by
  refine tt_of (L := [(0, vr l0), (1, vi l1)]) (by decide +kernel) (Nat.le_of_ble_eq_true rfl) rfl ?_
  show aX7_points E l 6 (m_sz μ, m_sl μ) 0 [(0, vr l0), (1, vi l1)] [] μ (rI t)
  unfold jX7_points at h
  refine a_aload_n 0 dX7_points_0 rfl rfl ?_
  refine a_getfr (c := 7) (i := 5) dX7_points_1 fRX7_39 g7_5 rfl hk ?_
  refine a_iload_n 1 dX7_points_4 rfl rfl ?_
  refine m_chk_k h (fun hq3 h => ?_)
  refine a_cVi (c := 5) [vi l1] [] dX7_points_5 myX5_isSettled mRX7_165 mvX5_isSettled rfl (by decide) hq3 (fun _ hj => tX5_isSettled E l N (m_gt μ l0 5) l1 μ _ hq3 hj) (by decide) rfl (Nat.le_of_ble_eq_true rfl) h (fun x1 μ1 hm h => ?_)
  have hk := hm.k hk (by decide)
  have hq3 := hm.k hq3 (by decide)
  refine a_if_eq (tgt := 22) dX7_points_8 rfl h (fun h => ?_) (fun h => ?_)
  ·
    refine a_ldc (x := (-1000000)) dX7_points_22 kRX7_171 ⟨rfl, okI_b _ rfl⟩ ?_
    exact a_sub [0] rfl (tX7_points_24 E l _ N l0 (-1000000) μ1 t hk h)
  ·
    refine a_aload_n 0 dX7_points_11 rfl rfl ?_
    refine a_getfr (c := 7) (i := 5) dX7_points_12 fRX7_39 g7_5 rfl hk ?_
    refine a_iload_n 1 dX7_points_15 rfl rfl ?_
    refine m_chk_k h (fun hq15 h => ?_)
    refine a_cVi (c := 5) [vi l1] [] dX7_points_16 myX5_worthAndTaken mRX7_168 mvX5_worthAndTaken rfl (by decide) hq15 (fun _ hj => tX5_worthAndTaken E l N (m_gt μ1 l0 5) l1 μ1 _ hq15 hj) (by decide) rfl (Nat.le_of_ble_eq_true rfl) h (fun x2 μ2 hm h => ?_)
    have hk := hm.k hk (by decide)
    have hq3 := hm.k hq3 (by decide)
    have hq15 := hm.k hq15 (by decide)
    refine a_goto (tgt := 24) dX7_points_19 rfl ?_
    exact a_sub [0] rfl (tX7_points_24 E l _ N l0 x2 μ2 t hk h)
-- X7_total
abbrev aX7_total (E : m_E) (l : Launch) (d : Nat) (z : Nat × Nat) (pc : Nat) (L : List (Nat × AV)) (st : List AV) (μ : Mm) (ρ : Option AV × Mm) : Prop := AA E l d z RX7 "total" cX7_total 1 (some .int) pc L st μ ρ
theorem tX7_total_22 (E : m_E) (l : Launch) (z : Nat × Nat) (N : Nat) (l0 s0 : Int) (μ : Mm) (t : Int × Mm) (hk : m_kd μ l0 = (7, 0)) (h : jX7_total_22 N l0 s0 μ = some t) : aX7_total E l 7 z 22 [(0, vr l0)] [vi s0] μ (rI t) := by
  unfold jX7_total_22 at h
  exact a_reti dX7_total_22 h
theorem tX7_total (E : m_E) (l : Launch) (N : Nat) (l0 : Int) (μ : Mm) (t : Int × Mm) (hk : m_kd μ l0 = (7, 0)) (h : jX7_total N l0 μ = some t) : TT E l 7 yX7_total cX7_total 1 (some .int) [vr l0] μ (rI t) := by
  refine tt_of (L := [(0, vr l0)]) (by decide +kernel) (Nat.le_of_ble_eq_true rfl) rfl ?_
  show aX7_total E l 7 (m_sz μ, m_sl μ) 0 [(0, vr l0)] [] μ (rI t)
  unfold jX7_total at h
  refine a_aload_n 0 dX7_total_0 rfl rfl ?_
  refine a_getfr (c := 7) (i := 5) dX7_total_1 fRX7_39 g7_5 rfl hk ?_
  refine m_chk_k h (fun hq2 h => ?_)
  refine a_cVi (c := 5) [] [] dX7_total_4 myX5_isWhole mRX7_135 mvX5_isWhole rfl (by decide) hq2 (fun _ hj => tX5_isWhole E l N (m_gt μ l0 5) μ _ hq2 hj) (by decide) rfl (Nat.le_of_ble_eq_true rfl) h (fun x1 μ1 hm h => ?_)
  have hk := hm.k hk (by decide)
  have hq2 := hm.k hq2 (by decide)
  refine a_if_eq (tgt := 20) dX7_total_7 rfl h (fun h => ?_) (fun h => ?_)
  ·
    refine a_ldc (x := (-1000000)) dX7_total_20 kRX7_171 ⟨rfl, okI_b _ rfl⟩ ?_
    exact a_sub [0] rfl (tX7_total_22 E l _ N l0 (-1000000) μ1 t hk h)
  ·
    refine a_aload_n 0 dX7_total_10 rfl rfl ?_
    refine a_getfr (c := 7) (i := 5) dX7_total_11 fRX7_39 g7_5 rfl hk ?_
    refine m_chk_k h (fun hq13 h => ?_)
    refine a_cVi (c := 5) [] [] dX7_total_14 myX5_sumOfFrames mRX7_172 mvX5_sumOfFrames rfl (by decide) hq13 (fun _ hj => tX5_sumOfFrames E l N (m_gt μ1 l0 5) μ1 _ hq13 hj) (by decide) rfl (Nat.le_of_ble_eq_true rfl) h (fun x2 μ2 hm h => ?_)
    have hk := hm.k hk (by decide)
    have hq2 := hm.k hq2 (by decide)
    have hq13 := hm.k hq13 (by decide)
    refine a_goto (tgt := 22) dX7_total_17 rfl ?_
    exact a_sub [0] rfl (tX7_total_22 E l _ N l0 x2 μ2 t hk h)
-- X7_come
abbrev aX7_come (E : m_E) (l : Launch) (d : Nat) (z : Nat × Nat) (pc : Nat) (L : List (Nat × AV)) (st : List AV) (μ : Mm) (ρ : Option AV × Mm) : Prop := AA E l d z RX7 "come" cX7_come 2 (some .int) pc L st μ ρ
theorem tX7_come_33 (E : m_E) (l : Launch) (z : Nat × Nat) (N : Nat) (l0 s0 : Int) (μ : Mm) (t : Int × Mm) (hk : m_kd μ l0 = (7, 0)) (h : jX7_come_33 N l0 s0 μ = some t) : aX7_come E l 26 z 33 [(0, vr l0)] [vi s0] μ (rI t) := by
  unfold jX7_come_33 at h
  exact a_reti dX7_come_33 h
theorem tX7_come (E : m_E) (l : Launch) (N : Nat) (l0 l1 : Int) (μ : Mm) (t : Int × Mm) (hk : m_kd μ l0 = (7, 0)) (h : jX7_come N l0 l1 μ = some t) : TT E l 26 yX7_come cX7_come 2 (some .int) [vr l0, vi l1] μ (rI t) := by
  refine tt_of (L := [(0, vr l0), (1, vi l1)]) (by decide +kernel) (Nat.le_of_ble_eq_true rfl) rfl ?_
  show aX7_come E l 26 (m_sz μ, m_sl μ) 0 [(0, vr l0), (1, vi l1)] [] μ (rI t)
  unfold jX7_come at h
  refine a_aload_n 0 dX7_come_0 rfl rfl ?_
  refine a_getfr (c := 7) (i := 8) dX7_come_1 fRX7_55 g7_8 rfl hk ?_
  refine a_aload_n 0 dX7_come_4 rfl rfl ?_
  refine a_getfr (c := 7) (i := 5) dX7_come_5 fRX7_39 g7_5 rfl hk ?_
  refine a_iconst dX7_come_8 (okI_b _ rfl) ?_
  refine m_chk_k h (fun hq5 h => ?_)
  refine a_cVv (c := 2) [vr (m_gt μ l0 5), vi 1] [] dX7_come_9 myX2_lookAhead mRX7_175 mvX2_lookAhead rfl (by decide) hq5 (fun _ hj => tX2_lookAhead E l N (m_gt μ l0 8) (m_gt μ l0 5) 1 μ _ hq5 hj) (by decide) rfl (Nat.le_of_ble_eq_true rfl) h (fun μ1 hm h => ?_)
  have hk := hm.k hk (by decide)
  have hq5 := hm.k hq5 (by decide)
  refine a_iload_n 1 dX7_come_12 rfl rfl ?_
  refine a_if_eq (tgt := 26) dX7_come_13 rfl h (fun h => ?_) (fun h => ?_)
  ·
    refine a_aload_n 0 dX7_come_26 rfl rfl ?_
    refine a_getfr (c := 7) (i := 8) dX7_come_27 fRX7_55 g7_8 rfl hk ?_
    refine m_chk_k h (fun hq14 h => ?_)
    refine a_cVi (c := 2) [] [] dX7_come_30 myX2_least mRX7_182 mvX2_least rfl (by decide) hq14 (fun _ hj => tX2_least E l N (m_gt μ1 l0 8) μ1 _ hq14 hj) (by decide) rfl (Nat.le_of_ble_eq_true rfl) h (fun x1 μ2 hm h => ?_)
    have hk := hm.k hk (by decide)
    have hq5 := hm.k hq5 (by decide)
    have hq14 := hm.k hq14 (by decide)
    exact a_sub [0] rfl (tX7_come_33 E l _ N l0 x1 μ2 t hk h)
  ·
    refine a_aload_n 0 dX7_come_16 rfl rfl ?_
    refine a_getfr (c := 7) (i := 8) dX7_come_17 fRX7_55 g7_8 rfl hk ?_
    refine m_chk_k h (fun hq23 h => ?_)
    refine a_cVi (c := 2) [] [] dX7_come_20 myX2_greatest mRX7_179 mvX2_greatest rfl (by decide) hq23 (fun _ hj => tX2_greatest E l N (m_gt μ1 l0 8) μ1 _ hq23 hj) (by decide) rfl (Nat.le_of_ble_eq_true rfl) h (fun x2 μ3 hm h => ?_)
    have hk := hm.k hk (by decide)
    have hq5 := hm.k hq5 (by decide)
    have hq23 := hm.k hq23 (by decide)
    refine a_goto (tgt := 33) dX7_come_23 rfl ?_
    exact a_sub [0] rfl (tX7_come_33 E l _ N l0 x2 μ3 t hk h)
-- X7_ways
abbrev aX7_ways (E : m_E) (l : Launch) (d : Nat) (z : Nat × Nat) (pc : Nat) (L : List (Nat × AV)) (st : List AV) (μ : Mm) (ρ : Option AV × Mm) : Prop := AA E l d z RX7 "ways" cX7_ways 3 (some .long) pc L st μ ρ
theorem tX7_ways_35 (E : m_E) (l : Launch) (z : Nat × Nat) (N : Nat) (l0 s0 : Int) (μ : Mm) (t : Int × Mm) (hk : m_kd μ l0 = (7, 0)) (h : jX7_ways_35 N l0 s0 μ = some t) : aX7_ways E l 26 z 35 [(0, vr l0)] [vl s0] μ (rJ t) := by
  unfold jX7_ways_35 at h
  exact a_retl dX7_ways_35 h
theorem tX7_ways (E : m_E) (l : Launch) (N : Nat) (l0 l1 l2 : Int) (μ : Mm) (t : Int × Mm) (hk : m_kd μ l0 = (7, 0)) (h : jX7_ways N l0 l1 l2 μ = some t) : TT E l 26 yX7_ways cX7_ways 3 (some .long) [vr l0, vi l1, vi l2] μ (rJ t) := by
  refine tt_of (L := [(0, vr l0), (1, vi l1), (2, vi l2)]) (by decide +kernel) (Nat.le_of_ble_eq_true rfl) rfl ?_
  show aX7_ways E l 26 (m_sz μ, m_sl μ) 0 [(0, vr l0), (1, vi l1), (2, vi l2)] [] μ (rJ t)
  unfold jX7_ways at h
  refine a_aload_n 0 dX7_ways_0 rfl rfl ?_
  refine a_getfr (c := 7) (i := 8) dX7_ways_1 fRX7_55 g7_8 rfl hk ?_
  refine a_aload_n 0 dX7_ways_4 rfl rfl ?_
  refine a_getfr (c := 7) (i := 5) dX7_ways_5 fRX7_39 g7_5 rfl hk ?_
  refine a_iconst dX7_ways_8 (okI_b _ rfl) ?_
  refine m_chk_k h (fun hq5 h => ?_)
  refine a_cVv (c := 2) [vr (m_gt μ l0 5), vi 1] [] dX7_ways_9 myX2_lookAhead mRX7_175 mvX2_lookAhead rfl (by decide) hq5 (fun _ hj => tX2_lookAhead E l N (m_gt μ l0 8) (m_gt μ l0 5) 1 μ _ hq5 hj) (by decide) rfl (Nat.le_of_ble_eq_true rfl) h (fun μ1 hm h => ?_)
  have hk := hm.k hk (by decide)
  have hq5 := hm.k hq5 (by decide)
  refine a_iload_n 2 dX7_ways_12 rfl rfl ?_
  refine a_if_eq (tgt := 27) dX7_ways_13 rfl h (fun h => ?_) (fun h => ?_)
  ·
    refine a_aload_n 0 dX7_ways_27 rfl rfl ?_
    refine a_getfr (c := 7) (i := 8) dX7_ways_28 fRX7_55 g7_8 rfl hk ?_
    refine a_iload_n 1 dX7_ways_31 rfl rfl ?_
    refine m_chk_k h (fun hq15 h => ?_)
    refine a_cVl (c := 2) [vi l1] [] dX7_ways_32 myX2_at mRX7_189 mvX2_at rfl (by decide) hq15 (fun _ hj => tX2_at E l N (m_gt μ1 l0 8) l1 μ1 _ hq15 hj) (by decide) rfl (Nat.le_of_ble_eq_true rfl) h (fun x1 μ2 hm h => ?_)
    have hk := hm.k hk (by decide)
    have hq5 := hm.k hq5 (by decide)
    have hq15 := hm.k hq15 (by decide)
    exact a_sub [0] rfl (tX7_ways_35 E l _ N l0 x1 μ2 t hk h)
  ·
    refine a_aload_n 0 dX7_ways_16 rfl rfl ?_
    refine a_getfr (c := 7) (i := 8) dX7_ways_17 fRX7_55 g7_8 rfl hk ?_
    refine a_iload_n 1 dX7_ways_20 rfl rfl ?_
    refine m_chk_k h (fun hq25 h => ?_)
    refine a_cVl (c := 2) [vi l1] [] dX7_ways_21 myX2_countFrom mRX7_185 mvX2_countFrom rfl (by decide) hq25 (fun _ hj => tX2_countFrom E l N (m_gt μ1 l0 8) l1 μ1 _ hq25 hj) (by decide) rfl (Nat.le_of_ble_eq_true rfl) h (fun x2 μ3 hm h => ?_)
    have hk := hm.k hk (by decide)
    have hq5 := hm.k hq5 (by decide)
    have hq25 := hm.k hq25 (by decide)
    refine a_goto (tgt := 35) dX7_ways_24 rfl ?_
    exact a_sub [0] rfl (tX7_ways_35 E l _ N l0 x2 μ3 t hk h)
-- X7_needs
abbrev aX7_needs (E : m_E) (l : Launch) (d : Nat) (z : Nat × Nat) (pc : Nat) (L : List (Nat × AV)) (st : List AV) (μ : Mm) (ρ : Option AV × Mm) : Prop := AA E l d z RX7 "needs" cX7_needs 8 (some .int) pc L st μ ρ
theorem tX7_needs_60b (E : m_E) (l : Launch) (z : Nat × Nat) (k60 : Int → Int → Int → Mm → Option (Int × Mm)) (p60 : ∀ (l0 l5 l7 : Int) (μ : Mm) (t : Int × Mm), m_kd μ l0 = (7, 0) → k60 l0 l5 l7 μ = some t → aX7_needs E l 26 z 60 [(0, vr l0), (5, vl l5), (7, vi l7)] [] μ (rI t)) (N : Nat) (l0 l5 l7 : Int) (μ : Mm) (t : Int × Mm) (hk : m_kd μ l0 = (7, 0)) (h : jX7_needs_60b k60 N l0 l5 l7 μ = some t) : aX7_needs E l 26 z 60 [(0, vr l0), (5, vl l5), (7, vi l7)] [] μ (rI t) := by
  unfold jX7_needs_60b at h
  refine a_iload 2 dX7_needs_60 rfl ?_
  refine a_bipush dX7_needs_62 ⟨rfl, okI_b _ rfl⟩ ?_
  refine a_icmp_gt (tgt := 88) dX7_needs_64 rfl h (fun h => ?_) (fun h => ?_)
  ·
    refine a_iconst dX7_needs_88 (okI_b _ rfl) ?_
    exact a_reti dX7_needs_89 h
  ·
    refine a_lload 1 dX7_needs_67 rfl ?_
    refine a_iload 2 dX7_needs_69 rfl ?_
    refine a_lshr dX7_needs_71 ?_
    refine a_lconst (v := 1) dX7_needs_72 ⟨rfl, okJ_b _ rfl⟩ ?_
    refine a_land dX7_needs_73 ?_
    refine a_lconst (v := 1) dX7_needs_74 ⟨rfl, okJ_b _ rfl⟩ ?_
    refine a_lcmp dX7_needs_75 ?_
    refine a_if_ne (tgt := 82) dX7_needs_76 rfl h (fun h => ?_) (fun h => ?_)
    ·
      refine a_iinc (F := fun x1 => [(7, vi x1), (0, vr l0), (5, vl l5)]) 2 dX7_needs_82 rfl (by decide) h (fun _ => rfl) (fun x1 h => ?_)
      refine a_goto (tgt := 60) dX7_needs_85 rfl ?_
      exact a_sub [1, 2, 0] rfl (p60 l0 l5 x1 μ t hk h)
    ·
      refine a_iload 2 dX7_needs_79 rfl ?_
      exact a_reti dX7_needs_81 h
theorem tX7_needs_60 (E : m_E) (l : Launch) (z : Nat × Nat) (N : Nat) : ∀ (n : Nat) (l0 l5 l7 : Int) (μ : Mm) (t : Int × Mm), m_kd μ l0 = (7, 0) → jX7_needs_60 N n l0 l5 l7 μ = some t → aX7_needs E l 26 z 60 [(0, vr l0), (5, vl l5), (7, vi l7)] [] μ (rI t)
  | 0, _, _, _, _, _, _, h => by cases h
  | n + 1, l0, l5, l7, μ, t, hk, h => tX7_needs_60b E l z (jX7_needs_60 N n) (tX7_needs_60 E l z N n) N l0 l5 l7 μ t hk h
theorem tX7_needs_55 (E : m_E) (l : Launch) (z : Nat × Nat) (N : Nat) (l0 s0 : Int) (μ : Mm) (t : Int × Mm) (hk : m_kd μ l0 = (7, 0)) (h : jX7_needs_55 N l0 s0 μ = some t) : aX7_needs E l 26 z 55 [(0, vr l0)] [vl s0] μ (rI t) := by
  unfold jX7_needs_55 at h
  refine a_lstore (L' := [(5, vl s0), (0, vr l0)]) dX7_needs_55 (by decide) rfl ?_
  refine a_iconst dX7_needs_57 (okI_b _ rfl) ?_
  refine a_istore (L' := [(7, vi 0), (5, vl s0), (0, vr l0)]) dX7_needs_58 (by decide) rfl ?_
  exact a_sub [2, 1, 0] rfl (tX7_needs_60 E l _ N N l0 s0 0 μ t hk h)
theorem tX7_needs (E : m_E) (l : Launch) (N : Nat) (l0 l1 l2 : Int) (μ : Mm) (t : Int × Mm) (hk : m_kd μ l0 = (7, 0)) (h : jX7_needs N l0 l1 l2 μ = some t) : TT E l 26 yX7_needs cX7_needs 8 (some .int) [vr l0, vi l1, vi l2] μ (rI t) := by
  refine tt_of (L := [(0, vr l0), (1, vi l1), (2, vi l2)]) (by decide +kernel) (Nat.le_of_ble_eq_true rfl) rfl ?_
  show aX7_needs E l 26 (m_sz μ, m_sl μ) 0 [(0, vr l0), (1, vi l1), (2, vi l2)] [] μ (rI t)
  unfold jX7_needs at h
  refine a_aload_n 0 dX7_needs_0 rfl rfl ?_
  refine a_getfr (c := 7) (i := 5) dX7_needs_1 fRX7_39 g7_5 rfl hk ?_
  refine m_chk_k h (fun hq2 h => ?_)
  refine a_cVi (c := 5) [] [] dX7_needs_4 myX5_isWhole mRX7_135 mvX5_isWhole rfl (by decide) hq2 (fun _ hj => tX5_isWhole E l N (m_gt μ l0 5) μ _ hq2 hj) (by decide) rfl (Nat.le_of_ble_eq_true rfl) h (fun x1 μ1 hm h => ?_)
  have hk := hm.k hk (by decide)
  have hq2 := hm.k hq2 (by decide)
  refine a_if_eq (tgt := 12) dX7_needs_7 rfl h (fun h => ?_) (fun h => ?_)
  ·
    refine a_aload_n 0 dX7_needs_12 rfl rfl ?_
    refine a_getfr (c := 7) (i := 8) dX7_needs_13 fRX7_55 g7_8 rfl hk ?_
    refine a_aload_n 0 dX7_needs_16 rfl rfl ?_
    refine a_getfr (c := 7) (i := 5) dX7_needs_17 fRX7_39 g7_5 rfl hk ?_
    refine a_iconst dX7_needs_20 (okI_b _ rfl) ?_
    refine m_chk_k h (fun hq13 h => ?_)
    refine a_cVv (c := 2) [vr (m_gt μ1 l0 5), vi 0] [] dX7_needs_21 myX2_lookAhead mRX7_175 mvX2_lookAhead rfl (by decide) hq13 (fun _ hj => tX2_lookAhead E l N (m_gt μ1 l0 8) (m_gt μ1 l0 5) 0 μ1 _ hq13 hj) (by decide) rfl (Nat.le_of_ble_eq_true rfl) h (fun μ2 hm h => ?_)
    have hk := hm.k hk (by decide)
    have hq2 := hm.k hq2 (by decide)
    have hq13 := hm.k hq13 (by decide)
    refine a_aload_n 0 dX7_needs_24 rfl rfl ?_
    refine a_getfr (c := 7) (i := 8) dX7_needs_25 fRX7_55 g7_8 rfl hk ?_
    refine a_iload_n 1 dX7_needs_28 rfl rfl ?_
    refine m_chk_k h (fun hq21 h => ?_)
    refine a_cVl (c := 2) [vi l1] [] dX7_needs_29 myX2_marksFrom mRX7_191 mvX2_marksFrom rfl (by decide) hq21 (fun _ hj => tX2_marksFrom E l N (m_gt μ2 l0 8) l1 μ2 _ hq21 hj) (by decide) rfl (Nat.le_of_ble_eq_true rfl) h (fun x2 μ3 hm h => ?_)
    have hk := hm.k hk (by decide)
    have hq2 := hm.k hq2 (by decide)
    have hq13 := hm.k hq13 (by decide)
    have hq21 := hm.k hq21 (by decide)
    refine a_lstore_n (L' := [(3, vl x2), (0, vr l0), (1, vi l1), (2, vi l2)]) dX7_needs_32 rfl (by decide) rfl ?_
    refine a_iload_n 3 dX7_needs_33 rfl rfl ?_
    refine a_if_eq (tgt := 54) dX7_needs_34 rfl h (fun h => ?_) (fun h => ?_)
    ·
      refine a_lload_n 0 dX7_needs_54 rfl rfl ?_
      exact a_sub [1] rfl (tX7_needs_55 E l _ N l0 x2 μ3 t hk h)
    ·
      refine a_lload_n 0 dX7_needs_37 rfl rfl ?_
      refine a_aload_n 1 dX7_needs_38 rfl rfl ?_
      refine a_getfr (c := 7) (i := 8) dX7_needs_39 fRX7_55 g7_8 rfl hk ?_
      refine a_iload_n 2 dX7_needs_42 rfl rfl ?_
      refine m_chk_k h (fun hq38 h => ?_)
      refine a_cVl (c := 2) [vi l1] [vl x2] dX7_needs_43 myX2_marksBelow mRX7_194 mvX2_marksBelow rfl (by decide) hq38 (fun _ hj => tX2_marksBelow E l N (m_gt μ3 l0 8) l1 μ3 _ hq38 hj) (by decide) rfl (Nat.le_of_ble_eq_true rfl) h (fun x3 μ4 hm h => ?_)
      have hk := hm.k hk (by decide)
      have hq2 := hm.k hq2 (by decide)
      have hq13 := hm.k hq13 (by decide)
      have hq21 := hm.k hq21 (by decide)
      have hq38 := hm.k hq38 (by decide)
      refine a_ldc2 (x := (-1)) dX7_needs_46 kRX7_197 ⟨rfl, okJ_b _ rfl⟩ ?_
      refine a_lxor dX7_needs_49 ?_
      refine a_land dX7_needs_50 ?_
      refine a_goto (tgt := 55) dX7_needs_51 rfl ?_
      exact a_sub [1] rfl (tX7_needs_55 E l _ N l0 (l_and x2 (l_xor x3 (-1))) μ4 t hk h)
  ·
    refine a_iconst dX7_needs_10 (okI_b _ rfl) ?_
    exact a_reti dX7_needs_11 h
-- X7_tear
abbrev aX7_tear (E : m_E) (l : Launch) (d : Nat) (z : Nat × Nat) (pc : Nat) (L : List (Nat × AV)) (st : List AV) (μ : Mm) (ρ : Option AV × Mm) : Prop := AA E l d z RX7 "tear" cX7_tear 3 (some .boolean) pc L st μ ρ
theorem tX7_tear_34 (E : m_E) (l : Launch) (z : Nat × Nat) (N : Nat) (l0 : Int) (μ : Mm) (t : Int × Mm) (hk : m_kd μ l0 = (7, 0)) (h : jX7_tear_34 N l0 μ = some t) : aX7_tear E l 2 z 34 [(0, vr l0)] [] μ (rI t) := by
  unfold jX7_tear_34 at h
  refine a_iconst dX7_tear_34 (okI_b _ rfl) ?_
  exact a_retzl (Or.inl rfl) dX7_tear_35 h
theorem tX7_tear (E : m_E) (l : Launch) (N : Nat) (l0 l1 l2 : Int) (μ : Mm) (t : Int × Mm) (hk : m_kd μ l0 = (7, 0)) (h : jX7_tear N l0 l1 l2 μ = some t) : TT E l 2 yX7_tear cX7_tear 3 (some .boolean) [vr l0, vi l1, vi l2] μ (rI t) := by
  refine tt_of (L := [(0, vr l0), (1, vi l1), (2, vi l2)]) (by decide +kernel) (Nat.le_of_ble_eq_true rfl) rfl ?_
  show aX7_tear E l 2 (m_sz μ, m_sl μ) 0 [(0, vr l0), (1, vi l1), (2, vi l2)] [] μ (rI t)
  unfold jX7_tear at h
  refine a_iload_n 1 dX7_tear_0 rfl rfl ?_
  refine a_if_lt (tgt := 34) dX7_tear_1 rfl h (fun h => ?_) (fun h => ?_)
  ·
    exact a_sub [0] rfl (tX7_tear_34 E l _ N l0 μ t hk h)
  ·
    refine a_iload_n 1 dX7_tear_4 rfl rfl ?_
    refine a_aload_n 0 dX7_tear_5 rfl rfl ?_
    refine a_getfr (c := 7) (i := 2) dX7_tear_6 fRX7_20 g7_2 rfl hk ?_
    refine m_chk_k h (fun hq8 h => ?_)
    refine a_getfi (c := 1) (i := 2) dX7_tear_9 fRX7_104 g1_2 rfl hq8 ?_
    refine a_icmp_gt (tgt := 34) dX7_tear_12 rfl h (fun h => ?_) (fun h => ?_)
    ·
      exact a_sub [0] rfl (tX7_tear_34 E l _ N l0 μ t hk h)
    ·
      refine a_iload_n 1 dX7_tear_15 rfl rfl ?_
      refine a_aload_n 0 dX7_tear_16 rfl rfl ?_
      refine a_getfr (c := 7) (i := 7) dX7_tear_17 fRX7_46 g7_7 rfl hk ?_
      refine a_alen dX7_tear_20 h (fun x1 h => ?_)
      refine a_icmp_ge (tgt := 34) dX7_tear_21 rfl h (fun h => ?_) (fun h => ?_)
      ·
        exact a_sub [0] rfl (tX7_tear_34 E l _ N l0 μ t hk h)
      ·
        refine a_aload_n 0 dX7_tear_24 rfl rfl ?_
        refine a_getfr (c := 7) (i := 5) dX7_tear_25 fRX7_39 g7_5 rfl hk ?_
        refine m_chk_k h (fun hq24 h => ?_)
        refine a_cVi (c := 5) [] [] dX7_tear_28 myX5_isWhole mRX7_135 mvX5_isWhole rfl (by decide) hq24 (fun _ hj => tX5_isWhole E l N (m_gt μ l0 5) μ _ hq24 hj) (by decide) rfl (Nat.le_of_ble_eq_true rfl) h (fun x2 μ1 hm h => ?_)
        have hk := hm.k hk (by decide)
        have hq8 := hm.k hq8 (by decide)
        have hq24 := hm.k hq24 (by decide)
        refine a_if_ne (tgt := 36) dX7_tear_31 rfl h (fun h => ?_) (fun h => ?_)
        ·
          refine a_aload_n 0 dX7_tear_36 rfl rfl ?_
          refine a_getfr (c := 7) (i := 7) dX7_tear_37 fRX7_46 g7_7 rfl hk ?_
          refine a_iload_n 1 dX7_tear_40 rfl rfl ?_
          refine a_iload_n 2 dX7_tear_41 rfl rfl ?_
          refine z_k h (fun hz h => ?_)
          refine a_zast (hz := hz) dX7_tear_42 h (fun μ2 hm h => ?_)
          have hk := hm.k hk (by decide)
          have hq8 := hm.k hq8 (by decide)
          have hq24 := hm.k hq24 (by decide)
          refine a_aload_n 0 dX7_tear_43 rfl rfl ?_
          refine a_getfr (c := 7) (i := 8) dX7_tear_44 fRX7_55 g7_8 rfl hk ?_
          refine m_chk_k h (fun hq42 h => ?_)
          refine a_cVv (c := 2) [] [] dX7_tear_47 myX2_forget mRX7_199 mvX2_forget rfl (by decide) hq42 (fun _ hj => tX2_forget E l N (m_gt μ2 l0 8) μ2 _ hq42 hj) (by decide) rfl (Nat.le_of_ble_eq_true rfl) h (fun μ3 hm h => ?_)
          have hk := hm.k hk (by decide)
          have hq8 := hm.k hq8 (by decide)
          have hq24 := hm.k hq24 (by decide)
          have hq42 := hm.k hq42 (by decide)
          refine a_iconst dX7_tear_50 (okI_b _ rfl) ?_
          exact a_retzl (Or.inr rfl) dX7_tear_51 h
        ·
          exact a_sub [0] rfl (tX7_tear_34 E l _ N l0 μ1 t hk h)
-- X7_fits
abbrev aX7_fits (E : m_E) (l : Launch) (d : Nat) (z : Nat × Nat) (pc : Nat) (L : List (Nat × AV)) (st : List AV) (μ : Mm) (ρ : Option AV × Mm) : Prop := AA E l d z RX7 "fits" cX7_fits 3 (some .long) pc L st μ ρ
theorem tX7_fits_55 (E : m_E) (l : Launch) (z : Nat × Nat) (N : Nat) (l0 s0 : Int) (μ : Mm) (t : Int × Mm) (hk : m_kd μ l0 = (7, 0)) (h : jX7_fits_55 N l0 s0 μ = some t) : aX7_fits E l 26 z 55 [(0, vr l0)] [vl s0] μ (rJ t) := by
  unfold jX7_fits_55 at h
  exact a_retl dX7_fits_55 h
theorem tX7_fits (E : m_E) (l : Launch) (N : Nat) (l0 l1 l2 : Int) (μ : Mm) (t : Int × Mm) (hk : m_kd μ l0 = (7, 0)) (h : jX7_fits N l0 l1 l2 μ = some t) : TT E l 26 yX7_fits cX7_fits 3 (some .long) [vr l0, vi l1, vi l2] μ (rJ t) := by
  refine tt_of (L := [(0, vr l0), (1, vi l1), (2, vi l2)]) (by decide +kernel) (Nat.le_of_ble_eq_true rfl) rfl ?_
  show aX7_fits E l 26 (m_sz μ, m_sl μ) 0 [(0, vr l0), (1, vi l1), (2, vi l2)] [] μ (rJ t)
  unfold jX7_fits at h
  refine a_aload_n 0 dX7_fits_0 rfl rfl ?_
  refine a_getfr (c := 7) (i := 5) dX7_fits_1 fRX7_39 g7_5 rfl hk ?_
  refine m_chk_k h (fun hq2 h => ?_)
  refine a_cVi (c := 5) [] [] dX7_fits_4 myX5_isWhole mRX7_135 mvX5_isWhole rfl (by decide) hq2 (fun _ hj => tX5_isWhole E l N (m_gt μ l0 5) μ _ hq2 hj) (by decide) rfl (Nat.le_of_ble_eq_true rfl) h (fun x1 μ1 hm h => ?_)
  have hk := hm.k hk (by decide)
  have hq2 := hm.k hq2 (by decide)
  refine a_if_ne (tgt := 14) dX7_fits_7 rfl h (fun h => ?_) (fun h => ?_)
  ·
    refine a_aload_n 0 dX7_fits_14 rfl rfl ?_
    refine a_getfr (c := 7) (i := 8) dX7_fits_15 fRX7_55 g7_8 rfl hk ?_
    refine a_aload_n 0 dX7_fits_18 rfl rfl ?_
    refine a_getfr (c := 7) (i := 5) dX7_fits_19 fRX7_39 g7_5 rfl hk ?_
    refine a_aload_n 0 dX7_fits_22 rfl rfl ?_
    refine a_getfr (c := 7) (i := 7) dX7_fits_23 fRX7_46 g7_7 rfl hk ?_
    refine a_iconst dX7_fits_26 (okI_b _ rfl) ?_
    refine m_chk_k h (fun hq15 h => ?_)
    refine a_cVv (c := 2) [vr (m_gt μ1 l0 5), vr (m_gt μ1 l0 7), vi (-1)] [] dX7_fits_27 myX2_lookAtTorn mRX7_200 mvX2_lookAtTorn rfl (by decide) hq15 (fun _ hj => tX2_lookAtTorn E l N (m_gt μ1 l0 8) (m_gt μ1 l0 5) (m_gt μ1 l0 7) (-1) μ1 _ hq15 hj) (by decide) rfl (Nat.le_of_ble_eq_true rfl) h (fun μ2 hm h => ?_)
    have hk := hm.k hk (by decide)
    have hq2 := hm.k hq2 (by decide)
    have hq15 := hm.k hq15 (by decide)
    refine a_iload_n 2 dX7_fits_30 rfl rfl ?_
    refine a_if_eq (tgt := 47) dX7_fits_31 rfl h (fun h => ?_) (fun h => ?_)
    ·
      refine a_aload_n 0 dX7_fits_47 rfl rfl ?_
      refine a_getfr (c := 7) (i := 8) dX7_fits_48 fRX7_55 g7_8 rfl hk ?_
      refine a_iload_n 1 dX7_fits_51 rfl rfl ?_
      refine m_chk_k h (fun hq26 h => ?_)
      refine a_cVl (c := 2) [vi l1] [] dX7_fits_52 myX2_at mRX7_189 mvX2_at rfl (by decide) hq26 (fun _ hj => tX2_at E l N (m_gt μ2 l0 8) l1 μ2 _ hq26 hj) (by decide) rfl (Nat.le_of_ble_eq_true rfl) h (fun x2 μ3 hm h => ?_)
      have hk := hm.k hk (by decide)
      have hq2 := hm.k hq2 (by decide)
      have hq15 := hm.k hq15 (by decide)
      have hq26 := hm.k hq26 (by decide)
      exact a_sub [0] rfl (tX7_fits_55 E l _ N l0 x2 μ3 t hk h)
    ·
      refine a_aload_n 0 dX7_fits_34 rfl rfl ?_
      refine a_getfr (c := 7) (i := 8) dX7_fits_35 fRX7_55 g7_8 rfl hk ?_
      refine a_sipush dX7_fits_38 ⟨rfl, okI_b _ rfl⟩ ?_
      refine m_chk_k h (fun hq37 h => ?_)
      refine a_cVl (c := 2) [vi (-400)] [] dX7_fits_41 myX2_countFrom mRX7_185 mvX2_countFrom rfl (by decide) hq37 (fun _ hj => tX2_countFrom E l N (m_gt μ2 l0 8) (-400) μ2 _ hq37 hj) (by decide) rfl (Nat.le_of_ble_eq_true rfl) h (fun x3 μ4 hm h => ?_)
      have hk := hm.k hk (by decide)
      have hq2 := hm.k hq2 (by decide)
      have hq15 := hm.k hq15 (by decide)
      have hq37 := hm.k hq37 (by decide)
      refine a_goto (tgt := 55) dX7_fits_44 rfl ?_
      exact a_sub [0] rfl (tX7_fits_55 E l _ N l0 x3 μ4 t hk h)
  ·
    refine a_ldc2 (x := (-1)) dX7_fits_10 kRX7_197 ⟨rfl, okJ_b _ rfl⟩ ?_
    exact a_retl dX7_fits_13 h
-- X7_must
abbrev aX7_must (E : m_E) (l : Launch) (d : Nat) (z : Nat × Nat) (pc : Nat) (L : List (Nat × AV)) (st : List AV) (μ : Mm) (ρ : Option AV × Mm) : Prop := AA E l d z RX7 "must" cX7_must 4 (some .int) pc L st μ ρ
theorem tX7_must_68 (E : m_E) (l : Launch) (z : Nat × Nat) (N : Nat) (l0 s0 : Int) (μ : Mm) (t : Int × Mm) (hk : m_kd μ l0 = (7, 0)) (h : jX7_must_68 N l0 s0 μ = some t) : aX7_must E l 26 z 68 [(0, vr l0)] [vl s0] μ (rI t) := by
  unfold jX7_must_68 at h
  refine a_l2i dX7_must_68 ?_
  exact a_reti dX7_must_69 h
theorem tX7_must_25 (E : m_E) (l : Launch) (z : Nat × Nat) (N : Nat) (l0 : Int) (μ : Mm) (t : Int × Mm) (hk : m_kd μ l0 = (7, 0)) (h : jX7_must_25 N l0 μ = some t) : aX7_must E l 26 z 25 [(0, vr l0)] [] μ (rI t) := by
  unfold jX7_must_25 at h
  refine a_iconst dX7_must_25 (okI_b _ rfl) ?_
  exact a_reti dX7_must_26 h
theorem tX7_must (E : m_E) (l : Launch) (N : Nat) (l0 l1 l2 l3 : Int) (μ : Mm) (t : Int × Mm) (hk : m_kd μ l0 = (7, 0)) (h : jX7_must N l0 l1 l2 l3 μ = some t) : TT E l 26 yX7_must cX7_must 4 (some .int) [vr l0, vi l1, vi l2, vi l3] μ (rI t) := by
  refine tt_of (L := [(0, vr l0), (1, vi l1), (2, vi l2), (3, vi l3)]) (by decide +kernel) (Nat.le_of_ble_eq_true rfl) rfl ?_
  show aX7_must E l 26 (m_sz μ, m_sl μ) 0 [(0, vr l0), (1, vi l1), (2, vi l2), (3, vi l3)] [] μ (rI t)
  unfold jX7_must at h
  refine a_iload_n 1 dX7_must_0 rfl rfl ?_
  refine a_if_lt (tgt := 25) dX7_must_1 rfl h (fun h => ?_) (fun h => ?_)
  ·
    exact a_sub [0] rfl (tX7_must_25 E l _ N l0 μ t hk h)
  ·
    refine a_iload_n 1 dX7_must_4 rfl rfl ?_
    refine a_aload_n 0 dX7_must_5 rfl rfl ?_
    refine a_getfr (c := 7) (i := 2) dX7_must_6 fRX7_20 g7_2 rfl hk ?_
    refine m_chk_k h (fun hq8 h => ?_)
    refine a_getfi (c := 1) (i := 2) dX7_must_9 fRX7_104 g1_2 rfl hq8 ?_
    refine a_icmp_ge (tgt := 25) dX7_must_12 rfl h (fun h => ?_) (fun h => ?_)
    ·
      exact a_sub [0] rfl (tX7_must_25 E l _ N l0 μ t hk h)
    ·
      refine a_aload_n 0 dX7_must_15 rfl rfl ?_
      refine a_getfr (c := 7) (i := 5) dX7_must_16 fRX7_39 g7_5 rfl hk ?_
      refine m_chk_k h (fun hq16 h => ?_)
      refine a_cVi (c := 5) [] [] dX7_must_19 myX5_isWhole mRX7_135 mvX5_isWhole rfl (by decide) hq16 (fun _ hj => tX5_isWhole E l N (m_gt μ l0 5) μ _ hq16 hj) (by decide) rfl (Nat.le_of_ble_eq_true rfl) h (fun x1 μ1 hm h => ?_)
      have hk := hm.k hk (by decide)
      have hq8 := hm.k hq8 (by decide)
      have hq16 := hm.k hq16 (by decide)
      refine a_if_ne (tgt := 27) dX7_must_22 rfl h (fun h => ?_) (fun h => ?_)
      ·
        refine a_aload_n 0 dX7_must_27 rfl rfl ?_
        refine a_getfr (c := 7) (i := 8) dX7_must_28 fRX7_55 g7_8 rfl hk ?_
        refine a_aload_n 0 dX7_must_31 rfl rfl ?_
        refine a_getfr (c := 7) (i := 5) dX7_must_32 fRX7_39 g7_5 rfl hk ?_
        refine a_aload_n 0 dX7_must_35 rfl rfl ?_
        refine a_getfr (c := 7) (i := 7) dX7_must_36 fRX7_46 g7_7 rfl hk ?_
        refine a_iload_n 1 dX7_must_39 rfl rfl ?_
        refine m_chk_k h (fun hq30 h => ?_)
        refine a_cVv (c := 2) [vr (m_gt μ1 l0 5), vr (m_gt μ1 l0 7), vi l1] [] dX7_must_40 myX2_lookAtTorn mRX7_200 mvX2_lookAtTorn rfl (by decide) hq30 (fun _ hj => tX2_lookAtTorn E l N (m_gt μ1 l0 8) (m_gt μ1 l0 5) (m_gt μ1 l0 7) l1 μ1 _ hq30 hj) (by decide) rfl (Nat.le_of_ble_eq_true rfl) h (fun μ2 hm h => ?_)
        have hk := hm.k hk (by decide)
        have hq8 := hm.k hq8 (by decide)
        have hq16 := hm.k hq16 (by decide)
        have hq30 := hm.k hq30 (by decide)
        refine a_iload_n 3 dX7_must_43 rfl rfl ?_
        refine a_if_eq (tgt := 60) dX7_must_44 rfl h (fun h => ?_) (fun h => ?_)
        ·
          refine a_aload_n 0 dX7_must_60 rfl rfl ?_
          refine a_getfr (c := 7) (i := 8) dX7_must_61 fRX7_55 g7_8 rfl hk ?_
          refine a_iload_n 2 dX7_must_64 rfl rfl ?_
          refine m_chk_k h (fun hq42 h => ?_)
          refine a_cVl (c := 2) [vi l2] [] dX7_must_65 myX2_at mRX7_189 mvX2_at rfl (by decide) hq42 (fun _ hj => tX2_at E l N (m_gt μ2 l0 8) l2 μ2 _ hq42 hj) (by decide) rfl (Nat.le_of_ble_eq_true rfl) h (fun x2 μ3 hm h => ?_)
          have hk := hm.k hk (by decide)
          have hq8 := hm.k hq8 (by decide)
          have hq16 := hm.k hq16 (by decide)
          have hq30 := hm.k hq30 (by decide)
          have hq42 := hm.k hq42 (by decide)
          exact a_sub [0] rfl (tX7_must_68 E l _ N l0 x2 μ3 t hk h)
        ·
          refine a_aload_n 0 dX7_must_47 rfl rfl ?_
          refine a_getfr (c := 7) (i := 8) dX7_must_48 fRX7_55 g7_8 rfl hk ?_
          refine a_sipush dX7_must_51 ⟨rfl, okI_b _ rfl⟩ ?_
          refine m_chk_k h (fun hq54 h => ?_)
          refine a_cVl (c := 2) [vi (-400)] [] dX7_must_54 myX2_marksFrom mRX7_191 mvX2_marksFrom rfl (by decide) hq54 (fun _ hj => tX2_marksFrom E l N (m_gt μ2 l0 8) (-400) μ2 _ hq54 hj) (by decide) rfl (Nat.le_of_ble_eq_true rfl) h (fun x3 μ4 hm h => ?_)
          have hk := hm.k hk (by decide)
          have hq8 := hm.k hq8 (by decide)
          have hq16 := hm.k hq16 (by decide)
          have hq30 := hm.k hq30 (by decide)
          have hq54 := hm.k hq54 (by decide)
          refine a_goto (tgt := 68) dX7_must_57 rfl ?_
          exact a_sub [0] rfl (tX7_must_68 E l _ N l0 x3 μ4 t hk h)
      ·
        exact a_sub [0] rfl (tX7_must_25 E l _ N l0 μ1 t hk h)
-- X7_falls
abbrev aX7_falls (E : m_E) (l : Launch) (d : Nat) (z : Nat × Nat) (pc : Nat) (L : List (Nat × AV)) (st : List AV) (μ : Mm) (ρ : Option AV × Mm) : Prop := AA E l d z RX7 "falls" cX7_falls 3 (some .int) pc L st μ ρ
theorem tX7_falls_52 (E : m_E) (l : Launch) (z : Nat × Nat) (N : Nat) (l0 s0 : Int) (μ : Mm) (t : Int × Mm) (hk : m_kd μ l0 = (7, 0)) (h : jX7_falls_52 N l0 s0 μ = some t) : aX7_falls E l 3 z 52 [(0, vr l0)] [vi s0] μ (rI t) := by
  unfold jX7_falls_52 at h
  exact a_reti dX7_falls_52 h
theorem tX7_falls_51 (E : m_E) (l : Launch) (z : Nat × Nat) (N : Nat) (l0 : Int) (μ : Mm) (t : Int × Mm) (hk : m_kd μ l0 = (7, 0)) (h : jX7_falls_51 N l0 μ = some t) : aX7_falls E l 3 z 51 [(0, vr l0)] [] μ (rI t) := by
  unfold jX7_falls_51 at h
  refine a_iconst dX7_falls_51 (okI_b _ rfl) ?_
  exact a_sub [0] rfl (tX7_falls_52 E l _ N l0 0 μ t hk h)
theorem tX7_falls_26 (E : m_E) (l : Launch) (z : Nat × Nat) (N : Nat) (l0 : Int) (μ : Mm) (t : Int × Mm) (hk : m_kd μ l0 = (7, 0)) (h : jX7_falls_26 N l0 μ = some t) : aX7_falls E l 3 z 26 [(0, vr l0)] [] μ (rI t) := by
  unfold jX7_falls_26 at h
  refine a_iconst dX7_falls_26 (okI_b _ rfl) ?_
  exact a_reti dX7_falls_27 h
theorem tX7_falls (E : m_E) (l : Launch) (N : Nat) (l0 l1 l2 : Int) (μ : Mm) (t : Int × Mm) (hk : m_kd μ l0 = (7, 0)) (h : jX7_falls N l0 l1 l2 μ = some t) : TT E l 3 yX7_falls cX7_falls 3 (some .int) [vr l0, vi l1, vi l2] μ (rI t) := by
  refine tt_of (L := [(0, vr l0), (1, vi l1), (2, vi l2)]) (by decide +kernel) (Nat.le_of_ble_eq_true rfl) rfl ?_
  show aX7_falls E l 3 (m_sz μ, m_sl μ) 0 [(0, vr l0), (1, vi l1), (2, vi l2)] [] μ (rI t)
  unfold jX7_falls at h
  refine a_aload_n 0 dX7_falls_0 rfl rfl ?_
  refine a_getfr (c := 7) (i := 2) dX7_falls_1 fRX7_20 g7_2 rfl hk ?_
  refine a_iload_n 1 dX7_falls_4 rfl rfl ?_
  refine m_chk_k h (fun hq3 h => ?_)
  refine a_cVi (c := 1) [vi l1] [] dX7_falls_5 myX1_hasPins mRX7_204 mvX1_hasPins rfl (by decide) hq3 (fun _ hj => tX1_hasPins E l N (m_gt μ l0 2) l1 μ _ hq3 hj) (by decide) rfl (Nat.le_of_ble_eq_true rfl) h (fun x1 μ1 hm h => ?_)
  have hk := hm.k hk (by decide)
  have hq3 := hm.k hq3 (by decide)
  refine a_if_eq (tgt := 26) dX7_falls_8 rfl h (fun h => ?_) (fun h => ?_)
  ·
    exact a_sub [0] rfl (tX7_falls_26 E l _ N l0 μ1 t hk h)
  ·
    refine a_aload_n 0 dX7_falls_11 rfl rfl ?_
    refine a_getfr (c := 7) (i := 2) dX7_falls_12 fRX7_20 g7_2 rfl hk ?_
    refine a_iload_n 2 dX7_falls_15 rfl rfl ?_
    refine m_chk_k h (fun hq14 h => ?_)
    refine a_cVi (c := 1) [vi l2] [] dX7_falls_16 myX1_hasPins mRX7_204 mvX1_hasPins rfl (by decide) hq14 (fun _ hj => tX1_hasPins E l N (m_gt μ1 l0 2) l2 μ1 _ hq14 hj) (by decide) rfl (Nat.le_of_ble_eq_true rfl) h (fun x2 μ2 hm h => ?_)
    have hk := hm.k hk (by decide)
    have hq3 := hm.k hq3 (by decide)
    have hq14 := hm.k hq14 (by decide)
    refine a_if_eq (tgt := 26) dX7_falls_19 rfl h (fun h => ?_) (fun h => ?_)
    ·
      exact a_sub [0] rfl (tX7_falls_26 E l _ N l0 μ2 t hk h)
    ·
      refine a_iload_n 2 dX7_falls_22 rfl rfl ?_
      refine a_if_ne (tgt := 28) dX7_falls_23 rfl h (fun h => ?_) (fun h => ?_)
      ·
        refine a_iload_n 2 dX7_falls_28 rfl rfl ?_
        refine a_iload_n 1 dX7_falls_29 rfl rfl ?_
        refine a_iconst dX7_falls_30 (okI_b _ rfl) ?_
        refine a_ixor dX7_falls_31 ?_
        refine a_iand dX7_falls_32 ?_
        refine a_if_ne (tgt := 51) dX7_falls_33 rfl h (fun h => ?_) (fun h => ?_)
        ·
          exact a_sub [0] rfl (tX7_falls_51 E l _ N l0 μ2 t hk h)
        ·
          refine a_aload_n 0 dX7_falls_36 rfl rfl ?_
          refine a_getfr (c := 7) (i := 2) dX7_falls_37 fRX7_20 g7_2 rfl hk ?_
          refine a_iload_n 2 dX7_falls_40 rfl rfl ?_
          refine m_chk_k h (fun hq38 h => ?_)
          refine a_cVi (c := 1) [vi l2] [] dX7_falls_41 myX1_hangTogether mRX7_207 mvX1_hangTogether rfl (by decide) hq38 (fun _ hj => tX1_hangTogether E l N (m_gt μ2 l0 2) l2 μ2 _ hq38 hj) (by decide) rfl (Nat.le_of_ble_eq_true rfl) h (fun x3 μ3 hm h => ?_)
          have hk := hm.k hk (by decide)
          have hq3 := hm.k hq3 (by decide)
          have hq14 := hm.k hq14 (by decide)
          have hq38 := hm.k hq38 (by decide)
          refine a_if_eq (tgt := 51) dX7_falls_44 rfl h (fun h => ?_) (fun h => ?_)
          ·
            exact a_sub [0] rfl (tX7_falls_51 E l _ N l0 μ3 t hk h)
          ·
            refine a_iconst dX7_falls_47 (okI_b _ rfl) ?_
            refine a_goto (tgt := 52) dX7_falls_48 rfl ?_
            exact a_sub [0] rfl (tX7_falls_52 E l _ N l0 1 μ3 t hk h)
      ·
        exact a_sub [0] rfl (tX7_falls_26 E l _ N l0 μ2 t hk h)
-- X7_split
abbrev aX7_split (E : m_E) (l : Launch) (d : Nat) (z : Nat × Nat) (pc : Nat) (L : List (Nat × AV)) (st : List AV) (μ : Mm) (ρ : Option AV × Mm) : Prop := AA E l d z RX7 "split" cX7_split 2 (some .int) pc L st μ ρ
theorem tX7_split_33 (E : m_E) (l : Launch) (z : Nat × Nat) (N : Nat) (l0 s0 : Int) (μ : Mm) (t : Int × Mm) (hk : m_kd μ l0 = (7, 0)) (h : jX7_split_33 N l0 s0 μ = some t) : aX7_split E l 3 z 33 [(0, vr l0)] [vi s0] μ (rI t) := by
  unfold jX7_split_33 at h
  exact a_reti dX7_split_33 h
theorem tX7_split_32 (E : m_E) (l : Launch) (z : Nat × Nat) (N : Nat) (l0 : Int) (μ : Mm) (t : Int × Mm) (hk : m_kd μ l0 = (7, 0)) (h : jX7_split_32 N l0 μ = some t) : aX7_split E l 3 z 32 [(0, vr l0)] [] μ (rI t) := by
  unfold jX7_split_32 at h
  refine a_iconst dX7_split_32 (okI_b _ rfl) ?_
  exact a_sub [0] rfl (tX7_split_33 E l _ N l0 0 μ t hk h)
theorem tX7_split (E : m_E) (l : Launch) (N : Nat) (l0 l1 : Int) (μ : Mm) (t : Int × Mm) (hk : m_kd μ l0 = (7, 0)) (h : jX7_split N l0 l1 μ = some t) : TT E l 3 yX7_split cX7_split 2 (some .int) [vr l0, vi l1] μ (rI t) := by
  refine tt_of (L := [(0, vr l0), (1, vi l1)]) (by decide +kernel) (Nat.le_of_ble_eq_true rfl) rfl ?_
  show aX7_split E l 3 (m_sz μ, m_sl μ) 0 [(0, vr l0), (1, vi l1)] [] μ (rI t)
  unfold jX7_split at h
  refine a_aload_n 0 dX7_split_0 rfl rfl ?_
  refine a_getfr (c := 7) (i := 2) dX7_split_1 fRX7_20 g7_2 rfl hk ?_
  refine a_iload_n 1 dX7_split_4 rfl rfl ?_
  refine m_chk_k h (fun hq3 h => ?_)
  refine a_cVi (c := 1) [vi l1] [] dX7_split_5 myX1_hasPins mRX7_204 mvX1_hasPins rfl (by decide) hq3 (fun _ hj => tX1_hasPins E l N (m_gt μ l0 2) l1 μ _ hq3 hj) (by decide) rfl (Nat.le_of_ble_eq_true rfl) h (fun x1 μ1 hm h => ?_)
  have hk := hm.k hk (by decide)
  have hq3 := hm.k hq3 (by decide)
  refine a_if_ne (tgt := 13) dX7_split_8 rfl h (fun h => ?_) (fun h => ?_)
  ·
    refine a_iload_n 1 dX7_split_13 rfl rfl ?_
    refine a_if_eq (tgt := 32) dX7_split_14 rfl h (fun h => ?_) (fun h => ?_)
    ·
      exact a_sub [0] rfl (tX7_split_32 E l _ N l0 μ1 t hk h)
    ·
      refine a_aload_n 0 dX7_split_17 rfl rfl ?_
      refine a_getfr (c := 7) (i := 2) dX7_split_18 fRX7_20 g7_2 rfl hk ?_
      refine a_iload_n 1 dX7_split_21 rfl rfl ?_
      refine m_chk_k h (fun hq17 h => ?_)
      refine a_cVi (c := 1) [vi l1] [] dX7_split_22 myX1_hangTogether mRX7_207 mvX1_hangTogether rfl (by decide) hq17 (fun _ hj => tX1_hangTogether E l N (m_gt μ1 l0 2) l1 μ1 _ hq17 hj) (by decide) rfl (Nat.le_of_ble_eq_true rfl) h (fun x2 μ2 hm h => ?_)
      have hk := hm.k hk (by decide)
      have hq3 := hm.k hq3 (by decide)
      have hq17 := hm.k hq17 (by decide)
      refine a_if_ne (tgt := 32) dX7_split_25 rfl h (fun h => ?_) (fun h => ?_)
      ·
        exact a_sub [0] rfl (tX7_split_32 E l _ N l0 μ2 t hk h)
      ·
        refine a_iconst dX7_split_28 (okI_b _ rfl) ?_
        refine a_goto (tgt := 33) dX7_split_29 rfl ?_
        exact a_sub [0] rfl (tX7_split_33 E l _ N l0 1 μ2 t hk h)
  ·
    refine a_iconst dX7_split_11 (okI_b _ rfl) ?_
    exact a_reti dX7_split_12 h
-- X7_fewest
abbrev aX7_fewest (E : m_E) (l : Launch) (d : Nat) (z : Nat × Nat) (pc : Nat) (L : List (Nat × AV)) (st : List AV) (μ : Mm) (ρ : Option AV × Mm) : Prop := AA E l d z RX7 "fewest" cX7_fewest 2 (some .int) pc L st μ ρ
theorem tX7_fewest_23 (E : m_E) (l : Launch) (z : Nat × Nat) (N : Nat) (l0 s0 : Int) (μ : Mm) (t : Int × Mm) (hk : m_kd μ l0 = (7, 0)) (h : jX7_fewest_23 N l0 s0 μ = some t) : aX7_fewest E l 3 z 23 [(0, vr l0)] [vi s0] μ (rI t) := by
  unfold jX7_fewest_23 at h
  exact a_reti dX7_fewest_23 h
theorem tX7_fewest (E : m_E) (l : Launch) (N : Nat) (l0 l1 : Int) (μ : Mm) (t : Int × Mm) (hk : m_kd μ l0 = (7, 0)) (h : jX7_fewest N l0 l1 μ = some t) : TT E l 3 yX7_fewest cX7_fewest 2 (some .int) [vr l0, vi l1] μ (rI t) := by
  refine tt_of (L := [(0, vr l0), (1, vi l1)]) (by decide +kernel) (Nat.le_of_ble_eq_true rfl) rfl ?_
  show aX7_fewest E l 3 (m_sz μ, m_sl μ) 0 [(0, vr l0), (1, vi l1)] [] μ (rI t)
  unfold jX7_fewest at h
  refine a_aload_n 0 dX7_fewest_0 rfl rfl ?_
  refine a_getfr (c := 7) (i := 2) dX7_fewest_1 fRX7_20 g7_2 rfl hk ?_
  refine a_iload_n 1 dX7_fewest_4 rfl rfl ?_
  refine m_chk_k h (fun hq3 h => ?_)
  refine a_cVi (c := 1) [vi l1] [] dX7_fewest_5 myX1_hasPins mRX7_204 mvX1_hasPins rfl (by decide) hq3 (fun _ hj => tX1_hasPins E l N (m_gt μ l0 2) l1 μ _ hq3 hj) (by decide) rfl (Nat.le_of_ble_eq_true rfl) h (fun x1 μ1 hm h => ?_)
  have hk := hm.k hk (by decide)
  have hq3 := hm.k hq3 (by decide)
  refine a_if_eq (tgt := 22) dX7_fewest_8 rfl h (fun h => ?_) (fun h => ?_)
  ·
    refine a_iconst dX7_fewest_22 (okI_b _ rfl) ?_
    exact a_sub [0] rfl (tX7_fewest_23 E l _ N l0 (-1) μ1 t hk h)
  ·
    refine a_aload_n 0 dX7_fewest_11 rfl rfl ?_
    refine a_getfr (c := 7) (i := 2) dX7_fewest_12 fRX7_20 g7_2 rfl hk ?_
    refine a_iload_n 1 dX7_fewest_15 rfl rfl ?_
    refine m_chk_k h (fun hq15 h => ?_)
    refine a_cVi (c := 1) [vi l1] [] dX7_fewest_16 myX1_countClusters mRX7_210 mvX1_countClusters rfl (by decide) hq15 (fun _ hj => tX1_countClusters E l N (m_gt μ1 l0 2) l1 μ1 _ hq15 hj) (by decide) rfl (Nat.le_of_ble_eq_true rfl) h (fun x2 μ2 hm h => ?_)
    have hk := hm.k hk (by decide)
    have hq3 := hm.k hq3 (by decide)
    have hq15 := hm.k hq15 (by decide)
    refine a_goto (tgt := 23) dX7_fewest_19 rfl ?_
    exact a_sub [0] rfl (tX7_fewest_23 E l _ N l0 x2 μ2 t hk h)
-- X7_leaves
abbrev aX7_leaves (E : m_E) (l : Launch) (d : Nat) (z : Nat × Nat) (pc : Nat) (L : List (Nat × AV)) (st : List AV) (μ : Mm) (ρ : Option AV × Mm) : Prop := AA E l d z RX7 "leaves" cX7_leaves 2 (some .int) pc L st μ ρ
theorem tX7_leaves_23 (E : m_E) (l : Launch) (z : Nat × Nat) (N : Nat) (l0 s0 : Int) (μ : Mm) (t : Int × Mm) (hk : m_kd μ l0 = (7, 0)) (h : jX7_leaves_23 N l0 s0 μ = some t) : aX7_leaves E l 4 z 23 [(0, vr l0)] [vi s0] μ (rI t) := by
  unfold jX7_leaves_23 at h
  exact a_reti dX7_leaves_23 h
theorem tX7_leaves (E : m_E) (l : Launch) (N : Nat) (l0 l1 : Int) (μ : Mm) (t : Int × Mm) (hk : m_kd μ l0 = (7, 0)) (h : jX7_leaves N l0 l1 μ = some t) : TT E l 4 yX7_leaves cX7_leaves 2 (some .int) [vr l0, vi l1] μ (rI t) := by
  refine tt_of (L := [(0, vr l0), (1, vi l1)]) (by decide +kernel) (Nat.le_of_ble_eq_true rfl) rfl ?_
  show aX7_leaves E l 4 (m_sz μ, m_sl μ) 0 [(0, vr l0), (1, vi l1)] [] μ (rI t)
  unfold jX7_leaves at h
  refine a_aload_n 0 dX7_leaves_0 rfl rfl ?_
  refine a_getfr (c := 7) (i := 2) dX7_leaves_1 fRX7_20 g7_2 rfl hk ?_
  refine a_iload_n 1 dX7_leaves_4 rfl rfl ?_
  refine m_chk_k h (fun hq3 h => ?_)
  refine a_cVi (c := 1) [vi l1] [] dX7_leaves_5 myX1_hasPins mRX7_204 mvX1_hasPins rfl (by decide) hq3 (fun _ hj => tX1_hasPins E l N (m_gt μ l0 2) l1 μ _ hq3 hj) (by decide) rfl (Nat.le_of_ble_eq_true rfl) h (fun x1 μ1 hm h => ?_)
  have hk := hm.k hk (by decide)
  have hq3 := hm.k hq3 (by decide)
  refine a_if_eq (tgt := 22) dX7_leaves_8 rfl h (fun h => ?_) (fun h => ?_)
  ·
    refine a_iconst dX7_leaves_22 (okI_b _ rfl) ?_
    exact a_sub [0] rfl (tX7_leaves_23 E l _ N l0 (-1) μ1 t hk h)
  ·
    refine a_aload_n 0 dX7_leaves_11 rfl rfl ?_
    refine a_getfr (c := 7) (i := 2) dX7_leaves_12 fRX7_20 g7_2 rfl hk ?_
    refine a_iload_n 1 dX7_leaves_15 rfl rfl ?_
    refine m_chk_k h (fun hq15 h => ?_)
    refine a_cVi (c := 1) [vi l1] [] dX7_leaves_16 myX1_countFalls mRX7_213 mvX1_countFalls rfl (by decide) hq15 (fun _ hj => tX1_countFalls E l N (m_gt μ1 l0 2) l1 μ1 _ hq15 hj) (by decide) rfl (Nat.le_of_ble_eq_true rfl) h (fun x2 μ2 hm h => ?_)
    have hk := hm.k hk (by decide)
    have hq3 := hm.k hq3 (by decide)
    have hq15 := hm.k hq15 (by decide)
    refine a_goto (tgt := 23) dX7_leaves_19 rfl ?_
    exact a_sub [0] rfl (tX7_leaves_23 E l _ N l0 x2 μ2 t hk h)
-- X7_keep
abbrev aX7_keep (E : m_E) (l : Launch) (d : Nat) (z : Nat × Nat) (pc : Nat) (L : List (Nat × AV)) (st : List AV) (μ : Mm) (ρ : Option AV × Mm) : Prop := AA E l d z RX7 "keep" cX7_keep 2 (some .int) pc L st μ ρ
theorem tX7_keep_21 (E : m_E) (l : Launch) (z : Nat × Nat) (N : Nat) (l0 : Int) (μ : Mm) (t : Int × Mm) (hk : m_kd μ l0 = (7, 0)) (h : jX7_keep_21 N l0 μ = some t) : aX7_keep E l 7 z 21 [(0, vr l0)] [] μ (rI t) := by
  unfold jX7_keep_21 at h
  refine a_iconst dX7_keep_21 (okI_b _ rfl) ?_
  exact a_reti dX7_keep_22 h
theorem tX7_keep (E : m_E) (l : Launch) (N : Nat) (l0 l1 : Int) (μ : Mm) (t : Int × Mm) (hk : m_kd μ l0 = (7, 0)) (h : jX7_keep N l0 l1 μ = some t) : TT E l 7 yX7_keep cX7_keep 2 (some .int) [vr l0, vi l1] μ (rI t) := by
  refine tt_of (L := [(0, vr l0), (1, vi l1)]) (by decide +kernel) (Nat.le_of_ble_eq_true rfl) rfl ?_
  show aX7_keep E l 7 (m_sz μ, m_sl μ) 0 [(0, vr l0), (1, vi l1)] [] μ (rI t)
  unfold jX7_keep at h
  refine a_aload_n 0 dX7_keep_0 rfl rfl ?_
  refine a_getfr (c := 7) (i := 9) dX7_keep_1 fRX7_62 g7_9 rfl hk ?_
  refine a_iload_n 1 dX7_keep_4 rfl rfl ?_
  refine m_chk_k h (fun hq3 h => ?_)
  refine a_cVi (c := 4) [vi l1] [] dX7_keep_5 myX4_knows mRX7_216 mvX4_knows rfl (by decide) hq3 (fun _ hj => tX4_knows E l N (m_gt μ l0 9) l1 μ _ hq3 hj) (by decide) rfl (Nat.le_of_ble_eq_true rfl) h (fun x1 μ1 hm h => ?_)
  have hk := hm.k hk (by decide)
  have hq3 := hm.k hq3 (by decide)
  refine a_if_eq (tgt := 21) dX7_keep_8 rfl h (fun h => ?_) (fun h => ?_)
  ·
    exact a_sub [0] rfl (tX7_keep_21 E l _ N l0 μ1 t hk h)
  ·
    refine a_aload_n 0 dX7_keep_11 rfl rfl ?_
    refine a_getfr (c := 7) (i := 5) dX7_keep_12 fRX7_39 g7_5 rfl hk ?_
    refine m_chk_k h (fun hq13 h => ?_)
    refine a_cVi (c := 5) [] [] dX7_keep_15 myX5_isWhole mRX7_135 mvX5_isWhole rfl (by decide) hq13 (fun _ hj => tX5_isWhole E l N (m_gt μ1 l0 5) μ1 _ hq13 hj) (by decide) rfl (Nat.le_of_ble_eq_true rfl) h (fun x2 μ2 hm h => ?_)
    have hk := hm.k hk (by decide)
    have hq3 := hm.k hq3 (by decide)
    have hq13 := hm.k hq13 (by decide)
    refine a_if_ne (tgt := 23) dX7_keep_18 rfl h (fun h => ?_) (fun h => ?_)
    ·
      refine a_aload_n 0 dX7_keep_23 rfl rfl ?_
      refine a_getfr (c := 7) (i := 9) dX7_keep_24 fRX7_62 g7_9 rfl hk ?_
      refine a_iload_n 1 dX7_keep_27 rfl rfl ?_
      refine a_aload_n 0 dX7_keep_28 rfl rfl ?_
      refine a_getfr (c := 7) (i := 5) dX7_keep_29 fRX7_39 g7_5 rfl hk ?_
      refine m_chk_k h (fun hq25 h => ?_)
      refine a_cVi (c := 5) [] [vi l1, vr (m_gt μ2 l0 9)] dX7_keep_32 myX5_sumOfFrames mRX7_172 mvX5_sumOfFrames rfl (by decide) hq25 (fun _ hj => tX5_sumOfFrames E l N (m_gt μ2 l0 5) μ2 _ hq25 hj) (by decide) rfl (Nat.le_of_ble_eq_true rfl) h (fun x3 μ3 hm h => ?_)
      have hk := hm.k hk (by decide)
      have hq3 := hm.k hq3 (by decide)
      have hq13 := hm.k hq13 (by decide)
      have hq25 := hm.k hq25 (by decide)
      refine m_chk_k h (fun hq31 h => ?_)
      refine a_cVi (c := 4) [vi l1, vi x3] [] dX7_keep_35 myX4_add mRX7_219 mvX4_add rfl (by decide) hq31 (fun _ hj => tX4_add E l N (m_gt μ2 l0 9) l1 x3 μ3 _ hq31 hj) (by decide) rfl (Nat.le_of_ble_eq_true rfl) h (fun x4 μ4 hm h => ?_)
      have hk := hm.k hk (by decide)
      have hq3 := hm.k hq3 (by decide)
      have hq13 := hm.k hq13 (by decide)
      have hq25 := hm.k hq25 (by decide)
      have hq31 := hm.k hq31 (by decide)
      exact a_reti dX7_keep_38 h
    ·
      exact a_sub [0] rfl (tX7_keep_21 E l _ N l0 μ2 t hk h)
-- X7_player
abbrev aX7_player (E : m_E) (l : Launch) (d : Nat) (z : Nat × Nat) (pc : Nat) (L : List (Nat × AV)) (st : List AV) (μ : Mm) (ρ : Option AV × Mm) : Prop := AA E l d z RX7 "player" cX7_player 3 (some .int) pc L st μ ρ
theorem tX7_player (E : m_E) (l : Launch) (N : Nat) (l0 l1 l2 : Int) (μ : Mm) (t : Int × Mm) (hk : m_kd μ l0 = (7, 0)) (h : jX7_player N l0 l1 l2 μ = some t) : TT E l 8 yX7_player cX7_player 3 (some .int) [vr l0, vi l1, vi l2] μ (rI t) := by
  refine tt_of (L := [(0, vr l0), (1, vi l1), (2, vi l2)]) (by decide +kernel) (Nat.le_of_ble_eq_true rfl) rfl ?_
  show aX7_player E l 8 (m_sz μ, m_sl μ) 0 [(0, vr l0), (1, vi l1), (2, vi l2)] [] μ (rI t)
  unfold jX7_player at h
  refine a_aload_n 0 dX7_player_0 rfl rfl ?_
  refine a_getfr (c := 7) (i := 9) dX7_player_1 fRX7_62 g7_9 rfl hk ?_
  refine a_iload_n 1 dX7_player_4 rfl rfl ?_
  refine m_chk_k h (fun hq3 h => ?_)
  refine a_cVi (c := 4) [vi l1] [] dX7_player_5 myX4_knows mRX7_216 mvX4_knows rfl (by decide) hq3 (fun _ hj => tX4_knows E l N (m_gt μ l0 9) l1 μ _ hq3 hj) (by decide) rfl (Nat.le_of_ble_eq_true rfl) h (fun x1 μ1 hm h => ?_)
  have hk := hm.k hk (by decide)
  have hq3 := hm.k hq3 (by decide)
  refine a_if_ne (tgt := 14) dX7_player_8 rfl h (fun h => ?_) (fun h => ?_)
  ·
    refine a_aload_n 0 dX7_player_14 rfl rfl ?_
    refine a_getfr (c := 7) (i := 9) dX7_player_15 fRX7_62 g7_9 rfl hk ?_
    refine a_aload_n 0 dX7_player_18 rfl rfl ?_
    refine a_getfr (c := 7) (i := 2) dX7_player_19 fRX7_20 g7_2 rfl hk ?_
    refine m_chk_k h (fun hq13 h => ?_)
    refine a_cVv (c := 4) [vr (m_gt μ1 l0 2)] [] dX7_player_22 myX4_setHandicaps mRX7_222 mvX4_setHandicaps rfl (by decide) hq13 (fun _ hj => tX4_setHandicaps E l N (m_gt μ1 l0 9) (m_gt μ1 l0 2) μ1 _ hq13 hj) (by decide) rfl (Nat.le_of_ble_eq_true rfl) h (fun μ2 hm h => ?_)
    have hk := hm.k hk (by decide)
    have hq3 := hm.k hq3 (by decide)
    have hq13 := hm.k hq13 (by decide)
    refine a_iload_n 2 dX7_player_25 rfl rfl ?_
    refine a_cs h (fun hx h => ?_) (fun hx0 h => ?_)
    ·
      refine a_tsI (off := 38) (tgt := 64) dX7_player_26 (by omega) (by omega) (by rw [hx]; rfl) rfl ?_
      refine a_aload_n 0 dX7_player_64 rfl rfl ?_
      refine a_getfr (c := 7) (i := 9) dX7_player_65 fRX7_62 g7_9 rfl hk ?_
      refine a_iload_n 1 dX7_player_68 rfl rfl ?_
      refine m_chk_k h (fun hq25 h => ?_)
      refine a_cVi (c := 4) [vi l1] [] dX7_player_69 myX4_gamesOf mRX7_225 mvX4_gamesOf rfl (by decide) hq25 (fun _ hj => tX4_gamesOf E l N (m_gt μ2 l0 9) l1 μ2 _ hq25 hj) (by decide) rfl (Nat.le_of_ble_eq_true rfl) h (fun x2 μ3 hm h => ?_)
      have hk := hm.k hk (by decide)
      have hq3 := hm.k hq3 (by decide)
      have hq13 := hm.k hq13 (by decide)
      have hq25 := hm.k hq25 (by decide)
      exact a_reti dX7_player_72 h
    refine a_cs h (fun hx h => ?_) (fun hx1 h => ?_)
    ·
      refine a_tsI (off := 47) (tgt := 73) dX7_player_26 (by omega) (by omega) (by rw [hx]; rfl) rfl ?_
      refine a_aload_n 0 dX7_player_73 rfl rfl ?_
      refine a_getfr (c := 7) (i := 9) dX7_player_74 fRX7_62 g7_9 rfl hk ?_
      refine a_iload_n 1 dX7_player_77 rfl rfl ?_
      refine m_chk_k h (fun hq38 h => ?_)
      refine a_cVi (c := 4) [vi l1] [] dX7_player_78 myX4_sumOf mRX7_228 mvX4_sumOf rfl (by decide) hq38 (fun _ hj => tX4_sumOf E l N (m_gt μ2 l0 9) l1 μ2 _ hq38 hj) (by decide) rfl (Nat.le_of_ble_eq_true rfl) h (fun x3 μ4 hm h => ?_)
      have hk := hm.k hk (by decide)
      have hq3 := hm.k hq3 (by decide)
      have hq13 := hm.k hq13 (by decide)
      have hq38 := hm.k hq38 (by decide)
      exact a_reti dX7_player_81 h
    refine a_cs h (fun hx h => ?_) (fun hx2 h => ?_)
    ·
      refine a_tsI (off := 56) (tgt := 82) dX7_player_26 (by omega) (by omega) (by rw [hx]; rfl) rfl ?_
      refine a_aload_n 0 dX7_player_82 rfl rfl ?_
      refine a_getfr (c := 7) (i := 9) dX7_player_83 fRX7_62 g7_9 rfl hk ?_
      refine a_iload_n 1 dX7_player_86 rfl rfl ?_
      refine m_chk_k h (fun hq51 h => ?_)
      refine a_cVi (c := 4) [vi l1] [] dX7_player_87 myX4_meanOf mRX7_231 mvX4_meanOf rfl (by decide) hq51 (fun _ hj => tX4_meanOf E l N (m_gt μ2 l0 9) l1 μ2 _ hq51 hj) (by decide) rfl (Nat.le_of_ble_eq_true rfl) h (fun x4 μ5 hm h => ?_)
      have hk := hm.k hk (by decide)
      have hq3 := hm.k hq3 (by decide)
      have hq13 := hm.k hq13 (by decide)
      have hq51 := hm.k hq51 (by decide)
      exact a_reti dX7_player_90 h
    refine a_cs h (fun hx h => ?_) (fun hx3 h => ?_)
    ·
      refine a_tsI (off := 65) (tgt := 91) dX7_player_26 (by omega) (by omega) (by rw [hx]; rfl) rfl ?_
      refine a_aload_n 0 dX7_player_91 rfl rfl ?_
      refine a_getfr (c := 7) (i := 9) dX7_player_92 fRX7_62 g7_9 rfl hk ?_
      refine a_iload_n 1 dX7_player_95 rfl rfl ?_
      refine m_chk_k h (fun hq64 h => ?_)
      refine a_cVi (c := 4) [vi l1] [] dX7_player_96 myX4_handicapOf mRX7_234 mvX4_handicapOf rfl (by decide) hq64 (fun _ hj => tX4_handicapOf E l N (m_gt μ2 l0 9) l1 μ2 _ hq64 hj) (by decide) rfl (Nat.le_of_ble_eq_true rfl) h (fun x5 μ6 hm h => ?_)
      have hk := hm.k hk (by decide)
      have hq3 := hm.k hq3 (by decide)
      have hq13 := hm.k hq13 (by decide)
      have hq64 := hm.k hq64 (by decide)
      exact a_reti dX7_player_99 h
    refine a_cs h (fun hx h => ?_) (fun hx4 h => ?_)
    ·
      refine a_tsI (off := 74) (tgt := 100) dX7_player_26 (by omega) (by omega) (by rw [hx]; rfl) rfl ?_
      refine a_aload_n 0 dX7_player_100 rfl rfl ?_
      refine a_getfr (c := 7) (i := 9) dX7_player_101 fRX7_62 g7_9 rfl hk ?_
      refine a_iload_n 1 dX7_player_104 rfl rfl ?_
      refine m_chk_k h (fun hq77 h => ?_)
      refine a_cVi (c := 4) [vi l1] [] dX7_player_105 myX4_bestOf mRX7_237 mvX4_bestOf rfl (by decide) hq77 (fun _ hj => tX4_bestOf E l N (m_gt μ2 l0 9) l1 μ2 _ hq77 hj) (by decide) rfl (Nat.le_of_ble_eq_true rfl) h (fun x6 μ7 hm h => ?_)
      have hk := hm.k hk (by decide)
      have hq3 := hm.k hq3 (by decide)
      have hq13 := hm.k hq13 (by decide)
      have hq77 := hm.k hq77 (by decide)
      exact a_reti dX7_player_108 h
    refine a_cs h (fun hx h => ?_) (fun hx5 h => ?_)
    ·
      refine a_tsI (off := 83) (tgt := 109) dX7_player_26 (by omega) (by omega) (by rw [hx]; rfl) rfl ?_
      refine a_aload_n 0 dX7_player_109 rfl rfl ?_
      refine a_getfr (c := 7) (i := 9) dX7_player_110 fRX7_62 g7_9 rfl hk ?_
      refine a_iload_n 1 dX7_player_113 rfl rfl ?_
      refine m_chk_k h (fun hq90 h => ?_)
      refine a_cVi (c := 4) [vi l1] [] dX7_player_114 myX4_gathered mRX7_240 mvX4_gathered rfl (by decide) hq90 (fun _ hj => tX4_gathered E l N (m_gt μ2 l0 9) l1 μ2 _ hq90 hj) (by decide) rfl (Nat.le_of_ble_eq_true rfl) h (fun x7 μ8 hm h => ?_)
      have hk := hm.k hk (by decide)
      have hq3 := hm.k hq3 (by decide)
      have hq13 := hm.k hq13 (by decide)
      have hq90 := hm.k hq90 (by decide)
      exact a_reti dX7_player_117 h
    refine a_tsO (tgt := 118) dX7_player_26 (by omega) rfl ?_
    refine a_ldc (x := (-1000000)) dX7_player_118 kRX7_171 ⟨rfl, okI_b _ rfl⟩ ?_
    exact a_reti dX7_player_120 h
  ·
    refine a_ldc (x := (-1000000)) dX7_player_11 kRX7_171 ⟨rfl, okI_b _ rfl⟩ ?_
    exact a_reti dX7_player_13 h
-- X7_meet
abbrev aX7_meet (E : m_E) (l : Launch) (d : Nat) (z : Nat × Nat) (pc : Nat) (L : List (Nat × AV)) (st : List AV) (μ : Mm) (ρ : Option AV × Mm) : Prop := AA E l d z RX7 "meet" cX7_meet 3 (some .int) pc L st μ ρ
theorem tX7_meet_27 (E : m_E) (l : Launch) (z : Nat × Nat) (N : Nat) (l0 : Int) (μ : Mm) (t : Int × Mm) (hk : m_kd μ l0 = (7, 0)) (h : jX7_meet_27 N l0 μ = some t) : aX7_meet E l 8 z 27 [(0, vr l0)] [] μ (rI t) := by
  unfold jX7_meet_27 at h
  refine a_iconst dX7_meet_27 (okI_b _ rfl) ?_
  exact a_reti dX7_meet_28 h
theorem tX7_meet (E : m_E) (l : Launch) (N : Nat) (l0 l1 l2 : Int) (μ : Mm) (t : Int × Mm) (hk : m_kd μ l0 = (7, 0)) (h : jX7_meet N l0 l1 l2 μ = some t) : TT E l 8 yX7_meet cX7_meet 3 (some .int) [vr l0, vi l1, vi l2] μ (rI t) := by
  refine tt_of (L := [(0, vr l0), (1, vi l1), (2, vi l2)]) (by decide +kernel) (Nat.le_of_ble_eq_true rfl) rfl ?_
  show aX7_meet E l 8 (m_sz μ, m_sl μ) 0 [(0, vr l0), (1, vi l1), (2, vi l2)] [] μ (rI t)
  unfold jX7_meet at h
  refine a_aload_n 0 dX7_meet_0 rfl rfl ?_
  refine a_getfr (c := 7) (i := 9) dX7_meet_1 fRX7_62 g7_9 rfl hk ?_
  refine a_iload_n 1 dX7_meet_4 rfl rfl ?_
  refine m_chk_k h (fun hq3 h => ?_)
  refine a_cVi (c := 4) [vi l1] [] dX7_meet_5 myX4_knows mRX7_216 mvX4_knows rfl (by decide) hq3 (fun _ hj => tX4_knows E l N (m_gt μ l0 9) l1 μ _ hq3 hj) (by decide) rfl (Nat.le_of_ble_eq_true rfl) h (fun x1 μ1 hm h => ?_)
  have hk := hm.k hk (by decide)
  have hq3 := hm.k hq3 (by decide)
  refine a_if_eq (tgt := 27) dX7_meet_8 rfl h (fun h => ?_) (fun h => ?_)
  ·
    exact a_sub [0] rfl (tX7_meet_27 E l _ N l0 μ1 t hk h)
  ·
    refine a_aload_n 0 dX7_meet_11 rfl rfl ?_
    refine a_getfr (c := 7) (i := 9) dX7_meet_12 fRX7_62 g7_9 rfl hk ?_
    refine a_iload_n 2 dX7_meet_15 rfl rfl ?_
    refine m_chk_k h (fun hq14 h => ?_)
    refine a_cVi (c := 4) [vi l2] [] dX7_meet_16 myX4_knows mRX7_216 mvX4_knows rfl (by decide) hq14 (fun _ hj => tX4_knows E l N (m_gt μ1 l0 9) l2 μ1 _ hq14 hj) (by decide) rfl (Nat.le_of_ble_eq_true rfl) h (fun x2 μ2 hm h => ?_)
    have hk := hm.k hk (by decide)
    have hq3 := hm.k hq3 (by decide)
    have hq14 := hm.k hq14 (by decide)
    refine a_if_eq (tgt := 27) dX7_meet_19 rfl h (fun h => ?_) (fun h => ?_)
    ·
      exact a_sub [0] rfl (tX7_meet_27 E l _ N l0 μ2 t hk h)
    ·
      refine a_iload_n 1 dX7_meet_22 rfl rfl ?_
      refine a_iload_n 2 dX7_meet_23 rfl rfl ?_
      refine a_icmp_ne (tgt := 29) dX7_meet_24 rfl h (fun h => ?_) (fun h => ?_)
      ·
        refine a_aload_n 0 dX7_meet_29 rfl rfl ?_
        refine a_getfr (c := 7) (i := 9) dX7_meet_30 fRX7_62 g7_9 rfl hk ?_
        refine a_aload_n 0 dX7_meet_33 rfl rfl ?_
        refine a_getfr (c := 7) (i := 2) dX7_meet_34 fRX7_20 g7_2 rfl hk ?_
        refine m_chk_k h (fun hq31 h => ?_)
        refine a_cVv (c := 4) [vr (m_gt μ2 l0 2)] [] dX7_meet_37 myX4_setHandicaps mRX7_222 mvX4_setHandicaps rfl (by decide) hq31 (fun _ hj => tX4_setHandicaps E l N (m_gt μ2 l0 9) (m_gt μ2 l0 2) μ2 _ hq31 hj) (by decide) rfl (Nat.le_of_ble_eq_true rfl) h (fun μ3 hm h => ?_)
        have hk := hm.k hk (by decide)
        have hq3 := hm.k hq3 (by decide)
        have hq14 := hm.k hq14 (by decide)
        have hq31 := hm.k hq31 (by decide)
        refine a_aload_n 0 dX7_meet_40 rfl rfl ?_
        refine a_getfr (c := 7) (i := 9) dX7_meet_41 fRX7_62 g7_9 rfl hk ?_
        refine a_iload_n 1 dX7_meet_44 rfl rfl ?_
        refine a_iload_n 2 dX7_meet_45 rfl rfl ?_
        refine m_chk_k h (fun hq41 h => ?_)
        refine a_cVi (c := 4) [vi l1, vi l2] [] dX7_meet_46 myX4_meeting mRX7_243 mvX4_meeting rfl (by decide) hq41 (fun _ hj => tX4_meeting E l N (m_gt μ3 l0 9) l1 l2 μ3 _ hq41 hj) (by decide) rfl (Nat.le_of_ble_eq_true rfl) h (fun x3 μ4 hm h => ?_)
        have hk := hm.k hk (by decide)
        have hq3 := hm.k hq3 (by decide)
        have hq14 := hm.k hq14 (by decide)
        have hq31 := hm.k hq31 (by decide)
        have hq41 := hm.k hq41 (by decide)
        exact a_reti dX7_meet_49 h
      ·
        exact a_sub [0] rfl (tX7_meet_27 E l _ N l0 μ2 t hk h)
-- X7_place
abbrev aX7_place (E : m_E) (l : Launch) (d : Nat) (z : Nat × Nat) (pc : Nat) (L : List (Nat × AV)) (st : List AV) (μ : Mm) (ρ : Option AV × Mm) : Prop := AA E l d z RX7 "place" cX7_place 2 (some .int) pc L st μ ρ
theorem tX7_place (E : m_E) (l : Launch) (N : Nat) (l0 l1 : Int) (μ : Mm) (t : Int × Mm) (hk : m_kd μ l0 = (7, 0)) (h : jX7_place N l0 l1 μ = some t) : TT E l 8 yX7_place cX7_place 2 (some .int) [vr l0, vi l1] μ (rI t) := by
  refine tt_of (L := [(0, vr l0), (1, vi l1)]) (by decide +kernel) (Nat.le_of_ble_eq_true rfl) rfl ?_
  show aX7_place E l 8 (m_sz μ, m_sl μ) 0 [(0, vr l0), (1, vi l1)] [] μ (rI t)
  unfold jX7_place at h
  refine a_aload_n 0 dX7_place_0 rfl rfl ?_
  refine a_getfr (c := 7) (i := 9) dX7_place_1 fRX7_62 g7_9 rfl hk ?_
  refine a_iload_n 1 dX7_place_4 rfl rfl ?_
  refine m_chk_k h (fun hq3 h => ?_)
  refine a_cVi (c := 4) [vi l1] [] dX7_place_5 myX4_knows mRX7_216 mvX4_knows rfl (by decide) hq3 (fun _ hj => tX4_knows E l N (m_gt μ l0 9) l1 μ _ hq3 hj) (by decide) rfl (Nat.le_of_ble_eq_true rfl) h (fun x1 μ1 hm h => ?_)
  have hk := hm.k hk (by decide)
  have hq3 := hm.k hq3 (by decide)
  refine a_if_ne (tgt := 13) dX7_place_8 rfl h (fun h => ?_) (fun h => ?_)
  ·
    refine a_aload_n 0 dX7_place_13 rfl rfl ?_
    refine a_getfr (c := 7) (i := 9) dX7_place_14 fRX7_62 g7_9 rfl hk ?_
    refine a_aload_n 0 dX7_place_17 rfl rfl ?_
    refine a_getfr (c := 7) (i := 2) dX7_place_18 fRX7_20 g7_2 rfl hk ?_
    refine m_chk_k h (fun hq13 h => ?_)
    refine a_cVv (c := 4) [vr (m_gt μ1 l0 2)] [] dX7_place_21 myX4_setHandicaps mRX7_222 mvX4_setHandicaps rfl (by decide) hq13 (fun _ hj => tX4_setHandicaps E l N (m_gt μ1 l0 9) (m_gt μ1 l0 2) μ1 _ hq13 hj) (by decide) rfl (Nat.le_of_ble_eq_true rfl) h (fun μ2 hm h => ?_)
    have hk := hm.k hk (by decide)
    have hq3 := hm.k hq3 (by decide)
    have hq13 := hm.k hq13 (by decide)
    refine a_aload_n 0 dX7_place_24 rfl rfl ?_
    refine a_getfr (c := 7) (i := 9) dX7_place_25 fRX7_62 g7_9 rfl hk ?_
    refine a_iload_n 1 dX7_place_28 rfl rfl ?_
    refine m_chk_k h (fun hq21 h => ?_)
    refine a_cVi (c := 4) [vi l1] [] dX7_place_29 myX4_countAhead mRX7_246 mvX4_countAhead rfl (by decide) hq21 (fun _ hj => tX4_countAhead E l N (m_gt μ2 l0 9) l1 μ2 _ hq21 hj) (by decide) rfl (Nat.le_of_ble_eq_true rfl) h (fun x2 μ3 hm h => ?_)
    have hk := hm.k hk (by decide)
    have hq3 := hm.k hq3 (by decide)
    have hq13 := hm.k hq13 (by decide)
    have hq21 := hm.k hq21 (by decide)
    exact a_reti dX7_place_32 h
  ·
    refine a_iconst dX7_place_11 (okI_b _ rfl) ?_
    exact a_reti dX7_place_12 h
-- X7_checkByte
abbrev aX7_checkByte (E : m_E) (l : Launch) (d : Nat) (z : Nat × Nat) (pc : Nat) (L : List (Nat × AV)) (st : List AV) (μ : Mm) (ρ : Option AV × Mm) : Prop := AA E l d z RX7 "checkByte" cX7_checkByte 4 (some .int) pc L st μ ρ
theorem tX7_checkByte_35 (E : m_E) (l : Launch) (z : Nat × Nat) (N : Nat) (l2 : Int) (μ : Mm) (t : Int × Mm) (h : jX7_checkByte_35 N l2 μ = some t) : aX7_checkByte E l 1 z 35 [(2, vi l2)] [] μ (rI t) := by
  unfold jX7_checkByte_35 at h
  refine a_iload_n 0 dX7_checkByte_35 rfl rfl ?_
  exact a_reti dX7_checkByte_36 h
theorem tX7_checkByte_5b (E : m_E) (l : Launch) (z : Nat × Nat) (k5 : Int → Int → Int → Int → Mm → Option (Int × Mm)) (p5 : ∀ (l0 l1 l2 l3 : Int) (μ : Mm) (t : Int × Mm), k5 l0 l1 l2 l3 μ = some t → aX7_checkByte E l 1 z 5 [(0, vr l0), (1, vi l1), (2, vi l2), (3, vi l3)] [] μ (rI t)) (N : Nat) (l0 l1 l2 l3 : Int) (μ : Mm) (t : Int × Mm) (h : jX7_checkByte_5b k5 N l0 l1 l2 l3 μ = some t) : aX7_checkByte E l 1 z 5 [(0, vr l0), (1, vi l1), (2, vi l2), (3, vi l3)] [] μ (rI t) := by
  unfold jX7_checkByte_5b at h
  refine a_iload_n 3 dX7_checkByte_5 rfl rfl ?_
  refine a_iload_n 1 dX7_checkByte_6 rfl rfl ?_
  refine a_icmp_ge (tgt := 35) dX7_checkByte_7 rfl h (fun h => ?_) (fun h => ?_)
  ·
    exact a_sub [2] rfl (tX7_checkByte_35 E l _ N l2 μ t h)
  ·
    refine a_iload_n 3 dX7_checkByte_10 rfl rfl ?_
    refine a_aload_n 0 dX7_checkByte_11 rfl rfl ?_
    refine a_alen dX7_checkByte_12 h (fun x1 h => ?_)
    refine a_icmp_ge (tgt := 35) dX7_checkByte_13 rfl h (fun h => ?_) (fun h => ?_)
    ·
      exact a_sub [2] rfl (tX7_checkByte_35 E l _ N l2 μ t h)
    ·
      refine a_bipush dX7_checkByte_16 ⟨rfl, okI_b _ rfl⟩ ?_
      refine a_iload_n 2 dX7_checkByte_18 rfl rfl ?_
      refine a_imul dX7_checkByte_19 ?_
      refine a_aload_n 0 dX7_checkByte_20 rfl rfl ?_
      refine a_iload_n 3 dX7_checkByte_21 rfl rfl ?_
      refine a_iald dX7_checkByte_22 h (fun x2 h => ?_)
      refine a_iadd dX7_checkByte_23 ?_
      refine a_sipush dX7_checkByte_24 ⟨rfl, okI_b _ rfl⟩ ?_
      refine a_iremn (by decide) dX7_checkByte_27 ?_
      refine a_nmi h (fun x3 h => ?_)
      refine a_istore_n (L' := [(2, vi x3), (0, vr l0), (1, vi l1), (3, vi l3)]) dX7_checkByte_28 rfl (by decide) rfl ?_
      refine a_iinc (F := fun x4 => [(3, vi x4), (2, vi x3), (0, vr l0), (1, vi l1)]) 3 dX7_checkByte_29 rfl (by decide) h (fun _ => rfl) (fun x4 h => ?_)
      refine a_goto (tgt := 5) dX7_checkByte_32 rfl ?_
      exact a_sub [2, 3, 1, 0] rfl (p5 l0 l1 x3 x4 μ t h)
theorem tX7_checkByte_5 (E : m_E) (l : Launch) (z : Nat × Nat) (N : Nat) : ∀ (n : Nat) (l0 l1 l2 l3 : Int) (μ : Mm) (t : Int × Mm), jX7_checkByte_5 N n l0 l1 l2 l3 μ = some t → aX7_checkByte E l 1 z 5 [(0, vr l0), (1, vi l1), (2, vi l2), (3, vi l3)] [] μ (rI t)
  | 0, _, _, _, _, _, _, h => by cases h
  | n + 1, l0, l1, l2, l3, μ, t, h => tX7_checkByte_5b E l z (jX7_checkByte_5 N n) (tX7_checkByte_5 E l z N n) N l0 l1 l2 l3 μ t h
theorem tX7_checkByte (E : m_E) (l : Launch) (N : Nat) (l0 l1 : Int) (μ : Mm) (t : Int × Mm) (h : jX7_checkByte N l0 l1 μ = some t) : TT E l 1 yX7_checkByte cX7_checkByte 4 (some .int) [vr l0, vi l1] μ (rI t) := by
  refine tt_of (L := [(0, vr l0), (1, vi l1)]) (by decide +kernel) (Nat.le_of_ble_eq_true rfl) rfl ?_
  show aX7_checkByte E l 1 (m_sz μ, m_sl μ) 0 [(0, vr l0), (1, vi l1)] [] μ (rI t)
  unfold jX7_checkByte at h
  refine a_bipush dX7_checkByte_0 ⟨rfl, okI_b _ rfl⟩ ?_
  refine a_istore_n (L' := [(2, vi 11), (0, vr l0), (1, vi l1)]) dX7_checkByte_2 rfl (by decide) rfl ?_
  refine a_iconst dX7_checkByte_3 (okI_b _ rfl) ?_
  refine a_istore_n (L' := [(3, vi 0), (2, vi 11), (0, vr l0), (1, vi l1)]) dX7_checkByte_4 rfl (by decide) rfl ?_
  exact a_sub [2, 3, 1, 0] rfl (tX7_checkByte_5 E l _ N N l0 l1 11 0 μ t h)
-- X7_image
abbrev aX7_image (E : m_E) (l : Launch) (d : Nat) (z : Nat × Nat) (pc : Nat) (L : List (Nat × AV)) (st : List AV) (μ : Mm) (ρ : Option AV × Mm) : Prop := AA E l d z RX7 "image" cX7_image 3 (some .int) pc L st μ ρ
theorem tX7_image_64 (E : m_E) (l : Launch) (z : Nat × Nat) (k23 : Int → Int → Int → Mm → Option (Int × Mm)) (p23 : ∀ (l0 l1 l2 : Int) (μ : Mm) (t : Int × Mm), m_kd μ l0 = (7, 0) → k23 l0 l1 l2 μ = some t → aX7_image E l 3 z 23 [(0, vr l0), (1, vi l1), (2, vi l2)] [] μ (rI t)) (N : Nat) (l0 l1 l2 s0 s1 s2 : Int) (μ : Mm) (t : Int × Mm) (hk : m_kd μ l0 = (7, 0)) (h : jX7_image_64 k23 N l0 l1 l2 s0 s1 s2 μ = some t) : aX7_image E l 3 z 64 [(0, vr l0), (1, vi l1), (2, vi l2)] [vi s0, vi s1, vr s2] μ (rI t) := by
  unfold jX7_image_64 at h
  refine a_iast dX7_image_64 h (fun μ1 hm h => ?_)
  have hk := hm.k hk (by decide)
  refine a_iinc (F := fun x1 => [(2, vi x1), (0, vr l0), (1, vi l1)]) 2 dX7_image_65 rfl (by decide) h (fun _ => rfl) (fun x1 h => ?_)
  refine a_goto (tgt := 23) dX7_image_68 rfl ?_
  exact a_sub [1, 2, 0] rfl (p23 l0 l1 x1 μ1 t hk h)
theorem tX7_image_23b (E : m_E) (l : Launch) (z : Nat × Nat) (k23 : Int → Int → Int → Mm → Option (Int × Mm)) (p23 : ∀ (l0 l1 l2 : Int) (μ : Mm) (t : Int × Mm), m_kd μ l0 = (7, 0) → k23 l0 l1 l2 μ = some t → aX7_image E l 3 z 23 [(0, vr l0), (1, vi l1), (2, vi l2)] [] μ (rI t)) (N : Nat) (l0 l1 l2 : Int) (μ : Mm) (t : Int × Mm) (hk : m_kd μ l0 = (7, 0)) (h : jX7_image_23b k23 N l0 l1 l2 μ = some t) : aX7_image E l 3 z 23 [(0, vr l0), (1, vi l1), (2, vi l2)] [] μ (rI t) := by
  unfold jX7_image_23b at h
  refine a_iload_n 2 dX7_image_23 rfl rfl ?_
  refine a_iload_n 1 dX7_image_24 rfl rfl ?_
  refine a_icmp_ge (tgt := 71) dX7_image_25 rfl h (fun h => ?_) (fun h => ?_)
  ·
    refine a_aload_n 0 dX7_image_71 rfl rfl ?_
    refine a_getfr (c := 7) (i := 10) dX7_image_72 fRX7_66 g7_10 rfl hk ?_
    refine a_iload_n 1 dX7_image_75 rfl rfl ?_
    refine a_iconst dX7_image_76 (okI_b _ rfl) ?_
    refine a_iadd dX7_image_77 ?_
    refine a_aload_n 0 dX7_image_78 rfl rfl ?_
    refine a_getfr (c := 7) (i := 10) dX7_image_79 fRX7_66 g7_10 rfl hk ?_
    refine a_iload_n 1 dX7_image_82 rfl rfl ?_
    refine a_iconst dX7_image_83 (okI_b _ rfl) ?_
    refine a_iadd dX7_image_84 ?_
    refine a_cSi [vr (m_gt μ l0 10), vi (i_add l1 1)] [vi (i_add l1 1), vr (m_gt μ l0 10)] dX7_image_85 myX7_checkByte mRX7_253 msX7_checkByte (fun _ hj => tX7_checkByte E l N (m_gt μ l0 10) (i_add l1 1) μ _  hj) (by decide) rfl (Nat.le_of_ble_eq_true rfl) h (fun x1 μ1 hm h => ?_)
    have hk := hm.k hk (by decide)
    refine a_iast dX7_image_88 h (fun μ2 hm h => ?_)
    have hk := hm.k hk (by decide)
    refine a_aload_n 0 dX7_image_89 rfl rfl ?_
    refine a_iload_n 1 dX7_image_90 rfl rfl ?_
    refine a_iconst dX7_image_91 (okI_b _ rfl) ?_
    refine a_iadd dX7_image_92 ?_
    refine a_putfi (c := 7) (i := 11) dX7_image_93 fRX7_69 g7_11 (Or.inl rfl) rfl hk h (fun μ3 hm h => ?_)
    have hk := hm.k hk (by decide)
    refine a_aload_n 0 dX7_image_96 rfl rfl ?_
    refine a_getfi (c := 7) (i := 11) dX7_image_97 fRX7_69 g7_11 rfl hk ?_
    exact a_reti dX7_image_100 h
  ·
    refine a_aload_n 0 dX7_image_28 rfl rfl ?_
    refine a_getfr (c := 7) (i := 10) dX7_image_29 fRX7_66 g7_10 rfl hk ?_
    refine a_iload_n 2 dX7_image_32 rfl rfl ?_
    refine a_iconst dX7_image_33 (okI_b _ rfl) ?_
    refine a_iadd dX7_image_34 ?_
    refine a_aload_n 0 dX7_image_35 rfl rfl ?_
    refine a_getfr (c := 7) (i := 5) dX7_image_36 fRX7_39 g7_5 rfl hk ?_
    refine m_chk_k h (fun hq35 h => ?_)
    refine a_getfr (c := 5) (i := 0) dX7_image_39 fRX7_150 g5_0 rfl hq35 ?_
    refine a_iload_n 2 dX7_image_42 rfl rfl ?_
    refine a_iald dX7_image_43 h (fun x2 h => ?_)
    refine a_bipush dX7_image_44 ⟨rfl, okI_b _ rfl⟩ ?_
    refine a_icmp_ne (tgt := 55) dX7_image_46 rfl h (fun h => ?_) (fun h => ?_)
    ·
      refine a_aload_n 0 dX7_image_55 rfl rfl ?_
      refine a_getfr (c := 7) (i := 5) dX7_image_56 fRX7_39 g7_5 rfl hk ?_
      refine a_getfr (c := 5) (i := 0) dX7_image_59 fRX7_150 g5_0 rfl hq35 ?_
      refine a_iload_n 2 dX7_image_62 rfl rfl ?_
      refine a_iald dX7_image_63 h (fun x3 h => ?_)
      exact a_sub [0, 1, 2] rfl (tX7_image_64 E l _ k23 p23 N l0 l1 l2 x3 (i_add l2 1) (m_gt μ l0 10) μ t hk h)
    ·
      refine a_sipush dX7_image_49 ⟨rfl, okI_b _ rfl⟩ ?_
      refine a_goto (tgt := 64) dX7_image_52 rfl ?_
      exact a_sub [0, 1, 2] rfl (tX7_image_64 E l _ k23 p23 N l0 l1 l2 200 (i_add l2 1) (m_gt μ l0 10) μ t hk h)
theorem tX7_image_23 (E : m_E) (l : Launch) (z : Nat × Nat) (N : Nat) : ∀ (n : Nat) (l0 l1 l2 : Int) (μ : Mm) (t : Int × Mm), m_kd μ l0 = (7, 0) → jX7_image_23 N n l0 l1 l2 μ = some t → aX7_image E l 3 z 23 [(0, vr l0), (1, vi l1), (2, vi l2)] [] μ (rI t)
  | 0, _, _, _, _, _, _, h => by cases h
  | n + 1, l0, l1, l2, μ, t, hk, h => tX7_image_23b E l z (jX7_image_23 N n) (tX7_image_23 E l z N n) N l0 l1 l2 μ t hk h
theorem tX7_image (E : m_E) (l : Launch) (N : Nat) (l0 : Int) (μ : Mm) (t : Int × Mm) (hk : m_kd μ l0 = (7, 0)) (h : jX7_image N l0 μ = some t) : TT E l 3 yX7_image cX7_image 3 (some .int) [vr l0] μ (rI t) := by
  refine tt_of (L := [(0, vr l0)]) (by decide +kernel) (Nat.le_of_ble_eq_true rfl) rfl ?_
  show aX7_image E l 3 (m_sz μ, m_sl μ) 0 [(0, vr l0)] [] μ (rI t)
  unfold jX7_image at h
  refine a_iconst dX7_image_0 (okI_b _ rfl) ?_
  refine a_aload_n 0 dX7_image_1 rfl rfl ?_
  refine a_getfr (c := 7) (i := 5) dX7_image_2 fRX7_39 g7_5 rfl hk ?_
  refine m_chk_k h (fun hq3 h => ?_)
  refine a_getfi (c := 5) (i := 1) dX7_image_5 fRX7_132 g5_1 rfl hq3 ?_
  refine a_bipush dX7_image_8 ⟨rfl, okI_b _ rfl⟩ ?_
  refine a_cSi [vi 0, vi (m_gt μ (m_gt μ l0 5) 1), vi 27] [] dX7_image_10 myX7_within mRX7_249 msX7_within (fun _ hj => tX7_within E l N 0 (m_gt μ (m_gt μ l0 5) 1) 27 μ _  hj) (by decide) rfl (Nat.le_of_ble_eq_true rfl) h (fun x1 μ1 hm h => ?_)
  have hk := hm.k hk (by decide)
  have hq3 := hm.k hq3 (by decide)
  refine a_istore_n (L' := [(1, vi x1), (0, vr l0)]) dX7_image_13 rfl (by decide) rfl ?_
  refine a_aload_n 1 dX7_image_14 rfl rfl ?_
  refine a_getfr (c := 7) (i := 10) dX7_image_15 fRX7_66 g7_10 rfl hk ?_
  refine a_iconst dX7_image_18 (okI_b _ rfl) ?_
  refine a_iload_n 0 dX7_image_19 rfl rfl ?_
  refine a_iast dX7_image_20 h (fun μ2 hm h => ?_)
  have hk := hm.k hk (by decide)
  have hq3 := hm.k hq3 (by decide)
  refine a_iconst dX7_image_21 (okI_b _ rfl) ?_
  refine a_istore_n (L' := [(2, vi 0), (1, vi x1), (0, vr l0)]) dX7_image_22 rfl (by decide) rfl ?_
  exact a_sub [2, 1, 0] rfl (tX7_image_23 E l _ N N l0 x1 0 μ2 t hk h)
-- X7_octet
abbrev aX7_octet (E : m_E) (l : Launch) (d : Nat) (z : Nat × Nat) (pc : Nat) (L : List (Nat × AV)) (st : List AV) (μ : Mm) (ρ : Option AV × Mm) : Prop := AA E l d z RX7 "octet" cX7_octet 2 (some .int) pc L st μ ρ
theorem tX7_octet_31 (E : m_E) (l : Launch) (z : Nat × Nat) (N : Nat) (l0 s0 : Int) (μ : Mm) (t : Int × Mm) (hk : m_kd μ l0 = (7, 0)) (h : jX7_octet_31 N l0 s0 μ = some t) : aX7_octet E l 1 z 31 [(0, vr l0)] [vi s0] μ (rI t) := by
  unfold jX7_octet_31 at h
  exact a_reti dX7_octet_31 h
theorem tX7_octet_21 (E : m_E) (l : Launch) (z : Nat × Nat) (N : Nat) (l0 : Int) (μ : Mm) (t : Int × Mm) (hk : m_kd μ l0 = (7, 0)) (h : jX7_octet_21 N l0 μ = some t) : aX7_octet E l 1 z 21 [(0, vr l0)] [] μ (rI t) := by
  unfold jX7_octet_21 at h
  refine a_iconst dX7_octet_21 (okI_b _ rfl) ?_
  refine a_goto (tgt := 31) dX7_octet_22 rfl ?_
  exact a_sub [0] rfl (tX7_octet_31 E l _ N l0 (-1) μ t hk h)
theorem tX7_octet (E : m_E) (l : Launch) (N : Nat) (l0 l1 : Int) (μ : Mm) (t : Int × Mm) (hk : m_kd μ l0 = (7, 0)) (h : jX7_octet N l0 l1 μ = some t) : TT E l 1 yX7_octet cX7_octet 2 (some .int) [vr l0, vi l1] μ (rI t) := by
  refine tt_of (L := [(0, vr l0), (1, vi l1)]) (by decide +kernel) (Nat.le_of_ble_eq_true rfl) rfl ?_
  show aX7_octet E l 1 (m_sz μ, m_sl μ) 0 [(0, vr l0), (1, vi l1)] [] μ (rI t)
  unfold jX7_octet at h
  refine a_iload_n 1 dX7_octet_0 rfl rfl ?_
  refine a_if_lt (tgt := 21) dX7_octet_1 rfl h (fun h => ?_) (fun h => ?_)
  ·
    exact a_sub [0] rfl (tX7_octet_21 E l _ N l0 μ t hk h)
  ·
    refine a_iload_n 1 dX7_octet_4 rfl rfl ?_
    refine a_aload_n 0 dX7_octet_5 rfl rfl ?_
    refine a_getfi (c := 7) (i := 11) dX7_octet_6 fRX7_69 g7_11 rfl hk ?_
    refine a_icmp_ge (tgt := 21) dX7_octet_9 rfl h (fun h => ?_) (fun h => ?_)
    ·
      exact a_sub [0] rfl (tX7_octet_21 E l _ N l0 μ t hk h)
    ·
      refine a_iload_n 1 dX7_octet_12 rfl rfl ?_
      refine a_aload_n 0 dX7_octet_13 rfl rfl ?_
      refine a_getfr (c := 7) (i := 10) dX7_octet_14 fRX7_66 g7_10 rfl hk ?_
      refine a_alen dX7_octet_17 h (fun x1 h => ?_)
      refine a_icmp_lt (tgt := 25) dX7_octet_18 rfl h (fun h => ?_) (fun h => ?_)
      ·
        refine a_aload_n 0 dX7_octet_25 rfl rfl ?_
        refine a_getfr (c := 7) (i := 10) dX7_octet_26 fRX7_66 g7_10 rfl hk ?_
        refine a_iload_n 1 dX7_octet_29 rfl rfl ?_
        refine a_iald dX7_octet_30 h (fun x2 h => ?_)
        exact a_sub [0] rfl (tX7_octet_31 E l _ N l0 x2 μ t hk h)
      ·
        exact a_sub [0] rfl (tX7_octet_21 E l _ N l0 μ t hk h)
-- X7_isImage
abbrev aX7_isImage (E : m_E) (l : Launch) (d : Nat) (z : Nat × Nat) (pc : Nat) (L : List (Nat × AV)) (st : List AV) (μ : Mm) (ρ : Option AV × Mm) : Prop := AA E l d z RX7 "isImage" cX7_isImage 2 (some .boolean) pc L st μ ρ
theorem tX7_isImage_54 (E : m_E) (l : Launch) (z : Nat × Nat) (N : Nat) (l0 s0 : Int) (μ : Mm) (t : Int × Mm) (hk : m_kd μ l0 = (7, 0)) (h : jX7_isImage_54 N l0 s0 μ = some t) : aX7_isImage E l 2 z 54 [(0, vr l0)] [vi s0] μ (rI t) := by
  unfold jX7_isImage_54 at h
  exact a_retz dX7_isImage_54 h
theorem tX7_isImage_26 (E : m_E) (l : Launch) (z : Nat × Nat) (N : Nat) (l0 : Int) (μ : Mm) (t : Int × Mm) (hk : m_kd μ l0 = (7, 0)) (h : jX7_isImage_26 N l0 μ = some t) : aX7_isImage E l 2 z 26 [(0, vr l0)] [] μ (rI t) := by
  unfold jX7_isImage_26 at h
  refine a_iconst dX7_isImage_26 (okI_b _ rfl) ?_
  exact a_retzl (Or.inl rfl) dX7_isImage_27 h
theorem tX7_isImage (E : m_E) (l : Launch) (N : Nat) (l0 l1 : Int) (μ : Mm) (t : Int × Mm) (hk : m_kd μ l0 = (7, 0)) (h : jX7_isImage N l0 l1 μ = some t) : TT E l 2 yX7_isImage cX7_isImage 2 (some .boolean) [vr l0, vi l1] μ (rI t) := by
  refine tt_of (L := [(0, vr l0), (1, vi l1)]) (by decide +kernel) (Nat.le_of_ble_eq_true rfl) rfl ?_
  show aX7_isImage E l 2 (m_sz μ, m_sl μ) 0 [(0, vr l0), (1, vi l1)] [] μ (rI t)
  unfold jX7_isImage at h
  refine a_iload_n 1 dX7_isImage_0 rfl rfl ?_
  refine a_iconst dX7_isImage_1 (okI_b _ rfl) ?_
  refine a_icmp_lt (tgt := 26) dX7_isImage_2 rfl h (fun h => ?_) (fun h => ?_)
  ·
    exact a_sub [0] rfl (tX7_isImage_26 E l _ N l0 μ t hk h)
  ·
    refine a_iload_n 1 dX7_isImage_5 rfl rfl ?_
    refine a_aload_n 0 dX7_isImage_6 rfl rfl ?_
    refine a_getfr (c := 7) (i := 10) dX7_isImage_7 fRX7_66 g7_10 rfl hk ?_
    refine a_alen dX7_isImage_10 h (fun x1 h => ?_)
    refine a_icmp_gt (tgt := 26) dX7_isImage_11 rfl h (fun h => ?_) (fun h => ?_)
    ·
      exact a_sub [0] rfl (tX7_isImage_26 E l _ N l0 μ t hk h)
    ·
      refine a_aload_n 0 dX7_isImage_14 rfl rfl ?_
      refine a_getfr (c := 7) (i := 0) dX7_isImage_15 fRX7_9 g7_0 rfl hk ?_
      refine a_iconst dX7_isImage_18 (okI_b _ rfl) ?_
      refine a_iald dX7_isImage_19 h (fun x2 h => ?_)
      refine a_iload_n 1 dX7_isImage_20 rfl rfl ?_
      refine a_iconst dX7_isImage_21 (okI_b _ rfl) ?_
      refine a_isub dX7_isImage_22 ?_
      refine a_icmp_eq (tgt := 28) dX7_isImage_23 rfl h (fun h => ?_) (fun h => ?_)
      ·
        refine a_aload_n 0 dX7_isImage_28 rfl rfl ?_
        refine a_getfr (c := 7) (i := 0) dX7_isImage_29 fRX7_9 g7_0 rfl hk ?_
        refine a_iload_n 1 dX7_isImage_32 rfl rfl ?_
        refine a_iconst dX7_isImage_33 (okI_b _ rfl) ?_
        refine a_isub dX7_isImage_34 ?_
        refine a_iald dX7_isImage_35 h (fun x3 h => ?_)
        refine a_aload_n 0 dX7_isImage_36 rfl rfl ?_
        refine a_getfr (c := 7) (i := 0) dX7_isImage_37 fRX7_9 g7_0 rfl hk ?_
        refine a_iload_n 1 dX7_isImage_40 rfl rfl ?_
        refine a_iconst dX7_isImage_41 (okI_b _ rfl) ?_
        refine a_isub dX7_isImage_42 ?_
        refine a_cSi [vr (m_gt μ l0 0), vi (i_sub l1 1)] [vi x3] dX7_isImage_43 myX7_checkByte mRX7_253 msX7_checkByte (fun _ hj => tX7_checkByte E l N (m_gt μ l0 0) (i_sub l1 1) μ _  hj) (by decide) rfl (Nat.le_of_ble_eq_true rfl) h (fun x4 μ1 hm h => ?_)
        have hk := hm.k hk (by decide)
        refine a_icmp_ne (tgt := 53) dX7_isImage_46 rfl h (fun h => ?_) (fun h => ?_)
        ·
          refine a_iconst dX7_isImage_53 (okI_b _ rfl) ?_
          exact a_sub [0] rfl (tX7_isImage_54 E l _ N l0 0 μ1 t hk h)
        ·
          refine a_iconst dX7_isImage_49 (okI_b _ rfl) ?_
          refine a_goto (tgt := 54) dX7_isImage_50 rfl ?_
          exact a_sub [0] rfl (tX7_isImage_54 E l _ N l0 1 μ1 t hk h)
      ·
        exact a_sub [0] rfl (tX7_isImage_26 E l _ N l0 μ t hk h)
