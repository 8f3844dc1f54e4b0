-- X7_on
abbrev aX7_on (E : m_E) (l : Launch) (d : Nat) (z : Nat × Nat) (pc : Nat) (L : List (Nat × AV)) (st : List AV) (μ : Mm) (ρ : Option AV × Mm) : Prop := AA E l d z RX7 "on" cX7_on 4 (some .boolean) pc L st μ ρ
theorem tX7_on_63 (E : m_E) (l : Launch) (z : Nat × Nat) (k33 : Int → Int → Int → Mm → Option (Int × Mm)) (p33 : ∀ (l0 l1 l2 : Int) (μ : Mm) (t : Int × Mm), m_kd μ l0 = (7, 0) → k33 l0 l1 l2 μ = some t → aX7_on E l 4 z 33 [(0, vr l0), (1, vi l1), (2, vi l2)] [] μ (rI t)) (N : Nat) (l0 l1 l2 s0 : Int) (μ : Mm) (t : Int × Mm) (hk : m_kd μ l0 = (7, 0)) (h : jX7_on_63 k33 N l0 l1 l2 s0 μ = some t) : aX7_on E l 4 z 63 [(0, vr l0), (1, vi l1), (2, vi l2)] [vi s0] μ (rI t) := by
  unfold jX7_on_63 at h
  refine a_istore_n (L' := [(3, vi s0), (0, vr l0), (1, vi l1), (2, vi l2)]) dX7_on_63 rfl (by decide) rfl ?_
  refine a_aload_n 1 dX7_on_64 rfl rfl ?_
  refine a_getfr (c := 7) (i := 6) dX7_on_65 fRX7_43 g7_6 rfl hk ?_
  refine a_iload_n 0 dX7_on_68 rfl rfl ?_
  refine m_chk_k h (fun hq4 h => ?_)
  refine a_cVi (c := 5) [vi s0] [] dX7_on_69 myX5_add mRX7_124 mvX5_add rfl (by decide) hq4 (fun _ hj => tX5_add E l N (m_gt μ l0 6) s0 μ _ hq4 hj) (by decide) rfl (Nat.le_of_ble_eq_true rfl) h (fun x1 μ1 hm h => ?_)
  have hk := hm.k hk (by decide)
  have hq4 := hm.k hq4 (by decide)
  refine a_if_ne (tgt := 77) dX7_on_72 rfl h (fun h => ?_) (fun h => ?_)
  ·
    refine a_iinc (F := fun x2 => [(2, vi x2), (3, vi s0), (0, vr l0), (1, vi l1)]) 3 dX7_on_77 rfl (by decide) h (fun _ => rfl) (fun x2 h => ?_)
    refine a_goto (tgt := 33) dX7_on_80 rfl ?_
    exact a_sub [2, 3, 0] rfl (p33 l0 l1 x2 μ1 t hk h)
  ·
    refine a_iconst dX7_on_75 (okI_b _ rfl) ?_
    exact a_retzl (Or.inl rfl) dX7_on_76 h
theorem tX7_on_33b (E : m_E) (l : Launch) (z : Nat × Nat) (k33 : Int → Int → Int → Mm → Option (Int × Mm)) (p33 : ∀ (l0 l1 l2 : Int) (μ : Mm) (t : Int × Mm), m_kd μ l0 = (7, 0) → k33 l0 l1 l2 μ = some t → aX7_on E l 4 z 33 [(0, vr l0), (1, vi l1), (2, vi l2)] [] μ (rI t)) (N : Nat) (l0 l1 l2 : Int) (μ : Mm) (t : Int × Mm) (hk : m_kd μ l0 = (7, 0)) (h : jX7_on_33b k33 N l0 l1 l2 μ = some t) : aX7_on E l 4 z 33 [(0, vr l0), (1, vi l1), (2, vi l2)] [] μ (rI t) := by
  unfold jX7_on_33b at h
  refine a_iload_n 2 dX7_on_33 rfl rfl ?_
  refine a_iload_n 1 dX7_on_34 rfl rfl ?_
  refine a_iconst dX7_on_35 (okI_b _ rfl) ?_
  refine a_isub dX7_on_36 ?_
  refine a_icmp_ge (tgt := 83) dX7_on_37 rfl h (fun h => ?_) (fun h => ?_)
  ·
    refine a_aload_n 0 dX7_on_83 rfl rfl ?_
    refine a_getfr (c := 7) (i := 5) dX7_on_84 fRX7_39 g7_5 rfl hk ?_
    refine a_astore_n (L' := [(2, vr (m_gt μ l0 5)), (0, vr l0), (1, vi l1)]) dX7_on_87 rfl (by decide) rfl ?_
    refine a_aload_n 1 dX7_on_88 rfl rfl ?_
    refine a_aload_n 1 dX7_on_89 rfl rfl ?_
    refine a_getfr (c := 7) (i := 6) dX7_on_90 fRX7_43 g7_6 rfl hk ?_
    refine a_putfr (c := 7) (i := 5) dX7_on_93 fRX7_39 g7_5 (Or.inl rfl) rfl hk h (fun μ1 hm h => ?_)
    have hk := hm.k hk (by decide)
    refine a_aload_n 1 dX7_on_96 rfl rfl ?_
    refine a_aload_n 0 dX7_on_97 rfl rfl ?_
    refine a_putfr (c := 7) (i := 6) dX7_on_98 fRX7_43 g7_6 (Or.inl rfl) rfl hk h (fun μ2 hm h => ?_)
    have hk := hm.k hk (by decide)
    refine a_aload_n 1 dX7_on_101 rfl rfl ?_
    refine a_cVv (c := 7) [] [] dX7_on_102 myX7_sheetIsNew mRX7_89 mvX7_sheetIsNew rfl (by decide) hk (fun _ hj => tX7_sheetIsNew E l N l0 μ2 _ hk hj) (by decide) rfl (Nat.le_of_ble_eq_true rfl) h (fun μ3 hm h => ?_)
    have hk := hm.k hk (by decide)
    refine a_iconst dX7_on_105 (okI_b _ rfl) ?_
    exact a_retzl (Or.inr rfl) dX7_on_106 h
  ·
    refine a_aload_n 0 dX7_on_40 rfl rfl ?_
    refine a_getfr (c := 7) (i := 0) dX7_on_41 fRX7_9 g7_0 rfl hk ?_
    refine a_iload_n 2 dX7_on_44 rfl rfl ?_
    refine a_iald dX7_on_45 h (fun x1 h => ?_)
    refine a_sipush dX7_on_46 ⟨rfl, okI_b _ rfl⟩ ?_
    refine a_icmp_ne (tgt := 57) dX7_on_49 rfl h (fun h => ?_) (fun h => ?_)
    ·
      refine a_aload_n 0 dX7_on_57 rfl rfl ?_
      refine a_getfr (c := 7) (i := 0) dX7_on_58 fRX7_9 g7_0 rfl hk ?_
      refine a_iload_n 2 dX7_on_61 rfl rfl ?_
      refine a_iald dX7_on_62 h (fun x2 h => ?_)
      exact a_sub [0, 1, 2] rfl (tX7_on_63 E l _ k33 p33 N l0 l1 l2 x2 μ t hk h)
    ·
      refine a_bipush dX7_on_52 ⟨rfl, okI_b _ rfl⟩ ?_
      refine a_goto (tgt := 63) dX7_on_54 rfl ?_
      exact a_sub [0, 1, 2] rfl (tX7_on_63 E l _ k33 p33 N l0 l1 l2 (-2) μ t hk h)
theorem tX7_on_33 (E : m_E) (l : Launch) (z : Nat × Nat) (N : Nat) : ∀ (n : Nat) (l0 l1 l2 : Int) (μ : Mm) (t : Int × Mm), m_kd μ l0 = (7, 0) → jX7_on_33 N n l0 l1 l2 μ = some t → aX7_on E l 4 z 33 [(0, vr l0), (1, vi l1), (2, vi l2)] [] μ (rI t)
  | 0, _, _, _, _, _, _, h => by cases h
  | n + 1, l0, l1, l2, μ, t, hk, h => tX7_on_33b E l z (jX7_on_33 N n) (tX7_on_33 E l z N n) N l0 l1 l2 μ t hk h
theorem tX7_on (E : m_E) (l : Launch) (N : Nat) (l0 : Int) (μ : Mm) (t : Int × Mm) (hk : m_kd μ l0 = (7, 0)) (h : jX7_on N l0 μ = some t) : TT E l 4 yX7_on cX7_on 4 (some .boolean) [vr l0] μ (rI t) := by
  refine tt_of (L := [(0, vr l0)]) (by decide +kernel) (Nat.le_of_ble_eq_true rfl) rfl ?_
  show aX7_on E l 4 (m_sz μ, m_sl μ) 0 [(0, vr l0)] [] μ (rI t)
  unfold jX7_on at h
  refine a_aload_n 0 dX7_on_0 rfl rfl ?_
  refine a_getfi (c := 7) (i := 1) dX7_on_1 fRX7_13 g7_1 rfl hk ?_
  refine a_nmi h (fun x1 h => ?_)
  refine a_istore_n (L' := [(1, vi x1), (0, vr l0)]) dX7_on_4 rfl (by decide) rfl ?_
  refine a_aload_n 1 dX7_on_5 rfl rfl ?_
  refine a_iconst dX7_on_6 (okI_b _ rfl) ?_
  refine a_putfi (c := 7) (i := 1) dX7_on_7 fRX7_13 g7_1 (Or.inl rfl) rfl hk h (fun μ1 hm h => ?_)
  have hk := hm.k hk (by decide)
  refine a_aload_n 1 dX7_on_10 rfl rfl ?_
  refine a_iload_n 0 dX7_on_11 rfl rfl ?_
  refine a_cVi (c := 7) [vi x1] [] dX7_on_12 myX7_isImage mRX7_257 mvX7_isImage rfl (by decide) hk (fun _ hj => tX7_isImage E l N l0 x1 μ1 _ hk hj) (by decide) rfl (Nat.le_of_ble_eq_true rfl) h (fun x2 μ2 hm h => ?_)
  have hk := hm.k hk (by decide)
  refine a_if_ne (tgt := 20) dX7_on_15 rfl h (fun h => ?_) (fun h => ?_)
  ·
    refine a_aload_n 1 dX7_on_20 rfl rfl ?_
    refine a_getfr (c := 7) (i := 6) dX7_on_21 fRX7_43 g7_6 rfl hk ?_
    refine a_aload_n 1 dX7_on_24 rfl rfl ?_
    refine a_getfr (c := 7) (i := 2) dX7_on_25 fRX7_20 g7_2 rfl hk ?_
    refine m_chk_k h (fun hq18 h => ?_)
    refine a_cVv (c := 5) [vr (m_gt μ2 l0 2)] [] dX7_on_28 myX5_empty mRX7_83 mvX5_empty rfl (by decide) hq18 (fun _ hj => tX5_empty E l N (m_gt μ2 l0 6) (m_gt μ2 l0 2) μ2 _ hq18 hj) (by decide) rfl (Nat.le_of_ble_eq_true rfl) h (fun μ3 hm h => ?_)
    have hk := hm.k hk (by decide)
    have hq18 := hm.k hq18 (by decide)
    refine a_iconst dX7_on_31 (okI_b _ rfl) ?_
    refine a_istore_n (L' := [(2, vi 1), (1, vi x1), (0, vr l0)]) dX7_on_32 rfl (by decide) rfl ?_
    exact a_sub [2, 1, 0] rfl (tX7_on_33 E l _ N N l0 x1 1 μ3 t hk h)
  ·
    refine a_iconst dX7_on_18 (okI_b _ rfl) ?_
    exact a_retzl (Or.inl rfl) dX7_on_19 h
