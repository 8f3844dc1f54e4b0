-- X8_ways
abbrev aX8_ways (E : m_E) (l : Launch) (d : Nat) (z : Nat × Nat) (pc : Nat) (L : List (Nat × AV)) (st : List AV) (μ : Mm) (ρ : Option AV × Mm) : Prop := AA E l d z RX8 "ways" cX8_ways 6 (some .long) pc L st μ ρ
theorem tX8_ways_58 (E : m_E) (l : Launch) (z : Nat × Nat) (k10 : Int → Int → Int → Int → Int → Mm → Option (Int × Mm)) (p10 : ∀ (l0 l1 l2 l3 l5 : Int) (μ : Mm) (t : Int × Mm), m_kd μ l0 = (8, 0) → k10 l0 l1 l2 l3 l5 μ = some t → aX8_ways E l 9 z 10 [(0, vr l0), (1, vi l1), (2, vi l2), (3, vl l3), (5, vi l5)] [] μ (rJ t)) (N : Nat) (l0 l1 l2 l3 l5 : Int) (μ : Mm) (t : Int × Mm) (hk : m_kd μ l0 = (8, 0)) (h : jX8_ways_58 k10 N l0 l1 l2 l3 l5 μ = some t) : aX8_ways E l 9 z 58 [(0, vr l0), (1, vi l1), (2, vi l2), (3, vl l3), (5, vi l5)] [] μ (rJ t) := by
  unfold jX8_ways_58 at h
  refine a_iinc (F := fun x1 => [(5, vi x1), (0, vr l0), (1, vi l1), (2, vi l2), (3, vl l3)]) 4 dX8_ways_58 rfl (by decide) h (fun _ => rfl) (fun x1 h => ?_)
  refine a_goto (tgt := 10) dX8_ways_61 rfl ?_
  exact a_sub [1, 2, 3, 4, 0] rfl (p10 l0 l1 l2 l3 x1 μ t hk h)
theorem tX8_ways_45 (E : m_E) (l : Launch) (z : Nat × Nat) (k10 : Int → Int → Int → Int → Int → Mm → Option (Int × Mm)) (p10 : ∀ (l0 l1 l2 l3 l5 : Int) (μ : Mm) (t : Int × Mm), m_kd μ l0 = (8, 0) → k10 l0 l1 l2 l3 l5 μ = some t → aX8_ways E l 9 z 10 [(0, vr l0), (1, vi l1), (2, vi l2), (3, vl l3), (5, vi l5)] [] μ (rJ t)) (N : Nat) (l0 l1 l2 l3 l5 : Int) (μ : Mm) (t : Int × Mm) (hk : m_kd μ l0 = (8, 0)) (h : jX8_ways_45 k10 N l0 l1 l2 l3 l5 μ = some t) : aX8_ways E l 9 z 45 [(0, vr l0), (1, vi l1), (2, vi l2), (3, vl l3), (5, vi l5)] [] μ (rJ t) := by
  unfold jX8_ways_45 at h
  refine a_lload_n 3 dX8_ways_45 rfl rfl ?_
  refine a_aload_n 0 dX8_ways_46 rfl rfl ?_
  refine a_getfr (c := 8) (i := 77) dX8_ways_47 fRX8_159 g8_77 rfl hk ?_
  refine a_iload 4 dX8_ways_50 rfl ?_
  refine a_lald dX8_ways_52 h (fun x1 h => ?_)
  refine a_ladd dX8_ways_53 ?_
  refine a_cSl [vl (l_add l3 x1)] [] dX8_ways_54 myX8_capped mRX8_451 msX8_capped (fun _ hj => tX8_capped E l N (l_add l3 x1) μ _  hj) (by decide) rfl (Nat.le_of_ble_eq_true rfl) h (fun x2 μ1 hm h => ?_)
  have hk := hm.k hk (by decide)
  refine a_lstore_n (L' := [(3, vl x2), (0, vr l0), (1, vi l1), (2, vi l2), (5, vi l5)]) dX8_ways_57 rfl (by decide) rfl ?_
  exact a_sub [1, 2, 3, 0, 4] rfl (tX8_ways_58 E l _ k10 p10 N l0 l1 l2 x2 l5 μ1 t hk h)
theorem tX8_ways_10b (E : m_E) (l : Launch) (z : Nat × Nat) (k10 : Int → Int → Int → Int → Int → Mm → Option (Int × Mm)) (p10 : ∀ (l0 l1 l2 l3 l5 : Int) (μ : Mm) (t : Int × Mm), m_kd μ l0 = (8, 0) → k10 l0 l1 l2 l3 l5 μ = some t → aX8_ways E l 9 z 10 [(0, vr l0), (1, vi l1), (2, vi l2), (3, vl l3), (5, vi l5)] [] μ (rJ t)) (N : Nat) (l0 l1 l2 l3 l5 : Int) (μ : Mm) (t : Int × Mm) (hk : m_kd μ l0 = (8, 0)) (h : jX8_ways_10b k10 N l0 l1 l2 l3 l5 μ = some t) : aX8_ways E l 9 z 10 [(0, vr l0), (1, vi l1), (2, vi l2), (3, vl l3), (5, vi l5)] [] μ (rJ t) := by
  unfold jX8_ways_10b at h
  refine a_iload 4 dX8_ways_10 rfl ?_
  refine a_sipush dX8_ways_12 ⟨rfl, okI_b _ rfl⟩ ?_
  refine a_icmp_ge (tgt := 64) dX8_ways_15 rfl h (fun h => ?_) (fun h => ?_)
  ·
    refine a_lload_n 3 dX8_ways_64 rfl rfl ?_
    exact a_retl dX8_ways_65 h
  ·
    refine a_iload_n 2 dX8_ways_18 rfl rfl ?_
    refine a_if_eq (tgt := 35) dX8_ways_19 rfl h (fun h => ?_) (fun h => ?_)
    ·
      refine a_iload 4 dX8_ways_35 rfl ?_
      refine a_sipush dX8_ways_37 ⟨rfl, okI_b _ rfl⟩ ?_
      refine a_isub dX8_ways_40 ?_
      refine a_iload_n 1 dX8_ways_41 rfl rfl ?_
      refine a_icmp_ne (tgt := 58) dX8_ways_42 rfl h (fun h => ?_) (fun h => ?_)
      ·
        exact a_sub [0, 1, 2, 3, 4] rfl (tX8_ways_58 E l _ k10 p10 N l0 l1 l2 l3 l5 μ t hk h)
      ·
        exact a_sub [0, 1, 2, 3, 4] rfl (tX8_ways_45 E l _ k10 p10 N l0 l1 l2 l3 l5 μ t hk h)
    ·
      refine a_iload 4 dX8_ways_22 rfl ?_
      refine a_sipush dX8_ways_24 ⟨rfl, okI_b _ rfl⟩ ?_
      refine a_isub dX8_ways_27 ?_
      refine a_iload_n 1 dX8_ways_28 rfl rfl ?_
      refine a_icmp_lt (tgt := 58) dX8_ways_29 rfl h (fun h => ?_) (fun h => ?_)
      ·
        exact a_sub [0, 1, 2, 3, 4] rfl (tX8_ways_58 E l _ k10 p10 N l0 l1 l2 l3 l5 μ t hk h)
      ·
        refine a_goto (tgt := 45) dX8_ways_32 rfl ?_
        exact a_sub [0, 1, 2, 3, 4] rfl (tX8_ways_45 E l _ k10 p10 N l0 l1 l2 l3 l5 μ t hk h)
theorem tX8_ways_10 (E : m_E) (l : Launch) (z : Nat × Nat) (N : Nat) : ∀ (n : Nat) (l0 l1 l2 l3 l5 : Int) (μ : Mm) (t : Int × Mm), m_kd μ l0 = (8, 0) → jX8_ways_10 N n l0 l1 l2 l3 l5 μ = some t → aX8_ways E l 9 z 10 [(0, vr l0), (1, vi l1), (2, vi l2), (3, vl l3), (5, vi l5)] [] μ (rJ t)
  | 0, _, _, _, _, _, _, _, _, h => by cases h
  | n + 1, l0, l1, l2, l3, l5, μ, t, hk, h => tX8_ways_10b E l z (jX8_ways_10 N n) (tX8_ways_10 E l z N n) N l0 l1 l2 l3 l5 μ t hk h
theorem tX8_ways (E : m_E) (l : Launch) (N : Nat) (l0 l1 l2 : Int) (μ : Mm) (t : Int × Mm) (hk : m_kd μ l0 = (8, 0)) (h : jX8_ways N l0 l1 l2 μ = some t) : TT E l 9 yX8_ways cX8_ways 6 (some .long) [vr l0, vi l1, vi l2] μ (rJ t) := by
  refine tt_of (L := [(0, vr l0), (1, vi l1), (2, vi l2)]) (by decide +kernel) (Nat.le_of_ble_eq_true rfl) rfl ?_
  show aX8_ways E l 9 (m_sz μ, m_sl μ) 0 [(0, vr l0), (1, vi l1), (2, vi l2)] [] μ (rJ t)
  unfold jX8_ways at h
  refine a_aload_n 0 dX8_ways_0 rfl rfl ?_
  refine a_iconst dX8_ways_1 (okI_b _ rfl) ?_
  refine a_cVv (c := 8) [vi (-1)] [] dX8_ways_2 myX8_tellsComing mRX8_489 mvX8_tellsComing rfl (by decide) hk (fun _ hj => tX8_tellsComing E l N l0 (-1) μ _ hk hj) (by decide) rfl (Nat.le_of_ble_eq_true rfl) h (fun μ1 hm h => ?_)
  have hk := hm.k hk (by decide)
  refine a_lconst (v := 0) dX8_ways_5 ⟨rfl, okJ_b _ rfl⟩ ?_
  refine a_lstore_n (L' := [(3, vl 0), (0, vr l0), (1, vi l1), (2, vi l2)]) dX8_ways_6 rfl (by decide) rfl ?_
  refine a_iconst dX8_ways_7 (okI_b _ rfl) ?_
  refine a_istore (L' := [(5, vi 0), (3, vl 0), (0, vr l0), (1, vi l1), (2, vi l2)]) dX8_ways_8 (by decide) rfl ?_
  exact a_sub [2, 3, 4, 1, 0] rfl (tX8_ways_10 E l _ N N l0 l1 l2 0 0 μ1 t hk h)
