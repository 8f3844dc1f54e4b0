-- L_law
abbrev aL_law (nm : String) (E : m_E) (l : Launch) (d : Nat) (z : Nat × Nat) (pc : Nat) (L : List (Nat × AV)) (st : List AV) (μ : Mm) (ρ : Option AV × Mm) : Prop := AA E l d z RL nm cL_law 4 (some .boolean) pc L st μ ρ
theorem tL_law_1036 {nm : String} (E : m_E) (l : Launch) (z : Nat × Nat) (k18 : Int → Int → Int → Mm → Option (Int × Mm)) (p18 : ∀ (l1 l2 l3 : Int) (μ : Mm) (t : Int × Mm), k18 l1 l2 l3 μ = some t → aL_law nm E l 90 z 18 [(0, vr (-6)), (1, vr l1), (2, vr l2), (3, vi l3)] [] μ (rI t)) (N : Nat) (l1 l2 l3 : Int) (μ : Mm) (t : Int × Mm) (h : jL_law_1036 E k18 N l1 l2 l3 μ = some t) : aL_law nm E l 90 z 1036 [(0, vr (-6)), (1, vr l1), (2, vr l2), (3, vi l3)] [] μ (rI t) := by
  unfold jL_law_1036 at h
  refine a_iinc (F := fun x1 => [(3, vi x1), (0, vr (-6)), (1, vr l1), (2, vr l2)]) 3 dL_law_1036 rfl (by decide) h (fun _ => rfl) (fun x1 h => ?_)
  refine a_goto (tgt := 18) dL_law_1039 rfl ?_
  exact a_sub [1, 2, 3, 0] rfl (p18 l1 l2 x1 μ t h)
theorem tL_law_765 {nm : String} (E : m_E) (l : Launch) (z : Nat × Nat) (k18 : Int → Int → Int → Mm → Option (Int × Mm)) (p18 : ∀ (l1 l2 l3 : Int) (μ : Mm) (t : Int × Mm), k18 l1 l2 l3 μ = some t → aL_law nm E l 90 z 18 [(0, vr (-6)), (1, vr l1), (2, vr l2), (3, vi l3)] [] μ (rI t)) (N : Nat) (l1 l2 l3 s0 s1 s2 s3 s4 : Int) (μ : Mm) (t : Int × Mm) (h : jL_law_765 E k18 N l1 l2 l3 s0 s1 s2 s3 s4 μ = some t) : aL_law nm E l 90 z 765 [(0, vr (-6)), (1, vr l1), (2, vr l2), (3, vi l3)] [vi s0, vi s1, vi s2, vr s3, vi s4] μ (rI t) := by
  unfold jL_law_765 at h
  refine m_chk_k h (fun hq0 h => ?_)
  refine a_cVi (c := 8) [vi s2, vi s1, vi s0] [vi s4] dL_law_765 myX8_must mRL_99 mvX8_must rfl (by decide) hq0 (fun _ hj => tX8_must E l N s3 s2 s1 s0 μ _ hq0 hj) (by decide) rfl (Nat.le_of_ble_eq_true rfl) h (fun x1 μ1 hm h => ?_)
  have hq0 := hm.k hq0 (by decide)
  refine a_icmp_eq (tgt := 1036) dL_law_768 rfl h (fun h => ?_) (fun h => ?_)
  ·
    exact a_sub [0, 1, 2, 3] rfl (tL_law_1036 E l _ k18 p18 N l1 l2 l3 μ1 t h)
  ·
    refine a_iconst dL_law_771 (okI_b _ rfl) ?_
    exact a_retzl (Or.inl rfl) dL_law_772 h
theorem tL_law_738 {nm : String} (E : m_E) (l : Launch) (z : Nat × Nat) (k18 : Int → Int → Int → Mm → Option (Int × Mm)) (p18 : ∀ (l1 l2 l3 : Int) (μ : Mm) (t : Int × Mm), k18 l1 l2 l3 μ = some t → aL_law nm E l 90 z 18 [(0, vr (-6)), (1, vr l1), (2, vr l2), (3, vi l3)] [] μ (rI t)) (N : Nat) (l1 l2 l3 s0 s1 s2 s3 : Int) (μ : Mm) (t : Int × Mm) (h : jL_law_738 E k18 N l1 l2 l3 s0 s1 s2 s3 μ = some t) : aL_law nm E l 90 z 738 [(0, vr (-6)), (1, vr l1), (2, vr l2), (3, vi l3)] [vi s0, vi s1, vi s2, vr s3] μ (rI t) := by
  unfold jL_law_738 at h
  refine m_chk_k h (fun hq0 h => ?_)
  refine a_cVi (c := 7) [vi s2, vi s1, vi s0] [] dL_law_738 myX7_must mRL_95 mvX7_must rfl (by decide) hq0 (fun _ hj => tX7_must E l N s3 s2 s1 s0 μ _ hq0 hj) (by decide) rfl (Nat.le_of_ble_eq_true rfl) h (fun x1 μ1 hm h => ?_)
  have hq0 := hm.k hq0 (by decide)
  refine a_aload_n 2 dL_law_741 rfl rfl ?_
  refine a_aload_n 0 dL_law_742 rfl rfl ?_
  refine a_iload_n 3 dL_law_743 rfl rfl ?_
  refine a_iconst dL_law_744 (okI_b _ rfl) ?_
  refine a_iadd dL_law_745 ?_
  refine a_xald dL_law_746 h (fun x2 h => ?_)
  refine a_aload_n 0 dL_law_747 rfl rfl ?_
  refine a_iload_n 3 dL_law_748 rfl rfl ?_
  refine a_iconst dL_law_749 (okI_b _ rfl) ?_
  refine a_iadd dL_law_750 ?_
  refine a_xald dL_law_751 h (fun x3 h => ?_)
  refine a_aload_n 0 dL_law_752 rfl rfl ?_
  refine a_iload_n 3 dL_law_753 rfl rfl ?_
  refine a_iconst dL_law_754 (okI_b _ rfl) ?_
  refine a_iadd dL_law_755 ?_
  refine a_xald dL_law_756 h (fun x4 h => ?_)
  refine a_if_eq (tgt := 764) dL_law_757 rfl h (fun h => ?_) (fun h => ?_)
  ·
    refine a_iconst dL_law_764 (okI_b _ rfl) ?_
    exact a_sub [0, 1, 2, 3] rfl (tL_law_765 E l _ k18 p18 N l1 l2 l3 0 x3 x2 l2 x1 μ1 t h)
  ·
    refine a_iconst dL_law_760 (okI_b _ rfl) ?_
    refine a_goto (tgt := 765) dL_law_761 rfl ?_
    exact a_sub [0, 1, 2, 3] rfl (tL_law_765 E l _ k18 p18 N l1 l2 l3 1 x3 x2 l2 x1 μ1 t h)
theorem tL_law_705 {nm : String} (E : m_E) (l : Launch) (z : Nat × Nat) (k18 : Int → Int → Int → Mm → Option (Int × Mm)) (p18 : ∀ (l1 l2 l3 : Int) (μ : Mm) (t : Int × Mm), k18 l1 l2 l3 μ = some t → aL_law nm E l 90 z 18 [(0, vr (-6)), (1, vr l1), (2, vr l2), (3, vi l3)] [] μ (rI t)) (N : Nat) (l1 l2 l3 s0 s1 s2 s3 : Int) (μ : Mm) (t : Int × Mm) (h : jL_law_705 E k18 N l1 l2 l3 s0 s1 s2 s3 μ = some t) : aL_law nm E l 90 z 705 [(0, vr (-6)), (1, vr l1), (2, vr l2), (3, vi l3)] [vi s0, vi s1, vr s2, vl s3] μ (rI t) := by
  unfold jL_law_705 at h
  refine m_chk_k h (fun hq0 h => ?_)
  refine a_cVl (c := 8) [vi s1, vi s0] [vl s3] dL_law_705 myX8_fits mRL_94 mvX8_fits rfl (by decide) hq0 (fun _ hj => tX8_fits E l N s2 s1 s0 μ _ hq0 hj) (by decide) rfl (Nat.le_of_ble_eq_true rfl) h (fun x1 μ1 hm h => ?_)
  have hq0 := hm.k hq0 (by decide)
  refine a_lcmp dL_law_708 ?_
  refine a_if_eq (tgt := 1036) dL_law_709 rfl h (fun h => ?_) (fun h => ?_)
  ·
    exact a_sub [0, 1, 2, 3] rfl (tL_law_1036 E l _ k18 p18 N l1 l2 l3 μ1 t h)
  ·
    refine a_iconst dL_law_712 (okI_b _ rfl) ?_
    exact a_retzl (Or.inl rfl) dL_law_713 h
theorem tL_law_683 {nm : String} (E : m_E) (l : Launch) (z : Nat × Nat) (k18 : Int → Int → Int → Mm → Option (Int × Mm)) (p18 : ∀ (l1 l2 l3 : Int) (μ : Mm) (t : Int × Mm), k18 l1 l2 l3 μ = some t → aL_law nm E l 90 z 18 [(0, vr (-6)), (1, vr l1), (2, vr l2), (3, vi l3)] [] μ (rI t)) (N : Nat) (l1 l2 l3 s0 s1 s2 : Int) (μ : Mm) (t : Int × Mm) (h : jL_law_683 E k18 N l1 l2 l3 s0 s1 s2 μ = some t) : aL_law nm E l 90 z 683 [(0, vr (-6)), (1, vr l1), (2, vr l2), (3, vi l3)] [vi s0, vi s1, vr s2] μ (rI t) := by
  unfold jL_law_683 at h
  refine m_chk_k h (fun hq0 h => ?_)
  refine a_cVl (c := 7) [vi s1, vi s0] [] dL_law_683 myX7_fits mRL_91 mvX7_fits rfl (by decide) hq0 (fun _ hj => tX7_fits E l N s2 s1 s0 μ _ hq0 hj) (by decide) rfl (Nat.le_of_ble_eq_true rfl) h (fun x1 μ1 hm h => ?_)
  have hq0 := hm.k hq0 (by decide)
  refine a_aload_n 2 dL_law_686 rfl rfl ?_
  refine a_aload_n 0 dL_law_687 rfl rfl ?_
  refine a_iload_n 3 dL_law_688 rfl rfl ?_
  refine a_iconst dL_law_689 (okI_b _ rfl) ?_
  refine a_iadd dL_law_690 ?_
  refine a_xald dL_law_691 h (fun x2 h => ?_)
  refine a_aload_n 0 dL_law_692 rfl rfl ?_
  refine a_iload_n 3 dL_law_693 rfl rfl ?_
  refine a_iconst dL_law_694 (okI_b _ rfl) ?_
  refine a_iadd dL_law_695 ?_
  refine a_xald dL_law_696 h (fun x3 h => ?_)
  refine a_if_eq (tgt := 704) dL_law_697 rfl h (fun h => ?_) (fun h => ?_)
  ·
    refine a_iconst dL_law_704 (okI_b _ rfl) ?_
    exact a_sub [0, 1, 2, 3] rfl (tL_law_705 E l _ k18 p18 N l1 l2 l3 0 x2 l2 x1 μ1 t h)
  ·
    refine a_iconst dL_law_700 (okI_b _ rfl) ?_
    refine a_goto (tgt := 705) dL_law_701 rfl ?_
    exact a_sub [0, 1, 2, 3] rfl (tL_law_705 E l _ k18 p18 N l1 l2 l3 1 x2 l2 x1 μ1 t h)
theorem tL_law_656 {nm : String} (E : m_E) (l : Launch) (z : Nat × Nat) (k18 : Int → Int → Int → Mm → Option (Int × Mm)) (p18 : ∀ (l1 l2 l3 : Int) (μ : Mm) (t : Int × Mm), k18 l1 l2 l3 μ = some t → aL_law nm E l 90 z 18 [(0, vr (-6)), (1, vr l1), (2, vr l2), (3, vi l3)] [] μ (rI t)) (N : Nat) (l1 l2 l3 s0 s1 s2 s3 : Int) (μ : Mm) (t : Int × Mm) (h : jL_law_656 E k18 N l1 l2 l3 s0 s1 s2 s3 μ = some t) : aL_law nm E l 90 z 656 [(0, vr (-6)), (1, vr l1), (2, vr l2), (3, vi l3)] [vi s0, vi s1, vr s2, vi s3] μ (rI t) := by
  unfold jL_law_656 at h
  refine m_chk_k h (fun hq0 h => ?_)
  refine a_cVi (c := 8) [vi s1, vi s0] [vi s3] dL_law_656 myX8_tear mRL_90 mvX8_tear rfl (by decide) hq0 (fun _ hj => tX8_tear E l N s2 s1 s0 μ _ hq0 hj) (by decide) rfl (Nat.le_of_ble_eq_true rfl) h (fun x1 μ1 hm h => ?_)
  have hq0 := hm.k hq0 (by decide)
  refine a_icmp_eq (tgt := 1036) dL_law_659 rfl h (fun h => ?_) (fun h => ?_)
  ·
    exact a_sub [0, 1, 2, 3] rfl (tL_law_1036 E l _ k18 p18 N l1 l2 l3 μ1 t h)
  ·
    refine a_iconst dL_law_662 (okI_b _ rfl) ?_
    exact a_retzl (Or.inl rfl) dL_law_663 h
theorem tL_law_634 {nm : String} (E : m_E) (l : Launch) (z : Nat × Nat) (k18 : Int → Int → Int → Mm → Option (Int × Mm)) (p18 : ∀ (l1 l2 l3 : Int) (μ : Mm) (t : Int × Mm), k18 l1 l2 l3 μ = some t → aL_law nm E l 90 z 18 [(0, vr (-6)), (1, vr l1), (2, vr l2), (3, vi l3)] [] μ (rI t)) (N : Nat) (l1 l2 l3 s0 s1 s2 : Int) (μ : Mm) (t : Int × Mm) (h : jL_law_634 E k18 N l1 l2 l3 s0 s1 s2 μ = some t) : aL_law nm E l 90 z 634 [(0, vr (-6)), (1, vr l1), (2, vr l2), (3, vi l3)] [vi s0, vi s1, vr s2] μ (rI t) := by
  unfold jL_law_634 at h
  refine m_chk_k h (fun hq0 h => ?_)
  refine a_cVi (c := 7) [vi s1, vi s0] [] dL_law_634 myX7_tear mRL_86 mvX7_tear rfl (by decide) hq0 (fun _ hj => tX7_tear E l N s2 s1 s0 μ _ hq0 hj) (by decide) rfl (Nat.le_of_ble_eq_true rfl) h (fun x1 μ1 hm h => ?_)
  have hq0 := hm.k hq0 (by decide)
  refine a_aload_n 2 dL_law_637 rfl rfl ?_
  refine a_aload_n 0 dL_law_638 rfl rfl ?_
  refine a_iload_n 3 dL_law_639 rfl rfl ?_
  refine a_iconst dL_law_640 (okI_b _ rfl) ?_
  refine a_iadd dL_law_641 ?_
  refine a_xald dL_law_642 h (fun x2 h => ?_)
  refine a_aload_n 0 dL_law_643 rfl rfl ?_
  refine a_iload_n 3 dL_law_644 rfl rfl ?_
  refine a_iconst dL_law_645 (okI_b _ rfl) ?_
  refine a_iadd dL_law_646 ?_
  refine a_xald dL_law_647 h (fun x3 h => ?_)
  refine a_if_eq (tgt := 655) dL_law_648 rfl h (fun h => ?_) (fun h => ?_)
  ·
    refine a_iconst dL_law_655 (okI_b _ rfl) ?_
    exact a_sub [0, 1, 2, 3] rfl (tL_law_656 E l _ k18 p18 N l1 l2 l3 0 x2 l2 x1 μ1 t h)
  ·
    refine a_iconst dL_law_651 (okI_b _ rfl) ?_
    refine a_goto (tgt := 656) dL_law_652 rfl ?_
    exact a_sub [0, 1, 2, 3] rfl (tL_law_656 E l _ k18 p18 N l1 l2 l3 1 x2 l2 x1 μ1 t h)
theorem tL_law_607 {nm : String} (E : m_E) (l : Launch) (z : Nat × Nat) (k18 : Int → Int → Int → Mm → Option (Int × Mm)) (p18 : ∀ (l1 l2 l3 : Int) (μ : Mm) (t : Int × Mm), k18 l1 l2 l3 μ = some t → aL_law nm E l 90 z 18 [(0, vr (-6)), (1, vr l1), (2, vr l2), (3, vi l3)] [] μ (rI t)) (N : Nat) (l1 l2 l3 s0 s1 s2 s3 : Int) (μ : Mm) (t : Int × Mm) (h : jL_law_607 E k18 N l1 l2 l3 s0 s1 s2 s3 μ = some t) : aL_law nm E l 90 z 607 [(0, vr (-6)), (1, vr l1), (2, vr l2), (3, vi l3)] [vi s0, vi s1, vr s2, vi s3] μ (rI t) := by
  unfold jL_law_607 at h
  refine m_chk_k h (fun hq0 h => ?_)
  refine a_cVi (c := 8) [vi s1, vi s0] [vi s3] dL_law_607 myX8_needs mRL_85 mvX8_needs rfl (by decide) hq0 (fun _ hj => tX8_needs E l N s2 s1 s0 μ _ hq0 hj) (by decide) rfl (Nat.le_of_ble_eq_true rfl) h (fun x1 μ1 hm h => ?_)
  have hq0 := hm.k hq0 (by decide)
  refine a_icmp_eq (tgt := 1036) dL_law_610 rfl h (fun h => ?_) (fun h => ?_)
  ·
    exact a_sub [0, 1, 2, 3] rfl (tL_law_1036 E l _ k18 p18 N l1 l2 l3 μ1 t h)
  ·
    refine a_iconst dL_law_613 (okI_b _ rfl) ?_
    exact a_retzl (Or.inl rfl) dL_law_614 h
theorem tL_law_585 {nm : String} (E : m_E) (l : Launch) (z : Nat × Nat) (k18 : Int → Int → Int → Mm → Option (Int × Mm)) (p18 : ∀ (l1 l2 l3 : Int) (μ : Mm) (t : Int × Mm), k18 l1 l2 l3 μ = some t → aL_law nm E l 90 z 18 [(0, vr (-6)), (1, vr l1), (2, vr l2), (3, vi l3)] [] μ (rI t)) (N : Nat) (l1 l2 l3 s0 s1 s2 : Int) (μ : Mm) (t : Int × Mm) (h : jL_law_585 E k18 N l1 l2 l3 s0 s1 s2 μ = some t) : aL_law nm E l 90 z 585 [(0, vr (-6)), (1, vr l1), (2, vr l2), (3, vi l3)] [vi s0, vi s1, vr s2] μ (rI t) := by
  unfold jL_law_585 at h
  refine m_chk_k h (fun hq0 h => ?_)
  refine a_cVi (c := 7) [vi s1, vi s0] [] dL_law_585 myX7_needs mRL_81 mvX7_needs rfl (by decide) hq0 (fun _ hj => tX7_needs E l N s2 s1 s0 μ _ hq0 hj) (by decide) rfl (Nat.le_of_ble_eq_true rfl) h (fun x1 μ1 hm h => ?_)
  have hq0 := hm.k hq0 (by decide)
  refine a_aload_n 2 dL_law_588 rfl rfl ?_
  refine a_aload_n 0 dL_law_589 rfl rfl ?_
  refine a_iload_n 3 dL_law_590 rfl rfl ?_
  refine a_iconst dL_law_591 (okI_b _ rfl) ?_
  refine a_iadd dL_law_592 ?_
  refine a_xald dL_law_593 h (fun x2 h => ?_)
  refine a_aload_n 0 dL_law_594 rfl rfl ?_
  refine a_iload_n 3 dL_law_595 rfl rfl ?_
  refine a_iconst dL_law_596 (okI_b _ rfl) ?_
  refine a_iadd dL_law_597 ?_
  refine a_xald dL_law_598 h (fun x3 h => ?_)
  refine a_if_eq (tgt := 606) dL_law_599 rfl h (fun h => ?_) (fun h => ?_)
  ·
    refine a_iconst dL_law_606 (okI_b _ rfl) ?_
    exact a_sub [0, 1, 2, 3] rfl (tL_law_607 E l _ k18 p18 N l1 l2 l3 0 x2 l2 x1 μ1 t h)
  ·
    refine a_iconst dL_law_602 (okI_b _ rfl) ?_
    refine a_goto (tgt := 607) dL_law_603 rfl ?_
    exact a_sub [0, 1, 2, 3] rfl (tL_law_607 E l _ k18 p18 N l1 l2 l3 1 x2 l2 x1 μ1 t h)
theorem tL_law_557 {nm : String} (E : m_E) (l : Launch) (z : Nat × Nat) (k18 : Int → Int → Int → Mm → Option (Int × Mm)) (p18 : ∀ (l1 l2 l3 : Int) (μ : Mm) (t : Int × Mm), k18 l1 l2 l3 μ = some t → aL_law nm E l 90 z 18 [(0, vr (-6)), (1, vr l1), (2, vr l2), (3, vi l3)] [] μ (rI t)) (N : Nat) (l1 l2 l3 s0 s1 s2 s3 : Int) (μ : Mm) (t : Int × Mm) (h : jL_law_557 E k18 N l1 l2 l3 s0 s1 s2 s3 μ = some t) : aL_law nm E l 90 z 557 [(0, vr (-6)), (1, vr l1), (2, vr l2), (3, vi l3)] [vi s0, vi s1, vr s2, vl s3] μ (rI t) := by
  unfold jL_law_557 at h
  refine m_chk_k h (fun hq0 h => ?_)
  refine a_cVl (c := 8) [vi s1, vi s0] [vl s3] dL_law_557 myX8_ways mRL_80 mvX8_ways rfl (by decide) hq0 (fun _ hj => tX8_ways E l N s2 s1 s0 μ _ hq0 hj) (by decide) rfl (Nat.le_of_ble_eq_true rfl) h (fun x1 μ1 hm h => ?_)
  have hq0 := hm.k hq0 (by decide)
  refine a_lcmp dL_law_560 ?_
  refine a_if_eq (tgt := 1036) dL_law_561 rfl h (fun h => ?_) (fun h => ?_)
  ·
    exact a_sub [0, 1, 2, 3] rfl (tL_law_1036 E l _ k18 p18 N l1 l2 l3 μ1 t h)
  ·
    refine a_iconst dL_law_564 (okI_b _ rfl) ?_
    exact a_retzl (Or.inl rfl) dL_law_565 h
theorem tL_law_535 {nm : String} (E : m_E) (l : Launch) (z : Nat × Nat) (k18 : Int → Int → Int → Mm → Option (Int × Mm)) (p18 : ∀ (l1 l2 l3 : Int) (μ : Mm) (t : Int × Mm), k18 l1 l2 l3 μ = some t → aL_law nm E l 90 z 18 [(0, vr (-6)), (1, vr l1), (2, vr l2), (3, vi l3)] [] μ (rI t)) (N : Nat) (l1 l2 l3 s0 s1 s2 : Int) (μ : Mm) (t : Int × Mm) (h : jL_law_535 E k18 N l1 l2 l3 s0 s1 s2 μ = some t) : aL_law nm E l 90 z 535 [(0, vr (-6)), (1, vr l1), (2, vr l2), (3, vi l3)] [vi s0, vi s1, vr s2] μ (rI t) := by
  unfold jL_law_535 at h
  refine m_chk_k h (fun hq0 h => ?_)
  refine a_cVl (c := 7) [vi s1, vi s0] [] dL_law_535 myX7_ways mRL_76 mvX7_ways rfl (by decide) hq0 (fun _ hj => tX7_ways E l N s2 s1 s0 μ _ hq0 hj) (by decide) rfl (Nat.le_of_ble_eq_true rfl) h (fun x1 μ1 hm h => ?_)
  have hq0 := hm.k hq0 (by decide)
  refine a_aload_n 2 dL_law_538 rfl rfl ?_
  refine a_aload_n 0 dL_law_539 rfl rfl ?_
  refine a_iload_n 3 dL_law_540 rfl rfl ?_
  refine a_iconst dL_law_541 (okI_b _ rfl) ?_
  refine a_iadd dL_law_542 ?_
  refine a_xald dL_law_543 h (fun x2 h => ?_)
  refine a_aload_n 0 dL_law_544 rfl rfl ?_
  refine a_iload_n 3 dL_law_545 rfl rfl ?_
  refine a_iconst dL_law_546 (okI_b _ rfl) ?_
  refine a_iadd dL_law_547 ?_
  refine a_xald dL_law_548 h (fun x3 h => ?_)
  refine a_if_eq (tgt := 556) dL_law_549 rfl h (fun h => ?_) (fun h => ?_)
  ·
    refine a_iconst dL_law_556 (okI_b _ rfl) ?_
    exact a_sub [0, 1, 2, 3] rfl (tL_law_557 E l _ k18 p18 N l1 l2 l3 0 x2 l2 x1 μ1 t h)
  ·
    refine a_iconst dL_law_552 (okI_b _ rfl) ?_
    refine a_goto (tgt := 557) dL_law_553 rfl ?_
    exact a_sub [0, 1, 2, 3] rfl (tL_law_557 E l _ k18 p18 N l1 l2 l3 1 x2 l2 x1 μ1 t h)
theorem tL_law_508 {nm : String} (E : m_E) (l : Launch) (z : Nat × Nat) (k18 : Int → Int → Int → Mm → Option (Int × Mm)) (p18 : ∀ (l1 l2 l3 : Int) (μ : Mm) (t : Int × Mm), k18 l1 l2 l3 μ = some t → aL_law nm E l 90 z 18 [(0, vr (-6)), (1, vr l1), (2, vr l2), (3, vi l3)] [] μ (rI t)) (N : Nat) (l1 l2 l3 s0 s1 s2 : Int) (μ : Mm) (t : Int × Mm) (h : jL_law_508 E k18 N l1 l2 l3 s0 s1 s2 μ = some t) : aL_law nm E l 90 z 508 [(0, vr (-6)), (1, vr l1), (2, vr l2), (3, vi l3)] [vi s0, vr s1, vi s2] μ (rI t) := by
  unfold jL_law_508 at h
  refine m_chk_k h (fun hq0 h => ?_)
  refine a_cVi (c := 8) [vi s0] [vi s2] dL_law_508 myX8_come mRL_75 mvX8_come rfl (by decide) hq0 (fun _ hj => tX8_come E l N s1 s0 μ _ hq0 hj) (by decide) rfl (Nat.le_of_ble_eq_true rfl) h (fun x1 μ1 hm h => ?_)
  have hq0 := hm.k hq0 (by decide)
  refine a_icmp_eq (tgt := 1036) dL_law_511 rfl h (fun h => ?_) (fun h => ?_)
  ·
    exact a_sub [0, 1, 2, 3] rfl (tL_law_1036 E l _ k18 p18 N l1 l2 l3 μ1 t h)
  ·
    refine a_iconst dL_law_514 (okI_b _ rfl) ?_
    exact a_retzl (Or.inl rfl) dL_law_515 h
theorem tL_law_491 {nm : String} (E : m_E) (l : Launch) (z : Nat × Nat) (k18 : Int → Int → Int → Mm → Option (Int × Mm)) (p18 : ∀ (l1 l2 l3 : Int) (μ : Mm) (t : Int × Mm), k18 l1 l2 l3 μ = some t → aL_law nm E l 90 z 18 [(0, vr (-6)), (1, vr l1), (2, vr l2), (3, vi l3)] [] μ (rI t)) (N : Nat) (l1 l2 l3 s0 s1 : Int) (μ : Mm) (t : Int × Mm) (h : jL_law_491 E k18 N l1 l2 l3 s0 s1 μ = some t) : aL_law nm E l 90 z 491 [(0, vr (-6)), (1, vr l1), (2, vr l2), (3, vi l3)] [vi s0, vr s1] μ (rI t) := by
  unfold jL_law_491 at h
  refine m_chk_k h (fun hq0 h => ?_)
  refine a_cVi (c := 7) [vi s0] [] dL_law_491 myX7_come mRL_71 mvX7_come rfl (by decide) hq0 (fun _ hj => tX7_come E l N s1 s0 μ _ hq0 hj) (by decide) rfl (Nat.le_of_ble_eq_true rfl) h (fun x1 μ1 hm h => ?_)
  have hq0 := hm.k hq0 (by decide)
  refine a_aload_n 2 dL_law_494 rfl rfl ?_
  refine a_aload_n 0 dL_law_495 rfl rfl ?_
  refine a_iload_n 3 dL_law_496 rfl rfl ?_
  refine a_iconst dL_law_497 (okI_b _ rfl) ?_
  refine a_iadd dL_law_498 ?_
  refine a_xald dL_law_499 h (fun x2 h => ?_)
  refine a_if_eq (tgt := 507) dL_law_500 rfl h (fun h => ?_) (fun h => ?_)
  ·
    refine a_iconst dL_law_507 (okI_b _ rfl) ?_
    exact a_sub [0, 1, 2, 3] rfl (tL_law_508 E l _ k18 p18 N l1 l2 l3 0 l2 x1 μ1 t h)
  ·
    refine a_iconst dL_law_503 (okI_b _ rfl) ?_
    refine a_goto (tgt := 508) dL_law_504 rfl ?_
    exact a_sub [0, 1, 2, 3] rfl (tL_law_508 E l _ k18 p18 N l1 l2 l3 1 l2 x1 μ1 t h)
theorem tL_law_18b {nm : String} (E : m_E) (l : Launch) (z : Nat × Nat) (k18 : Int → Int → Int → Mm → Option (Int × Mm)) (p18 : ∀ (l1 l2 l3 : Int) (μ : Mm) (t : Int × Mm), k18 l1 l2 l3 μ = some t → aL_law nm E l 90 z 18 [(0, vr (-6)), (1, vr l1), (2, vr l2), (3, vi l3)] [] μ (rI t)) (N : Nat) (l1 l2 l3 : Int) (μ : Mm) (t : Int × Mm) (h : jL_law_18b E k18 N l1 l2 l3 μ = some t) : aL_law nm E l 90 z 18 [(0, vr (-6)), (1, vr l1), (2, vr l2), (3, vi l3)] [] μ (rI t) := by
  unfold jL_law_18b at h
  refine a_iload_n 3 dL_law_18 rfl rfl ?_
  refine a_aload_n 0 dL_law_19 rfl rfl ?_
  refine a_xlen dL_law_20 ?_
  refine a_bipush dL_law_21 ⟨rfl, okI_b _ rfl⟩ ?_
  refine a_isub dL_law_23 ?_
  refine a_icmp_gt (tgt := 1042) dL_law_24 rfl h (fun h => ?_) (fun h => ?_)
  ·
    refine a_iconst dL_law_1042 (okI_b _ rfl) ?_
    exact a_retzl (Or.inr rfl) dL_law_1043 h
  ·
    refine a_aload_n 0 dL_law_27 rfl rfl ?_
    refine a_iload_n 3 dL_law_28 rfl rfl ?_
    refine a_xald dL_law_29 h (fun x1 h => ?_)
    refine a_bipush dL_law_30 ⟨rfl, okI_b _ rfl⟩ ?_
    refine a_iand dL_law_32 ?_
    refine a_nmi h (fun x2 h => ?_)
    refine a_cs h (fun hx h => ?_) (fun hx0 h => ?_)
    ·
      refine a_tsI (off := 135) (tgt := 168) dL_law_33 (by omega) (by omega) (by rw [hx]; rfl) rfl ?_
      refine a_aload_n 1 dL_law_168 rfl rfl ?_
      refine a_aload_n 0 dL_law_169 rfl rfl ?_
      refine a_iload_n 3 dL_law_170 rfl rfl ?_
      refine a_iconst dL_law_171 (okI_b _ rfl) ?_
      refine a_iadd dL_law_172 ?_
      refine a_xald dL_law_173 h (fun x3 h => ?_)
      refine a_aload_n 0 dL_law_174 rfl rfl ?_
      refine a_iload_n 3 dL_law_175 rfl rfl ?_
      refine a_iconst dL_law_176 (okI_b _ rfl) ?_
      refine a_iadd dL_law_177 ?_
      refine a_xald dL_law_178 h (fun x4 h => ?_)
      refine a_aload_n 0 dL_law_179 rfl rfl ?_
      refine a_iload_n 3 dL_law_180 rfl rfl ?_
      refine a_iconst dL_law_181 (okI_b _ rfl) ?_
      refine a_iadd dL_law_182 ?_
      refine a_xald dL_law_183 h (fun x5 h => ?_)
      refine a_aload_n 0 dL_law_184 rfl rfl ?_
      refine a_iload_n 3 dL_law_185 rfl rfl ?_
      refine a_iconst dL_law_186 (okI_b _ rfl) ?_
      refine a_iadd dL_law_187 ?_
      refine a_xald dL_law_188 h (fun x6 h => ?_)
      refine a_aload_n 0 dL_law_189 rfl rfl ?_
      refine a_iload_n 3 dL_law_190 rfl rfl ?_
      refine a_iconst dL_law_191 (okI_b _ rfl) ?_
      refine a_iadd dL_law_192 ?_
      refine a_xald dL_law_193 h (fun x7 h => ?_)
      refine m_chk_k h (fun hq45 h => ?_)
      refine a_cVi (c := 7) [vi x3, vi x4, vi x5, vi x6, vi x7] [] dL_law_194 myX7_feed mRL_13 mvX7_feed rfl (by decide) hq45 (fun _ hj => tX7_feed E l N l1 x3 x4 x5 x6 x7 μ _ hq45 hj) (by decide) rfl (Nat.le_of_ble_eq_true rfl) h (fun x8 μ1 hm h => ?_)
      have hq45 := hm.k hq45 (by decide)
      refine a_aload_n 2 dL_law_197 rfl rfl ?_
      refine a_aload_n 0 dL_law_198 rfl rfl ?_
      refine a_iload_n 3 dL_law_199 rfl rfl ?_
      refine a_iconst dL_law_200 (okI_b _ rfl) ?_
      refine a_iadd dL_law_201 ?_
      refine a_xald dL_law_202 h (fun x9 h => ?_)
      refine a_aload_n 0 dL_law_203 rfl rfl ?_
      refine a_iload_n 3 dL_law_204 rfl rfl ?_
      refine a_iconst dL_law_205 (okI_b _ rfl) ?_
      refine a_iadd dL_law_206 ?_
      refine a_xald dL_law_207 h (fun x10 h => ?_)
      refine a_aload_n 0 dL_law_208 rfl rfl ?_
      refine a_iload_n 3 dL_law_209 rfl rfl ?_
      refine a_iconst dL_law_210 (okI_b _ rfl) ?_
      refine a_iadd dL_law_211 ?_
      refine a_xald dL_law_212 h (fun x11 h => ?_)
      refine a_aload_n 0 dL_law_213 rfl rfl ?_
      refine a_iload_n 3 dL_law_214 rfl rfl ?_
      refine a_iconst dL_law_215 (okI_b _ rfl) ?_
      refine a_iadd dL_law_216 ?_
      refine a_xald dL_law_217 h (fun x12 h => ?_)
      refine a_aload_n 0 dL_law_218 rfl rfl ?_
      refine a_iload_n 3 dL_law_219 rfl rfl ?_
      refine a_iconst dL_law_220 (okI_b _ rfl) ?_
      refine a_iadd dL_law_221 ?_
      refine a_xald dL_law_222 h (fun x13 h => ?_)
      refine m_chk_k h (fun hq74 h => ?_)
      refine a_cVi (c := 8) [vi x9, vi x10, vi x11, vi x12, vi x13] [vi x8] dL_law_223 myX8_feed mRL_17 mvX8_feed rfl (by decide) hq74 (fun _ hj => tX8_feed E l N l2 x9 x10 x11 x12 x13 μ1 _ hq74 hj) (by decide) rfl (Nat.le_of_ble_eq_true rfl) h (fun x14 μ2 hm h => ?_)
      have hq45 := hm.k hq45 (by decide)
      have hq74 := hm.k hq74 (by decide)
      refine a_icmp_eq (tgt := 1036) dL_law_226 rfl h (fun h => ?_) (fun h => ?_)
      ·
        exact a_sub [0, 1, 2, 3] rfl (tL_law_1036 E l _ k18 p18 N l1 l2 l3 μ2 t h)
      ·
        refine a_iconst dL_law_229 (okI_b _ rfl) ?_
        exact a_retzl (Or.inl rfl) dL_law_230 h
    refine a_cs h (fun hx h => ?_) (fun hx1 h => ?_)
    ·
      refine a_tsI (off := 198) (tgt := 231) dL_law_33 (by omega) (by omega) (by rw [hx]; rfl) rfl ?_
      refine a_aload_n 1 dL_law_231 rfl rfl ?_
      refine a_aload_n 0 dL_law_232 rfl rfl ?_
      refine a_iload_n 3 dL_law_233 rfl rfl ?_
      refine a_iconst dL_law_234 (okI_b _ rfl) ?_
      refine a_iadd dL_law_235 ?_
      refine a_xald dL_law_236 h (fun x15 h => ?_)
      refine m_chk_k h (fun hq93 h => ?_)
      refine a_cVi (c := 7) [vi x15] [] dL_law_237 myX7_end mRL_18 mvX7_end rfl (by decide) hq93 (fun _ hj => tX7_end E l N l1 x15 μ _ hq93 hj) (by decide) rfl (Nat.le_of_ble_eq_true rfl) h (fun x16 μ3 hm h => ?_)
      have hq93 := hm.k hq93 (by decide)
      refine a_aload_n 2 dL_law_240 rfl rfl ?_
      refine a_aload_n 0 dL_law_241 rfl rfl ?_
      refine a_iload_n 3 dL_law_242 rfl rfl ?_
      refine a_iconst dL_law_243 (okI_b _ rfl) ?_
      refine a_iadd dL_law_244 ?_
      refine a_xald dL_law_245 h (fun x17 h => ?_)
      refine m_chk_k h (fun hq102 h => ?_)
      refine a_cVi (c := 8) [vi x17] [vi x16] dL_law_246 myX8_end mRL_22 mvX8_end rfl (by decide) hq102 (fun _ hj => tX8_end E l N l2 x17 μ3 _ hq102 hj) (by decide) rfl (Nat.le_of_ble_eq_true rfl) h (fun x18 μ4 hm h => ?_)
      have hq93 := hm.k hq93 (by decide)
      have hq102 := hm.k hq102 (by decide)
      refine a_icmp_eq (tgt := 1036) dL_law_249 rfl h (fun h => ?_) (fun h => ?_)
      ·
        exact a_sub [0, 1, 2, 3] rfl (tL_law_1036 E l _ k18 p18 N l1 l2 l3 μ4 t h)
      ·
        refine a_iconst dL_law_252 (okI_b _ rfl) ?_
        exact a_retzl (Or.inl rfl) dL_law_253 h
    refine a_cs h (fun hx h => ?_) (fun hx2 h => ?_)
    ·
      refine a_tsI (off := 221) (tgt := 254) dL_law_33 (by omega) (by omega) (by rw [hx]; rfl) rfl ?_
      refine a_aload_n 1 dL_law_254 rfl rfl ?_
      refine m_chk_k h (fun hq116 h => ?_)
      refine a_cVi (c := 7) [] [] dL_law_255 myX7_game mRL_23 mvX7_game rfl (by decide) hq116 (fun _ hj => tX7_game E l N l1 μ _ hq116 hj) (by decide) rfl (Nat.le_of_ble_eq_true rfl) h (fun x19 μ5 hm h => ?_)
      have hq116 := hm.k hq116 (by decide)
      refine a_aload_n 2 dL_law_258 rfl rfl ?_
      refine m_chk_k h (fun hq120 h => ?_)
      refine a_cVi (c := 8) [] [vi x19] dL_law_259 myX8_game mRL_27 mvX8_game rfl (by decide) hq120 (fun _ hj => tX8_game E l N l2 μ5 _ hq120 hj) (by decide) rfl (Nat.le_of_ble_eq_true rfl) h (fun x20 μ6 hm h => ?_)
      have hq116 := hm.k hq116 (by decide)
      have hq120 := hm.k hq120 (by decide)
      refine a_icmp_eq (tgt := 1036) dL_law_262 rfl h (fun h => ?_) (fun h => ?_)
      ·
        exact a_sub [0, 1, 2, 3] rfl (tL_law_1036 E l _ k18 p18 N l1 l2 l3 μ6 t h)
      ·
        refine a_iconst dL_law_265 (okI_b _ rfl) ?_
        exact a_retzl (Or.inl rfl) dL_law_266 h
    refine a_cs h (fun hx h => ?_) (fun hx3 h => ?_)
    ·
      refine a_tsI (off := 234) (tgt := 267) dL_law_33 (by omega) (by omega) (by rw [hx]; rfl) rfl ?_
      refine a_aload_n 1 dL_law_267 rfl rfl ?_
      refine a_aload_n 0 dL_law_268 rfl rfl ?_
      refine a_iload_n 3 dL_law_269 rfl rfl ?_
      refine a_iconst dL_law_270 (okI_b _ rfl) ?_
      refine a_iadd dL_law_271 ?_
      refine a_xald dL_law_272 h (fun x21 h => ?_)
      refine m_chk_k h (fun hq139 h => ?_)
      refine a_cVi (c := 7) [vi x21] [] dL_law_273 myX7_fault mRL_28 mvX7_fault rfl (by decide) hq139 (fun _ hj => tX7_fault E l N l1 x21 μ _ hq139 hj) (by decide) rfl (Nat.le_of_ble_eq_true rfl) h (fun x22 μ7 hm h => ?_)
      have hq139 := hm.k hq139 (by decide)
      refine a_aload_n 2 dL_law_276 rfl rfl ?_
      refine a_aload_n 0 dL_law_277 rfl rfl ?_
      refine a_iload_n 3 dL_law_278 rfl rfl ?_
      refine a_iconst dL_law_279 (okI_b _ rfl) ?_
      refine a_iadd dL_law_280 ?_
      refine a_xald dL_law_281 h (fun x23 h => ?_)
      refine m_chk_k h (fun hq148 h => ?_)
      refine a_cVi (c := 8) [vi x23] [vi x22] dL_law_282 myX8_fault mRL_32 mvX8_fault rfl (by decide) hq148 (fun _ hj => tX8_fault E l N l2 x23 μ7 _ hq148 hj) (by decide) rfl (Nat.le_of_ble_eq_true rfl) h (fun x24 μ8 hm h => ?_)
      have hq139 := hm.k hq139 (by decide)
      have hq148 := hm.k hq148 (by decide)
      refine a_icmp_eq (tgt := 1036) dL_law_285 rfl h (fun h => ?_) (fun h => ?_)
      ·
        exact a_sub [0, 1, 2, 3] rfl (tL_law_1036 E l _ k18 p18 N l1 l2 l3 μ8 t h)
      ·
        refine a_iconst dL_law_288 (okI_b _ rfl) ?_
        exact a_retzl (Or.inl rfl) dL_law_289 h
    refine a_cs h (fun hx h => ?_) (fun hx4 h => ?_)
    ·
      refine a_tsI (off := 257) (tgt := 290) dL_law_33 (by omega) (by omega) (by rw [hx]; rfl) rfl ?_
      refine a_aload_n 1 dL_law_290 rfl rfl ?_
      refine a_aload_n 0 dL_law_291 rfl rfl ?_
      refine a_iload_n 3 dL_law_292 rfl rfl ?_
      refine a_iconst dL_law_293 (okI_b _ rfl) ?_
      refine a_iadd dL_law_294 ?_
      refine a_xald dL_law_295 h (fun x25 h => ?_)
      refine m_chk_k h (fun hq167 h => ?_)
      refine a_cVi (c := 7) [vi x25] [] dL_law_296 myX7_has mRL_33 mvX7_has rfl (by decide) hq167 (fun _ hj => tX7_has E l N l1 x25 μ _ hq167 hj) (by decide) rfl (Nat.le_of_ble_eq_true rfl) h (fun x26 μ9 hm h => ?_)
      have hq167 := hm.k hq167 (by decide)
      refine a_aload_n 2 dL_law_299 rfl rfl ?_
      refine a_aload_n 0 dL_law_300 rfl rfl ?_
      refine a_iload_n 3 dL_law_301 rfl rfl ?_
      refine a_iconst dL_law_302 (okI_b _ rfl) ?_
      refine a_iadd dL_law_303 ?_
      refine a_xald dL_law_304 h (fun x27 h => ?_)
      refine m_chk_k h (fun hq176 h => ?_)
      refine a_cVi (c := 8) [vi x27] [vi x26] dL_law_305 myX8_has mRL_36 mvX8_has rfl (by decide) hq176 (fun _ hj => tX8_has E l N l2 x27 μ9 _ hq176 hj) (by decide) rfl (Nat.le_of_ble_eq_true rfl) h (fun x28 μ10 hm h => ?_)
      have hq167 := hm.k hq167 (by decide)
      have hq176 := hm.k hq176 (by decide)
      refine a_icmp_eq (tgt := 1036) dL_law_308 rfl h (fun h => ?_) (fun h => ?_)
      ·
        exact a_sub [0, 1, 2, 3] rfl (tL_law_1036 E l _ k18 p18 N l1 l2 l3 μ10 t h)
      ·
        refine a_iconst dL_law_311 (okI_b _ rfl) ?_
        exact a_retzl (Or.inl rfl) dL_law_312 h
    refine a_cs h (fun hx h => ?_) (fun hx5 h => ?_)
    ·
      refine a_tsI (off := 280) (tgt := 313) dL_law_33 (by omega) (by omega) (by rw [hx]; rfl) rfl ?_
      refine a_aload_n 1 dL_law_313 rfl rfl ?_
      refine a_aload_n 0 dL_law_314 rfl rfl ?_
      refine a_iload_n 3 dL_law_315 rfl rfl ?_
      refine a_iconst dL_law_316 (okI_b _ rfl) ?_
      refine a_iadd dL_law_317 ?_
      refine a_xald dL_law_318 h (fun x29 h => ?_)
      refine m_chk_k h (fun hq195 h => ?_)
      refine a_cVi (c := 7) [vi x29] [] dL_law_319 myX7_roll mRL_37 mvX7_roll rfl (by decide) hq195 (fun _ hj => tX7_roll E l N l1 x29 μ _ hq195 hj) (by decide) rfl (Nat.le_of_ble_eq_true rfl) h (fun x30 μ11 hm h => ?_)
      have hq195 := hm.k hq195 (by decide)
      refine a_aload_n 2 dL_law_322 rfl rfl ?_
      refine a_aload_n 0 dL_law_323 rfl rfl ?_
      refine a_iload_n 3 dL_law_324 rfl rfl ?_
      refine a_iconst dL_law_325 (okI_b _ rfl) ?_
      refine a_iadd dL_law_326 ?_
      refine a_xald dL_law_327 h (fun x31 h => ?_)
      refine m_chk_k h (fun hq204 h => ?_)
      refine a_cVi (c := 8) [vi x31] [vi x30] dL_law_328 myX8_roll mRL_40 mvX8_roll rfl (by decide) hq204 (fun _ hj => tX8_roll E l N l2 x31 μ11 _ hq204 hj) (by decide) rfl (Nat.le_of_ble_eq_true rfl) h (fun x32 μ12 hm h => ?_)
      have hq195 := hm.k hq195 (by decide)
      have hq204 := hm.k hq204 (by decide)
      refine a_icmp_eq (tgt := 1036) dL_law_331 rfl h (fun h => ?_) (fun h => ?_)
      ·
        exact a_sub [0, 1, 2, 3] rfl (tL_law_1036 E l _ k18 p18 N l1 l2 l3 μ12 t h)
      ·
        refine a_iconst dL_law_334 (okI_b _ rfl) ?_
        exact a_retzl (Or.inl rfl) dL_law_335 h
    refine a_cs h (fun hx h => ?_) (fun hx6 h => ?_)
    ·
      refine a_tsI (off := 303) (tgt := 336) dL_law_33 (by omega) (by omega) (by rw [hx]; rfl) rfl ?_
      refine a_aload_n 1 dL_law_336 rfl rfl ?_
      refine m_chk_k h (fun hq218 h => ?_)
      refine a_cVi (c := 7) [] [] dL_law_337 myX7_back mRL_41 mvX7_back rfl (by decide) hq218 (fun _ hj => tX7_back E l N l1 μ _ hq218 hj) (by decide) rfl (Nat.le_of_ble_eq_true rfl) h (fun x33 μ13 hm h => ?_)
      have hq218 := hm.k hq218 (by decide)
      refine a_aload_n 2 dL_law_340 rfl rfl ?_
      refine m_chk_k h (fun hq222 h => ?_)
      refine a_cVi (c := 8) [] [vi x33] dL_law_341 myX8_back mRL_45 mvX8_back rfl (by decide) hq222 (fun _ hj => tX8_back E l N l2 μ13 _ hq222 hj) (by decide) rfl (Nat.le_of_ble_eq_true rfl) h (fun x34 μ14 hm h => ?_)
      have hq218 := hm.k hq218 (by decide)
      have hq222 := hm.k hq222 (by decide)
      refine a_icmp_eq (tgt := 1036) dL_law_344 rfl h (fun h => ?_) (fun h => ?_)
      ·
        exact a_sub [0, 1, 2, 3] rfl (tL_law_1036 E l _ k18 p18 N l1 l2 l3 μ14 t h)
      ·
        refine a_iconst dL_law_347 (okI_b _ rfl) ?_
        exact a_retzl (Or.inl rfl) dL_law_348 h
    refine a_cs h (fun hx h => ?_) (fun hx7 h => ?_)
    ·
      refine a_tsI (off := 316) (tgt := 349) dL_law_33 (by omega) (by omega) (by rw [hx]; rfl) rfl ?_
      refine a_aload_n 1 dL_law_349 rfl rfl ?_
      refine m_chk_k h (fun hq236 h => ?_)
      refine a_cVi (c := 7) [] [] dL_law_350 myX7_clear mRL_46 mvX7_clear rfl (by decide) hq236 (fun _ hj => tX7_clear E l N l1 μ _ hq236 hj) (by decide) rfl (Nat.le_of_ble_eq_true rfl) h (fun x35 μ15 hm h => ?_)
      have hq236 := hm.k hq236 (by decide)
      refine a_aload_n 2 dL_law_353 rfl rfl ?_
      refine m_chk_k h (fun hq240 h => ?_)
      refine a_cVi (c := 8) [] [vi x35] dL_law_354 myX8_clear mRL_49 mvX8_clear rfl (by decide) hq240 (fun _ hj => tX8_clear E l N l2 μ15 _ hq240 hj) (by decide) rfl (Nat.le_of_ble_eq_true rfl) h (fun x36 μ16 hm h => ?_)
      have hq236 := hm.k hq236 (by decide)
      have hq240 := hm.k hq240 (by decide)
      refine a_icmp_eq (tgt := 1036) dL_law_357 rfl h (fun h => ?_) (fun h => ?_)
      ·
        exact a_sub [0, 1, 2, 3] rfl (tL_law_1036 E l _ k18 p18 N l1 l2 l3 μ16 t h)
      ·
        refine a_iconst dL_law_360 (okI_b _ rfl) ?_
        exact a_retzl (Or.inl rfl) dL_law_361 h
    refine a_cs h (fun hx h => ?_) (fun hx8 h => ?_)
    ·
      refine a_tsI (off := 329) (tgt := 362) dL_law_33 (by omega) (by omega) (by rw [hx]; rfl) rfl ?_
      refine a_aload_n 1 dL_law_362 rfl rfl ?_
      refine a_aload_n 0 dL_law_363 rfl rfl ?_
      refine a_iload_n 3 dL_law_364 rfl rfl ?_
      refine a_iconst dL_law_365 (okI_b _ rfl) ?_
      refine a_iadd dL_law_366 ?_
      refine a_xald dL_law_367 h (fun x37 h => ?_)
      refine m_chk_k h (fun hq259 h => ?_)
      refine a_cVi (c := 7) [vi x37] [] dL_law_368 myX7_sheet mRL_50 mvX7_sheet rfl (by decide) hq259 (fun _ hj => tX7_sheet E l N l1 x37 μ _ hq259 hj) (by decide) rfl (Nat.le_of_ble_eq_true rfl) h (fun x38 μ17 hm h => ?_)
      have hq259 := hm.k hq259 (by decide)
      refine a_aload_n 2 dL_law_371 rfl rfl ?_
      refine a_aload_n 0 dL_law_372 rfl rfl ?_
      refine a_iload_n 3 dL_law_373 rfl rfl ?_
      refine a_iconst dL_law_374 (okI_b _ rfl) ?_
      refine a_iadd dL_law_375 ?_
      refine a_xald dL_law_376 h (fun x39 h => ?_)
      refine m_chk_k h (fun hq268 h => ?_)
      refine a_cVi (c := 8) [vi x39] [vi x38] dL_law_377 myX8_sheet mRL_53 mvX8_sheet rfl (by decide) hq268 (fun _ hj => tX8_sheet E l N l2 x39 μ17 _ hq268 hj) (by decide) rfl (Nat.le_of_ble_eq_true rfl) h (fun x40 μ18 hm h => ?_)
      have hq259 := hm.k hq259 (by decide)
      have hq268 := hm.k hq268 (by decide)
      refine a_icmp_eq (tgt := 1036) dL_law_380 rfl h (fun h => ?_) (fun h => ?_)
      ·
        exact a_sub [0, 1, 2, 3] rfl (tL_law_1036 E l _ k18 p18 N l1 l2 l3 μ18 t h)
      ·
        refine a_iconst dL_law_383 (okI_b _ rfl) ?_
        exact a_retzl (Or.inl rfl) dL_law_384 h
    refine a_cs h (fun hx h => ?_) (fun hx9 h => ?_)
    ·
      refine a_tsI (off := 352) (tgt := 385) dL_law_33 (by omega) (by omega) (by rw [hx]; rfl) rfl ?_
      refine a_aload_n 1 dL_law_385 rfl rfl ?_
      refine a_aload_n 0 dL_law_386 rfl rfl ?_
      refine a_iload_n 3 dL_law_387 rfl rfl ?_
      refine a_iconst dL_law_388 (okI_b _ rfl) ?_
      refine a_iadd dL_law_389 ?_
      refine a_xald dL_law_390 h (fun x41 h => ?_)
      refine m_chk_k h (fun hq287 h => ?_)
      refine a_cVi (c := 7) [vi x41] [] dL_law_391 myX7_rolled mRL_54 mvX7_rolled rfl (by decide) hq287 (fun _ hj => tX7_rolled E l N l1 x41 μ _ hq287 hj) (by decide) rfl (Nat.le_of_ble_eq_true rfl) h (fun x42 μ19 hm h => ?_)
      have hq287 := hm.k hq287 (by decide)
      refine a_aload_n 2 dL_law_394 rfl rfl ?_
      refine a_aload_n 0 dL_law_395 rfl rfl ?_
      refine a_iload_n 3 dL_law_396 rfl rfl ?_
      refine a_iconst dL_law_397 (okI_b _ rfl) ?_
      refine a_iadd dL_law_398 ?_
      refine a_xald dL_law_399 h (fun x43 h => ?_)
      refine m_chk_k h (fun hq296 h => ?_)
      refine a_cVi (c := 8) [vi x43] [vi x42] dL_law_400 myX8_rolled mRL_57 mvX8_rolled rfl (by decide) hq296 (fun _ hj => tX8_rolled E l N l2 x43 μ19 _ hq296 hj) (by decide) rfl (Nat.le_of_ble_eq_true rfl) h (fun x44 μ20 hm h => ?_)
      have hq287 := hm.k hq287 (by decide)
      have hq296 := hm.k hq296 (by decide)
      refine a_icmp_eq (tgt := 1036) dL_law_403 rfl h (fun h => ?_) (fun h => ?_)
      ·
        exact a_sub [0, 1, 2, 3] rfl (tL_law_1036 E l _ k18 p18 N l1 l2 l3 μ20 t h)
      ·
        refine a_iconst dL_law_406 (okI_b _ rfl) ?_
        exact a_retzl (Or.inl rfl) dL_law_407 h
    refine a_cs h (fun hx h => ?_) (fun hx10 h => ?_)
    ·
      refine a_tsI (off := 375) (tgt := 408) dL_law_33 (by omega) (by omega) (by rw [hx]; rfl) rfl ?_
      refine a_aload_n 1 dL_law_408 rfl rfl ?_
      refine a_aload_n 0 dL_law_409 rfl rfl ?_
      refine a_iload_n 3 dL_law_410 rfl rfl ?_
      refine a_iconst dL_law_411 (okI_b _ rfl) ?_
      refine a_iadd dL_law_412 ?_
      refine a_xald dL_law_413 h (fun x45 h => ?_)
      refine a_aload_n 0 dL_law_414 rfl rfl ?_
      refine a_iload_n 3 dL_law_415 rfl rfl ?_
      refine a_iconst dL_law_416 (okI_b _ rfl) ?_
      refine a_iadd dL_law_417 ?_
      refine a_xald dL_law_418 h (fun x46 h => ?_)
      refine m_chk_k h (fun hq320 h => ?_)
      refine a_cVi (c := 7) [vi x45, vi x46] [] dL_law_419 myX7_frame mRL_58 mvX7_frame rfl (by decide) hq320 (fun _ hj => tX7_frame E l N l1 x45 x46 μ _ hq320 hj) (by decide) rfl (Nat.le_of_ble_eq_true rfl) h (fun x47 μ21 hm h => ?_)
      have hq320 := hm.k hq320 (by decide)
      refine a_aload_n 2 dL_law_422 rfl rfl ?_
      refine a_aload_n 0 dL_law_423 rfl rfl ?_
      refine a_iload_n 3 dL_law_424 rfl rfl ?_
      refine a_iconst dL_law_425 (okI_b _ rfl) ?_
      refine a_iadd dL_law_426 ?_
      refine a_xald dL_law_427 h (fun x48 h => ?_)
      refine a_aload_n 0 dL_law_428 rfl rfl ?_
      refine a_iload_n 3 dL_law_429 rfl rfl ?_
      refine a_iconst dL_law_430 (okI_b _ rfl) ?_
      refine a_iadd dL_law_431 ?_
      refine a_xald dL_law_432 h (fun x49 h => ?_)
      refine m_chk_k h (fun hq334 h => ?_)
      refine a_cVi (c := 8) [vi x48, vi x49] [vi x47] dL_law_433 myX8_frame mRL_62 mvX8_frame rfl (by decide) hq334 (fun _ hj => tX8_frame E l N l2 x48 x49 μ21 _ hq334 hj) (by decide) rfl (Nat.le_of_ble_eq_true rfl) h (fun x50 μ22 hm h => ?_)
      have hq320 := hm.k hq320 (by decide)
      have hq334 := hm.k hq334 (by decide)
      refine a_icmp_eq (tgt := 1036) dL_law_436 rfl h (fun h => ?_) (fun h => ?_)
      ·
        exact a_sub [0, 1, 2, 3] rfl (tL_law_1036 E l _ k18 p18 N l1 l2 l3 μ22 t h)
      ·
        refine a_iconst dL_law_439 (okI_b _ rfl) ?_
        exact a_retzl (Or.inl rfl) dL_law_440 h
    refine a_cs h (fun hx h => ?_) (fun hx11 h => ?_)
    ·
      refine a_tsI (off := 408) (tgt := 441) dL_law_33 (by omega) (by omega) (by rw [hx]; rfl) rfl ?_
      refine a_aload_n 1 dL_law_441 rfl rfl ?_
      refine a_aload_n 0 dL_law_442 rfl rfl ?_
      refine a_iload_n 3 dL_law_443 rfl rfl ?_
      refine a_iconst dL_law_444 (okI_b _ rfl) ?_
      refine a_iadd dL_law_445 ?_
      refine a_xald dL_law_446 h (fun x51 h => ?_)
      refine m_chk_k h (fun hq353 h => ?_)
      refine a_cVi (c := 7) [vi x51] [] dL_law_447 myX7_points mRL_63 mvX7_points rfl (by decide) hq353 (fun _ hj => tX7_points E l N l1 x51 μ _ hq353 hj) (by decide) rfl (Nat.le_of_ble_eq_true rfl) h (fun x52 μ23 hm h => ?_)
      have hq353 := hm.k hq353 (by decide)
      refine a_aload_n 2 dL_law_450 rfl rfl ?_
      refine a_aload_n 0 dL_law_451 rfl rfl ?_
      refine a_iload_n 3 dL_law_452 rfl rfl ?_
      refine a_iconst dL_law_453 (okI_b _ rfl) ?_
      refine a_iadd dL_law_454 ?_
      refine a_xald dL_law_455 h (fun x53 h => ?_)
      refine m_chk_k h (fun hq362 h => ?_)
      refine a_cVi (c := 8) [vi x53] [vi x52] dL_law_456 myX8_points mRL_66 mvX8_points rfl (by decide) hq362 (fun _ hj => tX8_points E l N l2 x53 μ23 _ hq362 hj) (by decide) rfl (Nat.le_of_ble_eq_true rfl) h (fun x54 μ24 hm h => ?_)
      have hq353 := hm.k hq353 (by decide)
      have hq362 := hm.k hq362 (by decide)
      refine a_icmp_eq (tgt := 1036) dL_law_459 rfl h (fun h => ?_) (fun h => ?_)
      ·
        exact a_sub [0, 1, 2, 3] rfl (tL_law_1036 E l _ k18 p18 N l1 l2 l3 μ24 t h)
      ·
        refine a_iconst dL_law_462 (okI_b _ rfl) ?_
        exact a_retzl (Or.inl rfl) dL_law_463 h
    refine a_cs h (fun hx h => ?_) (fun hx12 h => ?_)
    ·
      refine a_tsI (off := 431) (tgt := 464) dL_law_33 (by omega) (by omega) (by rw [hx]; rfl) rfl ?_
      refine a_aload_n 1 dL_law_464 rfl rfl ?_
      refine m_chk_k h (fun hq376 h => ?_)
      refine a_cVi (c := 7) [] [] dL_law_465 myX7_total mRL_67 mvX7_total rfl (by decide) hq376 (fun _ hj => tX7_total E l N l1 μ _ hq376 hj) (by decide) rfl (Nat.le_of_ble_eq_true rfl) h (fun x55 μ25 hm h => ?_)
      have hq376 := hm.k hq376 (by decide)
      refine a_aload_n 2 dL_law_468 rfl rfl ?_
      refine m_chk_k h (fun hq380 h => ?_)
      refine a_cVi (c := 8) [] [vi x55] dL_law_469 myX8_total mRL_70 mvX8_total rfl (by decide) hq380 (fun _ hj => tX8_total E l N l2 μ25 _ hq380 hj) (by decide) rfl (Nat.le_of_ble_eq_true rfl) h (fun x56 μ26 hm h => ?_)
      have hq376 := hm.k hq376 (by decide)
      have hq380 := hm.k hq380 (by decide)
      refine a_icmp_eq (tgt := 1036) dL_law_472 rfl h (fun h => ?_) (fun h => ?_)
      ·
        exact a_sub [0, 1, 2, 3] rfl (tL_law_1036 E l _ k18 p18 N l1 l2 l3 μ26 t h)
      ·
        refine a_iconst dL_law_475 (okI_b _ rfl) ?_
        exact a_retzl (Or.inl rfl) dL_law_476 h
    refine a_cs h (fun hx h => ?_) (fun hx13 h => ?_)
    ·
      refine a_tsI (off := 444) (tgt := 477) dL_law_33 (by omega) (by omega) (by rw [hx]; rfl) rfl ?_
      refine a_aload_n 1 dL_law_477 rfl rfl ?_
      refine a_aload_n 0 dL_law_478 rfl rfl ?_
      refine a_iload_n 3 dL_law_479 rfl rfl ?_
      refine a_iconst dL_law_480 (okI_b _ rfl) ?_
      refine a_iadd dL_law_481 ?_
      refine a_xald dL_law_482 h (fun x57 h => ?_)
      refine a_if_eq (tgt := 490) dL_law_483 rfl h (fun h => ?_) (fun h => ?_)
      ·
        refine a_iconst dL_law_490 (okI_b _ rfl) ?_
        exact a_sub [0, 1, 2, 3] rfl (tL_law_491 E l _ k18 p18 N l1 l2 l3 0 l1 μ t h)
      ·
        refine a_iconst dL_law_486 (okI_b _ rfl) ?_
        refine a_goto (tgt := 491) dL_law_487 rfl ?_
        exact a_sub [0, 1, 2, 3] rfl (tL_law_491 E l _ k18 p18 N l1 l2 l3 1 l1 μ t h)
    refine a_cs h (fun hx h => ?_) (fun hx14 h => ?_)
    ·
      refine a_tsI (off := 483) (tgt := 516) dL_law_33 (by omega) (by omega) (by rw [hx]; rfl) rfl ?_
      refine a_aload_n 1 dL_law_516 rfl rfl ?_
      refine a_aload_n 0 dL_law_517 rfl rfl ?_
      refine a_iload_n 3 dL_law_518 rfl rfl ?_
      refine a_iconst dL_law_519 (okI_b _ rfl) ?_
      refine a_iadd dL_law_520 ?_
      refine a_xald dL_law_521 h (fun x58 h => ?_)
      refine a_aload_n 0 dL_law_522 rfl rfl ?_
      refine a_iload_n 3 dL_law_523 rfl rfl ?_
      refine a_iconst dL_law_524 (okI_b _ rfl) ?_
      refine a_iadd dL_law_525 ?_
      refine a_xald dL_law_526 h (fun x59 h => ?_)
      refine a_if_eq (tgt := 534) dL_law_527 rfl h (fun h => ?_) (fun h => ?_)
      ·
        refine a_iconst dL_law_534 (okI_b _ rfl) ?_
        exact a_sub [0, 1, 2, 3] rfl (tL_law_535 E l _ k18 p18 N l1 l2 l3 0 x58 l1 μ t h)
      ·
        refine a_iconst dL_law_530 (okI_b _ rfl) ?_
        refine a_goto (tgt := 535) dL_law_531 rfl ?_
        exact a_sub [0, 1, 2, 3] rfl (tL_law_535 E l _ k18 p18 N l1 l2 l3 1 x58 l1 μ t h)
    refine a_cs h (fun hx h => ?_) (fun hx15 h => ?_)
    ·
      refine a_tsI (off := 533) (tgt := 566) dL_law_33 (by omega) (by omega) (by rw [hx]; rfl) rfl ?_
      refine a_aload_n 1 dL_law_566 rfl rfl ?_
      refine a_aload_n 0 dL_law_567 rfl rfl ?_
      refine a_iload_n 3 dL_law_568 rfl rfl ?_
      refine a_iconst dL_law_569 (okI_b _ rfl) ?_
      refine a_iadd dL_law_570 ?_
      refine a_xald dL_law_571 h (fun x60 h => ?_)
      refine a_aload_n 0 dL_law_572 rfl rfl ?_
      refine a_iload_n 3 dL_law_573 rfl rfl ?_
      refine a_iconst dL_law_574 (okI_b _ rfl) ?_
      refine a_iadd dL_law_575 ?_
      refine a_xald dL_law_576 h (fun x61 h => ?_)
      refine a_if_eq (tgt := 584) dL_law_577 rfl h (fun h => ?_) (fun h => ?_)
      ·
        refine a_iconst dL_law_584 (okI_b _ rfl) ?_
        exact a_sub [0, 1, 2, 3] rfl (tL_law_585 E l _ k18 p18 N l1 l2 l3 0 x60 l1 μ t h)
      ·
        refine a_iconst dL_law_580 (okI_b _ rfl) ?_
        refine a_goto (tgt := 585) dL_law_581 rfl ?_
        exact a_sub [0, 1, 2, 3] rfl (tL_law_585 E l _ k18 p18 N l1 l2 l3 1 x60 l1 μ t h)
    refine a_cs h (fun hx h => ?_) (fun hx16 h => ?_)
    ·
      refine a_tsI (off := 582) (tgt := 615) dL_law_33 (by omega) (by omega) (by rw [hx]; rfl) rfl ?_
      refine a_aload_n 1 dL_law_615 rfl rfl ?_
      refine a_aload_n 0 dL_law_616 rfl rfl ?_
      refine a_iload_n 3 dL_law_617 rfl rfl ?_
      refine a_iconst dL_law_618 (okI_b _ rfl) ?_
      refine a_iadd dL_law_619 ?_
      refine a_xald dL_law_620 h (fun x62 h => ?_)
      refine a_aload_n 0 dL_law_621 rfl rfl ?_
      refine a_iload_n 3 dL_law_622 rfl rfl ?_
      refine a_iconst dL_law_623 (okI_b _ rfl) ?_
      refine a_iadd dL_law_624 ?_
      refine a_xald dL_law_625 h (fun x63 h => ?_)
      refine a_if_eq (tgt := 633) dL_law_626 rfl h (fun h => ?_) (fun h => ?_)
      ·
        refine a_iconst dL_law_633 (okI_b _ rfl) ?_
        exact a_sub [0, 1, 2, 3] rfl (tL_law_634 E l _ k18 p18 N l1 l2 l3 0 x62 l1 μ t h)
      ·
        refine a_iconst dL_law_629 (okI_b _ rfl) ?_
        refine a_goto (tgt := 634) dL_law_630 rfl ?_
        exact a_sub [0, 1, 2, 3] rfl (tL_law_634 E l _ k18 p18 N l1 l2 l3 1 x62 l1 μ t h)
    refine a_cs h (fun hx h => ?_) (fun hx17 h => ?_)
    ·
      refine a_tsI (off := 631) (tgt := 664) dL_law_33 (by omega) (by omega) (by rw [hx]; rfl) rfl ?_
      refine a_aload_n 1 dL_law_664 rfl rfl ?_
      refine a_aload_n 0 dL_law_665 rfl rfl ?_
      refine a_iload_n 3 dL_law_666 rfl rfl ?_
      refine a_iconst dL_law_667 (okI_b _ rfl) ?_
      refine a_iadd dL_law_668 ?_
      refine a_xald dL_law_669 h (fun x64 h => ?_)
      refine a_aload_n 0 dL_law_670 rfl rfl ?_
      refine a_iload_n 3 dL_law_671 rfl rfl ?_
      refine a_iconst dL_law_672 (okI_b _ rfl) ?_
      refine a_iadd dL_law_673 ?_
      refine a_xald dL_law_674 h (fun x65 h => ?_)
      refine a_if_eq (tgt := 682) dL_law_675 rfl h (fun h => ?_) (fun h => ?_)
      ·
        refine a_iconst dL_law_682 (okI_b _ rfl) ?_
        exact a_sub [0, 1, 2, 3] rfl (tL_law_683 E l _ k18 p18 N l1 l2 l3 0 x64 l1 μ t h)
      ·
        refine a_iconst dL_law_678 (okI_b _ rfl) ?_
        refine a_goto (tgt := 683) dL_law_679 rfl ?_
        exact a_sub [0, 1, 2, 3] rfl (tL_law_683 E l _ k18 p18 N l1 l2 l3 1 x64 l1 μ t h)
    refine a_cs h (fun hx h => ?_) (fun hx18 h => ?_)
    ·
      refine a_tsI (off := 681) (tgt := 714) dL_law_33 (by omega) (by omega) (by rw [hx]; rfl) rfl ?_
      refine a_aload_n 1 dL_law_714 rfl rfl ?_
      refine a_aload_n 0 dL_law_715 rfl rfl ?_
      refine a_iload_n 3 dL_law_716 rfl rfl ?_
      refine a_iconst dL_law_717 (okI_b _ rfl) ?_
      refine a_iadd dL_law_718 ?_
      refine a_xald dL_law_719 h (fun x66 h => ?_)
      refine a_aload_n 0 dL_law_720 rfl rfl ?_
      refine a_iload_n 3 dL_law_721 rfl rfl ?_
      refine a_iconst dL_law_722 (okI_b _ rfl) ?_
      refine a_iadd dL_law_723 ?_
      refine a_xald dL_law_724 h (fun x67 h => ?_)
      refine a_aload_n 0 dL_law_725 rfl rfl ?_
      refine a_iload_n 3 dL_law_726 rfl rfl ?_
      refine a_iconst dL_law_727 (okI_b _ rfl) ?_
      refine a_iadd dL_law_728 ?_
      refine a_xald dL_law_729 h (fun x68 h => ?_)
      refine a_if_eq (tgt := 737) dL_law_730 rfl h (fun h => ?_) (fun h => ?_)
      ·
        refine a_iconst dL_law_737 (okI_b _ rfl) ?_
        exact a_sub [0, 1, 2, 3] rfl (tL_law_738 E l _ k18 p18 N l1 l2 l3 0 x67 x66 l1 μ t h)
      ·
        refine a_iconst dL_law_733 (okI_b _ rfl) ?_
        refine a_goto (tgt := 738) dL_law_734 rfl ?_
        exact a_sub [0, 1, 2, 3] rfl (tL_law_738 E l _ k18 p18 N l1 l2 l3 1 x67 x66 l1 μ t h)
    refine a_cs h (fun hx h => ?_) (fun hx19 h => ?_)
    ·
      refine a_tsI (off := 740) (tgt := 773) dL_law_33 (by omega) (by omega) (by rw [hx]; rfl) rfl ?_
      refine a_aload_n 1 dL_law_773 rfl rfl ?_
      refine a_aload_n 0 dL_law_774 rfl rfl ?_
      refine a_iload_n 3 dL_law_775 rfl rfl ?_
      refine a_iconst dL_law_776 (okI_b _ rfl) ?_
      refine a_iadd dL_law_777 ?_
      refine a_xald dL_law_778 h (fun x69 h => ?_)
      refine a_aload_n 0 dL_law_779 rfl rfl ?_
      refine a_iload_n 3 dL_law_780 rfl rfl ?_
      refine a_iconst dL_law_781 (okI_b _ rfl) ?_
      refine a_iadd dL_law_782 ?_
      refine a_xald dL_law_783 h (fun x70 h => ?_)
      refine m_chk_k h (fun hq536 h => ?_)
      refine a_cVi (c := 7) [vi x69, vi x70] [] dL_law_784 myX7_falls mRL_100 mvX7_falls rfl (by decide) hq536 (fun _ hj => tX7_falls E l N l1 x69 x70 μ _ hq536 hj) (by decide) rfl (Nat.le_of_ble_eq_true rfl) h (fun x71 μ27 hm h => ?_)
      have hq536 := hm.k hq536 (by decide)
      refine a_aload_n 2 dL_law_787 rfl rfl ?_
      refine a_aload_n 0 dL_law_788 rfl rfl ?_
      refine a_iload_n 3 dL_law_789 rfl rfl ?_
      refine a_iconst dL_law_790 (okI_b _ rfl) ?_
      refine a_iadd dL_law_791 ?_
      refine a_xald dL_law_792 h (fun x72 h => ?_)
      refine a_aload_n 0 dL_law_793 rfl rfl ?_
      refine a_iload_n 3 dL_law_794 rfl rfl ?_
      refine a_iconst dL_law_795 (okI_b _ rfl) ?_
      refine a_iadd dL_law_796 ?_
      refine a_xald dL_law_797 h (fun x73 h => ?_)
      refine m_chk_k h (fun hq550 h => ?_)
      refine a_cVi (c := 8) [vi x72, vi x73] [vi x71] dL_law_798 myX8_falls mRL_103 mvX8_falls rfl (by decide) hq550 (fun _ hj => tX8_falls E l N l2 x72 x73 μ27 _ hq550 hj) (by decide) rfl (Nat.le_of_ble_eq_true rfl) h (fun x74 μ28 hm h => ?_)
      have hq536 := hm.k hq536 (by decide)
      have hq550 := hm.k hq550 (by decide)
      refine a_icmp_eq (tgt := 1036) dL_law_801 rfl h (fun h => ?_) (fun h => ?_)
      ·
        exact a_sub [0, 1, 2, 3] rfl (tL_law_1036 E l _ k18 p18 N l1 l2 l3 μ28 t h)
      ·
        refine a_iconst dL_law_804 (okI_b _ rfl) ?_
        exact a_retzl (Or.inl rfl) dL_law_805 h
    refine a_cs h (fun hx h => ?_) (fun hx20 h => ?_)
    ·
      refine a_tsI (off := 773) (tgt := 806) dL_law_33 (by omega) (by omega) (by rw [hx]; rfl) rfl ?_
      refine a_aload_n 1 dL_law_806 rfl rfl ?_
      refine a_aload_n 0 dL_law_807 rfl rfl ?_
      refine a_iload_n 3 dL_law_808 rfl rfl ?_
      refine a_iconst dL_law_809 (okI_b _ rfl) ?_
      refine a_iadd dL_law_810 ?_
      refine a_xald dL_law_811 h (fun x75 h => ?_)
      refine m_chk_k h (fun hq569 h => ?_)
      refine a_cVi (c := 7) [vi x75] [] dL_law_812 myX7_split mRL_104 mvX7_split rfl (by decide) hq569 (fun _ hj => tX7_split E l N l1 x75 μ _ hq569 hj) (by decide) rfl (Nat.le_of_ble_eq_true rfl) h (fun x76 μ29 hm h => ?_)
      have hq569 := hm.k hq569 (by decide)
      refine a_aload_n 2 dL_law_815 rfl rfl ?_
      refine a_aload_n 0 dL_law_816 rfl rfl ?_
      refine a_iload_n 3 dL_law_817 rfl rfl ?_
      refine a_iconst dL_law_818 (okI_b _ rfl) ?_
      refine a_iadd dL_law_819 ?_
      refine a_xald dL_law_820 h (fun x77 h => ?_)
      refine m_chk_k h (fun hq578 h => ?_)
      refine a_cVi (c := 8) [vi x77] [vi x76] dL_law_821 myX8_split mRL_107 mvX8_split rfl (by decide) hq578 (fun _ hj => tX8_split E l N l2 x77 μ29 _ hq578 hj) (by decide) rfl (Nat.le_of_ble_eq_true rfl) h (fun x78 μ30 hm h => ?_)
      have hq569 := hm.k hq569 (by decide)
      have hq578 := hm.k hq578 (by decide)
      refine a_icmp_eq (tgt := 1036) dL_law_824 rfl h (fun h => ?_) (fun h => ?_)
      ·
        exact a_sub [0, 1, 2, 3] rfl (tL_law_1036 E l _ k18 p18 N l1 l2 l3 μ30 t h)
      ·
        refine a_iconst dL_law_827 (okI_b _ rfl) ?_
        exact a_retzl (Or.inl rfl) dL_law_828 h
    refine a_cs h (fun hx h => ?_) (fun hx21 h => ?_)
    ·
      refine a_tsI (off := 796) (tgt := 829) dL_law_33 (by omega) (by omega) (by rw [hx]; rfl) rfl ?_
      refine a_aload_n 1 dL_law_829 rfl rfl ?_
      refine a_aload_n 0 dL_law_830 rfl rfl ?_
      refine a_iload_n 3 dL_law_831 rfl rfl ?_
      refine a_iconst dL_law_832 (okI_b _ rfl) ?_
      refine a_iadd dL_law_833 ?_
      refine a_xald dL_law_834 h (fun x79 h => ?_)
      refine m_chk_k h (fun hq597 h => ?_)
      refine a_cVi (c := 7) [vi x79] [] dL_law_835 myX7_fewest mRL_108 mvX7_fewest rfl (by decide) hq597 (fun _ hj => tX7_fewest E l N l1 x79 μ _ hq597 hj) (by decide) rfl (Nat.le_of_ble_eq_true rfl) h (fun x80 μ31 hm h => ?_)
      have hq597 := hm.k hq597 (by decide)
      refine a_aload_n 2 dL_law_838 rfl rfl ?_
      refine a_aload_n 0 dL_law_839 rfl rfl ?_
      refine a_iload_n 3 dL_law_840 rfl rfl ?_
      refine a_iconst dL_law_841 (okI_b _ rfl) ?_
      refine a_iadd dL_law_842 ?_
      refine a_xald dL_law_843 h (fun x81 h => ?_)
      refine m_chk_k h (fun hq606 h => ?_)
      refine a_cVi (c := 8) [vi x81] [vi x80] dL_law_844 myX8_fewest mRL_111 mvX8_fewest rfl (by decide) hq606 (fun _ hj => tX8_fewest E l N l2 x81 μ31 _ hq606 hj) (by decide) rfl (Nat.le_of_ble_eq_true rfl) h (fun x82 μ32 hm h => ?_)
      have hq597 := hm.k hq597 (by decide)
      have hq606 := hm.k hq606 (by decide)
      refine a_icmp_eq (tgt := 1036) dL_law_847 rfl h (fun h => ?_) (fun h => ?_)
      ·
        exact a_sub [0, 1, 2, 3] rfl (tL_law_1036 E l _ k18 p18 N l1 l2 l3 μ32 t h)
      ·
        refine a_iconst dL_law_850 (okI_b _ rfl) ?_
        exact a_retzl (Or.inl rfl) dL_law_851 h
    refine a_cs h (fun hx h => ?_) (fun hx22 h => ?_)
    ·
      refine a_tsI (off := 819) (tgt := 852) dL_law_33 (by omega) (by omega) (by rw [hx]; rfl) rfl ?_
      refine a_aload_n 1 dL_law_852 rfl rfl ?_
      refine a_aload_n 0 dL_law_853 rfl rfl ?_
      refine a_iload_n 3 dL_law_854 rfl rfl ?_
      refine a_iconst dL_law_855 (okI_b _ rfl) ?_
      refine a_iadd dL_law_856 ?_
      refine a_xald dL_law_857 h (fun x83 h => ?_)
      refine m_chk_k h (fun hq625 h => ?_)
      refine a_cVi (c := 7) [vi x83] [] dL_law_858 myX7_leaves mRL_112 mvX7_leaves rfl (by decide) hq625 (fun _ hj => tX7_leaves E l N l1 x83 μ _ hq625 hj) (by decide) rfl (Nat.le_of_ble_eq_true rfl) h (fun x84 μ33 hm h => ?_)
      have hq625 := hm.k hq625 (by decide)
      refine a_aload_n 2 dL_law_861 rfl rfl ?_
      refine a_aload_n 0 dL_law_862 rfl rfl ?_
      refine a_iload_n 3 dL_law_863 rfl rfl ?_
      refine a_iconst dL_law_864 (okI_b _ rfl) ?_
      refine a_iadd dL_law_865 ?_
      refine a_xald dL_law_866 h (fun x85 h => ?_)
      refine m_chk_k h (fun hq634 h => ?_)
      refine a_cVi (c := 8) [vi x85] [vi x84] dL_law_867 myX8_leaves mRL_115 mvX8_leaves rfl (by decide) hq634 (fun _ hj => tX8_leaves E l N l2 x85 μ33 _ hq634 hj) (by decide) rfl (Nat.le_of_ble_eq_true rfl) h (fun x86 μ34 hm h => ?_)
      have hq625 := hm.k hq625 (by decide)
      have hq634 := hm.k hq634 (by decide)
      refine a_icmp_eq (tgt := 1036) dL_law_870 rfl h (fun h => ?_) (fun h => ?_)
      ·
        exact a_sub [0, 1, 2, 3] rfl (tL_law_1036 E l _ k18 p18 N l1 l2 l3 μ34 t h)
      ·
        refine a_iconst dL_law_873 (okI_b _ rfl) ?_
        exact a_retzl (Or.inl rfl) dL_law_874 h
    refine a_cs h (fun hx h => ?_) (fun hx23 h => ?_)
    ·
      refine a_tsI (off := 842) (tgt := 875) dL_law_33 (by omega) (by omega) (by rw [hx]; rfl) rfl ?_
      refine a_aload_n 1 dL_law_875 rfl rfl ?_
      refine a_aload_n 0 dL_law_876 rfl rfl ?_
      refine a_iload_n 3 dL_law_877 rfl rfl ?_
      refine a_iconst dL_law_878 (okI_b _ rfl) ?_
      refine a_iadd dL_law_879 ?_
      refine a_xald dL_law_880 h (fun x87 h => ?_)
      refine m_chk_k h (fun hq653 h => ?_)
      refine a_cVi (c := 7) [vi x87] [] dL_law_881 myX7_keep mRL_116 mvX7_keep rfl (by decide) hq653 (fun _ hj => tX7_keep E l N l1 x87 μ _ hq653 hj) (by decide) rfl (Nat.le_of_ble_eq_true rfl) h (fun x88 μ35 hm h => ?_)
      have hq653 := hm.k hq653 (by decide)
      refine a_aload_n 2 dL_law_884 rfl rfl ?_
      refine a_aload_n 0 dL_law_885 rfl rfl ?_
      refine a_iload_n 3 dL_law_886 rfl rfl ?_
      refine a_iconst dL_law_887 (okI_b _ rfl) ?_
      refine a_iadd dL_law_888 ?_
      refine a_xald dL_law_889 h (fun x89 h => ?_)
      refine m_chk_k h (fun hq662 h => ?_)
      refine a_cVi (c := 8) [vi x89] [vi x88] dL_law_890 myX8_keep mRL_119 mvX8_keep rfl (by decide) hq662 (fun _ hj => tX8_keep E l N l2 x89 μ35 _ hq662 hj) (by decide) rfl (Nat.le_of_ble_eq_true rfl) h (fun x90 μ36 hm h => ?_)
      have hq653 := hm.k hq653 (by decide)
      have hq662 := hm.k hq662 (by decide)
      refine a_icmp_eq (tgt := 1036) dL_law_893 rfl h (fun h => ?_) (fun h => ?_)
      ·
        exact a_sub [0, 1, 2, 3] rfl (tL_law_1036 E l _ k18 p18 N l1 l2 l3 μ36 t h)
      ·
        refine a_iconst dL_law_896 (okI_b _ rfl) ?_
        exact a_retzl (Or.inl rfl) dL_law_897 h
    refine a_cs h (fun hx h => ?_) (fun hx24 h => ?_)
    ·
      refine a_tsI (off := 865) (tgt := 898) dL_law_33 (by omega) (by omega) (by rw [hx]; rfl) rfl ?_
      refine a_aload_n 1 dL_law_898 rfl rfl ?_
      refine a_aload_n 0 dL_law_899 rfl rfl ?_
      refine a_iload_n 3 dL_law_900 rfl rfl ?_
      refine a_iconst dL_law_901 (okI_b _ rfl) ?_
      refine a_iadd dL_law_902 ?_
      refine a_xald dL_law_903 h (fun x91 h => ?_)
      refine a_aload_n 0 dL_law_904 rfl rfl ?_
      refine a_iload_n 3 dL_law_905 rfl rfl ?_
      refine a_iconst dL_law_906 (okI_b _ rfl) ?_
      refine a_iadd dL_law_907 ?_
      refine a_xald dL_law_908 h (fun x92 h => ?_)
      refine m_chk_k h (fun hq686 h => ?_)
      refine a_cVi (c := 7) [vi x91, vi x92] [] dL_law_909 myX7_player mRL_120 mvX7_player rfl (by decide) hq686 (fun _ hj => tX7_player E l N l1 x91 x92 μ _ hq686 hj) (by decide) rfl (Nat.le_of_ble_eq_true rfl) h (fun x93 μ37 hm h => ?_)
      have hq686 := hm.k hq686 (by decide)
      refine a_aload_n 2 dL_law_912 rfl rfl ?_
      refine a_aload_n 0 dL_law_913 rfl rfl ?_
      refine a_iload_n 3 dL_law_914 rfl rfl ?_
      refine a_iconst dL_law_915 (okI_b _ rfl) ?_
      refine a_iadd dL_law_916 ?_
      refine a_xald dL_law_917 h (fun x94 h => ?_)
      refine a_aload_n 0 dL_law_918 rfl rfl ?_
      refine a_iload_n 3 dL_law_919 rfl rfl ?_
      refine a_iconst dL_law_920 (okI_b _ rfl) ?_
      refine a_iadd dL_law_921 ?_
      refine a_xald dL_law_922 h (fun x95 h => ?_)
      refine m_chk_k h (fun hq700 h => ?_)
      refine a_cVi (c := 8) [vi x94, vi x95] [vi x93] dL_law_923 myX8_player mRL_123 mvX8_player rfl (by decide) hq700 (fun _ hj => tX8_player E l N l2 x94 x95 μ37 _ hq700 hj) (by decide) rfl (Nat.le_of_ble_eq_true rfl) h (fun x96 μ38 hm h => ?_)
      have hq686 := hm.k hq686 (by decide)
      have hq700 := hm.k hq700 (by decide)
      refine a_icmp_eq (tgt := 1036) dL_law_926 rfl h (fun h => ?_) (fun h => ?_)
      ·
        exact a_sub [0, 1, 2, 3] rfl (tL_law_1036 E l _ k18 p18 N l1 l2 l3 μ38 t h)
      ·
        refine a_iconst dL_law_929 (okI_b _ rfl) ?_
        exact a_retzl (Or.inl rfl) dL_law_930 h
    refine a_cs h (fun hx h => ?_) (fun hx25 h => ?_)
    ·
      refine a_tsI (off := 898) (tgt := 931) dL_law_33 (by omega) (by omega) (by rw [hx]; rfl) rfl ?_
      refine a_aload_n 1 dL_law_931 rfl rfl ?_
      refine a_aload_n 0 dL_law_932 rfl rfl ?_
      refine a_iload_n 3 dL_law_933 rfl rfl ?_
      refine a_iconst dL_law_934 (okI_b _ rfl) ?_
      refine a_iadd dL_law_935 ?_
      refine a_xald dL_law_936 h (fun x97 h => ?_)
      refine a_aload_n 0 dL_law_937 rfl rfl ?_
      refine a_iload_n 3 dL_law_938 rfl rfl ?_
      refine a_iconst dL_law_939 (okI_b _ rfl) ?_
      refine a_iadd dL_law_940 ?_
      refine a_xald dL_law_941 h (fun x98 h => ?_)
      refine m_chk_k h (fun hq724 h => ?_)
      refine a_cVi (c := 7) [vi x97, vi x98] [] dL_law_942 myX7_meet mRL_124 mvX7_meet rfl (by decide) hq724 (fun _ hj => tX7_meet E l N l1 x97 x98 μ _ hq724 hj) (by decide) rfl (Nat.le_of_ble_eq_true rfl) h (fun x99 μ39 hm h => ?_)
      have hq724 := hm.k hq724 (by decide)
      refine a_aload_n 2 dL_law_945 rfl rfl ?_
      refine a_aload_n 0 dL_law_946 rfl rfl ?_
      refine a_iload_n 3 dL_law_947 rfl rfl ?_
      refine a_iconst dL_law_948 (okI_b _ rfl) ?_
      refine a_iadd dL_law_949 ?_
      refine a_xald dL_law_950 h (fun x100 h => ?_)
      refine a_aload_n 0 dL_law_951 rfl rfl ?_
      refine a_iload_n 3 dL_law_952 rfl rfl ?_
      refine a_iconst dL_law_953 (okI_b _ rfl) ?_
      refine a_iadd dL_law_954 ?_
      refine a_xald dL_law_955 h (fun x101 h => ?_)
      refine m_chk_k h (fun hq738 h => ?_)
      refine a_cVi (c := 8) [vi x100, vi x101] [vi x99] dL_law_956 myX8_meet mRL_127 mvX8_meet rfl (by decide) hq738 (fun _ hj => tX8_meet E l N l2 x100 x101 μ39 _ hq738 hj) (by decide) rfl (Nat.le_of_ble_eq_true rfl) h (fun x102 μ40 hm h => ?_)
      have hq724 := hm.k hq724 (by decide)
      have hq738 := hm.k hq738 (by decide)
      refine a_icmp_eq (tgt := 1036) dL_law_959 rfl h (fun h => ?_) (fun h => ?_)
      ·
        exact a_sub [0, 1, 2, 3] rfl (tL_law_1036 E l _ k18 p18 N l1 l2 l3 μ40 t h)
      ·
        refine a_iconst dL_law_962 (okI_b _ rfl) ?_
        exact a_retzl (Or.inl rfl) dL_law_963 h
    refine a_cs h (fun hx h => ?_) (fun hx26 h => ?_)
    ·
      refine a_tsI (off := 931) (tgt := 964) dL_law_33 (by omega) (by omega) (by rw [hx]; rfl) rfl ?_
      refine a_aload_n 1 dL_law_964 rfl rfl ?_
      refine a_aload_n 0 dL_law_965 rfl rfl ?_
      refine a_iload_n 3 dL_law_966 rfl rfl ?_
      refine a_iconst dL_law_967 (okI_b _ rfl) ?_
      refine a_iadd dL_law_968 ?_
      refine a_xald dL_law_969 h (fun x103 h => ?_)
      refine m_chk_k h (fun hq757 h => ?_)
      refine a_cVi (c := 7) [vi x103] [] dL_law_970 myX7_place mRL_128 mvX7_place rfl (by decide) hq757 (fun _ hj => tX7_place E l N l1 x103 μ _ hq757 hj) (by decide) rfl (Nat.le_of_ble_eq_true rfl) h (fun x104 μ41 hm h => ?_)
      have hq757 := hm.k hq757 (by decide)
      refine a_aload_n 2 dL_law_973 rfl rfl ?_
      refine a_aload_n 0 dL_law_974 rfl rfl ?_
      refine a_iload_n 3 dL_law_975 rfl rfl ?_
      refine a_iconst dL_law_976 (okI_b _ rfl) ?_
      refine a_iadd dL_law_977 ?_
      refine a_xald dL_law_978 h (fun x105 h => ?_)
      refine m_chk_k h (fun hq766 h => ?_)
      refine a_cVi (c := 8) [vi x105] [vi x104] dL_law_979 myX8_place mRL_131 mvX8_place rfl (by decide) hq766 (fun _ hj => tX8_place E l N l2 x105 μ41 _ hq766 hj) (by decide) rfl (Nat.le_of_ble_eq_true rfl) h (fun x106 μ42 hm h => ?_)
      have hq757 := hm.k hq757 (by decide)
      have hq766 := hm.k hq766 (by decide)
      refine a_icmp_eq (tgt := 1036) dL_law_982 rfl h (fun h => ?_) (fun h => ?_)
      ·
        exact a_sub [0, 1, 2, 3] rfl (tL_law_1036 E l _ k18 p18 N l1 l2 l3 μ42 t h)
      ·
        refine a_iconst dL_law_985 (okI_b _ rfl) ?_
        exact a_retzl (Or.inl rfl) dL_law_986 h
    refine a_cs h (fun hx h => ?_) (fun hx27 h => ?_)
    ·
      refine a_tsI (off := 954) (tgt := 987) dL_law_33 (by omega) (by omega) (by rw [hx]; rfl) rfl ?_
      refine a_aload_n 1 dL_law_987 rfl rfl ?_
      refine m_chk_k h (fun hq780 h => ?_)
      refine a_cVi (c := 7) [] [] dL_law_988 myX7_image mRL_132 mvX7_image rfl (by decide) hq780 (fun _ hj => tX7_image E l N l1 μ _ hq780 hj) (by decide) rfl (Nat.le_of_ble_eq_true rfl) h (fun x107 μ43 hm h => ?_)
      have hq780 := hm.k hq780 (by decide)
      refine a_aload_n 2 dL_law_991 rfl rfl ?_
      refine m_chk_k h (fun hq784 h => ?_)
      refine a_cVi (c := 8) [] [vi x107] dL_law_992 myX8_image mRL_135 mvX8_image rfl (by decide) hq784 (fun _ hj => tX8_image E l N l2 μ43 _ hq784 hj) (by decide) rfl (Nat.le_of_ble_eq_true rfl) h (fun x108 μ44 hm h => ?_)
      have hq780 := hm.k hq780 (by decide)
      have hq784 := hm.k hq784 (by decide)
      refine a_icmp_eq (tgt := 1036) dL_law_995 rfl h (fun h => ?_) (fun h => ?_)
      ·
        exact a_sub [0, 1, 2, 3] rfl (tL_law_1036 E l _ k18 p18 N l1 l2 l3 μ44 t h)
      ·
        refine a_iconst dL_law_998 (okI_b _ rfl) ?_
        exact a_retzl (Or.inl rfl) dL_law_999 h
    refine a_cs h (fun hx h => ?_) (fun hx28 h => ?_)
    ·
      refine a_tsI (off := 967) (tgt := 1000) dL_law_33 (by omega) (by omega) (by rw [hx]; rfl) rfl ?_
      refine a_aload_n 1 dL_law_1000 rfl rfl ?_
      refine a_aload_n 0 dL_law_1001 rfl rfl ?_
      refine a_iload_n 3 dL_law_1002 rfl rfl ?_
      refine a_iconst dL_law_1003 (okI_b _ rfl) ?_
      refine a_iadd dL_law_1004 ?_
      refine a_xald dL_law_1005 h (fun x109 h => ?_)
      refine m_chk_k h (fun hq803 h => ?_)
      refine a_cVi (c := 7) [vi x109] [] dL_law_1006 myX7_octet mRL_136 mvX7_octet rfl (by decide) hq803 (fun _ hj => tX7_octet E l N l1 x109 μ _ hq803 hj) (by decide) rfl (Nat.le_of_ble_eq_true rfl) h (fun x110 μ45 hm h => ?_)
      have hq803 := hm.k hq803 (by decide)
      refine a_aload_n 2 dL_law_1009 rfl rfl ?_
      refine a_aload_n 0 dL_law_1010 rfl rfl ?_
      refine a_iload_n 3 dL_law_1011 rfl rfl ?_
      refine a_iconst dL_law_1012 (okI_b _ rfl) ?_
      refine a_iadd dL_law_1013 ?_
      refine a_xald dL_law_1014 h (fun x111 h => ?_)
      refine m_chk_k h (fun hq812 h => ?_)
      refine a_cVi (c := 8) [vi x111] [vi x110] dL_law_1015 myX8_octet mRL_139 mvX8_octet rfl (by decide) hq812 (fun _ hj => tX8_octet E l N l2 x111 μ45 _ hq812 hj) (by decide) rfl (Nat.le_of_ble_eq_true rfl) h (fun x112 μ46 hm h => ?_)
      have hq803 := hm.k hq803 (by decide)
      have hq812 := hm.k hq812 (by decide)
      refine a_icmp_eq (tgt := 1036) dL_law_1018 rfl h (fun h => ?_) (fun h => ?_)
      ·
        exact a_sub [0, 1, 2, 3] rfl (tL_law_1036 E l _ k18 p18 N l1 l2 l3 μ46 t h)
      ·
        refine a_iconst dL_law_1021 (okI_b _ rfl) ?_
        exact a_retzl (Or.inl rfl) dL_law_1022 h
    refine a_cs h (fun hx h => ?_) (fun hx29 h => ?_)
    ·
      refine a_tsI (off := 990) (tgt := 1023) dL_law_33 (by omega) (by omega) (by rw [hx]; rfl) rfl ?_
      refine a_aload_n 1 dL_law_1023 rfl rfl ?_
      refine m_chk_k h (fun hq826 h => ?_)
      refine a_cVi (c := 7) [] [] dL_law_1024 myX7_on mRL_140 mvX7_on rfl (by decide) hq826 (fun _ hj => tX7_on E l N l1 μ _ hq826 hj) (by decide) rfl (Nat.le_of_ble_eq_true rfl) h (fun x113 μ47 hm h => ?_)
      have hq826 := hm.k hq826 (by decide)
      refine a_aload_n 2 dL_law_1027 rfl rfl ?_
      refine m_chk_k h (fun hq830 h => ?_)
      refine a_cVi (c := 8) [] [vi x113] dL_law_1028 myX8_on mRL_143 mvX8_on rfl (by decide) hq830 (fun _ hj => tX8_on E l N l2 μ47 _ hq830 hj) (by decide) rfl (Nat.le_of_ble_eq_true rfl) h (fun x114 μ48 hm h => ?_)
      have hq826 := hm.k hq826 (by decide)
      have hq830 := hm.k hq830 (by decide)
      refine a_icmp_eq (tgt := 1036) dL_law_1031 rfl h (fun h => ?_) (fun h => ?_)
      ·
        exact a_sub [0, 1, 2, 3] rfl (tL_law_1036 E l _ k18 p18 N l1 l2 l3 μ48 t h)
      ·
        refine a_iconst dL_law_1034 (okI_b _ rfl) ?_
        exact a_retzl (Or.inl rfl) dL_law_1035 h
    refine a_tsO (tgt := 1036) dL_law_33 (by omega) rfl ?_
    exact a_sub [0, 1, 2, 3] rfl (tL_law_1036 E l _ k18 p18 N l1 l2 l3 μ t h)
theorem tL_law_18 {nm : String} (E : m_E) (l : Launch) (z : Nat × Nat) (N : Nat) : ∀ (n : Nat) (l1 l2 l3 : Int) (μ : Mm) (t : Int × Mm), jL_law_18 E N n l1 l2 l3 μ = some t → aL_law nm E l 90 z 18 [(0, vr (-6)), (1, vr l1), (2, vr l2), (3, vi l3)] [] μ (rI t)
  | 0, _, _, _, _, _, h => by cases h
  | n + 1, l1, l2, l3, μ, t, h => tL_law_18b E l z (jL_law_18 E N n) (tL_law_18 E l z N n) N l1 l2 l3 μ t h
theorem tL_law {nm : String} (E : m_E) (l : Launch) (z : Nat × Nat) (N : Nat) (μ : Mm) (t : Int × Mm) (h : jL_law E N μ = some t) : aL_law nm E l 90 z 0 [(0, vr (-6))] [] μ (rI t) := by
  unfold jL_law at h
  refine a_new (c := 7) dL_law_0 (by decide) ng7 wRL_7 in7 ii7 h (fun μ1 hm hq0 h => ?_)
  refine a_dup dL_law_3 rfl ?_
  refine a_cIv [] [vr (m_sz μ : Int)] dL_law_4 myX7_init mRL_9 miX7_init rfl hq0 (by decide) (fun _ hj => tX7_init E l N (m_sz μ : Int) μ1 _ hq0 hj) (by decide) rfl (Nat.le_of_ble_eq_true rfl) h (fun μ2 hm h => ?_)
  have hq0 := hm.k hq0 (by decide)
  refine a_astore_n (L' := [(1, vr (m_sz μ : Int)), (0, vr (-6))]) dL_law_7 rfl (by decide) rfl ?_
  refine a_new (c := 8) dL_law_8 (by decide) ng8 wRL_10 in8 ii8 h (fun μ3 hm hq5 h => ?_)
  have hq0 := hm.k hq0 (by decide)
  refine a_dup dL_law_11 rfl ?_
  refine a_cIv [] [vr (m_sz μ2 : Int)] dL_law_12 myX8_init mRL_12 miX8_init rfl hq5 (by decide) (fun _ hj => tX8_init E l N (m_sz μ2 : Int) μ3 _ hq5 hj) (by decide) rfl (Nat.le_of_ble_eq_true rfl) h (fun μ4 hm h => ?_)
  have hq0 := hm.k hq0 (by decide)
  have hq5 := hm.k hq5 (by decide)
  refine a_astore_n (L' := [(2, vr (m_sz μ2 : Int)), (1, vr (m_sz μ : Int)), (0, vr (-6))]) dL_law_15 rfl (by decide) rfl ?_
  refine a_iconst dL_law_16 (okI_b _ rfl) ?_
  refine a_istore_n (L' := [(3, vi 0), (2, vr (m_sz μ2 : Int)), (1, vr (m_sz μ : Int)), (0, vr (-6))]) dL_law_17 rfl (by decide) rfl ?_
  exact a_sub [3, 2, 1, 0] rfl (tL_law_18 E l _ N N (m_sz μ : Int) (m_sz μ2 : Int) 0 μ4 t h)
