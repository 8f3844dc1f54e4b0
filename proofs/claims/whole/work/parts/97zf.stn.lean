/-! ===== PURE: the reference reads statements: joins, worth, handicap ===== -/
theorem lookB {N L : Nat} (hL : L ≤ 700) : ∀ (k n p : Nat) {μ : Mm}, L ≤ p + k → k < n → KR μ → m_gt μ 50 3 = L → m_gt μ 50 2 = p → ∃ x μ', jX8_look_0 N n 50 μ = some (x, μ') ∧ Fr [] [(50, 2)] μ μ'
  | k, 0, p, μ, hk, hn, _, _, _ => absurd hn (by omega)
  | k, n + 1, p, μ, hk, hn, hK, h3, h2 => by
    show ∃ x μ', jX8_look_0b (jX8_look_0 N n) N 50 μ = some (x, μ') ∧ _
    unfold jX8_look_0b jX8_look_52 jX8_look_76 jX8_look_39
    rw [h3, h2]
    by_cases c : L ≤ p
    · rw [if_pos (by omega), if_pos (by omega)]
      exact ⟨-1, μ, rfl, Fr.rf0 _ _ _⟩
    · rw [if_neg (by omega), if_neg (by omega), r_50_0 hK, ald_e (k_51 hK) (by omega) (by omega), ob_e, ob_e, ob_e]
      have f1 : Fr [] [(50, 2)] μ (m_st μ 50 2 (p + 1 : Nat)) := Fr.stI (Fr.rf0 _ _ _) (by simp)
      obtain ⟨k', rfl⟩ : ∃ k', k = k' + 1 := ⟨k - 1, by omega⟩
      obtain ⟨x, μ', r1, r2⟩ := lookB (N := N) hL k' n (p + 1) (μ := m_st μ 50 2 (p + 1 : Nat)) (by omega) (by omega) (f1.KR hK (by decide)) (by rw [gt_i _ _ _ (by decide)]; exact h3) (gt_same _ _ _ _)
      have e : i_add (p : Int) 1 = ((p + 1 : Nat) : Int) := by rw [i_add_e (by omega) (by omega)]; omega
      rw [bnd_e, e, r1]
      by_cases c1 : m_gt μ 51 p = 10
      · rw [if_pos c1]; exact ⟨x, μ', rfl, f1.trI r2⟩
      · rw [if_neg c1]
        by_cases c2 : m_gt μ 51 p = 32
        · rw [if_neg (not_not_intro c2)]; exact ⟨x, μ', rfl, f1.trI r2⟩
        · rw [if_pos c2]; exact ⟨_, μ, rfl, Fr.rf0 _ _ _⟩
theorem PP.len {T : List Int} {q : Nat} {μ : Mm} (h : PP T q μ) : m_gt μ 50 3 = T.length := by
  obtain ⟨p, e, h1, h2, h3, h4⟩ := h
  exact h3.1
/-- joins behind a fault -/
theorem joiB {N : Nat} (hN : 1000000 ≤ N) {L : Nat} (hL : L ≤ 700) {a : Int} {μ : Mm} (hK : KR μ) (h3 : m_gt μ 50 3 = L) (h2 : 0 ≤ m_gt μ 50 2) {e : Int × Nat} (hF : FM e μ) : ∃ μ', (b2 (jX8_look N 50 μ) fun x2 μ2 => bnd (m_gt μ2 50 2) fun x3 => b2 (jX8_number N 50 0 8 μ2) fun x4 μ3 => if ¬ (m_gt μ3 50 5) = 0 then (jX8_joinsTold_44 N 50 a x4 μ3) else (if ¬ a = x4 then (jX8_joinsTold_44 N 50 a x4 μ3) else ((jX8_fail N 50 2 x3 μ3).bind fun μ4 => jX8_joinsTold_44 N 50 a x4 μ4))) = some μ' ∧ FM e μ' ∧ Fr [] [(50, 2)] μ μ' := by
  obtain ⟨x, μ2, r1, r2⟩ := lookB (N := N) hL (L - (m_gt μ 50 2).toNat) N (m_gt μ 50 2).toNat (by omega) (by omega) hK h3 (by omega)
  have r1 : jX8_look N 50 μ = some (x, μ2) := r1
  have F2 : FM e μ2 := ⟨by rw [r2.2.2 50 5 (by decide) (by decide)]; exact hF.1, by rw [r2.2.2 50 6 (by decide) (by decide)]; exact hF.2.1, hF.2.2⟩
  refine ⟨μ2, ?_, F2, r2⟩
  unfold jX8_joinsTold_44
  rw [r1, b2_e, bnd_e, num_b F2.bad, b2_e, if_pos F2.bad, if_neg F2.bad]
theorem DM.join {G : Gm} {a b : Int} {μ : Mm} (h : DM G μ) (ha : 0 ≤ a ∧ a ≤ 8) (hb : 0 ≤ b ∧ b ≤ 8) : DM (gjoin G a b) (m_st (m_st μ 85 (9 * a + b) 1) 85 (9 * b + a) 1) := by
  obtain ⟨⟨h1, h2, h3, h4, h5, h6, h7⟩, ⟨r1, r2, r3, r4⟩, hj⟩ := h
  have o : ∀ r i : Int, r ≠ 85 → m_gt (m_st (m_st μ 85 (9 * a + b) 1) 85 (9 * b + a) 1) r i = m_gt μ r i := fun r i hn => by rw [gt_r _ _ _ _ hn, gt_r _ _ _ _ hn]
  refine ⟨⟨by rw [o _ _ (by decide)]; exact h1, by rw [o _ _ (by decide)]; exact h2, by rw [o _ _ (by decide)]; exact h3, by rw [o _ _ (by decide)]; exact h4, by rw [o _ _ (by decide)]; exact h5, by rw [o _ _ (by decide)]; exact h6, by rw [o _ _ (by decide)]; exact h7⟩, ⟨r1.ext (fun i => o _ _ (by decide)), r2.ext (fun i => o _ _ (by decide)), r3.ext (fun i => o _ _ (by decide)), r4.ext (fun i => o _ _ (by decide))⟩, fun x y x0 x1 y0 y1 => ?_⟩
  have g : gJ (gjoin G a b) x y = (gJ G x y || decide (x = a ∧ y = b) || decide (x = b ∧ y = a)) := rfl
  rw [g, m_gt_st]
  by_cases c1 : x = b ∧ y = a
  · rw [if_pos ⟨rfl, by omega⟩, decide_eq_true c1, Bool.or_true, if_pos rfl]
  · rw [if_neg (by omega), m_gt_st]
    by_cases c2 : x = a ∧ y = b
    · rw [if_pos ⟨rfl, by omega⟩, decide_eq_true c2, Bool.or_true, Bool.true_or, if_pos rfl]
    · rw [if_neg (by omega), hj x y x0 x1 y0 y1, decide_eq_false c1, decide_eq_false c2, Bool.or_false, Bool.or_false]
theorem joi_M {N : Nat} (hN : 1000000 ≤ N) {T : List Int} (hT : TB T) {q : Nat} {G : Gm} (hI : IN T q) {μ : Mm} (h : MG T q G μ) (K : Mm → Option Mm) : SMR K T μ ((jX8_joinsTold N 50 μ).bind K) (joiS T G q) := by
  have hl := hT.1
  unfold jX8_joinsTold joiS
  cases hn : numb T 0 8 q with
  | inl e =>
    obtain ⟨v, μ1, a1, a2, a2', a3⟩ := numM_0 (N := N) hN hT (by decide) (by decide) hI hn h.1.1 h.1.2.1
    have K1 : KR μ1 := a3.KR h.1.1 (by decide)
    obtain ⟨μ2, b1, b2', b3⟩ := joiB (N := N) hN hl (a := v) K1 (by rw [a3.2.2 50 3 (by decide) (by decide)]; exact h.1.2.1.len) a2' a2
    exact ⟨μ2, by rw [a1, b2_e, b1, ob_e], b2', (lx6 a3).df.trI (lx2 b3).df⟩
  | inr p =>
    obtain ⟨a, q1⟩ := p
    have i1 := numb_IN hn
    have ia1 := i1.2.2.1
    have ia2 := i1.2.2.2.1
    obtain ⟨μ1, a1, a2, a3, a4⟩ := numM_1 (N := N) hN hT (by decide) (by decide) hI hn h.1.1 h.1.2.1
    have s := h.lx a2 a4
    obtain ⟨μ2, b1, b2', b3, b4⟩ := look_M (N := N) hN hT s.1.1 s.1.2.1
    have s2 := s.l2 (b2'.pm i1.1) b4
    rw [a1, b2_e, b1, b2_e, bnd_e, b2'.at]
    refine SMR.fr ?_ ((lx4 a4).df.trI (lx2 b4).df)
    show SMR K T μ2 _ (bN (numb T 0 8 q1) _)
    unfold bN
    cases hm : numb T 0 8 q1 with
    | inl e =>
      obtain ⟨v, μ3, c1, c2, _, c3⟩ := numM_0 (N := N) hN hT (by decide) (by decide) i1.1 hm s2.1.1 s2.1.2.1
      refine ⟨μ3, ?_, c2, (lx6 c3).df⟩
      unfold jX8_joinsTold_44
      rw [c1, b2_e, if_pos c2.bad, if_neg c2.bad, ob_e]
    | inr p =>
      obtain ⟨b, q2⟩ := p
      have i2 := numb_IN hm
      have ib1 := i2.2.2.1
      have ib2 := i2.2.2.2.1
      obtain ⟨μ3, c1, c2, c3, c4⟩ := numM_1 (N := N) hN hT (by decide) (by decide) i1.1 hm s2.1.1 s2.1.2.1
      have s3 := s2.lx c2 c4
      rw [c1, b2_e, if_neg (not_not_intro c2.b0)]
      refine SMR.fr ?_ (lx4 c4).df
      show SMR K T μ3 _ (if a = b then Sum.inl (2, q1) else Sum.inr (q2, gjoin G a b))
      unfold jX8_joinsTold_44
      by_cases c : a = b
      · rw [if_pos c, if_neg (not_not_intro c), failM c2.b0, ob_e]
        have F := FM_of (k := 2) (p := q1) (by decide) μ3
        refine ⟨_, by rw [if_neg F.bad, ob_e], F, (lx56 (FM_fr 2 q1 μ3)).df⟩
      · have D := s3.2.join ⟨ia1, ia2⟩ ⟨ib1, ib2⟩
        have f1 := DF.st (show dP 85 (9 * a + b) by unfold dP; omega) μ3 1
        have f2 := f1.trI (DF.st (show dP 85 (9 * b + a) by unfold dP; omega) (m_st μ3 85 (9 * a + b) 1) 1)
        have K1 := f1.KR s3.1.1
        have g : ∀ x y : Int, x ≠ 85 → m_gt (m_st (m_st μ3 85 (9 * a + b) 1) 85 (9 * b + a) 1) x y = m_gt μ3 x y := fun x y hn => by rw [gt_r _ _ _ _ hn, gt_r _ _ _ _ hn]
        rw [if_neg c, if_pos c, if_pos c2.b0]
        refine ⟨m_st (m_st μ3 85 (9 * a + b) 1) 85 (9 * b + a) 1, ?_, ⟨⟨f2.KR s3.1.1, s3.1.2.1.fr ⟨fun r hr j => ?_, fun p hp => ?_⟩, ⟨?_, ?_⟩, s3.1.2.2.2.df f2⟩, D⟩, f2⟩
        · rw [r_50_42 s3.1.1, i_mul_e (by omega) (by omega), i_add_e (by omega) (by omega), ast_e (k_85 s3.1.1) (by omega) (by omega), ob_e, r_50_42 K1, i_mul_e (by omega) (by omega), i_add_e (by omega) (by omega), ast_e (k_85 K1) (by omega) (by omega), ob_e, ob_e]
        · rw [List.mem_singleton.mp hr]; exact g _ _ (by decide)
        · exact g _ _ (by simp at hp; rcases hp with rfl | rfl | rfl | rfl | rfl <;> simp)
        · rw [g _ _ (by decide)]; exact s3.1.2.2.1.1
        · exact s3.1.2.2.1.2.ext (fun j => g _ _ (by decide))
/-- a sum is read at a statement's own level -/
theorem rsum_M {N : Nat} (hN : 1000000 ≤ N) {T : List Int} (hT : TB T) {q : Nat} {C : List Int} (hI : IN T q) (hC : C.length + 5 ≤ q) {μ : Mm} (h : ML T q C μ) : MR T [] 0 0 μ (jX8_readsSum N 50 μ) (sumS T 7 0 q C) := by
  have f3 : RF μ (m_st (m_st (m_st μ 50 46 0) 50 47 0) 50 49 0) := (((RF.rf μ).stI (by unfold mpP; omega)).stI (by unfold mpP; omega)).stI (by unfold mpP; omega)
  have f3' : Fr [] [(50, 46), (50, 47), (50, 49)] μ (m_st (m_st (m_st μ 50 46 0) 50 47 0) 50 49 0) := ((Fr.stI (Fr.rf0 _ _ _) (by simp)).stI (by simp)).stI (by simp)
  have m3 : MS T q C [] 0 0 (m_st (m_st (m_st μ 50 46 0) 50 47 0) 50 49 0) := by
    refine ⟨mp_KR f3 h.1, h.2.1.fr (f3'.ag (by decide)), ⟨⟨?_, ?_⟩, ⟨?_, Row.nil _ _ _⟩, ?_, gt_same _ _ _ _⟩, h.2.2.2.lx f3⟩
    · rw [f3'.2.2 50 44 (by decide) (by decide)]; exact h.2.2.1.1
    · exact h.2.2.1.2.ext (fun i => f3'.2.2 86 i (by decide) (by simp))
    · rw [gt_i _ _ _ (by decide), gt_i _ _ _ (by decide), gt_same]; rfl
    · rw [gt_i _ _ _ (by decide), gt_same]; rfl
  have o := sums_M (N := N) hN hT (d := 0) (by omega) (W := []) (fun x hx => by cases hx) hI (by simpa using hC) m3
  have e : jX8_readsSum N 50 μ = jX8_sums N 50 (m_st (m_st (m_st μ 50 46 0) 50 47 0) 50 49 0) := by
    unfold jX8_readsSum jX8_readsSum_26
    rw [bnd_e, bnd_e, bnd_e, if_neg (not_not_intro m3.2.1.b0)]
    match jX8_sums N 50 (m_st (m_st (m_st μ 50 46 0) 50 47 0) 50 49 0) with
    | none => rfl
    | some μ4 => rfl
  rw [e]
  match hx : sumS T 7 0 q C, o with
  | Sum.inl e', o =>
    obtain ⟨μ', a, b, c⟩ := o
    exact ⟨μ', a, b, f3.trI c⟩
  | Sum.inr (q1, C1), o =>
    obtain ⟨μ', a, b, c⟩ := o
    exact ⟨μ', a, b, f3.trI c⟩
theorem MS.ml {T : List Int} {q : Nat} {C W : List Int} {d : Nat} {b : Int} {μ : Mm} (h : MS T q C W d b μ) : ML T q C μ := ⟨h.1, h.2.1, h.2.2.1.1, h.2.2.2⟩
/-- a draft's cell is written amid a reading -/
theorem MS.dst {T : List Int} {q : Nat} {C W : List Int} {d : Nat} {b : Int} {μ : Mm} {r i v : Int} (hr : 74 ≤ r ∧ r ≤ 85) (hp : dP r i) (h : MS T q C W d b μ) : MS T q C W d b (m_st μ r i v) := by
  have f := DF.st hp μ v
  have g : ∀ a b : Int, (a < 74 ∨ 85 < a) → m_gt (m_st μ r i v) a b = m_gt μ a b := fun a b hn => gt_r _ _ _ _ (by omega)
  refine ⟨f.KR h.1, h.2.1.fr ⟨fun a ha j => ?_, fun p hp => ?_⟩, h.2.2.1.ag ⟨fun a ha j => ?_, fun p hp => ?_⟩, h.2.2.2.df f⟩
  · rw [List.mem_singleton.mp ha]; exact g _ _ (by omega)
  · exact g _ _ (by simp at hp; rcases hp with rfl | rfl | rfl | rfl | rfl <;> simp)
  · exact g _ _ (by simp at ha; omega)
  · exact g _ _ (by simp at hp; rcases hp with rfl | rfl | rfl | rfl <;> simp)
theorem MG.mst {T : List Int} {q : Nat} {G : Gm} {μ : Mm} {r i v : Int} (hr : 74 ≤ r ∧ r ≤ 85) (hp : dP r i) (h : ML T q (gC G) μ) : ML T q (gC G) (m_st μ r i v) := by
  have f := DF.st hp μ v
  have g : ∀ a b : Int, (a < 74 ∨ 85 < a) → m_gt (m_st μ r i v) a b = m_gt μ a b := fun a b hn => gt_r _ _ _ _ (by omega)
  refine ⟨f.KR h.1, h.2.1.fr ⟨fun a ha j => ?_, fun p hp => ?_⟩, ⟨?_, ?_⟩, h.2.2.2.df f⟩
  · rw [List.mem_singleton.mp ha]; exact g _ _ (by omega)
  · exact g _ _ (by simp at hp; rcases hp with rfl | rfl | rfl | rfl | rfl <;> simp)
  · rw [g _ _ (by omega)]; exact h.2.2.1.1
  · exact h.2.2.1.2.ext (fun j => g _ _ (by omega))
theorem hca_M {N : Nat} (hN : 1000000 ≤ N) {T : List Int} (hT : TB T) {q : Nat} {G : Gm} (hI : IN T q) (hC : (gC G).length + 5 ≤ q) {μ : Mm} (h : MG T q G μ) (K : Mm → Option Mm) : SMR K T μ ((m_ast 100 μ (m_gt μ 50 40) 0 (m_gt μ 50 44)).bind fun μ10 => (jX8_readsSum N 50 μ10).bind fun μ11 => (m_ast 100 μ11 (m_gt μ11 50 41) 0 (m_gt μ11 50 44)).bind fun μ12 => K μ12) (hcaS T G q) := by
  have d83 : dP 83 0 := by unfold dP; omega
  have d84 : dP 84 0 := by unfold dP; omega
  have m1 := MG.mst (v := ((gC G).length : Int)) (by omega) d83 h.1
  have o := rsum_M (N := N) hN hT hI hC m1
  rw [r_50_40 h.1.1, ast_e (k_83 h.1.1) (by decide) (by decide), ob_e, h.1.2.2.1.1]
  unfold hcaS
  match hx : sumS T 7 0 q (gC G), o with
  | Sum.inl e, o =>
    obtain ⟨μ2, a, b, c⟩ := o
    have K2 : KR μ2 := mp_KR c m1.1
    refine ⟨m_st μ2 84 0 (m_gt μ2 50 44), ?_, b.fm.st (by decide), (DF.st d83 μ _).trI (c.df.trI (DF.st d84 μ2 _))⟩
    rw [a, ob_e, r_50_41 K2, ast_e (k_84 K2) (by decide) (by decide), ob_e]
  | Sum.inr (q1, C1), o =>
    obtain ⟨μ2, a, b, c⟩ := o
    have b2' := b.dst (v := (C1.length : Int)) (by omega) d84
    refine ⟨m_st μ2 84 0 (C1.length : Int), ?_, ⟨b2'.ml, ?_⟩, (DF.st d83 μ _).trI (c.df.trI (DF.st d84 μ2 _))⟩
    · rw [a, ob_e, r_50_41 b.1, ast_e (k_84 b.1) (by decide) (by decide), ob_e, b.2.2.1.1.1]
    · obtain ⟨⟨h1, h2, h3, h4, h5, h6, h7⟩, ⟨r1, r2, r3, r4⟩, hj⟩ := h.2
      have g : ∀ r i : Int, 74 ≤ r → r ≤ 85 → r ≠ 83 → r ≠ 84 → m_gt (m_st μ2 84 0 (C1.length : Int)) r i = m_gt μ r i := fun r i z1 z2 z3 z4 => by
        rw [gt_r _ _ _ _ z4, c.2.2 r i (by unfold mpP; omega), gt_r _ _ _ _ z3]
      refine ⟨⟨by rw [g _ _ (by decide) (by decide) (by decide) (by decide)]; exact h1, by rw [g _ _ (by decide) (by decide) (by decide) (by decide)]; exact h2, by rw [g _ _ (by decide) (by decide) (by decide) (by decide)]; exact h3, by rw [g _ _ (by decide) (by decide) (by decide) (by decide)]; exact h4, by rw [g _ _ (by decide) (by decide) (by decide) (by decide)]; exact h5, ?_, gt_same _ _ _ _⟩, ⟨r1.ext (fun i => g _ _ (by decide) (by decide) (by decide) (by decide)), r2.ext (fun i => g _ _ (by decide) (by decide) (by decide) (by decide)), r3.ext (fun i => g _ _ (by decide) (by decide) (by decide) (by decide)), r4.ext (fun i => g _ _ (by decide) (by decide) (by decide) (by decide))⟩, fun x y x0 x1 y0 y1 => ?_⟩
      · rw [gt_r _ _ _ _ (by decide), c.2.2 83 0 (by unfold mpP; omega), gt_same]; rfl
      · rw [g _ _ (by decide) (by decide) (by decide) (by decide)]; exact hj x y x0 x1 y0 y1
