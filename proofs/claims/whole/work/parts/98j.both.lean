/-! ===== PURE: the start stands ===== -/
def S0 : St := (G0, [], (fun _ => false), [], (fun _ => []), [], ((0 : Int), (-1 : Int)))
theorem okZ_e {μ : Mm} {r : Int} {n : Nat} (h : okZ μ (r, n) = true) : ∀ i : Int, 0 ≤ i → i < n → m_gt μ r i = 0 := fun i h0 h1 => by
  have := of_decide_eq_true (List.all_eq_true.mp h i.toNat (List.mem_range.mpr (by dsimp only; omega)))
  dsimp only at this
  rw [show ((i.toNat : Nat) : Int) = i by omega] at this
  exact this
theorem start_ok {μ : Mm} (h1 : okS1 μ = true) (h2 : okS2 μ = true) (h3 : okS3 μ = true) (h4 : okZ μ (43, 1498) = true) (h5 : okZ μ (12, 1280) = true) : Both S0 μ := by
  unfold okS1 at h1
  rw [Bool.and_eq_true, Bool.and_eq_true, Bool.and_eq_true] at h1
  obtain ⟨⟨⟨a1, a2⟩, a3⟩, a4⟩ := h1
  have hsz := of_decide_eq_true a3
  have hsl := of_decide_eq_true a4
  have hK : KR μ := ⟨fun q hq => of_decide_eq_true (List.all_eq_true.mp a1 q hq), fun q hq => of_decide_eq_true (List.all_eq_true.mp a2 q hq), by omega⟩
  unfold okS2 at h2
  rw [Bool.and_eq_true, Bool.and_eq_true] at h2
  obtain ⟨⟨b1, b2⟩, b3⟩ := h2
  have E : ∀ q ∈ seqs, m_gt μ q.1 q.2.1 = q.2.2 := fun q hq => of_decide_eq_true (List.all_eq_true.mp b1 q hq)
  have Z : ∀ q ∈ szs, ∀ i : Int, 0 ≤ i → i < q.2 → m_gt μ q.1 i = 0 := fun q hq => okZ_e (List.all_eq_true.mp b2 q hq)
  have W : WDM μ := fun p hp i hi => by
    have := of_decide_eq_true (List.all_eq_true.mp (List.all_eq_true.mp b3 p hp) i (List.mem_range.mpr hi))
    rw [Int.zero_add]
    exact this
  have Z43 := okZ_e h4
  have Z12 := okZ_e h5
  have LX0 : LX 2 G0 μ := by
    refine ⟨⟨E (2, 1, 9) (by decide), E (2, 2, 6) (by decide), E (2, 3, 2) (by decide), E (2, 4, 0) (by decide), E (2, 5, 0) (by decide), E (2, 12, 0) (by decide), E (2, 13, 0) (by decide), E (3, 1, 0) (by decide)⟩, ⟨Row.nil _ _ _, fun i hi => ?_, Row.nil _ _ _, Row.nil _ _ _, Row.nil _ _ _⟩, fun a c0 c1 => ?_⟩
    · have hi : i < 4 := hi
      have e : m_gt μ (2 + 5) (0 + (i : Int)) = 0 := Z (7, 4) (by decide) (0 + (i : Int)) (by omega) (by dsimp only; omega)
      rw [e]
      match i, hi with
      | 0, _ => rfl
      | 1, _ => rfl
      | 2, _ => rfl
      | 3, _ => rfl
    · have e : m_gt μ (2 + 6) a = 0 := Z (8, 9) (by decide) a c0 (by dsimp only; omega)
      rw [e]
      refine ⟨by decide, by decide, fun b hb => ?_⟩
      show (0 : Nat).testBit b = false
      simp
  have TX0 : TX 2 G0 μ := fun f d u x f0 f1 d0 d1 u0 u1 x0 x1 => by
    have f1 : f < 6 := f1
    have d1 : d ≤ 9 := d1
    have u1 : u ≤ 2 := u1
    have e : m_gt μ (2 + 10) ((f * 10 + d) * 16 + u * 4 + x) = 0 := Z12 _ (by omega) (by omega)
    rw [e]
    rfl
  have SX0 : SX 26 2 G0 [] (spl G0 []) μ := by
    refine ⟨⟨E (26, 1, 0) (by decide), E (26, 2, 0) (by decide), E (26, 3, 0) (by decide), E (26, 4, 9) (by decide), E (26, 5, 2) (by decide), ?_, ?_, ?_⟩, Row.nil _ _ _, fun i hi => ?_⟩
    · rw [E (26, 7, 0) (by decide)]; decide
    · rw [E (26, 7, 0) (by decide)]; decide
    · rw [E (26, 7, 0) (by decide)]; rfl
    · have hi : i < 1 := hi
      match i, hi with
      | 0, _ => exact Z (28, 1) (by decide) 0 (by decide) (by decide)
  have OS0 : OS μ := by
    refine ⟨hK, fun i i0 i1 => Z43 i i0 (by omega), E (33, 13, 0) (by decide), Or.inl ⟨⟨hsz, hsl⟩, ⟨E (33, 1, 34) (by decide), E (33, 2, 38) (by decide)⟩, ⟨E (34, 1, 35) (by decide), E (38, 1, 39) (by decide)⟩, fun r r0 r1 => ?_⟩⟩
    unfold okS3 at h3
    have := List.all_eq_true.mp h3 r.toNat (List.mem_range.mpr (by omega))
    rw [Bool.and_eq_true, Bool.and_eq_true, Bool.and_eq_true] at this
    obtain ⟨⟨⟨t1, t2⟩, t3⟩, t4⟩ := this
    have t1 := of_decide_eq_true t1
    have t2 := of_decide_eq_true t2
    have t3 := of_decide_eq_true t3
    have t4 := of_decide_eq_true t4
    rw [show ((r.toNat : Nat) : Int) = r by omega] at t1 t2 t3 t4
    exact ⟨⟨t1, t2⟩, t3, t4⟩
  have GM0 : GM G0 μ := by
    refine ⟨⟨E (74, 1, 9) (by decide), E (75, 1, 6) (by decide), E (76, 1, 2) (by decide), E (77, 1, 0) (by decide), E (79, 1, 0) (by decide), E (83, 1, 0) (by decide), E (84, 1, 0) (by decide)⟩, ⟨Row.nil _ _ _, fun i hi => ?_, Row.nil _ _ _, Row.nil _ _ _, Row.nil _ _ _⟩, fun a b a0 a1 b0 b1 => ?_⟩
    · have hi : i < 4 := hi
      have e : m_gt μ 78 (4 + (i : Int)) = 0 := Z (78, 8) (by decide) (4 + (i : Int)) (by omega) (by dsimp only; omega)
      rw [e]
      match i, hi with
      | 0, _ => rfl
      | 1, _ => rfl
      | 2, _ => rfl
      | 3, _ => rfl
    · have e : m_gt μ 85 (81 + 9 * a + b) = 0 := Z (85, 162) (by decide) (81 + 9 * a + b) (by omega) (by dsimp only; omega)
      rw [e]
      rfl
  refine ⟨⟨TV.nil, fun p _ _ => ⟨by simp [sP, S0], fun t ht => absurd ht (by simp [sP, S0])⟩, by simp [sI, S0], NT.f _ _⟩, ⟨26, 29, 2, 13, by unfold WHo; omega, ⟨E (0, 2, 2) (by decide), E (0, 3, 13) (by decide), E (0, 5, 26) (by decide), E (0, 6, 29) (by decide)⟩, ⟨⟨⟨Or.inl rfl, Or.inl rfl, G0_ok, VR.nil _⟩, hK, LX0, TX0, SX0⟩, OS0, fun f f0 f1 => Z (32, 9) (by decide) f f0 (by dsimp only; omega), Or.inl (E (33, 0, 0) (by decide))⟩, ⟨E (0, 1, 0) (by decide), Row.nil _ _ _⟩, fun p p0 p1 => ⟨Z (47, 6) (by decide) p p0 (by dsimp only; omega), Row.nil _ _ _⟩, ⟨E (0, 11, 0) (by decide), Row.nil _ _ _⟩, E (24, 0, 0) (by decide), E (24, 1, -1) (by decide)⟩, ⟨⟨G0_ok, VR.nil _⟩, hK, GM0, ⟨E (50, 58, 0) (by decide), Row.nil _ _ _⟩⟩, Or.inl (E (50, 70, 0) (by decide)), TnM.zero (E (50, 78, 0) (by decide)), Or.inl (E (50, 72, 0) (by decide)), ⟨E (50, 1, 0) (by decide), Row.nil _ _ _⟩, fun p p0 p1 => ⟨Z (101, 6) (by decide) p p0 (by dsimp only; omega), Row.nil _ _ _⟩, ⟨E (50, 84, 0) (by decide), Row.nil _ _ _⟩, ⟨E (50, 7, 0) (by decide), E (50, 8, -1) (by decide)⟩, W⟩
theorem start_gen {o : Option Mm} {g : Mm → Option Mm} (i1 : iniC o g okS1 = true) (i2 : iniC o g okS2 = true) (i3 : iniC o g okS3 = true) (i4 : iniC o g (fun μ => okZ μ (43, 1498)) = true) (i5 : iniC o g (fun μ => okZ μ (12, 1280)) = true) : ∃ μ2 μ4, o = some μ2 ∧ m_sz μ2 = 50 ∧ g (m_nw μ2 8 0 86) = some μ4 ∧ Both S0 μ4 := by
  obtain ⟨μ2, μ4, e1, e2, e3, e4⟩ := iniC_go i1
  have go : ∀ {f : Mm → Bool}, iniC o g f = true → f μ4 = true := by
    intro f h
    obtain ⟨ν2, ν4, d1, d2, d3, d4⟩ := iniC_go h
    rw [e1] at d1
    injection d1 with d1
    rw [← d1, e3] at d3
    injection d3 with d3
    rw [d3]
    exact d4
  have j2 := go (f := okS2) i2
  have j3 := go (f := okS3) i3
  have j4 := go (f := fun μ => okZ μ (43, 1498)) i4
  have j5 := go (f := fun μ => okZ μ (12, 1280)) i5
  exact ⟨μ2, μ4, e1, e2, e3, start_ok e4 j2 j3 j4 j5⟩
theorem iniB_C {f : Mm → Bool} (h : iniB f = true) : iniC iX iM f = true := by
  unfold iniB at h
  exact h
