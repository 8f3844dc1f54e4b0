/-! ===== PURE: images put on; games ===== -/
theorem onS_VR {G : Gm} {T R' : List Int} (h : onS G T = some R') : VR G R' := by
  unfold onS at h
  split at h
  · exact (addAll_ok _ _ _ (VR.nil G) h).2
  · cases h
theorem WHo.sw {sh sh' l l' : Int} (h : WHo sh sh' l l') : WHo sh' sh l l' ∧ WHo sh sh' l' l := by
  unfold WHo at *
  omega
theorem WHo.ck4 {sh sh' l l' : Int} (h : WHo sh sh' l l') {P : Int → Int → Int → Int → Prop} (h1 : P 26 29 2 13) (h2 : P 26 29 13 2) (h3 : P 29 26 2 13) (h4 : P 29 26 13 2) : P sh sh' l l' := by
  obtain ⟨⟨rfl, rfl⟩ | ⟨rfl, rfl⟩, ⟨rfl, rfl⟩ | ⟨rfl, rfl⟩⟩ := h
  · exact h1
  · exact h2
  · exact h3
  · exact h4
theorem TV.nil : TV [] := ⟨by decide, fun x hx => absurd hx (by simp)⟩
theorem c_on {N : Nat} (hN : 1000000 ≤ N) {S : St} (hO : StO S) : Step (jX7_on N 0) (jX8_on N 50) S := by
  cases hS : onS (sG S) (sT S) with
  | some R' =>
    have eA : onA (sG S) (sT S) = 1 := by unfold onA; rw [hS]; rfl
    have eR : onR (sG S) (sT S) (sR' S) = R' := by unfold onR; rw [hS]; rfl
    have hV := onS_VR hS
    refine ⟨fun v => v = onA (sG S) (sT S), (sG S, R', (fun _ => false), [], sP S, sI S, sF S), P1, ⟨TV.nil, hO.2.1, hO.2.2.1, NT.f _ _⟩, fun μ h => ?_, fun μ h => ?_⟩
    · obtain ⟨sh, sh', l, l', hw, hd, hX, h1, h2, h3, h4, h5⟩ := h
      obtain ⟨μ', e1, e2, e3, _⟩ := on_X (N := N) hN hw.s.2.2.2.1 hw.s.2.2.2.2.1 hO.1 hX.1 hd.2.2.1 hd.2.2.2 hd.1 h1
      obtain ⟨q1, q2, q3, q4, q5, q6⟩ := e3 eA
      rw [eR] at q1
      have hK : KR μ' := by rcases hw.s.2.2.2.1 with rfl | rfl <;> exact q6.KR hX.1.2.1 (by decide)
      have ag : Ag [46, 47, 49] [(0, 2), (0, 3), (0, 11), (24, 0), (24, 1)] μ μ' := q6.ag (by rcases hw.s.2.2.2.1 with rfl | rfl <;> decide)
      refine ⟨_, μ', e1, rfl, ⟨sh', sh, l, l', hw.sw.1, ⟨by rw [ag.2 (0, 2) (by simp)]; exact hd.1, by rw [ag.2 (0, 3) (by simp)]; exact hd.2.1, q3, q4⟩, XC.mkN hw.s.2.2.2.1 hw.s.2.1 hX.1.1.2.2.1 hV hX.2.1 hX.1.2.2.1 hX.1.2.2.2.1 q6 hK q1 q5 ?_, ⟨e2, Row.nil _ _ _⟩, fun p p0 p1 => ⟨by rw [ag.1 47 (by simp)]; exact (h2 p p0 p1).1, (h2 p p0 p1).2.ag ag (by simp)⟩, ⟨by rw [ag.2 (0, 11) (by simp)]; exact h3.1, h3.2.ag ag (by simp)⟩, by rw [ag.2 (24, 0) (by simp)]; exact h4, by rw [ag.2 (24, 1) (by simp)]; exact h5⟩, fr_cl q6 hK (by rcases hw.s.2.2.2.1 with rfl | rfl <;> decide)⟩
      exact hw.ck4 (P := fun sh sh' l l' => (dj [sh' + 1, sh' + 2, 32] ((0, 1) :: onF sh') (wLX l ++ [l + 10]) (sLX l) && dj [sh' + 1, sh' + 2, 32] ((0, 1) :: onF sh') [34, 35, 36, 37, 38, 39, 40, 41, 43, 44] [(33, 1), (33, 2), (33, 13)] && (([sh' + 1, sh' + 2, 32] : List Int).all (fun r => decide (r < 50)) && (((0 : Int), (1 : Int)) :: onF sh').all (fun p => decide (p.1 < 50)))) = true) (by decide) (by decide) (by decide) (by decide)
    · obtain ⟨μ', e1, e2, e3, e4, e5, e6⟩ := on_M (N := N) hN hO.1 h.1 h.2.2.2.2.1
      rw [eR] at e3
      obtain ⟨g1, g2⟩ := StM.new h e6 hV e3 (TnM.zero (e4 eA).1) (e4 eA).2 (T' := []) ⟨e2, Row.nil _ _ _⟩ (by decide) (by decide) (by decide)
      exact ⟨_, μ', e1, rfl, g1, g2⟩
  | none =>
    have eA : onA (sG S) (sT S) = 0 := by unfold onA; rw [hS]; rfl
    have eR : onR (sG S) (sT S) (sR' S) = sR' S := by unfold onR; rw [hS]; rfl
    refine ⟨fun v => v = onA (sG S) (sT S), (sG S, sR' S, sN S, [], sP S, sI S, sF S), P1, ⟨TV.nil, hO.2.1, hO.2.2.1, hO.2.2.2⟩, fun μ h => ?_, fun μ h => ?_⟩
    · obtain ⟨sh, sh', l, l', hw, hd, hX, h1, h2, h3, h4, h5⟩ := h
      obtain ⟨μ', e1, e2, _, e3⟩ := on_X (N := N) hN hw.s.2.2.2.1 hw.s.2.2.2.2.1 hO.1 hX.1 hd.2.2.1 hd.2.2.2 hd.1 h1
      obtain ⟨_, f⟩ := e3 eA
      obtain ⟨g1, g2, g3, g4⟩ := ckX_go f hd hX (hw.ck4 (P := fun sh sh' l l' => ckX [sh' + 1, sh' + 2] ((0, 1) :: sFr sh') sh l = true) (by decide) (by decide) (by decide) (by decide))
      have ag : Ag [46, 47, 49] [(0, 11)] μ μ' := f.ag (by rcases hw.s.2.2.2.1 with rfl | rfl <;> decide)
      exact ⟨_, μ', e1, rfl, ⟨sh, sh', l, l', hw, g1, g2, ⟨e2, Row.nil _ _ _⟩, fun p p0 p1 => ⟨by rw [ag.1 47 (by simp)]; exact (h2 p p0 p1).1, (h2 p p0 p1).2.ag ag (by simp)⟩, ⟨by rw [ag.2 (0, 11) (by simp)]; exact h3.1, h3.2.ag ag (by simp)⟩, by rw [g4.1]; exact h4, by rw [g4.2]; exact h5⟩, g3⟩
    · obtain ⟨μ', e1, e2, e3, e4, e5, f⟩ := on_M (N := N) hN hO.1 h.1 h.2.2.2.2.1
      rw [eR] at e3
      obtain ⟨h1, h2, h3, h4, h5, h6, h7, h8, h9⟩ := h
      have g := f.ag (wh := [95, 96, 52, 53, 54, 55, 56, 57, 58, 59, 60, 61, 62, 63, 64, 65, 66, 67, 68, 69, 70, 71, 72, 73]) (so := [(50, 70), (50, 7), (50, 8)]) (by decide)
      have hF : FIC (sG S) (sR' S) (sN S) μ' := by
        rcases (e5 eA).2 with z | z
        · exact h4.ag (fun j => g.1 96 (by decide) j) z
        · exact Or.inl z
      exact ⟨_, μ', e1, rfl, ⟨⟨h1.1, f.KR h1.2.1 (by decide), h1.2.2.1.ag (f.ag (by decide)), e3⟩, h2.ag (fun j => g.1 95 (by decide) j) (g.2 (50, 70) (by decide)), h3.ag (e5 eA).1, hF, ⟨e2, Row.nil _ _ _⟩, h6.ag (f.ag (by decide)), h7.ag (f.ag (by decide)), ⟨by rw [g.2 (50, 7) (by decide)]; exact h8.1, by rw [g.2 (50, 8) (by decide)]; exact h8.2⟩, h9.fr (fun r i a b => g.1 r (by simp; omega) i)⟩, fr_rl f h1.2.1 (by decide) (by decide)⟩
theorem GM.hf {G : Gm} {μ μ' : Mm} (h : GM G μ) (f : HF μ μ') : GM G μ' := by
  obtain ⟨⟨h1, h2, h3, h4, h5, h6, h7⟩, ⟨r1, r2, r3, r4, r5⟩, hj⟩ := h
  have g : ∀ r i : Int, 74 ≤ r → r ≤ 86 → (r = 86 → 700 ≤ i) → (r = 78 → 4 ≤ i) → ((r = 80 ∨ r = 81 ∨ r = 82) → 30 ≤ i) → (r = 85 → 81 ≤ i) → 1 ≤ i → m_gt μ' r i = m_gt μ r i := fun r i z1 z2 z3 z4 z5 z6 z7 => f.2.2 r i (by unfold gmP eP dP mpP; omega)
  refine ⟨⟨by rw [g _ _ (by decide) (by decide) (by decide) (by decide) (by decide) (by decide) (by decide)]; exact h1, by rw [g _ _ (by decide) (by decide) (by decide) (by decide) (by decide) (by decide) (by decide)]; exact h2, by rw [g _ _ (by decide) (by decide) (by decide) (by decide) (by decide) (by decide) (by decide)]; exact h3, by rw [g _ _ (by decide) (by decide) (by decide) (by decide) (by decide) (by decide) (by decide)]; exact h4, by rw [g _ _ (by decide) (by decide) (by decide) (by decide) (by decide) (by decide) (by decide)]; exact h5, by rw [g _ _ (by decide) (by decide) (by decide) (by decide) (by decide) (by decide) (by decide)]; exact h6, by rw [g _ _ (by decide) (by decide) (by decide) (by decide) (by decide) (by decide) (by decide)]; exact h7⟩, ⟨fun i hi => ?_, fun i hi => ?_, fun i hi => ?_, fun i hi => ?_, fun i hi => ?_⟩, fun a b a0 a1 b0 b1 => ?_⟩
  · rw [g _ _ (by decide) (by decide) (by omega) (by omega) (by omega) (by omega) (by omega)]; exact r1 i hi
  · rw [g _ _ (by decide) (by decide) (by omega) (by omega) (by omega) (by omega) (by omega)]; exact r2 i hi
  · rw [g _ _ (by decide) (by decide) (by omega) (by omega) (by omega) (by omega) (by omega)]; exact r3 i hi
  · rw [g _ _ (by decide) (by decide) (by omega) (by omega) (by omega) (by omega) (by omega)]; exact r4 i hi
  · rw [g _ _ (by decide) (by decide) (by omega) (by omega) (by omega) (by omega) (by omega)]; exact r5 i hi
  · rw [g _ _ (by decide) (by decide) (by omega) (by omega) (by omega) (by omega) (by omega)]; exact hj a b a0 a1 b0 b1
theorem hf_rl {μ μ' : Mm} (f : HF μ μ') (hK : KR μ) : RLm μ μ' := ⟨f.KR hK, f.1, f.2.1, fun r i hr => f.2.2 r i (by unfold gmP eP dP mpP; omega)⟩
theorem c_game {N : Nat} (hN : 1000000 ≤ N) {S : St} (hO : StO S) : Step (jX7_game N 0) (jX8_game N 50) S := by
  have hT : TB (sT S) := hO.1
  have ok := reaS_ok hT 30 0 (SKP (sT S) 0) G0 (by omega) ⟨G0_ok, Nat.zero_le _, Nat.zero_le _, IN_start _⟩
  cases hx : reaS (sT S) 30 0 G0 (SKP (sT S) 0) with
  | inl e =>
    refine ⟨fun v => v = -1, (sG S, sR' S, sN S, [], sP S, sI S, (e.1, (e.2 : Int))), P1, ⟨TV.nil, hO.2.1, hO.2.2.1, hO.2.2.2⟩, fun μ h => ?_, fun μ h => ?_⟩
    · obtain ⟨sh, sh', l, l', hw, hd, hX, h1, h2, h3, h4, h5⟩ := h
      have o := game_X (N := N) hN (l := l) (l' := l') (sh := sh) hw.s.2.2.1 hw.s.1 hT hX.1.2.1 hd.1 hd.2.1 hd.2.2.1 h1
      rw [hx] at o
      obtain ⟨μ', a1, a2, a3, f⟩ := o
      have hK : KR μ' := by rcases hw.s.2.2.1 with rfl | rfl <;> exact f.KR hX.1.2.1 (by decide)
      have ag : Ag [46, 47, 49, 32, 33, 34, 35, 36, 37, 38, 39, 40, 41, 42, 43, 44] [(0, 2), (0, 3), (0, 5), (0, 6), (0, 11)] μ μ' := f.ag (by rcases hw.s.2.2.1 with rfl | rfl <;> decide)
      have agL : Ag (wLX l ++ [l + 10, sh, sh + 1, sh + 2]) (sLX l) μ μ' := f.ag (hw.ck4 (P := fun sh sh' l l' => dj (gI l') ((0, 1) :: kS l') (wLX l ++ [l + 10, sh, sh + 1, sh + 2]) (sLX l) = true) (by decide) (by decide) (by decide) (by decide))
      have hSc : SC sh l (sG S) (sR' S) μ' := hX.1.of hK ⟨fun r hr i => agL.1 r (List.mem_append_left _ hr) i, agL.2⟩ (fun i => agL.1 (l + 10) (by simp) i) (fun r i hr => agL.1 r (by simp; omega) i)
      exact ⟨_, μ', a1, rfl, ⟨sh, sh', l, l', hw, ⟨by rw [ag.2 (0, 2) (by simp)]; exact hd.1, by rw [ag.2 (0, 3) (by simp)]; exact hd.2.1, by rw [ag.2 (0, 5) (by simp)]; exact hd.2.2.1, by rw [ag.2 (0, 6) (by simp)]; exact hd.2.2.2⟩, hX.ext hSc f.1 f.2.1 (fun r i hr => by
        by_cases c : 105 ≤ r
        · exact f.2.2 r i (by rcases hw.s.2.2.1 with rfl | rfl <;> simp [gI] <;> omega) (by rcases hw.s.2.2.1 with rfl | rfl <;> simp [kS, hS, gS] <;> omega)
        · exact ag.1 r (by simp; omega) i), ⟨a3, Row.nil _ _ _⟩, fun p p0 p1 => ⟨by rw [ag.1 47 (by simp)]; exact (h2 p p0 p1).1, (h2 p p0 p1).2.ag ag (by simp)⟩, ⟨by rw [ag.2 (0, 11) (by simp)]; exact h3.1, h3.2.ag ag (by simp)⟩, a2.1, a2.2.1⟩, fr_cl f hK (by rcases hw.s.2.2.1 with rfl | rfl <;> decide)⟩
    · have o := game_M (N := N) hN hT h.kr h.2.2.2.2.2.2.2.2 h.2.2.2.2.1
      rw [hx] at o
      obtain ⟨μ', a1, a2, a3, f⟩ := o
      obtain ⟨h1, h2, h3, h4, h5, h6, h7, h8, h9⟩ := h
      have g : ∀ r i : Int, ¬ gmP r i → m_gt μ' r i = m_gt μ r i := f.2.2
      have gc : ∀ r i : Int, ((50 < r ∧ r < 74) ∨ 87 < r) → m_gt μ' r i = m_gt μ r i := fun r i hr => g r i (by unfold gmP eP dP mpP; omega)
      have gs : ∀ i : Int, 50 ≤ i → m_gt μ' 50 i = m_gt μ 50 i := fun i hi => g 50 i (by unfold gmP eP dP mpP; omega)
      exact ⟨_, μ', a1, rfl, ⟨⟨h1.1, f.KR h1.2.1, h1.2.2.1.hf f, ⟨by rw [gs 58 (by decide)]; exact h1.2.2.2.1, h1.2.2.2.2.ext (fun i => gc 89 i (by omega))⟩⟩, h2.ag (fun j => gc 95 j (by omega)) (gs 70 (by decide)), h3.ag (gs 78 (by decide)), h4.ag (fun j => gc 96 j (by omega)) (gs 72 (by decide)), ⟨a3, Row.nil _ _ _⟩, fun p p0 p1 => ⟨by rw [gc 101 p (by omega)]; exact (h6 p p0 p1).1, (h6 p p0 p1).2.ext (fun i => gc 102 i (by omega))⟩, ⟨by rw [gs 84 (by decide)]; exact h7.1, h7.2.ext (fun i => gc 103 i (by omega))⟩, a2, h9.fr (fun r i a b => gc r i (by omega))⟩, hf_rl f h1.2.1⟩
  | inr p =>
    obtain ⟨n, G⟩ := p
    rw [hx] at ok
    obtain ⟨hG, hn⟩ := ok
    refine ⟨fun v => v = (n : Int), (G, [], (fun _ => false), [], (fun _ => []), sI S, ((0 : Int), (-1 : Int))), P1, ⟨TV.nil, fun p _ _ => ⟨by simp [sP], fun t ht => absurd ht (by simp [sP])⟩, hO.2.2.1, NT.f _ _⟩, fun μ h => ?_, fun μ h => ?_⟩
    · obtain ⟨sh, sh', l, l', hw, hd, hX, h1, h2, h3, h4, h5⟩ := h
      have o := game_X (N := N) hN (l := l) (l' := l') (sh := sh) hw.s.2.2.1 hw.s.1 hT hX.1.2.1 hd.1 hd.2.1 hd.2.2.1 h1
      rw [hx] at o
      obtain ⟨μ', a1, a2, a3, a4, a5, a6, f⟩ := o
      have hK : KR μ' := a4.2.1
      have ag : Ag [49, 34, 35, 36, 37, 38, 39, 40, 41, 42, 43, 44] [(0, 5), (0, 6), (0, 11), (33, 1), (33, 2), (33, 13)] μ μ' := f.ag (hw.ck4 (P := fun sh sh' l l' => dj (ggI l' sh) (ggS l' sh) [49, 34, 35, 36, 37, 38, 39, 40, 41, 42, 43, 44] [(0, 5), (0, 6), (0, 11), (33, 1), (33, 2), (33, 13)] = true) (by decide) (by decide) (by decide) (by decide))
      have c3 : ((ggI l' sh).all (fun r => decide (r < 50)) && (ggS l' sh).all (fun p => decide (p.1 < 50))) = true := hw.ck4 (P := fun sh sh' l l' => ((ggI l' sh).all (fun r => decide (r < 50)) && (ggS l' sh).all (fun p => decide (p.1 < 50))) = true) (by decide) (by decide) (by decide) (by decide)
      have c4 := c3
      rw [Bool.and_eq_true, List.all_eq_true, List.all_eq_true] at c4
      have big : ∀ r i : Int, 105 ≤ r → m_gt μ' r i = m_gt μ r i := fun r i hr => f.2.2 r i (fun z => by have := of_decide_eq_true (c4.1 r z); omega) (fun z => by have := of_decide_eq_true (c4.2 (r, i) z); dsimp only at this; omega)
      refine ⟨_, μ', a1, rfl, ⟨sh, sh', l', l, hw.sw.2, ⟨a3.2.1, a3.2.2, by rw [ag.2 (0, 5) (by simp)]; exact hd.2.2.1, by rw [ag.2 (0, 6) (by simp)]; exact hd.2.2.2⟩, ⟨a4, hX.2.1.ext hK f.1 f.2.1 (fun r i hr h42 h33 => ?_), fun x x0 x1 => by rw [a5.1 x x0 x1]; rfl, Or.inl a5.2⟩, ⟨a3.1, Row.nil _ _ _⟩, a6, ⟨by rw [ag.2 (0, 11) (by simp)]; exact h3.1, h3.2.ag ag (by simp)⟩, a2.1, a2.2⟩, fr_cl f hK c3⟩
      by_cases c : 105 ≤ r
      · exact big r i c
      · by_cases e : r = 33
        · subst e
          have : i = 1 ∨ i = 2 ∨ i = 13 := by omega
          rcases this with rfl | rfl | rfl
          · exact ag.2 (33, 1) (by simp)
          · exact ag.2 (33, 2) (by simp)
          · exact ag.2 (33, 13) (by simp)
        · exact ag.1 r (by unfold lkC at hr; simp; omega) i
    · have o := game_M (N := N) hN hT h.kr h.2.2.2.2.2.2.2.2 h.2.2.2.2.1
      rw [hx] at o
      obtain ⟨μ', a1, a2, a3, a4, a5, a6, a7, f⟩ := o
      obtain ⟨h1, h2, h3, h4, h5, h6, h7, h8, h9⟩ := h
      exact ⟨_, μ', a1, rfl, ⟨⟨⟨hG, VR.nil _⟩, f.KR h1.2.1 (by decide), a4, ⟨a5, Row.nil _ _ _⟩⟩, Or.inl a6.2.2, TnM.zero a6.1, Or.inl a6.2.1, ⟨a3, Row.nil _ _ _⟩, a7, h7.ag (f.ag (by decide)), a2, h9.fr (fun r i a b => f.2.2 r i (by simp [gsI]; omega) (by simp [gsS]; omega))⟩, fr_rl f h1.2.1 (by decide) (by decide)⟩
