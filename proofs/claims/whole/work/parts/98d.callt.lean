/-! ===== PURE: calls that change the sheet, or look ahead ===== -/
theorem XC.mkN {sh l : Int} {G : Gm} {R' : List Int} (hs : sh = 26 ∨ sh = 29) (hl : l = 2 ∨ l = 13) (hG : GOK G) (hV : VR G R') {μ μ' : Mm} (hOS : OS μ) (hL : LX l G μ) (hT : TX l G μ) {ids : List Int} {sl : List (Int × Int)} (f : Fr ids sl μ μ') (hK : KR μ') (hS : SX sh l G R' (spl G R') μ') (hN : TN μ') (c : (dj ids sl (wLX l ++ [l + 10]) (sLX l) && dj ids sl [34, 35, 36, 37, 38, 39, 40, 41, 43, 44] [(33, 1), (33, 2), (33, 13)] && (ids.all (fun r => decide (r < 50)) && sl.all (fun p => decide (p.1 < 50)))) = true) : XC sh l G R' (fun _ => false) μ' := by
  rw [Bool.and_eq_true, Bool.and_eq_true] at c
  obtain ⟨⟨c1, c2⟩, c3⟩ := c
  have g1 := f.ag c1
  have g2 := f.ag c2
  rw [Bool.and_eq_true, List.all_eq_true, List.all_eq_true] at c3
  have big : ∀ r i : Int, 105 ≤ r → m_gt μ' r i = m_gt μ r i := fun r i hr => f.2.2 r i (fun z => by have := of_decide_eq_true (c3.1 r z); omega) (fun z => by have := of_decide_eq_true (c3.2 (r, i) z); dsimp only at this; omega)
  refine ⟨⟨⟨hs, hl, hG, hV⟩, hK, hL.ag ⟨fun r hr i => g1.1 r (List.mem_append_left _ hr) i, g1.2⟩, TX_se hT (fun i => g1.1 (l + 10) (by simp) i), hS⟩, hOS.ext hK f.1 f.2.1 (fun r i hr h42 h33 => ?_), fun x x0 x1 => by rw [hN.1 x x0 x1]; rfl, Or.inl hN.2⟩
  by_cases c : 105 ≤ r
  · exact big r i c
  · by_cases e : r = 33
    · subst e
      have : i = 1 ∨ i = 2 ∨ i = 13 := by omega
      rcases this with rfl | rfl | rfl
      · exact g2.2 (33, 1) (by simp)
      · exact g2.2 (33, 2) (by simp)
      · exact g2.2 (33, 13) (by simp)
    · exact g2.1 r (by unfold lkC at hr; simp; omega) i
/-- the sheet of the class is another one -/
theorem StX.new {S : St} {sh sh' l l' : Int} {R' : List Int} {μ μ' : Mm} (hw : WHo sh sh' l l') (hd : HD sh sh' l l' μ) (hX : XC sh l (sG S) (sR' S) (sN S) μ) (h1 : tpX (sT S) μ) (h2 : PX (sP S) μ) (h3 : ImX (sI S) μ) (h4 : m_gt μ 24 0 = (sF S).1) (h5 : m_gt μ 24 1 = (sF S).2) (f : Fr [sh + 1, sh + 2, 32] (shF sh) μ μ') (hV : VR (sG S) R') (hS : SX sh l (sG S) R' (spl (sG S) R') μ') (hN : TN μ') : StX (sG S, R', (fun _ => false), sT S, sP S, sI S, sF S) μ' ∧ CL μ μ' := by
  have hK : KR μ' := by rcases hw.s.1 with rfl | rfl <;> exact f.KR hX.1.2.1 (by decide)
  have ag : Ag [1, 46, 47, 49] [(0, 1), (0, 2), (0, 3), (0, 5), (0, 6), (0, 11), (24, 0), (24, 1)] μ μ' := f.ag (by rcases hw.s.1 with rfl | rfl <;> decide)
  refine ⟨⟨sh, sh', l, l', hw, ⟨by rw [ag.2 (0, 2) (by simp)]; exact hd.1, by rw [ag.2 (0, 3) (by simp)]; exact hd.2.1, by rw [ag.2 (0, 5) (by simp)]; exact hd.2.2.1, by rw [ag.2 (0, 6) (by simp)]; exact hd.2.2.2⟩, XC.mkN hw.s.1 hw.s.2.1 hX.1.1.2.2.1 hV hX.2.1 hX.1.2.2.1 hX.1.2.2.2.1 f hK hS hN ?_, ⟨by rw [ag.2 (0, 1) (by simp)]; exact h1.1, h1.2.ag ag (by simp)⟩, fun p p0 p1 => ⟨by rw [ag.1 47 (by simp)]; exact (h2 p p0 p1).1, (h2 p p0 p1).2.ag ag (by simp)⟩, ⟨by rw [ag.2 (0, 11) (by simp)]; exact h3.1, h3.2.ag ag (by simp)⟩, by rw [ag.2 (24, 0) (by simp)]; exact h4, by rw [ag.2 (24, 1) (by simp)]; exact h5⟩, fr_cl f hK (by rcases hw.s.1 with rfl | rfl <;> decide)⟩
  exact hw.ck (P := fun sh l => (dj [sh + 1, sh + 2, 32] (shF sh) (wLX l ++ [l + 10]) (sLX l) && dj [sh + 1, sh + 2, 32] (shF sh) [34, 35, 36, 37, 38, 39, 40, 41, 43, 44] [(33, 1), (33, 2), (33, 13)] && (([sh + 1, sh + 2, 32] : List Int).all (fun r => decide (r < 50)) && (shF sh).all (fun p => decide (p.1 < 50)))) = true) (by decide) (by decide) (by decide) (by decide)
/-- a reference whose sheet is another one -/
theorem StM.new {S : St} {R' : List Int} {T' : List Int} {μ μ' : Mm} {ids : List Int} {sl : List (Int × Int)} (h : StM S μ) (f : Fr ids sl μ μ') (hV : VR (sG S) R') (hR : RM R' μ') (h78 : TnM (fun _ => false) μ') (h72 : m_gt μ' 50 72 = 0) (hT : tpM T' μ') (hn : rfT.all (fun q => !(decide (q.1 ∈ ids ∨ (q.1, q.2.1) ∈ sl))) = true) (hr : (ids.all (fun r => decide (50 ≤ r ∧ r ≤ 104)) && sl.all (fun p => decide (50 ≤ p.1 ∧ p.1 ≤ 104))) = true) (d : (dj ids sl wGM [] && dj ids sl [95, 52, 53, 54, 55, 56, 57, 58, 59, 60, 61, 62, 63, 64, 65, 66, 67, 68, 69, 70, 71, 72, 73] [(50, 70), (50, 7), (50, 8)] && dj ids sl [101, 102] [] && dj ids sl [103] [(50, 84)]) = true) : StM (sG S, R', (fun _ => false), T', sP S, sI S, sF S) μ' ∧ RLm μ μ' := by
  rw [Bool.and_eq_true, Bool.and_eq_true, Bool.and_eq_true] at d
  obtain ⟨⟨⟨d1, d3⟩, d4⟩, d5⟩ := d
  have hK := f.KR h.kr hn
  obtain ⟨h1, h2, h3, h4, h5, h6, h7, h8, h9⟩ := h
  have g := f.ag d3
  exact ⟨⟨⟨⟨h1.1.1, hV⟩, hK, h1.2.2.1.ag (f.ag d1), hR⟩, h2.ag (fun j => g.1 95 (by decide) j) (g.2 (50, 70) (by decide)), h78, Or.inl h72, hT, h6.ag (f.ag d4), h7.ag (f.ag d5), ⟨by rw [g.2 (50, 7) (by decide)]; exact h8.1, by rw [g.2 (50, 8) (by decide)]; exact h8.2⟩, h9.fr (fun r i a b => g.1 r (by simp; omega) i)⟩, fr_rl f h1.2.1 hr hn⟩
theorem TnM.zero {μ : Mm} (h : m_gt μ 50 78 = 0) : TnM (fun _ => false) μ := by
  unfold TnM
  rw [h]
  exact ⟨⟨by decide, by decide⟩, fun k _ => tb_zero k⟩
theorem NT.f (G : Gm) (R : List Int) : NT G R (fun _ => false) := fun _ _ _ _ => rfl
theorem tpM.fr {T : List Int} {ids : List Int} {sl : List (Int × Int)} {μ μ' : Mm} (h : tpM T μ) (f : Fr ids sl μ μ') (d : dj ids sl [51] [(50, 1)] = true) : tpM T μ' := by
  have g := f.ag d
  exact ⟨by rw [g.2 (50, 1) (by simp)]; exact h.1, h.2.ag g (by simp)⟩
theorem c_roll {N : Nat} (hN : 1000000 ≤ N) {S : St} (hO : StO S) (hV : VR (sG S) (sR' S)) {n : Int} (hn : okI n) : Step (jX7_roll N 0 n) (jX8_roll N 50 n) S := by
  by_cases c : whi (sG S) (spl (sG S) (sR' S)) = 0 ∧ (n = -2 ∨ 0 ≤ n ∧ n ≤ sta (sG S) (spl (sG S) (sR' S)))
  · have eA : rlA (sG S) (sR' S) n = 1 := by unfold rlA; rw [if_pos c]
    refine ⟨fun v => v = rlA (sG S) (sR' S) n, (sG S, rlR (sG S) (sR' S) n, (fun _ => false), sT S, sP S, sI S, sF S), P1, ⟨hO.1, hO.2.1, hO.2.2.1, NT.f _ _⟩, fun μ h => ?_, fun μ h => ?_⟩
    · obtain ⟨sh, sh', l, l', hw, hd, hX, h1, h2, h3, h4, h5⟩ := h
      obtain ⟨μ', e1, e2, e3, e4, e5⟩ := roll_X (N := N) hN hX.1 hd.2.2.1 n
      obtain ⟨g1, g2⟩ := StX.new hw hd hX h1 h2 h3 h4 h5 e5 (hV.rl n) e2 (e4 eA)
      exact ⟨_, μ', e1, rfl, g1, g2⟩
    · obtain ⟨μ', e1, e2, e3, e4, e5, e6⟩ := roll_M (N := N) hN h.1 hn
      have ht : TnM (fun _ => false) μ' := by
        have := h.2.2.1
        have e78 : m_gt μ' 50 78 = m_gt μ 50 78 := e5.2.2 50 78 (by decide) (by decide)
        unfold TnM
        rw [e78]
        exact ⟨this.1, fun k hk => by rw [this.2 k hk]; exact hO.2.2.2 c.1 k (by omega) (by omega)⟩
      obtain ⟨g1, g2⟩ := StM.new h e5 (hV.rl n) e2 ht (e4 eA) (h.2.2.2.2.1.fr e5 (by decide)) (by decide) (by decide) (by decide)
      exact ⟨_, μ', e1, rfl, g1, g2⟩
  · have eA : rlA (sG S) (sR' S) n = 0 := by unfold rlA; rw [if_neg c]
    refine ⟨fun v => v = rlA (sG S) (sR' S) n, S, P1, hO, fun μ h => ?_, fun μ h => ?_⟩
    · have h0 := h
      obtain ⟨sh, sh', l, l', hw, hd, hX, h1, h2, h3, h4, h5⟩ := h
      obtain ⟨μ', e1, e2, e3, e4, e5⟩ := roll_X (N := N) hN hX.1 hd.2.2.1 n
      have e := e3 eA
      subst e
      exact ⟨_, _, e1, rfl, h0, CL.rf h0.kr⟩
    · obtain ⟨μ', e1, e2, e3, e4, e5, e6⟩ := roll_M (N := N) hN h.1 hn
      obtain ⟨μ'', a, b, c⟩ := h.rd (fM := jX8_roll N 50 n) e1 (e3 eA) (by decide) (by decide) (by decide)
      exact ⟨_, μ'', a, rfl, b, c⟩
theorem c_back {N : Nat} (hN : 1000000 ≤ N) {S : St} (hO : StO S) (hG : GOK (sG S)) (hV : VR (sG S) (sR' S)) : Step (jX7_back N 0) (jX8_back N 50) S := by
  have hl := (R_len hG hV).1
  by_cases c : (sR' S).length = 0
  · refine ⟨fun v => v = if (sR' S).length = 0 then 0 else 1, S, P1, hO, fun μ h => ?_, fun μ h => ?_⟩
    · have h0 := h
      obtain ⟨sh, sh', l, l', hw, hd, hX, h1, h2, h3, h4, h5⟩ := h
      obtain ⟨μ', e1, e2, e3, e4, e5⟩ := back_X (N := N) hN hX.1 hd.2.2.1
      have e := e3 c
      subst e
      exact ⟨_, _, e1, rfl, h0, CL.rf h0.kr⟩
    · obtain ⟨μ', e1, e2, e3, e4, e5⟩ := back_M (N := N) h.1.2.2.2 hl
      have e := e3 c
      subst e
      exact ⟨_, _, e1, rfl, h, RLm.rf h.kr⟩
  · refine ⟨fun v => v = if (sR' S).length = 0 then 0 else 1, (sG S, (sR' S).take ((sR' S).length - 1), (fun _ => false), sT S, sP S, sI S, sF S), P1, ⟨hO.1, hO.2.1, hO.2.2.1, NT.f _ _⟩, fun μ h => ?_, fun μ h => ?_⟩
    · obtain ⟨sh, sh', l, l', hw, hd, hX, h1, h2, h3, h4, h5⟩ := h
      obtain ⟨μ', e1, e2, e3, e4, e5⟩ := back_X (N := N) hN hX.1 hd.2.2.1
      obtain ⟨g1, g2⟩ := StX.new hw hd hX h1 h2 h3 h4 h5 e5 (hV.take _) e2 (e4 c)
      exact ⟨_, μ', e1, rfl, g1, g2⟩
    · obtain ⟨μ', e1, e2, e3, e4, e5⟩ := back_M (N := N) h.1.2.2.2 hl
      obtain ⟨g1, g2⟩ := StM.new h e5 (hV.take _) e2 (TnM.zero (e4 c).1) (e4 c).2 (h.2.2.2.2.1.fr e5 (by decide)) (by decide) (by decide) (by decide)
      exact ⟨_, μ', e1, rfl, g1, g2⟩
theorem c_clear {N : Nat} (hN : 1000000 ≤ N) {S : St} (hO : StO S) : Step (jX7_clear N 0) (jX8_clear N 50) S := by
  refine ⟨fun v => v = ((sR' S).length : Int), (sG S, [], (fun _ => false), sT S, sP S, sI S, sF S), P1, ⟨hO.1, hO.2.1, hO.2.2.1, NT.f _ _⟩, fun μ h => ?_, fun μ h => ?_⟩
  · obtain ⟨sh, sh', l, l', hw, hd, hX, h1, h2, h3, h4, h5⟩ := h
    obtain ⟨μ', e1, e2, e3, e4⟩ := clear_X (N := N) hN hX.1 hd.2.2.1 hd.1
    obtain ⟨g1, g2⟩ := StX.new hw hd hX h1 h2 h3 h4 h5 e4 (VR.nil _) e2 e3
    exact ⟨_, μ', e1, rfl, g1, g2⟩
  · obtain ⟨μ', e1, e2, e3, e4⟩ := clear_M (N := N) h.1.2.2.2
    obtain ⟨g1, g2⟩ := StM.new h e4 (VR.nil _) e2 (TnM.zero e3.1) e3.2 (h.2.2.2.2.1.fr e4 (by decide)) (by decide) (by decide) (by decide)
    exact ⟨_, μ', e1, rfl, g1, g2⟩
/-- a look ahead changes only its own cells -/
theorem StX.la {S : St} {sh sh' l l' : Int} {μ μ' : Mm} (hw : WHo sh sh' l l') (hd : HD sh sh' l l' μ) (h1 : tpX (sT S) μ) (h2 : PX (sP S) μ) (h3 : ImX (sI S) μ) (h4 : m_gt μ 24 0 = (sF S).1) (h5 : m_gt μ 24 1 = (sF S).2) (hX : XC sh l (sG S) (sR' S) (sN S) μ') (e : ∀ r i : Int, ¬ lkC r → m_gt μ' r i = m_gt μ r i) : StX S μ' ∧ CL μ μ' := by
  have g : ∀ r i : Int, (r < 33 ∨ (45 ≤ r ∧ r ≤ 104)) → m_gt μ' r i = m_gt μ r i := fun r i hr => e r i (by unfold lkC; omega)
  refine ⟨⟨sh, sh', l, l', hw, ⟨by rw [g _ _ (by decide)]; exact hd.1, by rw [g _ _ (by decide)]; exact hd.2.1, by rw [g _ _ (by decide)]; exact hd.2.2.1, by rw [g _ _ (by decide)]; exact hd.2.2.2⟩, hX, ⟨by rw [g _ _ (by decide)]; exact h1.1, h1.2.ext (fun i => g _ _ (by decide))⟩, fun p p0 p1 => ⟨by rw [g _ _ (by decide)]; exact (h2 p p0 p1).1, (h2 p p0 p1).2.ext (fun i => g _ _ (by decide))⟩, ⟨by rw [g _ _ (by decide)]; exact h3.1, h3.2.ext (fun i => g _ _ (by decide))⟩, by rw [g _ _ (by decide)]; exact h4, by rw [g _ _ (by decide)]; exact h5⟩, hX.1.2.1, fun r i r0 r1 => g r i (by omega)⟩
theorem StM.cm {S : St} {μ μ' : Mm} (h : StM S μ) (hM : MC (sG S) (sR' S) μ') (hA : AHC (sG S) μ') (f : Fr cmI cmS μ μ') : StM S μ' ∧ RLm μ μ' := by
  obtain ⟨h1, h2, h3, h4, h5, h6, h7, h8, h9⟩ := h
  have g := f.ag (wh := [51, 96, 52, 53, 54, 55, 56, 57, 58, 59, 60, 61, 62, 63, 64, 65, 66, 67, 68, 69, 70, 71, 72, 73]) (so := [(50, 78), (50, 72), (50, 1), (50, 7), (50, 8)]) (by decide)
  exact ⟨⟨hM, hA, h3.ag (g.2 (50, 78) (by decide)), h4.ag (fun j => g.1 96 (by decide) j) (g.2 (50, 72) (by decide)), ⟨by rw [g.2 (50, 1) (by decide)]; exact h5.1, h5.2.ag g (by decide)⟩, h6.ag (f.ag (by decide)), h7.ag (f.ag (by decide)), ⟨by rw [g.2 (50, 7) (by decide)]; exact h8.1, by rw [g.2 (50, 8) (by decide)]; exact h8.2⟩, h9.fr (fun r i a b => g.1 r (by simp; omega) i)⟩, fr_rl f h1.2.1 (by decide) (by decide)⟩
theorem c_come {N : Nat} (hN : 1000000 ≤ N) {S : St} (hO : StO S) (m : Bool) : Step (jX7_come N 0 (if m then 1 else 0)) (jX8_come N 50 (if m then 1 else 0)) S := by
  refine ⟨isEnd (LA (sG S) (sR' S)) m, S, fun a b h g => h.uni g, hO, fun μ h => ?_, fun μ h => ?_⟩
  · obtain ⟨sh, sh', l, l', hw, hd, hX, h1, h2, h3, h4, h5⟩ := h
    obtain ⟨v, μ', e1, e2, e3, e4⟩ := come_X (N := N) hN m hX hd.2.2.1
    obtain ⟨g1, g2⟩ := StX.la hw hd h1 h2 h3 h4 h5 e3 e4
    exact ⟨v, μ', e1, e2, g1, g2⟩
  · obtain ⟨v, μ', e1, e2, e3, e4, e5⟩ := come_M (N := N) hN m h.1 h.2.1
    obtain ⟨g1, g2⟩ := h.cm e3 e4 e5
    exact ⟨v, μ', e1, e2, g1, g2⟩
theorem c_ways {N : Nat} (hN : 1000000 ≤ N) {S : St} (hO : StO S) {n : Int} (hn : okI n) (m : Bool) : Step (jX7_ways N 0 n (if m then 1 else 0)) (jX8_ways N 50 n (if m then 1 else 0)) S := by
  refine ⟨fun v => v = waA (LA (sG S) (sR' S)) n m, S, P1, hO, fun μ h => ?_, fun μ h => ?_⟩
  · obtain ⟨sh, sh', l, l', hw, hd, hX, h1, h2, h3, h4, h5⟩ := h
    obtain ⟨μ', e1, e3, e4⟩ := ways_X (N := N) hN hn m hX hd.2.2.1
    obtain ⟨g1, g2⟩ := StX.la hw hd h1 h2 h3 h4 h5 e3 e4
    exact ⟨_, μ', e1, rfl, g1, g2⟩
  · obtain ⟨μ', e1, e3, e4, e5⟩ := ways_M (N := N) hN n m h.1 h.2.1
    obtain ⟨g1, g2⟩ := h.cm e3 e4 e5
    exact ⟨_, μ', e1, rfl, g1, g2⟩
theorem c_needs {N : Nat} (hN : 1000000 ≤ N) {S : St} (hO : StO S) {t : Int} (ht : okI t) (s : Bool) : Step (jX7_needs N 0 t (if s then 1 else 0)) (jX8_needs N 50 t (if s then 1 else 0)) S := by
  refine ⟨neA (sG S) (sR' S) t s, S, fun a b h g => h.uni g, hO, fun μ h => ?_, fun μ h => ?_⟩
  · obtain ⟨sh, sh', l, l', hw, hd, hX, h1, h2, h3, h4, h5⟩ := h
    obtain ⟨v, μ', e1, e2, e3, e4⟩ := needs_X (N := N) hN ht s hX hd.2.2.1
    obtain ⟨g1, g2⟩ := StX.la hw hd h1 h2 h3 h4 h5 e3 e4
    exact ⟨v, μ', e1, e2, g1, g2⟩
  · obtain ⟨v, μ', e1, e2, e3, e4, e5⟩ := needs_M (N := N) hN t s h.1 h.2.1
    obtain ⟨g1, g2⟩ := h.cm e3 e4 e5
    exact ⟨v, μ', e1, e2, g1, g2⟩
