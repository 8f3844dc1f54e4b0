/-! ===== PURE: calls that change something ===== -/
def ckX (ids : List Int) (sl : List (Int × Int)) (sh l : Int) : Bool := dj ids sl (wLX l ++ [l + 10, sh, sh + 1, sh + 2, 32, 33, 34, 35, 36, 37, 38, 39, 40, 41, 42, 43, 44]) (sLX l ++ [(0, 2), (0, 3), (0, 5), (0, 6), (24, 0), (24, 1)]) && (ids.all (fun r => decide (r < 50)) && sl.all (fun p => decide (p.1 < 50))) && rfT.all (fun q => !(decide (q.1 ∈ ids ∨ (q.1, q.2.1) ∈ sl)))
theorem ckX_go {ids : List Int} {sl : List (Int × Int)} {sh sh' l l' : Int} {G : Gm} {R : List Int} {tn : Int → Bool} {μ μ' : Mm} (f : Fr ids sl μ μ') (hd : HD sh sh' l l' μ) (hX : XC sh l G R tn μ) (c : ckX ids sl sh l = true) : HD sh sh' l l' μ' ∧ XC sh l G R tn μ' ∧ CL μ μ' ∧ (m_gt μ' 24 0 = m_gt μ 24 0 ∧ m_gt μ' 24 1 = m_gt μ 24 1) := by
  unfold ckX at c
  rw [Bool.and_eq_true, Bool.and_eq_true] at c
  obtain ⟨⟨c1, c2⟩, c3⟩ := c
  have g := f.ag c1
  have hK := f.KR hX.1.2.1 c3
  have c4 := c2
  rw [Bool.and_eq_true, List.all_eq_true, List.all_eq_true] at c4
  have big : ∀ r i : Int, 105 ≤ r → m_gt μ' r i = m_gt μ r i := fun r i hr => f.2.2 r i (fun z => by have := of_decide_eq_true (c4.1 r z); omega) (fun z => by have := of_decide_eq_true (c4.2 (r, i) z); dsimp only at this; omega)
  have gc : ∀ r : Int, (r = l + 10 ∨ r = sh ∨ r = sh + 1 ∨ r = sh + 2 ∨ (32 ≤ r ∧ r ≤ 44)) → ∀ i, m_gt μ' r i = m_gt μ r i := fun r hr i => g.1 r (by simp; omega) i
  have hS : SC sh l G R μ' := hX.1.of hK ⟨fun r hr i => g.1 r (List.mem_append_left _ hr) i, fun p hp => g.2 p (List.mem_append_left _ hp)⟩ (fun i => gc _ (by omega) i) (fun r i hr => gc r (by omega) i)
  refine ⟨⟨by rw [g.2 (0, 2) (by simp)]; exact hd.1, by rw [g.2 (0, 3) (by simp)]; exact hd.2.1, by rw [g.2 (0, 5) (by simp)]; exact hd.2.2.1, by rw [g.2 (0, 6) (by simp)]; exact hd.2.2.2⟩, hX.ext hS f.1 f.2.1 (fun r i hr => by
    by_cases c : 105 ≤ r
    · exact big r i c
    · exact gc r (by omega) i), fr_cl f hK c2, g.2 (24, 0) (by simp), g.2 (24, 1) (by simp)⟩
theorem WHo.ck {sh sh' l l' : Int} (h : WHo sh sh' l l') {P : Int → Int → Prop} (h1 : P 26 2) (h2 : P 26 13) (h3 : P 29 2) (h4 : P 29 13) : P sh l := by
  obtain ⟨⟨rfl, _⟩ | ⟨rfl, _⟩, ⟨rfl, _⟩ | ⟨rfl, _⟩⟩ := h
  · exact h1
  · exact h2
  · exact h3
  · exact h4
theorem c_feed {N : Nat} (hN : 1000000 ≤ N) {S : St} (hO : StO S) (a b c d e : Int) : Step (jX7_feed N 0 a b c d e) (jX8_feed N 50 a b c d e) S := by
  obtain ⟨o1, o2, o3, o4⟩ := hO
  refine ⟨fun v => v = (if (sT S).length + 20 ≤ 700 then ((sT S).length : Int) + 20 else -1), (sG S, sR' S, sN S, (if (sT S).length + 20 ≤ 700 then sT S ++ fed a b c d e else sT S), sP S, sI S, sF S), P1, ⟨?_, o2, o3, o4⟩, fun μ h => ?_, fun μ h => ?_⟩
  · show TV (if (sT S).length + 20 ≤ 700 then sT S ++ fed a b c d e else sT S)
    split
    · refine ⟨by simp [fed, bytes]; omega, fun x hx => ?_⟩
      rcases List.mem_append.mp hx with z | z
      · exact o1.2 x z
      · simp only [fed, List.mem_append] at z
        rcases z with (((z | z) | z) | z) | z <;> exact bytes_ok _ x z
    · exact o1
  · obtain ⟨sh, sh', l, l', hw, hd, hX, h1, h2, h3, h4, h5⟩ := h
    obtain ⟨r, μ', e1, e2, e3, e4⟩ := feed_X (N := N) hN (a := a) (b := b) (c := c) (d := d) (e := e) hX.1.2.1 h1 o1.1
    obtain ⟨g1, g2, g3, g4⟩ := ckX_go e4 hd hX (hw.ck (P := fun sh l => ckX [1] [(0, 1)] sh l = true) (by decide) (by decide) (by decide) (by decide))
    exact ⟨r, μ', e1, e2, ⟨sh, sh', l, l', hw, g1, g2, e3, h2.ag (e4.ag (by decide)), h3.ag (e4.ag (by decide)), by rw [g4.1]; exact h4, by rw [g4.2]; exact h5⟩, g3⟩
  · obtain ⟨h1, h2, h3, h4, h5, h6, h7, h8, h9⟩ := h
    obtain ⟨r, μ', e1, e2, e3, e4⟩ := feed_M (N := N) hN (a := a) (b := b) (c := c) (d := d) (e := e) h1.2.1 h5 o1.1
    have g := e4.ag (wh := [95, 96, 52, 53, 54, 55, 56, 57, 58, 59, 60, 61, 62, 63, 64, 65, 66, 67, 68, 69, 70, 71, 72, 73]) (so := [(50, 70), (50, 78), (50, 72), (50, 7), (50, 8)]) (by decide)
    exact ⟨r, μ', e1, e2, ⟨⟨h1.1, e4.KR h1.2.1 (by decide), h1.2.2.1.ag (e4.ag (by decide)), h1.2.2.2.ag (e4.ag (by decide))⟩, h2.ag (fun j => g.1 95 (by decide) j) (g.2 (50, 70) (by decide)), h3.ag (g.2 (50, 78) (by decide)), h4.ag (fun j => g.1 96 (by decide) j) (g.2 (50, 72) (by decide)), e3, h6.ag (e4.ag (by decide)), h7.ag (e4.ag (by decide)), ⟨by rw [g.2 (50, 7) (by decide)]; exact h8.1, by rw [g.2 (50, 8) (by decide)]; exact h8.2⟩, h9.fr (fun r i a b => g.1 r (by simp; omega) i)⟩, fr_rl e4 h1.2.1 (by decide) (by decide)⟩
theorem c_end {N : Nat} {S : St} (hO : StO S) (n : Int) : Step (jX7_end N 0 n) (jX8_end N 50 n) S := by
  obtain ⟨o1, o2, o3, o4⟩ := hO
  refine ⟨fun v => v = (if 0 ≤ n ∧ n ≤ (sT S).length then 1 else 0), (sG S, sR' S, sN S, (if 0 ≤ n ∧ n ≤ (sT S).length then (sT S).take n.toNat else sT S), sP S, sI S, sF S), P1, ⟨?_, o2, o3, o4⟩, fun μ h => ?_, fun μ h => ?_⟩
  · show TV (if 0 ≤ n ∧ n ≤ (sT S).length then (sT S).take n.toNat else sT S)
    split
    · exact ⟨by rw [List.length_take]; have := o1.1; omega, fun x hx => o1.2 x (List.mem_of_mem_take hx)⟩
    · exact o1
  · obtain ⟨sh, sh', l, l', hw, hd, hX, h1, h2, h3, h4, h5⟩ := h
    obtain ⟨r, μ', e1, e2, e3, e4⟩ := end_X (N := N) (n := n) h1
    obtain ⟨g1, g2, g3, g4⟩ := ckX_go e4 hd hX (hw.ck (P := fun sh l => ckX [] [(0, 1)] sh l = true) (by decide) (by decide) (by decide) (by decide))
    exact ⟨r, μ', e1, e2, ⟨sh, sh', l, l', hw, g1, g2, e3, h2.ag (e4.ag (by decide)), h3.ag (e4.ag (by decide)), by rw [g4.1]; exact h4, by rw [g4.2]; exact h5⟩, g3⟩
  · obtain ⟨h1, h2, h3, h4, h5, h6, h7, h8, h9⟩ := h
    obtain ⟨r, μ', e1, e2, e3, e4⟩ := end_M (N := N) (n := n) h5
    have g := e4.ag (wh := [95, 96, 52, 53, 54, 55, 56, 57, 58, 59, 60, 61, 62, 63, 64, 65, 66, 67, 68, 69, 70, 71, 72, 73]) (so := [(50, 70), (50, 78), (50, 72), (50, 7), (50, 8)]) (by decide)
    exact ⟨r, μ', e1, e2, ⟨⟨h1.1, e4.KR h1.2.1 (by decide), h1.2.2.1.ag (e4.ag (by decide)), h1.2.2.2.ag (e4.ag (by decide))⟩, h2.ag (fun j => g.1 95 (by decide) j) (g.2 (50, 70) (by decide)), h3.ag (g.2 (50, 78) (by decide)), h4.ag (fun j => g.1 96 (by decide) j) (g.2 (50, 72) (by decide)), e3, h6.ag (e4.ag (by decide)), h7.ag (e4.ag (by decide)), ⟨by rw [g.2 (50, 7) (by decide)]; exact h8.1, by rw [g.2 (50, 8) (by decide)]; exact h8.2⟩, h9.fr (fun r i a b => g.1 r (by simp; omega) i)⟩, fr_rl e4 h1.2.1 (by decide) (by decide)⟩
/-- players are only looked at -/
theorem StX.pl {S : St} {μ μ' : Mm} {fX : Mm → Option (Int × Mm)} {v : Int} (h : StX S μ) (e : ∀ l, (l = 2 ∨ l = 13) → COK (sG S) → KR μ → m_gt μ 0 2 = l → LX l (sG S) μ → PX (sP S) μ → ∃ μ', fX μ = some (v, μ') ∧ Fr [l + 3, l + 4, 48] [(l + 1, 4)] μ μ') : ∃ a μ', fX μ = some (a, μ') ∧ a = v ∧ StX S μ' ∧ CL μ μ' := by
  obtain ⟨sh, sh', l, l', hw, hd, hX, h1, h2, h3, h4, h5⟩ := h
  obtain ⟨μ1, e1, e4⟩ := e l hw.s.2.1 hX.1.1.2.2.1.2.2.2.2.2.1 hX.1.2.1 hd.1 hX.1.2.2.1 h2
  obtain ⟨g1, g2, g3, g4⟩ := ckX_go e4 hd hX (hw.ck (P := fun sh l => ckX [l + 3, l + 4, 48] [(l + 1, 4)] sh l = true) (by decide) (by decide) (by decide) (by decide))
  have ag : Ag [1, 46, 47, 49] [(0, 1), (0, 11)] μ μ1 := e4.ag (by rcases hw.s.2.1 with rfl | rfl <;> decide)
  exact ⟨v, μ1, e1, rfl, ⟨sh, sh', l, l', hw, g1, g2, ⟨by rw [ag.2 (0, 1) (by simp)]; exact h1.1, h1.2.ag ag (by simp)⟩, fun p p0 p1 => ⟨by rw [ag.1 47 (by simp)]; exact (h2 p p0 p1).1, (h2 p p0 p1).2.ag ag (by simp)⟩, ⟨by rw [ag.2 (0, 11) (by simp)]; exact h3.1, h3.2.ag ag (by simp)⟩, by rw [g4.1]; exact h4, by rw [g4.2]; exact h5⟩, g3⟩
theorem c_player {N : Nat} (hN : 1000000 ≤ N) {S : St} (hO : StO S) {p : Int} (hp : okI p) (w : Int) : Step (jX7_player N 0 p w) (jX8_player N 50 p w) S := ⟨fun v => v = plA (sG S) (sP S) p w, S, P1, hO, fun μ h => h.pl (μ' := μ) (fun l hl hC hK h2 hL hP => player_X hN hl hC hO.2.1 hK h2 hL hP), fun μ h => by
  obtain ⟨μ', e1, e2⟩ := player_M (N := N) hN (w := w) h.1.1.1.2.2.2.2.2.1 hO.2.1 hp h.kr h.1.2.2.1 h.2.2.2.2.2.1
  obtain ⟨μ'', a, b, c⟩ := h.rd (fM := jX8_player N 50 p w) e1 e2 (by decide) (by decide) (by decide)
  exact ⟨_, μ'', a, rfl, b, c⟩⟩
theorem c_meet {N : Nat} (hN : 1000000 ≤ N) {S : St} (hO : StO S) {p q : Int} (hp : okI p) (hq : okI q) : Step (jX7_meet N 0 p q) (jX8_meet N 50 p q) S := ⟨fun v => v = meA (sG S) (sP S) p q, S, P1, hO, fun μ h => h.pl (μ' := μ) (fun l hl hC hK h2 hL hP => meet_X hN hl hC hO.2.1 hK h2 hL hP), fun μ h => by
  obtain ⟨μ', e1, e2⟩ := meet_M (N := N) hN h.1.1.1.2.2.2.2.2.1 hO.2.1 hp hq h.kr h.1.2.2.1 h.2.2.2.2.2.1
  obtain ⟨μ'', a, b, c⟩ := h.rd (fM := jX8_meet N 50 p q) e1 e2 (by decide) (by decide) (by decide)
  exact ⟨_, μ'', a, rfl, b, c⟩⟩
theorem c_place {N : Nat} (hN : 1000000 ≤ N) {S : St} (hO : StO S) {p : Int} (hp : okI p) : Step (jX7_place N 0 p) (jX8_place N 50 p) S := ⟨fun v => v = pcA (sG S) (sP S) p, S, P1, hO, fun μ h => h.pl (μ' := μ) (fun l hl hC hK h2 hL hP => place_X hN hl hC hO.2.1 hK h2 hL hP), fun μ h => by
  obtain ⟨μ', e1, e2⟩ := place_M (N := N) hN h.1.1.1.2.2.2.2.2.1 hO.2.1 hp h.kr h.1.2.2.1 h.2.2.2.2.2.1
  obtain ⟨μ'', a, b, c⟩ := h.rd (fM := jX8_place N 50 p) e1 e2 (by decide) (by decide) (by decide)
  exact ⟨_, μ'', a, rfl, b, c⟩⟩
theorem c_image {N : Nat} (hN : 1000000 ≤ N) {S : St} (hO : StO S) (hG : GOK (sG S)) (hV : VR (sG S) (sR' S)) : Step (jX7_image N 0) (jX8_image N 50) S := by
  have hl := (R_len hG hV).1
  refine ⟨fun v => v = ((sR' S).length : Int) + 2, (sG S, sR' S, sN S, sT S, sP S, img (sR' S), sF S), P1, ⟨hO.1, hO.2.1, by show (img (sR' S)).length ≤ 29; rw [img_len]; omega, hO.2.2.2⟩, fun μ h => ?_, fun μ h => ?_⟩
  · obtain ⟨sh, sh', l, l', hw, hd, hX, h1, h2, h3, h4, h5⟩ := h
    obtain ⟨μ', e1, e3, e4⟩ := image_X (N := N) hN hX.1 hd.2.2.1
    obtain ⟨g1, g2, g3, g4⟩ := ckX_go e4 hd hX (hw.ck (P := fun sh l => ckX [49] [(0, 11)] sh l = true) (by decide) (by decide) (by decide) (by decide))
    have ag : Ag [1, 46, 47] [(0, 1)] μ μ' := e4.ag (by decide)
    exact ⟨_, μ', e1, rfl, ⟨sh, sh', l, l', hw, g1, g2, ⟨by rw [ag.2 (0, 1) (by simp)]; exact h1.1, h1.2.ag ag (by simp)⟩, h2.ag (e4.ag (by decide)), e3, by rw [g4.1]; exact h4, by rw [g4.2]; exact h5⟩, g3⟩
  · obtain ⟨h1, h2, h3, h4, h5, h6, h7, h8, h9⟩ := h
    obtain ⟨μ', e1, e3, e4⟩ := image_M (N := N) hN hl (R_rok hG hV) h1.2.1 h1.2.2.2
    have g := e4.ag (wh := [51, 95, 96, 52, 53, 54, 55, 56, 57, 58, 59, 60, 61, 62, 63, 64, 65, 66, 67, 68, 69, 70, 71, 72, 73]) (so := [(50, 70), (50, 78), (50, 72), (50, 1), (50, 7), (50, 8)]) (by decide)
    exact ⟨_, μ', e1, rfl, ⟨⟨h1.1, e4.KR h1.2.1 (by decide), h1.2.2.1.ag (e4.ag (by decide)), h1.2.2.2.ag (e4.ag (by decide))⟩, h2.ag (fun j => g.1 95 (by decide) j) (g.2 (50, 70) (by decide)), h3.ag (g.2 (50, 78) (by decide)), h4.ag (fun j => g.1 96 (by decide) j) (g.2 (50, 72) (by decide)), ⟨by rw [g.2 (50, 1) (by decide)]; exact h5.1, h5.2.ag g (by decide)⟩, h6.ag (e4.ag (by decide)), e3, ⟨by rw [g.2 (50, 7) (by decide)]; exact h8.1, by rw [g.2 (50, 8) (by decide)]; exact h8.2⟩, h9.fr (fun r i a b => g.1 r (by simp; omega) i)⟩, fr_rl e4 h1.2.1 (by decide) (by decide)⟩
theorem c_keep {N : Nat} (hN : 1000000 ≤ N) {S : St} (hO : StO S) (hG : GOK (sG S)) (hV : VR (sG S) (sR' S)) {p : Int} (hp : okI p) : Step (jX7_keep N 0 p) (jX8_keep N 50 p) S := by
  refine ⟨fun v => v = kpA (sG S) (sR' S) (sP S) p, (sG S, sR' S, sN S, sT S, kpP (sG S) (sR' S) (sP S) p, sI S, sF S), P1, ⟨hO.1, kpP_ok hG hV hO.2.1 p, hO.2.2.1, hO.2.2.2⟩, fun μ h => ?_, fun μ h => ?_⟩
  · obtain ⟨sh, sh', l, l', hw, hd, hX, h1, h2, h3, h4, h5⟩ := h
    obtain ⟨μ', e1, e3, e4⟩ := keep_X (N := N) hN hX.1 hd.2.2.1 hO.2.1 h2 p
    obtain ⟨g1, g2, g3, g4⟩ := ckX_go e4 hd hX (hw.ck (P := fun sh l => ckX [46, 47] [] sh l = true) (by decide) (by decide) (by decide) (by decide))
    have ag : Ag [1, 49] [(0, 1), (0, 11)] μ μ' := e4.ag (by decide)
    exact ⟨_, μ', e1, rfl, ⟨sh, sh', l, l', hw, g1, g2, ⟨by rw [ag.2 (0, 1) (by simp)]; exact h1.1, h1.2.ag ag (by simp)⟩, e3, ⟨by rw [ag.2 (0, 11) (by simp)]; exact h3.1, h3.2.ag ag (by simp)⟩, by rw [g4.1]; exact h4, by rw [g4.2]; exact h5⟩, g3⟩
  · obtain ⟨h1, h2, h3, h4, h5, h6, h7, h8, h9⟩ := h
    obtain ⟨μ', e1, e3, e4⟩ := keep_M (N := N) hN h1 hO.2.1 h6 hp
    have g := e4.ag (wh := [51, 95, 96, 52, 53, 54, 55, 56, 57, 58, 59, 60, 61, 62, 63, 64, 65, 66, 67, 68, 69, 70, 71, 72, 73]) (so := [(50, 70), (50, 78), (50, 72), (50, 1), (50, 7), (50, 8)]) (by decide)
    exact ⟨_, μ', e1, rfl, ⟨⟨h1.1, e4.KR h1.2.1 (by decide), h1.2.2.1.ag (e4.ag (by decide)), h1.2.2.2.ag (e4.ag (by decide))⟩, h2.ag (fun j => g.1 95 (by decide) j) (g.2 (50, 70) (by decide)), h3.ag (g.2 (50, 78) (by decide)), h4.ag (fun j => g.1 96 (by decide) j) (g.2 (50, 72) (by decide)), ⟨by rw [g.2 (50, 1) (by decide)]; exact h5.1, h5.2.ag g (by decide)⟩, e3, h7.ag (e4.ag (by decide)), ⟨by rw [g.2 (50, 7) (by decide)]; exact h8.1, by rw [g.2 (50, 8) (by decide)]; exact h8.2⟩, h9.fr (fun r i a b => g.1 r (by simp; omega) i)⟩, fr_rl e4 h1.2.1 (by decide) (by decide)⟩
