/-! ===== PURE: torn frames, images put on, games ===== -/
theorem StM.tf {S : St} {ids : List Int} {tn' : Int → Bool} {μ μ' : Mm} (h : StM S μ) (hM : MC (sG S) (sR' S) μ') (hT : TnM tn' μ') (hF : FIC (sG S) (sR' S) tn' μ') {sl : List (Int × Int)} (f : Fr ids sl μ μ') (hn : rfT.all (fun q => !(decide (q.1 ∈ ids ∨ (q.1, q.2.1) ∈ sl))) = true) (hr : (ids.all (fun r => decide (50 ≤ r ∧ r ≤ 104)) && sl.all (fun p => decide (50 ≤ p.1 ∧ p.1 ≤ 104))) = true) (d : (dj ids sl [51, 95, 52, 53, 54, 55, 56, 57, 58, 59, 60, 61, 62, 63, 64, 65, 66, 67, 68, 69, 70, 71, 72, 73] [(50, 70), (50, 1), (50, 7), (50, 8)] && dj ids sl [101, 102] [] && dj ids sl [103] [(50, 84)]) = true) : StM (sG S, sR' S, tn', sT S, sP S, sI S, sF S) μ' ∧ RLm μ μ' := by
  rw [Bool.and_eq_true, Bool.and_eq_true] at d
  obtain ⟨⟨d1, d2⟩, d3⟩ := d
  obtain ⟨h1, h2, h3, h4, h5, h6, h7, h8, h9⟩ := h
  have g := f.ag d1
  exact ⟨⟨hM, h2.ag (fun j => g.1 95 (by decide) j) (g.2 (50, 70) (by decide)), hT, hF, ⟨by rw [g.2 (50, 1) (by decide)]; exact h5.1, h5.2.ag g (by decide)⟩, h6.ag (f.ag d2), h7.ag (f.ag d3), ⟨by rw [g.2 (50, 7) (by decide)]; exact h8.1, by rw [g.2 (50, 8) (by decide)]; exact h8.2⟩, h9.fr (fun r i a b => g.1 r (by simp; omega) i)⟩, fr_rl f h1.2.1 hr hn⟩
theorem c_fits {N : Nat} (hN : 1000000 ≤ N) {S : St} (hO : StO S) (n : Int) (a : Bool) : Step (jX7_fits N 0 n (if a then 1 else 0)) (jX8_fits N 50 n (if a then 1 else 0)) S := by
  refine ⟨fun v => v = fiA (sG S) (sR' S) (sN S) n a, S, P1, hO, fun μ h => ?_, fun μ h => ?_⟩
  · obtain ⟨sh, sh', l, l', hw, hd, hX, h1, h2, h3, h4, h5⟩ := h
    obtain ⟨μ', e1, e3, e4⟩ := fits_X (N := N) hN (n := n) a hX hd.2.2.1
    obtain ⟨g1, g2⟩ := StX.la hw hd h1 h2 h3 h4 h5 e3 e4
    exact ⟨_, μ', e1, rfl, g1, g2⟩
  · obtain ⟨μ', e1, e3, e4, e5, e6⟩ := fits_M (N := N) hN n a h.1 h.2.2.1 h.2.2.2.1
    obtain ⟨g1, g2⟩ := h.tf e3 e4 e5 e6 (by decide) (by decide) (by decide)
    exact ⟨_, μ', e1, rfl, g1, g2⟩
theorem c_must {N : Nat} (hN : 1000000 ≤ N) {S : St} (hO : StO S) {f n : Int} (hf : okI f) (hn : okI n) (a : Bool) : Step (jX7_must N 0 f n (if a then 1 else 0)) (jX8_must N 50 f n (if a then 1 else 0)) S := by
  refine ⟨muA (sG S) (sR' S) (sN S) f n a, S, fun a b h g => h.uni g, hO, fun μ h => ?_, fun μ h => ?_⟩
  · obtain ⟨sh, sh', l, l', hw, hd, hX, h1, h2, h3, h4, h5⟩ := h
    obtain ⟨v, μ', e1, e2, e3, e4⟩ := must_X (N := N) hN (f := f) (n := n) a hX hd.2.2.1 hd.1
    obtain ⟨g1, g2⟩ := StX.la hw hd h1 h2 h3 h4 h5 e3 e4
    exact ⟨v, μ', e1, e2, g1, g2⟩
  · obtain ⟨v, μ', e1, e2, e3, e4, e5, e6⟩ := must_M (N := N) hN hf hn a h.1 h.2.2.1 h.2.2.2.1
    obtain ⟨g1, g2⟩ := h.tf e3 e4 e5 e6 (by decide) (by decide) (by decide)
    exact ⟨v, μ', e1, e2, g1, g2⟩
theorem c_tear {N : Nat} (hN : 1000000 ≤ N) {S : St} (hO : StO S) {f : Int} (hf : okI f) (t : Bool) : Step (jX7_tear N 0 f (if t then 1 else 0)) (jX8_tear N 50 f (if t then 1 else 0)) S := by
  refine ⟨fun v => v = teA (sG S) (sR' S) f, (sG S, sR' S, teT (sG S) (sR' S) (sN S) f t, sT S, sP S, sI S, sF S), P1, ⟨hO.1, hO.2.1, hO.2.2.1, ?_⟩, fun μ h => ?_, fun μ h => ?_⟩
  · show NT (sG S) (sR' S) (teT (sG S) (sR' S) (sN S) f t)
    intro hw
    have e : teT (sG S) (sR' S) (sN S) f t = sN S := by
      unfold teT
      rw [if_neg (fun z => z.2.2 hw)]
    rw [e]
    exact hO.2.2.2 hw
  · obtain ⟨sh, sh', l, l', hw, hd, hX, h1, h2, h3, h4, h5⟩ := h
    obtain ⟨μ', e1, e2, e3, e4, e5⟩ := tear_X (N := N) (f := f) t hX.1 hX.2.2.1 hd.2.2.1 hd.1
    have hK : KR μ' := e5.KR hX.1.2.1 (by decide)
    have ag : Ag [1, 46, 47, 49] [(0, 1), (0, 2), (0, 3), (0, 5), (0, 6), (0, 11), (24, 0), (24, 1)] μ μ' := e5.ag (by decide)
    have hX' : XC sh l (sG S) (sR' S) (teT (sG S) (sR' S) (sN S) f t) μ' := by
      by_cases c : teA (sG S) (sR' S) f = 0
      · obtain ⟨a, b⟩ := e4 c
        rw [a, b]
        exact hX
      · have c1 : teA (sG S) (sR' S) f = 1 := by
          unfold teA at c ⊢
          split at c
          · rename_i z; rw [if_pos z]
          · exact absurd rfl c
        refine ⟨hX.1.ext hK (fun r i hr => e5.2.2 r i (by simp; omega) (by simp; omega)), hX.2.1.ext hK e5.1 e5.2.1 (fun r i hr _ h33 => e5.2.2 r i (by unfold lkC at hr; simp; omega) (by simp; omega)), e2, Or.inl (e3 c1)⟩
    exact ⟨_, μ', e1, rfl, ⟨sh, sh', l, l', hw, ⟨by rw [ag.2 (0, 2) (by simp)]; exact hd.1, by rw [ag.2 (0, 3) (by simp)]; exact hd.2.1, by rw [ag.2 (0, 5) (by simp)]; exact hd.2.2.1, by rw [ag.2 (0, 6) (by simp)]; exact hd.2.2.2⟩, hX', ⟨by rw [ag.2 (0, 1) (by simp)]; exact h1.1, h1.2.ag ag (by simp)⟩, fun p p0 p1 => ⟨by rw [ag.1 47 (by simp)]; exact (h2 p p0 p1).1, (h2 p p0 p1).2.ag ag (by simp)⟩, ⟨by rw [ag.2 (0, 11) (by simp)]; exact h3.1, h3.2.ag ag (by simp)⟩, by rw [ag.2 (24, 0) (by simp)]; exact h4, by rw [ag.2 (24, 1) (by simp)]; exact h5⟩, fr_cl e5 hK (by decide)⟩
  · obtain ⟨μ', e1, e3, e4, e5⟩ := tear_M (N := N) hN hf t h.1 h.2.2.1 h.2.2.2.1
    have hM : MC (sG S) (sR' S) μ' := ⟨h.1.1, e5.KR h.kr (by decide), h.1.2.2.1.ag (e5.ag (by decide)), h.1.2.2.2.ag (e5.ag (by decide))⟩
    obtain ⟨g1, g2⟩ := h.tf hM e3 e4 e5 (by decide) (by decide) (by decide)
    exact ⟨_, μ', e1, rfl, g1, g2⟩
