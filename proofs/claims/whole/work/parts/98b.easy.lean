/-! ===== PURE: calls that change nothing, the tape, players, images ===== -/
theorem P1 {v : Int} : ∀ a b : Int, a = v → b = v → a = b := fun a b h g => by rw [h, g]
/-- both only look -/
theorem Step.look {fX fM : Mm → Option (Int × Mm)} {S : St} (hO : StO S) (v : Int) (hX : ∀ μ, StX S μ → fX μ = some (v, μ)) (hM : ∀ μ, StM S μ → ∃ μ', fM μ = some (v, μ') ∧ StM S μ' ∧ RLm μ μ') : Step fX fM S := ⟨fun a => a = v, S, P1, hO, fun μ h => ⟨v, μ, hX μ h, rfl, h, CL.rf h.kr⟩, fun μ h => by
  obtain ⟨μ', a, b, c⟩ := hM μ h
  exact ⟨v, μ', a, rfl, b, c⟩⟩
theorem StM.id {S : St} {μ : Mm} {fM : Mm → Option (Int × Mm)} {v : Int} (h : StM S μ) (e : fM μ = some (v, μ)) : ∃ μ', fM μ = some (v, μ') ∧ StM S μ' ∧ RLm μ μ' := ⟨μ, e, h, RLm.rf h.kr⟩
/-- the reference looked at its sheet, or reckoned -/
theorem StM.fr {S : St} {ids : List Int} {sl : List (Int × Int)} {μ μ' : Mm} (h : StM S μ) (f : Fr ids sl μ μ') (hK : KR μ') (d : (dj ids sl wGM [] && dj ids sl [89] [(50, 58)] && dj ids sl [51, 95, 96, 52, 53, 54, 55, 56, 57, 58, 59, 60, 61, 62, 63, 64, 65, 66, 67, 68, 69, 70, 71, 72, 73] [(50, 70), (50, 78), (50, 72), (50, 1), (50, 7), (50, 8)] && dj ids sl [101, 102] [] && dj ids sl [103] [(50, 84)]) = true) : StM S μ' := by
  rw [Bool.and_eq_true, Bool.and_eq_true, Bool.and_eq_true, Bool.and_eq_true] at d
  obtain ⟨⟨⟨⟨d1, d2⟩, d3⟩, d4⟩, d5⟩ := d
  obtain ⟨h1, h2, h3, h4, h5, h6, h7, h8, h9⟩ := h
  have g := f.ag d3
  refine ⟨⟨h1.1, hK, h1.2.2.1.ag (f.ag d1), h1.2.2.2.ag (f.ag d2)⟩, h2.ag (fun j => g.1 95 (by decide) j) (g.2 (50, 70) (by decide)), h3.ag (g.2 (50, 78) (by decide)), h4.ag (fun j => g.1 96 (by decide) j) (g.2 (50, 72) (by decide)), ⟨by rw [g.2 (50, 1) (by decide)]; exact h5.1, h5.2.ag g (by decide)⟩, h6.ag (f.ag d4), h7.ag (f.ag d5), ⟨by rw [g.2 (50, 7) (by decide)]; exact h8.1, by rw [g.2 (50, 8) (by decide)]; exact h8.2⟩, h9.fr (fun r i a b => g.1 r (by simp; omega) i)⟩
theorem StM.rd {S : St} {ids : List Int} {sl : List (Int × Int)} {μ μ' : Mm} {fM : Mm → Option (Int × Mm)} {v : Int} (h : StM S μ) (e : fM μ = some (v, μ')) (f : Fr ids sl μ μ') (hn : rfT.all (fun q => !(decide (q.1 ∈ ids ∨ (q.1, q.2.1) ∈ sl))) = true) (hr : (ids.all (fun r => decide (50 ≤ r ∧ r ≤ 104)) && sl.all (fun p => decide (50 ≤ p.1 ∧ p.1 ≤ 104))) = true) (d : (dj ids sl wGM [] && dj ids sl [89] [(50, 58)] && dj ids sl [51, 95, 96, 52, 53, 54, 55, 56, 57, 58, 59, 60, 61, 62, 63, 64, 65, 66, 67, 68, 69, 70, 71, 72, 73] [(50, 70), (50, 78), (50, 72), (50, 1), (50, 7), (50, 8)] && dj ids sl [101, 102] [] && dj ids sl [103] [(50, 84)]) = true) : ∃ μ', fM μ = some (v, μ') ∧ StM S μ' ∧ RLm μ μ' := ⟨μ', e, h.fr f (f.KR h.kr hn) d, fr_rl f h.kr hr hn⟩
theorem WHo.s {sh sh' l l' : Int} (h : WHo sh sh' l l') : (sh = 26 ∨ sh = 29) ∧ (l = 2 ∨ l = 13) ∧ (l' = 2 ∨ l' = 13) ∧ (sh' = 26 ∨ sh' = 29) ∧ sh ≠ sh' ∧ l ≠ l' := by
  unfold WHo at h
  omega
theorem c_fault {N : Nat} {S : St} (hO : StO S) (w : Int) : Step (jX7_fault N 0 w) (jX8_fault N 50 w) S := Step.look hO (fuA (sF S).1 (sF S).2 w) (fun μ h => by
  obtain ⟨sh, sh', l, l', hw, hd, hX, h1, h2, h3, h4, h5⟩ := h
  exact fault_X hX.1.2.1 h4 h5) (fun μ h => h.id (fault_M h.2.2.2.2.2.2.2.1.1 h.2.2.2.2.2.2.2.1.2))
theorem c_has {N : Nat} (hN : 1000000 ≤ N) {S : St} (hO : StO S) (w : Int) : Step (jX7_has N 0 w) (jX8_has N 50 w) S := Step.look hO (haA (sG S) w) (fun μ h => by
  obtain ⟨sh, sh', l, l', hw, hd, hX, _⟩ := h
  exact has_X hN hw.s.2.1 hX.1.1.2.2.1 hX.1.2.1 hd.1 hX.1.2.2.1) (fun μ h => h.id (has_M hN h.kr h.1.2.2.1))
theorem c_falls {N : Nat} (hN : 1000000 ≤ N) {S : St} (hO : StO S) {s f : Int} (hs : okI s) (hf : okI f) : Step (jX7_falls N 0 s f) (jX8_falls N 50 s f) S := Step.look hO (faA (sG S) s f) (fun μ h => by
  obtain ⟨sh, sh', l, l', hw, hd, hX, _⟩ := h
  exact falls_X hN hw.s.2.1 hX.1.1.2.2.1 hX.1.2.1 hd.1 hX.1.2.2.1) (fun μ h => h.id (falls_M hN h.1.1.1 hs hf h.kr h.1.2.2.1))
theorem c_split {N : Nat} (hN : 1000000 ≤ N) {S : St} (hO : StO S) {s : Int} (hs : okI s) : Step (jX7_split N 0 s) (jX8_split N 50 s) S := Step.look hO (spA (sG S) s) (fun μ h => by
  obtain ⟨sh, sh', l, l', hw, hd, hX, _⟩ := h
  exact split_X hN hw.s.2.1 hX.1.1.2.2.1 hX.1.2.1 hd.1 hX.1.2.2.1) (fun μ h => h.id (split_M hN h.1.1.1 hs h.kr h.1.2.2.1))
theorem c_fewest {N : Nat} (hN : 1000000 ≤ N) {S : St} (hO : StO S) {s : Int} (hs : okI s) : Step (jX7_fewest N 0 s) (jX8_fewest N 50 s) S := Step.look hO (fwA (sG S) s) (fun μ h => by
  obtain ⟨sh, sh', l, l', hw, hd, hX, _⟩ := h
  exact fewest_X hN hw.s.2.1 hX.1.1.2.2.1 hX.1.2.1 hd.1 hX.1.2.2.1) (fun μ h => h.id (fewest_M hN h.1.1.1 hs h.kr h.1.2.2.1))
theorem c_leaves {N : Nat} (hN : 1000000 ≤ N) {S : St} (hO : StO S) {s : Int} (hs : okI s) : Step (jX7_leaves N 0 s) (jX8_leaves N 50 s) S := Step.look hO (lvA (sG S) s) (fun μ h => by
  obtain ⟨sh, sh', l, l', hw, hd, hX, _⟩ := h
  exact leaves_X hN hw.s.2.1 hX.1.1.2.2.1 hX.1.2.1 hd.1 hX.1.2.2.1) (fun μ h => h.id (leaves_M hN h.1.1.1 hs h.kr h.1.2.2.1))
theorem c_octet {N : Nat} {S : St} (hO : StO S) (i : Int) : Step (jX7_octet N 0 i) (jX8_octet N 50 i) S := Step.look hO (rA (sI S) i) (fun μ h => by
  obtain ⟨sh, sh', l, l', hw, hd, hX, h1, h2, h3, h4, h5⟩ := h
  exact octet_X hX.1.2.1 h3 hO.2.2.1 i) (fun μ h => h.id (octet_M h.kr h.2.2.2.2.2.2.1 hO.2.2.1 i))
theorem c_sheet {N : Nat} (hN : 1000000 ≤ N) {S : St} (hO : StO S) (w : Int) : Step (jX7_sheet N 0 w) (jX8_sheet N 50 w) S := Step.look hO (shA (sG S) (sR' S) w) (fun μ h => by
  obtain ⟨sh, sh', l, l', hw, hd, hX, _⟩ := h
  exact sheet_X hX.1 hd.2.2.1 w) (fun μ h => by
  obtain ⟨μ', a, f⟩ := sheet_M (N := N) hN h.1 w
  exact h.rd a f (by decide) (by decide) (by decide))
theorem c_rolled {N : Nat} {S : St} (hO : StO S) {i : Int} (hi : okI i) : Step (jX7_rolled N 0 i) (jX8_rolled N 50 i) S := Step.look hO (rA (sR' S) i) (fun μ h => by
  obtain ⟨sh, sh', l, l', hw, hd, hX, _⟩ := h
  exact rolled_X hX.1 hd.2.2.1 i) (fun μ h => h.id (rolled_M h.kr h.1.2.2.2 (R_len h.1.1.1 h.1.1.2).1 hi))
theorem c_frame {N : Nat} (hN : 1000000 ≤ N) {S : St} (hO : StO S) {f : Int} (hf : okI f) (w : Int) : Step (jX7_frame N 0 f w) (jX8_frame N 50 f w) S := Step.look hO (frA (sG S) (spl (sG S) (sR' S)) f w) (fun μ h => by
  obtain ⟨sh, sh', l, l', hw, hd, hX, _⟩ := h
  exact frame_X hN hX.1 hd.2.2.1 hd.1 f w) (fun μ h => by
  obtain ⟨μ', a, g⟩ := frame_M (N := N) hN h.1 (w := w) hf
  exact h.rd a g (by decide) (by decide) (by decide))
theorem c_points {N : Nat} (hN : 1000000 ≤ N) {S : St} (hO : StO S) {f : Int} (hf : okI f) : Step (jX7_points N 0 f) (jX8_points N 50 f) S := Step.look hO (ptA (sG S) (spl (sG S) (sR' S)) f) (fun μ h => by
  obtain ⟨sh, sh', l, l', hw, hd, hX, _⟩ := h
  exact points_X hN hX.1 hd.2.2.1 f) (fun μ h => by
  obtain ⟨μ', a, g⟩ := points_M (N := N) hN h.1 hf
  exact h.rd a g (by decide) (by decide) (by decide))
theorem c_total {N : Nat} (hN : 1000000 ≤ N) {S : St} (hO : StO S) : Step (jX7_total N 0) (jX8_total N 50) S := Step.look hO (toA (sG S) (spl (sG S) (sR' S))) (fun μ h => by
  obtain ⟨sh, sh', l, l', hw, hd, hX, _⟩ := h
  exact total_X hN hX.1 hd.2.2.1) (fun μ h => by
  obtain ⟨μ', a, g⟩ := total_M (N := N) hN h.1
  exact h.rd a g (by decide) (by decide) (by decide))
