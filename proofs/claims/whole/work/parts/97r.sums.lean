/-! ===== PURE: the reference's sums, from their beginning to their end ===== -/
theorem set49 {T : List Int} {q : Nat} {C W : List Int} {d : Nat} {b b' : Int} {μ : Mm} (h : MS T q C W d b μ) : MS T q C W d b' (m_st μ 50 49 b') ∧ RF μ (m_st μ 50 49 b') := by
  have f1 : Fr [87] [(50, 44), (50, 46), (50, 47), (50, 49)] μ (m_st μ 50 49 b') := Fr.stI (Fr.rf0 _ _ _) (by simp)
  refine ⟨⟨mp_KR (mp_up f1) h.1, mp_PP h.2.1 f1, ⟨⟨?_, ?_⟩, ⟨?_, ?_⟩, ?_, gt_same _ _ _ _⟩, h.2.2.2.lx (mp_up f1)⟩, mp_up f1⟩
  · rw [gt_i _ _ _ (by decide)]; exact h.2.2.1.1.1
  · exact h.2.2.1.1.2.ext (fun i => gt_r _ _ _ _ (by decide))
  · rw [gt_i _ _ _ (by decide)]; exact h.2.2.1.2.1.1
  · exact h.2.2.1.2.1.2.ext (fun i => gt_r _ _ _ _ (by decide))
  · rw [gt_i _ _ _ (by decide)]; exact h.2.2.1.2.2.1
theorem s53_loop {N : Nat} {T : List Int} {q : Nat} {d : Nat} {was : Int} {W : List Int} : ∀ (pd : List Int) (n : Nat) (C : List Int) {μ : Mm}, pd.length < n → C.length + pd.length ≤ 700 → W.length + pd.length < 780 → MS T q C (W ++ pd.reverse.map tM) d W.length μ → ∃ μ', jX8_sums_53 N n 50 was μ = some μ' ∧ MS T q (C ++ pd) W d was μ' ∧ RF μ μ'
  | pd, 0, C, μ, hn, _, _, _ => absurd hn (by omega)
  | [], n + 1, C, μ, hn, hC, hl, h => by
    have h' : MS T q C W d W.length μ := by simpa using h
    obtain ⟨s1, s2⟩ := set49 (b' := was) h'
    refine ⟨_, ?_, by rw [List.append_nil]; exact s1, s2⟩
    show jX8_sums_53b (jX8_sums_53 N n) N 50 was μ = _
    unfold jX8_sums_53b jX8_sums_78
    rw [if_neg (not_not_intro h.2.1.b0), h'.2.2.1.2.1.1, h'.2.2.1.2.2.2, if_pos (by omega), bnd_e]
  | x :: pd, n + 1, C, μ, hn, hC, hl, h => by
    have h' : MS T q C ((W ++ pd.reverse.map tM) ++ [tM x]) d W.length μ := by simpa using h
    rw [List.length_cons] at hn hC hl
    have hlen : (W ++ pd.reverse.map tM).length = W.length + pd.length := by simp
    obtain ⟨t1, t2⟩ := top_K h'
    obtain ⟨μ1, a1, a2, a3, a4⟩ := drops_M (N := N) (by omega) (by rw [hlen]; omega) h'
    obtain ⟨μ', r1, r2, r3⟩ := s53_loop (N := N) (was := was) pd n (C ++ [x]) (μ := μ1) (by omega) (by simp; omega) (by omega) a2
    refine ⟨μ', ?_, by simpa using r2, a4.trI r3⟩
    rw [← r1]
    show jX8_sums_53b (jX8_sums_53 N n) N 50 was μ = _
    unfold jX8_sums_53b
    rw [if_neg (not_not_intro h.2.1.b0), t2, h'.2.2.1.2.2.2, hlen, if_neg (by omega), a1, ob_e]
/-- a sum ends where nothing is open -/
theorem GH_end {N : Nat} (hN : 1000000 ≤ N) {T : List Int} (hT : TB T) {was : Int} {q : Nat} (hI : IN T q) (hn : nop T q) {C W pd : List Int} {d m n : Nat} (hx : ∀ x ∈ pd, tM x < 20) (hC : C.length + pd.length ≤ 700) (hW : W.length + pd.length < 780) (hm : 1 ≤ m) (hn1 : 1 ≤ n) {μ : Mm} (h : MS T q C (W ++ pd.map tM) d W.length μ) : ∃ μ', GH N was m n μ = some μ' ∧ MS T q (C ++ pd.reverse) W d was μ' ∧ RF μ μ' := by
  obtain ⟨m', rfl⟩ : ∃ m', m = m' + 1 := ⟨m - 1, by omega⟩
  obtain ⟨n', rfl⟩ : ∃ n', n = n' + 1 := ⟨n - 1, by omega⟩
  have hl := hT.1
  have hxm : ∀ y ∈ pd.map tM, y < 20 := fun y hy => by
    obtain ⟨x, hxp, rfl⟩ := List.mem_map.mp hy
    exact hx x hxp
  have hWp : W.length + (pd.map tM).length < 780 := by simpa using hW
  obtain ⟨μ1, a1, a2, a3, a4⟩ := look_M (N := N) hN hT h.1 h.2.1
  have h1 := h.pq hI a2 a4
  have mark1 := nomark_M (N := N) hN hxm hWp h1
  obtain ⟨μ2, b1, b2', b3, b4⟩ := on_118 (N := N) hN hT hI hn h1
  have mark2 := nomark_M (N := N) hN hxm hWp b2'
  have e118 : jX8_goesOn_118 N 50 μ1 = some (0, μ2) := by
    rw [b1, mark2, b2_e, if_neg (by decide), mark2, b2_e, if_pos (by decide), mark2, b2_e, if_pos rfl]
    rfl
  have e0 : jX8_goesOn_0 N (m' + 1) 50 μ = some (0, μ2) := by
    show jX8_goesOn_0b (jX8_goesOn_0 N m') N 50 μ = _
    unfold jX8_goesOn_0b
    rw [if_neg (not_not_intro h.2.1.b0), a1, b2_e, mark1, b2_e, e118]
    by_cases c : lk T q = 41
    · rw [if_neg (not_not_intro c), if_neg (by decide), mark1, b2_e, if_neg (by decide), mark1, b2_e, if_pos (by decide), e118]
    · rw [if_pos c]
  obtain ⟨μ3, c1, c2, c3⟩ := s53_loop (N := N) (was := was) pd.reverse N C (μ := μ2) (by simp; omega) (by simpa using hC) (by simpa using hW) (by rw [List.reverse_reverse]; exact b2')
  refine ⟨μ3, ?_, c2, (lx2 a4).trI (b4.trI c3)⟩
  unfold GH
  rw [e0, b2_e, if_pos rfl]
  unfold jX8_sums_48 jX8_sums_49
  show jX8_sums_15b (jX8_sums_15 N n') N 50 was 0 μ2 = _
  unfold jX8_sums_15b
  rw [if_pos rfl]
  exact c1
/-- what the reference's reading of a piece comes to -/
def MR (T W : List Int) (d : Nat) (b : Int) (μ : Mm) (res : Option Mm) (x : PR) : Prop := match x with
  | Sum.inl e => ∃ μ', res = some μ' ∧ FB e μ' ∧ RF μ μ'
  | Sum.inr (q', C') => ∃ μ', res = some μ' ∧ MS T q' C' W d b μ' ∧ RF μ μ'
theorem sums_M {N : Nat} (hN : 1000000 ≤ N) {T : List Int} (hT : TB T) {was : Int} {d : Nat} (hd : d ≤ 6) {W : List Int} (hW : noT [1, 2, 3, 4] W) {q : Nat} {C : List Int} (hI : IN T q) (hC : C.length + W.length + 5 ≤ q) {μ : Mm} (h : MS T q C W d was μ) : MR T W d was μ (jX8_sums N 50 μ) (sumS T (7 - d) d q C) := by
  have hl := hT.1
  have hq := hI.2.1
  obtain ⟨N', hN'⟩ : ∃ N', N = N' + 1 := ⟨N - 1, by omega⟩
  obtain ⟨s1, s2⟩ := set49 (b' := (W.length : Int)) h
  have e : jX8_sums N 50 μ = PH N was N N' 1 (m_st μ 50 49 W.length) := by
    unfold jX8_sums
    rw [bnd_e, bnd_e, h.2.2.1.2.2.2, h.2.2.1.2.1.1]
    conv => lhs; rw [hN']
    rw [← hN']
    have := PH_0 (N := N) (was := was) (n := N') s1.2.1.b0
    rw [← hN'] at this
    exact this
  rw [e]
  have o := sum_MO (N := N) hN hT (was := was) (b := (W.length : Int)) (7 - d) d (by omega) (by omega) N N' W q C _ hI hW (by omega) hC (by omega) (by omega) s1
  have g := sumS_GR (T := T) (7 - d) d q C
  match hxx : sumS T (7 - d) d q C, o with
  | Sum.inl e', o =>
    obtain ⟨μ', a, b', c, f⟩ := o
    exact ⟨μ', a, b', s2.trI f⟩
  | Sum.inr (q2, C2), o =>
    have g2 := g.inr hxx
    obtain ⟨m', n', μ', C2', pd, ok, e', r, ⟨fm, fn⟩, ms, inv, fr⟩ := o
    have hq2 := g2.1.2.1
    obtain ⟨μ2, c1, c2, c3⟩ := GH_end (N := N) hN hT (was := was) (m := m') (n := n') g2.1 ok.1 ok.lt (by omega) (by omega) (by omega) (by omega) ms
    refine ⟨μ2, by rw [r, c1], by rw [e']; exact c2, s2.trI (fr.trI c3)⟩
