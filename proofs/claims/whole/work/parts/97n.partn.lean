/-! ===== PURE: the reference reads a part, whole ===== -/
theorem code_raw {N : Nat} {k : Nat} (hk : k < 1400) {v : Int} {μ : Mm} (hK : KR μ) (h : m_gt μ 50 44 = k) : jX8_code N 50 v μ = some (m_st (m_st μ 86 k v) 50 44 (k + 1)) := by
  unfold jX8_code
  rw [r_50_43 hK, h, ast_e (k_86 hK) (by omega) (by omega), ob_e, bnd_e, gt_r _ _ _ _ (by decide), h, i_add_e (by omega) (by omega)]
theorem ow_1 {N : Nat} (hN : 1000000 ≤ N) {T : List Int} (hT : TB T) {q : Nat} (hI : IN T q) {C W : List Int} {d : Nat} {b : Int} {r : Int} {w : List Int} (hm : (r, w) ∈ wdM) (hr : r ≠ 50) {t v : Int} (hv : v = tM t) (hv1 : ¬ v = -1) (hC : C.length < 699) {k : Mm → Option Mm} {μ : Mm} (h : MS T q C W d b μ) : (∀ q1, wrd T w q = some q1 → ∃ μ', (b2 (jX8_takes N 50 r μ) fun x1 μ1 => if x1 = 0 then k μ1 else jX8_onePart_251 N 50 v μ1) = some μ' ∧ MS T q1 (C ++ [t]) W d b μ' ∧ RF μ μ') ∧ (wrd T w q = none → ∃ μ', (b2 (jX8_takes N 50 r μ) fun x1 μ1 => if x1 = 0 then k μ1 else jX8_onePart_251 N 50 v μ1) = k μ' ∧ MS T q C W d b μ' ∧ PQ T q μ' ∧ RF μ μ') := by
  have hw := wm h.1 h.2.2.2 hm
  constructor
  · intro q1 hs
    obtain ⟨μ1, a1, a2, a3, a4⟩ := takesM_1 (N := N) hN hT hI hr h.1 hw hs h.2.1
    have h1 := h.l4 a2 a4
    obtain ⟨μ2, b1, b2', _, b4⟩ := code_M (N := N) (by omega) hv h1
    refine ⟨μ2, ?_, b2', (lx4 a4).trI b4⟩
    unfold jX8_onePart_251 jX8_onePart_274
    rw [a1, b2_e, if_neg (by decide), if_neg hv1, chk_e (k_50 h1.1), b1, ob_e]
  · intro hs
    obtain ⟨μ1, a1, a2, a3, a4⟩ := takesM_0 (N := N) hN hT hI hr h.1 hw hs h.2.1
    exact ⟨μ1, by rw [a1, b2_e, if_pos rfl], h.pq hI a2 a4, a2, lx2 a4⟩
theorem on_146 {N : Nat} (hN : 1000000 ≤ N) {T : List Int} (hT : TB T) {q : Nat} (hI : IN T q) {C W : List Int} {d : Nat} {b : Int} (hC : C.length < 699) {μ : Mm} (h : MS T q C W d b μ) : match simS T q C with | Sum.inr (q1, C1) => ∃ μ', jX8_onePart_146 N 50 μ = some μ' ∧ MS T q1 C1 W d b μ' ∧ RF μ μ' | Sum.inl e => ∃ μ', jX8_onePart_146 N 50 μ = some μ' ∧ FB e μ' ∧ RF μ μ' := by
  unfold simS w6 jX8_onePart_146
  rw [if_pos h.2.1.b0, r_50_23 h.1]
  obtain ⟨y1, n1⟩ := ow_1 (N := N) hN hT hI (r := 66) (w := [102, 114, 97, 109, 101]) (by decide) (by decide) (t := -1) (v := 7) (by decide) (by decide) hC (k := fun μ1 => b2 (jX8_takes N 50 (m_gt μ1 50 24) μ1) fun x2 μ2 =>
if x2 = 0 then (b2 (jX8_takes N 50 (m_gt μ2 50 25) μ2) fun x3 μ3 =>
if x3 = 0 then (b2 (jX8_takes N 50 (m_gt μ3 50 26) μ3) fun x4 μ4 =>
if x4 = 0 then (b2 (jX8_takes N 50 (m_gt μ4 50 27) μ4) fun x5 μ5 =>
if x5 = 0 then (b2 (jX8_takes N 50 (m_gt μ5 50 28) μ5) fun x6 μ6 =>
if x6 = 0 then (jX8_onePart_251 N 50 (-1) μ6) else (jX8_onePart_251 N 50 30 μ6)) else (jX8_onePart_251 N 50 18 μ5)) else (jX8_onePart_251 N 50 10 μ4)) else (jX8_onePart_251 N 50 9 μ3)) else (jX8_onePart_251 N 50 8 μ2)) h
  cases e1 : wrd T [102, 114, 97, 109, 101] q with
  | some q1 => simp only [wtok, e1]; exact y1 q1 e1
  | none =>
  obtain ⟨μ1, r1, h1, p1, f1⟩ := n1 e1
  obtain ⟨y2, n2⟩ := ow_1 (N := N) hN hT hI (r := 67) (w := [100, 111, 119, 110]) (by decide) (by decide) (t := -2) (v := 8) (by decide) (by decide) hC (k := fun μ2 => (b2 (jX8_takes N 50 (m_gt μ2 50 25) μ2) fun x3 μ3 =>
if x3 = 0 then (b2 (jX8_takes N 50 (m_gt μ3 50 26) μ3) fun x4 μ4 =>
if x4 = 0 then (b2 (jX8_takes N 50 (m_gt μ4 50 27) μ4) fun x5 μ5 =>
if x5 = 0 then (b2 (jX8_takes N 50 (m_gt μ5 50 28) μ5) fun x6 μ6 =>
if x6 = 0 then (jX8_onePart_251 N 50 (-1) μ6) else (jX8_onePart_251 N 50 30 μ6)) else (jX8_onePart_251 N 50 18 μ5)) else (jX8_onePart_251 N 50 10 μ4)) else (jX8_onePart_251 N 50 9 μ3))) h1
  rw [r1]
  rw [r_50_24 h1.1]
  cases e2 : wrd T [100, 111, 119, 110] q with
  | some q1 =>
    simp only [wtok, e1, e2]
    obtain ⟨μ', g1, g2, g3⟩ := y2 q1 e2
    exact ⟨μ', g1, g2, f1.trI g3⟩
  | none =>
  obtain ⟨μ2, r2, h2, p2, f2⟩ := n2 e2
  obtain ⟨y3, n3⟩ := ow_1 (N := N) hN hT hI (r := 68) (w := [117, 115, 101, 100]) (by decide) (by decide) (t := -3) (v := 9) (by decide) (by decide) hC (k := fun μ3 => (b2 (jX8_takes N 50 (m_gt μ3 50 26) μ3) fun x4 μ4 =>
if x4 = 0 then (b2 (jX8_takes N 50 (m_gt μ4 50 27) μ4) fun x5 μ5 =>
if x5 = 0 then (b2 (jX8_takes N 50 (m_gt μ5 50 28) μ5) fun x6 μ6 =>
if x6 = 0 then (jX8_onePart_251 N 50 (-1) μ6) else (jX8_onePart_251 N 50 30 μ6)) else (jX8_onePart_251 N 50 18 μ5)) else (jX8_onePart_251 N 50 10 μ4))) h2
  rw [r2]
  rw [r_50_25 h2.1]
  cases e3 : wrd T [117, 115, 101, 100] q with
  | some q1 =>
    simp only [wtok, e1, e2, e3]
    obtain ⟨μ', g1, g2, g3⟩ := y3 q1 e3
    exact ⟨μ', g1, g2, f1.trI (f2.trI g3)⟩
  | none =>
  obtain ⟨μ3, r3, h3, p3, f3⟩ := n3 e3
  obtain ⟨y4, n4⟩ := ow_1 (N := N) hN hT hI (r := 69) (w := [102, 111, 117, 108, 115]) (by decide) (by decide) (t := -4) (v := 10) (by decide) (by decide) hC (k := fun μ4 => (b2 (jX8_takes N 50 (m_gt μ4 50 27) μ4) fun x5 μ5 =>
if x5 = 0 then (b2 (jX8_takes N 50 (m_gt μ5 50 28) μ5) fun x6 μ6 =>
if x6 = 0 then (jX8_onePart_251 N 50 (-1) μ6) else (jX8_onePart_251 N 50 30 μ6)) else (jX8_onePart_251 N 50 18 μ5))) h3
  rw [r3]
  rw [r_50_26 h3.1]
  cases e4 : wrd T [102, 111, 117, 108, 115] q with
  | some q1 =>
    simp only [wtok, e1, e2, e3, e4]
    obtain ⟨μ', g1, g2, g3⟩ := y4 q1 e4
    exact ⟨μ', g1, g2, f1.trI (f2.trI (f3.trI g3))⟩
  | none =>
  obtain ⟨μ4, r4, h4, p4, f4⟩ := n4 e4
  obtain ⟨y5, n5⟩ := ow_1 (N := N) hN hT hI (r := 70) (w := [109, 101, 97, 110]) (by decide) (by decide) (t := -5) (v := 18) (by decide) (by decide) hC (k := fun μ5 => (b2 (jX8_takes N 50 (m_gt μ5 50 28) μ5) fun x6 μ6 =>
if x6 = 0 then (jX8_onePart_251 N 50 (-1) μ6) else (jX8_onePart_251 N 50 30 μ6))) h4
  rw [r4]
  rw [r_50_27 h4.1]
  cases e5 : wrd T [109, 101, 97, 110] q with
  | some q1 =>
    simp only [wtok, e1, e2, e3, e4, e5]
    obtain ⟨μ', g1, g2, g3⟩ := y5 q1 e5
    exact ⟨μ', g1, g2, f1.trI (f2.trI (f3.trI (f4.trI g3)))⟩
  | none =>
  obtain ⟨μ5, r5, h5, p5, f5⟩ := n5 e5
  obtain ⟨y6, n6⟩ := ow_1 (N := N) hN hT hI (r := 71) (w := [103, 97, 109, 101, 115]) (by decide) (by decide) (t := -6) (v := 30) (by decide) (by decide) hC (k := fun μ6 => jX8_onePart_251 N 50 (-1) μ6) h5
  rw [r5]
  rw [r_50_28 h5.1]
  cases e6 : wrd T [103, 97, 109, 101, 115] q with
  | some q1 =>
    simp only [wtok, e1, e2, e3, e4, e5, e6]
    obtain ⟨μ', g1, g2, g3⟩ := y6 q1 e6
    exact ⟨μ', g1, g2, f1.trI (f2.trI (f3.trI (f4.trI (f5.trI g3))))⟩
  | none =>
  obtain ⟨μ6, r6, h6, p6, f6⟩ := n6 e6
  have F : RF μ μ6 := f1.trI (f2.trI (f3.trI (f4.trI (f5.trI f6))))
  rw [r6]
  simp only [wtok, e1, e2, e3, e4, e5, e6]
  unfold jX8_onePart_251 jX8_onePart_274
  rw [if_pos rfl]
  cases hn : numb T 0 9999 q with
  | inr p =>
    obtain ⟨v, q1⟩ := p
    have i1 := numb_IN hn
    obtain ⟨μ7, a1, a2, a3, a4⟩ := numM_1 (N := N) hN hT (by decide) (by decide) hI hn h6.1 h6.2.1
    have h7 := h6.l4 a2 a4
    have hv0 := i1.2.2.1
    have hv9 := i1.2.2.2.1
    obtain ⟨μ8, b1, b2', _, b4⟩ := code_M (N := N) (t := v) (v := 1000 + v) (by omega) (by unfold tM; rw [if_pos hv0]) h7
    refine ⟨μ8, ?_, b2', F.trI ((lx4 a4).trI b4)⟩
    rw [a1, b2_e, i_add_e (by omega) (by omega), chk_e (k_50 h7.1), b1, ob_e]
  | inl e =>
    obtain ⟨v, μ7, a1, a2, _, a3⟩ := numM_0 (N := N) hN hT (by decide) (by decide) hI hn h6.1 h6.2.1
    have K7 : KR μ7 := a3.KR h6.1 (by decide)
    have e44 : m_gt μ7 50 44 = C.length := by rw [a3.2.2 50 44 (by decide) (by decide)]; exact h6.2.2.1.1.1
    refine ⟨m_st (m_st μ7 86 C.length (i_add 1000 v)) 50 44 (C.length + 1), ?_, ⟨?_, ⟨?_, C.length + 1, by omega, by rw [gt_same]; omega⟩, a2.2.2⟩, F.trI ((lx6 a3).trI (RF_code (by omega) _ _ _))⟩
    · rw [a1, b2_e, chk_e (k_50 K7), code_raw (by omega) K7 e44, ob_e]
    · rw [gt_i _ _ _ (by decide), gt_r _ _ _ _ (by decide)]; exact a2.1
    · rw [gt_i _ _ _ (by decide), gt_r _ _ _ _ (by decide)]; exact a2.2.1
theorem PH_simple {N : Nat} (hN : 1000000 ≤ N) {T : List Int} (hT : TB T) {was : Int} {q : Nat} (hI : IN T q) (hs : sg T 40 q = none) (hw1 : wrd T wMin q = none) (hw2 : wrd T wMax q = none) {C W : List Int} {d m n : Nat} {b : Int} (hC : C.length + W.length + 5 ≤ q) (hm : 1 ≤ m) (hn : T.length + 9 < q + n) (hn1 : 1 ≤ n) {μ : Mm} (h : MS T q C W d b μ) : MO N was T W d b (fun _ pd => pd = []) μ (PH N was (m + 1) n 1 μ) (simS T q C) := by
  have hl := hT.1
  have hlk := sg40_lk hs
  have hq := hI.2.1
  obtain ⟨m', rfl⟩ : ∃ m', m = m' + 1 := ⟨m - 1, by omega⟩
  obtain ⟨μ1, a1, a2, a3, a4⟩ := look_M (N := N) hN hT h.1 h.2.1
  have h1 := h.pq hI a2 a4
  obtain ⟨μ2, b1, b2', b3, b4⟩ := isHere_M (N := N) hN hT hI (by decide) h1.1 (wm h1.1 h1.2.2.2 (r := 72) (w := wMin) (by decide)) h1.2.1
  have h2 := h1.pq hI b2' b4
  obtain ⟨μ3, c1, c2, c3, c4⟩ := isHere_M (N := N) hN hT hI (by decide) h2.1 (wm h2.1 h2.2.2.2 (r := 73) (w := wMax) (by decide)) h2.2.1
  have h3 := h2.pq hI c2 c4
  have F3 : RF μ μ3 := (lx2 a4).trI ((lx2 b4).trI (lx2 c4))
  have e : jX8_onePart_2 N (m' + 1 + 1) 50 1 μ = jX8_onePart_146 N 50 μ3 := by
    show jX8_onePart_2b (jX8_onePart_2 N (m' + 1)) N 50 1 μ = _
    unfold jX8_onePart_2b jX8_onePart_143
    rw [if_neg (by decide), if_neg (not_not_intro h.2.1.b0), a1, b2_e, if_pos hlk, r_50_29 h1.1, b1, b2_e, if_neg (wrd_no hw1), if_neg (by decide), r_50_30 h2.1, c1, b2_e, if_neg (wrd_no hw2), if_pos rfl]
    show jX8_onePart_2b (jX8_onePart_2 N m') N 50 0 μ3 = _
    unfold jX8_onePart_2b
    rw [if_pos rfl]
  have g := simS_GR (T := T) (q := q) (C := C)
  have o := on_146 (N := N) hN hT hI (by omega) h3
  unfold PH
  rw [e]
  match hx : simS T q C, g, o with
  | Sum.inr (q1, C1), g, o =>
    obtain ⟨μ', r1, r2, r3⟩ := o
    have g1 := g.2.1
    have g2 := g.2.2.1
    refine ⟨N, n, μ', C1, [], rfl, by simp, ?_, ⟨by omega, by omega⟩, by simpa using r2, by simp; omega, F3.trI r3⟩
    rw [r1, ob_e, if_neg (not_not_intro r2.2.1.b0)]
  | Sum.inl e', g, o =>
    obtain ⟨μ', r1, r2, r3⟩ := o
    refine MO.fl r2 ?_ (F3.trI r3)
    have hbad : ¬ m_gt μ' 50 5 = 0 := by rw [r2.1]; exact r2.2.2
    rw [r1, ob_e, if_pos hbad]
    exact bad_end hN hn1 hbad
