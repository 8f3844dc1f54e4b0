/-! ===== PURE: the reference reads products and sums ===== -/
theorem push2 {T : List Int} {q : Nat} {C W : List Int} {d : Nat} {b x : Int} {μ : Mm} (h : MS T q C W d b μ) : MS T q C (W ++ [x]) d b (m_st (m_st μ 87 W.length x) 50 46 (W.length + 1)) ∧ Fr [87] [(50, 44), (50, 46), (50, 47), (50, 49)] μ (m_st (m_st μ 87 W.length x) 50 46 (W.length + 1)) := by
  have f1 : Fr [87] [(50, 44), (50, 46), (50, 47), (50, 49)] μ (m_st (m_st μ 87 W.length x) 50 46 (W.length + 1)) := (Fr.stI (Fr.rf0 _ _ _) (by simp)).stI (by simp)
  refine ⟨⟨mp_KR (mp_up f1) h.1, mp_PP h.2.1 f1, ⟨⟨?_, ?_⟩, ⟨?_, ?_⟩, ?_, ?_⟩, h.2.2.2.lx (mp_up f1)⟩, f1⟩
  · rw [gt_i _ _ _ (by decide), gt_r _ _ _ _ (by decide)]; exact h.2.2.1.1.1
  · exact h.2.2.1.1.2.ext (fun i => by rw [gt_r _ _ _ _ (by decide), gt_r _ _ _ _ (by decide)])
  · rw [gt_same, List.length_append, List.length_singleton]; omega
  · have := Row.push h.2.2.1.2.1.2 x
    rw [Int.zero_add] at this
    exact this.ext (fun i => gt_r _ _ _ _ (by decide))
  · rw [gt_i _ _ _ (by decide), gt_r _ _ _ _ (by decide)]; exact h.2.2.1.2.2.1
  · rw [gt_i _ _ _ (by decide), gt_r _ _ _ _ (by decide)]; exact h.2.2.1.2.2.2
theorem push_end {T : List Int} {q : Nat} {C W : List Int} {d : Nat} {b x : Int} (hW : W.length < 790) {μ : Mm} (h : MS T q C W d b μ) : ((m_ast 100 μ (m_gt μ 50 45) (m_gt μ 50 46) x).bind fun μ5 => bnd (m_st μ5 50 46 (i_add (m_gt μ5 50 46) 1)) fun μ6 => some ((1 : Int), μ6)) = some (1, m_st (m_st μ 87 W.length x) 50 46 (W.length + 1)) := by
  rw [r_50_45 h.1, h.2.2.1.2.1.1, ast_e (k_87 h.1) (by omega) (by omega), ob_e, bnd_e, gt_r _ _ _ _ (by decide), h.2.2.1.2.1.1, i_add_e (by omega) (by omega)]
/-- products waiting are dropped, and an operator waits -/
theorem on_158 {N : Nat} {T : List Int} {q : Nat} {d : Nat} {b v : Int} {W : List Int} (hW : noT [3, 4] W) : ∀ (pd : List Int) (n : Nat) (C : List Int) {μ : Mm}, pd.length < n → (∀ x ∈ pd, -14 ≤ x ∧ x ≤ -13) → C.length + pd.length ≤ 700 → W.length + pd.length < 780 → MS T q C (W ++ pd.reverse.map tM) d b μ → ∃ μ', jX8_goesOn_158 N n 50 v μ = some (1, μ') ∧ MS T q (C ++ pd) (W ++ [v]) d b μ' ∧ RF μ μ'
  | pd, 0, C, μ, hn, _, _, _, _ => absurd hn (by omega)
  | [], n + 1, C, μ, hn, hx, hC, hl, h => by
    have h' : MS T q C W d b μ := by simpa using h
    rw [List.length_nil, Nat.add_zero] at hl
    obtain ⟨p1, p2⟩ := push2 (x := v) h'
    refine ⟨_, ?_, by rw [List.append_nil]; exact p1, mp_up p2⟩
    show jX8_goesOn_158b (jX8_goesOn_158 N n) N 50 v μ = _
    unfold jX8_goesOn_158b
    rw [isOn_no (by omega) h' hW (v := 3) (by decide), b2_e, if_neg (by decide), isOn_no (by omega) h' hW (v := 4) (by decide), b2_e, if_pos rfl]
    exact push_end (by omega) h'
  | x :: pd, n + 1, C, μ, hn, hx, hC, hl, h => by
    have h' : MS T q C ((W ++ pd.reverse.map tM) ++ [tM x]) d b μ := by simpa using h
    have hx1 := hx x (by simp)
    rw [List.length_cons] at hn hC hl
    have hlen : (W ++ pd.reverse.map tM).length = W.length + pd.length := by simp
    obtain ⟨μ1, a1, a2, a3, a4⟩ := drops_M (N := N) (by omega) (by rw [hlen]; omega) h'
    obtain ⟨μ', r1, r2, r3⟩ := on_158 (N := N) hW pd n (C ++ [x]) (μ := μ1) (by omega) (fun y hy => hx y (by simp [hy])) (by simp; omega) (by omega) a2
    refine ⟨μ', ?_, by simpa using r2, a4.trI r3⟩
    rw [← r1]
    show jX8_goesOn_158b (jX8_goesOn_158 N n) N 50 v μ = _
    unfold jX8_goesOn_158b jX8_goesOn_174
    rw [isOn_1 (by rw [hlen]; omega) h' 3, b2_e, tM_op (by omega)]
    by_cases c : x = -13
    · rw [if_pos (show -10 - x = 3 by omega), if_pos (by decide), a1, ob_e]
    · rw [if_neg (show ¬ -10 - x = 3 by omega), if_neg (by decide), isOn_1 (by rw [hlen]; omega) h' 4, b2_e, tM_op (by omega), if_pos (show -10 - x = 4 by omega), if_neg (by decide), a1, ob_e]
theorem on_243 {N : Nat} {T : List Int} {q : Nat} {d : Nat} {b v : Int} {W : List Int} (hW : noT [1, 2, 3, 4] W) : ∀ (pd : List Int) (n : Nat) (C : List Int) {μ : Mm}, pd.length < n → (∀ x ∈ pd, -14 ≤ x ∧ x ≤ -11) → C.length + pd.length ≤ 700 → W.length + pd.length < 780 → MS T q C (W ++ pd.reverse.map tM) d b μ → ∃ μ', jX8_goesOn_243 N n 50 v μ = some (1, μ') ∧ MS T q (C ++ pd) (W ++ [v]) d b μ' ∧ RF μ μ'
  | pd, 0, C, μ, hn, _, _, _, _ => absurd hn (by omega)
  | [], n + 1, C, μ, hn, hx, hC, hl, h => by
    have h' : MS T q C W d b μ := by simpa using h
    rw [List.length_nil, Nat.add_zero] at hl
    obtain ⟨p1, p2⟩ := push2 (x := v) h'
    refine ⟨_, ?_, by rw [List.append_nil]; exact p1, mp_up p2⟩
    show jX8_goesOn_243b (jX8_goesOn_243 N n) N 50 v μ = _
    unfold jX8_goesOn_243b
    rw [isOn_no (by omega) h' hW (v := 3) (by decide), b2_e, if_neg (by decide), isOn_no (by omega) h' hW (v := 4) (by decide), b2_e, if_neg (by decide), isOn_no (by omega) h' hW (v := 1) (by decide), b2_e, if_neg (by decide), isOn_no (by omega) h' hW (v := 2) (by decide), b2_e, if_pos rfl]
    exact push_end (by omega) h'
  | x :: pd, n + 1, C, μ, hn, hx, hC, hl, h => by
    have h' : MS T q C ((W ++ pd.reverse.map tM) ++ [tM x]) d b μ := by simpa using h
    have hx1 := hx x (by simp)
    rw [List.length_cons] at hn hC hl
    have hlen : (W ++ pd.reverse.map tM).length = W.length + pd.length := by simp
    obtain ⟨μ1, a1, a2, a3, a4⟩ := drops_M (N := N) (by omega) (by rw [hlen]; omega) h'
    obtain ⟨μ', r1, r2, r3⟩ := on_243 (N := N) hW pd n (C ++ [x]) (μ := μ1) (by omega) (fun y hy => hx y (by simp [hy])) (by simp; omega) (by omega) a2
    refine ⟨μ', ?_, by simpa using r2, a4.trI r3⟩
    rw [← r1]
    show jX8_goesOn_243b (jX8_goesOn_243 N n) N 50 v μ = _
    unfold jX8_goesOn_243b jX8_goesOn_275
    have on : ∀ w, jX8_isOn N 50 w μ = some (if -10 - x = w then 1 else 0, μ) := fun w => by rw [isOn_1 (by rw [hlen]; omega) h' w, tM_op hx1]
    rw [on 3, b2_e]
    by_cases c3 : x = -13
    · rw [if_pos (show -10 - x = 3 by omega), if_pos (by decide), a1, ob_e]
    · rw [if_neg (show ¬ -10 - x = 3 by omega), if_neg (by decide), on 4, b2_e]
      by_cases c4 : x = -14
      · rw [if_pos (show -10 - x = 4 by omega), if_pos (by decide), a1, ob_e]
      · rw [if_neg (show ¬ -10 - x = 4 by omega), if_neg (by decide), on 1, b2_e]
        by_cases c1 : x = -11
        · rw [if_pos (show -10 - x = 1 by omega), if_pos (by decide), a1, ob_e]
        · rw [if_neg (show ¬ -10 - x = 1 by omega), if_neg (by decide), on 2, b2_e, if_pos (show -10 - x = 2 by omega), if_neg (by decide), a1, ob_e]
/-- an operator: what waits is dropped, another part is asked -/
theorem GH_op {N : Nat} (hN : 1000000 ≤ N) {T : List Int} (hT : TB T) {was : Int} {q q1 : Nat} (hI : IN T q) {c t : Int} (hc : (c = 42 ∧ t = -13) ∨ (c = 47 ∧ t = -14) ∨ (c = 43 ∧ t = -11) ∨ (c = 45 ∧ t = -12)) (hs : sg T c q = some q1) {C W pd : List Int} {d m n : Nat} {b : Int} (hm : 1 ≤ m) (hn : 1 ≤ n) (hp : if c = 42 ∨ c = 47 then noT [3, 4] W ∧ ∀ x ∈ pd, -14 ≤ x ∧ x ≤ -13 else noT [1, 2, 3, 4] W ∧ ∀ x ∈ pd, -14 ≤ x ∧ x ≤ -11) (hC : C.length + pd.length ≤ 700) (hl : W.length + pd.length < 780) {μ : Mm} (h : MS T q C (W ++ pd.map tM) d b μ) : ∃ μ', GH N was m n μ = PH N was N (n - 1) 1 μ' ∧ MS T q1 (C ++ pd.reverse) (W ++ [tM t]) d b μ' ∧ RF μ μ' := by
  have hcs : sgc c := by rcases hc with z | z | z | z <;> rw [z.1] <;> exact ⟨by decide, by decide, by decide⟩
  have i1 := sg_IN hcs.2 hs
  have hl7 := hT.1
  obtain ⟨m', rfl⟩ : ∃ m', m = m' + 1 := ⟨m - 1, by omega⟩
  obtain ⟨n', rfl⟩ : ∃ n', n = n' + 1 := ⟨n - 1, by omega⟩
  obtain ⟨μ1, a1, a2, a3, a4⟩ := look_M (N := N) hN hT h.1 h.2.1
  have h1 := h.pq hI a2 a4
  have hlk : lk T q = c := (lk_sg hcs.1).mpr ⟨i1.2.2.1, i1.2.2.2.1⟩
  have hno : ∀ c', ¬ c' = c → sg T c' q = none := fun c' hc' => by
    unfold sg
    rw [if_neg (fun z => hc' (by rw [← z.2, i1.2.2.2.1]))]
  -- the sign is taken
  have sign : ∀ {μ0 : Mm}, MS T q C (W ++ pd.map tM) d b μ0 → ∃ μ2, jX8_takesSign N 50 c μ0 = some (1, μ2) ∧ MS T q1 C (W ++ pd.map tM) d b μ2 ∧ m_ald 100 μ2 (m_gt μ2 50 0) (i_sub (m_gt μ2 50 2) 1) = some c ∧ RF μ0 μ2 := by
    intro μ0 h0
    obtain ⟨μ2, b1, b2', b3, b4, b5⟩ := sgM_1 (N := N) hN hT hcs hs h0.1 h0.2.1
    refine ⟨μ2, b1, h0.l2 b2' b5, ?_, lx2 b5⟩
    obtain ⟨p, e, _, _, y, _⟩ := b2'
    rw [b3, i_sub_e (by omega) (by omega), r_50_0 b4, show ((q + 1 : Nat) : Int) - 1 = (q : Int) by omega, ald_e (k_51 b4) (by omega) (by omega), tx_row y.2.2.2.2.1 i1.2.2.1, i1.2.2.2.1]
  have fin : ∀ {μ0 μ2 : Mm}, jX8_goesOn_118 N 50 μ1 = some (1, μ2) → MS T q1 (C ++ pd.reverse) (W ++ [tM t]) d b μ2 → GH N was (m' + 1) (n' + 1) μ = PH N was N (n' + 1 - 1) 1 μ2 := by
    intro μ0 μ2 he hms
    unfold GH
    have e0 : jX8_goesOn_0 N (m' + 1) 50 μ = some (1, μ2) := by
      show jX8_goesOn_0b (jX8_goesOn_0 N m') N 50 μ = _
      unfold jX8_goesOn_0b
      rw [if_neg (not_not_intro h.2.1.b0), a1, b2_e, if_pos (by rw [hlk]; omega), he]
    rw [e0, b2_e, if_neg (by decide)]
    unfold jX8_sums_49
    rw [PH_0 hms.2.1.b0, Nat.add_sub_cancel]
  have rv : (pd.reverse).reverse.map tM = pd.map tM := by rw [List.reverse_reverse]
  rcases hc with ⟨rfl, rfl⟩ | ⟨rfl, rfl⟩ | ⟨rfl, rfl⟩ | ⟨rfl, rfl⟩
  · rw [if_pos (Or.inl rfl)] at hp
    obtain ⟨μ2, b1, b2', b3, b4⟩ := sign h1
    obtain ⟨μ3, d1, d2, d3⟩ := on_158 (N := N) (v := 3) hp.1 pd.reverse N C (μ := μ2) (by simp; omega) (fun x hx => hp.2 x (by simpa using hx)) (by simpa using hC) (by simpa using hl) (by rw [rv]; exact b2')
    refine ⟨μ3, fin (μ0 := μ) ?_ d2, d2, (lx2 a4).trI (b4.trI d3)⟩
    unfold jX8_goesOn_118 jX8_goesOn_136 jX8_goesOn_157
    rw [b1, b2_e, if_pos (by decide), b3, ob_e, if_neg (not_not_intro rfl), d1]
  · rw [if_pos (Or.inr rfl)] at hp
    obtain ⟨μ2, g1, g2, g3, g4⟩ := sgM_0 (N := N) hN hT (by decide) (hno 42 (by decide)) h1.1 h1.2.1
    have h2 := h1.pq hI g2 g4
    obtain ⟨μ3, b1, b2', b3, b4⟩ := sign h2
    obtain ⟨μ4, d1, d2, d3⟩ := on_158 (N := N) (v := 4) hp.1 pd.reverse N C (μ := μ3) (by simp; omega) (fun x hx => hp.2 x (by simpa using hx)) (by simpa using hC) (by simpa using hl) (by rw [rv]; exact b2')
    refine ⟨μ4, fin (μ0 := μ) ?_ d2, d2, (lx2 a4).trI ((lx2 g4).trI (b4.trI d3))⟩
    unfold jX8_goesOn_118 jX8_goesOn_136 jX8_goesOn_157
    rw [g1, b2_e, if_neg (by decide), b1, b2_e, if_neg (by decide), b3, ob_e, if_pos (by decide), d1]
  · rw [if_neg (by decide)] at hp
    obtain ⟨μ2, g1, g2, g3, g4⟩ := sgM_0 (N := N) hN hT (by decide) (hno 42 (by decide)) h1.1 h1.2.1
    have h2 := h1.pq hI g2 g4
    obtain ⟨μ3, k1, k2, k3, k4⟩ := sgM_0 (N := N) hN hT (by decide) (hno 47 (by decide)) h2.1 h2.2.1
    have h3 := h2.pq hI k2 k4
    obtain ⟨μ4, b1, b2', b3, b4⟩ := sign h3
    obtain ⟨μ5, d1, d2, d3⟩ := on_243 (N := N) (v := 1) hp.1 pd.reverse N C (μ := μ4) (by simp; omega) (fun x hx => hp.2 x (by simpa using hx)) (by simpa using hC) (by simpa using hl) (by rw [rv]; exact b2')
    refine ⟨μ5, fin (μ0 := μ) ?_ d2, d2, (lx2 a4).trI ((lx2 g4).trI ((lx2 k4).trI (b4.trI d3)))⟩
    unfold jX8_goesOn_118 jX8_goesOn_221 jX8_goesOn_242
    rw [g1, b2_e, if_neg (by decide), k1, b2_e, if_pos rfl, b1, b2_e, if_pos (by decide), b3, ob_e, if_neg (not_not_intro rfl), d1]
  · rw [if_neg (by decide)] at hp
    obtain ⟨μ2, g1, g2, g3, g4⟩ := sgM_0 (N := N) hN hT (by decide) (hno 42 (by decide)) h1.1 h1.2.1
    have h2 := h1.pq hI g2 g4
    obtain ⟨μ3, k1, k2, k3, k4⟩ := sgM_0 (N := N) hN hT (by decide) (hno 47 (by decide)) h2.1 h2.2.1
    have h3 := h2.pq hI k2 k4
    obtain ⟨μ6, j1, j2, j3, j4⟩ := sgM_0 (N := N) hN hT (by decide) (hno 43 (by decide)) h3.1 h3.2.1
    have h6 := h3.pq hI j2 j4
    obtain ⟨μ4, b1, b2', b3, b4⟩ := sign h6
    obtain ⟨μ5, d1, d2, d3⟩ := on_243 (N := N) (v := 2) hp.1 pd.reverse N C (μ := μ4) (by simp; omega) (fun x hx => hp.2 x (by simpa using hx)) (by simpa using hC) (by simpa using hl) (by rw [rv]; exact b2')
    refine ⟨μ5, fin (μ0 := μ) ?_ d2, d2, (lx2 a4).trI ((lx2 g4).trI ((lx2 k4).trI ((lx2 j4).trI (b4.trI d3))))⟩
    unfold jX8_goesOn_118 jX8_goesOn_221 jX8_goesOn_242
    rw [g1, b2_e, if_neg (by decide), k1, b2_e, if_pos rfl, j1, b2_e, if_neg (by decide), b1, b2_e, if_neg (by decide), b3, ob_e, if_pos (by decide), d1]
