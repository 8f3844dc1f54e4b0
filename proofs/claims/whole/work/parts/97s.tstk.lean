/-! ===== PURE: what waits in the reference's tests ===== -/
theorem dnots_loop {N : Nat} {T : List Int} {q : Nat} {b : Int} {W : List Int} (hW : noT [16] W) : ∀ (j n : Nat) (C : List Int) (d : Nat) {μ : Mm}, j < n → C.length + j ≤ 700 → W.length + j < 780 → d ≤ 100 → MS T q C (W ++ List.replicate j 16) (d + j) b μ → ∃ μ', jX8_dropsNots_0 N n 50 μ = some μ' ∧ MS T q (C ++ List.replicate j (-22)) W d b μ' ∧ RF μ μ'
  | j, 0, C, d, μ, hn, _, _, _, _ => absurd hn (by omega)
  | 0, n + 1, C, d, μ, hn, hC, hl, hd, h => by
    have h' : MS T q C W d b μ := by simpa using h
    refine ⟨μ, ?_, by simpa using h', RF.rf _⟩
    show jX8_dropsNots_0b (jX8_dropsNots_0 N n) N 50 μ = _
    unfold jX8_dropsNots_0b jX8_dropsNots_33
    rw [if_neg (not_not_intro h.2.1.b0), isOn_no (by omega) h' hW (v := 16) (by decide), b2_e, if_pos rfl]
  | j + 1, n + 1, C, d, μ, hn, hC, hl, hd, h => by
    have h' : MS T q C ((W ++ List.replicate j 16) ++ [tM (-22)]) (d + (j + 1)) b μ := by
      have e : (16 : Int) = tM (-22) := by decide
      rw [List.replicate_succ', ← List.append_assoc] at h
      rw [← e]
      exact h
    obtain ⟨s1, s2⟩ := set47 (d' := d + j) h'
    have hlen : (W ++ List.replicate j (16 : Int)).length = W.length + j := by simp
    obtain ⟨μ1, a1, a2, a3, a4⟩ := drops_M (N := N) (by omega) (by rw [hlen]; omega) s1
    obtain ⟨μ', r1, r2, r3⟩ := dnots_loop (N := N) hW j n (C ++ [-22]) d (μ := μ1) (by omega) (by simp; omega) (by omega) hd a2
    refine ⟨μ', ?_, by rw [List.replicate_succ]; simpa using r2, (mp_up s2).trI (a4.trI r3)⟩
    rw [← r1]
    show jX8_dropsNots_0b (jX8_dropsNots_0 N n) N 50 μ = _
    unfold jX8_dropsNots_0b
    rw [if_neg (not_not_intro h.2.1.b0), isOn_1 (by rw [hlen]; omega) h' 16, b2_e, if_pos (show tM (-22) = 16 by decide), if_neg (by decide), bnd_e, h'.2.2.1.2.2.1, i_sub_e (by omega) (by omega), show ((d + (j + 1) : Nat) : Int) - 1 = ((d + j : Nat) : Int) by omega, a1, ob_e]
theorem dnots_M {N : Nat} (hN : 1000000 ≤ N) {T : List Int} {q : Nat} {b : Int} {W : List Int} (hW : noT [16] W) {j : Nat} {C : List Int} {d : Nat} (hC : C.length + j ≤ 700) (hl : W.length + j < 780) (hd : d ≤ 100) {μ : Mm} (h : MS T q C (W ++ List.replicate j 16) (d + j) b μ) : ∃ μ', jX8_dropsNots N 50 μ = some μ' ∧ MS T q (C ++ List.replicate j (-22)) W d b μ' ∧ RF μ μ' := dnots_loop (N := N) hW j N C d (by omega) hC hl hd h
theorem dnots_b {N : Nat} (hN : 1000000 ≤ N) {μ : Mm} (h : ¬ m_gt μ 50 5 = 0) : jX8_dropsNots N 50 μ = some μ := by
  obtain ⟨N', rfl⟩ : ∃ N', N = N' + 1 := ⟨N - 1, by omega⟩
  show jX8_dropsNots_0b (jX8_dropsNots_0 (N' + 1) N') (N' + 1) 50 μ = _
  unfold jX8_dropsNots_0b jX8_dropsNots_33
  rw [if_pos h]
theorem hsq_loop {N : Nat} {T : List Int} {q : Nat} {C W : List Int} {d : Nat} {b : Int} (hl : W.length < 790) {μ : Mm} (h : MS T q C W d b μ) : ∀ (k n i : Nat), i + k = W.length → k < n → (∀ x ∈ W.take i, ¬ x = 25) → jX8_hasSquare_2 N n 50 i μ = some (if 25 ∈ W then 1 else 0, μ)
  | k, 0, i, hi, hn, _ => absurd hn (by omega)
  | 0, n + 1, i, hi, hn, hz => by
    rw [List.take_of_length_le (by omega)] at hz
    show jX8_hasSquare_2b (jX8_hasSquare_2 N n) N 50 i μ = _
    unfold jX8_hasSquare_2b
    rw [h.2.2.1.2.1.1, if_pos (by omega), if_neg (fun z => hz 25 z rfl)]
  | k + 1, n + 1, i, hi, hn, hz => by
    have hil : i < W.length := by omega
    have e : m_gt μ 87 i = W[i] := h.2.2.1.2.1.2.get (List.getElem?_eq_getElem hil) (by omega)
    show jX8_hasSquare_2b (jX8_hasSquare_2 N n) N 50 i μ = _
    unfold jX8_hasSquare_2b
    rw [h.2.2.1.2.1.1, if_neg (by omega), r_50_45 h.1, ald_e (k_87 h.1) (by omega) (by omega), ob_e, e]
    by_cases c : W[i] = 25
    · rw [if_neg (not_not_intro c), if_pos (by rw [← c]; exact List.getElem_mem hil)]
    · rw [if_pos c, bnd_e, i_add_e (by omega) (by omega)]
      exact hsq_loop hl h k n (i + 1) (by omega) (by omega) (fun x hx => by
        rw [List.take_succ_eq_append_getElem hil] at hx
        rcases List.mem_append.mp hx with z | z
        · exact hz x z
        · rw [List.mem_singleton.mp z]; exact c)
theorem hsq_M {N : Nat} (hN : 1000000 ≤ N) {T : List Int} {q : Nat} {C W : List Int} {d : Nat} {b : Int} (hl : W.length < 790) {μ : Mm} (h : MS T q C W d b μ) : jX8_hasSquare N 50 μ = some (if 25 ∈ W then 1 else 0, μ) := hsq_loop hl h W.length N 0 (by omega) (by omega) (fun x hx => absurd hx (by simp))
/-- ands waiting are dropped, and one more waits -/
theorem on_87 {N : Nat} {T : List Int} {q : Nat} {d : Nat} {b : Int} {W : List Int} (hW : noT [14] W) : ∀ (j n : Nat) (C : List Int) {μ : Mm}, j < n → C.length + j ≤ 700 → W.length + j < 780 → MS T q C (W ++ List.replicate j 14) d b μ → ∃ μ', jX8_goesOnTest_87 N n 50 μ = some (1, μ') ∧ MS T q (C ++ List.replicate j (-20)) (W ++ [14]) d b μ' ∧ RF μ μ'
  | j, 0, C, μ, hn, _, _, _ => absurd hn (by omega)
  | 0, n + 1, C, μ, hn, hC, hl, h => by
    have h' : MS T q C W d b μ := by simpa using h
    obtain ⟨p1, p2⟩ := push2 (x := 14) h'
    refine ⟨_, ?_, by simpa using p1, mp_up p2⟩
    show jX8_goesOnTest_87b (jX8_goesOnTest_87 N n) N 50 μ = _
    unfold jX8_goesOnTest_87b
    rw [isOn_no (by omega) h' hW (v := 14) (by decide), b2_e, if_pos rfl]
    exact push_end (by omega) h'
  | j + 1, n + 1, C, μ, hn, hC, hl, h => by
    have h' : MS T q C ((W ++ List.replicate j 14) ++ [tM (-20)]) d b μ := by
      have e : (14 : Int) = tM (-20) := by decide
      rw [List.replicate_succ', ← List.append_assoc] at h
      rw [← e]
      exact h
    have hlen : (W ++ List.replicate j (14 : Int)).length = W.length + j := by simp
    obtain ⟨μ1, a1, a2, a3, a4⟩ := drops_M (N := N) (by omega) (by rw [hlen]; omega) h'
    obtain ⟨μ', r1, r2, r3⟩ := on_87 (N := N) hW j n (C ++ [-20]) (μ := μ1) (by omega) (by simp; omega) (by omega) a2
    refine ⟨μ', ?_, by rw [List.replicate_succ]; simpa using r2, a4.trI r3⟩
    rw [← r1]
    show jX8_goesOnTest_87b (jX8_goesOnTest_87 N n) N 50 μ = _
    unfold jX8_goesOnTest_87b
    rw [isOn_1 (by rw [hlen]; omega) h' 14, b2_e, if_pos (show tM (-20) = 14 by decide), if_neg (by decide), a1, ob_e]
/-- ors and ands waiting are dropped, and an or waits -/
theorem on_137 {N : Nat} {T : List Int} {q : Nat} {d : Nat} {b : Int} {W : List Int} (hW : noT [14, 15] W) : ∀ (pd : List Int) (n : Nat) (C : List Int) {μ : Mm}, pd.length < n → (∀ x ∈ pd, x = -20 ∨ x = -21) → C.length + pd.length ≤ 700 → W.length + pd.length < 780 → MS T q C (W ++ pd.reverse.map tM) d b μ → ∃ μ', jX8_goesOnTest_137 N n 50 μ = some (1, μ') ∧ MS T q (C ++ pd) (W ++ [15]) d b μ' ∧ RF μ μ'
  | pd, 0, C, μ, hn, _, _, _, _ => absurd hn (by omega)
  | [], n + 1, C, μ, hn, hx, hC, hl, h => by
    have h' : MS T q C W d b μ := by simpa using h
    rw [List.length_nil, Nat.add_zero] at hl
    obtain ⟨p1, p2⟩ := push2 (x := 15) h'
    refine ⟨_, ?_, by rw [List.append_nil]; exact p1, mp_up p2⟩
    show jX8_goesOnTest_137b (jX8_goesOnTest_137 N n) N 50 μ = _
    unfold jX8_goesOnTest_137b
    rw [isOn_no (by omega) h' hW (v := 14) (by decide), b2_e, if_neg (by decide), isOn_no (by omega) h' hW (v := 15) (by decide), b2_e, if_pos rfl]
    exact push_end (by omega) h'
  | x :: pd, n + 1, C, μ, hn, hx, hC, hl, h => by
    have h' : MS T q C ((W ++ pd.reverse.map tM) ++ [tM x]) d b μ := by simpa using h
    have hx1 := hx x (by simp)
    rw [List.length_cons] at hn hC hl
    have hlen : (W ++ pd.reverse.map tM).length = W.length + pd.length := by simp
    obtain ⟨μ1, a1, a2, a3, a4⟩ := drops_M (N := N) (by omega) (by rw [hlen]; omega) h'
    obtain ⟨μ', r1, r2, r3⟩ := on_137 (N := N) hW pd n (C ++ [x]) (μ := μ1) (by omega) (fun y hy => hx y (by simp [hy])) (by simp; omega) (by omega) a2
    refine ⟨μ', ?_, by simpa using r2, a4.trI r3⟩
    rw [← r1]
    show jX8_goesOnTest_137b (jX8_goesOnTest_137 N n) N 50 μ = _
    unfold jX8_goesOnTest_137b jX8_goesOnTest_155
    rcases hx1 with rfl | rfl
    · rw [isOn_1 (by rw [hlen]; omega) h' 14, b2_e, if_pos (show tM (-20) = 14 by decide), if_pos (by decide), a1, ob_e]
    · rw [isOn_1 (by rw [hlen]; omega) h' 14, b2_e, if_neg (show ¬ tM (-21) = 14 by decide), if_neg (by decide), isOn_1 (by rw [hlen]; omega) h' 15, b2_e, if_pos (show tM (-21) = 15 by decide), if_neg (by decide), a1, ob_e]
