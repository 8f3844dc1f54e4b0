/-! ===== PURE: the reference's tests: or, brackets closed, the end ===== -/
theorem wrd_s93 {T w : List Int} {q q1 : Nat} (h0 : ¬ w.getD 0 0 = 93) (hw : 0 < w.length) (hs : wrd T w q = some q1) : sg T 93 q = none := by
  unfold sg
  rw [if_neg]
  rintro ⟨z1, z2⟩
  have := (wrd_yes hs).2.2.2 0 hw
  rw [Nat.add_zero, z2] at this
  exact h0 this.symm
theorem wrd_end {T w : List Int} (hw : lws w) {q : Nat} (h : T.length ≤ q) : wrd T w q = none := by
  cases e : wrd T w q with
  | none => rfl
  | some q1 =>
    have := wrd_IN hw e
    have hw1 : 1 ≤ w.length := by cases w with | nil => exact absurd rfl hw.1 | cons _ _ => simp
    omega
theorem TG_or {N : Nat} (hN : 1000000 ≤ N) {T : List Int} (hT : TB T) {q q1 : Nat} (hI : IN T q) (ha : wrd T wAnd q = none) (hs : wrd T wOr q = some q1) {C W pd : List Int} {d m n : Nat} {b : Int} (hW : noT [14, 15] W) (hx : ∀ x ∈ pd, x = -20 ∨ x = -21) (hC : C.length + pd.length ≤ 700) (hl : W.length + pd.length < 780) (hm : 1 ≤ m) {μ : Mm} (h : MS T q C (W ++ pd.map tM) d b μ) : ∃ μ', TG N m n μ = jX8_test_2 N n 50 1 μ' ∧ MS T q1 (C ++ pd.reverse) (W ++ [15]) d b μ' ∧ RF μ μ' := by
  obtain ⟨m', rfl⟩ : ∃ m', m = m' + 1 := ⟨m - 1, by omega⟩
  have hsg : sg T 93 q = none := wrd_s93 (by decide) (by decide) hs
  obtain ⟨μ1, a1, a2, a3, a4⟩ := tg_76 (N := N) hN hT hI (m := m') (by simp; omega) (Or.inl hsg) h
  obtain ⟨μ2, b1, b2', b3, b4⟩ := takesM_0 (N := N) hN hT hI (by decide) a2.1 (wm a2.1 a2.2.2.2 (r := 63) (w := wAnd) (by decide)) ha a2.2.1
  have h2 := a2.pq hI b2' b4
  obtain ⟨μ3, c1, c2, c3, c4⟩ := takesM_1 (N := N) hN hT hI (by decide) h2.1 (wm h2.1 h2.2.2.2 (r := 62) (w := wOr) (by decide)) hs h2.2.1
  have h3 := h2.l4 c2 c4
  obtain ⟨μ4, d1, d2, d3⟩ := on_137 (N := N) hW pd.reverse N C (μ := μ3) (by simp; omega) (fun x hxm => hx x (by simpa using hxm)) (by simpa using hC) (by simpa using hl) (by rw [List.reverse_reverse]; exact h3)
  refine ⟨μ4, ?_, d2, a4.trI ((lx2 b4).trI ((lx4 c4).trI d3))⟩
  unfold TG
  rw [a1]
  unfold jX8_goesOnTest_76 jX8_test_106
  rw [r_50_20 a2.1, b1, b2_e, if_pos rfl, r_50_19 h2.1, c1, b2_e, if_neg (by decide), d1, b2_e, if_neg (by decide)]
/-- a bracket closes: what waits behind it goes out, then the nots ahead of it -/
theorem on_t33 {N : Nat} (hN : 1000000 ≤ N) {k0 : Int → Mm → Option (Int × Mm)} {T : List Int} {q d j : Nat} {b : Int} {Wb : List Int} (hWb : noT [16] Wb) (hd : d ≤ 100) : ∀ (pd : List Int) (n : Nat) (C : List Int) {μ : Mm}, pd.length < n → (∀ x ∈ pd, x = -20 ∨ x = -21) → C.length + pd.length + j ≤ 700 → Wb.length + j + pd.length < 770 → MS T q C (Wb ++ List.replicate j 16 ++ [25] ++ pd.reverse.map tM) (d + j + 1) b μ → ∃ μ', jX8_goesOnTest_33 k0 N n 50 μ = k0 50 μ' ∧ MS T q (C ++ pd ++ List.replicate j (-22)) Wb d b μ' ∧ RF μ μ'
  | pd, 0, C, μ, hn, _, _, _, _ => absurd hn (by omega)
  | [], n + 1, C, μ, hn, hx, hC, hl, h => by
    have hlen : (Wb ++ List.replicate j (16 : Int)).length = Wb.length + j := by simp
    rw [List.reverse_nil, List.map_nil, List.append_nil] at h
    rw [List.length_nil] at hC hl
    obtain ⟨t1, t2⟩ := top_K h
    obtain ⟨p1, p2⟩ := pop_K h
    obtain ⟨s1, s2⟩ := set47 (d' := d + j) p1
    obtain ⟨μ1, a1, a2, a3⟩ := dnots_M (N := N) hN hWb (by omega) (by omega) hd s1
    refine ⟨μ1, ?_, by rw [List.append_nil]; exact a2, (mp_up p2).trI ((mp_up s2).trI a3)⟩
    show jX8_goesOnTest_33b k0 (jX8_goesOnTest_33 k0 N n) N 50 μ = _
    unfold jX8_goesOnTest_33b
    rw [isOn_1 (by rw [hlen]; omega) h 25, b2_e, if_pos rfl, if_pos (by decide), bnd_e, t2, i_sub_e (by omega) (by omega), show ((Wb ++ List.replicate j (16 : Int)).length : Int) + 1 - 1 = (Wb ++ List.replicate j (16 : Int)).length by omega, bnd_e, p1.2.2.1.2.2.1, i_sub_e (by omega) (by omega), show ((d + j + 1 : Nat) : Int) - 1 = ((d + j : Nat) : Int) by omega, a1, ob_e]
  | x :: pd, n + 1, C, μ, hn, hx, hC, hl, h => by
    have hlen : (Wb ++ List.replicate j (16 : Int) ++ [25] ++ pd.reverse.map tM).length = Wb.length + j + 1 + pd.length := by simp; omega
    rw [List.reverse_cons, List.map_append, ← List.append_assoc] at h
    have h' : MS T q C ((Wb ++ List.replicate j 16 ++ [25] ++ pd.reverse.map tM) ++ [tM x]) (d + j + 1) b μ := h
    have hx1 := hx x (by simp)
    rw [List.length_cons] at hn hC hl
    obtain ⟨μ1, a1, a2, a3, a4⟩ := drops_M (N := N) (by omega) (by rw [hlen]; omega) h'
    obtain ⟨μ', r1, r2, r3⟩ := on_t33 (N := N) hN (k0 := k0) hWb hd pd n (C ++ [x]) (μ := μ1) (by omega) (fun y hy => hx y (by simp [hy])) (by simp; omega) (by omega) a2
    refine ⟨μ', ?_, by rw [List.append_assoc C, List.singleton_append] at r2; exact r2, a4.trI r3⟩
    rw [← r1]
    show jX8_goesOnTest_33b k0 (jX8_goesOnTest_33 k0 N n) N 50 μ = _
    unfold jX8_goesOnTest_33b
    rw [isOn_1 (by rw [hlen]; omega) h' 25, b2_e, if_neg (show ¬ tM x = 25 by rcases hx1 with rfl | rfl <;> decide), if_neg (by decide), a1, ob_e]
theorem TG_sq {N : Nat} (hN : 1000000 ≤ N) {T : List Int} (hT : TB T) {q q3 : Nat} (hI : IN T q) (hs : sg T 93 q = some q3) {C Wb pd : List Int} {d j m n : Nat} {b : Int} (hWb : noT [16] Wb) (hd : d ≤ 100) (hx : ∀ x ∈ pd, x = -20 ∨ x = -21) (hC : C.length + pd.length + j ≤ 700) (hl : Wb.length + j + pd.length < 770) {μ : Mm} (h : MS T q C (Wb ++ List.replicate j 16 ++ [25] ++ pd.map tM) (d + j + 1) b μ) : ∃ μ', TG N (m + 1) n μ = TG N m n μ' ∧ MS T q3 (C ++ pd.reverse ++ List.replicate j (-22)) Wb d b μ' ∧ RF μ μ' := by
  have hl7 := hT.1
  have i1 := sg_IN c93.2 hs
  have i3 := i1.2.2.1
  obtain ⟨μ1, a1, a2, a3, a4⟩ := look_M (N := N) hN hT h.1 h.2.1
  have h1 := h.pq hI a2 a4
  have hlk : lk T q = 93 := (lk_sg (by decide)).mpr ⟨i1.2.2.1, i1.2.2.2.1⟩
  have h25 : (25 : Int) ∈ Wb ++ List.replicate j 16 ++ [25] ++ pd.map tM := by simp
  have f2 : Fr [] [(50, 2)] μ1 (m_st μ1 50 2 (q + 1 : Nat)) := Fr.stI (Fr.rf0 _ _ _) (by simp)
  have h2 := h1.l2 (a2.step c93 hs h1.1 hT) f2
  obtain ⟨μ3, c1, c2, c3⟩ := on_t33 (N := N) hN (k0 := jX8_goesOnTest_0 N m) hWb hd pd.reverse N C (by simp; omega) (fun x hxm => hx x (by simpa using hxm)) (by simpa using hC) (by simpa using hl) (by rw [List.reverse_reverse]; exact h2)
  refine ⟨μ3, ?_, c2, (lx2 a4).trI ((lx2 f2).trI c3)⟩
  have e : jX8_goesOnTest_0 N (m + 1) 50 μ = jX8_goesOnTest_0 N m 50 μ3 := by
    show jX8_goesOnTest_0b (jX8_goesOnTest_0 N m) N 50 μ = _
    unfold jX8_goesOnTest_0b
    rw [if_neg (not_not_intro h.2.1.b0), a1, b2_e, if_neg (not_not_intro hlk), hsq_M (N := N) hN (by simp; omega) h1, b2_e, if_pos h25, if_neg (by decide), bnd_e, a2.at, i_add_e (by omega) (by omega), show (q : Int) + 1 = ((q + 1 : Nat) : Int) by omega]
    exact c1
  unfold TG
  rw [e]
/-- a bracket stays open -/
theorem TG_open {N : Nat} (hN : 1000000 ≤ N) {T : List Int} (hT : TB T) {q : Nat} (hI : IN T q) (ha : wrd T wAnd q = none) (ho : wrd T wOr q = none) (hs : sg T 93 q = none) {C W : List Int} {d m n : Nat} {b : Int} (h25 : (25 : Int) ∈ W) (hl : W.length < 790) (hm : 1 ≤ m) (hn : 1 ≤ n) {μ : Mm} (h : MS T q C W d b μ) : ∃ μ', TG N m n μ = some μ' ∧ FM (1, q) μ' ∧ RF μ μ' := by
  obtain ⟨m', rfl⟩ : ∃ m', m = m' + 1 := ⟨m - 1, by omega⟩
  obtain ⟨μ1, a1, a2, a3, a4⟩ := tg_76 (N := N) hN hT hI (m := m') hl (Or.inl hs) h
  obtain ⟨μ2, b1, b2', b3, b4⟩ := takesM_0 (N := N) hN hT hI (by decide) a2.1 (wm a2.1 a2.2.2.2 (r := 63) (w := wAnd) (by decide)) ha a2.2.1
  have h2 := a2.pq hI b2' b4
  obtain ⟨μ3, c1, c2, c3, c4⟩ := takesM_0 (N := N) hN hT hI (by decide) h2.1 (wm h2.1 h2.2.2.2 (r := 62) (w := wOr) (by decide)) ho h2.2.1
  have h3 := h2.pq hI c2 c4
  refine ⟨m_st (m_st μ3 50 5 1) 50 6 q, ?_, FM_of (by decide) μ3, a4.trI ((lx2 b4).trI ((lx2 c4).trI (lx56 (FM_fr 1 q μ3))))⟩
  unfold TG
  rw [a1]
  unfold jX8_goesOnTest_76 jX8_goesOnTest_208
  rw [r_50_20 a2.1, b1, b2_e, if_pos rfl, r_50_19 h2.1, c1, b2_e, if_pos rfl, if_neg (not_not_intro h3.2.1.b0), hsq_M (N := N) hN hl h3, b2_e, if_pos h25, if_neg (by decide), c2.at, failM h3.2.1.b0, ob_e, b2_e, if_pos rfl]
  unfold jX8_test_105 jX8_test_106
  exact tbad_end hN hn (by rw [gt_i _ _ _ (by decide), gt_same]; decide)
theorem t110 {N : Nat} {T : List Int} {q d : Nat} {b : Int} : ∀ (pd : List Int) (n : Nat) (C : List Int) {μ : Mm}, pd.length < n → C.length + pd.length ≤ 700 → pd.length < 780 → MS T q C (pd.reverse.map tM) d b μ → ∃ μ', jX8_test_110 N n 50 μ = some μ' ∧ MS T q (C ++ pd) [] d b μ' ∧ RF μ μ'
  | pd, 0, C, μ, hn, _, _, _ => absurd hn (by omega)
  | [], n + 1, C, μ, hn, hC, hl, h => by
    have h' : MS T q C [] d b μ := h
    refine ⟨μ, ?_, by rw [List.append_nil]; exact h', RF.rf _⟩
    show jX8_test_110b (jX8_test_110 N n) N 50 μ = _
    unfold jX8_test_110b jX8_test_131
    rw [if_neg (not_not_intro h.2.1.b0), h'.2.2.1.2.1.1, if_pos (by decide)]
  | x :: pd, n + 1, C, μ, hn, hC, hl, h => by
    have hlen : (pd.reverse.map tM).length = pd.length := by simp
    rw [List.reverse_cons, List.map_append] at h
    have h' : MS T q C (pd.reverse.map tM ++ [tM x]) d b μ := h
    rw [List.length_cons] at hn hC hl
    obtain ⟨t1, t2⟩ := top_K h'
    obtain ⟨μ1, a1, a2, a3, a4⟩ := drops_M (N := N) (by omega) (by rw [hlen]; omega) h'
    obtain ⟨μ', r1, r2, r3⟩ := t110 (N := N) pd n (C ++ [x]) (μ := μ1) (by omega) (by simp; omega) (by omega) a2
    refine ⟨μ', ?_, by rw [List.append_assoc, List.singleton_append] at r2; exact r2, a4.trI r3⟩
    rw [← r1]
    show jX8_test_110b (jX8_test_110 N n) N 50 μ = _
    unfold jX8_test_110b
    rw [if_neg (not_not_intro h'.2.1.b0), t2, if_neg (by omega), a1, ob_e]
/-- a test ends -/
theorem TG_end {N : Nat} (hN : 1000000 ≤ N) {T : List Int} (hT : TB T) {q : Nat} (hI : IN T q) (ha : wrd T wAnd q = none) (ho : wrd T wOr q = none) {C pd : List Int} {d m n : Nat} {b : Int} (hx : ∀ x ∈ pd, x = -20 ∨ x = -21) (hC : C.length + pd.length ≤ 700) (hm : 1 ≤ m) (hn : 1 ≤ n) {μ : Mm} (h : MS T q C (pd.map tM) d b μ) : ∃ μ', TG N m n μ = some μ' ∧ MS T q (C ++ pd.reverse) [] d b μ' ∧ RF μ μ' := by
  obtain ⟨m', rfl⟩ : ∃ m', m = m' + 1 := ⟨m - 1, by omega⟩
  obtain ⟨n', rfl⟩ : ∃ n', n = n' + 1 := ⟨n - 1, by omega⟩
  have hl : (pd.map tM).length < 790 := by simp; omega
  have h25 : ¬ (25 : Int) ∈ pd.map tM := fun z => by
    obtain ⟨x, hxp, e⟩ := List.mem_map.mp z
    rcases hx x hxp with rfl | rfl <;> exact absurd e (by decide)
  obtain ⟨μ1, a1, a2, a3, a4⟩ := tg_76 (N := N) hN hT hI (m := m') hl (Or.inr h25) h
  obtain ⟨μ2, b1, b2', b3, b4⟩ := takesM_0 (N := N) hN hT hI (by decide) a2.1 (wm a2.1 a2.2.2.2 (r := 63) (w := wAnd) (by decide)) ha a2.2.1
  have h2 := a2.pq hI b2' b4
  obtain ⟨μ3, c1, c2, c3, c4⟩ := takesM_0 (N := N) hN hT hI (by decide) h2.1 (wm h2.1 h2.2.2.2 (r := 62) (w := wOr) (by decide)) ho h2.2.1
  have h3 := h2.pq hI c2 c4
  obtain ⟨μ4, d1, d2, d3⟩ := t110 (N := N) pd.reverse N C (μ := μ3) (by simp; omega) (by simpa using hC) (by simp; omega) (by rw [List.reverse_reverse]; exact h3)
  refine ⟨μ4, ?_, d2, a4.trI ((lx2 b4).trI ((lx2 c4).trI d3))⟩
  unfold TG
  rw [a1]
  unfold jX8_goesOnTest_76 jX8_goesOnTest_208
  rw [r_50_20 a2.1, b1, b2_e, if_pos rfl, r_50_19 h2.1, c1, b2_e, if_pos rfl, if_neg (not_not_intro h3.2.1.b0), hsq_M (N := N) hN hl h3, b2_e, if_neg h25, if_pos rfl, b2_e, if_pos rfl]
  unfold jX8_test_105 jX8_test_106
  show jX8_test_2b (jX8_test_2 N n') N 50 0 μ3 = _
  unfold jX8_test_2b
  rw [if_pos rfl]
  exact d1
