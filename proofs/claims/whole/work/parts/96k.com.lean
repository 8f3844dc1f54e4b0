/-! ===== PURE: all that may come now, told by the reference ===== -/
/-- the row of what may come holds the totals L -/
def CO (L : List Int) (μ : Mm) : Prop := ∀ j, 0 ≤ j → j < 2120 → m_gt μ 98 j = mnI CM (cB L (j - 1060))
theorem mn0 : mnI CM ((0 : Nat) : Int) = 0 := by unfold mnI CM; rw [if_pos (by decide)]; rfl
theorem cB_no {L : List Int} {s : Int} (h : ∀ b ∈ L, ¬ b = s) : cB L s = 0 := by
  unfold cB
  rw [List.countP_eq_zero]
  intro b hb z
  exact h b hb (of_decide_eq_true z)
theorem cB_mem {L : List Int} {s : Int} (h : 0 < cB L s) : s ∈ L := by
  unfold cB at h
  rw [List.countP_pos_iff] at h
  obtain ⟨b, hb, e⟩ := h
  have := of_decide_eq_true e
  rw [← this]
  exact hb
theorem com_loop {N : Nat} {fi x w f : Int} {o' : Ow} {g : Int} (ho' : OwOK o') (hf : 0 ≤ f ∧ f ≤ 7) {A B : List Int} (hw : -600 ≤ w ∧ w ≤ 600) (hg : -60 ≤ g ∧ g ≤ 60) (hB : ∀ b ∈ B, -460 ≤ b ∧ b < 600 ∧ -1060 ≤ w + g + b ∧ w + g + b < 1060) {k119 : Int → Int → Int → Int → Mm → Option Mm} : ∀ (k n i : Nat) {μ : Mm}, i + k = 1060 → k < n → KR μ → m_gt μ 50 75 = g → TR 95 (f + 1) o' B μ → (∀ j, 0 ≤ j → j < 2120 → m_gt μ 98 j = mnI CM ((cB A (j - 1060) + (if j - 1060 - (w + g) < (i : Int) - 460 then cB B (j - 1060 - (w + g)) else 0) : Nat) : Int)) → ∃ μ', jX8_tellsComing_236 k119 N n 50 fi x w (cel (f + 1) o' (-460)) i μ = k119 50 fi x w μ' ∧ CO (A ++ B.map (fun b => (w + g) + b)) μ' ∧ Fr [98] [] μ μ'
  | k, 0, i, μ, hi, hn, _, _, _, _ => absurd hn (by omega)
  | 0, n + 1, i, μ, hi, hn, hK, h75, hT, hA => by
    refine ⟨μ, ?_, fun j j0 j1 => ?_, Fr.rf0 _ _ _⟩
    · show jX8_tellsComing_236b k119 (jX8_tellsComing_236 k119 N n) N 50 fi x w (cel (f + 1) o' (-460)) i μ = _
      unfold jX8_tellsComing_236b
      rw [if_pos (by omega)]
    · rw [hA j j0 j1, cB_app, cB_shift]
      by_cases c : j - 1060 - (w + g) < (i : Int) - 460
      · rw [if_pos c]
      · rw [if_neg c, cB_no (L := B) (fun b hb z => by have := hB b hb; omega)]
  | k + 1, n + 1, i, μ, hi, hn, hK, h75, hT, hA => by
    have e2 := enc_ok ho'
    have c1 : cel (f + 1) o' (-460) + i = cel (f + 1) o' ((i : Int) - 460) := by unfold cel; omega
    have b1 : 0 ≤ cel (f + 1) o' (-460) ∧ cel (f + 1) o' (-460) + 1060 ≤ 228960 := by unfold cel; omega
    have hv := hT ((i : Int) - 460) (by omega) (by omega)
    have nxt : ∀ {μ1 : Mm}, KR μ1 → m_gt μ1 50 75 = g → TR 95 (f + 1) o' B μ1 → (∀ j, 0 ≤ j → j < 2120 → m_gt μ1 98 j = mnI CM ((cB A (j - 1060) + (if j - 1060 - (w + g) < (i : Int) + 1 - 460 then cB B (j - 1060 - (w + g)) else 0) : Nat) : Int)) → Fr [98] [] μ μ1 → ∃ μ', jX8_tellsComing_313 k119 (jX8_tellsComing_236 k119 N n) N 50 fi x w (cel (f + 1) o' (-460)) i μ1 = k119 50 fi x w μ' ∧ CO (A ++ B.map (fun b => (w + g) + b)) μ' ∧ Fr [98] [] μ μ' := by
      intro μ1 q1 q2 q3 q4 q6
      obtain ⟨μ', r1, r2, r4⟩ := com_loop (N := N) (fi := fi) (x := x) ho' hf hw hg hB (k119 := k119) k n (i + 1) (μ := μ1) (by omega) (by omega) q1 q2 q3 (fun j j0 j1 => by rw [show ((i + 1 : Nat) : Int) - 460 = (i : Int) + 1 - 460 by omega]; exact q4 j j0 j1)
      refine ⟨μ', ?_, r2, q6.trI r4⟩
      unfold jX8_tellsComing_313
      rw [bnd_e, i_add_e (by omega) (by omega)]
      exact r1
    show ∃ μ', jX8_tellsComing_236b k119 (jX8_tellsComing_236 k119 N n) N 50 fi x w (cel (f + 1) o' (-460)) i μ = k119 50 fi x w μ' ∧ _
    unfold jX8_tellsComing_236b
    rw [if_neg (by omega), r_50_69 hK, i_add_e (x := cel (f + 1) o' (-460)) (by omega) (by omega), ald_e (k_95 hK) (by omega) (by omega), ob_e, c1, hv]
    by_cases z : 0 < cB B ((i : Int) - 460)
    · have hbb := hB _ (cB_mem z)
      have c2 : i_sub (i_add (i_add (i_add 1060 w) g) i) 460 = 1060 + (w + g) + ((i : Int) - 460) := by
        simp (disch := omega) only [i_add_e, i_sub_e]
        omega
      have hold := hA (1060 + (w + g) + ((i : Int) - 460)) (by omega) (by omega)
      rw [if_neg (by omega), Nat.add_zero] at hold
      rw [if_neg (fun y => absurd ((l_cmp_le0 _ _).mp y) (Int.not_le.mpr (mn_pos.mpr z))), h75, r_50_77 hK, c2]
      clear c2
      rw [ald_e (k_98 hK) (by omega) (by omega), ob_e, hold, cap_M, b2_e, ast_e (k_98 hK) (by omega) (by omega), ob_e]
      refine nxt (hK.sa _ _ (by decide)) (by rw [gt_r _ _ _ _ (by decide)]; exact h75) (fun s s0 s1 => ?_) (fun j j0 j1 => ?_) (Fr.stI (Fr.rf0 _ _ _) (by simp))
      · rw [gt_r _ _ _ _ (by decide)]
        exact hT s s0 s1
      · by_cases y : j = 1060 + (w + g) + ((i : Int) - 460)
        · rw [y, gt_same, if_pos (by omega), show 1060 + (w + g) + ((i : Int) - 460) - 1060 - (w + g) = (i : Int) - 460 by omega]
        · rw [gt_i _ _ _ y, hA j j0 j1]
          by_cases q : j - 1060 - (w + g) < (i : Int) - 460
          · rw [if_pos q, if_pos (by omega)]
          · rw [if_neg q, if_neg (by omega)]
    · have z0 : cB B ((i : Int) - 460) = 0 := by omega
      rw [if_pos ((l_cmp_le0 _ _).mpr (by rw [z0, mn0]; exact Int.le_refl _))]
      refine nxt hK h75 hT (fun j j0 j1 => ?_) (Fr.rf0 _ _ _)
      rw [hA j j0 j1]
      by_cases q : j - 1060 - (w + g) < (i : Int) - 460
      · rw [if_pos q, if_pos (by omega)]
      · rw [if_neg q]
        by_cases q2 : j - 1060 - (w + g) < (i : Int) + 1 - 460
        · rw [if_pos q2, show j - 1060 - (w + g) = (i : Int) - 460 by omega, z0]
        · rw [if_neg q2]
theorem com_zero {N : Nat} {fi : Int} : ∀ (k n : Nat) (i : Int) {μ : Mm}, i + k = 2120 → 0 ≤ i → k < n → KR μ → (∀ j, 0 ≤ j → j < i → m_gt μ 98 j = 0) → ∃ n' μ', jX8_tellsComing_10 N n 50 fi i μ = jX8_tellsComing_10b (jX8_tellsComing_10 N n') N 50 fi 2120 μ' ∧ (∀ j, 0 ≤ j → j < 2120 → m_gt μ' 98 j = 0) ∧ Fr [98] [] μ μ'
  | k, 0, i, μ, hi, h0, hn, _, _ => absurd hn (by omega)
  | 0, n + 1, i, μ, hi, h0, hn, hK, hZ => by
    refine ⟨n, μ, ?_, fun j j0 j1 => hZ j j0 (by omega), Fr.rf0 _ _ _⟩
    rw [show i = 2120 by omega]
    rfl
  | k + 1, n + 1, i, μ, hi, h0, hn, hK, hZ => by
    obtain ⟨n', μ', r1, r2, r3⟩ := com_zero (N := N) (fi := fi) k n (i + 1) (μ := m_st μ 98 i 0) (by omega) (by omega) (by omega) (hK.sa _ _ (by decide)) (fun j j0 j1 => by
      by_cases c : j = i
      · rw [c, gt_same]
      · rw [gt_i _ _ _ c]
        exact hZ j j0 (by omega))
    refine ⟨n', μ', ?_, r2, (Fr.stI (Fr.rf0 _ _ _) (by simp)).trI r3⟩
    rw [← r1]
    show jX8_tellsComing_10b (jX8_tellsComing_10 N n) N 50 fi i μ = _
    rw [jX8_tellsComing_10b, if_neg (by omega), r_50_77 hK, ast_e (k_98 hK) (by omega) (by omega), ob_e, bnd_e, i_add_e (by omega) (by omega)]
/-- the totals of the ways that begin with a first roll, if one is told -/
def sel (fi : Int) (L : List (Int × Int)) : List Int := (L.filter (fun p => decide (fi = -1 ∨ p.2 = fi))).map (fun p => p.1)
theorem sel_app (fi : Int) (A B : List (Int × Int)) : sel fi (A ++ B) = sel fi A ++ sel fi B := by unfold sel; rw [List.filter_append, List.map_append]
theorem sel_all {fi m : Int} {α : Type} (l : List α) (f : α → Int) : sel fi (l.map (fun b => (f b, m))) = if fi = -1 ∨ m = fi then l.map f else [] := by
  unfold sel
  by_cases c : fi = -1 ∨ m = fi
  · rw [if_pos c, List.filter_eq_self.mpr, List.map_map]
    · rfl
    · intro p hp
      obtain ⟨b, _, rfl⟩ := List.mem_map.mp hp
      exact decide_eq_true c
  · rw [if_neg c, List.filter_eq_nil_iff.mpr, List.map_nil]
    intro p hp
    obtain ⟨b, _, rfl⟩ := List.mem_map.mp hp
    simpa using c
theorem sel_fm {fi : Int} {α : Type} (f : α → List (Int × Int)) : ∀ l : List α, sel fi (l.flatMap f) = l.flatMap (fun a => sel fi (f a))
  | [] => rfl
  | a :: l => by rw [List.flatMap_cons, List.flatMap_cons, sel_app, sel_fm f l]
def comI : List Int := [88, 97, 98]
/-- what one row of the open frame brings, with all behind it -/
def rowC (G : Gm) (fi f w : Int) (o : Ow) (c : List Int) (B : Ow → List Int) (r : List Int) : List Int := if (dn c + lsum r = G.1 0 ∨ (c.length : Int) + r.length = G.1 2) ∧ (fi = -1 ∨ r.getD 0 0 = fi) then (B (lvg G o c r)).map (fun b => (w + brg G f o c r) + b) else []
theorem lvg_ok {G : Gm} {o : Ow} (ho : OwOK o) {c r : List Int} (hne : r ≠ []) : OwOK (lvg G o c r) := by
  unfold lvg
  have h1 : OwOK1 (ltn r.length o) := ltn_ok ho (by cases r with | nil => exact absurd rfl hne | cons _ _ => simp)
  exact pls_ok h1
theorem brg_ok {G : Gm} (hG : GOK G) {f : Int} {o : Ow} (ho : OwOK o) {c r : List Int} (hr : rok r) (hd : dn c + dn r ≤ G.1 0) (hc0 : 0 ≤ dn c) (hl : r.length ≤ 3) : -60 ≤ brg G f o c r ∧ brg G f o c r ≤ 60 := by
  have hp := hG.1
  have h1 := gn_ok r o ho hr
  have h3 := hG.2.2.2.1
  have h4 := wrt_ok G f (dn (c ++ r)) (c ++ r).length (fls (c ++ r))
  have h5 := fls_ok r
  have h6 : 0 ≤ G.1 3 * fls r := Int.mul_nonneg h3.1 h5.1
  have h7 : G.1 3 * fls r ≤ 10 * 3 := Int.mul_le_mul h3.2 (by omega) h5.1 (by omega)
  unfold brg
  omega
