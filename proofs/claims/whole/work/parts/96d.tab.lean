/-! ===== PURE: the reference's tables ===== -/
def cel (f : Int) (o : Ow) (s : Int) : Int := (24 * f + enc o) * 1060 + 460 + s
/-- how many ways bring so much -/
def cB (L : List Int) (s : Int) : Nat := L.countP (fun b => decide (b = s))
theorem cB_app (A B : List Int) (s : Int) : cB (A ++ B) s = cB A s + cB B s := List.countP_append
theorem cB_shift (g : Int) (B : List Int) (s : Int) : cB (B.map (fun b => g + b)) s = cB B (s - g) := by
  unfold cB
  rw [List.countP_map]
  apply List.countP_congr
  intro b _
  show decide (g + b = s) = true ↔ decide (b = s - g) = true
  rw [decide_eq_true_eq, decide_eq_true_eq]
  omega
/-- one row of a table holds the ways L -/
def TR (t f : Int) (o : Ow) (L : List Int) (μ : Mm) : Prop := ∀ s, -460 ≤ s → s < 600 → m_gt μ t (cel f o s) = mnI CM (cB L s)
def BB (L : List Int) : Prop := ∀ b ∈ L, -460 ≤ b ∧ b < 600
theorem cap_M {N : Nat} {a b : Nat} {μ : Mm} : jX8_capped N (l_add (mnI CM a) (mnI CM b)) μ = some (mnI CM ((a + b : Nat) : Int), μ) := by
  have hCM : CM = 1000000000000000000 := rfl
  have hA : 0 ≤ mnI CM a ∧ mnI CM a ≤ CM := by unfold mnI; split <;> omega
  have hB : 0 ≤ mnI CM b ∧ mnI CM b ≤ CM := by unfold mnI; split <;> omega
  rw [l_add_e (by omega) (by omega), ← mn_add]
  unfold jX8_capped jX8_capped_15
  generalize mnI CM a + mnI CM b = y at *
  unfold mnI
  by_cases c : y ≤ 1000000000000000000
  · rw [if_pos ((l_cmp_le0 _ _).mpr c)]
    congr 2
    split <;> omega
  · rw [if_neg (fun z => c ((l_cmp_le0 _ _).mp z)), if_neg (by omega)]
    rfl
theorem mn_pos {a : Nat} : 0 < mnI CM a ↔ 0 < a := by
  have hCM : CM = 1000000000000000000 := rfl
  unfold mnI
  split <;> omega
theorem cel_ne {f f' : Int} {o o' : Ow} {s s' : Int} (ho : OwOK o) (ho' : OwOK o') (hs : -460 ≤ s ∧ s < 600) (hs' : -460 ≤ s' ∧ s' < 600) (h : f ≠ f' ∨ enc o ≠ enc o') : cel f o s ≠ cel f' o' s' := by
  have h1 := enc_ok ho
  have h2 := enc_ok ho'
  unfold cel
  generalize enc o = a at *
  generalize enc o' = b at *
  omega
/-- what frames behind bring is laid into a frame's row -/
theorem lays_loop {N : Nat} {t f : Int} {o o' : Ow} {g : Int} {n0 : Nat} (ht : t = 95 ∨ t = 96) (ho : OwOK o) (ho' : OwOK o') (hf : 0 ≤ f ∧ f ≤ 7) (hg : -60 ≤ g ∧ g ≤ 60) {A B : List Int} (hB : ∀ b ∈ B, -460 ≤ b ∧ b < 600 ∧ -460 ≤ b + g ∧ b + g < 600) : ∀ (k n i : Nat) {μ : Mm}, i + k = 1060 → k < n → KR μ → m_gt μ 50 75 = g → TR t (f + 1) o' B μ → (∀ s, -460 ≤ s → s < 600 → m_gt μ t (cel f o s) = mnI CM ((cB A s + (if s - g < (i : Int) - 460 then cB B (s - g) else 0) : Nat) : Int)) → ∃ μ', jX8_lays_28 N n 50 t (cel (f + 1) o' (-460)) (cel f o (-460)) i μ = some μ' ∧ TR t f o (A ++ B.map (fun b => g + b)) μ' ∧ (∀ j, (∀ s, -460 ≤ s → s < 600 → j ≠ cel f o s) → m_gt μ' t j = m_gt μ t j) ∧ Fr [t] [] μ μ'
  | k, 0, i, μ, hi, hn, _, _, _, _ => absurd hn (by omega)
  | 0, n + 1, i, μ, hi, hn, hK, h75, hT, hA => by
    refine ⟨μ, ?_, fun s s0 s1 => ?_, fun _ _ => rfl, Fr.rf0 _ _ _⟩
    · show jX8_lays_28b (jX8_lays_28 N n) N 50 t (cel (f + 1) o' (-460)) (cel f o (-460)) i μ = _
      unfold jX8_lays_28b
      rw [if_pos (by omega)]
    · rw [hA s s0 s1, cB_app, cB_shift]
      by_cases c : s - g < (i : Int) - 460
      · rw [if_pos c]
      · rw [if_neg c]
        have : cB B (s - g) = 0 := by
          unfold cB
          rw [List.countP_eq_zero]
          intro b hb z
          have := hB b hb
          have := of_decide_eq_true z
          omega
        rw [this]
  | k + 1, n + 1, i, μ, hi, hn, hK, h75, hT, hA => by
    have e1 := enc_ok ho
    have e2 := enc_ok ho'
    have k95 : m_kd μ t = (101, 228960) := by rcases ht with rfl | rfl; exact k_95 hK; exact k_96 hK
    have c1 : cel (f + 1) o' (-460) + i = cel (f + 1) o' ((i : Int) - 460) := by unfold cel; omega
    have b1 : 0 ≤ cel (f + 1) o' (-460) ∧ cel (f + 1) o' (-460) + 1060 ≤ 228960 := by unfold cel; omega
    have b2 : 0 ≤ cel f o (-460) ∧ cel f o (-460) + 1060 ≤ 228960 := by unfold cel; omega
    have hv := hT ((i : Int) - 460) (by omega) (by omega)
    have nxt : ∀ {μ1 : Mm}, KR μ1 → m_gt μ1 50 75 = g → TR t (f + 1) o' B μ1 → (∀ s, -460 ≤ s → s < 600 → m_gt μ1 t (cel f o s) = mnI CM ((cB A s + (if s - g < (i : Int) + 1 - 460 then cB B (s - g) else 0) : Nat) : Int)) → (∀ j, (∀ s, -460 ≤ s → s < 600 → j ≠ cel f o s) → m_gt μ1 t j = m_gt μ t j) → Fr [t] [] μ μ1 → ∃ μ', jX8_lays_82 (jX8_lays_28 N n) N 50 t (cel (f + 1) o' (-460)) (cel f o (-460)) i μ1 = some μ' ∧ TR t f o (A ++ B.map (fun b => g + b)) μ' ∧ (∀ j, (∀ s, -460 ≤ s → s < 600 → j ≠ cel f o s) → m_gt μ' t j = m_gt μ t j) ∧ Fr [t] [] μ μ' := by
      intro μ1 q1 q2 q3 q4 q5 q6
      obtain ⟨μ', r1, r2, r3, r4⟩ := lays_loop (N := N) (n0 := n0) ht ho ho' hf hg hB k n (i + 1) (μ := μ1) (by omega) (by omega) q1 q2 q3 (fun s s0 s1 => by rw [show ((i + 1 : Nat) : Int) - 460 = (i : Int) + 1 - 460 by omega]; exact q4 s s0 s1)
      refine ⟨μ', ?_, r2, fun j hj => by rw [r3 j hj, q5 j hj], q6.trI r4⟩
      unfold jX8_lays_82
      rw [bnd_e, i_add_e (by omega) (by omega)]
      exact r1
    show ∃ μ', jX8_lays_28b (jX8_lays_28 N n) N 50 t (cel (f + 1) o' (-460)) (cel f o (-460)) i μ = some μ' ∧ _
    unfold jX8_lays_28b
    rw [if_neg (by omega), i_add_e (x := cel (f + 1) o' (-460)) (by omega) (by omega), ald_e k95 (by omega) (by omega), ob_e, c1, hv]
    by_cases z : 0 < cB B ((i : Int) - 460)
    · have hz : ∃ b ∈ B, b = (i : Int) - 460 := by
        unfold cB at z
        rw [List.countP_pos_iff] at z
        obtain ⟨b, hb, e⟩ := z
        exact ⟨b, hb, of_decide_eq_true e⟩
      obtain ⟨b, hb, eb⟩ := hz
      have hbb := hB b hb
      have c2 : cel f o (-460) + i + g = cel f o ((i : Int) - 460 + g) := by unfold cel; omega
      have hold := hA ((i : Int) - 460 + g) (by omega) (by omega)
      rw [if_neg (by omega), Nat.add_zero] at hold
      rw [if_neg (fun y => absurd ((l_cmp_le0 _ _).mp y) (Int.not_le.mpr (mn_pos.mpr z))), h75, i_add_e (x := cel f o (-460)) (by omega) (by omega), i_add_e (by omega) (by omega), ald_e k95 (by omega) (by omega), ob_e, c2, hold, cap_M, b2_e, ast_e k95 (by rw [← c2]; omega) (by rw [← c2]; omega), ob_e]
      have tne : t ≠ 50 := by omega
      refine nxt (by rcases ht with rfl | rfl <;> exact hK.sa _ _ (by decide)) (by rw [gt_r _ _ _ _ (by omega)]; exact h75) (fun s s0 s1 => ?_) (fun s s0 s1 => ?_) (fun j hj => gt_i _ _ _ (hj _ (by omega) (by omega)) _) (Fr.stI (Fr.rf0 _ _ _) (by simp))
      · rw [gt_i _ _ _ (cel_ne ho' ho ⟨s0, s1⟩ ⟨by omega, by omega⟩ (Or.inl (by omega)))]
        exact hT s s0 s1
      · by_cases y : s = (i : Int) - 460 + g
        · rw [y, gt_same, if_pos (by omega), show (i : Int) - 460 + g - g = (i : Int) - 460 by omega]
        · rw [gt_i _ _ _ (by unfold cel; omega), hA s s0 s1]
          by_cases w : s - g < (i : Int) - 460
          · rw [if_pos w, if_pos (by omega)]
          · rw [if_neg w, if_neg (by omega)]
    · have z0 : cB B ((i : Int) - 460) = 0 := by omega
      have m0 : mnI CM ((0 : Nat) : Int) = 0 := by unfold mnI CM; rw [if_pos (by decide)]; rfl
      rw [if_pos ((l_cmp_le0 _ _).mpr (by rw [z0, m0]; exact Int.le_refl _))]
      clear m0
      refine nxt hK h75 hT (fun s s0 s1 => ?_) (fun _ _ => rfl) (Fr.rf0 _ _ _)
      rw [hA s s0 s1]
      by_cases w : s - g < (i : Int) - 460
      · rw [if_pos w, if_pos (by omega)]
      · rw [if_neg w]
        by_cases w2 : s - g < (i : Int) + 1 - 460
        · rw [if_pos w2, show s - g = (i : Int) - 460 by omega, z0]
        · rw [if_neg w2]
