/-! ===== PURE: class and reference answer alike ===== -/
theorem start_law : ∃ μ2 μ4, iX = some μ2 ∧ m_sz μ2 = 50 ∧ iM (m_nw μ2 8 0 86) = some μ4 ∧ Both S0 μ4 := start_gen (iniB_C ini1) (iniB_C ini2) (iniB_C ini3) (iniB_C ini4) (iniB_C ini5)
theorem iX_e : jX7_init 1000000 0 (m_nw m_0 7 0 12) = iX := by unfold iX; rfl
theorem iM_e (μ : Mm) : jX8_init 1000000 50 μ = iM μ := by unfold iM; rfl
theorem law_gen {E : m_E} {N : Nat} (hN : 1000000 ≤ N) (hx : x_len E ≤ 3072) {o : Option Mm} {g : Mm → Option Mm} (ho : jX7_init N 0 (m_nw m_0 7 0 12) = o) (hg : ∀ μ, jX8_init N 50 μ = g μ) (h : ∃ μ2 μ4, o = some μ2 ∧ m_sz μ2 = 50 ∧ g (m_nw μ2 8 0 86) = some μ4 ∧ Both S0 μ4) : ∃ μ', jL_law E N m_0 = some (1, μ') ∧ m_sz μ' ≤ 600000 ∧ m_sl μ' ≤ 7302250 := by
  obtain ⟨μ2, μ4, e1, e2, e3, hB⟩ := h
  obtain ⟨μ', h1, h2, h3⟩ := law_loop (E := E) (N := N) hN hx 3072 N 0 S0 (μ := μ4) (by omega) (by omega) hB
  refine ⟨μ', ?_, h2, h3⟩
  unfold jL_law
  rw [bnd_e, show ((m_sz m_0 : Nat) : Int) = 0 from rfl, ho, e1, ob_e, bnd_e, e2, show ((50 : Nat) : Int) = 50 from rfl, hg, e3, ob_e]
  exact h1
theorem pure_law : PureLaw := by
  intro E hE
  have hx : x_len E ≤ 3072 := by
    unfold x_len
    have := Nat.mod_le (E.1.2 900) 2147483648
    omega
  obtain ⟨μ', h1, h2, h3⟩ := law_gen (E := E) (N := 1000000) (Nat.le_refl _) hx iX_e iM_e start_law
  exact ⟨1000000, μ', h1, h2, h3⟩
