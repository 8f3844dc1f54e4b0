/-! ===== PURE: class and reference answer alike ===== -/
theorem pure_law : PureLaw := by
  intro E hE
  have hx : x_len E ≤ 3072 := by
    unfold x_len
    have := Nat.mod_le (E.1.2 900) 2147483648
    omega
  obtain ⟨μ2, μ4, e1, e2, e3, hB⟩ := start_law
  obtain ⟨μ', h1, h2, h3⟩ := law_loop (E := E) (N := 1000000) (Nat.le_refl _) hx 3072 1000000 0 S0 (μ := μ4) (by omega) (by omega) hB
  refine ⟨1000000, μ', ?_, h2, h3⟩
  unfold jL_law
  rw [bnd_e, show ((m_sz m_0 : Nat) : Int) = 0 from rfl, e1, ob_e, bnd_e, e2, show ((50 : Nat) : Int) = 50 from rfl, e3, ob_e]
  exact h1
