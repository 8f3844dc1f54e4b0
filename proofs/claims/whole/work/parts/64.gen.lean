/-! ===== PURE: tools ===== -/
theorem Fr.rf0 (ids : List Int) (sl : List (Int × Int)) (μ : Mm) : Fr ids sl μ μ := ⟨rfl, rfl, fun _ _ _ _ => rfl⟩
theorem Fr.stI {ids : List Int} {sl : List (Int × Int)} {a b : Mm} (h : Fr ids sl a b) {r i v : Int} (hm : r ∈ ids ∨ (r, i) ∈ sl) : Fr ids sl a (m_st b r i v) :=
  ⟨h.1, h.2.1, fun x y hx hy => by
    rw [m_gt_st, if_neg]
    · exact h.2.2 x y hx hy
    · rintro ⟨rfl, rfl⟩
      exact hm.elim hx hy⟩
theorem Fr.trI {ids : List Int} {sl : List (Int × Int)} {a b c : Mm} (h : Fr ids sl a b) (g : Fr ids sl b c) : Fr ids sl a c :=
  ⟨g.1.trans h.1, g.2.1.trans h.2.1, fun r i hr hs => by rw [g.2.2 r i hr hs, h.2.2 r i hr hs]⟩
theorem chk_st {β : Type} (c : Nat) (μ : Mm) (r i v a : Int) (f : Option β) : m_chk c (m_st μ r i v) a f = m_chk c μ a f := rfl
theorem len_st (μ : Mm) (r i v a : Int) : m_len (m_st μ r i v) a = m_len μ a := rfl
theorem ald_st (c : Nat) (μ : Mm) (r i v a j : Int) : m_ald c (m_st μ r i v) a j = (m_ald c μ a j).bind fun _ => some (m_gt (m_st μ r i v) a j) := by
  unfold m_ald
  rw [m_kd_st]
  split <;> rfl
theorem ast_st (c : Nat) (μ : Mm) (r i v a j w : Int) : m_ast c (m_st μ r i v) a j w = (m_ast c μ a j w).bind fun _ => some (m_st (m_st μ r i v) a j w) := by
  unfold m_ast
  rw [m_kd_st]
  split <;> rfl
/-- a loop of which so many turns are left -/
theorem whl {σ τ : Type} {F : Nat → σ → τ} {I : Nat → σ → Prop} (step : ∀ n k s, I (k + 1) s → ∃ s', F (n + 1) s = F n s' ∧ I k s') : ∀ (k n : Nat) (s : σ), I k s → ∃ s', F (n + k) s = F n s' ∧ I 0 s'
  | 0, n, s, h => ⟨s, rfl, h⟩
  | k + 1, n, s, h => by
    obtain ⟨s1, e1, h1⟩ := step (n + k) k s h
    obtain ⟨s2, e2, h2⟩ := whl step k n s1 h1
    exact ⟨s2, e1.trans e2, h2⟩
theorem whl' {σ τ : Type} {F : Nat → σ → τ} {I : Nat → σ → Prop} (step : ∀ n k s, I (k + 1) s → ∃ s', F (n + 1) s = F n s' ∧ I k s') (k n : Nat) (s : σ) (h : I k s) (hn : k < n) : ∃ m s', F n s = F (m + 1) s' ∧ I 0 s' := by
  obtain ⟨m, rfl⟩ : ∃ m, n = (m + 1) + k := ⟨n - k - 1, by omega⟩
  obtain ⟨s', e, h'⟩ := whl step k (m + 1) s h
  exact ⟨m, s', e, h'⟩
theorem i_max_e (x y : Int) : i_max x y = if x ≤ y then y else x := by unfold i_max; repeat' split <;> omega
theorem i_min_e (x y : Int) : i_min x y = if x ≤ y then x else y := by unfold i_min; repeat' split <;> omega
