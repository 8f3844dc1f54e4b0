/-! ===== PURE: the start ===== -/
def seqs : List (Int × Int × Int) := [(0, 1, 0), (0, 2, 2), (0, 3, 13), (0, 5, 26), (0, 6, 29), (0, 11, 0), (24, 0, 0), (24, 1, -1), (2, 1, 9), (2, 2, 6), (2, 3, 2), (2, 4, 0), (2, 5, 0), (2, 12, 0), (2, 13, 0), (3, 1, 0), (26, 1, 0), (26, 2, 0), (26, 3, 0), (26, 4, 9), (26, 5, 2), (26, 7, 0), (33, 0, 0), (33, 13, 0), (33, 1, 34), (33, 2, 38), (34, 1, 35), (38, 1, 39), (50, 70, 0), (50, 72, 0), (50, 78, 0), (50, 58, 0), (50, 1, 0), (50, 84, 0), (50, 7, 0), (50, 8, -1), (74, 1, 9), (75, 1, 6), (76, 1, 2), (77, 1, 0), (79, 1, 0), (83, 1, 0), (84, 1, 0)]
def szs : List (Int × Nat) := [(7, 4), (8, 9), (28, 1), (32, 9), (47, 6), (101, 6), (78, 8), (85, 162)]
def okZ (μ : Mm) (q : Int × Nat) : Bool := (List.range q.2).all (fun i => decide (m_gt μ q.1 (i : Int) = 0))
def okS1 (μ : Mm) : Bool := kdT.all (fun q => decide (m_kd μ q.1 = q.2)) && rfT.all (fun q => decide (m_gt μ q.1 q.2.1 = q.2.2)) && decide (m_sz μ = 105) && decide (m_sl μ ≤ 7000000)
def okS2 (μ : Mm) : Bool := seqs.all (fun q => decide (m_gt μ q.1 q.2.1 = q.2.2)) && szs.all (okZ μ) && wdM.all (fun p => (List.range p.2.length).all (fun i => decide (m_gt μ p.1 (i : Int) = p.2.getD i 0)))
def okS3 (μ : Mm) : Bool := (List.range 14).all (fun r => decide (m_gt μ 36 (r : Int) = 850) && decide (m_gt μ 37 (r : Int) = -1) && decide (m_gt μ 40 (r : Int) = 850) && decide (m_gt μ 41 (r : Int) = -1))
def iniC (o : Option Mm) (g : Mm → Option Mm) (f : Mm → Bool) : Bool := match o with
  | none => false
  | some μ2 => decide (m_sz μ2 = 50) && (match g (m_nw μ2 8 0 86) with
    | none => false
    | some μ4 => f μ4)
def iX : Option Mm := jX7_init 1000000 0 (m_nw m_0 7 0 12)
def iM (μ : Mm) : Option Mm := jX8_init 1000000 50 μ
def iniB (f : Mm → Bool) : Bool := iniC iX iM f
theorem iniC_go {o : Option Mm} {g : Mm → Option Mm} {f : Mm → Bool} (h : iniC o g f = true) : ∃ μ2 μ4, o = some μ2 ∧ m_sz μ2 = 50 ∧ g (m_nw μ2 8 0 86) = some μ4 ∧ f μ4 = true := by
  unfold iniC at h
  cases o with
  | none => cases h
  | some μ2 =>
    dsimp only at h
    rw [Bool.and_eq_true] at h
    obtain ⟨h1, h2⟩ := h
    cases hg : g (m_nw μ2 8 0 86) with
    | none => rw [hg] at h2; cases h2
    | some μ4 => rw [hg] at h2; exact ⟨μ2, μ4, rfl, of_decide_eq_true h1, hg, h2⟩
theorem ini1 : iniB okS1 = true := by decide +kernel
theorem ini2 : iniB okS2 = true := by decide +kernel
theorem ini3 : iniB okS3 = true := by decide +kernel
