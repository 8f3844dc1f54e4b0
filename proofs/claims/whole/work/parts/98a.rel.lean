/-! ===== PURE: the whole state, in the class and in the reference ===== -/
abbrev St : Type := Gm × List Int × (Int → Bool) × List Int × Pl × List Int × (Int × Int)
def sG (S : St) : Gm := S.1
def sR' (S : St) : List Int := S.2.1
def sN (S : St) : Int → Bool := S.2.2.1
def sT (S : St) : List Int := S.2.2.2.1
def sP (S : St) : Pl := S.2.2.2.2.1
def sI (S : St) : List Int := S.2.2.2.2.2.1
def sF (S : St) : Int × Int := S.2.2.2.2.2.2
/-- torn frames only on a whole sheet -/
def NT (G : Gm) (R : List Int) (tn : Int → Bool) : Prop := whi G (spl G R) = 0 → ∀ k : Int, 0 ≤ k → k ≤ 8 → tn k = false
def StO (S : St) : Prop := TV (sT S) ∧ POK (sP S) ∧ (sI S).length ≤ 29 ∧ NT (sG S) (sR' S) (sN S)
/-- which sheet, which laws -/
def WHo (sh sh' l l' : Int) : Prop := ((sh = 26 ∧ sh' = 29) ∨ (sh = 29 ∧ sh' = 26)) ∧ ((l = 2 ∧ l' = 13) ∨ (l = 13 ∧ l' = 2))
def HD (sh sh' l l' : Int) (μ : Mm) : Prop := m_gt μ 0 2 = l ∧ m_gt μ 0 3 = l' ∧ m_gt μ 0 5 = sh ∧ m_gt μ 0 6 = sh'
def StX (S : St) (μ : Mm) : Prop := ∃ sh sh' l l', WHo sh sh' l l' ∧ HD sh sh' l l' μ ∧ XC sh l (sG S) (sR' S) (sN S) μ ∧ tpX (sT S) μ ∧ PX (sP S) μ ∧ ImX (sI S) μ ∧ m_gt μ 24 0 = (sF S).1 ∧ m_gt μ 24 1 = (sF S).2
def StM (S : St) (μ : Mm) : Prop := MC (sG S) (sR' S) μ ∧ AHC (sG S) μ ∧ TnM (sN S) μ ∧ FIC (sG S) (sR' S) (sN S) μ ∧ tpM (sT S) μ ∧ PM (sP S) μ ∧ ImM (sI S) μ ∧ (m_gt μ 50 7 = (sF S).1 ∧ m_gt μ 50 8 = (sF S).2) ∧ WDM μ
/-- only the class's cells changed -/
def CL (μ μ' : Mm) : Prop := KR μ' ∧ ∀ r i : Int, 50 ≤ r → r ≤ 104 → m_gt μ' r i = m_gt μ r i
/-- only the reference's cells changed -/
def RLm (μ μ' : Mm) : Prop := KR μ' ∧ μ'.1 = μ.1 ∧ μ'.2.1 = μ.2.1 ∧ ∀ r i : Int, (r < 50 ∨ 104 < r) → m_gt μ' r i = m_gt μ r i
theorem Row.cl {μ μ' : Mm} (f : CL μ μ') {r o : Int} {L : List Int} (h0 : 50 ≤ r) (h1 : r ≤ 104) (h : Row μ r o L) : Row μ' r o L := h.ext (fun i => f.2 r i h0 h1)
theorem CL.ag {μ μ' : Mm} (f : CL μ μ') {wh : List Int} {so : List (Int × Int)} (h : (wh.all (fun r => decide (50 ≤ r ∧ r ≤ 104)) && so.all (fun p => decide (50 ≤ p.1 ∧ p.1 ≤ 104))) = true) : Ag wh so μ μ' := by
  rw [Bool.and_eq_true, List.all_eq_true, List.all_eq_true] at h
  refine ⟨fun r hr i => ?_, fun p hp => ?_⟩
  · have := of_decide_eq_true (h.1 r hr)
    exact f.2 r i this.1 this.2
  · have := of_decide_eq_true (h.2 p hp)
    exact f.2 p.1 p.2 this.1 this.2
theorem StM.cl {S : St} {μ μ' : Mm} (h : StM S μ) (f : CL μ μ') : StM S μ' := by
  obtain ⟨h1, h2, h3, h4, h5, h6, h7, h8, h9⟩ := h
  refine ⟨⟨h1.1, f.1, h1.2.2.1.ag (f.ag (by decide)), h1.2.2.2.ag (f.ag (by decide))⟩, h2.ag (fun j => f.2 95 j (by decide) (by decide)) (f.2 50 70 (by decide) (by decide)), h3.ag (f.2 50 78 (by decide) (by decide)), h4.ag (fun j => f.2 96 j (by decide) (by decide)) (f.2 50 72 (by decide) (by decide)), ⟨by rw [f.2 50 1 (by decide) (by decide)]; exact h5.1, h5.2.cl f (by decide) (by decide)⟩, h6.ag (f.ag (by decide)), h7.ag (f.ag (by decide)), ⟨by rw [f.2 50 7 (by decide) (by decide)]; exact h8.1, by rw [f.2 50 8 (by decide) (by decide)]; exact h8.2⟩, h9.fr (fun r i a b => f.2 r i (by omega) (by omega))⟩
theorem RES.ext {b : Bool} {L : List Wy} {μ μ' : Mm} (h : RES b L μ) (hz : μ'.1 = μ.1) (hk : μ'.2.1 = μ.2.1) (e : ∀ r i : Int, ((33 ≤ r ∧ r ≤ 44 ∧ r ≠ 42) ∨ 105 ≤ r) → ¬ (r = 33 ∧ ¬ (i = 1 ∨ i = 2)) → m_gt μ' r i = m_gt μ r i) : RES b L μ' := by
  obtain ⟨a1, a2, hO, p, c, q, d, hpq, n1, n2, hZ, hX⟩ := h
  have kd : ∀ r, m_kd μ' r = m_kd μ r := fun r => congrFun hk r
  have hp1 := hpq.1
  have hq1 := hpq.2.1
  refine ⟨by unfold m_sz; rw [hz]; exact a1, by unfold m_sl; rw [hz]; exact a2, ⟨by rw [kd]; exact hO.1, by rw [kd]; exact hO.2.1, by rw [e 34 1 (by omega) (by omega)]; exact hO.2.2.1, by rw [e 38 1 (by omega) (by omega)]; exact hO.2.2.2⟩, p, c, q, d, hpq, by rw [e 33 1 (by omega) (by omega)]; exact n1, by rw [e 33 2 (by omega) (by omega)]; exact n2, ⟨fun r t r0 r1 t0 t1 => ?_, fun r r0 r1 => ?_⟩, hX.ext (fun r i hr => e r i ?_ ?_)⟩
  · rw [e d _ (by unfold pc at hq1; omega) (by unfold pc at hq1; omega)]; exact hZ.1 r t r0 r1 t0 t1
  · rw [e (q + 2) _ (by unfold pc at hq1; omega) (by unfold pc at hq1; omega), e (q + 3) _ (by unfold pc at hq1; omega) (by unfold pc at hq1; omega)]; exact hZ.2 r r0 r1
  · unfold pc at hp1; omega
  · unfold pc at hp1; omega
theorem HOLD.ext {G : Gm} {R : List Int} {tn : Int → Bool} {μ μ' : Mm} (h : HOLD G R tn μ) (hz : μ'.1 = μ.1) (hk : μ'.2.1 = μ.2.1) (e : ∀ r i : Int, ((33 ≤ r ∧ r ≤ 44) ∨ 105 ≤ r) → m_gt μ' r i = m_gt μ r i) : HOLD G R tn μ' := by
  have g : ∀ {b : Bool} {L : List Wy}, RES b L μ → RES b L μ' := fun h => h.ext hz hk (fun r i hr _ => e r i (by omega))
  have e0 : m_gt μ' 33 0 = m_gt μ 33 0 := e 33 0 (by omega)
  unfold HOLD
  rw [e0]
  rcases h with h | ⟨h, r⟩ | ⟨h, r⟩ | ⟨h, r⟩ | ⟨f, f0, f1, h, r⟩
  · exact Or.inl h
  · exact Or.inr (Or.inl ⟨h, g r⟩)
  · exact Or.inr (Or.inr (Or.inl ⟨h, g r⟩))
  · exact Or.inr (Or.inr (Or.inr (Or.inl ⟨h, g r⟩)))
  · exact Or.inr (Or.inr (Or.inr (Or.inr ⟨f, f0, f1, h, g r⟩)))
theorem SC.of {sh l : Int} {G : Gm} {R : List Int} {μ μ' : Mm} (h : SC sh l G R μ) (hK : KR μ') (e1 : Ag (wLX l) (sLX l) μ μ') (e2 : ∀ i : Int, m_gt μ' (l + 10) i = m_gt μ (l + 10) i) (e3 : ∀ r i : Int, (r = sh ∧ i ≠ 0 ∧ i ≠ 6 ∨ r = sh + 1 ∨ r = sh + 2) → m_gt μ' r i = m_gt μ r i) : SC sh l G R μ' := ⟨h.1, hK, h.2.2.1.ag e1, TX_se h.2.2.2.1 e2, h.2.2.2.2.ext e3⟩
theorem XC.ext {sh l : Int} {G : Gm} {R : List Int} {tn : Int → Bool} {μ μ' : Mm} (h : XC sh l G R tn μ) (hS : SC sh l G R μ') (hz : μ'.1 = μ.1) (hk : μ'.2.1 = μ.2.1) (e : ∀ r i : Int, ((32 ≤ r ∧ r ≤ 44) ∨ 105 ≤ r) → m_gt μ' r i = m_gt μ r i) : XC sh l G R tn μ' := ⟨hS, h.2.1.ext hS.2.1 hz hk (fun r i hr _ _ => e r i (by unfold lkC at hr; omega)), fun f f0 f1 => by rw [e 32 f (by omega)]; exact h.2.2.1 f f0 f1, h.2.2.2.ext hz hk (fun r i hr => e r i (by omega))⟩
theorem StX.rl {S : St} {μ μ' : Mm} (h : StX S μ) (f : RLm μ μ') : StX S μ' := by
  obtain ⟨sh, sh', l, l', hw, hd, hX, h1, h2, h3, h4, h5⟩ := h
  obtain ⟨hK, hz, hk, e⟩ := f
  refine ⟨sh, sh', l, l', hw, ⟨by rw [e 0 2 (by decide)]; exact hd.1, by rw [e 0 3 (by decide)]; exact hd.2.1, by rw [e 0 5 (by decide)]; exact hd.2.2.1, by rw [e 0 6 (by decide)]; exact hd.2.2.2⟩, hX.ext (hX.1.ext hK (fun r i hr => e r i (by omega))) hz hk (fun r i hr => e r i (by omega)), ⟨by rw [e 0 1 (by decide)]; exact h1.1, h1.2.ext (fun i => e 1 i (by decide))⟩, fun p p0 p1 => ⟨by rw [e 47 p (by decide)]; exact (h2 p p0 p1).1, (h2 p p0 p1).2.ext (fun i => e 46 i (by decide))⟩, ⟨by rw [e 0 11 (by decide)]; exact h3.1, h3.2.ext (fun i => e 49 i (by decide))⟩, by rw [e 24 0 (by decide)]; exact h4, by rw [e 24 1 (by decide)]; exact h5⟩
theorem fr_rl {ids : List Int} {sl : List (Int × Int)} {μ μ' : Mm} (f : Fr ids sl μ μ') (hK : KR μ) (h : (ids.all (fun r => decide (50 ≤ r ∧ r ≤ 104)) && sl.all (fun p => decide (50 ≤ p.1 ∧ p.1 ≤ 104))) = true) (hn : rfT.all (fun q => !(decide (q.1 ∈ ids ∨ (q.1, q.2.1) ∈ sl))) = true) : RLm μ μ' := by
  rw [Bool.and_eq_true, List.all_eq_true, List.all_eq_true] at h
  refine ⟨f.KR hK hn, f.1, f.2.1, fun r i hr => f.2.2 r i (fun z => ?_) (fun z => ?_)⟩
  · have := of_decide_eq_true (h.1 r z)
    omega
  · have := of_decide_eq_true (h.2 (r, i) z)
    dsimp only at this
    omega
theorem fr_cl {ids : List Int} {sl : List (Int × Int)} {μ μ' : Mm} (f : Fr ids sl μ μ') (hK : KR μ') (h : (ids.all (fun r => decide (r < 50)) && sl.all (fun p => decide (p.1 < 50))) = true) : CL μ μ' := by
  rw [Bool.and_eq_true, List.all_eq_true, List.all_eq_true] at h
  refine ⟨hK, fun r i h0 h1 => f.2.2 r i (fun z => ?_) (fun z => ?_)⟩
  · have := of_decide_eq_true (h.1 r z)
    omega
  · have := of_decide_eq_true (h.2 (r, i) z)
    dsimp only at this
    omega
/-- a call is answered alike -/
def Step (fX fM : Mm → Option (Int × Mm)) (S : St) : Prop := ∃ (P : Int → Prop) (S' : St), (∀ a b, P a → P b → a = b) ∧ StO S' ∧ (∀ μ, StX S μ → ∃ a μ', fX μ = some (a, μ') ∧ P a ∧ StX S' μ' ∧ CL μ μ') ∧ (∀ μ, StM S μ → ∃ a μ', fM μ = some (a, μ') ∧ P a ∧ StM S' μ' ∧ RLm μ μ')
def Both (S : St) (μ : Mm) : Prop := StO S ∧ StX S μ ∧ StM S μ
theorem Step.go {fX fM : Mm → Option (Int × Mm)} {S : St} (h : Step fX fM S) {μ : Mm} (hB : Both S μ) : ∃ a μ1 μ2 S', fX μ = some (a, μ1) ∧ KR μ1 ∧ fM μ1 = some (a, μ2) ∧ Both S' μ2 := by
  obtain ⟨P, S', hP, hO, hX, hM⟩ := h
  obtain ⟨a, μ1, r1, r2, r3, r4⟩ := hX μ hB.2.1
  obtain ⟨b, μ2, s1, s2, s3, s4⟩ := hM μ1 (hB.2.2.cl r4)
  exact ⟨a, μ1, μ2, S', r1, r4.1, by rw [s1, hP b a s2 r2], hO, r3.rl s4, s3⟩
/-- a call that changes nothing in the class -/
theorem StX.kr {S : St} {μ : Mm} (h : StX S μ) : KR μ := by
  obtain ⟨sh, sh', l, l', hw, hd, hX, _⟩ := h
  exact hX.1.2.1
theorem StM.kr {S : St} {μ : Mm} (h : StM S μ) : KR μ := h.1.2.1
theorem CL.rf {μ : Mm} (h : KR μ) : CL μ μ := ⟨h, fun _ _ _ _ => rfl⟩
theorem RLm.rf {μ : Mm} (h : KR μ) : RLm μ μ := ⟨h, rfl, rfl, fun _ _ _ => rfl⟩
