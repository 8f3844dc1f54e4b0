/-! ===== PURE: what is reached, told by the reference ===== -/
theorem brg_nil (G : Gm) (f : Int) (o : Ow) (F : List Int) : brg G f o [] F = (fo G f o F).2 := by
  unfold brg fo
  rw [List.nil_append, Int.mul_comm]
  omega
theorem lvg_nil (G : Gm) (f : Int) (o : Ow) (F : List Int) : lvg G o [] F = (fo G f o F).1 := rfl
def rowsT (G : Gm) (R : List Int) (tn : Int → Bool) (f : Int) : List (List Int) := if tn f then frow (G.1 2).toNat (G.1 0) [] else [fra (spl G R) f]
theorem rowsT_FG {G : Gm} (hG : GOK G) {R : List Int} (hV : VR G R) {tn : Int → Bool} {f : Int} (h0 : 0 ≤ f) (h1 : f < (spl G R).1.length) {F : List Int} (hF : F ∈ rowsT G R tn f) : FG G F := by
  unfold rowsT at hF
  by_cases c : tn f = true
  · rw [if_pos c] at hF
    exact frow_FG hG (c := []) trivial hF
  · rw [if_neg c] at hF
    rw [List.mem_singleton.mp hF]
    exact (fra_FO (hV.ok hG) h0 h1).fg
theorem cmpl_nil {G : Gm} {r : List Int} (h1 : dn r ≤ G.1 0) (h2 : (r.length : Int) ≤ G.1 2) : cmpl G [] r ↔ (dn r = G.1 0 ∨ (r.length : Int) = G.1 2) := by
  unfold cmpl
  have e0 : dn [] = 0 := by simp [dn, lsum]
  rw [e0]
  simp
  omega
def ldI : List Int := [88, 97, 100]
theorem KP.ld {G : Gm} {R : List Int} {tn : Int → Bool} {μ μ' : Mm} (h : KP G R tn μ) (f : Fr ldI opS μ μ') : KP G R tn μ' := ⟨⟨h.1.1, f.KR h.1.2.1 (by decide), h.1.2.2.1.ag (f.ag (by decide)), h.1.2.2.2.ag (f.ag (by decide))⟩, h.2.1.ag (f.ag (by decide)), h.2.2.ag (f.2.2 50 78 (by decide) (by decide))⟩
/-- what one row of a frame leads to -/
def led (G : Gm) (f : Int) (o : Ow) (P : Ow → Int → Prop) (F : List Int) (o2 : Ow) (s : Int) : Prop := o2 = (fo G f o F).1 ∧ -460 ≤ s - (fo G f o F).2 ∧ s - (fo G f o F).2 < 600 ∧ P o (s - (fo G f o F).2)
theorem lead_one {N : Nat} (hN : 1000000 ≤ N) {G : Gm} {f : Int} (hG : GOK G) (hf : 0 ≤ f ∧ f ≤ 7) {o : Ow} (ho : OwOK o) {F : List Int} (hF : rok F) (hne : F ≠ []) (hd : dn F ≤ G.1 0) (hl : (F.length : Int) ≤ G.1 2) {P T : Ow → Int → Prop} (hP : ∀ o s, P o s → -400 ≤ s ∧ s ≤ 400) {μ : Mm} (hK : KR μ) (hM : GM G μ) (hR : ROW F μ) (h99 : RB 99 P μ) (h100 : RB 100 T μ) : ∃ x μ1, jX8_ends N 50 f (enc o) 0 0 0 μ = some (x, μ1) ∧ (¬ cmpl G [] F → x = 0 ∧ μ1 = μ) ∧ (cmpl G [] F → ¬ x = 0 ∧ ∃ μ', jX8_leadsOn N 50 f (enc o) μ1 = some μ' ∧ RB 100 (fun o2 s => T o2 s ∨ led G f o P F o2 s) μ' ∧ Fr ldI opS μ μ' ∧ ROW F μ') := by
  have h3 := hG.2.2.1
  obtain ⟨x, μ1, e1, e2, e3, e4⟩ := ends_M (N := N) hN hG (f := f) (by omega) ho (c := []) (r := F) (fun y hy => absurd hy (by simp)) hF (by simp; omega) hne (by simp [dn, lsum] at hd ⊢; exact hd) hK hM hR
  refine ⟨x, μ1, e1, e3, fun hc => ?_⟩
  obtain ⟨q1, q2, q3⟩ := e2 hc
  rw [brg_nil] at q2
  rw [lvg_nil G f] at q3
  have hFG : FG G F := ⟨hF, by cases F with | nil => exact absurd rfl hne | cons _ _ => simp, hl, hd, (cmpl_nil hd hl).mp hc⟩
  have hfo := fo_ok hG (f := f) ho hFG
  have K1 : KR μ1 := e4.KR hK (by decide)
  obtain ⟨μ2, r1, r2, r3⟩ := leadsOn_M (N := N) hN (f := f) ho hfo.1 (g := (fo G f o F).2) (by omega) (P := P) (T := T) (fun s s0 s1 hp => by have := hP _ _ hp; omega) K1 q2 q3 (h99.ag (fun j => e4.2.2 99 j (by decide) (by simp [pfs]))) (h100.ag (fun j => e4.2.2 100 j (by decide) (by simp [pfs])))
  refine ⟨by omega, μ2, r1, r2, ?_, ?_, ?_⟩
  · exact (e4.mono (by simp [ldI]) (fun q hq => Or.inl (by
      unfold opS
      rcases List.mem_append.mp hq with z | z
      · exact List.mem_append.mpr (Or.inl z)
      · refine List.mem_append.mpr (Or.inr ?_)
        simp at z ⊢
        rcases z with z | z <;> simp [z]))).trI (r3.mono (by simp [ldI]) (by simp))
  · rw [r3.2.2 50 74 (by decide) (by simp), e4.2.2 50 74 (by decide) (by decide)]; exact hR.1
  · exact hR.2.ext (fun i => by rw [r3.2.2 97 i (by decide) (by simp), e4.2.2 97 i (by decide) (by simp [pfs])])
theorem leads_row {N : Nat} (hN : 1000000 ≤ N) {G : Gm} {R : List Int} {tn : Int → Bool} {f : Int} (h0 : 0 ≤ f) (h1 : f < (spl G R).1.length) {o : Ow} (ho : OwOK o) {P T : Ow → Int → Prop} (hP : ∀ o s, P o s → -400 ≤ s ∧ s ≤ 400) {k24 : Int → Int → Int → Mm → Option Mm} {μ : Mm} (hk : KP G R tn μ) (h99 : RB 99 P μ) (h100 : RB 100 T μ) : ∃ μ', (b2 (jX8_isTorn N 50 f μ) fun x2 μ2 =>
if ¬ x2 = 0 then (bnd (m_st μ2 50 74 0) fun μ3 =>
jX8_leads_79 k24 N N 50 f (enc o) μ3) else ((jX8_asThere N 50 f μ2).bind fun μ4 =>
b2 (jX8_ends N 50 f (enc o) 0 0 0 μ4) fun x3 μ5 =>
if x3 = 0 then (jX8_leads_119 k24 N 50 f (enc o) μ5) else ((jX8_leadsOn N 50 f (enc o) μ5).bind fun μ6 =>
jX8_leads_119 k24 N 50 f (enc o) μ6))) = jX8_leads_119 k24 N 50 f (enc o) μ' ∧ RB 100 (fun o2 s => T o2 s ∨ ∃ F ∈ rowsT G R tn f, led G f o P F o2 s) μ' ∧ Fr ldI opS μ μ' := by
  have hG := hk.1.1.1
  have hV := hk.1.1.2
  have hO := hV.ok hG
  have hl8 := hO.2.1
  have h8 := hG.2.1
  have hp := hG.1
  have hrl := hG.2.2.1
  rw [isTorn_M hk.2.2 h0 (by omega), b2_e]
  by_cases hc : tn f = true
  · have er : rowsT G R tn f = frow (G.1 2).toNat (G.1 0) [] := by unfold rowsT; rw [if_pos hc]
    rw [hc, if_pos (show ¬ (if true = true then (1 : Int) else 0) = 0 by decide), bnd_e, er]
    let Inv : List (List Int) → Mm → Prop := fun V μ1 => Fr ldI opS μ μ1 ∧ RB 100 (fun o2 s => T o2 s ∨ ∃ F ∈ V, (lsum F = G.1 0 ∨ (F.length : Int) = G.1 2) ∧ led G f o P F o2 s) μ1
    have hI : ∀ V μ1, Inv V μ1 → KR μ1 ∧ GM G μ1 ∧ RB 99 P μ1 := fun V μ1 h => ⟨h.1.KR hk.1.2.1 (by decide), hk.1.2.2.1.ag (h.1.ag (by decide)), h99.ag (fun j => h.1.2.2 99 j (by decide) (by simp [opS, pfs]))⟩
    have H : RLp N (G.1 0) (G.1 2).toNat (fun n μ => jX8_leads_79 k24 N n 50 f (enc o) μ) (fun μ => jX8_leads_119 k24 N 50 f (enc o) μ) (fun K μ1 => b2 (jX8_ends N 50 f (enc o) 0 0 0 μ1) fun x4 μ2 => if x4 = 0 then K μ2 else ((jX8_leadsOn N 50 f (enc o) μ2).bind fun μ3 => K μ3)) Inv := by
      refine ⟨fun n V μ1 h => ?_, fun V μ1 h => (hI V μ1 h).1, fun V μ1 μ2 h g => ?_, fun K V r μ1 hne hrv h hR => ?_⟩
      · obtain ⟨K1, M1, _⟩ := hI V μ1 h
        show jX8_leads_79b k24 (jX8_leads_79 k24 N n) N 50 f (enc o) μ1 = _
        unfold jX8_leads_79b
        rw [r_50_31 K1, ald_e (k_74 K1) (by decide) (by decide), ob_e, M1.1.1, r_50_33 K1, ald_e (k_76 K1) (by decide) (by decide), ob_e, M1.1.2.2.1, show (((G.1 2).toNat : Nat) : Int) = G.1 2 by omega]
      · exact ⟨h.1.trI (g.mono (by simp [ldI]) (by simp [opS])), h.2.ag (fun j => g.2.2 100 j (by decide) (by simp))⟩
      · obtain ⟨K1, M1, R1⟩ := hI V μ1 h
        obtain ⟨d1, d2, d3⟩ := dn_lsum hrv.1
        have v2 := hrv.2.1
        have v3 := hrv.2.2
        obtain ⟨x, μ2, e1, e2, e3⟩ := lead_one (N := N) hN hG (f := f) (by omega) ho d3 hne (by omega) (by omega) hP K1 M1 hR R1 h.2
        have hcm : cmpl G [] r ↔ (lsum r = G.1 0 ∨ (r.length : Int) = G.1 2) := by
          rw [cmpl_nil (by omega) (by omega), d1]
        dsimp only
        rw [e1, b2_e]
        by_cases c : cmpl G [] r
        · obtain ⟨c1, μ3, c2, c3, c4, c5⟩ := e3 c
          rw [if_neg c1, c2, ob_e]
          refine ⟨μ3, rfl, ⟨h.1.trI c4, c3.cg (fun o2 _ s _ _ => ?_)⟩, c5⟩
          constructor
          · rintro ((z | ⟨F, hF, z⟩) | z)
            · exact Or.inl z
            · exact Or.inr ⟨F, List.mem_append.mpr (Or.inl hF), z⟩
            · exact Or.inr ⟨r, List.mem_append.mpr (Or.inr (by simp)), hcm.mp c, z⟩
          · rintro (z | ⟨F, hF, z⟩)
            · exact Or.inl (Or.inl z)
            · rcases List.mem_append.mp hF with y | y
              · exact Or.inl (Or.inr ⟨F, y, z⟩)
              · rw [List.mem_singleton.mp y] at z
                exact Or.inr z.2
        · obtain ⟨c1, c2⟩ := e2 c
          rw [if_pos c1, c2]
          refine ⟨μ1, rfl, ⟨h.1, h.2.cg (fun o2 _ s _ _ => ?_)⟩, hR⟩
          constructor
          · rintro (z | ⟨F, hF, z⟩)
            · exact Or.inl z
            · exact Or.inr ⟨F, List.mem_append.mpr (Or.inl hF), z⟩
          · rintro (z | ⟨F, hF, z⟩)
            · exact Or.inl z
            · rcases List.mem_append.mp hF with y | y
              · exact Or.inr ⟨F, y, z⟩
              · rw [List.mem_singleton.mp y] at z
                exact absurd (hcm.mpr z.1) c
    have f0 : Fr ldI opS μ (m_st μ 50 74 0) := Fr.stI (Fr.rf0 _ _ _) (by simp [opS])
    have I0 : Inv [] (m_st μ 50 74 0) := ⟨f0, (h100.ag (fun j => gt_r _ _ _ _ (by decide))).cg (fun o2 _ s _ _ => ⟨Or.inl, fun z => z.elim id (fun ⟨F, hF, _⟩ => absurd hF (by simp))⟩)⟩
    obtain ⟨μ', r1, r2⟩ := rows_M hN (by omega) (by omega) (by omega) H I0 ⟨gt_same _ _ _ _, Row.nil _ _ _⟩
    refine ⟨μ', r1, r2.2.cg (fun o2 _ s _ _ => ?_), r2.1⟩
    rw [frow_dsc _ _ (by omega) hp.1]
    constructor
    · rintro (z | ⟨F, hF, z1, z2⟩)
      · exact Or.inl z
      · exact Or.inr ⟨F, List.mem_filter.mpr ⟨hF, decide_eq_true (by omega)⟩, z2⟩
    · rintro (z | ⟨F, hF, z⟩)
      · exact Or.inl z
      · obtain ⟨y1, y2⟩ := List.mem_filter.mp hF
        have := of_decide_eq_true y2
        exact Or.inr ⟨F, y1, by omega, z⟩
  · have hc' : tn f = false := by simpa using hc
    have er : rowsT G R tn f = [fra (spl G R) f] := by unfold rowsT; rw [if_neg hc]
    rw [hc', if_neg (show ¬ ¬ (if false = true then (1 : Int) else 0) = 0 by decide), er]
    have hFO := fra_FO hO (f := f) h0 h1
    have h1l := hFO.2.1
    have hne : fra (spl G R) f ≠ [] := by intro z; rw [z] at h1l; simp at h1l
    obtain ⟨μ1, a1, a2, a3⟩ := asThere_M (N := N) hN (f := f) h0 h1 hk.1 hk.2.1
    have f1 : Fr ldI opS μ μ1 := a3.mono (by decide) (by simp [opS])
    have P1 := hk.ld f1
    obtain ⟨x, μ2, e1, e2, e3⟩ := lead_one (N := N) hN hG (f := f) (by omega) ho hFO.1 hne hFO.2.2.2.1 hFO.2.2.1 hP P1.1.2.1 P1.1.2.2.1 a2 (h99.ag (fun j => a3.2.2 99 j (by decide) (by simp))) (h100.ag (fun j => a3.2.2 100 j (by decide) (by simp)))
    obtain ⟨c1, μ3, c2, c3, c4, c5⟩ := e3 ((cmpl_nil hFO.2.2.2.1 hFO.2.2.1).mpr hFO.2.2.2.2.1)
    refine ⟨μ3, ?_, c3.cg (fun o2 _ s _ _ => ?_), f1.trI c4⟩
    · rw [a1, ob_e, e1, b2_e, if_neg c1, c2, ob_e]
    · simp
theorem leads_zero {N : Nat} {f : Int} : ∀ (k n : Nat) (i : Int) {μ : Mm}, i + k = 25440 → 0 ≤ i → k < n → KR μ → (∀ j, 0 ≤ j → j < i → m_gt μ 100 j = 0) → ∃ μ', jX8_leads_2 N n 50 f i μ = jX8_leads_24 N N 50 f 0 μ' ∧ (∀ j, 0 ≤ j → j < 25440 → m_gt μ' 100 j = 0) ∧ Fr [100] [] μ μ'
  | k, 0, i, μ, hi, h0, hn, _, _ => absurd hn (by omega)
  | 0, n + 1, i, μ, hi, h0, hn, hK, hZ => by
    refine ⟨μ, ?_, fun j j0 j1 => hZ j j0 (by omega), Fr.rf0 _ _ _⟩
    show jX8_leads_2b (jX8_leads_2 N n) N 50 f i μ = _
    unfold jX8_leads_2b
    rw [if_pos (by omega)]
  | k + 1, n + 1, i, μ, hi, h0, hn, hK, hZ => by
    obtain ⟨μ', r1, r2, r3⟩ := leads_zero (N := N) (f := f) k n (i + 1) (μ := m_st μ 100 i 0) (by omega) (by omega) (by omega) (hK.sa _ _ (by decide)) (fun j j0 j1 => by
      by_cases c : j = i
      · rw [c, gt_same]
      · rw [gt_i _ _ _ c]
        exact hZ j j0 (by omega))
    refine ⟨μ', ?_, r2, (Fr.stI (Fr.rf0 _ _ _) (by simp)).trI r3⟩
    rw [← r1]
    show jX8_leads_2b (jX8_leads_2 N n) N 50 f i μ = _
    unfold jX8_leads_2b
    rw [if_neg (by omega), r_50_80 hK, ast_e (k_100 hK) (by omega) (by omega), ob_e, bnd_e, i_add_e (by omega) (by omega)]
theorem leads_copy {N : Nat} : ∀ (k n : Nat) (i : Int) {μ : Mm}, i + k = 25440 → 0 ≤ i → k < n → KR μ → (∀ j, 0 ≤ j → j < 25440 → m_gt μ 100 j = 0 ∨ m_gt μ 100 j = 1) → (∀ j, 0 ≤ j → j < i → m_gt μ 99 j = m_gt μ 100 j) → ∃ μ', jX8_leads_127 N n 50 i μ = some μ' ∧ (∀ j, 0 ≤ j → j < 25440 → m_gt μ' 99 j = m_gt μ 100 j) ∧ Fr [99] [] μ μ'
  | k, 0, i, μ, hi, h0, hn, _, _, _ => absurd hn (by omega)
  | 0, n + 1, i, μ, hi, h0, hn, hK, hB, hZ => by
    refine ⟨μ, ?_, fun j j0 j1 => hZ j j0 (by omega), Fr.rf0 _ _ _⟩
    show jX8_leads_127b (jX8_leads_127 N n) N 50 i μ = _
    unfold jX8_leads_127b
    rw [if_pos (by omega)]
  | k + 1, n + 1, i, μ, hi, h0, hn, hK, hB, hZ => by
    obtain ⟨μ', r1, r2, r3⟩ := leads_copy (N := N) k n (i + 1) (μ := m_st μ 99 i (m_gt μ 100 i)) (by omega) (by omega) (by omega) (hK.sa _ _ (by decide)) (fun j j0 j1 => by rw [gt_r _ _ _ _ (by decide)]; exact hB j j0 j1) (fun j j0 j1 => by
      rw [gt_r (a := 100) _ _ _ _ (by decide)]
      by_cases c : j = i
      · rw [c, gt_same]
      · rw [gt_i _ _ _ c]
        exact hZ j j0 (by omega))
    refine ⟨μ', ?_, fun j j0 j1 => by rw [r2 j j0 j1, gt_r _ _ _ _ (by decide)], (Fr.stI (Fr.rf0 _ _ _) (by simp)).trI r3⟩
    rw [← r1]
    show jX8_leads_127b (jX8_leads_127 N n) N 50 i μ = _
    unfold jX8_leads_127b
    rw [if_neg (by omega), r_50_80 hK, ald_e (k_100 hK) (by omega) (by omega), ob_e, z_e (hB i (by omega) (by omega)), r_50_79 hK, ast_e (k_99 hK) (by omega) (by omega), ob_e, bnd_e, i_add_e (by omega) (by omega)]
theorem leads_loop {N : Nat} (hN : 1000000 ≤ N) {G : Gm} {R : List Int} {tn : Int → Bool} {f : Int} (h0 : 0 ≤ f) (h1 : f < (spl G R).1.length) {P : Ow → Int → Prop} (hP : ∀ o s, P o s → -400 ≤ s ∧ s ≤ 400) : ∀ (k n : Nat) (x : Int) {μ : Mm}, x + k = 24 → 0 ≤ x → k < n → KP G R tn μ → RB 99 P μ → RB 100 (fun o2 s => ∃ o, OwOK o ∧ enc o < x ∧ ∃ F ∈ rowsT G R tn f, led G f o P F o2 s) μ → ∃ μ', jX8_leads_24 N n 50 f x μ = jX8_leads_127 N N 50 0 μ' ∧ RB 100 (fun o2 s => ∃ o, OwOK o ∧ ∃ F ∈ rowsT G R tn f, led G f o P F o2 s) μ' ∧ Fr ldI opS μ μ'
  | k, 0, x, μ, hi, h0, hn, _, _, _ => absurd hn (by omega)
  | 0, n + 1, x, μ, hi, h0, hn, hk, h99, h100 => by
    refine ⟨μ, ?_, h100.cg (fun o2 _ s _ _ => ⟨fun ⟨o, q1, _, q3⟩ => ⟨o, q1, q3⟩, fun ⟨o, q1, q3⟩ => ⟨o, q1, by have := enc_ok q1; omega, q3⟩⟩), Fr.rf0 _ _ _⟩
    show jX8_leads_24b (jX8_leads_24 N n) N 50 f x μ = _
    unfold jX8_leads_24b
    rw [if_pos (by omega)]
  | k + 1, n + 1, x, μ, hi, hx0, hn, hk, h99, h100 => by
    show ∃ μ', jX8_leads_24b (jX8_leads_24 N n) N 50 f x μ = _ ∧ _
    unfold jX8_leads_24b
    rw [if_neg (by omega)]
    rcases isOwing_M (N := N) (x := x) (μ := μ) (by omega) with ⟨o, ho, eo, q⟩ | ⟨hno, q⟩
    · rw [q, b2_e, if_pos (by decide), eo]
      obtain ⟨μ1, a1, a2, a3⟩ := leads_row (N := N) hN h0 h1 ho hP (k24 := jX8_leads_24 N n) hk h99 h100
      obtain ⟨μ', r1, r2, r3⟩ := leads_loop hN (N := N) h0 h1 hP k n (x + 1) (μ := μ1) (by omega) (by omega) (by omega) (hk.ld a3) (h99.ag (fun j => a3.2.2 99 j (by decide) (by simp [opS, pfs]))) (a2.cg (fun o2 _ s _ _ => by
        constructor
        · rintro (⟨o3, z1, z2, z3⟩ | z)
          · exact ⟨o3, z1, by omega, z3⟩
          · exact ⟨o, ho, by omega, z⟩
        · rintro ⟨o3, z1, z2, z3⟩
          by_cases c : enc o3 < x
          · exact Or.inl ⟨o3, z1, c, z3⟩
          · rw [enc_inj ho z1 (by omega)] at z3
            exact Or.inr z3))
      refine ⟨μ', ?_, r2, a3.trI r3⟩
      rw [a1, ← r1]
      unfold jX8_leads_119
      rw [bnd_e, ← eo, i_add_e (by omega) (by omega)]
    · rw [q, b2_e, if_neg (by decide)]
      obtain ⟨μ', r1, r2, r3⟩ := leads_loop hN (N := N) h0 h1 hP k n (x + 1) (μ := μ) (by omega) (by omega) (by omega) hk h99 (h100.cg (fun o2 _ s _ _ => ⟨fun ⟨o3, z1, z2, z3⟩ => ⟨o3, z1, by omega, z3⟩, fun ⟨o3, z1, z2, z3⟩ => ⟨o3, z1, by
        by_cases c : enc o3 < x
        · exact c
        · exact absurd (show x = enc o3 by omega) (hno o3 z1), z3⟩⟩))
      refine ⟨μ', ?_, r2, r3⟩
      rw [← r1]
      unfold jX8_leads_119
      rw [bnd_e, i_add_e (by omega) (by omega)]
/-- what sheets that fit have brought ahead of frame f -/
def PL (G : Gm) (R : List Int) (tn : Int → Bool) (f : Nat) (o : Ow) (s : Int) : Prop := ∃ w ∈ Lf G (QB G R tn) f, w.1 = o ∧ w.2.1 = s
theorem KST {G : Gm} (hG : GOK G) {R : List Int} (hV : VR G R) {tn : Int → Bool} {m : Int} {f : Nat} (hf : (f : Int) < G.1 1) (hw : ((spl G R).1.length : Int) = G.1 1) {o : Ow} : KS G (QT G R tn m) f o = (rowsT G R tn f).map (fun F => ((fo G f o F).1, (fo G f o F).2, lm m 0 f F)) := by
  have hFO := fra_FO (hV.ok hG) (f := f) (by omega) (by omega)
  unfold KS
  rw [if_pos hf]
  show (frow (G.1 2).toNat (G.1 0) (if tn f then [] else fra (spl G R) f)).map _ = _
  unfold rowsT
  by_cases c : tn f = true
  · rw [if_pos c, if_pos c]
    rfl
  · rw [if_neg c, if_neg c, hFO.ful hG]
    rfl
theorem PL_s {G : Gm} (hG : GOK G) {R : List Int} (hV : VR G R) {tn : Int → Bool} {f : Nat} (hf : (f : Int) < G.1 1) (hw : ((spl G R).1.length : Int) = G.1 1) {o2 : Ow} {s : Int} : PL G R tn (f + 1) o2 s ↔ ∃ o, OwOK o ∧ ∃ F ∈ rowsT G R tn f, led G f o (PL G R tn f) F o2 s := by
  have hQ := QB_ok hG hV tn
  have h8 := hG.2.1
  unfold PL
  rw [Lf_s]
  constructor
  · rintro ⟨w', hw', rfl, rfl⟩
    obtain ⟨w, hwL, hm⟩ := List.mem_flatMap.mp hw'
    obtain ⟨k, hk, rfl⟩ := List.mem_map.mp hm
    rw [KST hG hV hf hw] at hk
    obtain ⟨F, hF, rfl⟩ := List.mem_map.mp hk
    have ok := Lf_ok hG hQ f (by omega) w hwL
    unfold wOK at ok
    have hsm := sm_ok ok.1
    refine ⟨w.1, ok.1, F, hF, rfl, ?_, ?_, w, hwL, rfl, ?_⟩
    · show -460 ≤ w.2.1 + (fo G f w.1 F).2 - (fo G f w.1 F).2
      omega
    · show w.2.1 + (fo G f w.1 F).2 - (fo G f w.1 F).2 < 600
      omega
    · show w.2.1 = w.2.1 + (fo G f w.1 F).2 - (fo G f w.1 F).2
      omega
  · rintro ⟨o, ho, F, hF, e1, e2, e3, w, hwL, rfl, e4⟩
    refine ⟨nxt (QB G R tn) f w ((fo G f w.1 F).1, (fo G f w.1 F).2, lm (-1) 0 f F), List.mem_flatMap.mpr ⟨w, hwL, List.mem_map.mpr ⟨_, ?_, rfl⟩⟩, e1.symm, ?_⟩
    · rw [KST hG hV hf hw]
      exact List.mem_map.mpr ⟨F, hF, rfl⟩
    · show w.2.1 + (fo G f w.1 F).2 = s
      omega
theorem PL_ok {G : Gm} (hG : GOK G) {R : List Int} (hV : VR G R) {tn : Int → Bool} {f : Nat} (hf : (f : Int) ≤ 7) (hf2 : (f : Int) ≤ G.1 1) : ∀ o s, PL G R tn f o s → -400 ≤ s ∧ s ≤ 400 := by
  rintro o s ⟨w, hw, rfl, rfl⟩
  have ok := Lf_ok hG (QB_ok hG hV tn) f hf2 w hw
  unfold wOK at ok
  have hsm := sm_ok ok.1
  omega
def ld2 : List Int := [88, 97, 100, 99]
theorem leads_M {N : Nat} (hN : 1000000 ≤ N) {G : Gm} {R : List Int} {tn : Int → Bool} {f : Nat} (hf : (f : Int) + 1 < G.1 1) (hw : ((spl G R).1.length : Int) = G.1 1) {μ : Mm} (hk : KP G R tn μ) (h99 : RB 99 (PL G R tn f) μ) : ∃ μ', jX8_leads N 50 f μ = some μ' ∧ RB 99 (PL G R tn (f + 1)) μ' ∧ Fr ld2 opS μ μ' := by
  have hG := hk.1.1.1
  have hV := hk.1.1.2
  have h8 := hG.2.1
  obtain ⟨μ1, a1, a2, f1⟩ := leads_zero (N := N) (f := f) 25440 N 0 (μ := μ) (by omega) (by omega) (by omega) hk.1.2.1 (fun j j0 j1 => by omega)
  have F1 : Fr ldI opS μ μ1 := f1.mono (by decide) (by simp)
  have k1 := hk.ld F1
  obtain ⟨μ2, b1, b2, f2⟩ := leads_loop (N := N) hN (tn := tn) (f := f) (by omega) (by omega) (PL_ok hG hV (tn := tn) (f := f) (by omega) (by omega)) 24 N 0 (μ := μ1) (by omega) (by omega) (by omega) k1 (h99.ag (fun j => f1.2.2 99 j (by decide) (by simp))) ⟨fun j j0 j1 => Or.inl (a2 j j0 j1), fun o ho s s0 s1 => by
    have := enc_ok ho
    rw [a2 _ (by unfold cel; omega) (by unfold cel; omega)]
    refine ⟨fun z => by omega, fun ⟨o3, z1, z2, _⟩ => ?_⟩
    have := enc_ok z1
    omega⟩
  have k2 := k1.ld f2
  obtain ⟨μ3, c1, c2, f3⟩ := leads_copy (N := N) 25440 N 0 (μ := μ2) (by omega) (by omega) (by omega) k2.1.2.1 b2.1 (fun j j0 j1 => by omega)
  refine ⟨μ3, by unfold jX8_leads; rw [a1, b1, c1], ⟨fun j j0 j1 => by rw [c2 j j0 j1]; exact b2.1 j j0 j1, fun o ho s s0 s1 => ?_⟩, (F1.mono (by decide) (fun q hq => Or.inl hq)).trI ((f2.mono (by decide) (fun q hq => Or.inl hq)).trI (f3.mono (by decide) (by simp)))⟩
  have := enc_ok ho
  rw [c2 _ (by unfold cel; omega) (by unfold cel; omega), b2.2 o ho s s0 s1]
  exact (PL_s hG hV (by omega) hw).symm
