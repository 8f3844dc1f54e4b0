/-! ===== PURE: one row of a table, filled ===== -/
theorem Bk_ok {G : Gm} (hG : GOK G) {Q : Qu} (hQ : QOK G Q) : ∀ (n f : Nat) (o : Ow), (f : Int) + n = G.1 1 → OwOK o → ∀ b ∈ Bk G Q n f o, -(50 * n) ≤ b ∧ b ≤ 56 * n + 9 * sm o
  | 0, f, o, hf, ho, b, hb => by
    obtain ⟨k, hk, rfl⟩ := List.mem_map.mp hb
    have := (KS_ok hG hQ (by omega) ho hk).2.2.2.2.2 (by omega)
    omega
  | n + 1, f, o, hf, ho, b, hb => by
    unfold Bk at hb
    obtain ⟨k, hk, hm⟩ := List.mem_flatMap.mp hb
    obtain ⟨b', hb', rfl⟩ := List.mem_map.mp hm
    obtain ⟨c1, c2, c3, c4, c5, c6⟩ := KS_ok hG hQ (by omega) ho hk
    have h1 := c5 (by omega)
    have h2 := Bk_ok hG hQ n (f + 1) k.1 (by omega) c1 b' hb'
    omega
theorem cell_M {N : Nat} {f s : Int} {o : Ow} (ho : OwOK o) (hf : 0 ≤ f ∧ f ≤ 8) (hs : -460 ≤ s ∧ s < 600) {μ : Mm} : jX8_cell N f (enc o) s μ = some (cel f o s, μ) := by
  have := enc_ok ho
  unfold jX8_cell cel
  simp (disch := omega) only [i_add_e, i_mul_e]
theorem lays_M {N : Nat} (hN : 1000000 ≤ N) {t f : Int} {o o' : Ow} {g : Int} (ht : t = 95 ∨ t = 96) (ho : OwOK o) (ho' : OwOK o') (hf : 0 ≤ f ∧ f ≤ 7) (hg : -60 ≤ g ∧ g ≤ 60) {A B : List Int} (hB : ∀ b ∈ B, -460 ≤ b ∧ b < 600 ∧ -460 ≤ b + g ∧ b + g < 600) {μ : Mm} (hK : KR μ) (h75 : m_gt μ 50 75 = g) (h76 : m_gt μ 50 76 = enc o') (hT : TR t (f + 1) o' B μ) (hA : TR t f o A μ) : ∃ μ', jX8_lays N 50 t f (enc o) μ = some μ' ∧ TR t f o (A ++ B.map (fun b => g + b)) μ' ∧ (∀ j, (∀ s, -460 ≤ s → s < 600 → j ≠ cel f o s) → m_gt μ' t j = m_gt μ t j) ∧ Fr [t] [] μ μ' := by
  obtain ⟨μ', r1, r2, r3, r4⟩ := lays_loop (N := N) (n0 := 0) ht ho ho' hf hg hB (A := A) 1060 N 0 (μ := μ) (by omega) (by omega) hK h75 hT (fun s s0 s1 => by
    rw [hA s s0 s1]
    have : (if s - g < ((0 : Nat) : Int) - 460 then cB B (s - g) else 0) = 0 := by
      split
      · unfold cB
        rw [List.countP_eq_zero]
        intro b hb z
        have := hB b hb
        have := of_decide_eq_true z
        omega
      · rfl
    rw [this, Nat.add_zero])
  refine ⟨μ', ?_, r2, r3, r4⟩
  unfold jX8_lays
  rw [i_add_e (by omega) (by omega), h76, cell_M ho' (by omega) (by decide), b2_e, cell_M ho (by omega) (by decide), b2_e]
  exact r1
/-- the row (f, o) of table t alone may change, beside what ends and rows touch -/
def opS : List (Int × Int) := pfs ++ [(50, 74), (50, 75), (50, 76)]
def oRow (t f : Int) (o : Ow) (μ μ' : Mm) : Prop := Fr [88, 97, t] opS μ μ' ∧ ∀ j, (∀ s, -460 ≤ s → s < 600 → j ≠ cel f o s) → m_gt μ' t j = m_gt μ t j
theorem oRow.rf (t f : Int) (o : Ow) (μ : Mm) : oRow t f o μ μ := ⟨Fr.rf0 _ _ _, fun _ _ => rfl⟩
theorem oRow.tr {t f : Int} {o : Ow} {a b c : Mm} (h : oRow t f o a b) (g : oRow t f o b c) : oRow t f o a c := ⟨h.1.trI g.1, fun j hj => by rw [g.2 j hj, h.2 j hj]⟩
theorem oRow.KR {t f : Int} (ht : t = 95 ∨ t = 96) {o : Ow} {a b : Mm} (h : oRow t f o a b) (hK : KR a) : KR b := by rcases ht with rfl | rfl <;> exact h.1.KR hK (by decide)
theorem oRow.GM {t f : Int} (ht : t = 95 ∨ t = 96) {o : Ow} {G : Gm} {a b : Mm} (h : oRow t f o a b) (hM : GM G a) : GM G b := by rcases ht with rfl | rfl <;> exact hM.ag (h.1.ag (by decide))
theorem oRow.TR {t f f' : Int} {o o' : Ow} (ho : OwOK o) (ho' : OwOK o') {a b : Mm} (h : oRow t f o a b) (hne : f ≠ f' ∨ enc o ≠ enc o') {L : List Int} (hT : TR t f' o' L a) : TR t f' o' L b := fun s s0 s1 => by
  rw [h.2 _ (fun s' s0' s1' => (cel_ne ho ho' ⟨s0', s1'⟩ ⟨s0, s1⟩ hne).symm)]
  exact hT s s0 s1
/-- one whole row F is laid: what it brings, and all that may come behind -/
theorem one_M {N : Nat} (hN : 1000000 ≤ N) {G : Gm} (hG : GOK G) {t : Int} (ht : t = 95 ∨ t = 96) {f : Int} (hf : 0 ≤ f ∧ f < G.1 1) {o : Ow} (ho : OwOK o) {F : List Int} (hF : rok F) (hl : F.length ≤ 3) (hne : F ≠ []) (hd : dn F ≤ G.1 0) (hl2 : (F.length : Int) ≤ G.1 2) {A : List Int} {B : Ow → List Int} (hB : ∀ o', OwOK o' → ∀ b ∈ B o', -400 ≤ b ∧ b + 56 ≤ 56 * 8 + 9 * sm o') {μ : Mm} (hK : KR μ) (hM : GM G μ) (hR : ROW F μ) (hT : ∀ o', OwOK o' → TR t (f + 1) o' (B o') μ) (hA : TR t f o A μ) : ∃ x μ1, jX8_ends N 50 f (enc o) 0 0 0 μ = some (x, μ1) ∧ (¬ cmpl G [] F → x = 0 ∧ μ1 = μ) ∧ (cmpl G [] F → ¬ x = 0 ∧ ∃ μ', jX8_lays N 50 t f (enc o) μ1 = some μ' ∧ TR t f o (A ++ (B (fo G f o F).1).map (fun b => (fo G f o F).2 + b)) μ' ∧ oRow t f o μ μ' ∧ ROW F μ') := by
  have h8 := hG.2.1
  obtain ⟨x, μ1, e1, e2, e3, e4⟩ := ends_M (N := N) hN hG (f := f) (by omega) ho (c := []) (r := F) (fun y hy => absurd hy (by simp)) hF (by simpa using hl) hne (by simp [dn, lsum] at hd ⊢; exact hd) hK hM hR
  refine ⟨x, μ1, e1, e3, fun hc => ?_⟩
  obtain ⟨q1, q2, q3⟩ := e2 hc
  have hFG : FG G F := by
    refine ⟨hF, by cases F with | nil => exact absurd rfl hne | cons _ _ => simp, hl2, hd, ?_⟩
    unfold cmpl at hc
    simp [dn, lsum] at hc
    have : dn F = lsum (F.map tk) := rfl
    omega
  have hfo := fo_ok hG (f := f) ho hFG
  have eb : brg G f o [] F = (fo G f o F).2 := by
    unfold brg fo
    rw [List.nil_append, Int.mul_comm]
    omega
  have el : lvg G o [] F = (fo G f o F).1 := rfl
  rw [eb] at q2
  rw [el] at q3
  have tne : (t : Int) ≠ 50 := by omega
  have K1 : KR μ1 := e4.KR hK (by decide)
  have g1 : ∀ j, m_gt μ1 t j = m_gt μ t j := fun j => e4.2.2 t j (by simp; omega) (by simp [pfs]; omega)
  have T1 : TR t (f + 1) (fo G f o F).1 (B (fo G f o F).1) μ1 := fun s s0 s1 => by rw [g1]; exact hT _ hfo.1 s s0 s1
  have A1 : TR t f o A μ1 := fun s s0 s1 => by rw [g1]; exact hA s s0 s1
  have hsm := sm_ok hfo.1
  have hsm0 := sm_ok ho
  obtain ⟨μ2, r1, r2, r3, r4⟩ := lays_M (N := N) hN ht ho hfo.1 (by omega) (g := (fo G f o F).2) (by omega) (B := B (fo G f o F).1) (fun b hb => by
    have := hB _ hfo.1 b hb
    omega) K1 q2 q3 T1 A1
  refine ⟨by omega, μ2, r1, r2, ⟨?_, fun j hj => by rw [r3 j hj, g1]⟩, ?_⟩
  · exact (e4.mono (by simp) (fun q hq => Or.inl (by
      unfold opS
      rcases List.mem_append.mp hq with z | z
      · exact List.mem_append.mpr (Or.inl z)
      · refine List.mem_append.mpr (Or.inr ?_)
        simp at z ⊢
        rcases z with z | z <;> simp [z]))).trI (r4.mono (by simp) (by simp))
  · refine ⟨?_, ?_⟩
    · rw [r4.2.2 50 74 (by simp; omega) (by simp), e4.2.2 50 74 (by decide) (by decide)]; exact hR.1
    · exact hR.2.ext (fun i => by rw [r4.2.2 97 i (by simp; omega) (by simp), e4.2.2 97 i (by decide) (by simp [pfs])])
def aft (G : Gm) (f : Int) (o : Ow) (B : Ow → List Int) (V : List (List Int)) : List Int := (V.filter (fun F => decide (lsum F = G.1 0 ∨ (F.length : Int) = G.1 2))).flatMap (fun F => (B (fo G f o F).1).map (fun b => (fo G f o F).2 + b))
theorem aft_snoc {G : Gm} {f : Int} {o : Ow} {B : Ow → List Int} {V : List (List Int)} {r : List Int} : aft G f o B (V ++ [r]) = aft G f o B V ++ (if lsum r = G.1 0 ∨ (r.length : Int) = G.1 2 then (B (fo G f o r).1).map (fun b => (fo G f o r).2 + b) else []) := by
  unfold aft
  rw [List.filter_append, List.flatMap_append]
  congr 1
  by_cases c : lsum r = G.1 0 ∨ (r.length : Int) = G.1 2
  · rw [if_pos c, List.filter_cons_of_pos (by exact decide_eq_true c)]
    simp
  · rw [if_neg c, List.filter_cons_of_neg (by simpa using c)]
    simp
theorem opensFrame_M {N : Nat} (hN : 1000000 ≤ N) {G : Gm} (hG : GOK G) {t : Int} (ht : t = 95 ∨ t = 96) {f : Int} (hf : 0 ≤ f ∧ f < G.1 1) {o : Ow} (ho : OwOK o) {B : Ow → List Int} (hB : ∀ o', OwOK o' → ∀ b ∈ B o', -400 ≤ b ∧ b + 56 ≤ 56 * 8 + 9 * sm o') {μ : Mm} (hK : KR μ) (hM : GM G μ) (hT : ∀ o', OwOK o' → TR t (f + 1) o' (B o') μ) (hA : TR t f o [] μ) : ∃ μ', jX8_opensFrame N 50 t f (enc o) μ = some μ' ∧ TR t f o ((frow (G.1 2).toNat (G.1 0) []).flatMap (fun F => (B (fo G f o F).1).map (fun b => (fo G f o F).2 + b))) μ' ∧ oRow t f o μ μ' := by
  have hp := hG.1
  have hrl := hG.2.2.1
  let Inv : List (List Int) → Mm → Prop := fun V μ1 => oRow t f o μ μ1 ∧ TR t f o (aft G f o B V) μ1
  have hI : ∀ V μ1, Inv V μ1 → KR μ1 ∧ GM G μ1 ∧ ∀ o', OwOK o' → TR t (f + 1) o' (B o') μ1 := fun V μ1 h => ⟨h.1.KR ht hK, h.1.GM ht hM, fun o' ho' => h.1.TR ho ho' (Or.inl (by omega)) (hT o' ho')⟩
  have H : RLp N (G.1 0) (G.1 2).toNat (fun n μ => jX8_opensFrame_5 N n 50 t f (enc o) μ) (fun μ => some μ) (fun K μ1 => b2 (jX8_ends N 50 f (enc o) 0 0 0 μ1) fun x4 μ2 => if x4 = 0 then K μ2 else ((jX8_lays N 50 t f (enc o) μ2).bind fun μ3 => K μ3)) Inv := by
    refine ⟨fun n V μ1 h => ?_, fun V μ1 h => (hI V μ1 h).1, fun V μ1 μ2 h g => ?_, fun K V r μ1 hne hrv h hR => ?_⟩
    · obtain ⟨K1, M1, _⟩ := hI V μ1 h
      show jX8_opensFrame_5b (jX8_opensFrame_5 N n) N 50 t f (enc o) μ1 = _
      unfold jX8_opensFrame_5b
      rw [r_50_31 K1, ald_e (k_74 K1) (by decide) (by decide), ob_e, M1.1.1, r_50_33 K1, ald_e (k_76 K1) (by decide) (by decide), ob_e, M1.1.2.2.1, show (((G.1 2).toNat : Nat) : Int) = G.1 2 by omega]
    · have gt : ∀ j, m_gt μ2 t j = m_gt μ1 t j := fun j => g.2.2 t j (by simp; omega) (by simp; omega)
      refine ⟨h.1.tr ⟨g.mono (by simp) (by simp [opS]), fun j _ => gt j⟩, fun s s0 s1 => by rw [gt]; exact h.2 s s0 s1⟩
    · obtain ⟨K1, M1, T1⟩ := hI V μ1 h
      obtain ⟨d1, d2, d3⟩ := dn_lsum hrv.1
      obtain ⟨x, μ2, e1, e2, e3⟩ := one_M (N := N) hN hG ht hf ho d3 (by have := hrv.2.2; omega) hne (by rw [d1]; exact hrv.2.1) (by have := hrv.2.2; omega) hB K1 M1 hR T1 h.2
      have hcm : cmpl G [] r ↔ (lsum r = G.1 0 ∨ (r.length : Int) = G.1 2) := by
        unfold cmpl
        have h1 := hrv.2.1
        have h2 := hrv.2.2
        have e0 : dn [] = 0 := by simp [dn, lsum]
        rw [d1, e0]
        simp
        omega
      dsimp only
      rw [e1, b2_e]
      by_cases c : cmpl G [] r
      · obtain ⟨c1, μ3, c2, c3, c4, c5⟩ := e3 c
        rw [if_neg c1, c2, ob_e]
        refine ⟨μ3, rfl, ⟨h.1.tr c4, ?_⟩, c5⟩
        rw [aft_snoc, if_pos (hcm.mp c)]
        exact c3
      · obtain ⟨c1, c2⟩ := e2 c
        rw [if_pos c1, c2]
        refine ⟨μ1, rfl, ⟨h.1, ?_⟩, hR⟩
        rw [aft_snoc, if_neg (fun z => c (hcm.mpr z)), List.append_nil]
        exact h.2
  have f0 : oRow t f o μ (m_st μ 50 74 0) := ⟨Fr.stI (Fr.rf0 _ _ _) (by simp [opS]), fun j _ => gt_r _ _ _ _ (by omega)⟩
  have I0 : Inv [] (m_st μ 50 74 0) := ⟨f0, fun s s0 s1 => by rw [gt_r _ _ _ _ (by omega)]; exact hA s s0 s1⟩
  obtain ⟨μ', r1, r2⟩ := rows_M hN (by omega) hp.2 (by omega) H I0 ⟨gt_same _ _ _ _, Row.nil _ _ _⟩
  refine ⟨μ', ?_, ?_, r2.1⟩
  · unfold jX8_opensFrame
    rw [bnd_e]
    exact r1
  · have e : aft G f o B (dsc (G.1 2).toNat (G.1 0)) = (frow (G.1 2).toNat (G.1 0) []).flatMap (fun F => (B (fo G f o F).1).map (fun b => (fo G f o F).2 + b)) := by
      unfold aft
      rw [frow_dsc _ _ (by omega) hp.1]
      congr 1
      apply List.filter_congr
      intro F _
      congr 1
      apply propext
      omega
    rw [← e]
    exact r2.2
