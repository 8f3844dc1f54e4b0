/-! ===== PURE: must of the reference, whole ===== -/
def SB (D : Int → Prop) (v : Int) : Prop := ps10 v ∧ ∀ x : Nat, x < 10 → (tb v x = true ↔ D x)
theorem SB.cg {D E : Int → Prop} {v : Int} (h : SB D v) (g : ∀ x : Nat, x < 10 → (D x ↔ E x)) : SB E v := ⟨h.1, fun x hx => (h.2 x hx).trans (g x hx)⟩
theorem SB.or {D : Int → Prop} {v y : Int} (h : SB D v) (h0 : 0 ≤ y) (h9 : y ≤ 9) : SB (fun x => D x ∨ y = x) (i_or v (i_shl 1 y)) := by
  obtain ⟨k, rfl⟩ : ∃ k : Nat, y = k := ⟨y.toNat, by omega⟩
  have one := tb_one10 (k := k) (by omega)
  have := tb_or10 h.1 one.1
  refine ⟨this.1, fun x hx => ?_⟩
  rw [this.2, one.2, Bool.or_eq_true, h.2 x hx, decide_eq_true_eq]
  constructor
  · rintro (z | z)
    · exact Or.inl z
    · exact Or.inr (by omega)
  · rintro (z | z)
    · exact Or.inl z
    · exact Or.inr (by omega)
def muI : List Int := [88, 97]
theorem KP.mu {G : Gm} {R : List Int} {tn : Int → Bool} {μ μ' : Mm} (h : KP G R tn μ) (f : Fr muI opS μ μ') : KP G R tn μ' := ⟨⟨h.1.1, f.KR h.1.2.1 (by decide), h.1.2.2.1.ag (f.ag (by decide)), h.1.2.2.2.ag (f.ag (by decide))⟩, h.2.1.ag (f.ag (by decide)), h.2.2.ag (f.2.2 50 78 (by decide) (by decide))⟩
theorem must_one {N : Nat} (hN : 1000000 ≤ N) {G : Gm} {f : Int} (hG : GOK G) (hf : 0 ≤ f ∧ f ≤ 7) {o : Ow} (ho : OwOK o) {F : List Int} (hF : rok F) (hne : F ≠ []) (hd : dn F ≤ G.1 0) (hl : (F.length : Int) ≤ G.1 2) {n : Int} {a : Bool} (hn : a = false → -920 ≤ n ∧ n ≤ 2120) {P : Ow → Int → Prop} {B : Ow → List Int} (hP : ∀ o s, P o s → -400 ≤ s ∧ s ≤ 400) (hB : ∀ o', OwOK o' → ∀ b ∈ B o', -460 ≤ b ∧ b < 600) {μ : Mm} (hK : KR μ) (hM : GM G μ) (hR : ROW F μ) (h99 : RB 99 P μ) (hT : ∀ o', OwOK o' → TR 96 (f + 1) o' (B o') μ) : ∃ x μ1, jX8_ends N 50 f (enc o) 0 0 0 μ = some (x, μ1) ∧ (¬ cmpl G [] F → x = 0 ∧ μ1 = μ) ∧ (cmpl G [] F → ¬ x = 0 ∧ ∃ y, jX8_isThrough N 50 f (enc o) n (if a then 1 else 0) μ1 = some (y, μ1) ∧ (y = 0 ∨ y = 1) ∧ (y = 1 ↔ thr (P o) (B (fo G f o F).1) (fo G f o F).2 n a) ∧ Fr muI opS μ μ1 ∧ ROW F μ1) := by
  have h3 := hG.2.2.1
  obtain ⟨x, μ1, e1, e2, e3, e4⟩ := ends_M (N := N) hN hG (f := f) (by omega) ho (c := []) (r := F) (fun y hy => absurd hy (by simp)) hF (by simp; omega) hne (by simp [dn, lsum] at hd ⊢; exact hd) hK hM hR
  refine ⟨x, μ1, e1, e3, fun hc => ?_⟩
  obtain ⟨q1, q2, q3⟩ := e2 hc
  rw [brg_nil] at q2
  rw [lvg_nil G f] at q3
  have hFG : FG G F := ⟨hF, by cases F with | nil => exact absurd rfl hne | cons _ _ => simp, hl, hd, (cmpl_nil hd hl).mp hc⟩
  have hfo := fo_ok hG (f := f) ho hFG
  have K1 : KR μ1 := e4.KR hK (by decide)
  obtain ⟨y, r1, r2, r3⟩ := isThrough_M (N := N) hN ho hfo.1 hf (g := (fo G f o F).2) (n := n) (by omega) hn hP (hB _ hfo.1) K1 q2 q3 (h99.ag (fun j => e4.2.2 99 j (by decide) (by simp [pfs]))) (fun s s0 s1 => by rw [e4.2.2 96 _ (by decide) (by simp [pfs])]; exact hT _ hfo.1 s s0 s1)
  refine ⟨by omega, y, r1, r2, r3, ?_, ?_, ?_⟩
  · exact e4.mono (by simp [muI]) (fun q hq => Or.inl (by
      unfold opS
      rcases List.mem_append.mp hq with z | z
      · exact List.mem_append.mpr (Or.inl z)
      · refine List.mem_append.mpr (Or.inr ?_)
        simp at z ⊢
        rcases z with z | z <;> simp [z]))
  · rw [e4.2.2 50 74 (by decide) (by decide)]; exact hR.1
  · exact hR.2.ext (fun i => by rw [e4.2.2 97 i (by decide) (by simp [pfs])])
/-- what one row adds to the set -/
def mst (G : Gm) (f : Int) (o : Ow) (P : Ow → Int → Prop) (B : Ow → List Int) (n : Int) (a : Bool) (F : List Int) (x : Int) : Prop := thr (P o) (B (fo G f o F).1) (fo G f o F).2 n a ∧ tk (F.getD 0 0) = x
theorem hd_ok {F : List Int} (hF : rok F) (hne : F ≠ []) : 0 ≤ tk (F.getD 0 0) ∧ tk (F.getD 0 0) ≤ 9 := by
  cases F with
  | nil => exact absurd rfl hne
  | cons x l => exact tk_ok (hF x (by simp))
theorem must_row {N : Nat} (hN : 1000000 ≤ N) {G : Gm} {R : List Int} {tn : Int → Bool} {f : Int} (h0 : 0 ≤ f) (h1 : f < (spl G R).1.length) {o : Ow} (ho : OwOK o) {n : Int} {a : Bool} (hn : a = false → -920 ≤ n ∧ n ≤ 2120) {P : Ow → Int → Prop} {B : Ow → List Int} (hP : ∀ o s, P o s → -400 ≤ s ∧ s ≤ 400) (hB : ∀ o', OwOK o' → ∀ b ∈ B o', -460 ≤ b ∧ b < 600) {D : Int → Prop} {v : Int} (hv : SB D v) {k119 : Int → Int → Int → Int → Int → Int → Mm → Option (Int × Mm)} {μ : Mm} (hk : KP G R tn μ) (h99 : RB 99 P μ) (hT : ∀ o', OwOK o' → TR 96 (f + 1) o' (B o') μ) : ∃ v' μ', (b2 (jX8_isTorn N 50 f μ) fun x2 μ2 =>
if ¬ x2 = 0 then (bnd (m_st μ2 50 74 0) fun μ3 =>
jX8_must_199 k119 N N 50 f n (if a then 1 else 0) v (enc o) μ3) else ((jX8_asThere N 50 f μ2).bind fun μ4 =>
b2 (jX8_ends N 50 f (enc o) 0 0 0 μ4) fun x3 μ5 =>
if x3 = 0 then (jX8_must_273 k119 N 50 f n (if a then 1 else 0) v (enc o) μ5) else (b2 (jX8_isThrough N 50 f (enc o) n (if a then 1 else 0) μ5) fun x4 μ6 =>
if x4 = 0 then (jX8_must_273 k119 N 50 f n (if a then 1 else 0) v (enc o) μ6) else ((m_ald 100 μ6 (m_gt μ6 50 73) 0).bind fun x5 =>
b2 (jX8_taken N x5 μ6) fun x6 μ7 =>
bnd (i_or v (i_shl 1 x6)) fun x7 =>
jX8_must_273 k119 N 50 f n (if a then 1 else 0) x7 (enc o) μ7)))) = jX8_must_273 k119 N 50 f n (if a then 1 else 0) v' (enc o) μ' ∧ SB (fun x => D x ∨ ∃ F ∈ rowsT G R tn f, mst G f o P B n a F x) v' ∧ Fr muI opS μ μ' := by
  have hG := hk.1.1.1
  have hV := hk.1.1.2
  have hO := hV.ok hG
  have hl8 := hO.2.1
  have h8 := hG.2.1
  have hp := hG.1
  have hrl := hG.2.2.1
  rw [isTorn_M hk.2.2 h0 (by omega), b2_e]
  by_cases hc : tn f = true
  · have er : rowsT G R tn f = frow (G.1 2).toNat (G.1 0) [] := by unfold rowsT; rw [if_pos hc]
    rw [hc, if_pos (show ¬ (if true = true then (1 : Int) else 0) = 0 by decide), bnd_e, er]
    let Inv : List (List Int) → Int → Mm → Prop := fun V w μ1 => Fr muI opS μ μ1 ∧ SB (fun x => D x ∨ ∃ F ∈ V, (lsum F = G.1 0 ∨ (F.length : Int) = G.1 2) ∧ mst G f o P B n a F x) w
    have hI : ∀ V w μ1, Inv V w μ1 → KR μ1 ∧ GM G μ1 ∧ RB 99 P μ1 ∧ ∀ o', OwOK o' → TR 96 (f + 1) o' (B o') μ1 := fun V w μ1 h => ⟨h.1.KR hk.1.2.1 (by decide), hk.1.2.2.1.ag (h.1.ag (by decide)), h99.ag (fun j => h.1.2.2 99 j (by decide) (by simp [opS, pfs])), fun o' ho' s s0 s1 => by rw [h.1.2.2 96 _ (by decide) (by simp [opS, pfs])]; exact hT o' ho' s s0 s1⟩
    have H : RLs N (G.1 0) (G.1 2).toNat (fun m w μ => jX8_must_199 k119 N m 50 f n (if a then 1 else 0) w (enc o) μ) (fun w μ => jX8_must_273 k119 N 50 f n (if a then 1 else 0) w (enc o) μ) (fun K w μ1 => (m_ald 100 μ1 (m_gt μ1 50 73) 0).bind fun x4 =>
if ¬ (i_and (i_shr w x4) 1) = 0 then (K w μ1) else (b2 (jX8_ends N 50 f (enc o) 0 0 0 μ1) fun x5 μ2 =>
if x5 = 0 then (K w μ2) else (b2 (jX8_isThrough N 50 f (enc o) n (if a then 1 else 0) μ2) fun x6 μ3 =>
if x6 = 0 then (K w μ3) else ((m_ald 100 μ3 (m_gt μ3 50 73) 0).bind fun x7 =>
bnd (i_or w (i_shl 1 x7)) fun x8 =>
K x8 μ3)))) Inv := by
      refine ⟨fun m V w μ1 h => ?_, fun V w μ1 h => (hI V w μ1 h).1, fun V w μ1 μ2 h g => ?_, fun K V r w μ1 hne hrv h hR => ?_⟩
      · obtain ⟨K1, M1, _⟩ := hI V w μ1 h
        show jX8_must_199b k119 (jX8_must_199 k119 N m) N 50 f n (if a then 1 else 0) w (enc o) μ1 = _
        unfold jX8_must_199b
        rw [r_50_31 K1, ald_e (k_74 K1) (by decide) (by decide), ob_e, M1.1.1, r_50_33 K1, ald_e (k_76 K1) (by decide) (by decide), ob_e, M1.1.2.2.1, show (((G.1 2).toNat : Nat) : Int) = G.1 2 by omega]
      · exact ⟨h.1.trI (g.mono (by simp [muI]) (by simp [opS])), h.2⟩
      · obtain ⟨K1, M1, R1, T1⟩ := hI V w μ1 h
        obtain ⟨d1, d2, d3⟩ := dn_lsum hrv.1
        have v2 := hrv.2.1
        have v3 := hrv.2.2
        have hr1 : 1 ≤ r.length := by cases r with | nil => exact absurd rfl hne | cons _ _ => simp
        have e97 : m_gt μ1 97 0 = r.getD 0 0 := hR.2 0 (by omega)
        have hx : 0 ≤ r.getD 0 0 ∧ r.getD 0 0 ≤ 9 := by
          cases r with
          | nil => exact absurd rfl hne
          | cons x l => exact hrv.1 x (by simp)
        have etk : tk (r.getD 0 0) = r.getD 0 0 := tk_nn hx.1
        obtain ⟨kx, ekx⟩ : ∃ kx : Nat, r.getD 0 0 = kx := ⟨(r.getD 0 0).toNat, by omega⟩
        have hcm : cmpl G [] r ↔ (lsum r = G.1 0 ∨ (r.length : Int) = G.1 2) := by
          rw [cmpl_nil (by omega) (by omega), d1]
        have same : (mst G f o P B n a r (r.getD 0 0) → (lsum r = G.1 0 ∨ (r.length : Int) = G.1 2) → D (r.getD 0 0) ∨ ∃ F ∈ V, (lsum F = G.1 0 ∨ (F.length : Int) = G.1 2) ∧ mst G f o P B n a F (r.getD 0 0)) → SB (fun x => D x ∨ ∃ F ∈ V ++ [r], (lsum F = G.1 0 ∨ (F.length : Int) = G.1 2) ∧ mst G f o P B n a F x) w := by
          intro hs
          refine h.2.cg (fun x hx10 => ?_)
          constructor
          · rintro (z | ⟨F, hF, z⟩)
            · exact Or.inl z
            · exact Or.inr ⟨F, List.mem_append.mpr (Or.inl hF), z⟩
          · rintro (z | ⟨F, hF, z⟩)
            · exact Or.inl z
            · rcases List.mem_append.mp hF with y | y
              · exact Or.inr ⟨F, y, z⟩
              · rw [List.mem_singleton.mp y] at z
                have ex : r.getD 0 0 = (x : Int) := by rw [← etk]; exact z.2.2
                rw [ex] at hs
                exact hs z.2 z.1
        dsimp only
        rw [r_50_73 K1, ald_e (k_97 K1) (by decide) (by decide), ob_e, e97]
        by_cases cb : i_and (i_shr w (r.getD 0 0)) 1 = 0
        · rw [if_neg (not_not_intro cb)]
          obtain ⟨x, μ2, e1, e2, e3⟩ := must_one (N := N) hN hG (f := f) (by omega) ho d3 hne (by omega) (by omega) (n := n) hn hP hB K1 M1 hR R1 T1
          rw [e1, b2_e]
          by_cases c : cmpl G [] r
          · obtain ⟨c1, y, c2, c3, c4, c5, c6⟩ := e3 c
            have K2 : KR μ2 := c5.KR K1 (by decide)
            rw [if_neg c1, c2, b2_e]
            by_cases cy : y = 0
            · rw [if_pos cy]
              refine ⟨w, μ2, rfl, ⟨h.1.trI c5, same (fun z _ => ?_)⟩, c6⟩
              have := c4.mpr z.1
              omega
            · rw [if_neg cy, r_50_73 K2, ald_e (k_97 K2) (by decide) (by decide), ob_e, show m_gt μ2 97 0 = r.getD 0 0 from c6.2 0 (by omega), bnd_e]
              refine ⟨i_or w (i_shl 1 (r.getD 0 0)), μ2, rfl, ⟨h.1.trI c5, (h.2.or hx.1 hx.2).cg (fun x hx10 => ?_)⟩, c6⟩
              constructor
              · rintro ((z | ⟨F, hF, z⟩) | z)
                · exact Or.inl z
                · exact Or.inr ⟨F, List.mem_append.mpr (Or.inl hF), z⟩
                · exact Or.inr ⟨r, List.mem_append.mpr (Or.inr (by simp)), hcm.mp c, c4.mp (by omega), by rw [etk]; exact z⟩
              · rintro (z | ⟨F, hF, z⟩)
                · exact Or.inl (Or.inl z)
                · rcases List.mem_append.mp hF with q | q
                  · exact Or.inl (Or.inr ⟨F, q, z⟩)
                  · rw [List.mem_singleton.mp q] at z
                    exact Or.inr (by rw [← etk]; exact z.2.2)
          · obtain ⟨c1, c2⟩ := e2 c
            rw [if_pos c1, c2]
            exact ⟨w, μ1, rfl, ⟨h.1, same (fun _ z => absurd (hcm.mpr z) c)⟩, hR⟩
        · rw [if_pos cb]
          refine ⟨w, μ1, rfl, ⟨h.1, same (fun _ _ => ?_)⟩, hR⟩
          rw [ekx] at cb ⊢
          rw [tb_bit10 h.2.1 (by omega)] at cb
          have : tb w kx = true := by
            cases hb : tb w kx with
            | true => rfl
            | false => rw [hb] at cb; exact absurd rfl cb
          exact (h.2.2 kx (by omega)).mp this
    have f0 : Fr muI opS μ (m_st μ 50 74 0) := Fr.stI (Fr.rf0 _ _ _) (by simp [opS])
    have I0 : Inv [] v (m_st μ 50 74 0) := ⟨f0, hv.cg (fun x _ => ⟨Or.inl, fun z => z.elim id (fun ⟨F, hF, _⟩ => absurd hF (by simp))⟩)⟩
    obtain ⟨v', μ', r1, r2⟩ := rowss_M hN (by omega) (by omega) (by omega) H I0 ⟨gt_same _ _ _ _, Row.nil _ _ _⟩
    refine ⟨v', μ', r1, r2.2.cg (fun x _ => ?_), r2.1⟩
    rw [frow_dsc _ _ (by omega) hp.1]
    constructor
    · rintro (z | ⟨F, hF, z1, z2⟩)
      · exact Or.inl z
      · exact Or.inr ⟨F, List.mem_filter.mpr ⟨hF, decide_eq_true (by omega)⟩, z2⟩
    · rintro (z | ⟨F, hF, z⟩)
      · exact Or.inl z
      · obtain ⟨y1, y2⟩ := List.mem_filter.mp hF
        have := of_decide_eq_true y2
        exact Or.inr ⟨F, y1, by omega, z⟩
  · have hc' : tn f = false := by simpa using hc
    have er : rowsT G R tn f = [fra (spl G R) f] := by unfold rowsT; rw [if_neg hc]
    rw [hc', if_neg (show ¬ ¬ (if false = true then (1 : Int) else 0) = 0 by decide), er]
    have hFO := fra_FO hO (f := f) h0 h1
    have h1l := hFO.2.1
    have hne : fra (spl G R) f ≠ [] := by intro z; rw [z] at h1l; simp at h1l
    have hx := hd_ok hFO.1 hne
    obtain ⟨μ1, a1, a2, a3⟩ := asThere_M (N := N) hN (f := f) h0 h1 hk.1 hk.2.1
    have f1 : Fr muI opS μ μ1 := a3.mono (by decide) (by simp [opS])
    have P1 := hk.mu f1
    obtain ⟨x, μ2, e1, e2, e3⟩ := must_one (N := N) hN hG (f := f) (by omega) ho hFO.1 hne hFO.2.2.2.1 hFO.2.2.1 (n := n) hn hP hB P1.1.2.1 P1.1.2.2.1 a2 (h99.ag (fun j => a3.2.2 99 j (by decide) (by simp))) (fun o' ho' s s0 s1 => by rw [a3.2.2 96 _ (by decide) (by simp)]; exact hT o' ho' s s0 s1)
    obtain ⟨c1, y, c2, c3, c4, c5, c6⟩ := e3 ((cmpl_nil hFO.2.2.2.1 hFO.2.2.1).mpr hFO.2.2.2.2.1)
    have K2 : KR μ2 := c5.KR P1.1.2.1 (by decide)
    rw [a1, ob_e, e1, b2_e, if_neg c1, c2, b2_e]
    by_cases cy : y = 0
    · rw [if_pos cy]
      refine ⟨v, μ2, rfl, hv.cg (fun x _ => ?_), f1.trI c5⟩
      constructor
      · exact Or.inl
      · rintro (z | ⟨F, hF, z⟩)
        · exact z
        · rw [List.mem_singleton.mp hF] at z
          have := c4.mpr z.1
          omega
    · rw [if_neg cy, r_50_73 K2, ald_e (k_97 K2) (by decide) (by decide), ob_e, show m_gt μ2 97 0 = (fra (spl G R) f).getD 0 0 from c6.2 0 (by omega), taken_M, b2_e, bnd_e]
      refine ⟨_, μ2, rfl, (hv.or hx.1 hx.2).cg (fun x _ => ?_), f1.trI c5⟩
      constructor
      · rintro (z | z)
        · exact Or.inl z
        · exact Or.inr ⟨_, List.mem_singleton.mpr rfl, c4.mp (by omega), z⟩
      · rintro (z | ⟨F, hF, z⟩)
        · exact Or.inl z
        · rw [List.mem_singleton.mp hF] at z
          exact Or.inr z.2
theorem must_loop {N : Nat} (hN : 1000000 ≤ N) {G : Gm} {R : List Int} {tn : Int → Bool} {f : Int} (h0 : 0 ≤ f) (h1 : f < (spl G R).1.length) {n : Int} {a : Bool} (hn : a = false → -920 ≤ n ∧ n ≤ 2120) {P : Ow → Int → Prop} {B : Ow → List Int} (hP : ∀ o s, P o s → -400 ≤ s ∧ s ≤ 400) (hB : ∀ o', OwOK o' → ∀ b ∈ B o', -460 ≤ b ∧ b < 600) : ∀ (k m : Nat) (x v : Int) {μ : Mm}, x + k = 24 → 0 ≤ x → k < m → KP G R tn μ → RB 99 P μ → (∀ o', OwOK o' → TR 96 (f + 1) o' (B o') μ) → SB (fun y => ∃ o, OwOK o ∧ enc o < x ∧ ∃ F ∈ rowsT G R tn f, mst G f o P B n a F y) v → ∃ v' μ', jX8_must_119 N m 50 f n (if a then 1 else 0) v x μ = some (v', μ') ∧ SB (fun y => ∃ o, OwOK o ∧ ∃ F ∈ rowsT G R tn f, mst G f o P B n a F y) v' ∧ Fr muI opS μ μ'
  | k, 0, x, v, μ, hi, h0, hm, _, _, _, _ => absurd hm (by omega)
  | 0, m + 1, x, v, μ, hi, h0, hm, hk, h99, hT, hv => by
    refine ⟨v, μ, ?_, hv.cg (fun y _ => ⟨fun ⟨o, q1, _, q3⟩ => ⟨o, q1, q3⟩, fun ⟨o, q1, q3⟩ => ⟨o, q1, by have := enc_ok q1; omega, q3⟩⟩), Fr.rf0 _ _ _⟩
    show jX8_must_119b (jX8_must_119 N m) N 50 f n (if a then 1 else 0) v x μ = _
    unfold jX8_must_119b
    rw [if_pos (by omega)]
  | k + 1, m + 1, x, v, μ, hi, hx0, hm, hk, h99, hT, hv => by
    show ∃ v' μ', jX8_must_119b (jX8_must_119 N m) N 50 f n (if a then 1 else 0) v x μ = _ ∧ _
    unfold jX8_must_119b
    rw [if_neg (by omega)]
    rcases isOwing_M (N := N) (x := x) (μ := μ) (by omega) with ⟨o, ho, eo, q⟩ | ⟨hno, q⟩
    · rw [q, b2_e, if_pos (by decide), eo]
      obtain ⟨v1, μ1, a1, a2, a3⟩ := must_row (N := N) hN h0 h1 ho hn hP hB hv (k119 := jX8_must_119 N m) hk h99 hT
      obtain ⟨v', μ', r1, r2, r3⟩ := must_loop hN (N := N) h0 h1 hn hP hB k m (x + 1) v1 (μ := μ1) (by omega) (by omega) (by omega) (hk.mu a3) (h99.ag (fun j => a3.2.2 99 j (by decide) (by simp [opS, pfs]))) (fun o' ho' s s0 s1 => by rw [a3.2.2 96 _ (by decide) (by simp [opS, pfs])]; exact hT o' ho' s s0 s1) (a2.cg (fun y _ => by
        constructor
        · rintro (⟨o3, z1, z2, z3⟩ | z)
          · exact ⟨o3, z1, by omega, z3⟩
          · exact ⟨o, ho, by omega, z⟩
        · rintro ⟨o3, z1, z2, z3⟩
          by_cases c : enc o3 < x
          · exact Or.inl ⟨o3, z1, c, z3⟩
          · rw [enc_inj ho z1 (by omega)] at z3
            exact Or.inr z3))
      refine ⟨v', μ', ?_, r2, a3.trI r3⟩
      rw [a1, ← r1]
      unfold jX8_must_273
      rw [bnd_e, ← eo, i_add_e (by omega) (by omega)]
    · rw [q, b2_e, if_neg (by decide)]
      obtain ⟨v', μ', r1, r2, r3⟩ := must_loop hN (N := N) h0 h1 hn hP hB k m (x + 1) v (μ := μ) (by omega) (by omega) (by omega) hk h99 hT (hv.cg (fun y _ => ⟨fun ⟨o3, z1, z2, z3⟩ => ⟨o3, z1, by omega, z3⟩, fun ⟨o3, z1, z2, z3⟩ => ⟨o3, z1, by
        by_cases c : enc o3 < x
        · exact c
        · exact absurd (show x = enc o3 by omega) (hno o3 z1), z3⟩⟩))
      refine ⟨v', μ', ?_, r2, r3⟩
      rw [← r1]
      unfold jX8_must_273
      rw [bnd_e, i_add_e (by omega) (by omega)]
