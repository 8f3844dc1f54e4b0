/-! ===== PURE: all that fits, told by the reference ===== -/
def fiI : List Int := [88, 97, 96]
def KP (G : Gm) (R : List Int) (tn : Int → Bool) (μ : Mm) : Prop := MC G R μ ∧ GT G R μ ∧ TnM tn μ
theorem KP.fr {G : Gm} {R : List Int} {tn : Int → Bool} {μ μ' : Mm} (h : KP G R tn μ) (f : Fr fiI opS μ μ') : KP G R tn μ' := ⟨⟨h.1.1, f.KR h.1.2.1 (by decide), h.1.2.2.1.ag (f.ag (by decide)), h.1.2.2.2.ag (f.ag (by decide))⟩, h.2.1.ag (f.ag (by decide)), h.2.2.ag (f.2.2 50 78 (by decide) (by decide))⟩
theorem zero_loopF {N : Nat} : ∀ (k n : Nat) (i : Int) {μ : Mm}, i + k = 228960 → 0 ≤ i → k < n → KR μ → (∀ j, 0 ≤ j → j < i → m_gt μ 96 j = 0) → ∃ μ', jX8_tellsFits_19 N n 50 i μ = jX8_tellsFits_40 N N 50 0 μ' ∧ (∀ j, 0 ≤ j → j < 228960 → m_gt μ' 96 j = 0) ∧ Fr [96] [] μ μ'
  | k, 0, i, μ, hi, h0, hn, _, _ => absurd hn (by omega)
  | 0, n + 1, i, μ, hi, h0, hn, hK, hZ => by
    refine ⟨μ, ?_, fun j j0 j1 => hZ j j0 (by omega), Fr.rf0 _ _ _⟩
    show jX8_tellsFits_19b (jX8_tellsFits_19 N n) N 50 i μ = _
    unfold jX8_tellsFits_19b
    rw [if_pos (by omega)]
  | k + 1, n + 1, i, μ, hi, h0, hn, hK, hZ => by
    obtain ⟨μ', r1, r2, r3⟩ := zero_loopF (N := N) k n (i + 1) (μ := m_st μ 96 i 0) (by omega) (by omega) (by omega) (hK.sa _ _ (by decide)) (fun j j0 j1 => by
      by_cases c : j = i
      · rw [c, gt_same]
      · rw [gt_i _ _ _ c]
        exact hZ j j0 (by omega))
    refine ⟨μ', ?_, r2, (Fr.stI (Fr.rf0 _ _ _) (by simp)).trI r3⟩
    rw [← r1]
    show jX8_tellsFits_19b (jX8_tellsFits_19 N n) N 50 i μ = _
    unfold jX8_tellsFits_19b
    rw [if_neg (by omega), r_50_71 hK, ast_e (k_96 hK) (by omega) (by omega), ob_e, bnd_e, i_add_e (by omega) (by omega)]
theorem enc_inj {o o' : Ow} (ho : OwOK o) (ho' : OwOK o') (e' : enc o' = enc o) : o' = o := by
  unfold OwOK at ho ho'
  unfold enc at e'
  obtain ⟨p1, p2, p3⟩ := o
  obtain ⟨p1', p2', p3'⟩ := o'
  dsimp only at *
  have z1 : p1' = p1 := by omega
  have z2 : p2' = p2 := by omega
  have z3 : p3' = p3 := by omega
  rw [z1, z2, z3]
theorem fills_loopF {N : Nat} (hN : 1000000 ≤ N) {G : Gm} {R : List Int} {tn : Int → Bool} (hw : whole G (spl G R)) : ∀ (k n : Nat) (x : Int) {μ : Mm}, x + k = 24 → 0 ≤ x → k < n → KP G R tn μ → (∀ j, 0 ≤ j → j < 228960 → (j < bas (G.1 1) 0 - 460 ∨ bas (G.1 1) x - 460 ≤ j) → m_gt μ 96 j = 0) → (∀ o, OwOK o → enc o < x → TR 96 (G.1 1) o (Bk G (QB G R tn) 0 (FT G) o) μ) → ∃ μ', jX8_tellsFits_40 N n 50 x μ = jX8_tellsFits_73 N N 50 (G.1 1 - 1) μ' ∧ (∀ j, 0 ≤ j → j < bas (G.1 1) 0 - 460 → m_gt μ' 96 j = 0) ∧ (∀ o, OwOK o → TR 96 (G.1 1) o (Bk G (QB G R tn) 0 (FT G) o) μ') ∧ Fr [96] [] μ μ'
  | k, 0, x, μ, hi, h0, hn, _, _, _ => absurd hn (by omega)
  | 0, n + 1, x, μ, hi, h0, hn, hP, hZ, hT => by
    have h8 := hP.1.1.1.2.1
    have hK := hP.1.2.1
    refine ⟨μ, ?_, fun j j0 j1 => hZ j j0 (by unfold bas at j1; omega) (Or.inl j1), fun o ho => hT o ho (by have := enc_ok ho; omega), Fr.rf0 _ _ _⟩
    show jX8_tellsFits_40b (jX8_tellsFits_40 N n) N 50 x μ = _
    unfold jX8_tellsFits_40b
    rw [if_pos (by omega), r_50_32 hK, ald_e (k_75 hK) (by decide) (by decide), ob_e, hP.1.2.2.1.1.2.1, bnd_e, i_sub_e (by omega) (by omega)]
  | k + 1, n + 1, x, μ, hi, h0, hn, hP, hZ, hT => by
    have h8 := hP.1.1.1.2.1
    show ∃ μ', jX8_tellsFits_40b (jX8_tellsFits_40 N n) N 50 x μ = _ ∧ _
    unfold jX8_tellsFits_40b jX8_tellsFits_58
    rw [if_neg (by omega)]
    rcases isOwing_M (N := N) (x := x) (μ := μ) (by omega) with ⟨o, ho, eo, q⟩ | ⟨hno, q⟩
    · rw [q, b2_e, if_neg (by decide), eo]
      obtain ⟨μ1, a1, a2, a4⟩ := fitsFills_M (N := N) hN hw ho hP.1 hP.2.1 hP.2.2 (fun s s0 s1 => by
        rw [cB_nil]
        have := enc_ok ho
        exact hZ _ (by unfold bas; omega) (by unfold bas; omega) (Or.inr (by rw [eo]; omega)))
      have f1 : Fr fiI opS μ μ1 := a4.1.mono (by decide) (by simp)
      obtain ⟨μ', r1, r2, r3, r4⟩ := fills_loopF hN hw (N := N) k n (x + 1) (μ := μ1) (by omega) (by omega) (by omega) (hP.fr f1) (fun j j0 j1 hj => by
        rw [a4.2 j (by rw [← eo]; unfold bas at hj ⊢; omega)]
        exact hZ j j0 j1 (by unfold bas at hj ⊢; omega)) (fun o' ho' he => by
        by_cases c : enc o' < x
        · intro s s0 s1
          have := enc_ok ho'
          rw [a4.2 _ (by rw [← eo]; unfold bas cel; omega)]
          exact hT o' ho' c s s0 s1
        · rw [enc_inj ho ho' (by omega)]
          exact a2)
      refine ⟨μ', ?_, r2, r3, a4.1.trI r4⟩
      rw [← r1, a1, ob_e, bnd_e, ← eo, i_add_e (by omega) (by omega)]
    · rw [q, b2_e, if_pos rfl]
      obtain ⟨μ', r1, r2, r3, r4⟩ := fills_loopF hN hw (N := N) k n (x + 1) (μ := μ) (by omega) (by omega) (by omega) hP (fun j j0 j1 hj => hZ j j0 j1 (by unfold bas at hj ⊢; omega)) (fun o' ho' he => by
        by_cases c : enc o' < x
        · exact hT o' ho' c
        · exact absurd (show x = enc o' by omega) (hno o' ho'))
      refine ⟨μ', ?_, r2, r3, r4⟩
      rw [← r1, bnd_e, i_add_e (by omega) (by omega)]
/-- one row of the table of what fits -/
theorem fit_row {N : Nat} (hN : 1000000 ≤ N) {G : Gm} {R : List Int} {tn : Int → Bool} (hw : whole G (spl G R)) {f m : Nat} (hf : f + m + 1 = FT G) {o : Ow} (ho : OwOK o) {k73 : Int → Int → Mm → Option Mm} {k79 : Int → Int → Int → Mm → Option Mm} {μ : Mm} (hP : KP G R tn μ) (hB : ∀ o, OwOK o → TR 96 (f + 1 : Nat) o (Bk G (QB G R tn) m (f + 1) o) μ) (hZ : TR 96 f o [] μ) : ∃ μ', (b2 (jX8_isTorn N 50 f μ) fun x4 μ3 =>
if x4 = 0 then ((jX8_asThere N 50 f μ3).bind fun μ4 =>
b2 (jX8_ends N 50 f (enc o) 0 0 0 μ4) fun x5 μ5 =>
if x5 = 0 then (jX8_tellsFits_152 k73 k79 N 50 f (enc o) μ5) else ((jX8_lays N 50 (m_gt μ5 50 71) f (enc o) μ5).bind fun μ6 =>
jX8_tellsFits_152 k73 k79 N 50 f (enc o) μ6)) else ((jX8_opensFrame N 50 (m_gt μ3 50 71) f (enc o) μ3).bind fun μ7 =>
jX8_tellsFits_152 k73 k79 N 50 f (enc o) μ7)) = jX8_tellsFits_152 k73 k79 N 50 f (enc o) μ' ∧ TR 96 f o (Bk G (QB G R tn) (m + 1) f o) μ' ∧ oRow 96 f o μ μ' := by
  have hG := hP.1.1.1
  have hV := hP.1.1.2
  have h8 := hG.2.1
  have hft : (f : Int) + m + 1 = G.1 1 := by unfold FT at hf; omega
  have hlen := hw.1
  have hbk := BkT_S hG hV (tn := tn) (n := m) (f := f) (by omega) (o := o) hlen
  have hBd : ∀ o', OwOK o' → ∀ b ∈ Bk G (QB G R tn) m (f + 1) o', -400 ≤ b ∧ b + 56 ≤ 56 * 8 + 9 * sm o' := fun o' ho' b hb => by
    have := Bk_ok hG (QB_ok hG hV tn) m (f + 1) o' (by omega) ho' b hb
    omega
  have hB' : ∀ o', OwOK o' → TR 96 ((f : Int) + 1) o' (Bk G (QB G R tn) m (f + 1) o') μ := fun o' ho' => by
    have := hB o' ho'
    rw [show ((f + 1 : Nat) : Int) = (f : Int) + 1 by omega] at this
    exact this
  rw [isTorn_M hP.2.2 (by omega) (by omega), b2_e]
  cases hc : tn f with
  | true =>
    rw [hc, if_pos rfl] at hbk
    obtain ⟨μ1, a1, a2, a3⟩ := opensFrame_M (N := N) hN hG (t := 96) (Or.inr rfl) (f := f) (by omega) ho (B := fun o' => Bk G (QB G R tn) m (f + 1) o') hBd hP.1.2.1 hP.1.2.2.1 hB' hZ
    refine ⟨μ1, ?_, by rw [hbk]; exact a2, a3⟩
    rw [if_neg (show ¬ (if true = true then (1 : Int) else 0) = 0 by decide), r_50_71 hP.1.2.1, a1, ob_e]
  | false =>
    rw [hc, if_neg (by decide), List.flatMap_cons, List.flatMap_nil, List.append_nil] at hbk
    rw [if_pos (show (if false = true then (1 : Int) else 0) = 0 by decide)]
    have hFO := fra_FO (hV.ok hG) (f := f) (by omega) (by omega)
    obtain ⟨μ1, a1, a2, a3⟩ := asThere_M (N := N) hN (f := f) (by omega) (by omega) hP.1 hP.2.1
    have g1 : ∀ j, m_gt μ1 96 j = m_gt μ 96 j := fun j => a3.2.2 96 j (by decide) (by simp)
    have f1 : Fr fiI opS μ μ1 := a3.mono (by decide) (by simp [opS])
    have P1 := hP.fr f1
    have hd := hFO.2.2.2.1
    have hl2 := hFO.2.2.1
    have h3 := hG.2.2.1
    have h1l := hFO.2.1
    obtain ⟨x, μ2, e1, e2, e3⟩ := one_M (N := N) hN hG (t := 96) (Or.inr rfl) (f := f) (by omega) ho (F := fra (spl G R) f) hFO.1 (by omega) (by intro z; rw [z] at h1l; simp at h1l) hd hl2 (A := []) (B := fun o' => Bk G (QB G R tn) m (f + 1) o') hBd P1.1.2.1 P1.1.2.2.1 a2 (fun o' ho' s s0 s1 => by rw [g1]; exact hB' o' ho' s s0 s1) (fun s s0 s1 => by rw [g1]; exact hZ s s0 s1)
    have hcm : cmpl G [] (fra (spl G R) f) := by
      unfold cmpl
      have e0 : dn [] = 0 := by simp [dn, lsum]
      rw [e0]
      have := hFO.2.2.2.2.1
      simp
      omega
    obtain ⟨c1, μ3, c2, c3, c4, c5⟩ := e3 hcm
    rw [List.nil_append] at c3
    have P2 : m_gt μ2 50 71 = 96 := by
      obtain ⟨x', μ2', e1', _, _, e4'⟩ := ends_M (N := N) hN hG (f := f) (by omega) ho (c := []) (r := fra (spl G R) f) (fun y hy => absurd hy (by simp)) hFO.1 (by simp; omega) (by intro z; rw [z] at h1l; simp at h1l) (by simp [dn, lsum] at hd ⊢; exact hd) P1.1.2.1 P1.1.2.2.1 a2
      have : some (x', μ2') = some (x, μ2) := by rw [← e1', ← e1]; rfl
      have : μ2' = μ2 := by injection this with this; injection this
      rw [← this]
      exact r_50_71 (e4'.KR P1.1.2.1 (by decide))
    refine ⟨μ3, ?_, by rw [hbk]; exact c3, ⟨?_, fun j hj => ?_⟩⟩
    · rw [a1, ob_e, e1, b2_e, if_neg c1, P2, c2, ob_e]
    · exact (a3.mono (by simp) (by simp [opS])).trI c4.1
    · rw [c4.2 j hj, g1]
theorem frame_loopF {N : Nat} (hN : 1000000 ≤ N) {G : Gm} {R : List Int} {tn : Int → Bool} (hw : whole G (spl G R)) {f m : Nat} (hf : f + m + 1 = FT G) {k73 : Int → Int → Mm → Option Mm} : ∀ (k n : Nat) (x : Int) {μ : Mm}, x + k = 24 → 0 ≤ x → k < n → KP G R tn μ → (∀ o, OwOK o → TR 96 (f + 1 : Nat) o (Bk G (QB G R tn) m (f + 1) o) μ) → (∀ o, OwOK o → enc o < x → (0 < f ∨ enc o = 0) → TR 96 f o (Bk G (QB G R tn) (m + 1) f o) μ) → (∀ j, 0 ≤ j → (j < bas f 0 - 460 ∨ (bas f x - 460 ≤ j ∧ j < bas f 24 - 460)) → m_gt μ 96 j = 0) → ∃ μ', jX8_tellsFits_79 k73 N n 50 f x μ = k73 50 ((f : Int) - 1) μ' ∧ (∀ o, OwOK o → (0 < f ∨ enc o = 0) → TR 96 f o (Bk G (QB G R tn) (m + 1) f o) μ') ∧ (∀ j, (j < bas f x - 460 ∨ bas f 24 - 460 ≤ j) → m_gt μ' 96 j = m_gt μ 96 j) ∧ Fr fiI opS μ μ'
  | k, 0, x, μ, hi, h0, hn, _, _, _, _ => absurd hn (by omega)
  | 0, n + 1, x, μ, hi, h0, hn, hP, hB, hT, hZ => by
    have h8 := hP.1.1.1.2.1
    have hfi : (f : Int) ≤ 8 := by unfold FT at hf; omega
    refine ⟨μ, ?_, fun o ho => hT o ho (by have := enc_ok ho; omega), fun _ _ => rfl, Fr.rf0 _ _ _⟩
    show jX8_tellsFits_79b k73 (jX8_tellsFits_79 k73 N n) N 50 f x μ = _
    unfold jX8_tellsFits_79b
    rw [if_pos (by omega), bnd_e, i_add_e (by omega) (by omega), show (f : Int) + -1 = f - 1 by omega]
  | k + 1, n + 1, x, μ, hi, h0, hn, hP, hB, hT, hZ => by
    have h8 := hP.1.1.1.2.1
    have hft : (f : Int) + m + 1 = G.1 1 := by unfold FT at hf; omega
    have skip : (∀ o, OwOK o → x = enc o → ¬ (0 < f ∨ enc o = 0)) → ∃ μ', jX8_tellsFits_152 k73 (jX8_tellsFits_79 k73 N n) N 50 f x μ = k73 50 ((f : Int) - 1) μ' ∧ (∀ o, OwOK o → (0 < f ∨ enc o = 0) → TR 96 f o (Bk G (QB G R tn) (m + 1) f o) μ') ∧ (∀ j, (j < bas f x - 460 ∨ bas f 24 - 460 ≤ j) → m_gt μ' 96 j = m_gt μ 96 j) ∧ Fr fiI opS μ μ' := by
      intro hno
      obtain ⟨μ', r1, r2, r3, r4⟩ := frame_loopF hN hw (N := N) hf (k73 := k73) k n (x + 1) (μ := μ) (by omega) (by omega) (by omega) hP hB (fun o ho he hq => by
        by_cases c : enc o < x
        · exact hT o ho c hq
        · exact absurd hq (hno o ho (by omega))) (fun j j0 hj => hZ j j0 (by unfold bas at hj ⊢; omega))
      refine ⟨μ', ?_, r2, fun j hj => r3 j (by unfold bas at hj ⊢; omega), r4⟩
      unfold jX8_tellsFits_152
      rw [bnd_e, i_add_e (by omega) (by omega)]
      exact r1
    show ∃ μ', jX8_tellsFits_79b k73 (jX8_tellsFits_79 k73 N n) N 50 f x μ = _ ∧ _
    unfold jX8_tellsFits_79b
    rw [if_neg (by omega), mayOwe_M, b2_e]
    by_cases c : 0 < (f : Int) ∨ x = 0
    · rw [if_pos c, if_neg (by decide)]
      rcases isOwing_M (N := N) (x := x) (μ := μ) (by omega) with ⟨o, ho, eo, q⟩ | ⟨hno, q⟩
      · rw [q, b2_e, if_pos (by decide)]
        have he := enc_ok ho
        obtain ⟨μ1, a1, a2, a3⟩ := fit_row (N := N) hN hw hf ho (k73 := k73) (k79 := jX8_tellsFits_79 k73 N n) hP hB (fun s s0 s1 => by
          rw [cB_nil, mn_small (by omega)]
          exact hZ _ (by unfold cel; omega) (Or.inr (by unfold cel bas; omega)))
        have P1 := hP.fr a3.1
        obtain ⟨μ', r1, r2, r3, r4⟩ := frame_loopF hN hw (N := N) hf (k73 := k73) k n (x + 1) (μ := μ1) (by omega) (by omega) (by omega) P1 (fun o' ho' => a3.TR ho ho' (Or.inl (by omega)) (hB o' ho')) (fun o' ho' he' hq => by
          by_cases d : enc o' < x
          · exact a3.TR ho ho' (Or.inr (by omega)) (hT o' ho' d hq)
          · rw [enc_inj ho ho' (by omega)]
            exact a2) (fun j j0 hj => by
          rw [a3.2 j (fun s s0 s1 => by unfold bas at hj; unfold cel; omega)]
          exact hZ j j0 (by unfold bas at hj ⊢; omega))
        refine ⟨μ', ?_, r2, fun j hj => ?_, Fr.trI a3.1 r4⟩
        · rw [← r1, eo]
          rw [a1]
          unfold jX8_tellsFits_152
          rw [bnd_e, i_add_e (by omega) (by omega)]
        · rw [r3 j (by unfold bas at hj ⊢; omega)]
          exact a3.2 j (fun s s0 s1 => by unfold bas at hj; unfold cel; omega)
      · rw [q, b2_e, if_neg (by decide)]
        exact skip (fun o ho e => absurd e (hno o ho))
    · rw [if_neg c, if_pos rfl]
      exact skip (fun o ho e => by omega)
theorem frames_loopF {N : Nat} (hN : 1000000 ≤ N) {G : Gm} {R : List Int} {tn : Int → Bool} (hw : whole G (spl G R)) : ∀ (k n : Nat) (g : Int) {μ : Mm}, g + 1 = k → k ≤ FT G → k < n → KP G R tn μ → (∀ f m : Nat, g < f → f + m = FT G → ∀ o, OwOK o → (0 < f ∨ enc o = 0) → TR 96 f o (Bk G (QB G R tn) m f o) μ) → (∀ j, 0 ≤ j → j < bas (g + 1) 0 - 460 → m_gt μ 96 j = 0) → ∃ μ', jX8_tellsFits_73 N n 50 g μ = some μ' ∧ FI G R tn μ' ∧ Fr fiI opS μ μ'
  | k, 0, g, μ, _, _, hn, _, _, _ => absurd hn (by omega)
  | 0, n + 1, g, μ, hg, _, hn, hP, hT, hZ => by
    refine ⟨μ, ?_, fun f m hf o ho hq => hT f m (by omega) hf o ho hq, Fr.rf0 _ _ _⟩
    show jX8_tellsFits_73b (jX8_tellsFits_73 N n) N 50 g μ = _
    unfold jX8_tellsFits_73b
    rw [if_pos (by omega)]
  | k + 1, n + 1, g, μ, hg, hk, hn, hP, hT, hZ => by
    have eg : g = (k : Int) := by omega
    obtain ⟨μ1, a1, a2, a3, a4⟩ := frame_loopF (N := N) hN hw (f := k) (m := FT G - (k + 1)) (by omega) (k73 := jX8_tellsFits_73 N n) 24 N 0 (μ := μ) (by omega) (by omega) (by omega) hP (fun o ho => hT (k + 1) _ (by omega) (by omega) o ho (Or.inl (by omega))) (fun o ho he => by have := enc_ok ho; omega) (fun j j0 hj => hZ j j0 (by unfold bas at hj ⊢; omega))
    obtain ⟨μ', r1, r2, r3⟩ := frames_loopF hN hw (N := N) k n (g - 1) (μ := μ1) (by omega) (by omega) (by omega) (hP.fr a4) (fun f m h1 h2 o ho hq => by
      by_cases c : f = k
      · have : m = FT G - (k + 1) + 1 := by omega
        rw [c, this]
        rw [c] at hq
        exact a2 o ho hq
      · intro s s0 s1
        have := enc_ok ho
        rw [a3 _ (Or.inr (by unfold bas cel; omega))]
        exact hT f m (by omega) h2 o ho hq s s0 s1) (fun j j0 hj => by
      rw [a3 j (Or.inl (by unfold bas at hj ⊢; omega))]
      exact hZ j j0 (by unfold bas at hj ⊢; omega))
    refine ⟨μ', ?_, r2, a4.trI r3⟩
    rw [← r1, eg, ← a1]
    show jX8_tellsFits_73b (jX8_tellsFits_73 N n) N 50 k μ = _
    unfold jX8_tellsFits_73b
    rw [if_neg (by omega)]
def tfI : List Int := [88, 97, 96, 90, 91, 92, 93, 94]
def tfS : List (Int × Int) := (50, 72) :: (opS ++ sGo)
theorem MC.tf {G : Gm} {R : List Int} {μ μ' : Mm} (h : MC G R μ) (f : Fr tfI tfS μ μ') : MC G R μ' := ⟨h.1, f.KR h.2.1 (by decide), h.2.2.1.ag (f.ag (by decide)), h.2.2.2.ag (f.ag (by decide))⟩
theorem tellsFits_M {N : Nat} (hN : 1000000 ≤ N) {G : Gm} {R : List Int} {tn : Int → Bool} (hw : whole G (spl G R)) {μ : Mm} (h : MC G R μ) (ht : TnM tn μ) (hF : FIC G R tn μ) : ∃ μ', jX8_tellsFits N 50 μ = some μ' ∧ m_gt μ' 50 72 = 1 ∧ FI G R tn μ' ∧ KP G R tn μ' ∧ Fr tfI tfS μ μ' := by
  have hG := h.1.1
  have h8 := hG.2.1
  obtain ⟨μ1, a1, T1, h1, f1⟩ := h.go (N := N) hN
  have F1 : Fr tfI tfS μ μ1 := f1.mono (by decide) (fun q hq => Or.inl (by simp [tfS, hq]))
  have N1 : TnM tn μ1 := ht.ag (f1.2.2 50 78 (by decide) (by decide))
  have C1 : FIC G R tn μ1 := hF.ag (fun j => f1.2.2 96 j (by decide) (by simp [sGo])) (f1.2.2 50 72 (by decide) (by decide))
  unfold jX8_tellsFits
  rw [a1, ob_e]
  rcases C1 with z | ⟨z, _, hI⟩
  · rw [if_pos z, bnd_e]
    let μ2 := m_st μ1 50 72 1
    have f2 : Fr [96] [(50, 72)] μ1 μ2 := Fr.stI (Fr.rf0 _ _ _) (by simp)
    obtain ⟨μ3, b1, b2, f3⟩ := zero_loopF (N := N) 228960 N 0 (μ := μ2) (by omega) (by omega) (by omega) (f2.KR h1.2.1 (by decide)) (fun j j0 j1 => by omega)
    have f23 : Fr [96] [(50, 72)] μ1 μ3 := f2.trI (f3.mono (by simp) (by simp))
    have P3 : KP G R tn μ3 := ⟨⟨h.1, f23.KR h1.2.1 (by decide), h1.2.2.1.ag (f23.ag (by decide)), h1.2.2.2.ag (f23.ag (by decide))⟩, T1.ag (f23.ag (by decide)), N1.ag (f23.2.2 50 78 (by decide) (by decide))⟩
    obtain ⟨μ4, c1, c2, c3, f4⟩ := fills_loopF (N := N) hN hw (tn := tn) 24 N 0 (μ := μ3) (by omega) (by omega) (by omega) P3 (fun j j0 j1 _ => b2 j j0 j1) (fun o ho he => by have := enc_ok ho; omega)
    have f4' : Fr fiI opS μ3 μ4 := f4.mono (by decide) (by simp)
    have eF : ((FT G : Nat) : Int) = G.1 1 := by unfold FT; omega
    obtain ⟨μ5, d1, d2, f5⟩ := frames_loopF (N := N) hN hw (tn := tn) (FT G) N (G.1 1 - 1) (μ := μ4) (by omega) (by omega) (by omega) (P3.fr f4') (fun f m h1 h2 o ho hq => by
      have e1 : m = 0 := by omega
      have e2 : f = FT G := by omega
      rw [e1, e2, eF]
      exact c3 o ho) (fun j j0 hj => c2 j j0 (by unfold bas at hj ⊢; omega))
    have f35 : Fr fiI opS μ3 μ5 := f4'.trI f5
    refine ⟨μ5, by rw [b1, c1, d1], ?_, d2, P3.fr f35, F1.trI ((f23.mono (by decide) (by simp [tfS])).trI (f35.mono (by decide) (fun q hq => Or.inl (by simp [tfS, hq]))))⟩
    rw [f35.2.2 50 72 (by decide) (by decide), f3.2.2 50 72 (by decide) (by simp)]
    exact gt_same _ _ _ _
  · rw [if_neg (by omega)]
    exact ⟨μ1, rfl, z, hI, ⟨h1, T1, N1⟩, F1⟩
