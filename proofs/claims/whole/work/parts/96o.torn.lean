/-! ===== PURE: torn frames of the reference ===== -/
def TnM (tn : Int → Bool) (μ : Mm) : Prop := ps (m_gt μ 50 78) ∧ ∀ k : Nat, k < 9 → tb (m_gt μ 50 78) k = tn k
theorem TnM.ag {tn : Int → Bool} {μ μ' : Mm} (h : TnM tn μ) (e : m_gt μ' 50 78 = m_gt μ 50 78) : TnM tn μ' := by
  unfold TnM
  rw [e]
  exact h
theorem isTorn_M {N : Nat} {tn : Int → Bool} {μ : Mm} (h : TnM tn μ) {f : Int} (h0 : 0 ≤ f) (h1 : f ≤ 8) : jX8_isTorn N 50 f μ = some (if tn f then 1 else 0, μ) := by
  obtain ⟨k, rfl⟩ : ∃ k : Nat, f = k := ⟨f.toNat, by omega⟩
  unfold jX8_isTorn jX8_isTorn_17
  rw [tb_bit h.1 (by omega), h.2 k (by omega)]
  cases tn k with
  | true =>
    rw [if_neg (show ¬ ¬ (if true = true then (1 : Int) else 0) = 1 by decide), z_e (Or.inr rfl)]
    rfl
  | false =>
    rw [if_pos (show ¬ (if false = true then (1 : Int) else 0) = 1 by decide), z_e (Or.inl rfl)]
    rfl
/-- the table of what fits is told, or will be: from frame f on with so much owed -/
def FI (G : Gm) (R : List Int) (tn : Int → Bool) (μ : Mm) : Prop := ∀ f m : Nat, f + m = FT G → ∀ o, OwOK o → (0 < f ∨ enc o = 0) → TR 96 f o (Bk G (QT G R tn (-1)) m f o) μ
def FIC (G : Gm) (R : List Int) (tn : Int → Bool) (μ : Mm) : Prop := m_gt μ 50 72 = 0 ∨ m_gt μ 50 72 = 1 ∧ whole G (spl G R) ∧ FI G R tn μ
theorem FI.ag {G : Gm} {R : List Int} {tn : Int → Bool} {μ μ' : Mm} (h : FI G R tn μ) (g : ∀ j, m_gt μ' 96 j = m_gt μ 96 j) : FI G R tn μ' := fun f m hf o ho hq s s0 s1 => by rw [g]; exact h f m hf o ho hq s s0 s1
theorem FIC.ag {G : Gm} {R : List Int} {tn : Int → Bool} {μ μ' : Mm} (h : FIC G R tn μ) (g : ∀ j, m_gt μ' 96 j = m_gt μ 96 j) (e : m_gt μ' 50 72 = m_gt μ 50 72) : FIC G R tn μ' := by
  rcases h with z | ⟨z, y, x⟩
  · exact Or.inl (by rw [e]; exact z)
  · exact Or.inr ⟨by rw [e]; exact z, y, x.ag g⟩
def teI : List Int := fGo
def teS : List (Int × Int) := (50, 78) :: (50, 72) :: sGo
theorem whi_w {G : Gm} {s : Sh} : ¬ whi G s = 0 ↔ whole G s := by
  unfold whi whole
  by_cases h : (s.1.length : Int) = G.1 1 ∧ cnt (owd G s.1) ≤ s.2.length
  · rw [if_pos h]
    exact ⟨fun _ => h, fun _ => by decide⟩
  · rw [if_neg h]
    exact ⟨fun z => absurd rfl z, fun z => absurd z h⟩
theorem tear_M {N : Nat} (hN : 1000000 ≤ N) {G : Gm} {R : List Int} {tn : Int → Bool} {f : Int} (hf : okI f) (t : Bool) {μ : Mm} (h : MC G R μ) (hT : TnM tn μ) (hF : FIC G R tn μ) : ∃ μ', jX8_tear N 50 f (if t then 1 else 0) μ = some (teA G R f, μ') ∧ TnM (teT G R tn f t) μ' ∧ FIC G R (teT G R tn f t) μ' ∧ Fr teI teS μ μ' := by
  have h8 := h.1.1.2.1
  obtain ⟨μ1, a1, T1, h1, f1⟩ := h.go (N := N) hN
  have F1 : Fr teI teS μ μ1 := f1.mono (by decide) (fun q hq => Or.inl (by simp [teS, hq]))
  have N1 : TnM tn μ1 := hT.ag (f1.2.2 50 78 (by decide) (by decide))
  have C1 : FIC G R tn μ1 := hF.ag (fun j => f1.2.2 96 j (by decide) (by simp [sGo])) (f1.2.2 50 72 (by decide) (by decide))
  unfold jX8_tear jX8_tear_27 jX8_tear_55 teA teT
  rw [a1, ob_e, T1.2.2.2.2.2]
  by_cases cw : whi G (spl G R) = 0
  · have hC : ¬ (0 ≤ f ∧ f ≤ G.1 1 ∧ ¬ whi G (spl G R) = 0) := fun z => z.2.2 cw
    simp only [if_neg hC]
    rw [if_pos cw]
    exact ⟨μ1, rfl, N1, C1, F1⟩
  · rw [if_neg cw, r_50_32 h1.2.1, ald_e (k_75 h1.2.1) (by decide) (by decide), ob_e, h1.2.2.1.1.2.1, isIn_i hf (by unfold okI; omega), b2_e]
    by_cases c : 0 ≤ f ∧ f ≤ G.1 1
    · obtain ⟨k, rfl⟩ : ∃ k : Nat, f = k := ⟨f.toNat, by omega⟩
      have hk9 : k < 9 := by omega
      have one := tb_one hk9
      have hC : 0 ≤ (k : Int) ∧ (k : Int) ≤ G.1 1 ∧ ¬ whi G (spl G R) = 0 := ⟨c.1, c.2, cw⟩
      simp only [if_pos hC]
      rw [if_pos c, if_pos (show ¬ (1 : Int) = 0 by decide), chk_e (k_50 h1.2.1), chk_e (k_50 h1.2.1)]
      have fin : ∀ v : Int, ps v → (∀ j : Nat, j < 9 → tb v j = if (j : Int) = k then t else tn j) → ∃ μ', (bnd (m_st μ1 50 78 v) fun μ1 => bnd (m_st μ1 50 72 0) fun μ2 => some ((1 : Int), μ2)) = some (1, μ') ∧ TnM (fun x => if x = (k : Int) then t else tn x) μ' ∧ FIC G R (fun x => if x = (k : Int) then t else tn x) μ' ∧ Fr teI teS μ μ' := by
        intro v hv hb
        refine ⟨m_st (m_st μ1 50 78 v) 50 72 0, by rw [bnd_e, bnd_e], ?_, Or.inl (gt_same _ _ _ _), (F1.stI (Or.inr (by simp [teS]))).stI (Or.inr (by simp [teS]))⟩
        have e : m_gt (m_st (m_st μ1 50 78 v) 50 72 0) 50 78 = v := by rw [gt_i _ _ _ (by decide), gt_same]
        unfold TnM
        rw [e]
        exact ⟨hv, hb⟩
      have ej : ∀ j : Nat, decide (j = k) = decide ((j : Int) = k) := fun j => by
        congr 1
        apply propext
        omega
      cases t with
      | false =>
        rw [if_pos (by decide)]
        have := tb_dif N1.1 one.1
        refine fin _ this.1 (fun j hj => ?_)
        rw [this.2, N1.2 j hj, one.2, ej]
        by_cases z : (j : Int) = k
        · rw [if_pos z, decide_eq_true z]; simp
        · rw [if_neg z, decide_eq_false z]; simp
      | true =>
        rw [if_neg (by decide)]
        have := tb_or N1.1 one.1
        refine fin _ this.1 (fun j hj => ?_)
        rw [this.2, N1.2 j hj, one.2, ej]
        by_cases z : (j : Int) = k
        · rw [if_pos z, decide_eq_true z]; simp
        · rw [if_neg z, decide_eq_false z]; simp
    · have hC : ¬ (0 ≤ f ∧ f ≤ G.1 1 ∧ ¬ whi G (spl G R) = 0) := fun z => c ⟨z.1, z.2.1⟩
      simp only [if_neg hC]
      rw [if_neg c, if_neg (show ¬ ¬ (0 : Int) = 0 by decide)]
      exact ⟨μ1, rfl, N1, C1, F1⟩
theorem asThere_loop {N : Nat} {G : Gm} {R : List Int} (hG : GOK G) (hV : VR G R) {f : Int} (h0 : 0 ≤ f) (h1 : f ≤ (spl G R).1.length) : ∀ (k n i : Nat) {μ : Mm}, i + k = (fra (spl G R) f).length → k < n → KR μ → RM R μ → m_gt μ 90 f = fR (spl G R) f → m_gt μ 50 74 = (fra (spl G R) f).length → Row μ 97 0 ((fra (spl G R) f).take i) → ∃ μ', jX8_asThere_12 N n 50 f i μ = some μ' ∧ ROW (fra (spl G R) f) μ' ∧ Fr [97] [] μ μ'
  | k, 0, i, μ, hi, hn, _, _, _, _, _ => absurd hn (by omega)
  | 0, n + 1, i, μ, hi, hn, hK, hR, h90, h74, hW => by
    refine ⟨μ, ?_, ⟨h74, ?_⟩, Fr.rf0 _ _ _⟩
    · show jX8_asThere_12b (jX8_asThere_12 N n) N 50 f i μ = _
      unfold jX8_asThere_12b
      rw [h74, if_pos (by omega)]
    · rw [List.take_of_length_le (by omega)] at hW
      exact hW
  | k + 1, n + 1, i, μ, hi, hn, hK, hR, h90, h74, hW => by
    have h8 := hG.2.1
    have hO := hV.ok hG
    have hsz := fra_sz hG hV h0 h1
    have hl27 := (R_len hG hV).1
    have hfR := fR_ok (spl G R) f
    have hfR1 := fR_ok (spl G R) (f + 1)
    have hfl := fra_len (s := spl G R) h0
    have hsl := spl_len G R
    have hu := fra_rA hG hV h0 (u := i) (by omega)
    unfold rA at hu
    rw [if_pos (by omega)] at hu
    have h2 := hO.2.1
    have e89 : m_gt μ 89 (fR (spl G R) f + i) = (fra (spl G R) f).getD i 0 := by
      rw [hR.2.at (by omega) (by omega), Int.sub_zero]
      exact hu
    have hil : i < (fra (spl G R) f).length := by omega
    have et : (fra (spl G R) f).take (i + 1) = (fra (spl G R) f).take i ++ [(fra (spl G R) f).getD i 0] := by
      rw [List.take_succ_eq_append_getElem hil, List.getD_eq_getElem?_getD, List.getElem?_eq_getElem hil]
      rfl
    have W1 : Row (m_st μ 97 i ((fra (spl G R) f).getD i 0)) 97 0 ((fra (spl G R) f).take (i + 1)) := by
      have := Row.push hW ((fra (spl G R) f).getD i 0)
      rw [List.length_take, Nat.min_eq_left (by omega), Int.zero_add] at this
      rw [et]
      exact this
    have f1 : Fr [97] [] μ (m_st μ 97 i ((fra (spl G R) f).getD i 0)) := Fr.stI (Fr.rf0 _ _ _) (by simp)
    obtain ⟨μ', r1, r2, r3⟩ := asThere_loop (N := N) hG hV h0 h1 k n (i + 1) (μ := m_st μ 97 i ((fra (spl G R) f).getD i 0)) (by omega) (by omega) (f1.KR hK (by decide)) (hR.ag (f1.ag (by decide))) (by rw [gt_r _ _ _ _ (by decide)]; exact h90) (by rw [gt_r _ _ _ _ (by decide)]; exact h74) W1
    refine ⟨μ', ?_, r2, f1.trI r3⟩
    rw [← r1]
    show jX8_asThere_12b (jX8_asThere_12 N n) N 50 f i μ = _
    unfold jX8_asThere_12b
    rw [h74, if_neg (by omega), r_50_60 hK, ald_e (k_90 hK) (by omega) (by omega), ob_e, h90, i_add_e (by omega) (by omega), r_50_59 hK, ald_e (k_89 hK) (by omega) (by omega), ob_e, e89, r_50_73 hK, ast_e (k_97 hK) (by omega) (by omega), ob_e, bnd_e, i_add_e (by omega) (by omega)]
    rfl
theorem asThere_M {N : Nat} (hN : 1000000 ≤ N) {G : Gm} {R : List Int} {f : Int} (h0 : 0 ≤ f) (h1 : f < (spl G R).1.length) {μ : Mm} (h : MC G R μ) (hT : GT G R μ) : ∃ μ', jX8_asThere N 50 f μ = some μ' ∧ ROW (fra (spl G R) f) μ' ∧ Fr [97] [(50, 74)] μ μ' := by
  have hG := h.1.1
  have hV := h.1.2
  have hO := (hV.ok hG).2.1
  have h8 := hG.2.1
  have hA := hT.at h0 (by omega) (by omega) hG hV
  have f1 : Fr [97] [(50, 74)] μ (m_st μ 50 74 (fra (spl G R) f).length) := Fr.stI (Fr.rf0 _ _ _) (by simp)
  have hsz := fra_sz hG hV h0 (by omega)
  obtain ⟨μ', r1, r2, r3⟩ := asThere_loop (N := N) hG hV h0 (by omega) (fra (spl G R) f).length N 0 (μ := m_st μ 50 74 (fra (spl G R) f).length) (by omega) (by omega) (f1.KR h.2.1 (by decide)) (h.2.2.2.ag (f1.ag (by decide))) (by rw [gt_r _ _ _ _ (by decide)]; exact hA.1) (gt_same _ _ _ _) (by rw [List.take_zero]; exact Row.nil _ _ _)
  refine ⟨μ', ?_, r2, f1.trI (r3.mono (by simp) (by simp))⟩
  unfold jX8_asThere
  rw [r_50_61 h.2.1, ald_e (k_91 h.2.1) (by omega) (by omega), ob_e, hA.2.1, bnd_e]
  exact r1
