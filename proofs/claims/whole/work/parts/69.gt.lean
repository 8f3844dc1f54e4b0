/-! ===== PURE: the reference's sheet, gone through ===== -/
def At (a b u c d x : Int) (μ : Mm) : Prop := m_gt μ 90 a = b ∧ m_gt μ 91 a = u ∧ m_gt μ 92 a = c ∧ m_gt μ 93 a = d ∧ m_gt μ 94 a = x
def FrA (a : Int) (μ μ' : Mm) : Prop := Fr [90, 91, 92, 93, 94] [(50, 65)] μ μ' ∧ ∀ r, 90 ≤ r → r ≤ 94 → ∀ i, i ≠ a → m_gt μ' r i = m_gt μ r i
theorem FrA.trI {a : Int} {μ μ' μ'' : Mm} (h : FrA a μ μ') (g : FrA a μ' μ'') : FrA a μ μ'' := ⟨h.1.trI g.1, fun r h1 h2 i hi => by rw [g.2 r h1 h2 i hi, h.2 r h1 h2 i hi]⟩
theorem FrA.rf (a : Int) (μ : Mm) : FrA a μ μ := ⟨Fr.rf0 _ _ _, fun _ _ _ _ _ => rfl⟩
theorem FrA.st {a : Int} {μ μ' : Mm} (h : FrA a μ μ') {r v : Int} (hr : r = 91 ∨ r = 92 ∨ r = 93 ∨ r = 94 ∨ r = 90) : FrA a μ (m_st μ' r a v) :=
  ⟨h.1.stI (Or.inl (by rcases hr with rfl | rfl | rfl | rfl | rfl <;> decide)), fun q h1 h2 i hi => by rw [gt_i _ _ _ hi]; exact h.2 q h1 h2 i hi⟩
theorem FrA.KR {a : Int} {μ μ' : Mm} (h : FrA a μ μ') (hK : KR μ) : KR μ' := h.1.KR hK (by decide)
theorem FrA.GM {a : Int} {G : Gm} {μ μ' : Mm} (h : FrA a μ μ') (hM : GM G μ) : GM G μ' := hM.ag (h.1.ag (by decide))
def RM (R : List Int) (μ : Mm) : Prop := m_gt μ 50 58 = R.length ∧ Row μ 89 0 R
theorem RM.ag {R : List Int} {μ μ' : Mm} (h : RM R μ) (g : Ag [89] [(50, 58)] μ μ') : RM R μ' := ⟨by rw [g.2 (50, 58) (by decide)]; exact h.1, h.2.ag g (by decide)⟩
theorem FrA.RM {a : Int} {R : List Int} {μ μ' : Mm} (h : FrA a μ μ') (hM : RM R μ) : RM R μ' := hM.ag (h.1.ag (by decide))
theorem taken_M {N : Nat} {x : Int} {μ : Mm} : jX8_taken N x μ = some (tk x, μ) := by
  unfold jX8_taken jX8_taken_11 tk
  by_cases c : x = -2
  · rw [if_neg (not_not_intro c), if_pos c]
  · rw [if_pos c, if_neg c]
theorem goes_1 {K : Int → Int → Mm → Option Mm} {N : Nat} {G : Gm} {R : List Int} {k : Nat} {a b u c d x y : Int} {μ : Mm} (hK : KR μ) (hM : GM G μ) (hR : RM R μ) (hk : R[k]? = some y) (hl : R.length ≤ 27) (h65 : m_gt μ 50 65 = a) (ha : 0 ≤ a ∧ a ≤ 7 ∧ a < G.1 1) (hA : At a b u c d x μ) (hu : 0 ≤ u ∧ u ≤ 30) (hd : 0 ≤ d ∧ d ≤ 300) (hx : 0 ≤ x ∧ x ≤ 30) (hy : y = -2 ∨ 0 ≤ y ∧ y ≤ 9) : ∃ M, jX8_goesThrough_13b K N 50 k μ = jX8_goesThrough_92 K N 50 (k + 1) M ∧ At a b (u + 1) c (d + tk y) (x + if y = -2 then 1 else 0) M ∧ m_gt M 50 65 = a ∧ FrA a μ M := by
  obtain ⟨a0, a1, a2, a3, a4⟩ := hA
  have hkl : k < R.length := (List.getElem?_eq_some_iff.mp hk).1
  have ht := tk_ok hy
  have e2 := hM.1.2.1
  have e89 : m_gt μ 89 k = y := hR.2.get hk (by omega)
  have e58 := hR.1
  by_cases c2 : y = -2
  · refine ⟨m_st (m_st (m_st μ 91 a (u + 1)) 93 a (d + tk y)) 94 a (x + 1), ?_, ?_, ?_, ?_⟩
    · unfold jX8_goesThrough_13b
      simp (disch := omega) only [e58, h65, e2, a1, a3, a4, e89, taken_M, r_50_32 hK, r_50_59 hK, r_50_61 hK, r_50_63 hK, r_50_64 hK, ald_e (k_75 hK), ast_e (k_75 hK), len_e (k_75 hK) (by decide) (by decide), ald_e (k_89 hK), ast_e (k_89 hK), len_e (k_89 hK) (by decide) (by decide), ald_e (k_91 hK), ast_e (k_91 hK), len_e (k_91 hK) (by decide) (by decide), ald_e (k_93 hK), ast_e (k_93 hK), len_e (k_93 hK) (by decide) (by decide), ald_e (k_94 hK), ast_e (k_94 hK), len_e (k_94 hK) (by decide) (by decide), bnd_e, b2_e, ob_e, gt_same, gt_r, gt_i, i_add_e, i_sub_e, chk_st, len_st, ald_st, ast_st, if_pos, if_neg]
    · rw [if_pos c2]
      unfold At
      simp (disch := omega) only [gt_same, gt_r, a0, a2]
      exact ⟨trivial, trivial, trivial, trivial, trivial⟩
    · simp (disch := omega) only [gt_r, h65]
    · exact (((FrA.rf a μ).st (by decide)).st (by decide)).st (by decide)
  · refine ⟨m_st (m_st μ 91 a (u + 1)) 93 a (d + tk y), ?_, ?_, ?_, ?_⟩
    · unfold jX8_goesThrough_13b
      simp (disch := omega) only [e58, h65, e2, a1, a3, a4, e89, taken_M, r_50_32 hK, r_50_59 hK, r_50_61 hK, r_50_63 hK, r_50_64 hK, ald_e (k_75 hK), ast_e (k_75 hK), len_e (k_75 hK) (by decide) (by decide), ald_e (k_89 hK), ast_e (k_89 hK), len_e (k_89 hK) (by decide) (by decide), ald_e (k_91 hK), ast_e (k_91 hK), len_e (k_91 hK) (by decide) (by decide), ald_e (k_93 hK), ast_e (k_93 hK), len_e (k_93 hK) (by decide) (by decide), ald_e (k_94 hK), ast_e (k_94 hK), len_e (k_94 hK) (by decide) (by decide), bnd_e, b2_e, ob_e, gt_same, gt_r, gt_i, i_add_e, i_sub_e, chk_st, len_st, ald_st, ast_st, if_pos, if_neg]
    · rw [if_neg c2]
      unfold At
      simp (disch := omega) only [gt_same, gt_r, a0, a2, a4]
      exact ⟨trivial, trivial, trivial, trivial, by omega⟩
    · simp (disch := omega) only [gt_r, h65]
    · exact ((FrA.rf a μ).st (by decide)).st (by decide)
theorem goes_2 {K : Int → Int → Mm → Option Mm} {N : Nat} {G : Gm} {k a b u d x : Int} {μ : Mm} (hK : KR μ) (hM : GM G μ) (h65 : m_gt μ 50 65 = a) (ha : 0 ≤ a ∧ a ≤ 7) (hA : At a b u 0 d x μ) : ∃ M, jX8_goesThrough_92 K N 50 k μ = jX8_goesThrough_140 K N 50 k M ∧ At a b u (if d = G.1 0 then u else 0) d x M ∧ m_gt M 50 65 = a ∧ FrA a μ M := by
  obtain ⟨a0, a1, a2, a3, a4⟩ := hA
  have e1 := hM.1.1
  by_cases c2 : d = G.1 0
  · refine ⟨m_st μ 92 a u, ?_, ?_, ?_, ?_⟩
    · unfold jX8_goesThrough_92
      simp (disch := omega) only [h65, e1, a1, a2, a3, a4, c2, not_true_eq_false, if_false, r_50_31 hK, r_50_61 hK, r_50_62 hK, r_50_63 hK, ald_e (k_74 hK), ast_e (k_74 hK), len_e (k_74 hK) (by decide) (by decide), ald_e (k_91 hK), ast_e (k_91 hK), len_e (k_91 hK) (by decide) (by decide), ald_e (k_92 hK), ast_e (k_92 hK), len_e (k_92 hK) (by decide) (by decide), ald_e (k_93 hK), ast_e (k_93 hK), len_e (k_93 hK) (by decide) (by decide), bnd_e, b2_e, ob_e, gt_same, gt_r, gt_i, i_add_e, i_sub_e, chk_st, len_st, ald_st, ast_st]
    · rw [if_pos c2]
      unfold At
      simp (disch := omega) only [gt_same, gt_r, a0, a1, a3, a4]
      exact ⟨trivial, trivial, trivial, trivial, trivial⟩
    · simp (disch := omega) only [gt_r, h65]
    · exact (FrA.rf a μ).st (by decide)
  · refine ⟨μ, ?_, ?_, h65, FrA.rf a μ⟩
    · unfold jX8_goesThrough_92
      simp (disch := omega) only [h65, e1, a1, a2, a3, a4, c2, not_false_eq_true, if_true, r_50_31 hK, r_50_61 hK, r_50_62 hK, r_50_63 hK, ald_e (k_74 hK), ast_e (k_74 hK), len_e (k_74 hK) (by decide) (by decide), ald_e (k_91 hK), ast_e (k_91 hK), len_e (k_91 hK) (by decide) (by decide), ald_e (k_92 hK), ast_e (k_92 hK), len_e (k_92 hK) (by decide) (by decide), ald_e (k_93 hK), ast_e (k_93 hK), len_e (k_93 hK) (by decide) (by decide), bnd_e, b2_e, ob_e, gt_same, gt_r, gt_i, i_add_e, i_sub_e, chk_st, len_st, ald_st, ast_st]
    · rw [if_neg c2]
      exact ⟨a0, a1, a2, a3, a4⟩
theorem isOver_M {N : Nat} {G : Gm} {a b u c d x : Int} {μ : Mm} (hK : KR μ) (hM : GM G μ) (ha : 0 ≤ a ∧ a ≤ 8) (hA : At a b u c d x μ) : jX8_isOver N 50 a μ = some (if 0 < c ∨ u = G.1 2 then 1 else 0, μ) := by
  obtain ⟨a0, a1, a2, a3, a4⟩ := hA
  have e3 := hM.1.2.2.1
  unfold jX8_isOver jX8_isOver_24 jX8_isOver_29
  simp (disch := omega) only [a1, a2, e3, r_50_33 hK, r_50_61 hK, r_50_62 hK, ald_e (k_76 hK), ast_e (k_76 hK), len_e (k_76 hK) (by decide) (by decide), ald_e (k_91 hK), ast_e (k_91 hK), len_e (k_91 hK) (by decide) (by decide), ald_e (k_92 hK), ast_e (k_92 hK), len_e (k_92 hK) (by decide) (by decide), bnd_e, b2_e, ob_e, gt_same, gt_r, gt_i, i_add_e, i_sub_e, chk_st, len_st, ald_st, ast_st, z_e (x := 0) (Or.inl rfl), z_e (x := 1) (Or.inr rfl)]
  by_cases c1 : 0 < c
  · rw [if_pos c1, if_pos (Or.inl c1)]
  · rw [if_neg c1]
    by_cases c2 : u = G.1 2
    · rw [if_neg (not_not_intro c2), if_pos (Or.inr c2)]
    · rw [if_pos c2, if_neg (by omega)]
theorem empties_M {N : Nat} {f v : Int} {μ : Mm} (hK : KR μ) (h0 : 0 ≤ f ∧ f ≤ 8) : ∃ M, jX8_empties N 50 f v μ = some M ∧ At f v 0 0 0 0 M ∧ (∀ r i, i ≠ f → m_gt M r i = m_gt μ r i) ∧ Fr [90, 91, 92, 93, 94] [] μ M := by
  refine ⟨m_st (m_st (m_st (m_st (m_st μ 90 f v) 91 f 0) 92 f 0) 93 f 0) 94 f 0, ?_, ?_, ?_, ?_⟩
  · unfold jX8_empties
    simp (disch := omega) only [r_50_60 hK, r_50_61 hK, r_50_62 hK, r_50_63 hK, r_50_64 hK, ald_e (k_90 hK), ast_e (k_90 hK), len_e (k_90 hK) (by decide) (by decide), ald_e (k_91 hK), ast_e (k_91 hK), len_e (k_91 hK) (by decide) (by decide), ald_e (k_92 hK), ast_e (k_92 hK), len_e (k_92 hK) (by decide) (by decide), ald_e (k_93 hK), ast_e (k_93 hK), len_e (k_93 hK) (by decide) (by decide), ald_e (k_94 hK), ast_e (k_94 hK), len_e (k_94 hK) (by decide) (by decide), bnd_e, b2_e, ob_e, gt_same, gt_r, gt_i, i_add_e, i_sub_e, chk_st, len_st, ald_st, ast_st]
  · unfold At
    simp (disch := omega) only [gt_same, gt_r]
    exact ⟨trivial, trivial, trivial, trivial, trivial⟩
  · intro r i hi
    simp (disch := omega) only [gt_i]
  · exact Fr.stI (Fr.stI (Fr.stI (Fr.stI (Fr.stI (Fr.rf0 _ _ _) (by simp)) (by simp)) (by simp)) (by simp)) (by simp)
/-- of frames that are over -/
def FDm (G : Gm) (Fs : List (List Int)) (μ : Mm) : Prop := ∀ f : Nat, f < Fs.length → At f (lens (Fs.take f)) (Fs.getD f []).length (cln G (Fs.getD f [])) (dn (Fs.getD f [])) (fls (Fs.getD f [])) μ
def CDm (s : Sh) (μ : Mm) : Prop := m_gt μ 50 65 = s.1.length ∧ At s.1.length (lens s.1) s.2.length 0 (dn s.2) (fls s.2) μ
theorem At.fr {a b u c d x : Int} {μ μ' : Mm} (h : At a b u c d x μ) {e : Int} (f : FrA e μ μ') (ha : a ≠ e) : At a b u c d x μ' := by
  obtain ⟨a0, a1, a2, a3, a4⟩ := h
  exact ⟨by rw [f.2 90 (by decide) (by decide) a ha]; exact a0, by rw [f.2 91 (by decide) (by decide) a ha]; exact a1, by rw [f.2 92 (by decide) (by decide) a ha]; exact a2, by rw [f.2 93 (by decide) (by decide) a ha]; exact a3, by rw [f.2 94 (by decide) (by decide) a ha]; exact a4⟩
theorem FDm.snoc {G : Gm} {Fs : List (List Int)} {F : List Int} {μ : Mm} (h : FDm G Fs μ) (hA : At Fs.length (lens Fs) F.length (cln G F) (dn F) (fls F) μ) : FDm G (Fs ++ [F]) μ := by
  intro f hf
  rw [List.length_append, List.length_singleton] at hf
  by_cases c : f = Fs.length
  · subst c
    have e : (Fs ++ [F]).getD Fs.length [] = F := by rw [List.getD_eq_getElem?_getD, List.getElem?_append_right (Nat.le_refl _), Nat.sub_self]; rfl
    rw [List.take_left, e]
    exact hA
  · have e : (Fs ++ [F]).getD f [] = Fs.getD f [] := by rw [List.getD_eq_getElem?_getD, List.getElem?_append_left (by omega), ← List.getD_eq_getElem?_getD]
    rw [List.take_append_of_le_length (by omega), e]
    exact h f (by omega)
def fGo : List Int := [90, 91, 92, 93, 94]
def sGo : List (Int × Int) := [(50, 65), (50, 66), (50, 67), (50, 68)]
theorem goes_step {N n : Nat} {G : Gm} (hG : GOK G) {R : List Int} {k : Nat} {y : Int} {s : Sh} {μ : Mm} (hK : KR μ) (hM : GM G μ) (hR : RM R μ) (hk : R[k]? = some y) (hl : R.length ≤ 27) (hO : SOK G s) (hc : can G s y) (hf : (s.1.length : Int) < G.1 1) (hF : FDm G s.1 μ) (hC : CDm s μ) (hkl : (k : Int) = lens s.1 + s.2.length) : ∃ μ', jX8_goesThrough_13 N (n + 1) 50 k μ = jX8_goesThrough_13 N n 50 (k + 1) μ' ∧ FDm G (adds G s y).1 μ' ∧ CDm (adds G s y) μ' ∧ KR μ' ∧ GM G μ' ∧ RM R μ' ∧ Fr fGo sGo μ μ' := by
  have h1 := hG.2.1
  have hr := hG.2.2.1
  have hp := hG.1
  obtain ⟨d1, d2⟩ := hO.2.2.2.1 hf
  have dn0 := dn_nn hO.2.2.1
  have hst := sta_ok hG hO
  have hy : y = -2 ∨ 0 ≤ y ∧ y ≤ 9 := by rcases hc.2 with z | z <;> omega
  have hfl := fls_ok s.2
  have hnf : ¬ (s.1.length : Int) = G.1 1 := by omega
  obtain ⟨M1, e1, A1, w1, f1⟩ := goes_1 (K := jX8_goesThrough_13 N n) (N := N) hK hM hR hk hl hC.1 (by omega) hC.2 (by omega) (by omega) (by omega) hy
  obtain ⟨M2, e2, A2, w2, f2⟩ := goes_2 (K := jX8_goesThrough_13 N n) (N := N) (k := (k : Int) + 1) (f1.KR hK) (f1.GM hM) w1 (by omega) A1
  have f12 := f1.trI f2
  have K2 := f12.KR hK
  have G2 := f12.GM hM
  have R2 := f12.RM hR
  have F2 : FDm G s.1 M2 := fun f hf => (hF f hf).fr f12 (by omega)
  have eu : ((s.2 ++ [y]).length : Int) = s.2.length + 1 := by rw [List.length_append, List.length_singleton]; omega
  have ed := dn_one s.2 y
  have ef : fls (s.2 ++ [y]) = fls s.2 + if y = -2 then 1 else 0 := by rw [fls_app]; simp [fls, lsum]
  have ec : cln G (s.2 ++ [y]) = if dn s.2 + tk y = G.1 0 then (s.2.length : Int) + 1 else 0 := by unfold cln; rw [ed, eu]
  rw [← ec, ← ed, ← ef, ← eu] at A2
  have step : jX8_goesThrough_13 N (n + 1) 50 k μ = jX8_goesThrough_140 (jX8_goesThrough_13 N n) N 50 (k + 1) M2 := by
    show jX8_goesThrough_13b (jX8_goesThrough_13 N n) N 50 k μ = _
    rw [e1, e2]
  rw [step]
  unfold jX8_goesThrough_140
  rw [w2, isOver_M K2 G2 (by omega) A2, b2_e]
  by_cases z : dn (s.2 ++ [y]) = G.1 0 ∨ ((s.2 ++ [y]).length : Int) = G.1 2
  · have ea : adds G s y = (s.1 ++ [s.2 ++ [y]], []) := by unfold adds; rw [if_neg hnf, if_pos z]
    have zz : 0 < cln G (s.2 ++ [y]) ∨ ((s.2 ++ [y]).length : Int) = G.1 2 := by
      rcases z with z | z
      · left; unfold cln; rw [if_pos z, eu]; omega
      · right; exact z
    rw [if_pos zz, if_pos (by decide), bnd_e, gt_same, w2]
    have K3 := K2.st (r := 50) (i := 65) (i_add (s.1.length : Int) 1) (by decide)
    rw [i_add_e (by omega) (by omega)] at K3 ⊢
    obtain ⟨M4, e4, A4, o4, f4⟩ := empties_M (N := N) (f := (s.1.length : Int) + 1) (v := (k : Int) + 1) K3 (by omega)
    rw [e4, ob_e, ea]
    have hsl : ((s.1 ++ [s.2 ++ [y]]).length : Int) = s.1.length + 1 := by rw [List.length_append, List.length_singleton]; omega
    have fr : Fr fGo sGo μ M4 := ((f12.1.mono (by decide) (by decide)).stI (r := 50) (i := 65) (v := (s.1.length : Int) + 1) (by decide)).trI (f4.mono (by decide) (by decide))
    have o5 : ∀ r i : Int, r ≠ 50 → i ≠ (s.1.length : Int) + 1 → m_gt M4 r i = m_gt M2 r i := fun r i h1 h2 => by rw [o4 r i h2, gt_r _ _ _ _ h1]
    have At4 : ∀ {a b u c d x : Int}, At a b u c d x M2 → a ≠ (s.1.length : Int) + 1 → At a b u c d x M4 := by
      intro a b u c d x ⟨a0, a1, a2, a3, a4⟩ ha
      exact ⟨by rw [o5 _ _ (by decide) ha]; exact a0, by rw [o5 _ _ (by decide) ha]; exact a1, by rw [o5 _ _ (by decide) ha]; exact a2, by rw [o5 _ _ (by decide) ha]; exact a3, by rw [o5 _ _ (by decide) ha]; exact a4⟩
    refine ⟨M4, rfl, ?_, ?_, fr.KR hK (by decide), hM.ag (fr.ag (by decide)), hR.ag (fr.ag (by decide)), fr⟩
    · refine FDm.snoc (fun f hf => At4 (F2 f hf) (by omega)) (At4 A2 (by omega))
    · refine ⟨?_, ?_⟩
      · rw [o4 50 65 (by omega), gt_same, hsl]
      · dsimp only
        rw [hsl, lens_snoc, eu, show lens s.1 + ((s.2.length : Int) + 1) = (k : Int) + 1 by omega]
        exact A4
  · have ea : adds G s y = (s.1, s.2 ++ [y]) := by unfold adds; rw [if_neg hnf, if_neg z]
    have z1 : ¬ dn (s.2 ++ [y]) = G.1 0 := fun q => z (Or.inl q)
    have ec0 : cln G (s.2 ++ [y]) = 0 := by unfold cln; rw [if_neg z1]
    have zz : ¬ (0 < cln G (s.2 ++ [y]) ∨ ((s.2 ++ [y]).length : Int) = G.1 2) := by
      rw [ec0]
      intro q
      rcases q with q | q
      · omega
      · exact z (Or.inr q)
    rw [if_neg zz, if_neg (by decide), ea]
    rw [ec0] at A2
    have fr : Fr fGo sGo μ M2 := f12.1.mono (by decide) (by decide)
    exact ⟨M2, rfl, F2, ⟨w2, A2⟩, K2, G2, R2, fr⟩
