/-! ===== PURE: the reference's sheet, to the end ===== -/
theorem spl_full {G : Gm} : ∀ (l R : List Int), ((spl G R).1.length : Int) = G.1 1 → spl G (R ++ l) = ((spl G R).1, (spl G R).2 ++ l)
  | [], R, _ => by simp
  | x :: l, R, h => by
    have e : spl G (R ++ [x]) = ((spl G R).1, (spl G R).2 ++ [x]) := by rw [spl_snoc]; unfold adds; rw [if_pos h]
    have h2 : ((spl G (R ++ [x])).1.length : Int) = G.1 1 := by rw [e]; exact h
    have := spl_full l (R ++ [x]) h2
    rw [List.append_assoc] at this
    rw [show x :: l = [x] ++ l from rfl, this, e]
    simp
theorem take_snoc {R : List Int} {k : Nat} {y : Int} (h : R[k]? = some y) : R.take (k + 1) = R.take k ++ [y] := by
  obtain ⟨h1, h2⟩ := List.getElem?_eq_some_iff.mp h
  rw [List.take_succ_eq_append_getElem h1, h2]
theorem VR.at {G : Gm} {R : List Int} (h : VR G R) {k : Nat} {y : Int} (hk : R[k]? = some y) : can G (spl G (R.take k)) y := by
  obtain ⟨h1, h2⟩ := List.getElem?_eq_some_iff.mp hk
  have := h k h1
  rw [List.getD_eq_getElem?_getD, hk] at this
  exact this
theorem adds_end {G : Gm} {s : Sh} {y : Int} (h : ¬ (s.1.length : Int) = G.1 1) : ((adds G s y).1.length : Int) = G.1 1 → (adds G s y).2 = [] := by
  unfold adds
  rw [if_neg h]
  split
  · intro _; rfl
  · intro z; exact absurd z h
theorem At.ex {a b u c d x : Int} {μ μ' : Mm} (h : At a b u c d x μ) (f : ∀ r, 90 ≤ r → r ≤ 94 → m_gt μ' r a = m_gt μ r a) : At a b u c d x μ' := by
  obtain ⟨a0, a1, a2, a3, a4⟩ := h
  exact ⟨by rw [f 90 (by decide) (by decide)]; exact a0, by rw [f 91 (by decide) (by decide)]; exact a1, by rw [f 92 (by decide) (by decide)]; exact a2, by rw [f 93 (by decide) (by decide)]; exact a3, by rw [f 94 (by decide) (by decide)]; exact a4⟩
theorem goes_loop {N : Nat} {G : Gm} (hG : GOK G) {R : List Int} (hV : VR G R) : ∀ (j n k : Nat) {μ : Mm}, k + j = R.length → j < n → KR μ → GM G μ → RM R μ → FDm G (spl G (R.take k)).1 μ → CDm (spl G (R.take k)) μ → (((spl G (R.take k)).1.length : Int) = G.1 1 → (spl G (R.take k)).2 = []) → ∃ (k' : Nat) (μ' : Mm), jX8_goesThrough_13 N n 50 k μ = jX8_goesThrough_176 N 50 k' μ' ∧ k' ≤ R.length ∧ (k' = R.length ∨ ((spl G (R.take k')).1.length : Int) = G.1 1) ∧ (KR μ' ∧ GM G μ' ∧ RM R μ') ∧ (FDm G (spl G (R.take k')).1 μ' ∧ CDm (spl G (R.take k')) μ') ∧ (((spl G (R.take k')).1.length : Int) = G.1 1 → (spl G (R.take k')).2 = []) ∧ Fr fGo sGo μ μ'
  | j, 0, k, μ, hj, hn, hK, hM, hR, hF, hC, hE => absurd hn (by omega)
  | j, n + 1, k, μ, hj, hn, hK, hM, hR, hF, hC, hE => by
    have hl := (R_len hG hV).1
    have h2 := ((hV.take k).ok hG).2.1
    by_cases c : k = R.length
    · refine ⟨k, μ, ?_, by omega, Or.inl c, ⟨hK, hM, hR⟩, ⟨hF, hC⟩, hE, Fr.rf0 _ _ _⟩
      show jX8_goesThrough_13b (jX8_goesThrough_13 N n) N 50 k μ = _
      unfold jX8_goesThrough_13b
      rw [hR.1, if_pos (by omega)]
    by_cases c2 : ((spl G (R.take k)).1.length : Int) = G.1 1
    · refine ⟨k, μ, ?_, by omega, Or.inr c2, ⟨hK, hM, hR⟩, ⟨hF, hC⟩, hE, Fr.rf0 _ _ _⟩
      show jX8_goesThrough_13b (jX8_goesThrough_13 N n) N 50 k μ = _
      unfold jX8_goesThrough_13b
      rw [hR.1, if_neg (by omega), r_50_32 hK, ald_e (k_75 hK) (by decide) (by decide), ob_e, hM.1.2.1, hC.1, if_pos (by omega)]
    · obtain ⟨j', rfl⟩ : ∃ j', j = j' + 1 := ⟨j - 1, by omega⟩
      have hkl : k < R.length := by omega
      have hk : R[k]? = some R[k] := List.getElem?_eq_getElem hkl
      have e := take_snoc hk
      have hs : spl G (R.take (k + 1)) = adds G (spl G (R.take k)) R[k] := by rw [e, spl_snoc]
      have hlen := spl_len G (R.take k)
      rw [List.length_take, Nat.min_eq_left (by omega)] at hlen
      obtain ⟨μ1, e1, F1, C1, K1, G1, R1, f1⟩ := goes_step (N := N) (n := n) hG hK hM hR hk hl ((hV.take k).ok hG) (hV.at hk) (by omega) hF hC hlen
      rw [← hs] at F1 C1
      obtain ⟨k', μ', e2, a1, a2, a3, a4, a5, a6⟩ := goes_loop hG hV j' n (k + 1) (by omega) (by omega) K1 G1 R1 F1 C1 (by rw [hs]; exact adds_end c2)
      rw [show ((k + 1 : Nat) : Int) = (k : Int) + 1 by omega] at e2
      exact ⟨k', μ', e1.trans e2, a1, a2, a3, a4, a5, f1.trI a6⟩
theorem owed_M {N : Nat} {G : Gm} {f b u d x : Int} {F : List Int} {μ : Mm} (hK : KR μ) (hM : GM G μ) (h0 : 0 ≤ f ∧ f ≤ 8) (hF : F.length ≤ 3) (hA : At f b u (cln G F) d x μ) : jX8_owed N 50 f μ = some (ow G F, μ) := by
  obtain ⟨a0, a1, a2, a3, a4⟩ := hA
  unfold jX8_owed jX8_owed_26 ow
  have hc : 0 ≤ cln G F ∧ cln G F ≤ 3 := by unfold cln; split <;> omega
  have he := earns_M hM hc.1 hc.2
  simp (disch := omega) only [a2, he, r_50_62 hK, r_50_35 hK, ald_e (k_92 hK), ast_e (k_92 hK), len_e (k_92 hK) (by decide) (by decide), ald_e (k_78 hK), ast_e (k_78 hK), len_e (k_78 hK) (by decide) (by decide), bnd_e, b2_e, ob_e, gt_same, gt_r, gt_i, i_add_e, i_sub_e, chk_st, len_st, ald_st, ast_st]
  by_cases c : cln G F ≤ 0
  · rw [if_pos c, show cln G F = 0 by omega]
    rfl
  · rw [if_neg c]
def mx0 (x : Int) : Int := if x ≤ 0 then 0 else x
/-- the fills that the first j frames want -/
def lat (G : Gm) (Fs : List (List Int)) (j : Nat) : Int := mx0 (cnt (owd G (Fs.take j)) - (lens Fs - lens (Fs.take j)))
theorem lat_succ {G : Gm} (hG : GOK G) {Fs : List (List Int)} (hF : ∀ F ∈ Fs, FO G F) {j : Nat} (hj : j < Fs.length) : lat G Fs (j + 1) = (if ow G (Fs.getD j []) - (lens Fs - lens (Fs.take j) - (Fs.getD j []).length) ≤ lat G Fs j then lat G Fs j else ow G (Fs.getD j []) - (lens Fs - lens (Fs.take j) - (Fs.getD j []).length)) := by
  have e : Fs.take (j + 1) = Fs.take j ++ [Fs.getD j []] := by
    rw [List.take_succ_eq_append_getElem hj, List.getD_eq_getElem?_getD, List.getElem?_eq_getElem hj]
    rfl
  have hFj : FO G (Fs.getD j []) := by
    rw [List.getD_eq_getElem?_getD, List.getElem?_eq_getElem hj]
    exact hF _ (List.getElem_mem hj)
  have h1 := lens_take_le Fs (j + 1)
  have h2 := lens_snoc (Fs.take j) (Fs.getD j [])
  rw [← e] at h2
  have hO := owd_ok (G := G) (Fs := Fs.take j) (fun F h => hF F (List.mem_of_mem_take h))
  have h3 := cnt_pls (o := ltn (Fs.getD j []).length (owd G (Fs.take j))) (e := ow G (Fs.getD j [])) (ltn_ok hO hFj.2.1) (ern_ok hG _).1 (ern_ok hG _).2
  rw [cnt_ltn _ hO, ← owd_snoc, ← e] at h3
  have hw := ern_ok hG (cln G (Fs.getD j []))
  have hwe : ow G (Fs.getD j []) = ern G (cln G (Fs.getD j [])) := rfl
  have hc := cnt_ok (o := owd G (Fs.take j))
  unfold lat mx0
  rw [h3, h2]
  rw [← hwe] at hw
  generalize ow G (Fs.getD j []) = w at *
  generalize cnt (owd G (Fs.take j)) = c at *
  generalize lens (Fs.take j) = a at *
  generalize lens Fs = L at *
  generalize ((Fs.getD j []).length : Int) = q at *
  repeat' split <;> omega
theorem goes_230 {N : Nat} {G : Gm} (hG : GOK G) {k' : Int} {Fs : List (List Int)} (hF : ∀ F ∈ Fs, FO G F) (hf : (Fs.length : Int) = G.1 1) (hL : lens Fs ≤ 24) : ∀ (j n i : Nat) {μ : Mm}, i + j = Fs.length → j < n → KR μ → GM G μ → FDm G Fs μ → m_gt μ 50 65 = Fs.length → m_gt μ 90 Fs.length = lens Fs → m_gt μ 50 67 = lat G Fs i → ∃ μ', jX8_goesThrough_230 N n 50 k' i μ = jX8_goesThrough_319 N N 50 k' (m_st μ' 91 Fs.length (i_sub (m_gt μ 50 58) (lens Fs))) ∧ m_gt μ' 50 67 = lat G Fs Fs.length ∧ Fr [] [(50, 67)] μ μ'
  | j, 0, i, μ, hj, hn, _, _, _, _, _, _ => absurd hn (by omega)
  | 0, n + 1, i, μ, hj, hn, hK, hM, hD, h65, h90, h67 => by
    have hg := hG.2.1
    refine ⟨μ, ?_, ?_, Fr.rf0 _ _ _⟩
    · show jX8_goesThrough_230b (jX8_goesThrough_230 N n) N 50 k' i μ = _
      unfold jX8_goesThrough_230b
      have hi : (i : Int) = Fs.length := by omega
      simp (disch := omega) only [hM.1.2.1, h65, h90, hi, ← hf, r_50_32 hK, r_50_60 hK, r_50_61 hK, ald_e (k_75 hK), ast_e (k_75 hK), len_e (k_75 hK) (by decide) (by decide), ald_e (k_90 hK), ast_e (k_90 hK), len_e (k_90 hK) (by decide) (by decide), ald_e (k_91 hK), ast_e (k_91 hK), len_e (k_91 hK) (by decide) (by decide), bnd_e, b2_e, ob_e, gt_same, gt_r, gt_i, i_add_e, i_sub_e, chk_st, len_st, ald_st, ast_st, if_pos]
    · rw [h67, show i = Fs.length by omega]
  | j + 1, n + 1, i, μ, hj, hn, hK, hM, hD, h65, h90, h67 => by
    have hg := hG.2.1
    have hi : i < Fs.length := by omega
    have hFi : FO G (Fs.getD i []) := by
      rw [List.getD_eq_getElem?_getD, List.getElem?_eq_getElem hi]
      exact hF _ (List.getElem_mem hi)
    have hr := hG.2.2.1
    have hA := hD i hi
    have h3 := hFi.2.2.1
    have hO := owed_M (N := N) (F := Fs.getD i []) hK hM (by omega) (by omega) hA
    obtain ⟨a0, a1, a2, a3, a4⟩ := hA
    have hw := ern_ok hG (cln G (Fs.getD i []))
    have hwe : ow G (Fs.getD i []) = ern G (cln G (Fs.getD i [])) := rfl
    have hs := lat_succ hG hF hi
    have l1 := lens_take_le Fs i
    have l0 : 0 ≤ lens (Fs.take i) := by unfold lens; omega
    have key : ∀ v, v = lat G Fs (i + 1) → ∃ μ', jX8_goesThrough_230 N n 50 k' (i + 1 : Nat) (m_st μ 50 67 v) = jX8_goesThrough_319 N N 50 k' (m_st μ' 91 Fs.length (i_sub (m_gt μ 50 58) (lens Fs))) ∧ m_gt μ' 50 67 = lat G Fs Fs.length ∧ Fr [] [(50, 67)] μ μ' := by
      intro v hv
      have f1 := Fr.st μ 50 67 v
      obtain ⟨μ', e1, e2, e3⟩ := goes_230 hG hF hf hL j n (i + 1) (μ := m_st μ 50 67 v) (by omega) (by omega) (hK.st _ (by decide)) (hM.ag (f1.ag (by decide))) (fun f hf => (hD f hf).ex (fun r h1 h2 => gt_r _ _ _ _ (by omega))) (by rw [gt_i _ _ _ (by decide)]; exact h65) (by rw [gt_r _ _ _ _ (by decide)]; exact h90) (by rw [gt_same]; exact hv)
      rw [gt_i _ _ _ (by decide)] at e1
      exact ⟨μ', e1, e2, f1.trI e3⟩
    show ∃ μ', jX8_goesThrough_230b (jX8_goesThrough_230 N n) N 50 k' i μ = _ ∧ _
    unfold jX8_goesThrough_230b jX8_goesThrough_287
    simp (disch := omega) only [hM.1.2.1, h65, h90, h67, a0, a1, hO, ← hf, r_50_32 hK, r_50_60 hK, r_50_61 hK, ald_e (k_75 hK), ast_e (k_75 hK), len_e (k_75 hK) (by decide) (by decide), ald_e (k_90 hK), ast_e (k_90 hK), len_e (k_90 hK) (by decide) (by decide), ald_e (k_91 hK), ast_e (k_91 hK), len_e (k_91 hK) (by decide) (by decide), bnd_e, b2_e, ob_e, gt_same, gt_r, gt_i, i_add_e, i_sub_e, chk_st, len_st, ald_st, ast_st, if_neg, chk_e (k_50 hK)]
    by_cases z : ow G (Fs.getD i []) - (lens Fs - lens (Fs.take i) - ((Fs.getD i []).length : Int)) ≤ lat G Fs i
    · rw [if_pos z]
      rw [if_pos z] at hs
      exact key _ hs.symm
    · rw [if_neg z]
      rw [if_neg z] at hs
      exact key _ hs.symm
theorem goes_319 {N : Nat} {G : Gm} (hG : GOK G) {R : List Int} (hl : R.length ≤ 27) {a h w : Int} (ha : 0 ≤ a ∧ a ≤ 8) : ∀ (j n i : Nat) (st : Int) {μ : Mm}, i + j = R.length → j < n → KR μ → GM G μ → RM R μ → m_gt μ 50 66 = st → 1 ≤ st ∧ st ≤ G.1 0 → FV G st (R.drop i) → m_gt μ 50 65 = a → m_gt μ 91 a = h → m_gt μ 50 67 = w → ∃ μ', jX8_goesThrough_319 N n 50 i μ = some μ' ∧ m_gt μ' 50 66 = (R.drop i).foldl (nst G) st ∧ m_gt μ' 50 68 = (if h = w then 1 else 0) ∧ Fr [] [(50, 66), (50, 68)] μ μ'
  | j, 0, i, st, μ, hj, hn, _, _, _, _, _, _, _, _, _ => absurd hn (by omega)
  | 0, n + 1, i, st, μ, hj, hn, hK, hM, hR, h66, hst, hv, h65, h91, h67 => by
    show ∃ μ', jX8_goesThrough_319b (jX8_goesThrough_319 N n) N 50 i μ = _ ∧ _
    unfold jX8_goesThrough_319b jX8_goesThrough_397
    simp (disch := omega) only [hR.1, h65, h91, h67, r_50_61 hK, ald_e (k_91 hK), ast_e (k_91 hK), len_e (k_91 hK) (by decide) (by decide), bnd_e, b2_e, ob_e, gt_same, gt_r, gt_i, i_add_e, i_sub_e, chk_st, len_st, ald_st, ast_st, if_pos, chk_e (k_50 hK), z_e (x := 0) (Or.inl rfl), z_e (x := 1) (Or.inr rfl)]
    rw [List.drop_eq_nil_of_le (by omega)]
    by_cases z : h = w
    · rw [if_neg (not_not_intro z), if_pos z]
      exact ⟨_, rfl, by rw [gt_i _ _ _ (by decide)]; exact h66, by rw [gt_same], Fr.stI (Fr.rf0 _ _ _) (by decide)⟩
    · rw [if_pos z, if_neg z]
      exact ⟨_, rfl, by rw [gt_i _ _ _ (by decide)]; exact h66, by rw [gt_same], Fr.stI (Fr.rf0 _ _ _) (by decide)⟩
  | j + 1, n + 1, i, st, μ, hj, hn, hK, hM, hR, h66, hst, hv, h65, h91, h67 => by
    have hi : i < R.length := by omega
    have e89 : m_gt μ 89 i = R[i] := hR.2.get (List.getElem?_eq_getElem hi) (by omega)
    have ed := List.drop_eq_getElem_cons hi
    rw [ed] at hv ⊢
    have hv1 := hv.1
    have hv2 := hv.2
    have hns := nst_ok hG hst hv1
    have hp := hG.1
    have htk := tk_ok (x := R[i]) (by omega)
    have key : ∀ v (μ1 : Mm), Fr [] [(50, 66), (50, 68)] μ μ1 → v = nst G st R[i] → ∃ μ', jX8_goesThrough_319 N n 50 (i + 1 : Nat) (m_st μ1 50 66 v) = some μ' ∧ m_gt μ' 50 66 = (R[i] :: R.drop (i + 1)).foldl (nst G) st ∧ m_gt μ' 50 68 = (if h = w then 1 else 0) ∧ Fr [] [(50, 66), (50, 68)] μ μ' := by
      intro v μ1 f0 hv
      subst hv
      have f1 : Fr [] [(50, 66), (50, 68)] μ (m_st μ1 50 66 (nst G st R[i])) := f0.stI (by decide)
      have g := f1.ag (wh := [91]) (so := [(50, 65), (50, 67)]) (by decide)
      obtain ⟨μ', e1, e2, e3, e4⟩ := goes_319 hG hl ha j n (i + 1) (nst G st R[i]) (μ := m_st μ1 50 66 (nst G st R[i])) (by omega) (by omega) (f1.KR hK (by decide)) (hM.ag (f1.ag (by decide))) (hR.ag (f1.ag (by decide))) (by rw [gt_same]) hns hv2 ((g.2 (50, 65) (by decide)).trans h65) ((g.1 91 (by decide) a).trans h91) ((g.2 (50, 67) (by decide)).trans h67)
      exact ⟨μ', e1, e2, e3, f1.trI e4⟩
    show ∃ μ', jX8_goesThrough_319b (jX8_goesThrough_319 N n) N 50 i μ = _ ∧ _
    unfold jX8_goesThrough_319b jX8_goesThrough_366
    simp (disch := omega) only [hR.1, h66, e89, taken_M, hM.1.1, r_50_31 hK, r_50_59 hK, ald_e (k_74 hK), ast_e (k_74 hK), len_e (k_74 hK) (by decide) (by decide), ald_e (k_89 hK), ast_e (k_89 hK), len_e (k_89 hK) (by decide) (by decide), bnd_e, b2_e, ob_e, gt_same, gt_r, gt_i, i_add_e, i_sub_e, chk_st, len_st, ald_st, ast_st, if_neg, chk_e (k_50 hK)]
    by_cases z : st - tk R[i] = 0
    · rw [if_neg (not_not_intro z)]
      exact key _ _ (Fr.stI (Fr.rf0 _ _ _) (by decide)) (by unfold nst; rw [if_pos z])
    · rw [if_pos z]
      exact key _ _ (Fr.stI (Fr.rf0 _ _ _) (by decide)) (by unfold nst; rw [if_neg z])
/-- what going through leaves -/
def GT (G : Gm) (R : List Int) (μ : Mm) : Prop := FDm G (spl G R).1 μ ∧ (m_gt μ 50 65 = (spl G R).1.length ∧ m_gt μ 90 (spl G R).1.length = lens (spl G R).1 ∧ m_gt μ 91 (spl G R).1.length = (spl G R).2.length) ∧ (((spl G R).1.length : Int) < G.1 1 → m_gt μ 92 (spl G R).1.length = 0 ∧ m_gt μ 93 (spl G R).1.length = dn (spl G R).2 ∧ m_gt μ 94 (spl G R).1.length = fls (spl G R).2) ∧ m_gt μ 50 66 = sta G (spl G R) ∧ m_gt μ 50 67 = (if ((spl G R).1.length : Int) = G.1 1 then cnt (owd G (spl G R).1) else 0) ∧ m_gt μ 50 68 = whi G (spl G R)
theorem FV_take {G : Gm} : ∀ {l : List Int} {st : Int}, FV G st l → ∀ n, FV G st (l.take n)
  | [], _, _, n => by simp [FV]
  | x :: l, st, h, 0 => by simp [FV]
  | x :: l, st, h, n + 1 => ⟨h.1, FV_take h.2 n⟩
theorem goesThrough_M {N : Nat} (hN : 1000000 ≤ N) {G : Gm} (hG : GOK G) {R : List Int} (hV : VR G R) {μ : Mm} (hK : KR μ) (hM : GM G μ) (hR : RM R μ) : ∃ μ', jX8_goesThrough N 50 μ = some μ' ∧ GT G R μ' ∧ Fr fGo sGo μ μ' := by
  have hg := hG.2.1
  have hp := hG.1
  have hl := R_len hG hV
  unfold jX8_goesThrough
  rw [bnd_e]
  have f0 : Fr fGo sGo μ (m_st μ 50 65 0) := Fr.stI (Fr.rf0 _ _ _) (by decide)
  have K0 := f0.KR hK (by decide)
  obtain ⟨M1, e1, A1, o1, g1⟩ := empties_M (N := N) (f := 0) (v := 0) K0 (by omega)
  have f1 : Fr fGo sGo μ M1 := f0.trI (g1.mono (by decide) (by decide))
  rw [e1, ob_e]
  have C1 : CDm (spl G (R.take 0)) M1 := ⟨by rw [o1 50 65 (by decide), gt_same]; rfl, A1⟩
  obtain ⟨k', M2, e2, hk1, hk2, ⟨K2, G2, R2⟩, ⟨F2, C2⟩, hE, f2⟩ := goes_loop (N := N) hG hV R.length N 0 (by omega) (by omega) (f1.KR hK (by decide)) (hM.ag (f1.ag (by decide))) (hR.ag (f1.ag (by decide))) (fun f hf => absurd hf (by simp [spl])) C1 (fun z => by simp [spl] at z; omega)
  rw [show ((0 : Nat) : Int) = 0 from rfl] at e2
  rw [e2]
  have fr2 := f1.trI f2
  have hO := hV.ok hG
  have hlen := spl_len G R
  -- the memory behind the three slots
  let M3 := m_st (m_st (m_st M2 50 66 (G.1 0)) 50 67 0) 50 68 0
  have f3 : Fr [] [(50, 66), (50, 67), (50, 68)] M2 M3 := Fr.stI (Fr.stI (Fr.stI (Fr.rf0 _ _ _) (by decide)) (by decide)) (by decide)
  have K3 := f3.KR K2 (by decide)
  have G3 : GM G M3 := G2.ag (f3.ag (by decide))
  have R3 : RM R M3 := R2.ag (f3.ag (by decide))
  have g3 := f3.ag (wh := [90, 91, 92, 93, 94]) (so := [(50, 65), (50, 58)]) (by decide)
  have h65 : m_gt M3 50 65 = (spl G (R.take k')).1.length := (g3.2 (50, 65) (by decide)).trans C2.1
  have c90 : ∀ r, 90 ≤ r → r ≤ 94 → ∀ i, m_gt M3 r i = m_gt M2 r i := by
    intro r h1 h2 i
    have hr : r = 90 ∨ r = 91 ∨ r = 92 ∨ r = 93 ∨ r = 94 := by omega
    exact g3.1 r (by rcases hr with rfl | rfl | rfl | rfl | rfl <;> decide) i
  have F3 : FDm G (spl G (R.take k')).1 M3 := fun f hf => (F2 f hf).ex (fun r h1 h2 => c90 r h1 h2 f)
  have A3 := C2.2.ex (μ' := M3) (fun r h1 h2 => c90 r h1 h2 _)
  have s66 : m_gt M3 50 66 = G.1 0 := by show m_gt (m_st (m_st (m_st M2 50 66 (G.1 0)) 50 67 0) 50 68 0) 50 66 = _; simp (disch := omega) only [gt_i, gt_same]
  have s67 : m_gt M3 50 67 = 0 := by show m_gt (m_st (m_st (m_st M2 50 66 (G.1 0)) 50 67 0) 50 68 0) 50 67 = _; simp (disch := omega) only [gt_i, gt_same]
  have s68 : m_gt M3 50 68 = 0 := gt_same _ _ _ _
  have hOk := (hV.take k').ok hG
  have hn := hOk.2.1
  by_cases c : ((spl G (R.take k')).1.length : Int) = G.1 1
  · have hs : spl G R = ((spl G (R.take k')).1, R.drop k') := by
      have := spl_full (R.drop k') (R.take k') c
      rw [List.take_append_drop, hE c, List.nil_append] at this
      exact this
    have e176 : jX8_goesThrough_176 N 50 k' M2 = jX8_goesThrough_230 N N 50 k' 0 M3 := by
      unfold jX8_goesThrough_176
      simp (disch := omega) only [G2.1.1, G2.1.2.1, C2.1, r_50_31 K2, r_50_32 K2, ald_e (k_74 K2), ast_e (k_74 K2), len_e (k_74 K2) (by decide) (by decide), ald_e (k_75 K2), ast_e (k_75 K2), len_e (k_75 K2) (by decide) (by decide), bnd_e, b2_e, ob_e, gt_same, gt_r, gt_i, i_add_e, i_sub_e, chk_st, len_st, ald_st, ast_st, if_pos]
      rfl
    rw [e176]
    rw [hs] at hO hlen hl
    dsimp only at hO hlen hl
    have hll := (R_len hG (hV.take k')).2
    obtain ⟨M4, e4, w4, f4⟩ := goes_230 (N := N) (k' := k') hG hOk.1 c hll (spl G (R.take k')).1.length N 0 (by omega) (by omega) K3 G3 F3 h65 A3.1 (by rw [s67]; unfold lat mx0; simp [owd, cnt, lens])
    rw [show ((0 : Nat) : Int) = 0 from rfl] at e4
    have hlat : lat G (spl G (R.take k')).1 (spl G (R.take k')).1.length = cnt (owd G (spl G (R.take k')).1) := by
      unfold lat mx0
      rw [List.take_length]
      have := cnt_ok (o := owd G (spl G (R.take k')).1)
      split <;> omega
    rw [hlat] at w4
    have g4 := f4.ag (wh := [90, 91, 92, 93, 94]) (so := [(50, 65), (50, 58), (50, 66)]) (by decide)
    have e58 : m_gt M3 50 58 = R.length := R3.1
    have hlens0 : 0 ≤ lens (spl G (R.take k')).1 := by unfold lens; omega
    rw [e58, i_sub_e (by omega) (by omega)] at e4
    let M5 := m_st M4 91 (spl G (R.take k')).1.length ((R.length : Int) - lens (spl G (R.take k')).1)
    have f5 : Fr [91] [] M4 M5 := Fr.sa _ _ _ _
    have K5 := f5.KR (f4.KR K3 (by decide)) (by decide)
    have G5 : GM G M5 := (G3.ag (f4.ag (by decide))).ag (f5.ag (by decide))
    have R5 : RM R M5 := (R3.ag (f4.ag (by decide))).ag (f5.ag (by decide))
    have h66 : m_gt M5 50 66 = G.1 0 := (f5.2.2 50 66 (by decide) (by decide)).trans ((g4.2 (50, 66) (by decide)).trans s66)
    have h65' : m_gt M5 50 65 = (spl G (R.take k')).1.length := (f5.2.2 50 65 (by decide) (by decide)).trans ((g4.2 (50, 65) (by decide)).trans h65)
    have h67' : m_gt M5 50 67 = cnt (owd G (spl G (R.take k')).1) := (f5.2.2 50 67 (by decide) (by decide)).trans w4
    have hfill : ((R.drop k').length : Int) ≤ cnt (owd G (spl G (R.take k')).1) ∧ FV G (G.1 0) (R.drop k') := hO.2.2.2.2 c
    obtain ⟨M6, e6, v6, w6, f6⟩ := goes_319 (N := N) hG (R_len hG hV).1 (a := (spl G (R.take k')).1.length) (h := (R.length : Int) - lens (spl G (R.take k')).1) (w := cnt (owd G (spl G (R.take k')).1)) (by omega) (R.length - k') N k' (G.1 0) (μ := M5) (by omega) (by omega) K5 G5 R5 h66 (by omega) hfill.2 h65' (gt_same _ _ _ _) h67'
    refine ⟨M6, ?_, ?_, ?_⟩
    · rw [e4]; exact e6
    · have g6 := f6.ag (wh := [90, 91, 92, 93, 94]) (so := [(50, 65), (50, 67)]) (by decide)
      have cc : ∀ r, 90 ≤ r → r ≤ 94 → ∀ i, r ≠ 91 ∨ i ≠ ((spl G (R.take k')).1.length : Int) → m_gt M6 r i = m_gt M3 r i := by
        intro r h1 h2 i h3
        have hr : r = 90 ∨ r = 91 ∨ r = 92 ∨ r = 93 ∨ r = 94 := by omega
        have hm : r ∈ [(90 : Int), 91, 92, 93, 94] := by rcases hr with rfl | rfl | rfl | rfl | rfl <;> decide
        rw [g6.1 r hm]
        show m_gt (m_st M4 91 (spl G (R.take k')).1.length ((R.length : Int) - lens (spl G (R.take k')).1)) r i = _
        rw [m_gt_st, if_neg (by omega)]
        exact g4.1 r hm i
      unfold GT
      rw [hs]
      dsimp only
      refine ⟨fun f hf => (F3 f hf).ex (fun r h1 h2 => cc r h1 h2 f (by omega)), ⟨?_, ?_, ?_⟩, fun z => absurd c (by omega), ?_, ?_, ?_⟩
      · exact (g6.2 (50, 65) (by decide)).trans h65'
      · exact (cc 90 (by decide) (by decide) _ (Or.inl (by decide))).trans A3.1
      · refine (g6.1 91 (by decide) _).trans ?_
        show m_gt (m_st M4 91 (spl G (R.take k')).1.length ((R.length : Int) - lens (spl G (R.take k')).1)) 91 _ = _
        rw [gt_same]
        omega
      · rw [v6]
        unfold sta
        dsimp only
        rw [if_pos c]
        rfl
      · rw [if_pos c]
        exact (g6.2 (50, 67) (by decide)).trans h67'
      · rw [w6]
        unfold whi
        dsimp only
        by_cases z : (R.length : Int) - lens (spl G (R.take k')).1 = cnt (owd G (spl G (R.take k')).1)
        · rw [if_pos z, if_pos ⟨c, by omega⟩]
        · rw [if_neg z, if_neg (fun q => z (by have := q.2; have := hfill.1; omega))]
    · exact (((fr2.trI (f3.mono (by decide) (by decide))).trI (f4.mono (by decide) (by decide))).trI (f5.mono (by decide) (by decide))).trI (f6.mono (by decide) (by decide))
  · have hk : k' = R.length := hk2.resolve_right c
    subst hk
    rw [List.take_length] at *
    have hd := hO.2.2.2.1 (by omega)
    have hd0 := dn_nn hO.2.2.1
    have h63 : m_gt M2 93 (spl G R).1.length = dn (spl G R).2 := C2.2.2.2.2.1
    refine ⟨m_st M3 50 66 (G.1 0 - dn (spl G R).2), ?_, ?_, ?_⟩
    · unfold jX8_goesThrough_176
      simp (disch := omega) only [G2.1.1, G2.1.2.1, C2.1, h63, r_50_31 K2, r_50_32 K2, r_50_63 K2, ald_e (k_74 K2), ast_e (k_74 K2), len_e (k_74 K2) (by decide) (by decide), ald_e (k_75 K2), ast_e (k_75 K2), len_e (k_75 K2) (by decide) (by decide), ald_e (k_93 K2), ast_e (k_93 K2), len_e (k_93 K2) (by decide) (by decide), bnd_e, b2_e, ob_e, gt_same, gt_r, gt_i, i_add_e, i_sub_e, chk_st, len_st, ald_st, ast_st, if_neg]
      rfl
    · have cc : ∀ r, 90 ≤ r → r ≤ 94 → ∀ i, m_gt (m_st M3 50 66 (G.1 0 - dn (spl G R).2)) r i = m_gt M3 r i := fun r h1 h2 i => gt_r _ _ _ _ (by omega)
      refine ⟨fun f hf => (F3 f hf).ex (fun r h1 h2 => cc r h1 h2 f), ⟨?_, ?_, ?_⟩, fun _ => ⟨?_, ?_, ?_⟩, ?_, ?_, ?_⟩
      · rw [gt_i _ _ _ (by decide)]; exact h65
      · rw [cc 90 (by decide) (by decide)]; exact A3.1
      · rw [cc 91 (by decide) (by decide)]; exact A3.2.1
      · rw [cc 92 (by decide) (by decide)]; exact A3.2.2.1
      · rw [cc 93 (by decide) (by decide)]; exact A3.2.2.2.1
      · rw [cc 94 (by decide) (by decide)]; exact A3.2.2.2.2
      · rw [gt_same]; unfold sta; rw [if_neg c]
      · rw [gt_i _ _ _ (by decide), s67, if_neg c]
      · rw [gt_i _ _ _ (by decide), s68]; unfold whi; rw [if_neg (fun q => c q.1)]
    · exact (fr2.trI (f3.mono (by decide) (by decide))).stI (by decide)
