/-! ===== PURE: the class's sheet, rolls put and taken ===== -/
theorem close_X {N : Nat} {sh l : Int} (hs : sh = 26 ∨ sh = 29) (hl : l = 2 ∨ l = 13) {G : Gm} (hG : GOK G) {c a u st re : Int} {μ : Mm} (hK : KR μ) (hL : LX l G μ) (h1 : m_gt μ sh 1 = c) (h2 : m_gt μ sh 2 = a) (h3 : m_gt μ sh 3 = u) (h4 : m_gt μ sh 4 = st) (h5 : m_gt μ sh 5 = l) (h7 : m_gt μ sh 7 = re) (ha : 0 ≤ a ∧ a < 8) (hc : 0 ≤ c ∧ c ≤ 27) (hr : 0 ≤ re ∧ re ≤ 40) : ∃ μ', jX5_closeFrame N sh μ = some μ' ∧ (m_gt μ' sh 1 = c ∧ m_gt μ' sh 2 = a + 1 ∧ m_gt μ' sh 3 = 0 ∧ m_gt μ' sh 4 = G.1 0 ∧ m_gt μ' sh 5 = l ∧ m_gt μ' sh 7 = (if st = 0 then (if re ≤ c + ern G u then c + ern G u else re) else re)) ∧ m_gt μ' (sh + 2) (a + 1) = c ∧ (∀ i, i ≠ a + 1 → m_gt μ' (sh + 2) i = m_gt μ (sh + 2) i) ∧ (∀ i, m_gt μ' (sh + 1) i = m_gt μ (sh + 1) i) ∧ Fr [sh + 1, sh + 2] (sFr sh) μ μ' := by
  obtain ⟨q1, q2, q3, q4, q5⟩ := SK.of hK hs
  have lc := (LK.of hK hl).1.1
  have l1 := hL.1.1
  have he := ern_ok hG u
  have hE := earnedBy_X (N := N) (k := u) hl hK hL
  by_cases z : st = 0
  · refine ⟨m_st (m_st (m_st (m_st (m_st μ sh 7 (i_max re (c + ern G u))) sh 2 (a + 1)) (sh + 2) (a + 1) c) sh 3 0) sh 4 (G.1 0), ?_, ?_⟩
    · unfold jX5_closeFrame jX5_closeFrame_34 jX5_closeFrame_69
      simp (disch := omega) only [h1, h2, h3, h4, h5, h7, z, q5, l1, hE, not_true_eq_false, if_false, chk_e lc, b2_e, bnd_e, ob_e, gt_same, gt_r, gt_i, i_add_e, chk_st, len_st, len_e q3 (by decide) (by decide), ast_st, ast_e q3, if_neg]
    · rw [if_pos z, ← i_max_e]
      refine ⟨⟨?_, ?_, ?_, ?_, ?_, ?_⟩, ?_, fun i hi => ?_, fun i => ?_, ?_⟩
      all_goals try (simp (disch := omega) only [gt_same, gt_r, gt_i, h1, h5]; done)
      exact Fr.stI (Fr.stI (Fr.stI (Fr.stI (Fr.stI (Fr.rf0 _ _ _) (by simp [sFr])) (by simp [sFr])) (by simp [sFr])) (by simp [sFr])) (by simp [sFr])
  · refine ⟨m_st (m_st (m_st (m_st μ sh 2 (a + 1)) (sh + 2) (a + 1) c) sh 3 0) sh 4 (G.1 0), ?_, ?_⟩
    · unfold jX5_closeFrame jX5_closeFrame_34 jX5_closeFrame_69
      simp (disch := omega) only [h1, h2, h3, h4, h5, h7, z, q5, l1, hE, not_false_eq_true, if_true, chk_e lc, b2_e, bnd_e, ob_e, gt_same, gt_r, gt_i, i_add_e, chk_st, len_st, len_e q3 (by decide) (by decide), ast_st, ast_e q3, if_neg]
    · rw [if_neg z]
      refine ⟨⟨?_, ?_, ?_, ?_, ?_, ?_⟩, ?_, fun i hi => ?_, fun i => ?_, ?_⟩
      all_goals try (simp (disch := omega) only [gt_same, gt_r, gt_i, h1, h5, h7]; done)
      exact Fr.stI (Fr.stI (Fr.stI (Fr.stI (Fr.rf0 _ _ _) (by simp [sFr])) (by simp [sFr])) (by simp [sFr])) (by simp [sFr])
theorem tk_max {n : Int} (h : n = -2 ∨ 0 ≤ n) : i_max n 0 = tk n := by unfold i_max tk; repeat' split <;> omega
theorem Row.ext {μ μ' : Mm} {r o : Int} {l : List Int} (h : Row μ r o l) (e : ∀ i, m_gt μ' r i = m_gt μ r i) : Row μ' r o l := fun i hi => by rw [e]; exact h i hi
theorem add_X {N : Nat} {sh l : Int} (hs : sh = 26 ∨ sh = 29) (hl : l = 2 ∨ l = 13) {G : Gm} (hG : GOK G) {R : List Int} {s : Sh} {μ : Mm} (hK : KR μ) (hL : LX l G μ) (hO : SOK G s) (hR : (R.length : Int) = lens s.1 + s.2.length) (hS : SX sh l G R s μ) {n : Int} (hc : can G s n) : ∃ μ', jX5_add N sh n μ = some (1, μ') ∧ SX sh l G (R ++ [n]) (adds G s n) μ' ∧ Fr [sh + 1, sh + 2] (sFr sh) μ μ' ∧ ∀ j, j ≠ (R.length : Int) → m_gt μ' (sh + 1) j = m_gt μ (sh + 1) j := by
  rw [add_to36 hl hG hK hL hO hR hS hc]
  obtain ⟨⟨s1, s2, s3, s4, s5, s6, s7, s8⟩, s9, s10⟩ := hS
  obtain ⟨q1, q2, q3, q4, q5⟩ := SK.of hK hs
  have lc := (LK.of hK hl).1.1
  have hb := cnt_R hG hO hc.1
  have hst := sta_ok hG hO
  have hp := hG.1
  have hf := hG.2.1
  have hr := hG.2.2.1
  have g2 := hO.2.1
  have hrl : s.2.length ≤ 3 := by
    by_cases c : (s.1.length : Int) = G.1 1
    · have := (hO.2.2.2.2 c).1; have := cnt_ok (o := owd G s.1); omega
    · have := (hO.2.2.2.1 (by omega)).2; omega
  have hn : n = -2 ∨ 0 ≤ n := by rcases hc.2 with z | z <;> omega
  have ht : 0 ≤ tk n ∧ tk n ≤ sta G s := by unfold tk; rcases hc.2 with z | z <;> split <;> omega
  let M := m36 sh μ R.length n s.2.length (sta G s - tk n)
  have fM : Fr [sh + 1, sh + 2] (sFr sh) μ M := m36_fr sh μ R.length n s.2.length (sta G s - tk n)
  have KM : KR M := KR_s hK hs fM
  have LM : LX l G M := LX_s hL hl hs fM
  have gM : ∀ i, m_gt M sh i = if i = 4 then sta G s - tk n else if i = 3 then s.2.length + 1 else if i = 1 then R.length + 1 else m_gt μ sh i := m36_sh sh μ R.length n s.2.length (sta G s - tk n)
  have g1 : m_gt M sh 1 = R.length + 1 := gM 1
  have g22 : m_gt M sh 2 = s.1.length := (gM 2).trans s2
  have g3 : m_gt M sh 3 = s.2.length + 1 := gM 3
  have g4 : m_gt M sh 4 = sta G s - tk n := gM 4
  have g5 : m_gt M sh 5 = l := (gM 5).trans s5
  have g7 : m_gt M sh 7 = m_gt μ sh 7 := gM 7
  have rM : Row M (sh + 1) 0 (R ++ [n]) := m36_row s9 n s.2.length (sta G s - tk n)
  have oM : ∀ j, j ≠ (R.length : Int) → m_gt M (sh + 1) j = m_gt μ (sh + 1) j := by
    intro j hj
    show m_gt (m36 sh μ R.length n s.2.length (sta G s - tk n)) (sh + 1) j = _
    unfold m36
    simp (disch := omega) only [gt_r, gt_i]
  have tM : Row M (sh + 2) 0 (sts s.1 0) := s10.ext (m36_2 sh μ R.length n s.2.length (sta G s - tk n))
  have e36 : jX5_add_36 N sh n μ = (if (s.1.length : Int) < G.1 1 then (if sta G s - tk n = 0 then (jX5_add_143 N sh M) else (if (s.2.length : Int) + 1 < G.1 2 then (jX5_add_147 N sh M) else (jX5_add_143 N sh M))) else (if ¬ sta G s - tk n = 0 then (jX5_add_116 N sh (sta G s - tk n) sh M) else (jX5_add_116 N sh (G.1 0) sh M))) := by
    unfold jX5_add_36
    have k1 : (R.length : Int) < 27 := by omega
    simp (disch := omega) only [s1, s2, s3, s4, s5, q4, ast_e q2, bnd_e, ob_e, gt_same, gt_r, gt_i, i_add_e, tk_max hn, i_sub_e, chk_st, chk_e lc, hL.1.1, hL.1.2.1, hL.1.2.2.1]
    rfl
  rw [e36]
  have el : ((R ++ [n]).length : Int) = R.length + 1 := by rw [List.length_append, List.length_singleton]; omega
  have eu : ((s.2 ++ [n]).length : Int) = s.2.length + 1 := by rw [List.length_append, List.length_singleton]; omega
  by_cases c : (s.1.length : Int) = G.1 1
  · have ea : adds G s n = (s.1, s.2 ++ [n]) := if_pos c
    have es : sta G (s.1, s.2 ++ [n]) = nst G (sta G s) n := by
      unfold sta fst
      rw [if_pos c, if_pos c, List.foldl_append]
      rfl
    have fin : ∀ v, v = nst G (sta G s) n → ∃ μ', jX5_add_116 N sh v sh M = some (1, μ') ∧ SX sh l G (R ++ [n]) (adds G s n) μ' ∧ Fr [sh + 1, sh + 2] (sFr sh) μ μ' ∧ ∀ j, j ≠ (R.length : Int) → m_gt μ' (sh + 1) j = m_gt μ (sh + 1) j := by
      intro v hv
      refine ⟨m_st M sh 4 v, ?_, ?_, fM.stI (by simp [sFr]), fun j hj => by rw [gt_r _ _ _ _ (by omega)]; exact oM j hj⟩
      · unfold jX5_add_116 jX5_add_147
        rw [chk_e (SK.of KM hs).1, bnd_e]
      · rw [ea]
        unfold SX
        dsimp only
        rw [es]
        simp (disch := omega) only [gt_same, gt_r, gt_i, g1, g22, g3, g5, g7, el, eu]
        refine ⟨⟨trivial, trivial, trivial, hv, trivial, s6, s7, s8⟩, rM.ext (fun i => gt_r _ _ _ _ (by omega)), tM.ext (fun i => gt_r _ _ _ _ (by omega))⟩
    rw [if_neg (by omega)]
    by_cases z : sta G s - tk n = 0
    · rw [if_neg (not_not_intro z)]
      exact fin _ (by unfold nst; rw [if_pos z])
    · rw [if_pos z]
      exact fin _ (by unfold nst; rw [if_neg z])
  · rw [if_pos (by omega)]
    have hst' : sta G s = G.1 0 - dn s.2 := if_neg c
    have hd := dn_one s.2 n
    obtain ⟨a1, a2⟩ := hO.2.2.2.1 (by omega)
    by_cases z : dn (s.2 ++ [n]) = G.1 0 ∨ ((s.2 ++ [n]).length : Int) = G.1 2
    · have ea : adds G s n = (s.1 ++ [s.2 ++ [n]], []) := by unfold adds; rw [if_neg c, if_pos z]
      have k143 : ∃ μ', jX5_add_143 N sh M = some (1, μ') ∧ SX sh l G (R ++ [n]) (adds G s n) μ' ∧ Fr [sh + 1, sh + 2] (sFr sh) μ μ' ∧ ∀ j, j ≠ (R.length : Int) → m_gt μ' (sh + 1) j = m_gt μ (sh + 1) j := by
        obtain ⟨μ', e1, ⟨p1, p2, p3, p4, p5, p7⟩, pr, po, pt, pf⟩ := close_X (N := N) hs hl hG KM LM g1 g22 g3 g4 g5 g7 (by omega) (by omega) ⟨s6, s7⟩
        refine ⟨μ', ?_, ?_, fM.trI pf, fun j hj => (pt j).trans (oM j hj)⟩
        · unfold jX5_add_143 jX5_add_147
          rw [e1, ob_e]
        · rw [ea]
          have hcw : ow G (s.2 ++ [n]) = ern G (cln G (s.2 ++ [n])) := rfl
          have hec := ern_ok hG (cln G (s.2 ++ [n]))
          have hoo := owd_ok hO.1
          have h1o : OwOK1 (ltn (s.2 ++ [n]).length (owd G s.1)) := ltn_ok hoo (by simp)
          have hcc : cnt (owd G (s.1 ++ [s.2 ++ [n]])) = (if cnt (ltn (s.2 ++ [n]).length (owd G s.1)) ≤ ow G (s.2 ++ [n]) then ow G (s.2 ++ [n]) else cnt (ltn (s.2 ++ [n]).length (owd G s.1))) := by
            rw [owd_snoc]
            exact cnt_pls h1o hec.1 hec.2
          rw [cnt_ltn _ hoo, eu] at hcc
          have hes : sta G (s.1 ++ [s.2 ++ [n]], ([] : List Int)) = G.1 0 := by
            unfold sta fst dn
            dsimp only
            simp [lsum]
          have hcl : cln G (s.2 ++ [n]) = if sta G s - tk n = 0 then (s.2.length : Int) + 1 else 0 := by
            unfold cln
            rw [eu, hd]
            by_cases y : sta G s - tk n = 0
            · rw [if_pos y, if_pos (by omega)]
            · rw [if_neg y, if_neg (by omega)]
          have hll := lens_snoc s.1 (s.2 ++ [n])
          rw [eu] at hll
          have hwk : ow G (s.2 ++ [n]) = if sta G s - tk n = 0 then ern G ((s.2.length : Int) + 1) else 0 := by
            rw [hcw, hcl]
            split
            · rfl
            · unfold ern; rw [if_neg (by omega)]
          have hbe := ern_ok hG ((s.2.length : Int) + 1)
          have hcn := cnt_ok (o := owd G s.1)
          refine ⟨⟨?_, ?_, ?_, ?_, p5, ?_, ?_, ?_⟩, rM.ext pt, ?_⟩
          · rw [p1, el]
          · rw [p2, List.length_append, List.length_singleton]; omega
          · rw [p3]; rfl
          · rw [p4, hes]
          · rw [p7]; repeat' split <;> omega
          · rw [p7]; repeat' split <;> omega
          · rw [hcc, hll, p7, hwk]
            by_cases y : sta G s - tk n = 0
            · simp only [if_pos y]
              generalize ern G ((s.2.length : Int) + 1) = e at *
              generalize cnt (owd G s.1) = k at *
              generalize m_gt μ sh 7 = re at *
              split at s8 <;> repeat' split <;> omega
            · simp only [if_neg y]
              generalize cnt (owd G s.1) = k at *
              generalize m_gt μ sh 7 = re at *
              split at s8 <;> repeat' split <;> omega
          · show Row μ' (sh + 2) 0 (sts (s.1 ++ [s.2 ++ [n]]) 0)
            rw [sts_snoc]
            intro i hi
            rw [List.length_append, List.length_singleton, sts_len] at hi
            by_cases y : i = s.1.length + 1
            · subst y
              rw [show (0 : Int) + ((s.1.length + 1 : Nat) : Int) = (s.1.length : Int) + 1 by omega, pr]
              rw [List.getD_eq_getElem?_getD, List.getElem?_append_right (by rw [sts_len]; omega), sts_len]
              simp
              omega
            · rw [po _ (by omega), tM i (by rw [sts_len]; omega)]
              rw [List.getD_eq_getElem?_getD, List.getD_eq_getElem?_getD, List.getElem?_append_left (by rw [sts_len]; omega)]
      by_cases y : sta G s - tk n = 0
      · rw [if_pos y]; exact k143
      · rw [if_neg y, if_neg (by omega)]; exact k143
    · have ea : adds G s n = (s.1, s.2 ++ [n]) := by unfold adds; rw [if_neg c, if_neg z]
      have z1 : ¬ dn (s.2 ++ [n]) = G.1 0 := fun q => z (Or.inl q)
      have z2 : ¬ ((s.2 ++ [n]).length : Int) = G.1 2 := fun q => z (Or.inr q)
      rw [if_neg (by omega), if_pos (by omega)]
      refine ⟨M, rfl, ?_, fM, oM⟩
      rw [ea]
      have es : sta G (s.1, s.2 ++ [n]) = sta G s - tk n := by
        unfold sta
        rw [if_neg c, if_neg c]
        dsimp only
        omega
      refine ⟨⟨g1.trans el.symm, g22, g3.trans eu.symm, g4.trans es.symm, g5, by rw [g7]; exact s6, by rw [g7]; exact s7, by rw [g7]; exact s8⟩, rM, tM⟩
