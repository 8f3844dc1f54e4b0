/-! ===== PURE: the reference's facts and tests, by how deep they lie ===== -/
theorem nW_sub {W : List Int} (h : noT nW W) : noT [16] W ∧ noT [1, 2, 3, 4] W := ⟨h.sub (by simp [nW]), h.sub (fun x hx => by simp at hx; simp [nW]; omega)⟩
theorem facB_M {N : Nat} (hN : 1000000 ≤ N) {T : List Int} (hT : TB T) {b : Int} {D : Nat} (hD : D ≤ 6) {F : SF} (hF : SOKs T F) (hM : D < 6 → FacM N T b (D + 1) F) : FacM N T b D (factB T F) := by
  intro n j d Wb q C μ hdj hI hW hC hn h
  have hl := hT.1
  have hq := hI.2.1
  obtain ⟨hW1, hW2⟩ := nW_sub hW
  have hlen : (Wb ++ List.replicate j (16 : Int)).length = Wb.length + j := by simp
  obtain ⟨n', rfl⟩ : ∃ n', n = n' + 1 := ⟨n - 1, by omega⟩
  show TF N T Wb j d b μ (jX8_test_2b (jX8_test_2 N n') N 50 1 μ) (factB T F D q C)
  obtain ⟨μ1, a1, a2, a3, a4⟩ := look_M (N := N) hN hT h.1 h.2.1
  have h1 := h.pq hI a2 a4
  refine TF.fr ?_ (lx2 a4)
  unfold jX8_test_2b
  rw [if_neg (by decide), if_neg (not_not_intro h.2.1.b0), a1, b2_e]
  have s91 : sg T 91 q = none → ¬ lk T q = 91 := fun hs z => by
    unfold sg at hs
    rw [if_pos ((lk_sg (by decide)).mp z)] at hs
    cases hs
  unfold factB
  cases hw : wrd T wNot q with
  | some q1 =>
    have i1 := wrd_1 w4_ok.1 hw
    have hs : sg T 91 q = none := by
      unfold sg
      rw [if_neg]
      rintro ⟨z1, z2⟩
      have := (wrd_yes hw).2.2.2 0 (by decide)
      rw [Nat.add_zero, z2] at this
      exact absurd this (by decide)
    obtain ⟨μ2, b1, b2', b3, b4⟩ := isHere_M (N := N) hN hT hI (by decide) h1.1 (wm h1.1 h1.2.2.2 (r := 64) (w := wNot) (by decide)) h1.2.1
    have h2 := h1.pq hI b2' b4
    refine TF.fr ?_ (lx2 b4)
    rw [if_pos (s91 hs), r_50_21 h1.1, b1, b2_e, if_pos (wrd_yes hw), if_neg (by decide), b2'.at]
    dsimp only
    by_cases hd : D < 6
    · rw [if_pos hd]
      obtain ⟨p1, p2⟩ := push_K (d' := D + 1) (x := 16) h2
      obtain ⟨μ3, c1, c2, c3, c4⟩ := asksM_1 (N := N) hN hT hI (by decide) p1.1 (wm p1.1 p1.2.2.2 (r := 64) (w := wNot) (by decide)) hw p1.2.1
      have h3 := p1.l4 c2 c4
      rw [opens_1 (N := N) hd (by rw [hlen]; omega) h2, ob_e, r_50_21 p1.1, c1, ob_e]
      rw [List.append_assoc, ← List.replicate_succ'] at h3
      refine TF.fr ?_ ((mp_up p2).trI (lx4 c4))
      have o := hM hd n' (j + 1) d Wb q1 C μ3 (by omega) i1.1 hW (by omega) (by omega) h3
      match hxx : F (D + 1) q1 C, o with
      | Sum.inl e, o =>
        obtain ⟨μ', a, b', f⟩ := o
        exact ⟨μ', a, b', f⟩
      | Sum.inr (q2, C2), o =>
        obtain ⟨m', n'', μ', r, fu, ms, inv, fr⟩ := o
        refine ⟨m', n'', μ', r, fu, ?_, by simp; omega, fr⟩
        rw [List.replicate_succ] at ms
        rw [List.append_assoc]
        exact ms
    · rw [if_neg hd, opens_0 (N := N) (by omega) h2, ob_e]
      have hbad : ¬ m_gt (m_st (m_st μ2 50 5 4) 50 6 q) 50 5 = 0 := by rw [gt_i _ _ _ (by decide), gt_same]; decide
      rw [asks_b hbad, ob_e]
      exact ⟨_, tbad_end hN (by omega) hbad, FM_of (by decide) μ2, lx56 (FM_fr 4 q μ2)⟩
  | none =>
    dsimp only
    cases hs : sg T 91 q with
    | some q1 =>
      have i1 := sg_IN c91.2 hs
      have hlk : lk T q = 91 := (lk_sg (by decide)).mpr ⟨i1.2.2.1, i1.2.2.2.1⟩
      rw [if_neg (not_not_intro hlk), a2.at]
      dsimp only
      by_cases hd : D < 6
      · rw [if_pos hd]
        obtain ⟨p1, p2⟩ := push_K (d' := D + 1) (x := 25) h1
        have pq := a2.mp p2
        rw [opens_1 (N := N) hd (by rw [hlen]; omega) h1, ob_e, bnd_e, pq.at, i_add_e (by omega) (by omega), show (q : Int) + 1 = ((q + 1 : Nat) : Int) by omega]
        have f3 : Fr [] [(50, 2)] (m_st (m_st (m_st μ1 50 47 (D + 1 : Nat)) 87 (Wb ++ List.replicate j (16 : Int)).length 25) 50 46 ((Wb ++ List.replicate j (16 : Int)).length + 1)) (m_st (m_st (m_st (m_st μ1 50 47 (D + 1 : Nat)) 87 (Wb ++ List.replicate j (16 : Int)).length 25) 50 46 ((Wb ++ List.replicate j (16 : Int)).length + 1)) 50 2 (q + 1 : Nat)) := Fr.stI (Fr.rf0 _ _ _) (by simp)
        have h3 := p1.l2 (pq.step c91 hs p1.1 hT) f3
        refine TF.fr ?_ ((mp_up p2).trI (lx2 f3))
        have hlen2 : (Wb ++ List.replicate j (16 : Int) ++ [25]).length = Wb.length + j + 1 := by simp; omega
        have o := tst_M (N := N) hN hT hF (hM hd) n' (Wb ++ List.replicate j 16 ++ [25]) q1 C _ i1.1 (noT_mk _ (by decide)) (noT_mk _ (by decide)) (by rw [hlen2]; omega) (by omega) h3
        have g := testS_GR hF (d := D + 1) (q := q1) (C := C)
        match hxx : testS T F (D + 1) q1 C, o with
        | Sum.inl e, o =>
          obtain ⟨μ', a, b', f⟩ := o
          exact ⟨μ', a, b', f⟩
        | Sum.inr (q2, C2), o =>
          have g2 := g.inr hxx
          have g3 := g2.1.2.1
          obtain ⟨m', n'', μ', C2', pd, ok, e, r, ⟨fm, fn⟩, ms, inv, fr⟩ := o
          rw [hlen2] at inv
          rw [r]
          show TF N T Wb j d b _ (TG N m' n'' μ') (sR T 93 q2 (fun q3 => Sum.inr (q3, C2)))
          refine TF.fr ?_ fr
          unfold sR
          cases hs2 : sg T 93 q2 with
          | some q3 =>
            have i3 := sg_IN c93.2 hs2
            obtain ⟨m2, rfl⟩ : ∃ m2, m' = m2 + 1 := ⟨m' - 1, by omega⟩
            rw [← hdj] at ms
            obtain ⟨μ4, d1, d2, d3⟩ := TG_sq (N := N) hN hT g2.1 hs2 (m := m2) (n := n'') hW1 (by omega) ok.2 (by omega) (by omega) ms
            refine ⟨m2, n'', μ4, d1, ⟨by omega, by omega⟩, by rw [e]; exact d2, by rw [e]; simp; omega, d3⟩
          | none =>
            obtain ⟨μ4, d1, d2, d3⟩ := TG_open (N := N) hN hT g2.1 ok.1.1 ok.1.2 hs2 (m := m') (n := n'') (by simp) (by rw [List.length_append, hlen2, List.length_map]; omega) (by omega) (by omega) ms
            exact ⟨μ4, d1, d2, d3⟩
      · rw [if_neg hd, opens_0 (N := N) (by omega) h1, ob_e, bnd_e]
        have hbad : ∀ x : Int, ¬ m_gt (m_st (m_st (m_st μ1 50 5 4) 50 6 q) 50 2 x) 50 5 = 0 := fun x => by rw [gt_i _ _ _ (by decide), gt_i _ _ _ (by decide), gt_same]; decide
        refine ⟨_, tbad_end hN (by omega) (hbad _), ⟨by rw [gt_i _ _ _ (by decide), gt_i _ _ _ (by decide), gt_same], by rw [gt_i _ _ _ (by decide), gt_same], (by decide : ¬ (4 : Int) = 0)⟩, (lx56 (FM_fr 4 q μ1)).stI (by unfold mpP; omega)⟩
    | none =>
      obtain ⟨μ2, b1, b2', b3, b4⟩ := isHere_M (N := N) hN hT hI (by decide) h1.1 (wm h1.1 h1.2.2.2 (r := 64) (w := wNot) (by decide)) h1.2.1
      have h2 := h1.pq hI b2' b4
      refine TF.fr ?_ (lx2 b4)
      rw [if_pos (s91 hs), r_50_21 h1.1, b1, b2_e, if_neg (wrd_no hw), if_pos rfl]
      have o := fct_M (N := N) hN hT hI hD (noT_rep hW2 (by decide) j) (by rw [hlen]; omega) h2
      have g := factB_GR hF (d := D) (q := q) (C := C)
      have ex : factB T F D q C = fctS T D q C := by
        unfold factB fctS
        rw [hw, hs]
        rfl
      show TF N T Wb j d b μ2 _ (fctS T D q C)
      rw [ex] at g
      match hxx : fctS T D q C, o with
      | Sum.inl e, o =>
        obtain ⟨μ3, a, b', f⟩ := o
        have hbad : ¬ m_gt μ3 50 5 = 0 := by rw [b'.1]; exact b'.2.2
        refine ⟨μ3, ?_, b', f⟩
        rw [a, ob_e, dnots_b hN hbad, ob_e, if_pos hbad]
        unfold jX8_test_105 jX8_test_106
        exact tbad_end hN (by omega) hbad
      | Sum.inr (q2, C2), o =>
        have g2 := g.inr hxx
        have g3 := g2.1.2.1
        have g4 := g2.2.1
        have g5 := g2.2.2.1
        obtain ⟨μ3, a, ms, f⟩ := o
        rw [← hdj] at ms
        obtain ⟨μ4, d1, d2, d3⟩ := dnots_M (N := N) hN hW1 (by omega) (by omega) (by omega) ms
        refine ⟨N, n', μ4, ?_, ⟨by omega, by omega⟩, d2, by omega, f.trI d3⟩
        rw [a, ob_e, d1, ob_e, if_neg (not_not_intro d2.2.1.b0)]
        rfl
theorem fac_M {N : Nat} (hN : 1000000 ≤ N) {T : List Int} (hT : TB T) {b : Int} : ∀ (k D : Nat), D + k = 7 → 1 ≤ k → FacM N T b D (factS T k)
  | 0, D, hd, h1 => absurd h1 (by omega)
  | k + 1, D, hd, _ => facB_M (N := N) hN hT (by omega) (factS_GR k) (fun h6 => fac_M (N := N) hN hT k (D + 1) (by omega) (by omega))
/-- a test, from its beginning to its end -/
theorem test_M {N : Nat} (hN : 1000000 ≤ N) {T : List Int} (hT : TB T) {b : Int} {q : Nat} {C : List Int} (hI : IN T q) (hC : C.length + 5 ≤ q) {μ : Mm} (h : MS T q C [] 0 b μ) : MF T [] 0 b μ (jX8_test N 50 μ) (testS T (factS T 7) 0 q C) := by
  have hl := hT.1
  have hq := hI.2.1
  have hF := factS_GR (T := T) 7
  have nn : ∀ vs, noT vs [] := fun vs x hx => by cases hx
  have o := tst_M (N := N) hN hT hF (fac_M (N := N) hN hT (b := b) 7 0 (by omega) (by omega)) N [] q C μ hI (nn _) (nn _) (by simpa using hC) (by omega) h
  have g := testS_GR hF (d := 0) (q := q) (C := C)
  unfold jX8_test
  match hxx : testS T (factS T 7) 0 q C, o with
  | Sum.inl e, o =>
    obtain ⟨μ', a, b', f⟩ := o
    exact ⟨μ', a, b', f⟩
  | Sum.inr (q2, C2), o =>
    have g2 := g.inr hxx
    have g3 := g2.1.2.1
    obtain ⟨m', n', μ', C2', pd, ok, e, r, ⟨fm, fn⟩, ms, inv, fr⟩ := o
    rw [List.nil_append] at ms
    rw [List.length_nil] at inv
    obtain ⟨μ2, d1, d2, d3⟩ := TG_end (N := N) hN hT g2.1 ok.1.1 ok.1.2 (m := m') (n := n') ok.2 (by omega) (by omega) (by omega) ms
    exact ⟨μ2, by rw [r, d1], by rw [e]; exact d2, fr.trI d3⟩
