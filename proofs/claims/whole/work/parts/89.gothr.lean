/-! ===== PURE: the class goes through all frames ===== -/
theorem sumCG_eqv {Q : Qu} {f : Int} {L : List Wy} {o : Ow} {kf : List Wy} : ∀ D : List Int, Eqv (CG Q f L o (D.flatMap (kfi kf))) (sumCG Q f L o kf D)
  | [] => by
    have : CG Q f L o (([] : List Int).flatMap (kfi kf)) = [] := by
      unfold CG
      simp
    rw [this]
    exact Eqv.rf _
  | i :: D => by
    have h1 := CG_app Q f o (kfi kf i) (D.flatMap (kfi kf)) L
    have h2 := sumCG_eqv (Q := Q) (f := f) (L := L) (o := o) (kf := kf) D
    rw [List.flatMap_cons]
    exact h1.tr ((Eqv.rf _).app h2)
theorem sumCG_all {Q : Qu} {f : Int} {L : List Wy} {o : Ow} {kf : List Wy} : Eqv (sumCG Q f L o kf (dd (kf.map kx))) (CG Q f L o kf) :=
  (sumCG_eqv _).sy.tr (CG_eqv (part_eqv (dd_nodup _) (fun k hk => (mem_dd _ _).mpr ⟨kx k, List.mem_map.mpr ⟨k, hk, rfl⟩, rfl⟩)) L)
theorem CG_none {Q : Qu} {f : Int} {L : List Wy} {o : Ow} {kf : List Wy} (h : ∀ w ∈ L, w.1 ≠ o) : CG Q f L o kf = [] := by
  unfold CG
  rw [List.filter_eq_nil_iff.mpr (fun w hw => by simpa using h w hw)]
  rfl
theorem owl_nodup : owl.Nodup := by decide
theorem sel_sum {P : Wy → Bool} {a : Ow} {X : Ow → List Wy} : ∀ O : List Ow, O.Nodup → (O.flatMap (fun o => if a = o then X o else [])).countP P = if a ∈ O then (X a).countP P else 0
  | [], _ => by simp
  | o :: O, h => by
    rw [List.nodup_cons] at h
    rw [List.flatMap_cons, List.countP_append, sel_sum O h.2]
    by_cases c : a = o
    · subst c
      rw [if_pos rfl, if_neg h.1, if_pos (by simp)]
      omega
    · rw [if_neg c]
      by_cases c2 : a ∈ O
      · rw [if_pos c2, if_pos (List.mem_cons_of_mem _ c2)]
        simp
      · rw [if_neg c2, if_neg (by simp [c, c2])]
        simp
theorem fm_add {P : Wy → Bool} {A B : Ow → List Wy} : ∀ O : List Ow, (O.flatMap (fun o => A o ++ B o)).countP P = (O.flatMap A).countP P + (O.flatMap B).countP P
  | [] => rfl
  | o :: O => by
    rw [List.flatMap_cons, List.flatMap_cons, List.flatMap_cons, List.countP_append, List.countP_append, List.countP_append, List.countP_append, fm_add O]
    omega
theorem states_eqv {G : Gm} {Q : Qu} {f : Int} : ∀ L : List Wy, (∀ w ∈ L, OwOK w.1) → Eqv (owl.flatMap (fun o => CG Q f L o (KS G Q f o))) (L.flatMap (fun w => (KS G Q f w.1).map (nxt Q f w)))
  | [], _ => fun P => by
    have : (owl.flatMap (fun o => CG Q f [] o (KS G Q f o))) = [] := by
      rw [List.flatMap_eq_nil_iff]
      intro o _
      rfl
    rw [this]
    rfl
  | w :: L, h => fun P => by
    have ih := states_eqv (G := G) (Q := Q) (f := f) L (fun v hv => h v (List.mem_cons_of_mem _ hv)) P
    have e : (fun o => CG Q f (w :: L) o (KS G Q f o)) = (fun o => (if w.1 = o then (KS G Q f o).map (nxt Q f w) else []) ++ CG Q f L o (KS G Q f o)) := by
      funext o
      exact CG_cons Q f w L o _
    rw [e, fm_add, ih, List.flatMap_cons, List.countP_append, sel_sum (X := fun o => (KS G Q f o).map (nxt Q f w)) owl owl_nodup, if_pos (h w (by simp)).owl]
theorem play_state {N : Nat} (hN : 1000000 ≤ N) {sh l : Int} {G : Gm} {R : List Int} {Q : Qu} (hQ : QR G R Q) {b : Bool} {f : Int} (hf : 0 ≤ f ∧ f ≤ G.1 1) {o : Ow} (ho : OwOK o) (hm1 : b = false → f = Q.2.2.1 → f < G.1 1 → ∀ F ∈ frow (G.1 2).toNat (G.1 0) (Q.1 f), Q.2.2.2 < F.length) (hm2 : b = false → G.1 1 = Q.2.2.1 → f = G.1 1 → Q.2.2.2 < cnt o) {k2 : Int → Int → Int → Mm → Option Mm} {μ : Mm} (hP : PC sh l G R Q b μ) (hG : GRP b [] μ) : ∃ μ', (bnd (m_st μ 33 10 1) fun μ5 => m_chk 1 μ5 (m_gt μ5 33 4) (if (m_gt μ5 (m_gt μ5 33 4) 2) ≤ f then (if (m_gt μ5 33 6) = 0 then (jX2_goThroughFrame_76 k2 N 33 f (si o) μ5) else (b2 (jX2_fillsOf N (si o) μ5) fun x2 μ6 => b2 (jX2_givenIn N 33 f μ6) fun x3 μ7 => if ¬ x2 = x3 then (jX2_goThroughFrame_90 k2 N 33 f (si o) μ7) else (jX2_goThroughFrame_76 k2 N 33 f (si o) μ7))) else ((jX2_playFrame N 10 33 f 0 (m_gt μ5 (m_gt μ5 33 4) 1) (si o) 0 0 μ5).bind fun μ8 => jX2_goThroughFrame_90 k2 N 33 f (si o) μ8))) = jX2_goThroughFrame_92 k2 N N 33 f (si o) 0 μ' ∧ GRP b ((KS G Q f o).map kx) μ' ∧ Fr plI plS μ μ' := by
  have hGO := hP.1.1.2.2.1
  have h8 := hGO.2.1
  have hp := hGO.1
  have hr := hGO.2.2.1
  have f0 : Fr plI plS μ (m_st μ 33 10 1) := Fr.stI (Fr.rf0 _ _ _) (by decide)
  have P0 := hP.fr f0
  have G0 : GRP b [] (m_st μ 33 10 1) := by
    obtain ⟨q1, q2, q3⟩ := hG
    exact ⟨fun i i0 i1 => by rw [gt_r _ _ _ _ (by decide)]; exact q1 i i0 i1, by rw [gt_i _ _ _ (by decide)]; exact q2, Row.nil _ _ _⟩
  have M0 : MKI Q f [] (m_st μ 33 10 1) := ⟨fun _ => gt_same _ _ _ _, fun _ z => by have := hQ.2.2.1; simp at z; omega⟩
  have lk := chk_e (β := Mm) (LK.of P0.1.2.1 P0.1.1.2.1).1.1
  have e90 : ∀ μ' : Mm, jX2_goThroughFrame_90 k2 N 33 f (si o) μ' = jX2_goThroughFrame_92 k2 N N 33 f (si o) 0 μ' := fun _ => rfl
  rw [bnd_e, P0.2.1.2.1, lk, P0.1.2.2.1.1.2.1, P0.1.2.2.1.1.1]
  by_cases c : f < G.1 1
  · have K := play_X (N := N) hN hQ (b := b) (f := f) (sh := sh) (l := l) ⟨hf.1, c⟩ ho (G.1 2).toNat 10 [] [] (μ := m_st μ 33 10 1) (by simp; omega) (by omega) (fun x hx => absurd hx (by simp)) (by simp [dn, lsum]; omega) (by simpa [dn, lsum] using hQ.1.1 f hf.1 c) (Or.inr ⟨by omega, by simp [dn, lsum]; omega⟩) (fun z y r hr' => by
      have := hm1 z y c r (by simpa [dn, lsum] using hr')
      simpa using this) (fun k hk => absurd hk (by simp)) (by
        have h2 : 10 ^ (G.1 2).toNat ≤ 10 ^ 3 := Nat.pow_le_pow_right (by decide) (by omega)
        simp
        omega) P0 G0 M0
    obtain ⟨μ', e1, e2, e3, e4⟩ := K
    have ed : G.1 0 - dn [] = G.1 0 := by simp [dn, lsum]
    rw [ed] at e1 e2
    rw [if_neg (by omega)]
    have e1' : jX2_playFrame N 10 33 f 0 (G.1 0) (si o) 0 0 (m_st μ 33 10 1) = some μ' := e1
    rw [e1', ob_e, e90]
    refine ⟨μ', rfl, ?_, f0.trI e4⟩
    rw [KS_kx c]
    simpa using e2
  · have ef : f = G.1 1 := by omega
    subst ef
    rw [if_pos (by omega)]
    by_cases cq : Q.2.1 = true ∧ cnt o ≠ (Q.1 (G.1 1)).length
    · have eks : KS G Q (G.1 1) o = [] := by unfold KS; rw [if_neg c, if_pos cq]
      refine ⟨m_st μ 33 10 1, ?_, by rw [eks]; exact G0, f0⟩
      rw [P0.2.1.2.2.1, if_pos cq.1, if_neg (by decide), fillsOf_X ho, b2_e, givenIn_X P0 (by omega) (by omega), b2_e, if_pos cq.2, e90]
    · have hc := cnt_ok (o := o)
      have K := fills_X (N := N) hN hQ (b := b) (sh := sh) (l := l) ho (cnt o).toNat 10 [] (G.1 0) [] (μ := m_st μ 33 10 1) (by simp [ltn]; omega) (by simp; omega) (by omega) (fun x hx => absurd hx (by simp)) (by omega) (by simpa using hQ.1.2) (fun z y => by have := hm2 z y rfl; simp; omega) (fun k hk => absurd hk (by simp)) (by
        have h2 : 10 ^ (cnt o).toNat ≤ 10 ^ 3 := Nat.pow_le_pow_right (by decide) (by omega)
        simp
        omega) P0 G0 M0
      obtain ⟨μ', e1, e2, e3, e4⟩ := K
      have e1' : jX2_playFills N 10 33 0 (G.1 0) (si o) 0 (m_st μ 33 10 1) = some μ' := e1
      have e76 : jX2_goThroughFrame_76 k2 N 33 (G.1 1) (si o) (m_st μ 33 10 1) = jX2_goThroughFrame_92 k2 N N 33 (G.1 1) (si o) 0 μ' := by
        unfold jX2_goThroughFrame_76
        rw [P0.2.1.2.1, lk, P0.1.2.2.1.1.1, e1', ob_e, e90]
      refine ⟨μ', ?_, ?_, f0.trI e4⟩
      · rw [P0.2.1.2.2.1, e76, fillsOf_X ho, b2_e, givenIn_X P0 (by omega) (by omega), b2_e, e76]
        cases hfag : Q.2.1 with
        | false => rw [if_pos (by decide)]
        | true =>
          rw [if_pos rfl, if_neg (by decide), if_neg]
          intro z
          exact cq ⟨hfag, z⟩
      · rw [KS_kxf o cq]
        simpa using e2
theorem OC.of {p c q d : Int} {b : Bool} {sh l : Int} {G : Gm} {R : List Int} {Q : Qu} {μ μ' : Mm} (h : OC p c q d b sh l G R Q μ) (f : Fr plI plS μ μ') : OC p c q d b sh l G R Q μ' := by
  have g : ∀ r i : Int, r ≠ 43 → r ≠ 44 → ¬ (r = 33 ∧ (i = 13 ∨ i = 10)) → m_gt μ' r i = m_gt μ r i := fun r i q1 q2 q3 => f.2.2 r i (by simp [plI]; omega) (by simp [plS]; omega)
  refine ⟨h.1, h.2.1.fr f, ⟨by rw [f.kd]; exact h.2.2.1.1, by rw [f.kd]; exact h.2.2.1.2.1, ?_, ?_⟩, ?_, ?_⟩
  · rw [g 34 1 (by decide) (by decide) (by decide)]; exact h.2.2.1.2.2.1
  · rw [g 38 1 (by decide) (by decide) (by decide)]; exact h.2.2.1.2.2.2
  · rw [g 33 1 (by decide) (by decide) (by decide)]; exact h.2.2.2.1
  · rw [g 33 2 (by decide) (by decide) (by decide)]; exact h.2.2.2.2
theorem SpR.pl {b : Bool} {L : List Wy} {p c : Int} (hp : pc p c) {μ μ' : Mm} (h : SpR b L p c μ) (f : Fr plI plS μ μ') : SpR b L p c μ' := h.ext (fun r i hr => f.2.2 r i (by unfold pc at hp; simp [plI]; omega) (by unfold pc at hp; simp [plS]; omega))
/-- all states of one frame -/
theorem states_loop {N : Nat} (hN : 1000000 ≤ N) {p c q d : Int} {b : Bool} {sh l : Int} {G : Gm} {R : List Int} {Q : Qu} (hQ : QR G R Q) {f : Int} (hf : 0 ≤ f ∧ f ≤ G.1 1) {L : List Wy} (hL : LB L) (hbd : ∀ w ∈ L, ∀ k ∈ KS G Q f w.1, -400 ≤ w.2.1 + k.2.1 ∧ w.2.1 + k.2.1 ≤ 449) (hm1 : b = false → f = Q.2.2.1 → f < G.1 1 → ∀ F ∈ frow (G.1 2).toNat (G.1 0) (Q.1 f), Q.2.2.2 < F.length) (hm2 : b = false → G.1 1 = Q.2.2.1 → f = G.1 1 → ∀ w ∈ L, Q.2.2.2 < cnt w.1) (hGO : GOK G) : ∀ (k n j : Nat) {μ : Mm}, j + k = 14 → k < n → OC p c q d b sh l G R Q μ → SpR b L p c μ → SpR b ((owl.take j).flatMap (fun o => CG Q f L o (KS G Q f o))) q d μ → GRP b [] μ → ∃ μ', jX2_goThroughFrame_2 N n 33 f j μ = jX2_goThroughFrame_2b (fun _ _ _ _ => none) N 33 f 14 μ' ∧ OC p c q d b sh l G R Q μ' ∧ SpR b L p c μ' ∧ SpR b (owl.flatMap (fun o => CG Q f L o (KS G Q f o))) q d μ' ∧ GRP b [] μ' ∧ Fr (gtI p c q d) [(33, 13), (33, 10)] μ μ'
  | k, 0, j, μ, hj, hn, _, _, _, _ => absurd hn (by omega)
  | 0, n + 1, j, μ, hj, hn, hC, hP, hX, hG => by
    have ej : j = 14 := by omega
    subst ej
    refine ⟨μ, ?_, hC, hP, hX, hG, Fr.rf0 _ _ _⟩
    show jX2_goThroughFrame_2b (jX2_goThroughFrame_2 N n) N 33 f 14 μ = _
    unfold jX2_goThroughFrame_2b
    rw [if_pos (by decide), if_pos (by decide)]
  | k + 1, n + 1, j, μ, hj, hn, hC, hP, hX, hG => by
    have hK := hC.2.1.1.2.1
    have hjl : j < owl.length := by have : owl.length = 14 := rfl; omega
    have htake := List.take_succ_eq_append_getElem hjl
    have ho : OwOK owl[j] := owl_ok _ (List.getElem_mem hjl)
    have hsi : si owl[j] = (j : Int) := by
      have := si_owl ⟨j, by omega⟩
      dsimp only at this
      have e := of_decide_eq_true this
      rw [List.getD_eq_getElem?_getD, List.getElem?_eq_getElem hjl] at e
      exact e
    generalize owl[j] = o at *
    have SP := SPK.of hK hC.2.2.1 hC.1.1
    have hs := si_ok ho
    show ∃ μ', jX2_goThroughFrame_2b (jX2_goThroughFrame_2 N n) N 33 f j μ = _ ∧ _
    rw [← hsi]
    unfold jX2_goThroughFrame_2b
    rw [if_neg (by omega), hC.2.2.2.1, chk_e SP.1.1, isEmpty_X SP hs, b2_e]
    rcases hP.2 o ho with ⟨hne, ⟨w1, m1, q1, z1⟩, ⟨w2, m2, q2, z2⟩, hb⟩ | ⟨hno, hlo, hhi⟩
    · have hle := hb w1 m1 q1
      rw [if_pos (show m_gt μ (p + 2) (si o) ≤ m_gt μ (p + 3) (si o) by omega), if_pos rfl]
      obtain ⟨μ1, a1, a2, a3⟩ := play_state (N := N) hN hQ hf ho hm1 (fun z y x => by have := hm2 z y x w1 m1; rw [q1] at this; exact this) (k2 := jX2_goThroughFrame_2 N n) hC.2.1 hG
      rw [a1]
      have C1 := hC.of a3
      obtain ⟨b1, b2, b3⟩ := a2
      obtain ⟨μ2, g1, g2, g3, g4, g5, g6⟩ := groups_loop (N := N) hN (f := f) (X := (owl.take j).flatMap (fun o => CG Q f L o (KS G Q f o))) (kf := KS G Q f o) ho hL hne (fun k hk => by
          have := KS_ok hGO hQ.1 hf.1 ho hk
          exact ⟨this.1, this.2.1, this.2.2.1, this.2.2.2.1⟩) (fun w hw e k hk => hbd w hw k (by rw [e]; exact hk)) (KS_len hGO hQ.1 hf.1 o) (k2 := jX2_goThroughFrame_2 N n) (dd ((KS G Q f o).map kx)).length N 0 (μ := μ1) (by omega) (by
            have h1 := dd_len ((KS G Q f o).map kx)
            have h2 := KS_len hGO hQ.1 hf.1 (Q := Q) o
            rw [List.length_map] at h1
            omega) C1 (hP.pl hC.1.1 a3) (by simpa [sumCG] using hX.pl hC.1.2.1 a3) b2 b3 (fun i i0 i1 => by
          rw [List.drop_zero]
          exact ⟨fun _ => b1 i i0 i1, fun z => GRP_zero (fun k hk => by
            obtain ⟨k', hk', rfl⟩ := List.mem_map.mp hk
            exact (KS_ok hGO hQ.1 hf.1 ho hk').2.2.2.1) ⟨b1, b2, b3⟩ i0 i1 z⟩)
      rw [show ((0 : Nat) : Int) = 0 from rfl] at g1
      rw [g1]
      have X2 : SpR b ((owl.take (j + 1)).flatMap (fun o => CG Q f L o (KS G Q f o))) q d μ2 := by
        rw [htake, List.flatMap_append]
        refine SpR.eqv ((Eqv.rf _).app ?_) g4
        have : ([o] : List Ow).flatMap (fun o => CG Q f L o (KS G Q f o)) = CG Q f L o (KS G Q f o) := by simp
        rw [this]
        exact sumCG_all
      obtain ⟨μ3, r1, r2, r3, r4, r5, r6⟩ := states_loop hN hQ hf hL hbd hm1 hm2 hGO k n (j + 1) (μ := μ2) (by omega) (by omega) g2 g3 X2 g5
      rw [show ((j + 1 : Nat) : Int) = si o + 1 by omega] at r1
      exact ⟨μ3, r1, r2, r3, r4, r5, ((a3.mono (by simp [plI, gtI]) (by simp [plS])).trI g6).trI r6⟩
    · rw [if_neg (show ¬ m_gt μ (p + 2) (si o) ≤ m_gt μ (p + 3) (si o) by omega), if_neg (by decide)]
      have X2 : SpR b ((owl.take (j + 1)).flatMap (fun o => CG Q f L o (KS G Q f o))) q d μ := by
        rw [htake, List.flatMap_append]
        have : ([o] : List Ow).flatMap (fun o => CG Q f L o (KS G Q f o)) = [] := by
          rw [List.flatMap_cons, CG_none hno]
          rfl
        rw [this, List.append_nil]
        exact hX
      obtain ⟨μ3, r1, r2, r3, r4, r5, r6⟩ := states_loop hN hQ hf hL hbd hm1 hm2 hGO k n (j + 1) (μ := μ) (by omega) (by omega) hC hP X2 hG
      unfold jX2_goThroughFrame_144
      rw [bnd_e, i_add_e (by omega) (by omega)]
      rw [show ((j + 1 : Nat) : Int) = si o + 1 by omega] at r1
      exact ⟨μ3, r1, r2, r3, r4, r5, r6⟩
