/-! ===== PURE: the class goes through a frame ===== -/
theorem KS_kx {G : Gm} {Q : Qu} {f : Int} (hf : f < G.1 1) (o : Ow) : (KS G Q f o).map kx = (frow (G.1 2).toNat (G.1 0) (Q.1 f)).map (fun F => leaf G Q f o F) := by
  unfold KS
  rw [if_pos hf, List.map_map]
  rfl
theorem KS_kxf {G : Gm} {Q : Qu} (o : Ow) (h : ¬ (Q.2.1 = true ∧ cnt o ≠ (Q.1 (G.1 1)).length)) : (KS G Q (G.1 1) o).map kx = (frw G (cnt o).toNat (G.1 0) (Q.1 (G.1 1))).map (fun F => leafF G Q o F) := by
  unfold KS
  rw [if_neg (by omega), if_neg h, List.map_map]
  congr 1
  funext F
  show (si (0, 0, 0) * 107 + gf o F + 50, lm Q.2.2.1 Q.2.2.2 (G.1 1) F) = (gf o F + 50, lm Q.2.2.1 Q.2.2.2 (G.1 1) F)
  have : si (0, 0, 0) = 0 := rfl
  rw [this, Int.zero_mul, Int.zero_add]
theorem KS_len {G : Gm} (hG : GOK G) {Q : Qu} (hQ : QOK G Q) {f : Int} (h0 : 0 ≤ f) (o : Ow) : (KS G Q f o).length ≤ 1000 := by
  have hp := hG.1
  have hr := hG.2.2.1
  unfold KS
  split
  · rename_i c
    rw [List.length_map]
    have := frow_len (G.1 2).toNat (G.1 0) (Q.1 f) (by omega) hp.2 (hQ.1 f h0 c)
    have h2 : 10 ^ (G.1 2).toNat ≤ 10 ^ 3 := Nat.pow_le_pow_right (by decide) (by omega)
    omega
  · split
    · simp
    · rw [List.length_map]
      have := frw_len hG (cnt o).toNat (G.1 0) (Q.1 (G.1 1)) (by omega) hQ.2
      have hc := cnt_ok (o := o)
      have h2 : 10 ^ (cnt o).toNat ≤ 10 ^ 3 := Nat.pow_le_pow_right (by decide) (by omega)
      omega
def OC (p c q d : Int) (b : Bool) (sh l : Int) (G : Gm) (R : List Int) (Q : Qu) (μ : Mm) : Prop := (pc p c ∧ pc q d ∧ p ≠ q) ∧ PC sh l G R Q b μ ∧ OP μ ∧ m_gt μ 33 1 = p ∧ m_gt μ 33 2 = q
/-- the cells that going through touches -/
def gtI (p c q d : Int) : List Int := [43, 44, c, p + 2, p + 3, d, q + 2, q + 3]
theorem PC.gen {sh l : Int} {G : Gm} {R : List Int} {Q : Qu} {b : Bool} {μ μ' : Mm} (h : PC sh l G R Q b μ) (hK : KR μ') (e : ∀ r i : Int, (2 ≤ r ∧ r ≤ 31) ∨ r = 42 ∨ (r = 33 ∧ 3 ≤ i ∧ i ≤ 9) → m_gt μ' r i = m_gt μ r i) : PC sh l G R Q b μ' := by
  obtain ⟨h1, ⟨a3, a4, a6, a7, a8, a9⟩, h2⟩ := h
  refine ⟨h1.ext hK (fun r i hr => e r i (Or.inl hr)), ⟨?_, ?_, ?_, ?_, ?_, ?_⟩, fun f h0 h8 => ?_⟩
  · rw [e 33 3 (by omega)]; exact a3
  · rw [e 33 4 (by omega)]; exact a4
  · rw [e 33 6 (by omega)]; exact a6
  · rw [e 33 7 (by omega)]; exact a7
  · rw [e 33 8 (by omega)]; exact a8
  · rw [e 33 9 (by omega)]; exact a9
  · rw [e 42 f (by omega)]; exact h2 f h0 h8
theorem SpR.ext {b : Bool} {L : List Wy} {p c : Int} {μ μ' : Mm} (h : SpR b L p c μ) (e : ∀ r i : Int, (r = c ∨ r = p + 2 ∨ r = p + 3) → m_gt μ' r i = m_gt μ r i) : SpR b L p c μ' := by
  refine ⟨fun o ho t t0 t1 => ?_, fun o ho => ?_⟩
  · rw [e c _ (Or.inl rfl)]; exact h.1 o ho t t0 t1
  · rw [e (p + 2) _ (by simp), e (p + 3) _ (by simp)]; exact h.2 o ho
theorem GRP_nil {b : Bool} {μ : Mm} (h : ∀ i, 0 ≤ i → i < 1498 → m_gt μ 43 i = 0) (h2 : m_gt μ 33 13 = 0) : GRP b [] μ := by
  refine ⟨fun i h0 h1 => ?_, by rw [h2]; rfl, Row.nil _ _ _⟩
  rw [h i h0 h1]
  unfold GVal
  cases b with
  | true => rw [if_pos rfl]; rfl
  | false =>
    rw [if_neg (by decide)]
    refine ⟨⟨by decide, by decide⟩, fun x _ => ?_⟩
    rw [tb_zero]
    rfl
theorem GRP_zero {b : Bool} {ks : List (Int × Int)} {μ : Mm} (hks : ∀ k ∈ ks, 0 ≤ k.2 ∧ k.2 ≤ 9) (h : GRP b ks μ) {i : Int} (h0 : 0 ≤ i) (h1 : i < 1498) (hi : i ∉ dd ks) : m_gt μ 43 i = 0 := (GVal.zero hks (h.1 i h0 h1)).mpr hi
def sumCG (Q : Qu) (f : Int) (L : List Wy) (o : Ow) (kf : List Wy) (D : List Int) : List Wy := D.flatMap (fun i => CG Q f L o (kfi kf i))
/-- the groups of one state, moved one behind another -/
theorem groups_loop {N : Nat} (hN : 1000000 ≤ N) {p c q d : Int} {b : Bool} {sh l : Int} {G : Gm} {R : List Int} {Q : Qu} {f : Int} {L X : List Wy} {o : Ow} {kf : List Wy} (ho : OwOK o) (hL : LB L) (hne : ∃ w ∈ L, w.1 = o) (hkf : ∀ k ∈ kf, OwOK k.1 ∧ -50 ≤ k.2.1 ∧ k.2.1 ≤ 56 ∧ 0 ≤ k.2.2 ∧ k.2.2 ≤ 9) (hbd : ∀ w ∈ L, w.1 = o → ∀ k ∈ kf, -400 ≤ w.2.1 + k.2.1 ∧ w.2.1 + k.2.1 ≤ 449) (hkl : kf.length ≤ 1000) {k2 : Int → Int → Int → Mm → Option Mm} : ∀ (k n j : Nat) {μ : Mm}, j + k = (dd (kf.map kx)).length → k < n → OC p c q d b sh l G R Q μ → SpR b L p c μ → SpR b (X ++ sumCG Q f L o kf ((dd (kf.map kx)).take j)) q d μ → m_gt μ 33 13 = (dd (kf.map kx)).length → Row μ 44 0 (dd (kf.map kx)) → (∀ i, 0 ≤ i → i < 1498 → (i ∈ (dd (kf.map kx)).drop j → GVal b (kf.map kx) i (m_gt μ 43 i)) ∧ (i ∉ (dd (kf.map kx)).drop j → m_gt μ 43 i = 0)) → ∃ μ', jX2_goThroughFrame_92 k2 N n 33 f (si o) j μ = k2 33 f (si o + 1) μ' ∧ OC p c q d b sh l G R Q μ' ∧ SpR b L p c μ' ∧ SpR b (X ++ sumCG Q f L o kf (dd (kf.map kx))) q d μ' ∧ GRP b [] μ' ∧ Fr (gtI p c q d) [(33, 13), (33, 10)] μ μ'
  | k, 0, j, μ, hj, hn, _, _, _, _, _, _ => absurd hn (by omega)
  | 0, n + 1, j, μ, hj, hn, hC, hP, hX, h13, h44, h43 => by
    have hK := hC.2.1.1.2.1
    have hs := si_ok ho
    have hdl := dd_len (kf.map kx)
    rw [List.length_map] at hdl
    rw [List.take_of_length_le (by omega)] at hX
    have f1 : Fr (gtI p c q d) [(33, 13), (33, 10)] μ (m_st μ 33 13 0) := Fr.stI (Fr.rf0 _ _ _) (by simp)
    have K1 : KR (m_st μ 33 13 0) := hK.st _ (by decide)
    have hpc1 := hC.1.1
    have hqd1 := hC.1.2.1
    have gg : ∀ r i : Int, r ≠ 33 → m_gt (m_st μ 33 13 0) r i = m_gt μ r i := fun r i hr => gt_r _ _ _ _ hr
    refine ⟨m_st μ 33 13 0, ?_, ⟨hC.1, hC.2.1.gen K1 (fun r i hr => ?_), ⟨hC.2.2.1.1, hC.2.2.1.2.1, ?_, ?_⟩, ?_, ?_⟩, hP.ext (fun r i hr => gg r i ?_), hX.ext (fun r i hr => gg r i ?_), GRP_nil (fun i h0 h1 => ?_) (gt_same _ _ _ _), f1⟩
    · show jX2_goThroughFrame_92b k2 (jX2_goThroughFrame_92 k2 N n) N 33 f (si o) j μ = _
      unfold jX2_goThroughFrame_92b jX2_goThroughFrame_139 jX2_goThroughFrame_144
      rw [h13, if_pos (by omega), bnd_e, bnd_e, i_add_e (by omega) (by omega)]
    · rw [m_gt_st, if_neg (by omega)]
    · rw [gg _ _ (by decide)]; exact hC.2.2.1.2.2.1
    · rw [gg _ _ (by decide)]; exact hC.2.2.1.2.2.2
    · rw [gt_i _ _ _ (by decide)]; exact hC.2.2.2.1
    · rw [gt_i _ _ _ (by decide)]; exact hC.2.2.2.2
    · unfold pc at hpc1; omega
    · unfold pc at hqd1; omega
    · rw [gg _ _ (by decide)]
      exact (h43 i h0 h1).2 (by rw [List.drop_eq_nil_of_le (by omega)]; simp)
  | k + 1, n + 1, j, μ, hj, hn, hC, hP, hX, h13, h44, h43 => by
    have hK := hC.2.1.1.2.1
    have hs := si_ok ho
    have hdl := dd_len (kf.map kx)
    rw [List.length_map] at hdl
    have hjl : j < (dd (kf.map kx)).length := by omega
    have hk : (dd (kf.map kx))[j]? = some (dd (kf.map kx))[j] := List.getElem?_eq_getElem hjl
    have e44 : m_gt μ 44 j = (dd (kf.map kx))[j] := h44.get hk (by omega)
    have hmem : (dd (kf.map kx))[j] ∈ dd (kf.map kx) := List.getElem_mem hjl
    have hdrop := List.drop_eq_getElem_cons hjl
    have hnd := dd_nodup (kf.map kx)
    have hnd2 : (dd (kf.map kx))[j] ∉ (dd (kf.map kx)).drop (j + 1) := by
      have : ((dd (kf.map kx)).drop j).Nodup := hnd.sublist (List.drop_sublist _ _)
      rw [hdrop, List.nodup_cons] at this
      exact this.1
    have htake : (dd (kf.map kx)).take (j + 1) = (dd (kf.map kx)).take j ++ [(dd (kf.map kx))[j]] := List.take_succ_eq_append_getElem hjl
    generalize hgi : (dd (kf.map kx))[j] = i at *
    have hirng : 0 ≤ i ∧ i < 1498 := by
      obtain ⟨e, he, hei⟩ := (mem_dd _ i).mp hmem
      obtain ⟨k0, hk0, rfl⟩ := List.mem_map.mp he
      have hb0 := hkf k0 hk0
      exact ⟨(key2 hei (si_ok hb0.1) ⟨hb0.2.1, hb0.2.2.1⟩).2.2.1, (key2 hei (si_ok hb0.1) ⟨hb0.2.1, hb0.2.2.1⟩).2.2.2⟩
    have hgv := (h43 i hirng.1 hirng.2).1 (by rw [hdrop]; simp)
    obtain ⟨μ1, a1, a2, a3, a4⟩ := moveGroup_X (N := N) hN hC.1.1 hC.1.2.1 hC.1.2.2 (Q := Q) (f := f) ho hL hne hmem hkf hbd (by omega) hK hC.2.2.1 hC.2.2.2.1 hC.2.2.2.2 hC.2.1.2.1.2.2.2.1 hP hX hgv
    have hpc1 := hC.1.1
    have hqd1 := hC.1.2.1
    have hpq1 := hC.1.2.2
    have hdis : dis p c q d := dis.of hpc1 hqd1 hpq1
    have gg : ∀ r r1 : Int, r ≠ d → r ≠ q + 2 → r ≠ q + 3 → r ≠ 43 → m_gt μ1 r r1 = m_gt μ r r1 := fun r r1 z1 z2 z3 z4 => a4.2.2 r r1 (by simp; exact ⟨z1, z2, z3, z4⟩) (by simp)
    have K1 : KR μ1 := by
      have hq := hqd1
      unfold pc at hq
      rcases hq with ⟨rfl, rfl⟩ | ⟨rfl, rfl⟩ <;> exact a4.KR hK (by decide)
    have cl : ∀ r : Int, (r ≤ 34 ∨ r = 38 ∨ r = 42 ∨ r = 44) → r ≠ d ∧ r ≠ q + 2 ∧ r ≠ q + 3 ∧ r ≠ 43 := by
      intro r hr
      unfold pc at hqd1
      omega
    have g2 : ∀ r r1 : Int, (r ≤ 34 ∨ r = 38 ∨ r = 42 ∨ r = 44) → m_gt μ1 r r1 = m_gt μ r r1 := fun r r1 hr => gg r r1 (cl r hr).1 (cl r hr).2.1 (cl r hr).2.2.1 (cl r hr).2.2.2
    have C1 : OC p c q d b sh l G R Q μ1 := by
      refine ⟨hC.1, hC.2.1.gen K1 (fun r r1 hr => g2 r r1 (by omega)), ⟨by rw [a4.kd]; exact hC.2.2.1.1, by rw [a4.kd]; exact hC.2.2.1.2.1, ?_, ?_⟩, ?_, ?_⟩
      · rw [g2 34 1 (by omega)]; exact hC.2.2.1.2.2.1
      · rw [g2 38 1 (by omega)]; exact hC.2.2.1.2.2.2
      · rw [g2 33 1 (by omega)]; exact hC.2.2.2.1
      · rw [g2 33 2 (by omega)]; exact hC.2.2.2.2
    have P1 : SpR b L p c μ1 := hP.ext (fun r r1 hr => by
      have : r ≠ d ∧ r ≠ q + 2 ∧ r ≠ q + 3 ∧ r ≠ 43 := by
        unfold pc at hpc1 hqd1
        rcases hpc1 with ⟨rfl, rfl⟩ | ⟨rfl, rfl⟩ <;> rcases hqd1 with ⟨rfl, rfl⟩ | ⟨rfl, rfl⟩ <;> omega
      exact gg r r1 this.1 this.2.1 this.2.2.1 this.2.2.2)
    have X1 : SpR b (X ++ sumCG Q f L o kf ((dd (kf.map kx)).take (j + 1))) q d μ1 := by
      rw [htake]
      unfold sumCG at a2 ⊢
      rw [List.flatMap_append, ← List.append_assoc]
      simpa using a2
    obtain ⟨μ2, e1, e2, e3, e4, e5, e6⟩ := groups_loop hN ho hL hne hkf hbd hkl (k2 := k2) k n (j + 1) (μ := μ1) (by omega) (by omega) C1 P1 X1 (by rw [g2 33 13 (by omega)]; exact h13) (h44.ext (fun x => g2 44 x (by omega))) (fun x x0 x1 => by
      rw [a3 x]
      have hx := h43 x x0 x1
      by_cases z : x = i
      · rw [if_pos z]
        exact ⟨fun y => absurd y (by rw [z]; exact hnd2), fun _ => rfl⟩
      · rw [if_neg z]
        rw [hdrop] at hx
        refine ⟨fun y => hx.1 (List.mem_cons_of_mem _ y), fun y => hx.2 (fun y2 => ?_)⟩
        rcases List.mem_cons.mp y2 with y3 | y3
        · exact z y3
        · exact y y3)
    refine ⟨μ2, ?_, e2, e3, e4, e5, (a4.mono (by simp [gtI]) (by simp)).trI e6⟩
    rw [← e1]
    show jX2_goThroughFrame_92b k2 (jX2_goThroughFrame_92 k2 N n) N 33 f (si o) j μ = _
    unfold jX2_goThroughFrame_92b jX2_goThroughFrame_130
    rw [h13, if_neg (by omega), r_33_12 hK, len_e (k_44 hK) (by decide) (by decide), ob_e, if_neg (by omega), ald_e (k_44 hK) (by omega) (by omega), ob_e, e44, hC.2.1.2.1.2.2.2.2.1, chk_e (k_33 hK), chk_e (k_33 hK)]
    by_cases cf : f = Q.2.2.1
    · rw [if_pos cf] at a1
      rw [if_neg (not_not_intro cf), a1, ob_e, bnd_e, i_add_e (by omega) (by omega)]
      rfl
    · rw [if_neg cf] at a1
      rw [if_pos cf, a1, ob_e, bnd_e, i_add_e (by omega) (by omega)]
      rfl
