/-! ===== PURE: the class goes through all frames, to the end ===== -/
def gtA : List Int := [43, 44, 105, 106, 36, 37, 40, 41]
def gtS : List (Int × Int) := [(33, 13), (33, 10), (33, 1), (33, 2)]
theorem gtI_sub {p c q d : Int} (hp : pc p c) (hq : pc q d) {r : Int} (h : r ∈ gtI p c q d) : r ∈ gtA := by
  unfold pc at hp hq
  rcases hp with ⟨rfl, rfl⟩ | ⟨rfl, rfl⟩ <;> rcases hq with ⟨rfl, rfl⟩ | ⟨rfl, rfl⟩ <;> (simp [gtI, gtA] at h ⊢; omega)
theorem Lf_LB {G : Gm} (hG : GOK G) {Q : Qu} (hQ : QOK G Q) {f : Nat} (hf : (f : Int) ≤ G.1 1) : LB (Lf G Q f) := by
  have h8 := hG.2.1
  intro w hw
  obtain ⟨a1, a2, a3, a4, a5⟩ := Lf_ok hG hQ f hf w hw
  have := sm_ok a1
  exact ⟨a1, by omega, by omega, a4, a5⟩
theorem Lf_LB2 {G : Gm} (hG : GOK G) {Q : Qu} (hQ : QOK G Q) {f : Nat} (hf : (f : Int) ≤ G.1 1 + 1) : LB (Lf G Q f) := by
  by_cases c : (f : Int) ≤ G.1 1
  · exact Lf_LB hG hQ c
  · have h8 := hG.2.1
    obtain ⟨n, rfl⟩ : ∃ n, f = n + 1 := ⟨f - 1, by omega⟩
    intro w hw
    obtain ⟨a1, a2, a3, a4, a5⟩ := Lf_end hG hQ (n := n) (by omega) w hw
    exact ⟨by rw [a1]; exact OwOK_0, by omega, by omega, a4, a5⟩
/-- marks are told only where each way has the marked roll -/
def QM (G : Gm) (Q : Qu) (b : Bool) : Prop := b = false → (∀ f, 0 ≤ f → f < G.1 1 → f = Q.2.2.1 → ∀ F ∈ frow (G.1 2).toNat (G.1 0) (Q.1 f), Q.2.2.2 < F.length) ∧ (G.1 1 = Q.2.2.1 → ∀ w ∈ Lf G Q (G.1 1).toNat, Q.2.2.2 < cnt w.1)
theorem goThroughFrame_X {N : Nat} (hN : 1000000 ≤ N) {p c q d : Int} {b : Bool} {sh l : Int} {G : Gm} {R : List Int} {Q : Qu} (hQ : QR G R Q) (hM : QM G Q b) {f : Nat} (hf : (f : Int) ≤ G.1 1) {μ : Mm} (hC : OC p c q d b sh l G R Q μ) (hP : SpR b (Lf G Q f) p c μ) (hZ : ZR q d μ) (hG : GRP b [] μ) : ∃ μ', jX2_goThroughFrame N 33 f μ = some μ' ∧ OC q d p c b sh l G R Q μ' ∧ SpR b (Lf G Q (f + 1)) q d μ' ∧ ZR p c μ' ∧ GRP b [] μ' ∧ Fr gtA gtS μ μ' := by
  have hGO := hC.2.1.1.1.2.2.1
  have h8 := hGO.2.1
  have hL := Lf_LB hGO hQ.1 hf
  obtain ⟨μ1, a1, a2, a3, a4, a5, a6⟩ := states_loop (N := N) hN hQ (f := (f : Int)) ⟨by omega, hf⟩ hL (fun w hw k hk => by
      obtain ⟨b1, b2, b3, b4, b5⟩ := Lf_ok hGO hQ.1 f hf w hw
      obtain ⟨c1, c2, c3, c4, c5, c6⟩ := KS_ok hGO hQ.1 (by omega) b1 hk
      have s1 := sm_ok b1
      have s2 := sm_ok c1
      by_cases z : (f : Int) < G.1 1
      · have := c5 z; omega
      · have := c6 z; omega) (fun z y x => (hM z).1 f (by omega) x y) (fun z y x => by
        have := (hM z).2 y
        rw [show (G.1 1).toNat = f by omega] at this
        exact this) hGO 14 N 0 (μ := μ) (by omega) (by omega) hC hP (by simpa using SpR.nil hZ) hG
  have K1 := a2.2.1.1.2.1
  have SP := SPK.of K1 a2.2.2.1 a2.1.1
  obtain ⟨μ2, w1, w2, w3⟩ := wipe_X (N := N) hN a2.1.1 hL SP a3
  have hpc1 := a2.1.1
  have hqd1 := a2.1.2.1
  have hdis : dis p c q d := dis.of a2.1.1 a2.1.2.1 a2.1.2.2
  have hdis2 : dis q d p c := dis.of a2.1.2.1 a2.1.1 (fun z => a2.1.2.2 z.symm)
  have gw : ∀ r i : Int, r ≠ c → r ≠ p + 2 → r ≠ p + 3 → m_gt μ2 r i = m_gt μ1 r i := fun r i z1 z2 z3 => w3.2.2 r i (by simp; exact ⟨z1, z2, z3⟩) (by simp)
  have K2 : KR μ2 := by
    have hq := hpc1
    unfold pc at hq
    rcases hq with ⟨rfl, rfl⟩ | ⟨rfl, rfl⟩ <;> exact w3.KR K1 (by decide)
  have cl : ∀ r : Int, (r ≤ 34 ∨ r = 38 ∨ r = 42 ∨ r = 43 ∨ r = 44) → r ≠ c ∧ r ≠ p + 2 ∧ r ≠ p + 3 := by
    intro r hr
    unfold pc at hpc1
    omega
  have g2 : ∀ r i : Int, (r ≤ 34 ∨ r = 38 ∨ r = 42 ∨ r = 43 ∨ r = 44) → m_gt μ2 r i = m_gt μ1 r i := fun r i hr => gw r i (cl r hr).1 (cl r hr).2.1 (cl r hr).2.2
  let μ3 := m_st (m_st μ2 33 1 q) 33 2 p
  have g3 : ∀ r i : Int, ¬ (r = 33 ∧ (i = 1 ∨ i = 2)) → m_gt μ3 r i = m_gt μ2 r i := by
    intro r i z
    show m_gt (m_st (m_st μ2 33 1 q) 33 2 p) r i = _
    rw [m_gt_st, m_gt_st, if_neg (by omega), if_neg (by omega)]
  have K3 : KR μ3 := (K2.st _ (by decide)).st _ (by decide)
  refine ⟨μ3, ?_, ⟨⟨a2.1.2.1, a2.1.1, fun z => a2.1.2.2 z.symm⟩, a2.2.1.gen K3 (fun r i hr => ?_), ⟨?_, ?_, ?_, ?_⟩, ?_, ?_⟩, ?_, ?_, ?_, ?_⟩
  · show jX2_goThroughFrame_2 N N 33 f 0 μ = _
    rw [show ((0 : Nat) : Int) = 0 from rfl] at a1
    rw [a1]
    unfold jX2_goThroughFrame_2b
    rw [if_pos (by decide), a2.2.2.2.1, chk_e SP.1.1, w1, ob_e, bnd_e, bnd_e, g2 33 1 (by omega), g2 33 2 (by omega), a2.2.2.2.1, a2.2.2.2.2]
  · rw [g3 r i (by omega)]; exact g2 r i (by omega)
  · show m_kd μ2 105 = _; rw [w3.kd]; exact a2.2.2.1.1
  · show m_kd μ2 106 = _; rw [w3.kd]; exact a2.2.2.1.2.1
  · rw [g3 34 1 (by omega), g2 34 1 (by omega)]; exact a2.2.2.1.2.2.1
  · rw [g3 38 1 (by omega), g2 38 1 (by omega)]; exact a2.2.2.1.2.2.2
  · show m_gt (m_st (m_st μ2 33 1 q) 33 2 p) 33 1 = _; rw [gt_i _ _ _ (by decide), gt_same]
  · exact gt_same _ _ _ _
  · refine SpR.eqv (states_eqv _ (fun w hw => (hL w hw).1)) (a4.ext (fun r i hr => ?_))
    have hr2 : r ≠ c ∧ r ≠ p + 2 ∧ r ≠ p + 3 ∧ r ≠ 33 := by
      have h1 := a2.1.2.2
      unfold pc at hpc1 hqd1
      rcases hpc1 with ⟨rfl, rfl⟩ | ⟨rfl, rfl⟩ <;> rcases hqd1 with ⟨rfl, rfl⟩ | ⟨rfl, rfl⟩ <;> omega
    rw [g3 r i (by omega), gw r i hr2.1 hr2.2.1 hr2.2.2.1]
  · have hr2 : c ≠ 33 ∧ p + 2 ≠ 33 ∧ p + 3 ≠ 33 := by unfold pc at hpc1; omega
    refine ⟨fun r t r0 r1 t0 t1 => ?_, fun r r0 r1 => ?_⟩
    · rw [g3 _ _ (fun z => hr2.1 z.1)]; exact w2.1 r t r0 r1 t0 t1
    · rw [g3 _ _ (fun z => hr2.2.1 z.1), g3 _ _ (fun z => hr2.2.2 z.1)]; exact w2.2 r r0 r1
  · obtain ⟨q1, q2, q3⟩ := a5
    refine ⟨fun i i0 i1 => ?_, ?_, Row.nil _ _ _⟩
    · rw [g3 43 i (by omega), g2 43 i (by omega)]; exact q1 i i0 i1
    · rw [g3 33 13 (by omega), g2 33 13 (by omega)]; exact q2
  · have f1 : Fr gtA gtS μ μ1 := a6.mono (fun r hr => gtI_sub hpc1 hqd1 hr) (fun q hq => Or.inl (by simp [gtS] at hq ⊢; rcases hq with h | h <;> simp [h]))
    have f2 : Fr gtA gtS μ1 μ2 := w3.mono (fun r hr => by
      unfold pc at hpc1
      simp [gtA] at hr ⊢
      omega) (by simp)
    exact ((f1.trI f2).stI (by decide)).stI (by decide)
theorem goThrough_loop {N : Nat} (hN : 1000000 ≤ N) {b : Bool} {sh l : Int} {G : Gm} (hGO : GOK G) {R : List Int} {Q : Qu} (hQ : QR G R Q) (hM : QM G Q b) : ∀ (k n f : Nat) {p c q d : Int} {μ : Mm}, (f : Int) + k = G.1 1 + 1 → k < n → OC p c q d b sh l G R Q μ → SpR b (Lf G Q f) p c μ → ZR q d μ → GRP b [] μ → ∃ μ' p' c' q' d', jX2_goThrough_48 N n 33 f μ = some μ' ∧ OC p' c' q' d' b sh l G R Q μ' ∧ SpR b (Lf G Q ((G.1 1).toNat + 1)) p' c' μ' ∧ ZR q' d' μ' ∧ GRP b [] μ' ∧ Fr gtA gtS μ μ'
  | k, 0, f, p, c, q, d, μ, hf, hn, _, _, _, _ => absurd hn (by omega)
  | 0, n + 1, f, p, c, q, d, μ, hf, hn, hC, hP, hZ, hG => by
    have h8 := hGO.2.1
    have ef : f = (G.1 1).toNat + 1 := by omega
    refine ⟨μ, p, c, q, d, ?_, hC, by rw [← ef]; exact hP, hZ, hG, Fr.rf0 _ _ _⟩
    show jX2_goThrough_48b (jX2_goThrough_48 N n) N 33 f μ = _
    unfold jX2_goThrough_48b
    rw [hC.2.1.2.1.2.1, chk_e (LK.of hC.2.1.1.2.1 hC.2.1.1.1.2.1).1.1, hC.2.1.1.2.2.1.1.2.1, if_pos (by omega)]
  | k + 1, n + 1, f, p, c, q, d, μ, hf, hn, hC, hP, hZ, hG => by
    have h8 := hGO.2.1
    obtain ⟨μ1, a1, a2, a3, a4, a5, a6⟩ := goThroughFrame_X (N := N) hN hQ hM (f := f) (by omega) hC hP hZ hG
    obtain ⟨μ2, p', c', q', d', r1, r2, r3, r4, r5, r6⟩ := goThrough_loop hN hGO hQ hM k n (f + 1) (by omega) (by omega) a2 a3 a4 a5
    refine ⟨μ2, p', c', q', d', ?_, r2, r3, r4, r5, a6.trI r6⟩
    show jX2_goThrough_48b (jX2_goThrough_48 N n) N 33 f μ = _
    unfold jX2_goThrough_48b
    rw [hC.2.1.2.1.2.1, chk_e (LK.of hC.2.1.1.2.1 hC.2.1.1.1.2.1).1.1, hC.2.1.1.2.2.1.1.2.1, if_neg (by omega), a1, ob_e, bnd_e, i_add_e (by omega) (by omega)]
    exact r1
theorem set_X {N : Nat} {p c : Int} (hp : pc p c) {b : Bool} {μ : Mm} (hK : KR μ) (hO : OP μ) (hZ : ZR p c μ) : ∃ μ', jX6_set N p 0 400 1 μ = some μ' ∧ SpR b [((0, 0, 0), 0, 0)] p c μ' ∧ Fr [c, p + 2, p + 3] [] μ μ' := by
  have SP := SPK.of hK hO hp
  have hpc : c ≠ p ∧ p + 2 ≠ c ∧ p + 3 ≠ c := by unfold pc at hp; omega
  obtain ⟨⟨k1, k2, k3, k4⟩, w0, w1, w2, w3⟩ := id SP
  let μ1 := m_st μ c 400 1
  have gg : ∀ x i : Int, x ≠ c → m_gt μ1 x i = m_gt μ x i := fun x i hx => gt_r _ _ _ _ hx
  have SP1 : SPK μ1 p c := ⟨⟨k1, k2, k3, k4⟩, by rw [gg p 0 hpc.1.symm]; exact w0, by rw [gg p 1 hpc.1.symm]; exact w1, by rw [gg p 2 hpc.1.symm]; exact w2, by rw [gg p 3 hpc.1.symm]; exact w3⟩
  have l0 := hZ.2 0 (by decide) (by decide)
  have e850 : m_gt μ1 (p + 2) 0 = 850 := by rw [gg _ _ hpc.2.1]; exact l0.1
  have em1 : m_gt μ1 (p + 3) 0 = -1 := by rw [gg _ _ hpc.2.2]; exact l0.2
  have hst := stretch_X (N := N) (a := 400) (b := 400) SP1 (r := 0) (by decide)
  rw [e850, em1, show mnI 850 400 = 400 from rfl, show mxI (-1) 400 = 400 from rfl] at hst
  refine ⟨m_st (m_st μ1 (p + 2) 0 400) (p + 3) 0 400, ?_, ⟨fun o ho t t0 t1 => ?_, fun o ho => ?_⟩, Fr.stI (Fr.stI (Fr.stI (Fr.rf0 _ _ _) (by simp)) (by simp)) (by simp)⟩
  · unfold jX6_set jX6_set_41
    rw [isRow_X SP (by decide), b2_e, if_neg (by decide), if_neg (by decide), w0, if_neg (by decide), w1, show i_add (i_mul 0 850) 400 = 400 from rfl, ast_e k2 (by decide) (by decide), ob_e]
    show (jX6_stretch N p 0 400 400 μ1).bind _ = _
    rw [hst, ob_e]
  · have hs := si_ok ho
    rw [gt_r _ _ _ _ hpc.2.2.symm, gt_r _ _ _ _ hpc.2.1.symm]
    show RV b _ o (t - 400) (m_gt (m_st μ c 400 1) c (si o * 850 + t))
    by_cases z : o = (0, 0, 0) ∧ t = 400
    · rw [z.1, z.2, show si (0, 0, 0) * 850 + 400 = 400 from rfl, gt_same]
      unfold RV
      cases b with
      | true =>
        have e : cT [((0, 0, 0), 0, 0)] (0, 0, 0) (400 - 400) = 1 := rfl
        rw [if_pos rfl, e]
        unfold mnI CM
        rw [if_pos (by decide)]
        rfl
      | false =>
        rw [if_neg (by decide)]
        refine ⟨⟨by decide, by decide⟩, fun x hx => ?_⟩
        have : ∀ x : Fin 10, tb 1 x.val = decide (0 < cMk [((0, 0, 0), 0, 0)] (0, 0, 0) (400 - 400) x.val) := by decide
        exact this ⟨x, hx⟩
    · have hne : si o * 850 + t ≠ 400 := by
        intro y
        apply z
        have : si o = 0 := by omega
        exact ⟨si_inj ho OwOK_0 this, by omega⟩
      rw [gt_i _ _ _ hne, hZ.1 _ t hs.1 hs.2 t0 t1]
      have hc : cT [((0, 0, 0), 0, 0)] o (t - 400) = 0 := cT_zero.mpr (fun w hw y => by
        rw [List.mem_singleton.mp hw] at y
        exact z ⟨y.1.symm, by have := y.2; dsimp only at this; omega⟩)
      unfold RV
      cases b with
      | true =>
        rw [if_pos rfl, hc]
        unfold mnI CM
        rw [if_pos (by decide)]
        rfl
      | false =>
        rw [if_neg (by decide)]
        refine ⟨⟨by decide, by decide⟩, fun x _ => ?_⟩
        rw [tb_zero, cM_le hc]
        rfl
  · have hs := si_ok ho
    have e2 : m_gt (m_st (m_st μ1 (p + 2) 0 400) (p + 3) 0 400) (p + 2) (si o) = if si o = 0 then 400 else m_gt μ (p + 2) (si o) := by
      rw [gt_r _ _ _ _ (by omega), m_gt_st, gg _ _ hpc.2.1]
      by_cases z : si o = 0
      · rw [if_pos ⟨rfl, z⟩, if_pos z]
      · rw [if_neg (fun y => z y.2), if_neg z]
    have e3 : m_gt (m_st (m_st μ1 (p + 2) 0 400) (p + 3) 0 400) (p + 3) (si o) = if si o = 0 then 400 else m_gt μ (p + 3) (si o) := by
      rw [m_gt_st, gt_r _ _ _ _ (by omega), gg _ _ hpc.2.2]
      by_cases z : si o = 0
      · rw [if_pos ⟨rfl, z⟩, if_pos z]
      · rw [if_neg (fun y => z y.2), if_neg z]
    rw [e2, e3]
    by_cases z : si o = 0
    · have ho0 : o = (0, 0, 0) := si_inj ho OwOK_0 z
      rw [if_pos z, if_pos z, ho0]
      exact Or.inl ⟨⟨_, List.mem_singleton.mpr rfl, rfl⟩, ⟨_, List.mem_singleton.mpr rfl, rfl, rfl⟩, ⟨_, List.mem_singleton.mpr rfl, rfl, rfl⟩, fun w hw _ => by rw [List.mem_singleton.mp hw]; exact ⟨by decide, by decide⟩⟩
    · rw [if_neg z, if_neg z]
      refine Or.inr ⟨fun w hw y => ?_, hZ.2 _ hs.1 hs.2⟩
      rw [List.mem_singleton.mp hw] at y
      apply z
      rw [← y]
      rfl
