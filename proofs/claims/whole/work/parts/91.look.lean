/-! ===== PURE: the class looks ahead ===== -/
/-- the look-ahead's cells between calls -/
def OS (μ : Mm) : Prop := KR μ ∧ (∀ i, 0 ≤ i → i < 1498 → m_gt μ 43 i = 0) ∧ m_gt μ 33 13 = 0 ∧ (((m_sz μ = 105 ∧ m_sl μ ≤ 7000000) ∧ (m_gt μ 33 1 = 34 ∧ m_gt μ 33 2 = 38) ∧ (m_gt μ 34 1 = 35 ∧ m_gt μ 38 1 = 39) ∧ (∀ r, 0 ≤ r → r < 14 → (m_gt μ 36 r = 850 ∧ m_gt μ 37 r = -1) ∧ (m_gt μ 40 r = 850 ∧ m_gt μ 41 r = -1))) ∨ ((m_sz μ = 107 ∧ m_sl μ ≤ 7100000) ∧ OP μ ∧ ∃ p c q d, (pc p c ∧ pc q d ∧ p ≠ q) ∧ m_gt μ 33 1 = p ∧ m_gt μ 33 2 = q ∧ ZR q d μ ∧ ∃ b L, LB L ∧ SpR b L p c μ))
set_option maxRecDepth 100000 in
theorem open_X {N : Nat} {μ : Mm} (h : OS μ) : ∃ μ' p c q d, ((pc p c ∧ pc q d ∧ p ≠ q) ∧ (m_gt μ 33 1 = p ∧ m_gt μ 33 2 = q)) ∧ (∃ μ3, jX6_open N p μ = some μ3 ∧ m_gt μ3 33 2 = q ∧ m_kd μ3 q = (6, 0) ∧ jX6_open N q μ3 = some μ') ∧ KR μ' ∧ OP μ' ∧ (m_sz μ' = 107 ∧ m_sl μ' ≤ 7100000) ∧ ZR q d μ' ∧ (∃ b L, LB L ∧ SpR b L p c μ') ∧ (∀ r i : Int, r ≠ 34 → r ≠ 38 → r < 105 → m_gt μ' r i = m_gt μ r i) := by
  obtain ⟨hK, h43, h13, hh⟩ := h
  rcases hh with ⟨⟨hsz, hsl⟩, ⟨n1, n2⟩, ⟨c1, c2⟩, hrow⟩ | ⟨⟨hsz, hsl⟩, hO, p, c, q, d, hpq, n1, n2, hZ, hX⟩
  · let μ1 := m_nw μ 101 11900 11900
    let μ2 := m_st μ1 34 1 105
    let μ3 := m_nw μ2 101 11900 11900
    let μ4 := m_st μ3 38 1 106
    have z1 : m_sz μ1 = 106 := by show μ.1.1 + 1 = 106; have : μ.1.1 = 105 := hsz; omega
    have e105 : (m_sz μ : Int) = 105 := by rw [hsz]; rfl
    have e106 : (m_sz μ2 : Int) = 106 := by show ((m_sz μ1 : Nat) : Int) = 106; rw [z1]; rfl
    have kd1 : ∀ r : Int, m_kd μ1 r = if r = 105 then (101, 11900) else m_kd μ r := fun r => by
      show (if r = ((m_sz μ : Nat) : Int) then ((101 : Nat), (11900 : Nat)) else m_kd μ r) = _
      rw [e105]
    have kd3 : ∀ r : Int, m_kd μ3 r = if r = 106 then (101, 11900) else m_kd μ1 r := fun r => by
      show (if r = ((m_sz μ2 : Nat) : Int) then ((101 : Nat), (11900 : Nat)) else m_kd μ1 r) = _
      rw [e106]
    have gt1 : ∀ r i : Int, m_gt μ1 r i = if r = 105 then 0 else m_gt μ r i := fun r i => by
      show (if r = ((m_sz μ : Nat) : Int) then f_df 101 i else m_gt μ r i) = _
      rw [e105]
      rfl
    have gt3 : ∀ r i : Int, m_gt μ3 r i = if r = 106 then 0 else m_gt μ2 r i := fun r i => by
      show (if r = ((m_sz μ2 : Nat) : Int) then f_df 101 i else m_gt μ2 r i) = _
      rw [e106]
      rfl
    have gt4 : ∀ r i : Int, r ≠ 34 → r ≠ 38 → r < 105 → m_gt μ4 r i = m_gt μ r i := by
      intro r i q1 q2 q3
      show m_gt (m_st μ3 38 1 106) r i = _
      rw [gt_r _ _ _ _ q2, gt3, if_neg (by omega)]
      show m_gt (m_st μ1 34 1 105) r i = _
      rw [gt_r _ _ _ _ q1, gt1, if_neg (by omega)]
    have g34 : ∀ i, i ≠ 1 → m_gt μ4 34 i = m_gt μ 34 i := by
      intro i q
      show m_gt (m_st μ3 38 1 106) 34 i = _
      rw [gt_r _ _ _ _ (by decide), gt3, if_neg (by decide)]
      show m_gt (m_st μ1 34 1 105) 34 i = _
      rw [gt_i _ _ _ q, gt1, if_neg (by decide)]
    have g38 : ∀ i, i ≠ 1 → m_gt μ4 38 i = m_gt μ 38 i := by
      intro i q
      show m_gt (m_st μ3 38 1 106) 38 i = _
      rw [gt_i _ _ _ q, gt3, if_neg (by decide)]
      show m_gt (m_st μ1 34 1 105) 38 i = _
      rw [gt_r _ _ _ _ (by decide), gt1, if_neg (by decide)]
    have K4 : KR μ4 := by
      refine ⟨fun x hx => ?_, fun x hx => ?_, ?_⟩
      · have hr : x.1 < 105 := by
          have : kdT.all (fun x => decide (x.1 < 105)) = true := by decide
          exact of_decide_eq_true (List.all_eq_true.mp this x hx)
        show m_kd μ3 x.1 = x.2
        rw [kd3, if_neg (by omega), kd1, if_neg (by omega)]
        exact hK.1 x hx
      · have hr : x.1 < 105 ∧ ¬ (x.1 = 34 ∧ x.2.1 = 1) ∧ ¬ (x.1 = 38 ∧ x.2.1 = 1) := by
          have : rfT.all (fun x => decide (x.1 < 105 ∧ ¬ (x.1 = 34 ∧ x.2.1 = 1) ∧ ¬ (x.1 = 38 ∧ x.2.1 = 1))) = true := by decide
          exact of_decide_eq_true (List.all_eq_true.mp this x hx)
        have e : m_gt μ4 x.1 x.2.1 = m_gt μ x.1 x.2.1 := by
          by_cases c3 : x.1 = 34
          · rw [c3]; exact g34 _ (fun z => hr.2.1 ⟨c3, z⟩)
          · by_cases c4 : x.1 = 38
            · rw [c4]; exact g38 _ (fun z => hr.2.2 ⟨c4, z⟩)
            · exact gt4 _ _ c3 c4 hr.1
        rw [e]
        exact hK.2.1 x hx
      · show 105 ≤ m_sz μ2 + 1
        have : m_sz μ2 = 106 := z1
        omega
    have O4 : OP μ4 := by
      refine ⟨?_, ?_, ?_, gt_same _ _ _ _⟩
      · show m_kd μ3 105 = _; rw [kd3, if_neg (by decide), kd1, if_pos rfl]
      · show m_kd μ3 106 = _; rw [kd3, if_pos rfl]
      · show m_gt (m_st μ3 38 1 106) 34 1 = _
        rw [gt_r _ _ _ _ (by decide), gt3, if_neg (by decide)]
        exact gt_same _ _ _ _
    have Z1 : ZR 34 105 μ4 := by
      refine ⟨fun r t _ _ _ _ => ?_, fun r r0 r1 => ?_⟩
      · show m_gt (m_st μ3 38 1 106) 105 _ = _
        rw [gt_r _ _ _ _ (by decide), gt3, if_neg (by decide)]
        show m_gt (m_st μ1 34 1 105) 105 _ = _
        rw [gt_r _ _ _ _ (by decide), gt1, if_pos rfl]
      · show m_gt μ4 36 r = 850 ∧ m_gt μ4 37 r = -1
        rw [gt4 36 r (by decide) (by decide) (by decide), gt4 37 r (by decide) (by decide) (by decide)]
        exact (hrow r r0 r1).1
    have Z2 : ZR 38 106 μ4 := by
      refine ⟨fun r t _ _ _ _ => ?_, fun r r0 r1 => ?_⟩
      · show m_gt (m_st μ3 38 1 106) 106 _ = _
        rw [gt_r _ _ _ _ (by decide), gt3, if_pos rfl]
      · show m_gt μ4 40 r = 850 ∧ m_gt μ4 41 r = -1
        rw [gt4 40 r (by decide) (by decide) (by decide), gt4 41 r (by decide) (by decide) (by decide)]
        exact (hrow r r0 r1).2
    refine ⟨μ4, 34, 105, 38, 106, ⟨⟨Or.inl ⟨rfl, rfl⟩, Or.inr ⟨rfl, rfl⟩, by decide⟩, n1, n2⟩, ?_, K4, O4, ⟨?_, ?_⟩, Z2, ⟨true, [], fun w hw => absurd hw (by simp), SpR.nil Z1⟩, gt4⟩
    · have o1 : jX6_open N 34 μ = some μ2 := by
        unfold jX6_open jX6_open_24
        rw [c1, len_e (k_35 hK) (by decide) (by decide), ob_e, if_neg (by decide), r_34_2 hK, len_e (k_36 hK) (by decide) (by decide), ob_e, r_34_0 hK]
        show (m_na 101 μ (i_mul ((14 : Nat) : Int) 850)).bind _ = _
        rw [show i_mul ((14 : Nat) : Int) 850 = 11900 from rfl]
        unfold m_na
        rw [if_pos (by decide), ob_e, bnd_e, e105]
        rfl
      have gm2 : ∀ r i : Int, r ≠ 34 → r < 105 → m_gt μ2 r i = m_gt μ r i := by
        intro r i q1 q2
        show m_gt (m_st μ1 34 1 105) r i = _
        rw [gt_r _ _ _ _ q1, gt1, if_neg (by omega)]
      have km2 : ∀ r : Int, r < 105 → m_kd μ2 r = m_kd μ r := by
        intro r q
        show m_kd μ1 r = _
        rw [kd1, if_neg (by omega)]
      have o2 : jX6_open N 38 μ2 = some μ4 := by
        unfold jX6_open jX6_open_24
        rw [gm2 38 1 (by decide) (by decide), c2, len_e (show m_kd μ2 39 = (101, 0) by rw [km2 39 (by decide)]; exact k_39 hK) (by decide) (by decide), ob_e, if_neg (by decide), gm2 38 2 (by decide) (by decide), r_38_2 hK, len_e (show m_kd μ2 40 = (100, 14) by rw [km2 40 (by decide)]; exact k_40 hK) (by decide) (by decide), ob_e, gm2 38 0 (by decide) (by decide), r_38_0 hK]
        show (m_na 101 μ2 (i_mul ((14 : Nat) : Int) 850)).bind _ = _
        rw [show i_mul ((14 : Nat) : Int) 850 = 11900 from rfl]
        unfold m_na
        rw [if_pos (by decide), ob_e, bnd_e, e106]
        rfl
      exact ⟨μ2, o1, by rw [gm2 33 2 (by decide) (by decide)]; exact n2, by rw [km2 38 (by decide)]; exact k_38 hK, o2⟩
    · show m_sz μ2 + 1 = 107
      have : m_sz μ2 = 106 := z1
      omega
    · show μ.1.2 + 11900 + 11900 ≤ 7100000
      have : μ.1.2 ≤ 7000000 := hsl
      omega
  · refine ⟨μ, p, c, q, d, ⟨hpq, n1, n2⟩, ?_, hK, hO, ⟨hsz, hsl⟩, hZ, hX, fun _ _ _ _ _ => rfl⟩
    have SP := SPK.of hK hO hpq.1
    have SQ := SPK.of hK hO hpq.2.1
    have o1 : ∀ p c, SPK μ p c → jX6_open N p μ = some μ := by
      intro p c S
      unfold jX6_open jX6_open_24
      rw [S.2.2.1, len_e S.1.2.1 (by decide) (by decide), ob_e, if_pos (by decide)]
    exact ⟨μ, o1 p c SP, n2, SQ.1.1, o1 q d SQ⟩
/-- what the class holds between calls, of a look ahead -/
def RES (b : Bool) (L : List Wy) (μ : Mm) : Prop := m_sz μ = 107 ∧ m_sl μ ≤ 7100000 ∧ OP μ ∧ ∃ p c q d, (pc p c ∧ pc q d ∧ p ≠ q) ∧ m_gt μ 33 1 = p ∧ m_gt μ 33 2 = q ∧ ZR q d μ ∧ SpR b L p c μ
theorem RES.os {b : Bool} {L : List Wy} (hL : LB L) {μ : Mm} (hK : KR μ) (h : RES b L μ) (hG : GRP b [] μ) : OS μ := by
  obtain ⟨s1, s2, hO, p, c, q, d, h1, h2, h3, h4, h5⟩ := h
  refine ⟨hK, fun i i0 i1 => ?_, by have := hG.2.1; exact this, Or.inr ⟨⟨s1, s2⟩, hO, p, c, q, d, h1, h2, h3, h4, b, L, hL, h5⟩⟩
  exact GRP_zero (ks := []) (fun k hk => absurd hk (by simp)) hG i0 i1 (by simp [dd])
/-- cells that a look ahead may change -/
def lkC (r : Int) : Prop := r = 33 ∨ r = 34 ∨ r = 35 ∨ r = 39 ∨ r = 36 ∨ r = 37 ∨ r = 38 ∨ r = 40 ∨ r = 41 ∨ r = 42 ∨ r = 43 ∨ r = 44 ∨ 105 ≤ r
theorem goThrough_X {N : Nat} (hN : 1000000 ≤ N) {b : Bool} {sh l : Int} {G : Gm} {R : List Int} {Q : Qu} (hQ : QR G R Q) (hM : QM G Q b) {μ : Mm} (hOS : OS μ) (hS : SC sh l G R μ) (h6 : m_gt μ 33 6 = if Q.2.1 then 1 else 0) (h7 : m_gt μ 33 7 = if b then 1 else 0) (h8 : m_gt μ 33 8 = Q.2.2.1) (h9 : m_gt μ 33 9 = Q.2.2.2) (h42 : ∀ f, 0 ≤ f → f ≤ 8 → m_gt μ 42 f = (Q.1 f).length) : ∃ μ', jX2_goThrough N 33 sh μ = some μ' ∧ KR μ' ∧ RES b (Lf G Q ((G.1 1).toNat + 1)) μ' ∧ GRP b [] μ' ∧ m_gt μ' 33 0 = m_gt μ 33 0 ∧ (∀ r i : Int, ¬ lkC r → m_gt μ' r i = m_gt μ r i) := by
  have hGO := hS.1.2.2.1
  have hK := hOS.1
  let μ2 := m_st (m_st μ 33 3 sh) 33 4 l
  have g2 : ∀ r i : Int, ¬ (r = 33 ∧ (i = 3 ∨ i = 4)) → m_gt μ2 r i = m_gt μ r i := by
    intro r i z
    show m_gt (m_st (m_st μ 33 3 sh) 33 4 l) r i = _
    rw [m_gt_st, m_gt_st, if_neg (by omega), if_neg (by omega)]
  have K2 : KR μ2 := (hK.st _ (by decide)).st _ (by decide)
  have OS2 : OS μ2 := by
    obtain ⟨_, a1, a2, a3⟩ := hOS
    refine ⟨K2, fun i i0 i1 => by rw [g2 43 i (by omega)]; exact a1 i i0 i1, by rw [g2 33 13 (by omega)]; exact a2, ?_⟩
    rcases a3 with ⟨a3, ⟨n1, n2⟩, ⟨c1, c2⟩, hrow⟩ | ⟨a3, hO, p, c, q, d, hpq, n1, n2, hZ, bb, LL, hLL, hX⟩
    · refine Or.inl ⟨a3, ⟨by rw [g2 33 1 (by omega)]; exact n1, by rw [g2 33 2 (by omega)]; exact n2⟩, ⟨by rw [g2 34 1 (by omega)]; exact c1, by rw [g2 38 1 (by omega)]; exact c2⟩, fun r r0 r1 => ?_⟩
      rw [g2 36 r (by omega), g2 37 r (by omega), g2 40 r (by omega), g2 41 r (by omega)]
      exact hrow r r0 r1
    · have hp1 := hpq.1
      have hq1 := hpq.2.1
      refine Or.inr ⟨a3, ⟨hO.1, hO.2.1, by rw [g2 34 1 (by omega)]; exact hO.2.2.1, by rw [g2 38 1 (by omega)]; exact hO.2.2.2⟩, p, c, q, d, hpq, by rw [g2 33 1 (by omega)]; exact n1, by rw [g2 33 2 (by omega)]; exact n2, ⟨fun r t r0 r1 t0 t1 => ?_, fun r r0 r1 => ?_⟩, bb, LL, hLL, hX.ext (fun r i hr => g2 r i ?_)⟩
      · rw [g2 d _ (by unfold pc at hq1; omega)]; exact hZ.1 r t r0 r1 t0 t1
      · rw [g2 (q + 2) _ (by unfold pc at hq1; omega), g2 (q + 3) _ (by unfold pc at hq1; omega)]; exact hZ.2 r r0 r1
      · unfold pc at hp1; omega
  obtain ⟨μ4, p, c, q, d, ⟨hpq, n1, n2⟩, ⟨μ3, o1, o2, o3, o4⟩, K4, O4, hsz, hZ, ⟨bb, LL, hLL, hX⟩, g4⟩ := open_X (N := N) OS2
  have hp1 := hpq.1
  have hq1 := hpq.2.1
  have SP4 := SPK.of K4 O4 hp1
  obtain ⟨μ5, w1, w2, w3⟩ := wipe_X (N := N) hN hp1 hLL SP4 hX
  have K5 : KR μ5 := by
    have hq := hp1
    unfold pc at hq
    rcases hq with ⟨rfl, rfl⟩ | ⟨rfl, rfl⟩ <;> exact w3.KR K4 (by decide)
  have npc : ∀ r : Int, (r ≤ 34 ∨ r = 38 ∨ r = 42 ∨ r = 43 ∨ r = 44 ∨ (45 ≤ r ∧ r < 105)) → r ∉ [c, p + 2, p + 3] := by
    intro r hr
    unfold pc at hp1
    simp
    omega
  have g5 : ∀ r i : Int, (r ≤ 34 ∨ r = 38 ∨ r = 42 ∨ r = 43 ∨ r = 44 ∨ (45 ≤ r ∧ r < 105)) → m_gt μ5 r i = m_gt μ4 r i := fun r i hr => w3.2.2 r i (npc r hr) (by simp)
  have O5 : OP μ5 := ⟨by rw [w3.kd]; exact O4.1, by rw [w3.kd]; exact O4.2.1, by rw [g5 34 1 (by omega)]; exact O4.2.2.1, by rw [g5 38 1 (by omega)]; exact O4.2.2.2⟩
  obtain ⟨μ6, s1, s2, s3⟩ := set_X (N := N) hp1 (b := b) K5 O5 w2
  have K6 : KR μ6 := by
    have hq := hp1
    unfold pc at hq
    rcases hq with ⟨rfl, rfl⟩ | ⟨rfl, rfl⟩ <;> exact s3.KR K5 (by decide)
  have g6 : ∀ r i : Int, (r ≤ 34 ∨ r = 38 ∨ r = 42 ∨ r = 43 ∨ r = 44 ∨ (45 ≤ r ∧ r < 105)) → m_gt μ6 r i = m_gt μ5 r i := fun r i hr => s3.2.2 r i (npc r hr) (by simp)
  have O6 : OP μ6 := ⟨by rw [s3.kd]; exact O5.1, by rw [s3.kd]; exact O5.2.1, by rw [g6 34 1 (by omega)]; exact O5.2.2.1, by rw [g6 38 1 (by omega)]; exact O5.2.2.2⟩
  -- all cells but the look-ahead's are as they were
  have ga : ∀ r i : Int, (r ≤ 33 ∨ r = 42 ∨ r = 43 ∨ r = 44 ∨ (45 ≤ r ∧ r < 105)) → ¬ (r = 33 ∧ (i = 3 ∨ i = 4)) → m_gt μ6 r i = m_gt μ r i := by
    intro r i hr z
    rw [g6 r i (by omega), g5 r i (by omega), g4 r i (by omega) (by omega) (by omega), g2 r i z]
  have i3 : m_gt μ6 33 3 = sh := by
    rw [g6 33 3 (by omega), g5 33 3 (by omega), g4 33 3 (by omega) (by omega) (by omega)]
    show m_gt (m_st (m_st μ 33 3 sh) 33 4 l) 33 3 = _
    simp (disch := omega) only [gt_i, gt_same]
  have i4 : m_gt μ6 33 4 = l := by
    rw [g6 33 4 (by omega), g5 33 4 (by omega), g4 33 4 (by omega) (by omega) (by omega)]
    exact gt_same _ _ _ _
  have hP6 : PC sh l G R Q b μ6 := by
    refine ⟨hS.ext K6 (fun r i hr => ga r i (by omega) (by omega)), ⟨i3, i4, ?_, ?_, ?_, ?_⟩, fun f f0 f8 => ?_⟩
    · rw [ga 33 6 (by omega) (by omega)]; exact h6
    · rw [ga 33 7 (by omega) (by omega)]; exact h7
    · rw [ga 33 8 (by omega) (by omega)]; exact h8
    · rw [ga 33 9 (by omega) (by omega)]; exact h9
    · rw [ga 42 f (by omega) (by omega)]; exact h42 f f0 f8
  have nn1 : m_gt μ6 33 1 = p := by rw [g6 33 1 (by omega), g5 33 1 (by omega), g4 33 1 (by omega) (by omega) (by omega)]; exact n1
  have nn2 : m_gt μ6 33 2 = q := by rw [g6 33 2 (by omega), g5 33 2 (by omega), g4 33 2 (by omega) (by omega) (by omega)]; exact n2
  have C6 : OC p c q d b sh l G R Q μ6 := ⟨hpq, hP6, O6, nn1, nn2⟩
  have Z6 : ZR q d μ6 := by
    have nq : ∀ r : Int, (r = d ∨ r = q + 2 ∨ r = q + 3) → r ∉ [c, p + 2, p + 3] := by
      intro r hr
      have h3 := hpq.2.2
      unfold pc at hp1 hq1
      simp
      rcases hp1 with ⟨rfl, rfl⟩ | ⟨rfl, rfl⟩ <;> rcases hq1 with ⟨rfl, rfl⟩ | ⟨rfl, rfl⟩ <;> omega
    have gq : ∀ r i : Int, (r = d ∨ r = q + 2 ∨ r = q + 3) → m_gt μ6 r i = m_gt μ4 r i := fun r i hr => by rw [s3.2.2 r i (nq r hr) (by simp), w3.2.2 r i (nq r hr) (by simp)]
    refine ⟨fun r t r0 r1 t0 t1 => ?_, fun r r0 r1 => ?_⟩
    · rw [gq d _ (by omega)]; exact hZ.1 r t r0 r1 t0 t1
    · rw [gq (q + 2) _ (by omega), gq (q + 3) _ (by omega)]; exact hZ.2 r r0 r1
  have G6 : GRP b [] μ6 := GRP_nil (fun i i0 i1 => by rw [ga 43 i (by omega) (by omega)]; exact hOS.2.1 i i0 i1) (by rw [ga 33 13 (by omega) (by omega)]; exact hOS.2.2.1)
  have h8' := hGO.2.1
  obtain ⟨μ7, p', c', q', d', r1, r2, r3, r4, r5, r6⟩ := goThrough_loop (N := N) hN hGO hQ hM ((G.1 1).toNat + 1) N 0 (μ := μ6) (by omega) (by omega) C6 s2 Z6 G6
  refine ⟨μ7, ?_, r2.2.1.1.2.1, ⟨?_, ?_, r2.2.2.1, p', c', q', d', r2.1, r2.2.2.2.1, r2.2.2.2.2, r4, r3⟩, r5, ?_, fun r i hr => ?_⟩
  · unfold jX2_goThrough
    have hl5 : m_gt (m_st μ 33 3 sh) sh 5 = l := by
      have := hS.1.1
      rw [gt_r _ _ _ _ (by omega)]
      exact hS.2.2.2.2.1.2.2.2.2.1
    rw [bnd_e, chk_st, chk_e (SK.of hK hS.1.1).1, bnd_e, hl5]
    show m_chk 6 μ2 (m_gt μ2 33 1) ((jX6_open N (m_gt μ2 33 1) μ2).bind fun μ3 => m_chk 6 μ3 (m_gt μ3 33 2) ((jX6_open N (m_gt μ3 33 2) μ3).bind fun μ4 => m_chk 6 μ4 (m_gt μ4 33 1) ((jX6_wipe N (m_gt μ4 33 1) μ4).bind fun μ5 => m_chk 6 μ5 (m_gt μ5 33 1) ((jX6_set N (m_gt μ5 33 1) 0 400 1 μ5).bind fun μ6 => jX2_goThrough_48 N N 33 0 μ6)))) = _
    have kp : ∀ (μ : Mm) (p c : Int), KR μ → pc p c → m_kd μ p = (6, 0) := by
      intro μ p c hK hp
      unfold pc at hp
      rcases hp with ⟨rfl, rfl⟩ | ⟨rfl, rfl⟩
      · exact k_34 hK
      · exact k_38 hK
    rw [n1, chk_e (kp μ2 p c K2 hp1)]
    rw [o1, ob_e, o2, chk_e o3, o4, ob_e]
    have e41 : m_gt μ4 33 1 = p := by rw [g4 33 1 (by omega) (by omega) (by omega)]; exact n1
    have e51 : m_gt μ5 33 1 = p := by rw [g5 33 1 (by omega)]; exact e41
    rw [e41, chk_e (kp μ4 p c K4 hp1), w1, ob_e, e51, chk_e (kp μ5 p c K5 hp1), s1, ob_e]
    exact r1
  · show μ7.1.1 = 107
    rw [r6.1, s3.1, w3.1]
    exact hsz.1
  · show μ7.1.2 ≤ 7100000
    rw [r6.1, s3.1, w3.1]
    exact hsz.2
  · rw [r6.2.2 33 0 (by decide) (by decide), ga 33 0 (by omega) (by omega)]
  · unfold lkC at hr
    rw [r6.2.2 r i (by simp [gtA]; omega) (by simp [gtS]; omega), ga r i (by omega) (by omega)]
