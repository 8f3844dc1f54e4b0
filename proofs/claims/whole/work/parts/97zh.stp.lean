/-! ===== PURE: the reference reads a game's statements ===== -/
theorem tk_M {N : Nat} (hN : 1000000 ≤ N) {T : List Int} (hT : TB T) {q : Nat} (hI : IN T q) {G : Gm} {r : Int} {w : List Int} (hm : (r, w) ∈ wdM) (hr : r ≠ 50) {μ : Mm} (h : MG T q G μ) : (∀ q1, wrd T w q = some q1 → ∃ μ', jX8_takes N 50 r μ = some (1, μ') ∧ MG T q1 G μ' ∧ Fr [] [(50, 2), (50, 4)] μ μ') ∧ (wrd T w q = none → ∃ μ', jX8_takes N 50 r μ = some (0, μ') ∧ MG T q G μ' ∧ PQ T q μ' ∧ Fr [] [(50, 2)] μ μ') := by
  have hw := wm h.1.1 h.1.2.2.2 hm
  constructor
  · intro q1 hs
    obtain ⟨μ1, a1, a2, a3, a4⟩ := takesM_1 (N := N) hN hT hI hr h.1.1 hw hs h.1.2.1
    exact ⟨μ1, a1, h.lx a2 a4, a4⟩
  · intro hs
    obtain ⟨μ1, a1, a2, a3, a4⟩ := takesM_0 (N := N) hN hT hI hr h.1.1 hw hs h.1.2.1
    exact ⟨μ1, a1, h.l2 (a2.pm hI) a4, a2, a4⟩
theorem stm_M {N : Nat} (hN : 1000000 ≤ N) {T : List Int} (hT : TB T) {q n : Nat} {G : Gm} (hn : n < 30) (hG : GI T n q G) {μ : Mm} (h48 : m_gt μ 50 48 = n) (h : MG T q G μ) : STR T n μ (jX8_statement N 50 μ) (stE T (stmS T G q)) := by
  have hI := hG.2.2.2
  have hC := hG.2.2.1
  have hw := hG.2.1
  have hl := hT.1
  refine SMR.end (N := N) hN hT (by omega) h48 ?_
  unfold jX8_statement stmS
  rw [h48, if_pos (by omega), r_50_9 h.1.1]
  obtain ⟨y1, n1⟩ := tk_M (N := N) hN hT hI (r := 52) (w := wPins) (by decide) (by decide) h
  cases e1 : wrd T wPins q with
  | some q1 =>
    have i1 := wrd_1 w10_ok.1.1 e1
    obtain ⟨μ1, a1, a2, a3⟩ := y1 q1 e1
    rw [a1, b2_e, if_neg (by decide)]
    exact (fld_M (N := N) hN hT (k := 0) (Or.inl rfl) (by decide) (by decide) i1.1 a2 (r_50_31 a2.1.1) _).fr (lx4 a3).df
  | none =>
  obtain ⟨μ1, a1, s1, _, f1⟩ := n1 e1
  rw [a1, b2_e, if_pos rfl, r_50_10 s1.1.1]
  refine SMR.fr (μ := μ1) ?_ (lx2 f1).df
  dsimp only
  obtain ⟨y2, n2⟩ := tk_M (N := N) hN hT hI (r := 53) (w := wFrames) (by decide) (by decide) s1
  cases e2 : wrd T wFrames q with
  | some q1 =>
    have i1 := wrd_1 w10_ok.1.2.1 e2
    obtain ⟨μ2, a1, a2, a3⟩ := y2 q1 e2
    rw [a1, b2_e, if_neg (by decide)]
    exact (fld_M (N := N) hN hT (k := 1) (Or.inr (Or.inl rfl)) (by decide) (by decide) i1.1 a2 (r_50_32 a2.1.1) _).fr (lx4 a3).df
  | none =>
  obtain ⟨μ2, a1, s2, _, f2⟩ := n2 e2
  rw [a1, b2_e, if_pos rfl, r_50_11 s2.1.1]
  refine SMR.fr (μ := μ2) ?_ (lx2 f2).df
  dsimp only
  obtain ⟨y3, n3⟩ := tk_M (N := N) hN hT hI (r := 54) (w := wRolls) (by decide) (by decide) s2
  cases e3 : wrd T wRolls q with
  | some q1 =>
    have i1 := wrd_1 w10_ok.1.2.2.1 e3
    obtain ⟨μ3, a1, a2, a3⟩ := y3 q1 e3
    rw [a1, b2_e, if_neg (by decide)]
    exact (fld_M (N := N) hN hT (k := 2) (Or.inr (Or.inr (Or.inl rfl))) (by decide) (by decide) i1.1 a2 (r_50_33 a2.1.1) _).fr (lx4 a3).df
  | none =>
  obtain ⟨μ3, a1, s3, _, f3⟩ := n3 e3
  rw [a1, b2_e, if_pos rfl, r_50_12 s3.1.1]
  refine SMR.fr (μ := μ3) ?_ (lx2 f3).df
  dsimp only
  obtain ⟨y4, n4⟩ := tk_M (N := N) hN hT hI (r := 55) (w := wClean) (by decide) (by decide) s3
  cases e4 : wrd T wClean q with
  | some q1 =>
    have i1 := wrd_1 w10_ok.1.2.2.2.1 e4
    obtain ⟨μ4, a1, a2, a3⟩ := y4 q1 e4
    rw [a1, b2_e, if_neg (by decide)]
    exact (cln_M (N := N) hN hT i1.1 a2 _).fr (lx4 a3).df
  | none =>
  obtain ⟨μ4, a1, s4, _, f4⟩ := n4 e4
  rw [a1, b2_e, if_pos rfl, r_50_14 s4.1.1]
  refine SMR.fr (μ := μ4) ?_ (lx2 f4).df
  dsimp only
  obtain ⟨y5, n5⟩ := tk_M (N := N) hN hT hI (r := 57) (w := wFoul) (by decide) (by decide) s4
  cases e5 : wrd T wFoul q with
  | some q1 =>
    have i1 := wrd_1 w10_ok.1.2.2.2.2 e5
    obtain ⟨μ5, a1, a2, a3⟩ := y5 q1 e5
    rw [a1, b2_e, if_neg (by decide)]
    exact (fld_M (N := N) hN hT (k := 3) (Or.inr (Or.inr (Or.inr rfl))) (by decide) (by decide) i1.1 a2 (r_50_34 a2.1.1) _).fr (lx4 a3).df
  | none =>
  obtain ⟨μ5, a1, s5, _, f5⟩ := n5 e5
  rw [a1, b2_e, if_pos rfl, r_50_15 s5.1.1]
  refine SMR.fr (μ := μ5) ?_ (lx2 f5).df
  dsimp only
  obtain ⟨y6, n6⟩ := tk_M (N := N) hN hT hI (r := 58) (w := wWorth) (by decide) (by decide) s5
  cases e6 : wrd T wWorth q with
  | some q1 =>
    have i1 := wrd_IN w10_ok.2.1.1 e6
    have i2 : q + 5 ≤ q1 := i1.2.1
    obtain ⟨μ6, a1, a2, a3⟩ := y6 q1 e6
    rw [a1, b2_e, if_neg (by decide)]
    exact (wor_M (N := N) hN hT i1.1 (by omega) (by omega) a2 _).fr (lx4 a3).df
  | none =>
  obtain ⟨μ6, a1, s6, _, f6⟩ := n6 e6
  rw [a1, b2_e, if_pos rfl, r_50_17 s6.1.1]
  refine SMR.fr (μ := μ6) ?_ (lx2 f6).df
  dsimp only
  obtain ⟨y7, n7⟩ := tk_M (N := N) hN hT hI (r := 60) (w := wHcap) (by decide) (by decide) s6
  cases e7 : wrd T wHcap q with
  | some q1 =>
    have i1 := wrd_IN w10_ok.2.1.2.1 e7
    have i2 : q + 8 ≤ q1 := i1.2.1
    obtain ⟨μ7, a1, a2, a3⟩ := y7 q1 e7
    rw [a1, b2_e, if_neg (by decide)]
    exact (hca_M (N := N) hN hT i1.1 (by omega) a2 _).fr (lx4 a3).df
  | none =>
  obtain ⟨μ7, a1, s7, _, f7⟩ := n7 e7
  rw [a1, b2_e, if_pos rfl, r_50_18 s7.1.1]
  refine SMR.fr (μ := μ7) ?_ (lx2 f7).df
  dsimp only
  have b7 := s7.1.2.1.b0
  obtain ⟨y8, n8⟩ := tk_M (N := N) hN hT hI (r := 61) (w := wJoins) (by decide) (by decide) s7
  cases e8 : wrd T wJoins q with
  | some q1 =>
    have i1 := wrd_1 w10_ok.2.1.2.2 e8
    obtain ⟨μ8, a1, a2, a3⟩ := y8 q1 e8
    have ea : jX8_asks N 50 61 μ7 = some μ8 := by
      unfold jX8_asks jX8_asks_24
      rw [if_neg (not_not_intro b7), a1, b2_e, if_pos (by decide)]
    rw [ea, ob_e]
    exact (joi_M (N := N) hN hT i1.1 a2 _).fr (lx4 a3).df
  | none =>
    obtain ⟨μ8, a1, s8, p8, f8⟩ := n8 e8
    have ea : jX8_asks N 50 61 μ7 = some (m_st (m_st μ8 50 5 1) 50 6 q) := by
      unfold jX8_asks jX8_asks_24
      rw [if_neg (not_not_intro b7), a1, b2_e, if_neg (by decide), p8.at, failM p8.b0, ob_e]
    have F := FM_of (k := 1) (p := q) (by decide) μ8
    have f9 := FM_fr 1 q μ8
    obtain ⟨μ9, c1, c2, c3⟩ := joiB (N := N) hN hl (a := 0) (f9.KR s8.1.1 (by decide)) (by rw [f9.2.2 50 3 (by decide) (by decide)]; exact s8.1.2.1.len) (by rw [f9.2.2 50 2 (by decide) (by decide), p8.at]; omega) F
    refine ⟨μ9, ?_, c2, (lx2 f8).df.trI ((lx56 f9).df.trI (lx2 c3).df)⟩
    rw [ea, ob_e]
    unfold jX8_joinsTold
    rw [num_b F.bad, b2_e, c1, ob_e]
theorem g37_bad {N m : Nat} (hm : 1 ≤ m) {μ : Mm} (h : ¬ m_gt μ 50 5 = 0) : jX8_game_37 N m 50 μ = jX8_game_59 N 50 μ := by
  obtain ⟨m', rfl⟩ : ∃ m', m = m' + 1 := ⟨m - 1, by omega⟩
  show jX8_game_37b (jX8_game_37 N m') N 50 μ = _
  unfold jX8_game_37b
  rw [if_pos h]
def GLR (N : Nat) (T : List Int) (μ : Mm) (res : Option (Int × Mm)) (x : GP) : Prop := match x with
  | Sum.inr (n, G) => ∃ μ' q, res = jX8_game_59 N 50 μ' ∧ MG T q G μ' ∧ m_gt μ' 50 48 = n ∧ EF μ μ'
  | Sum.inl e => ∃ μ', res = jX8_game_59 N 50 μ' ∧ FM e μ' ∧ EF μ μ'
theorem GLR.fr {N : Nat} {T : List Int} {μ μ0 : Mm} {res : Option (Int × Mm)} {x : GP} (h : GLR N T μ res x) (f : EF μ0 μ) : GLR N T μ0 res x := by
  match x, h with
  | Sum.inl e, ⟨μ', a, b, c⟩ => exact ⟨μ', a, b, f.trI c⟩
  | Sum.inr (n, G), ⟨μ', q, a, b, c, d⟩ => exact ⟨μ', q, a, b, c, f.trI d⟩
theorem gam_loop {N : Nat} (hN : 1000000 ≤ N) {T : List Int} (hT : TB T) : ∀ (k m n q : Nat) (G : Gm) {μ : Mm}, n + k = 30 → k + 1 < m → GI T n q G → MG T q G μ → m_gt μ 50 48 = n → GLR N T μ (jX8_game_37 N m 50 μ) (reaS T k n G q)
  | k, 0, n, q, G, μ, hk, hm, _, _, _ => absurd hm (by omega)
  | k, m + 1, n, q, G, μ, hk, hm, hG, h, h48 => by
    have hI := hG.2.2.2
    obtain ⟨μ1, a1, a2, a3, a4⟩ := look_M (N := N) hN hT h.1.1 h.1.2.1
    have s1 := h.l2 (a2.pm hI) a4
    have g48 : m_gt μ1 50 48 = n := by rw [a4.2.2 50 48 (by decide) (by decide)]; exact h48
    refine GLR.fr ?_ (lx2 a4).df.ef
    show GLR N T μ1 (jX8_game_37b (jX8_game_37 N m) N 50 μ) _
    unfold jX8_game_37b
    rw [if_neg (not_not_intro h.1.2.1.b0), a1, b2_e]
    by_cases hq : q < T.length
    · have hlk : ¬ lk T q = -1 := by
        unfold lk
        rw [if_pos hq]
        have := tx_ok hT q
        omega
      rw [if_neg hlk]
      match k, hk, hm with
      | 0, hk, hm =>
        rw [reaS_0 hq]
        have F := FM_of (k := 5) (p := q) (by decide) μ1
        refine ⟨m_st (m_st μ1 50 5 5) 50 6 q, ?_, F, (lx56 (FM_fr 5 q μ1)).df.ef⟩
        unfold jX8_statement
        rw [g48, if_neg (by omega), a2.at, failM a2.b0, ob_e, ob_e]
        exact g37_bad (by omega) F.bad
      | k + 1, hk, hm =>
        rw [reaS_s hq]
        have o := stm_M (N := N) hN hT (n := n) (by omega) hG g48 s1
        have so := stmS_SO hT (n := n) (by omega) hG
        match hx : stmS T G q, o, so with
        | Sum.inl e, o, so =>
          obtain ⟨μ2, r1, r2, r3⟩ := o
          refine ⟨μ2, ?_, r2, r3⟩
          rw [r1, ob_e]
          exact g37_bad (by omega) r2.bad
        | Sum.inr (q1, G1), o, so =>
          have o : STR T n μ1 (jX8_statement N 50 μ1) (match sg T 59 q1 with | some q2 => Sum.inr (q2, G1) | none => Sum.inl (1, q1)) := o
          dsimp only
          cases hs : sg T 59 q1 with
          | none =>
            rw [hs] at o
            obtain ⟨μ2, r1, r2, r3⟩ := o
            refine ⟨μ2, ?_, r2, r3⟩
            rw [r1, ob_e]
            exact g37_bad (by omega) r2.bad
          | some q2 =>
            rw [hs] at o
            have i2 := sg_IN c59.2 hs
            obtain ⟨μ2, r1, r2, r3, r4⟩ := o
            rw [r1, ob_e]
            exact (gam_loop (N := N) hN hT k m (n + 1) q2 G1 (by omega) (by omega) ⟨so.1.1, so.1.2.1, by have := so.1.2.2.1; omega, i2.1⟩ r2 (by rw [r3]; omega)).fr r4
    · have hlk : lk T q = -1 := by
        unfold lk
        rw [if_neg hq]
      rw [if_pos hlk, reaS_e k hq]
      exact ⟨μ1, q, rfl, s1, g48, EF.rf _⟩
