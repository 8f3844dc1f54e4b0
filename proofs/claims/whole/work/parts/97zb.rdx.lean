/-! ===== PURE: the class reads a game ===== -/
theorem wrd_first {T w : List Int} (hw : 0 < w.length) {q q1 : Nat} (hs : wrd T w q = some q1) : tx T q = w.getD 0 0 := by
  have := (wrd_yes hs).2.2.2 0 hw
  rw [Nat.add_zero] at this
  exact this
theorem stm_X {N : Nat} (hN : 1000000 ≤ N) {l : Int} (hl : lok l) {T : List Int} (hT : TB T) {q n : Nat} {G : Gm} (hn : n < 30) (hG : GI T n q G) {μ : Mm} (h : XG l T q G μ) : GX l T μ (jX3_statement N 24 μ) (stmS T G q) := by
  have hI := hG.2.2.2
  have hC := hG.2.2.1
  have hw := hG.2.1
  have ok := w10_ok
  have hq := hI.2.1
  have wp : isW (-10) wPins := isW_of (by decide)
  have wf : isW (-11) wFrames := isW_of (by decide)
  have wr : isW (-12) wRolls := isW_of (by decide)
  have wo : isW (-13) wFoul := isW_of (by decide)
  have wc : isW (-14) wClean := isW_of (by decide)
  have ww : isW (-16) wWorth := isW_of (by decide)
  have wh : isW (-30) wHcap := isW_of (by decide)
  have wj : isW (-31) wJoins := isW_of (by decide)
  unfold jX3_statement stmS
  cases h1 : wrd T wPins q with
  | some q1 =>
    have i1 := wrd_1 ok.1.1 h1
    obtain ⟨μ1, r1, r2, r3, r4⟩ := takes_1 (N := N) hN hT wp hq h1 h.1 h.2.1
    rw [r1, b2_e, if_neg (by decide)]
    exact (fld_X (N := N) hN hl hT (k := 0) (Or.inl rfl) i1.1 (h.lex hl r2 r3 r4) (by decide)).fr (gx4 r4)
  | none =>
  rw [takes_0 (N := N) hN hT wp hq h1 h.1 h.2.1, b2_e, if_pos rfl]
  dsimp only
  cases h2 : wrd T wFrames q with
  | some q1 =>
    have i1 := wrd_1 ok.1.2.1 h2
    obtain ⟨μ1, r1, r2, r3, r4⟩ := takes_1 (N := N) hN hT wf hq h2 h.1 h.2.1
    rw [r1, b2_e, if_neg (by decide)]
    exact (fld_X (N := N) hN hl hT (k := 1) (Or.inr (Or.inl rfl)) i1.1 (h.lex hl r2 r3 r4) (by decide)).fr (gx4 r4)
  | none =>
  rw [takes_0 (N := N) hN hT wf hq h2 h.1 h.2.1, b2_e, if_pos rfl]
  dsimp only
  cases h3 : wrd T wRolls q with
  | some q1 =>
    have i1 := wrd_1 ok.1.2.2.1 h3
    obtain ⟨μ1, r1, r2, r3, r4⟩ := takes_1 (N := N) hN hT wr hq h3 h.1 h.2.1
    rw [r1, b2_e, if_neg (by decide)]
    exact (fld_X (N := N) hN hl hT (k := 2) (Or.inr (Or.inr (Or.inl rfl))) i1.1 (h.lex hl r2 r3 r4) (by decide)).fr (gx4 r4)
  | none =>
  rw [takes_0 (N := N) hN hT wr hq h3 h.1 h.2.1, b2_e, if_pos rfl]
  dsimp only
  cases h5 : wrd T wFoul q with
  | some q1 =>
    have i1 := wrd_1 ok.1.2.2.2.2 h5
    have h4 : wrd T wClean q = none := by
      cases h4 : wrd T wClean q with
      | none => rfl
      | some q2 =>
        have e1 := wrd_first (by decide) h4
        have e2 := wrd_first (by decide) h5
        rw [e1] at e2
        exact absurd e2 (by decide)
    obtain ⟨μ1, r1, r2, r3, r4⟩ := takes_1 (N := N) hN hT wo hq h5 h.1 h.2.1
    rw [r1, b2_e, if_neg (by decide), h4]
    exact (fld_X (N := N) hN hl hT (k := 3) (Or.inr (Or.inr (Or.inr rfl))) i1.1 (h.lex hl r2 r3 r4) (by decide)).fr (gx4 r4)
  | none =>
  rw [takes_0 (N := N) hN hT wo hq h5 h.1 h.2.1, b2_e, if_pos rfl]
  cases h4 : wrd T wClean q with
  | some q1 =>
    have i1 := wrd_1 ok.1.2.2.2.1 h4
    obtain ⟨μ1, r1, r2, r3, r4⟩ := takes_1 (N := N) hN hT wc hq h4 h.1 h.2.1
    rw [r1, b2_e, if_neg (by decide)]
    exact (cln_X (N := N) hN hl hT i1.1 (h.lex hl r2 r3 r4)).z.fr (gx4 r4)
  | none =>
  rw [takes_0 (N := N) hN hT wc hq h4 h.1 h.2.1, b2_e, if_pos rfl]
  dsimp only
  cases h6 : wrd T wWorth q with
  | some q1 =>
    have i1 := wrd_1 ok.2.1.1 h6
    obtain ⟨μ1, r1, r2, r3, r4⟩ := takes_1 (N := N) hN hT ww hq h6 h.1 h.2.1
    rw [r1, b2_e, if_neg (by decide)]
    exact (wor_X (N := N) hN hl hT i1.1 (by omega) (by omega) (h.lex hl r2 r3 r4)).z.fr (gx4 r4)
  | none =>
  rw [takes_0 (N := N) hN hT ww hq h6 h.1 h.2.1, b2_e, if_pos rfl]
  dsimp only
  cases h7 : wrd T wHcap q with
  | some q1 =>
    have i1 := wrd_1 ok.2.1.2.1 h7
    obtain ⟨μ1, r1, r2, r3, r4⟩ := takes_1 (N := N) hN hT wh hq h7 h.1 h.2.1
    rw [r1, b2_e, if_neg (by decide)]
    exact (hca_X (N := N) hN hl hT i1.1 (by omega) (h.lex hl r2 r3 r4)).z.fr (gx4 r4)
  | none =>
  rw [takes_0 (N := N) hN hT wh hq h7 h.1 h.2.1, b2_e, if_pos rfl]
  dsimp only
  cases h8 : wrd T wJoins q with
  | some q1 =>
    have i1 := wrd_1 ok.2.1.2.2 h8
    obtain ⟨μ1, r1, r2, r3, r4⟩ := takes_1 (N := N) hN hT wj hq h8 h.1 h.2.1
    rw [r1, b2_e, if_neg (by decide)]
    exact (joi_X (N := N) hN hl hT i1.1 (h.lex hl r2 r3 r4)).z.fr (gx4 r4)
  | none =>
    rw [takes_0 (N := N) hN hT wj hq h8 h.1 h.2.1, b2_e, if_pos rfl, h.2.1.2.1, fail_X h.2.1.2.2.1, b2_e, z_e (Or.inl rfl)]
    exact ⟨_, rfl, FX_of (by decide) μ, gx01 (FX_fr 1 q μ)⟩
def hS (l : Int) : List (Int × Int) := (l, 0) :: gS l
theorem hKR {l : Int} (hl : lok l) {μ μ' : Mm} (f : Fr (gI l) (hS l) μ μ') (hK : KR μ) : KR μ' := by rcases hl with rfl | rfl <;> exact f.KR hK (by decide)
theorem hup {l : Int} {μ μ' : Mm} (f : Fr (gI l) (gS l) μ μ') : Fr (gI l) (hS l) μ μ' := f.mono (fun r hr => hr) (fun p hp => Or.inl (List.mem_cons_of_mem _ hp))
/-- how the reading of a game ends in the class -/
def RGX (l : Int) (T : List Int) (μ : Mm) (res : Option (Int × Mm)) (x : GP) : Prop := match x with
  | Sum.inr (n, G) => ∃ μ' q, res = some (1, μ') ∧ XG l T q G μ' ∧ m_gt μ' l 0 = n ∧ Fr (gI l) (hS l) μ μ'
  | Sum.inl e => ∃ μ', res = some (0, μ') ∧ FX e μ' ∧ Fr (gI l) (hS l) μ μ'
theorem RGX.fr {l : Int} {T : List Int} {μ μ0 : Mm} {res : Option (Int × Mm)} {x : GP} (h : RGX l T μ res x) (f : Fr (gI l) (hS l) μ0 μ) : RGX l T μ0 res x := by
  match x, h with
  | Sum.inl e, ⟨μ', a, b, c⟩ => exact ⟨μ', a, b, f.trI c⟩
  | Sum.inr (n, G), ⟨μ', q, a, b, c, d⟩ => exact ⟨μ', q, a, b, c, f.trI d⟩
theorem LX.ct {l : Int} {G : Gm} {μ : Mm} {v : Int} (h : LX l G μ) : LX l G (m_st μ l 0 v) := by
  obtain ⟨⟨h1, h2, h3, h4, h5, h6, h7, h8⟩, ⟨r1, r2, r3, r4, r5⟩, hj⟩ := h
  have o : ∀ r i : Int, ¬ (r = l ∧ i = 0) → m_gt (m_st μ l 0 v) r i = m_gt μ r i := fun r i hn => by rw [m_gt_st, if_neg hn]
  refine ⟨⟨by rw [o _ _ (by omega)]; exact h1, by rw [o _ _ (by omega)]; exact h2, by rw [o _ _ (by omega)]; exact h3, by rw [o _ _ (by omega)]; exact h4, by rw [o _ _ (by omega)]; exact h5, by rw [o _ _ (by omega)]; exact h6, by rw [o _ _ (by omega)]; exact h7, by rw [o _ _ (by omega)]; exact h8⟩, ⟨r1.ext (fun i => o _ _ (by omega)), r2.ext (fun i => o _ _ (by omega)), r3.ext (fun i => o _ _ (by omega)), r4.ext (fun i => o _ _ (by omega)), r5.ext (fun i => o _ _ (by omega))⟩, fun c c0 c1 => ?_⟩
  rw [o _ _ (by omega)]
  exact hj c c0 c1
theorem XG.ct {l : Int} (hl : lok l) {T : List Int} {q : Nat} {G : Gm} {v : Int} {μ : Mm} (h : XG l T q G μ) : XG l T q G (m_st μ l 0 v) ∧ Fr (gI l) (hS l) μ (m_st μ l 0 v) := by
  have n24 : (24 : Int) ≠ l := by rcases hl with rfl | rfl <;> decide
  have n1 : (1 : Int) ≠ l := by rcases hl with rfl | rfl <;> decide
  have f : Fr (gI l) (hS l) μ (m_st μ l 0 v) := Fr.stI (Fr.rf0 _ _ _) (by simp [hS])
  refine ⟨⟨hKR hl f h.1, ⟨⟨?_, ?_⟩, ?_, ?_, ?_⟩, ?_, h.2.2.2.ct⟩, f⟩
  · exact ⟨by rw [gt_r _ _ _ _ n24]; exact h.2.1.1.1.1, by rw [gt_r _ _ _ _ n24]; exact h.2.1.1.1.2⟩
  · rw [gt_r _ _ _ _ n24]; exact h.2.1.1.2
  · rw [gt_r _ _ _ _ n24]; exact h.2.1.2.1
  · rw [gt_r _ _ _ _ n24]; exact h.2.1.2.2.1
  · exact h.2.1.2.2.2.ext (fun i => gt_r _ _ _ _ n1)
  · rw [gt_r _ _ _ _ n24]; exact h.2.2.1
theorem reaS_e {T : List Int} {n q : Nat} {G : Gm} (k : Nat) (h : ¬ q < T.length) : reaS T k n G q = Sum.inr (n, G) := by
  unfold reaS
  rw [if_neg h]
theorem reaS_0 {T : List Int} {n q : Nat} {G : Gm} (h : q < T.length) : reaS T 0 n G q = Sum.inl (5, q) := by
  unfold reaS
  rw [if_pos h]
theorem reaS_s {T : List Int} {n q k : Nat} {G : Gm} (h : q < T.length) : reaS T (k + 1) n G q = (match stmS T G q with
      | Sum.inl e => Sum.inl e
      | Sum.inr (q1, G1) => match sg T 59 q1 with
        | some q2 => reaS T k (n + 1) G1 q2
        | none => Sum.inl (1, q1)) := by
  rw [reaS]
  rw [if_pos h]
  rfl
theorem c59 : sgc 59 := ⟨by decide, by decide, by decide⟩
theorem read_loop {N : Nat} (hN : 1000000 ≤ N) {l : Int} (hl : lok l) {T : List Int} (hT : TB T) : ∀ (k m i q : Nat) (G : Gm) {μ : Mm}, i + k = 30 → k < m → GI T i q G → XG l T q G μ → RGX l T μ (jX3_read_49 N m 24 i μ) (reaS T k i G q)
  | k, 0, i, q, G, μ, hi, hm, _, _ => absurd hm (by omega)
  | k, m + 1, i, q, G, μ, hi, hm, hG, h => by
    obtain ⟨c1, c2⟩ := h.ct hl (v := (i : Int))
    have n24 : (24 : Int) ≠ l := by rcases hl with rfl | rfl <;> decide
    show RGX l T μ (jX3_read_49b (jX3_read_49 N m) N 24 i μ) _
    unfold jX3_read_49b jX3_read_111
    rw [if_neg (by omega), h.2.2.1, chk_e (LK.of h.1 hl).1.1, bnd_e, c1.2.1.2.1, c1.2.1.1.2]
    by_cases hq : q < T.length
    · rw [if_pos (by omega)]
      match k, hi, hm with
      | 0, hi, hm =>
        rw [if_neg (by omega), fail_X c1.2.1.2.2.1, b2_e, z_e (Or.inl rfl), reaS_0 hq]
        exact ⟨_, rfl, FX_of (by decide) _, c2.trI (hup (gx01 (FX_fr 5 q _)))⟩
      | k + 1, hi, hm =>
        rw [if_pos (by omega), reaS_s hq]
        refine RGX.fr ?_ c2
        have o := stm_X (N := N) hN hl hT (n := i) (by omega) hG c1
        have so := stmS_SO hT (n := i) (by omega) hG
        match hx : stmS T G q, o, so with
        | Sum.inl e, o, so =>
          obtain ⟨μ2, r1, r2, r3⟩ := o
          refine ⟨μ2, ?_, r2, hup r3⟩
          rw [r1, b2_e, if_pos rfl, fail_again (by rw [r2.1]; exact r2.2.2), b2_e, z_e (Or.inl rfl)]
        | Sum.inr (q1, G1), o, so =>
          obtain ⟨μ2, r1, r2, r3⟩ := o
          obtain ⟨so1, so2⟩ := so
          rw [r1, b2_e, if_neg (by decide)]
          refine RGX.fr ?_ (hup r3)
          dsimp only
          cases hs : sg T 59 q1 with
          | some q2 =>
            have i2 := sg_IN c59.2 hs
            obtain ⟨μ3, a1, a2, a3, a4⟩ := sign_1 (N := N) hN hT hs r2.1 r2.2.1
            rw [a1, b2_e, if_pos (by decide), bnd_e, i_add_e (by omega) (by omega), show (i : Int) + 1 = ((i + 1 : Nat) : Int) by omega]
            exact (read_loop (N := N) hN hl hT k m (i + 1) q2 G1 (by omega) (by omega) ⟨so1.1, so1.2.1, by have := so1.2.2.1; omega, i2.1⟩ (r2.lex hl a2 a3 a4)).fr (hup (gx4 a4))
          | none =>
            rw [sign_0 hT hs r2.1 r2.2.1, b2_e, if_neg (by decide), r2.2.1.2.1, fail_X r2.2.1.2.2.1, b2_e, z_e (Or.inl rfl)]
            exact ⟨_, rfl, FX_of (by decide) μ2, hup (gx01 (FX_fr 1 q1 μ2))⟩
    · rw [if_neg (by omega), reaS_e k hq]
      exact ⟨_, q, rfl, c1, gt_same _ _ _ _, c2⟩
