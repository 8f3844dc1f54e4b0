/-! ===== PURE: the reference reads statements: worth; a statement whole ===== -/
theorem DM.wor {G : Gm} {a b : Nat} {μ μ' : Mm} (h : DM G μ) (e : ∀ r i : Int, 74 ≤ r → r ≤ 85 → m_gt μ' r i = if r = 79 ∧ i = 0 then ((gW G).length : Int) + 1 else if r = 82 ∧ i = (gW G).length then ((gC G).length : Int) else if r = 81 ∧ i = (gW G).length then (b : Int) else if r = 80 ∧ i = (gW G).length then (a : Int) else m_gt μ r i) : DM (gadd G a b) μ' := by
  obtain ⟨⟨h1, h2, h3, h4, h5, h6, h7⟩, ⟨r1, r2, r3, r4⟩, hj⟩ := h
  have o : ∀ r i : Int, 74 ≤ r → r ≤ 85 → r ≠ 79 → r ≠ 80 → r ≠ 81 → r ≠ 82 → m_gt μ' r i = m_gt μ r i := fun r i z1 z2 z3 z4 z5 z6 => by rw [e r i z1 z2, if_neg (fun z => z3 z.1), if_neg (fun z => z6 z.1), if_neg (fun z => z5 z.1), if_neg (fun z => z4 z.1)]
  have hl0 : ((gW G).map fun w => (w.1 : Int)).length = (gW G).length := by simp
  have hl1 : ((gW G).map fun w => (w.2.1 : Int)).length = (gW G).length := by simp
  have hl2 : ((gW G).map fun w => (w.2.2 : Int)).length = (gW G).length := by simp
  refine ⟨⟨by rw [o _ _ (by decide) (by decide) (by decide) (by decide) (by decide) (by decide)]; exact h1, by rw [o _ _ (by decide) (by decide) (by decide) (by decide) (by decide) (by decide)]; exact h2, by rw [o _ _ (by decide) (by decide) (by decide) (by decide) (by decide) (by decide)]; exact h3, by rw [o _ _ (by decide) (by decide) (by decide) (by decide) (by decide) (by decide)]; exact h4, ?_, by rw [o _ _ (by decide) (by decide) (by decide) (by decide) (by decide) (by decide)]; exact h6, by rw [o _ _ (by decide) (by decide) (by decide) (by decide) (by decide) (by decide)]; exact h7⟩, ⟨r1.ext (fun i => o _ _ (by decide) (by decide) (by decide) (by decide) (by decide) (by decide)), ?_, ?_, ?_⟩, fun x y x0 x1 y0 y1 => ?_⟩
  · show m_gt μ' 79 0 = ((gW G ++ [(a, b, (gC G).length)]).length : Nat)
    rw [e _ _ (by decide) (by decide), if_pos ⟨rfl, rfl⟩, List.length_append, List.length_singleton]; omega
  · show Row μ' 80 0 ((gW G ++ [(a, b, (gC G).length)]).map fun w => (w.1 : Int))
    have := Row.push r2 (a : Int)
    rw [Int.zero_add, hl0] at this
    rw [List.map_append]
    refine this.ext (fun i => ?_)
    rw [e _ _ (by decide) (by decide), if_neg (fun z => absurd z.1 (by decide)), if_neg (fun z => absurd z.1 (by decide)), if_neg (fun z => absurd z.1 (by decide)), m_gt_st]
  · show Row μ' 81 0 ((gW G ++ [(a, b, (gC G).length)]).map fun w => (w.2.1 : Int))
    have := Row.push r3 (b : Int)
    rw [Int.zero_add, hl1] at this
    rw [List.map_append]
    refine this.ext (fun i => ?_)
    rw [e _ _ (by decide) (by decide), if_neg (fun z => absurd z.1 (by decide)), if_neg (fun z => absurd z.1 (by decide)), m_gt_st]
    split
    · rfl
    · rw [if_neg (fun z => absurd z.1 (by decide))]
  · show Row μ' 82 0 ((gW G ++ [(a, b, (gC G).length)]).map fun w => (w.2.2 : Int))
    have := Row.push r4 ((gC G).length : Int)
    rw [Int.zero_add, hl2] at this
    rw [List.map_append]
    refine this.ext (fun i => ?_)
    rw [e _ _ (by decide) (by decide), if_neg (fun z => absurd z.1 (by decide)), m_gt_st]
    split
    · rfl
    · rw [if_neg (fun z => absurd z.1 (by decide)), if_neg (fun z => absurd z.1 (by decide))]
  · rw [o _ _ (by decide) (by decide) (by decide) (by decide) (by decide) (by decide)]
    exact hj x y x0 x1 y0 y1
theorem w50 {N n : Nat} (hn : n < 30) {v : Int} {μ : Mm} (hK : KR μ) (h44 : m_gt μ 50 44 = v) (h79 : m_gt μ 79 0 = n) : jX8_worthTold_50 N 50 n μ = some (m_st (m_st μ 82 n v) 79 0 ((n : Int) + 1)) := by
  have K1 : KR (m_st μ 82 n v) := hK.sa _ _ (by decide)
  unfold jX8_worthTold_50
  rw [r_50_39 hK, h44, ast_e (k_82 hK) (by omega) (by omega), ob_e, r_50_36 K1, ald_e (k_79 K1) (by decide) (by decide), ob_e, gt_r _ _ _ _ (by decide), h79, i_add_e (by omega) (by omega), ast_e (k_79 K1) (by decide) (by decide), ob_e]
theorem wor_M {N : Nat} (hN : 1000000 ≤ N) {T : List Int} (hT : TB T) {q : Nat} {G : Gm} (hI : IN T q) (hC : (gC G).length + 5 ≤ q) (hw : (gW G).length < 30) {μ : Mm} (h : MG T q G μ) (K : Mm → Option Mm) : SMR K T μ ((jX8_worthTold N 50 μ).bind K) (worS T G q) := by
  have hl := hT.1
  have d80 : dP 80 (gW G).length := by unfold dP; omega
  have d81 : dP 81 (gW G).length := by unfold dP; omega
  have d82 : dP 82 (gW G).length := by unfold dP; omega
  have d79 : dP 79 0 := by unfold dP; omega
  have h5 := h.2.1.2.2.2.2.1
  have m1 := MG.mst (v := ((gC G).length : Int)) (by omega) d80 h.1
  have o := rsum_M (N := N) hN hT hI hC m1
  have g := sumS_GR (T := T) 7 0 q (gC G)
  have F1 := DF.st d80 μ ((gC G).length : Int)
  unfold jX8_worthTold worS
  rw [r_50_36 h.1.1, ald_e (k_79 h.1.1) (by decide) (by decide), ob_e, h5, r_50_37 h.1.1, ast_e (k_80 h.1.1) (by omega) (by omega), ob_e, h.1.2.2.1.1]
  -- behind a fault: the rest writes the draft alone
  have fin : ∀ {e : Int × Nat} {μ3 : Mm}, KR μ3 → FM e μ3 → m_gt μ3 79 0 = (gW G).length → ∃ μ', (jX8_worthTold_50 N 50 (gW G).length μ3).bind K = K μ' ∧ FM e μ' ∧ DF μ3 μ' := by
    intro e μ3 K3 F3 h79
    refine ⟨_, by rw [w50 (N := N) hw K3 rfl h79, ob_e], (F3.st (by decide)).st (by decide), (DF.st d82 μ3 _).trI (DF.st d79 _ _)⟩
  match hx : sumS T 7 0 q (gC G), o with
  | Sum.inl e, o =>
    obtain ⟨μ2, a, b, c⟩ := o
    have K2 : KR μ2 := mp_KR c m1.1
    have F3 := DF.st d81 μ2 (m_gt μ2 50 44)
    obtain ⟨μ', f1, f2, f3⟩ := fin (F3.KR K2) (b.fm.st (r := 81) (i := (gW G).length) (v := m_gt μ2 50 44) (by decide)) (by rw [gt_r _ _ _ _ (by decide), c.2.2 79 0 (by unfold mpP; omega), gt_r _ _ _ _ (by decide)]; exact h5)
    have hb : ¬ m_gt (m_st μ2 81 (gW G).length (m_gt μ2 50 44)) 50 5 = 0 := by rw [gt_r _ _ _ _ (by decide)]; exact b.bad
    refine ⟨μ', ?_, f2, F1.trI (c.df.trI (F3.trI f3))⟩
    rw [a, ob_e, r_50_38 K2, ast_e (k_81 K2) (by omega) (by omega), ob_e, asks_b hb, ob_e, if_pos hb, f1]
  | Sum.inr (q1, C1), o =>
    have g2 := g.inr hx
    have gq := g2.1.2.1
    have gl := g2.2.2.1
    obtain ⟨μ2, a, b, c⟩ := o
    have F3 := DF.st d81 μ2 (C1.length : Int)
    have m3 := b.dst (v := (C1.length : Int)) (by omega) d81
    have c79 : m_gt (m_st μ2 81 (gW G).length (C1.length : Int)) 79 0 = (gW G).length := by rw [gt_r _ _ _ _ (by decide), c.2.2 79 0 (by unfold mpP; omega), gt_r _ _ _ _ (by decide)]; exact h5
    rw [a, ob_e, r_50_38 b.1, ast_e (k_81 b.1) (by omega) (by omega), ob_e, b.2.2.1.1.1, r_50_16 m3.1]
    refine SMR.fr (μ := m_st μ2 81 (gW G).length (C1.length : Int)) ?_ (F1.trI (c.df.trI F3))
    show SMR K T _ _ (wR T wWhen q1 _)
    have ww := wm m3.1 m3.2.2.2 (r := 59) (w := wWhen) (by decide)
    unfold wR
    cases hwn : wrd T wWhen q1 with
    | none =>
      obtain ⟨μ4, b1, b2', b3⟩ := asksM_0 (N := N) hN hT g2.1 (by decide) m3.1 ww hwn m3.2.1
      obtain ⟨μ', f1, f2, f3⟩ := fin (b3.KR m3.1 (by decide)) b2' (by rw [b3.2.2 79 0 (by decide) (by decide)]; exact c79)
      exact ⟨μ', by rw [b1, ob_e, if_pos b2'.bad, f1], f2, (lx6 b3).df.trI f3⟩
    | some q2 =>
      have i2 := wrd_1 w10_ok.2.2.2 hwn
      obtain ⟨μ4, b1, b2', b3, b4⟩ := asksM_1 (N := N) hN hT g2.1 (by decide) m3.1 ww hwn m3.2.1
      have m4 := m3.l4 b2' b4
      have o2 := test_M (N := N) hN hT i2.1 (by omega) m4
      rw [b1, ob_e, if_neg (not_not_intro b2'.b0)]
      refine SMR.fr ?_ (lx4 b4).df
      dsimp only
      match hx2 : testS T (factS T 7) 0 q2 C1, o2 with
      | Sum.inl e, o2 =>
        obtain ⟨μ5, e1, e2, e3⟩ := o2
        obtain ⟨μ', f1, f2, f3⟩ := fin (mp_KR e3 m4.1) e2 (by rw [e3.2.2 79 0 (by unfold mpP; omega), b4.2.2 79 0 (by decide) (by decide)]; exact c79)
        exact ⟨μ', by rw [e1, ob_e, f1], f2, e3.df.trI f3⟩
      | Sum.inr (q3, C3), o2 =>
        obtain ⟨μ5, e1, e2, e3⟩ := o2
        have h79 : m_gt μ5 79 0 = (gW G).length := by rw [e3.2.2 79 0 (by unfold mpP; omega), b4.2.2 79 0 (by decide) (by decide)]; exact c79
        have m6 := (e2.dst (v := (C3.length : Int)) (by omega) d82).dst (v := ((gW G).length : Int) + 1) (by omega) d79
        refine ⟨m_st (m_st μ5 82 (gW G).length (C3.length : Int)) 79 0 (((gW G).length : Int) + 1), ?_, ⟨m6.ml, ?_⟩, e3.df.trI ((DF.st d82 μ5 _).trI (DF.st d79 _ _))⟩
        · rw [e1, ob_e, w50 (N := N) hw e2.1 e2.2.2.1.1.1 h79, ob_e]
        · refine DM.wor (G := gtok G C3) (show DM (gtok G C3) μ from h.2) (fun r i z1 z2 => ?_)
          rw [m_gt_st, m_gt_st, e3.2.2 r i (by unfold mpP; omega), b4.2.2 r i (by simp) (by simp; omega), m_gt_st, c.2.2 r i (by unfold mpP; omega), m_gt_st]
          rfl
/-- how a statement ends in the reference -/
def eP (r i : Int) : Prop := dP r i ∨ (r = 50 ∧ i = 48)
def EF (μ μ' : Mm) : Prop := μ'.1 = μ.1 ∧ μ'.2.1 = μ.2.1 ∧ ∀ r i : Int, ¬ eP r i → m_gt μ' r i = m_gt μ r i
theorem EF.trI {a b c : Mm} (h : EF a b) (g : EF b c) : EF a c := ⟨g.1.trans h.1, g.2.1.trans h.2.1, fun r i hn => (g.2.2 r i hn).trans (h.2.2 r i hn)⟩
theorem EF.rf (μ : Mm) : EF μ μ := ⟨rfl, rfl, fun _ _ _ => rfl⟩
theorem DF.ef {a b : Mm} (h : DF a b) : EF a b := ⟨h.1, h.2.1, fun r i hn => h.2.2 r i (fun z => hn (Or.inl z))⟩
theorem EF.st {r i : Int} (h : eP r i) (μ : Mm) (v : Int) : EF μ (m_st μ r i v) := ⟨rfl, rfl, fun a b hn => by
  rw [m_gt_st, if_neg]
  rintro ⟨rfl, rfl⟩
  exact hn h⟩
def stE (T : List Int) (x : GP) : GP := match x with
  | Sum.inl e => Sum.inl e
  | Sum.inr (q1, G1) => match sg T 59 q1 with
    | some q2 => Sum.inr (q2, G1)
    | none => Sum.inl (1, q1)
def STR (T : List Int) (n : Nat) (μ : Mm) (res : Option Mm) (x : GP) : Prop := match x with
  | Sum.inr (q, G) => ∃ μ', res = some μ' ∧ MG T q G μ' ∧ m_gt μ' 50 48 = (n : Int) + 1 ∧ EF μ μ'
  | Sum.inl e => ∃ μ', res = some μ' ∧ FM e μ' ∧ EF μ μ'
theorem MG.c48 {T : List Int} {q : Nat} {G : Gm} {v : Int} {μ : Mm} (h : MG T q G μ) : MG T q G (m_st μ 50 48 v) := by
  have f : Fr [] [(50, 48)] μ (m_st μ 50 48 v) := Fr.stI (Fr.rf0 _ _ _) (by simp)
  refine ⟨⟨f.KR h.1.1 (by decide), h.1.2.1.fr (f.ag (by decide)), ⟨by rw [f.2.2 50 44 (by decide) (by decide)]; exact h.1.2.2.1.1, h.1.2.2.1.2.ext (fun i => f.2.2 86 i (by decide) (by simp))⟩, h.1.2.2.2.fr (fun r i h1 h2 => f.2.2 r i (by simp) (by simp; omega))⟩, h.2.ext (fun r i h1 h2 => f.2.2 r i (by simp) (by simp; omega))⟩
theorem SMR.end {N : Nat} (hN : 1000000 ≤ N) {T : List Int} (hT : TB T) {n : Nat} (hn : n < 1000) {μ : Mm} (h48 : m_gt μ 50 48 = n) {res : Option Mm} {x : GP} (h : SMR (fun μ => jX8_statement_212 N 50 μ) T μ res x) : STR T n μ res (stE T x) := by
  have q48 : ¬ dP 50 48 := by unfold dP mpP; omega
  match x, h with
  | Sum.inl e, ⟨μ1, a, b, c⟩ =>
    refine ⟨m_st μ1 50 48 ((n : Int) + 1), ?_, ⟨by rw [gt_i _ _ _ (by decide)]; exact b.1, by rw [gt_i _ _ _ (by decide)]; exact b.2.1, b.2.2⟩, c.ef.trI (EF.st (Or.inr ⟨rfl, rfl⟩) _ _)⟩
    rw [a]
    show jX8_statement_212 N 50 μ1 = _
    unfold jX8_statement_212
    rw [asksSign_b b.bad, ob_e, bnd_e, c.2.2 50 48 q48, h48, i_add_e (by omega) (by omega)]
  | Sum.inr (q1, G1), ⟨μ1, a, b, c⟩ =>
    show STR T n μ res (match sg T 59 q1 with | some q2 => Sum.inr (q2, G1) | none => Sum.inl (1, q1))
    cases hs : sg T 59 q1 with
    | some q2 =>
      obtain ⟨μ2, r1, r2, r3, r4⟩ := asksSign_1 (N := N) hN hT c59 hs b.1.1 b.1.2.1
      refine ⟨m_st μ2 50 48 ((n : Int) + 1), ?_, (b.l2 r2 r4).c48, gt_same _ _ _ _, c.ef.trI ((lx2 r4).df.ef.trI (EF.st (Or.inr ⟨rfl, rfl⟩) _ _))⟩
      rw [a]
      show jX8_statement_212 N 50 μ1 = _
      unfold jX8_statement_212
      rw [r1, ob_e, bnd_e, r4.2.2 50 48 (by decide) (by decide), c.2.2 50 48 q48, h48, i_add_e (by omega) (by omega)]
    | none =>
      obtain ⟨μ2, r1, r2, r3⟩ := asksSign_0 (N := N) hN hT (by decide) hs b.1.1 b.1.2.1
      refine ⟨m_st μ2 50 48 ((n : Int) + 1), ?_, ⟨by rw [gt_i _ _ _ (by decide)]; exact r2.1, by rw [gt_i _ _ _ (by decide)]; exact r2.2.1, r2.2.2⟩, c.ef.trI ((lx6 r3).df.ef.trI (EF.st (Or.inr ⟨rfl, rfl⟩) _ _))⟩
      rw [a]
      show jX8_statement_212 N 50 μ1 = _
      unfold jX8_statement_212
      rw [r1, ob_e, bnd_e, r3.2.2 50 48 (by decide) (by decide), c.2.2 50 48 q48, h48, i_add_e (by omega) (by omega)]
