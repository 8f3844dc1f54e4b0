/-! ===== PURE: the class reads statements ===== -/
def gI (l : Int) : List Int := [l + 2, l + 5, l + 6, l + 7, l + 8, l + 9]
def gS (l : Int) : List (Int × Int) := [(24, 0), (24, 1), (24, 4), (l + 1, 1), (l, 1), (l, 2), (l, 3), (l, 4), (l, 5), (l, 12), (l, 13)]
def XG (l : Int) (T : List Int) (q : Nat) (G : Gm) (μ : Mm) : Prop := KR μ ∧ RX T q μ ∧ m_gt μ 24 5 = l ∧ LX l G μ
theorem gKR {l : Int} (hl : lok l) {μ μ' : Mm} (f : Fr (gI l) (gS l) μ μ') (hK : KR μ) : KR μ' := by rcases hl with rfl | rfl <;> exact f.KR hK (by decide)
theorem XG.xs {l : Int} {T : List Int} {q : Nat} {G : Gm} {μ : Mm} (h : XG l T q G μ) : XS l T q (gC G) μ := ⟨h.1, h.2.1, h.2.2.1, h.2.2.2.1.2.2.2.2.2.2.2, h.2.2.2.2.1.1⟩
theorem XG.lex {l : Int} (hl : lok l) {T : List Int} {q q' : Nat} {G : Gm} {μ μ' : Mm} (h : XG l T q G μ) (hR : RX T q' μ') (hK : KR μ') (f : Fr [] [(24, 4)] μ μ') : XG l T q' G μ' := ⟨hK, hR, by rw [f.2.2 24 5 (by decide) (by decide)]; exact h.2.2.1, by rcases hl with rfl | rfl <;> exact h.2.2.2.ag (f.ag (by decide))⟩
theorem gx4 {l : Int} {μ μ' : Mm} (f : Fr [] [(24, 4)] μ μ') : Fr (gI l) (gS l) μ μ' := f.mono (by simp) (by simp [gS])
theorem gx01 {l : Int} {μ μ' : Mm} (f : Fr [] [(24, 0), (24, 1)] μ μ') : Fr (gI l) (gS l) μ μ' := f.mono (by simp) (by simp [gS])
theorem gxx {l : Int} {μ μ' : Mm} (f : Fr (xI l) (xS l) μ μ') : Fr (gI l) (gS l) μ μ' := f.mono (by simp [xI, gI]) (by simp [xS, gS])
/-- tokens were read -/
theorem XG.rd {l : Int} (hl : lok l) {T : List Int} {q q' : Nat} {G : Gm} {C' : List Int} {μ μ' : Mm} (h : XG l T q G μ) (hX : XS l T q' C' μ') (f : Fr (xI l) (xS l) μ μ') : XG l T q' (gtok G C') μ' := by
  obtain ⟨⟨h1, h2, h3, h4, h5, h6, h7, h8⟩, ⟨r1, r2, r3, r4, r5⟩, hj⟩ := h.2.2.2
  have sl : ∀ i : Int, m_gt μ' l i = m_gt μ l i := fun i => f.2.2 l i (by simp [xI]; omega) (by rcases hl with rfl | rfl <;> simp [xS])
  have ce : ∀ r i : Int, l + 5 ≤ r → r ≤ l + 9 → m_gt μ' r i = m_gt μ r i := fun r i a b => f.2.2 r i (by simp [xI]; omega) (by rcases hl with rfl | rfl <;> simp [xS] <;> omega)
  refine ⟨hX.1, hX.2.1, hX.2.2.1, ⟨by rw [sl]; exact h1, by rw [sl]; exact h2, by rw [sl]; exact h3, by rw [sl]; exact h4, by rw [sl]; exact h5, by rw [sl]; exact h6, by rw [sl]; exact h7, hX.2.2.2.1⟩, ⟨hX.2.2.2.2, r2.ext (fun i => ce _ i (by omega) (by omega)), r3.ext (fun i => ce _ i (by omega) (by omega)), r4.ext (fun i => ce _ i (by omega) (by omega)), r5.ext (fun i => ce _ i (by omega) (by omega))⟩, fun a a0 a1 => ?_⟩
  rw [ce (l + 6) a (by omega) (by omega)]
  exact hj a a0 a1
def GX (l : Int) (T : List Int) (μ : Mm) (res : Option (Int × Mm)) (x : GP) : Prop := match x with
  | Sum.inr (q, G) => ∃ μ', res = some (1, μ') ∧ XG l T q G μ' ∧ Fr (gI l) (gS l) μ μ'
  | Sum.inl e => ∃ μ', res = some (0, μ') ∧ FX e μ' ∧ Fr (gI l) (gS l) μ μ'
theorem GX.fr {l : Int} {T : List Int} {μ μ0 : Mm} {res : Option (Int × Mm)} {x : GP} (h : GX l T μ res x) (f : Fr (gI l) (gS l) μ0 μ) : GX l T μ0 res x := by
  match x, h with
  | Sum.inl e, ⟨μ', a, b, c⟩ => exact ⟨μ', a, b, f.trI c⟩
  | Sum.inr (q, C), ⟨μ', a, b, c⟩ => exact ⟨μ', a, b, f.trI c⟩
theorem GX.z {l : Int} {T : List Int} {μ : Mm} {res : Option (Int × Mm)} {x : GP} (h : GX l T μ res x) : GX l T μ (b2 res fun x μ => z_chk x (some (x, μ))) x := by
  match x, h with
  | Sum.inl e, ⟨μ', a, b, c⟩ => exact ⟨μ', by rw [a, b2_e, z_e (Or.inl rfl)], b, c⟩
  | Sum.inr (q, C), ⟨μ', a, b, c⟩ => exact ⟨μ', by rw [a, b2_e, z_e (Or.inr rfl)], b, c⟩
theorem LX.set {l : Int} {G : Gm} {μ : Mm} {k v : Int} (hk : k = 0 ∨ k = 1 ∨ k = 2 ∨ k = 3) (h : LX l G μ) : LX l (gset G k v) (m_st μ l (k + 1) v) := by
  obtain ⟨⟨h1, h2, h3, h4, h5, h6, h7, h8⟩, ⟨r1, r2, r3, r4, r5⟩, hj⟩ := h
  have e : ∀ i, (gset G k v).1 i = if i = k then v else G.1 i := fun _ => rfl
  refine ⟨⟨?_, ?_, ?_, ?_, ?_, ?_, ?_, ?_⟩, ⟨r1.ext (fun i => by rw [m_gt_st, if_neg (by omega)]), ?_, r3.ext (fun i => by rw [m_gt_st, if_neg (by omega)]), r4.ext (fun i => by rw [m_gt_st, if_neg (by omega)]), r5.ext (fun i => by rw [m_gt_st, if_neg (by omega)])⟩, fun a a0 a1 => ?_⟩
  · rw [e, m_gt_st, h1]; rcases hk with rfl | rfl | rfl | rfl <;> simp
  · rw [e, m_gt_st, h2]; rcases hk with rfl | rfl | rfl | rfl <;> simp
  · rw [e, m_gt_st, h3]; rcases hk with rfl | rfl | rfl | rfl <;> simp
  · rw [e, m_gt_st, h4]; rcases hk with rfl | rfl | rfl | rfl <;> simp
  · rw [m_gt_st, if_neg (by omega)]; exact h5
  · rw [m_gt_st, if_neg (by omega)]; exact h6
  · rw [m_gt_st, if_neg (by omega)]; exact h7
  · rw [m_gt_st, if_neg (by omega)]; exact h8
  · rw [e, e, e, if_neg (by omega), if_neg (by omega), if_neg (by omega)]
    exact r2.ext (fun i => by rw [m_gt_st, if_neg (by omega)])
  · rw [m_gt_st, if_neg (by omega)]
    exact hj a a0 a1
theorem fld_X {N : Nat} (hN : 1000000 ≤ N) {l : Int} (hl : lok l) {T : List Int} (hT : TB T) {k lo hi : Int} (hk : k = 0 ∨ k = 1 ∨ k = 2 ∨ k = 3) {q : Nat} {G : Gm} (hI : IN T q) {μ : Mm} (h : XG l T q G μ) {k1 : Int} (hk1 : k1 = k + 1) : GX l T μ (b2 (jX3_number N 24 lo hi μ) fun x μ2 => m_chk 1 μ2 (m_gt μ 24 5) (bnd (m_st μ2 (m_gt μ 24 5) k1 x) fun μ3 => jX3_statement_169 N 24 μ3)) (fldS T G k lo hi q) := by
  have n24 : (24 : Int) ≠ l := by rcases hl with rfl | rfl <;> decide
  have fs : ∀ (μ1 : Mm) (v : Int), Fr (gI l) (gS l) μ1 (m_st μ1 l k1 v) := fun μ1 v => Fr.stI (Fr.rf0 _ _ _) (by rcases hk with rfl | rfl | rfl | rfl <;> subst hk1 <;> simp [gS])
  rw [h.2.2.1]
  unfold fldS bN jX3_statement_169 jX3_statement_181
  cases hn : numb T lo hi q with
  | inr p =>
    obtain ⟨v, q1⟩ := p
    obtain ⟨μ2, r1, r2, r3, r4⟩ := number_1 (N := N) hN hT hI.2.1 hn h.1 h.2.1
    have s := h.lex hl r2 r3 r4
    refine ⟨m_st μ2 l k1 v, ?_, ⟨gKR hl (fs μ2 v) s.1, ⟨⟨?_, ?_⟩, ?_, ?_, ?_⟩, ?_, ?_⟩, (gx4 r4).trI (fs μ2 v)⟩
    · rw [r1, b2_e, chk_e (LK.of s.1 hl).1.1, bnd_e, gt_r _ _ _ _ n24, if_neg (not_not_intro s.2.1.2.2.1), z_e (Or.inr rfl)]
    · exact ⟨by rw [gt_r _ _ _ _ n24]; exact s.2.1.1.1.1, by rw [gt_r _ _ _ _ n24]; exact s.2.1.1.1.2⟩
    · rw [gt_r _ _ _ _ n24]; exact s.2.1.1.2
    · rw [gt_r _ _ _ _ n24]; exact s.2.1.2.1
    · rw [gt_r _ _ _ _ n24]; exact s.2.1.2.2.1
    · exact s.2.1.2.2.2.ext (fun i => gt_r _ _ _ _ (by rcases hl with rfl | rfl <;> decide))
    · rw [gt_r _ _ _ _ n24]; exact s.2.2.1
    · rw [hk1]; exact s.2.2.2.set hk
  | inl e =>
    obtain ⟨μ2, r1, r2, r3⟩ := number_0 (N := N) hN hT hI.2.1 hn h.1 h.2.1
    have K2 : KR μ2 := gKR hl (gx01 r3) h.1
    refine ⟨m_st μ2 l k1 (-1), ?_, ⟨by rw [gt_r _ _ _ _ n24]; exact r2.1, by rw [gt_r _ _ _ _ n24]; exact r2.2.1, r2.2.2⟩, (gx01 r3).trI (fs μ2 (-1))⟩
    rw [r1, b2_e, chk_e (LK.of K2 hl).1.1, bnd_e, gt_r _ _ _ _ n24, if_pos (by rw [r2.1]; exact r2.2.2), z_e (Or.inl rfl)]
theorem ew_1 {N : Nat} (hN : 1000000 ≤ N) {T : List Int} (hT : TB T) {r : Int} {w : List Int} (hw : isW r w) {q q' : Nat} (hq : q ≤ T.length) (hs : wrd T w q = some q') {μ : Mm} (hK : KR μ) (h : RX T q μ) : ∃ μ', jX3_expectsWord N 24 r μ = some (1, μ') ∧ RX T q' μ' ∧ KR μ' ∧ Fr [] [(24, 4)] μ μ' := by
  obtain ⟨μ1, r1, r2, r3, r4⟩ := takes_1 (N := N) hN hT hw hq hs hK h
  refine ⟨μ1, ?_, r2, r3, r4⟩
  unfold jX3_expectsWord jX3_expectsWord_20 jX3_expectsWord_25
  rw [r1, b2_e, if_pos (by decide), z_e (Or.inr rfl)]
theorem ew_0 {N : Nat} (hN : 1000000 ≤ N) {T : List Int} (hT : TB T) {r : Int} {w : List Int} (hw : isW r w) {q : Nat} (hq : q ≤ T.length) (hs : wrd T w q = none) {μ : Mm} (hK : KR μ) (h : RX T q μ) : jX3_expectsWord N 24 r μ = some (0, m_st (m_st μ 24 0 1) 24 1 q) := by
  unfold jX3_expectsWord jX3_expectsWord_25
  rw [takes_0 (N := N) hN hT hw hq hs hK h, b2_e, if_neg (by decide), h.2.1, fail_X h.2.2.1, b2_e, if_pos rfl, z_e (Or.inl rfl)]
theorem LX.earn {l : Int} {G : Gm} {μ : Mm} {v u : Int} (hv : v = 1 ∨ v = 2 ∨ v = 3) (h : LX l G μ) : LX l (gset G (3 + v) u) (m_st μ (l + 5) v u) := by
  obtain ⟨⟨h1, h2, h3, h4, h5, h6, h7, h8⟩, ⟨r1, r2, r3, r4, r5⟩, hj⟩ := h
  have e : ∀ i, (gset G (3 + v) u).1 i = if i = 3 + v then u else G.1 i := fun _ => rfl
  have e0 : m_gt μ (l + 5) 0 = 0 := r2.get (i := 0) rfl rfl
  have e1 : m_gt μ (l + 5) 1 = G.1 4 := r2.get (i := 1) rfl rfl
  have e2 : m_gt μ (l + 5) 2 = G.1 5 := r2.get (i := 2) rfl rfl
  have e3 : m_gt μ (l + 5) 3 = G.1 6 := r2.get (i := 3) rfl rfl
  refine ⟨⟨?_, ?_, ?_, ?_, ?_, ?_, ?_, ?_⟩, ⟨r1.ext (fun i => by rw [m_gt_st, if_neg (by omega)]), ?_, r3.ext (fun i => by rw [m_gt_st, if_neg (by omega)]), r4.ext (fun i => by rw [m_gt_st, if_neg (by omega)]), r5.ext (fun i => by rw [m_gt_st, if_neg (by omega)])⟩, fun a a0 a1 => ?_⟩
  · rw [e, m_gt_st, if_neg (by omega), if_neg (by omega)]; exact h1
  · rw [e, m_gt_st, if_neg (by omega), if_neg (by omega)]; exact h2
  · rw [e, m_gt_st, if_neg (by omega), if_neg (by omega)]; exact h3
  · rw [e, m_gt_st, if_neg (by omega), if_neg (by omega)]; exact h4
  · rw [m_gt_st, if_neg (by omega)]; exact h5
  · rw [m_gt_st, if_neg (by omega)]; exact h6
  · rw [m_gt_st, if_neg (by omega)]; exact h7
  · rw [m_gt_st, if_neg (by omega)]; exact h8
  · intro i hi
    have hi : i < 4 := hi
    rw [e, e, e, Int.zero_add, m_gt_st]
    match i, hi with
    | 0, _ => rcases hv with rfl | rfl | rfl <;> simp [e0]
    | 1, _ => rcases hv with rfl | rfl | rfl <;> simp [e1]
    | 2, _ => rcases hv with rfl | rfl | rfl <;> simp [e2]
    | 3, _ => rcases hv with rfl | rfl | rfl <;> simp [e3]
  · rw [m_gt_st, if_neg (by omega)]
    exact hj a a0 a1
/-- one more slot or cell of the laws was written -/
theorem XG.st {l : Int} (hl : lok l) {T : List Int} {q : Nat} {G G' : Gm} {r i v : Int} (hr : r = l ∨ (l + 5 ≤ r ∧ r ≤ l + 9)) {μ : Mm} (f : Fr (gI l) (gS l) μ (m_st μ r i v)) (h : XG l T q G μ) (hL : LX l G' (m_st μ r i v)) : XG l T q G' (m_st μ r i v) := by
  have n24 : (24 : Int) ≠ r := by rcases hl with rfl | rfl <;> omega
  have n1 : (1 : Int) ≠ r := by rcases hl with rfl | rfl <;> omega
  refine ⟨gKR hl f h.1, ⟨⟨?_, ?_⟩, ?_, ?_, ?_⟩, ?_, hL⟩
  · exact ⟨by rw [gt_r _ _ _ _ n24]; exact h.2.1.1.1.1, by rw [gt_r _ _ _ _ n24]; exact h.2.1.1.1.2⟩
  · rw [gt_r _ _ _ _ n24]; exact h.2.1.1.2
  · rw [gt_r _ _ _ _ n24]; exact h.2.1.2.1
  · rw [gt_r _ _ _ _ n24]; exact h.2.1.2.2.1
  · exact h.2.1.2.2.2.ext (fun i => gt_r _ _ _ _ n1)
  · rw [gt_r _ _ _ _ n24]; exact h.2.2.1
theorem setE_X {N : Nat} {l : Int} (hl : lok l) {v u : Int} (hv : 1 ≤ v ∧ v ≤ 3) {μ : Mm} (hK : KR μ) : jX1_setEarned N l v u μ = some (m_st μ (l + 5) v u) := by
  have L := LK.of hK hl
  unfold jX1_setEarned jX1_setEarned_20
  rw [if_neg (by omega), L.2.2.2.1, len_e L.2.1.1 (by decide) (by decide), ob_e, if_neg (by omega), ast_e L.2.1.1 (by omega) (by omega), ob_e]
theorem cln_X {N : Nat} (hN : 1000000 ≤ N) {l : Int} (hl : lok l) {T : List Int} (hT : TB T) {q : Nat} {G : Gm} (hI : IN T q) {μ : Mm} (h : XG l T q G μ) : GX l T μ (jX3_clean N 24 μ) (clnS T G q) := by
  have hl7 := hT.1
  have WE : isW (-15) wEarns := isW_of (by decide)
  unfold jX3_clean jX3_clean_21 clnS
  cases hn : numb T 1 3 q with
  | inl e =>
    obtain ⟨μ2, r1, r2, r3⟩ := number_0 (N := N) hN hT hI.2.1 hn h.1 h.2.1
    exact ⟨μ2, by rw [r1, b2_e, if_pos rfl], r2, gx01 r3⟩
  | inr p =>
    obtain ⟨v, q1⟩ := p
    have i1 := numb_IN hn
    have iv1 := i1.2.2.1
    have iv2 := i1.2.2.2.1
    obtain ⟨μ2, r1, r2, r3, r4⟩ := number_1 (N := N) hN hT hI.2.1 hn h.1 h.2.1
    have s := h.lex hl r2 r3 r4
    rw [r1, b2_e, if_neg (by omega)]
    refine GX.fr ?_ (gx4 r4)
    show GX l T μ2 _ (wR T wEarns q1 _)
    unfold wR
    cases hw : wrd T wEarns q1 with
    | none =>
      refine ⟨_, by rw [ew_0 (N := N) hN hT WE i1.1.2.1 hw s.1 s.2.1, b2_e, if_neg (by decide)], FX_of (by decide) μ2, gx01 (FX_fr 1 q1 μ2)⟩
    | some q2 =>
      have i2 := wrd_1 w10_ok.2.2.1 hw
      obtain ⟨μ3, a1, a2, a3, a4⟩ := ew_1 (N := N) hN hT WE i1.1.2.1 hw s.1 s.2.1
      have s3 := s.lex hl a2 a3 a4
      rw [a1, b2_e, if_pos (by decide)]
      refine GX.fr ?_ (gx4 a4)
      dsimp only
      have fe : ∀ (μ1 : Mm) (u : Int), Fr (gI l) (gS l) μ1 (m_st μ1 (l + 5) v u) := fun μ1 u => Fr.stI (Fr.rf0 _ _ _) (by simp [gI])
      have n24 : (24 : Int) ≠ l + 5 := by rcases hl with rfl | rfl <;> decide
      unfold bN jX3_clean_49
      cases hm : numb T 0 3 q2 with
      | inl e =>
        obtain ⟨μ4, b1, b2', b3⟩ := number_0 (N := N) hN hT i2.1.2.1 hm s3.1 s3.2.1
        have K4 : KR μ4 := gKR hl (gx01 b3) s3.1
        have l4 : m_gt μ4 24 5 = l := by rw [b3.2.2 24 5 (by decide) (by decide)]; exact s3.2.2.1
        refine ⟨m_st μ4 (l + 5) v (-1), ?_, ⟨by rw [gt_r _ _ _ _ n24]; exact b2'.1, by rw [gt_r _ _ _ _ n24]; exact b2'.2.1, b2'.2.2⟩, (gx01 b3).trI (fe μ4 (-1))⟩
        rw [b1, b2_e, l4, chk_e (LK.of K4 hl).1.1, setE_X (N := N) hl ⟨iv1, iv2⟩ K4, ob_e, if_pos rfl, z_e (Or.inl rfl)]
      | inr p =>
        obtain ⟨u, q3⟩ := p
        have i3 := numb_IN hm
        have iu := i3.2.2.1
        obtain ⟨μ4, b1, b2', b3, b4⟩ := number_1 (N := N) hN hT i2.1.2.1 hm s3.1 s3.2.1
        have s4 := s3.lex hl b2' b3 b4
        refine ⟨m_st μ4 (l + 5) v u, ?_, s4.st hl (Or.inr ⟨by omega, by omega⟩) (fe μ4 u) (s4.2.2.2.earn (by omega)), (gx4 b4).trI (fe μ4 u)⟩
        rw [b1, b2_e, s4.2.2.1, chk_e (LK.of s4.1 hl).1.1, setE_X (N := N) hl ⟨iv1, iv2⟩ s4.1, ob_e, if_neg (by omega), z_e (Or.inr rfl)]
