/-! ===== PURE: the reference reads a part ===== -/
theorem opens_1 {N : Nat} {T : List Int} {q : Nat} {C W : List Int} {d : Nat} {b x pl : Int} (hd : d < 6) (hW : W.length < 780) {μ : Mm} (h : MS T q C W d b μ) : jX8_opens N 50 x pl μ = some (m_st (m_st (m_st μ 50 47 (d + 1 : Nat)) 87 W.length x) 50 46 (W.length + 1)) := by
  have K1 : KR (m_st μ 50 47 (d + 1 : Nat)) := h.1.st _ (by decide)
  unfold jX8_opens
  rw [h.2.2.1.2.2.1, if_pos (by omega), bnd_e, i_add_e (by omega) (by omega), show (d : Int) + 1 = ((d + 1 : Nat) : Int) by omega, r_50_45 K1, gt_i _ _ _ (by decide), h.2.2.1.2.1.1, ast_e (k_87 K1) (by omega) (by omega), ob_e, bnd_e, gt_r _ _ _ _ (by decide), gt_i _ _ _ (by decide), h.2.2.1.2.1.1, i_add_e (by omega) (by omega)]
theorem opens_0 {N : Nat} {T : List Int} {q : Nat} {C W : List Int} {d : Nat} {b x pl : Int} (hd : d = 6) {μ : Mm} (h : MS T q C W d b μ) : jX8_opens N 50 x pl μ = some (m_st (m_st μ 50 5 4) 50 6 pl) := by
  unfold jX8_opens
  rw [h.2.2.1.2.2.1, if_neg (not_not_intro (by omega)), failM h.2.1.b0, ob_e]
theorem PQ.mp {T : List Int} {q : Nat} {μ μ' : Mm} (h : PQ T q μ) (f : Fr [87] [(50, 44), (50, 46), (50, 47), (50, 49)] μ μ') : PQ T q μ' := h.fr (f.ag (by decide))
/-- a bracket opens -/
theorem PH_paren {N : Nat} (hN : 1000000 ≤ N) {T : List Int} (hT : TB T) {was : Int} {q q1 : Nat} (hI : IN T q) (hs : sg T 40 q = some q1) {C W : List Int} {d m n : Nat} {b : Int} (hd6 : d ≤ 6) (hC : C.length < 700) (hW : W.length < 780) (hm : 1 ≤ m) (hn : 1 ≤ n) {μ : Mm} (h : MS T q C W d b μ) : (d < 6 → ∃ μ', PH N was (m + 1) n 1 μ = PH N was m n 1 μ' ∧ MS T q1 C (W ++ [20]) (d + 1) b μ' ∧ RF μ μ') ∧ (¬ d < 6 → ∃ μ', PH N was (m + 1) n 1 μ = some (m_st μ' 50 49 was) ∧ FB (4, q) μ' ∧ RF μ μ') := by
  have i1 := sg_IN c40.2 hs
  have hl := hT.1
  obtain ⟨μ1, a1, a2, a3, a4⟩ := look_M (N := N) hN hT h.1 h.2.1
  have h1 := h.pq hI a2 a4
  have hlk : lk T q = 40 := (lk_sg (by decide)).mpr ⟨i1.2.2.1, i1.2.2.2.1⟩
  have red : ∀ μ4, jX8_opens N 50 20 q μ1 = some μ4 → m_gt μ4 50 2 = q → PH N was (m + 1) n 1 μ = PH N was m n 1 (m_st μ4 50 2 (q + 1 : Nat)) := by
    intro μ4 ho h2
    unfold PH
    have e : jX8_onePart_2 N (m + 1) 50 1 μ = jX8_onePart_2 N m 50 1 (m_st μ4 50 2 (q + 1 : Nat)) := by
      show jX8_onePart_2b (jX8_onePart_2 N m) N 50 1 μ = _
      unfold jX8_onePart_2b jX8_onePart_143
      rw [if_neg (by decide), if_neg (not_not_intro h.2.1.b0), a1, b2_e, if_neg (not_not_intro hlk), a2.at, ho, ob_e, bnd_e, h2, i_add_e (by omega) (by omega)]
      rfl
    rw [e]
  constructor
  · intro hd
    obtain ⟨p1, p2⟩ := push_K (d' := d + 1) (x := 20) h1
    have pq := a2.mp p2
    have f3 : Fr [] [(50, 2)] (m_st (m_st (m_st μ1 50 47 (d + 1 : Nat)) 87 W.length 20) 50 46 (W.length + 1)) (m_st (m_st (m_st (m_st μ1 50 47 (d + 1 : Nat)) 87 W.length 20) 50 46 (W.length + 1)) 50 2 (q + 1 : Nat)) := Fr.stI (Fr.rf0 _ _ _) (by simp)
    refine ⟨_, red _ (opens_1 (N := N) hd hW h1) pq.at, p1.l2 (pq.step c40 hs p1.1 hT) f3, (lx2 a4).trI ((mp_up p2).trI (lx2 f3))⟩
  · intro hd
    have hr := red _ (opens_0 (N := N) (by omega) h1) (by rw [gt_i _ _ _ (by decide), gt_i _ _ _ (by decide)]; exact a2.at)
    have hbad : ¬ m_gt (m_st (m_st (m_st μ1 50 5 4) 50 6 q) 50 2 (q + 1 : Nat)) 50 5 = 0 := by rw [gt_i _ _ _ (by decide), gt_i _ _ _ (by decide), gt_same]; decide
    refine ⟨m_st (m_st (m_st μ1 50 5 4) 50 6 q) 50 2 (q + 1 : Nat), ?_, ⟨by rw [gt_i _ _ _ (by decide), gt_i _ _ _ (by decide), gt_same], ⟨by rw [gt_i _ _ _ (by decide), gt_same], C.length, by omega, by rw [gt_i _ _ _ (by decide), gt_i _ _ _ (by decide), gt_i _ _ _ (by decide)]; exact h1.2.2.1.1.1⟩, (by decide : ¬ (4 : Int) = 0)⟩, (lx2 a4).trI (((lx56 (FM_fr 4 q μ1))).stI (by unfold mpP; omega))⟩
    rw [hr]
    exact PH_bad hN hm hn hbad
/-- behind min or max -/
theorem on_90 {N : Nat} (hN : 1000000 ≤ N) {T : List Int} (hT : TB T) {q : Nat} (hI : IN T q) {C W : List Int} {d : Nat} {b l3 : Int} (hd6 : d ≤ 6) (hC : C.length < 700) (hW : W.length < 780) {k2 : Int → Int → Mm → Option Mm} {μ : Mm} (h : MS T q C W d b μ) : (∀ q1, sg T 40 q = some q1 → d < 6 → ∃ μ', jX8_onePart_90 k2 N 50 1 l3 μ = k2 50 1 μ' ∧ MS T q1 C (W ++ [if l3 = 0 then 22 else 21]) (d + 1) b μ' ∧ RF μ μ') ∧ (∀ q1, sg T 40 q = some q1 → ¬ d < 6 → ∃ μ', jX8_onePart_90 k2 N 50 1 l3 μ = k2 50 1 μ' ∧ FB (4, q) μ' ∧ RF μ μ') ∧ (sg T 40 q = none → ∃ μ', jX8_onePart_90 k2 N 50 1 l3 μ = k2 50 1 μ' ∧ FB (1, q) μ' ∧ RF μ μ') := by
  obtain ⟨μ1, a1, a2, a3, a4⟩ := look_M (N := N) hN hT h.1 h.2.1
  have h1 := h.pq hI a2 a4
  refine ⟨fun q1 hs hd => ?_, fun q1 hs hd => ?_, fun hs => ?_⟩
  · have i1 := sg_IN c40.2 hs
    have hlk : lk T q = 40 := (lk_sg (by decide)).mpr ⟨i1.2.2.1, i1.2.2.2.1⟩
    obtain ⟨p1, p2⟩ := push_K (d' := d + 1) (x := if l3 = 0 then 22 else 21) h1
    obtain ⟨μ3, c1, c2, c3, c4⟩ := asksSign_1 (N := N) hN hT c40 hs p1.1 p1.2.1
    refine ⟨μ3, ?_, p1.l2 c2 c4, (lx2 a4).trI ((mp_up p2).trI (lx2 c4))⟩
    have e127 : ∀ x : Int, x = (if l3 = 0 then 22 else 21) → jX8_onePart_127 k2 N 50 1 q x 50 μ1 = k2 50 1 μ3 := by
      intro x hx
      unfold jX8_onePart_127 jX8_onePart_132 jX8_onePart_143
      rw [chk_e (k_50 h1.1), opens_1 (N := N) hd hW h1, ob_e, hx, c1, ob_e]
    unfold jX8_onePart_90 jX8_onePart_107
    rw [a1, b2_e, if_neg (not_not_intro hlk), a2.at, if_neg (by omega)]
    by_cases c : l3 = 0
    · rw [if_pos c]; exact e127 22 (by rw [if_pos c])
    · rw [if_neg c]; exact e127 21 (by rw [if_neg c])
  · have i1 := sg_IN c40.2 hs
    have hlk : lk T q = 40 := (lk_sg (by decide)).mpr ⟨i1.2.2.1, i1.2.2.2.1⟩
    have hbad : ¬ m_gt (m_st (m_st μ1 50 5 4) 50 6 q) 50 5 = 0 := by rw [gt_i _ _ _ (by decide), gt_same]; decide
    refine ⟨m_st (m_st μ1 50 5 4) 50 6 q, ?_, FB_of (by decide) (by omega) h1.2.2.1.1.1, (lx2 a4).trI (lx56 (FM_fr 4 q μ1))⟩
    have e127 : ∀ x : Int, jX8_onePart_127 k2 N 50 1 q x 50 μ1 = k2 50 1 (m_st (m_st μ1 50 5 4) 50 6 q) := by
      intro x
      unfold jX8_onePart_127 jX8_onePart_132 jX8_onePart_143
      rw [chk_e (k_50 h1.1), opens_0 (N := N) (by omega) h1, ob_e, asksSign_b hbad, ob_e]
    unfold jX8_onePart_90 jX8_onePart_107
    rw [a1, b2_e, if_neg (not_not_intro hlk), a2.at, if_neg (by omega)]
    by_cases c : l3 = 0
    · rw [if_pos c]; exact e127 22
    · rw [if_neg c]; exact e127 21
  · have hlk : ¬ lk T q = 40 := fun z => by
      have := (lk_sg (by decide)).mp z
      unfold sg at hs
      rw [if_pos this] at hs
      cases hs
    obtain ⟨μ3, c1, c2, c3⟩ := asksSign_0 (N := N) hN hT (by decide) hs h1.1 h1.2.1
    refine ⟨μ3, ?_, c2.fb c3 (k := C.length) (by omega) h1.2.2.1.1.1, (lx2 a4).trI (lx6 c3)⟩
    unfold jX8_onePart_90 jX8_onePart_107 jX8_onePart_132 jX8_onePart_143
    rw [a1, b2_e, if_pos hlk, if_pos rfl, c1, ob_e]
theorem sg40_lk {T : List Int} {q : Nat} (hs : sg T 40 q = none) : ¬ lk T q = 40 := fun z => by
  have := (lk_sg (by decide)).mp z
  unfold sg at hs
  rw [if_pos this] at hs
  cases hs
theorem wrd_no {T w : List Int} {q : Nat} (h : wrd T w q = none) : ¬ WD T w q := fun z => by
  unfold wrd at h
  rw [if_pos z] at h
  cases h
theorem wrd_yes {T w : List Int} {q q1 : Nat} (h : wrd T w q = some q1) : WD T w q := by
  unfold wrd at h
  split at h
  · rename_i z; exact z
  · cases h
/-- min or max: its word is taken -/
theorem PH_word {N : Nat} (hN : 1000000 ≤ N) {T : List Int} (hT : TB T) {was : Int} {q q1 : Nat} (hI : IN T q) (hs : sg T 40 q = none) {C W : List Int} {d m n : Nat} {b : Int} {mx : Bool} (hw : if mx then wrd T wMin q = none ∧ wrd T wMax q = some q1 else wrd T wMin q = some q1) {μ : Mm} (h : MS T q C W d b μ) : ∃ μ', PH N was (m + 1) n 1 μ = ((jX8_onePart_90 (jX8_onePart_2 N m) N 50 1 (if mx then 0 else 1) μ').bind fun μ1 => if ¬ (m_gt μ1 50 5) = 0 then jX8_sums_48 (jX8_sums_15 N n) N 50 was μ1 else GH N was N n μ1) ∧ MS T q1 C W d b μ' ∧ RF μ μ' := by
  have hlk := sg40_lk hs
  obtain ⟨μ1, a1, a2, a3, a4⟩ := look_M (N := N) hN hT h.1 h.2.1
  have h1 := h.pq hI a2 a4
  have W1 := wm h1.1 h1.2.2.2 (r := 72) (w := wMin) (by decide)
  obtain ⟨μ2, b1, b2', b3, b4⟩ := isHere_M (N := N) hN hT hI (by decide) h1.1 W1 h1.2.1
  have h2 := h1.pq hI b2' b4
  have W2 := wm h2.1 h2.2.2.2 (r := 72) (w := wMin) (by decide)
  cases mx with
  | false =>
    have hw : wrd T wMin q = some q1 := by simpa using hw
    obtain ⟨μ3, c1, c2, c3, c4⟩ := takesM_1 (N := N) hN hT hI (by decide) h2.1 W2 hw h2.2.1
    refine ⟨μ3, ?_, h2.l4 c2 c4, (lx2 a4).trI ((lx2 b4).trI (lx4 c4))⟩
    unfold PH
    have e : jX8_onePart_2 N (m + 1) 50 1 μ = jX8_onePart_90 (jX8_onePart_2 N m) N 50 1 1 μ3 := by
      show jX8_onePart_2b (jX8_onePart_2 N m) N 50 1 μ = _
      unfold jX8_onePart_2b jX8_onePart_69
      rw [if_neg (by decide), if_neg (not_not_intro h.2.1.b0), a1, b2_e, if_pos hlk, r_50_29 h1.1, b1, b2_e, if_pos (wrd_yes hw), if_pos (by decide), r_50_29 h2.1, c1, b2_e, if_pos (by decide)]
    rw [e]
    rfl
  | true =>
    have hw : wrd T wMin q = none ∧ wrd T wMax q = some q1 := by simpa using hw
    have W3 := wm h2.1 h2.2.2.2 (r := 73) (w := wMax) (by decide)
    obtain ⟨μ3, c1, c2, c3, c4⟩ := isHere_M (N := N) hN hT hI (by decide) h2.1 W3 h2.2.1
    have h3 := h2.pq hI c2 c4
    have W4 := wm h3.1 h3.2.2.2 (r := 72) (w := wMin) (by decide)
    obtain ⟨μ4, d1, d2, d3, d4⟩ := takesM_0 (N := N) hN hT hI (by decide) h3.1 W4 hw.1 h3.2.1
    have h4 := h3.pq hI d2 d4
    have W5 := wm h4.1 h4.2.2.2 (r := 73) (w := wMax) (by decide)
    obtain ⟨μ5, e1, e2, e3, e4⟩ := asksM_1 (N := N) hN hT hI (by decide) h4.1 W5 hw.2 h4.2.1
    refine ⟨μ5, ?_, h4.l4 e2 e4, (lx2 a4).trI ((lx2 b4).trI ((lx2 c4).trI ((lx2 d4).trI (lx4 e4))))⟩
    unfold PH
    have e : jX8_onePart_2 N (m + 1) 50 1 μ = jX8_onePart_90 (jX8_onePart_2 N m) N 50 1 0 μ5 := by
      show jX8_onePart_2b (jX8_onePart_2 N m) N 50 1 μ = _
      unfold jX8_onePart_2b jX8_onePart_69
      rw [if_neg (by decide), if_neg (not_not_intro h.2.1.b0), a1, b2_e, if_pos hlk, r_50_29 h1.1, b1, b2_e, if_neg (wrd_no hw.1), if_neg (by decide), r_50_30 h2.1, c1, b2_e, if_pos (wrd_yes hw.2), if_neg (by decide), r_50_29 h3.1, d1, b2_e, if_neg (by decide), r_50_30 h4.1, e1, ob_e]
    rw [e]
    rfl
