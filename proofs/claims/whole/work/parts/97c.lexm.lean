/-! ===== PURE: the reference takes words, numbers and signs ===== -/
def YM (T : List Int) (p : Nat) (e : Int) (μ : Mm) : Prop := m_gt μ 50 3 = T.length ∧ m_gt μ 50 2 = p ∧ m_gt μ 50 4 = e ∧ m_gt μ 50 5 = 0 ∧ Row μ 51 0 T ∧ m_gt μ 50 6 = -1
def EN (T : List Int) (q : Nat) (e : Int) : Prop := e ≤ q ∧ (e = q ↔ (pvL T q ∨ pvD T q))
/-- the byte ahead, behind a place that no letter and no digit ends -/
theorem pv_no {T : List Int} {p : Nat} (h1 : ¬ pvL T p) (h2 : ¬ pvD T p) : ¬ (pvL T (SKP T p) ∨ pvD T (SKP T p)) := by
  rcases SKP_pv T p with e | e
  · rw [e]; exact fun z => z.elim h1 h2
  · exact fun z => z.elim (fun y => (blk_nL e.2).1 y.2) (fun y => (blk_nL e.2).2 y.2)
/-- at place q, behind blanks or ahead of them -/
def PP (T : List Int) (q : Nat) (μ : Mm) : Prop := ∃ p e, SKP T p = q ∧ p ≤ T.length ∧ YM T p e μ ∧ EN T q e
def PQ (T : List Int) (q : Nat) (μ : Mm) : Prop := ∃ e, YM T q e μ ∧ EN T q e
theorem PQ.pm {T : List Int} {q : Nat} {μ : Mm} (hI : IN T q) (h : PQ T q μ) : PP T q μ := by
  obtain ⟨e, h1, h2⟩ := h
  exact ⟨q, e, SKP_no hI.1, hI.2.1, h1, h2⟩
theorem YM.fr {T : List Int} {p : Nat} {e : Int} {μ μ' : Mm} (h : YM T p e μ) (g : Ag [51] [(50, 2), (50, 3), (50, 4), (50, 5), (50, 6)] μ μ') : YM T p e μ' := ⟨by rw [g.2 (50, 3) (by decide)]; exact h.1, by rw [g.2 (50, 2) (by decide)]; exact h.2.1, by rw [g.2 (50, 4) (by decide)]; exact h.2.2.1, by rw [g.2 (50, 5) (by decide)]; exact h.2.2.2.1, h.2.2.2.2.1.ag g (by decide), by rw [g.2 (50, 6) (by decide)]; exact h.2.2.2.2.2⟩
theorem PP.fr {T : List Int} {q : Nat} {μ μ' : Mm} (h : PP T q μ) (g : Ag [51] [(50, 2), (50, 3), (50, 4), (50, 5), (50, 6)] μ μ') : PP T q μ' := by
  obtain ⟨p, e, h1, h2, h3, h4⟩ := h
  exact ⟨p, e, h1, h2, h3.fr g, h4⟩
theorem PQ.fr {T : List Int} {q : Nat} {μ μ' : Mm} (h : PQ T q μ) (g : Ag [51] [(50, 2), (50, 3), (50, 4), (50, 5), (50, 6)] μ μ') : PQ T q μ' := by
  obtain ⟨e, h3, h4⟩ := h
  exact ⟨e, h3.fr g, h4⟩
theorem PP.b0 {T : List Int} {q : Nat} {μ : Mm} (h : PP T q μ) : m_gt μ 50 5 = 0 := by
  obtain ⟨p, e, _, _, h3, _⟩ := h
  exact h3.2.2.2.1
theorem PQ.b0 {T : List Int} {q : Nat} {μ : Mm} (h : PQ T q μ) : m_gt μ 50 5 = 0 := by
  obtain ⟨e, h3, _⟩ := h
  exact h3.2.2.2.1
theorem PQ.at {T : List Int} {q : Nat} {μ : Mm} (h : PQ T q μ) : m_gt μ 50 2 = q := by
  obtain ⟨e, h3, _⟩ := h
  exact h3.2.1
def lk (T : List Int) (q : Nat) : Int := if q < T.length then tx T q else -1
theorem look_52 {N : Nat} {T : List Int} (hT : TB T) {q : Nat} {e : Int} {μ : Mm} (hK : KR μ) (h : YM T q e μ) : jX8_look_52 N 50 μ = some (lk T q, μ) := by
  have hl := hT.1
  unfold jX8_look_52 jX8_look_76 lk
  rw [h.1, h.2.1]
  by_cases c : q < T.length
  · rw [if_neg (by omega), if_pos c, r_50_0 hK, ald_e (k_51 hK) (by omega) (by omega), ob_e, tx_row h.2.2.2.2.1 c]
  · rw [if_pos (by omega), if_neg c]
theorem look_loop {N : Nat} {T : List Int} (hT : TB T) {e : Int} : ∀ (k n p : Nat) {μ : Mm}, p + k = T.length → k < n → KR μ → YM T p e μ → ∃ μ', jX8_look_0 N n 50 μ = some (lk T (SKP T p), μ') ∧ YM T (SKP T p) e μ' ∧ KR μ' ∧ Fr [] [(50, 2)] μ μ'
  | k, 0, p, μ, hp, hn, _, _ => absurd hn (by omega)
  | 0, n + 1, p, μ, hp, hn, hK, h => by
    have e1 : SKP T p = p := SKP_no (fun z => by have := z.1; omega)
    rw [e1]
    refine ⟨μ, ?_, h, hK, Fr.rf0 _ _ _⟩
    show jX8_look_0b (jX8_look_0 N n) N 50 μ = _
    unfold jX8_look_0b
    rw [h.1, h.2.1, if_pos (by omega)]
    exact look_52 hT hK h
  | k + 1, n + 1, p, μ, hp, hn, hK, h => by
    have hl := hT.1
    have f1 : Fr [] [(50, 2)] μ (m_st μ 50 2 (p + 1 : Nat)) := Fr.stI (Fr.rf0 _ _ _) (by simp)
    have go : blk T p → ∃ μ', jX8_look_39 (jX8_look_0 N n) N 50 μ = some (lk T (SKP T p), μ') ∧ YM T (SKP T p) e μ' ∧ KR μ' ∧ Fr [] [(50, 2)] μ μ' := by
      intro hb
      obtain ⟨μ', r1, r2, r3, r4⟩ := look_loop (N := N) hT (e := e) k n (p + 1) (μ := m_st μ 50 2 (p + 1 : Nat)) (by omega) (by omega) (hK.st _ (by decide)) ⟨by rw [gt_i _ _ _ (by decide)]; exact h.1, gt_same _ _ _ _, by rw [gt_i _ _ _ (by decide)]; exact h.2.2.1, by rw [gt_i _ _ _ (by decide)]; exact h.2.2.2.1, h.2.2.2.2.1.ext (fun i => gt_r _ _ _ _ (by decide)), by rw [gt_i _ _ _ (by decide)]; exact h.2.2.2.2.2⟩
      rw [SKP_b hb]
      refine ⟨μ', ?_, r2, r3, f1.trI r4⟩
      unfold jX8_look_39
      rw [bnd_e, h.2.1, i_add_e (by omega) (by omega)]
      exact r1
    show ∃ μ', jX8_look_0b (jX8_look_0 N n) N 50 μ = _ ∧ _
    unfold jX8_look_0b
    rw [h.1, h.2.1, if_neg (by omega), r_50_0 hK, ald_e (k_51 hK) (by omega) (by omega), ob_e, ob_e, tx_row h.2.2.2.2.1 (by omega)]
    by_cases c1 : tx T p = 10
    · rw [if_pos c1]
      exact go ⟨by omega, Or.inr c1⟩
    · rw [if_neg c1]
      by_cases c2 : tx T p = 32
      · rw [if_neg (not_not_intro c2)]
        exact go ⟨by omega, Or.inl c2⟩
      · rw [if_pos c2]
        have e1 : SKP T p = p := SKP_no (fun z => by rcases z.2 with y | y; exact c2 y; exact c1 y)
        rw [e1]
        exact ⟨μ, look_52 hT hK h, h, hK, Fr.rf0 _ _ _⟩
theorem look_M {N : Nat} (hN : 1000000 ≤ N) {T : List Int} (hT : TB T) {q : Nat} {μ : Mm} (hK : KR μ) (h : PP T q μ) : ∃ μ', jX8_look N 50 μ = some (lk T q, μ') ∧ PQ T q μ' ∧ KR μ' ∧ Fr [] [(50, 2)] μ μ' := by
  obtain ⟨p, e, h1, h2, h3, h4⟩ := h
  obtain ⟨μ', r1, r2, r3, r4⟩ := look_loop (N := N) hT (e := e) (T.length - p) N p (by omega) (by have := hT.1; omega) hK h3
  rw [h1] at r1 r2
  exact ⟨μ', r1, ⟨e, r2, h4⟩, r3, r4⟩
theorem lk_sg {T : List Int} {c : Int} {q : Nat} (hc : 0 ≤ c) : lk T q = c ↔ (q < T.length ∧ tx T q = c) := by
  unfold lk
  by_cases d : q < T.length
  · rw [if_pos d]
    exact ⟨fun z => ⟨d, z⟩, fun z => z.2⟩
  · rw [if_neg d]
    exact ⟨fun z => by omega, fun z => absurd z.1 d⟩
def sgc (c : Int) : Prop := 0 ≤ c ∧ ¬ (97 ≤ c ∧ c ≤ 122) ∧ ¬ (48 ≤ c ∧ c ≤ 57)
/-- a step behind a sign -/
theorem PQ.step {T : List Int} {c : Int} (hc : sgc c) {q q' : Nat} (hs : sg T c q = some q') {μ : Mm} (hK : KR μ) (h : PQ T q μ) (hT : TB T) : PP T q' (m_st μ 50 2 (q + 1 : Nat)) := by
  obtain ⟨h1, h2, h3, h4, h5⟩ := sg_IN hc.2 hs
  obtain ⟨e, y, en⟩ := h
  refine ⟨q + 1, e, h5.symm, by omega, ⟨by rw [gt_i _ _ _ (by decide)]; exact y.1, gt_same _ _ _ _, by rw [gt_i _ _ _ (by decide)]; exact y.2.2.1, by rw [gt_i _ _ _ (by decide)]; exact y.2.2.2.1, y.2.2.2.2.1.ext (fun i => gt_r _ _ _ _ (by decide)), by rw [gt_i _ _ _ (by decide)]; exact y.2.2.2.2.2⟩, ?_⟩
  have n1 : ¬ pvL T (q + 1) := fun z => by
    have := z.2.2
    rw [Nat.add_sub_cancel, h4] at this
    exact hc.2.1 this
  have n2 : ¬ pvD T (q + 1) := fun z => by
    have := z.2.2
    rw [Nat.add_sub_cancel, h4] at this
    exact hc.2.2 this
  have hle := en.1
  refine ⟨by omega, fun z => by omega, fun z => ?_⟩
  rw [h5] at z
  exact absurd z (pv_no n1 n2)
theorem sgM_1 {N : Nat} (hN : 1000000 ≤ N) {T : List Int} (hT : TB T) {c : Int} (hc : sgc c) {q q' : Nat} (hs : sg T c q = some q') {μ : Mm} (hK : KR μ) (h : PP T q μ) : ∃ μ', jX8_takesSign N 50 c μ = some (1, μ') ∧ PP T q' μ' ∧ m_gt μ' 50 2 = (q + 1 : Nat) ∧ KR μ' ∧ Fr [] [(50, 2)] μ μ' := by
  obtain ⟨h1, h2, h3, h4, h5⟩ := sg_IN hc.2 hs
  obtain ⟨μ1, a1, a2, a3, a4⟩ := look_M (N := N) hN hT hK h
  have hl := hT.1
  refine ⟨m_st μ1 50 2 (q + 1 : Nat), ?_, a2.step hc hs a3 hT, gt_same _ _ _ _, a3.st _ (by decide), a4.stI (by simp)⟩
  unfold jX8_takesSign
  rw [if_neg (not_not_intro h.b0), a1, b2_e, if_pos ((lk_sg hc.1).mpr ⟨h3, h4⟩), bnd_e, a2.at, i_add_e (by omega) (by omega)]
  rfl
theorem sgM_0 {N : Nat} (hN : 1000000 ≤ N) {T : List Int} (hT : TB T) {c : Int} (hc : 0 ≤ c) {q : Nat} (hs : sg T c q = none) {μ : Mm} (hK : KR μ) (h : PP T q μ) : ∃ μ', jX8_takesSign N 50 c μ = some (0, μ') ∧ PQ T q μ' ∧ KR μ' ∧ Fr [] [(50, 2)] μ μ' := by
  obtain ⟨μ1, a1, a2, a3, a4⟩ := look_M (N := N) hN hT hK h
  refine ⟨μ1, ?_, a2, a3, a4⟩
  unfold sg at hs
  split at hs
  · cases hs
  · rename_i hh
    unfold jX8_takesSign jX8_takesSign_15
    rw [if_neg (not_not_intro h.b0), a1, b2_e, if_neg (fun z => hh ((lk_sg hc).mp z))]
/-- a fault of the reference stands -/
def FM (e : Int × Nat) (μ : Mm) : Prop := m_gt μ 50 5 = e.1 ∧ m_gt μ 50 6 = e.2 ∧ ¬ e.1 = 0
theorem failM {N : Nat} {k pl : Int} {μ : Mm} (h : m_gt μ 50 5 = 0) : jX8_fail N 50 k pl μ = some (m_st (m_st μ 50 5 k) 50 6 pl) := by
  unfold jX8_fail
  rw [if_pos h, bnd_e, bnd_e]
theorem failM_again {N : Nat} {k pl : Int} {μ : Mm} (h : ¬ m_gt μ 50 5 = 0) : jX8_fail N 50 k pl μ = some μ := by
  unfold jX8_fail
  rw [if_neg h]
theorem FM_of {k : Int} {p : Nat} (hk : ¬ k = 0) (μ : Mm) : FM (k, p) (m_st (m_st μ 50 5 k) 50 6 p) := ⟨by rw [gt_i _ _ _ (by decide), gt_same], gt_same _ _ _ _, hk⟩
theorem FM_fr (k pl : Int) (μ : Mm) : Fr [] [(50, 5), (50, 6)] μ (m_st (m_st μ 50 5 k) 50 6 pl) := (Fr.stI (Fr.rf0 _ _ _) (by simp)).stI (by simp)
def lxS : List (Int × Int) := [(50, 2), (50, 4), (50, 5), (50, 6)]
theorem asksSign_1 {N : Nat} (hN : 1000000 ≤ N) {T : List Int} (hT : TB T) {c : Int} (hc : sgc c) {q q' : Nat} (hs : sg T c q = some q') {μ : Mm} (hK : KR μ) (h : PP T q μ) : ∃ μ', jX8_asksSign N 50 c μ = some μ' ∧ PP T q' μ' ∧ KR μ' ∧ Fr [] [(50, 2)] μ μ' := by
  obtain ⟨μ1, a1, a2, _, a3, a4⟩ := sgM_1 (N := N) hN hT hc hs hK h
  refine ⟨μ1, ?_, a2, a3, a4⟩
  unfold jX8_asksSign jX8_asksSign_24
  rw [if_neg (not_not_intro h.b0), a1, b2_e, if_pos (by decide)]
theorem asksSign_0 {N : Nat} (hN : 1000000 ≤ N) {T : List Int} (hT : TB T) {c : Int} (hc : 0 ≤ c) {q : Nat} (hs : sg T c q = none) {μ : Mm} (hK : KR μ) (h : PP T q μ) : ∃ μ', jX8_asksSign N 50 c μ = some μ' ∧ FM (1, q) μ' ∧ Fr [] lxS μ μ' := by
  obtain ⟨μ1, a1, a2, a3, a4⟩ := sgM_0 (N := N) hN hT hc hs hK h
  refine ⟨m_st (m_st μ1 50 5 1) 50 6 q, ?_, FM_of (by decide) μ1, (a4.mono (by simp) (by simp [lxS])).trI ((FM_fr 1 q μ1).mono (by simp) (by simp [lxS]))⟩
  unfold jX8_asksSign jX8_asksSign_24
  rw [if_neg (not_not_intro h.b0), a1, b2_e, if_neg (by decide), a2.at, failM a2.b0, ob_e]
theorem asksSign_b {N : Nat} {c : Int} {μ : Mm} (h : ¬ m_gt μ 50 5 = 0) : jX8_asksSign N 50 c μ = some μ := by
  unfold jX8_asksSign jX8_asksSign_24
  rw [if_pos h]
theorem letter_M {N : Nat} {x : Int} {μ : Mm} : jX8_isLetter N x μ = some (if 97 ≤ x ∧ x ≤ 122 then 1 else 0, μ) := by
  unfold jX8_isLetter jX8_isLetter_16 jX8_isLetter_17
  by_cases c1 : x < 97
  · rw [if_pos c1, if_neg (by omega), z_e (Or.inl rfl)]
  · rw [if_neg c1]
    by_cases c2 : 122 < x
    · rw [if_pos c2, if_neg (by omega), z_e (Or.inl rfl)]
    · rw [if_neg c2, if_pos (by omega), z_e (Or.inr rfl)]
theorem digit_M {N : Nat} {x : Int} {μ : Mm} : jX8_isDigit N x μ = some (if 48 ≤ x ∧ x ≤ 57 then 1 else 0, μ) := by
  unfold jX8_isDigit jX8_isDigit_16 jX8_isDigit_17
  by_cases c1 : x < 48
  · rw [if_pos c1, if_neg (by omega), z_e (Or.inl rfl)]
  · rw [if_neg c1]
    by_cases c2 : 57 < x
    · rw [if_pos c2, if_neg (by omega), z_e (Or.inl rfl)]
    · rw [if_neg c2, if_pos (by omega), z_e (Or.inr rfl)]
/-- a word in a cell of the reference's -/
def isWM (r : Int) (w : List Int) (μ : Mm) : Prop := m_kd μ r = (103, w.length) ∧ Row μ r 0 w ∧ lws w ∧ w.length ≤ 8
theorem here_76 {N : Nat} {T : List Int} (hT : TB T) {r : Int} {w : List Int} {q : Nat} {e : Int} (hq : q + w.length ≤ T.length) {μ : Mm} (hK : KR μ) (hw : isWM r w μ) (h : YM T q e μ) : ∀ (k n i : Nat), i + k = w.length → k < n → jX8_isHere_76 N n 50 r i μ = some (if ∀ j, j < w.length → i ≤ j → tx T (q + j) = w.getD j 0 then 1 else 0, μ)
  | k, 0, i, hi, hn => absurd hn (by omega)
  | 0, n + 1, i, hi, hn => by
    show jX8_isHere_76b (jX8_isHere_76 N n) N 50 r i μ = _
    unfold jX8_isHere_76b
    rw [len_e hw.1 (by decide) (by decide), ob_e, if_pos (by omega), if_pos (fun j h1 h2 => by omega)]
  | k + 1, n + 1, i, hi, hn => by
    have hl := hT.1
    have ih := here_76 (N := N) hT hq hK hw h k n (i + 1) (by omega) (by omega)
    show jX8_isHere_76b (jX8_isHere_76 N n) N 50 r i μ = _
    unfold jX8_isHere_76b
    have hwi := hw.2.1 i (by omega)
    rw [Int.zero_add] at hwi
    rw [len_e hw.1 (by decide) (by decide), ob_e, if_neg (by omega), r_50_0 hK, h.2.1, i_add_e (by omega) (by omega), show (q : Int) + i = ((q + i : Nat) : Int) by omega, ald_e (k_51 hK) (by omega) (by omega), ob_e, tx_row h.2.2.2.2.1 (by omega), ald_e hw.1 (by omega) (by omega), ob_e, hwi, bnd_e, i_add_e (by omega) (by omega)]
    by_cases c : tx T (q + i) = w.getD i 0
    · have eq : (∀ j, j < w.length → i ≤ j → tx T (q + j) = w.getD j 0) ↔ (∀ j, j < w.length → i + 1 ≤ j → tx T (q + j) = w.getD j 0) := by
        constructor
        · intro z j h1 h2
          exact z j h1 (by omega)
        · intro z j h1 h2
          by_cases d : j = i
          · rw [d]; exact c
          · exact z j h1 (by omega)
      rw [if_pos c]
      refine Eq.trans ih ?_
      by_cases d : ∀ j, j < w.length → i + 1 ≤ j → tx T (q + j) = w.getD j 0
      · rw [if_pos d, if_pos (eq.mpr d)]
      · rw [if_neg d, if_neg (fun z => d (eq.mp z))]
    · rw [if_neg c, if_neg (fun z => c (z i (by omega) (Nat.le_refl _)))]
theorem here_35 {N : Nat} {T : List Int} (hT : TB T) {r : Int} {q : Nat} {e : Int} {μ : Mm} (hK : KR μ) (h : YM T q e μ) : ∀ (k n p : Nat), p + k = T.length → k < n → ∃ p', p ≤ p' ∧ p' ≤ T.length ∧ (∀ j, p ≤ j → j < p' → isL T j) ∧ ¬ isL T p' ∧ jX8_isHere_35 N n 50 r p μ = jX8_isHere_61 N 50 r p' μ
  | k, 0, p, hp, hn => absurd hn (by omega)
  | 0, n + 1, p, hp, hn => by
    refine ⟨p, Nat.le_refl _, by omega, fun j h1 h2 => by omega, fun z => by have := z.1; omega, ?_⟩
    show jX8_isHere_35b (jX8_isHere_35 N n) N 50 r p μ = _
    unfold jX8_isHere_35b
    rw [h.1, if_pos (by omega)]
  | k + 1, n + 1, p, hp, hn => by
    have hl := hT.1
    have e1 : jX8_isHere_35 N (n + 1) 50 r p μ = if isL T p then jX8_isHere_35 N n 50 r (p + 1 : Nat) μ else jX8_isHere_61 N 50 r p μ := by
      show jX8_isHere_35b (jX8_isHere_35 N n) N 50 r p μ = _
      unfold jX8_isHere_35b
      rw [h.1, if_neg (by omega), r_50_0 hK, ald_e (k_51 hK) (by omega) (by omega), ob_e, tx_row h.2.2.2.2.1 (by omega), letter_M, b2_e]
      by_cases c : isL T p
      · rw [if_pos c.2, if_neg (by decide), if_pos c, bnd_e, i_add_e (by omega) (by omega)]
        rfl
      · rw [if_neg (fun z => c ⟨by omega, z⟩), if_pos rfl, if_neg c]
    rw [e1]
    by_cases c : isL T p
    · obtain ⟨p', q1, q2, q3, q4, q5⟩ := here_35 (N := N) hT (r := r) hK h k n (p + 1) (by omega) (by omega)
      refine ⟨p', by omega, q2, fun j h1 h2 => ?_, q4, by rw [if_pos c]; exact q5⟩
      by_cases d : j = p
      · rw [d]; exact c
      · exact q3 j (by omega) h2
    · exact ⟨p, Nat.le_refl _, by omega, fun j h1 h2 => by omega, c, by rw [if_neg c]⟩
theorem isHere_M {N : Nat} (hN : 1000000 ≤ N) {T : List Int} (hT : TB T) {r : Int} {w : List Int} {q : Nat} (hI : IN T q) {μ : Mm} (hr : r ≠ 50) (hK : KR μ) (hw : isWM r w μ) (h : PP T q μ) : ∃ μ', jX8_isHere N 50 r μ = some (if WD T w q then 1 else 0, μ') ∧ PQ T q μ' ∧ KR μ' ∧ Fr [] [(50, 2)] μ μ' := by
  have hl := hT.1
  have h8 := hw.2.2.2
  have hw1 : 1 ≤ w.length := by cases w with | nil => exact absurd rfl hw.2.2.1.1 | cons _ _ => simp
  obtain ⟨μ1, a1, a2, a3, a4⟩ := look_M (N := N) hN hT hK h
  have w1 : isWM r w μ1 := ⟨by rw [a4.kd]; exact hw.1, hw.2.1.ext (fun i => a4.2.2 r i (by simp) (by simp [hr])), hw.2.2⟩
  have hwl : ∀ i, i < w.length → 97 ≤ w.getD i 0 ∧ w.getD i 0 ≤ 122 := by
    intro i hi
    apply hw.2.2.1.2
    rw [List.getD_eq_getElem?_getD, List.getElem?_eq_getElem hi]
    exact List.getElem_mem hi
  refine ⟨μ1, ?_, a2, a3, a4⟩
  unfold jX8_isHere jX8_isHere_28
  rw [if_neg (not_not_intro h.b0), a1, b2_e, letter_M, b2_e]
  by_cases c1 : isL T q
  · have e1 : lk T q = tx T q := by unfold lk; rw [if_pos c1.1]
    obtain ⟨e, y, en⟩ := a2
    rw [e1, if_pos c1.2, if_neg (by decide), y.2.1, y.2.2.1]
    by_cases c2 : (q : Int) = e
    · rw [if_neg (not_not_intro c2), if_neg]
      intro z
      rcases en.2.mp c2.symm with u | u
      · exact hI.2.2.1 ⟨u, c1⟩
      · exact z.2.2.1 u
    · rw [if_pos c2, bnd_e]
      obtain ⟨p', q1, q2, q3, q4, q5⟩ := here_35 (N := N) hT (r := r) a3 y (T.length - q) N q (by have := hI.2.1; omega) (by omega)
      rw [q5]
      unfold jX8_isHere_61
      rw [len_e w1.1 (by decide) (by decide), ob_e, y.2.1, i_sub_e (by omega) (by omega)]
      by_cases c3 : p' = q + w.length
      · rw [if_pos (by omega)]
        refine Eq.trans (here_76 (N := N) hT (by omega) a3 w1 y w.length N 0 (by omega) (by omega)) ?_
        by_cases c4 : ∀ j, j < w.length → 0 ≤ j → tx T (q + j) = w.getD j 0
        · rw [if_pos c4, if_pos]
          refine ⟨by omega, by rw [← c3]; exact q4, fun z => c2 (en.2.mpr (Or.inr z)).symm, fun i hi => c4 i hi (by omega)⟩
        · rw [if_neg c4, if_neg (fun z => c4 (fun j hj _ => z.2.2.2 j hj))]
      · rw [if_neg (by omega), if_neg]
        intro z
        apply c3
        have hz : ∀ j, q ≤ j → j < q + w.length → isL T j := by
          intro j h1 h2
          have := z.2.2.2 (j - q) (by omega)
          rw [show q + (j - q) = j by omega] at this
          refine ⟨by have := z.1; omega, ?_⟩
          rw [this]
          exact hwl _ (by omega)
        by_cases d : p' < q + w.length
        · exact absurd (hz p' q1 d) q4
        · by_cases d2 : q + w.length < p'
          · exact absurd (q3 (q + w.length) (by omega) d2) z.2.1
          · omega
  · have e1 : ¬ (97 ≤ lk T q ∧ lk T q ≤ 122) := by
      unfold lk
      by_cases d : q < T.length
      · rw [if_pos d]; exact fun z => c1 ⟨d, z⟩
      · rw [if_neg d]; decide
    rw [if_neg e1, if_pos rfl, if_neg]
    intro z
    have h0 := z.2.2.2 0 (by omega)
    rw [Nat.add_zero] at h0
    refine c1 ⟨by have := z.1; omega, ?_⟩
    rw [h0]
    exact hwl 0 (by omega)
theorem takesM_1 {N : Nat} (hN : 1000000 ≤ N) {T : List Int} (hT : TB T) {r : Int} {w : List Int} {q q' : Nat} (hI : IN T q) {μ : Mm} (hr : r ≠ 50) (hK : KR μ) (hw : isWM r w μ) (hs : wrd T w q = some q') (h : PP T q μ) : ∃ μ', jX8_takes N 50 r μ = some (1, μ') ∧ PP T q' μ' ∧ KR μ' ∧ Fr [] [(50, 2), (50, 4)] μ μ' := by
  obtain ⟨i1, i2, i3, i4, i5⟩ := wrd_IN hw.2.2.1 hs
  have hl := hT.1
  have hw1 : 1 ≤ w.length := by cases w with | nil => exact absurd rfl hw.2.2.1.1 | cons _ _ => simp
  obtain ⟨μ1, a1, a2, a3, a4⟩ := isHere_M (N := N) hN hT hI hr hK hw h
  have k1 : m_kd μ1 r = (103, w.length) := by rw [a4.kd]; exact hw.1
  obtain ⟨e, y, en⟩ := a2
  have eat : m_gt (m_st μ1 50 2 (q + w.length : Nat)) 50 2 = (q + w.length : Nat) := gt_same _ _ _ _
  refine ⟨m_st (m_st μ1 50 2 (q + w.length : Nat)) 50 4 (q + w.length : Nat), ?_, ?_, (a3.st _ (by decide)).st _ (by decide), ((a4.mono (by simp) (by simp)).stI (by simp)).stI (by simp)⟩
  · unfold jX8_takes
    rw [a1, b2_e, if_pos i4, if_pos (by decide), len_e k1 (by decide) (by decide), ob_e, bnd_e, y.2.1, i_add_e (by omega) (by omega), show (q : Int) + w.length = ((q + w.length : Nat) : Int) by omega, bnd_e, eat]
  · refine ⟨q + w.length, (q + w.length : Nat), i5.symm, i3, ⟨?_, ?_, gt_same _ _ _ _, ?_, ?_⟩, ?_⟩
    · rw [gt_i _ _ _ (by decide), gt_i _ _ _ (by decide)]; exact y.1
    · rw [gt_i _ _ _ (by decide)]; exact eat
    · rw [gt_i _ _ _ (by decide), gt_i _ _ _ (by decide)]; exact y.2.2.2.1
    · exact ⟨y.2.2.2.2.1.ext (fun i => by rw [gt_r _ _ _ _ (by decide), gt_r _ _ _ _ (by decide)]), by rw [gt_i _ _ _ (by decide), gt_i _ _ _ (by decide)]; exact y.2.2.2.2.2⟩
    · refine ⟨by omega, ?_⟩
      have hlast : pvL T (q + w.length) := by
        refine ⟨by omega, by omega, ?_⟩
        have := i4.2.2.2 (w.length - 1) (by omega)
        rw [show q + (w.length - 1) = q + w.length - 1 by omega] at this
        rw [this]
        apply hw.2.2.1.2
        rw [List.getD_eq_getElem?_getD, List.getElem?_eq_getElem (by omega)]
        exact List.getElem_mem _
      rw [i5]
      rcases SKP_pv T (q + w.length) with e1 | e1
      · rw [e1]
        exact ⟨fun _ => Or.inl hlast, fun _ => rfl⟩
      · have hle := SKP_le T (q + w.length)
        refine ⟨fun z => ?_, fun z => ?_⟩
        · exfalso
          have e2 : SKP T (q + w.length) = q + w.length := by omega
          rw [e2] at e1
          exact (blk_nL e1.2).1 hlast.2
        · exact absurd z (fun z => z.elim (fun y => (blk_nL e1.2).1 y.2) (fun y => (blk_nL e1.2).2 y.2))
theorem takesM_0 {N : Nat} (hN : 1000000 ≤ N) {T : List Int} (hT : TB T) {r : Int} {w : List Int} {q : Nat} (hI : IN T q) {μ : Mm} (hr : r ≠ 50) (hK : KR μ) (hw : isWM r w μ) (hs : wrd T w q = none) (h : PP T q μ) : ∃ μ', jX8_takes N 50 r μ = some (0, μ') ∧ PQ T q μ' ∧ KR μ' ∧ Fr [] [(50, 2)] μ μ' := by
  obtain ⟨μ1, a1, a2, a3, a4⟩ := isHere_M (N := N) hN hT hI hr hK hw h
  refine ⟨μ1, ?_, a2, a3, a4⟩
  unfold wrd at hs
  split at hs
  · cases hs
  · rename_i hn
    unfold jX8_takes
    rw [a1, b2_e, if_neg hn, if_neg (by decide)]
