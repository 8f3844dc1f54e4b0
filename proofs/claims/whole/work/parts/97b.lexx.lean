/-! ===== PURE: the class's Reader takes words, numbers and signs ===== -/
def RX (T : List Int) (q : Nat) (μ : Mm) : Prop := ((m_gt μ 24 2 = 1 ∧ m_gt μ 24 1 = -1) ∧ m_gt μ 24 3 = T.length) ∧ m_gt μ 24 4 = q ∧ m_gt μ 24 0 = 0 ∧ Row μ 1 0 T
theorem tx_row {T : List Int} {μ : Mm} {r : Int} (h : Row μ r 0 T) {p : Nat} (hp : p < T.length) : m_gt μ r p = tx T p := by
  have := h p hp
  rw [Int.zero_add] at this
  exact this
theorem skip_loop {N : Nat} {T : List Int} (hT : TB T) : ∀ (k n p : Nat) {μ : Mm}, p + k = T.length → k < n → KR μ → m_gt μ 24 2 = 1 → m_gt μ 24 3 = T.length → m_gt μ 24 4 = p → Row μ 1 0 T → ∃ μ', jX3_skip_0 N n 24 μ = some μ' ∧ m_gt μ' 24 4 = SKP T p ∧ Fr [] [(24, 4)] μ μ'
  | k, 0, p, μ, hp, hn, _, _, _, _, _ => absurd hn (by omega)
  | 0, n + 1, p, μ, hp, hn, hK, h2, h3, h4, hR => by
    refine ⟨μ, ?_, by rw [SKP_no (fun z => by have := z.1; omega)]; exact h4, Fr.rf0 _ _ _⟩
    show jX3_skip_0b (jX3_skip_0 N n) N 24 μ = _
    unfold jX3_skip_0b jX3_skip_52
    rw [h3, h4, if_pos (by omega)]
  | k + 1, n + 1, p, μ, hp, hn, hK, h2, h3, h4, hR => by
    have hl := hT.1
    have f1 : Fr [] [(24, 4)] μ (m_st μ 24 4 (p + 1 : Nat)) := Fr.stI (Fr.rf0 _ _ _) (by simp)
    have go : blk T p → ∃ μ', jX3_skip_39 (jX3_skip_0 N n) N 24 μ = some μ' ∧ m_gt μ' 24 4 = SKP T p ∧ Fr [] [(24, 4)] μ μ' := by
      intro hb
      obtain ⟨μ', r1, r2, r3⟩ := skip_loop (N := N) hT k n (p + 1) (μ := m_st μ 24 4 (p + 1 : Nat)) (by omega) (by omega) (hK.st _ (by decide)) (by rw [gt_i _ _ _ (by decide)]; exact h2) (by rw [gt_i _ _ _ (by decide)]; exact h3) (gt_same _ _ _ _) (hR.ext (fun i => gt_r _ _ _ _ (by decide)))
      refine ⟨μ', ?_, by rw [SKP_b hb]; exact r2, f1.trI r3⟩
      unfold jX3_skip_39
      rw [bnd_e, h4, i_add_e (by omega) (by omega)]
      exact r1
    show ∃ μ', jX3_skip_0b (jX3_skip_0 N n) N 24 μ = some μ' ∧ _
    unfold jX3_skip_0b jX3_skip_52
    rw [h3, h4, if_neg (by omega), h2, ald_e (k_1 hK) (by omega) (by omega), ob_e, ob_e, tx_row hR (by omega)]
    by_cases c1 : tx T p = 32
    · rw [if_pos c1]
      exact go ⟨by omega, Or.inl c1⟩
    · rw [if_neg c1]
      by_cases c2 : tx T p = 10
      · rw [if_neg (not_not_intro c2)]
        exact go ⟨by omega, Or.inr c2⟩
      · rw [if_pos c2]
        exact ⟨μ, rfl, by rw [SKP_no (fun z => by rcases z.2 with y | y; exact c1 y; exact c2 y)]; exact h4, Fr.rf0 _ _ _⟩
theorem skip_X {N : Nat} (hN : 1000000 ≤ N) {T : List Int} (hT : TB T) {p : Nat} (hp : p ≤ T.length) {μ : Mm} (hK : KR μ) (h2 : m_gt μ 24 2 = 1) (h3 : m_gt μ 24 3 = T.length) (h4 : m_gt μ 24 4 = p) (hR : Row μ 1 0 T) : ∃ μ', jX3_skip N 24 μ = some μ' ∧ m_gt μ' 24 4 = SKP T p ∧ Fr [] [(24, 4)] μ μ' := skip_loop (N := N) hT (T.length - p) N p (by omega) (by have := hT.1; omega) hK h2 h3 h4 hR
/-- goes to a place, and behind blanks -/
theorem to_X {N : Nat} (hN : 1000000 ≤ N) {T : List Int} (hT : TB T) {p q : Nat} (hp : p ≤ T.length) {μ : Mm} (hK : KR μ) (h : RX T q μ) : ∃ μ', jX3_skip N 24 (m_st μ 24 4 p) = some μ' ∧ RX T (SKP T p) μ' ∧ KR μ' ∧ Fr [] [(24, 4)] μ μ' := by
  have f1 : Fr [] [(24, 4)] μ (m_st μ 24 4 p) := Fr.stI (Fr.rf0 _ _ _) (by simp)
  obtain ⟨μ', r1, r2, r3⟩ := skip_X (N := N) hN hT hp (μ := m_st μ 24 4 p) (hK.st _ (by decide)) (by rw [gt_i _ _ _ (by decide)]; exact h.1.1.1) (by rw [gt_i _ _ _ (by decide)]; exact h.1.2) (gt_same _ _ _ _) (h.2.2.2.ext (fun i => gt_r _ _ _ _ (by decide)))
  have f := f1.trI r3
  exact ⟨μ', r1, ⟨⟨⟨by rw [f.2.2 24 2 (by decide) (by decide)]; exact h.1.1.1, by rw [f.2.2 24 1 (by decide) (by decide)]; exact h.1.1.2⟩, by rw [f.2.2 24 3 (by decide) (by decide)]; exact h.1.2⟩, r2, by rw [f.2.2 24 0 (by decide) (by decide)]; exact h.2.2.1, h.2.2.2.ext (fun i => f.2.2 1 i (by decide) (by simp))⟩, f.KR hK (by decide), f⟩
theorem sign_1 {N : Nat} (hN : 1000000 ≤ N) {T : List Int} (hT : TB T) {c : Int} {q q' : Nat} (hs : sg T c q = some q') {μ : Mm} (hK : KR μ) (h : RX T q μ) : ∃ μ', jX3_takesSign N 24 c μ = some (1, μ') ∧ RX T q' μ' ∧ KR μ' ∧ Fr [] [(24, 4)] μ μ' := by
  unfold sg at hs
  split at hs
  · rename_i hh
    injection hs with hs
    have hl := hT.1
    obtain ⟨μ', r1, r2, r3, r4⟩ := to_X (N := N) hN hT (p := q + 1) (by omega) hK h
    rw [hs] at r2
    refine ⟨μ', ?_, r2, r3, r4⟩
    unfold jX3_takesSign
    rw [h.1.2, h.2.1, if_neg (by omega), h.1.1.1, ald_e (k_1 hK) (by omega) (by omega), ob_e, tx_row h.2.2.2 hh.1, if_pos hh.2, bnd_e, i_add_e (by omega) (by omega)]
    show (jX3_skip N 24 (m_st μ 24 4 (q + 1 : Nat))).bind _ = _
    rw [r1, ob_e]
  · cases hs
theorem sign_0 {N : Nat} {T : List Int} (hT : TB T) {c : Int} {q : Nat} (hs : sg T c q = none) {μ : Mm} (hK : KR μ) (h : RX T q μ) : jX3_takesSign N 24 c μ = some (0, μ) := by
  unfold sg at hs
  split at hs
  · cases hs
  · rename_i hh
    have hl := hT.1
    unfold jX3_takesSign jX3_takesSign_24
    rw [h.1.2, h.2.1]
    by_cases c1 : T.length ≤ q
    · rw [if_pos (by omega)]
    · rw [if_neg (by omega), h.1.1.1, ald_e (k_1 hK) (by omega) (by omega), ob_e, tx_row h.2.2.2 (by omega), if_neg (fun z => hh ⟨by omega, z⟩)]
theorem letter_X {N : Nat} {T : List Int} (hT : TB T) {q p : Nat} {μ : Mm} (hK : KR μ) (h : RX T q μ) : jX3_isLetter N 24 p μ = some (if isL T p then 1 else 0, μ) := by
  have hl := hT.1
  unfold jX3_isLetter jX3_isLetter_38 jX3_isLetter_39
  rw [if_neg (by omega), h.1.2]
  by_cases c : T.length ≤ p
  · rw [if_pos (by omega), if_neg (fun z : isL T p => by have := z.1; omega), z_e (Or.inl rfl)]
  · rw [if_neg (by omega), h.1.1.1, ald_e (k_1 hK) (by omega) (by omega), ob_e, ob_e, tx_row h.2.2.2 (by omega)]
    by_cases c1 : tx T p < 97
    · rw [if_pos c1, if_neg (fun z : isL T p => by have := z.2; omega), z_e (Or.inl rfl)]
    · rw [if_neg c1]
      by_cases c2 : 122 < tx T p
      · rw [if_pos c2, if_neg (fun z : isL T p => by have := z.2; omega), z_e (Or.inl rfl)]
      · rw [if_neg c2, if_pos (show isL T p from ⟨by omega, by omega, by omega⟩), z_e (Or.inr rfl)]
theorem digit_X {N : Nat} {T : List Int} (hT : TB T) {q p : Nat} {μ : Mm} (hK : KR μ) (h : RX T q μ) : jX3_isDigit N 24 p μ = some (if isD T p then 1 else 0, μ) := by
  have hl := hT.1
  unfold jX3_isDigit jX3_isDigit_38 jX3_isDigit_39
  rw [if_neg (by omega), h.1.2]
  by_cases c : T.length ≤ p
  · rw [if_pos (by omega), if_neg (fun z : isD T p => by have := z.1; omega), z_e (Or.inl rfl)]
  · rw [if_neg (by omega), h.1.1.1, ald_e (k_1 hK) (by omega) (by omega), ob_e, ob_e, tx_row h.2.2.2 (by omega)]
    by_cases c1 : tx T p < 48
    · rw [if_pos c1, if_neg (fun z : isD T p => by have := z.2; omega), z_e (Or.inl rfl)]
    · rw [if_neg c1]
      by_cases c2 : 57 < tx T p
      · rw [if_pos c2, if_neg (fun z : isD T p => by have := z.2; omega), z_e (Or.inl rfl)]
      · rw [if_neg c2, if_pos (show isD T p from ⟨by omega, by omega, by omega⟩), z_e (Or.inr rfl)]
theorem pvD_X {N : Nat} {T : List Int} (hT : TB T) {q p : Nat} {μ : Mm} (hp : p ≤ T.length) (hK : KR μ) (h : RX T q μ) : jX3_isDigit N 24 (i_sub p 1) μ = some (if pvD T p then 1 else 0, μ) := by
  have hl := hT.1
  rw [i_sub_e (by omega) (by omega)]
  by_cases c : p = 0
  · unfold jX3_isDigit jX3_isDigit_38 jX3_isDigit_39
    rw [if_pos (by omega), if_neg (fun z : pvD T p => by have := z.1; omega), z_e (Or.inl rfl)]
  · rw [show (p : Int) - 1 = ((p - 1 : Nat) : Int) by omega, digit_X hT hK h]
    by_cases d : isD T (p - 1)
    · rw [if_pos d, if_pos (show pvD T p from ⟨by omega, d⟩)]
    · rw [if_neg d, if_neg (fun z : pvD T p => d z.2)]
theorem pvL_X {N : Nat} {T : List Int} (hT : TB T) {q p : Nat} {μ : Mm} (hp : p ≤ T.length) (hK : KR μ) (h : RX T q μ) : jX3_isLetter N 24 (i_sub p 1) μ = some (if pvL T p then 1 else 0, μ) := by
  have hl := hT.1
  rw [i_sub_e (by omega) (by omega)]
  by_cases c : p = 0
  · unfold jX3_isLetter jX3_isLetter_38 jX3_isLetter_39
    rw [if_pos (by omega), if_neg (fun z : pvL T p => by have := z.1; omega), z_e (Or.inl rfl)]
  · rw [show (p : Int) - 1 = ((p - 1 : Nat) : Int) by omega, letter_X hT hK h]
    by_cases d : isL T (p - 1)
    · rw [if_pos d, if_pos (show pvL T p from ⟨by omega, d⟩)]
    · rw [if_neg d, if_neg (fun z : pvL T p => d z.2)]
/-- a word of the class's -/
def isW (r : Int) (w : List Int) : Prop := s_len r = some (w.length : Int) ∧ (∀ i : Nat, i < w.length → s_at r i = some (w.getD i 0)) ∧ lws w ∧ w.length ≤ 8
theorem takes_43 {N : Nat} (hN : 1000000 ≤ N) {T : List Int} (hT : TB T) {r : Int} {w : List Int} (hw : isW r w) {q : Nat} (hq : q + w.length ≤ T.length) {μ : Mm} (hK : KR μ) (h : RX T q μ) : ∀ (k n i : Nat), i + k = w.length → k < n → (((∀ j, i ≤ j → j < w.length → tx T (q + j) = w.getD j 0) → ∃ μ', jX3_takes_43 N n 24 r (q + w.length : Nat) i μ = some (1, μ') ∧ RX T (SKP T (q + w.length)) μ' ∧ KR μ' ∧ Fr [] [(24, 4)] μ μ') ∧ (¬ (∀ j, i ≤ j → j < w.length → tx T (q + j) = w.getD j 0) → jX3_takes_43 N n 24 r (q + w.length : Nat) i μ = some (0, μ)))
  | k, 0, i, hi, hn => absurd hn (by omega)
  | 0, n + 1, i, hi, hn => by
    have hl := hT.1
    refine ⟨fun _ => ?_, fun z => absurd (fun j h1 h2 => by omega) z⟩
    obtain ⟨μ', r1, r2, r3, r4⟩ := to_X (N := N) hN hT (p := q + w.length) hq hK h
    refine ⟨μ', ?_, r2, r3, r4⟩
    show jX3_takes_43b (jX3_takes_43 N n) N 24 r (q + w.length : Nat) i μ = _
    unfold jX3_takes_43b
    rw [hw.1, ob_e, if_pos (by omega), bnd_e, r1, ob_e]
  | k + 1, n + 1, i, hi, hn => by
    have hl := hT.1
    have ih := takes_43 (N := N) hN hT hw hq hK h k n (i + 1) (by omega) (by omega)
    have e : jX3_takes_43 N (n + 1) 24 r (q + w.length : Nat) i μ = if tx T (q + i) = w.getD i 0 then jX3_takes_43 N n 24 r (q + w.length : Nat) (i + 1 : Nat) μ else some (0, μ) := by
      show jX3_takes_43b (jX3_takes_43 N n) N 24 r (q + w.length : Nat) i μ = _
      unfold jX3_takes_43b
      rw [hw.1, ob_e, if_neg (by omega), h.1.1.1, h.2.1, i_add_e (by omega) (by omega), show (q : Int) + i = ((q + i : Nat) : Int) by omega, ald_e (k_1 hK) (by omega) (by omega), ob_e, tx_row h.2.2.2 (by omega), hw.2.1 i (by omega), ob_e, bnd_e, i_add_e (by omega) (by omega)]
      rfl
    rw [e]
    by_cases c : tx T (q + i) = w.getD i 0
    · rw [if_pos c]
      have eq : (∀ j, i ≤ j → j < w.length → tx T (q + j) = w.getD j 0) ↔ (∀ j, i + 1 ≤ j → j < w.length → tx T (q + j) = w.getD j 0) := by
        constructor
        · intro z j h1 h2
          exact z j (by omega) h2
        · intro z j h1 h2
          by_cases d : j = i
          · rw [d]; exact c
          · exact z j (by omega) h2
      rw [eq]
      exact ih
    · rw [if_neg c]
      exact ⟨fun z => absurd (z i (Nat.le_refl _) (by omega)) c, fun _ => rfl⟩
theorem takes_pre {N : Nat} {T : List Int} (hT : TB T) {r : Int} {w : List Int} (hw : isW r w) {q : Nat} (hq : q ≤ T.length) {μ : Mm} (hK : KR μ) (h : RX T q μ) : jX3_takes N 24 r μ = if T.length < q + w.length ∨ isL T (q + w.length) ∨ pvD T q then some (0, μ) else jX3_takes_43 N N 24 r (q + w.length : Nat) 0 μ := by
  have hl := hT.1
  have h8 := hw.2.2.2
  unfold jX3_takes jX3_takes_39
  rw [hw.1, ob_e, bnd_e, h.2.1, i_add_e (by omega) (by omega), h.1.2, show (q : Int) + w.length = ((q + w.length : Nat) : Int) by omega]
  by_cases c1 : T.length < q + w.length
  · rw [if_pos (by omega), if_pos (Or.inl c1)]
  · rw [if_neg (by omega), letter_X hT hK h, b2_e]
    by_cases c2 : isL T (q + w.length)
    · rw [if_pos c2, if_pos (by decide), if_pos (Or.inr (Or.inl c2))]
    · rw [if_neg c2, if_neg (by decide), h.2.1, pvD_X hT hq hK h, b2_e]
      by_cases c3 : pvD T q
      · rw [if_pos c3, if_neg (by decide), if_pos (Or.inr (Or.inr c3))]
      · rw [if_neg c3, if_pos rfl, if_neg (fun z => by rcases z with z | z | z; exact c1 z; exact c2 z; exact c3 z)]
theorem takes_1 {N : Nat} (hN : 1000000 ≤ N) {T : List Int} (hT : TB T) {r : Int} {w : List Int} (hw : isW r w) {q q' : Nat} (hq : q ≤ T.length) (hs : wrd T w q = some q') {μ : Mm} (hK : KR μ) (h : RX T q μ) : ∃ μ', jX3_takes N 24 r μ = some (1, μ') ∧ RX T q' μ' ∧ KR μ' ∧ Fr [] [(24, 4)] μ μ' := by
  obtain ⟨_, _, h3, h4, h5⟩ := wrd_IN hw.2.2.1 hs
  have h8 := hw.2.2.2
  rw [takes_pre hT hw hq hK h, if_neg (fun z => by rcases z with z | z | z; exact absurd h4.1 (by omega); exact h4.2.1 z; exact h4.2.2.1 z)]
  rw [h5]
  exact (takes_43 (N := N) hN hT hw h4.1 hK h w.length N 0 (by omega) (by omega)).1 (fun j _ h2 => h4.2.2.2 j h2)
theorem takes_0 {N : Nat} (hN : 1000000 ≤ N) {T : List Int} (hT : TB T) {r : Int} {w : List Int} (hw : isW r w) {q : Nat} (hq : q ≤ T.length) (hs : wrd T w q = none) {μ : Mm} (hK : KR μ) (h : RX T q μ) : jX3_takes N 24 r μ = some (0, μ) := by
  have h8 := hw.2.2.2
  unfold wrd at hs
  split at hs
  · cases hs
  · rename_i hn
    rw [takes_pre hT hw hq hK h]
    by_cases c : T.length < q + w.length ∨ isL T (q + w.length) ∨ pvD T q
    · rw [if_pos c]
    · rw [if_neg c]
      refine (takes_43 (N := N) hN hT hw (by omega) hK h w.length N 0 (by omega) (by omega)).2 (fun z => hn ⟨by omega, fun y => c (Or.inr (Or.inl y)), fun y => c (Or.inr (Or.inr y)), fun j hj => z j (by omega) hj⟩)
theorem fail_X {N : Nat} {k pl : Int} {μ : Mm} (h : m_gt μ 24 0 = 0) : jX3_fail N 24 k pl μ = some (0, m_st (m_st μ 24 0 k) 24 1 pl) := by
  unfold jX3_fail jX3_fail_17
  rw [if_neg (not_not_intro h), bnd_e, bnd_e]
theorem fail_again {N : Nat} {k pl : Int} {μ : Mm} (h : ¬ m_gt μ 24 0 = 0) : jX3_fail N 24 k pl μ = some (0, μ) := by
  unfold jX3_fail jX3_fail_17
  rw [if_pos h]
/-- a fault stands -/
def FX (e : Int × Nat) (μ : Mm) : Prop := m_gt μ 24 0 = e.1 ∧ m_gt μ 24 1 = e.2 ∧ ¬ e.1 = 0
theorem FX_of {k : Int} {p : Nat} (hk : ¬ k = 0) (μ : Mm) : FX (k, p) (m_st (m_st μ 24 0 k) 24 1 p) := ⟨by rw [gt_i _ _ _ (by decide), gt_same], gt_same _ _ _ _, hk⟩
theorem FX_fr (k pl : Int) (μ : Mm) : Fr [] [(24, 0), (24, 1)] μ (m_st (m_st μ 24 0 k) 24 1 pl) := (Fr.stI (Fr.rf0 _ _ _) (by simp)).stI (by simp)
theorem num_44 {N : Nat} (hN : 1000000 ≤ N) {T : List Int} (hT : TB T) {lo hi : Int} {q : Nat} (hq : q ≤ T.length) {μ : Mm} (hK : KR μ) (h : RX T q μ) : ∀ (k n p : Nat) (v : Int), q + 4 = p + k → q ≤ p → k < n → p ≤ T.length → 0 ≤ v → v < 10 ^ (4 - k) → match dgs T k p v with | Sum.inr p' => jX3_number_44 N n 24 lo hi v p μ = some (-1, m_st (m_st μ 24 0 1) 24 1 p') | Sum.inl (v', p') => p' ≤ T.length ∧ jX3_number_44 N n 24 lo hi v p μ = jX3_number_105 N 24 lo hi v' p' μ
  | k, 0, p, v, hp, _, hn, _, _, _ => absurd hn (by omega)
  | 0, n + 1, p, v, hp, hqp, hn, hpl, hv, hv2 => by
    have hl := hT.1
    have e : jX3_number_44 N (n + 1) 24 lo hi v p μ = jX3_number_44b (jX3_number_44 N n) N 24 lo hi v p μ := rfl
    rw [e]
    unfold dgs jX3_number_44b
    rw [h.1.2]
    by_cases c : isD T p
    · rw [if_pos c]
      dsimp only
      rw [if_neg (by have := c.1; omega), digit_X hT hK h, b2_e, if_pos c, if_neg (by decide), h.2.1, i_sub_e (by omega) (by omega), if_neg (not_not_intro (by omega)), fail_X h.2.2.1, b2_e]
    · rw [if_neg c]
      dsimp only
      refine ⟨hpl, ?_⟩
      by_cases d : T.length ≤ p
      · rw [if_pos (by omega)]
      · rw [if_neg (by omega), digit_X hT hK h, b2_e, if_neg c, if_pos rfl]
  | k + 1, n + 1, p, v, hp, hqp, hn, hpl, hv, hv2 => by
    have hl := hT.1
    have e : jX3_number_44 N (n + 1) 24 lo hi v p μ = jX3_number_44b (jX3_number_44 N n) N 24 lo hi v p μ := rfl
    rw [e]
    unfold dgs
    by_cases c : isD T p
    · rw [if_pos c]
      have hc := c.2
      have h10 : (10 : Int) ^ (4 - k) = 10 * 10 ^ (4 - (k + 1)) := by rw [show 4 - k = (4 - (k + 1)) + 1 by omega, Int.pow_succ, Int.mul_comm]
      have hk4 : k = 0 ∨ k = 1 ∨ k = 2 ∨ k = 3 := by omega
      have hv9 : v < 10000 := by rcases hk4 with rfl | rfl | rfl | rfl <;> exact Int.lt_of_lt_of_le hv2 (by decide)
      have ih := num_44 (N := N) hN hT (lo := lo) (hi := hi) hq hK h k n (p + 1) (10 * v + tx T p - 48) (by omega) (by omega) (by omega) (by have := c.1; omega) (by omega) (by rw [h10]; omega)
      have e2 : jX3_number_44b (jX3_number_44 N n) N 24 lo hi v p μ = jX3_number_44 N n 24 lo hi (10 * v + tx T p - 48) (p + 1 : Nat) μ := by
        unfold jX3_number_44b
        rw [h.1.2, if_neg (by have := c.1; omega), digit_X hT hK h, b2_e, if_pos c, if_neg (by decide), h.2.1, i_sub_e (by omega) (by omega), if_pos (by omega), h.1.1.1, ald_e (k_1 hK) (by omega) (by have := c.1; omega), ob_e, tx_row h.2.2.2 c.1, bnd_e, bnd_e, i_mul_e (by omega) (by omega), i_add_e (by omega) (by omega), i_sub_e (by omega) (by omega), i_add_e (by omega) (by omega)]
        rfl
      rw [e2]
      exact ih
    · rw [if_neg c]
      dsimp only
      refine ⟨hpl, ?_⟩
      unfold jX3_number_44b
      rw [h.1.2]
      by_cases d : T.length ≤ p
      · rw [if_pos (by omega)]
      · rw [if_neg (by omega), digit_X hT hK h, b2_e, if_neg c, if_pos rfl]
theorem number_1 {N : Nat} (hN : 1000000 ≤ N) {T : List Int} (hT : TB T) {lo hi v : Int} {q q' : Nat} (hq : q ≤ T.length) (hs : numb T lo hi q = Sum.inr (v, q')) {μ : Mm} (hK : KR μ) (h : RX T q μ) : ∃ μ', jX3_number N 24 lo hi μ = some (v, μ') ∧ RX T q' μ' ∧ KR μ' ∧ Fr [] [(24, 4)] μ μ' := by
  obtain ⟨_, _, n1, n2, n3, n4, p, n5, n6, n7⟩ := numb_IN hs
  have hn := num_44 (N := N) hN hT (lo := lo) (hi := hi) hq hK h 4 N q 0 (by omega) (by omega) (by omega) hq (by decide) (by decide)
  rw [n5] at hn
  obtain ⟨hpl, hn⟩ := hn
  obtain ⟨μ', r1, r2, r3, r4⟩ := to_X (N := N) hN hT (p := p) hpl hK h
  rw [n6]
  refine ⟨μ', ?_, r2, r3, r4⟩
  unfold jX3_number
  rw [h.2.1, digit_X hT hK h, b2_e, if_pos n3, if_neg (by decide), h.2.1, pvL_X hT hq hK h, b2_e, if_neg n4, if_pos rfl, bnd_e, h.2.1, hn]
  unfold jX3_number_105
  rw [if_neg (by omega), if_pos (by omega), bnd_e, r1, ob_e]
theorem number_0 {N : Nat} (hN : 1000000 ≤ N) {T : List Int} (hT : TB T) {lo hi : Int} {e : Int × Nat} {q : Nat} (hq : q ≤ T.length) (hs : numb T lo hi q = Sum.inl e) {μ : Mm} (hK : KR μ) (h : RX T q μ) : ∃ μ', jX3_number N 24 lo hi μ = some (-1, μ') ∧ FX e μ' ∧ Fr [] [(24, 0), (24, 1)] μ μ' := by
  have hn := num_44 (N := N) hN hT (lo := lo) (hi := hi) hq hK h 4 N q 0 (by omega) (by omega) (by omega) hq (by decide) (by decide)
  unfold numb at hs
  unfold jX3_number jX3_number_24
  rw [h.2.1, digit_X hT hK h, b2_e]
  by_cases c1 : isD T q
  · rw [if_pos c1, if_neg (by decide), h.2.1, pvL_X hT hq hK h, b2_e]
    by_cases c2 : pvL T q
    · rw [if_pos (Or.inr c2)] at hs
      injection hs with hs
      rw [if_pos c2, if_neg (by decide), h.2.1, fail_X h.2.2.1, b2_e]
      exact ⟨_, rfl, by rw [← hs]; exact FX_of (by decide) μ, FX_fr _ _ μ⟩
    · rw [if_neg (fun z => by rcases z with z | z; exact z c1; exact c2 z)] at hs
      rw [if_neg c2, if_pos rfl, bnd_e, h.2.1]
      split at hs
      · rename_i p he
        rw [he] at hn
        dsimp only at hn
        injection hs with hs
        exact ⟨_, hn, by rw [← hs]; exact FX_of (by decide) μ, FX_fr _ _ μ⟩
      · rename_i v p he
        rw [he] at hn
        obtain ⟨hpl, hn⟩ := hn
        split at hs
        · cases hs
        · rename_i hr
          injection hs with hs
          rw [hn]
          unfold jX3_number_105 jX3_number_115
          rw [h.2.1, fail_X h.2.2.1, b2_e]
          refine ⟨m_st (m_st μ 24 0 2) 24 1 q, ?_, by rw [← hs]; exact FX_of (by decide) μ, FX_fr _ _ μ⟩
          by_cases d : v < lo
          · rw [if_pos d]
          · rw [if_neg d, if_neg (by omega)]
  · rw [if_pos (Or.inl c1)] at hs
    injection hs with hs
    rw [if_neg c1, if_pos rfl, h.2.1, fail_X h.2.2.1, b2_e]
    exact ⟨_, rfl, by rw [← hs]; exact FX_of (by decide) μ, FX_fr _ _ μ⟩
