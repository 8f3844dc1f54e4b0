/-! ===== PURE: the reference closes what is open ===== -/
def GH (N : Nat) (was : Int) (m n : Nat) (μ : Mm) : Option Mm := b2 (jX8_goesOn_0 N m 50 μ) fun x1 μ2 => if x1 = 0 then jX8_sums_48 (jX8_sums_15 N n) N 50 was μ2 else jX8_sums_49 (jX8_sums_15 N n) N 50 was 1 μ2
def PH (N : Nat) (was : Int) (m n : Nat) (l1 : Int) (μ : Mm) : Option Mm := (jX8_onePart_2 N m 50 l1 μ).bind fun μ1 => if ¬ (m_gt μ1 50 5) = 0 then jX8_sums_48 (jX8_sums_15 N n) N 50 was μ1 else GH N was N n μ1
theorem PH_0 {N : Nat} {was : Int} {n : Nat} {μ : Mm} (h : m_gt μ 50 5 = 0) : jX8_sums_15 N (n + 1) 50 was 1 μ = PH N was N n 1 μ := by
  show jX8_sums_15b (jX8_sums_15 N n) N 50 was 1 μ = _
  unfold jX8_sums_15b
  rw [if_neg (by decide), if_neg (not_not_intro h)]
  rfl
theorem bad_end {N : Nat} (hN : 1000000 ≤ N) {was : Int} {n : Nat} (hn : 1 ≤ n) {μ : Mm} (h : ¬ m_gt μ 50 5 = 0) : jX8_sums_48 (jX8_sums_15 N n) N 50 was μ = some (m_st μ 50 49 was) := by
  obtain ⟨n', rfl⟩ : ∃ n', n = n' + 1 := ⟨n - 1, by omega⟩
  obtain ⟨N', rfl⟩ : ∃ N', N = N' + 1 := ⟨N - 1, by omega⟩
  unfold jX8_sums_48 jX8_sums_49
  show jX8_sums_15b (jX8_sums_15 (N' + 1) n') (N' + 1) 50 was 0 μ = _
  unfold jX8_sums_15b
  rw [if_pos rfl]
  show jX8_sums_53b (jX8_sums_53 (N' + 1) N') (N' + 1) 50 was μ = _
  unfold jX8_sums_53b jX8_sums_78
  rw [if_pos h, bnd_e]
theorem PH_bad {N : Nat} (hN : 1000000 ≤ N) {was l1 : Int} {m n : Nat} (hm : 1 ≤ m) (hn : 1 ≤ n) {μ : Mm} (h : ¬ m_gt μ 50 5 = 0) : PH N was m n l1 μ = some (m_st μ 50 49 was) := by
  obtain ⟨m', rfl⟩ : ∃ m', m = m' + 1 := ⟨m - 1, by omega⟩
  have e : jX8_onePart_2 N (m' + 1) 50 l1 μ = some μ := by
    show jX8_onePart_2b (jX8_onePart_2 N m') N 50 l1 μ = _
    unfold jX8_onePart_2b jX8_onePart_146
    rw [if_neg h]
    by_cases c : l1 = 0
    · rw [if_pos c]
    · rw [if_neg c, if_pos h]
  unfold PH
  rw [e, ob_e, if_pos h]
  exact bad_end hN hn h
/-- a fault, and not too many codes -/
def FB (e : Int × Nat) (μ : Mm) : Prop := m_gt μ 50 5 = e.1 ∧ (m_gt μ 50 6 = e.2 ∧ ∃ k : Nat, k < 700 ∧ m_gt μ 50 44 = k) ∧ ¬ e.1 = 0
theorem FB.fm {e : Int × Nat} {μ : Mm} (h : FB e μ) : FM e μ := ⟨h.1, h.2.1.1, h.2.2⟩
theorem FB.bad {e : Int × Nat} {μ : Mm} (h : FB e μ) : ¬ m_gt μ 50 5 = 0 := by rw [h.1]; exact h.2.2
theorem FM.fb {e : Int × Nat} {μ μ' : Mm} (h : FM e μ') (f : Fr [] lxS μ μ') {k : Nat} (hk : k < 700) (h4 : m_gt μ 50 44 = k) : FB e μ' := ⟨h.1, ⟨h.2.1, k, hk, by rw [f.2.2 50 44 (by decide) (by decide)]; exact h4⟩, h.2.2⟩
theorem FB_of {c : Int} {p : Nat} (hc : ¬ c = 0) {μ : Mm} {k : Nat} (hk : k < 700) (h4 : m_gt μ 50 44 = k) : FB (c, p) (m_st (m_st μ 50 5 c) 50 6 p) := ⟨by rw [gt_i _ _ _ (by decide), gt_same], ⟨gt_same _ _ _ _, k, hk, by rw [gt_i _ _ _ (by decide), gt_i _ _ _ (by decide)]; exact h4⟩, hc⟩
theorem FB.e49 {e : Int × Nat} {μ : Mm} (h : FB e μ) (was : Int) : FB e (m_st μ 50 49 was) := ⟨by rw [gt_i _ _ _ (by decide)]; exact h.1, ⟨by rw [gt_i _ _ _ (by decide)]; exact h.2.1.1, h.2.1.2.elim (fun k z => ⟨k, z.1, by rw [gt_i _ _ _ (by decide)]; exact z.2⟩)⟩, h.2.2⟩
/-- how a run from a part's head ends -/
def MO (N : Nat) (was : Int) (T W : List Int) (d : Nat) (b : Int) (ok : Nat → List Int → Prop) (μ : Mm) (res : Option Mm) (x : PR) : Prop := match x with
  | Sum.inl e => ∃ μ', res = some μ' ∧ FB e μ' ∧ m_gt μ' 50 49 = was ∧ RF μ μ'
  | Sum.inr (q', C') => ∃ m' n' μ' C2 pd, ok q' pd ∧ C' = C2 ++ pd.reverse ∧ res = GH N was m' n' μ' ∧ (T.length + 9 < q' + m' ∧ T.length + 9 < q' + n') ∧ MS T q' C2 (W ++ pd.map tM) d b μ' ∧ C2.length + (W.length + pd.length) + 5 ≤ q' ∧ RF μ μ'
theorem MO.fr {N : Nat} {was : Int} {T W : List Int} {d : Nat} {b : Int} {ok : Nat → List Int → Prop} {μ μ0 : Mm} {res : Option Mm} {x : PR} (h : MO N was T W d b ok μ res x) (f : RF μ0 μ) : MO N was T W d b ok μ0 res x := by
  match x, h with
  | Sum.inl e, ⟨μ', a, b, c, g⟩ => exact ⟨μ', a, b, c, f.trI g⟩
  | Sum.inr (q, C), ⟨m', n', μ', C2, pd, a, b, c, e, g, i, j⟩ => exact ⟨m', n', μ', C2, pd, a, b, c, e, g, i, f.trI j⟩
/-- a fault, told at a part's head or behind it -/
theorem MO.fl {N : Nat} {was : Int} {T W : List Int} {d : Nat} {b : Int} {ok : Nat → List Int → Prop} {μ μ1 : Mm} {res : Option Mm} {e : Int × Nat} (h : FB e μ1) (hr : res = some (m_st μ1 50 49 was)) (f : RF μ μ1) : MO N was T W d b ok μ res (Sum.inl e) := ⟨_, hr, h.e49 was, gt_same _ _ _ _, f.stI (by unfold mpP; omega)⟩
theorem dtm_loop {N : Nat} {T : List Int} {q : Nat} {d : Nat} {b mk : Int} {W0 : List Int} (hmk : 20 ≤ mk ∧ mk ≤ 24) (hb : b ≤ W0.length) : ∀ (pd : List Int) (n : Nat) (C : List Int) {μ : Mm}, pd.length < n → (∀ x ∈ pd, tM x < 20) → C.length + pd.length ≤ 700 → W0.length + pd.length < 780 → MS T q C (W0 ++ [mk] ++ pd.reverse.map tM) d b μ → ∃ μ', jX8_dropsToMark_0 N n 50 μ = some μ' ∧ MS T q (C ++ pd) (W0 ++ [mk]) d b μ' ∧ m_gt μ' 50 2 = m_gt μ 50 2 ∧ RF μ μ'
  | pd, 0, C, μ, hn, _, _, _, _ => absurd hn (by omega)
  | [], n + 1, C, μ, hn, hx, hC, hW, h => by
    have h' : MS T q C (W0 ++ [mk]) d b μ := by simpa using h
    obtain ⟨t1, t2⟩ := top_K h'
    refine ⟨μ, ?_, by rw [List.append_nil]; exact h', rfl, RF.rf _⟩
    show jX8_dropsToMark_0b (jX8_dropsToMark_0 N n) N 50 μ = _
    unfold jX8_dropsToMark_0b jX8_dropsToMark_36 jX8_isMark jX8_isMark_17
    rw [t2, h.2.2.1.2.2.2, if_neg (by omega), i_sub_e (by omega) (by omega), show (W0.length : Int) + 1 - 1 = W0.length by omega, r_50_45 h.1, ald_e (k_87 h.1) (by omega) (by simp at hW; omega), ob_e, t1, if_neg (by omega), if_neg (by omega), z_e (Or.inr rfl), b2_e, if_pos (by decide)]
  | x :: pd, n + 1, C, μ, hn, hx, hC, hW, h => by
    have h' : MS T q C ((W0 ++ [mk] ++ pd.reverse.map tM) ++ [tM x]) d b μ := by simpa using h
    obtain ⟨t1, t2⟩ := top_K h'
    have hx1 := hx x (by simp)
    rw [List.length_cons] at hn hC hW
    have hlen : (W0 ++ [mk] ++ pd.reverse.map tM).length = W0.length + 1 + pd.length := by simp; omega
    obtain ⟨μ1, a1, a2, a3, a4⟩ := drops_M (N := N) (by omega) (by rw [hlen]; omega) h'
    obtain ⟨μ', r1, r2, r3, r4⟩ := dtm_loop (N := N) hmk hb pd n (C ++ [x]) (μ := μ1) (by omega) (fun y hy => hx y (by simp [hy])) (by simp; omega) (by omega) a2
    refine ⟨μ', ?_, by simpa using r2, by rw [r3, a3], a4.trI r4⟩
    rw [← r1]
    show jX8_dropsToMark_0b (jX8_dropsToMark_0 N n) N 50 μ = _
    unfold jX8_dropsToMark_0b jX8_isMark jX8_isMark_16 jX8_isMark_17
    rw [hlen] at t1 t2
    rw [t2, h.2.2.1.2.2.2, if_neg (by omega), i_sub_e (by omega) (by omega), show ((W0.length + 1 + pd.length : Nat) : Int) + 1 - 1 = ((W0.length + 1 + pd.length : Nat) : Int) by omega, r_50_45 h.1, ald_e (k_87 h.1) (by omega) (by omega), ob_e, t1, if_pos hx1, z_e (Or.inl rfl), b2_e, if_neg (by decide), a1, ob_e]
theorem dtm_M {N : Nat} (hN : 1000000 ≤ N) {T : List Int} {q : Nat} {d : Nat} {b mk : Int} {W0 C pd : List Int} (hmk : 20 ≤ mk ∧ mk ≤ 24) (hb : b ≤ W0.length) (hx : ∀ x ∈ pd, tM x < 20) (hC : C.length + pd.length ≤ 700) (hW : W0.length + pd.length < 780) {μ : Mm} (h : MS T q C (W0 ++ [mk] ++ pd.map tM) d b μ) : ∃ μ', jX8_dropsToMark N 50 μ = some μ' ∧ MS T q (C ++ pd.reverse) (W0 ++ [mk]) d b μ' ∧ m_gt μ' 50 2 = m_gt μ 50 2 ∧ RF μ μ' := dtm_loop (N := N) hmk hb pd.reverse N C (by simp; omega) (fun x hxm => hx x (by simpa using hxm)) (by simpa using hC) (by simpa using hW) (by rw [List.reverse_reverse]; exact h)
def nop (T : List Int) (q : Nat) : Prop := (sg T 42 q = none ∧ sg T 47 q = none) ∧ sg T 43 q = none ∧ sg T 45 q = none
theorem MS.pq {T : List Int} {q : Nat} {C W : List Int} {d : Nat} {b : Int} {μ μ' : Mm} (hI : IN T q) (h : MS T q C W d b μ) (hQ : PQ T q μ') (f : Fr [] [(50, 2)] μ μ') : MS T q C W d b μ' := h.l2 (hQ.pm hI) f
/-- no operator: what is open last decides -/
theorem on_118 {N : Nat} (hN : 1000000 ≤ N) {T : List Int} (hT : TB T) {q : Nat} (hI : IN T q) (hn : nop T q) {C W : List Int} {d : Nat} {b : Int} {μ : Mm} (h : MS T q C W d b μ) : ∃ μ', jX8_goesOn_118 N 50 μ = (b2 (jX8_mark N 50 μ') fun x5 μ5 =>
if x5 = 21 then (jX8_goesOn_322 N 50 μ5) else (b2 (jX8_mark N 50 μ5) fun x6 μ6 =>
if ¬ x6 = 22 then (b2 (jX8_mark N 50 μ6) fun x7 μ7 =>
if x7 = (-1) then (jX8_goesOn_382 N 50 μ7) else (if ¬ (m_gt μ7 50 5) = 0 then (jX8_goesOn_382 N 50 μ7) else ((jX8_fail N 50 1 (m_gt μ7 50 2) μ7).bind fun μ8 =>
jX8_goesOn_382 N 50 μ8))) else (jX8_goesOn_322 N 50 μ6))) ∧ MS T q C W d b μ' ∧ PQ T q μ' ∧ RF μ μ' := by
  obtain ⟨μ1, a1, a2, a3, a4⟩ := sgM_0 (N := N) hN hT (by decide) hn.1.1 h.1 h.2.1
  have h1 := h.pq hI a2 a4
  obtain ⟨μ2, b1, b2', b3, b4⟩ := sgM_0 (N := N) hN hT (by decide) hn.1.2 h1.1 h1.2.1
  have h2 := h1.pq hI b2' b4
  obtain ⟨μ3, c1, c2, c3, c4⟩ := sgM_0 (N := N) hN hT (by decide) hn.2.1 h2.1 h2.2.1
  have h3 := h2.pq hI c2 c4
  obtain ⟨μ4, d1, d2, d3, d4⟩ := sgM_0 (N := N) hN hT (by decide) hn.2.2 h3.1 h3.2.1
  have h4 := h3.pq hI d2 d4
  refine ⟨μ4, ?_, h4, d2, (lx2 a4).trI ((lx2 b4).trI ((lx2 c4).trI (lx2 d4)))⟩
  unfold jX8_goesOn_118
  rw [a1, b2_e, if_neg (by decide), b1, b2_e, if_pos rfl, c1, b2_e, if_neg (by decide), d1, b2_e, if_pos rfl]
/-- behind a sum within brackets or a pair's second: it isn't closed -/
theorem GH_open {N : Nat} (hN : 1000000 ≤ N) {T : List Int} (hT : TB T) {was : Int} {q : Nat} (hI : IN T q) (hn : nop T q) (hs : sg T 41 q = none) {C W0 pd : List Int} {d m n : Nat} {b mk : Int} (hmk : mk = 20 ∨ mk = 23 ∨ mk = 24) (hb : b ≤ W0.length) (hx : ∀ x ∈ pd, tM x < 20) (hC : C.length < 700) (hW : W0.length + pd.length < 780) (hm : 1 ≤ m) (hn1 : 1 ≤ n) {μ : Mm} (h : MS T q C (W0 ++ [mk] ++ pd.map tM) d b μ) : ∃ μ', GH N was m n μ = some (m_st μ' 50 49 was) ∧ FB (1, q) μ' ∧ RF μ μ' := by
  obtain ⟨m', rfl⟩ : ∃ m', m = m' + 1 := ⟨m - 1, by omega⟩
  have hxm : ∀ y ∈ pd.map tM, y < 20 := fun y hy => by
    obtain ⟨x, hxp, rfl⟩ := List.mem_map.mp hy
    exact hx x hxp
  obtain ⟨μ1, a1, a2, a3, a4⟩ := look_M (N := N) hN hT h.1 h.2.1
  have h1 := h.pq hI a2 a4
  have hlk : ¬ lk T q = 41 := fun z => by
    have := (lk_sg (by decide)).mp z
    unfold sg at hs
    rw [if_pos this] at hs
    cases hs
  obtain ⟨μ2, b1, b2', b3, b4⟩ := on_118 (N := N) hN hT hI hn h1
  have hmark := mark_M (N := N) hN hxm (by omega) hb (by simpa using hW) b2'
  refine ⟨m_st (m_st μ2 50 5 1) 50 6 q, ?_, FB_of (by decide) (by omega) b2'.2.2.1.1.1, (lx2 a4).trI (b4.trI (lx56 (FM_fr 1 q μ2)))⟩
  unfold GH
  have e : jX8_goesOn_0 N (m' + 1) 50 μ = some (0, m_st (m_st μ2 50 5 1) 50 6 q) := by
    show jX8_goesOn_0b (jX8_goesOn_0 N m') N 50 μ = _
    unfold jX8_goesOn_0b
    rw [if_neg (not_not_intro h.2.1.b0), a1, b2_e, if_pos hlk, b1, hmark, b2_e, if_neg (by omega), hmark, b2_e, if_pos (by omega), hmark, b2_e, if_neg (by omega), if_neg (not_not_intro b3.b0), b3.at, failM b3.b0, ob_e]
    rfl
  rw [e, b2_e, if_pos rfl]
  exact bad_end hN hn1 (by rw [gt_i _ _ _ (by decide), gt_same]; decide)
