/-! ===== PURE: the reference's rows, one behind another ===== -/
def enc (o : Ow) : Int := 6 * o.1 + 2 * o.2.1 + o.2.2
theorem enc_ok {o : Ow} (h : OwOK o) : 0 ≤ enc o ∧ enc o < 24 := by unfold enc OwOK at *; omega
theorem oneOf_M {N : Nat} {o : Ow} (h : OwOK o) {μ : Mm} : jX8_oneOf N (enc o) μ = some (o.1, μ) := by
  rcases h.mem with rfl | rfl | rfl | rfl | rfl | rfl | rfl | rfl | rfl | rfl | rfl | rfl | rfl | rfl <;> rfl
theorem later_M {N : Nat} {o : Ow} (h : OwOK o) {μ : Mm} : jX8_later N (enc o) μ = some (enc (lt1 o), μ) := by
  rcases h.mem with rfl | rfl | rfl | rfl | rfl | rfl | rfl | rfl | rfl | rfl | rfl | rfl | rfl | rfl <;> rfl
theorem plus_M {N : Nat} {o : Ow} (h : OwOK1 o) {e : Int} (h0 : 0 ≤ e) (h3 : e ≤ 3) {μ : Mm} : jX8_plus N (enc o) e μ = some (enc (pls o e), μ) := by
  have he : e = 0 ∨ e = 1 ∨ e = 2 ∨ e = 3 := by omega
  rcases h.mem with rfl | rfl | rfl | rfl | rfl <;> rcases he with rfl | rfl | rfl | rfl <;> rfl
/-- a row of rolls in the reference's cells -/
def ROW (r : List Int) (μ : Mm) : Prop := m_gt μ 50 74 = r.length ∧ Row μ 97 0 r
def rv (st : Int) (left : Nat) (r : List Int) : Prop := (∀ x ∈ r, 0 ≤ x ∧ x ≤ 9) ∧ lsum r ≤ st ∧ r.length ≤ left
theorem lsum_nn : ∀ {r : List Int}, (∀ x ∈ r, 0 ≤ x ∧ x ≤ 9) → 0 ≤ lsum r ∧ lsum r ≤ 9 * r.length
  | [], _ => by simp [lsum]
  | x :: r, h => by
    have h1 := h x (by simp)
    have h2 := lsum_nn (r := r) (fun y hy => h y (by simp [hy]))
    rw [lsum, List.length_cons]
    omega
theorem nextRow_5 {N : Nat} {st left : Int} {r : List Int} (hr : ∀ x ∈ r, 0 ≤ x ∧ x ≤ 9) (hl : r.length ≤ 3) (hl3 : left ≤ 3) {μ : Mm} (hK : KR μ) (hR : ROW r μ) : ∀ (k n i : Nat), i + k = r.length → k < n → jX8_nextRow_5 N n 50 st left (lsum (r.take i)) i μ = (if left ≤ r.length then (jX8_nextRow_65 N N 50 st (lsum r) μ) else (if st ≤ lsum r then (jX8_nextRow_65 N N 50 st (lsum r) μ) else (some (1, m_st (m_st μ 97 r.length 0) 50 74 (r.length + 1)))))
  | k, 0, i, hi, hn => absurd hn (by omega)
  | 0, n + 1, i, hi, hn => by
    show jX8_nextRow_5b (jX8_nextRow_5 N n) N 50 st left (lsum (r.take i)) i μ = _
    unfold jX8_nextRow_5b
    rw [hR.1, if_pos (by omega), List.take_of_length_le (by omega)]
    by_cases c : left ≤ r.length
    · rw [if_pos c, if_pos c]
    · rw [if_neg c, if_neg c]
      by_cases c2 : st ≤ lsum r
      · rw [if_pos c2, if_pos c2]
      · rw [if_neg c2, if_neg c2]
        have c3 : r.length < 3 := by omega
        have e0 := hR.1
        simp (disch := omega) only [e0, r_50_73 hK, ald_e (k_97 hK), ast_e (k_97 hK), len_e (k_97 hK) (by decide) (by decide), bnd_e, b2_e, ob_e, gt_same, gt_r, gt_i, i_add_e, i_sub_e, chk_st, len_st, ald_st, ast_st]
  | k + 1, n + 1, i, hi, hn => by
    have hil : i < r.length := by omega
    have hk : r[i]? = some r[i] := List.getElem?_eq_getElem hil
    have e : m_gt μ 97 i = r[i] := hR.2.get hk (by omega)
    have hx := hr _ (List.getElem_mem hil)
    have ht := lsum_nn (r := r.take i) (fun x hx => hr x (List.mem_of_mem_take hx))
    rw [List.length_take] at ht
    have ih := nextRow_5 hr hl hl3 hK hR (st := st) (left := left) (N := N) k n (i + 1) (by omega) (by omega)
    rw [List.take_succ_eq_append_getElem hil, lsum_app] at ih
    show jX8_nextRow_5b (jX8_nextRow_5 N n) N 50 st left (lsum (r.take i)) i μ = _
    unfold jX8_nextRow_5b
    rw [hR.1, if_neg (by omega), r_50_73 hK, ald_e (k_97 hK) (by omega) (by omega), ob_e, e, bnd_e, bnd_e, i_add_e (by omega) (by omega), i_add_e (by omega) (by omega), ← ih]
    simp [lsum]
theorem ROW.push {r : List Int} {μ : Mm} (h : ROW r μ) (x : Int) : ROW (r ++ [x]) (m_st (m_st μ 97 r.length x) 50 74 (r.length + 1)) := by
  refine ⟨by rw [gt_same, List.length_append, List.length_singleton]; omega, ?_⟩
  have := Row.push h.2 x
  rw [Int.zero_add] at this
  exact this.ext (fun i => gt_r _ _ _ _ (by decide))
theorem ROW.pop {r : List Int} {x : Int} {μ : Mm} (h : ROW (r ++ [x]) μ) : ROW r (m_st μ 50 74 r.length) ∧ m_gt μ 97 r.length = x := by
  refine ⟨⟨gt_same _ _ _ _, ?_⟩, ?_⟩
  · have := h.2.take r.length
    rw [List.take_left] at this
    exact this.ext (fun i => gt_r _ _ _ _ (by decide))
  · exact h.2.get (i := r.length) (by simp) (by omega)
theorem pop_nil {N n : Nat} {st s : Int} {μ : Mm} (h : ROW [] μ) : jX8_nextRow_65 N (n + 1) 50 st s μ = some (0, μ) := by
  show jX8_nextRow_65b (jX8_nextRow_65 N n) N 50 st s μ = _
  unfold jX8_nextRow_65b
  rw [h.1, if_pos (by decide)]
theorem pop_step {N n : Nat} {st x : Int} {r : List Int} (hr : ∀ y ∈ r, 0 ≤ y ∧ y ≤ 9) (hx : 0 ≤ x ∧ x ≤ 9) (hl : r.length ≤ 2) {μ : Mm} (hK : KR μ) (h : ROW (r ++ [x]) μ) : jX8_nextRow_65 N (n + 1) 50 st (lsum (r ++ [x])) μ = if st ≤ lsum (r ++ [x]) then jX8_nextRow_65 N n 50 st (lsum r) (m_st μ 50 74 r.length) else some (1, m_st (m_st (m_st μ 50 74 r.length) 97 r.length (x + 1)) 50 74 (r.length + 1)) := by
  have e74 : m_gt μ 50 74 = (r.length : Int) + 1 := by rw [h.1, List.length_append, List.length_singleton]; omega
  have e97 := h.pop.2
  have hs := lsum_nn hr
  have el : lsum (r ++ [x]) = lsum r + x := by rw [lsum_app]; simp [lsum]
  have e1 : (r.length : Int) + 1 - 1 = r.length := by omega
  have e2 : lsum r + x - x = lsum r := by omega
  rw [el]
  show jX8_nextRow_65b (jX8_nextRow_65 N n) N 50 st (lsum r + x) μ = _
  unfold jX8_nextRow_65b
  simp (disch := omega) only [e74, e97, e1, e2, r_50_73 hK, ald_e (k_97 hK), ast_e (k_97 hK), len_e (k_97 hK) (by decide) (by decide), bnd_e, b2_e, ob_e, gt_same, gt_r, gt_i, i_add_e, i_sub_e, chk_st, len_st, ald_st, ast_st, if_neg]
  by_cases c : st ≤ lsum r + x
  · rw [if_pos (by omega), if_pos c]
  · rw [if_neg (by omega), if_neg c]
def dsc : Nat → Int → List (List Int)
  | 0, _ => []
  | n + 1, st => if st ≤ 0 then [] else (upto st).flatMap fun t => [t] :: (dsc n (st - t)).map (t :: ·)
theorem dsc_len : ∀ (n : Nat) (st : Int), st ≤ 9 → (dsc n st).length ≤ 20 ^ n - 1
  | 0, st, _ => by simp [dsc]
  | n + 1, st, h9 => by
    have hp : 1 ≤ 20 ^ n := Nat.one_le_pow _ _ (by decide)
    unfold dsc
    split
    · simp
    · rw [upto_iot]
      have key : ∀ (k : Nat) (a : Int), 0 ≤ a → ((iot k a).flatMap fun t => [t] :: (dsc n (st - t)).map (t :: ·)).length ≤ k * 20 ^ n := by
        intro k
        induction k with
        | zero => intro a _; simp [iot]
        | succ k ih =>
          intro a ha
          rw [iot, List.flatMap_cons, List.length_append, List.length_cons, List.length_map]
          have h1 := dsc_len n (st - a) (by omega)
          have h2 := ih (a + 1) (by omega)
          rw [Nat.succ_mul]
          omega
      have := key (st.toNat + 1) 0 (by omega)
      have h10 : (st.toNat + 1) * 20 ^ n ≤ 10 * 20 ^ n := Nat.mul_le_mul_right _ (by omega)
      rw [Nat.pow_succ]
      omega
/-- a loop over all rows: F turns, with body Bd and end E -/
def RLp {τ : Type} (N : Nat) (st : Int) (left : Nat) (F : Nat → Mm → Option τ) (E : Mm → Option τ) (Bd : (Mm → Option τ) → Mm → Option τ) (Inv : List (List Int) → Mm → Prop) : Prop :=
  (∀ n V μ, Inv V μ → F (n + 1) μ = b2 (jX8_nextRow N 50 st left μ) fun x μ1 => if x = 0 then E μ1 else Bd (F n) μ1) ∧ (∀ V μ, Inv V μ → KR μ) ∧ (∀ V μ μ', Inv V μ → Fr [97] [(50, 74)] μ μ' → Inv V μ') ∧ (∀ K V r μ, r ≠ [] → rv st left r → Inv V μ → ROW r μ → ∃ μ', Bd K μ = K μ' ∧ Inv (V ++ [r]) μ' ∧ ROW r μ')
def PF {τ : Type} (N : Nat) (st : Int) (F : Nat → Mm → Option τ) (E : Mm → Option τ) (Bd : (Mm → Option τ) → Mm → Option τ) (m k : Nat) (r : List Int) (μ : Mm) : Option τ := b2 (jX8_nextRow_65 N m 50 st (lsum r) μ) fun x μ1 => if x = 0 then E μ1 else Bd (F k) μ1
theorem trav_t {τ : Type} {N : Nat} (hN : 1000000 ≤ N) {st : Int} {left : Nat} (hst : st ≤ 9) (hleft : left ≤ 3) {F : Nat → Mm → Option τ} {E : Mm → Option τ} {Bd : (Mm → Option τ) → Mm → Option τ} {Inv : List (List Int) → Mm → Prop} (H : RLp N st left F E Bd Inv) {n : Nat} {r : List Int} (hn : r.length + (n + 1) = left) (hr : rv st left r)
    (IH : ∀ (r' : List Int) (V : List (List Int)) (k : Nat) (μ : Mm), r'.length + n = left → rv st left r' → Inv V μ → ROW r' μ → ∃ m μ', r'.length + 1 ≤ m ∧ F (k + (dsc n (st - lsum r')).length + 1) μ = PF N st F E Bd m k r' μ' ∧ Inv (V ++ (dsc n (st - lsum r')).map (r' ++ ·)) μ' ∧ ROW r' μ') :
    ∀ (j : Nat) (t : Int) (V : List (List Int)) (k : Nat) (μ : Mm), t + j = st - lsum r → 0 ≤ t → Inv V μ → ROW (r ++ [t]) μ → ∃ m μ', r.length + 1 ≤ m ∧ F (k + 1 + ((dsc n (st - lsum r - t)).map (fun d => r ++ t :: d) ++ (iot j (t + 1)).flatMap (fun u => (r ++ [u]) :: (dsc n (st - lsum r - u)).map (fun d => r ++ u :: d))).length) μ = PF N st F E Bd m k r μ' ∧ Inv (V ++ ((dsc n (st - lsum r - t)).map (fun d => r ++ t :: d) ++ (iot j (t + 1)).flatMap (fun u => (r ++ [u]) :: (dsc n (st - lsum r - u)).map (fun d => r ++ u :: d)))) μ' ∧ ROW r μ'
  | 0, t, V, k, μ, ht, h0, hI, hR => by
    have hs := lsum_nn hr.1
    have el : lsum (r ++ [t]) = lsum r + t := by rw [lsum_app]; simp [lsum]
    have hv : rv st left (r ++ [t]) := ⟨fun x hx => by
      rcases List.mem_append.mp hx with z | z
      · exact hr.1 x z
      · rw [List.mem_singleton.mp z]; omega, by omega, by simp; omega⟩
    obtain ⟨m, μ1, q1, q2, q3, q4⟩ := IH (r ++ [t]) V k μ (by simp; omega) hv hI hR
    have hmm : (dsc n (st - lsum (r ++ [t]))).map (r ++ [t] ++ ·) = (dsc n (st - lsum r - t)).map (fun d => r ++ t :: d) := by
      rw [el, show st - (lsum r + t) = st - lsum r - t by omega]
      congr 1
      funext d
      simp
    obtain ⟨m', rfl⟩ : ∃ m', m = m' + 1 := ⟨m - 1, by omega⟩
    rw [hmm] at q3
    have K1 := H.2.1 _ _ q3
    have ps := pop_step (N := N) (n := m') (st := st) hr.1 (show 0 ≤ t ∧ t ≤ 9 by omega) (by omega) K1 q4
    rw [if_pos (by omega)] at ps
    refine ⟨m', m_st μ1 50 74 r.length, by rw [List.length_append, List.length_singleton] at q1; omega, ?_, ?_, q4.pop.1⟩
    · rw [show (iot 0 (t + 1)).flatMap (fun u => (r ++ [u]) :: (dsc n (st - lsum r - u)).map (fun d => r ++ u :: d)) = [] from rfl, List.append_nil, List.length_map]
      rw [el, show st - (lsum r + t) = st - lsum r - t by omega] at q2
      rw [show k + 1 + (dsc n (st - lsum r - t)).length = k + (dsc n (st - lsum r - t)).length + 1 by omega, q2]
      unfold PF
      rw [ps]
    · rw [show (iot 0 (t + 1)).flatMap (fun u => (r ++ [u]) :: (dsc n (st - lsum r - u)).map (fun d => r ++ u :: d)) = [] from rfl, List.append_nil]
      exact H.2.2.1 _ _ _ q3 (Fr.stI (Fr.rf0 _ _ _) (by simp))
  | j + 1, t, V, k, μ, ht, h0, hI, hR => by
    have hs := lsum_nn hr.1
    have el : lsum (r ++ [t]) = lsum r + t := by rw [lsum_app]; simp [lsum]
    have hv : rv st left (r ++ [t]) := ⟨fun x hx => by
      rcases List.mem_append.mp hx with z | z
      · exact hr.1 x z
      · rw [List.mem_singleton.mp z]; omega, by omega, by simp; omega⟩
    have hmm : (dsc n (st - lsum (r ++ [t]))).map (r ++ [t] ++ ·) = (dsc n (st - lsum r - t)).map (fun d => r ++ t :: d) := by
      rw [el, show st - (lsum r + t) = st - lsum r - t by omega]
      congr 1
      funext d
      simp
    -- what is left behind t
    let rest := (iot (j + 1) (t + 1)).flatMap (fun u => (r ++ [u]) :: (dsc n (st - lsum r - u)).map (fun d => r ++ u :: d))
    have erest : rest = (r ++ [t + 1]) :: ((dsc n (st - lsum r - (t + 1))).map (fun d => r ++ (t + 1) :: d) ++ (iot j (t + 1 + 1)).flatMap (fun u => (r ++ [u]) :: (dsc n (st - lsum r - u)).map (fun d => r ++ u :: d))) := by
      show (iot (j + 1) (t + 1)).flatMap _ = _
      rw [iot, List.flatMap_cons]
      rfl
    obtain ⟨m, μ1, q1, q2, q3, q4⟩ := IH (r ++ [t]) V (k + rest.length) μ (by simp; omega) hv hI hR
    obtain ⟨m', rfl⟩ : ∃ m', m = m' + 1 := ⟨m - 1, by omega⟩
    rw [hmm] at q3
    have K1 := H.2.1 _ _ q3
    have ps := pop_step (N := N) (n := m') (st := st) hr.1 (show 0 ≤ t ∧ t ≤ 9 by omega) (by omega) K1 q4
    rw [if_neg (by omega)] at ps
    let μ2 := m_st (m_st (m_st μ1 50 74 r.length) 97 r.length (t + 1)) 50 74 (r.length + 1)
    have f2 : Fr [97] [(50, 74)] μ1 μ2 := Fr.stI (Fr.stI (Fr.stI (Fr.rf0 _ _ _) (by simp)) (by simp)) (by simp)
    have R2 : ROW (r ++ [t + 1]) μ2 := q4.pop.1.push (t + 1)
    have hv2 : rv st left (r ++ [t + 1]) := ⟨fun x hx => by
      rcases List.mem_append.mp hx with z | z
      · exact hr.1 x z
      · rw [List.mem_singleton.mp z]; omega, by rw [lsum_app]; simp [lsum]; omega, by simp; omega⟩
    obtain ⟨μ3, b1, b2', b3⟩ := H.2.2.2 (F (k + rest.length)) _ (r ++ [t + 1]) μ2 (by simp) hv2 (H.2.2.1 _ _ _ q3 f2) R2
    obtain ⟨m2, μ4, c1, c2, c3, c4⟩ := trav_t hN hst hleft H hn hr IH j (t + 1) (V ++ (dsc n (st - lsum r - t)).map (fun d => r ++ t :: d) ++ [r ++ [t + 1]]) k μ3 (by omega) (by omega) b2' b3
    refine ⟨m2, μ4, c1, ?_, ?_, c4⟩
    · show F (k + 1 + ((dsc n (st - lsum r - t)).map (fun d => r ++ t :: d) ++ rest).length) μ = _
      rw [List.length_append, List.length_map]
      rw [el, show st - (lsum r + t) = st - lsum r - t by omega] at q2
      rw [show k + 1 + ((dsc n (st - lsum r - t)).length + rest.length) = k + rest.length + (dsc n (st - lsum r - t)).length + 1 by omega, q2]
      have : PF N st F E Bd (m' + 1) (k + rest.length) (r ++ [t]) μ1 = Bd (F (k + rest.length)) μ2 := by
        unfold PF
        rw [ps, b2_e, if_neg (by decide)]
      rw [this, b1, ← c2]
      congr 1
      rw [erest, List.length_cons]
      omega
    · show Inv (V ++ ((dsc n (st - lsum r - t)).map (fun d => r ++ t :: d) ++ rest)) μ4
      rw [erest]
      simpa [List.append_assoc] using c3
theorem trav {τ : Type} {N : Nat} (hN : 1000000 ≤ N) {st : Int} {left : Nat} (hst : st ≤ 9) (hleft : left ≤ 3) {F : Nat → Mm → Option τ} {E : Mm → Option τ} {Bd : (Mm → Option τ) → Mm → Option τ} {Inv : List (List Int) → Mm → Prop} (H : RLp N st left F E Bd Inv) : ∀ (n : Nat) (r : List Int) (V : List (List Int)) (k : Nat) (μ : Mm), r.length + n = left → rv st left r → Inv V μ → ROW r μ → ∃ m μ', r.length + 1 ≤ m ∧ F (k + (dsc n (st - lsum r)).length + 1) μ = PF N st F E Bd m k r μ' ∧ Inv (V ++ (dsc n (st - lsum r)).map (r ++ ·)) μ' ∧ ROW r μ'
  | n, r, V, k, μ, hn, hr, hI, hR => by
    have hK := H.2.1 _ _ hI
    have hs := lsum_nn hr.1
    have nr : jX8_nextRow N 50 st left μ = _ := nextRow_5 (N := N) (st := st) (left := (left : Int)) hr.1 (by omega) (by omega) hK hR r.length N 0 (by omega) (by omega)
    by_cases leafc : n = 0 ∨ st ≤ lsum r
    · have hd : dsc n (st - lsum r) = [] := by
        cases n with
        | zero => rfl
        | succ n =>
          have : st ≤ lsum r := by rcases leafc with z | z <;> omega
          unfold dsc
          rw [if_pos (by omega)]
      refine ⟨N, μ, by omega, ?_, by rw [hd]; simpa using hI, hR⟩
      rw [hd, List.length_nil, Nat.add_zero, H.1 k V μ hI, nr]
      unfold PF
      by_cases c : (left : Int) ≤ r.length
      · rw [if_pos c]
      · rw [if_neg c, if_pos (by rcases leafc with z | z <;> omega)]
    · cases n with
      | zero => exact absurd (Or.inl rfl) leafc
      | succ n =>
        have hlt : lsum r < st := by
          by_cases c : lsum r < st
          · exact c
          · exact absurd (Or.inr (by omega)) leafc
        let μ0 := m_st (m_st μ 97 r.length 0) 50 74 (r.length + 1)
        have f0 : Fr [97] [(50, 74)] μ μ0 := Fr.stI (Fr.stI (Fr.rf0 _ _ _) (by simp)) (by simp)
        have R0 : ROW (r ++ [0]) μ0 := hR.push 0
        have hv0 : rv st left (r ++ [0]) := ⟨fun x hx => by
          rcases List.mem_append.mp hx with z | z
          · exact hr.1 x z
          · rw [List.mem_singleton.mp z]; omega, by rw [lsum_app]; simp [lsum]; omega, by simp; omega⟩
        have ed : dsc (n + 1) (st - lsum r) = [0] :: ((dsc n (st - lsum r - 0)).map (0 :: ·) ++ (iot (st - lsum r).toNat (0 + 1)).flatMap (fun u => [u] :: (dsc n (st - lsum r - u)).map (u :: ·))) := by
          rw [dsc, if_neg (by omega), upto_iot, iot, List.flatMap_cons]
          rfl
        have edm : (dsc (n + 1) (st - lsum r)).map (r ++ ·) = (r ++ [0]) :: ((dsc n (st - lsum r - 0)).map (fun d => r ++ 0 :: d) ++ (iot (st - lsum r).toNat (0 + 1)).flatMap (fun u => (r ++ [u]) :: (dsc n (st - lsum r - u)).map (fun d => r ++ u :: d))) := by
          rw [ed, List.map_cons, List.map_append, List.map_map, List.map_flatMap]
          congr 2
          congr 1
          funext u
          rw [List.map_cons, List.map_map]
          rfl
        have elen : (dsc (n + 1) (st - lsum r)).length = 1 + ((dsc n (st - lsum r - 0)).map (fun d => r ++ 0 :: d) ++ (iot (st - lsum r).toNat (0 + 1)).flatMap (fun u => (r ++ [u]) :: (dsc n (st - lsum r - u)).map (fun d => r ++ u :: d))).length := by
          have := congrArg List.length edm
          rw [List.length_map, List.length_cons] at this
          omega
        obtain ⟨μ1, b1, b2', b3⟩ := H.2.2.2 (F (k + (dsc (n + 1) (st - lsum r)).length)) V (r ++ [0]) μ0 (by simp) hv0 (H.2.2.1 _ _ _ hI f0) R0
        obtain ⟨m, μ2, c1, c2, c3, c4⟩ := trav_t hN hst hleft H hn hr (fun r' V' k' μ' a1 a2 a3 a4 => trav hN hst hleft H n r' V' k' μ' a1 a2 a3 a4) (st - lsum r).toNat 0 (V ++ [r ++ [0]]) k μ1 (by omega) (by omega) b2' b3
        refine ⟨m, μ2, c1, ?_, ?_, c4⟩
        · rw [H.1 _ V μ hI, nr, if_neg (by omega), if_neg (by omega), b2_e, if_neg (by decide)]
          show Bd (F (k + (dsc (n + 1) (st - lsum r)).length)) μ0 = _
          rw [b1, ← c2, elen]
          congr 1
          omega
        · rw [edm]
          simpa [List.append_assoc] using c3
/-- all rows, from none on -/
theorem rows_M {τ : Type} {N : Nat} (hN : 1000000 ≤ N) {st : Int} {left : Nat} (h0 : 0 ≤ st) (hst : st ≤ 9) (hleft : left ≤ 3) {F : Nat → Mm → Option τ} {E : Mm → Option τ} {Bd : (Mm → Option τ) → Mm → Option τ} {Inv : List (List Int) → Mm → Prop} (H : RLp N st left F E Bd Inv) {μ : Mm} (hI : Inv [] μ) (hR : ROW [] μ) : ∃ μ', F N μ = E μ' ∧ Inv (dsc left st) μ' := by
  have hl := dsc_len left st hst
  have h20 : 20 ^ left ≤ 20 ^ 3 := Nat.pow_le_pow_right (by decide) hleft
  obtain ⟨m, μ', a1, a2, a3, a4⟩ := trav hN hst hleft H left [] [] (N - (dsc left st).length - 1) μ (by simp) ⟨fun x hx => absurd hx (by simp), by simpa [lsum] using h0, by simp⟩ hI hR
  have e0 : st - lsum [] = st := by simp [lsum]
  rw [e0] at a2 a3
  rw [show N - (dsc left st).length - 1 + (dsc left st).length + 1 = N by omega] at a2
  obtain ⟨m', rfl⟩ : ∃ m', m = m' + 1 := ⟨m - 1, by simp at a1; omega⟩
  refine ⟨μ', ?_, by simpa using a3⟩
  rw [a2]
  unfold PF
  rw [pop_nil a4, b2_e, if_pos rfl]
