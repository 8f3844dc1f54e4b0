/-! ===== PURE: the class reckons tokens ===== -/
def tX (t : Int) : Int := if t = -7 then 1 else t
/-- a Code object at c: its rows behind it -/
def CK (μ : Mm) (c : Int) : Prop := m_kd μ c = (0, 0) ∧ m_kd μ (c + 1) = (100, 700) ∧ m_kd μ (c + 2) = (100, 7) ∧ m_kd μ (c + 3) = (100, 64) ∧ m_gt μ c 0 = c + 1 ∧ m_gt μ c 2 = c + 2 ∧ m_gt μ c 3 = c + 3
theorem CK.of {μ : Mm} (h : KR μ) {c : Int} (hc : c = 3 ∨ c = 14) : CK μ c := by
  rcases hc with rfl | rfl
  · exact ⟨k_3 h, k_4 h, k_5 h, k_6 h, r_3_0 h, r_3_2 h, r_3_3 h⟩
  · exact ⟨k_14 h, k_15 h, k_16 h, k_17 h, r_14_0 h, r_14_2 h, r_14_3 h⟩
theorem CK.fr {μ μ' : Mm} {c : Int} (h : CK μ c) (f : Fr [c + 3] [(c, 4)] μ μ') : CK μ' c := by
  obtain ⟨h1, h2, h3, h4, h5, h6, h7⟩ := h
  have g : ∀ i : Int, i ≠ 4 → m_gt μ' c i = m_gt μ c i := fun i hi => f.2.2 c i (by simp <;> omega) (by simp [hi])
  exact ⟨by rw [f.kd]; exact h1, by rw [f.kd]; exact h2, by rw [f.kd]; exact h3, by rw [f.kd]; exact h4, by rw [g 0 (by decide)]; exact h5, by rw [g 2 (by decide)]; exact h6, by rw [g 3 (by decide)]; exact h7⟩
def StkX (c : Int) (st : List Int) (μ : Mm) : Prop := m_gt μ c 4 = st.length ∧ Row μ (c + 3) 0 st.reverse
theorem pushX {N : Nat} {c v : Int} {st : List Int} {μ : Mm} (hc : CK μ c) (h : StkX c st μ) (hl : st.length < 64) : ∃ μ', jX0_push N c v μ = some μ' ∧ StkX c (v :: st) μ' ∧ Fr [c + 3] [(c, 4)] μ μ' := by
  obtain ⟨h1, h2, h3, h4, h5, h6, h7⟩ := hc
  refine ⟨m_st (m_st μ (c + 3) st.length v) c 4 (st.length + 1), ?_, ⟨?_, ?_⟩, ((Fr.sa μ (c + 3) st.length v).tr (Fr.st _ c 4 _)).mono (by simp) (by simp)⟩
  · unfold jX0_push
    rw [h7, len_e h4 (by omega) (by omega), ob_e, h.1, if_neg (by omega), ast_e h4 (by omega) (by omega), ob_e, bnd_e, gt_r _ _ _ _ (by omega), h.1, i_add_e (by omega) (by omega)]
    rfl
  · rw [gt_same]; simp
  · have hr := Row.push h.2 v
    rw [List.length_reverse, Int.zero_add] at hr
    rw [List.reverse_cons]
    exact hr.fr (Fr.st _ c 4 _) (by simp) (fun q hq => by rw [List.mem_singleton.mp hq]; show c ≠ c + 3; omega)
theorem popX {N : Nat} {c v : Int} {st : List Int} {μ : Mm} (hc : CK μ c) (h : StkX c (v :: st) μ) (hl : st.length < 64) : ∃ μ', jX0_pop N c μ = some (v, μ') ∧ StkX c st μ' ∧ Fr [c + 3] [(c, 4)] μ μ' := by
  obtain ⟨h1, h2, h3, h4, h5, h6, h7⟩ := hc
  have e := h.1
  rw [List.length_cons] at e
  have hr := h.2
  rw [List.reverse_cons] at hr
  refine ⟨m_st μ c 4 st.length, ?_, ⟨?_, ?_⟩, (Fr.st μ c 4 _).mono (by simp) (by simp)⟩
  · unfold jX0_pop
    rw [e, if_neg (by omega), h7, len_e h4 (by omega) (by omega), ob_e, if_pos (by omega), bnd_e, i_sub_e (by omega) (by omega), show ((st.length + 1 : Nat) : Int) - 1 = st.length by omega, gt_same, gt_i _ _ _ (by decide), h7, ald_e (c := 100) (n := 64) (by rw [m_kd_st]; exact h4) (by omega) (by omega), ob_e, gt_r _ _ _ _ (by omega)]
    have := hr st.length (by simp)
    rw [Int.zero_add] at this
    rw [this]
    simp
  · rw [gt_same]
  · have h9 := hr.take st.length
    rw [List.take_left' (by simp)] at h9
    exact h9.fr (Fr.st _ c 4 _) (by simp) (fun q hq => by rw [List.mem_singleton.mp hq]; show c ≠ c + 3; omega)
theorem within_X {N : Nat} {a x b : Int} {μ : Mm} : jX7_within N a x b μ = some (i_max a (i_min b x), μ) := rfl
theorem clp_X (x : Int) : i_max (-1000000) (i_min 1000000 x) = clp x := by unfold i_max i_min clp; repeat' split <;> omega
theorem xor_sign {a b : Int} (ha : okI a) (hb : okI b) : (0 ≤ i_xor a b) ↔ ((a < 0) ↔ (b < 0)) := by
  unfold i_xor
  have sg : ∀ x : Int32, (0 ≤ x.toInt) ↔ x.toBitVec.msb = false := by
    intro x
    show (0 ≤ x.toBitVec.toInt) ↔ _
    rw [BitVec.msb_eq_toInt]
    simp
  rw [sg, Int32.toBitVec_xor, BitVec.msb_xor]
  have e1 := sg (Int32.ofInt a)
  have e2 := sg (Int32.ofInt b)
  rw [toI ha] at e1
  rw [toI hb] at e2
  cases h1 : (Int32.ofInt a).toBitVec.msb <;> cases h2 : (Int32.ofInt b).toBitVec.msb <;> rw [h1] at e1 <;> rw [h2] at e2 <;> simp at e1 e2 ⊢ <;> omega
theorem td_ok {a b : Int} (h1 : -1000000 ≤ a) (h2 : a ≤ 1000000) : -1000000 ≤ a.tdiv b ∧ a.tdiv b ≤ 1000000 := by
  have h := Int.natAbs_tdiv_le_natAbs a b
  omega
theorem mul_td {a b : Int} (h1 : -1000000 ≤ a) (h2 : a ≤ 1000000) : -1000000 ≤ b * a.tdiv b ∧ b * a.tdiv b ≤ 1000000 := by
  have h3 := Int.mul_tdiv_add_tmod a b
  have h4 := Int.natAbs_tmod a b
  have h5 : a.natAbs % b.natAbs ≤ a.natAbs := Nat.mod_le _ _
  have h6 : 0 ≤ a → 0 ≤ a.tmod b := fun h => Int.tmod_nonneg b h
  have h7 : a ≤ 0 → a.tmod b ≤ 0 := fun h => by
    have := Int.tmod_nonneg b (show 0 ≤ -a by omega)
    rw [Int.neg_tmod] at this
    omega
  generalize b * a.tdiv b = P at *
  generalize a.tmod b = r at *
  rcases Int.le_total 0 a with h0 | h0
  · have := h6 h0; omega
  · have := h7 h0; omega
theorem fdiv_X {N : Nat} {a b : Int} {μ : Mm} (hb : b ≠ 0) (h1 : -1000000 ≤ a) (h2 : a ≤ 1000000) (h3 : -1000000 ≤ b) (h4 : b ≤ 1000000) : jJ9_floorDiv_7cf53 N a b μ = some (fd a b, μ) := by
  unfold jJ9_floorDiv_7cf53
  have oa : okI a := ⟨by omega, by omega⟩
  have ob : okI b := ⟨by omega, by omega⟩
  have hq : i_div a b = a.tdiv b := by
    unfold i_div
    rw [Int32.toInt_div_of_ne_left _ _ (fun q => by have := toI oa; rw [q] at this; have e : Int32.minValue.toInt = -2147483648 := rfl; rw [e] at this; omega), toI oa, toI ob]
  have hq2 := td_ok (b := b) h1 h2
  have hm := mul_td (b := b) h1 h2
  rw [n_e hb, bnd_e, hq, i_mul_e (by rw [Int.mul_comm]; omega) (by rw [Int.mul_comm]; omega), i_sub_e (by omega) (by omega), fd_e hb, Int.mul_comm]
  have h5 := Int.mul_tdiv_add_tmod a b
  by_cases c1 : (a < 0) ↔ (b < 0)
  · rw [if_pos ((xor_sign oa ob).mpr c1), if_neg (fun z => z.2 c1)]; rfl
  · rw [if_neg (fun z => c1 ((xor_sign oa ob).mp z))]
    by_cases c2 : b * a.tdiv b = a
    · rw [if_pos c2, if_neg (fun z => z.1 (by omega))]; rfl
    · rw [if_neg c2, if_pos ⟨by omega, c1⟩]
theorem opv_11 (a b : Int) : opv (-11) a b = clp (a + b) := by unfold opv; rw [if_pos rfl]
theorem opv_12 (a b : Int) : opv (-12) a b = clp (a - b) := by unfold opv; rw [if_neg (by decide), if_pos rfl]
theorem opv_13 (a b : Int) : opv (-13) a b = clp (a * b) := by unfold opv; rw [if_neg (by decide), if_neg (by decide), if_pos rfl]
theorem opv_14 (a b : Int) : opv (-14) a b = fd a b := by unfold opv; rw [if_neg (by decide), if_neg (by decide), if_neg (by decide), if_pos rfl]
theorem opv_15 (a b : Int) : opv (-15) a b = (if b < a then b else a) := by unfold opv; rw [if_neg (by decide), if_neg (by decide), if_neg (by decide), if_neg (by decide), if_pos rfl]
theorem opv_16 (a b : Int) : opv (-16) a b = (if a < b then b else a) := by unfold opv; rw [if_neg (by decide), if_neg (by decide), if_neg (by decide), if_neg (by decide), if_neg (by decide), if_pos rfl]
theorem opv_17 (a b : Int) : opv (-17) a b = (if a < b then 1 else 0) := by unfold opv; rw [if_neg (by decide), if_neg (by decide), if_neg (by decide), if_neg (by decide), if_neg (by decide), if_neg (by decide), if_pos rfl]
theorem opv_18 (a b : Int) : opv (-18) a b = (if b < a then 1 else 0) := by unfold opv; rw [if_neg (by decide), if_neg (by decide), if_neg (by decide), if_neg (by decide), if_neg (by decide), if_neg (by decide), if_neg (by decide), if_pos rfl]
theorem opv_19 (a b : Int) : opv (-19) a b = (if a = b then 1 else 0) := by unfold opv; rw [if_neg (by decide), if_neg (by decide), if_neg (by decide), if_neg (by decide), if_neg (by decide), if_neg (by decide), if_neg (by decide), if_neg (by decide), if_pos rfl]
theorem opv_20 (a b : Int) : opv (-20) a b = (if a = 1 ∧ b = 1 then 1 else 0) := by unfold opv; rw [if_neg (by decide), if_neg (by decide), if_neg (by decide), if_neg (by decide), if_neg (by decide), if_neg (by decide), if_neg (by decide), if_neg (by decide), if_neg (by decide), if_pos rfl]
theorem opv_21 (a b : Int) : opv (-21) a b = (if a = 0 ∧ b = 0 then 0 else 1) := by unfold opv; rw [if_neg (by decide), if_neg (by decide), if_neg (by decide), if_neg (by decide), if_neg (by decide), if_neg (by decide), if_neg (by decide), if_neg (by decide), if_neg (by decide), if_neg (by decide)]
theorem join_X {N : Nat} {t a b : Int} {μ : Mm} (ht1 : -21 ≤ t) (ht2 : t ≤ -11) (ha1 : -1000000 ≤ a) (ha2 : a ≤ 1000000) (hb1 : -1000000 ≤ b) (hb2 : b ≤ 1000000) (hb : t ≤ -20 → (a = 0 ∨ a = 1) ∧ (b = 0 ∨ b = 1)) : jX0_join N t a b μ = some (opv t a b, μ) := by
  unfold jX0_join
  by_cases c : t = -20
  · subst c
    rw [if_pos rfl, opv_20]
    obtain ⟨h1 | h1, h2 | h2⟩ := hb (by omega) <;> subst h1 <;> subst h2 <;> rfl
  rw [if_neg c]
  by_cases c : t = -19
  · subst c
    rw [if_pos rfl, opv_19]
    by_cases q : a = b
    · rw [if_neg (fun z => z q), if_pos q, jX0_join_155]
    · rw [if_pos q, if_neg q, jX0_join_155]
  rw [if_neg c]
  by_cases c : t = -18
  · subst c
    rw [if_pos rfl, opv_18]
    by_cases q : b < a
    · rw [if_neg (by omega), if_pos q, jX0_join_144]
    · rw [if_pos (by omega), if_neg q, jX0_join_144]
  rw [if_neg c]
  by_cases c : t = -17
  · subst c
    rw [if_pos rfl, opv_17]
    by_cases q : a < b
    · rw [if_neg (by omega), if_pos q, jX0_join_133]
    · rw [if_pos (by omega), if_neg q, jX0_join_133]
  rw [if_neg c]
  by_cases c : t = -16
  · subst c; rw [if_pos rfl, opv_16, i_max]
  rw [if_neg c]
  by_cases c : t = -15
  · subst c; rw [if_pos rfl, opv_15, i_min]
  rw [if_neg c]
  by_cases c : t = -14
  · subst c
    rw [if_pos rfl, opv_14]
    by_cases q : b = 0
    · rw [if_neg (fun z => z q), fd, if_pos q, jX0_join_110]
    · rw [if_pos q, fdiv_X q ha1 ha2 hb1 hb2, b2_e, jX0_join_110]
  rw [if_neg c]
  have hab : -1000000000000 ≤ a * b ∧ a * b ≤ 1000000000000 := by
    have h1 : (a * b).natAbs ≤ 1000000 * 1000000 := by
      rw [Int.natAbs_mul]
      exact Nat.mul_le_mul (by omega) (by omega)
    omega
  by_cases c : t = -13
  · subst c
    have e : l_max (-1000000) (l_min 1000000 (a * b)) = clp (a * b) := by unfold l_max l_min clp; repeat' split <;> omega
    have hk := clp_ok (a * b)
    rw [if_pos rfl, i_2l_e (by omega) (by omega), i_2l_e (by omega) (by omega), l_mul_e (by omega) (by omega), e, l_2i_e (by omega) (by omega), opv_13]
  rw [if_neg c]
  by_cases c : t = -12
  · subst c
    rw [if_pos rfl, i_sub_e (by omega) (by omega), within_X, b2_e, clp_X, opv_12]
  rw [if_neg c]
  by_cases c : t = -11
  · subst c
    rw [if_pos rfl, i_add_e (by omega) (by omega), within_X, b2_e, clp_X, opv_11]
  rw [if_neg c]
  have : t = -21 := by omega
  subst this
  rw [opv_21]
  obtain ⟨h1 | h1, h2 | h2⟩ := hb (by omega) <;> subst h1 <;> subst h2 <;> rfl
/-- one token on the class's stack -/
theorem step_X {N : Nat} {c t : Int} {env : Int → Int} {st : List Int} {ts ts' : List Bool} {μ : Mm} (hc : CK μ c) (he : ∀ k, -6 ≤ k → k ≤ -1 → m_gt μ (c + 2) (-k) = env k) (h : StkX c st μ) (hs : okst st ts) (hl : ts.length ≤ 60) (hk : ck1 ts t = some ts') : ∃ μ', jX0_step N c (tX t) μ = some μ' ∧ StkX c (stp env st t) μ' ∧ Fr [c + 3] [(c, 4)] μ μ' := by
  have hlen := okst_len hs
  unfold ck1 at hk
  unfold stp
  by_cases c0 : 0 ≤ t
  · rw [if_pos c0] at hk ⊢
    obtain ⟨μ', e1, e2, e3⟩ := pushX (N := N) (v := t) hc h (by omega)
    refine ⟨μ', ?_, e2, e3⟩
    unfold jX0_step tX
    rw [if_neg (show ¬ t = -7 by omega), if_neg (by omega), e1]
    rfl
  rw [if_neg c0] at hk ⊢
  by_cases c7 : t = -7
  · rw [if_pos c7] at hk ⊢
    obtain ⟨μ', e1, e2, e3⟩ := pushX (N := N) (v := 1) hc h (by omega)
    refine ⟨μ', ?_, e2, e3⟩
    unfold jX0_step tX
    rw [if_pos c7, if_neg (by omega), e1]
    rfl
  rw [if_neg c7] at hk ⊢
  have htX : tX t = t := if_neg c7
  rw [htX]
  by_cases c6 : -6 ≤ t
  · rw [if_pos c6] at hk ⊢
    obtain ⟨μ', e1, e2, e3⟩ := pushX (N := N) (v := env t) hc h (by omega)
    refine ⟨μ', ?_, e2, e3⟩
    unfold jX0_step
    rw [if_pos (by omega), if_neg (by omega), hc.2.2.2.2.2.1, i_neg_e (by omega) (by omega), ald_e hc.2.2.1 (by omega) (by omega), ob_e, he t c6 (by omega), e1]
    rfl
  rw [if_neg c6] at hk ⊢
  by_cases c22 : t = -22
  · rw [if_pos c22] at hk ⊢
    split at hk
    · cases hk
      cases st with
      | nil => exact hs.elim
      | cons v st =>
        have hv := hs.1.2.2 rfl
        rw [List.length_cons] at hlen
        obtain ⟨μ1, e1, e2, e3⟩ := popX (N := N) hc h (by omega)
        obtain ⟨μ2, e4, e5, e6⟩ := pushX (N := N) (v := 1 - v) (hc.fr e3) e2 (by omega)
        refine ⟨μ2, ?_, e5, (e3.tr e6).mono (by simp) (by simp)⟩
        unfold jX0_step
        rw [if_pos (by omega), if_pos (by omega), if_neg (fun z => z c22), e1, b2_e, i_sub_e (by omega) (by omega), e4]
        rfl
    · cases hk
  rw [if_neg c22] at hk ⊢
  have two : ∀ {b1 b2 : Bool} {r : List Bool}, ts = b1 :: b2 :: r → (-21 ≤ t ∧ t ≤ -11) → (t ≤ -20 → b1 = true ∧ b2 = true) → ∃ μ', jX0_step N c t μ = some μ' ∧ StkX c (opv t (st.tail.headD 0) (st.headD 0) :: st.tail.tail) μ' ∧ Fr [c + 3] [(c, 4)] μ μ' := by
    intro b1 b2 r hts htr hbb
    subst hts
    match st, hs, h, hlen with
    | y :: x :: st2, hs, h, hlen =>
      simp only [List.length_cons] at hlen hl
      obtain ⟨μ1, e1, e2, e3⟩ := popX (N := N) hc h (by simp <;> omega)
      obtain ⟨μ2, e4, e5, e6⟩ := popX (N := N) (hc.fr e3) e2 (by omega)
      obtain ⟨μ3, e7, e8, e9⟩ := pushX (N := N) (v := opv t x y) ((hc.fr e3).fr e6) e5 (by omega)
      refine ⟨μ3, ?_, e8, ((e3.tr e6).tr e9).mono (by simp) (by simp)⟩
      unfold jX0_step
      rw [if_pos (by omega), if_pos (by omega), if_pos c22, e1, b2_e, e4, b2_e, join_X htr.1 htr.2 hs.2.1.1 hs.2.1.2.1 hs.1.1 hs.1.2.1 (fun z => ⟨hs.2.1.2.2 (hbb z).2, hs.1.2.2 (hbb z).1⟩), b2_e, e7]
      rfl
    | [_], hs, _, _ => exact hs.2.elim
    | [], hs, _, _ => exact hs.elim
  by_cases ca : -16 ≤ t ∧ t ≤ -11
  · rw [if_pos ca] at hk
    split at hk
    · exact two rfl (by omega) (fun z => by omega)
    · cases hk
  rw [if_neg ca] at hk
  by_cases cb : -19 ≤ t ∧ t ≤ -17
  · rw [if_pos cb] at hk
    split at hk
    · exact two rfl (by omega) (fun z => by omega)
    · cases hk
  rw [if_neg cb] at hk
  by_cases cc : -21 ≤ t ∧ t ≤ -20
  · rw [if_pos cc] at hk
    split at hk
    · exact two rfl (by omega) (fun z => ⟨rfl, rfl⟩)
    · cases hk
  · rw [if_neg cc] at hk; cases hk
def slc (C : List Int) (i j : Nat) : List Int := (C.drop i).take (j - i)
theorem slc_cons {C : List Int} {i j : Nat} (h1 : i < j) (h2 : j ≤ C.length) : slc C i j = C.getD i 0 :: slc C (i + 1) j := by
  unfold slc
  have hi : i < C.length := by omega
  rw [List.drop_eq_getElem_cons hi, show j - i = (j - (i + 1)) + 1 by omega, List.take_succ_cons, List.getD_eq_getElem?_getD, List.getElem?_eq_getElem hi]
  rfl
theorem slc_nil (C : List Int) (i : Nat) : slc C i i = [] := by unfold slc; rw [Nat.sub_self]; rfl
theorem reckon_loop {N : Nat} {c : Int} {env : Int → Int} (he : oke env) {C : List Int} {j : Nat} (hj : j ≤ C.length) (hC : C.length ≤ 700) : ∀ (k n p : Nat) {st : List Int} {ts : List Bool} {ty : Bool} {μ : Mm}, p + k = j → k < n → CK μ c → m_gt μ c 1 = C.length → Row μ (c + 1) 0 (C.map tX) → (∀ k, -6 ≤ k → k ≤ -1 → m_gt μ (c + 2) (-k) = env k) → StkX c st μ → okst st ts → ts.length ≤ 60 → ck ts (slc C p j) = some [ty] → ∃ μ', jX0_reckon_11 N n c j p μ = some ((run env st (slc C p j)).headD 0, μ') ∧ okst (run env st (slc C p j)) [ty] ∧ Fr [c + 3] [(c, 4)] μ μ'
  | 0, n + 1, p, st, ts, ty, μ, hp, hn, hc, hz, hr, hE, hS, ho, hl, hk => by
    have : p = j := by omega
    subst this
    rw [slc_nil] at hk ⊢
    cases hk
    match st, ho, hS with
    | [v], ho, hS =>
      obtain ⟨μ', e1, e2, e3⟩ := popX (N := N) hc hS (by simp)
      refine ⟨μ', ?_, ho, e3⟩
      show jX0_reckon_11b _ _ _ _ _ _ = _
      unfold jX0_reckon_11b
      rw [if_pos (by omega)]
      unfold jX0_reckon_40
      rw [e1]
      rfl
    | _ :: _ :: _, ho, _ => exact ho.2.elim
    | [], ho, _ => exact ho.elim
  | k + 1, n + 1, p, st, ts, ty, μ, hp, hn, hc, hz, hr, hE, hS, ho, hl, hk => by
    rw [slc_cons (by omega) hj] at hk ⊢
    generalize ht : C.getD p 0 = t at hk ⊢
    have hk' : (ck1 ts t).bind (fun ts' => ck ts' (slc C (p + 1) j)) = some [ty] := hk
    cases h1 : ck1 ts t with
    | none => rw [h1] at hk'; cases hk'
    | some ts' =>
      rw [h1] at hk'
      obtain ⟨μ1, e1, e2, e3⟩ := step_X (N := N) hc hE hS ho hl h1
      have g1 : ∀ r i, r ≠ c + 3 → r ≠ c → m_gt μ1 r i = m_gt μ r i := fun r i a b => e3.2.2 r i (by simp [a]) (by simp [b])
      have hz1 : m_gt μ1 c 1 = C.length := by rw [e3.2.2 c 1 (by simp <;> omega) (by simp)]; exact hz
      have hr1 : Row μ1 (c + 1) 0 (C.map tX) := hr.fr e3 (by simp <;> omega) (fun q hq => by rw [List.mem_singleton.mp hq]; show c ≠ c + 1; omega)
      have hE1 : ∀ k, -6 ≤ k → k ≤ -1 → m_gt μ1 (c + 2) (-k) = env k := fun k a b => by rw [g1 _ _ (by omega) (by omega)]; exact hE k a b
      have hl1 : ts'.length ≤ 60 := by rcases ck1_len h1 with z | z <;> omega
      obtain ⟨μ2, f1, f2, f3⟩ := reckon_loop he hj hC k n (p + 1) (by omega) (by omega) (hc.fr e3) hz1 hr1 hE1 e2 (stp_ok he ho h1) hl1 hk'
      refine ⟨μ2, ?_, f2, (e3.tr f3).mono (by simp) (by simp)⟩
      show jX0_reckon_11b _ _ _ _ _ _ = _
      unfold jX0_reckon_11b
      have hget : m_gt μ (c + 1) (p : Int) = tX t := by
        have := hr p (by simp <;> omega)
        rw [Int.zero_add] at this
        rw [this, ← ht]
        simp [List.getD_eq_getElem?_getD, show p < C.length by omega]
      rw [if_neg (by omega), hz, if_neg (by omega), hc.2.2.2.2.1, ald_e hc.2.1 (by omega) (by omega), ob_e, hget, e1, ob_e, bnd_e, i_add_e (by omega) (by omega)]
      exact f1
  | _ + 1, 0, _, _, _, _, _, _, hn, _, _, _, _, _, _, _, _ => absurd hn (by omega)
  | 0, 0, _, _, _, _, _, _, hn, _, _, _, _, _, _, _, _ => absurd hn (by omega)
/-- a stretch of good tokens, as the class reckons it -/
theorem reckon_X {N : Nat} (hN : 1000000 ≤ N) {c : Int} {env : Int → Int} (he : oke env) {C : List Int} {i j : Nat} (hij : i ≤ j) (hj : j ≤ C.length) (hC : C.length ≤ 700) {ty : Bool} {μ : Mm} (hc : CK μ c) (hz : m_gt μ c 1 = C.length) (hr : Row μ (c + 1) 0 (C.map tX)) (hE : ∀ k, -6 ≤ k → k ≤ -1 → m_gt μ (c + 2) (-k) = env k) (hk : ck [] (slc C i j) = some [ty]) : ∃ μ', jX0_reckon N c i j μ = some (ev env (slc C i j), μ') ∧ okst (run env [] (slc C i j)) [ty] ∧ Fr [c + 3] [(c, 4)] μ μ' := by
  have f0 := (Fr.st μ c 4 0).mono (i2 := [c + 3]) (s2 := [(c, 4)]) (by simp) (by simp)
  have hS : StkX c [] (m_st μ c 4 0) := ⟨gt_same _ _ _ _, Row.nil _ _ _⟩
  have hz1 : m_gt (m_st μ c 4 0) c 1 = C.length := by rw [gt_i _ _ _ (by decide)]; exact hz
  have hr1 := hr.fr f0 (by simp <;> omega) (fun q hq => by rw [List.mem_singleton.mp hq]; show c ≠ c + 1; omega)
  have hE1 : ∀ k, -6 ≤ k → k ≤ -1 → m_gt (m_st μ c 4 0) (c + 2) (-k) = env k := fun k a b => by rw [gt_r _ _ _ _ (by omega)]; exact hE k a b
  obtain ⟨μ', e1, e2, e3⟩ := reckon_loop (N := N) he hj hC (j - i) N i (by omega) (by omega) (hc.fr f0) hz1 hr1 hE1 hS (ts := []) trivial (by simp) hk
  refine ⟨μ', ?_, e2, (f0.tr e3).mono (by simp) (by simp)⟩
  unfold jX0_reckon
  rw [bnd_e, bnd_e, show i_max (i : Int) 0 = i by unfold i_max; split <;> omega]
  exact e1
/-- an empty stretch is 0 -/
theorem reckon_0 {N : Nat} (hN : 1000000 ≤ N) {c i : Int} (hi : 0 ≤ i) {μ : Mm} : jX0_reckon N c i i μ = some (0, m_st μ c 4 0) := by
  obtain ⟨n, rfl⟩ : ∃ n, N = n + 1 := ⟨N - 1, by omega⟩
  unfold jX0_reckon
  rw [bnd_e, bnd_e, show i_max i 0 = i by unfold i_max; split <;> omega]
  show jX0_reckon_11b _ _ _ _ _ _ = _
  unfold jX0_reckon_11b
  rw [if_pos (by omega)]
  unfold jX0_reckon_40 jX0_pop jX0_pop_19
  rw [gt_same, if_pos (by omega), b2_e]
