/-! ===== PURE: the reference reckons tokens ===== -/
def tM (t : Int) : Int := if 0 ≤ t then 1000 + t else if t = -7 then 17 else if t = -1 then 7 else if t = -2 then 8 else if t = -3 then 9 else if t = -4 then 10 else if t = -5 then 18 else if t = -6 then 30 else if t = -22 then 16 else if -16 ≤ t then -10 - t else -6 - t
def StkM (st : List Int) (μ : Mm) : Prop := m_gt μ 50 51 = st.length ∧ Row μ 88 0 st.reverse
theorem putsM {N : Nat} {v : Int} {st : List Int} {μ : Mm} (hK : KR μ) (h : StkM st μ) (hl : st.length < 700) : ∃ μ', jX8_puts N 50 v μ = some μ' ∧ StkM (v :: st) μ' ∧ Fr [88] [(50, 51)] μ μ' := by
  refine ⟨m_st (m_st μ 88 st.length v) 50 51 (st.length + 1), ?_, ⟨?_, ?_⟩, ((Fr.sa μ 88 st.length v).tr (Fr.st _ 50 51 _)).mono (by decide) (by decide)⟩
  · unfold jX8_puts
    rw [r_50_50 hK, h.1, ast_e (k_88 hK) (by omega) (by omega), ob_e, bnd_e, gt_r _ _ _ _ (by decide), h.1, i_add_e (by omega) (by omega)]
  · rw [gt_same]; simp
  · have hr := Row.push h.2 v
    rw [List.length_reverse, Int.zero_add] at hr
    rw [List.reverse_cons]
    exact hr.fr (Fr.st _ 50 51 _) (by decide) (fun q hq => by rw [List.mem_singleton.mp hq]; decide)
theorem StkM.drop {v : Int} {st : List Int} {μ : Mm} (h : StkM (v :: st) μ) : StkM st (m_st μ 50 51 st.length) ∧ m_gt μ 88 st.length = v := by
  have hr := h.2
  rw [List.reverse_cons] at hr
  refine ⟨⟨gt_same _ _ _ _, ?_⟩, ?_⟩
  · have h9 := hr.take st.length
    rw [List.take_left' (by simp)] at h9
    exact h9.fr (Fr.st _ 50 51 _) (by decide) (fun q hq => by rw [List.mem_singleton.mp hq]; decide)
  · have := hr st.length (by simp)
    rw [Int.zero_add] at this
    rw [this]
    simp
theorem clip_M {N : Nat} {x : Int} {μ : Mm} : jX8_clip N x μ = some (clp x, μ) := by
  unfold jX8_clip clp
  simp only [l_cmp_le0, l_cmp_ge0]
  by_cases c1 : x ≤ 1000000
  · rw [if_pos c1, if_neg (show ¬ x > 1000000 by omega)]
    by_cases c2 : -1000000 ≤ x
    · rw [if_pos c2, if_neg (show ¬ x < -1000000 by omega)]; rfl
    · rw [if_neg c2, if_pos (show x < -1000000 by omega)]; rfl
  · rw [if_neg c1, if_pos (show x > 1000000 by omega)]; rfl
theorem l_div_e {x y : Int} (hx1 : -1000000 ≤ x) (hx2 : x ≤ 1000000) (hy1 : -1000000 ≤ y) (hy2 : y ≤ 1000000) : l_div x y = x.tdiv y := by
  unfold l_div
  have ox : okJ x := ⟨by omega, by omega⟩
  have oy : okJ y := ⟨by omega, by omega⟩
  rw [Int64.toInt_div_of_ne_left _ _ (fun q => by have := toJ ox; rw [q] at this; have e : Int64.minValue.toInt = -9223372036854775808 := rfl; rw [e] at this; omega), toJ ox, toJ oy]
theorem l_rem_e {x y : Int} (hx1 : -1000000 ≤ x) (hx2 : x ≤ 1000000) (hy1 : -1000000 ≤ y) (hy2 : y ≤ 1000000) : l_rem x y = x.tmod y := by
  unfold l_rem
  have ox : okJ x := ⟨by omega, by omega⟩
  have oy : okJ y := ⟨by omega, by omega⟩
  rw [Int64.toInt_sub, Int64.toInt_mul, Int64.toInt_div, toJ ox, toJ oy]
  simp only [Int.bmod_mul_bmod, Int.sub_bmod_bmod]
  have e : x - x.tdiv y * y = x.tmod y := by
    have := Int.mul_tdiv_add_tmod x y
    rw [Int.mul_comm] at this
    omega
  have hm := mul_td (b := y) hx1 hx2
  have h3 := Int.mul_tdiv_add_tmod x y
  rw [e]
  exact bm64 (by omega) (by omega)
theorem floor_M {N : Nat} {a b : Int} {μ : Mm} (h1 : -1000000 ≤ a) (h2 : a ≤ 1000000) (h3 : -1000000 ≤ b) (h4 : b ≤ 1000000) : jX8_floor N a b μ = some (fd a b, μ) := by
  unfold jX8_floor
  simp only [l_cmp_eq0]
  by_cases hb : b = 0
  · rw [if_neg (fun z => z hb), fd, if_pos hb]
  · have hq2 := td_ok (b := b) h1 h2
    rw [if_pos hb, n_e hb, bnd_e, n_e hb, l_div_e h1 h2 h3 h4, l_rem_e h1 h2 h3 h4, fd_e hb]
    by_cases c1 : a.tmod b = 0
    · rw [if_pos c1, if_neg (fun z => z.1 c1)]; rfl
    · rw [if_neg c1]
      simp only [l_cmp_ge0, jX8_floor_32, jX8_floor_43, jX8_floor_53, jX8_floor_55]
      rw [l_sub_e (by omega) (by omega)]
      by_cases ca : 0 ≤ a <;> by_cases cb : 0 ≤ b
      · rw [if_pos ca, if_pos cb, if_pos trivial, if_neg (fun z => z.2 (by constructor <;> intro <;> omega))]
      · rw [if_pos ca, if_neg cb, if_neg (by decide), if_pos ⟨c1, fun z => by have := z.mpr (by omega); omega⟩]
      · rw [if_neg ca, if_pos cb, if_neg (by decide), if_pos ⟨c1, fun z => by have := z.mp (by omega); omega⟩]
      · rw [if_neg ca, if_neg cb, if_pos trivial, if_neg (fun z => z.2 (by constructor <;> intro <;> omega))]

theorem KR_pile {μ μ' : Mm} (h : KR μ) (f : Fr [88] [(50, 51)] μ μ') : KR μ' := f.KR h (by decide)
theorem tM_j {t : Int} (h1 : -21 ≤ t) (h2 : t ≤ -11) : tM t = if -16 ≤ t then -10 - t else -6 - t := by
  unfold tM
  rw [if_neg (by omega), if_neg (by omega), if_neg (by omega), if_neg (by omega), if_neg (by omega), if_neg (by omega), if_neg (by omega), if_neg (by omega), if_neg (by omega)]
theorem join_M {N : Nat} {t a b : Int} {st : List Int} {μ : Mm} (hK : KR μ) (h : StkM (b :: a :: st) μ) (hl : st.length + 2 ≤ 700) (ht1 : -21 ≤ t) (ht2 : t ≤ -11) (ha1 : -1000000 ≤ a) (ha2 : a ≤ 1000000) (hb1 : -1000000 ≤ b) (hb2 : b ≤ 1000000) (hb : t ≤ -20 → (a = 0 ∨ a = 1) ∧ (b = 0 ∨ b = 1)) : ∃ μ', jX8_joins N 50 (tM t) μ = some μ' ∧ StkM (opv t a b :: st) μ' ∧ Fr [88] [(50, 51)] μ μ' := by
  obtain ⟨d1, d2⟩ := h.drop
  obtain ⟨d3, d4⟩ := d1.drop
  rw [gt_r _ _ _ _ (by decide)] at d4
  have e0 := h.1
  simp only [List.length_cons] at e0 d2 d3
  have d5 : StkM st (m_st μ 50 51 st.length) := ⟨gt_same _ _ _ _, fun i hi => by
    have := d3.2 i hi
    rw [gt_r _ _ _ _ (by decide), gt_r _ _ _ _ (by decide)] at this
    rw [gt_r _ _ _ _ (by decide)]
    exact this⟩
  have hK1 : KR (m_st μ 50 51 st.length) := hK.st _ (by decide)
  have f1 := Fr.st μ 50 51 st.length
  have P : ∀ v : Int, v = opv t a b → ∃ μ', jX8_puts N 50 v (m_st μ 50 51 st.length) = some μ' ∧ StkM (opv t a b :: st) μ' ∧ Fr [88] [(50, 51)] μ μ' := by
    rintro v rfl
    obtain ⟨μ', p1, p2, p3⟩ := putsM (N := N) (v := opv t a b) hK1 d5 (by omega)
    exact ⟨μ', p1, p2, (f1.tr p3).mono (by decide) (by decide)⟩
  have Q : ∀ v : Int, v = opv t a b → ∃ μ', (jX8_puts N 50 v (m_st μ 50 51 st.length)).bind (fun μ1 => jX8_joins_289 N 50 μ1) = some μ' ∧ StkM (opv t a b :: st) μ' ∧ Fr [88] [(50, 51)] μ μ' := by
    intro v hv
    obtain ⟨μ', p1, p2, p3⟩ := P v hv
    exact ⟨μ', by rw [p1]; rfl, p2, p3⟩
  have C : ∀ (v : Int) (k : Option Mm), v = opv t a b → k = (jX8_puts N 50 v (m_st μ 50 51 st.length)).bind (fun μ1 => jX8_joins_289 N 50 μ1) → ∃ μ', k = some μ' ∧ StkM (opv t a b :: st) μ' ∧ Fr [88] [(50, 51)] μ μ' := by
    rintro v k hv rfl
    exact Q v hv
  have c8 := chk_e (β := Mm) (k_50 hK1)
  unfold jX8_joins
  rw [r_50_50 hK, e0, i_sub_e (by omega) (by omega), i_sub_e (by omega) (by omega), show ((st.length + 1 + 1 : Nat) : Int) - 1 = (st.length + 1 : Nat) by omega, show ((st.length + 1 + 1 : Nat) : Int) - 2 = st.length by omega, ald_e (k_88 hK) (by omega) (by omega), ob_e, ald_e (k_88 hK) (by omega) (by omega), ob_e, bnd_e, d2, d4]
  have hab : -1000000000000 ≤ a * b ∧ a * b ≤ 1000000000000 := by
    have h1 : (a * b).natAbs ≤ 1000000 * 1000000 := by
      rw [Int.natAbs_mul]
      exact Nat.mul_le_mul (by omega) (by omega)
    omega
  simp only [l_cmp_le0, l_cmp_ge0, l_cmp_eq0]
  rw [l_add_e (by omega) (by omega), l_sub_e (by omega) (by omega), l_mul_e (by omega) (by omega), clip_M, clip_M, clip_M, floor_M ha1 ha2 hb1 hb2]
  simp only [b2_e]
  rw [tM_j ht1 ht2]
  by_cases c : t = -11
  · subst c; exact Q _ (opv_11 a b).symm
  by_cases c : t = -12
  · subst c; exact Q _ (opv_12 a b).symm
  by_cases c : t = -13
  · subst c; exact Q _ (opv_13 a b).symm
  by_cases c : t = -14
  · subst c; exact Q _ (opv_14 a b).symm
  by_cases c : t = -15
  · subst c
    show ∃ μ', (if b ≤ a then _ else _) = some μ' ∧ _
    by_cases q : b ≤ a
    · rw [if_pos q]
      refine C b _ ?_ (c8 _)
      rw [opv_15]; split <;> omega
    · rw [if_neg q]
      refine C a _ ?_ (c8 _)
      rw [opv_15]; split <;> omega
  by_cases c : t = -16
  · subst c
    show ∃ μ', (if a ≤ b then _ else _) = some μ' ∧ _
    by_cases q : a ≤ b
    · rw [if_pos q]
      refine C b _ ?_ (c8 _)
      rw [opv_16]; split <;> omega
    · rw [if_neg q]
      refine C a _ ?_ (c8 _)
      rw [opv_16]; split <;> omega
  by_cases c : t = -17
  · subst c
    show ∃ μ', (if b ≤ a then _ else _) = some μ' ∧ _
    by_cases q : b ≤ a
    · rw [if_pos q]
      refine C 0 _ ?_ (c8 _)
      rw [opv_17, if_neg (by omega)]
    · rw [if_neg q]
      refine C 1 _ ?_ (c8 _)
      rw [opv_17, if_pos (by omega)]
  by_cases c : t = -18
  · subst c
    show ∃ μ', (if a ≤ b then _ else _) = some μ' ∧ _
    by_cases q : a ≤ b
    · rw [if_pos q]
      refine C 0 _ ?_ (c8 _)
      rw [opv_18, if_neg (by omega)]
    · rw [if_neg q]
      refine C 1 _ ?_ (c8 _)
      rw [opv_18, if_pos (by omega)]
  by_cases c : t = -19
  · subst c
    show ∃ μ', (if ¬ a = b then _ else _) = some μ' ∧ _
    by_cases q : a = b
    · rw [if_neg (fun z => z q)]
      refine C 1 _ ?_ (c8 _)
      rw [opv_19, if_pos q]
    · rw [if_pos q]
      refine C 0 _ ?_ (c8 _)
      rw [opv_19, if_neg q]
  by_cases c : t = -20
  · subst c
    refine Q (a * b) ?_
    rw [opv_20]
    obtain ⟨h1 | h1, h2 | h2⟩ := hb (by omega) <;> subst h1 <;> subst h2 <;> rfl
  have : t = -21 := by omega
  subst this
  show ∃ μ', (if a + b ≤ 0 then _ else _) = some μ' ∧ _
  obtain ⟨h1, h2⟩ := hb (by omega)
  by_cases q : a + b ≤ 0
  · rw [if_pos q]
    refine C 0 _ ?_ (c8 _)
    rw [opv_21, if_pos (by omega)]
  · rw [if_neg q]
    refine C 1 _ ?_ (c8 _)
    rw [opv_21, if_neg (by omega)]
theorem tM_0 {t : Int} (h : 0 ≤ t) : tM t = 1000 + t := if_pos h
/-- one token on the reference's stack -/
theorem step_M {N : Nat} {env : Int → Int} {C : List Int} {j p : Nat} {st : List Int} {ts ts' : List Bool} {μ : Mm} {k7 : Int → Int → Int → Mm → Option (Int × Mm)} (hK : KR μ) (he : oke env) (hE : ∀ k, -6 ≤ k → k ≤ -1 → m_gt μ 50 (51 - k) = env k) (hr : Row μ 86 700 (C.map tM)) (hpj : p < j) (hj : j ≤ C.length) (hC : C.length ≤ 700) (h : StkM st μ) (hs : okst st ts) (hl : ts.length ≤ 60) (hk : ck1 ts (C.getD p 0) = some ts') : ∃ μ', jX8_tells_7b k7 N 50 j p μ = k7 50 j (p + 1) μ' ∧ StkM (stp env st (C.getD p 0)) μ' ∧ Fr [88] [(50, 51)] μ μ' := by
  have hlen := okst_len hs
  have hget : m_gt μ 86 (700 + (p : Int)) = tM (C.getD p 0) := by
    have := hr p (by simp <;> omega)
    rw [this]
    simp [List.getD_eq_getElem?_getD, show p < C.length by omega]
  generalize C.getD p 0 = t at *
  have n15 : ∀ μ', jX8_tells_215 k7 N 50 j p μ' = k7 50 j (p + 1) μ' := fun μ' => by
    unfold jX8_tells_215
    rw [bnd_e, i_add_e (by omega) (by omega)]
  have push : ∀ (v w : Int), w = v → st.length < 60 → ∃ μ', (jX8_puts N 50 w μ).bind (fun μ1 => jX8_tells_215 k7 N 50 j p μ1) = k7 50 j (p + 1) μ' ∧ StkM (v :: st) μ' ∧ Fr [88] [(50, 51)] μ μ' := by
    rintro v w rfl hl2
    obtain ⟨μ', e1, e2, e3⟩ := putsM (N := N) (v := w) hK h (by omega)
    exact ⟨μ', by rw [e1, ob_e]; exact n15 _, e2, e3⟩
  unfold jX8_tells_7b
  rw [if_neg (by omega), r_50_43 hK, i_add_e (by omega) (by omega), ald_e (k_86 hK) (by omega) (by omega), ob_e, hget]
  unfold ck1 at hk
  unfold stp
  by_cases c0 : 0 ≤ t
  · rw [if_pos c0] at hk ⊢
    split at hk
    · rw [tM_0 c0, if_neg (by omega)]
      refine push _ _ ?_ (by omega)
      rw [i_sub_e (by omega) (by omega), i_2l_e (by omega) (by omega)]
      omega
    · cases hk
  rw [if_neg c0] at hk ⊢
  by_cases c7 : t = -7
  · rw [if_pos c7] at hk ⊢
    split at hk
    · subst c7
      exact push 1 1 rfl (by omega)
    · cases hk
  rw [if_neg c7] at hk ⊢
  by_cases c6 : -6 ≤ t
  · rw [if_pos c6] at hk ⊢
    split at hk
    · have h1 := he t c6 (by omega)
      have h2 : ∀ q : Int, q = 51 - t → i_2l (m_gt μ 50 q) = env t := by
        rintro q rfl
        rw [hE t c6 (by omega), i_2l_e (by omega) (by omega)]
      have : t = -1 ∨ t = -2 ∨ t = -3 ∨ t = -4 ∨ t = -5 ∨ t = -6 := by omega
      rcases this with rfl | rfl | rfl | rfl | rfl | rfl
      · exact push _ _ (h2 52 (by decide)) (by omega)
      · exact push _ _ (h2 53 (by decide)) (by omega)
      · exact push _ _ (h2 54 (by decide)) (by omega)
      · exact push _ _ (h2 55 (by decide)) (by omega)
      · exact push _ _ (h2 56 (by decide)) (by omega)
      · exact push _ _ (h2 57 (by decide)) (by omega)
    · cases hk
  rw [if_neg c6] at hk ⊢
  by_cases c22 : t = -22
  · rw [if_pos c22] at hk ⊢
    split at hk
    · cases hk
      cases st with
      | nil => exact hs.elim
      | cons v st =>
        have hv := hs.1.2.2 rfl
        rw [List.length_cons] at hlen
        obtain ⟨d1, d2⟩ := h.drop
        subst c22
        refine ⟨m_st μ 88 st.length (1 - v), ?_, ⟨?_, ?_⟩, (Fr.sa μ 88 _ _).mono (by decide) (by decide)⟩
        · have e0 := h.1
          rw [List.length_cons] at e0
          show (m_ald 101 μ (m_gt μ 50 50) (i_sub (m_gt μ 50 51) 1)).bind _ = _
          rw [r_50_50 hK, e0, i_sub_e (by omega) (by omega), show ((st.length + 1 : Nat) : Int) - 1 = st.length by omega, ald_e (k_88 hK) (by omega) (by omega), ob_e, d2, l_sub_e (by omega) (by omega), ast_e (k_88 hK) (by omega) (by omega), ob_e]
          exact n15 _
        · rw [gt_r _ _ _ _ (by decide)]
          exact h.1
        · have hr2 := Row.push (h.2.take st.length) (1 - v)
          rw [List.length_take, List.reverse_cons, List.take_left' (by simp), List.length_append, List.length_reverse, List.length_singleton, Nat.min_eq_left (by omega), Int.zero_add] at hr2
          rw [List.headD_cons, List.tail_cons, List.reverse_cons]
          exact hr2
    · cases hk
  rw [if_neg c22] at hk ⊢
  have two : ∀ {b1 b2 : Bool} {r : List Bool}, ts = b1 :: b2 :: r → (-21 ≤ t ∧ t ≤ -11) → (t ≤ -20 → b1 = true ∧ b2 = true) → ∃ μ', (jX8_joins N 50 (tM t) μ).bind (fun μ1 => jX8_tells_215 k7 N 50 j p μ1) = k7 50 j (p + 1) μ' ∧ StkM (opv t (st.tail.headD 0) (st.headD 0) :: st.tail.tail) μ' ∧ Fr [88] [(50, 51)] μ μ' := by
    intro b1 b2 r hts htr hbb
    subst hts
    match st, hs, h, hlen with
    | y :: x :: st2, hs, h, hlen =>
      simp only [List.length_cons] at hlen hl
      obtain ⟨μ1, e1, e2, e3⟩ := join_M (N := N) (t := t) hK h (by omega) htr.1 htr.2 hs.2.1.1 hs.2.1.2.1 hs.1.1 hs.1.2.1 (fun z => ⟨hs.2.1.2.2 (hbb z).2, hs.1.2.2 (hbb z).1⟩)
      refine ⟨μ1, ?_, e2, e3⟩
      rw [e1, ob_e]
      exact n15 _
    | [_], hs, _, _ => exact hs.2.elim
    | [], hs, _, _ => exact hs.elim
  have fin : -21 ≤ t ∧ t ≤ -11 → (∃ μ', (jX8_joins N 50 (tM t) μ).bind (fun μ1 => jX8_tells_215 k7 N 50 j p μ1) = k7 50 j (p + 1) μ' ∧ StkM (opv t (st.tail.headD 0) (st.headD 0) :: st.tail.tail) μ' ∧ Fr [88] [(50, 51)] μ μ') → ∃ μ', (if tM t < 1000 then (if ¬ tM t = 7 then (if ¬ tM t = 8 then (if ¬ tM t = 9 then (if ¬ tM t = 10 then (if ¬ tM t = 18 then (if ¬ tM t = 30 then (if ¬ tM t = 17 then (if ¬ tM t = 16 then ((jX8_joins N 50 (tM t) μ).bind fun μ1 =>
jX8_tells_215 k7 N 50 j p μ1) else ((m_ald 101 μ (m_gt μ 50 50) (i_sub (m_gt μ 50 51) 1)).bind fun x3 =>
(m_ast 101 μ (m_gt μ 50 50) (i_sub (m_gt μ 50 51) 1) (l_sub 1 x3)).bind fun μ2 =>
jX8_tells_215 k7 N 50 j p μ2)) else ((jX8_puts N 50 1 μ).bind fun μ3 =>
jX8_tells_215 k7 N 50 j p μ3)) else ((jX8_puts N 50 (i_2l (m_gt μ 50 57)) μ).bind fun μ4 =>
jX8_tells_215 k7 N 50 j p μ4)) else ((jX8_puts N 50 (i_2l (m_gt μ 50 56)) μ).bind fun μ5 =>
jX8_tells_215 k7 N 50 j p μ5)) else ((jX8_puts N 50 (i_2l (m_gt μ 50 55)) μ).bind fun μ6 =>
jX8_tells_215 k7 N 50 j p μ6)) else ((jX8_puts N 50 (i_2l (m_gt μ 50 54)) μ).bind fun μ7 =>
jX8_tells_215 k7 N 50 j p μ7)) else ((jX8_puts N 50 (i_2l (m_gt μ 50 53)) μ).bind fun μ8 =>
jX8_tells_215 k7 N 50 j p μ8)) else ((jX8_puts N 50 (i_2l (m_gt μ 50 52)) μ).bind fun μ9 =>
jX8_tells_215 k7 N 50 j p μ9)) else ((jX8_puts N 50 (i_2l (i_sub (tM t) 1000)) μ).bind fun μ10 =>
jX8_tells_215 k7 N 50 j p μ10)) = k7 50 j (p + 1) μ' ∧ StkM (opv t (st.tail.headD 0) (st.headD 0) :: st.tail.tail) μ' ∧ Fr [88] [(50, 51)] μ μ' := by
    rintro ⟨q1, q2⟩ hx
    have e := tM_j q1 q2
    have : tM t < 1000 ∧ ¬ tM t = 7 ∧ ¬ tM t = 8 ∧ ¬ tM t = 9 ∧ ¬ tM t = 10 ∧ ¬ tM t = 18 ∧ ¬ tM t = 30 ∧ ¬ tM t = 17 ∧ ¬ tM t = 16 := by rw [e]; split <;> omega
    obtain ⟨z1, z2, z3, z4, z5, z6, z7, z8, z9⟩ := this
    rw [if_pos z1, if_pos z2, if_pos z3, if_pos z4, if_pos z5, if_pos z6, if_pos z7, if_pos z8, if_pos z9]
    exact hx
  by_cases ca : -16 ≤ t ∧ t ≤ -11
  · rw [if_pos ca] at hk
    split at hk
    · exact fin (by omega) (two rfl (by omega) (fun z => by omega))
    · cases hk
  rw [if_neg ca] at hk
  by_cases cb : -19 ≤ t ∧ t ≤ -17
  · rw [if_pos cb] at hk
    split at hk
    · exact fin (by omega) (two rfl (by omega) (fun z => by omega))
    · cases hk
  rw [if_neg cb] at hk
  by_cases cc : -21 ≤ t ∧ t ≤ -20
  · rw [if_pos cc] at hk
    split at hk
    · exact fin (by omega) (two rfl (by omega) (fun z => ⟨rfl, rfl⟩))
    · cases hk
  · rw [if_neg cc] at hk; cases hk
theorem tells_loop {N : Nat} {env : Int → Int} (he : oke env) {C : List Int} {j : Nat} (hj : j ≤ C.length) (hC : C.length ≤ 700) : ∀ (k n p : Nat) {st : List Int} {ts : List Bool} {ty : Bool} {μ : Mm}, p + k = j → k < n → KR μ → Row μ 86 700 (C.map tM) → (∀ k, -6 ≤ k → k ≤ -1 → m_gt μ 50 (51 - k) = env k) → StkM st μ → okst st ts → ts.length ≤ 60 → ck ts (slc C p j) = some [ty] → ∃ μ', jX8_tells_7 N n 50 j p μ = some ((run env st (slc C p j)).headD 0, μ') ∧ okst (run env st (slc C p j)) [ty] ∧ Fr [88] [(50, 51)] μ μ'
  | 0, n + 1, p, st, ts, ty, μ, hp, hn, hK, hr, hE, hS, ho, hl, hk => by
    have : p = j := by omega
    subst this
    rw [slc_nil] at hk ⊢
    cases hk
    match st, ho, hS with
    | [v], ho, hS =>
      obtain ⟨_, e2⟩ := hS.drop
      refine ⟨μ, ?_, ho, (Fr.rf μ).mono (by decide) (by decide)⟩
      show jX8_tells_7b _ _ _ _ _ _ = _
      unfold jX8_tells_7b
      rw [if_pos (by omega), r_50_50 hK, ald_e (k_88 hK) (by omega) (by omega), ob_e]
      show some (m_gt μ 88 0, μ) = _
      exact congrArg (fun x => some (x, μ)) e2
    | _ :: _ :: _, ho, _ => exact ho.2.elim
    | [], ho, _ => exact ho.elim
  | k + 1, n + 1, p, st, ts, ty, μ, hp, hn, hK, hr, hE, hS, ho, hl, hk => by
    rw [slc_cons (by omega) hj] at hk ⊢
    have hk' : (ck1 ts (C.getD p 0)).bind (fun ts' => ck ts' (slc C (p + 1) j)) = some [ty] := hk
    cases h1 : ck1 ts (C.getD p 0) with
    | none => rw [h1] at hk'; cases hk'
    | some ts' =>
      rw [h1] at hk'
      obtain ⟨μ1, e1, e2, e3⟩ := step_M (N := N) (k7 := jX8_tells_7 N n) hK he hE hr (by omega) hj hC hS ho hl h1
      have hr1 : Row μ1 86 700 (C.map tM) := hr.fr e3 (by decide) (fun q hq => by rw [List.mem_singleton.mp hq]; decide)
      have hE1 : ∀ k, -6 ≤ k → k ≤ -1 → m_gt μ1 50 (51 - k) = env k := fun k a b => by rw [e3.2.2 _ _ (by decide) (by simp <;> omega)]; exact hE k a b
      have hl1 : ts'.length ≤ 60 := by rcases ck1_len h1 with z | z <;> omega
      obtain ⟨μ2, f1, f2, f3⟩ := tells_loop he hj hC k n (p + 1) (by omega) (by omega) (KR_pile hK e3) hr1 hE1 e2 (stp_ok he ho h1) hl1 hk'
      refine ⟨μ2, ?_, f2, (e3.tr f3).mono (by decide) (by decide)⟩
      show jX8_tells_7b _ _ _ _ _ _ = _
      rw [e1]
      exact f1
  | _ + 1, 0, _, _, _, _, _, _, hn, _, _, _, _, _, _, _ => absurd hn (by omega)
  | 0, 0, _, _, _, _, _, _, hn, _, _, _, _, _, _, _ => absurd hn (by omega)
/-- a stretch of good tokens, as the reference tells it -/
theorem tells_M {N : Nat} (hN : 1000000 ≤ N) {env : Int → Int} (he : oke env) {C : List Int} {i j : Nat} (hij : i ≤ j) (hj : j ≤ C.length) (hC : C.length ≤ 700) {ty : Bool} {μ : Mm} (hK : KR μ) (hr : Row μ 86 700 (C.map tM)) (hE : ∀ k, -6 ≤ k → k ≤ -1 → m_gt μ 50 (51 - k) = env k) (hk : ck [] (slc C i j) = some [ty]) : ∃ μ', jX8_tells N 50 i j μ = some (ev env (slc C i j), μ') ∧ okst (run env [] (slc C i j)) [ty] ∧ Fr [88] [(50, 51)] μ μ' := by
  have f0 := (Fr.st μ 50 51 0).mono (i2 := [88]) (s2 := [(50, 51)]) (by decide) (by decide)
  have hS : StkM [] (m_st μ 50 51 0) := ⟨gt_same _ _ _ _, Row.nil _ _ _⟩
  have hr1 : Row (m_st μ 50 51 0) 86 700 (C.map tM) := hr.fr f0 (by decide) (fun q hq => by rw [List.mem_singleton.mp hq]; decide)
  have hE1 : ∀ k, -6 ≤ k → k ≤ -1 → m_gt (m_st μ 50 51 0) 50 (51 - k) = env k := fun k a b => by rw [gt_i _ _ _ (by omega)]; exact hE k a b
  obtain ⟨μ', e1, e2, e3⟩ := tells_loop (N := N) he hj hC (j - i) N i (by omega) (by omega) (KR_pile hK f0) hr1 hE1 hS (ts := []) trivial (by simp) hk
  refine ⟨μ', ?_, e2, (f0.tr e3).mono (by decide) (by decide)⟩
  unfold jX8_tells
  rw [bnd_e]
  exact e1
