/-! ===== PURE: the reference's rows, one behind another ===== -/
def enc (o : Ow) : Int := 6 * o.1 + 2 * o.2.1 + o.2.2
theorem enc_ok {o : Ow} (h : OwOK o) : 0 ≤ enc o ∧ enc o < 24 := by unfold enc OwOK at *; omega
theorem oneOf_M {N : Nat} {o : Ow} (h : OwOK o) {μ : Mm} : jX8_oneOf N (enc o) μ = some (o.1, μ) := by
  rcases h.mem with rfl | rfl | rfl | rfl | rfl | rfl | rfl | rfl | rfl | rfl | rfl | rfl | rfl | rfl <;> rfl
theorem later_M {N : Nat} {o : Ow} (h : OwOK o) {μ : Mm} : jX8_later N (enc o) μ = some (enc (lt1 o), μ) := by
  rcases h.mem with rfl | rfl | rfl | rfl | rfl | rfl | rfl | rfl | rfl | rfl | rfl | rfl | rfl | rfl <;> rfl
theorem plus_M {N : Nat} {o : Ow} (h : OwOK1 o) {e : Int} (h0 : 0 ≤ e) (h3 : e ≤ 3) {μ : Mm} : jX8_plus N (enc o) e μ = some (enc (pls o e), μ) := by
  have he : e = 0 ∨ e = 1 ∨ e = 2 ∨ e = 3 := by omega
  rcases h.mem with rfl | rfl | rfl | rfl | rfl <;> rcases he with rfl | rfl | rfl | rfl <;> rfl
/-- a row of rolls in the reference's cells -/
def ROW (r : List Int) (μ : Mm) : Prop := m_gt μ 50 74 = r.length ∧ Row μ 97 0 r
def rv (st : Int) (left : Nat) (r : List Int) : Prop := (∀ x ∈ r, 0 ≤ x ∧ x ≤ 9) ∧ lsum r ≤ st ∧ r.length ≤ left
theorem lsum_nn : ∀ {r : List Int}, (∀ x ∈ r, 0 ≤ x ∧ x ≤ 9) → 0 ≤ lsum r ∧ lsum r ≤ 9 * r.length
  | [], _ => by simp [lsum]
  | x :: r, h => by
    have h1 := h x (by simp)
    have h2 := lsum_nn (r := r) (fun y hy => h y (by simp [hy]))
    rw [lsum, List.length_cons]
    omega
theorem nextRow_5 {N : Nat} {st left : Int} {r : List Int} (hr : ∀ x ∈ r, 0 ≤ x ∧ x ≤ 9) (hl : r.length ≤ 3) {μ : Mm} (hK : KR μ) (hR : ROW r μ) : ∀ (k n i : Nat), i + k = r.length → k < n → jX8_nextRow_5 N n 50 st left (lsum (r.take i)) i μ = (if left ≤ r.length then (jX8_nextRow_65 N N 50 st (lsum r) μ) else (if st ≤ lsum r then (jX8_nextRow_65 N N 50 st (lsum r) μ) else (some (1, m_st (m_st μ 97 r.length 0) 50 74 (r.length + 1)))))
  | k, 0, i, hi, hn => absurd hn (by omega)
  | 0, n + 1, i, hi, hn => by
    show jX8_nextRow_5b (jX8_nextRow_5 N n) N 50 st left (lsum (r.take i)) i μ = _
    unfold jX8_nextRow_5b
    rw [hR.1, if_pos (by omega), List.take_of_length_le (by omega)]
    by_cases c : left ≤ r.length
    · rw [if_pos c, if_pos c]
    · rw [if_neg c, if_neg c]
      by_cases c2 : st ≤ lsum r
      · rw [if_pos c2, if_pos c2]
      · rw [if_neg c2, if_neg c2]
        by_cases c3 : r.length < 3
        · have e0 := hR.1
          simp (disch := omega) only [e0, r_50_73 hK, ald_e (k_97 hK), ast_e (k_97 hK), len_e (k_97 hK) (by decide) (by decide), bnd_e, b2_e, ob_e, gt_same, gt_r, gt_i, i_add_e, i_sub_e, chk_st, len_st, ald_st, ast_st]
        · sorry
  | k + 1, n + 1, i, hi, hn => by
    have hil : i < r.length := by omega
    have hk : r[i]? = some r[i] := List.getElem?_eq_getElem hil
    have e : m_gt μ 97 i = r[i] := hR.2.get hk (by omega)
    have hx := hr _ (List.getElem_mem hil)
    have ht := lsum_nn (r := r.take i) (fun x hx => hr x (List.mem_of_mem_take hx))
    rw [List.length_take] at ht
    have ih := nextRow_5 hr hl hK hR (st := st) (left := left) (N := N) k n (i + 1) (by omega) (by omega)
    rw [List.take_succ_eq_append_getElem hil, lsum_app] at ih
    show jX8_nextRow_5b (jX8_nextRow_5 N n) N 50 st left (lsum (r.take i)) i μ = _
    unfold jX8_nextRow_5b
    rw [hR.1, if_neg (by omega), r_50_73 hK, ald_e (k_97 hK) (by omega) (by omega), ob_e, e, bnd_e, bnd_e, i_add_e (by omega) (by omega), i_add_e (by omega) (by omega), ← ih]
    simp [lsum]
