/-! ===== PURE: a text, its words, numbers and signs ===== -/
def tx (T : List Int) (p : Nat) : Int := T.getD p 0
abbrev blk (T : List Int) (p : Nat) : Prop := p < T.length ∧ (tx T p = 32 ∨ tx T p = 10)
def sk (T : List Int) : Nat → Nat → Nat
  | 0, p => p
  | k + 1, p => if blk T p then sk T k (p + 1) else p
/-- the place behind blanks -/
def SKP (T : List Int) (p : Nat) : Nat := sk T (T.length - p) p
theorem SKP_e (T : List Int) (p : Nat) : SKP T p = if blk T p then SKP T (p + 1) else p := by
  unfold SKP
  by_cases c : p < T.length
  · rw [show T.length - p = (T.length - (p + 1)) + 1 by omega, sk]
  · rw [show T.length - p = 0 by omega, sk, if_neg (fun z => c z.1)]
theorem SKP_no {T : List Int} {p : Nat} (h : ¬ blk T p) : SKP T p = p := by rw [SKP_e, if_neg h]
theorem SKP_b {T : List Int} {p : Nat} (h : blk T p) : SKP T p = SKP T (p + 1) := by rw [SKP_e, if_pos h]
theorem SKP_ind {T : List Int} {P : Nat → Nat → Prop} (h0 : ∀ p, ¬ blk T p → P p p) (h1 : ∀ p, blk T p → P (p + 1) (SKP T (p + 1)) → P p (SKP T (p + 1))) : ∀ p, P p (SKP T p) := by
  have key : ∀ k p, T.length - p ≤ k → P p (SKP T p) := by
    intro k
    induction k with
    | zero =>
      intro p hp
      have : ¬ blk T p := fun z => by have := z.1; omega
      rw [SKP_no this]
      exact h0 p this
    | succ k ih =>
      intro p hp
      by_cases c : blk T p
      · rw [SKP_b c]
        exact h1 p c (ih (p + 1) (by omega))
      · rw [SKP_no c]
        exact h0 p c
  exact fun p => key _ p (Nat.le_refl _)
theorem SKP_nb (T : List Int) : ∀ p, ¬ blk T (SKP T p) := SKP_ind (P := fun _ q => ¬ blk T q) (fun _ h => h) (fun _ _ h => h)
theorem SKP_le (T : List Int) : ∀ p, p ≤ SKP T p := SKP_ind (P := fun p q => p ≤ q) (fun p _ => Nat.le_refl p) (fun p _ h => by omega)
theorem SKP_ub (T : List Int) : ∀ p, p ≤ T.length → SKP T p ≤ T.length := SKP_ind (P := fun p q => p ≤ T.length → q ≤ T.length) (fun _ _ h => h) (fun p hb h _ => h hb.1)
theorem SKP_i (T : List Int) (p : Nat) : SKP T (SKP T p) = SKP T p := SKP_no (SKP_nb T p)
/-- the byte ahead of the place, if some was skipped, is a blank -/
theorem SKP_pv (T : List Int) : ∀ p, SKP T p = p ∨ (0 < SKP T p ∧ blk T (SKP T p - 1)) := SKP_ind (P := fun p q => q = p ∨ (0 < q ∧ blk T (q - 1))) (fun _ _ => Or.inl rfl) (fun p hb h => Or.inr (by
  rcases h with h | h
  · rw [h]; exact ⟨by omega, by rw [Nat.add_sub_cancel]; exact hb⟩
  · exact h))
abbrev isL (T : List Int) (p : Nat) : Prop := p < T.length ∧ 97 ≤ tx T p ∧ tx T p ≤ 122
abbrev isD (T : List Int) (p : Nat) : Prop := p < T.length ∧ 48 ≤ tx T p ∧ tx T p ≤ 57
abbrev pvL (T : List Int) (p : Nat) : Prop := 0 < p ∧ isL T (p - 1)
abbrev pvD (T : List Int) (p : Nat) : Prop := 0 < p ∧ isD T (p - 1)
/-- a sign -/
def sg (T : List Int) (c : Int) (q : Nat) : Option Nat := if q < T.length ∧ tx T q = c then some (SKP T (q + 1)) else none
/-- a word stands here -/
abbrev WD (T : List Int) (w : List Int) (q : Nat) : Prop := q + w.length ≤ T.length ∧ ¬ isL T (q + w.length) ∧ ¬ pvD T q ∧ ∀ i, i < w.length → tx T (q + i) = w.getD i 0
def wrd (T : List Int) (w : List Int) (q : Nat) : Option Nat := if WD T w q then some (SKP T (q + w.length)) else none
/-- where digits end, at most four of them -/
def dgs (T : List Int) : Nat → Nat → Int → (Int × Nat) ⊕ Nat
  | 0, p, v => if isD T p then Sum.inr p else Sum.inl (v, p)
  | k + 1, p, v => if isD T p then dgs T k (p + 1) (10 * v + tx T p - 48) else Sum.inl (v, p)
abbrev PN : Type := (Int × Nat) ⊕ (Int × Nat)
/-- a number: a fault's kind and place, or what it is and the place behind -/
def numb (T : List Int) (lo hi : Int) (q : Nat) : PN :=
  if ¬ isD T q ∨ pvL T q then Sum.inl (1, q) else match dgs T 4 q 0 with
    | Sum.inr p => Sum.inl (1, p)
    | Sum.inl (v, p) => if lo ≤ v ∧ v ≤ hi then Sum.inr (v, SKP T p) else Sum.inl (2, q)
theorem dgs_ok {T : List Int} : ∀ (k p : Nat) (v : Int), 0 ≤ v → match dgs T k p v with | Sum.inr p' => p ≤ p' ∧ p' ≤ p + k ∧ isD T p' | Sum.inl (v', p') => 0 ≤ v' ∧ v' < (v + 1) * 10 ^ k ∧ p ≤ p' ∧ p' ≤ p + k ∧ ¬ isD T p' ∧ (p < p' → isD T (p' - 1))
  | 0, p, v, hv => by
    unfold dgs
    by_cases c : isD T p
    · rw [if_pos c]; exact ⟨Nat.le_refl _, by omega, c⟩
    · rw [if_neg c]; exact ⟨hv, by simp; omega, Nat.le_refl _, by omega, c, fun z => by omega⟩
  | k + 1, p, v, hv => by
    unfold dgs
    by_cases c : isD T p
    · rw [if_pos c]
      have h := dgs_ok (T := T) k (p + 1) (10 * v + tx T p - 48) (by have := c.2; omega)
      match hd : dgs T k (p + 1) (10 * v + tx T p - 48), h with
      | Sum.inr p', h => exact ⟨by omega, by omega, h.2.2⟩
      | Sum.inl (v', p'), h =>
        obtain ⟨h1, h2, h3, h4, h5, h6⟩ := h
        refine ⟨h1, ?_, by omega, by omega, h5, fun _ => ?_⟩
        · have hb : 10 * v + tx T p - 48 + 1 ≤ (v + 1) * 10 := by have := c.2; omega
          have hm : (10 * v + tx T p - 48 + 1) * 10 ^ k ≤ (v + 1) * 10 * 10 ^ k := Int.mul_le_mul_of_nonneg_right hb (Int.pow_nonneg (by decide))
          rw [Int.pow_succ, Int.mul_comm (10 ^ k) 10, ← Int.mul_assoc]
          exact Int.lt_of_lt_of_le h2 hm
        · by_cases e : p' = p + 1
          · rw [e, Nat.add_sub_cancel]; exact c
          · exact h6 (by omega)
    · rw [if_neg c]
      refine ⟨hv, ?_, Nat.le_refl _, by omega, c, fun z => by omega⟩
      have h1 : (1 : Int) ≤ 10 ^ (k + 1) := by
        have := Nat.one_le_pow (k + 1) 10 (by decide)
        exact_mod_cast this
      have h2 : (v + 1) * 1 ≤ (v + 1) * 10 ^ (k + 1) := Int.mul_le_mul_of_nonneg_left h1 (by omega)
      omega
/-- bytes -/
def TB (T : List Int) : Prop := T.length ≤ 700 ∧ ∀ x ∈ T, 0 ≤ x ∧ x ≤ 255
theorem tx_ok {T : List Int} (h : TB T) (p : Nat) : 0 ≤ tx T p ∧ tx T p ≤ 255 := by
  unfold tx
  by_cases c : p < T.length
  · rw [List.getD_eq_getElem?_getD, List.getElem?_eq_getElem c]
    exact h.2 _ (List.getElem_mem c)
  · rw [List.getD_eq_getElem?_getD, List.getElem?_eq_none (by omega)]
    decide
/-- what holds at each place where a sign, a word or a number is looked for -/
def IN (T : List Int) (q : Nat) : Prop := ¬ blk T q ∧ q ≤ T.length ∧ ¬ (pvL T q ∧ isL T q) ∧ ¬ (pvD T q ∧ isD T q)
theorem blk_nL {T : List Int} {p : Nat} (h : blk T p) : ¬ isL T p ∧ ¬ isD T p := by
  unfold isL isD
  have := h.2
  omega
theorem IN_of {T : List Int} {p : Nat} (hp : p ≤ T.length) (h1 : ¬ (pvL T p ∧ isL T p)) (h2 : ¬ (pvD T p ∧ isD T p)) : IN T (SKP T p) := by
  refine ⟨SKP_nb T p, SKP_ub T p hp, ?_, ?_⟩
  · rcases SKP_pv T p with e | e
    · rw [e]; exact h1
    · exact fun z => (blk_nL e.2).1 z.1.2
  · rcases SKP_pv T p with e | e
    · rw [e]; exact h2
    · exact fun z => (blk_nL e.2).2 z.1.2
theorem sg_IN {T : List Int} {c : Int} {q q' : Nat} (hc : ¬ (97 ≤ c ∧ c ≤ 122) ∧ ¬ (48 ≤ c ∧ c ≤ 57)) (h : sg T c q = some q') : IN T q' ∧ q + 1 ≤ q' ∧ q < T.length ∧ tx T q = c ∧ q' = SKP T (q + 1) := by
  unfold sg at h
  split at h
  · rename_i hh
    injection h with h
    refine ⟨?_, ?_, hh.1, hh.2, h.symm⟩
    · rw [← h]
      refine IN_of (by omega) ?_ ?_
      · rintro ⟨z, _⟩
        have := z.2.2
        rw [Nat.add_sub_cancel, hh.2] at this
        exact hc.1 this
      · rintro ⟨z, _⟩
        have := z.2.2
        rw [Nat.add_sub_cancel, hh.2] at this
        exact hc.2 this
    · rw [← h]; exact SKP_le T (q + 1)
  · cases h
def lws (w : List Int) : Prop := w ≠ [] ∧ ∀ x ∈ w, 97 ≤ x ∧ x ≤ 122
theorem wrd_IN {T w : List Int} {q q' : Nat} (hw : lws w) (h : wrd T w q = some q') : IN T q' ∧ q + w.length ≤ q' ∧ q + w.length ≤ T.length ∧ WD T w q ∧ q' = SKP T (q + w.length) := by
  unfold wrd at h
  split at h
  · rename_i hh
    injection h with h
    have hl : 1 ≤ w.length := by cases w with | nil => exact absurd rfl hw.1 | cons _ _ => simp
    refine ⟨?_, ?_, hh.1, hh, h.symm⟩
    · rw [← h]
      refine IN_of hh.1 (fun z => hh.2.1 z.2) ?_
      rintro ⟨z, _⟩
      have h3 := hh.2.2.2 (w.length - 1) (by omega)
      have h4 : q + (w.length - 1) = q + w.length - 1 := by omega
      rw [h4] at h3
      have h5 := z.2.2
      rw [h3] at h5
      have h6 : w.getD (w.length - 1) 0 ∈ w := by
        rw [List.getD_eq_getElem?_getD, List.getElem?_eq_getElem (by omega)]
        exact List.getElem_mem _
      have := hw.2 _ h6
      omega
    · rw [← h]; exact SKP_le T _
  · cases h
theorem numb_IN {T : List Int} {lo hi v : Int} {q q' : Nat} (h : numb T lo hi q = Sum.inr (v, q')) : IN T q' ∧ q + 1 ≤ q' ∧ lo ≤ v ∧ v ≤ hi ∧ isD T q ∧ ¬ pvL T q ∧ ∃ p, dgs T 4 q 0 = Sum.inl (v, p) ∧ q' = SKP T p ∧ q < p := by
  unfold numb at h
  split at h
  · cases h
  · rename_i hc
    have hd : isD T q ∧ ¬ pvL T q := by
      constructor
      · by_cases c : isD T q
        · exact c
        · exact absurd (Or.inl c) hc
      · exact fun z => hc (Or.inr z)
    have h4 := dgs_ok (T := T) 4 q 0 (by decide)
    split at h
    · cases h
    · rename_i v1 p1 he
      rw [he] at h4
      dsimp only at h4
      split at h
      · rename_i hr
        injection h with h
        injection h with h1 h2
        have hqp : q < p1 := by
          by_cases c : q = p1
          · rw [c] at hd; exact absurd hd.1 h4.2.2.2.2.1
          · omega
        have hlast := h4.2.2.2.2.2 hqp
        have hlen := hlast.1
        refine ⟨?_, ?_, by rw [← h1]; exact hr.1, by rw [← h1]; exact hr.2, hd.1, hd.2, p1, by rw [← h1]; exact he, h2.symm, hqp⟩
        · rw [← h2]
          refine IN_of (by omega) ?_ (fun z => h4.2.2.2.2.1 z.2)
          rintro ⟨z, _⟩
          have a := z.2.2
          have b := hlast.2
          omega
        · rw [← h2]
          have := SKP_le T p1
          omega
      · cases h
