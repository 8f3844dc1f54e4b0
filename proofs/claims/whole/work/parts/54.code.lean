/-! ===== PURE: sums and tests as tokens, reckoned by a stack ===== -/
/-- the greatest whole number not above; by 0 it is 0 -/
def fd (a b : Int) : Int := if b = 0 then 0 else if 0 < b then a / b else (-a) / (-b)
theorem ed_u {a b q r : Int} (hb : 0 < b) (h1 : r + b * q = a) (h2 : 0 ≤ r) (h3 : r < b) : a / b = q := ((Int.ediv_emod_unique hb).mpr ⟨h1, h2, h3⟩).1
theorem fd_p {a b : Int} (hb : 0 < b) : a / b = if b * a.tdiv b ≤ a then a.tdiv b else a.tdiv b - 1 := by
  have h1 := Int.mul_tdiv_add_tmod a b
  have h2 := Int.tmod_lt_of_pos a hb
  have h3 := Int.lt_tmod_of_pos a hb
  generalize a.tdiv b = q at *
  generalize a.tmod b = r at *
  by_cases c : b * q ≤ a
  · rw [if_pos c]
    exact ed_u (r := r) hb (by omega) (by omega) h2
  · rw [if_neg c]
    refine ed_u (r := r + b) hb ?_ (by omega) (by omega)
    rw [Int.mul_sub, Int.mul_one]
    omega
theorem fd_e {a b : Int} (hb : b ≠ 0) : fd a b = if a.tmod b ≠ 0 ∧ ¬ ((a < 0) ↔ (b < 0)) then a.tdiv b - 1 else a.tdiv b := by
  unfold fd
  rw [if_neg hb]
  by_cases hp : 0 < b
  · rw [if_pos hp, fd_p hp]
    have h1 := Int.mul_tdiv_add_tmod a b
    have h2 := Int.tmod_lt_of_pos a hp
    have h3 := Int.lt_tmod_of_pos a hp
    have h4 : 0 ≤ a → 0 ≤ a.tmod b := fun h => Int.tmod_nonneg b h
    have h5 : a ≤ 0 → a.tmod b ≤ 0 := fun h => by
      have := Int.tmod_nonneg b (show 0 ≤ -a by omega)
      rw [Int.neg_tmod] at this
      omega
    generalize b * a.tdiv b = P at *
    generalize a.tdiv b = q at *
    generalize a.tmod b = r at *
    by_cases c : P ≤ a
    · rw [if_pos c, if_neg]
      rintro ⟨c1, c2⟩
      apply c2
      constructor <;> intro <;> omega
    · rw [if_neg c, if_pos]
      exact ⟨by omega, fun c2 => by have := c2.mp (by omega); omega⟩
  · rw [if_neg hp, fd_p (show 0 < -b by omega)]
    rw [Int.neg_tdiv, Int.tdiv_neg, Int.neg_neg]
    have h1 := Int.mul_tdiv_add_tmod a b
    have h2 := Int.tmod_lt_of_pos a (show 0 < -b by omega)
    have h3 := Int.lt_tmod_of_pos a (show 0 < -b by omega)
    rw [Int.tmod_neg] at h2 h3
    have h4 : 0 ≤ a → 0 ≤ a.tmod b := fun h => Int.tmod_nonneg b h
    have h5 : a ≤ 0 → a.tmod b ≤ 0 := fun h => by
      have := Int.tmod_nonneg b (show 0 ≤ -a by omega)
      rw [Int.neg_tmod] at this
      omega
    rw [Int.neg_mul]
    generalize b * a.tdiv b = P at *
    generalize a.tdiv b = q at *
    generalize a.tmod b = r at *
    by_cases c : -P ≤ -a
    · rw [if_pos c, if_neg]
      rintro ⟨c1, c2⟩
      apply c2
      constructor <;> intro <;> omega
    · rw [if_neg c, if_pos]
      exact ⟨by omega, fun c2 => by have := c2.mpr (by omega); omega⟩
def clp (x : Int) : Int := if x > 1000000 then 1000000 else if x < -1000000 then -1000000 else x
theorem clp_ok (x : Int) : -1000000 ≤ clp x ∧ clp x ≤ 1000000 := by unfold clp; split <;> (try split) <;> omega
def opv (t a b : Int) : Int :=
  if t = -11 then clp (a + b) else if t = -12 then clp (a - b) else if t = -13 then clp (a * b) else if t = -14 then fd a b
  else if t = -15 then (if b < a then b else a) else if t = -16 then (if a < b then b else a) else if t = -17 then (if a < b then 1 else 0)
  else if t = -18 then (if b < a then 1 else 0) else if t = -19 then (if a = b then 1 else 0) else if t = -20 then (if a = 1 ∧ b = 1 then 1 else 0) else (if a = 0 ∧ b = 0 then 0 else 1)
/-- one token more -/
def stp (env : Int → Int) (st : List Int) (t : Int) : List Int :=
  if 0 ≤ t then t :: st else if t = -7 then 1 :: st else if -6 ≤ t then env t :: st else if t = -22 then (1 - st.headD 0) :: st.tail
  else opv t (st.tail.headD 0) (st.headD 0) :: st.tail.tail
def run (env : Int → Int) (st : List Int) (l : List Int) : List Int := l.foldl (stp env) st
def ev (env : Int → Int) (l : List Int) : Int := (run env [] l).headD 0
/-- the types of what stands on the stack (true: a test's) -/
def ck1 (ts : List Bool) (t : Int) : Option (List Bool) :=
  if 0 ≤ t then (if t ≤ 9999 ∧ ts.length < 60 then some (false :: ts) else none)
  else if t = -7 then (if ts.length < 60 then some (true :: ts) else none)
  else if -6 ≤ t then (if ts.length < 60 then some (false :: ts) else none)
  else if t = -22 then (match ts with | true :: r => some (true :: r) | _ => none)
  else if -16 ≤ t ∧ t ≤ -11 then (match ts with | false :: false :: r => some (false :: r) | _ => none)
  else if -19 ≤ t ∧ t ≤ -17 then (match ts with | false :: false :: r => some (true :: r) | _ => none)
  else if -21 ≤ t ∧ t ≤ -20 then (match ts with | true :: true :: r => some (true :: r) | _ => none)
  else none
def ck (ts : List Bool) : List Int → Option (List Bool)
  | [] => some ts
  | t :: l => (ck1 ts t).bind fun ts' => ck ts' l
theorem ck_app (ts : List Bool) (a b : List Int) : ck ts (a ++ b) = (ck ts a).bind fun ts' => ck ts' b := by
  induction a generalizing ts with
  | nil => rfl
  | cons t l ih =>
    show (ck1 ts t).bind (fun ts' => ck ts' (l ++ b)) = ((ck1 ts t).bind fun ts' => ck ts' l).bind _
    cases ck1 ts t with
    | none => rfl
    | some ts' => exact ih ts'
def okst : List Int → List Bool → Prop
  | [], [] => True
  | v :: st, b :: ts => (-1000000 ≤ v ∧ v ≤ 1000000 ∧ (b = true → v = 0 ∨ v = 1)) ∧ okst st ts
  | _, _ => False
def oke (env : Int → Int) : Prop := ∀ t, -6 ≤ t → t ≤ -1 → -1000000 ≤ env t ∧ env t ≤ 1000000
theorem okst_len : ∀ {st : List Int} {ts : List Bool}, okst st ts → st.length = ts.length
  | [], [], _ => rfl
  | _ :: _, _ :: _, h => by rw [List.length_cons, List.length_cons, okst_len h.2]
  | [], _ :: _, h => h.elim
  | _ :: _, [], h => h.elim
theorem fd_ok {a b : Int} (h1 : -1000000 ≤ a) (h2 : a ≤ 1000000) : -1000000 ≤ fd a b ∧ fd a b ≤ 1000000 := by
  unfold fd
  by_cases hb : b = 0
  · rw [if_pos hb]; omega
  · rw [if_neg hb]
    have key : ∀ x y : Int, 0 < y → -1000000 ≤ x → x ≤ 1000000 → -1000000 ≤ x / y ∧ x / y ≤ 1000000 := by
      intro x y hy hx1 hx2
      refine ⟨Int.le_ediv_of_mul_le hy (by omega), ?_⟩
      · by_cases h0 : 0 ≤ x
        · have := Int.ediv_le_self y h0; omega
        · have := Int.ediv_neg_of_neg_of_pos (show x < 0 by omega) hy; omega
    by_cases hp : 0 < b
    · rw [if_pos hp]; exact key a b hp h1 h2
    · rw [if_neg hp]; exact key (-a) (-b) (by omega) (by omega) (by omega)
theorem b01 {P : Prop} [Decidable P] : (if P then (1 : Int) else 0) = 0 ∨ (if P then (1 : Int) else 0) = 1 := by by_cases h : P <;> simp [h]
theorem b10 {P : Prop} [Decidable P] : (if P then (0 : Int) else 1) = 0 ∨ (if P then (0 : Int) else 1) = 1 := by by_cases h : P <;> simp [h]
theorem opv_ok {t a b : Int} (ha1 : -1000000 ≤ a) (ha2 : a ≤ 1000000) (hb1 : -1000000 ≤ b) (hb2 : b ≤ 1000000) : -1000000 ≤ opv t a b ∧ opv t a b ≤ 1000000 := by
  unfold opv
  split
  · exact clp_ok _
  split
  · exact clp_ok _
  split
  · exact clp_ok _
  split
  · exact fd_ok ha1 ha2
  split
  · split <;> omega
  split
  · split <;> omega
  split
  · rcases b01 (P := a < b) with h | h <;> rw [h] <;> omega
  split
  · rcases b01 (P := b < a) with h | h <;> rw [h] <;> omega
  split
  · rcases b01 (P := a = b) with h | h <;> rw [h] <;> omega
  split
  · rcases b01 (P := a = 1 ∧ b = 1) with h | h <;> rw [h] <;> omega
  · rcases b10 (P := a = 0 ∧ b = 0) with h | h <;> rw [h] <;> omega
theorem opv_b {t a b : Int} (h1 : -21 ≤ t) (h2 : t ≤ -17) : opv t a b = 0 ∨ opv t a b = 1 := by
  unfold opv
  rw [if_neg (by omega), if_neg (by omega), if_neg (by omega), if_neg (by omega), if_neg (by omega), if_neg (by omega)]
  split
  · exact b01
  split
  · exact b01
  split
  · exact b01
  split
  · exact b01
  · exact b10
/-- what a token does keeps the types -/
theorem stp_ok {env : Int → Int} (he : oke env) {st : List Int} {ts ts' : List Bool} {t : Int} (h : okst st ts) (hc : ck1 ts t = some ts') : okst (stp env st t) ts' := by
  unfold ck1 at hc
  unfold stp
  by_cases c0 : 0 ≤ t
  · rw [if_pos c0] at hc ⊢
    split at hc
    · cases hc; exact ⟨⟨by omega, by omega, fun q => by cases q⟩, h⟩
    · cases hc
  rw [if_neg c0] at hc ⊢
  by_cases c7 : t = -7
  · rw [if_pos c7] at hc ⊢
    split at hc
    · cases hc; exact ⟨⟨by omega, by omega, fun _ => Or.inr rfl⟩, h⟩
    · cases hc
  rw [if_neg c7] at hc ⊢
  by_cases c6 : -6 ≤ t
  · rw [if_pos c6] at hc ⊢
    split at hc
    · cases hc
      have := he t c6 (by omega)
      exact ⟨⟨this.1, this.2, fun q => by cases q⟩, h⟩
    · cases hc
  rw [if_neg c6] at hc ⊢
  by_cases c22 : t = -22
  · rw [if_pos c22] at hc ⊢
    split at hc
    · cases hc
      cases st with
      | nil => exact h.elim
      | cons v st =>
        have := h.1.2.2 rfl
        refine ⟨⟨?_, ?_, fun _ => ?_⟩, h.2⟩ <;> simp only [List.headD_cons] <;> omega
    · cases hc
  rw [if_neg c22] at hc ⊢
  have two : ∀ {b1 b2 : Bool} {r : List Bool}, okst st (b1 :: b2 :: r) → ∃ x y st2, st = y :: x :: st2 ∧ (-1000000 ≤ x ∧ x ≤ 1000000) ∧ (-1000000 ≤ y ∧ y ≤ 1000000) ∧ okst st2 r := by
    intro b1 b2 r h
    match st, h with
    | y :: x :: st2, h => exact ⟨x, y, st2, rfl, ⟨h.2.1.1, h.2.1.2.1⟩, ⟨h.1.1, h.1.2.1⟩, h.2.2⟩
    | [_], h => exact h.2.elim
    | [], h => exact h.elim
  by_cases ca : -16 ≤ t ∧ t ≤ -11
  · rw [if_pos ca] at hc
    split at hc
    · cases hc
      obtain ⟨x, y, st2, rfl, hx, hy, h2⟩ := two h
      have := opv_ok (t := t) hx.1 hx.2 hy.1 hy.2
      exact ⟨⟨this.1, this.2, fun q => by cases q⟩, h2⟩
    · cases hc
  rw [if_neg ca] at hc
  by_cases cb : -19 ≤ t ∧ t ≤ -17
  · rw [if_pos cb] at hc
    split at hc
    · cases hc
      obtain ⟨x, y, st2, rfl, hx, hy, h2⟩ := two h
      have := opv_ok (t := t) hx.1 hx.2 hy.1 hy.2
      exact ⟨⟨this.1, this.2, fun _ => opv_b (by omega) (by omega)⟩, h2⟩
    · cases hc
  rw [if_neg cb] at hc
  by_cases cc : -21 ≤ t ∧ t ≤ -20
  · rw [if_pos cc] at hc
    split at hc
    · cases hc
      obtain ⟨x, y, st2, rfl, hx, hy, h2⟩ := two h
      have := opv_ok (t := t) hx.1 hx.2 hy.1 hy.2
      exact ⟨⟨this.1, this.2, fun _ => opv_b (by omega) (by omega)⟩, h2⟩
    · cases hc
  · rw [if_neg cc] at hc; cases hc
theorem ck1_len {ts ts' : List Bool} {t : Int} (h : ck1 ts t = some ts') : ts'.length ≤ 60 ∨ ts'.length ≤ ts.length := by
  unfold ck1 at h
  repeat' split at h
  all_goals first | (cases h; simp only [List.length_cons]; omega) | cases h
