/-! ===== PURE: what is read can be reckoned ===== -/
/-- tokens X that turn a stack of types a into b, where m more stand on it at the most -/
def tyx (X : List Int) (a b : List Bool) (m : Nat) : Prop := ∀ ts : List Bool, ts.length + m ≤ 60 → ck (a ++ ts) X = some (b ++ ts)
def TY (a b : List Bool) (m : Nat) (C : List Int) (x : PR) : Prop := match x with
  | Sum.inl _ => True
  | Sum.inr (_, C') => ∃ X, C' = C ++ X ∧ tyx X a b m
theorem tyx.app {X Y : List Int} {a b c : List Bool} {m : Nat} (h : tyx X a b m) (g : tyx Y b c m) : tyx (X ++ Y) a c m := fun ts hm => by
  rw [ck_app, h ts hm]
  exact g ts hm
theorem tyx.up {X : List Int} {a b : List Bool} {m m' : Nat} (h : tyx X a b m) (hm : m ≤ m') : tyx X a b m' := fun ts hl => h ts (by omega)
/-- above other values -/
theorem tyx.ab {X : List Int} {b : List Bool} {m m' : Nat} (h : tyx X [] b m) (c : List Bool) (hm : m + c.length ≤ m') : tyx X c (b ++ c) m' := fun ts hl => by
  have := h (c ++ ts) (by rw [List.length_append]; omega)
  rw [List.nil_append] at this
  rw [this, List.append_assoc]
theorem tyx.one {t : Int} {a b : List Bool} {m : Nat} (h : ∀ ts : List Bool, ts.length + m ≤ 60 → ck1 (a ++ ts) t = some (b ++ ts)) : tyx [t] a b m := fun ts hm => by
  show (ck1 (a ++ ts) t).bind (fun ts' => ck ts' []) = _
  rw [h ts hm]
  rfl
theorem tyx.nil {a : List Bool} {m : Nat} : tyx [] a a m := fun _ _ => rfl
theorem op2 {t : Int} {m : Nat} (h : -16 ≤ t ∧ t ≤ -11) : tyx [t] [false, false] [false] m := tyx.one (fun ts _ => by
  show ck1 (false :: false :: ts) t = some (false :: ts)
  unfold ck1
  rw [if_neg (by omega), if_neg (by omega), if_neg (by omega), if_neg (by omega), if_pos (by omega)])
theorem opc {t : Int} {m : Nat} (h : -19 ≤ t ∧ t ≤ -17) : tyx [t] [false, false] [true] m := tyx.one (fun ts _ => by
  show ck1 (false :: false :: ts) t = some (true :: ts)
  unfold ck1
  rw [if_neg (by omega), if_neg (by omega), if_neg (by omega), if_neg (by omega), if_neg (by omega), if_pos (by omega)])
theorem opt {t : Int} {m : Nat} (h : -21 ≤ t ∧ t ≤ -20) : tyx [t] [true, true] [true] m := tyx.one (fun ts _ => by
  show ck1 (true :: true :: ts) t = some (true :: ts)
  unfold ck1
  rw [if_neg (by omega), if_neg (by omega), if_neg (by omega), if_neg (by omega), if_neg (by omega), if_neg (by omega), if_pos (by omega)])
theorem opn {m : Nat} : tyx [-22] [true] [true] m := tyx.one (fun ts _ => rfl)
theorem opa {m : Nat} (hm : 1 ≤ m) : tyx [-7] [] [true] m := tyx.one (fun ts h => by
  show ck1 ts (-7) = some (true :: ts)
  unfold ck1
  rw [if_neg (by decide), if_pos rfl, if_pos (by omega)])
theorem opv1 {t : Int} {m : Nat} (h : -6 ≤ t ∧ t ≤ -1) (hm : 1 ≤ m) : tyx [t] [] [false] m := tyx.one (fun ts hl => by
  show ck1 ts t = some (false :: ts)
  unfold ck1
  rw [if_neg (by omega), if_neg (by omega), if_pos (by omega), if_pos (by omega)])
theorem opnum {t : Int} {m : Nat} (h : 0 ≤ t ∧ t ≤ 9999) (hm : 1 ≤ m) : tyx [t] [] [false] m := tyx.one (fun ts hl => by
  show ck1 ts t = some (false :: ts)
  unfold ck1
  rw [if_pos (by omega), if_pos ⟨by omega, by omega⟩])
theorem TY.bd {a b c : List Bool} {m : Nat} {C : List Int} {x : PR} {f : Nat → List Int → PR} (h : TY a b m C x) (hf : ∀ q X, tyx X a b m → TY b c m (C ++ X) (f q (C ++ X))) : TY a c m C (bR x f) := by
  unfold bR
  match x, h with
  | Sum.inl e, _ => trivial
  | Sum.inr (q, C'), ⟨X, e, hX⟩ =>
    subst e
    have := hf q X hX
    dsimp only
    match hx : f q (C ++ X), this with
    | Sum.inl e, _ => trivial
    | Sum.inr (q', C''), ⟨Y, e, hY⟩ => exact ⟨X ++ Y, by rw [e, List.append_assoc], hX.app hY⟩
theorem TY.sr {T : List Int} {a b : List Bool} {m : Nat} {C : List Int} {c : Int} {q : Nat} {f : Nat → PR} (hf : ∀ q', TY a b m C (f q')) : TY a b m C (sR T c q f) := by
  unfold sR
  cases sg T c q with
  | none => trivial
  | some q' => exact hf q'
theorem TY.tok {a b : List Bool} {m : Nat} {C : List Int} {q : Nat} {t : Int} (h : tyx [t] a b m) : TY a b m C (Sum.inr (q, C ++ [t])) := ⟨[t], rfl, h⟩
theorem TY.ok {a : List Bool} {m : Nat} {C : List Int} {q : Nat} : TY a a m C (Sum.inr (q, C)) := ⟨[], (List.append_nil C).symm, tyx.nil⟩
theorem TY.ab {b : List Bool} {m m' : Nat} {C : List Int} {x : PR} (h : TY [] b m C x) (c : List Bool) (hm : m + c.length ≤ m') : TY c (b ++ c) m' C x := by
  match x, h with
  | Sum.inl e, _ => trivial
  | Sum.inr (q, C'), ⟨X, e, hX⟩ => exact ⟨X, e, hX.ab c hm⟩
theorem TY.up {a b : List Bool} {m m' : Nat} {C : List Int} {x : PR} (h : TY a b m C x) (hm : m ≤ m') : TY a b m' C x := by
  match x, h with
  | Sum.inl e, _ => trivial
  | Sum.inr (q, C'), ⟨X, e, hX⟩ => exact ⟨X, e, hX.up hm⟩
theorem wtok_ty {T : List Int} {q q1 : Nat} {t : Int} : ∀ l : List (List Int × Int), (∀ p ∈ l, -6 ≤ p.2 ∧ p.2 ≤ -1) → wtok T l q = some (q1, t) → -6 ≤ t ∧ t ≤ -1
  | [], _, h => by cases h
  | (w, t') :: l, hl, h => by
    unfold wtok at h
    cases hs : wrd T w q with
    | some q' =>
      rw [hs] at h
      injection h with h
      injection h with h1 h2
      rw [← h2]
      exact hl (w, t') (by simp)
    | none =>
      rw [hs] at h
      exact wtok_ty l (fun p hp => hl p (by simp [hp])) h
theorem simS_TY {T : List Int} {q : Nat} {C : List Int} {m : Nat} (hm : 1 ≤ m) : TY [] [false] m C (simS T q C) := by
  unfold simS
  cases hw : wtok T w6 q with
  | some p =>
    obtain ⟨q1, t⟩ := p
    exact TY.tok (opv1 (wtok_ty w6 (by decide) hw) hm)
  | none =>
    dsimp only
    cases hn : numb T 0 9999 q with
    | inl e => trivial
    | inr p =>
      obtain ⟨v, q1⟩ := p
      have := numb_IN hn
      exact TY.tok (opnum ⟨this.2.2.1, this.2.2.2.1⟩ hm)
/-- sums within need so much room -/
def STY (S : SF) (d : Nat) : Prop := d < 6 → ∀ q C, TY [] [false] (3 * (6 - d)) C (S (d + 1) q C)
theorem pairS_TY {T : List Int} {S : SF} {d : Nat} (hS : STY S d) {q : Nat} {C : List Int} {op : Int} (hop : -16 ≤ op ∧ op ≤ -11) : TY [] [false] (3 * (6 - d) + 1) C (pairS T S d q C op) := by
  unfold pairS
  cases hs : sg T 40 q with
  | none => trivial
  | some q1 =>
    dsimp only
    by_cases hd : d < 6
    · rw [if_pos hd]
      refine TY.bd ((hS hd q1 C).up (by omega)) (fun q2 X hX => TY.sr (fun q3 => ?_))
      refine TY.bd (b := [false, false]) ((hS hd q3 (C ++ X)).ab [false] (by simp)) (fun q4 Y hY => TY.sr (fun q5 => TY.tok (op2 hop)))
    · rw [if_neg hd]; trivial
theorem partS_TY {T : List Int} {S : SF} {d : Nat} (hS : STY S d) {q : Nat} {C : List Int} : TY [] [false] (3 * (6 - d) + 1) C (partS T S d q C) := by
  unfold partS
  cases hs : sg T 40 q with
  | some q1 =>
    dsimp only
    by_cases hd : d < 6
    · rw [if_pos hd]
      exact TY.bd ((hS hd q1 C).up (by omega)) (fun q2 X hX => TY.sr (fun q3 => TY.ok))
    · rw [if_neg hd]; trivial
  | none =>
    dsimp only
    cases wrd T wMin q with
    | some q1 => exact pairS_TY hS (by decide)
    | none =>
      dsimp only
      cases wrd T wMax q with
      | some q1 => exact pairS_TY hS (by decide)
      | none => exact simS_TY (by omega)
theorem prodL_TY {T : List Int} {S : SF} {d : Nat} (hS : STY S d) : ∀ (k q : Nat) (C : List Int), TY [false] [false] (3 * (6 - d) + 2) C (prodL T S d k q C)
  | 0, q, C => TY.ok
  | k + 1, q, C => by
    unfold prodL
    have go : ∀ {q1 : Nat} {op : Int}, -16 ≤ op ∧ op ≤ -11 → TY [false] [false] (3 * (6 - d) + 2) C (bR (partS T S d q1 C) (fun q2 C2 => prodL T S d k q2 (C2 ++ [op]))) := by
      intro q1 op hop
      refine TY.bd (b := [false, false]) ((partS_TY hS (q := q1) (C := C)).ab [false] (by simp)) (fun q2 X hX => ?_)
      have := prodL_TY (T := T) hS k q2 (C ++ X ++ [op])
      match hx : prodL T S d k q2 (C ++ X ++ [op]), this with
      | Sum.inl e, _ => trivial
      | Sum.inr (q', C'), ⟨Y, e, hY⟩ => exact ⟨[op] ++ Y, by rw [e, List.append_assoc], (op2 hop).app hY⟩
    cases sg T 42 q with
    | some q1 => exact go (by decide)
    | none =>
      dsimp only
      cases sg T 47 q with
      | some q1 => exact go (by decide)
      | none => exact TY.ok
theorem prodS_TY {T : List Int} {S : SF} {d : Nat} (hS : STY S d) {q : Nat} {C : List Int} : TY [] [false] (3 * (6 - d) + 2) C (prodS T S d q C) := TY.bd ((partS_TY hS).up (by omega)) (fun q2 X _ => prodL_TY hS _ q2 _)
theorem sumL_TY {T : List Int} {S : SF} {d : Nat} (hS : STY S d) : ∀ (k q : Nat) (C : List Int), TY [false] [false] (3 * (6 - d) + 3) C (sumL T S d k q C)
  | 0, q, C => TY.ok
  | k + 1, q, C => by
    unfold sumL
    have go : ∀ {q1 : Nat} {op : Int}, -16 ≤ op ∧ op ≤ -11 → TY [false] [false] (3 * (6 - d) + 3) C (bR (prodS T S d q1 C) (fun q2 C2 => sumL T S d k q2 (C2 ++ [op]))) := by
      intro q1 op hop
      refine TY.bd (b := [false, false]) ((prodS_TY hS (q := q1) (C := C)).ab [false] (by simp)) (fun q2 X hX => ?_)
      have := sumL_TY (T := T) hS k q2 (C ++ X ++ [op])
      match hx : sumL T S d k q2 (C ++ X ++ [op]), this with
      | Sum.inl e, _ => trivial
      | Sum.inr (q', C'), ⟨Y, e, hY⟩ => exact ⟨[op] ++ Y, by rw [e, List.append_assoc], (op2 hop).app hY⟩
    cases sg T 43 q with
    | some q1 => exact go (by decide)
    | none =>
      dsimp only
      cases sg T 45 q with
      | some q1 => exact go (by decide)
      | none => exact TY.ok
theorem sumS_TY {T : List Int} : ∀ (n d q : Nat) (C : List Int), TY [] [false] (3 * (6 - d) + 3) C (sumS T n d q C)
  | 0, d, q, C => trivial
  | n + 1, d, q, C => by
    have hS : STY (sumS T n) d := fun hd q C => (sumS_TY n (d + 1) q C).up (by omega)
    exact TY.bd ((prodS_TY hS).up (by omega)) (fun q2 X _ => sumL_TY hS _ q2 _)
/-- facts within need so much room -/
def FTY (F : SF) (d : Nat) : Prop := ∀ q C, TY [] [true] (3 * (6 - d) + 4) C (F d q C)
theorem bothL_TY {T : List Int} {F : SF} {d : Nat} (hF : FTY F d) : ∀ (k q : Nat) (C : List Int), TY [true] [true] (3 * (6 - d) + 5) C (bothL T F d k q C)
  | 0, q, C => TY.ok
  | k + 1, q, C => by
    unfold bothL
    cases wrd T wAnd q with
    | some q1 =>
      refine TY.bd (b := [true, true]) ((hF q1 C).ab [true] (by simp)) (fun q2 X hX => ?_)
      have := bothL_TY (T := T) hF k q2 (C ++ X ++ [-20])
      match hx : bothL T F d k q2 (C ++ X ++ [-20]), this with
      | Sum.inl e, _ => trivial
      | Sum.inr (q', C'), ⟨Y, e, hY⟩ => exact ⟨[-20] ++ Y, by rw [e, List.append_assoc], (opt (by decide)).app hY⟩
    | none => exact TY.ok
theorem bothS_TY {T : List Int} {F : SF} {d : Nat} (hF : FTY F d) {q : Nat} {C : List Int} : TY [] [true] (3 * (6 - d) + 5) C (bothS T F d q C) := TY.bd ((hF q C).up (by omega)) (fun q2 X _ => bothL_TY hF _ q2 _)
theorem testL_TY {T : List Int} {F : SF} {d : Nat} (hF : FTY F d) : ∀ (k q : Nat) (C : List Int), TY [true] [true] (3 * (6 - d) + 6) C (testL T F d k q C)
  | 0, q, C => TY.ok
  | k + 1, q, C => by
    unfold testL
    cases wrd T wOr q with
    | some q1 =>
      refine TY.bd (b := [true, true]) ((bothS_TY hF (q := q1) (C := C)).ab [true] (by simp)) (fun q2 X hX => ?_)
      have := testL_TY (T := T) hF k q2 (C ++ X ++ [-21])
      match hx : testL T F d k q2 (C ++ X ++ [-21]), this with
      | Sum.inl e, _ => trivial
      | Sum.inr (q', C'), ⟨Y, e, hY⟩ => exact ⟨[-21] ++ Y, by rw [e, List.append_assoc], (opt (by decide)).app hY⟩
    | none => exact TY.ok
theorem testS_TY {T : List Int} {F : SF} {d : Nat} (hF : FTY F d) {q : Nat} {C : List Int} : TY [] [true] (3 * (6 - d) + 6) C (testS T F d q C) := TY.bd ((bothS_TY hF).up (by omega)) (fun q2 X _ => testL_TY hF _ q2 _)
theorem cmpS_TY {T : List Int} {d q : Nat} {C : List Int} : TY [false] [true] (3 * (6 - d) + 4) C (cmpS T d q C) := by
  unfold cmpS
  have go : ∀ {q1 : Nat} {t : Int}, -19 ≤ t ∧ t ≤ -17 → TY [false] [true] (3 * (6 - d) + 4) C (bR (sumS T (7 - d) d q1 C) (fun q2 C2 => Sum.inr (q2, C2 ++ [t]))) := by
    intro q1 t ht
    exact TY.bd (b := [false, false]) ((sumS_TY (7 - d) d q1 C).ab [false] (by simp)) (fun q2 X hX => TY.tok (opc ht))
  cases sg T 60 q with
  | some q1 => exact go (by decide)
  | none =>
    dsimp only
    cases sg T 62 q with
    | some q1 => exact go (by decide)
    | none =>
      dsimp only
      cases sg T 61 q with
      | some q1 => exact go (by decide)
      | none => trivial
theorem factS_TY {T : List Int} : ∀ (n d : Nat), FTY (factS T n) d
  | 0, d => fun q C => trivial
  | n + 1, d => fun q C => by
    have hF : d < 6 → FTY (factS T n) (d + 1) := fun hd => factS_TY n (d + 1)
    show TY [] [true] (3 * (6 - d) + 4) C (factB T (factS T n) d q C)
    unfold factB
    cases wrd T wNot q with
    | some q1 =>
      dsimp only
      by_cases hd : d < 6
      · rw [if_pos hd]
        exact TY.bd ((hF hd q1 C).up (by omega)) (fun q2 X hX => TY.tok opn)
      · rw [if_neg hd]; trivial
    | none =>
      dsimp only
      cases sg T 91 q with
      | some q1 =>
        dsimp only
        by_cases hd : d < 6
        · rw [if_pos hd]
          exact TY.bd ((testS_TY (hF hd)).up (by omega)) (fun q2 X hX => TY.sr (fun q3 => TY.ok))
        · rw [if_neg hd]; trivial
      | none =>
        dsimp only
        cases wrd T wAll q with
        | some q1 => exact TY.tok (opa (by omega))
        | none => exact TY.bd ((sumS_TY (7 - d) d q C).up (by omega)) (fun q2 X hX => cmpS_TY)
