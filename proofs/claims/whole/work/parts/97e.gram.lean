/-! ===== PURE: sums as they are read ===== -/
abbrev PR : Type := (Int × Nat) ⊕ (Nat × List Int)
def bR (x : PR) (f : Nat → List Int → PR) : PR := match x with | Sum.inl e => Sum.inl e | Sum.inr (q, C) => f q C
def sR (T : List Int) (c : Int) (q : Nat) (f : Nat → PR) : PR := match sg T c q with | some q' => f q' | none => Sum.inl (1, q)
def wMin : List Int := [109, 105, 110]
def wMax : List Int := [109, 97, 120]
def w6 : List (List Int × Int) := [([102, 114, 97, 109, 101], -1), ([100, 111, 119, 110], -2), ([117, 115, 101, 100], -3), ([102, 111, 117, 108, 115], -4), ([109, 101, 97, 110], -5), ([103, 97, 109, 101, 115], -6)]
def wtok (T : List Int) : List (List Int × Int) → Nat → Option (Nat × Int)
  | [], _ => none
  | (w, t) :: l, q => match wrd T w q with | some q1 => some (q1, t) | none => wtok T l q
def simS (T : List Int) (q : Nat) (C : List Int) : PR := match wtok T w6 q with
  | some (q1, t) => Sum.inr (q1, C ++ [t])
  | none => match numb T 0 9999 q with | Sum.inl e => Sum.inl e | Sum.inr (v, q1) => Sum.inr (q1, C ++ [v])
abbrev SF : Type := Nat → Nat → List Int → PR
def pairS (T : List Int) (S : SF) (d q : Nat) (C : List Int) (op : Int) : PR := match sg T 40 q with
  | none => Sum.inl (1, q)
  | some q1 => if d < 6 then bR (S (d + 1) q1 C) (fun q2 C2 => sR T 44 q2 (fun q3 => bR (S (d + 1) q3 C2) (fun q4 C4 => sR T 41 q4 (fun q5 => Sum.inr (q5, C4 ++ [op]))))) else Sum.inl (4, q)
def partS (T : List Int) (S : SF) (d q : Nat) (C : List Int) : PR := match sg T 40 q with
  | some q1 => if d < 6 then bR (S (d + 1) q1 C) (fun q2 C2 => sR T 41 q2 (fun q3 => Sum.inr (q3, C2))) else Sum.inl (4, q)
  | none => match wrd T wMin q with
    | some q1 => pairS T S d q1 C (-15)
    | none => match wrd T wMax q with
      | some q1 => pairS T S d q1 C (-16)
      | none => simS T q C
def prodL (T : List Int) (S : SF) (d : Nat) : Nat → Nat → List Int → PR
  | 0, q, C => Sum.inr (q, C)
  | k + 1, q, C => match sg T 42 q with
    | some q1 => bR (partS T S d q1 C) (fun q2 C2 => prodL T S d k q2 (C2 ++ [-13]))
    | none => match sg T 47 q with
      | some q1 => bR (partS T S d q1 C) (fun q2 C2 => prodL T S d k q2 (C2 ++ [-14]))
      | none => Sum.inr (q, C)
def prodS (T : List Int) (S : SF) (d q : Nat) (C : List Int) : PR := bR (partS T S d q C) (prodL T S d T.length)
def sumL (T : List Int) (S : SF) (d : Nat) : Nat → Nat → List Int → PR
  | 0, q, C => Sum.inr (q, C)
  | k + 1, q, C => match sg T 43 q with
    | some q1 => bR (prodS T S d q1 C) (fun q2 C2 => sumL T S d k q2 (C2 ++ [-11]))
    | none => match sg T 45 q with
      | some q1 => bR (prodS T S d q1 C) (fun q2 C2 => sumL T S d k q2 (C2 ++ [-12]))
      | none => Sum.inr (q, C)
def sumB (T : List Int) (S : SF) (d q : Nat) (C : List Int) : PR := bR (prodS T S d q C) (sumL T S d T.length)
def sumS (T : List Int) : Nat → SF
  | 0 => fun _ q _ => Sum.inl (4, q)
  | n + 1 => fun d q C => sumB T (sumS T n) d q C
/-- what a piece of a text comes to: a fault that is one, or a place further on and as few tokens -/
def GR (T : List Int) (g q : Nat) (C : List Int) (x : PR) : Prop := match x with
  | Sum.inl e => ¬ e.1 = 0
  | Sum.inr (q', C') => IN T q' ∧ q + g ≤ q' ∧ C'.length + q ≤ q' + C.length ∧ C.length ≤ C'.length
theorem GR.bd {T : List Int} {g g' q q0 : Nat} {C C0 : List Int} {x : PR} {f : Nat → List Int → PR} (h : GR T g q C x) (hf : ∀ q1 C1, IN T q1 → q + g ≤ q1 → C1.length + q ≤ q1 + C.length → C.length ≤ C1.length → GR T g' q0 C0 (f q1 C1)) : GR T g' q0 C0 (bR x f) := by
  unfold bR
  match x, h with
  | Sum.inl e, h => exact h
  | Sum.inr (q1, C1), h => exact hf q1 C1 h.1 h.2.1 h.2.2.1 h.2.2.2
theorem GR.sr {T : List Int} {g q : Nat} {C : List Int} {c : Int} (hc : sgc c) {q1 : Nat} {f : Nat → PR} (hf : ∀ q2, IN T q2 → q1 + 1 ≤ q2 → GR T g q C (f q2)) : GR T g q C (sR T c q1 f) := by
  unfold sR
  cases hs : sg T c q1 with
  | none => exact (by decide : ¬ (1 : Int) = 0)
  | some q2 =>
    have := sg_IN hc.2 hs
    exact hf q2 this.1 this.2.1
theorem w_ok : lws wMin ∧ lws wMax ∧ ∀ p ∈ w6, lws p.1 := by
  unfold lws
  decide
theorem c40 : sgc 40 := ⟨by decide, by decide, by decide⟩
theorem c41 : sgc 41 := ⟨by decide, by decide, by decide⟩
theorem c42 : sgc 42 := ⟨by decide, by decide, by decide⟩
theorem c43 : sgc 43 := ⟨by decide, by decide, by decide⟩
theorem c44 : sgc 44 := ⟨by decide, by decide, by decide⟩
theorem c45 : sgc 45 := ⟨by decide, by decide, by decide⟩
theorem c47 : sgc 47 := ⟨by decide, by decide, by decide⟩
theorem wtok_IN {T : List Int} {q q1 : Nat} {t : Int} : ∀ l : List (List Int × Int), (∀ p ∈ l, lws p.1) → wtok T l q = some (q1, t) → IN T q1 ∧ q + 1 ≤ q1
  | [], _, h => by cases h
  | (w, t') :: l, hl, h => by
    unfold wtok at h
    cases hs : wrd T w q with
    | some q' =>
      rw [hs] at h
      injection h with h
      injection h with h1 h2
      have hw : lws w := hl (w, t') (by simp)
      have := wrd_IN hw hs
      have hl1 : 1 ≤ w.length := by cases w with | nil => exact absurd rfl hw.1 | cons _ _ => simp
      rw [h1] at this
      exact ⟨this.1, by omega⟩
    | none =>
      rw [hs] at h
      exact wtok_IN l (fun p hp => hl p (by simp [hp])) h
theorem simS_GR {T : List Int} {q : Nat} {C : List Int} : GR T 1 q C (simS T q C) := by
  unfold simS
  cases hw : wtok T w6 q with
  | some p =>
    obtain ⟨q1, t⟩ := p
    have := wtok_IN w6 w_ok.2.2 hw
    exact ⟨this.1, this.2, by simp; omega, by simp⟩
  | none =>
    dsimp only
    cases hn : numb T 0 9999 q with
    | inl e =>
      dsimp only [GR]
      unfold numb at hn
      split at hn
      · injection hn with hn; rw [← hn]; dsimp only; decide
      · split at hn
        · injection hn with hn; rw [← hn]; dsimp only; decide
        · split at hn
          · cases hn
          · injection hn with hn; rw [← hn]; dsimp only; decide
    | inr p =>
      obtain ⟨v, q1⟩ := p
      have := numb_IN hn
      exact ⟨this.1, this.2.1, by simp; omega, by simp⟩
/-- a reader of sums -/
def SOKs (T : List Int) (S : SF) : Prop := ∀ d q C, GR T 1 q C (S d q C)
theorem GR.sh {T : List Int} {g q q0 : Nat} {C C0 : List Int} {x : PR} (h : GR T g q C x) (h1 : q0 ≤ q) (h2 : C.length + q0 ≤ q + C0.length) (h3 : C0.length ≤ C.length) : GR T g q0 C0 x := by
  match x, h with
  | Sum.inl e, h => exact h
  | Sum.inr (q1, C1), h => exact ⟨h.1, by have := h.2.1; omega, by have := h.2.2.1; omega, by have := h.2.2.2; omega⟩
theorem pairS_GR {T : List Int} {S : SF} (hS : SOKs T S) {d q : Nat} {C : List Int} {op : Int} : GR T 1 q C (pairS T S d q C op) := by
  unfold pairS
  cases hs : sg T 40 q with
  | none => exact (by decide : ¬ (1 : Int) = 0)
  | some q1 =>
    have i1 := sg_IN c40.2 hs
    dsimp only
    by_cases hd : d < 6
    · rw [if_pos hd]
      refine GR.bd (hS (d + 1) q1 C) (fun q2 C2 a1 a2 a3 a4 => ?_)
      refine GR.sr c44 (fun q3 b1 b2 => ?_)
      refine GR.bd (hS (d + 1) q3 C2) (fun q4 C4 e1 e2 e3 e4 => ?_)
      refine GR.sr c41 (fun q5 g1 g2 => ?_)
      exact ⟨g1, by omega, by simp; omega, by simp; omega⟩
    · rw [if_neg hd]
      exact (by decide : ¬ (4 : Int) = 0)
theorem partS_GR {T : List Int} {S : SF} (hS : SOKs T S) {d q : Nat} {C : List Int} : GR T 1 q C (partS T S d q C) := by
  unfold partS
  cases hs : sg T 40 q with
  | some q1 =>
    have i1 := sg_IN c40.2 hs
    dsimp only
    by_cases hd : d < 6
    · rw [if_pos hd]
      refine GR.bd (hS (d + 1) q1 C) (fun q2 C2 a1 a2 a3 a4 => ?_)
      refine GR.sr c41 (fun q3 g1 g2 => ?_)
      exact ⟨g1, by omega, by omega, by omega⟩
    · rw [if_neg hd]
      exact (by decide : ¬ (4 : Int) = 0)
  | none =>
    dsimp only
    cases h1 : wrd T wMin q with
    | some q1 =>
      have i1 := wrd_IN w_ok.1 h1
      exact (pairS_GR hS).sh (by have := i1.2.1; omega) (by have := i1.2.1; omega) (by omega)
    | none =>
      dsimp only
      cases h2 : wrd T wMax q with
      | some q1 =>
        have i1 := wrd_IN w_ok.2.1 h2
        exact (pairS_GR hS).sh (by have := i1.2.1; omega) (by have := i1.2.1; omega) (by omega)
      | none => exact simS_GR
theorem prodL_GR {T : List Int} {S : SF} (hS : SOKs T S) {d : Nat} : ∀ (k q : Nat) (C : List Int), IN T q → GR T 0 q C (prodL T S d k q C)
  | 0, q, C, hI => ⟨hI, by omega, by omega, by omega⟩
  | k + 1, q, C, hI => by
    unfold prodL
    cases h1 : sg T 42 q with
    | some q1 =>
      have i1 := sg_IN c42.2 h1
      refine GR.bd (partS_GR hS) (fun q2 C2 a1 a2 a3 a4 => ?_)
      exact (prodL_GR hS k q2 _ a1).sh (by omega) (by simp; omega) (by simp; omega)
    | none =>
      dsimp only
      cases h2 : sg T 47 q with
      | some q1 =>
        have i1 := sg_IN c47.2 h2
        refine GR.bd (partS_GR hS) (fun q2 C2 a1 a2 a3 a4 => ?_)
        exact (prodL_GR hS k q2 _ a1).sh (by omega) (by simp; omega) (by simp; omega)
      | none => exact ⟨hI, by omega, by omega, by omega⟩
theorem GR.up {T : List Int} {g g' q : Nat} {C : List Int} {x : PR} (h : GR T g q C x) (hg : g' ≤ g) : GR T g' q C x := by
  match x, h with
  | Sum.inl e, h => exact h
  | Sum.inr (q1, C1), h => exact ⟨h.1, by have := h.2.1; omega, h.2.2.1, h.2.2.2⟩
/-- with a step that was made before -/
theorem GR.st {T : List Int} {g q q0 g0 : Nat} {C C0 : List Int} {x : PR} (h : GR T g q C x) (h1 : q0 + g0 ≤ q + g) (h2 : C.length + q0 ≤ q + C0.length) (h3 : C0.length ≤ C.length) : GR T g0 q0 C0 x := by
  match x, h with
  | Sum.inl e, h => exact h
  | Sum.inr (q1, C1), h => exact ⟨h.1, by have := h.2.1; omega, by have := h.2.2.1; omega, by have := h.2.2.2; omega⟩
theorem prodS_GR {T : List Int} {S : SF} (hS : SOKs T S) {d q : Nat} {C : List Int} : GR T 1 q C (prodS T S d q C) := by
  unfold prodS
  refine GR.bd (partS_GR hS) (fun q2 C2 a1 a2 a3 a4 => ?_)
  exact (prodL_GR hS _ q2 _ a1).st (by omega) (by omega) (by omega)
theorem sumL_GR {T : List Int} {S : SF} (hS : SOKs T S) {d : Nat} : ∀ (k q : Nat) (C : List Int), IN T q → GR T 0 q C (sumL T S d k q C)
  | 0, q, C, hI => ⟨hI, by omega, by omega, by omega⟩
  | k + 1, q, C, hI => by
    unfold sumL
    cases h1 : sg T 43 q with
    | some q1 =>
      have i1 := sg_IN c43.2 h1
      refine GR.bd (prodS_GR hS) (fun q2 C2 a1 a2 a3 a4 => ?_)
      exact (sumL_GR hS k q2 _ a1).sh (by omega) (by simp; omega) (by simp; omega)
    | none =>
      dsimp only
      cases h2 : sg T 45 q with
      | some q1 =>
        have i1 := sg_IN c45.2 h2
        refine GR.bd (prodS_GR hS) (fun q2 C2 a1 a2 a3 a4 => ?_)
        exact (sumL_GR hS k q2 _ a1).sh (by omega) (by simp; omega) (by simp; omega)
      | none => exact ⟨hI, by omega, by omega, by omega⟩
theorem sumS_GR {T : List Int} : ∀ n : Nat, SOKs T (sumS T n)
  | 0 => fun _ _ _ => (by decide : ¬ (4 : Int) = 0)
  | n + 1 => fun d q C => by
    show GR T 1 q C (sumB T (sumS T n) d q C)
    unfold sumB
    refine GR.bd (prodS_GR (sumS_GR n)) (fun q2 C2 a1 a2 a3 a4 => ?_)
    exact (sumL_GR (sumS_GR n) _ q2 _ a1).st (by omega) (by omega) (by omega)
