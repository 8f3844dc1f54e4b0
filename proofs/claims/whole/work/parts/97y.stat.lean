/-! ===== PURE: statements and games as they are read ===== -/
abbrev GP : Type := (Int × Nat) ⊕ (Nat × Gm)
def bN (x : PN) (f : Int → Nat → GP) : GP := match x with | Sum.inl e => Sum.inl e | Sum.inr (v, q) => f v q
def bC (x : PR) (f : Nat → List Int → GP) : GP := match x with | Sum.inl e => Sum.inl e | Sum.inr (q, C) => f q C
def wR (T w : List Int) (q : Nat) (f : Nat → GP) : GP := match wrd T w q with | some q' => f q' | none => Sum.inl (1, q)
def gset (G : Gm) (k v : Int) : Gm := (fun i => if i = k then v else G.1 i, G.2)
def gtok (G : Gm) (C : List Int) : Gm := (G.1, gW G, gH G, C, gJ G)
def gadd (G : Gm) (a b : Nat) : Gm := (G.1, gW G ++ [(a, b, (gC G).length)], gH G, gC G, gJ G)
def ghcp (G : Gm) (a : Nat) : Gm := (G.1, gW G, (a, (gC G).length), gC G, gJ G)
def gjoin (G : Gm) (a b : Int) : Gm := (G.1, gW G, gH G, gC G, fun x y => gJ G x y || decide (x = a ∧ y = b) || decide (x = b ∧ y = a))
def wPins : List Int := [112, 105, 110, 115]
def wFrames : List Int := [102, 114, 97, 109, 101, 115]
def wRolls : List Int := [114, 111, 108, 108, 115]
def wClean : List Int := [99, 108, 101, 97, 110]
def wEarns : List Int := [101, 97, 114, 110, 115]
def wFoul : List Int := [102, 111, 117, 108]
def wWorth : List Int := [119, 111, 114, 116, 104]
def wWhen : List Int := [119, 104, 101, 110]
def wHcap : List Int := [104, 97, 110, 100, 105, 99, 97, 112]
def wJoins : List Int := [106, 111, 105, 110, 115]
theorem w10_ok : (lws wPins ∧ lws wFrames ∧ lws wRolls ∧ lws wClean ∧ lws wFoul) ∧ (lws wWorth ∧ lws wHcap ∧ lws wJoins) ∧ lws wEarns ∧ lws wWhen := by
  unfold lws
  decide
def fldS (T : List Int) (G : Gm) (k lo hi : Int) (q : Nat) : GP := bN (numb T lo hi q) fun v q1 => Sum.inr (q1, gset G k v)
def clnS (T : List Int) (G : Gm) (q : Nat) : GP := bN (numb T 1 3 q) fun v q1 => wR T wEarns q1 fun q2 => bN (numb T 0 3 q2) fun u q3 => Sum.inr (q3, gset G (3 + v) u)
def joiS (T : List Int) (G : Gm) (q : Nat) : GP := bN (numb T 0 8 q) fun a q1 => bN (numb T 0 8 q1) fun b q2 => if a = b then Sum.inl (2, q1) else Sum.inr (q2, gjoin G a b)
def worS (T : List Int) (G : Gm) (q : Nat) : GP := bC (sumS T 7 0 q (gC G)) fun q1 C1 => wR T wWhen q1 fun q2 => bC (testS T (factS T 7) 0 q2 C1) fun q3 C3 => Sum.inr (q3, gadd (gtok G C3) (gC G).length C1.length)
def hcaS (T : List Int) (G : Gm) (q : Nat) : GP := bC (sumS T 7 0 q (gC G)) fun q1 C1 => Sum.inr (q1, ghcp (gtok G C1) (gC G).length)
def stmS (T : List Int) (G : Gm) (q : Nat) : GP := match wrd T wPins q with
  | some q1 => fldS T G 0 1 9 q1
  | none => match wrd T wFrames q with
    | some q1 => fldS T G 1 1 8 q1
    | none => match wrd T wRolls q with
      | some q1 => fldS T G 2 1 3 q1
      | none => match wrd T wClean q with
        | some q1 => clnS T G q1
        | none => match wrd T wFoul q with
          | some q1 => fldS T G 3 0 10 q1
          | none => match wrd T wWorth q with
            | some q1 => worS T G q1
            | none => match wrd T wHcap q with
              | some q1 => hcaS T G q1
              | none => match wrd T wJoins q with
                | some q1 => joiS T G q1
                | none => Sum.inl (1, q)
/-- statements from place q on, n were read -/
def reaS (T : List Int) : Nat → Nat → Gm → Nat → GP
  | k, n, G, q => if q < T.length then (match k with
    | 0 => Sum.inl (5, q)
    | k + 1 => match stmS T G q with
      | Sum.inl e => Sum.inl e
      | Sum.inr (q1, G1) => match sg T 59 q1 with
        | some q2 => reaS T k (n + 1) G1 q2
        | none => Sum.inl (1, q1)) else Sum.inr (n, G)
def G0 : Gm := (fun i => if i = 0 then 9 else if i = 1 then 6 else if i = 2 then 2 else 0, [], (0, 0), [], fun _ _ => false)
theorem G0_ok : GOK G0 := by
  refine ⟨by decide, by decide, by decide, by decide, fun k h1 h2 => ?_, ⟨by decide, by decide, fun q hq => absurd hq (by simp [G0, gW]), by decide, by decide, Or.inl rfl⟩, fun _ _ => rfl, fun _ => rfl⟩
  unfold G0
  dsimp only
  rw [if_neg (by omega), if_neg (by omega), if_neg (by omega)]
  omega
/-- a game half told, n statements, read up to q -/
def GI (T : List Int) (n q : Nat) (G : Gm) : Prop := GOK G ∧ (gW G).length ≤ n ∧ (gC G).length ≤ q ∧ IN T q
/-- what a statement comes to -/
def SO (T : List Int) (n q : Nat) (x : GP) : Prop := match x with
  | Sum.inl e => ¬ e.1 = 0
  | Sum.inr (q', G') => GI T n q' G' ∧ q ≤ q'
theorem SO.bn {T : List Int} {n q : Nat} {lo hi : Int} {p : Nat} {f : Int → Nat → GP} (hf : ∀ v q', numb T lo hi p = Sum.inr (v, q') → IN T q' → p + 1 ≤ q' → lo ≤ v → v ≤ hi → SO T n q (f v q')) : SO T n q (bN (numb T lo hi p) f) := by
  unfold bN
  cases hn : numb T lo hi p with
  | inl e =>
    show ¬ e.1 = 0
    unfold numb at hn
    split at hn
    · injection hn with hn; rw [← hn]; dsimp only; decide
    · split at hn
      · injection hn with hn; rw [← hn]; dsimp only; decide
      · split at hn
        · cases hn
        · injection hn with hn; rw [← hn]; dsimp only; decide
  | inr y =>
    obtain ⟨v, q1⟩ := y
    have := numb_IN hn
    exact hf v q1 hn this.1 this.2.1 this.2.2.1 this.2.2.2.1
theorem SO.wr {T w : List Int} (hw : lws w) {n q p : Nat} {f : Nat → GP} (hf : ∀ q', wrd T w p = some q' → IN T q' → p + 1 ≤ q' → SO T n q (f q')) : SO T n q (wR T w p f) := by
  unfold wR
  cases h : wrd T w p with
  | none => exact (by decide : ¬ (1 : Int) = 0)
  | some q1 =>
    have := wrd_1 hw h
    exact hf q1 h this.1 this.2
theorem SO.bc {T : List Int} {n q g p : Nat} {C : List Int} {x : PR} (hg : GR T g p C x) {f : Nat → List Int → GP} (hf : ∀ q' C', x = Sum.inr (q', C') → IN T q' → p + g ≤ q' → C'.length + p ≤ q' + C.length → C.length ≤ C'.length → SO T n q (f q' C')) : SO T n q (bC x f) := by
  unfold bC
  match x, hg with
  | Sum.inl e, h => exact h
  | Sum.inr (q1, C1), h => exact hf q1 C1 rfl h.1 h.2.1 h.2.2.1 h.2.2.2
theorem slc_app {C X : List Int} {a b : Nat} (hab : a ≤ b) (hb : b ≤ C.length) : slc (C ++ X) a b = slc C a b := by
  unfold slc
  rw [List.drop_append_of_le_length (by omega), List.take_append_of_le_length (by rw [List.length_drop]; omega)]
theorem slc_end {C X : List Int} : slc (C ++ X) C.length (C ++ X).length = X := by
  unfold slc
  rw [List.drop_left, List.length_append, Nat.add_sub_cancel_left, List.take_length]
theorem WOK.app {C X : List Int} {w : Nat × Nat × Nat} (h : WOK C w) : WOK (C ++ X) w := by
  obtain ⟨h1, h2, h3, h4, h5⟩ := h
  refine ⟨h1, h2, by rw [List.length_append]; omega, ?_, ?_⟩
  · rw [slc_app h1 (by omega)]; exact h4
  · rw [slc_app h2 h3]; exact h5
/-- more tokens -/
theorem GOK.tok {G : Gm} (h : GOK G) {X : List Int} (hl : (gC G ++ X).length ≤ 700) : GOK (gtok G (gC G ++ X)) := by
  obtain ⟨h1, h2, h3, h4, h5, ⟨c1, c2, c3, c4, c5, c6⟩, h7, h8⟩ := h
  refine ⟨h1, h2, h3, h4, h5, ⟨hl, c2, fun q hq => (c3 q hq).app, c4, ?_, ?_⟩, h7, h8⟩
  · show (gH G).2 ≤ (gC G ++ X).length
    rw [List.length_append]
    omega
  · rcases c6 with z | z
    · exact Or.inl z
    · refine Or.inr ?_
      show ck [] (slc (gC G ++ X) (gH G).1 (gH G).2) = some [false]
      rw [slc_app c4 c5]
      exact z
theorem GOK.set {G : Gm} (h : GOK G) {k v : Int} (hk : (k = 0 ∧ 1 ≤ v ∧ v ≤ 9) ∨ (k = 1 ∧ 1 ≤ v ∧ v ≤ 8) ∨ (k = 2 ∧ 1 ≤ v ∧ v ≤ 3) ∨ (k = 3 ∧ 0 ≤ v ∧ v ≤ 10) ∨ (4 ≤ k ∧ k ≤ 6 ∧ 0 ≤ v ∧ v ≤ 3)) : GOK (gset G k v) := by
  obtain ⟨h1, h2, h3, h4, h5, h6, h7, h8⟩ := h
  have e : ∀ i, (gset G k v).1 i = if i = k then v else G.1 i := fun _ => rfl
  refine ⟨?_, ?_, ?_, ?_, fun j j1 j2 => ?_, h6, h7, h8⟩
  · rw [e]; split <;> omega
  · rw [e]; split <;> omega
  · rw [e]; split <;> omega
  · rw [e]; split <;> omega
  · rw [e]
    have := h5 j j1 j2
    split <;> omega
theorem tyx_ck {X : List Int} {b : List Bool} {m : Nat} (h : tyx X [] b m) (hm : m ≤ 60) : ck [] X = some b := by
  have := h [] (by simpa using hm)
  simpa using this
theorem TY.inr {a b : List Bool} {m : Nat} {C : List Int} {x : PR} {q : Nat} {C' : List Int} (h : TY a b m C x) (e : x = Sum.inr (q, C')) : ∃ X, C' = C ++ X ∧ tyx X a b m := by rw [e] at h; exact h
theorem fldS_SO {T : List Int} {G : Gm} {n q p : Nat} (hp : q ≤ p) (h : GI T n q G) {k lo hi : Int} (hk : (k = 0 ∧ lo = 1 ∧ hi = 9) ∨ (k = 1 ∧ lo = 1 ∧ hi = 8) ∨ (k = 2 ∧ lo = 1 ∧ hi = 3) ∨ (k = 3 ∧ lo = 0 ∧ hi = 10)) : SO T (n + 1) q (fldS T G k lo hi p) := by
  unfold fldS
  refine SO.bn (fun v q' _ i1 i2 i3 i4 => ?_)
  refine ⟨⟨h.1.set (by omega), ?_, ?_, i1⟩, by omega⟩
  · show (gW G).length ≤ n + 1
    have := h.2.1; omega
  · show (gC G).length ≤ q'
    have := h.2.2.1; omega
theorem clnS_SO {T : List Int} {G : Gm} {n q p : Nat} (hp : q ≤ p) (h : GI T n q G) : SO T (n + 1) q (clnS T G p) := by
  unfold clnS
  refine SO.bn (fun v q1 _ i1 i2 i3 i4 => ?_)
  refine SO.wr w10_ok.2.2.1 (fun q2 _ j1 j2 => ?_)
  refine SO.bn (fun u q3 _ k1 k2 k3 k4 => ?_)
  refine ⟨⟨h.1.set (by omega), ?_, ?_, k1⟩, by omega⟩
  · show (gW G).length ≤ n + 1
    have := h.2.1; omega
  · show (gC G).length ≤ q3
    have := h.2.2.1; omega
theorem joiS_SO {T : List Int} {G : Gm} {n q p : Nat} (hp : q ≤ p) (h : GI T n q G) : SO T (n + 1) q (joiS T G p) := by
  unfold joiS
  refine SO.bn (fun a q1 _ i1 i2 i3 i4 => ?_)
  refine SO.bn (fun b q2 _ j1 j2 j3 j4 => ?_)
  by_cases c : a = b
  · rw [if_pos c]; exact (by decide : ¬ (2 : Int) = 0)
  · rw [if_neg c]
    obtain ⟨h1, h2, h3, h4, h5, h6, h7, h8⟩ := h.1
    refine ⟨⟨⟨h1, h2, h3, h4, h5, h6, fun x y => ?_, fun x => ?_⟩, ?_, ?_, j1⟩, by omega⟩
    · show (gJ G x y || decide (x = a ∧ y = b) || decide (x = b ∧ y = a)) = (gJ G y x || decide (y = a ∧ x = b) || decide (y = b ∧ x = a))
      rw [h7 x y, decide_eq_decide.mpr (show (x = a ∧ y = b) ↔ (y = b ∧ x = a) from and_comm), decide_eq_decide.mpr (show (x = b ∧ y = a) ↔ (y = a ∧ x = b) from and_comm), Bool.or_assoc, Bool.or_assoc, Bool.or_comm (decide (y = b ∧ x = a))]
    · show (gJ G x x || decide (x = a ∧ x = b) || decide (x = b ∧ x = a)) = false
      rw [h8 x, decide_eq_false (show ¬ (x = a ∧ x = b) by omega), decide_eq_false (show ¬ (x = b ∧ x = a) by omega)]
      rfl
    · show (gW G).length ≤ n + 1
      have := h.2.1; omega
    · show (gC G).length ≤ q2
      have := h.2.2.1; omega
theorem hcaS_SO {T : List Int} (hT : TB T) {G : Gm} {n q p : Nat} (hp : q ≤ p) (h : GI T n q G) : SO T (n + 1) q (hcaS T G p) := by
  unfold hcaS
  have hl := hT.1
  have hC := h.2.2.1
  refine SO.bc (sumS_GR (T := T) 7 0 p (gC G)) (fun q1 C1 hx i1 i2 i3 i4 => ?_)
  obtain ⟨X, rfl, hX⟩ := (sumS_TY (T := T) 7 0 p (gC G)).inr hx
  have hq := i1.2.1
  have hl1 : (gC G ++ X).length ≤ q1 := by omega
  have o := h.1.tok (X := X) (by omega)
  obtain ⟨h1, h2, h3, h4, h5, ⟨c1, c2, c3, c4, c5, c6⟩, h7, h8⟩ := o
  refine ⟨⟨⟨h1, h2, h3, h4, h5, ⟨c1, c2, c3, i4, Nat.le_refl _, Or.inr ?_⟩, h7, h8⟩, ?_, hl1, i1⟩, by omega⟩
  · show ck [] (slc (gC G ++ X) (gC G).length (gC G ++ X).length) = some [false]
    rw [slc_end]
    exact tyx_ck hX (by omega)
  · show (gW G).length ≤ n + 1
    have := h.2.1; omega
theorem worS_SO {T : List Int} (hT : TB T) {G : Gm} {n q p : Nat} (hn : n < 30) (hp : q ≤ p) (h : GI T n q G) : SO T (n + 1) q (worS T G p) := by
  unfold worS
  have hl := hT.1
  have hC := h.2.2.1
  refine SO.bc (sumS_GR (T := T) 7 0 p (gC G)) (fun q1 C1 hx i1 i2 i3 i4 => ?_)
  obtain ⟨X, rfl, hX⟩ := (sumS_TY (T := T) 7 0 p (gC G)).inr hx
  refine SO.wr w10_ok.2.2.2 (fun q2 _ j1 j2 => ?_)
  refine SO.bc (testS_GR (factS_GR 7) (d := 0) (q := q2) (C := gC G ++ X)) (fun q3 C3 hx2 k1 k2 k3 k4 => ?_)
  obtain ⟨Y, rfl, hY⟩ := (testS_TY (T := T) (factS_TY 7 0) (q := q2) (C := gC G ++ X)).inr hx2
  have hq := k1.2.1
  have hl1 : (gC G ++ X ++ Y).length ≤ q3 := by omega
  have o := h.1.tok (X := X ++ Y) (by rw [← List.append_assoc]; omega)
  rw [← List.append_assoc] at o
  obtain ⟨h1, h2, h3, h4, h5, ⟨c1, c2, c3, c4, c5, c6⟩, h7, h8⟩ := o
  have hw : (gW G).length ≤ n := h.2.1
  have hwl : (gW G ++ [((gC G).length, (gC G ++ X).length, (gC G ++ X ++ Y).length)]).length ≤ n + 1 := by rw [List.length_append, List.length_singleton]; omega
  refine ⟨⟨⟨h1, h2, h3, h4, h5, ⟨c1, by show (gW G ++ [((gC G).length, (gC G ++ X).length, (gC G ++ X ++ Y).length)]).length ≤ 30; omega, fun w hw => ?_, c4, c5, c6⟩, h7, h8⟩, hwl, hl1, k1⟩, by omega⟩
  rcases List.mem_append.mp (show w ∈ gW G ++ [((gC G).length, (gC G ++ X).length, (gC G ++ X ++ Y).length)] from hw) with z | z
  · exact c3 w z
  · rw [List.mem_singleton.mp z]
    refine ⟨i4, k4, Nat.le_refl _, ?_, ?_⟩
    · show ck [] (slc (gC G ++ X ++ Y) (gC G).length (gC G ++ X).length) = some [false]
      rw [slc_app i4 (Nat.le_refl _), slc_end]
      exact tyx_ck hX (by omega)
    · show ck [] (slc (gC G ++ X ++ Y) (gC G ++ X).length (gC G ++ X ++ Y).length) = some [true]
      rw [slc_end]
      exact tyx_ck hY (by omega)
theorem stmS_SO {T : List Int} (hT : TB T) {G : Gm} {n q : Nat} (hn : n < 30) (h : GI T n q G) : SO T (n + 1) q (stmS T G q) := by
  have ok := w10_ok
  unfold stmS
  cases h1 : wrd T wPins q with
  | some q1 => exact fldS_SO (by have := wrd_1 ok.1.1 h1; omega) h (by omega)
  | none =>
  dsimp only
  cases h2 : wrd T wFrames q with
  | some q1 => exact fldS_SO (by have := wrd_1 ok.1.2.1 h2; omega) h (by omega)
  | none =>
  dsimp only
  cases h3 : wrd T wRolls q with
  | some q1 => exact fldS_SO (by have := wrd_1 ok.1.2.2.1 h3; omega) h (by omega)
  | none =>
  dsimp only
  cases h4 : wrd T wClean q with
  | some q1 => exact clnS_SO (by have := wrd_1 ok.1.2.2.2.1 h4; omega) h
  | none =>
  dsimp only
  cases h5 : wrd T wFoul q with
  | some q1 => exact fldS_SO (by have := wrd_1 ok.1.2.2.2.2 h5; omega) h (by omega)
  | none =>
  dsimp only
  cases h6 : wrd T wWorth q with
  | some q1 => exact worS_SO hT hn (by have := wrd_1 ok.2.1.1 h6; omega) h
  | none =>
  dsimp only
  cases h7 : wrd T wHcap q with
  | some q1 => exact hcaS_SO hT (by have := wrd_1 ok.2.1.2.1 h7; omega) h
  | none =>
  dsimp only
  cases h8 : wrd T wJoins q with
  | some q1 => exact joiS_SO (by have := wrd_1 ok.2.1.2.2 h8; omega) h
  | none => exact (by decide : ¬ (1 : Int) = 0)
