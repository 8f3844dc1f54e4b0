/-! ===== PURE: sheets as data ===== -/
def tk (x : Int) : Int := if x = -2 then 0 else x
def dn (l : List Int) : Int := lsum (l.map tk)
def fls (l : List Int) : Int := lsum (l.map fun x => if x = -2 then 1 else 0)
/-- the frames that are over, and the rolls behind them -/
abbrev Sh : Type := List (List Int) × List Int
def adds (G : Gm) (s : Sh) (n : Int) : Sh :=
  if (s.1.length : Int) = G.1 1 then (s.1, s.2 ++ [n])
  else if dn (s.2 ++ [n]) = G.1 0 ∨ ((s.2 ++ [n]).length : Int) = G.1 2 then (s.1 ++ [s.2 ++ [n]], []) else (s.1, s.2 ++ [n])
def spl (G : Gm) (R : List Int) : Sh := R.foldl (adds G) ([], [])
/-- pins behind a fill -/
def nst (G : Gm) (st x : Int) : Int := if st - tk x = 0 then G.1 0 else st - tk x
def fst (G : Gm) (l : List Int) : Int := l.foldl (nst G) (G.1 0)
def sta (G : Gm) (s : Sh) : Int := if (s.1.length : Int) = G.1 1 then fst G s.2 else G.1 0 - dn s.2
def cln (G : Gm) (F : List Int) : Int := if dn F = G.1 0 then F.length else 0
def ow (G : Gm) (F : List Int) : Int := ern G (cln G F)
abbrev Ow : Type := Int × Int × Int
def lt1 (o : Ow) : Ow := (o.2.1, o.2.2, 0)
def ltn : Nat → Ow → Ow
  | 0, o => o
  | n + 1, o => ltn n (lt1 o)
def pls (o : Ow) (n : Int) : Ow := (o.1 + (if 1 ≤ n then 1 else 0), o.2.1 + (if 2 ≤ n then 1 else 0), o.2.2 + (if 3 ≤ n then 1 else 0))
def owd (G : Gm) (Fs : List (List Int)) : Ow := Fs.foldl (fun o F => pls (ltn F.length o) (ow G F)) (0, 0, 0)
def cnt (o : Ow) : Int := (if 1 ≤ o.1 then 1 else 0) + (if 1 ≤ o.2.1 then 1 else 0) + (if 1 ≤ o.2.2 then 1 else 0)
def OwOK (o : Ow) : Prop := 0 ≤ o.2.2 ∧ o.2.2 ≤ o.2.1 ∧ o.2.1 ≤ o.1 ∧ o.1 ≤ 3 ∧ o.2.1 ≤ 2 ∧ o.2.2 ≤ 1
def OwOK1 (o : Ow) : Prop := 0 = o.2.2 ∧ 0 ≤ o.2.1 ∧ o.2.1 ≤ o.1 ∧ o.1 ≤ 2 ∧ o.2.1 ≤ 1
def whole (G : Gm) (s : Sh) : Prop := (s.1.length : Int) = G.1 1 ∧ cnt (owd G s.1) ≤ s.2.length
/-- fills that can be, from so many pins on -/
def FV (G : Gm) : Int → List Int → Prop
  | _, [] => True
  | st, x :: l => (x = -2 ∨ 0 ≤ x ∧ x ≤ st) ∧ FV G (nst G st x) l
def rok (l : List Int) : Prop := ∀ x ∈ l, x = -2 ∨ 0 ≤ x ∧ x ≤ 9
/-- a frame that is over -/
def FO (G : Gm) (F : List Int) : Prop := rok F ∧ 1 ≤ F.length ∧ (F.length : Int) ≤ G.1 2 ∧ dn F ≤ G.1 0 ∧ (dn F = G.1 0 ∨ (F.length : Int) = G.1 2) ∧ dn F.dropLast < G.1 0
def SOK (G : Gm) (s : Sh) : Prop := (∀ F ∈ s.1, FO G F) ∧ (s.1.length : Int) ≤ G.1 1 ∧ rok s.2 ∧ ((s.1.length : Int) < G.1 1 → dn s.2 < G.1 0 ∧ (s.2.length : Int) < G.1 2) ∧ ((s.1.length : Int) = G.1 1 → (s.2.length : Int) ≤ cnt (owd G s.1) ∧ FV G (G.1 0) s.2)
def can (G : Gm) (s : Sh) (n : Int) : Prop := ¬ whole G s ∧ (n = -2 ∨ 0 ≤ n ∧ n ≤ sta G s)
theorem lsum_app : ∀ a b : List Int, lsum (a ++ b) = lsum a + lsum b
  | [], b => by simp [lsum]
  | x :: a, b => by rw [List.cons_append, lsum, lsum, lsum_app a b, Int.add_assoc]
theorem dn_app (a b : List Int) : dn (a ++ b) = dn a + dn b := by unfold dn; rw [List.map_append, lsum_app]
theorem dn_one (a : List Int) (x : Int) : dn (a ++ [x]) = dn a + tk x := by rw [dn_app]; simp [dn, lsum]
theorem fls_app (a b : List Int) : fls (a ++ b) = fls a + fls b := by unfold fls; rw [List.map_append, lsum_app]
theorem tk_ok {x : Int} (h : x = -2 ∨ 0 ≤ x ∧ x ≤ 9) : 0 ≤ tk x ∧ tk x ≤ 9 := by unfold tk; split <;> omega
theorem dn_nn {l : List Int} (h : rok l) : 0 ≤ dn l := by
  induction l with
  | nil => simp [dn, lsum]
  | cons x l ih =>
    have h1 := tk_ok (h x (by simp))
    have h2 := ih (fun y hy => h y (by simp [hy]))
    unfold dn at *
    rw [List.map_cons, lsum]
    omega
theorem lt1_ok {o : Ow} (h : OwOK o) : OwOK1 (lt1 o) := by unfold OwOK OwOK1 lt1 at *; dsimp only; omega
theorem lt1_ok1 {o : Ow} (h : OwOK1 o) : OwOK1 (lt1 o) := by unfold OwOK1 lt1 at *; dsimp only; omega
theorem OwOK1.ok {o : Ow} (h : OwOK1 o) : OwOK o := by unfold OwOK OwOK1 at *; omega
theorem ltn_ok1 : ∀ (n : Nat) {o : Ow}, OwOK1 o → OwOK1 (ltn n o)
  | 0, _, h => h
  | n + 1, _, h => ltn_ok1 n (lt1_ok1 h)
theorem ltn_ok : ∀ {n : Nat} {o : Ow}, OwOK o → 1 ≤ n → OwOK1 (ltn n o)
  | n + 1, _, h, _ => ltn_ok1 n (lt1_ok h)
theorem pls_ok {o : Ow} {n : Int} (h : OwOK1 o) : OwOK (pls o n) := by
  unfold OwOK OwOK1 pls at *
  simp only
  refine ⟨?_, ?_, ?_, ?_, ?_, ?_⟩ <;> repeat' split <;> omega
theorem owd_snoc (G : Gm) (Fs : List (List Int)) (F : List Int) : owd G (Fs ++ [F]) = pls (ltn F.length (owd G Fs)) (ow G F) := by unfold owd; rw [List.foldl_append]; rfl
theorem owd_ok {G : Gm} : ∀ {Fs : List (List Int)}, (∀ F ∈ Fs, FO G F) → OwOK (owd G Fs) := by
  intro Fs h
  unfold owd
  have : ∀ (l : List (List Int)) (o : Ow), (∀ F ∈ l, FO G F) → OwOK o → OwOK (l.foldl (fun o F => pls (ltn F.length o) (ow G F)) o) := by
    intro l
    induction l with
    | nil => intro o _ ho; exact ho
    | cons F l ih =>
      intro o hl ho
      exact ih _ (fun F hF => hl F (by simp [hF])) (pls_ok (ltn_ok ho (hl F (by simp)).2.1))
  exact this Fs _ h ⟨by decide, by decide, by decide, by decide, by decide, by decide⟩
theorem cnt_ok {o : Ow} : 0 ≤ cnt o ∧ cnt o ≤ 3 := by unfold cnt; repeat' split <;> omega
theorem FV_app {G : Gm} : ∀ {l : List Int} {st x : Int}, FV G st l → (x = -2 ∨ 0 ≤ x ∧ x ≤ l.foldl (nst G) st) → FV G st (l ++ [x])
  | [], _, _, _, h => ⟨h, trivial⟩
  | _ :: l, _, _, hl, h => ⟨hl.1, FV_app (l := l) hl.2 h⟩
theorem nst_ok {G : Gm} (hG : GOK G) {st x : Int} (h1 : 1 ≤ st ∧ st ≤ G.1 0) (h2 : x = -2 ∨ 0 ≤ x ∧ x ≤ st) : 1 ≤ nst G st x ∧ nst G st x ≤ G.1 0 := by
  have hp := hG.1
  have := tk_ok (x := x) (by omega)
  have h3 : tk x ≤ st := by unfold tk; split <;> omega
  unfold nst
  split <;> omega
theorem fst_ok {G : Gm} (hG : GOK G) : ∀ {l : List Int} {st : Int}, 1 ≤ st ∧ st ≤ G.1 0 → FV G st l → 1 ≤ l.foldl (nst G) st ∧ l.foldl (nst G) st ≤ G.1 0
  | [], _, h, _ => h
  | _ :: l, _, h, hv => fst_ok hG (l := l) (nst_ok hG h hv.1) hv.2
theorem sta_ok {G : Gm} (hG : GOK G) {s : Sh} (h : SOK G s) : 1 ≤ sta G s ∧ sta G s ≤ G.1 0 := by
  unfold sta
  have hp := hG.1
  split
  · exact fst_ok hG (by omega) (h.2.2.2.2 ‹_›).2
  · have h1 := h.2.2.2.1 (by have := h.2.1; omega)
    have h2 := dn_nn h.2.2.1
    omega
theorem rok_snoc {l : List Int} {x : Int} (h : rok l) (hx : x = -2 ∨ 0 ≤ x ∧ x ≤ 9) : rok (l ++ [x]) := by
  intro y hy
  rcases List.mem_append.mp hy with z | z
  · exact h y z
  · rw [List.mem_singleton.mp z]; exact hx
/-- a roll that can be keeps a good sheet -/
theorem adds_ok {G : Gm} (hG : GOK G) {s : Sh} (h : SOK G s) {n : Int} (hc : can G s n) : SOK G (adds G s n) := by
  obtain ⟨h1, h2, h3, h4, h5⟩ := id h
  obtain ⟨c1, c2⟩ := hc
  have hs := sta_ok hG h
  have hp := hG.1
  have hn9 : n = -2 ∨ 0 ≤ n ∧ n ≤ 9 := by omega
  have hr := rok_snoc h3 hn9
  unfold adds
  by_cases c : (s.1.length : Int) = G.1 1
  · rw [if_pos c]
    have hf : sta G s = fst G s.2 := if_pos c
    unfold SOK
    dsimp only
    refine ⟨h1, h2, hr, fun z => absurd c (by omega), fun _ => ⟨?_, ?_⟩⟩
    · show ((s.2 ++ [n]).length : Int) ≤ _
      rw [List.length_append, List.length_singleton]
      have : ¬ cnt (owd G s.1) ≤ s.2.length := fun z => c1 ⟨c, z⟩
      omega
    · rw [hf] at c2
      exact FV_app (h5 c).2 c2
  · rw [if_neg c]
    have hf : sta G s = G.1 0 - dn s.2 := if_neg c
    obtain ⟨a1, a2⟩ := h4 (by omega)
    have hd := dn_one s.2 n
    have ht : tk n ≤ sta G s := by unfold tk; split <;> omega
    have ht0 := (tk_ok hn9).1
    by_cases c3 : dn (s.2 ++ [n]) = G.1 0 ∨ ((s.2 ++ [n]).length : Int) = G.1 2
    · rw [if_pos c3]
      unfold SOK
      dsimp only
      refine ⟨?_, ?_, (fun y hy => absurd hy (by simp)), fun _ => ⟨?_, ?_⟩, fun _ => ⟨?_, trivial⟩⟩
      · intro F hF
        rcases List.mem_append.mp hF with z | z
        · exact h1 F z
        · rw [List.mem_singleton.mp z]
          refine ⟨hr, ?_, ?_, ?_, c3, ?_⟩
          · simp
          · rw [List.length_append, List.length_singleton]; omega
          · omega
          · rw [List.dropLast_concat]; exact a1
      · show ((s.1 ++ [s.2 ++ [n]]).length : Int) ≤ _
        rw [List.length_append, List.length_singleton]
        omega
      · show dn [] < _
        have : dn [] = 0 := rfl
        omega
      · show (([] : List Int).length : Int) < _
        have := hG.2.2.1
        simp
        omega
      · show (([] : List Int).length : Int) ≤ _
        have := (cnt_ok (o := owd G (s.1 ++ [s.2 ++ [n]]))).1
        simpa using this
    · rw [if_neg c3]
      rw [not_or] at c3
      unfold SOK
      dsimp only
      refine ⟨h1, h2, hr, fun _ => ⟨?_, ?_⟩, fun z => absurd z c⟩
      · show dn (s.2 ++ [n]) < _
        omega
      · have := c3.2
        show ((s.2 ++ [n]).length : Int) < _
        rw [List.length_append, List.length_singleton] at this ⊢
        omega
