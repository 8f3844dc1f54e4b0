/-! ===== PURE: sheets as data ===== -/
def tk (x : Int) : Int := if x = -2 then 0 else x
def dn (l : List Int) : Int := lsum (l.map tk)
def fls (l : List Int) : Int := lsum (l.map fun x => if x = -2 then 1 else 0)
/-- the frames that are over, and the rolls behind them -/
abbrev Sh : Type := List (List Int) × List Int
def adds (G : Gm) (s : Sh) (n : Int) : Sh :=
  if (s.1.length : Int) = G.1 1 then (s.1, s.2 ++ [n])
  else if dn (s.2 ++ [n]) = G.1 0 ∨ ((s.2 ++ [n]).length : Int) = G.1 2 then (s.1 ++ [s.2 ++ [n]], []) else (s.1, s.2 ++ [n])
def spl (G : Gm) (R : List Int) : Sh := R.foldl (adds G) ([], [])
/-- pins behind a fill -/
def nst (G : Gm) (st x : Int) : Int := if st - tk x = 0 then G.1 0 else st - tk x
def fst (G : Gm) (l : List Int) : Int := l.foldl (nst G) (G.1 0)
def sta (G : Gm) (s : Sh) : Int := if (s.1.length : Int) = G.1 1 then fst G s.2 else G.1 0 - dn s.2
def cln (G : Gm) (F : List Int) : Int := if dn F = G.1 0 then F.length else 0
def ow (G : Gm) (F : List Int) : Int := ern G (cln G F)
abbrev Ow : Type := Int × Int × Int
def lt1 (o : Ow) : Ow := (o.2.1, o.2.2, 0)
def ltn : Nat → Ow → Ow
  | 0, o => o
  | n + 1, o => ltn n (lt1 o)
def pls (o : Ow) (n : Int) : Ow := (o.1 + (if 1 ≤ n then 1 else 0), o.2.1 + (if 2 ≤ n then 1 else 0), o.2.2 + (if 3 ≤ n then 1 else 0))
def owd (G : Gm) (Fs : List (List Int)) : Ow := Fs.foldl (fun o F => pls (ltn F.length o) (ow G F)) (0, 0, 0)
def cnt (o : Ow) : Int := (if 1 ≤ o.1 then 1 else 0) + (if 1 ≤ o.2.1 then 1 else 0) + (if 1 ≤ o.2.2 then 1 else 0)
def OwOK (o : Ow) : Prop := 0 ≤ o.2.2 ∧ o.2.2 ≤ o.2.1 ∧ o.2.1 ≤ o.1 ∧ o.1 ≤ 3 ∧ o.2.1 ≤ 2 ∧ o.2.2 ≤ 1
def OwOK1 (o : Ow) : Prop := 0 = o.2.2 ∧ 0 ≤ o.2.1 ∧ o.2.1 ≤ o.1 ∧ o.1 ≤ 2 ∧ o.2.1 ≤ 1
def whole (G : Gm) (s : Sh) : Prop := (s.1.length : Int) = G.1 1 ∧ cnt (owd G s.1) ≤ s.2.length
/-- fills that can be, from so many pins on -/
def FV (G : Gm) : Int → List Int → Prop
  | _, [] => True
  | st, x :: l => (x = -2 ∨ 0 ≤ x ∧ x ≤ st) ∧ FV G (nst G st x) l
def rok (l : List Int) : Prop := ∀ x ∈ l, x = -2 ∨ 0 ≤ x ∧ x ≤ 9
/-- a frame that is over -/
def FO (G : Gm) (F : List Int) : Prop := rok F ∧ 1 ≤ F.length ∧ (F.length : Int) ≤ G.1 2 ∧ dn F ≤ G.1 0 ∧ (dn F = G.1 0 ∨ (F.length : Int) = G.1 2) ∧ dn F.dropLast < G.1 0
def SOK (G : Gm) (s : Sh) : Prop := (∀ F ∈ s.1, FO G F) ∧ (s.1.length : Int) ≤ G.1 1 ∧ rok s.2 ∧ ((s.1.length : Int) < G.1 1 → dn s.2 < G.1 0 ∧ (s.2.length : Int) < G.1 2) ∧ ((s.1.length : Int) = G.1 1 → (s.2.length : Int) ≤ cnt (owd G s.1) ∧ FV G (G.1 0) s.2)
def can (G : Gm) (s : Sh) (n : Int) : Prop := ¬ whole G s ∧ (n = -2 ∨ 0 ≤ n ∧ n ≤ sta G s)
theorem lsum_app : ∀ a b : List Int, lsum (a ++ b) = lsum a + lsum b
  | [], b => by simp [lsum]
  | x :: a, b => by rw [List.cons_append, lsum, lsum, lsum_app a b, Int.add_assoc]
theorem dn_app (a b : List Int) : dn (a ++ b) = dn a + dn b := by unfold dn; rw [List.map_append, lsum_app]
theorem dn_one (a : List Int) (x : Int) : dn (a ++ [x]) = dn a + tk x := by rw [dn_app]; simp [dn, lsum]
theorem fls_app (a b : List Int) : fls (a ++ b) = fls a + fls b := by unfold fls; rw [List.map_append, lsum_app]
theorem tk_ok {x : Int} (h : x = -2 ∨ 0 ≤ x ∧ x ≤ 9) : 0 ≤ tk x ∧ tk x ≤ 9 := by unfold tk; split <;> omega
theorem dn_nn {l : List Int} (h : rok l) : 0 ≤ dn l := by
  induction l with
  | nil => simp [dn, lsum]
  | cons x l ih =>
    have h1 := tk_ok (h x (by simp))
    have h2 := ih (fun y hy => h y (by simp [hy]))
    unfold dn at *
    rw [List.map_cons, lsum]
    omega
theorem lt1_ok {o : Ow} (h : OwOK o) : OwOK1 (lt1 o) := by unfold OwOK OwOK1 lt1 at *; omega
theorem lt1_ok1 {o : Ow} (h : OwOK1 o) : OwOK1 (lt1 o) := by unfold OwOK1 lt1 at *; omega
theorem OwOK1.ok {o : Ow} (h : OwOK1 o) : OwOK o := by unfold OwOK OwOK1 at *; omega
theorem ltn_ok1 : ∀ (n : Nat) {o : Ow}, OwOK1 o → OwOK1 (ltn n o)
  | 0, _, h => h
  | n + 1, _, h => ltn_ok1 n (lt1_ok1 h)
theorem ltn_ok : ∀ {n : Nat} {o : Ow}, OwOK o → 1 ≤ n → OwOK1 (ltn n o)
  | n + 1, _, h, _ => ltn_ok1 n (lt1_ok h)
theorem pls_ok {o : Ow} {n : Int} (h : OwOK1 o) : OwOK (pls o n) := by
  unfold OwOK OwOK1 pls at *
  simp only
  refine ⟨?_, ?_, ?_, ?_, ?_, ?_⟩ <;> repeat' split <;> omega
theorem owd_snoc (G : Gm) (Fs : List (List Int)) (F : List Int) : owd G (Fs ++ [F]) = pls (ltn F.length (owd G Fs)) (ow G F) := by unfold owd; rw [List.foldl_append]; rfl
