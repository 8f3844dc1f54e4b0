/-! ===== PURE: the class's sheet, what is read ===== -/
/-- valid rolls -/
def VR (G : Gm) (R : List Int) : Prop := ∀ k : Nat, k < R.length → can G (spl G (R.take k)) (R.getD k 0)
theorem VR.nil (G : Gm) : VR G [] := fun k hk => absurd hk (Nat.not_lt_zero k)
theorem VR.take {G : Gm} {R : List Int} (h : VR G R) (n : Nat) : VR G (R.take n) := fun k hk => by
  rw [List.length_take] at hk
  have := h k (by omega)
  rw [List.take_take, Nat.min_eq_left (by omega), List.getD_eq_getElem?_getD, List.getElem?_take_of_lt (by omega), ← List.getD_eq_getElem?_getD]
  exact this
theorem VR.snoc {G : Gm} {R : List Int} (h : VR G R) {n : Int} (hn : can G (spl G R) n) : VR G (R ++ [n]) := fun k hk => by
  rw [List.length_append, List.length_singleton] at hk
  by_cases q : k = R.length
  · subst q
    rw [List.take_left, List.getD_eq_getElem?_getD, List.getElem?_append_right (Nat.le_refl _), Nat.sub_self]
    exact hn
  · rw [List.take_append_of_le_length (by omega), List.getD_eq_getElem?_getD, List.getElem?_append_left (by omega), ← List.getD_eq_getElem?_getD]
    exact h k (by omega)
theorem SOK_nil {G : Gm} (hG : GOK G) : SOK G ([], []) := by
  have h0 := hG.1
  have h1 := hG.2.1
  have h2 := hG.2.2.1
  refine ⟨fun F hF => absurd hF (by simp), (by simp; omega), fun x hx => absurd hx (by simp), fun _ => ⟨(by simp [dn, lsum]; omega), (by simp; omega)⟩, fun z => ?_⟩
  simp at z
  omega
theorem VR.ok {G : Gm} (hG : GOK G) {R : List Int} (h : VR G R) : SOK G (spl G R) := by
  revert h
  refine snocI (P := fun R => VR G R → SOK G (spl G R)) (fun _ => SOK_nil hG) ?_ R
  intro l x ih h
  have h1 : VR G l := by
    have := h.take l.length
    rw [List.take_left] at this
    exact this
  have h2 := h l.length (by simp)
  rw [List.take_left, List.getD_eq_getElem?_getD, List.getElem?_append_right (Nat.le_refl _), Nat.sub_self] at h2
  rw [spl_snoc]
  exact adds_ok hG (ih h1) h2
theorem spl_len (G : Gm) (R : List Int) : (R.length : Int) = lens (spl G R).1 + (spl G R).2.length := by
  have := congrArg List.length (spl_flat G R)
  rw [List.length_append] at this
  unfold lens
  omega
theorem lens_take_le : ∀ (Fs : List (List Int)) (i : Nat), lens (Fs.take i) ≤ lens Fs
  | [], i => by simp [lens]
  | F :: l, 0 => by simp [lens]; omega
  | F :: l, i + 1 => by
    have := lens_take_le l i
    simp [lens] at this ⊢
    omega
theorem sts_get : ∀ (Fs : List (List Int)) (o : Int) (i : Nat), i ≤ Fs.length → (sts Fs o).getD i 0 = o + lens (Fs.take i)
  | [], o, 0, _ => by simp [sts, lens]
  | F :: l, o, 0, _ => by simp [sts, lens]
  | F :: l, o, i + 1, h => by
    rw [sts, List.getD_cons_succ, sts_get l _ i (by simpa using h), List.take_succ_cons]
    simp [lens]
    omega
  | [], o, i + 1, h => by simp at h
/-- where a frame begins -/
def fR (s : Sh) (f : Int) : Int := if f < 0 ∨ (s.1.length : Int) < f then lens s.1 + s.2.length else lens (s.1.take f.toNat)
theorem fR_ok (s : Sh) (f : Int) : 0 ≤ fR s f ∧ fR s f ≤ lens s.1 + s.2.length := by
  unfold fR
  have h1 : 0 ≤ lens s.1 := by unfold lens; omega
  have h2 := lens_take_le s.1 f.toNat
  have h3 : 0 ≤ lens (s.1.take f.toNat) := by unfold lens; omega
  split <;> omega
/-- what the class's sheet is, behind all -/
def ShX (sh l : Int) (G : Gm) (R : List Int) (μ : Mm) : Prop := SX sh l G R (spl G R) μ
theorem firstRoll_X {N : Nat} {sh l : Int} (hs : sh = 26 ∨ sh = 29) {G : Gm} (hG : GOK G) {R : List Int} {s : Sh} {μ : Mm} (hK : KR μ) (hO : SOK G s) (hR : (R.length : Int) = lens s.1 + s.2.length) (hS : SX sh l G R s μ) (f : Int) : jX5_firstRoll N sh f μ = some (fR s f, μ) := by
  obtain ⟨⟨s1, s2, s3, s4, s5, s6, s7, s8⟩, s9, s10⟩ := hS
  obtain ⟨q1, q2, q3, q4, q5⟩ := SK.of hK hs
  have hf := hG.2.1
  have h2 := hO.2.1
  unfold jX5_firstRoll jX5_firstRoll_21 jX5_firstRoll_34 fR
  rw [s1, s2, q5, len_e q3 (by decide) (by decide), ob_e, hR]
  by_cases c : f < 0
  · rw [if_pos c, if_pos (Or.inl c)]
  · rw [if_neg c]
    by_cases c2 : (s.1.length : Int) < f
    · rw [if_pos c2, if_pos (Or.inr c2)]
    · rw [if_neg c2, if_pos (show f < ((9 : Nat) : Int) by omega), if_neg (by omega), ald_e q3 (by omega) (by omega), ob_e, s10.at (by omega) (by rw [sts_len]; omega), sts_get _ _ _ (by omega)]
      simp
def rA (R : List Int) (i : Int) : Int := if 0 ≤ i ∧ i < R.length then R.getD i.toNat 0 else -1
theorem rollAt_X {N : Nat} {sh l : Int} (hs : sh = 26 ∨ sh = 29) {G : Gm} {R : List Int} {s : Sh} {μ : Mm} (hK : KR μ) (hR : R.length ≤ 27) (hS : SX sh l G R s μ) (i : Int) : jX5_rollAt N sh i μ = some (rA R i, μ) := by
  obtain ⟨⟨s1, s2, s3, s4, s5, s6, s7, s8⟩, s9, s10⟩ := hS
  obtain ⟨q1, q2, q3, q4, q5⟩ := SK.of hK hs
  unfold jX5_rollAt jX5_rollAt_18 jX5_rollAt_28 rA
  rw [s1, q4]
  by_cases c : i < 0
  · rw [if_pos c, if_neg (by omega)]
  · rw [if_neg c]
    by_cases c2 : (R.length : Int) ≤ i
    · rw [if_pos c2, if_neg (by omega)]
    · rw [if_neg c2, if_pos (show i < 27 by omega), if_pos (by omega), ald_e q2 (by omega) (by omega), ob_e, s9.at (by omega) (by omega)]
      simp
/-- the rolls of a frame (of the one at hand, too) -/
def fra (s : Sh) (f : Int) : List Int := if f < 0 then [] else if f < s.1.length then s.1.getD f.toNat [] else if f = s.1.length then s.2 else []
/-- the rolls from a frame on -/
def bhd (s : Sh) (f : Int) : List Int := (s.1.drop f.toNat).flatten ++ s.2
theorem bhd_at {s : Sh} {f : Int} (h0 : 0 ≤ f) (h1 : f < s.1.length) : bhd s f = fra s f ++ bhd s (f + 1) := by
  unfold bhd fra
  have hf : f.toNat < s.1.length := by omega
  rw [if_neg (by omega), if_pos h1, List.drop_eq_getElem_cons hf, List.flatten_cons, List.append_assoc, show (f + 1).toNat = f.toNat + 1 by omega]
  congr 1
  rw [List.getD_eq_getElem?_getD, List.getElem?_eq_getElem hf]
  rfl
theorem lens_at {Fs : List (List Int)} {i : Nat} (h : i < Fs.length) : lens (Fs.take (i + 1)) = lens (Fs.take i) + (Fs.getD i []).length := by
  rw [List.take_succ_eq_append_getElem h, lens_snoc, List.getD_eq_getElem?_getD, List.getElem?_eq_getElem h]
  rfl
theorem fra_len {s : Sh} {f : Int} (h0 : 0 ≤ f) : ((fra s f).length : Int) = fR s (f + 1) - fR s f := by
  unfold fra fR
  rw [if_neg (show ¬ f < 0 by omega)]
  by_cases c : f < s.1.length
  · rw [if_pos c, if_neg (by omega), if_neg (by omega), show (f + 1).toNat = f.toNat + 1 by omega, lens_at (by omega)]
    omega
  · rw [if_neg c]
    by_cases c2 : f = s.1.length
    · rw [if_pos c2, if_pos (show f + 1 < 0 ∨ (s.1.length : Int) < f + 1 by omega), if_neg (show ¬ (f < 0 ∨ (s.1.length : Int) < f) by omega), c2]
      simp
      omega
    · rw [if_neg c2, if_pos (show f + 1 < 0 ∨ (s.1.length : Int) < f + 1 by omega), if_pos (show (f < 0 ∨ (s.1.length : Int) < f) by omega)]
      simp
theorem R_drop {G : Gm} {R : List Int} {f : Int} (h0 : 0 ≤ f) (h1 : f ≤ (spl G R).1.length) : R.drop (fR (spl G R) f).toNat = bhd (spl G R) f := by
  have e : (fR (spl G R) f).toNat = ((spl G R).1.take f.toNat).flatten.length := by
    unfold fR lens
    rw [if_neg (by omega)]
    omega
  rw [e]
  have hR : R = ((spl G R).1.take f.toNat).flatten ++ bhd (spl G R) f := by
    unfold bhd
    rw [← List.append_assoc, ← List.flatten_append, List.take_append_drop, spl_flat]
  have h2 : ∀ n, R.drop n = (((spl G R).1.take f.toNat).flatten ++ bhd (spl G R) f).drop n := fun n => congrArg (List.drop n) hR
  rw [h2, List.drop_left]
theorem sizeOf_X {N : Nat} {sh l : Int} (hs : sh = 26 ∨ sh = 29) {G : Gm} (hG : GOK G) {R : List Int} {s : Sh} {μ : Mm} (hK : KR μ) (hO : SOK G s) (hR : (R.length : Int) = lens s.1 + s.2.length) (hR2 : R.length ≤ 27) (hS : SX sh l G R s μ) {f : Int} (h0 : 0 ≤ f) (h1 : f ≤ 9) : jX5_sizeOf N sh f μ = some (((fra s f).length : Int), μ) := by
  unfold jX5_sizeOf
  have a1 := fR_ok s f
  have a2 := fR_ok s (f + 1)
  rw [i_add_e (by omega) (by omega), firstRoll_X hs hG hK hO hR hS, b2_e, firstRoll_X hs hG hK hO hR hS, b2_e, i_sub_e (by omega) (by omega), fra_len h0]
theorem rok_max {x : Int} (h : x = -2 ∨ 0 ≤ x ∧ x ≤ 9) : i_max x 0 = tk x := tk_max (by omega)
theorem takenFrom_loop {N : Nat} {sh l : Int} (hs : sh = 26 ∨ sh = 29) {G : Gm} {R : List Int} {s : Sh} {μ : Mm} (hK : KR μ) (hR : R.length ≤ 27) (hok : rok R) (hS : SX sh l G R s μ) (a b : Int) (ha : 0 ≤ a ∧ a ≤ 30) (hb : 0 ≤ b ∧ b ≤ 30) : ∀ (k n i : Nat) (v : Int), (i : Int) + k = a + b → k < n → 0 ≤ v → v ≤ 9 * i → jX5_takenFrom_5 N n sh a b v i μ = some (v + dn ((R.drop i).take k), μ)
  | 0, n + 1, i, v, hi, hn, h0, h1 => by
    show jX5_takenFrom_5b (jX5_takenFrom_5 N n) N sh a b v i μ = _
    unfold jX5_takenFrom_5b
    rw [i_add_e (by omega) (by omega), if_pos (by omega)]
    simp [dn, lsum]
  | k + 1, n + 1, i, v, hi, hn, h0, h1 => by
    show jX5_takenFrom_5b (jX5_takenFrom_5 N n) N sh a b v i μ = _
    unfold jX5_takenFrom_5b
    rw [i_add_e (by omega) (by omega), if_neg (by omega), rollAt_X hs hK hR hS, b2_e, bnd_e, bnd_e]
    have key : ∃ t, i_max (rA R i) 0 = t ∧ 0 ≤ t ∧ t ≤ 9 ∧ dn ((R.drop i).take (k + 1)) = t + dn ((R.drop (i + 1)).take k) := by
      unfold rA
      by_cases c : i < R.length
      · rw [if_pos (by omega)]
        have hm : R.getD i 0 ∈ R := by
          rw [List.getD_eq_getElem?_getD, List.getElem?_eq_getElem c]
          exact List.getElem_mem c
        have hx := hok _ hm
        refine ⟨tk (R.getD i 0), by rw [show (i : Int).toNat = i by omega]; exact rok_max hx, (tk_ok hx).1, (tk_ok hx).2, ?_⟩
        rw [List.drop_eq_getElem_cons c, List.take_succ_cons]
        rw [List.getD_eq_getElem?_getD, List.getElem?_eq_getElem c]
        simp [dn, lsum]
      · rw [if_neg (by omega)]
        refine ⟨0, by decide, by omega, by omega, ?_⟩
        rw [List.drop_eq_nil_of_le (by omega), List.drop_eq_nil_of_le (by omega)]
        simp [dn, lsum]
    obtain ⟨t, e1, e2, e3, e4⟩ := key
    rw [e1, i_add_e (by omega) (by omega), i_add_e (by omega) (by omega), show (i : Int) + 1 = ((i + 1 : Nat) : Int) by omega, takenFrom_loop hs hK hR hok hS a b ha hb k n (i + 1) (v + t) (by omega) (by omega) (by omega) (by omega), e4]
    congr 2
    omega
  | _ + 1, 0, _, _, _, hn, _, _ => absurd hn (by omega)
  | 0, 0, _, _, _, hn, _, _ => absurd hn (by omega)
theorem takenFrom_X {N : Nat} (hN : 1000000 ≤ N) {sh l : Int} (hs : sh = 26 ∨ sh = 29) {G : Gm} {R : List Int} {s : Sh} {μ : Mm} (hK : KR μ) (hR : R.length ≤ 27) (hok : rok R) (hS : SX sh l G R s μ) (a b : Int) (ha : 0 ≤ a ∧ a ≤ 30) (hb : 0 ≤ b ∧ b ≤ 30) : jX5_takenFrom N sh a b μ = some (dn ((R.drop a.toNat).take b.toNat), μ) := by
  unfold jX5_takenFrom
  have := takenFrom_loop (N := N) hs hK hR hok hS a b ha hb b.toNat N a.toNat 0 (by omega) (by omega) (by omega) (by omega)
  rw [show ((a.toNat : Nat) : Int) = a by omega, Int.zero_add] at this
  exact this
theorem fra_drop {G : Gm} {R : List Int} {f : Int} (h0 : 0 ≤ f) (h1 : f ≤ (spl G R).1.length) : (R.drop (fR (spl G R) f).toNat).take (fra (spl G R) f).length = fra (spl G R) f := by
  rw [R_drop h0 h1]
  by_cases c : f < (spl G R).1.length
  · rw [bhd_at h0 c, List.take_left]
  · have : f = (spl G R).1.length := by omega
    unfold bhd fra
    rw [if_neg (by omega), if_neg c, if_pos this, List.drop_eq_nil_of_le (by omega)]
    simp
