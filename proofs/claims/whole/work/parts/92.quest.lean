/-! ===== PURE: what the class asks when it looks ahead ===== -/
def QA (G : Gm) (R : List Int) : Qu := (fun f => fra (spl G R) f, false, (spl G R).1.length, (spl G R).2.length)
def QT (G : Gm) (R : List Int) (tn : Int → Bool) (m : Int) : Qu := (fun f => if tn f then [] else fra (spl G R) f, !tn (G.1 1), m, 0)
def LA (G : Gm) (R : List Int) : List Wy := Lf G (QA G R) ((G.1 1).toNat + 1)
def LT (G : Gm) (R : List Int) (tn : Int → Bool) (m : Int) : List Wy := Lf G (QT G R tn m) ((G.1 1).toNat + 1)
theorem FVf_of : ∀ {F : List Int} {st : Int}, rok F → dn F ≤ st → FVf st F
  | [], _, _, _ => trivial
  | x :: F, st, h, hd => by
    have hx := h x (by simp)
    have hF : rok F := fun y hy => h y (by simp [hy])
    have h0 := dn_nn hF
    rw [dn_cons] at hd
    have ht := tk_ok hx
    refine ⟨?_, FVf_of hF (by omega)⟩
    rcases hx with z | z
    · exact Or.inl z
    · right
      have : tk x = x := by unfold tk; rw [if_neg (by omega)]
      omega
theorem fra_FVf {G : Gm} (hG : GOK G) {R : List Int} (hV : VR G R) {f : Int} (h0 : 0 ≤ f) (h1 : f < G.1 1) : FVf (G.1 0) (fra (spl G R) f) := by
  have hO := hV.ok hG
  have hp := hG.1
  refine FVf_of (fra_rok hG hV f) ?_
  by_cases c : f < (spl G R).1.length
  · exact (fra_FO hO h0 c).2.2.2.1
  · unfold fra
    rw [if_neg (by omega), if_neg c]
    split
    · have := (hO.2.2.2.1 (by omega)).1
      omega
    · simp [dn, lsum]; omega
theorem fra_FV {G : Gm} (hG : GOK G) {R : List Int} (hV : VR G R) : FV G (G.1 0) (fra (spl G R) (G.1 1)) := by
  have hO := hV.ok hG
  have h8 := hG.2.1
  have h2 := hO.2.1
  unfold fra
  rw [if_neg (by omega), if_neg (by omega)]
  split
  · exact (hO.2.2.2.2 (by omega)).2
  · trivial
theorem fra_rA {G : Gm} (hG : GOK G) {R : List Int} (hV : VR G R) {f : Int} (h0 : 0 ≤ f) {u : Nat} (hu : u < (fra (spl G R) f).length) : rA R (fR (spl G R) f + u) = (fra (spl G R) f).getD u 0 := by
  have h1 : f ≤ (spl G R).1.length := by
    by_cases c : f ≤ (spl G R).1.length
    · exact c
    · exfalso
      unfold fra at hu
      rw [if_neg (by omega), if_neg (by omega), if_neg (by omega)] at hu
      simp at hu
  have hd := fra_drop (G := G) (R := R) h0 h1
  have hfR := fR_ok (spl G R) f
  have hfR1 := fR_ok (spl G R) (f + 1)
  have hfl := fra_len (s := spl G R) h0
  have hsl := spl_len G R
  have e : (fra (spl G R) f)[u]? = R[(fR (spl G R) f).toNat + u]? := by
    have h3 : ((R.drop (fR (spl G R) f).toNat).take (fra (spl G R) f).length)[u]? = (fra (spl G R) f)[u]? := congrArg (fun l : List Int => l[u]?) hd
    rw [List.getElem?_take_of_lt hu, List.getElem?_drop] at h3
    exact h3.symm
  unfold rA
  rw [if_pos (by omega), List.getD_eq_getElem?_getD, List.getD_eq_getElem?_getD, e]
  congr 2
  omega
theorem fra_27 {G : Gm} (hG : GOK G) {R : List Int} (hV : VR G R) (f : Int) : (fra (spl G R) f).length ≤ 27 := by
  by_cases c : 0 ≤ f ∧ f ≤ (spl G R).1.length
  · have := fra_sz hG hV c.1 c.2; omega
  · unfold fra
    by_cases c1 : f < 0
    · rw [if_pos c1]; simp
    · rw [if_neg c1, if_neg (by omega), if_neg (by omega)]; simp
theorem QA_QR {G : Gm} (hG : GOK G) {R : List Int} (hV : VR G R) : QR G R (QA G R) :=
  ⟨⟨fun f h0 h1 => fra_FVf hG hV h0 h1, fra_FV hG hV⟩, fun f h0 _ u hu => fra_rA hG hV h0 hu, by show (0 : Int) ≤ ((spl G R).2.length : Int); omega, fun f => fra_27 hG hV f⟩
theorem QT_QR {G : Gm} (hG : GOK G) {R : List Int} (hV : VR G R) (tn : Int → Bool) (m : Int) : QR G R (QT G R tn m) := by
  refine ⟨⟨fun f h0 h1 => ?_, ?_⟩, fun f h0 h1 u hu => ?_, by show (0 : Int) ≤ 0; omega, fun f => ?_⟩
  · show FVf (G.1 0) (if tn f then [] else fra (spl G R) f)
    split
    · trivial
    · exact fra_FVf hG hV h0 h1
  · show FV G (G.1 0) (if tn (G.1 1) then [] else fra (spl G R) (G.1 1))
    split
    · trivial
    · exact fra_FV hG hV
  · revert hu
    show u < (if tn f then [] else fra (spl G R) f).length → rA R (fR (spl G R) f + u) = (if tn f then [] else fra (spl G R) f).getD u 0
    split
    · intro hu; simp at hu
    · intro hu; exact fra_rA hG hV h0 hu
  · show (if tn f then [] else fra (spl G R) f).length ≤ 27
    split
    · simp
    · exact fra_27 hG hV f
/-- a row that is over just at its end -/
def Ful : Nat → Int → List Int → Prop
  | n, st, [] => n = 0 ∨ st ≤ 0
  | n, st, x :: F => 1 ≤ n ∧ 0 < st ∧ Ful (n - 1) (st - tk x) F
theorem frow_ful : ∀ (n : Nat) (st : Int) (F : List Int), Ful n st F → frow n st F = [F]
  | 0, st, [], _ => rfl
  | n + 1, st, [], h => by
    have : st ≤ 0 := by rcases h with h | h <;> omega
    rw [frow, if_pos this]
  | 0, st, x :: F, h => absurd h.1 (by omega)
  | n + 1, st, x :: F, h => by
    have h2 := frow_ful n (st - tk x) F h.2.2
    rw [frow, if_neg (by have := h.2.1; omega)]
    rw [h2]
    rfl
theorem Ful_of : ∀ (F : List Int) (n : Nat) (st : Int), rok F → F.length ≤ n → dn F ≤ st → (dn F = st ∨ F.length = n) → (F ≠ [] → dn F.dropLast < st) → Ful n st F
  | [], n, st, _, _, _, h, _ => by
    simp [dn, lsum] at h
    unfold Ful
    omega
  | x :: F, n, st, hr, hl, hd, h, hp => by
    have hF : rok F := fun y hy => hr y (by simp [hy])
    have h0 := dn_nn hF
    have hx := tk_ok (hr x (by simp))
    have hp := hp (by simp)
    rw [dn_cons] at hd h
    simp only [List.length_cons] at hl h
    have hst : 0 < st := by
      have : 0 ≤ dn (x :: F).dropLast := dn_nn (fun y hy => hr y ((List.dropLast_sublist _).subset hy))
      omega
    refine ⟨by omega, hst, Ful_of F (n - 1) (st - tk x) hF (by omega) (by omega) (by omega) (fun hne => ?_)⟩
    rw [List.dropLast_cons_of_ne_nil hne, dn_cons] at hp
    omega
theorem FO.ful {G : Gm} (hG : GOK G) {F : List Int} (h : FO G F) : frow (G.1 2).toNat (G.1 0) F = [F] := by
  have h2 := hG.2.2.1
  obtain ⟨a1, a2, a3, a4, a5, a6⟩ := h
  exact frow_ful _ _ _ (Ful_of F _ _ a1 (by omega) a4 (by omega) (fun _ => a6))
theorem frow_given : ∀ (c : List Int) (n : Nat) (st : Int), rok c → dn c < st → c.length < n → ∀ F ∈ frow n st c, c.length < F.length
  | [], n, st, _, hd, hl, F, hF => by
    simp [dn, lsum] at hd
    obtain ⟨m, rfl⟩ : ∃ m, n = m + 1 := ⟨n - 1, by simp at hl; omega⟩
    rw [frow, if_neg (by omega)] at hF
    obtain ⟨t, _, hm⟩ := List.mem_flatMap.mp hF
    obtain ⟨F', _, rfl⟩ := List.mem_map.mp hm
    simp
  | x :: c, n, st, hr, hd, hl, F, hF => by
    have hc : rok c := fun y hy => hr y (by simp [hy])
    have hx := tk_ok (hr x (by simp))
    have h0 := dn_nn hc
    rw [dn_cons] at hd
    simp at hl
    obtain ⟨m, rfl⟩ : ∃ m, n = m + 1 := ⟨n - 1, by omega⟩
    rw [frow, if_neg (by omega)] at hF
    obtain ⟨F', hF', rfl⟩ := List.mem_map.mp hF
    have := frow_given c m (st - tk x) hc (by omega) (by omega) F' hF'
    simp
    omega
/-- sums of what the rolls of frames brought -/
def gs (G : Gm) (Fs : List (List Int)) : Nat → Int
  | 0 => 0
  | n + 1 => gs G Fs n + (fo G (n : Int) (owd G (Fs.take n)) (Fs.getD n [])).2
theorem owd_take {G : Gm} {Fs : List (List Int)} {n : Nat} (h : n < Fs.length) : owd G (Fs.take (n + 1)) = pls (ltn (Fs.getD n []).length (owd G (Fs.take n))) (ow G (Fs.getD n [])) := by
  rw [List.take_succ_eq_append_getElem h, owd_snoc, List.getD_eq_getElem?_getD, List.getElem?_eq_getElem h]
  rfl
/-- the frames that are over leave one way alone -/
theorem LA_one {G : Gm} (hG : GOK G) {R : List Int} (hV : VR G R) : ∀ n : Nat, n ≤ (spl G R).1.length → Lf G (QA G R) n = [(owd G ((spl G R).1.take n), gs G (spl G R).1 n, 0)]
  | 0, _ => rfl
  | n + 1, hn => by
    have hO := hV.ok hG
    have h2 := hO.2.1
    rw [Lf_s, LA_one hG hV n (by omega)]
    have efra : fra (spl G R) n = (spl G R).1.getD n [] := by
      unfold fra
      rw [if_neg (by omega), if_pos (by omega), Int.toNat_natCast]
    have hFO := fra_FO hO (f := (n : Int)) (by omega) (by omega)
    have hk : KS G (QA G R) n (owd G ((spl G R).1.take n)) = [((fo G n (owd G ((spl G R).1.take n)) ((spl G R).1.getD n [])).1, (fo G n (owd G ((spl G R).1.take n)) ((spl G R).1.getD n [])).2, 0)] := by
      unfold KS
      rw [if_pos (by omega)]
      show (frow (G.1 2).toNat (G.1 0) (fra (spl G R) n)).map _ = _
      rw [FO.ful hG hFO, efra]
      show [_] = [_]
      congr 1
      have : lm (QA G R).2.2.1 (QA G R).2.2.2 n ((spl G R).1.getD n []) = 0 := by
        unfold lm
        rw [if_neg]
        show ¬ (n : Int) = ((spl G R).1.length : Int)
        omega
      dsimp only
      rw [this]
    rw [List.flatMap_cons, List.flatMap_nil, List.append_nil, hk, List.map_cons, List.map_nil]
    congr 1
    unfold nxt
    dsimp only
    rw [if_neg (show ¬ (n : Int) = (QA G R).2.2.1 from by show ¬ (n : Int) = ((spl G R).1.length : Int); omega), owd_take (by omega)]
    rfl
theorem QA_QM {G : Gm} (hG : GOK G) {R : List Int} (hV : VR G R) {b : Bool} (hw : b = false → ¬ whole G (spl G R)) : QM G (QA G R) b := by
  intro hb
  have hw := hw hb
  have hO := hV.ok hG
  have h2 := hO.2.1
  have h8 := hG.2.1
  refine ⟨fun f f0 f1 hf F hF => ?_, fun hf w hwm => ?_⟩
  · have ef : f = (spl G R).1.length := hf
    have efra : fra (spl G R) f = (spl G R).2 := by unfold fra; rw [if_neg (by omega), if_neg (by omega), if_pos ef]
    have hd := hO.2.2.2.1 (by omega)
    have h3 := hG.2.2.1
    have := frow_given (spl G R).2 (G.1 2).toNat (G.1 0) hO.2.2.1 hd.1 (by omega) F (by rw [← efra]; exact hF)
    show ((spl G R).2.length : Int) < F.length
    omega
  · have hf' : G.1 1 = ((spl G R).1.length : Int) := hf
    rw [LA_one hG hV (G.1 1).toNat (by omega), List.mem_singleton] at hwm
    rw [hwm]
    show ((spl G R).2.length : Int) < cnt (owd G ((spl G R).1.take (G.1 1).toNat))
    rw [List.take_of_length_le (by omega)]
    have : ¬ cnt (owd G (spl G R).1) ≤ (spl G R).2.length := fun z => hw ⟨hf'.symm, z⟩
    omega
theorem QT_QM {G : Gm} (hG : GOK G) {R : List Int} (hV : VR G R) (tn : Int → Bool) {m : Int} (hm : m < G.1 1) (b : Bool) : QM G (QT G R tn m) b := by
  intro _
  refine ⟨fun f f0 f1 _ F hF => ?_, fun hf => ?_⟩
  · have := frow_FG hG ((QT_QR hG hV tn m).1.1 f f0 f1) hF
    show (0 : Int) < F.length
    have := this.2.1
    omega
  · exfalso
    have : G.1 1 = m := hf
    omega
