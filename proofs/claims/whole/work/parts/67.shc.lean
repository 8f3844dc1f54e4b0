/-! ===== PURE: the class's sheet, all in one ===== -/
def SC (sh l : Int) (G : Gm) (R : List Int) (μ : Mm) : Prop := ((sh = 26 ∨ sh = 29) ∧ (l = 2 ∨ l = 13) ∧ GOK G ∧ VR G R) ∧ KR μ ∧ LX l G μ ∧ TX l G μ ∧ SX sh l G R (spl G R) μ
theorem R_len {G : Gm} (hG : GOK G) {R : List Int} (h : VR G R) : R.length ≤ 27 ∧ lens (spl G R).1 ≤ 24 := by
  have hO := h.ok hG
  have hl := spl_len G R
  have h1 := lens_le hO.1
  have g2 := hG.2.1
  have g3 := hG.2.2.1
  have hm : G.1 2 * (spl G R).1.length ≤ 3 * (spl G R).1.length := Int.mul_le_mul_of_nonneg_right g3.2 (by omega)
  have h2 := hO.2.1
  by_cases c : ((spl G R).1.length : Int) = G.1 1
  · have := (hO.2.2.2.2 c).1
    have := cnt_ok (o := owd G (spl G R).1)
    omega
  · have := (hO.2.2.2.1 (by omega)).2
    omega
theorem R_rok {G : Gm} (hG : GOK G) {R : List Int} (h : VR G R) : rok R := by
  have hO := h.ok hG
  intro x hx
  rw [← spl_flat G R] at hx
  rcases List.mem_append.mp hx with z | z
  · obtain ⟨F, hF, hxF⟩ := List.mem_flatten.mp z
    exact (hO.1 F hF).1 x hxF
  · exact hO.2.2.1 x z
theorem fra_mem {G : Gm} {R : List Int} {f : Int} {x : Int} (hx : x ∈ fra (spl G R) f) : x ∈ R := by
  rw [← spl_flat G R]
  unfold fra at hx
  split at hx
  · cases hx
  · split at hx
    · rename_i h1 h2
      have hf : f.toNat < (spl G R).1.length := by omega
      rw [List.getD_eq_getElem?_getD, List.getElem?_eq_getElem hf] at hx
      exact List.mem_append.mpr (Or.inl (List.mem_flatten.mpr ⟨_, List.getElem_mem hf, hx⟩))
    · split at hx
      · exact List.mem_append.mpr (Or.inr hx)
      · cases hx
theorem fra_FO {G : Gm} {s : Sh} (hO : SOK G s) {f : Int} (h0 : 0 ≤ f) (h1 : f < s.1.length) : FO G (fra s f) := by
  unfold fra
  rw [if_neg (by omega), if_pos h1]
  have hf : f.toNat < s.1.length := by omega
  rw [List.getD_eq_getElem?_getD, List.getElem?_eq_getElem hf]
  exact hO.1 _ (List.getElem_mem hf)
theorem fra_rok {G : Gm} (hG : GOK G) {R : List Int} (h : VR G R) (f : Int) : rok (fra (spl G R) f) := fun _ hx => R_rok hG h _ (fra_mem hx)
theorem dn_le : ∀ {l : List Int}, rok l → dn l ≤ 9 * l.length
  | [], _ => by simp [dn, lsum]
  | x :: l, h => by
    have h1 := tk_ok (h x (by simp))
    have h2 := dn_le (l := l) (fun y hy => h y (by simp [hy]))
    unfold dn at *
    rw [List.map_cons, lsum, List.length_cons]
    omega
theorem fls_ok (l : List Int) : 0 ≤ fls l ∧ fls l ≤ l.length := by
  induction l with
  | nil => simp [fls, lsum]
  | cons x l ih =>
    unfold fls at *
    rw [List.map_cons, lsum, List.length_cons]
    split <;> omega
theorem fra_sz {G : Gm} (hG : GOK G) {R : List Int} (h : VR G R) {f : Int} (h0 : 0 ≤ f) (h1 : f ≤ (spl G R).1.length) : (fra (spl G R) f).length ≤ 3 := by
  have hO := h.ok hG
  have g3 := hG.2.2.1
  have h2 := hO.2.1
  by_cases c : f < (spl G R).1.length
  · have := (fra_FO hO h0 c).2.2.1
    omega
  · have e : fra (spl G R) f = (spl G R).2 := by unfold fra; rw [if_neg (by omega), if_neg c, if_pos (by omega)]
    rw [e]
    by_cases c2 : ((spl G R).1.length : Int) = G.1 1
    · have := (hO.2.2.2.2 c2).1
      have := cnt_ok (o := owd G (spl G R).1)
      omega
    · have := (hO.2.2.2.1 (by omega)).2
      omega
theorem SC.fr {sh l : Int} {G : Gm} {R : List Int} {μ : Mm} (h : SC sh l G R μ) {N : Nat} (f : Int) : jX5_firstRoll N sh f μ = some (fR (spl G R) f, μ) :=
  firstRoll_X h.1.1 h.1.2.2.1 h.2.1 (h.1.2.2.2.ok h.1.2.2.1) (spl_len G R) h.2.2.2.2 f
theorem SC.ra {sh l : Int} {G : Gm} {R : List Int} {μ : Mm} (h : SC sh l G R μ) {N : Nat} (i : Int) : jX5_rollAt N sh i μ = some (rA R i, μ) :=
  rollAt_X h.1.1 h.2.1 (R_len h.1.2.2.1 h.1.2.2.2).1 h.2.2.2.2 i
theorem SC.sz {sh l : Int} {G : Gm} {R : List Int} {μ : Mm} (h : SC sh l G R μ) {N : Nat} {f : Int} (h0 : 0 ≤ f) (h1 : f ≤ 9) : jX5_sizeOf N sh f μ = some (((fra (spl G R) f).length : Int), μ) :=
  sizeOf_X h.1.1 h.1.2.2.1 h.2.1 (h.1.2.2.2.ok h.1.2.2.1) (spl_len G R) (R_len h.1.2.2.1 h.1.2.2.2).1 h.2.2.2.2 h0 h1
theorem SC.tf {sh l : Int} {G : Gm} {R : List Int} {μ : Mm} (h : SC sh l G R μ) {N : Nat} (hN : 1000000 ≤ N) {a b : Int} (ha : 0 ≤ a ∧ a ≤ 30) (hb : 0 ≤ b ∧ b ≤ 30) : jX5_takenFrom N sh a b μ = some (dn ((R.drop a.toNat).take b.toNat), μ) :=
  takenFrom_X hN h.1.1 h.2.1 (R_len h.1.2.2.1 h.1.2.2.2).1 (R_rok h.1.2.2.1 h.1.2.2.2) h.2.2.2.2 a b ha hb
theorem SC.wh {sh l : Int} {G : Gm} {R : List Int} {μ : Mm} (h : SC sh l G R μ) {N : Nat} : jX5_isWhole N sh μ = some (whi G (spl G R), μ) :=
  isWhole_X h.1.2.1 h.2.1 h.2.2.1 (h.1.2.2.2.ok h.1.2.2.1) (spl_len G R) h.2.2.2.2
theorem SC.di {sh l : Int} {G : Gm} {R : List Int} {μ : Mm} (h : SC sh l G R μ) {N : Nat} (hN : 1000000 ≤ N) {f : Int} (h0 : 0 ≤ f) (h1 : f ≤ (spl G R).1.length) : jX5_downIn N sh f μ = some (dn (fra (spl G R) f), μ) := by
  unfold jX5_downIn
  have hl := (R_len h.1.2.2.1 h.1.2.2.2)
  have hf := fR_ok (spl G R) f
  have := spl_len G R
  have h9 : f ≤ 9 := by have := (h.1.2.2.2.ok h.1.2.2.1).2.1; have := h.1.2.2.1.2.1; omega
  have hs := fra_sz h.1.2.2.1 h.1.2.2.2 h0 h1
  rw [h.fr, b2_e, h.sz h0 h9, b2_e, h.tf hN (by omega) (by omega), b2_e, Int.toNat_natCast, fra_drop h0 h1]
theorem SC.fo_loop {sh l : Int} {G : Gm} {R : List Int} {μ : Mm} (h : SC sh l G R μ) {N : Nat} {f : Int} (h0 : 0 ≤ f) (h1 : f ≤ (spl G R).1.length) : ∀ (k n i : Nat) (v : Int), (i : Int) + k = fR (spl G R) (f + 1) → k < n → 0 ≤ v → v ≤ i → jX5_foulsIn_8 N n sh f v i μ = some (v + fls ((R.drop i).take k), μ)
  | 0, n + 1, i, v, hi, hn, q0, q1 => by
    show jX5_foulsIn_8b (jX5_foulsIn_8 N n) N sh f v i μ = _
    unfold jX5_foulsIn_8b
    have h9 : f ≤ 9 := by have := (h.1.2.2.2.ok h.1.2.2.1).2.1; have := h.1.2.2.1.2.1; omega
    rw [i_add_e (by omega) (by omega), h.fr, b2_e, if_pos (by omega)]
    simp [fls, lsum]
  | k + 1, n + 1, i, v, hi, hn, q0, q1 => by
    show jX5_foulsIn_8b (jX5_foulsIn_8 N n) N sh f v i μ = _
    unfold jX5_foulsIn_8b jX5_foulsIn_35
    have h9 : f ≤ 9 := by have := (h.1.2.2.2.ok h.1.2.2.1).2.1; have := h.1.2.2.1.2.1; omega
    have hf := fR_ok (spl G R) (f + 1)
    have hl := (R_len h.1.2.2.1 h.1.2.2.2)
    have he := spl_len G R
    have c : i < R.length := by omega
    rw [i_add_e (by omega) (by omega), h.fr, b2_e, if_neg (by omega), h.ra, b2_e]
    have e : fls ((R.drop i).take (k + 1)) = (if rA R i = -2 then 1 else 0) + fls ((R.drop (i + 1)).take k) := by
      unfold rA
      rw [if_pos (show 0 ≤ (i : Int) ∧ (i : Int) < R.length by omega), Int.toNat_natCast, List.drop_eq_getElem_cons c, List.take_succ_cons, List.getD_eq_getElem?_getD, List.getElem?_eq_getElem c]
      simp [fls, lsum]
    rw [e]
    simp only [bnd_e]
    by_cases z : rA R i = -2
    · rw [if_neg (not_not_intro z), if_pos z, i_add_e (by omega) (by omega), i_add_e (by omega) (by omega), show (i : Int) + 1 = ((i + 1 : Nat) : Int) by omega, SC.fo_loop h h0 h1 k n (i + 1) (v + 1) (by omega) (by omega) (by omega) (by omega), Int.add_assoc]
    · rw [if_pos z, if_neg z, i_add_e (by omega) (by omega), i_add_e (by omega) (by omega), show (i : Int) + 1 = ((i + 1 : Nat) : Int) by omega, SC.fo_loop h h0 h1 k n (i + 1) (v + 0) (by omega) (by omega) (by omega) (by omega), Int.add_assoc]
  | _ + 1, 0, _, _, _, hn, _, _ => absurd hn (by omega)
  | 0, 0, _, _, _, hn, _, _ => absurd hn (by omega)
theorem SC.fo {sh l : Int} {G : Gm} {R : List Int} {μ : Mm} (h : SC sh l G R μ) {N : Nat} (hN : 1000000 ≤ N) {f : Int} (h0 : 0 ≤ f) (h1 : f ≤ (spl G R).1.length) : jX5_foulsIn N sh f μ = some (fls (fra (spl G R) f), μ) := by
  unfold jX5_foulsIn
  have hf := fR_ok (spl G R) f
  have e := fra_len (s := spl G R) h0
  have hs := fra_sz h.1.2.2.1 h.1.2.2.2 h0 h1
  rw [h.fr, b2_e]
  have := h.fo_loop (N := N) h0 h1 (fra (spl G R) f).length N (fR (spl G R) f).toNat 0 (by omega) (by omega) (by omega) (by omega)
  rw [fra_drop h0 h1, show (((fR (spl G R) f).toNat : Nat) : Int) = fR (spl G R) f by omega, Int.zero_add] at this
  exact this
theorem SC.cl {sh l : Int} {G : Gm} {R : List Int} {μ : Mm} (h : SC sh l G R μ) {N : Nat} (hN : 1000000 ≤ N) {f : Int} (h0 : 0 ≤ f) (h1 : f ≤ (spl G R).1.length) : jX5_cleanBy N sh f μ = some (cln G (fra (spl G R) f), μ) := by
  unfold jX5_cleanBy jX5_cleanBy_24 cln
  have h9 : f ≤ 9 := by have := (h.1.2.2.2.ok h.1.2.2.1).2.1; have := h.1.2.2.1.2.1; omega
  rw [h.di hN h0 h1, b2_e, h.2.2.2.2.1.2.2.2.2.1, chk_e (LK.of h.2.1 h.1.2.1).1.1, h.2.2.1.1.1]
  by_cases z : dn (fra (spl G R) f) = G.1 0
  · rw [if_neg (not_not_intro z), if_pos z, h.sz h0 h9, b2_e]
  · rw [if_pos z, if_neg z]
def sett (G : Gm) (s : Sh) (f : Int) : Prop := 0 ≤ f ∧ f < s.1.length ∧ fR s (f + 1) + ow G (fra s f) ≤ lens s.1 + s.2.length
def setI (G : Gm) (s : Sh) (f : Int) : Int := if 0 ≤ f ∧ f < s.1.length ∧ fR s (f + 1) + ow G (fra s f) ≤ lens s.1 + s.2.length then 1 else 0
theorem SC.st {sh l : Int} {G : Gm} {R : List Int} {μ : Mm} (h : SC sh l G R μ) {N : Nat} (hN : 1000000 ≤ N) (f : Int) : jX5_isSettled N sh f μ = some (setI G (spl G R) f, μ) := by
  unfold jX5_isSettled jX5_isSettled_54 jX5_isSettled_55 setI
  have hs := h.2.2.2.2.1
  have hO := h.1.2.2.2.ok h.1.2.2.1
  have hg := h.1.2.2.1.2.1
  simp only [z_e (x := 0) (Or.inl rfl), z_e (x := 1) (Or.inr rfl)]
  rw [hs.2.1]
  by_cases c0 : f < 0
  · rw [if_pos c0, if_neg (by omega)]
  rw [if_neg c0]
  by_cases c1 : ((spl G R).1.length : Int) ≤ f
  · rw [if_pos c1, if_neg (by omega)]
  have := hO.2.1
  have hf := fR_ok (spl G R) (f + 1)
  have he := spl_len G R
  have hl := R_len h.1.2.2.1 h.1.2.2.2
  have hw := ern_ok h.1.2.2.1 (cln G (fra (spl G R) f))
  rw [if_neg c1, hs.2.2.2.2.1, chk_e (LK.of h.2.1 h.1.2.1).1.1, h.2.2.1.1.2.1, if_neg (show ¬ G.1 1 ≤ f by omega), i_add_e (by omega) (by omega), h.fr, b2_e, h.cl hN (by omega) (by omega), b2_e, hs.2.2.2.2.1, chk_e (LK.of h.2.1 h.1.2.1).1.1, earnedBy_X h.1.2.1 h.2.1 h.2.2.1, b2_e, hs.1, i_add_e (by omega) (by omega)]
  show (if (R.length : Int) < fR (spl G R) (f + 1) + ow G (fra (spl G R) f) then _ else _) = _
  by_cases z : (R.length : Int) < fR (spl G R) (f + 1) + ow G (fra (spl G R) f)
  · rw [if_pos z, if_neg (by omega)]
  · rw [if_neg z, if_pos (by omega)]
/-- points of a frame, as far as rolled -/
def pts (G : Gm) (s : Sh) (f : Int) : Int := dn (fra s f) + dn ((bhd s (f + 1)).take (ow G (fra s f)).toNat) + wrt G f (dn (fra s f)) (fra s f).length (fls (fra s f)) - fls (fra s f) * G.1 3
theorem take_dn {l : List Int} (h : rok l) (n : Nat) : 0 ≤ dn (l.take n) ∧ dn (l.take n) ≤ 9 * n := by
  have h1 : rok (l.take n) := fun x hx => h x (List.mem_of_mem_take hx)
  have h2 := dn_nn h1
  have h3 := dn_le h1
  rw [List.length_take] at h3
  omega
theorem bhd_mem {G : Gm} {R : List Int} {f x : Int} (h : x ∈ bhd (spl G R) f) : x ∈ R := by
  rw [← spl_flat G R]
  unfold bhd at h
  rcases List.mem_append.mp h with z | z
  · obtain ⟨F, hF, hx⟩ := List.mem_flatten.mp z
    exact List.mem_append.mpr (Or.inl (List.mem_flatten.mpr ⟨F, List.mem_of_mem_drop hF, hx⟩))
  · exact List.mem_append.mpr (Or.inr z)
theorem bhd_rok {G : Gm} (hG : GOK G) {R : List Int} (h : VR G R) (f : Int) : rok (bhd (spl G R) f) := fun _ hx => R_rok hG h _ (bhd_mem hx)
theorem pts_ok {G : Gm} (hG : GOK G) {R : List Int} (h : VR G R) {f : Int} (h0 : 0 ≤ f) (h1 : f < (spl G R).1.length) : -50 ≤ pts G (spl G R) f ∧ pts G (spl G R) f ≤ 56 := by
  have hO := h.ok hG
  have hF := fra_FO hO h0 h1
  have hfl := fls_ok (fra (spl G R) f)
  have hg := hG.2.2.2.1
  have hw := ern_ok hG (cln G (fra (spl G R) f))
  have ht := take_dn (bhd_rok hG h (f + 1)) (ow G (fra (spl G R) f)).toNat
  have hd := dn_nn hF.1
  have hwr := wrt_ok G f (dn (fra (spl G R) f)) (fra (spl G R) f).length (fls (fra (spl G R) f))
  have hr := hG.2.2.1
  have hl := hF.2.2.1
  have hd2 := hF.2.2.2.1
  have hp := hG.1
  have e : ow G (fra (spl G R) f) = ern G (cln G (fra (spl G R) f)) := rfl
  have m1 : 0 ≤ fls (fra (spl G R) f) * G.1 3 := Int.mul_nonneg hfl.1 hg.1
  have m2 : fls (fra (spl G R) f) * G.1 3 ≤ 3 * 10 := Int.mul_le_mul (by omega) hg.2 hg.1 (by omega)
  unfold pts
  omega
theorem SC.wt {sh l : Int} {G : Gm} {R : List Int} {μ : Mm} (h : SC sh l G R μ) {N : Nat} (hN : 1000000 ≤ N) {f : Int} (h0 : 0 ≤ f) (h1 : f < (spl G R).1.length) : jX5_worthAndTaken N sh f μ = some (pts G (spl G R) f, μ) := by
  have hs := h.2.2.2.2.1
  have hG := h.1.2.2.1
  have hV := h.1.2.2.2
  have hO := hV.ok hG
  have hg := hG.2.1
  have hn := hO.2.1
  have hF := fra_FO hO h0 h1
  have hfl := fls_ok (fra (spl G R) f)
  have hc := hG.2.2.2.1
  have hw := ern_ok hG (cln G (fra (spl G R) f))
  have ht := take_dn (bhd_rok hG hV (f + 1)) (ow G (fra (spl G R) f)).toNat
  have hd := dn_nn hF.1
  have hwr := wrt_ok G f (dn (fra (spl G R) f)) (fra (spl G R) f).length (fls (fra (spl G R) f))
  have hr := hG.2.2.1
  have hl := hF.2.2.1
  have hl1 := hF.2.1
  have hd2 := hF.2.2.2.1
  have hp := hG.1
  have e : ow G (fra (spl G R) f) = ern G (cln G (fra (spl G R) f)) := rfl
  have m1 : 0 ≤ fls (fra (spl G R) f) * G.1 3 := Int.mul_nonneg hfl.1 hc.1
  have m2 : fls (fra (spl G R) f) * G.1 3 ≤ 3 * 10 := Int.mul_le_mul (by omega) hc.2 hc.1 (by omega)
  have hfR := fR_ok (spl G R) (f + 1)
  have he := spl_len G R
  have hRl := R_len hG hV
  have hk := chk_e (β := Int × Mm) (LK.of h.2.1 h.1.2.1).1.1
  unfold jX5_worthAndTaken
  rw [h.di hN h0 (by omega), b2_e, h.fo hN h0 (by omega), b2_e, i_add_e (by omega) (by omega), h.fr, b2_e, h.cl hN h0 (by omega), b2_e, hs.2.2.2.2.1, hk, earnedBy_X h.1.2.1 h.2.1 h.2.2.1, b2_e, h.tf hN (by omega) (by omega), b2_e, h.sz h0 (by omega), b2_e, hs.2.2.2.2.1, hk, worthOf_X h.1.2.1 hG ⟨h0, by omega⟩ ⟨hd, hd2⟩ ⟨by omega, hl⟩ ⟨hfl.1, hfl.2⟩ h.2.1 h.2.2.2.1, b2_e, hs.2.2.2.2.1, hk, h.2.2.1.1.2.2.2.1, R_drop (by omega) (by omega), ← e]
  simp (disch := omega) only [i_add_e, i_mul_e, i_sub_e]
  rfl
def psm (G : Gm) (s : Sh) : Nat → Int
  | 0 => 0
  | n + 1 => psm G s n + pts G s n
theorem psm_ok {G : Gm} (hG : GOK G) {R : List Int} (h : VR G R) : ∀ n : Nat, n ≤ (spl G R).1.length → -(50 * n) ≤ psm G (spl G R) n ∧ psm G (spl G R) n ≤ 56 * n
  | 0, _ => by simp [psm]
  | n + 1, hn => by
    have h1 := psm_ok hG h n (by omega)
    have h2 := pts_ok hG h (f := n) (by omega) (by omega)
    rw [psm]
    omega
theorem SC.su_loop {sh l : Int} {G : Gm} {R : List Int} {μ : Mm} (h : SC sh l G R μ) {N : Nat} (hN : 1000000 ≤ N) (hf : ((spl G R).1.length : Int) = G.1 1) : ∀ (k n i : Nat), i + k = (spl G R).1.length → k < n → jX5_sumOfFrames_4 N n sh (psm G (spl G R) i) i μ = some (psm G (spl G R) (spl G R).1.length, μ)
  | 0, n + 1, i, hi, hn => by
    show jX5_sumOfFrames_4b (jX5_sumOfFrames_4 N n) N sh (psm G (spl G R) i) i μ = _
    unfold jX5_sumOfFrames_4b
    rw [h.2.2.2.2.1.2.2.2.2.1, chk_e (LK.of h.2.1 h.1.2.1).1.1, h.2.2.1.1.2.1, if_pos (by omega), show i = (spl G R).1.length by omega]
  | k + 1, n + 1, i, hi, hn => by
    show jX5_sumOfFrames_4b (jX5_sumOfFrames_4 N n) N sh (psm G (spl G R) i) i μ = _
    unfold jX5_sumOfFrames_4b
    have hg := h.1.2.2.1.2.1
    have h1 := psm_ok h.1.2.2.1 h.1.2.2.2 i (by omega)
    have h2 := pts_ok h.1.2.2.1 h.1.2.2.2 (f := i) (by omega) (by omega)
    rw [h.2.2.2.2.1.2.2.2.2.1, chk_e (LK.of h.2.1 h.1.2.1).1.1, h.2.2.1.1.2.1, if_neg (by omega), h.wt hN (by omega) (by omega), b2_e, bnd_e, bnd_e, i_add_e (by omega) (by omega), i_add_e (by omega) (by omega)]
    exact h.su_loop hN hf k n (i + 1) (by omega) (by omega)
  | _ + 1, 0, _, _, hn => absurd hn (by omega)
  | 0, 0, _, _, hn => absurd hn (by omega)
/-- the total of a whole sheet -/
def tot (G : Gm) (s : Sh) : Int := psm G s s.1.length
theorem SC.su {sh l : Int} {G : Gm} {R : List Int} {μ : Mm} (h : SC sh l G R μ) {N : Nat} (hN : 1000000 ≤ N) (hf : ((spl G R).1.length : Int) = G.1 1) : jX5_sumOfFrames N sh μ = some (tot G (spl G R), μ) := by
  have hg := h.1.2.2.1.2.1
  exact h.su_loop hN hf (spl G R).1.length N 0 (by omega) (by omega)
theorem SC.fe {sh l : Int} {G : Gm} {R : List Int} {μ : Mm} (h : SC sh l G R μ) {N : Nat} : jX5_fillsEarned N sh μ = some (if ((spl G R).1.length : Int) = G.1 1 then cnt (owd G (spl G R).1) else 0, μ) := by
  have hs := h.2.2.2.2.1
  have hO := h.1.2.2.2.ok h.1.2.2.1
  have hn := hO.2.1
  unfold jX5_fillsEarned jX5_fillsEarned_38
  rw [hs.2.2.2.2.1, chk_e (LK.of h.2.1 h.1.2.1).1.1, h.2.2.1.1.2.1, hs.2.1]
  by_cases c : ((spl G R).1.length : Int) = G.1 1
  · rw [if_pos (by omega), if_pos c, h.fr, b2_e]
    have e : fR (spl G R) (G.1 1) = lens (spl G R).1 := by
      unfold fR
      rw [if_neg (by omega), List.take_of_length_le (by omega)]
    have hl := (R_len h.1.2.2.1 h.1.2.2.2).2
    have h0 : 0 ≤ lens (spl G R).1 := by unfold lens; omega
    have h8 := hs.2.2.2.2.2.2.2
    have h6 := hs.2.2.2.2.2.1
    have h7 := hs.2.2.2.2.2.2.1
    rw [e, i_sub_e (by omega) (by omega), ← h8]
    unfold i_max
    congr 2
    repeat' split <;> omega
  · rw [if_neg (by omega), if_neg c]
