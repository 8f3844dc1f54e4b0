/-! ===== PURE: all that may come ahead, told by the reference ===== -/
theorem fm_cg {α β : Type} {f g : α → List β} : ∀ {l : List α}, (∀ a ∈ l, f a = g a) → l.flatMap f = l.flatMap g
  | [], _ => rfl
  | a :: l, h => by rw [List.flatMap_cons, List.flatMap_cons, h a (by simp), fm_cg (fun b hb => h b (by simp [hb]))]
theorem fm_one {α β : Type} {f : α → β} : ∀ (l : List α), l.flatMap (fun a => [f a]) = l.map f
  | [] => rfl
  | a :: l => by rw [List.flatMap_cons, List.map_cons, fm_one l]; rfl
theorem frwS {α : Type} {G : Gm} {n : Nat} {st : Int} {f : List Int → α} : (frw G (n + 1) st []).map f = (iot (st.toNat + 1) 0).flatMap (fun t => (frw G n (nst G st t) []).map (fun r => f (t :: r))) := by
  rw [frw, upto_iot, List.map_flatMap]
  congr 1
  funext t
  rw [List.map_map]
  rfl
theorem frw0 {α : Type} {G : Gm} {st : Int} {f : List Int → α} : (frw G 0 st []).map f = [f []] := rfl
theorem w3_enc {o : Ow} (h : OwOK o) (a b c : Int) : w3 (enc o) a b c = a * o.1 + b * o.2.1 + c * o.2.2 := by
  unfold OwOK at h
  have e1 : enc o / 6 = o.1 := by unfold enc; omega
  have e2 : enc o / 2 % 3 = o.2.1 := by unfold enc; omega
  have e3 : enc o % 2 = o.2.2 := by unfold enc; omega
  unfold w3
  rw [e1, e2, e3]
theorem rst_nst {G : Gm} {r t : Int} (ht : 0 ≤ t) : rst G r t = nst G r t := by
  have e : tk t = t := by unfold tk; rw [if_neg (by omega)]
  unfold rst nst
  rw [e]
  by_cases c : t = r
  · rw [if_pos c, if_pos (by omega)]
  · rw [if_neg c, if_neg (by omega)]
theorem iot_mem {n : Nat} {a x : Int} (h : x ∈ iot n a) : a ≤ x ∧ x < a + n := by
  rw [← iot_range] at h
  obtain ⟨k, hk, rfl⟩ := List.mem_map.mp h
  have := List.mem_range.mp hk
  omega
theorem cnt_cs {o : Ow} (h : OwOK o) : (cnt o = 0 ∧ o.1 = 0 ∧ o.2.1 = 0 ∧ o.2.2 = 0) ∨ (cnt o = 1 ∧ 1 ≤ o.1 ∧ o.2.1 = 0 ∧ o.2.2 = 0) ∨ (cnt o = 2 ∧ 1 ≤ o.2.1 ∧ o.2.2 = 0) ∨ (cnt o = 3 ∧ 1 ≤ o.2.2) := by
  unfold OwOK at h
  unfold cnt
  by_cases c1 : 1 ≤ o.1
  · by_cases c2 : 1 ≤ o.2.1
    · by_cases c3 : 1 ≤ o.2.2
      · rw [if_pos c1, if_pos c2, if_pos c3]; omega
      · rw [if_pos c1, if_pos c2, if_neg c3]; omega
    · rw [if_pos c1, if_neg c2, if_neg (by omega)]; omega
  · rw [if_neg c1, if_neg (by omega), if_neg (by omega)]; omega
theorem tk_nn {t : Int} (h : 0 ≤ t) : tk t = t := by unfold tk; rw [if_neg (by omega)]
theorem inC_frw {G : Gm} {o : Ow} (ho : OwOK o) (a b rc : Int) : inC G (cnt o) (enc o) a b rc = (frw G (cnt o - 2).toNat rc []).map (fun r => a * o.1 + b * o.2.1 + gf (lt1 (lt1 o)) r) := by
  unfold inC
  by_cases c : cnt o ≤ 2
  · rw [if_pos c, show (cnt o - 2).toNat = 0 by omega, frw0]
    show [w3 (enc o) a b 0] = _
    rw [w3_enc ho, gf, Int.zero_mul]
  · rw [if_neg c, show (cnt o - 2).toNat = 0 + 1 by have := cnt_ok (o := o); omega, frwS, ← fm_one]
    apply fm_cg
    intro t ht
    have := iot_mem ht
    rw [frw0, w3_enc ho, gf, gf, tk_nn this.1]
    show [a * o.1 + b * o.2.1 + t * o.2.2] = [a * o.1 + b * o.2.1 + (t * o.2.2 + 0)]
    rw [Int.add_zero]
theorem inB_frw {G : Gm} {o : Ow} (ho : OwOK o) (a rb : Int) : inB G (cnt o) (enc o) a rb = (frw G (cnt o - 1).toNat rb []).map (fun r => a * o.1 + gf (lt1 o) r) := by
  unfold inB
  by_cases c : cnt o ≤ 1
  · rw [if_pos c, show (cnt o - 1).toNat = 0 by omega, frw0]
    show (inC G (cnt o) (enc o) a 0 (rst G rb 0)) ++ [] = _
    rw [List.append_nil, inC_frw ho, show (cnt o - 2).toNat = 0 by omega, frw0, gf, gf, Int.zero_mul, Int.add_zero, Int.add_zero]
  · rw [if_neg c, show (cnt o - 1).toNat = (cnt o - 2).toNat + 1 by omega, frwS]
    apply fm_cg
    intro t ht
    have := iot_mem ht
    rw [inC_frw ho, rst_nst this.1]
    congr 1
    funext r
    rw [gf, tk_nn this.1, Int.add_assoc]
    rfl
theorem fill_frw {G : Gm} {o : Ow} (ho : OwOK o) : (iot ((if cnt o ≤ 0 then 0 else G.1 0).toNat + 1) 0).flatMap (fun a => inB G (cnt o) (enc o) a (rst G (G.1 0) a)) = (frw G (cnt o).toNat (G.1 0) []).map (gf o) := by
  by_cases c : cnt o ≤ 0
  · rw [if_pos c, show (cnt o).toNat = 0 by omega, frw0]
    show (inB G (cnt o) (enc o) 0 (rst G (G.1 0) 0)) ++ [] = _
    rw [List.append_nil, inB_frw ho, show (cnt o - 1).toNat = 0 by omega, frw0, gf, gf, Int.zero_mul]
    rfl
  · rw [if_neg c, show (cnt o).toNat = (cnt o - 1).toNat + 1 by omega, frwS]
    apply fm_cg
    intro t ht
    have := iot_mem ht
    rw [inB_frw ho, rst_nst this.1]
    congr 1
    funext r
    rw [gf, tk_nn this.1]
/-- a free question: nothing is given -/
def QF : Qu := (fun _ => [], false, 0, 0)
theorem QF_ok (G : Gm) : QOK G QF := ⟨fun _ _ _ => trivial, trivial⟩
theorem Bk_0 {G : Gm} {f : Nat} (hf : (f : Int) = G.1 1) {o : Ow} : Bk G QF 0 f o = (frw G (cnt o).toNat (G.1 0) []).map (gf o) := by
  unfold Bk KS
  rw [if_neg (by omega), if_neg (by rintro ⟨z, _⟩; exact absurd z (by decide)), List.map_map]
  rfl
theorem Bk_S {G : Gm} {n f : Nat} (hf : (f : Int) < G.1 1) {o : Ow} : Bk G QF (n + 1) f o = (frow (G.1 2).toNat (G.1 0) []).flatMap (fun F => (Bk G QF n (f + 1) (fo G f o F).1).map (fun b => (fo G f o F).2 + b)) := by
  rw [Bk, KS, if_pos hf, List.flatMap_map]
  rfl
theorem cB_nil (s : Int) : cB [] s = 0 := rfl
theorem mn_small {n : Nat} (h : n ≤ 100000) : mnI CM (n : Int) = n := by
  unfold mnI CM
  rw [if_pos (by omega)]
theorem frw_small {G : Gm} (hG : GOK G) {o : Ow} : ((frw G (cnt o).toNat (G.1 0) []).map (gf o)).length ≤ 1000 := by
  have hp := hG.1
  have hc := cnt_ok (o := o)
  rw [List.length_map]
  have h := frw_len hG (cnt o).toNat (G.1 0) [] (by omega) trivial
  have : 10 ^ (cnt o).toNat ≤ 10 ^ 3 := Nat.pow_le_pow_right (by decide) (by omega)
  omega
theorem fillsAhead_x {N : Nat} (hN : 1000000 ≤ N) {G : Gm} (hG : GOK G) {t x : Int} (ht : t = 95 ∨ t = 96) (hx : 0 ≤ x ∧ x < 24) {μ : Mm} (hK : KR μ) (hM : GM G μ) (hT : TRx t (bas (G.1 1) x) [] μ) : ∃ n3 μ', jX8_fillsAhead N 50 t x μ = some μ' ∧ (∀ o, OwOK o → x = enc o → n3 = cnt o) ∧ TRx t (bas (G.1 1) x) ((iot ((if n3 ≤ 0 then 0 else G.1 0).toNat + 1) 0).flatMap (fun a => inB G n3 x a (rst G (G.1 0) a))) μ' ∧ oRx t (bas (G.1 1) x) μ μ' := by
  have hp := hG.1
  have key : ∀ n3 : Int, (∀ o, OwOK o → x = enc o → n3 = cnt o) → jX8_fillsAhead N 50 t x μ = jX8_fillsAhead_31 N 50 t x n3 μ → ∃ n3 μ', jX8_fillsAhead N 50 t x μ = some μ' ∧ (∀ o, OwOK o → x = enc o → n3 = cnt o) ∧ TRx t (bas (G.1 1) x) ((iot ((if n3 ≤ 0 then 0 else G.1 0).toNat + 1) 0).flatMap (fun a => inB G n3 x a (rst G (G.1 0) a))) μ' ∧ oRx t (bas (G.1 1) x) μ μ' := by
    intro n3 h1 h2
    have hlim : 0 ≤ (if n3 ≤ 0 then 0 else G.1 0) ∧ (if n3 ≤ 0 then 0 else G.1 0) ≤ 9 := by split <;> omega
    obtain ⟨μ', r1, r2, r3⟩ := fill_35 (N := N) hN hG ht hx (n3 := n3) ((if n3 ≤ 0 then 0 else G.1 0).toNat + 1) N 0 [] (μ := μ) (by omega) (by omega) (by omega) hK hM (by simp; omega) hT
    exact ⟨n3, μ', by rw [h2]; exact r1, h1, by simpa using r2, r3⟩
  have ho : ∀ o, OwOK o → x = enc o → x % 2 = o.2.2 ∧ x / 2 % 3 = o.2.1 := by
    intro o ho e
    unfold OwOK at ho
    unfold enc at e
    omega
  have d2 : i_rem (i_div x 2) 3 = x / 2 % 3 := by rw [i_div_p (by omega) (by omega) (by omega) (by omega), i_rem_p (by omega) (by omega) (by omega) (by omega)]
  have d3 : i_rem x 2 = x % 2 := i_rem_p (by omega) (by omega) (by omega) (by omega)
  by_cases c0 : x = 0
  · refine key 0 (fun o h e => ?_) (by unfold jX8_fillsAhead; rw [if_neg (not_not_intro c0)])
    have h1 := h
    unfold OwOK at h1
    unfold enc at e
    rcases cnt_cs h with z | z | z | z <;> (clear d2 d3; omega)
  · by_cases c1 : x % 2 ≤ 0
    · by_cases c2 : x / 2 % 3 ≤ 0
      · refine key 1 (fun o h e => ?_) (by unfold jX8_fillsAhead; rw [if_pos c0, d3, if_pos c1, d2, if_pos c2])
        have h1 := ho o h e
        unfold enc at e
        rcases cnt_cs h with z | z | z | z <;> (clear d2 d3; omega)
      · refine key 2 (fun o h e => ?_) (by unfold jX8_fillsAhead; rw [if_pos c0, d3, if_pos c1, d2, if_neg c2])
        have h1 := ho o h e
        rcases cnt_cs h with z | z | z | z <;> (clear d2 d3; omega)
    · refine key 3 (fun o h e => ?_) (by unfold jX8_fillsAhead; rw [if_pos c0, d3, if_neg c1])
      have h1 := ho o h e
      rcases cnt_cs h with z | z | z | z <;> (clear d2 d3; omega)
theorem bas_cel (f : Int) (o : Ow) (s : Int) : bas f (enc o) + s = cel f o s := rfl
theorem TRx.tr {G : Gm} (hG : GOK G) {t f : Int} {o : Ow} (ho : OwOK o) {μ : Mm} (h : TRx t (bas f (enc o)) ((frw G (cnt o).toNat (G.1 0) []).map (gf o)) μ) : TR t f o ((frw G (cnt o).toNat (G.1 0) []).map (gf o)) μ := fun s s0 s1 => by
  have h1 := h s s0 s1
  rw [bas_cel] at h1
  have h2 := cB_len ((frw G (cnt o).toNat (G.1 0) []).map (gf o)) s
  have h3 := frw_small hG (o := o)
  rw [h1, mn_small (by omega)]
theorem isOwing_M {N : Nat} {x : Int} (hx : 0 ≤ x ∧ x < 24) {μ : Mm} : (∃ o, OwOK o ∧ x = enc o ∧ jX8_isOwing N x μ = some (1, μ)) ∨ ((∀ o, OwOK o → ¬ x = enc o) ∧ jX8_isOwing N x μ = some (0, μ)) := by
  have d1 : i_div x 6 = x / 6 := i_div_p (by omega) (by omega) (by omega) (by omega)
  have d2 : i_rem (i_div x 2) 3 = x / 2 % 3 := by rw [i_div_p (by omega) (by omega) (by omega) (by omega), i_rem_p (by omega) (by omega) (by omega) (by omega)]
  have d3 : i_rem x 2 = x % 2 := i_rem_p (by omega) (by omega) (by omega) (by omega)
  unfold jX8_isOwing jX8_oneOf
  rw [d2, d3, d1, b2_e]
  clear d1 d2 d3
  by_cases c1 : x / 2 % 3 < x % 2
  · right
    refine ⟨fun o h e => ?_, by rw [if_pos c1]; rfl⟩
    unfold OwOK at h
    unfold enc at e
    omega
  · by_cases c2 : x / 6 < x / 2 % 3
    · right
      refine ⟨fun o h e => ?_, by rw [if_neg c1, if_pos c2]; rfl⟩
      unfold OwOK at h
      unfold enc at e
      omega
    · left
      refine ⟨(x / 6, x / 2 % 3, x % 2), ?_, ?_, by rw [if_neg c1, if_neg c2]; rfl⟩
      · unfold OwOK
        dsimp only
        omega
      · unfold enc
        dsimp only
        omega
theorem mayOwe_M {N : Nat} {f x : Int} {μ : Mm} : jX8_mayOwe N 50 f x μ = some (if 0 < f ∨ x = 0 then 1 else 0, μ) := by
  unfold jX8_mayOwe
  by_cases c : 0 < f
  · rw [if_pos c, if_pos (Or.inl c)]; rfl
  · by_cases d : x = 0
    · rw [if_neg c, if_neg (not_not_intro d), if_pos (Or.inr d)]; rfl
    · rw [if_neg c, if_pos d, if_neg (by omega)]; rfl
