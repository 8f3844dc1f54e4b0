/-! ===== PURE: all that may come ahead, told by the reference ===== -/
theorem fm_cg {α β : Type} {f g : α → List β} : ∀ {l : List α}, (∀ a ∈ l, f a = g a) → l.flatMap f = l.flatMap g
  | [], _ => rfl
  | a :: l, h => by rw [List.flatMap_cons, List.flatMap_cons, h a (by simp), fm_cg (fun b hb => h b (by simp [hb]))]
theorem fm_one {α β : Type} {f : α → β} : ∀ (l : List α), l.flatMap (fun a => [f a]) = l.map f
  | [] => rfl
  | a :: l => by rw [List.flatMap_cons, List.map_cons, fm_one l]; rfl
theorem frwS {α : Type} {G : Gm} {n : Nat} {st : Int} {f : List Int → α} : (frw G (n + 1) st []).map f = (iot (st.toNat + 1) 0).flatMap (fun t => (frw G n (nst G st t) []).map (fun r => f (t :: r))) := by
  rw [frw, upto_iot, List.map_flatMap]
  congr 1
  funext t
  rw [List.map_map]
  rfl
theorem frw0 {α : Type} {G : Gm} {st : Int} {f : List Int → α} : (frw G 0 st []).map f = [f []] := rfl
theorem w3_enc {o : Ow} (h : OwOK o) (a b c : Int) : w3 (enc o) a b c = a * o.1 + b * o.2.1 + c * o.2.2 := by
  unfold OwOK at h
  have e1 : enc o / 6 = o.1 := by unfold enc; omega
  have e2 : enc o / 2 % 3 = o.2.1 := by unfold enc; omega
  have e3 : enc o % 2 = o.2.2 := by unfold enc; omega
  unfold w3
  rw [e1, e2, e3]
theorem rst_nst {G : Gm} {r t : Int} (ht : 0 ≤ t) : rst G r t = nst G r t := by
  have e : tk t = t := by unfold tk; rw [if_neg (by omega)]
  unfold rst nst
  rw [e]
  by_cases c : t = r
  · rw [if_pos c, if_pos (by omega)]
  · rw [if_neg c, if_neg (by omega)]
theorem iot_mem {n : Nat} {a x : Int} (h : x ∈ iot n a) : a ≤ x ∧ x < a + n := by
  rw [← iot_range] at h
  obtain ⟨k, hk, rfl⟩ := List.mem_map.mp h
  have := List.mem_range.mp hk
  omega
theorem cnt_cs {o : Ow} (h : OwOK o) : (cnt o = 0 ∧ o.1 = 0 ∧ o.2.1 = 0 ∧ o.2.2 = 0) ∨ (cnt o = 1 ∧ 1 ≤ o.1 ∧ o.2.1 = 0 ∧ o.2.2 = 0) ∨ (cnt o = 2 ∧ 1 ≤ o.2.1 ∧ o.2.2 = 0) ∨ (cnt o = 3 ∧ 1 ≤ o.2.2) := by
  unfold OwOK at h
  unfold cnt
  by_cases c1 : 1 ≤ o.1
  · by_cases c2 : 1 ≤ o.2.1
    · by_cases c3 : 1 ≤ o.2.2
      · rw [if_pos c1, if_pos c2, if_pos c3]; omega
      · rw [if_pos c1, if_pos c2, if_neg c3]; omega
    · rw [if_pos c1, if_neg c2, if_neg (by omega)]; omega
  · rw [if_neg c1, if_neg (by omega), if_neg (by omega)]; omega
theorem tk_nn {t : Int} (h : 0 ≤ t) : tk t = t := by unfold tk; rw [if_neg (by omega)]
theorem inC_frw {G : Gm} {o : Ow} (ho : OwOK o) (a b rc : Int) : inC G (cnt o) (enc o) a b rc = (frw G (cnt o - 2).toNat rc []).map (fun r => a * o.1 + b * o.2.1 + gf (lt1 (lt1 o)) r) := by
  unfold inC
  by_cases c : cnt o ≤ 2
  · rw [if_pos c, show (cnt o - 2).toNat = 0 by omega, frw0]
    show [w3 (enc o) a b 0] = _
    rw [w3_enc ho, gf, Int.zero_mul]
  · rw [if_neg c, show (cnt o - 2).toNat = 0 + 1 by have := cnt_ok (o := o); omega, frwS, ← fm_one]
    apply fm_cg
    intro t ht
    have := iot_mem ht
    rw [frw0, w3_enc ho, gf, gf, tk_nn this.1]
    show [a * o.1 + b * o.2.1 + t * o.2.2] = [a * o.1 + b * o.2.1 + (t * o.2.2 + 0)]
    rw [Int.add_zero]
theorem inB_frw {G : Gm} {o : Ow} (ho : OwOK o) (a rb : Int) : inB G (cnt o) (enc o) a rb = (frw G (cnt o - 1).toNat rb []).map (fun r => a * o.1 + gf (lt1 o) r) := by
  unfold inB
  by_cases c : cnt o ≤ 1
  · rw [if_pos c, show (cnt o - 1).toNat = 0 by omega, frw0]
    show (inC G (cnt o) (enc o) a 0 (rst G rb 0)) ++ [] = _
    rw [List.append_nil, inC_frw ho, show (cnt o - 2).toNat = 0 by omega, frw0, gf, gf, Int.zero_mul, Int.add_zero, Int.add_zero]
  · rw [if_neg c, show (cnt o - 1).toNat = (cnt o - 2).toNat + 1 by omega, frwS]
    apply fm_cg
    intro t ht
    have := iot_mem ht
    rw [inC_frw ho, rst_nst this.1]
    congr 1
    funext r
    rw [gf, tk_nn this.1, Int.add_assoc]
    rfl
theorem fill_frw {G : Gm} {o : Ow} (ho : OwOK o) : (iot ((if cnt o ≤ 0 then 0 else G.1 0).toNat + 1) 0).flatMap (fun a => inB G (cnt o) (enc o) a (rst G (G.1 0) a)) = (frw G (cnt o).toNat (G.1 0) []).map (gf o) := by
  by_cases c : cnt o ≤ 0
  · rw [if_pos c, show (cnt o).toNat = 0 by omega, frw0]
    show (inB G (cnt o) (enc o) 0 (rst G (G.1 0) 0)) ++ [] = _
    rw [List.append_nil, inB_frw ho, show (cnt o - 1).toNat = 0 by omega, frw0, gf, gf, Int.zero_mul]
    rfl
  · rw [if_neg c, show (cnt o).toNat = (cnt o - 1).toNat + 1 by omega, frwS]
    apply fm_cg
    intro t ht
    have := iot_mem ht
    rw [inB_frw ho, rst_nst this.1]
    congr 1
    funext r
    rw [gf, tk_nn this.1]
/-- a free question: nothing is given -/
def QF : Qu := (fun _ => [], false, 0, 0)
theorem QF_ok (G : Gm) : QOK G QF := ⟨fun _ _ _ => trivial, trivial⟩
theorem Bk_0 {G : Gm} {f : Nat} (hf : (f : Int) = G.1 1) {o : Ow} : Bk G QF 0 f o = (frw G (cnt o).toNat (G.1 0) []).map (gf o) := by
  unfold Bk KS
  rw [if_neg (by omega), if_neg (by rintro ⟨z, _⟩; exact absurd z (by decide)), List.map_map]
  rfl
theorem Bk_S {G : Gm} {n f : Nat} (hf : (f : Int) < G.1 1) {o : Ow} : Bk G QF (n + 1) f o = (frow (G.1 2).toNat (G.1 0) []).flatMap (fun F => (Bk G QF n (f + 1) (fo G f o F).1).map (fun b => (fo G f o F).2 + b)) := by
  rw [Bk, KS, if_pos hf, List.flatMap_map]
  rfl
theorem cB_nil (s : Int) : cB [] s = 0 := rfl
theorem mn_small {n : Nat} (h : n ≤ 100000) : mnI CM (n : Int) = n := by
  unfold mnI CM
  rw [if_pos (by omega)]
theorem frw_small {G : Gm} (hG : GOK G) {o : Ow} : ((frw G (cnt o).toNat (G.1 0) []).map (gf o)).length ≤ 1000 := by
  have hp := hG.1
  have hc := cnt_ok (o := o)
  rw [List.length_map]
  have h := frw_len hG (cnt o).toNat (G.1 0) [] (by omega) trivial
  have : 10 ^ (cnt o).toNat ≤ 10 ^ 3 := Nat.pow_le_pow_right (by decide) (by omega)
  omega
theorem fillsAhead_x {N : Nat} (hN : 1000000 ≤ N) {G : Gm} (hG : GOK G) {t x : Int} (ht : t = 95 ∨ t = 96) (hx : 0 ≤ x ∧ x < 24) {μ : Mm} (hK : KR μ) (hM : GM G μ) (hT : TRx t (bas (G.1 1) x) [] μ) : ∃ n3 μ', jX8_fillsAhead N 50 t x μ = some μ' ∧ (∀ o, OwOK o → x = enc o → n3 = cnt o) ∧ TRx t (bas (G.1 1) x) ((iot ((if n3 ≤ 0 then 0 else G.1 0).toNat + 1) 0).flatMap (fun a => inB G n3 x a (rst G (G.1 0) a))) μ' ∧ oRx t (bas (G.1 1) x) μ μ' := by
  have hp := hG.1
  have key : ∀ n3 : Int, (∀ o, OwOK o → x = enc o → n3 = cnt o) → jX8_fillsAhead N 50 t x μ = jX8_fillsAhead_31 N 50 t x n3 μ → ∃ n3 μ', jX8_fillsAhead N 50 t x μ = some μ' ∧ (∀ o, OwOK o → x = enc o → n3 = cnt o) ∧ TRx t (bas (G.1 1) x) ((iot ((if n3 ≤ 0 then 0 else G.1 0).toNat + 1) 0).flatMap (fun a => inB G n3 x a (rst G (G.1 0) a))) μ' ∧ oRx t (bas (G.1 1) x) μ μ' := by
    intro n3 h1 h2
    have hlim : 0 ≤ (if n3 ≤ 0 then 0 else G.1 0) ∧ (if n3 ≤ 0 then 0 else G.1 0) ≤ 9 := by split <;> omega
    obtain ⟨μ', r1, r2, r3⟩ := fill_35 (N := N) hN hG ht hx (n3 := n3) ((if n3 ≤ 0 then 0 else G.1 0).toNat + 1) N 0 [] (μ := μ) (by omega) (by omega) (by omega) hK hM (by simp; omega) hT
    exact ⟨n3, μ', by rw [h2]; exact r1, h1, by simpa using r2, r3⟩
  have ho : ∀ o, OwOK o → x = enc o → x % 2 = o.2.2 ∧ x / 2 % 3 = o.2.1 := by
    intro o ho e
    unfold OwOK at ho
    unfold enc at e
    omega
  have d2 : i_rem (i_div x 2) 3 = x / 2 % 3 := by rw [i_div_p (by omega) (by omega) (by omega) (by omega), i_rem_p (by omega) (by omega) (by omega) (by omega)]
  have d3 : i_rem x 2 = x % 2 := i_rem_p (by omega) (by omega) (by omega) (by omega)
  by_cases c0 : x = 0
  · refine key 0 (fun o h e => ?_) (by unfold jX8_fillsAhead; rw [if_neg (not_not_intro c0)])
    have h1 := h
    unfold OwOK at h1
    unfold enc at e
    rcases cnt_cs h with z | z | z | z <;> (clear d2 d3; omega)
  · by_cases c1 : x % 2 ≤ 0
    · by_cases c2 : x / 2 % 3 ≤ 0
      · refine key 1 (fun o h e => ?_) (by unfold jX8_fillsAhead; rw [if_pos c0, d3, if_pos c1, d2, if_pos c2])
        have h1 := ho o h e
        unfold enc at e
        rcases cnt_cs h with z | z | z | z <;> (clear d2 d3; omega)
      · refine key 2 (fun o h e => ?_) (by unfold jX8_fillsAhead; rw [if_pos c0, d3, if_pos c1, d2, if_neg c2])
        have h1 := ho o h e
        rcases cnt_cs h with z | z | z | z <;> (clear d2 d3; omega)
    · refine key 3 (fun o h e => ?_) (by unfold jX8_fillsAhead; rw [if_pos c0, d3, if_neg c1])
      have h1 := ho o h e
      rcases cnt_cs h with z | z | z | z <;> (clear d2 d3; omega)
theorem bas_cel (f : Int) (o : Ow) (s : Int) : bas f (enc o) + s = cel f o s := rfl
theorem TRx.tr {G : Gm} (hG : GOK G) {t f : Int} {o : Ow} (ho : OwOK o) {μ : Mm} (h : TRx t (bas f (enc o)) ((frw G (cnt o).toNat (G.1 0) []).map (gf o)) μ) : TR t f o ((frw G (cnt o).toNat (G.1 0) []).map (gf o)) μ := fun s s0 s1 => by
  have h1 := h s s0 s1
  rw [bas_cel] at h1
  have h2 := cB_len ((frw G (cnt o).toNat (G.1 0) []).map (gf o)) s
  have h3 := frw_small hG (o := o)
  rw [h1, mn_small (by omega)]
theorem isOwing_M {N : Nat} {x : Int} (hx : 0 ≤ x ∧ x < 24) {μ : Mm} : (∃ o, OwOK o ∧ x = enc o ∧ jX8_isOwing N x μ = some (1, μ)) ∨ ((∀ o, OwOK o → ¬ x = enc o) ∧ jX8_isOwing N x μ = some (0, μ)) := by
  have d1 : i_div x 6 = x / 6 := i_div_p (by omega) (by omega) (by omega) (by omega)
  have d2 : i_rem (i_div x 2) 3 = x / 2 % 3 := by rw [i_div_p (by omega) (by omega) (by omega) (by omega), i_rem_p (by omega) (by omega) (by omega) (by omega)]
  have d3 : i_rem x 2 = x % 2 := i_rem_p (by omega) (by omega) (by omega) (by omega)
  unfold jX8_isOwing jX8_oneOf
  rw [d2, d3, d1, b2_e]
  clear d1 d2 d3
  by_cases c1 : x / 2 % 3 < x % 2
  · right
    refine ⟨fun o h e => ?_, by rw [if_pos c1]; rfl⟩
    unfold OwOK at h
    unfold enc at e
    omega
  · by_cases c2 : x / 6 < x / 2 % 3
    · right
      refine ⟨fun o h e => ?_, by rw [if_neg c1, if_pos c2]; rfl⟩
      unfold OwOK at h
      unfold enc at e
      omega
    · left
      refine ⟨(x / 6, x / 2 % 3, x % 2), ?_, ?_, by rw [if_neg c1, if_neg c2]; rfl⟩
      · unfold OwOK
        dsimp only
        omega
      · unfold enc
        dsimp only
        omega
theorem mayOwe_M {N : Nat} {f x : Int} {μ : Mm} : jX8_mayOwe N 50 f x μ = some (if 0 < f ∨ x = 0 then 1 else 0, μ) := by
  unfold jX8_mayOwe
  by_cases c : 0 < f
  · rw [if_pos c, if_pos (Or.inl c)]; rfl
  · by_cases d : x = 0
    · rw [if_neg c, if_neg (not_not_intro d), if_pos (Or.inr d)]; rfl
    · rw [if_neg c, if_pos d, if_neg (by omega)]; rfl
theorem zero_loop {N : Nat} : ∀ (k n : Nat) (i : Int) {μ : Mm}, i + k = 228960 → 0 ≤ i → k < n → KR μ → (∀ j, 0 ≤ j → j < i → m_gt μ 95 j = 0) → ∃ μ', jX8_tellsAhead_15 N n 50 i μ = jX8_tellsAhead_36 N N 50 0 μ' ∧ (∀ j, 0 ≤ j → j < 228960 → m_gt μ' 95 j = 0) ∧ Fr [95] [] μ μ'
  | k, 0, i, μ, hi, h0, hn, _, _ => absurd hn (by omega)
  | 0, n + 1, i, μ, hi, h0, hn, hK, hZ => by
    refine ⟨μ, ?_, fun j j0 j1 => hZ j j0 (by omega), Fr.rf0 _ _ _⟩
    show jX8_tellsAhead_15b (jX8_tellsAhead_15 N n) N 50 i μ = _
    unfold jX8_tellsAhead_15b
    rw [if_pos (by omega)]
  | k + 1, n + 1, i, μ, hi, h0, hn, hK, hZ => by
    obtain ⟨μ', r1, r2, r3⟩ := zero_loop (N := N) k n (i + 1) (μ := m_st μ 95 i 0) (by omega) (by omega) (by omega) (hK.sa _ _ (by decide)) (fun j j0 j1 => by
      by_cases c : j = i
      · rw [c, gt_same]
      · rw [gt_i _ _ _ c]
        exact hZ j j0 (by omega))
    refine ⟨μ', ?_, r2, (Fr.stI (Fr.rf0 _ _ _) (by simp)).trI r3⟩
    rw [← r1]
    show jX8_tellsAhead_15b (jX8_tellsAhead_15 N n) N 50 i μ = _
    unfold jX8_tellsAhead_15b
    rw [if_neg (by omega), r_50_69 hK, ast_e (k_95 hK) (by omega) (by omega), ob_e, bnd_e, i_add_e (by omega) (by omega)]
def FT (G : Gm) : Nat := (G.1 1).toNat
theorem fills_loop {N : Nat} (hN : 1000000 ≤ N) {G : Gm} (hG : GOK G) : ∀ (k n : Nat) (x : Int) {μ : Mm}, x + k = 24 → 0 ≤ x → k < n → KR μ → GM G μ → (∀ j, 0 ≤ j → j < 228960 → (j < bas (G.1 1) 0 - 460 ∨ bas (G.1 1) x - 460 ≤ j) → m_gt μ 95 j = 0) → (∀ o, OwOK o → enc o < x → TR 95 (G.1 1) o (Bk G QF 0 (FT G) o) μ) → ∃ μ', jX8_tellsAhead_36 N n 50 x μ = jX8_tellsAhead_66 N N 50 (G.1 1 - 1) μ' ∧ (∀ j, 0 ≤ j → j < bas (G.1 1) 0 - 460 → m_gt μ' 95 j = 0) ∧ (∀ o, OwOK o → TR 95 (G.1 1) o (Bk G QF 0 (FT G) o) μ') ∧ Fr [95] [] μ μ'
  | k, 0, x, μ, hi, h0, hn, _, _, _, _ => absurd hn (by omega)
  | 0, n + 1, x, μ, hi, h0, hn, hK, hM, hZ, hT => by
    have h8 := hG.2.1
    refine ⟨μ, ?_, fun j j0 j1 => hZ j j0 (by unfold bas at j1; omega) (Or.inl j1), fun o ho => hT o ho (by have := enc_ok ho; omega), Fr.rf0 _ _ _⟩
    show jX8_tellsAhead_36b (jX8_tellsAhead_36 N n) N 50 x μ = _
    unfold jX8_tellsAhead_36b
    rw [if_pos (by omega), r_50_32 hK, ald_e (k_75 hK) (by decide) (by decide), ob_e, hM.1.2.1, bnd_e, i_sub_e (by omega) (by omega)]
  | k + 1, n + 1, x, μ, hi, h0, hn, hK, hM, hZ, hT => by
    have h8 := hG.2.1
    obtain ⟨n3, μ1, a1, a2, a3, a4⟩ := fillsAhead_x (N := N) hN hG (t := 95) (x := x) (Or.inl rfl) (by omega) hK hM (fun s s0 s1 => by
      rw [cB_nil]
      exact hZ _ (by unfold bas; omega) (by unfold bas; omega) (Or.inr (by omega)))
    obtain ⟨μ', r1, r2, r3, r4⟩ := fills_loop hN hG (N := N) k n (x + 1) (μ := μ1) (by omega) (by omega) (by omega) (a4.KR (Or.inl rfl) hK) (a4.GM (Or.inl rfl) hM) (fun j j0 j1 hj => by
      rw [a4.2 j (by unfold bas at hj ⊢; omega)]
      exact hZ j j0 j1 (by unfold bas at hj ⊢; omega)) (fun o ho he => by
      by_cases c : enc o < x
      · intro s s0 s1
        have := enc_ok ho
        rw [a4.2 _ (by unfold bas cel; omega)]
        exact hT o ho c s s0 s1
      · have e : x = enc o := by omega
        have e3 := a2 o ho e
        rw [e3, e, fill_frw ho] at a3
        rw [Bk_0 (by unfold FT; omega)]
        exact a3.tr hG ho)
    refine ⟨μ', ?_, r2, r3, a4.1.trI r4⟩
    rw [← r1]
    show jX8_tellsAhead_36b (jX8_tellsAhead_36 N n) N 50 x μ = _
    unfold jX8_tellsAhead_36b
    rw [if_neg (by omega), r_50_69 hK, a1, ob_e, bnd_e, i_add_e (by omega) (by omega)]
theorem frame_loop {N : Nat} (hN : 1000000 ≤ N) {G : Gm} (hG : GOK G) {f m : Nat} (hf : f + m + 1 = FT G) {k66 : Int → Int → Mm → Option Mm} : ∀ (k n : Nat) (x : Int) {μ : Mm}, x + k = 24 → 0 ≤ x → k < n → KR μ → GM G μ → (∀ o, OwOK o → TR 95 (f + 1 : Nat) o (Bk G QF m (f + 1) o) μ) → (∀ o, OwOK o → enc o < x → (0 < f ∨ enc o = 0) → TR 95 f o (Bk G QF (m + 1) f o) μ) → (∀ j, 0 ≤ j → (j < bas f 0 - 460 ∨ bas f x - 460 ≤ j ∧ j < bas f 24 - 460) → m_gt μ 95 j = 0) → ∃ μ', jX8_tellsAhead_72 k66 N n 50 f x μ = k66 50 ((f : Int) - 1) μ' ∧ (∀ o, OwOK o → (0 < f ∨ enc o = 0) → TR 95 f o (Bk G QF (m + 1) f o) μ') ∧ (∀ j, (j < bas f x - 460 ∨ bas f 24 - 460 ≤ j) → m_gt μ' 95 j = m_gt μ 95 j) ∧ Fr [88, 97, 95] opS μ μ'
  | k, 0, x, μ, hi, h0, hn, _, _, _, _, _ => absurd hn (by omega)
  | 0, n + 1, x, μ, hi, h0, hn, hK, hM, hB, hT, hZ => by
    have h8 := hG.2.1
    have hfi : (f : Int) ≤ 8 := by unfold FT at hf; omega
    refine ⟨μ, ?_, fun o ho => hT o ho (by have := enc_ok ho; omega), fun _ _ => rfl, Fr.rf0 _ _ _⟩
    show jX8_tellsAhead_72b k66 (jX8_tellsAhead_72 k66 N n) N 50 f x μ = _
    unfold jX8_tellsAhead_72b
    rw [if_pos (by omega), bnd_e, i_add_e (by omega) (by omega), show (f : Int) + -1 = f - 1 by omega]
  | k + 1, n + 1, x, μ, hi, h0, hn, hK, hM, hB, hT, hZ => by
    have h8 := hG.2.1
    have hft : (f : Int) + m + 1 = G.1 1 := by unfold FT at hf; omega
    have skip : (∀ o, OwOK o → x = enc o → ¬ (0 < f ∨ enc o = 0)) → ∃ μ', jX8_tellsAhead_104 k66 (jX8_tellsAhead_72 k66 N n) N 50 f x μ = k66 50 ((f : Int) - 1) μ' ∧ (∀ o, OwOK o → (0 < f ∨ enc o = 0) → TR 95 f o (Bk G QF (m + 1) f o) μ') ∧ (∀ j, (j < bas f x - 460 ∨ bas f 24 - 460 ≤ j) → m_gt μ' 95 j = m_gt μ 95 j) ∧ Fr [88, 97, 95] opS μ μ' := by
      intro hno
      obtain ⟨μ', r1, r2, r3, r4⟩ := frame_loop hN hG (N := N) hf (k66 := k66) k n (x + 1) (μ := μ) (by omega) (by omega) (by omega) hK hM hB (fun o ho he hq => by
        by_cases c : enc o < x
        · exact hT o ho c hq
        · exact absurd hq (hno o ho (by omega))) (fun j j0 hj => hZ j j0 (by unfold bas at hj ⊢; omega))
      refine ⟨μ', ?_, r2, fun j hj => r3 j (by unfold bas at hj ⊢; omega), r4⟩
      unfold jX8_tellsAhead_104
      rw [bnd_e, i_add_e (by omega) (by omega)]
      exact r1
    show ∃ μ', jX8_tellsAhead_72b k66 (jX8_tellsAhead_72 k66 N n) N 50 f x μ = _ ∧ _
    unfold jX8_tellsAhead_72b
    rw [if_neg (by omega), mayOwe_M, b2_e]
    by_cases c : 0 < (f : Int) ∨ x = 0
    · rw [if_pos c, if_neg (by decide)]
      rcases isOwing_M (N := N) (x := x) (μ := μ) (by omega) with ⟨o, ho, eo, q⟩ | ⟨hno, q⟩
      · rw [q, b2_e, if_neg (by decide), r_50_69 hK]
        have he := enc_ok ho
        obtain ⟨μ1, a1, a2, a3⟩ := opensFrame_M (N := N) hN hG (t := 95) (Or.inl rfl) (f := f) (by omega) ho (B := fun o' => Bk G QF m (f + 1) o') (fun o' ho' b hb => by
          have := Bk_ok hG (QF_ok G) m (f + 1) o' (by omega) ho' b hb
          omega) hK hM (fun o' ho' => by
          have := hB o' ho'
          rw [show ((f + 1 : Nat) : Int) = (f : Int) + 1 by omega] at this
          exact this) (fun s s0 s1 => by
          rw [cB_nil, mn_small (by omega)]
          exact hZ _ (by unfold cel; omega) (Or.inr (by unfold cel bas; omega)))
        rw [← Bk_S (n := m) (by omega)] at a2
        have K1 := a3.KR (Or.inl rfl) hK
        have M1 := a3.GM (Or.inl rfl) hM
        obtain ⟨μ', r1, r2, r3, r4⟩ := frame_loop hN hG (N := N) hf (k66 := k66) k n (x + 1) (μ := μ1) (by omega) (by omega) (by omega) K1 M1 (fun o' ho' => a3.TR ho ho' (Or.inl (by omega)) (hB o' ho')) (fun o' ho' he' hq => by
          by_cases d : enc o' < x
          · exact a3.TR ho ho' (Or.inr (by omega)) (hT o' ho' d hq)
          · have e' : enc o' = enc o := by omega
            have : o' = o := by
              unfold OwOK at ho ho'
              unfold enc at e'
              obtain ⟨p1, p2, p3⟩ := o
              obtain ⟨p1', p2', p3'⟩ := o'
              dsimp only at *
              have z1 : p1' = p1 := by omega
              have z2 : p2' = p2 := by omega
              have z3 : p3' = p3 := by omega
              rw [z1, z2, z3]
            rw [this]
            exact a2) (fun j j0 hj => by
          rw [a3.2 j (fun s s0 s1 => by unfold bas at hj; unfold cel; omega)]
          exact hZ j j0 (by unfold bas at hj ⊢; omega))
        refine ⟨μ', ?_, r2, fun j hj => ?_, a3.1.trI r4⟩
        · rw [← r1, eo, a1, ob_e]
          unfold jX8_tellsAhead_104
          rw [bnd_e, i_add_e (by omega) (by omega)]
        · rw [r3 j (by unfold bas at hj ⊢; omega)]
          exact a3.2 j (fun s s0 s1 => by unfold bas at hj; unfold cel; omega)
      · rw [q, b2_e, if_pos rfl]
        exact skip (fun o ho e => absurd e (hno o ho))
    · rw [if_neg c, if_pos rfl]
      exact skip (fun o ho e => by omega)
/-- all that may come ahead is told -/
def AH (G : Gm) (μ : Mm) : Prop := ∀ f m : Nat, f + m = FT G → ∀ o, OwOK o → (0 < f ∨ enc o = 0) → TR 95 f o (Bk G QF m f o) μ
theorem frames_loop {N : Nat} (hN : 1000000 ≤ N) {G : Gm} (hG : GOK G) : ∀ (k n : Nat) (g : Int) {μ : Mm}, g + 1 = k → k ≤ FT G → k < n → KR μ → GM G μ → (∀ f m : Nat, g < f → f + m = FT G → ∀ o, OwOK o → (0 < f ∨ enc o = 0) → TR 95 f o (Bk G QF m f o) μ) → (∀ j, 0 ≤ j → j < bas (g + 1) 0 - 460 → m_gt μ 95 j = 0) → ∃ μ', jX8_tellsAhead_66 N n 50 g μ = some μ' ∧ AH G μ' ∧ Fr [88, 97, 95] opS μ μ'
  | k, 0, g, μ, _, _, hn, _, _, _, _ => absurd hn (by omega)
  | 0, n + 1, g, μ, hg, _, hn, hK, hM, hT, hZ => by
    refine ⟨μ, ?_, fun f m hf o ho hq => hT f m (by omega) hf o ho hq, Fr.rf0 _ _ _⟩
    show jX8_tellsAhead_66b (jX8_tellsAhead_66 N n) N 50 g μ = _
    unfold jX8_tellsAhead_66b
    rw [if_pos (by omega)]
  | k + 1, n + 1, g, μ, hg, hk, hn, hK, hM, hT, hZ => by
    have eg : g = (k : Int) := by omega
    obtain ⟨μ1, a1, a2, a3, a4⟩ := frame_loop (N := N) hN hG (f := k) (m := FT G - (k + 1)) (by omega) (k66 := jX8_tellsAhead_66 N n) 24 N 0 (μ := μ) (by omega) (by omega) (by omega) hK hM (fun o ho => hT (k + 1) _ (by omega) (by omega) o ho (Or.inl (by omega))) (fun o ho he => by have := enc_ok ho; omega) (fun j j0 hj => hZ j j0 (by unfold bas at hj ⊢; omega))
    obtain ⟨μ', r1, r2, r3⟩ := frames_loop hN hG (N := N) k n (g - 1) (μ := μ1) (by omega) (by omega) (by omega) (a4.KR hK (by decide)) (hM.ag (a4.ag (by decide))) (fun f m h1 h2 o ho hq => by
      by_cases c : f = k
      · have : m = FT G - (k + 1) + 1 := by omega
        rw [c, this]
        rw [c] at hq
        exact a2 o ho hq
      · intro s s0 s1
        have := enc_ok ho
        rw [a3 _ (Or.inr (by unfold bas cel; omega))]
        exact hT f m (by omega) h2 o ho hq s s0 s1) (fun j j0 hj => by
      rw [a3 j (Or.inl (by unfold bas at hj ⊢; omega))]
      exact hZ j j0 (by unfold bas at hj ⊢; omega))
    refine ⟨μ', ?_, r2, a4.trI r3⟩
    rw [← r1, eg, ← a1]
    show jX8_tellsAhead_66b (jX8_tellsAhead_66 N n) N 50 k μ = _
    unfold jX8_tellsAhead_66b
    rw [if_neg (by omega)]
/-- the table is told, or will be -/
def AHC (G : Gm) (μ : Mm) : Prop := m_gt μ 50 70 = 0 ∨ m_gt μ 50 70 = 1 ∧ AH G μ
theorem tellsAhead_M {N : Nat} (hN : 1000000 ≤ N) {G : Gm} (hG : GOK G) {μ : Mm} (hK : KR μ) (hM : GM G μ) (hA : AHC G μ) : ∃ μ', jX8_tellsAhead N 50 μ = some μ' ∧ m_gt μ' 50 70 = 1 ∧ AH G μ' ∧ Fr [88, 97, 95] ((50, 70) :: opS) μ μ' := by
  have h8 := hG.2.1
  unfold jX8_tellsAhead
  rcases hA with z | ⟨z, hA⟩
  · rw [if_pos z, bnd_e]
    have f0 : Fr [88, 97, 95] ((50, 70) :: opS) μ (m_st μ 50 70 1) := Fr.stI (Fr.rf0 _ _ _) (by simp)
    obtain ⟨μ1, a1, a2, a3⟩ := zero_loop (N := N) 228960 N 0 (μ := m_st μ 50 70 1) (by omega) (by omega) (by omega) (f0.KR hK (by decide)) (fun j j0 j1 => by omega)
    have f1 : Fr [88, 97, 95] ((50, 70) :: opS) μ μ1 := f0.trI (a3.mono (by simp) (by simp))
    obtain ⟨μ2, b1, b2, b3, b4⟩ := fills_loop (N := N) hN hG 24 N 0 (μ := μ1) (by omega) (by omega) (by omega) (f1.KR hK (by decide)) (hM.ag (f1.ag (by decide))) (fun j j0 j1 _ => a2 j j0 j1) (fun o ho he => by have := enc_ok ho; omega)
    have f2 : Fr [88, 97, 95] ((50, 70) :: opS) μ μ2 := f1.trI (b4.mono (by simp) (by simp))
    have eF : ((FT G : Nat) : Int) = G.1 1 := by unfold FT; omega
    obtain ⟨μ3, c1, c2, c3⟩ := frames_loop (N := N) hN hG (FT G) N (G.1 1 - 1) (μ := μ2) (by omega) (by omega) (by omega) (f2.KR hK (by decide)) (hM.ag (f2.ag (by decide))) (fun f m h1 h2 o ho hq => by
      have e1 : m = 0 := by omega
      have e2 : f = FT G := by omega
      rw [e1, e2, eF]
      exact b3 o ho) (fun j j0 hj => b2 j j0 (by unfold bas at hj ⊢; omega))
    refine ⟨μ3, by rw [a1, b1, c1], ?_, c2, f2.trI (c3.mono (by simp) (fun q hq => Or.inl (by simp [hq])))⟩
    rw [c3.2.2 50 70 (by decide) (by decide), b4.2.2 50 70 (by decide) (by decide), a3.2.2 50 70 (by decide) (by decide), gt_same]
  · rw [if_neg (by omega)]
    exact ⟨μ, rfl, z, hA, Fr.rf0 _ _ _⟩
