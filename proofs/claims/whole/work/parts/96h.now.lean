/-! ===== PURE: what is owed now, and what is in hand ===== -/
theorem lt1_pls {o : Ow} {e : Int} (h : e ≤ 3) : lt1 (pls o e) = pls (lt1 o) (e - 1) := by
  unfold lt1 pls
  dsimp only
  rw [show (if 3 ≤ e - 1 then (1 : Int) else 0) = 0 from if_neg (by omega)]
  have a1 : (if 2 ≤ e then (1 : Int) else 0) = if 1 ≤ e - 1 then 1 else 0 := by
    by_cases c : 2 ≤ e
    · rw [if_pos c, if_pos (by omega)]
    · rw [if_neg c, if_neg (by omega)]
  have a2 : (if 3 ≤ e then (1 : Int) else 0) = if 2 ≤ e - 1 then 1 else 0 := by
    by_cases c : 3 ≤ e
    · rw [if_pos c, if_pos (by omega)]
    · rw [if_neg c, if_neg (by omega)]
  rw [a1, a2]
  rfl
theorem ltn_pls : ∀ (k : Nat) {o : Ow} {e : Int}, e ≤ 3 → ltn k (pls o e) = pls (ltn k o) (e - k)
  | 0, o, e, h => by rw [ltn, ltn, show e - ((0 : Nat) : Int) = e by omega]
  | k + 1, o, e, h => by
    rw [ltn, ltn, lt1_pls h, ltn_pls k (by omega)]
    congr 1
    omega
theorem pls_neg {o : Ow} {e : Int} (h : e ≤ 0) : pls o e = o := by
  unfold pls
  rw [if_neg (by omega), if_neg (by omega), if_neg (by omega), Int.add_zero, Int.add_zero, Int.add_zero]
theorem gn_gf : ∀ (F : List Int) (o : Ow), gn o F = dn F + gf o F
  | [], o => by simp [gn, gf, dn, lsum]
  | x :: F, o => by
    rw [gn, gf, dn_cons, gn_gf F, Int.mul_add, Int.mul_one]
    omega
theorem gf_pls : ∀ (T : List Int) (o : Ow) (e : Int), e ≤ 3 → gf (pls o e) T = gf o T + dn (T.take e.toNat)
  | [], o, e, h => by simp [gf, dn, lsum]
  | x :: T, o, e, h => by
    rw [gf, gf, lt1_pls h, gf_pls T (lt1 o) (e - 1) (by omega)]
    by_cases c : 1 ≤ e
    · have e1 : (pls o e).1 = o.1 + 1 := by unfold pls; rw [if_pos c]
      rw [e1, show e.toNat = (e - 1).toNat + 1 by omega, List.take_succ_cons, dn_cons, Int.mul_add, Int.mul_one]
      omega
    · rw [pls_neg (by omega), show e.toNat = 0 by omega, show (e - 1).toNat = 0 by omega, List.take_zero, List.take_zero]
      omega
theorem ow_3 {G : Gm} (hG : GOK G) (F : List Int) : 0 ≤ ow G F ∧ ow G F ≤ 3 := ern_ok hG (cln G F)
/-- points as far as rolled are what the rolls brought -/
theorem psm_gs {G : Gm} (hG : GOK G) {s : Sh} : ∀ n : Nat, n ≤ s.1.length → psm G s n = gs G s.1 n + gf (owd G (s.1.take n)) (bhd s n)
  | 0, _ => by
    rw [psm, gs, List.take_zero]
    have : ∀ T : List Int, gf (0, 0, 0) T = 0 := by
      intro T
      induction T with
      | nil => rfl
      | cons x T ih =>
        rw [gf]
        show tk x * 0 + gf (0, 0, 0) T = 0
        rw [ih, Int.mul_zero]
        rfl
    show (0 : Int) = 0 + gf (0, 0, 0) _
    rw [this]
    rfl
  | n + 1, hn => by
    have efra : fra s n = s.1.getD n [] := by
      unfold fra
      rw [if_neg (by omega), if_pos (by omega), Int.toNat_natCast]
    have ho := ow_3 hG (s.1.getD n [])
    rw [psm, gs, psm_gs hG n (by omega), bhd_at (by omega) (by omega), gf_app, owd_take (by omega), gf_pls _ _ _ ho.2]
    unfold pts fo
    dsimp only
    rw [efra, gn_gf, show ((n + 1 : Nat) : Int) = (n : Int) + 1 by omega]
    omega
theorem tot_gs {G : Gm} (hG : GOK G) {s : Sh} : tot G s = gs G s.1 s.1.length + gf (owd G s.1) s.2 := by
  unfold tot
  rw [psm_gs hG _ (Nat.le_refl _), List.take_length]
  unfold bhd
  rw [Int.toNat_natCast, List.drop_length]
  rfl
/-- what is owed to the next rolls -/
def own (G : Gm) (s : Sh) : Ow := ltn s.2.length (owd G s.1)
theorem owedNow_loop {N : Nat} {G : Gm} {R : List Int} : ∀ (k n i : Nat) {μ : Mm}, i + k = (spl G R).1.length → k < n → MC G R μ → GT G R μ → jX8_owedNow_4 N n 50 (enc (ltn ((R.length : Int) - lens ((spl G R).1.take i)).toNat (owd G ((spl G R).1.take i)))) i μ = some (enc (own G (spl G R)), μ)
  | k, 0, i, μ, hi, hn, _, _ => absurd hn (by omega)
  | 0, n + 1, i, μ, hi, hn, h, hT => by
    show jX8_owedNow_4b (jX8_owedNow_4 N n) N 50 _ i μ = _
    unfold jX8_owedNow_4b jX8_owedNow_63
    have hl := spl_len G R
    rw [hT.2.1.1, if_pos (by omega), List.take_of_length_le (by omega), show ((R.length : Int) - lens (spl G R).1).toNat = (spl G R).2.length by omega]
    rfl
  | k + 1, n + 1, i, μ, hi, hn, h, hT => by
    have hG := h.1.1
    have hO := h.1.2.ok hG
    have h2 := hO.2.1
    have h8 := hG.2.1
    have hl := spl_len G R
    have hlt := lens_take_le (spl G R).1 (i + 1)
    have hla := lens_at (Fs := (spl G R).1) (i := i) (by omega)
    have hFO := fra_FO hO (f := (i : Int)) (by omega) (by omega)
    have efra : fra (spl G R) i = (spl G R).1.getD i [] := by
      unfold fra
      rw [if_neg (by omega), if_pos (by omega), Int.toNat_natCast]
    rw [efra] at hFO
    have hr := hG.2.2.1
    have hF1 := hFO.2.1
    have hF3 := hFO.2.2.1
    have ho3 := ow_3 hG ((spl G R).1.getD i [])
    have hn0 : 0 ≤ lens ((spl G R).1.take i) := by unfold lens; omega
    have hAt := hT.1 i (by omega)
    have hR27 : (R.length : Int) ≤ 27 := by have := (R_len hG h.1.2).1; omega
    have hoi : OwOK (owd G ((spl G R).1.take i)) := owd_ok (fun F hF => hO.1 F (List.mem_of_mem_take hF))
    have step := owedNow_loop (N := N) k n (i + 1) (μ := μ) (by omega) (by omega) h hT
    let K := ((R.length : Int) - lens ((spl G R).1.take (i + 1))).toNat
    have eK : ((R.length : Int) - lens ((spl G R).1.take i)).toNat = ((spl G R).1.getD i []).length + K := by show _ = _ + ((R.length : Int) - lens ((spl G R).1.take (i + 1))).toNat; omega
    have eKi : (K : Int) = (R.length : Int) - lens ((spl G R).1.take (i + 1)) := by show ((((R.length : Int) - lens ((spl G R).1.take (i + 1))).toNat : Nat) : Int) = _; omega
    have key : ltn K (owd G ((spl G R).1.take (i + 1))) = pls (ltn (((spl G R).1.getD i []).length + K) (owd G ((spl G R).1.take i))) (ow G ((spl G R).1.getD i []) - K) := by
      rw [owd_take (by omega), ltn_pls K ho3.2, ltn_add]
    have hok1 : OwOK1 (ltn (((spl G R).1.getD i []).length + K) (owd G ((spl G R).1.take i))) := ltn_ok hoi (by omega)
    show jX8_owedNow_4b (jX8_owedNow_4 N n) N 50 _ i μ = _
    unfold jX8_owedNow_4b jX8_owedNow_57
    have e5 : ∀ x : Int, x = ow G ((spl G R).1.getD i []) → i_sub x (i_sub (i_sub (R.length : Int) (lens ((spl G R).1.take i))) (((spl G R).1.getD i []).length : Int)) = ow G ((spl G R).1.getD i []) - K := by
      intro x hx
      rw [hx]
      simp (disch := omega) only [i_sub_e]
      omega
    rw [hT.2.1.1, if_neg (by omega), r_50_32 h.2.1, ald_e (k_75 h.2.1) (by decide) (by decide), ob_e, h.2.2.1.1.2.1, if_neg (by omega), owed_M h.2.1 h.2.2.1 (by omega) (F := (spl G R).1.getD i []) (by omega) hAt, b2_e, r_50_60 h.2.1, ald_e (k_90 h.2.1) (by omega) (by omega), ob_e, r_50_61 h.2.1, ald_e (k_91 h.2.1) (by omega) (by omega), ob_e, bnd_e, hAt.1, hAt.2.1, h.2.2.2.1, e5 _ rfl, eK]
    clear e5
    have step' : jX8_owedNow_4 N n 50 (enc (pls (ltn (((spl G R).1.getD i []).length + K) (owd G ((spl G R).1.take i))) (ow G ((spl G R).1.getD i []) - K))) (i + 1 : Nat) μ = some (enc (own G (spl G R)), μ) := by rw [← key]; exact step
    by_cases c : ow G ((spl G R).1.getD i []) - K ≤ 0
    · rw [if_pos c, bnd_e, i_add_e (by omega) (by omega)]
      rw [pls_neg c] at step'
      exact step'
    · rw [if_neg c, plus_M hok1 (by omega) (by omega), b2_e, bnd_e, i_add_e (by omega) (by omega)]
      exact step'
theorem owedNow_M {N : Nat} (hN : 1000000 ≤ N) {G : Gm} {R : List Int} {μ : Mm} (h : MC G R μ) (hT : GT G R μ) : jX8_owedNow N 50 μ = some (enc (own G (spl G R)), μ) := by
  have hO := (h.1.2.ok h.1.1).2.1
  have hg := h.1.1.2.1
  have := owedNow_loop (N := N) (spl G R).1.length N 0 (by omega) (by omega) h hT
  rw [List.take_zero] at this
  have z : ∀ k : Nat, ltn k (0, 0, 0) = (0, 0, 0) := by
    intro k
    induction k with
    | zero => rfl
    | succ k ih => exact ih
  rw [show owd G [] = (0, 0, 0) from rfl, z] at this
  exact this
