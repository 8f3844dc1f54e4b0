/-! ===== PURE: loops over rows that carry a number ===== -/
def RLs {τ : Type} (N : Nat) (st : Int) (left : Nat) (F : Nat → Int → Mm → Option τ) (E : Int → Mm → Option τ) (Bd : (Int → Mm → Option τ) → Int → Mm → Option τ) (Inv : List (List Int) → Int → Mm → Prop) : Prop :=
  (∀ n V v μ, Inv V v μ → F (n + 1) v μ = b2 (jX8_nextRow N 50 st left μ) fun x μ1 => if x = 0 then E v μ1 else Bd (F n) v μ1) ∧ (∀ V v μ, Inv V v μ → KR μ) ∧ (∀ V v μ μ', Inv V v μ → Fr [97] [(50, 74)] μ μ' → Inv V v μ') ∧ (∀ K V r v μ, r ≠ [] → rv st left r → Inv V v μ → ROW r μ → ∃ v' μ', Bd K v μ = K v' μ' ∧ Inv (V ++ [r]) v' μ' ∧ ROW r μ')
def PFs {τ : Type} (N : Nat) (st : Int) (F : Nat → Int → Mm → Option τ) (E : Int → Mm → Option τ) (Bd : (Int → Mm → Option τ) → Int → Mm → Option τ) (m k : Nat) (r : List Int) (v : Int) (μ : Mm) : Option τ := b2 (jX8_nextRow_65 N m 50 st (lsum r) μ) fun x μ1 => if x = 0 then E v μ1 else Bd (F k) v μ1
theorem travs_t {τ : Type} {N : Nat} (hN : 1000000 ≤ N) {st : Int} {left : Nat} (hst : st ≤ 9) (hleft : left ≤ 3) {F : Nat → Int → Mm → Option τ} {E : Int → Mm → Option τ} {Bd : (Int → Mm → Option τ) → Int → Mm → Option τ} {Inv : List (List Int) → Int → Mm → Prop} (H : RLs N st left F E Bd Inv) {n : Nat} {r : List Int} (hn : r.length + (n + 1) = left) (hr : rv st left r)
    (IH : ∀ (r' : List Int) (V : List (List Int)) (k : Nat) (v : Int) (μ : Mm), r'.length + n = left → rv st left r' → Inv V v μ → ROW r' μ → ∃ m v' μ', r'.length + 1 ≤ m ∧ F (k + (dsc n (st - lsum r')).length + 1) v μ = PFs N st F E Bd m k r' v' μ' ∧ Inv (V ++ (dsc n (st - lsum r')).map (r' ++ ·)) v' μ' ∧ ROW r' μ') :
    ∀ (j : Nat) (t : Int) (V : List (List Int)) (k : Nat) (v : Int) (μ : Mm), t + j = st - lsum r → 0 ≤ t → Inv V v μ → ROW (r ++ [t]) μ → ∃ m v' μ', r.length + 1 ≤ m ∧ F (k + 1 + ((dsc n (st - lsum r - t)).map (fun d => r ++ t :: d) ++ (iot j (t + 1)).flatMap (fun u => (r ++ [u]) :: (dsc n (st - lsum r - u)).map (fun d => r ++ u :: d))).length) v μ = PFs N st F E Bd m k r v' μ' ∧ Inv (V ++ ((dsc n (st - lsum r - t)).map (fun d => r ++ t :: d) ++ (iot j (t + 1)).flatMap (fun u => (r ++ [u]) :: (dsc n (st - lsum r - u)).map (fun d => r ++ u :: d)))) v' μ' ∧ ROW r μ'
  | 0, t, V, k, v, μ, ht, h0, hI, hR => by
    have hs := lsum_nn hr.1
    have el : lsum (r ++ [t]) = lsum r + t := by rw [lsum_app]; simp [lsum]
    have hv : rv st left (r ++ [t]) := ⟨fun x hx => by
      rcases List.mem_append.mp hx with z | z
      · exact hr.1 x z
      · rw [List.mem_singleton.mp z]; omega, by omega, by simp; omega⟩
    obtain ⟨m, v1, μ1, q1, q2, q3, q4⟩ := IH (r ++ [t]) V k v μ (by simp; omega) hv hI hR
    have hmm : (dsc n (st - lsum (r ++ [t]))).map (r ++ [t] ++ ·) = (dsc n (st - lsum r - t)).map (fun d => r ++ t :: d) := by
      rw [el, show st - (lsum r + t) = st - lsum r - t by omega]
      congr 1
      funext d
      simp
    obtain ⟨m', rfl⟩ : ∃ m', m = m' + 1 := ⟨m - 1, by omega⟩
    rw [hmm] at q3
    have K1 := H.2.1 _ _ _ q3
    have ps := pop_step (N := N) (n := m') (st := st) hr.1 (show 0 ≤ t ∧ t ≤ 9 by omega) (by omega) K1 q4
    rw [if_pos (by omega)] at ps
    refine ⟨m', v1, m_st μ1 50 74 r.length, by rw [List.length_append, List.length_singleton] at q1; omega, ?_, ?_, q4.pop.1⟩
    · rw [show (iot 0 (t + 1)).flatMap (fun u => (r ++ [u]) :: (dsc n (st - lsum r - u)).map (fun d => r ++ u :: d)) = [] from rfl, List.append_nil, List.length_map]
      rw [el, show st - (lsum r + t) = st - lsum r - t by omega] at q2
      rw [show k + 1 + (dsc n (st - lsum r - t)).length = k + (dsc n (st - lsum r - t)).length + 1 by omega, q2]
      unfold PFs
      rw [ps]
    · rw [show (iot 0 (t + 1)).flatMap (fun u => (r ++ [u]) :: (dsc n (st - lsum r - u)).map (fun d => r ++ u :: d)) = [] from rfl, List.append_nil]
      exact H.2.2.1 _ _ _ _ q3 (Fr.stI (Fr.rf0 _ _ _) (by simp))
  | j + 1, t, V, k, v, μ, ht, h0, hI, hR => by
    have hs := lsum_nn hr.1
    have el : lsum (r ++ [t]) = lsum r + t := by rw [lsum_app]; simp [lsum]
    have hv : rv st left (r ++ [t]) := ⟨fun x hx => by
      rcases List.mem_append.mp hx with z | z
      · exact hr.1 x z
      · rw [List.mem_singleton.mp z]; omega, by omega, by simp; omega⟩
    have hmm : (dsc n (st - lsum (r ++ [t]))).map (r ++ [t] ++ ·) = (dsc n (st - lsum r - t)).map (fun d => r ++ t :: d) := by
      rw [el, show st - (lsum r + t) = st - lsum r - t by omega]
      congr 1
      funext d
      simp
    -- what is left behind t
    let rest := (iot (j + 1) (t + 1)).flatMap (fun u => (r ++ [u]) :: (dsc n (st - lsum r - u)).map (fun d => r ++ u :: d))
    have erest : rest = (r ++ [t + 1]) :: ((dsc n (st - lsum r - (t + 1))).map (fun d => r ++ (t + 1) :: d) ++ (iot j (t + 1 + 1)).flatMap (fun u => (r ++ [u]) :: (dsc n (st - lsum r - u)).map (fun d => r ++ u :: d))) := by
      show (iot (j + 1) (t + 1)).flatMap _ = _
      rw [iot, List.flatMap_cons]
      rfl
    obtain ⟨m, v1, μ1, q1, q2, q3, q4⟩ := IH (r ++ [t]) V (k + rest.length) v μ (by simp; omega) hv hI hR
    obtain ⟨m', rfl⟩ : ∃ m', m = m' + 1 := ⟨m - 1, by omega⟩
    rw [hmm] at q3
    have K1 := H.2.1 _ _ _ q3
    have ps := pop_step (N := N) (n := m') (st := st) hr.1 (show 0 ≤ t ∧ t ≤ 9 by omega) (by omega) K1 q4
    rw [if_neg (by omega)] at ps
    let μ2 := m_st (m_st (m_st μ1 50 74 r.length) 97 r.length (t + 1)) 50 74 (r.length + 1)
    have f2 : Fr [97] [(50, 74)] μ1 μ2 := Fr.stI (Fr.stI (Fr.stI (Fr.rf0 _ _ _) (by simp)) (by simp)) (by simp)
    have R2 : ROW (r ++ [t + 1]) μ2 := q4.pop.1.push (t + 1)
    have hv2 : rv st left (r ++ [t + 1]) := ⟨fun x hx => by
      rcases List.mem_append.mp hx with z | z
      · exact hr.1 x z
      · rw [List.mem_singleton.mp z]; omega, by rw [lsum_app]; simp [lsum]; omega, by simp; omega⟩
    obtain ⟨v3, μ3, b1, b2', b3⟩ := H.2.2.2 (F (k + rest.length)) _ (r ++ [t + 1]) v1 μ2 (by simp) hv2 (H.2.2.1 _ _ _ _ q3 f2) R2
    obtain ⟨m2, v4, μ4, c1, c2, c3, c4⟩ := travs_t hN hst hleft H hn hr IH j (t + 1) (V ++ (dsc n (st - lsum r - t)).map (fun d => r ++ t :: d) ++ [r ++ [t + 1]]) k v3 μ3 (by omega) (by omega) b2' b3
    refine ⟨m2, v4, μ4, c1, ?_, ?_, c4⟩
    · show F (k + 1 + ((dsc n (st - lsum r - t)).map (fun d => r ++ t :: d) ++ rest).length) v μ = _
      rw [List.length_append, List.length_map]
      rw [el, show st - (lsum r + t) = st - lsum r - t by omega] at q2
      rw [show k + 1 + ((dsc n (st - lsum r - t)).length + rest.length) = k + rest.length + (dsc n (st - lsum r - t)).length + 1 by omega, q2]
      have : PFs N st F E Bd (m' + 1) (k + rest.length) (r ++ [t]) v1 μ1 = Bd (F (k + rest.length)) v1 μ2 := by
        unfold PFs
        rw [ps, b2_e, if_neg (by decide)]
      rw [this, b1, ← c2]
      congr 1
      rw [erest, List.length_cons]
      omega
    · show Inv (V ++ ((dsc n (st - lsum r - t)).map (fun d => r ++ t :: d) ++ rest)) v4 μ4
      rw [erest]
      simpa [List.append_assoc] using c3
theorem travs {τ : Type} {N : Nat} (hN : 1000000 ≤ N) {st : Int} {left : Nat} (hst : st ≤ 9) (hleft : left ≤ 3) {F : Nat → Int → Mm → Option τ} {E : Int → Mm → Option τ} {Bd : (Int → Mm → Option τ) → Int → Mm → Option τ} {Inv : List (List Int) → Int → Mm → Prop} (H : RLs N st left F E Bd Inv) : ∀ (n : Nat) (r : List Int) (V : List (List Int)) (k : Nat) (v : Int) (μ : Mm), r.length + n = left → rv st left r → Inv V v μ → ROW r μ → ∃ m v' μ', r.length + 1 ≤ m ∧ F (k + (dsc n (st - lsum r)).length + 1) v μ = PFs N st F E Bd m k r v' μ' ∧ Inv (V ++ (dsc n (st - lsum r)).map (r ++ ·)) v' μ' ∧ ROW r μ'
  | n, r, V, k, v, μ, hn, hr, hI, hR => by
    have hK := H.2.1 _ _ _ hI
    have hs := lsum_nn hr.1
    have nr : jX8_nextRow N 50 st left μ = _ := nextRow_5 (N := N) (st := st) (left := (left : Int)) hr.1 (by omega) (by omega) hK hR r.length N 0 (by omega) (by omega)
    by_cases leafc : n = 0 ∨ st ≤ lsum r
    · have hd : dsc n (st - lsum r) = [] := by
        cases n with
        | zero => rfl
        | succ n =>
          have : st ≤ lsum r := by rcases leafc with z | z <;> omega
          unfold dsc
          rw [if_pos (by omega)]
      refine ⟨N, v, μ, by omega, ?_, by rw [hd]; simpa using hI, hR⟩
      rw [hd, List.length_nil, Nat.add_zero, H.1 k V v μ hI, nr]
      unfold PFs
      by_cases c : (left : Int) ≤ r.length
      · rw [if_pos c]
      · rw [if_neg c, if_pos (by rcases leafc with z | z <;> omega)]
    · cases n with
      | zero => exact absurd (Or.inl rfl) leafc
      | succ n =>
        have hlt : lsum r < st := by
          by_cases c : lsum r < st
          · exact c
          · exact absurd (Or.inr (by omega)) leafc
        let μ0 := m_st (m_st μ 97 r.length 0) 50 74 (r.length + 1)
        have f0 : Fr [97] [(50, 74)] μ μ0 := Fr.stI (Fr.stI (Fr.rf0 _ _ _) (by simp)) (by simp)
        have R0 : ROW (r ++ [0]) μ0 := hR.push 0
        have hv0 : rv st left (r ++ [0]) := ⟨fun x hx => by
          rcases List.mem_append.mp hx with z | z
          · exact hr.1 x z
          · rw [List.mem_singleton.mp z]; omega, by rw [lsum_app]; simp [lsum]; omega, by simp; omega⟩
        have ed : dsc (n + 1) (st - lsum r) = [0] :: ((dsc n (st - lsum r - 0)).map (0 :: ·) ++ (iot (st - lsum r).toNat (0 + 1)).flatMap (fun u => [u] :: (dsc n (st - lsum r - u)).map (u :: ·))) := by
          rw [dsc, if_neg (by omega), upto_iot, iot, List.flatMap_cons]
          rfl
        have edm : (dsc (n + 1) (st - lsum r)).map (r ++ ·) = (r ++ [0]) :: ((dsc n (st - lsum r - 0)).map (fun d => r ++ 0 :: d) ++ (iot (st - lsum r).toNat (0 + 1)).flatMap (fun u => (r ++ [u]) :: (dsc n (st - lsum r - u)).map (fun d => r ++ u :: d))) := by
          rw [ed, List.map_cons, List.map_append, List.map_map, List.map_flatMap]
          congr 2
          congr 1
          funext u
          rw [List.map_cons, List.map_map]
          rfl
        have elen : (dsc (n + 1) (st - lsum r)).length = 1 + ((dsc n (st - lsum r - 0)).map (fun d => r ++ 0 :: d) ++ (iot (st - lsum r).toNat (0 + 1)).flatMap (fun u => (r ++ [u]) :: (dsc n (st - lsum r - u)).map (fun d => r ++ u :: d))).length := by
          have := congrArg List.length edm
          rw [List.length_map, List.length_cons] at this
          omega
        obtain ⟨v1, μ1, b1, b2', b3⟩ := H.2.2.2 (F (k + (dsc (n + 1) (st - lsum r)).length)) V (r ++ [0]) v μ0 (by simp) hv0 (H.2.2.1 _ _ _ _ hI f0) R0
        obtain ⟨m, v2, μ2, c1, c2, c3, c4⟩ := travs_t hN hst hleft H hn hr (fun r' V' k' v' μ' a1 a2 a3 a4 => travs hN hst hleft H n r' V' k' v' μ' a1 a2 a3 a4) (st - lsum r).toNat 0 (V ++ [r ++ [0]]) k v1 μ1 (by omega) (by omega) b2' b3
        refine ⟨m, v2, μ2, c1, ?_, ?_, c4⟩
        · rw [H.1 _ V v μ hI, nr, if_neg (by omega), if_neg (by omega), b2_e, if_neg (by decide)]
          show Bd (F (k + (dsc (n + 1) (st - lsum r)).length)) v μ0 = _
          rw [b1, ← c2, elen]
          congr 1
          omega
        · rw [edm]
          simpa [List.append_assoc] using c3
/-- all rows, from none on -/
theorem rowss_M {τ : Type} {N : Nat} (hN : 1000000 ≤ N) {st : Int} {left : Nat} (h0 : 0 ≤ st) (hst : st ≤ 9) (hleft : left ≤ 3) {F : Nat → Int → Mm → Option τ} {E : Int → Mm → Option τ} {Bd : (Int → Mm → Option τ) → Int → Mm → Option τ} {Inv : List (List Int) → Int → Mm → Prop} (H : RLs N st left F E Bd Inv) {v : Int} {μ : Mm} (hI : Inv [] v μ) (hR : ROW [] μ) : ∃ v' μ', F N v μ = E v' μ' ∧ Inv (dsc left st) v' μ' := by
  have hl := dsc_len left st hst
  have h20 : 20 ^ left ≤ 20 ^ 3 := Nat.pow_le_pow_right (by decide) hleft
  obtain ⟨m, v', μ', a1, a2, a3, a4⟩ := travs hN hst hleft H left [] [] (N - (dsc left st).length - 1) v μ (by simp) ⟨fun x hx => absurd hx (by simp), by simpa [lsum] using h0, by simp⟩ hI hR
  have e0 : st - lsum [] = st := by simp [lsum]
  rw [e0] at a2 a3
  rw [show N - (dsc left st).length - 1 + (dsc left st).length + 1 = N by omega] at a2
  obtain ⟨m', rfl⟩ : ∃ m', m = m' + 1 := ⟨m - 1, by simp at a1; omega⟩
  refine ⟨v', μ', ?_, by simpa using a3⟩
  rw [a2]
  unfold PFs
  rw [pop_nil a4, b2_e, if_pos rfl]
