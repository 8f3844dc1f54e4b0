/-! ===== the calculus, 5: lengths, tables, strings, new cells, returns ===== -/
section AAW
variable {E : m_E} {l : Launch} {d : Nat} {z : Nat × Nat} {own nm : String} {cc : ByteArray} {nL : Nat} {ret : Option FieldType} {pc : Nat} {L L' : List (Nat × AV)} {st st' : List AV} {μ : Mm} {ρ : Option AV × Mm} {τ : Type} {t : τ}
theorem c_tys_at (E : m_E) {c : Nat} (h1 : 100 ≤ c) (h2 : c < 104) : ∃ ty, (c_tys E)[c - 100]? = some (E.2.2 (c - 100), ty) := by
  have : c = 100 ∨ c = 101 ∨ c = 102 ∨ c = 103 := by omega
  rcases this with rfl | rfl | rfl | rfl <;> exact ⟨_, rfl⟩
theorem a_alen {r : Int} {f : Int → Option τ} (hd : decode cc pc = .ok (.arraylength, 1)) (h : (m_len μ r).bind f = some t) (k : ∀ x, f x = some t → AA E l d z own nm cc nL ret (pc + 1) L (vi x :: st) μ ρ) : AA E l d z own nm cc nL ret pc L (vr r :: st) μ ρ := by
  intro hl hs hm
  unfold m_len at h
  by_cases q : 100 ≤ (m_kd μ r).1 ∧ (m_kd μ r).1 < 104
  · rw [if_pos q] at h
    generalize hkd : m_kd μ r = kd at h q
    obtain ⟨c, n⟩ := kd
    obtain ⟨q1, q2⟩ := q
    dsimp only at q1 q2 h
    obtain ⟨k', rfl, hlt⟩ := hm.lt hkd (by omega)
    have hko := (hm.2 k' hlt).1
    rw [hkd] at hko
    have hn : n < 2147483648 := by rcases hko with hko | hko <;> simp only at hko <;> omega
    refine aa_s (fun _ hs _ => oks.c (v := vi (n : Int)) (show okI _ from ⟨by omega, by omega⟩) hs.t) (fun _ hs hm hC hR _ _ w => ?_) (k _ h) hl hs hm
    obtain ⟨hx, hb, -, hown, hts, hnm, -, -, hK⟩ := hC
    rw [c_S_c]
    show W _ _ _ _ _ _ _ _ _ _ _ _ _ _ _ (F0 _ pc _ (c_rf E (k' : Int) :: c_S E st))
    rw [c_rf_n]
    obtain ⟨ty, hty⟩ := c_tys_at E q1 q2
    by_cases q3 : c = 101
    · subst q3
      exact va_alen (D := E.2.1) hx hb hK.1 (hR.one hlt) 0 1 (x := (n, _)) (by rw [c_cell_l hkd]; rfl) hty (v := Int32.ofInt (n : Int)) (by show Int32.ofNat n = _; rw [Int32.ofInt_eq_ofNat]) hd w
    · exact va_alen (D := E.2.1) hx hb hK.1 (hR.one hlt) 0 (c - 100) (x := (n, _)) (by rw [c_cell_i hkd q1 q3]; rfl) hty (v := Int32.ofInt (n : Int)) (by show Int32.ofNat n = _; rw [Int32.ofInt_eq_ofNat]) hd w
  · rw [if_neg q] at h; cases h
theorem c_rf_e (E : m_E) {j : Nat} (h : 2 ≤ j) : c_rf E (-(j : Int)) = .ref (E.1.2 j) := by
  unfold c_rf
  rw [if_neg (by omega), if_pos (by omega), Int.neg_neg, Int.toNat_natCast]
theorem a_gets {j index : Nat} (hd : decode cc pc = .ok (.getstatic index, 3)) (hw : Cond.fieldLink own index RX2 (m_tab j).1 "[I" ∈ m_tb) (hj : 2 ≤ j ∧ j < 6) (k : AA E l d z own nm cc nL ret (pc + 3) L (vr (-(j : Int)) :: st) μ ρ) : AA E l d z own nm cc nL ret pc L st μ ρ :=
  aa_s (fun _ hs _ => oks.c (v := vr (-(j : Int))) trivial hs) (fun _ hs _ hC hR hF _ w => by
    obtain ⟨hx, hb, -, hown, hts, hnm, -, -, hK⟩ := hC
    have hT := (hK.2.2.2.1 j hj.1 hj.2).1
    rw [c_S_c] at w
    have e : c_v E (vr (-(j : Int))) = .ref (E.1.2 j) := c_rf_e E hj.1
    rw [e] at w
    exact va_gets hx hb hT hF.S hown (hts _ hw) (fun _ h => h) hd w) k
theorem s_tab (j : Nat) : ∀ i, i < (m_tab j).2.1 → okI ((m_tab j).2.2.getD i 0) := by
  have : ∀ q ∈ [m_tab 2, m_tab 3, m_tab 4, m_tab 5], ∀ i, i < q.2.1 → -2147483648 ≤ q.2.2.getD i 0 ∧ q.2.2.getD i 0 ≤ 2147483647 := by decide
  match j with
  | 0 => exact this _ (by decide)
  | 1 => exact this _ (by decide)
  | 2 => exact this _ (by decide)
  | 3 => exact this _ (by decide)
  | 4 => exact this _ (by decide)
  | n + 5 => exact this (m_tab 5) (by decide)
theorem a_sald {j : Nat} {i : Int} {f : Int → Option τ} (hj : 2 ≤ j ∧ j < 6) (hd : decode cc pc = .ok (.iaload, 1)) (h : (s_ald j i).bind f = some t) (k : ∀ x, f x = some t → AA E l d z own nm cc nL ret (pc + 1) L (vi x :: st) μ ρ) : AA E l d z own nm cc nL ret pc L (vi i :: vr (-(j : Int)) :: st) μ ρ := by
  unfold s_ald at h
  by_cases q : 0 ≤ i ∧ i < ((m_tab j).2.1 : Int)
  · rw [if_pos q] at h
    refine aa_s (fun _ hs _ => oks.c (v := vi ((m_tab j).2.2.getD i.toNat 0)) (s_tab j _ (by omega)) hs.t.t) (fun _ hs hm hC hR hF _ w => ?_) (k _ h)
    obtain ⟨hx, hb, -, hown, hts, hnm, -, -, hK⟩ := hC
    obtain ⟨cell, g1, g2, g3, g4, g5, g6, g7⟩ := (hK.2.2.2.1 j hj.1 hj.2).2
    rw [c_S_c, c_S_c]
    show W _ _ _ _ _ _ _ _ _ _ _ _ _ _ _ (F0 _ pc _ (.int (Int32.ofInt i) :: c_rf E (-(j : Int)) :: c_S E st))
    rw [c_rf_e E hj.1]
    have hc := clampI hs.i
    have hlt : i.toNat < (m_tab j).2.1 := by omega
    have hneg := (inI (n := (m_tab j).2.1) hs.i q.1 q.2)
    refine W.iald (v := .int (Int32.ofInt ((m_tab j).2.2.getD i.toNat 0))) hx hb (by rw [hF.2.1 _ (Nat.not_le.mp g7)]; exact g1) g2 g3 ?_ (by rw [hc]; exact g6 _ hlt) rfl rfl hd w
    rintro (z1 | z1)
    · exact hneg (Or.inl z1)
    · exact hneg (Or.inr (Nat.le_trans g4 z1))
  · rw [if_neg q] at h; cases h
theorem a_slen {j : Nat} (hj : 2 ≤ j ∧ j < 6) (hd : decode cc pc = .ok (.arraylength, 1)) (k : AA E l d z own nm cc nL ret (pc + 1) L (vi ((m_tab j).2.1 : Int) :: st) μ ρ) : AA E l d z own nm cc nL ret pc L (vr (-(j : Int)) :: st) μ ρ := by
  have hok : okI ((m_tab j).2.1 : Int) := by
    match j with
    | 0 => exact ⟨by decide, by decide⟩
    | 1 => exact ⟨by decide, by decide⟩
    | 2 => exact ⟨by decide, by decide⟩
    | 3 => exact ⟨by decide, by decide⟩
    | 4 => exact ⟨by decide, by decide⟩
    | n + 5 => exact (show okI ((m_tab 5).2.1 : Int) from ⟨by decide, by decide⟩)
  refine aa_s (fun _ hs _ => oks.c (v := vi ((m_tab j).2.1 : Int)) hok hs.t) (fun _ hs hm hC hR hF _ w => ?_) k
  obtain ⟨hx, hb, -, hown, hts, hnm, -, -, hK⟩ := hC
  obtain ⟨cell, g1, g2, g3, g4, g5, g6, g7⟩ := (hK.2.2.2.1 j hj.1 hj.2).2
  rw [c_S_c]
  show W _ _ _ _ _ _ _ _ _ _ _ _ _ _ _ (F0 _ pc _ (c_rf E (-(j : Int)) :: c_S E st))
  rw [c_rf_e E hj.1]
  exact W.alen hx hb (by rw [hF.2.1 _ (Nat.not_le.mp g7)]; exact g1) g2 (n := Int32.ofInt ((m_tab j).2.1 : Int)) (by rw [g5, Int32.ofInt_eq_ofNat]) rfl rfl hd w
theorem a_ldcS {i index : Nat} {tx : String} (hd : decode cc pc = .ok (.ldc index, 2)) (hi : s_tx[i]? = some (index, tx)) (ho : own = RX3) (k : AA E l d z own nm cc nL ret (pc + 2) L (vr (-((10 + i : Nat) : Int)) :: st) μ ρ) : AA E l d z own nm cc nL ret pc L st μ ρ :=
  aa_s (fun _ hs _ => oks.c (v := vr (-((10 + i : Nat) : Int))) trivial hs) (fun _ hs _ hC hR hF _ w => by
    obtain ⟨hx, hb, -, hown, hts, hnm, -, -, hK⟩ := hC
    have hT := hK.2.2.2.2.2.1 i _ hi
    rw [c_S_c] at w
    have e : c_v E (vr (-((10 + i : Nat) : Int))) = .ref (E.1.2 (10 + i)) := c_rf_e E (by omega)
    rw [e] at w
    rw [ho] at hown
    exact va_ldcS hx hb hown hT hd w) k
/-- a step that makes a cell -/
theorem aa_n {pc' : Nat} {c n sl : Nat} (hko : k_ok (c, n)) (hc9 : c ≠ 999) (hok : okl L → oks st → okM μ → oks st')
    (hw : ∀ {p : Program} {e : Env} {R : Room} {s : State} {m : MethodId} {args : Array Value} {below : List Frame} {meth : Method} {c' : Code} {Q : State → Prop} {H : Heap} {locs : List Loc} {ls : Array Slot} {cells slots : Nat}, okl L → oks st → okM μ → m_C E d own nm cc nL p R s m args meth c' → m_R E μ H → m_F E s H locs → cells + 1 ≤ R.cells → slots + sl ≤ R.slots →
      (∀ (H1 : Heap) (locs1 : List Loc), m_R E (m_nw μ c n sl) H1 → m_F E s H1 locs1 → W p l e R s m args below meth c' H1 locs1 (cells + 1) (slots + sl) Q (F0 m pc' ls (c_S E st'))) → W p l e R s m args below meth c' H locs cells slots Q (F0 m pc ls (c_S E st)))
    (k : AA E l d z own nm cc nL ret pc' L st' (m_nw μ c n sl) ρ) : AA E l d z own nm cc nL ret pc L st μ ρ := by
  intro hl hs hm
  obtain ⟨⟨k1, k1', k1''⟩, k2⟩ := k hl (hok hl hs hm) (hm.nw hko hc9)
  have hmm := m_mono.nw hm c n sl
  refine ⟨⟨hmm.tr k1, k1', k1''⟩, fun p e R s m args below meth c' Q H locs ls hC h1 h2 h3 h4 hR hF hv hr => ?_⟩
  have z1 : m_sz (m_nw μ c n sl) = m_sz μ + 1 := rfl
  have z2 : m_sl (m_nw μ c n sl) = m_sl μ + sl := rfl
  have k1a := k1.1
  have k1b := k1.2.1
  rw [z1] at k1a
  rw [z2] at k1b
  refine hw hl hs hm hC hR hF (by omega) (by omega) (fun H1 locs1 hR1 hF1 => ?_)
  have kk := k2 p e R s m args below meth c' Q H1 locs1 ls hC h1 h2 (by rw [z1]; omega) (by rw [z2]; omega) hR1 hF1 hv hr
  rw [z1, z2, show m_sz μ + 1 - z.1 = m_sz μ - z.1 + 1 by omega, show m_sl μ + sl - z.2 = m_sl μ - z.2 + sl by omega] at kk
  exact kk
theorem c_df (E : m_E) (ty : FieldType) (hg : f_g ty = true) : defaultValue ty = c_t E ty (if f_rf ty = true then -1 else 0) := by
  cases ty with
  | int => rfl
  | long => rfl
  | boolean => rfl
  | object n => rfl
  | array n => rfl
  | _ => cases hg
theorem m_kd_nw (μ : Mm) (c n s : Nat) : m_kd (m_nw μ c n s) (m_sz μ : Int) = (c, n) := by exact if_pos rfl
theorem a_new {c index : Nat} {f : Mm → Option τ} (hd : decode cc pc = .ok (.new index, 3)) (hc : c < 9) (hg : ∀ i, i < f_n c → f_g (f_ty c i) = true) (hw1 : Cond.classLink own index (cn c) ∈ m_tb) (hw2 : Cond.instantiable (cn c) (f_n c) ∈ m_tb) (hw3 : Cond.initialized (cn c) ∈ m_tb) (h : bnd (m_nw μ c 0 (f_n c)) f = some t) (k : ∀ μ1, m_mono μ μ1 → m_kd μ1 (m_sz μ : Int) = (c, 0) → f μ1 = some t → AA E l d z own nm cc nL ret (pc + 3) L (vr (m_sz μ : Int) :: st) μ1 ρ) : AA E l d z own nm cc nL ret pc L st μ ρ := by
  intro hl hs hm
  refine aa_n (c := c) (n := 0) (sl := f_n c) (Or.inl hc) (by omega) (fun _ hs _ => oks.c (v := vr (m_sz μ : Int)) trivial hs) (fun _ hs hm hC hR hF hcl hsl w => ?_) (k _ (m_mono.nw hm _ _ _) (m_kd_nw _ _ _ _) h) hl hs hm
  obtain ⟨hx, hb, -, hown, hts, hnm, -, -, hK⟩ := hC
  have hKn := hK.1.1 c _ (kc_at hc)
  refine W.newcK hx hb hown (hts _ hw1) (hts _ hw2) (hts _ hw3) rfl hd hcl hsl hKn.2.1 (h := E.1.1 + m_sz μ) hR.1 fun H1 kC hkC e1 z1 o1 => ?_
  have z1' : H1.size = _ + 1 := z1.trans (by rw [← hR.1])
  have hR1 : m_R E (m_nw μ c 0 (f_n c)) H1 := by
    refine hR.nw z1' (fun q hq => o1 q (by rw [← hR.1]; exact hq)) ?_
    rw [c_cell_o (c := c) (n := 0) (m_kd_nw _ _ _ _) hc]
    refine ⟨_, kc_at hc, (u_born (f_ty c) hts (kc_in hc) hKn hkC e1 (kc_ty hc)).to (fun j hj => ?_)⟩
    show _ = vp_V (c_fs E _ c (m_sz μ)) j
    unfold vp_V
    rw [List.getD_eq_getElem?_getD, c_fs_at hj]
    show defaultValue (f_ty c j) = c_t E (f_ty c j) (m_gt (m_nw μ c 0 (f_n c)) (m_sz μ : Int) (j : Int))
    have e2 : m_gt (m_nw μ c 0 (f_n c)) (m_sz μ : Int) (j : Int) = f_df c (j : Int) := by exact if_pos rfl
    rw [e2, c_df E _ (hg j hj)]
    unfold f_df
    rw [Int.toNat_natCast]
    simp [hc]
  have kk := w H1 _ hR1 (hF.nw hR z1' (fun q hq => o1 q (by rw [← hR.1]; exact hq)))
  rw [c_S_c] at kk
  have e : c_v E (vr (m_sz μ : Int)) = .ref (E.1.1 + m_sz μ) := c_rf_n E _
  rw [e] at kk
  exact kk
theorem a_nai {n : Int} {f : Mm → Option τ} (hd : decode cc pc = .ok (.newarray .int, 2)) (hw : Cond.arrayClass .int ∈ m_tb) (h : (m_na 100 μ n).bind f = some t) (k : ∀ μ1, m_mono μ μ1 → m_kd μ1 (m_sz μ : Int) = (100, n.toNat) → f μ1 = some t → AA E l d z own nm cc nL ret (pc + 2) L (vr (m_sz μ : Int) :: st) μ1 ρ) : AA E l d z own nm cc nL ret pc L (vi n :: st) μ ρ := by
  intro hl hs hm
  unfold m_na at h
  by_cases q : 0 ≤ n ∧ n ≤ 60000000
  · rw [if_pos q] at h
    obtain ⟨N, rfl⟩ : ∃ N : Nat, n = (N : Int) := ⟨n.toNat, by omega⟩
    rw [Int.toNat_natCast] at h k
    refine aa_n (c := 100) (n := N) (sl := N) (Or.inr ⟨by omega, by omega, by simp only; omega⟩) (by omega) (fun _ hs _ => oks.c (v := vr (m_sz μ : Int)) trivial hs.t) (fun _ hs hm hC hR hF hcl hsl w => ?_) (k _ (m_mono.nw hm _ _ _) (m_kd_nw _ _ _ _) h) hl hs hm
    obtain ⟨hx, hb, -, hown, hts, hnm, -, -, hK⟩ := hC
    rw [c_S_c]
    have hnn : ¬ Int32.ofInt (N : Int) < 0 := fun q2 => by
      have h0 : (0 : Int32) = Int32.ofInt 0 := rfl
      rw [h0, ofI_lt hs.i okI_0] at q2
      omega
    refine va_newaK (atype := .int) hx hb (hts _ hw) rfl hd rfl hnn (by rw [clampI hs.i, Int.toNat_natCast]) (by show N * 4 ≤ _; omega) hcl hsl (h := E.1.1 + m_sz μ) hR.1 fun H1 cA e1 z1 o1 hAr hNm => ?_
    have hcA : cA = E.2.2 0 := by
      have h2 := (hK.1.2 0 _ rfl).2
      exact Option.some.inj (hNm.symm.trans h2)
    subst hcA
    have z1' : H1.size = _ + 1 := z1.trans (by rw [← hR.1])
    have hR1 : m_R E (m_nw μ 100 N N) H1 := by
      refine hR.nw z1' (fun q hq => o1 q (by rw [← hR.1]; exact hq)) ?_
      rw [c_cell_i (n := N) (m_kd_nw _ _ _ _) (by omega) (by omega)]
      show H1[_]? = some (vp_cell _ _)
      rw [e1]
      have e2 : ∀ j : Int, m_gt (m_nw μ 100 N N) (m_sz μ : Int) j = 0 := fun j => by exact if_pos rfl
      simp only [e2]
      rfl
    have kk := w H1 _ hR1 (hF.nw hR z1' (fun q hq => o1 q (by rw [← hR.1]; exact hq)))
    rw [c_S_c] at kk
    have e : c_v E (vr (m_sz μ : Int)) = .ref (E.1.1 + m_sz μ) := c_rf_n E _
    rw [e] at kk
    exact kk
  · rw [if_neg q] at h; cases h
theorem a_nal {n : Int} {f : Mm → Option τ} (hd : decode cc pc = .ok (.newarray .long, 2)) (hw : Cond.arrayClass .long ∈ m_tb) (h : (m_na 101 μ n).bind f = some t) (k : ∀ μ1, m_mono μ μ1 → m_kd μ1 (m_sz μ : Int) = (101, n.toNat) → f μ1 = some t → AA E l d z own nm cc nL ret (pc + 2) L (vr (m_sz μ : Int) :: st) μ1 ρ) : AA E l d z own nm cc nL ret pc L (vi n :: st) μ ρ := by
  intro hl hs hm
  unfold m_na at h
  by_cases q : 0 ≤ n ∧ n ≤ 60000000
  · rw [if_pos q] at h
    obtain ⟨N, rfl⟩ : ∃ N : Nat, n = (N : Int) := ⟨n.toNat, by omega⟩
    rw [Int.toNat_natCast] at h k
    refine aa_n (c := 101) (n := N) (sl := N) (Or.inr ⟨by omega, by omega, by simp only; omega⟩) (by omega) (fun _ hs _ => oks.c (v := vr (m_sz μ : Int)) trivial hs.t) (fun _ hs hm hC hR hF hcl hsl w => ?_) (k _ (m_mono.nw hm _ _ _) (m_kd_nw _ _ _ _) h) hl hs hm
    obtain ⟨hx, hb, -, hown, hts, hnm, -, -, hK⟩ := hC
    rw [c_S_c]
    have hnn : ¬ Int32.ofInt (N : Int) < 0 := fun q2 => by
      have h0 : (0 : Int32) = Int32.ofInt 0 := rfl
      rw [h0, ofI_lt hs.i okI_0] at q2
      omega
    refine va_newaK (atype := .long) hx hb (hts _ hw) rfl hd rfl hnn (by rw [clampI hs.i, Int.toNat_natCast]) (by show N * 8 ≤ _; omega) hcl hsl (h := E.1.1 + m_sz μ) hR.1 fun H1 cA e1 z1 o1 hAr hNm => ?_
    have hcA : cA = E.2.2 1 := by
      have h2 := (hK.1.2 1 _ rfl).2
      exact Option.some.inj (hNm.symm.trans h2)
    subst hcA
    have z1' : H1.size = _ + 1 := z1.trans (by rw [← hR.1])
    have hR1 : m_R E (m_nw μ 101 N N) H1 := by
      refine hR.nw z1' (fun q hq => o1 q (by rw [← hR.1]; exact hq)) ?_
      rw [c_cell_l (n := N) (m_kd_nw _ _ _ _)]
      show H1[_]? = some (vp_cell _ _)
      rw [e1]
      have e2 : ∀ j : Int, m_gt (m_nw μ 101 N N) (m_sz μ : Int) j = 0 := fun j => by exact if_pos rfl
      simp only [e2]
      rfl
    have kk := w H1 _ hR1 (hF.nw hR z1' (fun q hq => o1 q (by rw [← hR.1]; exact hq)))
    rw [c_S_c] at kk
    have e : c_v E (vr (m_sz μ : Int)) = .ref (E.1.1 + m_sz μ) := c_rf_n E _
    rw [e] at kk
    exact kk
  · rw [if_neg q] at h; cases h
theorem a_naz {n : Int} {f : Mm → Option τ} (hd : decode cc pc = .ok (.newarray .boolean, 2)) (hw : Cond.arrayClass .boolean ∈ m_tb) (h : (m_na 102 μ n).bind f = some t) (k : ∀ μ1, m_mono μ μ1 → m_kd μ1 (m_sz μ : Int) = (102, n.toNat) → f μ1 = some t → AA E l d z own nm cc nL ret (pc + 2) L (vr (m_sz μ : Int) :: st) μ1 ρ) : AA E l d z own nm cc nL ret pc L (vi n :: st) μ ρ := by
  intro hl hs hm
  unfold m_na at h
  by_cases q : 0 ≤ n ∧ n ≤ 60000000
  · rw [if_pos q] at h
    obtain ⟨N, rfl⟩ : ∃ N : Nat, n = (N : Int) := ⟨n.toNat, by omega⟩
    rw [Int.toNat_natCast] at h k
    refine aa_n (c := 102) (n := N) (sl := N) (Or.inr ⟨by omega, by omega, by simp only; omega⟩) (by omega) (fun _ hs _ => oks.c (v := vr (m_sz μ : Int)) trivial hs.t) (fun _ hs hm hC hR hF hcl hsl w => ?_) (k _ (m_mono.nw hm _ _ _) (m_kd_nw _ _ _ _) h) hl hs hm
    obtain ⟨hx, hb, -, hown, hts, hnm, -, -, hK⟩ := hC
    rw [c_S_c]
    have hnn : ¬ Int32.ofInt (N : Int) < 0 := fun q2 => by
      have h0 : (0 : Int32) = Int32.ofInt 0 := rfl
      rw [h0, ofI_lt hs.i okI_0] at q2
      omega
    refine va_newaK (atype := .boolean) hx hb (hts _ hw) rfl hd rfl hnn (by rw [clampI hs.i, Int.toNat_natCast]) (by show N * 1 ≤ _; omega) hcl hsl (h := E.1.1 + m_sz μ) hR.1 fun H1 cA e1 z1 o1 hAr hNm => ?_
    have hcA : cA = E.2.2 2 := by
      have h2 := (hK.1.2 2 _ rfl).2
      exact Option.some.inj (hNm.symm.trans h2)
    subst hcA
    have z1' : H1.size = _ + 1 := z1.trans (by rw [← hR.1])
    have hR1 : m_R E (m_nw μ 102 N N) H1 := by
      refine hR.nw z1' (fun q hq => o1 q (by rw [← hR.1]; exact hq)) ?_
      rw [c_cell_i (n := N) (m_kd_nw _ _ _ _) (by omega) (by omega)]
      show H1[_]? = some (vp_cell _ _)
      rw [e1]
      have e2 : ∀ j : Int, m_gt (m_nw μ 102 N N) (m_sz μ : Int) j = 0 := fun j => by exact if_pos rfl
      simp only [e2]
      rfl
    have kk := w H1 _ hR1 (hF.nw hR z1' (fun q hq => o1 q (by rw [← hR.1]; exact hq)))
    rw [c_S_c] at kk
    have e : c_v E (vr (m_sz μ : Int)) = .ref (E.1.1 + m_sz μ) := c_rf_n E _
    rw [e] at kk
    exact kk
  · rw [if_neg q] at h; cases h
theorem a_nac {n : Int} {f : Mm → Option τ} (hd : decode cc pc = .ok (.newarray .char, 2)) (hw : Cond.arrayClass .char ∈ m_tb) (h : (m_na 103 μ n).bind f = some t) (k : ∀ μ1, m_mono μ μ1 → m_kd μ1 (m_sz μ : Int) = (103, n.toNat) → f μ1 = some t → AA E l d z own nm cc nL ret (pc + 2) L (vr (m_sz μ : Int) :: st) μ1 ρ) : AA E l d z own nm cc nL ret pc L (vi n :: st) μ ρ := by
  intro hl hs hm
  unfold m_na at h
  by_cases q : 0 ≤ n ∧ n ≤ 60000000
  · rw [if_pos q] at h
    obtain ⟨N, rfl⟩ : ∃ N : Nat, n = (N : Int) := ⟨n.toNat, by omega⟩
    rw [Int.toNat_natCast] at h k
    refine aa_n (c := 103) (n := N) (sl := N) (Or.inr ⟨by omega, by omega, by simp only; omega⟩) (by omega) (fun _ hs _ => oks.c (v := vr (m_sz μ : Int)) trivial hs.t) (fun _ hs hm hC hR hF hcl hsl w => ?_) (k _ (m_mono.nw hm _ _ _) (m_kd_nw _ _ _ _) h) hl hs hm
    obtain ⟨hx, hb, -, hown, hts, hnm, -, -, hK⟩ := hC
    rw [c_S_c]
    have hnn : ¬ Int32.ofInt (N : Int) < 0 := fun q2 => by
      have h0 : (0 : Int32) = Int32.ofInt 0 := rfl
      rw [h0, ofI_lt hs.i okI_0] at q2
      omega
    refine va_newaK (atype := .char) hx hb (hts _ hw) rfl hd rfl hnn (by rw [clampI hs.i, Int.toNat_natCast]) (by show N * 2 ≤ _; omega) hcl hsl (h := E.1.1 + m_sz μ) hR.1 fun H1 cA e1 z1 o1 hAr hNm => ?_
    have hcA : cA = E.2.2 3 := by
      have h2 := (hK.1.2 3 _ rfl).2
      exact Option.some.inj (hNm.symm.trans h2)
    subst hcA
    have z1' : H1.size = _ + 1 := z1.trans (by rw [← hR.1])
    have hR1 : m_R E (m_nw μ 103 N N) H1 := by
      refine hR.nw z1' (fun q hq => o1 q (by rw [← hR.1]; exact hq)) ?_
      rw [c_cell_i (n := N) (m_kd_nw _ _ _ _) (by omega) (by omega)]
      show H1[_]? = some (vp_cell _ _)
      rw [e1]
      have e2 : ∀ j : Int, m_gt (m_nw μ 103 N N) (m_sz μ : Int) j = 0 := fun j => by exact if_pos rfl
      simp only [e2]
      rfl
    have kk := w H1 _ hR1 (hF.nw hR z1' (fun q hq => o1 q (by rw [← hR.1]; exact hq)))
    rw [c_S_c] at kk
    have e : c_v E (vr (m_sz μ : Int)) = .ref (E.1.1 + m_sz μ) := c_rf_n E _
    rw [e] at kk
    exact kk
  · rw [if_neg q] at h; cases h
-- returns
theorem a_ret0 {t : Mm} (hd : decode cc pc = .ok (.return_, 1)) (h : some μ = some t) : AA E l d z own nm cc nL none pc L [] μ (rV t) := by
  cases h
  exact fun hl hs hm => ⟨⟨m_mono.rf _, rfl, hm⟩, fun p e R s m args below meth c Q H locs ls hC h1 h2 h3 h4 hR hF hv hr => hr pc ls H locs hd hR hF⟩
theorem a_reti {x : Int} {t : Int × Mm} (hd : decode cc pc = .ok (.ireturn, 1)) (h : some (x, μ) = some t) : AA E l d z own nm cc nL (some .int) pc L [vi x] μ (rI t) := by
  cases h
  exact fun hl hs hm => ⟨⟨m_mono.rf _, ⟨hs.i, _, rfl, rfl⟩, hm⟩, fun p e R s m args below meth c Q H locs ls hC h1 h2 h3 h4 hR hF hv hr => hr pc ls H locs hd hR hF⟩
theorem n_z {x : Int} (q : x = 0 ∨ x = 1) : narrow .boolean (.int (Int32.ofInt x)) = .int (Int32.ofInt x) := by rcases q with rfl | rfl <;> rfl
theorem a_retz {x : Int} {t : Int × Mm} (hd : decode cc pc = .ok (.ireturn, 1)) (h : z_chk x (some (x, μ)) = some t) : AA E l d z own nm cc nL (some .boolean) pc L [vi x] μ (rI t) := by
  unfold z_chk at h
  by_cases q : x = 0 ∨ x = 1
  · rw [if_pos q] at h
    cases h
    exact fun hl hs hm => ⟨⟨m_mono.rf _, ⟨hs.i, _, rfl, n_z q⟩, hm⟩, fun p e R s m args below meth c Q H locs ls hC h1 h2 h3 h4 hR hF hv hr => hr pc ls H locs hd hR hF⟩
  · rw [if_neg q] at h; cases h
theorem a_retl {x : Int} {t : Int × Mm} (hd : decode cc pc = .ok (.lreturn, 1)) (h : some (x, μ) = some t) : AA E l d z own nm cc nL (some .long) pc L [vl x] μ (rJ t) := by
  cases h
  exact fun hl hs hm => ⟨⟨m_mono.rf _, ⟨rfl, hs.j⟩, hm⟩, fun p e R s m args below meth c Q H locs ls hC h1 h2 h3 h4 hR hF hv hr => hr pc ls H locs hd hR hF⟩
theorem a_objI {c n index : Nat} {r : Int} (hd : decode cc pc = .ok (.invokespecial index, 3)) (hw1 : Cond.methodLink own index Lib.objectInit ∈ m_tb) (hw2 : Cond.instanceMethod Lib.objectInit ∈ m_tb) (hw3 : Cond.code Lib.objectInit ⟨#[0xb1]⟩ 1 none ∈ m_tb) (hd1 : 1 ≤ d) (hk : m_kd μ r = (c, n)) (hc : c ≠ 999) (k : AA E l d z own nm cc nL ret (pc + 3) L [] μ ρ) : AA E l d z own nm cc nL ret pc L [vr r] μ ρ := by
  intro hl hs hm
  obtain ⟨k', rfl, hlt⟩ := hm.lt hk hc
  refine aa_s (fun _ hs _ => hs.t) (fun _ hs hm hC hR hF hv w => ?_) k hl hs hm
  obtain ⟨hx, hb, hml, hown, hts, hnm, hfr, hlo, hK⟩ := hC
  rw [c_S_c]
  show W _ _ _ _ _ _ _ _ _ _ _ _ _ _ _ (F0 _ pc _ (c_rf E (k' : Int) :: c_S E []))
  rw [c_rf_n]
  exact W.objInit hx hb hown (hts _ hw1) (hts _ hw2) (hts _ hw3) rfl (hv.1.trans hml.symm) rfl hd (by omega) (by show 2 * 0 + 0 + 12 ≤ _; omega) w
end AAW
