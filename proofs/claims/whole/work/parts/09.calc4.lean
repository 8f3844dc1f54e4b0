/-! ===== the calculus, 4: stores into fields and arrays, new cells, returns ===== -/
def f_g (ty : FieldType) : Bool := match ty with
  | .int => true
  | .long => true
  | .boolean => true
  | .object _ => true
  | .array _ => true
  | _ => false
theorem nf {E : m_E} {ty : FieldType} {x : Int} (hg : f_g ty = true) (h : okt ty x) : narrow ty (c_t E ty x) = c_t E ty x ∧ fits ty (c_t E ty x) = true := by
  cases ty with
  | int => exact ⟨rfl, rfl⟩
  | long => exact ⟨rfl, rfl⟩
  | boolean => rcases h with rfl | rfl <;> exact ⟨rfl, rfl⟩
  | object n =>
    show narrow _ (c_rf E x) = c_rf E x ∧ fits _ (c_rf E x) = true
    rcases c_rf_o E x with e | ⟨a, e⟩ <;> rw [e] <;> exact ⟨rfl, rfl⟩
  | array n =>
    show narrow _ (c_rf E x) = c_rf E x ∧ fits _ (c_rf E x) = true
    rcases c_rf_o E x with e | ⟨a, e⟩ <;> rw [e] <;> exact ⟨rfl, rfl⟩
  | _ => cases hg
theorem c_nar {v : Int} (h : 0 ≤ v ∧ v ≤ 65535) : (Int32.ofInt v).toUInt32.toUInt16.toUInt32.toInt32 = Int32.ofInt v := by
  obtain ⟨n, rfl⟩ : ∃ n : Nat, v = (n : Int) := ⟨v.toNat, by omega⟩
  apply Int32.toBitVec_inj.mp
  apply BitVec.eq_of_toNat_eq
  have hn : n ≤ 65535 := by omega
  show (((BitVec.ofInt 32 (n : Int)).setWidth 16).setWidth 32).toNat = (BitVec.ofInt 32 (n : Int)).toNat
  simp only [BitVec.toNat_setWidth, BitVec.ofInt_natCast, BitVec.toNat_ofNat]
  omega
section AAV0
variable {p : Program} {l : Launch} {e : Env} {R : Room} {s : State} {m : MethodId} {args : Array Value} {below : List Frame} {meth : Method} {c : Code} {H : Heap} {locs : List Loc} {cells slots : Nat} {Q : State → Prop} {cc : ByteArray} {pc : Nat} {ls : Array Slot} {rest : List Value} {D : va_G} {tys : List (ClassId × FieldType)} {a : Nat}
theorem w_put (hexec : p.tables.exec = Jvm.exec) (hb : c.code = cc) {own : String} {ci index : Nat} (hts : ∀ w ∈ m_tb, w.before args s = true) (hown : s.vm.findClass own = some m.cls) (hK : va_K D vwCl tys s) {fs : List Value} (he : va_at D vwCl (a, .inr (ci, fs)) H) (hc : ci < 9) (k : Nat) (hk : k < f_n ci) (hlink : (Cond.fieldLink own index (cn ci) (fT ci k).2.1 (fT ci k).2.2.1).before args s = true) (hfin : (fT ci k).2.2.2 = false ∨ ((fT ci k).2.2.2 = true ∧ meth.name = "<init>" ∧ (fT ci k).1 = own)) {v : Value} (hn : narrow (f_ty ci k) v = v) (hfit : fits (f_ty ci k) v = true) (hl : k < fs.length)
    (hdg : decode cc pc = .ok (.putfield index, 3)) (kk : ∀ (H1 : Heap) (j : Nat), H1.size = H.size → (∀ q : Nat, q ≠ a → H1[q]? = H[q]?) → va_at D vwCl (a, .inr (ci, fs.set k v)) H1 → W p l e R s m args below meth c H1 (locs ++ [⟨a, j⟩]) cells slots Q (F0 m (pc + 3) ls rest)) : W p l e R s m args below meth c H locs cells slots Q (F0 m pc ls (v :: .ref a :: rest)) := by
  have hin := kc_in hc
  have hcl := kc_at hc
  have hap := va_apart (own := own) hts hin (f_ty ci) (kc_ty hc) (kc_nm hc) hK hcl
  obtain ⟨r, h1, cell, q1, q2, q3, q4⟩ := he
  have hr : r = (cn ci, fT ci, f_n ci) := Option.some.inj (h1.symm.trans hcl)
  subst hr
  obtain ⟨hS, hfc, kC, hkC, hkind⟩ := hK.1 ci _ hcl
  obtain ⟨cf, kf, fi, f, hi, hsl⟩ := hS k hk
  have hlay := hts _ (hin _ (u_in_lay hk))
  have hst := (u_facts hfc hkC (u_lays hts hin hk) hi).1
  have hi' : s.fieldFound? (cn ci) (fT ci k).2.1 (fT ci k).2.2.1 = some (cf, kf, fi, f) := by rw [← kc_own hc k hk]; exact hi
  have fin : ∀ H' : Heap, H'[a]? = some (cell.setSlot f.slot v) → H'.size = H.size → (∀ q, q ≠ a → H'[q]? = H[q]?) → W p l e R s m args below meth c H' (locs ++ [⟨a, f.slot⟩]) cells slots Q (F0 m (pc + 3) ls rest) := by
    intro H' e1 e2 e3
    rw [hsl] at e1
    exact kk H' _ e2 e3 ⟨_, hcl, t_OB.to (V := updV (vp_V fs) k v) ⟨_, e1, q2, q3, t_set q4 hap hk v⟩ (fun j _ => vp_updV_set hl v j)⟩
  rcases hfin with hfin | ⟨hfin, hnm2, hdecl⟩
  · unfold u_lay at hlay
    rw [if_neg (by rw [hfin]; decide)] at hlay
    have h6 := u_store hfc hkC hkind hlay hi (kc_ty hc k hk) hn hfit
    exact W.putK hexec hb (f := f) ⟨hown, hlink, ⟨_, _, _, hi'⟩, hst⟩ (by rw [q2]; exact h6) q1 q3 (by rw [hsl]; exact k2_hasslot (q4 k hk)) rfl rfl hdg fin
  · unfold u_lay at hlay
    rw [if_pos hfin] at hlay
    have hcf : m.cls = cf := by
      obtain ⟨_, _, c', _, _, _, -, -, hf', -, -, -, hown2, -⟩ := Cond.laysFinal_spec hlay
      have e1 : c' = cf := by have := hi.symm.trans hf'; simp at this; exact this.1.symm
      rw [hdecl] at hown2
      rw [← e1]; exact Option.some.inj (hown.symm.trans hown2)
    have h6 := u_fits hfc hkC hkind (Or.inr hlay) hi (kc_ty hc k hk) hn hfit
    exact W.putFinK hexec hb hown hlink hi' hst hcf hnm2 (by rw [q2]; exact h6) q1 q3 (by rw [hsl]; exact k2_hasslot (q4 k hk)) rfl rfl hdg fin
end AAV0
section AAV
variable {E : m_E} {l : Launch} {d : Nat} {z : Nat × Nat} {own nm : String} {cc : ByteArray} {nL : Nat} {ret : Option FieldType} {pc : Nat} {L L' : List (Nat × AV)} {st st' : List AV} {μ : Mm} {ρ : Option AV × Mm} {τ : Type} {t : τ}
/-- a step that changes the memory, not its size -/
theorem aa_m {pc' : Nat} {μ1 : Mm} (hok : okl L → oks st → okM μ → oks st' ∧ okM μ1) (hmm : m_mono μ μ1) (hz : m_sz μ1 = m_sz μ) (hz2 : m_sl μ1 = m_sl μ)
    (hw : ∀ {p : Program} {e : Env} {R : Room} {s : State} {m : MethodId} {args : Array Value} {below : List Frame} {meth : Method} {c : Code} {Q : State → Prop} {H : Heap} {locs : List Loc} {ls : Array Slot} {cells slots : Nat}, okl L → oks st → okM μ → m_C E d own nm cc nL p R s m args meth c → m_R E μ H → m_F E s H locs →
      (∀ (H1 : Heap) (locs1 : List Loc), m_R E μ1 H1 → m_F E s H1 locs1 → W p l e R s m args below meth c H1 locs1 cells slots Q (F0 m pc' ls (c_S E st'))) → W p l e R s m args below meth c H locs cells slots Q (F0 m pc ls (c_S E st)))
    (k : AA E l d z own nm cc nL ret pc' L st' μ1 ρ) : AA E l d z own nm cc nL ret pc L st μ ρ := by
  intro hl hs hm
  obtain ⟨o1, o2⟩ := hok hl hs hm
  obtain ⟨⟨k1, k1', k1''⟩, k2⟩ := k hl o1 o2
  refine ⟨⟨hmm.tr k1, k1', k1''⟩, fun p e R s m args below meth c Q H locs ls hC h1 h2 h3 h4 hR hF hv hr => ?_⟩
  refine hw hl hs hm hC hR hF (fun H1 locs1 hR1 hF1 => ?_)
  have kk := k2 p e R s m args below meth c Q H1 locs1 ls hC h1 h2 (by rw [hz]; exact h3) (by rw [hz2]; exact h4) hR1 hF1 hv hr
  rw [hz, hz2] at kk
  exact kk
theorem a_putf {c i index : Nat} {r v : Int} {V : AV} {f : Mm → Option τ} (hd : decode cc pc = .ok (.putfield index, 3)) (hw : Cond.fieldLink own index (cn c) (fT c i).2.1 (fT c i).2.2.1 ∈ m_tb) (hc : c < 9) (hi : i < f_n c) (hfin : (fT c i).2.2.2 = false ∨ ((fT c i).2.2.2 = true ∧ nm = "<init>" ∧ (fT c i).1 = own)) (hg : f_g (f_ty c i) = true) (hk : m_kd μ r = (c, 0))
    (hV2 : c_v E V = c_t E (f_ty c i) v) (hV3 : okv V → okt (f_ty c i) v) (h : bnd (m_st μ r i v) f = some t) (k : ∀ μ1, m_mono μ μ1 → f μ1 = some t → AA E l d z own nm cc nL ret (pc + 3) L st μ1 ρ) : AA E l d z own nm cc nL ret pc L (V :: vr r :: st) μ ρ := by
  intro hl hs hm
  obtain ⟨k', rfl, hlt⟩ := hm.lt hk (by omega)
  refine aa_m (μ1 := m_st μ k' i v) (fun _ hs hm => ⟨hs.t.t, hm.st (fun a b e1 e2 h1 h2 => ?_)⟩) (m_mono.st _ _ _ _) rfl rfl (fun _ hs hm hC hR hF w => ?_) (k _ (m_mono.st _ _ _ _) h) hl hs hm
  · have e1 : a = k' := by omega
    have e2 : b = i := by omega
    subst e1; subst e2
    rw [hk]
    simp only [s_ty, hc, if_true]
    exact hV3 hs.h
  · obtain ⟨hx, hb, -, hown, hts, hnm, -, -, hK⟩ := hC
    have hv := hV3 hs.h
    have hnf := nf (E := E) hg hv
    rw [c_S_c, c_S_c]
    show W _ _ _ _ _ _ _ _ _ _ _ _ _ _ _ (F0 _ pc _ (c_v E V :: c_rf E (k' : Int) :: c_S E st))
    rw [c_rf_n, hV2]
    have hat := hR.2 k' hlt
    rw [c_cell_o hk hc] at hat
    refine w_put (D := E.2.1) hx hb hts hown hK.1 hat hc i hi (hts _ hw) (by rw [hnm]; exact hfin) hnf.1 hnf.2 (by rw [c_fs_ln]; exact hi) hd (fun H1 j z1 oq at1 => w H1 _ (hR.st z1 oq ?_) (hF.put z1 oq (Nat.le_add_right _ _)))
    rw [c_cell_o (c := c) (n := 0) (by rw [m_kd_st]; exact hk) hc, c_fs_set]
    exact at1
theorem a_iald {r i : Int} {f : Int → Option τ} (hd : decode cc pc = .ok (.iaload, 1)) (h : (m_ald 100 μ r i).bind f = some t) (k : ∀ x, f x = some t → AA E l d z own nm cc nL ret (pc + 1) L (vi x :: st) μ ρ) : AA E l d z own nm cc nL ret pc L (vi i :: vr r :: st) μ ρ := by
  intro hl hs hm
  unfold m_ald at h
  by_cases q : (m_kd μ r).1 = 100 ∧ 0 ≤ i ∧ i < ((m_kd μ r).2 : Int)
  · rw [if_pos q] at h
    obtain ⟨q1, q2, q3⟩ := q
    have hkd0 : m_kd μ r = (100, (m_kd μ r).2) := by rw [← q1]
    obtain ⟨k', rfl, hlt⟩ := hm.lt hkd0 (by omega)
    obtain ⟨j, rfl⟩ : ∃ j : Nat, i = (j : Int) := ⟨i.toNat, by omega⟩
    generalize hn : (m_kd μ (k' : Int)).2 = n at hkd0 q3
    have hkd : m_kd μ (k' : Int) = (100, n) := hkd0
    have hok : okt .int (m_gt μ k' j) := by
      have h2 := (hm.2 k' hlt).2 j
      rw [hkd] at h2
      exact h2 (by show j < n; omega)
    refine aa_s (fun _ hs _ => oks.c (v := vi (m_gt μ k' j)) (hok) hs.t.t) (fun _ hs hm hC hR _ _ w => ?_) (k _ h) hl hs hm
    obtain ⟨hx, hb, -, hown, hts, hnm, -, -, hK⟩ := hC
    rw [c_S_c, c_S_c]
    show W _ _ _ _ _ _ _ _ _ _ _ _ _ _ _ (F0 _ pc _ (.int (Int32.ofInt (j : Int)) :: c_rf E (k' : Int) :: c_S E st))
    rw [c_rf_n]
    refine va_iald (D := E.2.1) hx hb hK.1 (hR.one hlt) 0 0 (f := fun j => Int32.ofInt (m_gt μ k' j)) (by rw [c_cell_i hkd (by omega) (by omega)]; rfl) rfl (inI hs.i q2 (by omega)) hd ?_
    rw [clampI hs.i, Int.toNat_natCast]
    exact w
  · rw [if_neg q] at h; cases h
theorem a_zald {r i : Int} {f : Int → Option τ} (hd : decode cc pc = .ok (.baload, 1)) (h : (m_ald 102 μ r i).bind f = some t) (k : ∀ x, f x = some t → AA E l d z own nm cc nL ret (pc + 1) L (vi x :: st) μ ρ) : AA E l d z own nm cc nL ret pc L (vi i :: vr r :: st) μ ρ := by
  intro hl hs hm
  unfold m_ald at h
  by_cases q : (m_kd μ r).1 = 102 ∧ 0 ≤ i ∧ i < ((m_kd μ r).2 : Int)
  · rw [if_pos q] at h
    obtain ⟨q1, q2, q3⟩ := q
    have hkd0 : m_kd μ r = (102, (m_kd μ r).2) := by rw [← q1]
    obtain ⟨k', rfl, hlt⟩ := hm.lt hkd0 (by omega)
    obtain ⟨j, rfl⟩ : ∃ j : Nat, i = (j : Int) := ⟨i.toNat, by omega⟩
    generalize hn : (m_kd μ (k' : Int)).2 = n at hkd0 q3
    have hkd : m_kd μ (k' : Int) = (102, n) := hkd0
    have hok : okt .boolean (m_gt μ k' j) := by
      have h2 := (hm.2 k' hlt).2 j
      rw [hkd] at h2
      exact h2 (by show j < n; omega)
    refine aa_s (fun _ hs _ => oks.c (v := vi (m_gt μ k' j)) (okt_v hok rfl (by decide)) hs.t.t) (fun _ hs hm hC hR _ _ w => ?_) (k _ h) hl hs hm
    obtain ⟨hx, hb, -, hown, hts, hnm, -, -, hK⟩ := hC
    rw [c_S_c, c_S_c]
    show W _ _ _ _ _ _ _ _ _ _ _ _ _ _ _ (F0 _ pc _ (.int (Int32.ofInt (j : Int)) :: c_rf E (k' : Int) :: c_S E st))
    rw [c_rf_n]
    refine va_zald (D := E.2.1) hx hb hK.1 (hR.one hlt) 0 2 (f := fun j => Int32.ofInt (m_gt μ k' j)) (by rw [c_cell_i hkd (by omega) (by omega)]; rfl) rfl (inI hs.i q2 (by omega)) hd ?_
    rw [clampI hs.i, Int.toNat_natCast]
    exact w
  · rw [if_neg q] at h; cases h
theorem a_cald {r i : Int} {f : Int → Option τ} (hd : decode cc pc = .ok (.caload, 1)) (h : (m_ald 103 μ r i).bind f = some t) (k : ∀ x, f x = some t → AA E l d z own nm cc nL ret (pc + 1) L (vi x :: st) μ ρ) : AA E l d z own nm cc nL ret pc L (vi i :: vr r :: st) μ ρ := by
  intro hl hs hm
  unfold m_ald at h
  by_cases q : (m_kd μ r).1 = 103 ∧ 0 ≤ i ∧ i < ((m_kd μ r).2 : Int)
  · rw [if_pos q] at h
    obtain ⟨q1, q2, q3⟩ := q
    have hkd0 : m_kd μ r = (103, (m_kd μ r).2) := by rw [← q1]
    obtain ⟨k', rfl, hlt⟩ := hm.lt hkd0 (by omega)
    obtain ⟨j, rfl⟩ : ∃ j : Nat, i = (j : Int) := ⟨i.toNat, by omega⟩
    generalize hn : (m_kd μ (k' : Int)).2 = n at hkd0 q3
    have hkd : m_kd μ (k' : Int) = (103, n) := hkd0
    have hok : okt .char (m_gt μ k' j) := by
      have h2 := (hm.2 k' hlt).2 j
      rw [hkd] at h2
      exact h2 (by show j < n; omega)
    refine aa_s (fun _ hs _ => oks.c (v := vi (m_gt μ k' j)) (okt_v hok rfl (by decide)) hs.t.t) (fun _ hs hm hC hR _ _ w => ?_) (k _ h) hl hs hm
    obtain ⟨hx, hb, -, hown, hts, hnm, -, -, hK⟩ := hC
    rw [c_S_c, c_S_c]
    show W _ _ _ _ _ _ _ _ _ _ _ _ _ _ _ (F0 _ pc _ (.int (Int32.ofInt (j : Int)) :: c_rf E (k' : Int) :: c_S E st))
    rw [c_rf_n]
    refine va_cald (D := E.2.1) hx hb hK.1 (hR.one hlt) 0 3 (f := fun j => Int32.ofInt (m_gt μ k' j)) (by rw [c_cell_i hkd (by omega) (by omega)]; rfl) rfl (inI hs.i q2 (by omega)) hd ?_
    rw [clampI hs.i, Int.toNat_natCast]
    exact w
  · rw [if_neg q] at h; cases h
theorem a_lald {r i : Int} {f : Int → Option τ} (hd : decode cc pc = .ok (.laload, 1)) (h : (m_ald 101 μ r i).bind f = some t) (k : ∀ x, f x = some t → AA E l d z own nm cc nL ret (pc + 1) L (vl x :: st) μ ρ) : AA E l d z own nm cc nL ret pc L (vi i :: vr r :: st) μ ρ := by
  intro hl hs hm
  unfold m_ald at h
  by_cases q : (m_kd μ r).1 = 101 ∧ 0 ≤ i ∧ i < ((m_kd μ r).2 : Int)
  · rw [if_pos q] at h
    obtain ⟨q1, q2, q3⟩ := q
    have hkd0 : m_kd μ r = (101, (m_kd μ r).2) := by rw [← q1]
    obtain ⟨k', rfl, hlt⟩ := hm.lt hkd0 (by omega)
    obtain ⟨j, rfl⟩ : ∃ j : Nat, i = (j : Int) := ⟨i.toNat, by omega⟩
    generalize hn : (m_kd μ (k' : Int)).2 = n at hkd0 q3
    have hkd : m_kd μ (k' : Int) = (101, n) := hkd0
    have hok : okt .long (m_gt μ k' j) := by
      have h2 := (hm.2 k' hlt).2 j
      rw [hkd] at h2
      exact h2 (by show j < n; omega)
    refine aa_s (fun _ hs _ => oks.c (v := vl (m_gt μ k' j)) (hok) hs.t.t) (fun _ hs hm hC hR _ _ w => ?_) (k _ h) hl hs hm
    obtain ⟨hx, hb, -, hown, hts, hnm, -, -, hK⟩ := hC
    rw [c_S_c, c_S_c]
    show W _ _ _ _ _ _ _ _ _ _ _ _ _ _ _ (F0 _ pc _ (.int (Int32.ofInt (j : Int)) :: c_rf E (k' : Int) :: c_S E st))
    rw [c_rf_n]
    refine va_lald (D := E.2.1) hx hb hK.1 (hR.one hlt) 0 1 (f := fun j => Int64.ofInt (m_gt μ k' j)) (by rw [c_cell_l hkd]; rfl) rfl (inI hs.i q2 (by omega)) hd ?_
    rw [clampI hs.i, Int.toNat_natCast]
    exact w
  · rw [if_neg q] at h; cases h
theorem a_iast {r i v : Int} {f : Mm → Option τ} (hd : decode cc pc = .ok (.iastore, 1)) (h : (m_ast 100 μ r i v).bind f = some t) (k : ∀ μ1, m_mono μ μ1 → f μ1 = some t → AA E l d z own nm cc nL ret (pc + 1) L st μ1 ρ) : AA E l d z own nm cc nL ret pc L (vi v :: vi i :: vr r :: st) μ ρ := by
  intro hl hs hm
  unfold m_ast at h
  by_cases q : (m_kd μ r).1 = 100 ∧ 0 ≤ i ∧ i < ((m_kd μ r).2 : Int)
  · rw [if_pos q] at h
    obtain ⟨q1, q2, q3⟩ := q
    have hkd0 : m_kd μ r = (100, (m_kd μ r).2) := by rw [← q1]
    obtain ⟨k', rfl, hlt⟩ := hm.lt hkd0 (by omega)
    obtain ⟨j, rfl⟩ : ∃ j : Nat, i = (j : Int) := ⟨i.toNat, by omega⟩
    generalize hn : (m_kd μ (k' : Int)).2 = n at hkd0 q3
    have hkd : m_kd μ (k' : Int) = (100, n) := hkd0
    refine aa_m (μ1 := m_st μ k' j v) (fun _ hs hm => ⟨hs.t.t.t, hm.st (fun a b e1 e2 h1 h2 => ?_)⟩) (m_mono.st _ _ _ _) rfl rfl (fun _ hs hm hC hR hF w => ?_) (k _ (m_mono.st _ _ _ _) h) hl hs hm
    · have e1 : a = k' := by omega
      subst e1
      rw [hkd]
      exact hs.i
    · obtain ⟨hx, hb, -, hown, hts, hnm, -, -, hK⟩ := hC
      have hat := hR.2 k' hlt
      rw [c_cell_i hkd (by omega) (by omega)] at hat
      rw [c_S_c, c_S_c, c_S_c]
      show W _ _ _ _ _ _ _ _ _ _ _ _ _ _ _ (F0 _ pc _ (.int (Int32.ofInt v) :: .int (Int32.ofInt (j : Int)) :: c_rf E (k' : Int) :: c_S E st))
      rw [c_rf_n]
      have hin := inI (n := n) hs.t.i q2 (by omega)
      refine W.iast hx hb hat ((hK.1.2 0 _ rfl).1 n (fun j => .int (Int32.ofInt (m_gt μ k' j)))) (fun q => by cases q) (by show ¬ (Int32.ofInt (j : Int) < 0 ∨ (arrV _ _ _).slots.size ≤ _); rw [arrV_size]; exact hin) rfl rfl hd fun H1 e z1 oq => ?_
      refine w H1 _ (hR.st z1 oq ?_) (hF.put z1 oq (Nat.le_add_right _ _))
      rw [c_cell_i (n := n) (by rw [m_kd_st]; exact hkd) (by omega) (by omega)]
      show H1[_]? = some (vp_cell _ _)
      rw [e, vp_cell_i, vp_cell_i, clampI hs.t.i, Int.toNat_natCast, arrV_store]
      congr 2
      funext q
      by_cases hq : q = j
      · subst hq
        simp [updV, m_gt_st]
        skip
      · have hq2 : ¬ (q : Int) = (j : Int) := by omega
        simp [updV, hq, m_gt_st, hq2]
  · rw [if_neg q] at h; cases h
theorem a_zast {r i v : Int} {f : Mm → Option τ} (hz : v = 0 ∨ v = 1) (hd : decode cc pc = .ok (.bastore, 1)) (h : (m_ast 102 μ r i v).bind f = some t) (k : ∀ μ1, m_mono μ μ1 → f μ1 = some t → AA E l d z own nm cc nL ret (pc + 1) L st μ1 ρ) : AA E l d z own nm cc nL ret pc L (vi v :: vi i :: vr r :: st) μ ρ := by
  intro hl hs hm
  unfold m_ast at h
  by_cases q : (m_kd μ r).1 = 102 ∧ 0 ≤ i ∧ i < ((m_kd μ r).2 : Int)
  · rw [if_pos q] at h
    obtain ⟨q1, q2, q3⟩ := q
    have hkd0 : m_kd μ r = (102, (m_kd μ r).2) := by rw [← q1]
    obtain ⟨k', rfl, hlt⟩ := hm.lt hkd0 (by omega)
    obtain ⟨j, rfl⟩ : ∃ j : Nat, i = (j : Int) := ⟨i.toNat, by omega⟩
    generalize hn : (m_kd μ (k' : Int)).2 = n at hkd0 q3
    have hkd : m_kd μ (k' : Int) = (102, n) := hkd0
    refine aa_m (μ1 := m_st μ k' j v) (fun _ hs hm => ⟨hs.t.t.t, hm.st (fun a b e1 e2 h1 h2 => ?_)⟩) (m_mono.st _ _ _ _) rfl rfl (fun _ hs hm hC hR hF w => ?_) (k _ (m_mono.st _ _ _ _) h) hl hs hm
    · have e1 : a = k' := by omega
      subst e1
      rw [hkd]
      exact hz
    · obtain ⟨hx, hb, -, hown, hts, hnm, -, -, hK⟩ := hC
      have hat := hR.2 k' hlt
      rw [c_cell_i hkd (by omega) (by omega)] at hat
      rw [c_S_c, c_S_c, c_S_c]
      show W _ _ _ _ _ _ _ _ _ _ _ _ _ _ _ (F0 _ pc _ (.int (Int32.ofInt v) :: .int (Int32.ofInt (j : Int)) :: c_rf E (k' : Int) :: c_S E st))
      rw [c_rf_n]
      have hin := inI (n := n) hs.t.i q2 (by omega)
      refine W.zast hx hb hat ((hK.1.2 2 _ rfl).1 n (fun j => .int (Int32.ofInt (m_gt μ k' j)))) (fun q => by cases q) (by show ¬ (Int32.ofInt (j : Int) < 0 ∨ (arrV _ _ _).slots.size ≤ _); rw [arrV_size]; exact hin) rfl rfl hd fun H1 e z1 oq => ?_
      refine w H1 _ (hR.st z1 oq ?_) (hF.put z1 oq (Nat.le_add_right _ _))
      rw [c_cell_i (n := n) (by rw [m_kd_st]; exact hkd) (by omega) (by omega)]
      show H1[_]? = some (vp_cell _ _)
      rw [e, vp_cell_i, vp_cell_i, clampI hs.t.i, Int.toNat_natCast, arrV_store]
      congr 2
      funext q
      by_cases hq : q = j
      · subst hq
        simp [updV, m_gt_st]
        rcases hz with rfl | rfl <;> rfl
      · have hq2 : ¬ (q : Int) = (j : Int) := by omega
        simp [updV, hq, m_gt_st, hq2]
  · rw [if_neg q] at h; cases h
theorem a_cast {r i v : Int} {f : Mm → Option τ} (hz : 0 ≤ v ∧ v ≤ 65535) (hd : decode cc pc = .ok (.castore, 1)) (h : (m_ast 103 μ r i v).bind f = some t) (k : ∀ μ1, m_mono μ μ1 → f μ1 = some t → AA E l d z own nm cc nL ret (pc + 1) L st μ1 ρ) : AA E l d z own nm cc nL ret pc L (vi v :: vi i :: vr r :: st) μ ρ := by
  intro hl hs hm
  unfold m_ast at h
  by_cases q : (m_kd μ r).1 = 103 ∧ 0 ≤ i ∧ i < ((m_kd μ r).2 : Int)
  · rw [if_pos q] at h
    obtain ⟨q1, q2, q3⟩ := q
    have hkd0 : m_kd μ r = (103, (m_kd μ r).2) := by rw [← q1]
    obtain ⟨k', rfl, hlt⟩ := hm.lt hkd0 (by omega)
    obtain ⟨j, rfl⟩ : ∃ j : Nat, i = (j : Int) := ⟨i.toNat, by omega⟩
    generalize hn : (m_kd μ (k' : Int)).2 = n at hkd0 q3
    have hkd : m_kd μ (k' : Int) = (103, n) := hkd0
    refine aa_m (μ1 := m_st μ k' j v) (fun _ hs hm => ⟨hs.t.t.t, hm.st (fun a b e1 e2 h1 h2 => ?_)⟩) (m_mono.st _ _ _ _) rfl rfl (fun _ hs hm hC hR hF w => ?_) (k _ (m_mono.st _ _ _ _) h) hl hs hm
    · have e1 : a = k' := by omega
      subst e1
      rw [hkd]
      exact hz
    · obtain ⟨hx, hb, -, hown, hts, hnm, -, -, hK⟩ := hC
      have hat := hR.2 k' hlt
      rw [c_cell_i hkd (by omega) (by omega)] at hat
      rw [c_S_c, c_S_c, c_S_c]
      show W _ _ _ _ _ _ _ _ _ _ _ _ _ _ _ (F0 _ pc _ (.int (Int32.ofInt v) :: .int (Int32.ofInt (j : Int)) :: c_rf E (k' : Int) :: c_S E st))
      rw [c_rf_n]
      have hin := inI (n := n) hs.t.i q2 (by omega)
      refine W.cast hx hb hat ((hK.1.2 3 _ rfl).1 n (fun j => .int (Int32.ofInt (m_gt μ k' j)))) (fun q => by cases q) (by show ¬ (Int32.ofInt (j : Int) < 0 ∨ (arrV _ _ _).slots.size ≤ _); rw [arrV_size]; exact hin) rfl rfl hd fun H1 e z1 oq => ?_
      refine w H1 _ (hR.st z1 oq ?_) (hF.put z1 oq (Nat.le_add_right _ _))
      rw [c_cell_i (n := n) (by rw [m_kd_st]; exact hkd) (by omega) (by omega)]
      show H1[_]? = some (vp_cell _ _)
      rw [e, vp_cell_i, vp_cell_i, clampI hs.t.i, Int.toNat_natCast, arrV_store]
      congr 2
      funext q
      by_cases hq : q = j
      · subst hq
        simp [updV, m_gt_st]
        exact congrArg Value.int (c_nar hz)
      · have hq2 : ¬ (q : Int) = (j : Int) := by omega
        simp [updV, hq, m_gt_st, hq2]
  · rw [if_neg q] at h; cases h
theorem a_last {r i v : Int} {f : Mm → Option τ} (hd : decode cc pc = .ok (.lastore, 1)) (h : (m_ast 101 μ r i v).bind f = some t) (k : ∀ μ1, m_mono μ μ1 → f μ1 = some t → AA E l d z own nm cc nL ret (pc + 1) L st μ1 ρ) : AA E l d z own nm cc nL ret pc L (vl v :: vi i :: vr r :: st) μ ρ := by
  intro hl hs hm
  unfold m_ast at h
  by_cases q : (m_kd μ r).1 = 101 ∧ 0 ≤ i ∧ i < ((m_kd μ r).2 : Int)
  · rw [if_pos q] at h
    obtain ⟨q1, q2, q3⟩ := q
    have hkd0 : m_kd μ r = (101, (m_kd μ r).2) := by rw [← q1]
    obtain ⟨k', rfl, hlt⟩ := hm.lt hkd0 (by omega)
    obtain ⟨j, rfl⟩ : ∃ j : Nat, i = (j : Int) := ⟨i.toNat, by omega⟩
    generalize hn : (m_kd μ (k' : Int)).2 = n at hkd0 q3
    have hkd : m_kd μ (k' : Int) = (101, n) := hkd0
    refine aa_m (μ1 := m_st μ k' j v) (fun _ hs hm => ⟨hs.t.t.t, hm.st (fun a b e1 e2 h1 h2 => ?_)⟩) (m_mono.st _ _ _ _) rfl rfl (fun _ hs hm hC hR hF w => ?_) (k _ (m_mono.st _ _ _ _) h) hl hs hm
    · have e1 : a = k' := by omega
      subst e1
      rw [hkd]
      exact hs.j
    · obtain ⟨hx, hb, -, hown, hts, hnm, -, -, hK⟩ := hC
      have hat := hR.2 k' hlt
      rw [c_cell_l hkd] at hat
      rw [c_S_c, c_S_c, c_S_c]
      show W _ _ _ _ _ _ _ _ _ _ _ _ _ _ _ (F0 _ pc _ (.long (Int64.ofInt v) :: .int (Int32.ofInt (j : Int)) :: c_rf E (k' : Int) :: c_S E st))
      rw [c_rf_n]
      have hin := inI (n := n) hs.t.i q2 (by omega)
      refine W.last hx hb hat ((hK.1.2 1 _ rfl).1 n (fun j => .long (Int64.ofInt (m_gt μ k' j)))) (fun q => by cases q) (by show ¬ (Int32.ofInt (j : Int) < 0 ∨ (arrV _ _ _).slots.size ≤ _); rw [arrV_size]; exact hin) rfl rfl hd fun H1 e z1 oq => ?_
      refine w H1 _ (hR.st z1 oq ?_) (hF.put z1 oq (Nat.le_add_right _ _))
      rw [c_cell_l (n := n) (by rw [m_kd_st]; exact hkd)]
      show H1[_]? = some (vp_cell _ _)
      rw [e, vp_cell_l, vp_cell_l, clampI hs.t.i, Int.toNat_natCast, arrV_store]
      congr 2
      funext q
      by_cases hq : q = j
      · subst hq
        simp [updV, m_gt_st]
        skip
      · have hq2 : ¬ (q : Int) = (j : Int) := by omega
        simp [updV, hq, m_gt_st, hq2]
  · rw [if_neg q] at h; cases h
end AAV
