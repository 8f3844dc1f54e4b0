section AAU
variable {E : m_E} {l : Launch} {d : Nat} {z : Nat × Nat} {own nm : String} {cc : ByteArray} {nL : Nat} {ret : Option FieldType} {pc : Nat} {L L' : List (Nat × AV)} {st st' : List AV} {μ : Mm} {ρ : Option AV × Mm} {τ : Type} {t : τ}
theorem aa_L {pc' : Nat} (hok : okl L → oks st → okl L' ∧ oks st')
    (hw : ∀ {p : Program} {e : Env} {R : Room} {s : State} {m : MethodId} {args : Array Value} {below : List Frame} {meth : Method} {c : Code} {Q : State → Prop} {H : Heap} {locs : List Loc} {ls : Array Slot} {cells slots : Nat}, m_C E d own nm cc nL p R s m args meth c → lv_has ls nL (c_L E L) →
      (∀ ls' : Array Slot, lv_has ls' nL (c_L E L') → W p l e R s m args below meth c H locs cells slots Q (F0 m pc' ls' (c_S E st'))) → W p l e R s m args below meth c H locs cells slots Q (F0 m pc ls (c_S E st)))
    (k : AA E l d z own nm cc nL ret pc' L' st' μ ρ) : AA E l d z own nm cc nL ret pc L st μ ρ := by
  intro hl hs hm
  obtain ⟨k1, k2⟩ := k (hok hl hs).1 (hok hl hs).2 hm
  refine ⟨k1, fun p e R s m args below meth c Q H locs ls hC h1 h2 h3 h4 hR hF hv hr => ?_⟩
  exact hw hC hv (fun ls' hv' => k2 p e R s m args below meth c Q H locs ls' hC h1 h2 h3 h4 hR hF hv' hr)
/-- fewer locals, by their places -/
theorem a_sub (ks : List Nat) (hl : ks.filterMap (fun j => L[j]?) = L') (k : AA E l d z own nm cc nL ret pc L' st μ ρ) : AA E l d z own nm cc nL ret pc L st μ ρ := by
  have hm : ∀ q ∈ L', q ∈ L := fun q hq => by
    rw [← hl] at hq
    obtain ⟨j, -, hj⟩ := List.mem_filterMap.mp hq
    exact List.mem_of_getElem? hj
  refine aa_L (fun h1 h2 => ⟨fun q hq => h1 q (hm q hq), h2⟩) (fun hC hv w => w _ ?_) k
  refine ⟨hv.1, hv.2.1, fun q hq => hv.2.2 q ?_⟩
  obtain ⟨x, hx, rfl⟩ := List.mem_map.mp hq
  exact List.mem_map.mpr ⟨x, hm x hx, rfl⟩
theorem a_istore_n {f : Fin 4} {i : Nat} {x : Int} (hd : decode cc pc = .ok (.istore_n f, 1)) (hi : (f : Nat) = i) (hn : i < nL) (hl : a_set1 i (vi x) L = L') (k : AA E l d z own nm cc nL ret (pc + 1) L' st μ ρ) : AA E l d z own nm cc nL ret pc L (vi x :: st) μ ρ :=
  aa_L (fun h1 h2 => ⟨by rw [← hl]; exact okl_set1 h1 h2.h, h2.t⟩) (fun hC hv w => lv_istore_n hC.1 hC.2.1 hd hi hv hn (by rw [← hl, c_L_set1]; rfl) w) k
theorem a_istore {i : Nat} {x : Int} (hd : decode cc pc = .ok (.istore i, 2)) (hn : i < nL) (hl : a_set1 i (vi x) L = L') (k : AA E l d z own nm cc nL ret (pc + 2) L' st μ ρ) : AA E l d z own nm cc nL ret pc L (vi x :: st) μ ρ :=
  aa_L (fun h1 h2 => ⟨by rw [← hl]; exact okl_set1 h1 h2.h, h2.t⟩) (fun hC hv w => lv_istore hC.1 hC.2.1 hd hv hn (by rw [← hl, c_L_set1]; rfl) w) k
theorem a_lstore_n {f : Fin 4} {i : Nat} {x : Int} (hd : decode cc pc = .ok (.lstore_n f, 1)) (hi : (f : Nat) = i) (hn : i + 1 < nL) (hl : a_set2 i (vl x) L = L') (k : AA E l d z own nm cc nL ret (pc + 1) L' st μ ρ) : AA E l d z own nm cc nL ret pc L (vl x :: st) μ ρ :=
  aa_L (fun h1 h2 => ⟨by rw [← hl]; exact okl_set2 h1 h2.h, h2.t⟩) (fun hC hv w => lv_lstore_n hC.1 hC.2.1 hd hi hv hn (by rw [← hl, c_L_set2]; rfl) w) k
theorem a_lstore {i : Nat} {x : Int} (hd : decode cc pc = .ok (.lstore i, 2)) (hn : i + 1 < nL) (hl : a_set2 i (vl x) L = L') (k : AA E l d z own nm cc nL ret (pc + 2) L' st μ ρ) : AA E l d z own nm cc nL ret pc L (vl x :: st) μ ρ :=
  aa_L (fun h1 h2 => ⟨by rw [← hl]; exact okl_set2 h1 h2.h, h2.t⟩) (fun hC hv w => lv_lstore hC.1 hC.2.1 hd hv hn (by rw [← hl, c_L_set2]; rfl) w) k
theorem a_astore_n {f : Fin 4} {i : Nat} {x : Int} (hd : decode cc pc = .ok (.astore_n f, 1)) (hi : (f : Nat) = i) (hn : i < nL) (hl : a_set1 i (vr x) L = L') (k : AA E l d z own nm cc nL ret (pc + 1) L' st μ ρ) : AA E l d z own nm cc nL ret pc L (vr x :: st) μ ρ :=
  aa_L (fun h1 h2 => ⟨by rw [← hl]; exact okl_set1 h1 trivial, h2.t⟩) (fun hC hv w => by
    rw [← hl] at w
    rw [c_L_set1] at w
    have e : c_v E (vr x) = c_rf E x := rfl
    rw [c_S_c]
    rw [e] at w ⊢
    rcases c_rf_o E x with e2 | ⟨a, e2⟩
    · rw [e2] at w ⊢
      exact lv_astore_nN hC.1 hC.2.1 hd hi hv hn rfl w
    · rw [e2] at w ⊢
      exact lv_astore_n hC.1 hC.2.1 hd hi hv hn rfl w) k
theorem a_iinc {i : Nat} {x n : Int} {f : Int → Option τ} {F : Int → List (Nat × AV)} (j : Nat) (hd : decode cc pc = .ok (.iinc i n, 3)) (hk : L[j]? = some (i, vi x)) (hn : i < nL) (h : bnd (i_add x n) f = some t) (hl : ∀ y, a_set1 i (vi y) L = F y) (k : ∀ y, f y = some t → AA E l d z own nm cc nL ret (pc + 3) (F y) st μ ρ) : AA E l d z own nm cc nL ret pc L st μ ρ := by
  refine aa_L (L' := F (i_add x n)) (fun h1 h2 => ⟨by rw [← hl]; exact okl_set1 h1 (okI_t _), h2⟩) (fun hC hv w => ?_) (k _ h)
  refine lv_iinc (v := Int32.ofInt x + Int32.ofInt n) hC.1 hC.2.1 hd hv (k := j) (by simp [c_L, hk]; rfl) rfl hn rfl (fun ls' h' => w ls' ?_)
  rw [← hl, c_L_set1, i_add, c_it]
  exact h'
-- switches
theorem a_cs {x v : Int} {A B : Option τ} {G : Prop} (h : (if x = v then A else B) = some t) (kt : x = v → A = some t → G) (kf : ¬ x = v → B = some t → G) : G := by
  by_cases q : x = v
  · rw [if_pos q] at h; exact kt q h
  · rw [if_neg q] at h; exact kf q h
theorem a_tsI {x off dflt lo hi : Int} {offs : Array Int} {len tgt : Nat} (hd : decode cc pc = .ok (.tableswitch dflt lo hi offs, len)) (h1 : lo ≤ x) (h2 : x ≤ hi) (ho : offs[(x - lo).toNat]? = some off) (ht : (pc : Int) + off = (tgt : Int)) (k : AA E l d z own nm cc nL ret tgt L st μ ρ) : AA E l d z own nm cc nL ret pc L (vi x :: st) μ ρ :=
  aa_s (fun _ hs _ => hs.t) (fun _ hs _ hC _ _ _ w => lv_tableIn hC.1 hC.2.1 hd (by rw [toI hs.i]; omega) (by rw [toI hs.i]; omega) (by rw [toI hs.i]; exact ho) ht w) k
theorem a_tsO {x dflt lo hi : Int} {offs : Array Int} {len tgt : Nat} (hd : decode cc pc = .ok (.tableswitch dflt lo hi offs, len)) (h1 : x < lo ∨ hi < x) (ht : (pc : Int) + dflt = (tgt : Int)) (k : AA E l d z own nm cc nL ret tgt L st μ ρ) : AA E l d z own nm cc nL ret pc L (vi x :: st) μ ρ :=
  aa_s (fun _ hs _ => hs.t) (fun _ hs _ hC _ _ _ w => lv_tableOut hC.1 hC.2.1 hd (by rw [toI hs.i]; exact h1) ht w) k
-- fields
theorem m_chk_k {β : Type} {c : Nat} {r : Int} {f : Option β} {t : β} {G : Prop} (h : m_chk c μ r f = some t) (k : m_kd μ r = (c, 0) → f = some t → G) : G := by
  unfold m_chk at h
  by_cases q : m_kd μ r = (c, 0)
  · rw [if_pos q] at h; exact k q h
  · rw [if_neg q] at h; cases h
theorem okM.f {c i : Nat} {k : Nat} (h : okM μ) (hk : m_kd μ k = (c, 0)) (hc : c < 9) (hi : i < f_n c) (hl : k < m_sz μ) : okt (f_ty c i) (m_gt μ k i) := by
  have h2 := (h.2 k hl).2 i
  rw [hk] at h2
  simp only [s_n, s_ty, hc, if_true] at h2
  exact h2 hi
theorem okt_v {ty : FieldType} {x : Int} (h : okt ty x) (h1 : f_rf ty = false) (h2 : ty ≠ .long) : okI x := by
  cases ty <;> simp_all [okt, okI, f_rf] <;> omega
theorem a_getf {c i index : Nat} {r : Int} {V : AV} (hd : decode cc pc = .ok (.getfield index, 3)) (hw : Cond.fieldLink own index (cn c) (fT c i).2.1 (fT c i).2.2.1 ∈ m_tb) (hc : c < 9) (hi : i < f_n c) (hk : m_kd μ r = (c, 0))
    (hV2 : c_v E V = c_t E (f_ty c i) (m_gt μ r i)) (hV3 : okt (f_ty c i) (m_gt μ r i) → okv V) (k : AA E l d z own nm cc nL ret (pc + 3) L (V :: st) μ ρ) : AA E l d z own nm cc nL ret pc L (vr r :: st) μ ρ := by
  intro hl hs hm
  obtain ⟨k', rfl, hlt⟩ := hm.lt hk (by omega)
  have hf := hm.f hk hc hi hlt
  refine aa_s (fun _ hs _ => oks.c (hV3 hf) hs.t) (fun _ hs hm hC hR _ _ w => ?_) k hl hs hm
  obtain ⟨hx, hb, -, hown, hts, -, -, -, hK⟩ := hC
  rw [c_S_c]
  show W _ _ _ _ _ _ _ _ _ _ _ _ _ _ _ (F0 _ pc _ (c_rf E (k' : Int) :: c_S E st))
  rw [c_rf_n]
  exact va_get (D := E.2.1) (ci := c) (v := c_v E V) hx hb hts (kc_in hc) hown hK.1 (hR.one hlt) 0 (fs := c_fs E μ c k') (by rw [c_cell_o hk hc]; rfl) (kc_at hc) i hi (hts _ hw) (fun _ h => by rw [← kc_own hc i hi]; exact h) (by rw [hV2]; exact c_fs_at hi) hd w
end AAU
