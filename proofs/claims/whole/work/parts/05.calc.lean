/-! ===== the calculus: AA, a method's body from a place on; TT, a whole method ===== -/
def m_rt (r : Option AV) : Instr := match r with
  | none => .return_
  | some (.inl _) => .ireturn
  | some (.inr _) => .lreturn
def m_C (E : m_E) (d : Nat) (own nm : String) (cc : ByteArray) (nL : Nat) (p : Program) (R : Room) (s : State) (m : MethodId) (args : Array Value) (meth : Method) (c : Code) : Prop :=
  p.tables.exec = Jvm.exec ∧ c.code = cc ∧ c.maxLocals = nL ∧ s.vm.findClass own = some m.cls ∧ (∀ w ∈ m_tb, w.before args s = true) ∧ meth.name = nm ∧ d ≤ R.frames ∧ 40 * d ≤ R.locals ∧ m_K E s
def AA (E : m_E) (l : Launch) (d : Nat) (z : Nat × Nat) (own nm : String) (cc : ByteArray) (nL : Nat) (ret : Option FieldType) (pc : Nat) (L : List (Nat × AV)) (st : List AV) (μ : Mm) (ρ : Option AV × Mm) : Prop :=
  okl L → oks st → okM μ → (m_mono μ ρ.2 ∧ okr ret ρ.1 ∧ okM ρ.2) ∧
  ∀ (p : Program) (e : Env) (R : Room) (s : State) (m : MethodId) (args : Array Value) (below : List Frame) (meth : Method) (c : Code) (Q : State → Prop) (H : Heap) (locs : List Loc) (ls : Array Slot),
    m_C E d own nm cc nL p R s m args meth c → m_sz ρ.2 - z.1 ≤ R.cells → m_sl ρ.2 - z.2 ≤ R.slots → z.1 ≤ m_sz μ → z.2 ≤ m_sl μ →
    m_R E μ H → m_F E s H locs → lv_has ls nL (c_L E L) →
    (∀ (pc' : Nat) (ls' : Array Slot) (H' : Heap) (locs' : List Loc), decode cc pc' = .ok (m_rt ρ.1, 1) → m_R E ρ.2 H' → m_F E s H' locs' →
      W p l e R s m args below meth c H' locs' (m_sz ρ.2 - z.1) (m_sl ρ.2 - z.2) Q (F0 m pc' ls' (ρ.1.toList.map (c_v E)))) →
    W p l e R s m args below meth c H locs (m_sz μ - z.1) (m_sl μ - z.2) Q (F0 m pc ls (c_S E st))
section AAS
variable {E : m_E} {l : Launch} {d : Nat} {z : Nat × Nat} {own nm : String} {cc : ByteArray} {nL : Nat} {ret : Option FieldType} {pc : Nat} {L L' : List (Nat × AV)} {st st' : List AV} {μ : Mm} {ρ : Option AV × Mm}
/-- a step that leaves memory and locals -/
theorem aa_s {pc' : Nat} (hok : okl L → oks st → okM μ → oks st')
    (hw : ∀ {p : Program} {e : Env} {R : Room} {s : State} {m : MethodId} {args : Array Value} {below : List Frame} {meth : Method} {c : Code} {Q : State → Prop} {H : Heap} {locs : List Loc} {ls : Array Slot} {cells slots : Nat}, okl L → oks st → okM μ → m_C E d own nm cc nL p R s m args meth c → m_R E μ H → m_F E s H locs → lv_has ls nL (c_L E L) →
      W p l e R s m args below meth c H locs cells slots Q (F0 m pc' ls (c_S E st')) → W p l e R s m args below meth c H locs cells slots Q (F0 m pc ls (c_S E st)))
    (k : AA E l d z own nm cc nL ret pc' L st' μ ρ) : AA E l d z own nm cc nL ret pc L st μ ρ := by
  intro hl hs hm
  obtain ⟨k1, k2⟩ := k hl (hok hl hs hm) hm
  refine ⟨k1, fun p e R s m args below meth c Q H locs ls hC h1 h2 h3 h4 hR hF hv hr => ?_⟩
  exact hw hl hs hm hC hR hF hv (k2 p e R s m args below meth c Q H locs ls hC h1 h2 h3 h4 hR hF hv hr)
theorem oks.c {v : AV} {st : List AV} (h : okv v) (hs : oks st) : oks (v :: st) := fun w hw => by
  rcases List.mem_cons.mp hw with rfl | hw
  · exact h
  · exact hs w hw
theorem oks.t {v : AV} {st : List AV} (h : oks (v :: st)) : oks st := fun w hw => h w (List.mem_cons_of_mem _ hw)
theorem oks.h {v : AV} {st : List AV} (h : oks (v :: st)) : okv v := h v List.mem_cons_self
theorem oks.i {x : Int} {st : List AV} (h : oks (vi x :: st)) : okI x := h.h
theorem oks.j {x : Int} {st : List AV} (h : oks (vl x :: st)) : okJ x := h.h
theorem okl.at {L : List (Nat × AV)} {k i : Nat} {v : AV} (h : okl L) (hk : L[k]? = some (i, v)) : okv v := h (i, v) (List.mem_of_getElem? hk)
theorem c_S_c (E : m_E) (v : AV) (st : List AV) : c_S E (v :: st) = c_v E v :: c_S E st := rfl
theorem c_it (E : m_E) (a : Int32) : c_v E (vi a.toInt) = .int a := by show Value.int (Int32.ofInt a.toInt) = _; rw [Int32.ofInt_toInt]
theorem c_lt (E : m_E) (a : Int64) : c_v E (vl a.toInt) = .long a := by show Value.long (Int64.ofInt a.toInt) = _; rw [Int64.ofInt_toInt]
theorem c_i (E : m_E) (x : Int) : c_v E (vi x) = .int (Int32.ofInt x) := rfl
theorem c_l (E : m_E) (x : Int) : c_v E (vl x) = .long (Int64.ofInt x) := rfl
theorem lv_c {ls : Array Slot} {k i : Nat} {v : AV} (h : lv_has ls nL (c_L E L)) (hk : L[k]? = some (i, v)) : ls[i]? = some (.val (c_v E v)) :=
  lv_at h k (by simp [c_L, hk])
-- constants
theorem a_iconst {n : Int} (hd : decode cc pc = .ok (.iconst n, 1)) (hn : okI n) (k : AA E l d z own nm cc nL ret (pc + 1) L (vi n :: st) μ ρ) : AA E l d z own nm cc nL ret pc L st μ ρ :=
  aa_s (fun _ hs _ => oks.c (v := vi n) hn hs) (fun _ hs _ hC _ _ _ w => lv_iconst hC.1 hC.2.1 hd rfl w) k
theorem a_bipush {n : Int} (hd : decode cc pc = .ok (.bipush n, 2)) (hn : (Int8.ofInt n).toInt32 = Int32.ofInt n ∧ okI n) (k : AA E l d z own nm cc nL ret (pc + 2) L (vi n :: st) μ ρ) : AA E l d z own nm cc nL ret pc L st μ ρ :=
  aa_s (fun _ hs _ => oks.c (v := vi n) hn.2 hs) (fun _ hs _ hC _ _ _ w => lv_bipush hC.1 hC.2.1 hd hn.1 w) k
theorem a_sipush {n : Int} (hd : decode cc pc = .ok (.sipush n, 3)) (hn : (Int16.ofInt n).toInt32 = Int32.ofInt n ∧ okI n) (k : AA E l d z own nm cc nL ret (pc + 3) L (vi n :: st) μ ρ) : AA E l d z own nm cc nL ret pc L st μ ρ :=
  aa_s (fun _ hs _ => oks.c (v := vi n) hn.2 hs) (fun _ hs _ hC _ _ _ w => lv_sipush hC.1 hC.2.1 hd hn.1 w) k
theorem a_lconst {n : Fin 2} {v : Int} (hd : decode cc pc = .ok (.lconst n, 1)) (hn : Int64.ofNat (n : Nat) = Int64.ofInt v ∧ okJ v) (k : AA E l d z own nm cc nL ret (pc + 1) L (vl v :: st) μ ρ) : AA E l d z own nm cc nL ret pc L st μ ρ :=
  aa_s (fun _ hs _ => oks.c (v := vl v) hn.2 hs) (fun _ hs _ hC _ _ _ w => lv_lconst hC.1 hC.2.1 hd hn.1 w) k
theorem a_ldc {v : Int32} {x : Int} {index : Nat} (hd : decode cc pc = .ok (.ldc index, 2)) (hw : Cond.constant own index v ∈ m_tb) (hn : v = Int32.ofInt x ∧ okI x) (k : AA E l d z own nm cc nL ret (pc + 2) L (vi x :: st) μ ρ) : AA E l d z own nm cc nL ret pc L st μ ρ :=
  aa_s (fun _ hs _ => oks.c (v := vi x) hn.2 hs) (fun _ hs _ hC _ _ _ w => lv_ldc hC.1 hC.2.1 hC.2.2.2.1 (hC.2.2.2.2.1 _ hw) hd (by rw [hn.1]; exact w)) k
theorem a_ldc2 {v : Int64} {x : Int} {index : Nat} (hd : decode cc pc = .ok (.ldc2_w index, 3)) (hw : Cond.constantLong own index v ∈ m_tb) (hn : v = Int64.ofInt x ∧ okJ x) (k : AA E l d z own nm cc nL ret (pc + 3) L (vl x :: st) μ ρ) : AA E l d z own nm cc nL ret pc L st μ ρ :=
  aa_s (fun _ hs _ => oks.c (v := vl x) hn.2 hs) (fun _ hs _ hC _ _ _ w => lv_ldc2 hC.1 hC.2.1 hC.2.2.2.1 (hC.2.2.2.2.1 _ hw) hd (by rw [hn.1]; exact w)) k
-- loads
theorem a_iload_n {f : Fin 4} {i x : _} (j : Nat) (hd : decode cc pc = .ok (.iload_n f, 1)) (hi : (f : Nat) = i) (hk : L[j]? = some (i, vi x)) (k : AA E l d z own nm cc nL ret (pc + 1) L (vi x :: st) μ ρ) : AA E l d z own nm cc nL ret pc L st μ ρ :=
  aa_s (fun hl hs _ => oks.c (hl.at hk) hs) (fun _ hs _ hC _ _ hv w => lv_iload_n hC.1 hC.2.1 hd hi (lv_c hv hk) w) k
theorem a_iload {i x : _} (j : Nat) (hd : decode cc pc = .ok (.iload i, 2)) (hk : L[j]? = some (i, vi x)) (k : AA E l d z own nm cc nL ret (pc + 2) L (vi x :: st) μ ρ) : AA E l d z own nm cc nL ret pc L st μ ρ :=
  aa_s (fun hl hs _ => oks.c (hl.at hk) hs) (fun _ hs _ hC _ _ hv w => lv_iload hC.1 hC.2.1 hd (lv_c hv hk) w) k
theorem a_lload_n {f : Fin 4} {i x : _} (j : Nat) (hd : decode cc pc = .ok (.lload_n f, 1)) (hi : (f : Nat) = i) (hk : L[j]? = some (i, vl x)) (k : AA E l d z own nm cc nL ret (pc + 1) L (vl x :: st) μ ρ) : AA E l d z own nm cc nL ret pc L st μ ρ :=
  aa_s (fun hl hs _ => oks.c (hl.at hk) hs) (fun _ hs _ hC _ _ hv w => lv_lload_n hC.1 hC.2.1 hd hi (lv_c hv hk) w) k
theorem a_lload {i x : _} (j : Nat) (hd : decode cc pc = .ok (.lload i, 2)) (hk : L[j]? = some (i, vl x)) (k : AA E l d z own nm cc nL ret (pc + 2) L (vl x :: st) μ ρ) : AA E l d z own nm cc nL ret pc L st μ ρ :=
  aa_s (fun hl hs _ => oks.c (hl.at hk) hs) (fun _ hs _ hC _ _ hv w => lv_lload hC.1 hC.2.1 hd (lv_c hv hk) w) k
theorem c_rf_o (E : m_E) (x : Int) : c_rf E x = .null ∨ ∃ a, c_rf E x = .ref a := by
  unfold c_rf
  split
  · exact Or.inl rfl
  · split
    · exact Or.inr ⟨_, rfl⟩
    · exact Or.inr ⟨_, rfl⟩
theorem a_aload_n {f : Fin 4} {i x : _} (j : Nat) (hd : decode cc pc = .ok (.aload_n f, 1)) (hi : (f : Nat) = i) (hk : L[j]? = some (i, vr x)) (k : AA E l d z own nm cc nL ret (pc + 1) L (vr x :: st) μ ρ) : AA E l d z own nm cc nL ret pc L st μ ρ :=
  aa_s (fun _ hs _ => oks.c (v := vr x) trivial hs) (fun _ hs _ hC _ _ hv w => by
    have h1 := lv_c hv hk
    have e : c_v E (vr x) = c_rf E x := rfl
    rw [c_S_c] at w
    rw [e] at h1 w
    rcases c_rf_o E x with e2 | ⟨a, e2⟩
    · rw [e2] at h1 w
      exact lv_aload_nN hC.1 hC.2.1 hd hi h1 w
    · rw [e2] at h1 w
      exact lv_aload_n hC.1 hC.2.1 hd hi h1 w) k
-- stack
theorem c_cat1 (E : m_E) (v : AV) (h : (match v with | .inr (.inl _) => false | _ => true) = true) : (c_v E v).category = 1 := by
  rcases v with x | x | x
  · rfl
  · cases h
  · rcases c_rf_o E x with e2 | ⟨a, e2⟩
    · show (c_rf E x).category = 1; rw [e2]; rfl
    · show (c_rf E x).category = 1; rw [e2]; rfl
theorem a_dup {v : AV} (hd : decode cc pc = .ok (.dup, 1)) (hc : (match v with | .inr (.inl _) => false | _ => true) = true) (k : AA E l d z own nm cc nL ret (pc + 1) L (v :: v :: st) μ ρ) : AA E l d z own nm cc nL ret pc L (v :: st) μ ρ :=
  aa_s (fun _ hs _ => oks.c hs.h hs) (fun _ hs _ hC _ _ _ w => lv_dup hC.1 hC.2.1 hd (c_cat1 E v hc) w) k
theorem a_pop {v : AV} (hd : decode cc pc = .ok (.pop, 1)) (hc : (match v with | .inr (.inl _) => false | _ => true) = true) (k : AA E l d z own nm cc nL ret (pc + 1) L st μ ρ) : AA E l d z own nm cc nL ret pc L (v :: st) μ ρ :=
  aa_s (fun _ hs _ => hs.t) (fun _ hs _ hC _ _ _ w => lv_pop hC.1 hC.2.1 hd (c_cat1 E v hc) w) k
theorem a_dup2 {v w : AV} (hd : decode cc pc = .ok (.dup2, 1)) (hc : (match v with | .inr (.inl _) => false | _ => true) = true) (hc2 : (match w with | .inr (.inl _) => false | _ => true) = true) (k : AA E l d z own nm cc nL ret (pc + 1) L (v :: w :: v :: w :: st) μ ρ) : AA E l d z own nm cc nL ret pc L (v :: w :: st) μ ρ :=
  aa_s (fun _ hs _ => oks.c hs.h (oks.c hs.t.h hs)) (fun _ hs _ hC _ _ _ w' => lv_dup2_11 hC.1 hC.2.1 hd (c_cat1 E v hc) (c_cat1 E w hc2) w') k
-- arithmetic
theorem a_iadd {x y : Int} (hd : decode cc pc = .ok (.iadd, 1)) (k : AA E l d z own nm cc nL ret (pc + 1) L (vi (i_add x y) :: st) μ ρ) : AA E l d z own nm cc nL ret pc L (vi y :: vi x :: st) μ ρ :=
  aa_s (fun _ hs _ => oks.c (v := vi (i_add x y)) (okI_t _) hs.t.t) (fun _ hs _ hC _ _ _ w => lv_iadd hC.1 hC.2.1 hd (by rw [c_S_c, i_add, c_it] at w; exact w)) k
theorem a_isub {x y : Int} (hd : decode cc pc = .ok (.isub, 1)) (k : AA E l d z own nm cc nL ret (pc + 1) L (vi (i_sub x y) :: st) μ ρ) : AA E l d z own nm cc nL ret pc L (vi y :: vi x :: st) μ ρ :=
  aa_s (fun _ hs _ => oks.c (v := vi (i_sub x y)) (okI_t _) hs.t.t) (fun _ hs _ hC _ _ _ w => lv_isub hC.1 hC.2.1 hd (by rw [c_S_c, i_sub, c_it] at w; exact w)) k
theorem a_imul {x y : Int} (hd : decode cc pc = .ok (.imul, 1)) (k : AA E l d z own nm cc nL ret (pc + 1) L (vi (i_mul x y) :: st) μ ρ) : AA E l d z own nm cc nL ret pc L (vi y :: vi x :: st) μ ρ :=
  aa_s (fun _ hs _ => oks.c (v := vi (i_mul x y)) (okI_t _) hs.t.t) (fun _ hs _ hC _ _ _ w => lv_imul hC.1 hC.2.1 hd (by rw [c_S_c, i_mul, c_it] at w; exact w)) k
theorem a_iand {x y : Int} (hd : decode cc pc = .ok (.iand, 1)) (k : AA E l d z own nm cc nL ret (pc + 1) L (vi (i_and x y) :: st) μ ρ) : AA E l d z own nm cc nL ret pc L (vi y :: vi x :: st) μ ρ :=
  aa_s (fun _ hs _ => oks.c (v := vi (i_and x y)) (okI_t _) hs.t.t) (fun _ hs _ hC _ _ _ w => lv_iand hC.1 hC.2.1 hd (by rw [c_S_c, i_and, c_it] at w; exact w)) k
theorem a_ior {x y : Int} (hd : decode cc pc = .ok (.ior, 1)) (k : AA E l d z own nm cc nL ret (pc + 1) L (vi (i_or x y) :: st) μ ρ) : AA E l d z own nm cc nL ret pc L (vi y :: vi x :: st) μ ρ :=
  aa_s (fun _ hs _ => oks.c (v := vi (i_or x y)) (okI_t _) hs.t.t) (fun _ hs _ hC _ _ _ w => lv_ior hC.1 hC.2.1 hd (by rw [c_S_c, i_or, c_it] at w; exact w)) k
theorem a_ixor {x y : Int} (hd : decode cc pc = .ok (.ixor, 1)) (k : AA E l d z own nm cc nL ret (pc + 1) L (vi (i_xor x y) :: st) μ ρ) : AA E l d z own nm cc nL ret pc L (vi y :: vi x :: st) μ ρ :=
  aa_s (fun _ hs _ => oks.c (v := vi (i_xor x y)) (okI_t _) hs.t.t) (fun _ hs _ hC _ _ _ w => lv_ixor hC.1 hC.2.1 hd (by rw [c_S_c, i_xor, c_it] at w; exact w)) k
theorem a_ishl {x y : Int} (hd : decode cc pc = .ok (.ishl, 1)) (k : AA E l d z own nm cc nL ret (pc + 1) L (vi (i_shl x y) :: st) μ ρ) : AA E l d z own nm cc nL ret pc L (vi y :: vi x :: st) μ ρ :=
  aa_s (fun _ hs _ => oks.c (v := vi (i_shl x y)) (okI_t _) hs.t.t) (fun _ hs _ hC _ _ _ w => lv_ishl hC.1 hC.2.1 hd (by rw [c_S_c, i_shl, c_it] at w; exact w)) k
theorem a_ishr {x y : Int} (hd : decode cc pc = .ok (.ishr, 1)) (k : AA E l d z own nm cc nL ret (pc + 1) L (vi (i_shr x y) :: st) μ ρ) : AA E l d z own nm cc nL ret pc L (vi y :: vi x :: st) μ ρ :=
  aa_s (fun _ hs _ => oks.c (v := vi (i_shr x y)) (okI_t _) hs.t.t) (fun _ hs _ hC _ _ _ w => lv_ishr hC.1 hC.2.1 hd (by rw [c_S_c, i_shr, c_it] at w; exact w)) k
end AAS
