/-! ===== the calculus, 6: whole methods and calls ===== -/
def m_ws (y : MethodName) (bytes : ByteArray) (nL : Nat) (ret : Option FieldType) : List Cond := Cond.code y bytes nL ret :: m_tb
def m_rm (d mc ms : Nat) : Room := { frames := d, cells := mc, slots := ms, locals := 40 * d }
def m_Pc (E : m_E) (as : List AV) (μ : Mm) : Array Value → State → Prop := fun a U => a = (as.map (c_v E)).toArray ∧ m_R E μ U.heap ∧ m_K E U
def m_Qc (E : m_E) (ρ : Option AV × Mm) : Array Value → State → Outcome → State → Prop := fun _ st o t => o = .returned (ρ.1.map (c_v E)) ∧ m_R E ρ.2 t.heap ∧ st.heap.size ≤ t.heap.size ∧ ∀ q : Nat, q < E.1.1 → t.heap[q]? = st.heap[q]?
def TT (E : m_E) (l : Launch) (d : Nat) (y : MethodName) (bytes : ByteArray) (nL : Nat) (ret : Option FieldType) (as : List AV) (μ : Mm) (ρ : Option AV × Mm) : Prop :=
  oks as → okM μ → (m_mono μ ρ.2 ∧ okr ret ρ.1 ∧ okM ρ.2) ∧ Met l y (m_ws y bytes nL ret) (m_rm d (m_sz ρ.2 - m_sz μ) (m_sl ρ.2 - m_sl μ)) (m_Pc E as μ) (m_Qc E ρ) (m_sz ρ.2 - m_sz μ) (m_sl ρ.2 - m_sl μ) (fun q => E.1.1 ≤ q)
def a_args : Nat → List AV → List (Nat × AV)
  | _, [] => []
  | i, v :: vs => (i, v) :: a_args (if isl v then i + 2 else i + 1) vs
def a_wd (as : List AV) : Nat := (as.map fun v => if isl v then 2 else 1).sum
theorem a_args_c (E : m_E) (as : List AV) : ∀ i, lv_args i (as.map (c_v E)) = c_L E (a_args i as) := by
  induction as with
  | nil => intro i; rfl
  | cons v vs ih =>
    intro i
    have hc : ((c_v E v).category = 2) ↔ isl v = true := by rw [← c_cat E v]; simp
    show (i, c_v E v) :: lv_args (if (c_v E v).category = 2 then i + 2 else i + 1) (vs.map (c_v E)) = (i, c_v E v) :: c_L E (a_args (if isl v then i + 2 else i + 1) vs)
    by_cases q : isl v = true
    · rw [if_pos (hc.mpr q), if_pos q, ih]
    · rw [if_neg (fun z => q (hc.mp z)), if_neg q, ih]
theorem a_wd_c (E : m_E) (as : List AV) : (lg_sl (as.map (c_v E))).length = a_wd as := by
  induction as with
  | nil => rfl
  | cons v vs ih =>
    have hc : ((c_v E v).category = 2) ↔ isl v = true := by rw [← c_cat E v]; simp
    unfold lg_sl a_wd at ih ⊢
    simp only [List.map_cons, List.flatMap_cons, List.length_append, List.sum_cons, ih]
    by_cases q : isl v = true
    · rw [if_pos (hc.mpr q), if_pos q]; rfl
    · rw [if_neg (fun z => q (hc.mp z)), if_neg q]; rfl
/-- as Met.ofW, for a method in whose place no entry runs -/
theorem m_ofW {l : Launch} {y : MethodName} {ws ws' : List Cond} {rm : Room} {Pc : Array Value → State → Prop} {Qc : Array Value → State → Outcome → State → Prop} {mc ms : Nat} {free : Addr → Prop} {cc : ByteArray} {maxL : Nat} {ret : Option FieldType}
    (hy : plainFor y = true) (hw : ws = Cond.code y cc maxL ret :: ws')
    (body : ∀ p e s m args below meth c s₁, BodyLoose p l y (headSpec ws rm) cc maxL ret e s m args below meth c s₁ → c.maxLocals = maxL → Pc args s →
      W p l e (headSpec ws rm).room s m args below meth c s.heap [] 0 0 (MQ below Qc args s mc ms free) (entryFrame m args maxL)) : Met l y ws rm Pc Qc mc ms free := by
  refine MetFree.of_bodySF (code := cc) (maxLocals := maxL) (ret := ret) hy ?_ ?_
  · intro args s m h hn
    obtain ⟨meth, c, h1, h2, h3, h4, h5, h6, -, -⟩ := Cond.code_spec hn (atoms_spec (ws := ws) h _ (by rw [hw]; exact List.mem_cons_self))
    exact ⟨meth, c, h1, h2, h3, h4, h5, h6⟩
  · intro p e s m args below meth c s₁ B hml hP _
    have hh0 : s₁.heap = s.heap := by rw [B.state]; rfl
    obtain ⟨t, a1, o, b1, b2, b3⟩ := body p e s m args below meth c s₁ B hml hP s₁ hh0 (Stand.of_body B)
    exact ⟨t, o, a1, b1, b2, ⟨b3.1, b3.2⟩⟩
theorem okr_ret {E : m_E} {ret : Option FieldType} {r : Option AV} (h : okr ret r) : True := trivial
theorem tt_of {E : m_E} {l : Launch} {d : Nat} {y : MethodName} {bytes : ByteArray} {nL : Nat} {ret : Option FieldType} {as : List AV} {L : List (Nat × AV)} {μ : Mm} {ρ : Option AV × Mm} (hy : plainFor y = true) (hn : a_wd as ≤ nL) (hL : a_args 0 as = L) (h : AA E l d (m_sz μ, m_sl μ) y.cls y.name bytes nL ret 0 L [] μ ρ) : TT E l d y bytes nL ret as μ ρ := by
  intro hs hm
  have hl : okl L := by
    rw [← hL]
    have : ∀ (as : List AV) (i : Nat), oks as → okl (a_args i as) := by
      intro as
      induction as with
      | nil => intro i _ q hq; cases hq
      | cons v vs ih =>
        intro i hs q hq
        rcases List.mem_cons.mp hq with rfl | hq
        · exact hs.h
        · exact ih _ hs.t q hq
    exact this as 0 hs
  obtain ⟨k1, k2⟩ := h hl (fun _ h => by cases h) hm
  refine ⟨k1, m_ofW (cc := bytes) (maxL := nL) (ret := ret) hy rfl ?_⟩
  intro p e s m args below meth c s₁ B hml hv
  obtain ⟨rfl, hR, hK⟩ := hv
  have hts0 := atoms_spec (ws := m_ws y bytes nL ret) B.pre
  have hts : ∀ w ∈ m_tb, w.before _ s = true := fun w h => hts0 w (List.mem_cons_of_mem _ h)
  have hown : s.vm.findClass y.cls = some m.cls := findClass_of_methodNamed B.named
  have hnm : meth.name = y.name := (name_of_methodNamed B.named B.method).1
  have hlocks := B.notSynchronized
  have hle := lv_entry (as.map (c_v E)) (n := nL) (by rw [a_wd_c]; exact hn)
  rw [lg_entry_eq]
  rw [a_args_c, hL] at hle
  have hF : m_F E s s.heap [] := ⟨Nat.le_refl _, fun _ _ => rfl, fun _ h => by cases h⟩
  have kk := k2 p e (headSpec (m_ws y bytes nL ret) (m_rm d (m_sz ρ.2 - m_sz μ) (m_sl ρ.2 - m_sl μ))).room s m _ below meth c (MQ below (m_Qc E ρ) (as.map (c_v E)).toArray s (m_sz ρ.2 - m_sz μ) (m_sl ρ.2 - m_sl μ) (fun q => E.1.1 ≤ q)) s.heap [] _ ⟨B.exec, B.bytes, hml, hown, hts, hnm, Nat.le_refl _, Nat.le_refl _, hK⟩ (Nat.le_refl _) (Nat.le_refl _) (Nat.le_refl _) (Nat.le_refl _) hR hF hle ?_
  · rw [Nat.sub_self, Nat.sub_self] at kk
    exact kk
  · intro pc' ls' H' locs' hd' hR' hF'
    obtain ⟨r, μ'⟩ := ρ
    have hq : ∀ t : State, t.heap = H' → s.WarmedH t.vm → m_Qc E (r, μ') (as.map (c_v E)).toArray s (.returned (r.map (c_v E))) t := fun t ht _ => ⟨rfl, by rw [ht]; exact hR', by rw [ht]; exact hF'.1, fun q hq => by rw [ht]; exact hF'.2.1 q hq⟩
    rcases r with _ | (x | x | x)
    · exact W.vret B.exec B.bytes (B.returns.trans k1.2.1) hq hF'.2.2 hd' hlocks
    · obtain ⟨-, ty, e1, e2⟩ := k1.2.1
      exact W.zret (ty := ty) B.exec B.bytes (B.returns.trans e1) e2 hq hF'.2.2 hd' hlocks
    · exact W.lret B.exec B.bytes (B.returns.trans k1.2.1.1) hq hF'.2.2 hd' hlocks
    · exact k1.2.1.elim
theorem m_good {ws : List Cond} (h : ∀ w ∈ ws, w ∈ m_tb) : GoodIn m_tb ws := fun w hw => ⟨h w hw, good_of_word (List.mem_filter.mp (h w hw)).2⟩
theorem m_blind (E : m_E) (as : List AV) (μ : Mm) : FrameBlind (m_Pc E as μ) := fun a U g mk h => ⟨h.1, h.2.1, m_K.same (s := U) rfl rfl h.2.2⟩
/-- what a method's name, code and words are, once a method -/
def MY (y : MethodName) (bytes : ByteArray) (nL : Nat) (ret : Option FieldType) (n : Nat) : Prop := Cond.code y bytes nL ret ∈ m_tb ∧ Cond.initialized y.cls ∈ m_tb ∧ nL ≤ 21 ∧ (y.cls ≠ "java/lang/invoke/MethodHandle" ∧ y.cls ≠ "java/lang/invoke/VarHandle" ∧ (parseMethodDescriptor y.desc).map (fun d => d.parameters.length) = some n)
section AAX
variable {E : m_E} {l : Launch} {d : Nat} {z : Nat × Nat} {own nm : String} {cc : ByteArray} {nL : Nat} {ret : Option FieldType} {pc : Nat} {L L' : List (Nat × AV)} {st st' : List AV} {μ : Mm} {ρ : Option AV × Mm} {τ : Type} {t : τ}
theorem w_run {p : Program} {e : Env} {R : Room} {s : State} {m : MethodId} {args : Array Value} {below : List Frame} {meth : Method} {c : Code} {H : Heap} {locs : List Loc} {cells slots mc ms : Nat} {Q : State → Prop} {ls : Array Slot} {st0 rest : List Value} {a : Array Value} {ρ1 : Option AV × Mm} (hr : va_Run p l e R s m args below meth c H locs cells slots mc ms (F0 m pc ls st0) rest (m_Qc E ρ1 a) (fun q => E.1.1 ≤ q)) (hF : m_F E s H locs)
    (kk : ∀ (H1 : Heap) (locs1 : List Loc), m_R E ρ1.2 H1 → m_F E s H1 locs1 → W p l e R s m args below meth c H1 locs1 (cells + mc) (slots + ms) Q (F0 m (pc + 3) ls ((ρ1.1.map (c_v E)).toList ++ rest))) : W p l e R s m args below meth c H locs cells slots Q (F0 m pc ls st0) := by
  intro T hT X
  obtain ⟨v, st₀, t, T', L, h0, X', hL, e1, e2, ⟨hv, hR1, hz, hk⟩, st⟩ := hr T hT X
  cases hv
  have hF1 : m_F E s T'.heap (locs ++ L) := by
    refine ⟨by rw [e1]; exact Nat.le_trans hF.1 (by rw [← h0]; exact hz), fun q hq => ?_, fun q hq => ?_⟩
    · rw [e1, hk q hq, h0]
      exact hF.2.1 q hq
    · rcases List.mem_append.mp hq with hq | hq
      · exact hF.2.2 q hq
      · exact hL q hq
  obtain ⟨tg, a1, b1⟩ := kk T'.heap (locs ++ L) (by rw [e1]; exact hR1) hF1 T' rfl X'
  exact ⟨tg, st tg a1, b1⟩
/-- a step that is a call -/
theorem aa_c {y : MethodName} {bytes : ByteArray} {nL' dc : Nat} {ret' : Option FieldType} {as rest : List AV} {ρ1 : Option AV × Mm} (hT : TT E l dc y bytes nL' ret' as μ ρ1) (has : oks st → oks as ∧ oks rest)
    (hw : ∀ {p : Program} {e : Env} {R : Room} {s : State} {m : MethodId} {args : Array Value} {below : List Frame} {meth : Method} {c : Code} {H : Heap} {locs : List Loc} {ls : Array Slot} {cells slots : Nat}, m_C E d own nm cc nL p R s m args meth c → m_R E μ H → m_F E s H locs → lv_has ls nL (c_L E L) → oks st → okM μ → cells + (m_sz ρ1.2 - m_sz μ) ≤ R.cells → slots + (m_sl ρ1.2 - m_sl μ) ≤ R.slots →
      Met l y (m_ws y bytes nL' ret') (m_rm dc (m_sz ρ1.2 - m_sz μ) (m_sl ρ1.2 - m_sl μ)) (m_Pc E as μ) (m_Qc E ρ1) (m_sz ρ1.2 - m_sz μ) (m_sl ρ1.2 - m_sl μ) (fun q => E.1.1 ≤ q) →
      ∃ a, va_Run p l e R s m args below meth c H locs cells slots (m_sz ρ1.2 - m_sz μ) (m_sl ρ1.2 - m_sl μ) (F0 m pc ls (c_S E st)) (c_S E rest) (m_Qc E ρ1 a) (fun q => E.1.1 ≤ q))
    (k : m_mono μ ρ1.2 → AA E l d z own nm cc nL ret (pc + 3) L (ρ1.1.toList ++ rest) ρ1.2 ρ) : AA E l d z own nm cc nL ret pc L st μ ρ := by
  intro hl hs hm
  obtain ⟨⟨t1, t2, t3⟩, hM⟩ := hT (has hs).1 hm
  have hs2 : oks (ρ1.1.toList ++ rest) := fun v hv => by
    rcases List.mem_append.mp hv with hv | hv
    · cases hr : ρ1.1 with
      | none => rw [hr] at hv; cases hv
      | some x =>
        rw [hr] at hv t2
        simp only [Option.toList, List.mem_cons, List.not_mem_nil, or_false] at hv
        subst hv
        rcases v with x | x | x
        · exact t2.1
        · exact t2.2
        · trivial
    · exact (has hs).2 v hv
  obtain ⟨⟨k1, k1', k1''⟩, k2⟩ := k t1 hl hs2 t3
  refine ⟨⟨t1.tr k1, k1', k1''⟩, fun p e R s m args below meth c Q H locs ls hC h1 h2 h3 h4 hR hF hv hr => ?_⟩
  have g1 := t1.1
  have g2 := t1.2.1
  have g3 := k1.1
  have g4 := k1.2.1
  obtain ⟨a, hrun⟩ := hw (cells := m_sz μ - z.1) (slots := m_sl μ - z.2) (below := below) (e := e) (meth := meth) (ls := ls) hC hR hF hv hs hm (by omega) (by omega) hM
  refine w_run hrun hF (fun H1 locs1 hR1 hF1 => ?_)
  have kk := k2 p e R s m args below meth c Q H1 locs1 ls hC h1 h2 (by omega) (by omega) hR1 hF1 hv hr
  rw [show m_sz μ - z.1 + (m_sz ρ1.2 - m_sz μ) = m_sz ρ1.2 - z.1 by omega, show m_sl μ - z.2 + (m_sl ρ1.2 - m_sl μ) = m_sl ρ1.2 - z.2 by omega]
  have e9 : c_S E (ρ1.1.toList ++ rest) = (ρ1.1.map (c_v E)).toList ++ c_S E rest := by
    unfold c_S
    rw [List.map_append]
    cases ρ1.1 <;> rfl
  rw [← e9]
  exact kk
theorem rm_ok {rest : List AV} (h : a_wd rest ≤ 8) {m : MethodId} {ls : Array Slot} {q : List Value} : 2 * (F0 m pc ls q).monitorRoom + ((c_S E rest).map fun v => v.category).sum ≤ 8 := by
  show 2 * 0 + _ ≤ 8
  have : ((c_S E rest).map fun v => v.category).sum = a_wd rest := by
    unfold c_S a_wd
    rw [List.map_map]
    congr 1
    apply List.map_congr_left
    intro v _
    show (c_v E v).category = _
    have hc : ((c_v E v).category = 2) ↔ isl v = true := by rw [← c_cat E v]; simp
    by_cases q : isl v = true
    · rw [if_pos q]; exact hc.mpr q
    · rw [if_neg q]
      rcases lv_cat (c_v E v) with h | h
      · exact h
      · exact absurd (hc.mp h) q
  omega
theorem oks_r {As rest : List AV} {v : AV} (h : oks (As.reverse ++ v :: rest)) : oks (v :: As) ∧ oks rest := by
  refine ⟨fun w hw => ?_, fun w hw => h w (List.mem_append_right _ (List.mem_cons_of_mem _ hw))⟩
  rcases List.mem_cons.mp hw with rfl | hw
  · exact h _ (List.mem_append_right _ List.mem_cons_self)
  · exact h w (List.mem_append_left _ (List.mem_reverse.mpr hw))
theorem oks_r0 {As rest : List AV} (h : oks (As.reverse ++ rest)) : oks As ∧ oks rest :=
  ⟨fun w hw => h w (List.mem_append_left _ (List.mem_reverse.mpr hw)), fun w hw => h w (List.mem_append_right _ hw)⟩
theorem a_cV {y : MethodName} {bytes : ByteArray} {nL' dc c index : Nat} {ret' : Option FieldType} {r : Int} (As rest : List AV) {ρ1 : Option AV × Mm} (hd : decode cc pc = .ok (.invokevirtual index, 3)) (hY : MY y bytes nL' ret' As.length) (hw : Cond.methodLink own index y ∈ m_tb) (hw2 : Cond.instanceMethod y ∈ m_tb ∧ Cond.selects (cn c) y y ∈ m_tb) (hyc : y.cls = cn c) (hc : c < 9) (hk : m_kd μ r = (c, 0)) (hT : TT E l dc y bytes nL' ret' (vr r :: As) μ ρ1) (hdd : dc + 1 ≤ d) (hst : st = As.reverse ++ vr r :: rest) (hrm : a_wd rest ≤ 8) (k : m_mono μ ρ1.2 → AA E l d z own nm cc nL ret (pc + 3) L (ρ1.1.toList ++ rest) ρ1.2 ρ) : AA E l d z own nm cc nL ret pc L st μ ρ := by
  subst hst
  refine aa_c hT oks_r (fun hC hR hF hv hs hm hcl hsl hM => ?_) k
  obtain ⟨k', rfl, hlt⟩ := hm.lt hk (by omega)
  obtain ⟨hx, hb, hml, hown, hts, hnm, hfr, hlo, hK⟩ := hC
  obtain ⟨hY1, hY2, hY3, hY4⟩ := hY
  have hws : ∀ w ∈ wsV own index (cn c) y (m_ws y bytes nL' ret'), w ∈ m_tb := fun w hw' => by
    simp only [wsV, m_ws, List.mem_append, List.mem_cons, List.not_mem_nil, or_false] at hw'
    rcases hw' with (rfl | rfl | rfl | rfl) | rfl | h
    · exact hw
    · exact hw2.1
    · exact hw2.2
    · rw [← hyc]; exact hY2
    · exact hY1
    · exact h
  refine ⟨_, va_runV (n := As.length) (As := As.map (c_v E)) (rest := c_S E rest) (b := E.1.1 + k') ⟨hx, hb, hml, hown, hts⟩ hM (cwV As.length hts (m_good hws) rfl rfl rfl ⟨hyc, hY4⟩ ⟨by show dc + 1 ≤ _; omega, by show 8 + (nL' + 11) + 40 * dc ≤ _; omega⟩) ⟨m_blind E _ μ, va_recv hK.1 (hR.one hlt) (kc_at hc) (q0 := 0) (by rw [c_cell_o hk hc]; rfl), fun U hU hW => ⟨?_, by rw [hU]; exact hR, hK.call hF hU hW⟩⟩ rfl (by simp) hv.1 ?_ (rm_ok hrm) hd ⟨hcl, hsl⟩⟩
  · show _ = (c_rf E (k' : Int) :: As.map (c_v E)).toArray
    rw [c_rf_n]
  · show c_S E (As.reverse ++ vr (k' : Int) :: rest) = _
    unfold c_S
    rw [List.map_append, List.map_cons, List.map_reverse]
    show _ ++ c_rf E (k' : Int) :: _ = _
    rw [c_rf_n]
theorem a_cS {y : MethodName} {bytes : ByteArray} {nL' dc index : Nat} {ret' : Option FieldType} (As rest : List AV) {ρ1 : Option AV × Mm} (hd : decode cc pc = .ok (.invokestatic index, 3)) (hY : MY y bytes nL' ret' As.length) (hw : Cond.methodLink own index y ∈ m_tb) (hw2 : Cond.static y ∈ m_tb) (hT : TT E l dc y bytes nL' ret' As μ ρ1) (hdd : dc + 1 ≤ d) (hst : st = As.reverse ++ rest) (hrm : a_wd rest ≤ 8) (k : m_mono μ ρ1.2 → AA E l d z own nm cc nL ret (pc + 3) L (ρ1.1.toList ++ rest) ρ1.2 ρ) : AA E l d z own nm cc nL ret pc L st μ ρ := by
  subst hst
  refine aa_c hT oks_r0 (fun hC hR hF hv hs hm hcl hsl hM => ?_) k
  obtain ⟨hx, hb, hml, hown, hts, hnm, hfr, hlo, hK⟩ := hC
  obtain ⟨hY1, hY2, hY3, hY4⟩ := hY
  have hws : ∀ w ∈ va_wsS own index y (m_ws y bytes nL' ret'), w ∈ m_tb := fun w hw' => by
    simp only [va_wsS, m_ws, List.mem_append, List.mem_cons, List.not_mem_nil, or_false] at hw'
    rcases hw' with (rfl | rfl | rfl) | rfl | h
    · exact hw
    · exact hw2
    · exact hY2
    · exact hY1
    · exact h
  refine ⟨_, va_runS (n := As.length) (As := As.map (c_v E)) (rest := c_S E rest) ⟨hx, hb, hml, hown, hts⟩ hM (va_cwS As.length hts (m_good hws) rfl rfl rfl hY4 ⟨by show dc + 1 ≤ _; omega, by show 8 + (nL' + 11) + 40 * dc ≤ _; omega⟩) ⟨m_blind E _ μ, fun U hU hW => ⟨rfl, by rw [hU]; exact hR, hK.call hF hU hW⟩⟩ rfl (by simp) hv.1 ?_ (rm_ok hrm) hd ⟨hcl, hsl⟩⟩
  show c_S E (As.reverse ++ rest) = _
  unfold c_S
  rw [List.map_append, List.map_reverse]
theorem a_cSN {y : MethodName} {bytes : ByteArray} {nL' dc index : Nat} {ret' : Option FieldType} {host : String} (As rest : List AV) {ρ1 : Option AV × Mm} (hd : decode cc pc = .ok (.invokestatic index, 3)) (hY : MY y bytes nL' ret' As.length) (hw : Cond.methodLinkNest own index y host ∈ m_nst) (hw2 : Cond.static y ∈ m_tb) (hT : TT E l dc y bytes nL' ret' As μ ρ1) (hdd : dc + 1 ≤ d) (hst : st = As.reverse ++ rest) (hrm : a_wd rest ≤ 8) (k : m_mono μ ρ1.2 → AA E l d z own nm cc nL ret (pc + 3) L (ρ1.1.toList ++ rest) ρ1.2 ρ) : AA E l d z own nm cc nL ret pc L st μ ρ := by
  subst hst
  refine aa_c hT oks_r0 (fun hC hR hF hv hs hm hcl hsl hM => ?_) k
  obtain ⟨hx, hb, hml, hown, hts, hnm, hfr, hlo, hK⟩ := hC
  obtain ⟨hY1, hY2, hY3, hY4⟩ := hY
  have hws : ∀ w ∈ m_ws y bytes nL' ret', w ∈ m_tb := fun w hw' => by
    simp only [m_ws, List.mem_cons] at hw'
    rcases hw' with rfl | h
    · exact hY1
    · exact h
  refine ⟨_, va_runSN (n := As.length) (As := As.map (c_v E)) (rest := c_S E rest) ⟨hx, hb, hml, hown, hts⟩ hM ⟨va_cnB As.length hts (m_good hws) rfl rfl rfl (hK.2.2.1 _ hw) (hts _ hY2) hY4 ⟨by show dc + 1 ≤ _; omega, by show 8 + (nL' + 11) + 40 * dc ≤ _; omega⟩, hts _ hw2, trivial⟩ ⟨m_blind E _ μ, fun U hU hW => ⟨rfl, by rw [hU]; exact hR, hK.call hF hU hW⟩⟩ rfl (by simp) hv.1 ?_ (rm_ok hrm) hd ⟨hcl, hsl⟩⟩
  show c_S E (As.reverse ++ rest) = _
  unfold c_S
  rw [List.map_append, List.map_reverse]
theorem a_cI {y : MethodName} {bytes : ByteArray} {nL' dc c n index : Nat} {r : Int} (As rest : List AV) {ρ1 : Option AV × Mm} (hd : decode cc pc = .ok (.invokespecial index, 3)) (hY : MY y bytes nL' none As.length) (hw : Cond.methodLink own index y ∈ m_tb) (hw2 : Cond.instanceMethod y ∈ m_tb) (hyn : y.name = "<init>") (hk : m_kd μ r = (c, n)) (hc : c ≠ 999) (hT : TT E l dc y bytes nL' none (vr r :: As) μ ρ1) (hdd : dc + 1 ≤ d) (hst : st = As.reverse ++ vr r :: rest) (hrm : a_wd rest ≤ 8) (k : m_mono μ ρ1.2 → AA E l d z own nm cc nL ret (pc + 3) L (ρ1.1.toList ++ rest) ρ1.2 ρ) : AA E l d z own nm cc nL ret pc L st μ ρ := by
  subst hst
  refine aa_c hT oks_r (fun hC hR hF hv hs hm hcl hsl hM => ?_) k
  obtain ⟨k', rfl, hlt⟩ := hm.lt hk hc
  obtain ⟨hx, hb, hml, hown, hts, hnm, hfr, hlo, hK⟩ := hC
  obtain ⟨hY1, hY2, hY3, hY4⟩ := hY
  have hws : ∀ w ∈ m_ws y bytes nL' none, w ∈ m_tb := fun w hw' => by
    simp only [m_ws, List.mem_cons] at hw'
    rcases hw' with rfl | h
    · exact hY1
    · exact h
  refine ⟨_, va_runI (n := As.length) (As := As.map (c_v E)) (rest := c_S E rest) (b := E.1.1 + k') ⟨hx, hb, hml, hown, hts⟩ hM (cwI As.length hts (m_good hws) rfl rfl rfl (hts _ hY2) (hts _ hw) (hts _ hw2) hyn hY4 ⟨by show dc + 1 ≤ _; omega, by show 8 + (nL' + 11) + 40 * dc ≤ _; omega⟩) ⟨m_blind E _ μ, fun U hU hW => ⟨?_, by rw [hU]; exact hR, hK.call hF hU hW⟩⟩ rfl (by simp) hv.1 ?_ (rm_ok hrm) hd ⟨hcl, hsl⟩⟩
  · show _ = (c_rf E (k' : Int) :: As.map (c_v E)).toArray
    rw [c_rf_n]
  · show c_S E (As.reverse ++ vr (k' : Int) :: rest) = _
    unfold c_S
    rw [List.map_append, List.map_cons, List.map_reverse]
    show _ ++ c_rf E (k' : Int) :: _ = _
    rw [c_rf_n]
theorem a_cIN {y : MethodName} {bytes : ByteArray} {nL' dc c n index : Nat} {r : Int} {host : String} (As rest : List AV) {ρ1 : Option AV × Mm} (hd : decode cc pc = .ok (.invokespecial index, 3)) (hY : MY y bytes nL' none As.length) (hw : Cond.methodLinkNest own index y host ∈ m_nst) (hw2 : Cond.instanceMethod y ∈ m_tb) (hyn : y.name = "<init>") (hk : m_kd μ r = (c, n)) (hc : c ≠ 999) (hT : TT E l dc y bytes nL' none (vr r :: As) μ ρ1) (hdd : dc + 1 ≤ d) (hst : st = As.reverse ++ vr r :: rest) (hrm : a_wd rest ≤ 8) (k : m_mono μ ρ1.2 → AA E l d z own nm cc nL ret (pc + 3) L (ρ1.1.toList ++ rest) ρ1.2 ρ) : AA E l d z own nm cc nL ret pc L st μ ρ := by
  subst hst
  refine aa_c hT oks_r (fun hC hR hF hv hs hm hcl hsl hM => ?_) k
  obtain ⟨k', rfl, hlt⟩ := hm.lt hk hc
  obtain ⟨hx, hb, hml, hown, hts, hnm, hfr, hlo, hK⟩ := hC
  obtain ⟨hY1, hY2, hY3, hY4⟩ := hY
  have hws : ∀ w ∈ m_ws y bytes nL' none, w ∈ m_tb := fun w hw' => by
    simp only [m_ws, List.mem_cons] at hw'
    rcases hw' with rfl | h
    · exact hY1
    · exact h
  refine ⟨_, va_runIN (n := As.length) (As := As.map (c_v E)) (rest := c_S E rest) (b := E.1.1 + k') ⟨hx, hb, hml, hown, hts⟩ hM ⟨va_cnB As.length hts (m_good hws) rfl rfl rfl (hK.2.2.1 _ hw) (hts _ hY2) hY4 ⟨by show dc + 1 ≤ _; omega, by show 8 + (nL' + 11) + 40 * dc ≤ _; omega⟩, hyn, hts _ hw2⟩ ⟨m_blind E _ μ, fun U hU hW => ⟨?_, by rw [hU]; exact hR, hK.call hF hU hW⟩⟩ rfl (by simp) hv.1 ?_ (rm_ok hrm) hd ⟨hcl, hsl⟩⟩
  · show _ = (c_rf E (k' : Int) :: As.map (c_v E)).toArray
    rw [c_rf_n]
  · show c_S E (As.reverse ++ vr (k' : Int) :: rest) = _
    unfold c_S
    rw [List.map_append, List.map_cons, List.map_reverse]
    show _ ++ c_rf E (k' : Int) :: _ = _
    rw [c_rf_n]
-- with the call's own function
theorem b_i {Jc : Option (Int × Mm)} {f : Int × Mm → Option τ} {G : Prop} (h : Jc.bind f = some t) (k : ∀ q, Jc = some q → f q = some t → G) : G := by
  cases hj : Jc with
  | none => rw [hj] at h; cases h
  | some q => rw [hj] at h; exact k q hj h
theorem b_v {Jc : Option Mm} {f : Mm → Option τ} {G : Prop} (h : Jc.bind f = some t) (k : ∀ q, Jc = some q → f q = some t → G) : G := by
  cases hj : Jc with
  | none => rw [hj] at h; cases h
  | some q => rw [hj] at h; exact k q hj h
end AAX
