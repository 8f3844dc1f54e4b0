/-! ===== Math.max, min, floorDiv ===== -/
def i_max (x y : Int) : Int := if x < y then y else x
def i_min (x y : Int) : Int := if y < x then y else x
def l_max (x y : Int) : Int := if y < x then x else y
def l_min (x y : Int) : Int := if y < x then y else x
section AAM
variable {E : m_E} {l : Launch} {d : Nat} {z : Nat × Nat} {own nm : String} {cc : ByteArray} {nL : Nat} {ret : Option FieldType} {pc : Nat} {L L' : List (Nat × AV)} {st st' : List AV} {μ : Mm} {ρ : Option AV × Mm} {τ : Type} {t : τ}
/-- as aa_s, with the room that is left -/
theorem aa_s2 {pc' : Nat} (hok : okl L → oks st → okM μ → oks st')
    (hw : ∀ {p : Program} {e : Env} {R : Room} {s : State} {m : MethodId} {args : Array Value} {below : List Frame} {meth : Method} {c : Code} {Q : State → Prop} {H : Heap} {locs : List Loc} {ls : Array Slot} {cells slots : Nat}, okl L → oks st → okM μ → m_C E d own nm cc nL p R s m args meth c → m_R E μ H → m_F E s H locs → lv_has ls nL (c_L E L) → cells ≤ R.cells → slots ≤ R.slots →
      W p l e R s m args below meth c H locs cells slots Q (F0 m pc' ls (c_S E st')) → W p l e R s m args below meth c H locs cells slots Q (F0 m pc ls (c_S E st)))
    (k : AA E l d z own nm cc nL ret pc' L st' μ ρ) : AA E l d z own nm cc nL ret pc L st μ ρ := by
  intro hl hs hm
  obtain ⟨k1, k2⟩ := k hl (hok hl hs hm) hm
  refine ⟨k1, fun p e R s m args below meth c Q H locs ls hC h1 h2 h3 h4 hR hF hv hr => ?_⟩
  have g1 := k1.1.1
  have g2 := k1.1.2.1
  exact hw hl hs hm hC hR hF hv (by omega) (by omega) (k2 p e R s m args below meth c Q H locs ls hC h1 h2 h3 h4 hR hF hv hr)
theorem wd_c (E : m_E) (rest : List AV) : ((c_S E rest).map fun v => v.category).sum = a_wd rest := by
  unfold c_S a_wd
  rw [List.map_map]
  congr 1
  apply List.map_congr_left
  intro v _
  show (c_v E v).category = _
  have hc : ((c_v E v).category = 2) ↔ isl v = true := by rw [← c_cat E v]; simp
  by_cases q : isl v = true
  · rw [if_pos q]; exact hc.mpr q
  · rw [if_neg q]
    rcases lv_cat (c_v E v) with h | h
    · exact h
    · exact absurd (hc.mp h) q
theorem a_mmax {x y : Int} {index : Nat} (hd : decode cc pc = .ok (.invokestatic index, 3)) (hw : Cond.methodLink own index yJ9_max_7cf53 ∈ m_tb) (hd1 : 1 ≤ d) (hrm : a_wd st ≤ 20) (k : AA E l d z own nm cc nL ret (pc + 3) L (vi (i_max x y) :: st) μ ρ) : AA E l d z own nm cc nL ret pc L (vi y :: vi x :: st) μ ρ :=
  aa_s2 (fun _ hs _ => oks.c (v := vi (i_max x y)) (by unfold i_max; show okI _; split; exact hs.i; exact hs.t.i) hs.t.t) (fun _ hs _ hC _ _ hv h1 h2 w => by
    obtain ⟨hx, hb, hml, hown, hts, hnm, hfr, hlo, hK⟩ := hC
    have e : c_v E (vi (i_max x y)) = .int (if Int32.ofInt x < Int32.ofInt y then Int32.ofInt y else Int32.ofInt x) := by
      unfold i_max
      by_cases q : x < y
      · rw [if_pos q, if_pos ((ofI_lt hs.t.i hs.i).mpr q)]; rfl
      · rw [if_neg q, if_neg (fun n => q ((ofI_lt hs.t.i hs.i).mp n))]; rfl
    rw [c_S_c, e] at w
    exact va_mmax hx hb (hml.trans hv.1.symm) hown (hts _ hw) (hts _ msJ9_max_7cf53) (hts _ miMath) (hts _ mcJ9_max_7cf53) (by omega) (by rw [show (List.map (c_v E) st) = c_S E st from rfl, wd_c]; omega) h1 h2 hd w) k
theorem a_mmin {x y : Int} {index : Nat} (hd : decode cc pc = .ok (.invokestatic index, 3)) (hw : Cond.methodLink own index yJ9_min_7cf53 ∈ m_tb) (hd1 : 1 ≤ d) (hrm : a_wd st ≤ 20) (k : AA E l d z own nm cc nL ret (pc + 3) L (vi (i_min x y) :: st) μ ρ) : AA E l d z own nm cc nL ret pc L (vi y :: vi x :: st) μ ρ :=
  aa_s2 (fun _ hs _ => oks.c (v := vi (i_min x y)) (by unfold i_min; show okI _; split; exact hs.i; exact hs.t.i) hs.t.t) (fun _ hs _ hC _ _ hv h1 h2 w => by
    obtain ⟨hx, hb, hml, hown, hts, hnm, hfr, hlo, hK⟩ := hC
    have e : c_v E (vi (i_min x y)) = .int (if Int32.ofInt y < Int32.ofInt x then Int32.ofInt y else Int32.ofInt x) := by
      unfold i_min
      by_cases q : y < x
      · rw [if_pos q, if_pos ((ofI_lt hs.i hs.t.i).mpr q)]; rfl
      · rw [if_neg q, if_neg (fun n => q ((ofI_lt hs.i hs.t.i).mp n))]; rfl
    rw [c_S_c, e] at w
    exact va_mmin hx hb (hml.trans hv.1.symm) hown (hts _ hw) (hts _ msJ9_min_7cf53) (hts _ miMath) (hts _ mcJ9_min_7cf53) (by omega) (by rw [show (List.map (c_v E) st) = c_S E st from rfl, wd_c]; omega) h1 h2 hd w) k
theorem a_mmaxl {x y : Int} {index : Nat} (hd : decode cc pc = .ok (.invokestatic index, 3)) (hw : Cond.methodLink own index yJ9_max_f86c9 ∈ m_tb) (hd1 : 1 ≤ d) (hrm : a_wd st ≤ 20) (k : AA E l d z own nm cc nL ret (pc + 3) L (vl (l_max x y) :: st) μ ρ) : AA E l d z own nm cc nL ret pc L (vl y :: vl x :: st) μ ρ :=
  aa_s2 (fun _ hs _ => oks.c (v := vl (l_max x y)) (by unfold l_max; show okJ _; split; exact hs.t.j; exact hs.j) hs.t.t) (fun _ hs _ hC _ _ hv h1 h2 w => by
    obtain ⟨hx, hb, hml, hown, hts, hnm, hfr, hlo, hK⟩ := hC
    have e : c_v E (vl (l_max x y)) = .long (if Int64.ofInt y < Int64.ofInt x then Int64.ofInt x else Int64.ofInt y) := by
      unfold l_max
      by_cases q : y < x
      · rw [if_pos q, if_pos ((ofJ_lt hs.j hs.t.j).mpr q)]; rfl
      · rw [if_neg q, if_neg (fun n => q ((ofJ_lt hs.j hs.t.j).mp n))]; rfl
    rw [c_S_c, e] at w
    exact va_mmax_long hx hb (hml.trans hv.1.symm) hown (hts _ hw) (hts _ msJ9_max_f86c9) (hts _ miMath) (hts _ mcJ9_max_f86c9) (by omega) (by rw [show (List.map (c_v E) st) = c_S E st from rfl, wd_c]; omega) h1 h2 hd w) k
theorem a_mminl {x y : Int} {index : Nat} (hd : decode cc pc = .ok (.invokestatic index, 3)) (hw : Cond.methodLink own index yJ9_min_f86c9 ∈ m_tb) (hd1 : 1 ≤ d) (hrm : a_wd st ≤ 20) (k : AA E l d z own nm cc nL ret (pc + 3) L (vl (l_min x y) :: st) μ ρ) : AA E l d z own nm cc nL ret pc L (vl y :: vl x :: st) μ ρ :=
  aa_s2 (fun _ hs _ => oks.c (v := vl (l_min x y)) (by unfold l_min; show okJ _; split; exact hs.j; exact hs.t.j) hs.t.t) (fun _ hs _ hC _ _ hv h1 h2 w => by
    obtain ⟨hx, hb, hml, hown, hts, hnm, hfr, hlo, hK⟩ := hC
    have e : c_v E (vl (l_min x y)) = .long (if Int64.ofInt y < Int64.ofInt x then Int64.ofInt y else Int64.ofInt x) := by
      unfold l_min
      by_cases q : y < x
      · rw [if_pos q, if_pos ((ofJ_lt hs.j hs.t.j).mpr q)]; rfl
      · rw [if_neg q, if_neg (fun n => q ((ofJ_lt hs.j hs.t.j).mp n))]; rfl
    rw [c_S_c, e] at w
    exact va_mmin_long hx hb (hml.trans hv.1.symm) hown (hts _ hw) (hts _ msJ9_min_f86c9) (hts _ miMath) (hts _ mcJ9_min_f86c9) (by omega) (by rw [show (List.map (c_v E) st) = c_S E st from rfl, wd_c]; omega) h1 h2 hd w) k
theorem c_rf_x (E : m_E) : c_v E (vr (-6)) = .ref (E.1.2 6) := c_rf_e E (j := 6) (by omega)
theorem a_xald {i : Int} {f : Int → Option τ} (hd : decode cc pc = .ok (.iaload, 1)) (h : (x_ald E i).bind f = some t) (k : ∀ x, f x = some t → AA E l d z own nm cc nL ret (pc + 1) L (vi x :: st) μ ρ) : AA E l d z own nm cc nL ret pc L (vi i :: vr (-6) :: st) μ ρ := by
  unfold x_ald at h
  by_cases q : 0 ≤ i ∧ i < x_len E
  · rw [if_pos q] at h
    refine aa_s (fun _ hs _ => oks.c (v := vi (x_at E i.toNat).toInt) (okI_t _) hs.t.t) (fun _ hs hm hC hR hF _ w => ?_) (k _ h)
    obtain ⟨hx, hb, -, hown, hts, hnm, -, -, hK⟩ := hC
    obtain ⟨⟨cell, g1, g2, g3, g4, g5⟩, g6, g7⟩ := hK.2.1.2
    rw [c_S_c, c_it] at w
    rw [c_S_c, c_S_c, c_rf_x]
    have hc := clampI hs.i
    have hle := Nat.mod_le (E.1.2 900) 2147483648
    have hlt : i.toNat < E.1.2 900 := by have := q.2; unfold x_len at this; omega
    have hneg := (inI (n := E.1.2 900) hs.i q.1 (by have := q.2; unfold x_len at this; omega))
    refine W.iald (v := .int (x_at E i.toNat)) hx hb (by rw [hF.2.1 _ g6]; exact g1) g2 g3 ?_ (by rw [hc]; exact g5 _ hlt) rfl rfl hd w
    rintro (z1 | z1)
    · exact hneg (Or.inl z1)
    · exact hneg (Or.inr (by rw [← g4]; exact z1))
  · rw [if_neg q] at h; cases h
theorem a_xlen (hd : decode cc pc = .ok (.arraylength, 1)) (k : AA E l d z own nm cc nL ret (pc + 1) L (vi (x_len E) :: st) μ ρ) : AA E l d z own nm cc nL ret pc L (vr (-6) :: st) μ ρ := by
  have hq : E.1.2 900 % 2147483648 < 2147483648 := Nat.mod_lt _ (by omega)
  refine aa_s (fun _ hs _ => oks.c (v := vi (x_len E)) (show okI _ from ⟨by unfold x_len; omega, by unfold x_len; omega⟩) hs.t) (fun _ hs hm hC hR hF _ w => ?_) k
  obtain ⟨hx, hb, -, hown, hts, hnm, -, -, hK⟩ := hC
  obtain ⟨⟨cell, g1, g2, g3, g4, g5⟩, g6, g7⟩ := hK.2.1.2
  rw [c_S_c, c_rf_x]
  refine W.alen hx hb (by rw [hF.2.1 _ g6]; exact g1) g2 (n := Int32.ofInt (x_len E)) ?_ rfl rfl hd w
  rw [g4]
  unfold x_len
  rw [Nat.mod_eq_of_lt g7, Int32.ofInt_eq_ofNat]
end AAM
