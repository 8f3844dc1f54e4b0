/-! ===== the calculus, 3: locals, switches, fields, arrays, new cells ===== -/
def isl (v : AV) : Bool := match v with
  | .inr (.inl _) => true
  | _ => false
def a_set1 (i : Nat) (v : AV) (L : List (Nat × AV)) : List (Nat × AV) := (i, v) :: L.filter (fun q => !(q.1 == i) && !(q.1 + 1 == i && isl q.2))
def a_set2 (i : Nat) (v : AV) (L : List (Nat × AV)) : List (Nat × AV) := (i, v) :: L.filter (fun q => !(q.1 == i) && (!(q.1 == i + 1) && !(q.1 + 1 == i && isl q.2)))
theorem c_cat (E : m_E) (v : AV) : ((c_v E v).category == 2) = isl v := by
  rcases v with x | x | x
  · rfl
  · rfl
  · rcases c_rf_o E x with e2 | ⟨a, e2⟩ <;> (show ((c_rf E x).category == 2) = false; rw [e2]; rfl)
theorem c_L_set1 (E : m_E) (i : Nat) (v : AV) (L : List (Nat × AV)) : c_L E (a_set1 i v L) = (i, c_v E v) :: (c_L E L).filter (fun q => !(q.1 == i) && !(q.1 + 1 == i && q.2.category == 2)) := by
  simp only [c_L, a_set1, List.map_cons, List.filter_map, Function.comp_def, c_cat]
theorem c_L_set2 (E : m_E) (i : Nat) (v : AV) (L : List (Nat × AV)) : c_L E (a_set2 i v L) = (i, c_v E v) :: (c_L E L).filter (fun q => !(q.1 == i) && (!(q.1 == i + 1) && !(q.1 + 1 == i && q.2.category == 2))) := by
  simp only [c_L, a_set2, List.map_cons, List.filter_map, Function.comp_def, c_cat]
theorem okl_set1 {i : Nat} {v : AV} {L : List (Nat × AV)} (h : okl L) (hv : okv v) : okl (a_set1 i v L) := fun q hq => by
  rcases List.mem_cons.mp hq with rfl | hq
  · exact hv
  · exact h q (List.mem_filter.mp hq).1
theorem okl_set2 {i : Nat} {v : AV} {L : List (Nat × AV)} (h : okl L) (hv : okv v) : okl (a_set2 i v L) := fun q hq => by
  rcases List.mem_cons.mp hq with rfl | hq
  · exact hv
  · exact h q (List.mem_filter.mp hq).1
def cn (c : Nat) : String := match c with
  | 0 => RX0 | 1 => RX1 | 2 => RX2 | 3 => RX3 | 4 => RX4 | 5 => RX5 | 6 => RX6 | 7 => RX7 | _ => RX8
def fT (c : Nat) : u_T := match c with
  | 0 => TX0 | 1 => TX1 | 2 => TX2 | 3 => TX3 | 4 => TX4 | 5 => TX5 | 6 => TX6 | 7 => TX7 | _ => TX8
theorem m_in {ws : List Cond} (h : ws.all (fun w => decide (w ∈ lw_tbl) && goodWord w) = true) : ∀ w ∈ ws, w ∈ m_tb := fun w hw => by
  have h1 := List.all_eq_true.mp h w hw
  simp only [Bool.and_eq_true, decide_eq_true_eq] at h1
  exact List.mem_filter.mpr h1
/-- a word of the tables by its place -/
theorem m_at (i : Nat) {w : Cond} (h : lw_tbl[i]? = some w ∧ goodWord w = true) : w ∈ m_tb := List.mem_filter.mpr ⟨List.mem_of_getElem? h.1, h.2⟩
theorem kc_in0 : ∀ w ∈ u_ws RX0 TX0 (f_n 0), w ∈ m_tb := m_in (by decide +kernel)
theorem kc_in1 : ∀ w ∈ u_ws RX1 TX1 (f_n 1), w ∈ m_tb := m_in (by decide +kernel)
theorem kc_in2 : ∀ w ∈ u_ws RX2 TX2 (f_n 2), w ∈ m_tb := m_in (by decide +kernel)
theorem kc_in3 : ∀ w ∈ u_ws RX3 TX3 (f_n 3), w ∈ m_tb := m_in (by decide +kernel)
theorem kc_in4 : ∀ w ∈ u_ws RX4 TX4 (f_n 4), w ∈ m_tb := m_in (by decide +kernel)
theorem kc_in5 : ∀ w ∈ u_ws RX5 TX5 (f_n 5), w ∈ m_tb := m_in (by decide +kernel)
theorem kc_in6 : ∀ w ∈ u_ws RX6 TX6 (f_n 6), w ∈ m_tb := m_in (by decide +kernel)
theorem kc_in7 : ∀ w ∈ u_ws RX7 TX7 (f_n 7), w ∈ m_tb := m_in (by decide +kernel)
theorem kc_in8 : ∀ w ∈ u_ws RX8 TX8 (f_n 8), w ∈ m_tb := m_in (by decide +kernel)
theorem kc_in {c : Nat} (hc : c < 9) : ∀ w ∈ u_ws (cn c) (fT c) (f_n c), w ∈ m_tb := match c, hc with
  | 0, _ => kc_in0
  | 1, _ => kc_in1
  | 2, _ => kc_in2
  | 3, _ => kc_in3
  | 4, _ => kc_in4
  | 5, _ => kc_in5
  | 6, _ => kc_in6
  | 7, _ => kc_in7
  | 8, _ => kc_in8
theorem kc_at {c : Nat} (hc : c < 9) : vwCl[c]? = some (cn c, fT c, f_n c) := match c, hc with
  | 0, _ => rfl
  | 1, _ => rfl
  | 2, _ => rfl
  | 3, _ => rfl
  | 4, _ => rfl
  | 5, _ => rfl
  | 6, _ => rfl
  | 7, _ => rfl
  | 8, _ => rfl
theorem kc_ty {c : Nat} (hc : c < 9) : ∀ k, k < f_n c → parseFieldDescriptor (fT c k).2.2.1 = some (f_ty c k) := match c, hc with
  | 0, _ => tyX0_ok
  | 1, _ => tyX1_ok
  | 2, _ => tyX2_ok
  | 3, _ => tyX3_ok
  | 4, _ => tyX4_ok
  | 5, _ => tyX5_ok
  | 6, _ => tyX6_ok
  | 7, _ => tyX7_ok
  | 8, _ => tyX8_ok
theorem kc_nm {c : Nat} (hc : c < 9) : ∀ a, a < f_n c → ∀ b, b < f_n c → a ≠ b → (fT c a).2.1 ≠ (fT c b).2.1 := match c, hc with
  | 0, _ => nmX0
  | 1, _ => nmX1
  | 2, _ => nmX2
  | 3, _ => nmX3
  | 4, _ => nmX4
  | 5, _ => nmX5
  | 6, _ => nmX6
  | 7, _ => nmX7
  | 8, _ => nmX8
theorem kc_own {c : Nat} (hc : c < 9) : ∀ i, i < f_n c → (fT c i).1 = cn c := match c, hc with
  | 0, _ => by decide +kernel
  | 1, _ => by decide +kernel
  | 2, _ => by decide +kernel
  | 3, _ => by decide +kernel
  | 4, _ => by decide +kernel
  | 5, _ => by decide +kernel
  | 6, _ => by decide +kernel
  | 7, _ => by decide +kernel
  | 8, _ => by decide +kernel
