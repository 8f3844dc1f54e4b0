/-! ===== whole_start over the pure claim ===== -/
theorem okM_0 : okM m_0 := ⟨fun r h => absurd rfl h, fun k hk => absurd hk (Nat.not_lt_zero k)⟩
theorem whole_start_open (hP : PureLaw) {p : Program} {e : Env} {s : State} {m : MethodId} {below : List Frame} {meth : Method} {c : Code} (l : Launch) {b L : Nat} {xs : Nat → Int32} (hL : L ≤ 3072) (C0 : lw_At p s m meth c b L xs) : W p l e room_1 s m #[Value.ref b] below meth c s.heap [] 0 0 (lw_Z below #[Value.ref b] s) (entryFrame m ([Value.ref b] : List Value).toArray 4) := by
  obtain ⟨hx, hb, hr, hml, hown, hts, hX, hbl, hlocks, hgv⟩ := C0
  obtain ⟨E, hE1, hE6, hE9, hK⟩ := m_K_of hL hts hX hbl (nr hgv)
  obtain ⟨N, μ, hj, h1, h2⟩ := hP E (by rw [hE9]; exact hL)
  have A := tL_law (nm := meth.name) E l (0, 0) N m_0 (1, μ) hj
  obtain ⟨k1, k2⟩ := A (fun q hq => by rw [List.mem_singleton.mp hq]; trivial) (fun _ h => by cases h) okM_0
  have hle := lv_entry [Value.ref b] (n := 4) (Nat.le_of_ble_eq_true rfl)
  rw [lg_entry_eq]
  have hcl : c_L E [(0, vr (-6))] = [(0, Value.ref b)] := by
    show [(0, c_v E (vr (-6)))] = _
    rw [c_rf_x, hE6]
  have hR : m_R E m_0 s.heap := ⟨by rw [hE1]; rfl, fun k hk => absurd hk (Nat.not_lt_zero k)⟩
  have hF : m_F E s s.heap [] := ⟨Nat.le_refl _, fun _ _ => rfl, fun _ h => by cases h⟩
  exact k2 p e room_1 s m #[Value.ref b] below meth c (lw_Z below #[Value.ref b] s) s.heap [] _ ⟨hx, hb, hml, hown, fun w hw => hts w (List.mem_filter.mp hw).1, rfl, Nat.le_of_ble_eq_true rfl, Nat.le_of_ble_eq_true rfl, hK⟩ h1 h2 (Nat.zero_le _) (Nat.zero_le _) hR hF (by rw [hcl]; exact hle) (fun pc' ls' H' locs' hd hR' hF' => by
    refine va_forget (fun q hq => by rw [← hE1]; exact hF'.2.2 q hq) ?_
    refine W.widen (k := 600000) (n := 7302250) h1 h2 ?_
    exact lw_ret hx hb hr hlocks hd)
