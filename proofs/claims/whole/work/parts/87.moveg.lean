/-! ===== PURE: one group moved, in memory ===== -/
theorem cT_app (A B : List Wy) (o : Ow) (s : Int) : cT (A ++ B) o s = cT A o s + cT B o s := List.countP_append
theorem cM_app (A B : List Wy) (o : Ow) (s : Int) (x : Nat) : cMk (A ++ B) o s x = cMk A o s x + cMk B o s x := List.countP_append
theorem cM_le {L : List Wy} {o : Ow} {s : Int} {x : Nat} (h : cT L o s = 0) : cMk L o s x = 0 := by
  unfold cMk
  rw [List.countP_eq_zero]
  intro w hw q
  have q := of_decide_eq_true q
  exact cT_zero.mp h w hw ⟨q.1, q.2.1⟩
theorem OP.fr {ids : List Int} {sl : List (Int × Int)} {μ μ' : Mm} (h : OP μ) (f : Fr ids sl μ μ') (h1 : (34 : Int) ∉ ids) (h2 : (38 : Int) ∉ ids) (h3 : ((34 : Int), (1 : Int)) ∉ sl) (h4 : ((38 : Int), (1 : Int)) ∉ sl) : OP μ' := ⟨by rw [f.kd]; exact h.1, by rw [f.kd]; exact h.2.1, by rw [f.2.2 34 1 h1 h3]; exact h.2.2.1, by rw [f.2.2 38 1 h2 h4]; exact h.2.2.2⟩
theorem move_core {p c q d : Int} {b : Bool} {Q : Qu} {f : Int} {L X : List Wy} {o o' : Ow} {g : Int} {ki : List Wy} (ho : OwOK o) (ho' : OwOK o') (hL : LB L) (hki : ∀ k ∈ ki, k.1 = o' ∧ k.2.1 = g) (hne : ∃ k, k ∈ ki) {lo hi : Int} (hg : -50 ≤ g ∧ g ≤ 56) (hlo : 0 ≤ lo) (hhi : hi < 850) (hlg : 0 ≤ lo + g ∧ hi + g < 850) (h1 : ∃ w ∈ L, w.1 = o ∧ w.2.1 + 400 = lo) (h2 : ∃ w ∈ L, w.1 = o ∧ w.2.1 + 400 = hi) (h3 : ∀ w ∈ L, w.1 = o → lo ≤ w.2.1 + 400 ∧ w.2.1 + 400 ≤ hi) {VAL : Int → Int → Int} {μ μ1 : Mm} (hP : SpR b L p c μ) (hX : SpR b X q d μ)
    (hval : ∀ t v h, RV b X o' (t - 400) v → RV b L o (t - g - 400) h → RV b (X ++ CG Q f L o ki) o' (t - 400) (VAL v h))
    (e2 : ∀ u, lo ≤ u → u ≤ hi → m_gt μ1 d (si o' * 850 + g + u) = VAL (m_gt μ d (si o' * 850 + g + u)) (m_gt μ c (si o * 850 + u)))
    (e3 : ∀ j, (j < si o' * 850 + g + lo ∨ si o' * 850 + g + hi < j) → m_gt μ1 d j = m_gt μ d j)
    (e4 : ∀ i, m_gt μ1 (q + 2) i = if i = si o' then mnI (m_gt μ (q + 2) (si o')) (lo + g) else m_gt μ (q + 2) i)
    (e5 : ∀ i, m_gt μ1 (q + 3) i = if i = si o' then mxI (m_gt μ (q + 3) (si o')) (hi + g) else m_gt μ (q + 3) i) : SpR b (X ++ CG Q f L o ki) q d μ1 := by
  obtain ⟨k0, hk0⟩ := hne
  have hk0' := hki k0 hk0
  have hs' := si_ok ho'
  have hs := si_ok ho
  have hcm : ∀ v ∈ CG Q f L o ki, v.1 = o' := by
    intro v hv
    obtain ⟨w, hw, e, k, hk, rfl⟩ := mem_CG.mp hv
    exact (hki k hk).1
  have rv0 : ∀ (r : Ow) (t v : Int), RV b X r (t - 400) v → (r ≠ o' ∨ cT L o (t - g - 400) = 0) → RV b (X ++ CG Q f L o ki) r (t - 400) v := by
    intro r t v hv hc
    have hcT : cT (CG Q f L o ki) r (t - 400) = 0 := by
      rw [cT_CG hki]
      split
      · rename_i z
        rcases hc with c | c
        · exact absurd z c
        · rw [show t - 400 - g = t - g - 400 by omega, c, Nat.zero_mul]
      · rfl
    have hcM : ∀ x, cMk (CG Q f L o ki) r (t - 400) x = 0 := fun x => cM_le hcT
    unfold RV at hv ⊢
    rw [cT_app, hcT, Nat.add_zero]
    simp only [cM_app, hcM, Nat.add_zero]
    exact hv
  refine ⟨fun r hr t t0 t1 => ?_, fun r hr => ?_⟩
  · have hsr := si_ok hr
    by_cases c : r = o'
    · subst c
      by_cases y : lo ≤ t - g ∧ t - g ≤ hi
      · have hb1 : 0 ≤ t - g := by omega
        have := e2 (t - g) y.1 y.2
        rw [show si r * 850 + g + (t - g) = si r * 850 + t by omega] at this
        rw [this]
        exact hval t _ _ (hX.1 r hr t t0 t1) (hP.1 o ho (t - g) (by omega) (by omega))
      · rw [e3 (si r * 850 + t) (by omega)]
        refine rv0 r t _ (hX.1 r hr t t0 t1) (Or.inr (cT_zero.mpr (fun w hw z => ?_)))
        have := h3 w hw z.1
        omega
    · have hsn : si r ≠ si o' := fun z => c (si_inj hr ho' z)
      have : si r * 850 + t < si o' * 850 + g + lo ∨ si o' * 850 + g + hi < si r * 850 + t := by
        by_cases z : si r < si o'
        · left; omega
        · right; omega
      rw [e3 _ this]
      exact rv0 r t _ (hX.1 r hr t t0 t1) (Or.inl c)
  · by_cases c : r = o'
    · subst c
      rw [e4, e5, if_pos rfl, if_pos rfl]
      obtain ⟨w1, m1, q1, z1⟩ := h1
      obtain ⟨w2, m2, q2, z2⟩ := h2
      have n1 : nxt Q f w1 k0 ∈ CG Q f L o ki := mem_CG.mpr ⟨w1, m1, q1, k0, hk0, rfl⟩
      have n2 : nxt Q f w2 k0 ∈ CG Q f L o ki := mem_CG.mpr ⟨w2, m2, q2, k0, hk0, rfl⟩
      have v1 : (nxt Q f w1 k0).2.1 + 400 = lo + g := by show w1.2.1 + k0.2.1 + 400 = _; rw [hk0'.2]; omega
      have v2 : (nxt Q f w2 k0).2.1 + 400 = hi + g := by show w2.2.1 + k0.2.1 + 400 = _; rw [hk0'.2]; omega
      have bnd2 : ∀ v ∈ CG Q f L o ki, lo + g ≤ v.2.1 + 400 ∧ v.2.1 + 400 ≤ hi + g := by
        intro v hv
        obtain ⟨w, hw, e, k, hk, rfl⟩ := mem_CG.mp hv
        have := h3 w hw e
        have hk' := (hki k hk).2
        show lo + g ≤ w.2.1 + k.2.1 + 400 ∧ w.2.1 + k.2.1 + 400 ≤ hi + g
        omega
      left
      refine ⟨⟨_, List.mem_append.mpr (Or.inr n1), hk0'.1⟩, ?_⟩
      rcases hX.2 r hr with ⟨_, ⟨x1, y1, a1, b1⟩, ⟨x2, y2, a2, b2⟩, hb⟩ | ⟨hn, hlo', hhi'⟩
      · refine ⟨?_, ?_, fun v hv hv1 => ?_⟩
        · unfold mnI
          split
          · exact ⟨_, List.mem_append.mpr (Or.inr n1), hk0'.1, v1⟩
          · exact ⟨x1, List.mem_append.mpr (Or.inl y1), a1, b1⟩
        · unfold mxI
          split
          · exact ⟨_, List.mem_append.mpr (Or.inr n2), hk0'.1, v2⟩
          · exact ⟨x2, List.mem_append.mpr (Or.inl y2), a2, b2⟩
        · unfold mnI mxI
          rcases List.mem_append.mp hv with z | z
          · have := hb v z hv1
            constructor <;> split <;> omega
          · have := bnd2 v z
            constructor <;> split <;> omega
      · rw [hlo', hhi']
        have e1 : mnI 850 (lo + g) = lo + g := by
          unfold mnI
          have := bnd2 _ n1
          rw [if_pos (by omega)]
        have e2 : mxI (-1) (hi + g) = hi + g := by
          unfold mxI
          have := bnd2 _ n1
          rw [if_pos (by omega)]
        rw [e1, e2]
        refine ⟨⟨_, List.mem_append.mpr (Or.inr n1), hk0'.1, v1⟩, ⟨_, List.mem_append.mpr (Or.inr n2), hk0'.1, v2⟩, fun v hv hv1 => ?_⟩
        rcases List.mem_append.mp hv with z | z
        · exact absurd hv1 (hn v z)
        · exact bnd2 v z
    · have hsn : si r ≠ si o' := fun z => c (si_inj hr ho' z)
      rw [e4, e5, if_neg hsn, if_neg hsn]
      rcases hX.2 r hr with ⟨⟨x0, y0, a0⟩, ⟨x1, y1, a1⟩, ⟨x2, y2, a2⟩, hb⟩ | ⟨hn, hq⟩
      · refine Or.inl ⟨⟨x0, List.mem_append.mpr (Or.inl y0), a0⟩, ⟨x1, List.mem_append.mpr (Or.inl y1), a1⟩, ⟨x2, List.mem_append.mpr (Or.inl y2), a2⟩, fun v hv hv1 => ?_⟩
        rcases List.mem_append.mp hv with z | z
        · exact hb v z hv1
        · exact absurd ((hcm v z).symm.trans hv1) (fun q => c q.symm)
      · refine Or.inr ⟨fun v hv hv1 => ?_, hq⟩
        rcases List.mem_append.mp hv with z | z
        · exact hn v z hv1
        · exact absurd ((hcm v z).symm.trans hv1) (fun q => c q.symm)
theorem RV.bnd {L : List Wy} {o : Ow} {s v : Int} (h : RV true L o s v) : 0 ≤ v ∧ v ≤ CM := by
  unfold RV at h
  rw [if_pos rfl] at h
  rw [h]
  unfold mnI CM
  split <;> omega
def dis (p c q d : Int) : Prop := c ≠ d ∧ (q + 2 ≠ c ∧ q + 3 ≠ c ∧ p ≠ d ∧ q ≠ d ∧ p + 2 ≠ d ∧ p + 3 ≠ d) ∧ (q + 2 ≠ d ∧ q + 3 ≠ d) ∧ (d ≠ 43 ∧ q + 2 ≠ 43 ∧ q + 3 ≠ 43)
theorem dis.of {p c q d : Int} (hp : pc p c) (hq : pc q d) (hpq : p ≠ q) : dis p c q d := by
  unfold pc at hp hq
  rcases hp with ⟨rfl, rfl⟩ | ⟨rfl, rfl⟩ <;> rcases hq with ⟨rfl, rfl⟩ | ⟨rfl, rfl⟩
  · exact absurd rfl hpq
  · unfold dis; decide
  · unfold dis; decide
  · exact absurd rfl hpq
theorem key1 {a b : Wy} {i : Int} (ha : OwOK a.1) (hb : OwOK b.1) (h1 : si a.1 * 107 + a.2.1 + 50 = i) (h2 : si b.1 * 107 + b.2.1 + 50 = i) (h3 : -50 ≤ a.2.1 ∧ a.2.1 ≤ 56) (h4 : -50 ≤ b.2.1 ∧ b.2.1 ≤ 56) : b.1 = a.1 ∧ b.2.1 = a.2.1 := by
  have e : si b.1 = si a.1 := by
    have s1 := si_ok ha
    have s2 := si_ok hb
    generalize si a.1 = x at *
    generalize si b.1 = y at *
    omega
  exact ⟨si_inj hb ha e, by rw [e] at h2; omega⟩
theorem key2 {s g i : Int} (h : s * 107 + g + 50 = i) (hs : 0 ≤ s ∧ s < 14) (hg : -50 ≤ g ∧ g ≤ 56) : i_div i 107 = s ∧ i_add (i_rem i 107) (-50) = g ∧ 0 ≤ i ∧ i < 1498 := by
  refine ⟨?_, ?_, by omega, by omega⟩
  · rw [i_div_p (by omega) (by omega) (by omega) (by omega)]; omega
  · rw [i_rem_p (by omega) (by omega) (by omega) (by omega), i_add_e (by omega) (by omega)]; omega
theorem moveGroup_X {N : Nat} (hN : 1000000 ≤ N) {p c q d : Int} (hp : pc p c) (hq : pc q d) (hpq : p ≠ q) {b : Bool} {Q : Qu} {f : Int} {L X : List Wy} {o : Ow} {kf : List Wy} {i : Int} (ho : OwOK o) (hL : LB L) (hne : ∃ w ∈ L, w.1 = o) (hi : i ∈ dd (kf.map kx)) (hkf : ∀ k ∈ kf, OwOK k.1 ∧ -50 ≤ k.2.1 ∧ k.2.1 ≤ 56 ∧ 0 ≤ k.2.2 ∧ k.2.2 ≤ 9) (hbd : ∀ w ∈ L, w.1 = o → ∀ k ∈ kf, -400 ≤ w.2.1 + k.2.1 ∧ w.2.1 + k.2.1 ≤ 449) (hkl : kf.length ≤ 1400) {μ : Mm} (hK : KR μ) (hO : OP μ) (h1 : m_gt μ 33 1 = p) (h2 : m_gt μ 33 2 = q) (h7 : m_gt μ 33 7 = if b then 1 else 0) (hP : SpR b L p c μ) (hX : SpR b X q d μ) (hv : GVal b (kf.map kx) i (m_gt μ 43 i)) : ∃ μ', jX2_moveGroup N 33 (si o) i (if f = Q.2.2.1 then 1 else 0) μ = some μ' ∧ SpR b (X ++ CG Q f L o (kfi kf i)) q d μ' ∧ (∀ j, m_gt μ' 43 j = if j = i then 0 else m_gt μ 43 j) ∧ Fr [d, q + 2, q + 3, 43] [] μ μ' := by
  obtain ⟨e, he, hei⟩ := (mem_dd _ i).mp hi
  obtain ⟨k0, hk0, rfl⟩ := List.mem_map.mp he
  have hb0 := hkf k0 hk0
  have hs' := si_ok hb0.1
  have hs := si_ok ho
  have hik : si k0.1 * 107 + k0.2.1 + 50 = i := hei
  have hki : ∀ k ∈ kfi kf i, k.1 = k0.1 ∧ k.2.1 = k0.2.1 := by
    intro k hk
    have hm := List.mem_filter.mp hk
    have hbk := hkf k hm.1
    have e2 : si k.1 * 107 + k.2.1 + 50 = i := of_decide_eq_true hm.2
    have hsk := si_ok hbk.1
    exact key1 hb0.1 hbk.1 hik e2 ⟨hb0.2.1, hb0.2.2.1⟩ ⟨hbk.2.1, hbk.2.2.1⟩
  have hk0i : k0 ∈ kfi kf i := List.mem_filter.mpr ⟨hk0, decide_eq_true hei⟩
  clear hei he
  have hT1 : 1 ≤ (kfi kf i).length := List.length_pos_of_mem hk0i
  have hT2 : (kfi kf i).length ≤ 1400 := Nat.le_trans (List.length_filter_le _ _) hkl
  have SP := SPK.of hK hO hp
  have SQ := SPK.of hK hO hq
  have hpd : dis p c q d := dis.of hp hq hpq
  clear hpq
  rcases hP.2 o ho with ⟨_, h1w, h2w, h3w⟩ | ⟨hn, _⟩
  · generalize hlo : m_gt μ (p + 2) (si o) = lo at *
    generalize hhi : m_gt μ (p + 3) (si o) = hh at *
    obtain ⟨w1, m1, q1, z1⟩ := id h1w
    obtain ⟨w2, m2, q2, z2⟩ := id h2w
    have hw1 := hL w1 m1
    have hw2 := hL w2 m2
    have hd1 := hbd w1 m1 q1 k0 hk0
    have hd2 := hbd w2 m2 q2 k0 hk0
    have hle := h3w w1 m1 q1
    have hi0 : 0 ≤ i := (key2 hik hs' ⟨hb0.2.1, hb0.2.2.1⟩).2.2.1
    have hi1 : i < 1498 := (key2 hik hs' ⟨hb0.2.1, hb0.2.2.1⟩).2.2.2
    have fin : ∀ {VAL : Int → Int → Int} {μ1 : Mm}, (∀ t v h, RV b X k0.1 (t - 400) v → RV b L o (t - k0.2.1 - 400) h → RV b (X ++ CG Q f L o (kfi kf i)) k0.1 (t - 400) (VAL v h)) → (∀ u, lo ≤ u → u ≤ hh → m_gt μ1 d (si k0.1 * 850 + k0.2.1 + u) = VAL (m_gt μ d (si k0.1 * 850 + k0.2.1 + u)) (m_gt μ c (si o * 850 + u))) → (∀ j, (j < si k0.1 * 850 + k0.2.1 + lo ∨ si k0.1 * 850 + k0.2.1 + hh < j) → m_gt μ1 d j = m_gt μ d j) → (∀ i, m_gt μ1 (q + 2) i = if i = si k0.1 then mnI (m_gt μ (q + 2) (si k0.1)) (lo + k0.2.1) else m_gt μ (q + 2) i) → (∀ i, m_gt μ1 (q + 3) i = if i = si k0.1 then mxI (m_gt μ (q + 3) (si k0.1)) (hh + k0.2.1) else m_gt μ (q + 3) i) → Fr [d, q + 2, q + 3] [] μ μ1 → ∃ μ', jX2_moveGroup_91 N 33 i μ1 = some μ' ∧ SpR b (X ++ CG Q f L o (kfi kf i)) q d μ' ∧ (∀ j, m_gt μ' 43 j = if j = i then 0 else m_gt μ 43 j) ∧ Fr [d, q + 2, q + 3, 43] [] μ μ' := by
      intro VAL μ1 hval a2 a3 a4 a5 a6
      have core := move_core (c := c) (Q := Q) (f := f) ho hb0.1 hL hki ⟨k0, hk0i⟩ ⟨hb0.2.1, hb0.2.2.1⟩ (by omega) (by omega) (by omega) h1w h2w h3w hP hX hval a2 a3 a4 a5
      have K1 : KR μ1 := by unfold pc at hq; rcases hq with ⟨rfl, rfl⟩ | ⟨rfl, rfl⟩ <;> exact a6.KR hK (by decide)
      refine ⟨m_st μ1 43 i 0, ?_, ?_, fun j => ?_, (a6.mono (by simp) (by simp)).stI (by simp)⟩
      · unfold jX2_moveGroup_91
        rw [r_33_11 K1, ast_e (k_43 K1) (by omega) (by omega), ob_e]
      · refine ⟨fun r hr t t0 t1 => ?_, fun r hr => ?_⟩
        · rw [gt_r _ _ _ _ hpd.2.2.2.1]; exact core.1 r hr t t0 t1
        · rw [gt_r _ _ _ _ hpd.2.2.2.2.1, gt_r _ _ _ _ hpd.2.2.2.2.2]; exact core.2 r hr
      · rw [m_gt_st, a6.2.2 43 j (by
          have z1 := hpd.2.2.2.1
          have z2 := hpd.2.2.2.2.1
          have z3 := hpd.2.2.2.2.2
          simp
          exact ⟨fun z => z1 z.symm, fun z => z2 z.symm, fun z => z3 z.symm⟩) (by simp)]
        by_cases z : j = i
        · rw [if_pos ⟨rfl, z⟩, if_pos z]
        · rw [if_neg (fun y => z y.2), if_neg z]
    unfold jX2_moveGroup
    rw [if_neg (by omega), r_33_11 hK, len_e (k_43 hK) (by decide) (by decide), ob_e, if_pos (by omega), bnd_e, bnd_e, (key2 hik hs' ⟨hb0.2.1, hb0.2.2.1⟩).1, (key2 hik hs' ⟨hb0.2.1, hb0.2.2.1⟩).2.1, h7, h1, h2, ald_e (k_43 hK) (by omega) (by omega), ob_e, ob_e, chk_e SQ.1.1]
    cases b with
    | true =>
      have hgv : m_gt μ 43 i = ((kfi kf i).length : Int) := by
        unfold GVal at hv
        rw [if_pos rfl] at hv
        rw [hv, nk_kfi]
      rw [if_neg (by decide), hgv]
      obtain ⟨μ1, a1, a2, a3, a4, a5, a6⟩ := addCounts_X (N := N) hN (p := p) (c := c) (q := q) (d := d) (a := si o) (r := si k0.1) (g := k0.2.1) (T := ((kfi kf i).length : Int)) (lo := lo) (hi := hh) hpd.1 hpd.2.1 hs hs' ⟨hb0.2.1, hb0.2.2.1⟩ (by omega) (by omega) (by omega) (by omega) (by omega) hpd.2.2.1 SP SQ hlo hhi (fun u u1 u2 => (hP.1 o ho u (by omega) (by omega)).bnd) (fun u u1 u2 => by
        have := (hX.1 k0.1 hb0.1 (k0.2.1 + u) (by omega) (by omega)).bnd
        rw [← Int.add_assoc] at this
        exact this)
      rw [a1, ob_e]
      refine fin (VAL := fun v h => satA v h ((kfi kf i).length : Int)) (fun t v h hv1 hh1 => ?_) a2 a3 a4 a5 a6
      unfold RV at hv1 hh1 ⊢
      rw [if_pos rfl] at hv1 hh1 ⊢
      rw [hv1, hh1, sat_add hT1, cT_app, cT_CG hki, if_pos rfl, show t - 400 - k0.2.1 = t - k0.2.1 - 400 by omega]
    | false =>
      unfold GVal at hv
      rw [if_neg (by decide)] at hv
      rw [if_pos (by decide)]
      have hgnz : m_gt μ 43 i ≠ 0 := by
        intro z
        have := (GVal.zero (b := false) (ks := kf.map kx) (fun k hk => by
          obtain ⟨k', hk', rfl⟩ := List.mem_map.mp hk
          exact (hkf k' hk').2.2.2) (by unfold GVal; rw [if_neg (by decide)]; exact hv)).mp z
        exact this hi
      have key : ∀ m, (f = Q.2.2.1 ∧ m = m_gt μ 43 i ∨ ¬ f = Q.2.2.1 ∧ m = 0) → ∃ μ', jX2_moveGroup_88 N 33 i m k0.2.1 (si k0.1) (si o) p q μ = some μ' ∧ SpR false (X ++ CG Q f L o (kfi kf i)) q d μ' ∧ (∀ j, m_gt μ' 43 j = if j = i then 0 else m_gt μ 43 j) ∧ Fr [d, q + 2, q + 3, 43] [] μ μ' := by
        intro m hm
        obtain ⟨μ1, a1, a2, a3, a4, a5, a6⟩ := addMarks_X (N := N) hN (p := p) (c := c) (q := q) (d := d) (a := si o) (r := si k0.1) (g := k0.2.1) (m := m) (lo := lo) (hi := hh) hpd.1 hpd.2.1 hs hs' ⟨hb0.2.1, hb0.2.2.1⟩ (by omega) (by omega) (by omega) (by omega) hpd.2.2.1 SP SQ hlo hhi
        unfold jX2_moveGroup_88
        rw [chk_e SQ.1.1, a1, ob_e]
        refine fin (VAL := fun v h => orM v h m) (fun t v h hv1 hh1 => ?_) a2 a3 a4 a5 a6
        have hz := RV.zero hL hh1
        have hv2 := hv1
        have hh2 := hh1
        unfold RV at hv1 hh1 ⊢
        rw [if_neg (by decide)] at hv1 hh1 ⊢
        unfold orM
        by_cases c0 : h = 0
        · have c0' := hz.mp c0
          rw [if_pos c0]
          refine ⟨hv1.1, fun x hx => ?_⟩
          have e0 : cMk (CG Q f L o (kfi kf i)) k0.1 (t - 400) x = 0 := cM_le (by rw [cT_CG hki, if_pos rfl, show t - 400 - k0.2.1 = t - k0.2.1 - 400 by omega, c0', Nat.zero_mul])
          rw [cM_app, e0, Nat.add_zero]
          exact hv1.2 x hx
        · have c0' : 0 < cT L o (t - k0.2.1 - 400) := Nat.pos_of_ne_zero (fun y => c0 (hz.mpr y))
          rw [if_neg c0]
          rcases hm with ⟨cf, rfl⟩ | ⟨cf, rfl⟩
          · rw [if_neg hgnz]
            have hor := tb_lor hv1.1 hv.1
            refine ⟨hor.1, fun x hx => ?_⟩
            rw [hor.2, hv1.2 x hx, hv.2 x hx, cM_app, cM_CGm cf hki, if_pos rfl, nkx_kfi, show t - 400 - k0.2.1 = t - k0.2.1 - 400 by omega]
            rw [← Bool.decide_or]
            congr 1
            apply propext
            constructor
            · rintro (y | y)
              · omega
              · have := Nat.mul_pos c0' y; omega
            · intro y
              by_cases y1 : 0 < cMk X k0.1 (t - 400) x
              · exact Or.inl y1
              · right
                refine Nat.pos_of_ne_zero (fun y2 => ?_)
                rw [y2, Nat.mul_zero] at y
                omega
          · rw [if_pos rfl]
            have hor := tb_lor hv1.1 hh1.1
            refine ⟨hor.1, fun x hx => ?_⟩
            rw [hor.2, hv1.2 x hx, hh1.2 x hx, cM_app, cM_CGu cf hki, if_pos rfl, show t - 400 - k0.2.1 = t - k0.2.1 - 400 by omega]
            rw [← Bool.decide_or]
            congr 1
            apply propext
            constructor
            · rintro (y | y)
              · omega
              · have := Nat.mul_pos y hT1; omega
            · intro y
              by_cases y1 : 0 < cMk X k0.1 (t - 400) x
              · exact Or.inl y1
              · right
                refine Nat.pos_of_ne_zero (fun y2 => ?_)
                rw [y2, Nat.zero_mul] at y
                omega
      by_cases cf : f = Q.2.2.1
      · rw [if_pos cf, if_neg (by decide)]
        exact key _ (Or.inl ⟨cf, rfl⟩)
      · rw [if_neg cf, if_pos rfl]
        exact key 0 (Or.inr ⟨cf, rfl⟩)
  · obtain ⟨w, hw, e⟩ := hne
    exact absurd e (hn w hw)
