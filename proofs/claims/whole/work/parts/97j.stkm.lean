/-! ===== PURE: the reference's stack of what waits ===== -/
def wdM : List (Int × List Int) := [(52, [112, 105, 110, 115]), (53, [102, 114, 97, 109, 101, 115]), (54, [114, 111, 108, 108, 115]), (55, [99, 108, 101, 97, 110]), (56, [101, 97, 114, 110, 115]), (57, [102, 111, 117, 108]), (58, [119, 111, 114, 116, 104]), (59, [119, 104, 101, 110]), (60, [104, 97, 110, 100, 105, 99, 97, 112]), (61, [106, 111, 105, 110, 115]), (62, [111, 114]), (63, [97, 110, 100]), (64, [110, 111, 116]), (65, [97, 108, 108]), (66, [102, 114, 97, 109, 101]), (67, [100, 111, 119, 110]), (68, [117, 115, 101, 100]), (69, [102, 111, 117, 108, 115]), (70, [109, 101, 97, 110]), (71, [103, 97, 109, 101, 115]), (72, [109, 105, 110]), (73, [109, 97, 120])]
def WDM (μ : Mm) : Prop := ∀ p ∈ wdM, Row μ p.1 0 p.2
theorem WDM.fr {μ μ' : Mm} (h : WDM μ) (g : ∀ r i : Int, 52 ≤ r → r ≤ 73 → m_gt μ' r i = m_gt μ r i) : WDM μ' := fun p hp => (h p hp).ext (fun i => g p.1 i (by revert p; unfold wdM; decide) (by revert p; unfold wdM; decide))
theorem wdM_ok : wdM.all (fun p => kdT.contains (p.1, (103, p.2.length)) && !p.2.isEmpty && p.2.all (fun x => decide (97 ≤ x ∧ x ≤ 122)) && decide (p.2.length ≤ 8)) = true := by decide
theorem wm {μ : Mm} (hK : KR μ) (hW : WDM μ) {r : Int} {w : List Int} (hm : (r, w) ∈ wdM) : isWM r w μ := by
  have h := List.all_eq_true.mp wdM_ok (r, w) hm
  rw [Bool.and_eq_true, Bool.and_eq_true, Bool.and_eq_true] at h
  obtain ⟨⟨⟨h1, h2⟩, h3⟩, h4⟩ := h
  refine ⟨hK.1 (r, (103, w.length)) (List.contains_iff_mem.mp h1), hW (r, w) hm, ⟨fun z => ?_, fun x hx => of_decide_eq_true (List.all_eq_true.mp h3 x hx)⟩, of_decide_eq_true h4⟩
  have z : w = [] := z
  rw [z] at h2
  cases h2
def mpI : List Int := [86, 87]
def mpS : List (Int × Int) := [(50, 2), (50, 4), (50, 5), (50, 6), (50, 44), (50, 46), (50, 47), (50, 49)]
/-- what a reading may change -/
def mpP (r i : Int) : Prop := r = 87 ∨ (r = 86 ∧ 0 ≤ i ∧ i < 700) ∨ (r = 50 ∧ (i = 2 ∨ i = 4 ∨ i = 5 ∨ i = 6 ∨ i = 44 ∨ i = 46 ∨ i = 47 ∨ i = 49))
def RF (μ μ' : Mm) : Prop := μ'.1 = μ.1 ∧ μ'.2.1 = μ.2.1 ∧ ∀ r i : Int, ¬ mpP r i → m_gt μ' r i = m_gt μ r i
theorem RF.rf (μ : Mm) : RF μ μ := ⟨rfl, rfl, fun _ _ _ => rfl⟩
theorem RF.trI {a b c : Mm} (h : RF a b) (g : RF b c) : RF a c := ⟨g.1.trans h.1, g.2.1.trans h.2.1, fun r i hn => (g.2.2 r i hn).trans (h.2.2 r i hn)⟩
theorem RF.fr {a b : Mm} (h : RF a b) : Fr mpI mpS a b := ⟨h.1, h.2.1, fun r i h1 h2 => h.2.2 r i (by simp [mpI] at h1; simp [mpS] at h2; unfold mpP; omega)⟩
theorem RF.of {ids : List Int} {sl : List (Int × Int)} {a b : Mm} (f : Fr ids sl a b) (h1 : ∀ r ∈ ids, ∀ i, mpP r i) (h2 : ∀ p ∈ sl, mpP p.1 p.2) : RF a b := ⟨f.1, f.2.1, fun r i hn => f.2.2 r i (fun z => hn (h1 r z i)) (fun z => hn (h2 (r, i) z))⟩
theorem RF.stI {a b : Mm} (h : RF a b) {r i v : Int} (hm : mpP r i) : RF a (m_st b r i v) := h.trI (RF.of (Fr.st b r i v) (by simp) (fun p hp => by rw [List.mem_singleton.mp hp]; exact hm))
theorem RF_code {k : Nat} (hk : k < 700) (μ : Mm) (v w : Int) : RF μ (m_st (m_st μ 86 k v) 50 44 w) := ((RF.rf μ).stI (by unfold mpP; omega)).stI (by unfold mpP; omega)
/-- codes, what waits, how many are open, where the sum began to wait -/
def MK (C W : List Int) (d : Nat) (b : Int) (μ : Mm) : Prop := (m_gt μ 50 44 = C.length ∧ Row μ 86 0 (C.map tM)) ∧ (m_gt μ 50 46 = W.length ∧ Row μ 87 0 W) ∧ m_gt μ 50 47 = d ∧ m_gt μ 50 49 = b
def MS (T : List Int) (q : Nat) (C W : List Int) (d : Nat) (b : Int) (μ : Mm) : Prop := KR μ ∧ PP T q μ ∧ MK C W d b μ ∧ WDM μ
theorem MK.ag {C W : List Int} {d : Nat} {b : Int} {μ μ' : Mm} (h : MK C W d b μ) (g : Ag [86, 87] [(50, 44), (50, 46), (50, 47), (50, 49)] μ μ') : MK C W d b μ' := ⟨⟨by rw [g.2 (50, 44) (by decide)]; exact h.1.1, h.1.2.ag g (by decide)⟩, ⟨by rw [g.2 (50, 46) (by decide)]; exact h.2.1.1, h.2.1.2.ag g (by decide)⟩, by rw [g.2 (50, 47) (by decide)]; exact h.2.2.1, by rw [g.2 (50, 49) (by decide)]; exact h.2.2.2⟩
theorem WDM.lx {μ μ' : Mm} (h : WDM μ) (f : RF μ μ') : WDM μ' := h.fr (fun r i h1 h2 => f.2.2 r i (by unfold mpP; omega))
theorem lx2 {μ μ' : Mm} (f : Fr [] [(50, 2)] μ μ') : RF μ μ' := RF.of f (by simp) (by simp [mpP])
theorem lx4 {μ μ' : Mm} (f : Fr [] [(50, 2), (50, 4)] μ μ') : RF μ μ' := RF.of f (by simp) (by simp [mpP])
theorem lx56 {μ μ' : Mm} (f : Fr [] [(50, 5), (50, 6)] μ μ') : RF μ μ' := RF.of f (by simp) (by simp [mpP])
theorem lx6 {μ μ' : Mm} (f : Fr [] lxS μ μ') : RF μ μ' := RF.of f (by simp) (by simp [mpP, lxS])
theorem MS.l2 {T : List Int} {q q' : Nat} {C W : List Int} {d : Nat} {b : Int} {μ μ' : Mm} (h : MS T q C W d b μ) (hP : PP T q' μ') (f : Fr [] [(50, 2)] μ μ') : MS T q' C W d b μ' := ⟨f.KR h.1 (by decide), hP, h.2.2.1.ag (f.ag (by decide)), h.2.2.2.lx (lx2 f)⟩
theorem MS.l4 {T : List Int} {q q' : Nat} {C W : List Int} {d : Nat} {b : Int} {μ μ' : Mm} (h : MS T q C W d b μ) (hP : PP T q' μ') (f : Fr [] [(50, 2), (50, 4)] μ μ') : MS T q' C W d b μ' := ⟨f.KR h.1 (by decide), hP, h.2.2.1.ag (f.ag (by decide)), h.2.2.2.lx (lx4 f)⟩
theorem mp_PP {T : List Int} {q : Nat} {μ μ' : Mm} (h : PP T q μ) (f : Fr [87] [(50, 44), (50, 46), (50, 47), (50, 49)] μ μ') : PP T q μ' := h.fr (f.ag (by decide))
theorem mp_up {μ μ' : Mm} (f : Fr [87] [(50, 44), (50, 46), (50, 47), (50, 49)] μ μ') : RF μ μ' := RF.of f (by simp [mpP]) (by simp [mpP])
theorem mp_KR {μ μ' : Mm} (f : RF μ μ') (h : KR μ) : KR μ' := f.fr.KR h (by decide)
theorem code_M {N : Nat} {T : List Int} {q : Nat} {C W : List Int} {d : Nat} {b : Int} (hC : C.length < 700) {t v : Int} (hv : v = tM t) {μ : Mm} (h : MS T q C W d b μ) : ∃ μ', jX8_code N 50 v μ = some μ' ∧ MS T q (C ++ [t]) W d b μ' ∧ m_gt μ' 50 2 = m_gt μ 50 2 ∧ RF μ μ' := by
  have hK := h.1
  have f1 : Fr [86] [(50, 44)] μ (m_st (m_st μ 86 C.length v) 50 44 (C.length + 1)) := (Fr.stI (Fr.rf0 _ _ _) (by simp)).stI (by simp)
  have f0 : RF μ (m_st (m_st μ 86 C.length v) 50 44 (C.length + 1)) := RF_code hC _ _ _
  refine ⟨_, ?_, ⟨mp_KR f0 hK, h.2.1.fr (f1.ag (by decide)), ⟨⟨?_, ?_⟩, ⟨?_, ?_⟩, ?_, ?_⟩, h.2.2.2.lx f0⟩, f1.2.2 50 2 (by decide) (by decide), f0⟩
  · unfold jX8_code
    rw [r_50_43 hK, h.2.2.1.1.1, ast_e (k_86 hK) (by omega) (by omega), ob_e, bnd_e, gt_r _ _ _ _ (by decide), h.2.2.1.1.1, i_add_e (by omega) (by omega)]
  · rw [gt_same, List.length_append, List.length_singleton]; omega
  · have := Row.push h.2.2.1.1.2 v
    rw [Int.zero_add, List.length_map, hv] at this
    rw [List.map_append, hv]
    exact this.ext (fun i => gt_r _ _ _ _ (by decide))
  · rw [gt_i _ _ _ (by decide), gt_r _ _ _ _ (by decide)]; exact h.2.2.1.2.1.1
  · exact h.2.2.1.2.1.2.ext (fun i => by rw [gt_r _ _ _ _ (by decide), gt_r _ _ _ _ (by decide)])
  · rw [gt_i _ _ _ (by decide), gt_r _ _ _ _ (by decide)]; exact h.2.2.1.2.2.1
  · rw [gt_i _ _ _ (by decide), gt_r _ _ _ _ (by decide)]; exact h.2.2.1.2.2.2
/-- the stack is one higher -/
theorem push_K {T : List Int} {q : Nat} {C W : List Int} {d d' : Nat} {b x : Int} {μ : Mm} (h : MS T q C W d b μ) : MS T q C (W ++ [x]) d' b (m_st (m_st (m_st μ 50 47 d') 87 W.length x) 50 46 (W.length + 1)) ∧ Fr [87] [(50, 44), (50, 46), (50, 47), (50, 49)] μ (m_st (m_st (m_st μ 50 47 d') 87 W.length x) 50 46 (W.length + 1)) := by
  have f1 : Fr [87] [(50, 44), (50, 46), (50, 47), (50, 49)] μ (m_st (m_st (m_st μ 50 47 d') 87 W.length x) 50 46 (W.length + 1)) := ((Fr.stI (Fr.rf0 _ _ _) (by simp)).stI (by simp)).stI (by simp)
  refine ⟨⟨mp_KR (mp_up f1) h.1, mp_PP h.2.1 f1, ⟨⟨?_, ?_⟩, ⟨?_, ?_⟩, ?_, ?_⟩, h.2.2.2.lx (mp_up f1)⟩, f1⟩
  · rw [gt_i _ _ _ (by decide), gt_r _ _ _ _ (by decide), gt_i _ _ _ (by decide)]; exact h.2.2.1.1.1
  · exact h.2.2.1.1.2.ext (fun i => by rw [gt_r _ _ _ _ (by decide), gt_r _ _ _ _ (by decide), gt_r _ _ _ _ (by decide)])
  · rw [gt_same, List.length_append, List.length_singleton]; omega
  · have := Row.push (h.2.2.1.2.1.2.ext (μ' := m_st μ 50 47 d') (fun i => gt_r _ _ _ _ (by decide))) x
    rw [Int.zero_add] at this
    exact this.ext (fun i => gt_r _ _ _ _ (by decide))
  · rw [gt_i _ _ _ (by decide), gt_r _ _ _ _ (by decide), gt_same]
  · rw [gt_i _ _ _ (by decide), gt_r _ _ _ _ (by decide), gt_i _ _ _ (by decide)]; exact h.2.2.1.2.2.2
theorem top_K {T : List Int} {q : Nat} {C W : List Int} {d : Nat} {b x : Int} {μ : Mm} (h : MS T q C (W ++ [x]) d b μ) : m_gt μ 87 W.length = x ∧ m_gt μ 50 46 = (W.length : Int) + 1 := by
  refine ⟨h.2.2.1.2.1.2.get (i := W.length) (by simp) (by omega), ?_⟩
  rw [h.2.2.1.2.1.1, List.length_append, List.length_singleton]
  omega
/-- the stack is one lower -/
theorem pop_K {T : List Int} {q : Nat} {C W : List Int} {d : Nat} {b x : Int} {μ : Mm} (h : MS T q C (W ++ [x]) d b μ) : MS T q C W d b (m_st μ 50 46 W.length) ∧ Fr [87] [(50, 44), (50, 46), (50, 47), (50, 49)] μ (m_st μ 50 46 W.length) := by
  have f1 : Fr [87] [(50, 44), (50, 46), (50, 47), (50, 49)] μ (m_st μ 50 46 W.length) := Fr.stI (Fr.rf0 _ _ _) (by simp)
  refine ⟨⟨mp_KR (mp_up f1) h.1, mp_PP h.2.1 f1, ⟨⟨?_, ?_⟩, ⟨?_, ?_⟩, ?_, ?_⟩, h.2.2.2.lx (mp_up f1)⟩, f1⟩
  · rw [gt_i _ _ _ (by decide)]; exact h.2.2.1.1.1
  · exact h.2.2.1.1.2.ext (fun i => gt_r _ _ _ _ (by decide))
  · exact gt_same _ _ _ _
  · have := h.2.2.1.2.1.2.take W.length
    rw [List.take_left] at this
    exact this.ext (fun i => gt_r _ _ _ _ (by decide))
  · rw [gt_i _ _ _ (by decide)]; exact h.2.2.1.2.2.1
  · rw [gt_i _ _ _ (by decide)]; exact h.2.2.1.2.2.2
theorem drops_M {N : Nat} {T : List Int} {q : Nat} {C W : List Int} {d : Nat} {b t : Int} (hC : C.length < 700) (hW : W.length < 790) {μ : Mm} (h : MS T q C (W ++ [tM t]) d b μ) : ∃ μ', jX8_drops N 50 μ = some μ' ∧ MS T q (C ++ [t]) W d b μ' ∧ m_gt μ' 50 2 = m_gt μ 50 2 ∧ RF μ μ' := by
  obtain ⟨t1, t2⟩ := top_K h
  obtain ⟨p1, p2⟩ := pop_K h
  have K1 := p1.1
  obtain ⟨μ', r1, r2, r3, r4⟩ := code_M (N := N) hC (v := tM t) rfl p1
  refine ⟨μ', ?_, r2, by rw [r3, gt_i _ _ _ (by decide)], (mp_up p2).trI r4⟩
  unfold jX8_drops
  rw [bnd_e, t2, i_sub_e (by omega) (by omega), show (W.length : Int) + 1 - 1 = W.length by omega, r_50_45 K1, gt_same, ald_e (k_87 K1) (by omega) (by omega), ob_e, gt_r _ _ _ _ (by decide), t1, r1, ob_e]
theorem isOn_1 {N : Nat} {T : List Int} {q : Nat} {C W : List Int} {d : Nat} {b x : Int} (hW : W.length < 790) {μ : Mm} (h : MS T q C (W ++ [x]) d b μ) (v : Int) : jX8_isOn N 50 v μ = some (if x = v then 1 else 0, μ) := by
  obtain ⟨t1, t2⟩ := top_K h
  unfold jX8_isOn jX8_isOn_26 jX8_isOn_27
  rw [t2, if_neg (by omega), i_sub_e (by omega) (by omega), show (W.length : Int) + 1 - 1 = W.length by omega, r_50_45 h.1, ald_e (k_87 h.1) (by omega) (by omega), ob_e, t1]
  by_cases c : x = v
  · rw [if_neg (not_not_intro c), if_pos c, z_e (Or.inr rfl)]
  · rw [if_pos c, if_neg c, z_e (Or.inl rfl)]
theorem isOn_0 {N : Nat} {T : List Int} {q : Nat} {C : List Int} {d : Nat} {b : Int} {μ : Mm} (h : MS T q C [] d b μ) (v : Int) : jX8_isOn N 50 v μ = some (0, μ) := by
  unfold jX8_isOn jX8_isOn_26 jX8_isOn_27
  rw [h.2.2.1.2.1.1, if_pos (by decide), z_e (Or.inl rfl)]
/-- nothing of these lies on top -/
def noT (vs : List Int) (W : List Int) : Prop := ∀ x, W.getLast? = some x → x ∉ vs
theorem isOn_no {N : Nat} {T : List Int} {q : Nat} {C W : List Int} {d : Nat} {b : Int} (hW : W.length < 790) {μ : Mm} (h : MS T q C W d b μ) {vs : List Int} (hn : noT vs W) {v : Int} (hv : v ∈ vs) : jX8_isOn N 50 v μ = some (0, μ) := by
  rcases List.eq_nil_or_concat W with e | ⟨W', x, e⟩
  · rw [e] at h; exact isOn_0 h v
  · rw [List.concat_eq_append] at e
    rw [e] at h hW hn
    rw [isOn_1 (by simp at hW; omega) h v, if_neg]
    intro z
    refine hn x (by simp) ?_
    rw [z]; exact hv
/-- the last mark of the sum at hand -/
theorem mark_loop {N : Nat} {T : List Int} {q : Nat} {C : List Int} {d : Nat} {b mk : Int} {W0 : List Int} {P : List Int} (hP : ∀ x ∈ P, x < 20) (hmk : 20 ≤ mk ∧ mk ≤ 24) (hb : b ≤ W0.length) (hl : W0.length + P.length < 780) {μ : Mm} (h : MS T q C (W0 ++ [mk] ++ P) d b μ) : ∀ (k n : Nat), k ≤ P.length → k < n → jX8_mark_7 N n 50 ((W0.length : Int) + k) μ = some (mk, μ)
  | k, 0, hk, hn => absurd hn (by omega)
  | 0, n + 1, hk, hn => by
    have e : m_gt μ 87 W0.length = mk := h.2.2.1.2.1.2.get (i := W0.length) (by simp) (by omega)
    show jX8_mark_7b (jX8_mark_7 N n) N 50 ((W0.length : Int) + (0 : Nat)) μ = _
    unfold jX8_mark_7b jX8_mark_34 jX8_mark_52 jX8_isMark jX8_isMark_17
    rw [show (W0.length : Int) + ((0 : Nat) : Int) = W0.length by omega, h.2.2.1.2.2.2, if_neg (by omega), r_50_45 h.1, ald_e (k_87 h.1) (by omega) (by omega), ob_e, e, if_neg (by omega), if_neg (by omega), z_e (Or.inr rfl), b2_e, if_pos (by decide), h.2.2.1.2.2.2, if_neg (by omega), r_50_45 h.1, ald_e (k_87 h.1) (by omega) (by omega), ob_e, e]
  | k + 1, n + 1, hk, hn => by
    have hkl : k < P.length := by omega
    have e : m_gt μ 87 ((W0.length : Int) + (k + 1 : Nat)) = P[k] := h.2.2.1.2.1.2.get (i := W0.length + (k + 1)) (by
      rw [List.getElem?_append_right (by simp), List.length_append, List.length_singleton, show W0.length + (k + 1) - (W0.length + 1) = k by omega]
      exact List.getElem?_eq_getElem hkl) (by omega)
    have hx := hP _ (List.getElem_mem hkl)
    have ih := mark_loop (N := N) hP hmk hb hl h k n (by omega) (by omega)
    show jX8_mark_7b (jX8_mark_7 N n) N 50 ((W0.length : Int) + (k + 1 : Nat)) μ = _
    unfold jX8_mark_7b jX8_isMark jX8_isMark_16 jX8_isMark_17
    rw [h.2.2.1.2.2.2, if_neg (by omega), r_50_45 h.1, ald_e (k_87 h.1) (by omega) (by omega), ob_e, e, if_pos (by omega), z_e (Or.inl rfl), b2_e, if_neg (by decide), bnd_e, i_add_e (by omega) (by omega), show (W0.length : Int) + (k + 1 : Nat) + -1 = W0.length + k by omega]
    exact ih
theorem mark_M {N : Nat} (hN : 1000000 ≤ N) {T : List Int} {q : Nat} {C : List Int} {d : Nat} {b mk : Int} {W0 : List Int} {P : List Int} (hP : ∀ x ∈ P, x < 20) (hmk : 20 ≤ mk ∧ mk ≤ 24) (hb : b ≤ W0.length) (hl : W0.length + P.length < 780) {μ : Mm} (h : MS T q C (W0 ++ [mk] ++ P) d b μ) : jX8_mark N 50 μ = some (mk, μ) := by
  unfold jX8_mark
  rw [h.2.2.1.2.1.1, List.length_append, List.length_append, List.length_singleton, bnd_e, i_sub_e (by omega) (by omega), show ((W0.length + 1 + P.length : Nat) : Int) - 1 = W0.length + P.length by omega]
  exact mark_loop (N := N) hP hmk hb hl h P.length N (Nat.le_refl _) (by omega)
theorem nomark_loop {N : Nat} {T : List Int} {q : Nat} {C : List Int} {d : Nat} {W0 P : List Int} (hP : ∀ x ∈ P, x < 20) (hl : W0.length + P.length < 780) {μ : Mm} (h : MS T q C (W0 ++ P) d W0.length μ) : ∀ (k n : Nat), k ≤ P.length → k < n → jX8_mark_7 N n 50 ((W0.length : Int) + k - 1) μ = some (-1, μ)
  | k, 0, hk, hn => absurd hn (by omega)
  | 0, n + 1, hk, hn => by
    show jX8_mark_7b (jX8_mark_7 N n) N 50 ((W0.length : Int) + (0 : Nat) - 1) μ = _
    unfold jX8_mark_7b jX8_mark_34 jX8_mark_52
    rw [h.2.2.1.2.2.2, if_pos (by omega), if_pos (by omega)]
  | k + 1, n + 1, hk, hn => by
    have hkl : k < P.length := by omega
    have e : m_gt μ 87 ((W0.length : Int) + (k + 1 : Nat) - 1) = P[k] := h.2.2.1.2.1.2.get (i := W0.length + k) (by
      rw [List.getElem?_append_right (by omega), show W0.length + k - W0.length = k by omega]
      exact List.getElem?_eq_getElem hkl) (by omega)
    have hx := hP _ (List.getElem_mem hkl)
    have ih := nomark_loop (N := N) hP hl h k n (by omega) (by omega)
    show jX8_mark_7b (jX8_mark_7 N n) N 50 ((W0.length : Int) + (k + 1 : Nat) - 1) μ = _
    unfold jX8_mark_7b jX8_isMark jX8_isMark_16 jX8_isMark_17
    rw [h.2.2.1.2.2.2, if_neg (by omega), r_50_45 h.1, ald_e (k_87 h.1) (by omega) (by omega), ob_e, e, if_pos (by omega), z_e (Or.inl rfl), b2_e, if_neg (by decide), bnd_e, i_add_e (by omega) (by omega), show (W0.length : Int) + (k + 1 : Nat) - 1 + -1 = W0.length + k - 1 by omega]
    exact ih
theorem nomark_M {N : Nat} (hN : 1000000 ≤ N) {T : List Int} {q : Nat} {C : List Int} {d : Nat} {W0 P : List Int} (hP : ∀ x ∈ P, x < 20) (hl : W0.length + P.length < 780) {μ : Mm} (h : MS T q C (W0 ++ P) d W0.length μ) : jX8_mark N 50 μ = some (-1, μ) := by
  unfold jX8_mark
  rw [h.2.2.1.2.1.1, List.length_append, bnd_e, i_sub_e (by omega) (by omega), show ((W0.length + P.length : Nat) : Int) - 1 = W0.length + P.length - 1 by omega]
  exact nomark_loop (N := N) hP hl h P.length N (Nat.le_refl _) (by omega)
