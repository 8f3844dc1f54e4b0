/-! ===== PURE: what the class reads off its rows ===== -/
def o0 : Ow := (0, 0, 0)
def LE (L : List Wy) : Prop := LB L ∧ ∀ w ∈ L, w.1 = o0
theorem LA_LE {G : Gm} (hG : GOK G) {R : List Int} (hV : VR G R) : LE (LA G R) := by
  have := hG.2.1
  exact ⟨LA_LB hG hV, fun w hw => (Lf_end hG (QA_QR hG hV).1 (n := (G.1 1).toNat) (by omega) w hw).1⟩
theorem LT_LE {G : Gm} (hG : GOK G) {R : List Int} (hV : VR G R) (tn : Int → Bool) (m : Int) : LE (LT G R tn m) := by
  have := hG.2.1
  exact ⟨LT_LB hG hV tn m, fun w hw => (Lf_end hG (QT_QR hG hV tn m).1 (n := (G.1 1).toNat) (by omega) w hw).1⟩
theorem RV.none {b : Bool} {L : List Wy} {o : Ow} {s : Int} (h : cT L o s = 0) : RV b L o s 0 := by
  unfold RV
  cases b with
  | true =>
    rw [if_pos rfl, h]
    unfold mnI CM
    rw [if_pos (by decide)]
    rfl
  | false =>
    rw [if_neg (by decide)]
    refine ⟨⟨by decide, by decide⟩, fun x _ => ?_⟩
    rw [tb_zero, cM_le h]
    rfl
theorem at_X {N : Nat} {b : Bool} {L : List Wy} (hL : LE L) {μ : Mm} (hK : KR μ) (h : RES b L μ) (n : Int) : ∃ v, jX2_at N 33 n μ = some (v, μ) ∧ RV b L o0 n v := by
  obtain ⟨s1, s2, hO, p, c, q, d, hpq, n1, n2, hZ, hX⟩ := h
  have SP := SPK.of hK hO hpq.1
  unfold jX2_at jX2_at_14 jX2_at_31
  by_cases c1 : n < -400
  · rw [if_pos c1]
    exact ⟨0, rfl, RV.none (cT_zero.mpr (fun w hw z => by have := hL.1 w hw; omega))⟩
  · rw [if_neg c1]
    by_cases c2 : n < 450
    · rw [if_pos c2, n1, chk_e SP.1.1, i_sub_e (by omega) (by omega), value_X SP (by decide) (by omega), b2_e]
      refine ⟨_, rfl, ?_⟩
      have := hX.1 o0 OwOK_0 (n - -400) (by omega) (by omega)
      rw [show n - -400 - 400 = n by omega] at this
      exact this
    · rw [if_neg c2]
      exact ⟨0, rfl, RV.none (cT_zero.mpr (fun w hw z => by have := hL.1 w hw; omega))⟩
/-- the ends of the row: of no ways they are 450 and -401 -/
def Ends (L : List Wy) (a z : Int) : Prop := (L ≠ [] ∧ (∃ w ∈ L, w.2.1 = a) ∧ (∃ w ∈ L, w.2.1 = z) ∧ ∀ w ∈ L, a ≤ w.2.1 ∧ w.2.1 ≤ z) ∨ (L = [] ∧ a = 450 ∧ z = -401)
theorem ends_X {N : Nat} {b : Bool} {L : List Wy} (hL : LE L) {μ : Mm} (hK : KR μ) (h : RES b L μ) : ∃ a z, jX2_least N 33 μ = some (a, μ) ∧ jX2_greatest N 33 μ = some (z, μ) ∧ Ends L a z ∧ -401 ≤ a ∧ a ≤ 450 ∧ -401 ≤ z ∧ z ≤ 450 := by
  obtain ⟨s1, s2, hO, p, c, q, d, hpq, n1, n2, hZ, hX⟩ := h
  have SP := SPK.of hK hO hpq.1
  unfold jX2_least jX2_greatest
  rw [n1, chk_e SP.1.1, chk_e SP.1.1, low_X SP (by decide), b2_e, high_X SP (by decide), b2_e]
  have hr : 0 ≤ m_gt μ (p + 2) 0 ∧ m_gt μ (p + 2) 0 ≤ 850 ∧ -1 ≤ m_gt μ (p + 3) 0 ∧ m_gt μ (p + 3) 0 < 850 ∧ Ends L (-400 + m_gt μ (p + 2) 0) (-400 + m_gt μ (p + 3) 0) := by
    rcases hX.2 o0 OwOK_0 with ⟨⟨w0, m0, q0⟩, ⟨w1, m1, q1, z1⟩, ⟨w2, m2, q2, z2⟩, hb⟩ | ⟨hn, hlo, hhi⟩
    · have e1 : w1.2.1 + 400 = m_gt μ (p + 2) 0 := z1
      have e2 : w2.2.1 + 400 = m_gt μ (p + 3) 0 := z2
      have b1 := hL.1 w1 m1
      have b2 := hL.1 w2 m2
      refine ⟨by omega, by omega, by omega, by omega, Or.inl ⟨List.ne_nil_of_mem m0, ⟨w1, m1, by omega⟩, ⟨w2, m2, by omega⟩, fun w hw => ?_⟩⟩
      have := hb w hw (hL.2 w hw)
      have e3 : m_gt μ (p + 2) (si o0) = m_gt μ (p + 2) 0 := rfl
      have e4 : m_gt μ (p + 3) (si o0) = m_gt μ (p + 3) 0 := rfl
      rw [e3, e4] at this
      omega
    · have e1 : m_gt μ (p + 2) 0 = 850 := hlo
      have e2 : m_gt μ (p + 3) 0 = -1 := hhi
      have eL : L = [] := by
        cases L with
        | nil => rfl
        | cons w L => exact absurd (hL.2 w (by simp)) (hn w (by simp))
      refine ⟨by omega, by omega, by omega, by omega, Or.inr ⟨eL, by omega, by omega⟩⟩
  rw [i_add_e (by omega) (by omega), i_add_e (by omega) (by omega)]
  exact ⟨_, _, rfl, rfl, hr.2.2.2.2, by omega, by omega, by omega, by omega⟩
def cF (L : List Wy) (a t : Int) : Nat := L.countP (fun w => decide (a ≤ w.2.1 ∧ w.2.1 < t))
theorem cF_s {L : List Wy} (hL : ∀ w ∈ L, w.1 = o0) {a t : Int} (h : a ≤ t) : cF L a (t + 1) = cF L a t + cT L o0 t := by
  induction L with
  | nil => rfl
  | cons w L ih =>
    have ih := ih (fun v hv => hL v (by simp [hv]))
    unfold cF cT at *
    rw [List.countP_cons, List.countP_cons, List.countP_cons, ih]
    have h0 := hL w (by simp)
    by_cases c : a ≤ w.2.1 ∧ w.2.1 < t
    · rw [decide_eq_true c, decide_eq_true (show a ≤ w.2.1 ∧ w.2.1 < t + 1 by omega), decide_eq_false (show ¬ (w.1 = o0 ∧ w.2.1 = t) by omega)]
      simp; omega
    · by_cases c2 : w.2.1 = t
      · rw [decide_eq_false c, decide_eq_true (show a ≤ w.2.1 ∧ w.2.1 < t + 1 by omega), decide_eq_true (show w.1 = o0 ∧ w.2.1 = t from ⟨h0, c2⟩)]
        simp; omega
      · rw [decide_eq_false c, decide_eq_false (show ¬ (a ≤ w.2.1 ∧ w.2.1 < t + 1) by omega), decide_eq_false (show ¬ (w.1 = o0 ∧ w.2.1 = t) from fun q => c2 q.2)]
        simp
theorem mn_add {A B : Nat} : mnI CM (mnI CM A + mnI CM B) = mnI CM ((A + B : Nat) : Int) := by
  have hCM : CM = 1000000000000000000 := rfl
  have hA : 0 ≤ mnI CM A ∧ mnI CM A ≤ CM := by unfold mnI; split <;> omega
  have hB : 0 ≤ mnI CM B ∧ mnI CM B ≤ CM := by unfold mnI; split <;> omega
  have top : ∀ y : Int, CM ≤ y → mnI CM y = CM := fun y hy => if_neg (by omega)
  by_cases c : (A : Int) < CM
  · have eA : mnI CM A = A := if_pos c
    by_cases c2 : (B : Int) < CM
    · have eB : mnI CM B = B := if_pos c2
      rw [eA, eB, Int.natCast_add]
    · have eB : mnI CM B = CM := if_neg c2
      rw [eB, top _ (by omega), top _ (by omega)]
  · have eA : mnI CM A = CM := if_neg c
    rw [eA, top _ (by omega), top _ (by omega)]
theorem countFrom_loop {N : Nat} {L : List Wy} (hL : LE L) {μ : Mm} (hK : KR μ) (h : RES true L μ) {a z : Int} (hz : jX2_greatest N 33 μ = some (z, μ)) (hzb : -401 ≤ z ∧ z ≤ 450) (a0 : -2147483648 ≤ a) : ∀ (k n : Nat) (t : Int), (t + k = z + 1 ∨ (k = 0 ∧ z < t)) → a ≤ t → -401 ≤ t → t ≤ 2147483647 → k < n → ∃ t', z < t' ∧ t ≤ t' ∧ (k = 0 → t' = t) ∧ jX2_countFrom_12 N n 33 (mnI CM (cF L a t)) t μ = some (mnI CM (cF L a t'), μ)
  | k, 0, t, ht, h0, h1, h2, hn => absurd hn (by omega)
  | 0, n + 1, t, ht, h0, h1, h2, hn => by
    refine ⟨t, by omega, by omega, fun _ => rfl, ?_⟩
    show jX2_countFrom_12b (jX2_countFrom_12 N n) N 33 (mnI CM (cF L a t)) t μ = _
    unfold jX2_countFrom_12b
    rw [hz, b2_e, if_pos (by omega)]
  | k + 1, n + 1, t, ht, h0, h1, h2, hn => by
    obtain ⟨v, e1, e2⟩ := at_X (N := N) hL hK h t
    have hb := e2.bnd
    unfold RV at e2
    rw [if_pos rfl] at e2
    have hcm : 0 ≤ mnI CM (cF L a t) ∧ mnI CM (cF L a t) ≤ CM := by
      have hCM : CM = 1000000000000000000 := rfl
      unfold mnI; split <;> omega
    obtain ⟨t', q1, q2, q3, q4⟩ := countFrom_loop hL hK h hz hzb a0 k n (t + 1) (by omega) (by omega) (by omega) (by omega) (by omega)
    refine ⟨t', q1, by omega, fun z => by omega, ?_⟩
    rw [← q4]
    show jX2_countFrom_12b (jX2_countFrom_12 N n) N 33 (mnI CM (cF L a t)) t μ = _
    unfold jX2_countFrom_12b
    have hCM : CM = 1000000000000000000 := rfl
    rw [hz, b2_e, if_neg (by omega), e1, b2_e, bnd_e, bnd_e, i_add_e (by omega) (by omega), l_add_e (by omega) (by omega), e2]
    have : l_min 1000000000000000000 (mnI CM (cF L a t) + mnI CM (cT L o0 t)) = mnI CM (cF L a (t + 1)) := by
      rw [cF_s hL.2 h0, ← mn_add]
      rfl
    rw [this]
def cG (L : List Wy) (n : Int) : Nat := L.countP (fun w => decide (n ≤ w.2.1))
theorem countFrom_X {N : Nat} (hN : 1000000 ≤ N) {L : List Wy} (hL : LE L) {μ : Mm} (hK : KR μ) (h : RES true L μ) {n : Int} (hn : okI n) : jX2_countFrom N 33 n μ = some (mnI CM (cG L n), μ) := by
  obtain ⟨a, z, e1, e2, e3, a0, a1, z0, z1⟩ := ends_X (N := N) hL hK h
  unfold jX2_countFrom
  rw [e1, b2_e, bnd_e]
  have hn1 := hn.1
  have hn2 := hn.2
  have hmx : n ≤ i_max n a ∧ a ≤ i_max n a ∧ (i_max n a = n ∨ i_max n a = a) := by unfold i_max; split <;> omega
  obtain ⟨t', q1, q2, q3, q4⟩ := countFrom_loop (N := N) hL hK h e2 ⟨z0, z1⟩ (a := i_max n a) (by omega) (z + 1 - i_max n a).toNat N (i_max n a) (by omega) (by omega) (by omega) (by omega) (by omega)
  have c0 : cF L (i_max n a) (i_max n a) = 0 := by
    unfold cF
    rw [List.countP_eq_zero]
    intro w _ q
    have := of_decide_eq_true q
    omega
  rw [c0] at q4
  have m0 : mnI CM ((0 : Nat) : Int) = 0 := by unfold mnI CM; rw [if_pos (by decide)]; rfl
  rw [m0] at q4
  rw [q4]
  have : cF L (i_max n a) t' = cG L n := by
    unfold cF cG
    apply List.countP_congr
    intro w hw
    rw [decide_eq_true_eq, decide_eq_true_eq]
    rcases e3 with ⟨_, _, _, hb⟩ | ⟨eL, _, _⟩
    · have := hb w hw
      constructor
      · intro q; omega
      · intro q; omega
    · rw [eL] at hw; cases hw
  rw [this]
/-- bits of marks -/
def MB (L : List Wy) (P : Int → Prop) (v : Int) : Prop := ps10 v ∧ ∀ x : Nat, x < 10 → (tb v x = true ↔ ∃ w ∈ L, P w.2.1 ∧ w.2.2 = (x : Int))
theorem RV.mb {L : List Wy} (hL : ∀ w ∈ L, w.1 = o0) {s v : Int} (h : RV false L o0 s v) : MB L (fun t => t = s) v := by
  unfold RV at h
  rw [if_neg (by decide)] at h
  refine ⟨h.1, fun x hx => ?_⟩
  rw [h.2 x hx, decide_eq_true_eq]
  unfold cMk
  rw [List.countP_pos_iff]
  constructor
  · rintro ⟨w, hw, e⟩
    have e := of_decide_eq_true e
    exact ⟨w, hw, e.2.1, e.2.2⟩
  · rintro ⟨w, hw, e1, e2⟩
    exact ⟨w, hw, decide_eq_true ⟨hL w hw, e1, e2⟩⟩
theorem MB.or {L : List Wy} {P Q : Int → Prop} {u v : Int} (h : MB L P u) (g : MB L Q v) : MB L (fun t => P t ∨ Q t) (l_or u v) := by
  have ho := tb_lor h.1 g.1
  refine ⟨ho.1, fun x hx => ?_⟩
  rw [ho.2, Bool.or_eq_true, h.2 x hx, g.2 x hx]
  constructor
  · rintro (⟨w, hw, a, b⟩ | ⟨w, hw, a, b⟩)
    · exact ⟨w, hw, Or.inl a, b⟩
    · exact ⟨w, hw, Or.inr a, b⟩
  · rintro ⟨w, hw, a | a, b⟩
    · exact Or.inl ⟨w, hw, a, b⟩
    · exact Or.inr ⟨w, hw, a, b⟩
theorem MB.congr {L : List Wy} {P Q : Int → Prop} {v : Int} (h : MB L P v) (e : ∀ w ∈ L, P w.2.1 ↔ Q w.2.1) : MB L Q v :=
  ⟨h.1, fun x hx => (h.2 x hx).trans ⟨fun ⟨w, hw, a, b⟩ => ⟨w, hw, (e w hw).mp a, b⟩, fun ⟨w, hw, a, b⟩ => ⟨w, hw, (e w hw).mpr a, b⟩⟩⟩
theorem MB.zero (L : List Wy) : MB L (fun _ => False) 0 := ⟨⟨by decide, by decide⟩, fun x _ => by rw [tb_zero]; exact ⟨fun z => absurd z (by decide), fun ⟨_, _, a, _⟩ => a.elim⟩⟩
theorem MB.uni {L L' : List Wy} {P Q : Int → Prop} {u v : Int} (h : MB L P u) (g : MB L' Q v) (e : ∀ x : Nat, x < 10 → ((∃ w ∈ L, P w.2.1 ∧ w.2.2 = (x : Int)) ↔ ∃ w ∈ L', Q w.2.1 ∧ w.2.2 = (x : Int))) : u = v := by
  have h0 := h.1.1; have h1 := h.1.2; have g0 := g.1.1; have g1 := g.1.2
  have : u.toNat = v.toNat := by
    apply Nat.eq_of_testBit_eq
    intro k
    by_cases c : k < 10
    · have := ((h.2 k c).trans (e k c)).trans (g.2 k c).symm
      unfold tb at this
      exact Bool.eq_iff_iff.mpr this
    · have : 2 ^ 10 ≤ 2 ^ k := Nat.pow_le_pow_right (by decide) (by omega)
      rw [Nat.testBit_lt_two_pow (by omega), Nat.testBit_lt_two_pow (by omega)]
  omega
theorem marksFrom_loop {N : Nat} {L : List Wy} (hL : LE L) {μ : Mm} (hK : KR μ) (h : RES false L μ) {a z : Int} (hz : jX2_greatest N 33 μ = some (z, μ)) (hzb : -401 ≤ z ∧ z ≤ 450) : ∀ (k n : Nat) (t v : Int), (t + k = z + 1 ∨ (k = 0 ∧ z < t)) → a ≤ t → -401 ≤ t → t ≤ 2147483647 → k < n → MB L (fun s => a ≤ s ∧ s < t) v → ∃ v' t', z < t' ∧ MB L (fun s => a ≤ s ∧ s < t') v' ∧ jX2_marksFrom_12 N n 33 v t μ = some (v', μ)
  | k, 0, t, v, ht, h0, h1, h2, hn, _ => absurd hn (by omega)
  | 0, n + 1, t, v, ht, h0, h1, h2, hn, hv => by
    refine ⟨v, t, by omega, hv, ?_⟩
    show jX2_marksFrom_12b (jX2_marksFrom_12 N n) N 33 v t μ = _
    unfold jX2_marksFrom_12b
    rw [hz, b2_e, if_pos (by omega)]
  | k + 1, n + 1, t, v, ht, h0, h1, h2, hn, hv => by
    obtain ⟨u, e1, e2⟩ := at_X (N := N) hL hK h t
    have hu := hv.or (RV.mb hL.2 e2)
    obtain ⟨v', t', q1, q2, q3⟩ := marksFrom_loop (a := a) hL hK h hz hzb k n (t + 1) (l_or v u) (by omega) (by omega) (by omega) (by omega) (by omega) (hu.congr (fun w _ => by
      constructor
      · rintro (q | q) <;> omega
      · intro q
        by_cases c : w.2.1 = t
        · exact Or.inr c
        · left; omega))
    refine ⟨v', t', q1, q2, ?_⟩
    rw [← q3]
    show jX2_marksFrom_12b (jX2_marksFrom_12 N n) N 33 v t μ = _
    unfold jX2_marksFrom_12b
    rw [hz, b2_e, if_neg (by omega), e1, b2_e, bnd_e, bnd_e, i_add_e (by omega) (by omega)]
theorem marksFrom_X {N : Nat} (hN : 1000000 ≤ N) {L : List Wy} (hL : LE L) {μ : Mm} (hK : KR μ) (h : RES false L μ) {n : Int} (hn : okI n) : ∃ v, jX2_marksFrom N 33 n μ = some (v, μ) ∧ MB L (fun s => n ≤ s) v := by
  obtain ⟨a, z, e1, e2, e3, a0, a1, z0, z1⟩ := ends_X (N := N) hL hK h
  unfold jX2_marksFrom
  rw [e1, b2_e, bnd_e]
  have hn1 := hn.1
  have hn2 := hn.2
  have hmx : n ≤ i_max n a ∧ a ≤ i_max n a ∧ (i_max n a = n ∨ i_max n a = a) := by unfold i_max; split <;> omega
  generalize i_max n a = m at *
  obtain ⟨v, t', q1, q2, q3⟩ := marksFrom_loop (N := N) hL hK h e2 ⟨z0, z1⟩ (a := m) (z + 1 - m).toNat N m 0 (by omega) (by omega) (by omega) (by omega) (by omega) ((MB.zero L).congr (fun w _ => ⟨fun q => q.elim, fun q => by omega⟩))
  refine ⟨v, q3, q2.congr (fun w hw => ?_)⟩
  rcases e3 with ⟨_, _, _, hb⟩ | ⟨eL, _, _⟩
  · have := hb w hw
    constructor <;> intro q <;> omega
  · rw [eL] at hw; cases hw
theorem marksBelow_loop {N : Nat} {L : List Wy} (hL : LE L) {μ : Mm} (hK : KR μ) (h : RES false L μ) {a z m : Int} (hz : jX2_greatest N 33 μ = some (z, μ)) (hzb : -401 ≤ z ∧ z ≤ 450) : ∀ (k n : Nat) (t v : Int), (t + k = z + 1 ∨ (k = 0 ∧ z < t)) → a ≤ t → -401 ≤ t → t ≤ 2147483647 → k < n → MB L (fun s => a ≤ s ∧ s < t) v → ∃ v' t', (z < t' ∨ m ≤ t') ∧ (t' ≤ m ∨ t' = t) ∧ MB L (fun s => a ≤ s ∧ s < t') v' ∧ jX2_marksBelow_8 N n 33 m v t μ = some (v', μ)
  | k, 0, t, v, ht, h0, h1, h2, hn, _ => absurd hn (by omega)
  | 0, n + 1, t, v, ht, h0, h1, h2, hn, hv => by
    refine ⟨v, t, by omega, Or.inr rfl, hv, ?_⟩
    show jX2_marksBelow_8b (jX2_marksBelow_8 N n) N 33 m v t μ = _
    unfold jX2_marksBelow_8b jX2_marksBelow_38
    rw [hz, b2_e, if_pos (show z < t by omega)]
    split <;> rfl
  | k + 1, n + 1, t, v, ht, h0, h1, h2, hn, hv => by
    by_cases cm : m ≤ t
    · refine ⟨v, t, by omega, Or.inr rfl, hv, ?_⟩
      show jX2_marksBelow_8b (jX2_marksBelow_8 N n) N 33 m v t μ = _
      unfold jX2_marksBelow_8b jX2_marksBelow_38
      rw [if_pos cm]
    · obtain ⟨u, e1, e2⟩ := at_X (N := N) hL hK h t
      have hu := hv.or (RV.mb hL.2 e2)
      obtain ⟨v', t', q1, q2, q3, q4⟩ := marksBelow_loop (a := a) hL hK h hz hzb (m := m) k n (t + 1) (l_or v u) (by omega) (by omega) (by omega) (by omega) (by omega) (hu.congr (fun w _ => by
        constructor
        · rintro (q | q) <;> omega
        · intro q
          by_cases c : w.2.1 = t
          · exact Or.inr c
          · left; omega))
      refine ⟨v', t', q1, by omega, q3, ?_⟩
      rw [← q4]
      show jX2_marksBelow_8b (jX2_marksBelow_8 N n) N 33 m v t μ = _
      unfold jX2_marksBelow_8b
      rw [if_neg cm, hz, b2_e, if_neg (by omega), e1, b2_e, bnd_e, bnd_e, i_add_e (by omega) (by omega)]
theorem marksBelow_X {N : Nat} (hN : 1000000 ≤ N) {L : List Wy} (hL : LE L) {μ : Mm} (hK : KR μ) (h : RES false L μ) (n : Int) : ∃ v, jX2_marksBelow N 33 n μ = some (v, μ) ∧ MB L (fun s => s < n) v := by
  obtain ⟨a, z, e1, e2, e3, a0, a1, z0, z1⟩ := ends_X (N := N) hL hK h
  unfold jX2_marksBelow
  rw [e1, b2_e]
  obtain ⟨v, t', q1, q2, q3, q4⟩ := marksBelow_loop (N := N) hL hK h e2 ⟨z0, z1⟩ (m := n) (a := a) (z + 1 - a).toNat N a 0 (by omega) (by omega) (by omega) (by omega) (by omega) ((MB.zero L).congr (fun w _ => ⟨fun q => q.elim, fun q => by omega⟩))
  refine ⟨v, q4, q3.congr (fun w hw => ?_)⟩
  rcases e3 with ⟨_, _, _, hb⟩ | ⟨eL, _, _⟩
  · have := hb w hw
    constructor <;> intro q <;> omega
  · rw [eL] at hw; cases hw
