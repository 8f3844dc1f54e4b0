/-! ===== PURE: rows wiped, and what rows hold ===== -/
def ZR (p c : Int) (μ : Mm) : Prop := (∀ r t : Int, 0 ≤ r → r < 14 → 0 ≤ t → t < 850 → m_gt μ c (r * 850 + t) = 0) ∧ ∀ r : Int, 0 ≤ r → r < 14 → m_gt μ (p + 2) r = 850 ∧ m_gt μ (p + 3) r = -1
theorem wipe_37 {N : Nat} {p c r la : Int} (hpc : p ≠ c ∧ p + 2 ≠ c ∧ p + 3 ≠ c) (hr : 0 ≤ r ∧ r < 14) (hla : la < 850) {k2 : Int → Int → Mm → Option Mm} : ∀ (k n : Nat) (t : Int) {μ : Mm}, (t + k = la + 1 ∨ (k = 0 ∧ la < t)) → 0 ≤ t → k < n → SPK μ p c → ∃ μ', jX6_wipe_37 k2 N n p r la t μ = k2 p (r + 1) μ' ∧ (∀ u, t ≤ u → u ≤ la → m_gt μ' c (r * 850 + u) = 0) ∧ (∀ j, (j < r * 850 + t ∨ r * 850 + la < j) → m_gt μ' c j = m_gt μ c j) ∧ (∀ i, m_gt μ' (p + 2) i = if i = r then 850 else m_gt μ (p + 2) i) ∧ (∀ i, m_gt μ' (p + 3) i = if i = r then -1 else m_gt μ (p + 3) i) ∧ Fr [c, p + 2, p + 3] [] μ μ'
  | k, 0, t, μ, ht, h0, hn, _ => absurd hn (by omega)
  | 0, n + 1, t, μ, ht, h0, hn, hp => by
    obtain ⟨⟨k1, k2', k3, k4⟩, w0, w1, w2, w3⟩ := hp
    refine ⟨m_st (m_st μ (p + 2) r 850) (p + 3) r (-1), ?_, fun u u1 u2 => by omega, fun j _ => ?_, fun i => ?_, fun i => ?_, Fr.stI (Fr.stI (Fr.rf0 _ _ _) (by simp)) (by simp)⟩
    · show jX6_wipe_37b k2 (jX6_wipe_37 k2 N n) N p r la t μ = _
      unfold jX6_wipe_37b
      rw [if_pos (by omega)]
      simp (disch := omega) only [w0, w2, w3, ast_e k3, ast_e k4, ob_e, bnd_e, gt_r, ast_st, i_add_e]
    · rw [gt_r _ _ _ _ (by omega), gt_r _ _ _ _ (by omega)]
    · rw [gt_r _ _ _ _ (by omega), m_gt_st]
      by_cases z : i = r
      · rw [if_pos ⟨rfl, z⟩, if_pos z]
      · rw [if_neg (fun y => z y.2), if_neg z]
    · rw [m_gt_st, gt_r _ _ _ _ (by omega)]
      by_cases z : i = r
      · rw [if_pos ⟨rfl, z⟩, if_pos z]
      · rw [if_neg (fun y => z y.2), if_neg z]
  | k + 1, n + 1, t, μ, ht, h0, hn, hp => by
    obtain ⟨⟨k1, k2', k3, k4⟩, w0, w1, w2, w3⟩ := id hp
    let μ1 := m_st μ c (r * 850 + t) 0
    have gg : ∀ x i : Int, x ≠ c → m_gt μ1 x i = m_gt μ x i := fun x i hx => gt_r _ _ _ _ hx
    have K1 : SPK μ1 p c := ⟨⟨k1, k2', k3, k4⟩, by rw [gg p 0 (by omega)]; exact w0, by rw [gg p 1 (by omega)]; exact w1, by rw [gg p 2 (by omega)]; exact w2, by rw [gg p 3 (by omega)]; exact w3⟩
    obtain ⟨μ', e1, e2, e3, e4, e5, e6⟩ := wipe_37 (N := N) (k2 := k2) hpc hr hla k n (t + 1) (μ := μ1) (by omega) (by omega) (by omega) K1
    refine ⟨μ', ?_, fun u u1 u2 => ?_, fun j hj => ?_, fun i => ?_, fun i => ?_, (Fr.stI (Fr.rf0 _ _ _) (by simp)).trI e6⟩
    · rw [← e1]
      show jX6_wipe_37b k2 (jX6_wipe_37 k2 N n) N p r la t μ = _
      unfold jX6_wipe_37b
      rw [if_neg (by omega), w1, w0, i_mul_e (by omega) (by omega), i_add_e (x := r * 850) (by omega) (by omega), ast_e k2' (by omega) (by omega), ob_e, bnd_e, i_add_e (by omega) (by omega)]
    · by_cases z : u = t
      · rw [z, e3 _ (Or.inl (by omega))]
        exact gt_same _ _ _ _
      · exact e2 u (by omega) u2
    · rw [e3 j (by omega)]
      exact gt_i _ _ _ (by omega) _
    · rw [e4 i, gg _ _ (by omega)]
    · rw [e5 i, gg _ _ (by omega)]
theorem wipe_2 {N : Nat} (hN : 1000000 ≤ N) {p c : Int} (hpc : p ≠ c ∧ p + 2 ≠ c ∧ p + 3 ≠ c) : ∀ (k n : Nat) (r : Int) {μ : Mm}, r + k = 14 → 0 ≤ r → k < n → SPK μ p c → (∀ x, r ≤ x → x < 14 → (m_gt μ (p + 2) x ≤ m_gt μ (p + 3) x ∧ 0 ≤ m_gt μ (p + 2) x ∧ m_gt μ (p + 3) x < 850 ∧ ∀ t, 0 ≤ t → t < 850 → (t < m_gt μ (p + 2) x ∨ m_gt μ (p + 3) x < t) → m_gt μ c (x * 850 + t) = 0) ∨ (m_gt μ (p + 2) x = 850 ∧ m_gt μ (p + 3) x = -1 ∧ ∀ t, 0 ≤ t → t < 850 → m_gt μ c (x * 850 + t) = 0)) → (∀ x t, 0 ≤ x → x < r → 0 ≤ t → t < 850 → m_gt μ c (x * 850 + t) = 0) → (∀ x, 0 ≤ x → x < r → m_gt μ (p + 2) x = 850 ∧ m_gt μ (p + 3) x = -1) → ∃ μ', jX6_wipe_2 N n p r μ = some μ' ∧ ZR p c μ' ∧ Fr [c, p + 2, p + 3] [] μ μ'
  | k, 0, r, μ, hr, h0, hn, _, _, _, _ => absurd hn (by omega)
  | 0, n + 1, r, μ, hr, h0, hn, hp, hA, hB, hC => by
    obtain ⟨⟨k1, k2', k3, k4⟩, w0, w1, w2, w3⟩ := hp
    refine ⟨μ, ?_, ⟨fun x t a1 a2 a3 a4 => hB x t a1 (by omega) a3 a4, fun x a1 a2 => hC x a1 (by omega)⟩, Fr.rf0 _ _ _⟩
    show jX6_wipe_2b (jX6_wipe_2 N n) N p r μ = _
    unfold jX6_wipe_2b
    rw [w2, len_e k3 (by decide) (by decide), ob_e, if_pos (by omega)]
  | k + 1, n + 1, r, μ, hr, h0, hn, hp, hA, hB, hC => by
    obtain ⟨⟨k1, k2', k3, k4⟩, w0, w1, w2, w3⟩ := id hp
    have hAr := hA r (by omega) (by omega)
    have step : ∃ la t0 : Int, i_min (m_gt μ (p + 3) r) 849 = la ∧ i_max (m_gt μ (p + 2) r) 0 = t0 ∧ la < 850 ∧ 0 ≤ t0 ∧ (t0 + (la - t0 + 1).toNat = la + 1 ∨ ((la - t0 + 1).toNat = 0 ∧ la < t0)) ∧ ∀ t, 0 ≤ t → t < 850 → (t < t0 ∨ la < t) → m_gt μ c (r * 850 + t) = 0 := by
      rcases hAr with ⟨a1, a2, a3, a4⟩ | ⟨a1, a2, a3⟩
      · refine ⟨m_gt μ (p + 3) r, m_gt μ (p + 2) r, ?_, ?_, a3, a2, Or.inl (by omega), a4⟩
        · unfold i_min; rw [if_neg (by omega)]
        · unfold i_max; rw [if_neg (by omega)]
      · refine ⟨-1, 850, ?_, ?_, by omega, by omega, Or.inr (by decide), fun t t0 t1 _ => a3 t t0 t1⟩
        · rw [a2]; rfl
        · rw [a1]; rfl
    obtain ⟨la, t0, s1, s2, s3, s4, s5, s6⟩ := step
    obtain ⟨μ1, e1, e2, e3, e4, e5, e6⟩ := wipe_37 (N := N) (r := r) hpc (by omega) s3 (k2 := jX6_wipe_2 N n) (la - t0 + 1).toNat N t0 (μ := μ) s5 s4 (by omega) hp
    have gp : ∀ i, m_gt μ1 p i = m_gt μ p i := fun i => e6.2.2 p i (by simp; omega) (by simp)
    have K1 : SPK μ1 p c := ⟨⟨by rw [e6.kd]; exact k1, by rw [e6.kd]; exact k2', by rw [e6.kd]; exact k3, by rw [e6.kd]; exact k4⟩, by rw [gp]; exact w0, by rw [gp]; exact w1, by rw [gp]; exact w2, by rw [gp]; exact w3⟩
    have hz : ∀ t, 0 ≤ t → t < 850 → m_gt μ1 c (r * 850 + t) = 0 := by
      intro t t1 t2
      by_cases z : t0 ≤ t ∧ t ≤ la
      · exact e2 t z.1 z.2
      · by_cases y : r * 850 + t < r * 850 + t0 ∨ r * 850 + la < r * 850 + t
        · rw [e3 _ y]; exact s6 t t1 t2 (by omega)
        · omega
    have hoth : ∀ x t, 0 ≤ t → t < 850 → x ≠ r → m_gt μ1 c (x * 850 + t) = m_gt μ c (x * 850 + t) := by
      intro x t t1 t2 hx
      by_cases y : t0 ≤ la
      · refine e3 _ ?_
        by_cases z : x < r
        · left; omega
        · right; omega
      · exact e3 _ (by omega)
    obtain ⟨μ2, g1, g2, g3⟩ := wipe_2 hN hpc k n (r + 1) (μ := μ1) (by omega) (by omega) (by omega) K1 (fun x x0 x1 => by
        have := hA x (by omega) x1
        rw [e4 x, e5 x, if_neg (by omega), if_neg (by omega)]
        rcases this with ⟨a1, a2, a3, a4⟩ | ⟨a1, a2, a3⟩
        · exact Or.inl ⟨a1, a2, a3, fun t t0 t1 ht => by rw [hoth x t t0 t1 (by omega)]; exact a4 t t0 t1 ht⟩
        · exact Or.inr ⟨a1, a2, fun t t0 t1 => by rw [hoth x t t0 t1 (by omega)]; exact a3 t t0 t1⟩)
      (fun x t x0 x1 t0 t1 => by
        by_cases z : x = r
        · rw [z]; exact hz t t0 t1
        · rw [hoth x t t0 t1 z]; exact hB x t x0 (by omega) t0 t1)
      (fun x x0 x1 => by
        rw [e4 x, e5 x]
        by_cases z : x = r
        · rw [if_pos z, if_pos z]; exact ⟨rfl, rfl⟩
        · rw [if_neg z, if_neg z]; exact hC x x0 (by omega))
    refine ⟨μ2, ?_, g2, e6.trI g3⟩
    rw [← g1, ← e1]
    show jX6_wipe_2b (jX6_wipe_2 N n) N p r μ = _
    unfold jX6_wipe_2b
    rw [w2, len_e k3 (by decide) (by decide), ob_e, if_neg (by omega), high_X hp (by omega), b2_e, bnd_e, w0, i_sub_e (by omega) (by omega), w2, ald_e k3 (by omega) (by omega), ob_e, bnd_e, s2, show (850 : Int) - 1 = 849 from rfl, s1]
/-! what rows hold: ways, counted or marked -/
def cT (L : List Wy) (o : Ow) (s : Int) : Nat := L.countP (fun w => decide (w.1 = o ∧ w.2.1 = s))
def cMk (L : List Wy) (o : Ow) (s : Int) (x : Nat) : Nat := L.countP (fun w => decide (w.1 = o ∧ w.2.1 = s ∧ w.2.2 = (x : Int)))
def RV (b : Bool) (L : List Wy) (o : Ow) (s v : Int) : Prop := if b then v = mnI CM (cT L o s) else ps10 v ∧ ∀ x : Nat, x < 10 → tb v x = decide (0 < cMk L o s x)
def LH (L : List Wy) (o : Ow) (lo hi : Int) : Prop := ((∃ w ∈ L, w.1 = o) ∧ (∃ w ∈ L, w.1 = o ∧ w.2.1 + 400 = lo) ∧ (∃ w ∈ L, w.1 = o ∧ w.2.1 + 400 = hi) ∧ ∀ w ∈ L, w.1 = o → lo ≤ w.2.1 + 400 ∧ w.2.1 + 400 ≤ hi) ∨ ((∀ w ∈ L, w.1 ≠ o) ∧ lo = 850 ∧ hi = -1)
def SpR (b : Bool) (L : List Wy) (p c : Int) (μ : Mm) : Prop := (∀ o, OwOK o → ∀ t, 0 ≤ t → t < 850 → RV b L o (t - 400) (m_gt μ c (si o * 850 + t))) ∧ ∀ o, OwOK o → LH L o (m_gt μ (p + 2) (si o)) (m_gt μ (p + 3) (si o))
/-- ways within the rows -/
def LB (L : List Wy) : Prop := ∀ w ∈ L, OwOK w.1 ∧ -400 ≤ w.2.1 ∧ w.2.1 ≤ 449 ∧ 0 ≤ w.2.2 ∧ w.2.2 ≤ 9
theorem cT_zero {L : List Wy} {o : Ow} {s : Int} : cT L o s = 0 ↔ ∀ w ∈ L, ¬ (w.1 = o ∧ w.2.1 = s) := by
  unfold cT
  rw [List.countP_eq_zero]
  exact ⟨fun h w hw q => h w hw (decide_eq_true q), fun h w hw q => h w hw (of_decide_eq_true q)⟩
theorem RV.zero {b : Bool} {L : List Wy} (hL : LB L) {o : Ow} {s v : Int} (h : RV b L o s v) : v = 0 ↔ cT L o s = 0 := by
  unfold RV at h
  cases b with
  | true =>
    rw [if_pos rfl] at h
    rw [h]
    unfold mnI CM
    split <;> omega
  | false =>
    rw [if_neg (by decide)] at h
    rw [cT_zero]
    constructor
    · intro z w hw q
      have hm := hL w hw
      have := h.2 w.2.2.toNat (by omega)
      rw [z, tb_zero] at this
      have h2 : ¬ 0 < cMk L o s w.2.2.toNat := by
        intro q
        rw [decide_eq_true q] at this
        cases this
      apply h2
      unfold cMk
      rw [List.countP_pos_iff]
      exact ⟨w, hw, decide_eq_true ⟨q.1, q.2, by omega⟩⟩
    · intro z
      have hv : ∀ x : Nat, x < 10 → tb v x = false := by
        intro x hx
        rw [h.2 x hx]
        refine decide_eq_false (fun q => ?_)
        unfold cMk at q
        rw [List.countP_pos_iff] at q
        obtain ⟨w, hw, e⟩ := q
        have e := of_decide_eq_true e
        exact z w hw ⟨e.1, e.2.1⟩
      have h0 := h.1.1
      have h1 := h.1.2
      have : v.toNat = 0 := by
        apply Nat.eq_of_testBit_eq
        intro k
        rw [Nat.zero_testBit]
        by_cases c : k < 10
        · exact hv k c
        · apply Nat.testBit_lt_two_pow
          have : 2 ^ 10 ≤ 2 ^ k := Nat.pow_le_pow_right (by decide) (by omega)
          omega
      omega
theorem ois {r : Int} (h0 : 0 ≤ r) (h1 : r < 14) : ∃ o, OwOK o ∧ si o = r := by
  have := si_owl ⟨r.toNat, by omega⟩
  dsimp only at this
  have e := of_decide_eq_true this
  rw [show ((r.toNat : Nat) : Int) = r by omega] at e
  refine ⟨_, owl_ok _ ?_, e⟩
  have he : owl.length = 14 := rfl
  have hl : r.toNat < owl.length := by rw [he]; omega
  rw [List.getD_eq_getElem?_getD, List.getElem?_eq_getElem hl]
  exact List.getElem_mem hl
theorem SpR.nil {b : Bool} {p c : Int} {μ : Mm} (h : ZR p c μ) : SpR b [] p c μ := by
  refine ⟨fun o ho t t0 t1 => ?_, fun o ho => ?_⟩
  · have hs := si_ok ho
    rw [h.1 _ t hs.1 hs.2 t0 t1]
    unfold RV
    cases b with
    | true =>
      have e : cT ([] : List Wy) o (t - 400) = 0 := rfl
      rw [if_pos rfl, e]
      unfold mnI CM
      rw [if_pos (by decide)]
      rfl
    | false =>
      rw [if_neg (by decide)]
      refine ⟨⟨by decide, by decide⟩, fun x _ => ?_⟩
      rw [tb_zero]
      rfl
  · have hs := si_ok ho
    exact Or.inr ⟨fun w hw => absurd hw (by simp), h.2 _ hs.1 hs.2⟩
theorem wipe_X {N : Nat} (hN : 1000000 ≤ N) {p c : Int} (hpc : pc p c) {b : Bool} {L : List Wy} (hL : LB L) {μ : Mm} (hp : SPK μ p c) (h : SpR b L p c μ) : ∃ μ', jX6_wipe N p μ = some μ' ∧ ZR p c μ' ∧ Fr [c, p + 2, p + 3] [] μ μ' := by
  unfold pc at hpc
  refine wipe_2 hN (by omega) 14 N 0 (by omega) (by omega) (by omega) hp (fun x x0 x1 => ?_) (fun x t x0 x1 => by omega) (fun x x0 x1 => by omega)
  obtain ⟨o, ho, rfl⟩ := ois x0 x1
  rcases h.2 o ho with ⟨⟨w0, m0, q0⟩, ⟨w1, m1, q1, z1⟩, ⟨w2, m2, q2, z2⟩, hb⟩ | ⟨hn, hlo, hhi⟩
  · left
    have hb1 := hL w1 m1
    have hb2 := hL w2 m2
    have hb3 := hb w0 m0 q0
    refine ⟨by omega, by omega, by omega, fun t t0 t1 ht => ?_⟩
    refine (RV.zero hL (h.1 o ho t t0 t1)).mpr (cT_zero.mpr (fun w hw q => ?_))
    have := hb w hw q.1
    omega
  · right
    refine ⟨hlo, hhi, fun t t0 t1 => ?_⟩
    exact (RV.zero hL (h.1 o ho t t0 t1)).mpr (cT_zero.mpr (fun w hw q => hn w hw q.1))
