/-! ===== PURE: players ===== -/
abbrev Pl : Type := Int → List Int
def POK (P : Pl) : Prop := ∀ p, 0 ≤ p → p ≤ 5 → (P p).length ≤ 10 ∧ ∀ t ∈ P p, -1000 ≤ t ∧ t ≤ 1000
def PX (P : Pl) (μ : Mm) : Prop := ∀ p, 0 ≤ p → p ≤ 5 → m_gt μ 47 p = (P p).length ∧ Row μ 46 (p * 10) (P p)
def PM (P : Pl) (μ : Mm) : Prop := ∀ p, 0 ≤ p → p ≤ 5 → m_gt μ 101 p = (P p).length ∧ Row μ 102 (10 * p) (P p)
theorem PX.ag {P : Pl} {a b : Mm} (h : PX P a) (g : Ag [46, 47] [] a b) : PX P b := fun p h0 h1 => ⟨by rw [g.1 47 (by decide)]; exact (h p h0 h1).1, (h p h0 h1).2.ag g (by decide)⟩
theorem PM.ag {P : Pl} {a b : Mm} (h : PM P a) (g : Ag [101, 102] [] a b) : PM P b := fun p h0 h1 => ⟨by rw [g.1 101 (by decide)]; exact (h p h0 h1).1, (h p h0 h1).2.ag g (by decide)⟩
def lsum : List Int → Int
  | [] => 0
  | t :: l => t + lsum l
theorem lsum_ok {b : Int} : ∀ {l : List Int}, (∀ t ∈ l, -b ≤ t ∧ t ≤ b) → -(b * l.length) ≤ lsum l ∧ lsum l ≤ b * l.length
  | [], _ => by simp [lsum]
  | t :: l, h => by
    have h1 := h t (by simp)
    have h2 := lsum_ok (l := l) (fun x hx => h x (by simp [hx]))
    rw [lsum, List.length_cons, show ((l.length + 1 : Nat) : Int) = (l.length : Int) + 1 by omega, Int.mul_add]
    omega
def mean (l : List Int) : Int := if l.length = 0 then 0 else lsum l / l.length
def best : List Int → Int
  | [] => 0
  | t :: l => l.foldl (fun a b => if a < b then b else a) t
def sgn (x : Int) : Int := if x < 0 then -1 else if x = 0 then 0 else 1
/-- games of two, each with what is put to it -/
def meet2 (d : Int) : List Int → List Int → Int
  | a :: l, b :: r => (1 + sgn (a + d - b)) + meet2 d l r
  | _, _ => 0
def hcpOf (G : Gm) (P : Pl) (p : Int) : Int := hcp G (mean (P p)) (P p).length
def meetOf (G : Gm) (P : Pl) (p q : Int) : Int := meet2 (hcpOf G P p - hcpOf G P q) (P p) (P q)
def psum (g : Int → Int) : Nat → Int
  | 0 => 0
  | n + 1 => psum g n + g n
theorem psum_ok {g : Int → Int} {b : Int} (hg : ∀ i, 0 ≤ g i ∧ g i ≤ b) : ∀ n : Nat, 0 ≤ psum g n ∧ psum g n ≤ b * n
  | 0 => by simp [psum]
  | n + 1 => by
    have h1 := psum_ok hg n
    have h2 := hg n
    rw [psum, show ((n + 1 : Nat) : Int) = (n : Int) + 1 by omega, Int.mul_add]
    omega
def meetsOf (G : Gm) (P : Pl) (p : Int) : Int := psum (fun q => if q = p then 0 else meetOf G P p q) 6
def placeOf (G : Gm) (P : Pl) (p : Int) : Int := psum (fun q => if meetsOf G P q ≤ meetsOf G P p then 0 else 1) 6
theorem sgn_ok (x : Int) : -1 ≤ sgn x ∧ sgn x ≤ 1 := by unfold sgn; split <;> (try split) <;> omega
theorem meet2_ok (d : Int) : ∀ l r : List Int, 0 ≤ meet2 d l r ∧ meet2 d l r ≤ 2 * l.length
  | [], r => by cases r <;> simp [meet2]
  | a :: l, [] => by simp [meet2] <;> omega
  | a :: l, b :: r => by
    have h1 := sgn_ok (a + d - b)
    have h2 := meet2_ok d l r
    rw [meet2, List.length_cons]
    omega
theorem mean_ok {l : List Int} (h : l.length ≤ 10) (hb : ∀ t ∈ l, -1000 ≤ t ∧ t ≤ 1000) : -10000 ≤ mean l ∧ mean l ≤ 10000 := by
  have h1 := lsum_ok hb
  unfold mean
  split
  · omega
  · have hp : (0 : Int) < l.length := by omega
    refine ⟨Int.le_ediv_of_mul_le hp (by omega), ?_⟩
    by_cases h0 : 0 ≤ lsum l
    · have := Int.ediv_le_self (l.length : Int) h0; omega
    · have := Int.ediv_neg_of_neg_of_pos (show lsum l < 0 by omega) hp; omega
theorem sgn_X {N : Nat} {x : Int} {μ : Mm} (h1 : -1000000 ≤ x) (h2 : x ≤ 1000000) : jJ6_signum_0f7a4 N x μ = some (sgn x, μ) := by
  unfold jJ6_signum_0f7a4
  congr 2
  have ox : okI x := ⟨by omega, by omega⟩
  rw [i_neg_e (by omega) (by omega)]
  have on : okI (-x) := ⟨by omega, by omega⟩
  have key : i_or (i_shr x 31) (i_ushr (-x) 31) = ((Int32.ofInt x).toBitVec.sshiftRight 31 ||| ((Int32.ofInt (-x)).toBitVec >>> 31)).toInt := by
    unfold i_or i_shr i_ushr
    rw [Int32.ofInt_toInt, Int32.ofInt_toInt]
    rfl
  rw [key]
  have m1 : (Int32.ofInt x).toBitVec.msb = decide (x < 0) := by
    rw [BitVec.msb_eq_toInt]
    show decide ((Int32.ofInt x).toInt < 0) = _
    rw [toI ox]
  have m2 : (Int32.ofInt (-x)).toBitVec.msb = decide (-x < 0) := by
    rw [BitVec.msb_eq_toInt]
    show decide ((Int32.ofInt (-x)).toInt < 0) = _
    rw [toI on]
  generalize (Int32.ofInt x).toBitVec = a at m1 ⊢
  generalize (Int32.ofInt (-x)).toBitVec = b at m2 ⊢
  have hbits : ∀ c : BitVec 32, c.toInt = sgn x → (∀ i, i < 32 → c.getLsbD i = (a.sshiftRight 31 ||| (b >>> 31)).getLsbD i) → (a.sshiftRight 31 ||| (b >>> 31)).toInt = sgn x := by
    intro c hc hi
    rw [← hc]
    congr 1
    exact (BitVec.eq_of_getLsbD_eq (fun i h => hi i h)).symm
  have gl : ∀ i, i < 32 → (a.sshiftRight 31 ||| (b >>> 31)).getLsbD i = (a.msb || (decide (i = 0) && b.msb)) := by
    intro i hi
    rw [BitVec.getLsbD_or, BitVec.getLsbD_sshiftRight, BitVec.getLsbD_ushiftRight]
    by_cases c : i = 0
    · subst c
      simp [BitVec.msb_eq_getLsbD_last]
    · have : b.getLsbD (31 + i) = false := BitVec.getLsbD_of_ge _ _ (by omega)
      rw [if_neg (show ¬ 31 + i < 32 by omega)]
      simp [c, this, show ¬ 32 ≤ i by omega]
  unfold sgn at hbits ⊢
  by_cases c1 : x < 0
  · refine hbits (BitVec.allOnes 32) ?_ (fun i hi => ?_)
    · rw [if_pos c1]; rfl
    · rw [gl i hi, m1, BitVec.getLsbD_allOnes]
      simp [c1, hi]
  · by_cases c2 : x = 0
    · refine hbits 0#32 ?_ (fun i hi => ?_)
      · rw [if_neg c1, if_pos c2]; rfl
      · rw [gl i hi, m1, m2]
        simp [c2]
    · refine hbits 1#32 ?_ (fun i hi => ?_)
      · rw [if_neg c1, if_neg c2]; rfl
      · rw [gl i hi, m1, m2, BitVec.getLsbD_one]
        simp [c1, show 0 < x by omega]
theorem knows_X {N : Nat} {c p : Int} {μ : Mm} : jX4_knows N c p μ = some (if 0 ≤ p ∧ p ≤ 5 then 1 else 0, μ) := by
  unfold jX4_knows jX4_knows_14 jX4_knows_15
  by_cases c1 : p < 0
  · rw [if_pos c1, if_neg (show ¬ (0 ≤ p ∧ p ≤ 5) by omega), z_e (Or.inl rfl)]
  · by_cases c2 : 6 ≤ p
    · rw [if_neg c1, if_pos c2, if_neg (show ¬ (0 ≤ p ∧ p ≤ 5) by omega), z_e (Or.inl rfl)]
    · rw [if_neg c1, if_neg c2, if_pos (show 0 ≤ p ∧ p ≤ 5 by omega), z_e (Or.inr rfl)]
theorem isIn_M {N : Nat} {v a b : Int} {μ : Mm} : jX8_isIn N v a b μ = some (if a ≤ v ∧ v ≤ b then 1 else 0, μ) := by
  unfold jX8_isIn jX8_isIn_17 jX8_isIn_18
  simp only [l_cmp_lt0, l_cmp_gt0]
  by_cases c1 : v < a
  · rw [if_pos c1, if_neg (show ¬ (a ≤ v ∧ v ≤ b) by omega), z_e (Or.inl rfl)]
  · by_cases c2 : b < v
    · rw [if_neg c1, if_pos c2, if_neg (show ¬ (a ≤ v ∧ v ≤ b) by omega), z_e (Or.inl rfl)]
    · rw [if_neg c1, if_neg c2, if_pos (show a ≤ v ∧ v ≤ b by omega), z_e (Or.inr rfl)]
theorem gamesOf_X {N : Nat} {P : Pl} {p : Int} {μ : Mm} (hK : KR μ) (hP : PX P μ) (h0 : 0 ≤ p) (h1 : p ≤ 5) : jX4_gamesOf N 45 p μ = some (((P p).length : Int), μ) := by
  unfold jX4_gamesOf
  rw [knows_X, b2_e, if_pos (show 0 ≤ p ∧ p ≤ 5 from ⟨h0, h1⟩), if_neg (by decide), r_45_1 hK, ald_e (k_47 hK) h0 (by omega), ob_e, (hP p h0 h1).1]
  rfl
theorem totalOf_X {N : Nat} {P : Pl} {p v : Int} {i : Nat} {μ : Mm} (hK : KR μ) (hO : POK P) (hP : PX P μ) (h0 : 0 ≤ p) (h1 : p ≤ 5) (hv : (P p)[i]? = some v) : jX4_totalOf N 45 p i μ = some (v, μ) := by
  have hl : i < (P p).length := (List.getElem?_eq_some_iff.mp hv).1
  have h10 := (hO p h0 h1).1
  unfold jX4_totalOf
  rw [if_neg (by omega), gamesOf_X hK hP h0 h1, b2_e, if_neg (by omega), if_pos (by omega), r_45_0 hK, i_mul_e (by omega) (by omega), i_add_e (by omega) (by omega), ald_e (k_46 hK) (by omega) (by omega), ob_e, (hP p h0 h1).2.get hv rfl]
  rfl
theorem sumOf_X_loop {N : Nat} {P : Pl} {p : Int} {μ : Mm} (hK : KR μ) (hO : POK P) (hP : PX P μ) (h0 : 0 ≤ p) (h1 : p ≤ 5) : ∀ (k n i : Nat) (v : Int), i + k = (P p).length → k < n → -(1000 * i) ≤ v → v ≤ 1000 * i → jX4_sumOf_4 N n 45 p v i μ = some (v + lsum ((P p).drop i), μ)
  | 0, n + 1, i, v, hi, hn, q1, q2 => by
    show jX4_sumOf_4b _ _ _ _ _ _ _ = _
    unfold jX4_sumOf_4b
    rw [gamesOf_X hK hP h0 h1, b2_e, if_pos (by omega), List.drop_eq_nil_of_le (by omega), lsum, Int.add_zero]
  | k + 1, n + 1, i, v, hi, hn, q1, q2 => by
    obtain ⟨t, ht, htm, hd⟩ := drop_get (show i < (P p).length by omega)
    have hb := (hO p h0 h1).2 t htm
    have hl := (hO p h0 h1).1
    have := sumOf_X_loop hK hO hP h0 h1 (N := N) k n (i + 1) (v + t) (by omega) (by omega) (by omega) (by omega)
    show jX4_sumOf_4b _ _ _ _ _ _ _ = _
    unfold jX4_sumOf_4b
    rw [gamesOf_X hK hP h0 h1, b2_e, if_neg (by omega), totalOf_X hK hO hP h0 h1 ht, b2_e, bnd_e, bnd_e, i_add_e (by omega) (by omega), i_add_e (by omega) (by omega), hd, lsum, ← Int.add_assoc]
    exact this
  | _ + 1, 0, _, _, _, hn, _, _ => absurd hn (by omega)
  | 0, 0, _, _, _, hn, _, _ => absurd hn (by omega)
theorem sumOf_X {N : Nat} (hN : 1000000 ≤ N) {P : Pl} {p : Int} {μ : Mm} (hK : KR μ) (hO : POK P) (hP : PX P μ) (h0 : 0 ≤ p) (h1 : p ≤ 5) : jX4_sumOf N 45 p μ = some (lsum (P p), μ) := by
  have := sumOf_X_loop hK hO hP h0 h1 (N := N) (P p).length N 0 0 (by omega) (by have := (hO p h0 h1).1; omega) (by omega) (by omega)
  rw [Int.zero_add] at this
  exact this
theorem sumOf_M_loop {N : Nat} {P : Pl} {p : Int} {μ : Mm} (hK : KR μ) (hO : POK P) (hP : PM P μ) (h0 : 0 ≤ p) (h1 : p ≤ 5) : ∀ (k n i : Nat) (v : Int), i + k = (P p).length → k < n → -(1000 * i) ≤ v → v ≤ 1000 * i → jX8_sumOf_4 N n 50 p v i μ = some (v + lsum ((P p).drop i), μ)
  | 0, n + 1, i, v, hi, hn, q1, q2 => by
    show jX8_sumOf_4b (jX8_sumOf_4 N n) N 50 p v i μ = _
    unfold jX8_sumOf_4b
    rw [r_50_81 hK, ald_e (k_101 hK) h0 (by omega), ob_e, (hP p h0 h1).1, if_pos (by omega), List.drop_eq_nil_of_le (by omega), lsum, Int.add_zero]
  | k + 1, n + 1, i, v, hi, hn, q1, q2 => by
    obtain ⟨t, ht, htm, hd⟩ := drop_get (show i < (P p).length by omega)
    have hb := (hO p h0 h1).2 t htm
    have hl := (hO p h0 h1).1
    have := sumOf_M_loop hK hO hP h0 h1 (N := N) k n (i + 1) (v + t) (by omega) (by omega) (by omega) (by omega)
    show jX8_sumOf_4b (jX8_sumOf_4 N n) N 50 p v i μ = _
    unfold jX8_sumOf_4b
    rw [r_50_81 hK, ald_e (k_101 hK) h0 (by omega), ob_e, (hP p h0 h1).1, if_neg (by omega), r_50_82 hK, i_mul_e (by omega) (by omega), i_add_e (x := 10 * p) (by omega) (by omega), ald_e (k_102 hK) (by omega) (by omega), ob_e, (hP p h0 h1).2.get ht rfl, bnd_e, bnd_e, i_add_e (by omega) (by omega), i_add_e (by omega) (by omega), hd, lsum, ← Int.add_assoc]
    exact this
  | _ + 1, 0, _, _, _, hn, _, _ => absurd hn (by omega)
  | 0, 0, _, _, _, hn, _, _ => absurd hn (by omega)
theorem sumOf_M {N : Nat} (hN : 1000000 ≤ N) {P : Pl} {p : Int} {μ : Mm} (hK : KR μ) (hO : POK P) (hP : PM P μ) (h0 : 0 ≤ p) (h1 : p ≤ 5) : jX8_sumOf N 50 p μ = some (lsum (P p), μ) := by
  have := sumOf_M_loop hK hO hP h0 h1 (N := N) (P p).length N 0 0 (by omega) (by have := (hO p h0 h1).1; omega) (by omega) (by omega)
  rw [Int.zero_add] at this
  exact this
theorem meanOf_X {N : Nat} (hN : 1000000 ≤ N) {P : Pl} {p : Int} {μ : Mm} (hK : KR μ) (hO : POK P) (hP : PX P μ) (h0 : 0 ≤ p) (h1 : p ≤ 5) : jX4_meanOf N 45 p μ = some (mean (P p), μ) := by
  have hl := (hO p h0 h1).1
  have hb := lsum_ok (hO p h0 h1).2
  unfold jX4_meanOf mean
  rw [gamesOf_X hK hP h0 h1, b2_e]
  by_cases c : (P p).length = 0
  · rw [if_neg (by omega), if_pos c]; rfl
  · rw [if_pos (by omega), if_neg c, sumOf_X hN hK hO hP h0 h1, b2_e, fdiv_X (by omega) (by omega) (by omega) (by omega) (by omega), b2_e, fd, if_neg (by omega), if_pos (by omega)]
    rfl
theorem meanOf_M {N : Nat} (hN : 1000000 ≤ N) {P : Pl} {p : Int} {μ : Mm} (hK : KR μ) (hO : POK P) (hP : PM P μ) (h0 : 0 ≤ p) (h1 : p ≤ 5) : jX8_meanOf N 50 p μ = some (mean (P p), μ) := by
  have hl := (hO p h0 h1).1
  have hb := lsum_ok (hO p h0 h1).2
  unfold jX8_meanOf mean
  rw [r_50_81 hK, ald_e (k_101 hK) h0 (by omega), ob_e, (hP p h0 h1).1]
  by_cases c : (P p).length = 0
  · rw [if_neg (by omega), if_pos c]
  · have hp : (0 : Int) < (P p).length := by omega
    have hq := td_ok (a := lsum (P p)) (b := (P p).length) (by omega) (by omega)
    have hm := mul_td (a := lsum (P p)) (b := (P p).length) (by omega) (by omega)
    rw [if_pos (by omega), if_neg c, sumOf_M hN hK hO hP h0 h1, b2_e, r_50_81 hK, ald_e (k_101 hK) h0 (by omega), ob_e, (hP p h0 h1).1, n_e (by omega), bnd_e, ob_e, i_div_e ⟨by omega, by omega⟩ ⟨by omega, by omega⟩ (by omega), i_mul_e (by rw [Int.mul_comm]; omega) (by rw [Int.mul_comm]; omega), i_sub_e (by omega) (by omega), Int.mul_comm, fd_p hp]
    unfold jX8_meanOf_45
    split <;> rfl
/-! handicaps -/
theorem handicapOf_M {N : Nat} (hN : 1000000 ≤ N) {G : Gm} (hG : COK G) {P : Pl} {p : Int} {μ : Mm} (hK : KR μ) (hL : GM G μ) (hO : POK P) (hP : PM P μ) (h0 : 0 ≤ p) (h1 : p ≤ 5) : ∃ μ', jX8_handicapOf N 50 p μ = some (hcpOf G P p, μ') ∧ Fr [88] pfs μ μ' := by
  have hl := (hO p h0 h1).1
  have hm := mean_ok hl (hO p h0 h1).2
  obtain ⟨p1, p2⟩ := parts_M μ 0 0 0 0 (mean (P p)) (P p).length
  have f4 : Fr [] pfs μ (m_st (m_st (m_st (m_st μ 50 52 0) 50 53 0) 50 54 0) 50 55 0) := ((((Fr.st μ 50 52 0).tr (Fr.st _ 50 53 0)).tr (Fr.st _ 50 54 0)).tr (Fr.st _ 50 55 0)).mono (by decide) (by decide)
  have f6 := (f4.tr (Fr.st _ 50 56 (mean (P p)))).mono (i2 := []) (s2 := pfs) (by decide) (by decide)
  have K4 := f4.KR hK (by decide)
  have K6 := f6.KR hK (by decide)
  have P4 := hP.ag (f4.ag (by decide))
  have P6 := hP.ag (f6.ag (by decide))
  have K7 := p1.KR hK (by decide)
  have L7 := hL.ag (p1.ag (by decide))
  have start : ∀ R : Option (Int × Mm), (if ¬ ((gH G).1 : Int) = (gH G).2 then (b2 (jX8_tells N 50 (gH G).1 (gH G).2 (m_st (m_st (m_st (m_st (m_st (m_st μ 50 52 0) 50 53 0) 50 54 0) 50 55 0) 50 56 (mean (P p))) 50 57 (P p).length)) fun x7 μ8 => if 0 ≤ (l_cmp x7 0) then (if (l_cmp x7 99) ≤ 0 then (jX8_handicapOf_98 N 50 (l_2i x7) μ8) else (jX8_handicapOf_98 N 50 99 μ8)) else (jX8_handicapOf_98 N 50 0 μ8)) else some (0, m_st (m_st (m_st (m_st (m_st (m_st μ 50 52 0) 50 53 0) 50 54 0) 50 55 0) 50 56 (mean (P p))) 50 57 (P p).length)) = R → jX8_handicapOf N 50 p μ = R := by
    rintro R rfl
    unfold jX8_handicapOf
    rw [bnd_e, bnd_e, bnd_e, bnd_e, meanOf_M hN K4 hO P4 h0 h1, b2_e, bnd_e, r_50_81 K6, ald_e (k_101 K6) h0 (by omega), ob_e, (P6 p h0 h1).1, bnd_e, r_50_40 K7, r_50_41 K7, ald_e (k_83 K7) (by decide) (by decide), ob_e, ald_e (k_84 K7) (by decide) (by decide), ob_e, L7.1.2.2.2.2.2.1, L7.1.2.2.2.2.2.2]
    rfl
  unfold hcpOf hcp
  by_cases c : (gH G).1 = (gH G).2
  · have st := start _ rfl
    rw [if_neg (fun z => z (by omega))] at st
    rw [if_pos c]
    exact ⟨_, st, p1.mono (by decide) (by decide)⟩
  · obtain ⟨g1, g2, g3⟩ := hG.2.2.2
    obtain ⟨μ8, e1, e2, e3⟩ := tells_M hN (fenv_oke (a := 0) (b := 0) (c := 0) (d := 0) (e := mean (P p)) (f := (P p).length) (by omega) (by omega) (by omega) (by omega) (by omega) (by omega)) g1 g2 hG.1 K7 L7.2.1.1 p2 (g3.resolve_left c)
    have hb := ev_n e2
    refine ⟨μ8, start _ ?_, (p1.tr e3).mono (by decide) (by decide)⟩
    rw [if_pos (by omega), if_neg c, e1, b2_e]
    generalize ev (fenv 0 0 0 0 (mean (P p)) (P p).length) (slc (gC G) (gH G).1 (gH G).2) = v at hb ⊢
    simp only [l_cmp_ge0, l_cmp_le0]
    unfold cl99 jX8_handicapOf_98
    by_cases c1 : v < 0
    · rw [if_neg (show ¬ 0 ≤ v by omega), if_pos c1]
    · by_cases c2 : v > 99
      · rw [if_pos (show 0 ≤ v by omega), if_neg (show ¬ v ≤ 99 by omega), if_neg c1, if_pos c2]
      · rw [if_pos (show 0 ≤ v by omega), if_pos (show v ≤ 99 by omega), if_neg c1, if_neg c2, l_2i_e (by omega) (by omega)]
def HX (G : Gm) (P : Pl) (n : Int) (μ : Mm) : Prop := ∀ p, 0 ≤ p → p < n → m_gt μ 48 p = hcpOf G P p
theorem setH_loop {N : Nat} (hN : 1000000 ≤ N) {l : Int} (hl : l = 2 ∨ l = 13) {G : Gm} (hG : COK G) {P : Pl} (hO : POK P) : ∀ (k n : Nat) (p : Int) {μ : Mm}, p + k = 6 → 0 ≤ p → k < n → KR μ → LX l G μ → PX P μ → HX G P p μ → ∃ μ', jX4_setHandicaps_2 N n 45 l p μ = some μ' ∧ HX G P 6 μ' ∧ Fr [l + 3, l + 4, 48] [(l + 1, 4)] μ μ'
  | 0, n + 1, p, μ, hp, h0, hn, hK, hL, hP, hH => by
    have : p = 6 := by omega
    subst this
    refine ⟨μ, ?_, hH, (Fr.rf μ).mono (by simp) (by simp)⟩
    show jX4_setHandicaps_2b (jX4_setHandicaps_2 N n) N 45 l 6 μ = _
    unfold jX4_setHandicaps_2b
    rw [if_pos (by omega)]
  | k + 1, n + 1, p, μ, hp, h0, hn, hK, hL, hP, hH => by
    have hlen := (hO p h0 (by omega)).1
    have hm := mean_ok hlen (hO p h0 (by omega)).2
    obtain ⟨μ1, e1, e2⟩ := handicap_X hN hl hG (m := mean (P p)) (n := (P p).length) (by omega) (by omega) hK hL
    have e3 : Fr [l + 3, l + 4, 48] [(l + 1, 4)] μ (m_st μ1 48 p (hcpOf G P p)) := (e2.tr (Fr.sa μ1 48 _ _)).mono (by simp) (by simp)
    have hK1 : KR (m_st μ1 48 p (hcpOf G P p)) := by rcases hl with rfl | rfl <;> exact e3.KR hK (by decide)
    have hL1 : LX l G (m_st μ1 48 p (hcpOf G P p)) := by rcases hl with rfl | rfl <;> exact hL.ag (e3.ag (by decide))
    have hP1 : PX P (m_st μ1 48 p (hcpOf G P p)) := by rcases hl with rfl | rfl <;> exact hP.ag (e3.ag (by decide))
    have hH1 : HX G P (p + 1) (m_st μ1 48 p (hcpOf G P p)) := by
      intro q q0 q1
      by_cases c : q = p
      · subst c; exact gt_same _ _ _ _
      · rw [gt_i _ _ _ c, e2.2.2 _ _ (by rcases hl with rfl | rfl <;> decide) (by rcases hl with rfl | rfl <;> simp)]
        exact hH q q0 (by omega)
    obtain ⟨μ2, f1, f2, f3⟩ := setH_loop hN hl hG hO k n (p + 1) (by omega) (by omega) (by omega) hK1 hL1 hP1 hH1
    refine ⟨μ2, ?_, f2, (e3.tr f3).mono (by simp) (by simp)⟩
    show jX4_setHandicaps_2b (jX4_setHandicaps_2 N n) N 45 l p μ = _
    unfold jX4_setHandicaps_2b
    rw [if_neg (by omega), meanOf_X hN hK hO hP h0 (by omega), b2_e, gamesOf_X hK hP h0 (by omega), b2_e, chk_e (LK.of hK hl).1.1, e1, b2_e, r_45_2 hK, ast_e (n := 6) (by rw [e2.kd]; exact k_48 hK) (by omega) (by omega), ob_e, bnd_e, i_add_e (by omega) (by omega)]
    exact f1
  | _ + 1, 0, _, _, _, _, hn, _, _, _, _ => absurd hn (by omega)
  | 0, 0, _, _, _, _, hn, _, _, _, _ => absurd hn (by omega)
theorem setHandicaps_X {N : Nat} (hN : 1000000 ≤ N) {l : Int} (hl : l = 2 ∨ l = 13) {G : Gm} (hG : COK G) {P : Pl} (hO : POK P) {μ : Mm} (hK : KR μ) (hL : LX l G μ) (hP : PX P μ) : ∃ μ', jX4_setHandicaps N 45 l μ = some μ' ∧ HX G P 6 μ' ∧ Fr [l + 3, l + 4, 48] [(l + 1, 4)] μ μ' :=
  setH_loop hN hl hG hO 6 N 0 (by omega) (by omega) (by omega) hK hL hP (fun p h0 h1 => absurd h1 (by omega))
/-! meetings -/
theorem handicapOf_X {N : Nat} {G : Gm} {P : Pl} {p : Int} {μ : Mm} (hK : KR μ) (hH : HX G P 6 μ) (h0 : 0 ≤ p) (h1 : p ≤ 5) : jX4_handicapOf N 45 p μ = some (hcpOf G P p, μ) := by
  unfold jX4_handicapOf
  rw [knows_X, b2_e, if_pos (show 0 ≤ p ∧ p ≤ 5 from ⟨h0, h1⟩), if_neg (by decide), r_45_2 hK, ald_e (k_48 hK) h0 (by omega), ob_e, hH p h0 (by omega)]
  rfl
theorem meet2_nil {d : Int} {l r : List Int} (h : l = [] ∨ r = []) : meet2 d l r = 0 := by
  rcases h with rfl | rfl
  · cases r <;> rfl
  · cases l <;> rfl
theorem meeting_loop {N : Nat} {P : Pl} {p q d : Int} {μ : Mm} (hd : -100 ≤ d ∧ d ≤ 100) (hK : KR μ) (hO : POK P) (hP : PX P μ) (h0 : 0 ≤ p) (h1 : p ≤ 5) (h2 : 0 ≤ q) (h3 : q ≤ 5) {m : Nat} (hm : m = (P p).length ∧ m ≤ (P q).length ∨ m = (P q).length ∧ m ≤ (P p).length) : ∀ (k n i : Nat) (v : Int), i + k = m → k < n → 0 ≤ v → v ≤ 2 * i → jX4_meeting_33 N n 45 p q m d v i μ = some (v + meet2 d ((P p).drop i) ((P q).drop i), μ)
  | 0, n + 1, i, v, hi, hn, q1, q2 => by
    show jX4_meeting_33b (jX4_meeting_33 N n) N 45 p q m d v i μ = _
    unfold jX4_meeting_33b
    rw [if_pos (by omega), meet2_nil (hm.elim (fun z => Or.inl (List.drop_eq_nil_of_le (by omega))) (fun z => Or.inr (List.drop_eq_nil_of_le (by omega)))), Int.add_zero]
  | k + 1, n + 1, i, v, hi, hn, q1, q2 => by
    have l1 := (hO p h0 h1).1
    have l2 := (hO q h2 h3).1
    obtain ⟨t, ht, htm, htd⟩ := drop_get (show i < (P p).length by omega)
    obtain ⟨s, hs, hsm, hsd⟩ := drop_get (show i < (P q).length by omega)
    have b1 := (hO p h0 h1).2 t htm
    have b2 := (hO q h2 h3).2 s hsm
    have sg := sgn_ok (t + d - s)
    have := meeting_loop hd hK hO hP h0 h1 h2 h3 hm (N := N) k n (i + 1) (v + (1 + sgn (t + d - s))) (by omega) (by omega) (by omega) (by omega)
    show jX4_meeting_33b (jX4_meeting_33 N n) N 45 p q m d v i μ = _
    unfold jX4_meeting_33b
    rw [if_neg (by omega), totalOf_X hK hO hP h0 h1 ht, b2_e, totalOf_X hK hO hP h2 h3 hs, b2_e, i_add_e (x := t) (by omega) (by omega), i_sub_e (by omega) (by omega), sgn_X (by omega) (by omega), b2_e, bnd_e, bnd_e, i_add_e (x := 1) (by omega) (by omega), i_add_e (by omega) (by omega), i_add_e (by omega) (by omega), htd, hsd, meet2, ← Int.add_assoc v (1 + sgn (t + d - s))]
    exact this
  | _ + 1, 0, _, _, _, hn, _, _ => absurd hn (by omega)
  | 0, 0, _, _, _, hn, _, _ => absurd hn (by omega)
theorem meeting_X {N : Nat} (hN : 1000000 ≤ N) {G : Gm} {P : Pl} {p q : Int} {μ : Mm} (hK : KR μ) (hO : POK P) (hP : PX P μ) (hH : HX G P 6 μ) (h0 : 0 ≤ p) (h1 : p ≤ 5) (h2 : 0 ≤ q) (h3 : q ≤ 5) : jX4_meeting N 45 p q μ = some (meetOf G P p q, μ) := by
  have a1 : 0 ≤ hcpOf G P p ∧ hcpOf G P p ≤ 99 := hcp_ok _ _ _
  have a2 : 0 ≤ hcpOf G P q ∧ hcpOf G P q ≤ 99 := hcp_ok _ _ _
  have l1 := (hO p h0 h1).1
  have l2 := (hO q h2 h3).1
  have hm : i_min ((P p).length : Int) (P q).length = (min (P p).length (P q).length : Nat) := by unfold i_min; split <;> omega
  have := meeting_loop (d := hcpOf G P p - hcpOf G P q) (by omega) hK hO hP h0 h1 h2 h3 (m := min (P p).length (P q).length) (by omega) (N := N) (min (P p).length (P q).length) N 0 0 (by omega) (by omega) (by omega) (by omega)
  unfold jX4_meeting
  rw [gamesOf_X hK hP h0 h1, b2_e, gamesOf_X hK hP h2 h3, b2_e, bnd_e, hm, handicapOf_X hK hH h0 h1, b2_e, handicapOf_X hK hH h2 h3, b2_e, bnd_e, i_sub_e (by omega) (by omega)]
  rw [Int.zero_add] at this
  exact this
theorem meets_loop {N : Nat} {P : Pl} {p q x y : Int} {μ : Mm} (hx : 0 ≤ x ∧ x ≤ 99) (hy : 0 ≤ y ∧ y ≤ 99) (hK : KR μ) (hO : POK P) (hP : PM P μ) (h0 : 0 ≤ p) (h1 : p ≤ 5) (h2 : 0 ≤ q) (h3 : q ≤ 5) : ∀ (k n i : Nat) (v : Int), i + k = (P p).length → k < n → 0 ≤ v → v ≤ 2 * i → jX8_meets_19 N n 50 p q x y v i μ = some (v + meet2 (x - y) ((P p).drop i) ((P q).drop i), μ)
  | 0, n + 1, i, v, hi, hn, q1, q2 => by
    show jX8_meets_19b (jX8_meets_19 N n) N 50 p q x y v i μ = _
    unfold jX8_meets_19b
    rw [r_50_81 hK, ald_e (k_101 hK) h0 (by omega), ob_e, (hP p h0 h1).1, if_pos (by omega), meet2_nil (Or.inl (List.drop_eq_nil_of_le (by omega))), Int.add_zero]
    rfl
  | k + 1, n + 1, i, v, hi, hn, q1, q2 => by
    have l1 := (hO p h0 h1).1
    have l2 := (hO q h2 h3).1
    show jX8_meets_19b (jX8_meets_19 N n) N 50 p q x y v i μ = _
    unfold jX8_meets_19b
    rw [r_50_81 hK, ald_e (k_101 hK) h0 (by omega), ob_e, (hP p h0 h1).1, if_neg (by omega), ald_e (k_101 hK) h2 (by omega), ob_e, (hP q h2 h3).1]
    by_cases c : (P q).length ≤ i
    · rw [if_pos (by omega), meet2_nil (Or.inr (List.drop_eq_nil_of_le (by omega))), Int.add_zero]
      rfl
    · obtain ⟨t, ht, htm, htd⟩ := drop_get (show i < (P p).length by omega)
      obtain ⟨s, hs, hsm, hsd⟩ := drop_get (show i < (P q).length by omega)
      have b1 := (hO p h0 h1).2 t htm
      have b2 := (hO q h2 h3).2 s hsm
      have sg := sgn_ok (t + (x - y) - s)
      have := meets_loop hx hy hK hO hP h0 h1 h2 h3 (N := N) k n (i + 1) (v + (1 + sgn (t + (x - y) - s))) (by omega) (by omega) (by omega) (by omega)
      rw [if_neg (by omega), r_50_82 hK, i_mul_e (x := 10) (by omega) (by omega), i_mul_e (x := 10) (by omega) (by omega), i_add_e (x := 10 * p) (by omega) (by omega), i_add_e (x := 10 * q) (by omega) (by omega), ald_e (k_102 hK) (by omega) (by omega), ob_e, ald_e (k_102 hK) (by omega) (by omega), ob_e, (hP p h0 h1).2.get ht rfl, (hP q h2 h3).2.get hs rfl, bnd_e, i_add_e (x := t) (by omega) (by omega), i_sub_e (y := s) (by omega) (by omega), i_sub_e (by omega) (by omega), htd, hsd, meet2, ← Int.add_assoc v (1 + sgn (t + (x - y) - s))]
      have nx : ∀ w : Int, w = 1 + sgn (t + (x - y) - s) → jX8_meets_94 (jX8_meets_19 N n) N 50 p q x y i w v μ = some (v + (1 + sgn (t + (x - y) - s)) + meet2 (x - y) ((P p).drop (i + 1)) ((P q).drop (i + 1)), μ) := by
        rintro w rfl
        unfold jX8_meets_94
        rw [bnd_e, bnd_e, i_add_e (by omega) (by omega), i_add_e (by omega) (by omega)]
        exact this
      unfold sgn at nx ⊢
      by_cases c1 : t + x - s - y ≤ 0
      · rw [if_pos c1]
        by_cases c2 : t + x - s - y = 0
        · rw [if_neg (fun z => z c2)]
          exact nx 1 (by rw [if_neg (by omega), if_pos (by omega)]; rfl)
        · rw [if_pos c2]
          exact nx 0 (by rw [if_pos (by omega)]; rfl)
      · rw [if_neg c1]
        exact nx 2 (by rw [if_neg (by omega), if_neg (by omega)]; rfl)
  | _ + 1, 0, _, _, _, hn, _, _ => absurd hn (by omega)
  | 0, 0, _, _, _, hn, _, _ => absurd hn (by omega)
theorem meets_M {N : Nat} (hN : 1000000 ≤ N) {G : Gm} (hG : COK G) {P : Pl} {p q : Int} {μ : Mm} (hK : KR μ) (hL : GM G μ) (hO : POK P) (hP : PM P μ) (h0 : 0 ≤ p) (h1 : p ≤ 5) (h2 : 0 ≤ q) (h3 : q ≤ 5) : ∃ μ', jX8_meets N 50 p q μ = some (meetOf G P p q, μ') ∧ Fr [88] pfs μ μ' := by
  have a1 : 0 ≤ hcpOf G P p ∧ hcpOf G P p ≤ 99 := hcp_ok _ _ _
  have a2 : 0 ≤ hcpOf G P q ∧ hcpOf G P q ≤ 99 := hcp_ok _ _ _
  obtain ⟨μ1, e1, e2⟩ := handicapOf_M hN hG hK hL hO hP h0 h1
  obtain ⟨μ2, f1, f2⟩ := handicapOf_M hN hG (e2.KR hK (by decide)) (hL.ag (e2.ag (by decide))) hO (hP.ag (e2.ag (by decide))) h2 h3
  have f3 := (e2.tr f2).mono (i2 := [88]) (s2 := pfs) (by decide) (by decide)
  refine ⟨μ2, ?_, f3⟩
  have := meets_loop a1 a2 (f3.KR hK (by decide)) hO (hP.ag (f3.ag (by decide))) h0 h1 h2 h3 (N := N) (P p).length N 0 0 (by omega) (by have := (hO p h0 h1).1; omega) (by omega) (by omega)
  rw [Int.zero_add] at this
  unfold jX8_meets
  rw [e1, b2_e, f1, b2_e]
  exact this
theorem psum_meet {G : Gm} {P : Pl} {p : Int} (hp : (P p).length ≤ 10) (i : Nat) : 0 ≤ psum (fun q => if q = p then 0 else meetOf G P p q) i ∧ psum (fun q => if q = p then 0 else meetOf G P p q) i ≤ 20 * i := psum_ok (fun q => by
  show 0 ≤ (if q = p then (0 : Int) else meetOf G P p q) ∧ (if q = p then (0 : Int) else meetOf G P p q) ≤ 20
  split
  · omega
  · have := meet2_ok (hcpOf G P p - hcpOf G P q) (P p) (P q)
    unfold meetOf
    omega) i
theorem gathered_loop {N : Nat} (hN : 1000000 ≤ N) {G : Gm} {P : Pl} {p : Int} {μ : Mm} (hK : KR μ) (hO : POK P) (hP : PX P μ) (hH : HX G P 6 μ) (h0 : 0 ≤ p) (h1 : p ≤ 5) : ∀ (k n i : Nat), i + k = 6 → k < n → jX4_gathered_4 N n 45 p (psum (fun q => if q = p then 0 else meetOf G P p q) i) i μ = some (meetsOf G P p, μ)
  | 0, n + 1, i, hi, hn => by
    have : i = 6 := by omega
    subst this
    show jX4_gathered_4b (jX4_gathered_4 N n) N 45 p _ _ μ = _
    unfold jX4_gathered_4b
    rw [if_pos (by omega)]
    rfl
  | k + 1, n + 1, i, hi, hn => by
    have l1 := (hO p h0 h1).1
    have b1 := psum_meet (G := G) (P := P) l1 i
    have b2' := psum_meet (G := G) (P := P) l1 (i + 1)
    have := gathered_loop hN hK hO hP hH h0 h1 k n (i + 1) (by omega) (by omega)
    rw [psum] at this b2'
    show jX4_gathered_4b (jX4_gathered_4 N n) N 45 p _ _ μ = _
    unfold jX4_gathered_4b
    rw [if_neg (by omega)]
    by_cases c : (i : Int) = p
    · rw [if_neg (fun z => z c)]
      unfold jX4_gathered_26
      rw [if_pos c] at this b2'
      rw [bnd_e, bnd_e, i_add_e (by omega) (by omega), i_add_e (by omega) (by omega)]
      exact this
    · rw [if_pos c, meeting_X hN hK hO hP hH h0 h1 (by omega) (by omega), b2_e]
      unfold jX4_gathered_26
      rw [if_neg c] at this b2'
      rw [bnd_e, bnd_e, i_add_e (by omega) (by omega), i_add_e (by omega) (by omega)]
      exact this
  | _ + 1, 0, _, _, hn => absurd hn (by omega)
  | 0, 0, _, _, hn => absurd hn (by omega)
theorem gathered_X {N : Nat} (hN : 1000000 ≤ N) {G : Gm} {P : Pl} {p : Int} {μ : Mm} (hK : KR μ) (hO : POK P) (hP : PX P μ) (hH : HX G P 6 μ) (h0 : 0 ≤ p) (h1 : p ≤ 5) : jX4_gathered N 45 p μ = some (meetsOf G P p, μ) :=
  gathered_loop hN hK hO hP hH h0 h1 6 N 0 (by omega) (by omega)
theorem place_b {G : Gm} {P : Pl} {p : Int} (i : Nat) : 0 ≤ psum (fun q => if meetsOf G P q ≤ meetsOf G P p then 0 else 1) i ∧ psum (fun q => if meetsOf G P q ≤ meetsOf G P p then 0 else 1) i ≤ 1 * i := psum_ok (fun q => by
  show 0 ≤ (if meetsOf G P q ≤ meetsOf G P p then (0 : Int) else 1) ∧ (if meetsOf G P q ≤ meetsOf G P p then (0 : Int) else 1) ≤ 1
  split <;> omega) i
theorem countAhead_loop {N : Nat} (hN : 1000000 ≤ N) {G : Gm} {P : Pl} {p : Int} {μ : Mm} (hK : KR μ) (hO : POK P) (hP : PX P μ) (hH : HX G P 6 μ) : ∀ (k n i : Nat), i + k = 6 → k < n → jX4_countAhead_11 N n 45 (meetsOf G P p) (psum (fun q => if meetsOf G P q ≤ meetsOf G P p then 0 else 1) i) i μ = some (placeOf G P p, μ)
  | 0, n + 1, i, hi, hn => by
    have : i = 6 := by omega
    subst this
    show jX4_countAhead_11b (jX4_countAhead_11 N n) N 45 _ _ _ μ = _
    unfold jX4_countAhead_11b
    rw [if_pos (by omega)]
    rfl
  | k + 1, n + 1, i, hi, hn => by
    have b1 := place_b (G := G) (P := P) (p := p) i
    have := countAhead_loop hN hK hO hP hH (p := p) k n (i + 1) (by omega) (by omega)
    rw [psum] at this
    show jX4_countAhead_11b (jX4_countAhead_11 N n) N 45 _ _ _ μ = _
    unfold jX4_countAhead_11b
    rw [if_neg (by omega), gathered_X hN hK hO hP hH (by omega) (by omega), b2_e]
    by_cases c : meetsOf G P i ≤ meetsOf G P p
    · rw [if_pos c] at this ⊢
      unfold jX4_countAhead_34
      rw [bnd_e, bnd_e, i_add_e (by omega) (by omega), i_add_e (by omega) (by omega)]
      exact this
    · rw [if_neg c] at this ⊢
      unfold jX4_countAhead_34
      rw [bnd_e, bnd_e, i_add_e (by omega) (by omega), i_add_e (by omega) (by omega)]
      exact this
  | _ + 1, 0, _, _, hn => absurd hn (by omega)
  | 0, 0, _, _, hn => absurd hn (by omega)
theorem countAhead_X {N : Nat} (hN : 1000000 ≤ N) {G : Gm} {P : Pl} {p : Int} {μ : Mm} (hK : KR μ) (hO : POK P) (hP : PX P μ) (hH : HX G P 6 μ) (h0 : 0 ≤ p) (h1 : p ≤ 5) : jX4_countAhead N 45 p μ = some (placeOf G P p, μ) := by
  unfold jX4_countAhead
  rw [gathered_X hN hK hO hP hH h0 h1, b2_e]
  exact countAhead_loop hN hK hO hP hH 6 N 0 (by omega) (by omega)
theorem meetsAll_loop {N : Nat} (hN : 1000000 ≤ N) {G : Gm} (hG : COK G) {P : Pl} {p : Int} (hO : POK P) (h0 : 0 ≤ p) (h1 : p ≤ 5) : ∀ (k n i : Nat) {μ : Mm}, i + k = 6 → k < n → KR μ → GM G μ → PM P μ → ∃ μ', jX8_meetsAll_4 N n 50 p (psum (fun q => if q = p then 0 else meetOf G P p q) i) i μ = some (meetsOf G P p, μ') ∧ Fr [88] pfs μ μ'
  | 0, n + 1, i, μ, hi, hn, hK, hL, hP => by
    have : i = 6 := by omega
    subst this
    refine ⟨μ, ?_, (Fr.rf μ).mono (by decide) (by decide)⟩
    show jX8_meetsAll_4b (jX8_meetsAll_4 N n) N 50 p _ _ μ = _
    unfold jX8_meetsAll_4b
    rw [if_pos (by omega)]
    rfl
  | k + 1, n + 1, i, μ, hi, hn, hK, hL, hP => by
    have l1 := (hO p h0 h1).1
    have b1 := psum_meet (G := G) (P := P) l1 i
    have b2' := psum_meet (G := G) (P := P) l1 (i + 1)
    rw [psum] at b2'
    by_cases c : (i : Int) = p
    · obtain ⟨μ2, f1, f2⟩ := meetsAll_loop hN hG hO h0 h1 k n (i + 1) (by omega) (by omega) hK hL hP
      rw [psum, if_pos c, Int.add_zero] at f1
      refine ⟨μ2, ?_, f2⟩
      show jX8_meetsAll_4b (jX8_meetsAll_4 N n) N 50 p _ _ μ = _
      unfold jX8_meetsAll_4b jX8_meetsAll_24
      rw [if_neg (by omega), if_pos c, bnd_e, i_add_e (by omega) (by omega)]
      exact f1
    · obtain ⟨μ1, e1, e2⟩ := meets_M hN hG hK hL hO hP h0 h1 (q := i) (by omega) (by omega)
      obtain ⟨μ2, f1, f2⟩ := meetsAll_loop hN hG hO h0 h1 k n (i + 1) (by omega) (by omega) (e2.KR hK (by decide)) (hL.ag (e2.ag (by decide))) (hP.ag (e2.ag (by decide)))
      rw [psum, if_neg c] at f1
      rw [if_neg c] at b2'
      refine ⟨μ2, ?_, (e2.tr f2).mono (by decide) (by decide)⟩
      show jX8_meetsAll_4b (jX8_meetsAll_4 N n) N 50 p _ _ μ = _
      unfold jX8_meetsAll_4b jX8_meetsAll_24
      rw [if_neg (by omega), if_neg c, e1, b2_e, bnd_e, bnd_e, i_add_e (by omega) (by omega), i_add_e (by omega) (by omega)]
      exact f1
  | _ + 1, 0, _, _, _, hn, _, _, _ => absurd hn (by omega)
  | 0, 0, _, _, _, hn, _, _, _ => absurd hn (by omega)
theorem meetsAll_M {N : Nat} (hN : 1000000 ≤ N) {G : Gm} (hG : COK G) {P : Pl} {p : Int} (hO : POK P) (h0 : 0 ≤ p) (h1 : p ≤ 5) {μ : Mm} (hK : KR μ) (hL : GM G μ) (hP : PM P μ) : ∃ μ', jX8_meetsAll N 50 p μ = some (meetsOf G P p, μ') ∧ Fr [88] pfs μ μ' :=
  meetsAll_loop hN hG hO h0 h1 6 N 0 (by omega) (by omega) hK hL hP
theorem place_loop {N : Nat} (hN : 1000000 ≤ N) {G : Gm} (hG : COK G) {P : Pl} {p : Int} (hO : POK P) : ∀ (k n i : Nat) {μ : Mm}, i + k = 6 → k < n → KR μ → GM G μ → PM P μ → ∃ μ', jX8_place_20 N n 50 (meetsOf G P p) (psum (fun q => if meetsOf G P q ≤ meetsOf G P p then 0 else 1) i) i μ = some (placeOf G P p, μ') ∧ Fr [88] pfs μ μ'
  | 0, n + 1, i, μ, hi, hn, hK, hL, hP => by
    have : i = 6 := by omega
    subst this
    refine ⟨μ, ?_, (Fr.rf μ).mono (by decide) (by decide)⟩
    show jX8_place_20b (jX8_place_20 N n) N 50 _ _ _ μ = _
    unfold jX8_place_20b
    rw [if_pos (by omega)]
    rfl
  | k + 1, n + 1, i, μ, hi, hn, hK, hL, hP => by
    have b1 := place_b (G := G) (P := P) (p := p) i
    obtain ⟨μ1, e1, e2⟩ := meetsAll_M hN hG hO (p := i) (by omega) (by omega) hK hL hP
    obtain ⟨μ2, f1, f2⟩ := place_loop hN hG hO (p := p) k n (i + 1) (by omega) (by omega) (e2.KR hK (by decide)) (hL.ag (e2.ag (by decide))) (hP.ag (e2.ag (by decide)))
    refine ⟨μ2, ?_, (e2.tr f2).mono (by decide) (by decide)⟩
    rw [psum] at f1
    show jX8_place_20b (jX8_place_20 N n) N 50 _ _ _ μ = _
    unfold jX8_place_20b jX8_place_40
    rw [if_neg (by omega), e1, b2_e]
    by_cases c : meetsOf G P i ≤ meetsOf G P p
    · rw [if_pos c] at f1 ⊢
      rw [bnd_e, i_add_e (by omega) (by omega)]
      rw [Int.add_zero] at f1
      exact f1
    · rw [if_neg c] at f1 ⊢
      rw [bnd_e, bnd_e, i_add_e (by omega) (by omega), i_add_e (by omega) (by omega)]
      exact f1
  | _ + 1, 0, _, _, _, hn, _, _, _ => absurd hn (by omega)
  | 0, 0, _, _, _, hn, _, _, _ => absurd hn (by omega)
/-! the greatest of them -/
theorem best_X_loop {N : Nat} {P : Pl} {p : Int} {μ : Mm} (hK : KR μ) (hO : POK P) (hP : PX P μ) (h0 : 0 ≤ p) (h1 : p ≤ 5) : ∀ (k n i : Nat) (v : Int), i + k = (P p).length → k < n → jX4_bestOf_9 N n 45 p v i μ = some (((P p).drop i).foldl (fun a b => if a < b then b else a) v, μ)
  | 0, n + 1, i, v, hi, hn => by
    show jX4_bestOf_9b (jX4_bestOf_9 N n) N 45 p v i μ = _
    unfold jX4_bestOf_9b
    rw [gamesOf_X hK hP h0 h1, b2_e, if_pos (by omega), List.drop_eq_nil_of_le (by omega)]
    rfl
  | k + 1, n + 1, i, v, hi, hn => by
    obtain ⟨t, ht, htm, hd⟩ := drop_get (show i < (P p).length by omega)
    have hl := (hO p h0 h1).1
    have := best_X_loop hK hO hP h0 h1 (N := N) k n (i + 1) (if v < t then t else v) (by omega) (by omega)
    show jX4_bestOf_9b (jX4_bestOf_9 N n) N 45 p v i μ = _
    unfold jX4_bestOf_9b
    rw [gamesOf_X hK hP h0 h1, b2_e, if_neg (by omega), totalOf_X hK hO hP h0 h1 ht, b2_e, bnd_e, bnd_e, i_add_e (by omega) (by omega), hd, List.foldl_cons]
    exact this
  | _ + 1, 0, _, _, _, hn => absurd hn (by omega)
  | 0, 0, _, _, _, hn => absurd hn (by omega)
