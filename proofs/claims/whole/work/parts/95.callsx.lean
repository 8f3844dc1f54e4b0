/-! ===== PURE: come, ways, needs, tear, fits, must of the class ===== -/
theorem frow_ne : ∀ (n : Nat) (st : Int) (c : List Int), frow n st c ≠ []
  | 0, st, c => by simp [frow]
  | n + 1, st, c => by
    unfold frow
    split
    · simp
    · cases c with
      | nil =>
        have h := frow_ne n (st - 0) []
        intro z
        rw [upto_iot, iot, List.flatMap_cons, List.append_eq_nil_iff] at z
        exact h (List.map_eq_nil_iff.mp z.1)
      | cons x c =>
        intro z
        exact frow_ne n (st - tk x) c (List.map_eq_nil_iff.mp z)
theorem frw_ne {G : Gm} : ∀ (n : Nat) (st : Int) (c : List Int), frw G n st c ≠ []
  | 0, st, c => by simp [frw]
  | n + 1, st, [] => by
    unfold frw
    have h := frw_ne (G := G) n (nst G st 0) []
    intro z
    rw [upto_iot, iot, List.flatMap_cons, List.append_eq_nil_iff] at z
    exact h (List.map_eq_nil_iff.mp z.1)
  | n + 1, st, x :: c => by
    unfold frw
    intro z
    exact frw_ne n (nst G st x) c (List.map_eq_nil_iff.mp z)
theorem KS_ne {G : Gm} {Q : Qu} (hq : Q.2.1 = false) (f : Int) (o : Ow) : KS G Q f o ≠ [] := by
  unfold KS
  split
  · intro z; exact frow_ne _ _ _ (List.map_eq_nil_iff.mp z)
  · rw [if_neg (fun z => by rw [hq] at z; cases z.1)]
    intro z; exact frw_ne _ _ _ (List.map_eq_nil_iff.mp z)
theorem Lf_ne {G : Gm} {Q : Qu} (hq : Q.2.1 = false) : ∀ n : Nat, Lf G Q n ≠ []
  | 0 => by simp [Lf]
  | n + 1 => by
    have h := Lf_ne (G := G) hq n
    rw [Lf_s]
    cases hL : Lf G Q n with
    | nil => exact absurd hL h
    | cons w L =>
      intro z
      rw [List.flatMap_cons, List.append_eq_nil_iff] at z
      exact KS_ne hq n w.1 (List.map_eq_nil_iff.mp z.1)
theorem LA_ne (G : Gm) (R : List Int) : LA G R ≠ [] := Lf_ne rfl _
/-- the least (or the greatest) total -/
def isEnd (L : List Wy) (m : Bool) (v : Int) : Prop := (∃ w ∈ L, w.2.1 = v) ∧ ∀ w ∈ L, if m then w.2.1 ≤ v else v ≤ w.2.1
theorem isEnd.uni {L : List Wy} {m : Bool} {u v : Int} (h : isEnd L m u) (g : isEnd L m v) : u = v := by
  obtain ⟨⟨w, hw, e⟩, h2⟩ := h
  obtain ⟨⟨w', hw', e'⟩, g2⟩ := g
  have a := h2 w' hw'
  have b := g2 w hw
  cases m with
  | true => rw [if_pos rfl] at a b; omega
  | false => rw [if_neg (by decide)] at a b; omega
theorem come_X {N : Nat} (hN : 1000000 ≤ N) {sh l : Int} {G : Gm} {R : List Int} {tn : Int → Bool} (m : Bool) {μ : Mm} (h : XC sh l G R tn μ) (h5 : m_gt μ 0 5 = sh) : ∃ v μ', jX7_come N 0 (if m then 1 else 0) μ = some (v, μ') ∧ isEnd (LA G R) m v ∧ XC sh l G R tn μ' ∧ (∀ r i : Int, ¬ lkC r → m_gt μ' r i = m_gt μ r i) := by
  have hK := h.1.2.1
  have hL := LA_LE h.1.1.2.2.1 h.1.1.2.2.2
  obtain ⟨μ1, e1, e2, e3, e4⟩ := lookAhead_X (N := N) hN (b := true) (fun z => by cases z) h
  have K1 := e2.1.2.1
  obtain ⟨a, z, f1, f2, f3, _⟩ := ends_X (N := N) hL K1 e3
  have e8 : m_gt μ1 0 8 = 33 := r_0_8 K1
  rw [if_pos rfl] at e1
  unfold jX7_come jX7_come_33
  rw [r_0_8 hK, chk_e (k_33 hK), h5, e1, ob_e, e8, chk_e (k_33 K1), chk_e (k_33 K1), f1, b2_e, f2, b2_e]
  rcases f3 with ⟨_, g1, g2, g3⟩ | ⟨g1, _⟩
  · cases m with
    | true => exact ⟨z, μ1, rfl, ⟨g2, fun w hw => by rw [if_pos rfl]; exact (g3 w hw).2⟩, e2, e4⟩
    | false => exact ⟨a, μ1, rfl, ⟨g1, fun w hw => by rw [if_neg (by decide)]; exact (g3 w hw).1⟩, e2, e4⟩
  · exact absurd g1 (LA_ne G R)
def waA (L : List Wy) (n : Int) (m : Bool) : Int := if m then mnI CM (cG L n) else mnI CM (cT L o0 n)
theorem ways_X {N : Nat} (hN : 1000000 ≤ N) {sh l : Int} {G : Gm} {R : List Int} {tn : Int → Bool} {n : Int} (hn : okI n) (m : Bool) {μ : Mm} (h : XC sh l G R tn μ) (h5 : m_gt μ 0 5 = sh) : ∃ μ', jX7_ways N 0 n (if m then 1 else 0) μ = some (waA (LA G R) n m, μ') ∧ XC sh l G R tn μ' ∧ (∀ r i : Int, ¬ lkC r → m_gt μ' r i = m_gt μ r i) := by
  have hK := h.1.2.1
  have hL := LA_LE h.1.1.2.2.1 h.1.1.2.2.2
  obtain ⟨μ1, e1, e2, e3, e4⟩ := lookAhead_X (N := N) hN (b := true) (fun z => by cases z) h
  have K1 := e2.1.2.1
  have e8 : m_gt μ1 0 8 = 33 := r_0_8 K1
  obtain ⟨v, a1, a2⟩ := at_X (N := N) hL K1 e3 n
  unfold RV at a2
  rw [if_pos rfl] at a2
  rw [if_pos rfl] at e1
  refine ⟨μ1, ?_, e2, e4⟩
  unfold jX7_ways jX7_ways_35 waA
  rw [r_0_8 hK, chk_e (k_33 hK), h5, e1, ob_e, e8, chk_e (k_33 K1), chk_e (k_33 K1), a1, b2_e, countFrom_X hN hL K1 e3 hn, b2_e, a2]
  cases m with
  | true => rw [if_neg (by decide), if_pos rfl]
  | false => rw [if_pos (by decide), if_neg (by decide)]
def isNeed (P : Int → Prop) (v : Int) : Prop := (v = -1 ∧ ∀ x, 0 ≤ x → x ≤ 9 → ¬ P x) ∨ (0 ≤ v ∧ v ≤ 9 ∧ P v ∧ ∀ x, 0 ≤ x → x < v → ¬ P x)
theorem isNeed.uni {P : Int → Prop} {u v : Int} (h : isNeed P u) (g : isNeed P v) : u = v := by
  rcases h with ⟨h1, h2⟩ | ⟨h1, h2, h3, h4⟩ <;> rcases g with ⟨g1, g2⟩ | ⟨g1, g2, g3, g4⟩
  · omega
  · exact absurd g3 (h2 v g1 g2)
  · exact absurd h3 (g2 u h1 h2)
  · by_cases c : u < v
    · exact absurd h3 (g4 u h1 c)
    · by_cases c2 : v < u
      · exact absurd g3 (h4 v g1 c2)
      · omega
def nePr (L : List Wy) (t : Int) (s : Bool) (x : Int) : Prop := (∃ w ∈ L, t ≤ w.2.1 ∧ w.2.2 = x) ∧ (s = true → ∀ w ∈ L, w.2.2 = x → t ≤ w.2.1)
theorem l_bit {v : Int} (hv : ps10 v) {k : Nat} (hk : k < 10) : l_and (l_shr v k) 1 = if tb v k then 1 else 0 := by
  have h0 := hv.1
  have h1 := hv.2
  have e : ∀ (v : Fin 1024) (k : Fin 10), l_and (l_shr (v.val : Int) (k.val : Int)) 1 = if v.val.testBit k.val then 1 else 0 := by decide +kernel
  have := e ⟨v.toNat, by omega⟩ ⟨k, hk⟩
  dsimp only at this
  rw [show ((v.toNat : Nat) : Int) = v by omega] at this
  exact this
theorem l_andn {u v : Int} (hu : ps10 u) (hv : ps10 v) : ps10 (l_and u (l_xor v (-1))) ∧ ∀ k, tb (l_and u (l_xor v (-1))) k = (tb u k && !tb v k) := by
  have h1 := hu.1; have h2 := hu.2; have h3 := hv.1; have h4 := hv.2
  have e0 : (Int64.ofInt u &&& (Int64.ofInt v ^^^ Int64.ofInt (-1))).toBitVec = (Int64.ofInt u).toBitVec ^^^ ((Int64.ofInt u).toBitVec &&& (Int64.ofInt v).toBitVec) := by
    rw [Int64.toBitVec_and, Int64.toBitVec_xor]
    have : (Int64.ofInt (-1)).toBitVec = BitVec.allOnes 64 := by decide
    rw [this]
    apply BitVec.eq_of_getLsbD_eq
    intro i hi
    rw [BitVec.getLsbD_and, BitVec.getLsbD_xor, BitVec.getLsbD_xor, BitVec.getLsbD_and, BitVec.getLsbD_allOnes, decide_eq_true hi]
    cases (Int64.ofInt u).toBitVec.getLsbD i <;> cases (Int64.ofInt v).toBitVec.getLsbD i <;> rfl
  have e2 : (Int64.ofInt u &&& (Int64.ofInt v ^^^ Int64.ofInt (-1))).toBitVec.toNat = u.toNat ^^^ (u.toNat &&& v.toNat) := by rw [e0, BitVec.toNat_xor, BitVec.toNat_and, bv_nat64 hu.1 (by omega), bv_nat64 hv.1 (by omega)]
  have hb : u.toNat ^^^ (u.toNat &&& v.toNat) < 2 ^ 10 := Nat.xor_lt_two_pow (by omega) (by have := and_le' u.toNat v.toNat; omega)
  have e : l_and u (l_xor v (-1)) = ((u.toNat ^^^ (u.toNat &&& v.toNat) : Nat) : Int) := by
    unfold l_and l_xor
    rw [Int64.ofInt_toInt, i64_nat (by rw [e2]; omega), e2]
  rw [e]
  refine ⟨⟨by omega, by omega⟩, fun k => ?_⟩
  unfold tb
  rw [Int.toNat_natCast, Nat.testBit_xor, Nat.testBit_and]
  cases u.toNat.testBit k <;> cases v.toNat.testBit k <;> rfl
theorem needs_loop {N : Nat} {g : Int} (hg : ps10 g) {μ : Mm} : ∀ (k n i : Nat), i + k = 10 → k < n → (∀ x : Nat, x < i → tb g x = false) → ∃ v, jX7_needs_60 N n 0 g i μ = some (v, μ) ∧ isNeed (fun x => tb g x.toNat = true) v
  | k, 0, i, hi, hn, _ => absurd hn (by omega)
  | 0, n + 1, i, hi, hn, h => by
    refine ⟨-1, ?_, Or.inl ⟨rfl, fun x x0 x1 z => ?_⟩⟩
    · show jX7_needs_60b (jX7_needs_60 N n) N 0 g i μ = _
      unfold jX7_needs_60b
      rw [if_pos (by omega)]
    · have z : tb g x.toNat = true := z
      rw [h x.toNat (by omega)] at z; cases z
  | k + 1, n + 1, i, hi, hn, h => by
    show ∃ v, jX7_needs_60b (jX7_needs_60 N n) N 0 g i μ = some (v, μ) ∧ _
    unfold jX7_needs_60b
    rw [if_neg (by omega), l_bit hg (by omega)]
    cases hb : tb g i with
    | true =>
      rw [if_pos rfl, if_neg (not_not_intro ((l_cmp_eq0 _ _).mpr rfl))]
      refine ⟨_, rfl, Or.inr ⟨by omega, by omega, (show tb g (i : Int).toNat = true by rw [Int.toNat_natCast]; exact hb), fun x x0 x1 z => ?_⟩⟩
      have z : tb g x.toNat = true := z
      rw [h x.toNat (by omega)] at z; cases z
    | false =>
      rw [if_neg (show ¬ (false = true) by decide), if_pos (fun z => by have := (l_cmp_eq0 _ _).mp z; omega), bnd_e, i_add_e (by omega) (by omega), show (i : Int) + 1 = ((i + 1 : Nat) : Int) by omega]
      exact needs_loop hg k n (i + 1) (by omega) (by omega) (fun x hx => by
        by_cases c : x = i
        · rw [c]; exact hb
        · exact h x (by omega))
def neA (G : Gm) (R : List Int) (t : Int) (s : Bool) (v : Int) : Prop := (whole G (spl G R) ∧ v = -1) ∨ (¬ whole G (spl G R) ∧ isNeed (nePr (LA G R) t s) v)
theorem neA.uni {G : Gm} {R : List Int} {t : Int} {s : Bool} {u v : Int} (h : neA G R t s u) (g : neA G R t s v) : u = v := by
  rcases h with ⟨h1, h2⟩ | ⟨h1, h2⟩ <;> rcases g with ⟨g1, g2⟩ | ⟨g1, g2⟩
  · omega
  · exact absurd h1 g1
  · exact absurd g1 h1
  · exact h2.uni g2
theorem needs_X {N : Nat} (hN : 1000000 ≤ N) {sh l : Int} {G : Gm} {R : List Int} {tn : Int → Bool} {t : Int} (ht : okI t) (s : Bool) {μ : Mm} (h : XC sh l G R tn μ) (h5 : m_gt μ 0 5 = sh) : ∃ v μ', jX7_needs N 0 t (if s then 1 else 0) μ = some (v, μ') ∧ neA G R t s v ∧ XC sh l G R tn μ' ∧ (∀ r i : Int, ¬ lkC r → m_gt μ' r i = m_gt μ r i) := by
  have hK := h.1.2.1
  have hsh := h.1.1.1
  have hL := LA_LE h.1.1.2.2.1 h.1.1.2.2.2
  unfold jX7_needs jX7_needs_55
  rw [h5, chk_e (SK.of hK hsh).1, h.1.wh, b2_e]
  by_cases c : whi G (spl G R) = 0
  · have hnw := whi_iff.mp c
    obtain ⟨μ1, e1, e2, e3, e4⟩ := lookAhead_X (N := N) hN (b := false) (fun _ => hnw) h
    have K1 := e2.1.2.1
    have e8 : m_gt μ1 0 8 = 33 := r_0_8 K1
    obtain ⟨u, a1, a2⟩ := marksFrom_X (N := N) hN hL K1 e3 ht
    obtain ⟨w, b1, b2⟩ := marksBelow_X (N := N) hN hL K1 e3 t
    have an := l_andn a2.1 b2.1
    rw [if_neg (by decide)] at e1
    rw [if_pos c, r_0_8 hK, chk_e (k_33 hK), h5, e1, ob_e, e8, chk_e (k_33 K1), a1, b2_e, e8, chk_e (k_33 K1), b1, b2_e]
    have fin : ∀ g, ps10 g → (∀ x : Nat, x < 10 → (tb g x = true ↔ nePr (LA G R) t s x)) → ∃ v μ', jX7_needs_60 N N 0 g 0 μ1 = some (v, μ') ∧ neA G R t s v ∧ XC sh l G R tn μ' ∧ (∀ r i : Int, ¬ lkC r → m_gt μ' r i = m_gt μ r i) := by
      intro g hg hgp
      obtain ⟨v, d1, d2⟩ := needs_loop (N := N) hg (μ := μ1) 10 N 0 (by omega) (by omega) (fun x hx => by omega)
      refine ⟨v, μ1, d1, Or.inr ⟨hnw, ?_⟩, e2, e4⟩
      have cv : ∀ x : Int, 0 ≤ x → x ≤ 9 → (tb g x.toNat = true ↔ nePr (LA G R) t s x) := fun x x0 x1 => by
        have := hgp x.toNat (by omega)
        rw [show ((x.toNat : Nat) : Int) = x by omega] at this
        exact this
      rcases d2 with ⟨q1, q2⟩ | ⟨q1, q2, q3, q4⟩
      · exact Or.inl ⟨q1, fun x x0 x1 z => q2 x x0 x1 ((cv x x0 x1).mpr z)⟩
      · exact Or.inr ⟨q1, q2, (cv v q1 q2).mp q3, fun x x0 x1 z => q4 x x0 x1 ((cv x x0 (by omega)).mpr z)⟩
    cases s with
    | false =>
      rw [if_neg (show ¬ (false = true) by decide), if_pos rfl]
      refine fin u a2.1 (fun x hx => ?_)
      rw [a2.2 x hx]
      exact ⟨fun z => ⟨z, fun y => by cases y⟩, fun z => z.1⟩
    | true =>
      rw [if_pos rfl, if_neg (by decide)]
      refine fin _ an.1 (fun x hx => ?_)
      rw [an.2, Bool.and_eq_true, a2.2 x hx]
      constructor
      · rintro ⟨z1, z2⟩
        refine ⟨z1, fun _ w' hw' ew => ?_⟩
        by_cases y : t ≤ w'.2.1
        · exact y
        · have := (b2.2 x hx).mpr ⟨w', hw', by omega, ew⟩
          rw [this] at z2
          cases z2
      · rintro ⟨z1, z2⟩
        refine ⟨z1, ?_⟩
        cases hb : tb w x with
        | false => rfl
        | true =>
          obtain ⟨w', hw', y1, y2⟩ := (b2.2 x hx).mp hb
          have := z2 rfl w' hw' y2
          omega
  · rw [if_neg c]
    exact ⟨-1, μ, rfl, Or.inl ⟨Classical.byContradiction (fun z => c (whi_iff.mpr z)), rfl⟩, h, fun _ _ _ => rfl⟩
