/-! ===== PURE: come, ways, needs of the reference ===== -/
def psn (m : Bool) (i : Int) : Int := if m then 2119 - i else i
theorem eoc_loop {N : Nat} {m : Bool} {L : List Int} (hne : L ≠ []) (hb : ∀ b ∈ L, -1060 ≤ b ∧ b < 1060) {μ : Mm} (hK : KR μ) (hC : CO L μ) : ∀ (k n i : Nat), i + k = 2120 → k < n → (∀ j : Int, 0 ≤ j → j < i → cB L (psn m j - 1060) = 0) → ∃ v, jX8_endOfComing_2 N n 50 (if m then 1 else 0) i μ = some (v, μ) ∧ v ∈ L ∧ ∀ b ∈ L, if m then b ≤ v else v ≤ b
  | k, 0, i, hi, hn, _ => absurd hn (by omega)
  | 0, n + 1, i, hi, hn, hZ => by
    exfalso
    cases L with
    | nil => exact hne rfl
    | cons b L =>
      have h1 := hb b (by simp)
      have h2 : cB (b :: L) b = 0 := by
        cases m with
        | true =>
          have := hZ (1059 - b) (by omega) (by omega)
          unfold psn at this
          rw [if_pos rfl, show 2119 - (1059 - b) - 1060 = b by omega] at this
          exact this
        | false =>
          have := hZ (b + 1060) (by omega) (by omega)
          unfold psn at this
          rw [if_neg (by decide), show b + 1060 - 1060 = b by omega] at this
          exact this
      unfold cB at h2
      rw [List.countP_eq_zero] at h2
      exact h2 b (by simp) (decide_eq_true rfl)
  | k + 1, n + 1, i, hi, hn, hZ => by
    have ep : 0 ≤ psn m i ∧ psn m i < 2120 := by unfold psn; split <;> omega
    have e : jX8_endOfComing_2 N (n + 1) 50 (if m then 1 else 0) i μ = jX8_endOfComing_22 (jX8_endOfComing_2 N n) N 50 (if m then 1 else 0) i (psn m i) μ := by
      show jX8_endOfComing_2b (jX8_endOfComing_2 N n) N 50 (if m then 1 else 0) i μ = _
      unfold jX8_endOfComing_2b
      rw [if_neg (by omega)]
      cases m with
      | true =>
        show (if (1 : Int) = 0 then _ else _) = _
        rw [if_neg (by decide), i_sub_e (by omega) (by omega)]
        rfl
      | false => rfl
    rw [e]
    unfold jX8_endOfComing_22
    rw [r_50_77 hK, ald_e (k_98 hK) ep.1 ep.2, ob_e, hC _ ep.1 ep.2]
    by_cases z : 0 < cB L (psn m i - 1060)
    · rw [if_neg (fun y => absurd ((l_cmp_le0 _ _).mp y) (Int.not_le.mpr (mn_pos.mpr z))), i_sub_e (by omega) (by omega)]
      refine ⟨psn m i - 1060, rfl, cB_mem z, fun b hbL => ?_⟩
      have h1 := hb b hbL
      have hp : 0 < cB L b := by
        unfold cB
        rw [List.countP_pos_iff]
        exact ⟨b, hbL, decide_eq_true rfl⟩
      cases m with
      | true =>
        rw [if_pos rfl]
        unfold psn
        rw [if_pos rfl]
        by_cases c : b ≤ 2119 - (i : Int) - 1060
        · exact c
        · exfalso
          have := hZ (1059 - b) (by omega) (by omega)
          unfold psn at this
          rw [if_pos rfl, show 2119 - (1059 - b) - 1060 = b by omega] at this
          omega
      | false =>
        rw [if_neg (by decide)]
        unfold psn
        rw [if_neg (by decide)]
        by_cases c : (i : Int) - 1060 ≤ b
        · exact c
        · exfalso
          have := hZ (b + 1060) (by omega) (by omega)
          unfold psn at this
          rw [if_neg (by decide), show b + 1060 - 1060 = b by omega] at this
          omega
    · have z0 : cB L (psn m i - 1060) = 0 := by omega
      rw [if_pos ((l_cmp_le0 _ _).mpr (by rw [z0, mn0]; exact Int.le_refl _)), bnd_e, i_add_e (by omega) (by omega)]
      exact eoc_loop hne hb hK hC k n (i + 1) (by omega) (by omega) (fun j j0 j1 => by
        by_cases c : j < i
        · exact hZ j j0 c
        · rw [show j = (i : Int) by omega]
          exact z0)
theorem eoc_M {N : Nat} (hN : 1000000 ≤ N) {m : Bool} {L : List Int} (hne : L ≠ []) (hb : ∀ b ∈ L, -1060 ≤ b ∧ b < 1060) {μ : Mm} (hK : KR μ) (hC : CO L μ) : ∃ v, jX8_endOfComing N 50 (if m then 1 else 0) μ = some (v, μ) ∧ v ∈ L ∧ ∀ b ∈ L, if m then b ≤ v else v ≤ b := eoc_loop (N := N) hne hb hK hC 2120 N 0 (by omega) (by omega) (fun j j0 j1 => by omega)
theorem mem_sel {fi : Int} {G : Gm} {R : List Int} {b : Int} : b ∈ sel fi (LM G R) ↔ ∃ w ∈ LA G R, w.2.1 = b ∧ (fi = -1 ∨ w.2.2 = fi) := by
  unfold sel LM
  rw [List.mem_map]
  constructor
  · rintro ⟨p, hp, rfl⟩
    obtain ⟨h1, h2⟩ := List.mem_filter.mp hp
    obtain ⟨w, hw, rfl⟩ := List.mem_map.mp h1
    exact ⟨w, hw, rfl, of_decide_eq_true h2⟩
  · rintro ⟨w, hw, rfl, hs⟩
    exact ⟨PMk w, List.mem_filter.mpr ⟨List.mem_map.mpr ⟨w, hw, rfl⟩, decide_eq_true hs⟩, rfl⟩
theorem sel_bd {fi : Int} {G : Gm} (hG : GOK G) {R : List Int} (hV : VR G R) : ∀ b ∈ sel fi (LM G R), -1060 ≤ b ∧ b < 1060 := by
  intro b hb
  obtain ⟨w, hw, rfl, _⟩ := mem_sel.mp hb
  have := (LA_LE hG hV).1 w hw
  omega
theorem come_M {N : Nat} (hN : 1000000 ≤ N) {G : Gm} {R : List Int} (m : Bool) {μ : Mm} (h : MC G R μ) (hA : AHC G μ) : ∃ v μ', jX8_come N 50 (if m then 1 else 0) μ = some (v, μ') ∧ isEnd (LA G R) m v ∧ MC G R μ' ∧ AHC G μ' ∧ Fr cmI cmS μ μ' := by
  obtain ⟨μ1, a1, a2, a3, a4, a5⟩ := tellsComing_M (N := N) hN (fi := -1) h hA (Or.inl rfl)
  have hne : sel (-1) (LM G R) ≠ [] := by
    cases hL : LA G R with
    | nil => exact absurd hL (LA_ne G R)
    | cons w L =>
      have hw : w ∈ LA G R := by rw [hL]; simp
      exact List.ne_nil_of_mem (mem_sel.mpr ⟨w, hw, rfl, Or.inl rfl⟩)
  obtain ⟨v, b1, b2, b3⟩ := eoc_M (N := N) hN (m := m) hne (sel_bd h.1.1 h.1.2) a3.2.1 a2
  refine ⟨v, μ1, ?_, ⟨?_, fun w hw => b3 _ (mem_sel.mpr ⟨w, hw, rfl, Or.inl rfl⟩)⟩, a3, a4, a5⟩
  · unfold jX8_come
    rw [a1, ob_e, b1, b2_e]
  · obtain ⟨w, hw, e, _⟩ := mem_sel.mp b2
    exact ⟨w, hw, e⟩
def prW (m : Bool) (n b : Int) : Bool := if m then decide (n ≤ b) else decide (b = n)
def cW (L : List Int) (m : Bool) (n t : Int) : Nat := L.countP (fun b => prW m n b && decide (b < t))
theorem cW_s (m : Bool) (n t : Int) : ∀ L : List Int, cW L m n (t + 1) = cW L m n t + (if prW m n t = true then cB L t else 0)
  | [] => by unfold cW cB; simp
  | b :: L => by
    have ih := cW_s m n t L
    unfold cW cB at *
    rw [List.countP_cons, List.countP_cons, List.countP_cons, ih]
    by_cases e : b = t
    · rw [e]
      have d1 : decide (t < t + 1) = true := decide_eq_true (by omega)
      have d2 : decide (t < t) = false := decide_eq_false (by omega)
      have d3 : decide (t = t) = true := decide_eq_true rfl
      rw [d1, d2, d3]
      cases prW m n t <;> simp <;> omega
    · have d3 : decide (b = t) = false := decide_eq_false e
      have d1 : decide (b < t + 1) = decide (b < t) := by
        congr 1
        apply propext
        omega
      rw [d1, d3]
      cases prW m n t <;> simp <;> omega
theorem cW_0 {L : List Int} (hb : ∀ b ∈ L, -1060 ≤ b ∧ b < 1060) (m : Bool) (n : Int) : cW L m n (-1060) = 0 := by
  unfold cW
  rw [List.countP_eq_zero]
  intro b hbL z
  have := hb b hbL
  rw [Bool.and_eq_true] at z
  have := of_decide_eq_true z.2
  omega
theorem cW_1 {L : List Int} (hb : ∀ b ∈ L, -1060 ≤ b ∧ b < 1060) (m : Bool) (n : Int) : cW L m n 1060 = L.countP (prW m n) := by
  unfold cW
  apply List.countP_congr
  intro b hbL
  have := hb b hbL
  rw [decide_eq_true (show b < 1060 by omega), Bool.and_true]
theorem ways_loop {N : Nat} {m : Bool} {n0 : Int} {L : List Int} {μ : Mm} (hK : KR μ) (hC : CO L μ) : ∀ (k n i : Nat), i + k = 2120 → k < n → jX8_ways_10 N n 50 n0 (if m then 1 else 0) (mnI CM (cW L m n0 ((i : Int) - 1060))) i μ = some (mnI CM (cW L m n0 1060), μ)
  | k, 0, i, hi, hn => absurd hn (by omega)
  | 0, n + 1, i, hi, hn => by
    show jX8_ways_10b (jX8_ways_10 N n) N 50 n0 (if m then 1 else 0) _ i μ = _
    unfold jX8_ways_10b
    rw [if_pos (by omega), show (i : Int) - 1060 = 1060 by omega]
  | k + 1, n + 1, i, hi, hn => by
    have ih := ways_loop (N := N) (m := m) (n0 := n0) hK hC k n (i + 1) (by omega) (by omega)
    rw [show ((i + 1 : Nat) : Int) - 1060 = (i : Int) - 1060 + 1 by omega, cW_s] at ih
    have skip : ¬ prW m n0 ((i : Int) - 1060) = true → jX8_ways_58 (jX8_ways_10 N n) N 50 n0 (if m then 1 else 0) (mnI CM (cW L m n0 ((i : Int) - 1060))) i μ = some (mnI CM (cW L m n0 1060), μ) := by
      intro c
      rw [if_neg c, Nat.add_zero] at ih
      unfold jX8_ways_58
      rw [bnd_e, i_add_e (by omega) (by omega)]
      exact ih
    have take : prW m n0 ((i : Int) - 1060) = true → jX8_ways_45 (jX8_ways_10 N n) N 50 n0 (if m then 1 else 0) (mnI CM (cW L m n0 ((i : Int) - 1060))) i μ = some (mnI CM (cW L m n0 1060), μ) := by
      intro c
      rw [if_pos c] at ih
      unfold jX8_ways_45 jX8_ways_58
      rw [r_50_77 hK, ald_e (k_98 hK) (by omega) (by omega), ob_e, hC _ (by omega) (by omega), cap_M, b2_e, bnd_e, i_add_e (by omega) (by omega)]
      exact ih
    show jX8_ways_10b (jX8_ways_10 N n) N 50 n0 (if m then 1 else 0) _ i μ = _
    unfold jX8_ways_10b
    rw [if_neg (by omega), i_sub_e (by omega) (by omega)]
    cases m with
    | true =>
      show (if (1 : Int) = 0 then _ else _) = _
      rw [if_neg (by decide)]
      by_cases c : (i : Int) - 1060 < n0
      · rw [if_pos c]
        exact skip (by unfold prW; rw [if_pos rfl, decide_eq_true_eq]; omega)
      · rw [if_neg c]
        exact take (by unfold prW; rw [if_pos rfl, decide_eq_true_eq]; omega)
    | false =>
      show (if (0 : Int) = 0 then _ else _) = _
      rw [if_pos rfl]
      by_cases c : (i : Int) - 1060 = n0
      · rw [if_neg (not_not_intro c)]
        exact take (by unfold prW; rw [if_neg (by decide), decide_eq_true_eq]; exact c)
      · rw [if_pos c]
        exact skip (by unfold prW; rw [if_neg (by decide), decide_eq_true_eq]; exact c)
theorem sel_1 (G : Gm) (R : List Int) : sel (-1) (LM G R) = (LA G R).map (fun w => w.2.1) := by
  unfold sel LM
  rw [List.filter_eq_self.mpr (fun p _ => decide_eq_true (Or.inl rfl)), List.map_map]
  rfl
theorem prW_wa {L : List Wy} (h0 : ∀ w ∈ L, w.1 = o0) (m : Bool) (n : Int) : mnI CM (((L.map (fun w => w.2.1)).countP (prW m n) : Nat) : Int) = waA L n m := by
  unfold waA
  rw [List.countP_map]
  cases m with
  | true =>
    rw [if_pos rfl]
    unfold cG
    have : L.countP (prW true n ∘ fun w => w.2.1) = L.countP (fun w => decide (n ≤ w.2.1)) := by
      apply List.countP_congr
      intro w hw
      exact Iff.rfl
    rw [this]
  | false =>
    rw [if_neg (by decide)]
    congr 2
    unfold cT
    apply List.countP_congr
    intro w hw
    show decide (w.2.1 = n) = true ↔ _
    rw [decide_eq_true_eq, decide_eq_true_eq]
    exact ⟨fun z => ⟨h0 w hw, z⟩, fun z => z.2⟩
theorem ways_M {N : Nat} (hN : 1000000 ≤ N) {G : Gm} {R : List Int} (n : Int) (m : Bool) {μ : Mm} (h : MC G R μ) (hA : AHC G μ) : ∃ μ', jX8_ways N 50 n (if m then 1 else 0) μ = some (waA (LA G R) n m, μ') ∧ MC G R μ' ∧ AHC G μ' ∧ Fr cmI cmS μ μ' := by
  obtain ⟨μ1, a1, a2, a3, a4, a5⟩ := tellsComing_M (N := N) hN (fi := -1) h hA (Or.inl rfl)
  have hb := sel_bd (fi := -1) h.1.1 h.1.2
  have hl := ways_loop (N := N) (m := m) (n0 := n) a3.2.1 a2 2120 N 0 (by omega) (by omega)
  rw [show ((0 : Nat) : Int) - 1060 = -1060 from rfl, cW_0 hb, mn0, cW_1 hb, sel_1, prW_wa (LA_LE h.1.1 h.1.2).2] at hl
  refine ⟨μ1, ?_, a3, a4, a5⟩
  unfold jX8_ways
  rw [a1, ob_e]
  exact hl
theorem Bk_ne {G : Gm} : ∀ (n f : Nat) (o : Ow), Bk G QF n f o ≠ []
  | 0, f, o => by
    unfold Bk
    intro z
    exact KS_ne rfl f o (List.map_eq_nil_iff.mp z)
  | n + 1, f, o => by
    unfold Bk
    cases hL : KS G QF f o with
    | nil => exact absurd hL (KS_ne rfl f o)
    | cons w L =>
      intro z
      rw [List.flatMap_cons, List.append_eq_nil_iff] at z
      exact Bk_ne n (f + 1) w.1 (List.map_eq_nil_iff.mp z.1)
theorem ex_mem {α : Type} {l : List α} (h : l ≠ []) : ∃ a, a ∈ l := by
  cases l with
  | nil => exact absurd rfl h
  | cons a l => exact ⟨a, by simp⟩
/-- the next roll can be anything that stands, and nothing else -/
theorem marks_LM {G : Gm} (hG : GOK G) {R : List Int} (hV : VR G R) (hw : ¬ whole G (spl G R)) : (∀ p ∈ LM G R, p.2 ≤ sta G (spl G R)) ∧ ∀ x, 0 ≤ x → x ≤ sta G (spl G R) → ∃ p ∈ LM G R, p.2 = x := by
  have hO := hV.ok hG
  have hst := sta_ok hG hO
  have hp := hG.1
  have hrl := hG.2.2.1
  by_cases ha : ((spl G R).1.length : Int) = G.1 1
  · obtain ⟨_, e⟩ := sel_fills hG hV ha (Or.inl rfl : (-1 : Int) = -1 ∨ _)
    have hc : 0 < cnt (own G (spl G R)) := by
      have := cnt_own hG hV ha
      unfold whole at hw
      omega
    rw [e, show (cnt (own G (spl G R))).toNat = (cnt (own G (spl G R)) - 1).toNat + 1 by omega, frwS]
    constructor
    · intro p hp
      obtain ⟨t, ht, hp⟩ := List.mem_flatMap.mp hp
      obtain ⟨r, hr, rfl⟩ := List.mem_map.mp hp
      have := iot_mem ht
      show tk t ≤ _
      rw [tk_nn this.1]
      omega
    · intro x x0 x1
      obtain ⟨r, hr⟩ := ex_mem (frw_ne (G := G) (cnt (own G (spl G R)) - 1).toNat (nst G (sta G (spl G R)) x) [])
      refine ⟨_, List.mem_flatMap.mpr ⟨x, ?_, List.mem_map.mpr ⟨r, hr, rfl⟩⟩, ?_⟩
      · rw [← upto_iot]
        exact (mem_upto (by omega)).mpr ⟨x0, x1⟩
      · show tk x = x
        exact tk_nn x0
  · have ha' : ((spl G R).1.length : Int) < G.1 1 := by have := hO.2.1; omega
    have hd := hO.2.2.2.1 ha'
    have es : sta G (spl G R) = G.1 0 - dn (spl G R).2 := by unfold sta; rw [if_neg ha]
    rw [LM_open hG hV ha', ← es, show (G.1 2).toNat - (spl G R).2.length = (G.1 2 - (spl G R).2.length - 1).toNat + 1 by omega, frow, if_neg (by omega), upto_iot]
    constructor
    · intro p hp
      obtain ⟨r, hr, hp⟩ := List.mem_flatMap.mp hp
      obtain ⟨b, hb, rfl⟩ := List.mem_map.mp hp
      obtain ⟨t, ht, hr⟩ := List.mem_flatMap.mp hr
      obtain ⟨r', hr', rfl⟩ := List.mem_map.mp hr
      have := iot_mem ht
      show tk t ≤ _
      rw [tk_nn this.1]
      omega
    · intro x x0 x1
      obtain ⟨r, hr⟩ := ex_mem (frow_ne (G.1 2 - (spl G R).2.length - 1).toNat (sta G (spl G R) - x) [])
      obtain ⟨b, hb⟩ := ex_mem (Bk_ne (G := G) (FT G - (spl G R).1.length - 1) ((spl G R).1.length + 1) (fo G (spl G R).1.length (owd G (spl G R).1) ((spl G R).2 ++ (x :: r))).1)
      refine ⟨_, List.mem_flatMap.mpr ⟨x :: r, List.mem_flatMap.mpr ⟨x, ?_, List.mem_map.mpr ⟨r, hr, rfl⟩⟩, List.mem_map.mpr ⟨b, hb, rfl⟩⟩, ?_⟩
      · rw [← upto_iot]
        exact (mem_upto (by omega)).mpr ⟨x0, x1⟩
      · show tk x = x
        exact tk_nn x0
theorem marks_LA {G : Gm} (hG : GOK G) {R : List Int} (hV : VR G R) (hw : ¬ whole G (spl G R)) : (∀ w ∈ LA G R, w.2.2 ≤ sta G (spl G R)) ∧ ∀ x, 0 ≤ x → x ≤ sta G (spl G R) → ∃ w ∈ LA G R, w.2.2 = x := by
  obtain ⟨h1, h2⟩ := marks_LM hG hV hw
  refine ⟨fun w hw => h1 _ (List.mem_map.mpr ⟨w, hw, rfl⟩), fun x x0 x1 => ?_⟩
  obtain ⟨p, hp, e⟩ := h2 x x0 x1
  obtain ⟨w, hw, rfl⟩ := List.mem_map.mp hp
  exact ⟨w, hw, e⟩
theorem needs_M_loop {N : Nat} (hN : 1000000 ≤ N) {G : Gm} {R : List Int} {t : Int} {s : Bool} (hw : ¬ whole G (spl G R)) : ∀ (k n i : Nat) {μ : Mm}, (i : Int) + k = sta G (spl G R) + 1 → k < n → MC G R μ → AHC G μ → (∀ x : Int, 0 ≤ x → x < i → ¬ nePr (LA G R) t s x) → ∃ v μ', jX8_needs_21 N n 50 t (if s then 1 else 0) (sta G (spl G R)) i μ = some (v, μ') ∧ isNeed (nePr (LA G R) t s) v ∧ MC G R μ' ∧ AHC G μ' ∧ Fr cmI cmS μ μ'
  | k, 0, i, μ, hi, hn, _, _, _ => absurd hn (by omega)
  | 0, n + 1, i, μ, hi, hn, h, hA, hZ => by
    refine ⟨-1, μ, ?_, Or.inl ⟨rfl, fun x x0 x1 => ?_⟩, h, hA, Fr.rf0 _ _ _⟩
    · show jX8_needs_21b (jX8_needs_21 N n) N 50 t (if s then 1 else 0) (sta G (spl G R)) i μ = _
      unfold jX8_needs_21b
      rw [if_pos (by omega)]
    · by_cases c : x < i
      · exact hZ x x0 c
      · rintro ⟨⟨w, hwL, _, e⟩, _⟩
        have := (marks_LA h.1.1 h.1.2 hw).1 w hwL
        omega
  | k + 1, n + 1, i, μ, hi, hn, h, hA, hZ => by
    have hst := sta_ok h.1.1 (h.1.2.ok h.1.1)
    have hp := h.1.1.1
    obtain ⟨μ1, a1, a2, a3, a4, a5⟩ := tellsComing_M (N := N) hN (fi := (i : Int)) h hA (Or.inr hw)
    obtain ⟨w0, hw0, e0⟩ := (marks_LA h.1.1 h.1.2 hw).2 i (by omega) (by omega)
    have hne : sel i (LM G R) ≠ [] := List.ne_nil_of_mem (mem_sel.mpr ⟨w0, hw0, rfl, Or.inr e0⟩)
    obtain ⟨v, b1, b2', b3⟩ := eoc_M (N := N) hN (m := !s) hne (sel_bd h.1.1 h.1.2) a3.2.1 a2
    obtain ⟨wv, hwv, ev, emv⟩ := mem_sel.mp b2'
    have emv' : wv.2.2 = (i : Int) := by rcases emv with z | z <;> omega
    have hnp : nePr (LA G R) t s i ↔ t ≤ v := by
      constructor
      · rintro ⟨⟨w, hwL, e1, e2⟩, hs⟩
        cases s with
        | true => have := hs rfl wv hwv emv'; omega
        | false =>
          have := b3 _ (mem_sel.mpr ⟨w, hwL, rfl, Or.inr e2⟩)
          rw [if_pos (by decide)] at this
          omega
      · intro hv
        refine ⟨⟨wv, hwv, by omega, emv'⟩, fun hs w hwL e2 => ?_⟩
        have := b3 _ (mem_sel.mpr ⟨w, hwL, rfl, Or.inr e2⟩)
        rw [hs, if_neg (by decide)] at this
        omega
    have e43 : ∀ s0 : Int, s0 = (if !s then 1 else 0) → jX8_needs_43 (jX8_needs_21 N n) N 50 t (if s then 1 else 0) (sta G (spl G R)) i s0 50 μ1 = if v < t then jX8_needs_21 N n 50 t (if s then 1 else 0) (sta G (spl G R)) (i + 1 : Nat) μ1 else some ((i : Int), μ1) := by
      intro s0 hs0
      unfold jX8_needs_43
      rw [chk_e (k_50 a3.2.1), hs0, b1, b2_e, bnd_e, i_add_e (by omega) (by omega)]
      rfl
    have ered : jX8_needs_21 N (n + 1) 50 t (if s then 1 else 0) (sta G (spl G R)) i μ = if v < t then jX8_needs_21 N n 50 t (if s then 1 else 0) (sta G (spl G R)) (i + 1 : Nat) μ1 else some ((i : Int), μ1) := by
      show jX8_needs_21b (jX8_needs_21 N n) N 50 t (if s then 1 else 0) (sta G (spl G R)) i μ = _
      unfold jX8_needs_21b
      rw [if_neg (by omega), a1, ob_e]
      cases s with
      | true =>
        rw [if_pos (show ¬ (if true = true then (1 : Int) else 0) = 0 by decide)]
        exact e43 0 rfl
      | false =>
        rw [if_neg (show ¬ ¬ (if false = true then (1 : Int) else 0) = 0 by decide)]
        exact e43 1 rfl
    rw [ered]
    by_cases c : v < t
    · rw [if_pos c]
      obtain ⟨v', μ', r1, r2, r3, r4, r5⟩ := needs_M_loop hN hw (N := N) (t := t) (s := s) k n (i + 1) (μ := μ1) (by omega) (by omega) a3 a4 (fun x x0 x1 => by
        by_cases q : x < i
        · exact hZ x x0 q
        · rw [show x = (i : Int) by omega, hnp]
          omega)
      exact ⟨v', μ', r1, r2, r3, r4, a5.trI r5⟩
    · rw [if_neg c]
      exact ⟨i, μ1, rfl, Or.inr ⟨by omega, by omega, hnp.mpr (by omega), fun x x0 x1 => hZ x x0 x1⟩, a3, a4, a5⟩
theorem needs_M {N : Nat} (hN : 1000000 ≤ N) {G : Gm} {R : List Int} (t : Int) (s : Bool) {μ : Mm} (h : MC G R μ) (hA : AHC G μ) : ∃ v μ', jX8_needs N 50 t (if s then 1 else 0) μ = some (v, μ') ∧ neA G R t s v ∧ MC G R μ' ∧ AHC G μ' ∧ Fr cmI cmS μ μ' := by
  obtain ⟨μ1, a1, T1, h1, f1⟩ := h.go (N := N) hN
  have A1 : AHC G μ1 := hA.ag (fun j => f1.2.2 95 j (by decide) (by simp [sGo])) (f1.2.2 50 70 (by decide) (by decide))
  have F1 : Fr cmI cmS μ μ1 := f1.mono (by decide) (fun q hq => Or.inl (by simp [cmS, hq]))
  have e68 := T1.2.2.2.2.2
  unfold jX8_needs
  rw [a1, ob_e, e68]
  unfold whi
  by_cases hw : whole G (spl G R)
  · rw [if_pos (show ((spl G R).1.length : Int) = G.1 1 ∧ cnt (owd G (spl G R).1) ≤ (spl G R).2.length from hw), if_neg (by decide)]
    exact ⟨-1, μ1, rfl, Or.inl ⟨hw, rfl⟩, h1, A1, F1⟩
  · rw [if_neg (show ¬ (((spl G R).1.length : Int) = G.1 1 ∧ cnt (owd G (spl G R).1) ≤ (spl G R).2.length) from hw), if_pos rfl, bnd_e, T1.2.2.2.1]
    have hst := sta_ok h.1.1 (h.1.2.ok h.1.1)
    have hp := h.1.1.1
    obtain ⟨v, μ', r1, r2, r3, r4, r5⟩ := needs_M_loop hN hw (N := N) (t := t) (s := s) (sta G (spl G R) + 1).toNat N 0 (μ := μ1) (by omega) (by omega) h1 A1 (fun x x0 x1 => by omega)
    exact ⟨v, μ', r1, Or.inr ⟨hw, r2⟩, r3, r4, F1.trI r5⟩
