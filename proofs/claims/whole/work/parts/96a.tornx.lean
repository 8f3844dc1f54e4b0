/-! ===== PURE: tear, fits, must of the class ===== -/
def teA (G : Gm) (R : List Int) (f : Int) : Int := if 0 ≤ f ∧ f ≤ G.1 1 ∧ ¬ whi G (spl G R) = 0 then 1 else 0
def teT (G : Gm) (R : List Int) (tn : Int → Bool) (f : Int) (t : Bool) : Int → Bool := if 0 ≤ f ∧ f ≤ G.1 1 ∧ ¬ whi G (spl G R) = 0 then (fun x => if x = f then t else tn x) else tn
theorem tear_X {N : Nat} {sh l : Int} {G : Gm} {R : List Int} {tn : Int → Bool} {f : Int} (t : Bool) {μ : Mm} (h : SC sh l G R μ) (hT : TnX tn μ) (h5 : m_gt μ 0 5 = sh) (h2 : m_gt μ 0 2 = l) : ∃ μ', jX7_tear N 0 f (if t then 1 else 0) μ = some (teA G R f, μ') ∧ TnX (teT G R tn f t) μ' ∧ (teA G R f = 1 → m_gt μ' 33 0 = 0) ∧ (teA G R f = 0 → μ' = μ ∧ teT G R tn f t = tn) ∧ Fr [32] [(33, 0)] μ μ' := by
  have hK := h.2.1
  have h8 := h.1.2.2.1.2.1
  have hl := chk_e (β := Int × Mm) (LK.of hK h.1.2.1).1.1
  have hs := chk_e (β := Int × Mm) (SK.of hK h.1.1).1
  unfold jX7_tear jX7_tear_34
  rw [h2, hl, h.2.2.1.1.2.1, r_0_7 hK, len_e (k_32 hK) (by decide) (by decide), ob_e, h5, hs, h.wh, b2_e]
  by_cases C : 0 ≤ f ∧ f ≤ G.1 1 ∧ ¬ whi G (spl G R) = 0
  · have eA : teA G R f = 1 := if_pos C
    have eT : teT G R tn f t = (fun x => if x = f then t else tn x) := if_pos C
    rw [eA, eT, if_neg (by omega), if_neg (by omega), if_neg (by omega), if_pos C.2.2, z_e (by cases t <;> simp), r_0_7 hK, ast_e (k_32 hK) (by omega) (by omega), ob_e]
    have f1 : Fr [32] [(33, 0)] μ (m_st μ 32 f (if t then 1 else 0)) := Fr.stI (Fr.rf0 _ _ _) (by simp)
    have K1 : KR (m_st μ 32 f (if t then 1 else 0)) := hK.sa _ _ (by decide)
    rw [r_0_8 K1, chk_e (k_33 K1)]
    unfold jX2_forget
    rw [bnd_e, ob_e]
    refine ⟨_, rfl, fun x x0 x1 => ?_, fun _ => gt_same _ _ _ _, fun z => by omega, f1.stI (by simp)⟩
    rw [gt_r _ _ _ _ (by decide), m_gt_st]
    by_cases z : x = f
    · have e : (fun x => if x = f then t else tn x) x = t := if_pos z
      rw [if_pos ⟨rfl, z⟩, e]
    · have e : (fun x => if x = f then t else tn x) x = tn x := if_neg z
      rw [if_neg (fun y => z y.2), e]
      exact hT x x0 x1
  · have eA : teA G R f = 0 := if_neg C
    have eT : teT G R tn f t = tn := if_neg C
    rw [eA, eT]
    refine ⟨μ, ?_, hT, fun z => by omega, fun _ => ⟨rfl, rfl⟩, Fr.rf0 _ _ _⟩
    by_cases c1 : f < 0
    · rw [if_pos c1]
    · rw [if_neg c1]
      by_cases c2 : G.1 1 < f
      · rw [if_pos c2]
      · rw [if_neg c2, if_neg (by omega)]
        have : whi G (spl G R) = 0 := Classical.byContradiction (fun z => C ⟨by omega, by omega, z⟩)
        rw [if_neg (not_not_intro this)]
def fiA (G : Gm) (R : List Int) (tn : Int → Bool) (n : Int) (a : Bool) : Int := if whi G (spl G R) = 0 then -1 else if a then mnI CM (LT G R tn (-1)).length else mnI CM (cT (LT G R tn (-1)) o0 n)
theorem fits_X {N : Nat} (hN : 1000000 ≤ N) {sh l : Int} {G : Gm} {R : List Int} {tn : Int → Bool} {n : Int} (a : Bool) {μ : Mm} (h : XC sh l G R tn μ) (h5 : m_gt μ 0 5 = sh) : ∃ μ', jX7_fits N 0 n (if a then 1 else 0) μ = some (fiA G R tn n a, μ') ∧ XC sh l G R tn μ' ∧ (∀ r i : Int, ¬ lkC r → m_gt μ' r i = m_gt μ r i) := by
  have hK := h.1.2.1
  have hsh := h.1.1.1
  have hG := h.1.1.2.2.1
  have h8 := hG.2.1
  have hL := LT_LE hG h.1.1.2.2.2 tn (-1)
  unfold jX7_fits jX7_fits_55 fiA
  rw [h5, chk_e (SK.of hK hsh).1, h.1.wh, b2_e]
  by_cases c : whi G (spl G R) = 0
  · rw [if_neg (not_not_intro c), if_pos c]
    exact ⟨μ, rfl, h, fun _ _ _ => rfl⟩
  · obtain ⟨μ1, e1, e2, e3, e4⟩ := lookAtTorn_X (N := N) hN (m := -1) (by omega) h
    have K1 := e2.1.2.1
    have e8 : m_gt μ1 0 8 = 33 := r_0_8 K1
    rw [decide_eq_true rfl] at e3
    obtain ⟨v, a1, a2⟩ := at_X (N := N) hL K1 e3 n
    unfold RV at a2
    rw [if_pos rfl] at a2
    refine ⟨μ1, ?_, e2, e4⟩
    have hall : cG (LT G R tn (-1)) (-400) = (LT G R tn (-1)).length := by
      unfold cG
      rw [List.countP_eq_length]
      intro w hw
      exact decide_eq_true (hL.1 w hw).2.1
    rw [if_pos c, if_neg c, r_0_8 hK, chk_e (k_33 hK), h5, r_0_7 hK, e1, ob_e, e8, chk_e (k_33 K1), chk_e (k_33 K1), a1, b2_e, countFrom_X hN hL K1 e3 ⟨by decide, by decide⟩, b2_e, a2, hall]
    cases a with
    | true => rw [if_neg (by decide), if_pos rfl]
    | false => rw [if_pos (by decide), if_neg (by decide)]
def muA (G : Gm) (R : List Int) (tn : Int → Bool) (f n : Int) (a : Bool) (v : Int) : Prop := if 0 ≤ f ∧ f < G.1 1 ∧ ¬ whi G (spl G R) = 0 then MB (LT G R tn f) (fun s => a = true ∨ s = n) v else v = -1
theorem muA.uni {G : Gm} {R : List Int} {tn : Int → Bool} {f n : Int} {a : Bool} {u v : Int} (h : muA G R tn f n a u) (g : muA G R tn f n a v) : u = v := by
  unfold muA at h g
  split at h
  · rename_i c
    rw [if_pos c] at g
    exact h.uni g (fun _ _ => Iff.rfl)
  · rename_i c
    rw [if_neg c] at g
    omega
theorem must_X {N : Nat} (hN : 1000000 ≤ N) {sh l : Int} {G : Gm} {R : List Int} {tn : Int → Bool} {f n : Int} (a : Bool) {μ : Mm} (h : XC sh l G R tn μ) (h5 : m_gt μ 0 5 = sh) (h2 : m_gt μ 0 2 = l) : ∃ v μ', jX7_must N 0 f n (if a then 1 else 0) μ = some (v, μ') ∧ muA G R tn f n a v ∧ XC sh l G R tn μ' ∧ (∀ r i : Int, ¬ lkC r → m_gt μ' r i = m_gt μ r i) := by
  have hK := h.1.2.1
  have hsh := h.1.1.1
  have hG := h.1.1.2.2.1
  have h8 := hG.2.1
  have hlk := chk_e (β := Int × Mm) (LK.of hK h.1.1.2.1).1.1
  unfold jX7_must jX7_must_25 jX7_must_68 muA
  rw [h2, hlk, h.1.2.2.1.1.2.1, h5, chk_e (SK.of hK hsh).1, h.1.wh, b2_e]
  by_cases C : 0 ≤ f ∧ f < G.1 1 ∧ ¬ whi G (spl G R) = 0
  · have hL := LT_LE hG h.1.1.2.2.2 tn f
    obtain ⟨μ1, e1, e2, e3, e4⟩ := lookAtTorn_X (N := N) hN (m := f) (by omega) h
    have K1 := e2.1.2.1
    have e8 : m_gt μ1 0 8 = 33 := r_0_8 K1
    rw [decide_eq_false (show ¬ f = -1 by omega)] at e3
    obtain ⟨v, a1, a2⟩ := at_X (N := N) hL K1 e3 n
    obtain ⟨u, b1, b2⟩ := marksFrom_X (N := N) hN hL K1 e3 (n := -400) ⟨by decide, by decide⟩
    have a2 := RV.mb hL.2 a2
    rw [if_neg (by omega), if_neg (by omega), if_pos C.2.2, r_0_8 hK, chk_e (k_33 hK), h5, r_0_7 hK, e1, ob_e, e8, chk_e (k_33 K1), chk_e (k_33 K1), a1, b2_e, b1, b2_e]
    have l2 : ∀ v, ps10 v → l_2i v = v := fun v hv => l_2i_e (by have := hv.1; omega) (by have := hv.2; omega)
    rw [l2 v a2.1, l2 u b2.1]
    simp only [if_pos C]
    cases a with
    | true =>
      refine ⟨u, μ1, by rw [if_neg (by decide)], b2.congr (fun w hw => ⟨fun _ => Or.inl rfl, fun _ => (hL.1 w hw).2.1⟩), e2, e4⟩
    | false =>
      refine ⟨v, μ1, by rw [if_pos (by decide)], a2.congr (fun w hw => ⟨fun z => Or.inr z, fun z => z.elim (fun y => by cases y) id⟩), e2, e4⟩
  · simp only [if_neg C]
    refine ⟨-1, μ, ?_, rfl, h, fun _ _ _ => rfl⟩
    by_cases c1 : f < 0
    · rw [if_pos c1]
    · rw [if_neg c1]
      by_cases c2 : G.1 1 ≤ f
      · rw [if_pos c2]
      · have : whi G (spl G R) = 0 := Classical.byContradiction (fun z => C ⟨by omega, by omega, z⟩)
        rw [if_neg c2, if_neg (not_not_intro this)]
