/-! ===== PURE: the class plays fills ===== -/
theorem gf_app : ∀ (c r : List Int) (o : Ow), gf o (c ++ r) = gf o c + gf (ltn c.length o) r
  | [], r, o => by simp [gf, ltn]
  | x :: c, r, o => by
    show tk x * o.1 + gf (lt1 o) (c ++ r) = tk x * o.1 + gf (lt1 o) c + gf (ltn c.length (lt1 o)) r
    rw [gf_app c r (lt1 o)]
    omega
theorem cnt_z {o : Ow} (h : OwOK o) : cnt o = 0 ↔ o.1 = 0 := by
  unfold OwOK at h
  unfold cnt
  constructor
  · intro z
    by_cases c : 1 ≤ o.1
    · rw [if_pos c] at z
      have : 0 ≤ (if 1 ≤ o.2.1 then (1 : Int) else 0) ∧ 0 ≤ (if 1 ≤ o.2.2 then (1 : Int) else 0) := by constructor <;> split <;> omega
      omega
    · omega
  · intro z
    rw [if_neg (by omega), if_neg (by omega), if_neg (by omega)]
    rfl
def leafF (G : Gm) (Q : Qu) (o : Ow) (F : List Int) : Int × Int := (gf o F + 50, lm Q.2.2.1 Q.2.2.2 (G.1 1) F)
theorem frw_len {G : Gm} (hG : GOK G) : ∀ (n : Nat) (st : Int) (c : List Int), 1 ≤ st ∧ st ≤ G.1 0 → FV G st c → (frw G n st c).length ≤ 10 ^ n
  | 0, st, c, _, _ => by simp [frw]
  | n + 1, st, c, h0, hc => by
    have hp := hG.1
    have hpw : 1 ≤ 10 ^ n := Nat.one_le_pow _ _ (by decide)
    cases c with
    | nil =>
      unfold frw
      rw [upto_iot]
      have key : ∀ (k : Nat) (a : Int), 0 ≤ a → a + k ≤ st + 1 → ((iot k a).flatMap fun t => (frw G n (nst G st t) []).map (t :: ·)).length ≤ k * 10 ^ n := by
        intro k
        induction k with
        | zero => intro a _ _; simp [iot]
        | succ k ih =>
          intro a ha hk
          rw [iot, List.flatMap_cons, List.length_append, List.length_map]
          have h1 := frw_len hG n (nst G st a) [] (nst_ok hG h0 (by omega)) trivial
          have h2 := ih (a + 1) (by omega) (by omega)
          rw [Nat.succ_mul]
          omega
      have := key (st.toNat + 1) 0 (by omega) (by omega)
      have h10 : (st.toNat + 1) * 10 ^ n ≤ 10 * 10 ^ n := Nat.mul_le_mul_right _ (by omega)
      rw [Nat.pow_succ, Nat.mul_comm]
      omega
    | cons x c =>
      unfold frw
      rw [List.length_map]
      have := frw_len hG n (nst G st x) c (nst_ok hG h0 hc.1) hc.2
      rw [Nat.pow_succ]
      omega
theorem fills_83 {N : Nat} {sh l : Int} {G : Gm} {R : List Int} {Q : Qu} {b : Bool} (hr : 0 ≤ Q.2.2.2) {rc : Int → Int → Int → Int → Int → Mm → Option Mm} {st g most : Int} {oo : Ow} (hoo : OwOK oo) {p : List Int} {LL : Int → List (Int × Int)} {yy : Int → Int} {a : Int} (hst : 1 ≤ st ∧ st ≤ 9) (ham : 0 ≤ a) (hmo : most ≤ st) (hg : 0 ≤ g ∧ g ≤ 1000) (hyy : ∀ t, a ≤ t → t ≤ most → tk (yy t) = t) {B : Nat} (hlm : ∀ t, a ≤ t → t ≤ most → (LL t).length ≤ B ∧ ∀ k ∈ LL t, 0 ≤ k.2 ∧ k.2 ≤ 9)
    (IH : ∀ (t : Int) (ks : List (Int × Int)) (μ : Mm), a ≤ t → t ≤ most → (∀ k ∈ ks, 0 ≤ k.2 ∧ k.2 ≤ 9) → ks.length + B < 1400 → PC sh l G R Q b μ → GRP b ks μ → MKI Q (G.1 1) (p ++ [yy t]) μ → ∃ μ', rc 33 (p.length + 1) (if t = st then G.1 0 else st - t) (si (lt1 oo)) (g + oo.1 * t) μ = some μ' ∧ GRP b (ks ++ LL t) μ' ∧ MKI Q (G.1 1) (p ++ [yy t]) μ' ∧ Fr plI plS μ μ') (hpl : p.length ≤ 3) :
    ∀ (k n : Nat) (t : Int) (ks : List (Int × Int)) {μ : Mm}, t + k = most + 1 → a ≤ t → k < n → (∀ k ∈ ks, 0 ≤ k.2 ∧ k.2 ≤ 9) → ks.length + k * B < 1400 → PC sh l G R Q b μ → GRP b ks μ → MKI Q (G.1 1) p μ → ∃ μ', jX2_playFills_83 rc N n 33 p.length st (si oo) g oo.1 most t μ = some μ' ∧ GRP b (ks ++ (iot k t).flatMap LL) μ' ∧ MKI Q (G.1 1) p μ' ∧ Fr plI plS μ μ'
  | k, 0, t, ks, μ, ht, h0, hn, _, _, _, _, _ => absurd hn (by omega)
  | 0, n + 1, t, ks, μ, ht, h0, hn, hks, hkl, hP, hG, hM => by
    refine ⟨μ, ?_, by simpa [iot] using hG, hM, Fr.rf0 _ _ _⟩
    show jX2_playFills_83b rc (jX2_playFills_83 rc N n) N 33 p.length st (si oo) g oo.1 most t μ = _
    unfold jX2_playFills_83b
    rw [if_pos (by omega)]
  | k + 1, n + 1, t, ks, μ, ht, h0, hn, hks, hkl, hP, hG, hM => by
    have hh := hlm t h0 (by omega)
    have etk := hyy t h0 (by omega)
    have lk := (LK.of hP.1.2.1 hP.1.1.2.1).1.1
    rw [Nat.succ_mul] at hkl
    obtain ⟨μ1, m1, m2, m3⟩ := markTake_X (N := N) hr (f := G.1 1) (p := p) (x := yy t) hP.2.1.2.2.2.2.1 hP.2.1.2.2.2.2.2 hM
    have f1 : Fr plI plS μ μ1 := m3.mono (by decide) (by decide)
    have P1 := hP.fr f1
    have G1 : GRP b ks μ1 := by
      obtain ⟨q1, q2, q3⟩ := hG
      refine ⟨fun i i0 i1 => ?_, ?_, q3.ext (fun i => m3.2.2 44 i (by decide) (by simp))⟩
      · rw [m3.2.2 43 i (by decide) (by simp)]; exact q1 i i0 i1
      · rw [m3.2.2 33 13 (by decide) (by decide)]; exact q2
    obtain ⟨μ2, r1, r2, r3, r4⟩ := IH t ks μ1 h0 (by omega) hks (by omega) P1 G1 m2
    have f2 := f1.trI r4
    have hks2 : ∀ k ∈ ks ++ LL t, 0 ≤ k.2 ∧ k.2 ≤ 9 := fun k hk => (List.mem_append.mp hk).elim (hks k) (hh.2 k)
    obtain ⟨μ3, s1, s2, s3, s4⟩ := fills_83 hr hoo hst ham hmo hg hyy hlm IH hpl k n (t + 1) (ks ++ LL t) (by omega) (by omega) (by omega) hks2 (by rw [List.length_append]; omega) (hP.fr f2) r2 (r3.back hr)
    refine ⟨μ3, ?_, ?_, s3, f2.trI s4⟩
    · show jX2_playFills_83b rc (jX2_playFills_83 rc N n) N 33 p.length st (si oo) g oo.1 most t μ = _
      have ho := hoo
      unfold OwOK at ho
      have hm0 : 0 ≤ oo.1 * t := Int.mul_nonneg (by omega) (by omega)
      have hm1 : oo.1 * t ≤ 3 * 9 := Int.mul_le_mul (by omega) (by omega) (by omega) (by omega)
      have e124 : ∀ v, v = (if t = st then G.1 0 else st - t) → jX2_playFills_124 rc (jX2_playFills_83 rc N n) N 33 p.length st (si oo) g oo.1 most t v μ1 = some μ3 := by
        intro v hv
        unfold jX2_playFills_124
        rw [stateBehind_X hoo, b2_e, i_add_e (x := (p.length : Int)) (by omega) (by omega), i_mul_e (by omega) (by omega), i_add_e (x := g) (by omega) (by omega), hv, r1, ob_e, bnd_e, i_add_e (by omega) (by omega)]
        exact s1
      unfold jX2_playFills_83b
      rw [etk] at m1
      rw [if_neg (by omega), hP.2.1.2.1, chk_e lk, hP.1.2.2.1.1.2.1, m1, ob_e]
      by_cases c : t = st
      · rw [if_neg (not_not_intro c), P1.2.1.2.1, chk_e (LK.of P1.1.2.1 P1.1.1.2.1).1.1, P1.1.2.2.1.1.1]
        exact e124 _ (by rw [if_pos c])
      · rw [if_pos c, i_sub_e (by omega) (by omega)]
        exact e124 _ (by rw [if_neg c])
    · rw [iot, List.flatMap_cons, ← List.append_assoc]
      exact s2
theorem fills_X {N : Nat} (hN : 1000000 ≤ N) {sh l : Int} {G : Gm} {R : List Int} {Q : Qu} (hQ : QR G R Q) {b : Bool} {o : Ow} (ho : OwOK o) : ∀ (n d : Nat) (p : List Int) (st : Int) (ks : List (Int × Int)) {μ : Mm}, (n : Int) = cnt (ltn p.length o) → p.length + n ≤ 3 → n < d → rok p → (1 ≤ st ∧ st ≤ G.1 0) → FV G st ((Q.1 (G.1 1)).drop p.length) → (b = false → G.1 1 = Q.2.2.1 → Q.2.2.2 < p.length + n) → (∀ k ∈ ks, 0 ≤ k.2 ∧ k.2 ≤ 9) → ks.length + 10 ^ n < 1400 → PC sh l G R Q b μ → GRP b ks μ → MKI Q (G.1 1) p μ → ∃ μ', jX2_playFills N d 33 p.length st (si (ltn p.length o)) (gf o p) μ = some μ' ∧ GRP b (ks ++ (frw G n st ((Q.1 (G.1 1)).drop p.length)).map (fun r => leafF G Q o (p ++ r))) μ' ∧ MKI Q (G.1 1) p μ' ∧ Fr plI plS μ μ'
  | n, 0, p, st, ks, μ, hn, h3, hd, _, _, _, _, _, _, _, _, _ => absurd hd (by omega)
  | 0, d + 1, p, st, ks, μ, hn, h3, hd, hpr, hst, hv, hlen, hks, hkl, hP, hG, hM => by
    have hol := ho.ltn p.length
    have hz : (ltn p.length o).1 = 0 := (cnt_z hol).mp (by omega)
    have hgf := gf_ok p o ho hpr
    have hsm := sm_ok ho
    have hsm2 := sm_ok hol
    obtain ⟨μ', e1, e2, e3⟩ := addToGroup_X (N := N) (b := b) (ks := ks) (so := 0) (g := gf o p) (m := lm Q.2.2.1 Q.2.2.2 (G.1 1) p) rfl (by decide) (by omega) (lm_ok hpr) (by omega) hks hP.1.2.1 hP.2.1.2.2.2.1 (fun z => hM.leaf (fun y => by have := hlen z y; omega)) hG
    have f3 : Fr plI plS μ μ' := e3.mono (by decide) (by decide)
    have hM' : MKI Q (G.1 1) p μ' := by
      have g : m_gt μ' 33 10 = m_gt μ 33 10 := e3.2.2 33 10 (by decide) (by decide)
      exact ⟨fun z => by rw [g]; exact hM.1 z, fun z y => by rw [g]; exact hM.2 z y⟩
    refine ⟨μ', ?_, ?_, hM', f3⟩
    · show jX2_playFills_B (jX2_playFills N d) N 33 p.length st (si (ltn p.length o)) (gf o p) μ = _
      unfold jX2_playFills_B jX2_playFills_16
      rw [nextOf_X hol, b2_e, if_pos hz, e1, ob_e]
    · simp only [frw, List.map_cons, List.map_nil, List.append_nil]
      have : (0 * 107 + gf o p + 50, lm Q.2.2.1 Q.2.2.2 (G.1 1) p) = leafF G Q o p := by unfold leafF; rw [Int.zero_mul, Int.zero_add]
      rw [this] at e2
      exact e2
  | n + 1, d + 1, p, st, ks, μ, hn, h3, hd, hpr, hst, hv, hlen, hks, hkl, hP, hG, hM => by
    have hGO := hP.1.1.2.2.1
    have hp := hGO.1
    have hol := ho.ltn p.length
    have hnz : ¬ (ltn p.length o).1 = 0 := fun z => by have := (cnt_z hol).mpr z; omega
    have hgf := gf_ok p o ho hpr
    have hsm := sm_ok ho
    have hsm2 := sm_ok hol
    have hfr8 := hGO.2.1
    have lk := (LK.of hP.1.2.1 hP.1.1.2.1).1.1
    have hol1 := hol
    unfold OwOK at hol1
    have hcn : cnt (ltn (p.length + 1) o) = n := by
      rw [ltn_snoc, cnt_lt1 hol]
      split <;> omega
    have hpow : 1 ≤ 10 ^ n := Nat.one_le_pow _ _ (by decide)
    rw [Nat.pow_succ] at hkl
    have step : ∀ (x : Int) (c' : List Int) (ks' : List (Int × Int)) (μ1 : Mm), (x = -2 ∨ 0 ≤ x ∧ x ≤ st) → FV G (nst G st x) c' → (Q.1 (G.1 1)).drop (p.length + 1) = c' → (∀ k ∈ ks', 0 ≤ k.2 ∧ k.2 ≤ 9) → ks'.length + 10 ^ n < 1400 → PC sh l G R Q b μ1 → GRP b ks' μ1 → MKI Q (G.1 1) (p ++ [x]) μ1 → ∃ μ', jX2_playFills N d 33 (p.length + 1) (if tk x = st then G.1 0 else st - tk x) (si (lt1 (ltn p.length o))) (gf o p + (ltn p.length o).1 * tk x) μ1 = some μ' ∧ GRP b (ks' ++ (frw G n (nst G st x) c').map (fun r => leafF G Q o (p ++ x :: r))) μ' ∧ MKI Q (G.1 1) (p ++ [x]) μ' ∧ Fr plI plS μ1 μ' := by
      intro x c' ks' μ1 hx hv' hdr hks' hkl' hP' hG' hM'
      have eln : (p ++ [x]).length = p.length + 1 := by simp
      have ih := fills_X hN hQ ho n d (p ++ [x]) (nst G st x) ks' (μ := μ1) (by rw [eln]; omega) (by rw [eln]; omega) (by omega) (rok_snoc hpr (by omega)) (nst_ok hGO hst hx) (by rw [eln, hdr]; exact hv') (fun z y => by have := hlen z y; rw [eln]; omega) hks' hkl' hP' hG' hM'
      obtain ⟨μ2, e1, e2, e3, e4⟩ := ih
      refine ⟨μ2, ?_, ?_, e3, e4⟩
      · have en : nst G st x = if tk x = st then G.1 0 else st - tk x := by
          unfold nst
          by_cases z : tk x = st
          · rw [if_pos (by omega), if_pos z]
          · rw [if_neg (by omega), if_neg z]
        have eg : gf o (p ++ [x]) = gf o p + (ltn p.length o).1 * tk x := by
          rw [gf_app]
          show gf o p + (tk x * (ltn p.length o).1 + 0) = _
          rw [Int.add_zero, Int.mul_comm]
        rw [eln, ltn_snoc, eg, en, show ((p.length + 1 : Nat) : Int) = (p.length : Int) + 1 by omega] at e1
        exact e1
      · rw [eln, hdr] at e2
        have : (frw G n (nst G st x) c').map (fun r => leafF G Q o (p ++ [x] ++ r)) = (frw G n (nst G st x) c').map (fun r => leafF G Q o (p ++ x :: r)) := by
          congr 1
          funext r
          simp
        rw [← this]
        exact e2
    show ∃ μ', jX2_playFills_B (jX2_playFills N d) N 33 p.length st (si (ltn p.length o)) (gf o p) μ = some μ' ∧ _
    unfold jX2_playFills_B jX2_playFills_79
    rw [nextOf_X hol, b2_e, if_neg hnz, if_pos (by omega), hP.2.1.2.1, chk_e lk, hP.1.2.2.1.1.2.1, givenIn_X hP (by omega) (by omega), b2_e]
    by_cases c2 : ((Q.1 (G.1 1)).length : Int) ≤ p.length
    · have edr : (Q.1 (G.1 1)).drop p.length = [] := List.drop_eq_nil_of_le (by omega)
      have edr2 : (Q.1 (G.1 1)).drop (p.length + 1) = [] := List.drop_eq_nil_of_le (by omega)
      rw [if_pos c2, edr]
      have K := fills_83 (N := N) hQ.2.2.1 (rc := jX2_playFills N d) (st := st) (g := gf o p) (most := st) hol (p := p) (LL := fun t => (frw G n (nst G st t) []).map (fun r => leafF G Q o (p ++ t :: r))) (yy := fun t => t) (a := 0) (sh := sh) (l := l) (G := G) (R := R) (b := b) (by omega) (by omega) (by omega) (by omega) (fun t t0 _ => by unfold tk; rw [if_neg (by omega)]) (B := 10 ^ n) ?_ ?_ (by omega) (st.toNat + 1) N 0 ks (by omega) (by omega) (by omega) hks ?_ hP hG hM
      · obtain ⟨μ', e1, e2, e3, e4⟩ := K
        refine ⟨μ', e1, ?_, e3, e4⟩
        have el : (List.map (fun r => leafF G Q o (p ++ r)) (frw G (n + 1) st [])) = (iot (st.toNat + 1) 0).flatMap (fun t => (frw G n (nst G st t) []).map (fun r => leafF G Q o (p ++ t :: r))) := by
          rw [frw, upto_iot, List.map_flatMap]
          congr 1
          funext t
          rw [List.map_map]
          rfl
        rw [el]
        exact e2
      · intro t t0 t1
        refine ⟨by rw [List.length_map]; exact frw_len hGO n _ [] (nst_ok hGO hst (Or.inr ⟨t0, t1⟩)) trivial, fun k hk => ?_⟩
        obtain ⟨r, hr, rfl⟩ := List.mem_map.mp hk
        have ha := frw_ok hGO n (nst G st t) [] (nst_ok hGO hst (Or.inr ⟨t0, t1⟩)) trivial r hr
        have : rok (p ++ t :: r) := by
          intro y hy
          rcases List.mem_append.mp hy with z | z
          · exact hpr y z
          · rcases List.mem_cons.mp z with w | w
            · rw [w]; omega
            · exact ha.1 y w
        exact lm_ok this
      · intro t ks' μ1 t0 t1 hks' hkl' hP' hG' hM'
        have etk : tk t = t := by unfold tk; rw [if_neg (by omega)]
        have := step t [] ks' μ1 (Or.inr ⟨t0, t1⟩) trivial edr2 hks' hkl' hP' hG' hM'
        rw [etk] at this
        exact this
      · have : (st.toNat + 1) * 10 ^ n ≤ 10 * 10 ^ n := Nat.mul_le_mul_right _ (by omega)
        omega
    · have hu : p.length < (Q.1 (G.1 1)).length := by omega
      have edr := drop_cons hu
      have hra := hQ.2.1 (G.1 1) (by omega) (by omega) p.length hu
      rw [edr] at hv ⊢
      generalize (Q.1 (G.1 1)).getD p.length 0 = x at *
      have hv1 := hv.1
      have htk := tk_ok (x := x) (by omega)
      have htk2 : tk x ≤ st := by unfold tk; rcases hv1 with z | z <;> split <;> omega
      have hwi : i_max 0 (i_min st x) = tk x := by unfold i_max i_min tk; repeat' split <;> omega
      have hfR := fR_ok (spl G R) (G.1 1)
      have hsl := spl_len G R
      have hR27 := R_len hGO hP.1.1.2.2.2
      rw [if_neg c2, hP.2.1.1, hP.2.1.2.1, chk_e lk, chk_e (SK.of hP.1.2.1 hP.1.1.1).1, hP.1.2.2.1.1.2.1, hP.1.fr, b2_e, i_add_e (x := fR (spl G R) (G.1 1)) (by omega) (by omega), hP.1.ra, b2_e, hra, within_X, b2_e, hwi]
      have K := fills_83 (N := N) hQ.2.2.1 (rc := jX2_playFills N d) (st := st) (g := gf o p) (most := tk x) hol (p := p) (LL := fun _ => (frw G n (nst G st x) ((Q.1 (G.1 1)).drop (p.length + 1))).map (fun r => leafF G Q o (p ++ x :: r))) (yy := fun _ => x) (a := tk x) (sh := sh) (l := l) (G := G) (R := R) (b := b) (by omega) (by omega) (by omega) (by omega) (fun t t0 t1 => by omega) (B := 10 ^ n) ?_ ?_ (by omega) 1 N (tk x) ks (by omega) (by omega) (by omega) hks (by omega) hP hG hM
      · obtain ⟨μ', e1, e2, e3, e4⟩ := K
        refine ⟨μ', e1, ?_, e3, e4⟩
        have el : (List.map (fun r => leafF G Q o (p ++ r)) (frw G (n + 1) st (x :: (Q.1 (G.1 1)).drop (p.length + 1)))) = (iot 1 (tk x)).flatMap (fun _ => (frw G n (nst G st x) ((Q.1 (G.1 1)).drop (p.length + 1))).map (fun r => leafF G Q o (p ++ x :: r))) := by
          rw [frw, List.map_map]
          simp [iot]
        rw [el]
        exact e2
      · intro t t0 t1
        refine ⟨by rw [List.length_map]; exact frw_len hGO n _ _ (nst_ok hGO hst hv.1) hv.2, fun k hk => ?_⟩
        obtain ⟨r, hr, rfl⟩ := List.mem_map.mp hk
        have ha := frw_ok hGO n (nst G st x) _ (nst_ok hGO hst hv.1) hv.2 r hr
        have : rok (p ++ x :: r) := by
          intro y hy
          rcases List.mem_append.mp hy with z | z
          · exact hpr y z
          · rcases List.mem_cons.mp z with w | w
            · rw [w]; omega
            · exact ha.1 y w
        exact lm_ok this
      · intro t ks' μ1 t0 t1 hks' hkl' hP' hG' hM'
        have := step x _ ks' μ1 hv.1 hv.2 rfl hks' hkl' hP' hG' hM'
        have et : t = tk x := by omega
        rw [et]
        exact this
