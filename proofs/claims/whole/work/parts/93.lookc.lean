/-! ===== PURE: lookAhead, lookAtTorn of the class ===== -/
def TnX (tn : Int → Bool) (μ : Mm) : Prop := ∀ f, 0 ≤ f → f ≤ 8 → m_gt μ 32 f = if tn f then 1 else 0
/-- what is held is what its kind says -/
def HOLD (G : Gm) (R : List Int) (tn : Int → Bool) (μ : Mm) : Prop := m_gt μ 33 0 = 0 ∨ (m_gt μ 33 0 = 1 ∧ RES true (LA G R) μ) ∨ (m_gt μ 33 0 = 2 ∧ RES false (LA G R) μ) ∨ (m_gt μ 33 0 = 3 ∧ RES true (LT G R tn (-1)) μ) ∨ (∃ f, 0 ≤ f ∧ f < G.1 1 ∧ m_gt μ 33 0 = 4 + f ∧ RES false (LT G R tn f) μ)
theorem LA_LB {G : Gm} (hG : GOK G) {R : List Int} (hV : VR G R) : LB (LA G R) := by
  have := hG.2.1
  exact Lf_LB2 hG (QA_QR hG hV).1 (by omega)
theorem LT_LB {G : Gm} (hG : GOK G) {R : List Int} (hV : VR G R) (tn : Int → Bool) (m : Int) : LB (LT G R tn m) := by
  have := hG.2.1
  exact Lf_LB2 hG (QT_QR hG hV tn m).1 (by omega)
theorem OS.ext {μ μ' : Mm} (h : OS μ) (hK : KR μ') (hz : μ'.1 = μ.1) (hk : μ'.2.1 = μ.2.1) (e : ∀ r i : Int, lkC r → r ≠ 42 → ¬ (r = 33 ∧ ¬ (i = 1 ∨ i = 2 ∨ i = 13)) → m_gt μ' r i = m_gt μ r i) : OS μ' := by
  obtain ⟨_, a1, a2, a3⟩ := h
  have g : ∀ r i : Int, (r = 34 ∨ r = 36 ∨ r = 37 ∨ r = 38 ∨ r = 40 ∨ r = 41 ∨ r = 43 ∨ r = 44 ∨ 105 ≤ r) → m_gt μ' r i = m_gt μ r i := fun r i hr => e r i (by unfold lkC; omega) (by omega) (by omega)
  have g3 : ∀ i : Int, (i = 1 ∨ i = 2 ∨ i = 13) → m_gt μ' 33 i = m_gt μ 33 i := fun i hi => e 33 i (by unfold lkC; omega) (by omega) (by omega)
  have kd : ∀ r, m_kd μ' r = m_kd μ r := fun r => congrFun hk r
  have hsz : m_sz μ' = m_sz μ := by unfold m_sz; rw [hz]
  have hsl : m_sl μ' = m_sl μ := by unfold m_sl; rw [hz]
  refine ⟨hK, fun i i0 i1 => by rw [g 43 i (by omega)]; exact a1 i i0 i1, by rw [g3 13 (by omega)]; exact a2, ?_⟩
  rw [hsz, hsl]
  rcases a3 with ⟨a3, ⟨n1, n2⟩, ⟨c1, c2⟩, hrow⟩ | ⟨a3, hO, p, c, q, d, hpq, n1, n2, hZ, bb, LL, hLL, hX⟩
  · refine Or.inl ⟨a3, ⟨by rw [g3 1 (by omega)]; exact n1, by rw [g3 2 (by omega)]; exact n2⟩, ⟨by rw [g 34 1 (by omega)]; exact c1, by rw [g 38 1 (by omega)]; exact c2⟩, fun r r0 r1 => ?_⟩
    rw [g 36 r (by omega), g 37 r (by omega), g 40 r (by omega), g 41 r (by omega)]
    exact hrow r r0 r1
  · have hp1 := hpq.1
    have hq1 := hpq.2.1
    refine Or.inr ⟨a3, ⟨by rw [kd]; exact hO.1, by rw [kd]; exact hO.2.1, by rw [g 34 1 (by omega)]; exact hO.2.2.1, by rw [g 38 1 (by omega)]; exact hO.2.2.2⟩, p, c, q, d, hpq, by rw [g3 1 (by omega)]; exact n1, by rw [g3 2 (by omega)]; exact n2, ⟨fun r t r0 r1 t0 t1 => ?_, fun r r0 r1 => ?_⟩, bb, LL, hLL, hX.ext (fun r i hr => g r i ?_)⟩
    · rw [g d _ (by unfold pc at hq1; omega)]; exact hZ.1 r t r0 r1 t0 t1
    · rw [g (q + 2) _ (by unfold pc at hq1; omega), g (q + 3) _ (by unfold pc at hq1; omega)]; exact hZ.2 r r0 r1
    · unfold pc at hp1; omega
/-- the state of the class that a look ahead wants -/
def XC (sh l : Int) (G : Gm) (R : List Int) (tn : Int → Bool) (μ : Mm) : Prop := SC sh l G R μ ∧ OS μ ∧ TnX tn μ ∧ HOLD G R tn μ
theorem given_loop {N : Nat} {sh l : Int} {G : Gm} {R : List Int} : ∀ (k n f : Nat) {μ : Mm}, f + k = 9 → k < n → SC sh l G R μ → (∀ x, 0 ≤ x → x < (f : Int) → m_gt μ 42 x = (fra (spl G R) x).length) → ∃ μ', jX2_lookAhead_53 N n 33 sh f μ = (jX2_goThrough N 33 sh μ').bind (fun μ1 => some μ1) ∧ (∀ x, 0 ≤ x → x < 9 → m_gt μ' 42 x = (fra (spl G R) x).length) ∧ Fr [42] [] μ μ'
  | k, 0, f, μ, hf, hn, _, _ => absurd hn (by omega)
  | 0, n + 1, f, μ, hf, hn, hS, h42 => by
    have hK := hS.2.1
    refine ⟨μ, ?_, fun x x0 x1 => h42 x x0 (by omega), Fr.rf0 _ _ _⟩
    show jX2_lookAhead_53b (jX2_lookAhead_53 N n) N 33 sh f μ = _
    unfold jX2_lookAhead_53b
    rw [r_33_5 hK, len_e (k_42 hK) (by decide) (by decide), ob_e, if_pos (by omega)]
  | k + 1, n + 1, f, μ, hf, hn, hS, h42 => by
    have hK := hS.2.1
    have f1 : Fr [42] [] μ (m_st μ 42 f (fra (spl G R) f).length) := Fr.stI (Fr.rf0 _ _ _) (by simp)
    have S1 : SC sh l G R (m_st μ 42 f (fra (spl G R) f).length) := hS.ext (hK.sa _ _ (by decide)) (fun r i hr => gt_r _ _ _ _ (by omega))
    obtain ⟨μ', e1, e2, e3⟩ := given_loop k n (f + 1) (μ := m_st μ 42 f (fra (spl G R) f).length) (by omega) (by omega) S1 (fun x x0 x1 => by
      rw [m_gt_st]
      by_cases z : x = (f : Int)
      · rw [if_pos ⟨rfl, z⟩, z]
      · rw [if_neg (fun y => z y.2)]; exact h42 x x0 (by omega))
    refine ⟨μ', ?_, e2, f1.trI e3⟩
    rw [← e1]
    show jX2_lookAhead_53b (jX2_lookAhead_53 N n) N 33 sh f μ = _
    unfold jX2_lookAhead_53b
    rw [r_33_5 hK, len_e (k_42 hK) (by decide) (by decide), ob_e, if_neg (by omega), chk_e (SK.of hK hS.1.1).1, hS.sz (by omega) (by omega), b2_e, ast_e (k_42 hK) (by omega) (by omega), ob_e, bnd_e, i_add_e (by omega) (by omega)]
    rfl
theorem lookAhead_X {N : Nat} (hN : 1000000 ≤ N) {sh l : Int} {G : Gm} {R : List Int} {tn : Int → Bool} {b : Bool} (hw : b = false → ¬ whole G (spl G R)) {μ : Mm} (h : XC sh l G R tn μ) : ∃ μ', jX2_lookAhead N 33 sh (if b then 1 else 0) μ = some μ' ∧ XC sh l G R tn μ' ∧ RES b (LA G R) μ' ∧ (∀ r i : Int, ¬ lkC r → m_gt μ' r i = m_gt μ r i) := by
  obtain ⟨hS, hOS, hT, hH⟩ := id h
  have hK := hS.2.1
  have hG := hS.1.2.2.1
  have hV := hS.1.2.2.2
  have hsh := hS.1.1
  have key : ∀ v, v = (if b then 1 else 2) → ∃ μ', jX2_lookAhead_9 N 33 sh (if b then 1 else 0) v μ = some μ' ∧ XC sh l G R tn μ' ∧ RES b (LA G R) μ' ∧ (∀ r i : Int, ¬ lkC r → m_gt μ' r i = m_gt μ r i) := by
    intro v hv
    unfold jX2_lookAhead_9
    by_cases c : m_gt μ 33 0 = v
    · rw [if_neg (not_not_intro c)]
      refine ⟨μ, rfl, h, ?_, fun _ _ _ => rfl⟩
      cases b with
      | true =>
        rw [if_pos rfl] at hv
        rcases hH with z | ⟨z, r⟩ | ⟨z, r⟩ | ⟨z, r⟩ | ⟨f, f0, f1, z, r⟩
        · exfalso; omega
        · exact r
        · exfalso; omega
        · exfalso; omega
        · exfalso; omega
      | false =>
        rw [if_neg (by decide)] at hv
        rcases hH with z | ⟨z, r⟩ | ⟨z, r⟩ | ⟨z, r⟩ | ⟨f, f0, f1, z, r⟩
        · exfalso; omega
        · exfalso; omega
        · exact r
        · exfalso; omega
        · exfalso; omega
    · rw [if_pos c, bnd_e, z_e (by cases b <;> simp), bnd_e, bnd_e, chk_st, chk_st, chk_st, chk_e (SK.of hK hsh).1, bnd_e, bnd_e]
      let M := m_st (m_st (m_st (m_st (m_st μ 33 0 v) 33 7 (if b then 1 else 0)) 33 6 0) 33 8 (spl G R).1.length) 33 9 (spl G R).2.length
      have gM : ∀ r i : Int, ¬ (r = 33 ∧ (i = 0 ∨ i = 7 ∨ i = 6 ∨ i = 8 ∨ i = 9)) → m_gt M r i = m_gt μ r i := by
        intro r i z
        show m_gt (m_st (m_st (m_st (m_st (m_st μ 33 0 v) 33 7 (if b then 1 else 0)) 33 6 0) 33 8 (spl G R).1.length) 33 9 (spl G R).2.length) r i = _
        rw [m_gt_st, m_gt_st, m_gt_st, m_gt_st, m_gt_st, if_neg (by omega), if_neg (by omega), if_neg (by omega), if_neg (by omega), if_neg (by omega)]
      have KM : KR M := ((((hK.st _ (by decide)).st _ (by decide)).st _ (by decide)).st _ (by decide)).st _ (by decide)
      have SM : SC sh l G R M := hS.ext KM (fun r i hr => gM r i (by omega))
      have eM : (m_st (m_st (m_st (m_st (m_st μ 33 0 v) 33 7 (if b then 1 else 0)) 33 6 0) 33 8 (m_gt (m_st (m_st (m_st μ 33 0 v) 33 7 (if b then 1 else 0)) 33 6 0) sh 2)) 33 9 (m_gt (m_st (m_st (m_st (m_st μ 33 0 v) 33 7 (if b then 1 else 0)) 33 6 0) 33 8 (m_gt (m_st (m_st (m_st μ 33 0 v) 33 7 (if b then 1 else 0)) 33 6 0) sh 2)) sh 3)) = M := by
        have s2 := hS.2.2.2.2.1.2.1
        have s3 := hS.2.2.2.2.1.2.2.1
        simp (disch := omega) only [gt_r, s2, s3]
        rfl
      rw [eM]
      obtain ⟨M1, e1, e2, e3⟩ := given_loop (N := N) 9 N 0 (μ := M) (by omega) (by omega) SM (fun x x0 x1 => by omega)
      rw [show ((0 : Nat) : Int) = 0 from rfl] at e1
      have g1 : ∀ r i : Int, r ≠ 42 → m_gt M1 r i = m_gt M r i := fun r i hr => e3.2.2 r i (by simp; exact hr) (by simp)
      have K1 : KR M1 := e3.KR KM (by decide)
      have S1 : SC sh l G R M1 := SM.ext K1 (fun r i hr => g1 r i (by omega))
      have OS1 : OS M1 := hOS.ext K1 (by rw [e3.1]; rfl) (by rw [e3.2.1]; rfl) (fun r i hr h42 h33 => by rw [g1 r i h42, gM r i (by omega)])
      have f33 : ∀ i, m_gt M1 33 i = m_gt M 33 i := fun i => g1 33 i (by decide)
      obtain ⟨M2, r1, r2, r3, r4, r5, r6⟩ := goThrough_X (N := N) hN (b := b) (QA_QR hG hV) (QA_QM hG hV hw) OS1 S1 (by
          rw [f33]
          show m_gt (m_st (m_st (m_st (m_st (m_st μ 33 0 v) 33 7 (if b then 1 else 0)) 33 6 0) 33 8 (spl G R).1.length) 33 9 (spl G R).2.length) 33 6 = _
          simp (disch := omega) only [gt_i, gt_same]
          rfl) (by
          rw [f33]
          show m_gt (m_st (m_st (m_st (m_st (m_st μ 33 0 v) 33 7 (if b then 1 else 0)) 33 6 0) 33 8 (spl G R).1.length) 33 9 (spl G R).2.length) 33 7 = _
          simp (disch := omega) only [gt_i, gt_same]) (by
          rw [f33]
          show m_gt (m_st (m_st (m_st (m_st (m_st μ 33 0 v) 33 7 (if b then 1 else 0)) 33 6 0) 33 8 (spl G R).1.length) 33 9 (spl G R).2.length) 33 8 = _
          simp (disch := omega) only [gt_i, gt_same]
          rfl) (by
          rw [f33]
          exact gt_same _ _ _ _) (fun f f0 f8 => e2 f f0 (by omega))
      have out : ∀ r i : Int, ¬ lkC r → m_gt M2 r i = m_gt μ r i := by
        intro r i hr
        have hr' := hr
        unfold lkC at hr
        rw [r6 r i hr', g1 r i (by omega), gM r i (by omega)]
      have h0 : m_gt M2 33 0 = v := by
        rw [r5, f33]
        show m_gt (m_st (m_st (m_st (m_st (m_st μ 33 0 v) 33 7 (if b then 1 else 0)) 33 6 0) 33 8 (spl G R).1.length) 33 9 (spl G R).2.length) 33 0 = _
        simp (disch := omega) only [gt_i, gt_same]
      refine ⟨M2, ?_, ⟨hS.ext r2 (fun r i hr => out r i (by unfold lkC; omega)), r3.os (LA_LB hG hV) r2 r4, fun f f0 f8 => ?_, ?_⟩, r3, out⟩
      · rw [e1, r1, ob_e]
      · rw [out 32 f (by unfold lkC; omega)]; exact hT f f0 f8
      · unfold HOLD
        rw [h0]
        cases b with
        | true => exact Or.inr (Or.inl ⟨by rw [hv]; rfl, r3⟩)
        | false => exact Or.inr (Or.inr (Or.inl ⟨by rw [hv]; rfl, r3⟩))
  unfold jX2_lookAhead
  cases b with
  | true =>
    rw [if_neg (by decide)]
    exact key 1 rfl
  | false =>
    rw [if_pos (by decide)]
    exact key 2 rfl
theorem isTorn_X {N : Nat} {tn : Int → Bool} {f : Int} {μ : Mm} (hK : KR μ) (h : TnX tn μ) (h0 : 0 ≤ f) (h8 : f ≤ 8) : jX2_isTorn N 32 f μ = some (if tn f then 1 else 0, μ) := by
  unfold jX2_isTorn jX2_isTorn_20 jX2_isTorn_21
  rw [if_neg (by omega), len_e (k_32 hK) (by decide) (by decide), ob_e, if_neg (by omega), ald_e (k_32 hK) (by omega) (by omega), ob_e, h f h0 h8, z_e (x := 0) (Or.inl rfl), z_e (x := 1) (Or.inr rfl)]
  cases tn f with
  | true => rfl
  | false => rfl
theorem torn_loop {N : Nat} {sh l : Int} {G : Gm} {R : List Int} {tn : Int → Bool} (m : Int) : ∀ (k n f : Nat) {μ : Mm}, f + k = 9 → k < n → SC sh l G R μ → TnX tn μ → (∀ x, 0 ≤ x → x < (f : Int) → m_gt μ 42 x = ((QT G R tn m).1 x).length) → ∃ μ', jX2_lookAtTorn_57 N n 33 sh 32 f μ = (jX2_goThrough N 33 sh (m_st μ' 33 6 (if (QT G R tn m).2.1 then 1 else 0))).bind (fun μ1 => some μ1) ∧ (∀ x, 0 ≤ x → x < 9 → m_gt μ' 42 x = ((QT G R tn m).1 x).length) ∧ Fr [42] [] μ μ'
  | k, 0, f, μ, hf, hn, _, _, _ => absurd hn (by omega)
  | 0, n + 1, f, μ, hf, hn, hS, hT, h42 => by
    have hK := hS.2.1
    have h8 := hS.1.2.2.1.2.1
    refine ⟨μ, ?_, fun x x0 x1 => h42 x x0 (by omega), Fr.rf0 _ _ _⟩
    show jX2_lookAtTorn_57b (jX2_lookAtTorn_57 N n) N 33 sh 32 f μ = _
    unfold jX2_lookAtTorn_57b jX2_lookAtTorn_119
    rw [r_33_5 hK, len_e (k_42 hK) (by decide) (by decide), ob_e, if_pos (by omega), chk_e (SK.of hK hS.1.1).1, hS.2.2.2.2.1.2.2.2.2.1, chk_e (LK.of hK hS.1.2.1).1.1, hS.2.2.1.1.2.1, isTorn_X hK hT (by omega) (by omega), b2_e, chk_e (k_33 hK), chk_e (k_33 hK), z_e (x := 0) (Or.inl rfl), z_e (x := 1) (Or.inr rfl), bnd_e, bnd_e]
    have e : (QT G R tn m).2.1 = !tn (G.1 1) := rfl
    rw [e]
    cases tn (G.1 1) with
    | true => rfl
    | false => rfl
  | k + 1, n + 1, f, μ, hf, hn, hS, hT, h42 => by
    have hK := hS.2.1
    let v : Int := ((QT G R tn m).1 f).length
    have f1 : Fr [42] [] μ (m_st μ 42 f v) := Fr.stI (Fr.rf0 _ _ _) (by simp)
    have S1 : SC sh l G R (m_st μ 42 f v) := hS.ext (hK.sa _ _ (by decide)) (fun r i hr => gt_r _ _ _ _ (by omega))
    have T1 : TnX tn (m_st μ 42 f v) := fun x x0 x1 => by rw [gt_r _ _ _ _ (by decide)]; exact hT x x0 x1
    obtain ⟨μ', e1, e2, e3⟩ := torn_loop m k n (f + 1) (μ := m_st μ 42 f v) (by omega) (by omega) S1 T1 (fun x x0 x1 => by
      rw [m_gt_st]
      by_cases z : x = (f : Int)
      · rw [if_pos ⟨rfl, z⟩, z]
      · rw [if_neg (fun y => z y.2)]; exact h42 x x0 (by omega))
    refine ⟨μ', ?_, e2, f1.trI e3⟩
    rw [← e1]
    show jX2_lookAtTorn_57b (jX2_lookAtTorn_57 N n) N 33 sh 32 f μ = _
    unfold jX2_lookAtTorn_57b jX2_lookAtTorn_92
    rw [r_33_5 hK, len_e (k_42 hK) (by decide) (by decide), ob_e, if_neg (by omega), isTorn_X hK hT (by omega) (by omega), b2_e, chk_e (SK.of hK hS.1.1).1, hS.sz (by omega) (by omega), b2_e, ast_e (k_42 hK) (by omega) (by omega), ob_e, bnd_e, ast_e (k_42 hK) (by omega) (by omega), ob_e, bnd_e, i_add_e (by omega) (by omega)]
    have ev : v = if tn f then 0 else ((fra (spl G R) f).length : Int) := by
      show (((if tn f then [] else fra (spl G R) f).length : Nat) : Int) = _
      split <;> rfl
    rw [ev]
    cases tn f with
    | true => rfl
    | false => rfl
theorem lookAtTorn_X {N : Nat} (hN : 1000000 ≤ N) {sh l : Int} {G : Gm} {R : List Int} {tn : Int → Bool} {m : Int} (hm : -1 ≤ m ∧ m < G.1 1) {μ : Mm} (h : XC sh l G R tn μ) : ∃ μ', jX2_lookAtTorn N 33 sh 32 m μ = some μ' ∧ XC sh l G R tn μ' ∧ RES (decide (m = -1)) (LT G R tn m) μ' ∧ (∀ r i : Int, ¬ lkC r → m_gt μ' r i = m_gt μ r i) := by
  obtain ⟨hS, hOS, hT, hH⟩ := id h
  have hK := hS.2.1
  have hG := hS.1.2.2.1
  have hV := hS.1.2.2.2
  have hsh := hS.1.1
  have h8 := hG.2.1
  have key : ∀ v, v = (if m = -1 then 3 else 4 + m) → ∃ μ', jX2_lookAtTorn_12 N 33 sh 32 m v μ = some μ' ∧ XC sh l G R tn μ' ∧ RES (decide (m = -1)) (LT G R tn m) μ' ∧ (∀ r i : Int, ¬ lkC r → m_gt μ' r i = m_gt μ r i) := by
    intro v hv
    have hv2 : (m = -1 ∧ v = 3) ∨ (0 ≤ m ∧ v = 4 + m) := by
      by_cases z : m = -1
      · rw [if_pos z] at hv; exact Or.inl ⟨z, hv⟩
      · rw [if_neg z] at hv; exact Or.inr ⟨by omega, hv⟩
    unfold jX2_lookAtTorn_12
    by_cases c : m_gt μ 33 0 = v
    · rw [if_neg (not_not_intro c)]
      refine ⟨μ, rfl, h, ?_, fun _ _ _ => rfl⟩
      rcases hH with z | ⟨z, r⟩ | ⟨z, r⟩ | ⟨z, r⟩ | ⟨f, f0, f1, z, r⟩
      · exfalso; omega
      · exfalso; omega
      · exfalso; omega
      · have em : m = -1 := by omega
        rw [em]; exact r
      · have em : f = m := by omega
        rw [em] at r
        rw [decide_eq_false (show ¬ m = -1 by omega)]
        exact r
    · rw [if_pos c, bnd_e]
      let bb : Int := if m = -1 then 1 else 0
      let M := m_st (m_st (m_st (m_st μ 33 0 v) 33 7 bb) 33 8 m) 33 9 0
      have gM : ∀ r i : Int, ¬ (r = 33 ∧ (i = 0 ∨ i = 7 ∨ i = 8 ∨ i = 9)) → m_gt M r i = m_gt μ r i := by
        intro r i z
        show m_gt (m_st (m_st (m_st (m_st μ 33 0 v) 33 7 bb) 33 8 m) 33 9 0) r i = _
        rw [m_gt_st, m_gt_st, m_gt_st, m_gt_st, if_neg (by omega), if_neg (by omega), if_neg (by omega), if_neg (by omega)]
      have KM : KR M := (((hK.st _ (by decide)).st _ (by decide)).st _ (by decide)).st _ (by decide)
      have SM : SC sh l G R M := hS.ext KM (fun r i hr => gM r i (by omega))
      have TM : TnX tn M := fun x x0 x1 => by rw [gM 32 x (by omega)]; exact hT x x0 x1
      have e41 : (if ¬ m = (-1) then (jX2_lookAtTorn_41 N 33 sh 32 m 0 33 (m_st μ 33 0 v)) else (jX2_lookAtTorn_41 N 33 sh 32 m 1 33 (m_st μ 33 0 v))) = jX2_lookAtTorn_57 N N 33 sh 32 0 M := by
        unfold jX2_lookAtTorn_41
        rw [chk_st, chk_e (k_33 hK), chk_st, chk_e (k_33 hK), z_e (x := 0) (Or.inl rfl), z_e (x := 1) (Or.inr rfl)]
        simp only [bnd_e]
        by_cases z : m = -1
        · rw [if_neg (not_not_intro z)]
          show _ = jX2_lookAtTorn_57 N N 33 sh 32 0 (m_st (m_st (m_st (m_st μ 33 0 v) 33 7 (if m = -1 then 1 else 0)) 33 8 m) 33 9 0)
          rw [if_pos z]
        · rw [if_pos z]
          show _ = jX2_lookAtTorn_57 N N 33 sh 32 0 (m_st (m_st (m_st (m_st μ 33 0 v) 33 7 (if m = -1 then 1 else 0)) 33 8 m) 33 9 0)
          rw [if_neg z]
      rw [e41]
      obtain ⟨M1, e1, e2, e3⟩ := torn_loop (N := N) m 9 N 0 (μ := M) (by omega) (by omega) SM TM (fun x x0 x1 => by omega)
      rw [show ((0 : Nat) : Int) = 0 from rfl] at e1
      have g1 : ∀ r i : Int, r ≠ 42 → m_gt M1 r i = m_gt M r i := fun r i hr => e3.2.2 r i (by simp; exact hr) (by simp)
      have K1 : KR M1 := e3.KR KM (by decide)
      let M2 := m_st M1 33 6 (if (QT G R tn m).2.1 then 1 else 0)
      have g2 : ∀ r i : Int, ¬ (r = 33 ∧ i = 6) → m_gt M2 r i = m_gt M1 r i := by
        intro r i z
        show m_gt (m_st M1 33 6 (if (QT G R tn m).2.1 then 1 else 0)) r i = _
        rw [m_gt_st, if_neg z]
      have K2 : KR M2 := K1.st _ (by decide)
      have S2 : SC sh l G R M2 := SM.ext K2 (fun r i hr => by rw [g2 r i (by omega), g1 r i (by omega)])
      have OS2 : OS M2 := hOS.ext K2 (by show M1.1 = μ.1; rw [e3.1]; rfl) (by show M1.2.1 = μ.2.1; rw [e3.2.1]; rfl) (fun r i hr h42 h33 => by rw [g2 r i (by omega), g1 r i h42, gM r i (by omega)])
      have f33 : ∀ i, i ≠ 6 → m_gt M2 33 i = m_gt M 33 i := fun i hi => by rw [g2 33 i (by omega), g1 33 i (by decide)]
      have eb : bb = if decide (m = -1) then 1 else 0 := by
        show (if m = -1 then (1 : Int) else 0) = _
        by_cases z : m = -1
        · rw [if_pos z, decide_eq_true z]; rfl
        · rw [if_neg z, decide_eq_false z]; rfl
      obtain ⟨M3, r1, r2, r3, r4, r5, r6⟩ := goThrough_X (N := N) hN (b := decide (m = -1)) (QT_QR hG hV tn m) (QT_QM hG hV tn hm.2 _) OS2 S2 (gt_same _ _ _ _) (by
          rw [f33 7 (by decide), ← eb]
          show m_gt (m_st (m_st (m_st (m_st μ 33 0 v) 33 7 bb) 33 8 m) 33 9 0) 33 7 = _
          simp (disch := omega) only [gt_i, gt_same]) (by
          rw [f33 8 (by decide)]
          show m_gt (m_st (m_st (m_st (m_st μ 33 0 v) 33 7 bb) 33 8 m) 33 9 0) 33 8 = _
          simp (disch := omega) only [gt_i, gt_same]
          rfl) (by
          rw [f33 9 (by decide)]
          exact gt_same _ _ _ _) (fun f f0 f8 => by rw [g2 42 f (by omega)]; exact e2 f f0 (by omega))
      have out : ∀ r i : Int, ¬ lkC r → m_gt M3 r i = m_gt μ r i := by
        intro r i hr
        have hr' := hr
        unfold lkC at hr
        rw [r6 r i hr', g2 r i (by omega), g1 r i (by omega), gM r i (by omega)]
      have h0 : m_gt M3 33 0 = v := by
        rw [r5, f33 0 (by decide)]
        show m_gt (m_st (m_st (m_st (m_st μ 33 0 v) 33 7 bb) 33 8 m) 33 9 0) 33 0 = _
        simp (disch := omega) only [gt_i, gt_same]
      refine ⟨M3, ?_, ⟨hS.ext r2 (fun r i hr => out r i (by unfold lkC; omega)), r3.os (LT_LB hG hV tn m) r2 r4, fun f f0 f8 => ?_, ?_⟩, r3, out⟩
      · rw [e1, r1, ob_e]
      · rw [out 32 f (by unfold lkC; omega)]; exact hT f f0 f8
      · unfold HOLD
        rw [h0]
        rcases hv2 with ⟨z, y⟩ | ⟨z, y⟩
        · refine Or.inr (Or.inr (Or.inr (Or.inl ⟨y, ?_⟩)))
          rw [z] at r3
          exact r3
        · refine Or.inr (Or.inr (Or.inr (Or.inr ⟨m, z, hm.2, y, ?_⟩)))
          rw [decide_eq_false (show ¬ m = -1 by omega)] at r3
          exact r3
  unfold jX2_lookAtTorn
  by_cases z : m = -1
  · rw [if_neg (not_not_intro z)]
    exact key 3 (by rw [if_pos z])
  · rw [if_pos z, i_add_e (by omega) (by omega)]
    exact key _ (by rw [if_neg z])
