/-! ===== PURE: what fills may bring now, told by the reference ===== -/
theorem K98 {base : Int} {a b : Mm} (h : oRx 98 base a b) (hK : KR a) : KR b := h.1.KR hK (by decide)
theorem G98 {base : Int} {G : Gm} {a b : Mm} (h : oRx 98 base a b) (hM : GM G a) : GM G b := hM.ag (h.1.ag (by decide))
theorem s98 {base : Int} {a b : Mm} (h : oRx 98 base a b) (i : Int) : m_gt b 50 i = m_gt a 50 i := h.1.2.2 50 i (by decide) (by simp)
theorem cf_129 {N : Nat} {w fi x n3 a rb b rc : Int} (hw : -500 ≤ w ∧ w ≤ 460) (hx : 0 ≤ x ∧ x < 24) (ha : 0 ≤ a ∧ a ≤ 9) (hb : 0 ≤ b ∧ b ≤ 9) (hrc : 0 ≤ rc ∧ rc ≤ 9) {k19 : Int → Int → Int → Int → Int → Int → Mm → Option Mm} {k86 : Int → Int → Int → Int → Int → Int → Int → Int → Mm → Option Mm} : ∀ (k n : Nat) (c : Int) (L : List Int) {μ : Mm}, c + k = (if n3 ≤ 2 then 0 else rc) + 1 → 0 ≤ c → k < n → KR μ → L.length + k ≤ 100000 → TRx 98 (1060 + w) L μ → ∃ μ', jX8_comesByFills_129 k19 k86 N n 50 w x fi n3 a rb b rc c μ = k86 50 w x fi n3 a rb (b + 1) μ' ∧ TRx 98 (1060 + w) (L ++ (iot k c).map (fun c => w3 x a b c)) μ' ∧ oRx 98 (1060 + w) μ μ'
  | k, 0, c, L, μ, hc, h0, hn, _, _, _ => absurd hn (by omega)
  | 0, n + 1, c, L, μ, hc, h0, hn, hK, hl, hT => by
    refine ⟨μ, ?_, by simpa [iot] using hT, oRx.rf _ _ _⟩
    show jX8_comesByFills_129b k19 k86 (jX8_comesByFills_129 k19 k86 N n) N 50 w x fi n3 a rb b rc c μ = _
    unfold jX8_comesByFills_129b jX8_comesByFills_143
    by_cases z : n3 ≤ 2
    · rw [if_pos z] at hc
      rw [if_pos z, if_pos (by omega), bnd_e, i_add_e (by omega) (by omega)]
    · rw [if_neg z] at hc
      rw [if_neg z, if_pos (by omega), bnd_e, i_add_e (by omega) (by omega)]
  | k + 1, n + 1, c, L, μ, hc, h0, hn, hK, hl, hT => by
    have hc9 : c ≤ 9 := by split at hc <;> omega
    have hw3 := w3_ok (c := c) hx ha hb ⟨h0, hc9⟩
    have hold := hT (w3 x a b c) (by omega) (by omega)
    have hcb := cB_len L (w3 x a b c)
    let μ1 := m_st μ 98 (1060 + w + w3 x a b c) (cB L (w3 x a b c) + 1)
    have f1 : oRx 98 (1060 + w) μ μ1 := ⟨Fr.stI (Fr.rf0 _ _ _) (by simp), fun j hj => gt_i _ _ _ (by omega) _⟩
    have T1 : TRx 98 (1060 + w) (L ++ [w3 x a b c]) μ1 := by
      intro s s0 s1
      show m_gt (m_st μ 98 (1060 + w + w3 x a b c) (cB L (w3 x a b c) + 1)) 98 (1060 + w + s) = _
      rw [cB_app]
      by_cases z : s = w3 x a b c
      · rw [z, gt_same]
        have : cB [w3 x a b c] (w3 x a b c) = 1 := by unfold cB; simp
        rw [this]
        omega
      · rw [gt_i _ _ _ (by omega), hT s s0 s1]
        have : cB [w3 x a b c] s = 0 := by
          unfold cB
          rw [List.countP_eq_zero]
          intro y hy q
          rw [List.mem_singleton.mp hy] at q
          exact z (of_decide_eq_true q).symm
        rw [this]
        omega
    obtain ⟨μ', r1, r2, r3⟩ := cf_129 hw hx ha hb hrc (N := N) (fi := fi) (n3 := n3) (rb := rb) (k19 := k19) (k86 := k86) k n (c + 1) (L ++ [w3 x a b c]) (μ := μ1) (by omega) (by omega) (by omega) (K98 f1 hK) (by simp; omega) T1
    refine ⟨μ', ?_, ?_, f1.tr r3⟩
    · rw [← r1]
      have e143 : ∀ s0 : Int, c ≤ s0 → jX8_comesByFills_143 k19 k86 (jX8_comesByFills_129 k19 k86 N n) N 50 w x fi n3 a rb b rc c s0 c μ = jX8_comesByFills_129 k19 k86 N n 50 w x fi n3 a rb b rc (c + 1) μ1 := by
        intro s0 hs0
        unfold jX8_comesByFills_143 jX8_oneOf
        have d1 : i_div x 6 = x / 6 := i_div_p (by omega) (by omega) (by omega) (by omega)
        have d2 : i_rem (i_div x 2) 3 = x / 2 % 3 := by rw [i_div_p (by omega) (by omega) (by omega) (by omega), i_rem_p (by omega) (by omega) (by omega) (by omega)]
        have d3 : i_rem x 2 = x % 2 := i_rem_p (by omega) (by omega) (by omega) (by omega)
        rw [if_neg (by clear d1 d2 d3; omega), b2_e, r_50_77 hK, d1, d2, d3]
        clear d1 d2 d3
        have ec : i_add (i_add (i_add (i_add 1060 w) (i_mul a (x / 6))) (i_mul b (x / 2 % 3))) (i_mul c (x % 2)) = 1060 + w + w3 x a b c := by
          simp (disch := omega) only [i_add_e, i_mul_e]
          unfold w3
          generalize a * (x / 6) = p1
          generalize b * (x / 2 % 3) = p2
          generalize c * (x % 2) = p3
          omega
        rw [ec]
        clear ec
        rw [ald_e (k_98 hK) (by omega) (by omega), ob_e, hold, ast_e (k_98 hK) (by omega) (by omega), ob_e, bnd_e, l_add_e (by omega) (by omega), i_add_e (by omega) (by omega)]
      show jX8_comesByFills_129b k19 k86 (jX8_comesByFills_129 k19 k86 N n) N 50 w x fi n3 a rb b rc c μ = _
      unfold jX8_comesByFills_129b
      by_cases z : n3 ≤ 2
      · rw [if_pos z] at hc
        rw [if_pos z]
        exact e143 0 (by omega)
      · rw [if_neg z] at hc
        rw [if_neg z]
        exact e143 rc (by omega)
    · rw [iot, List.map_cons]
      simpa using r2
theorem cf_86 {N : Nat} (hN : 1000000 ≤ N) {G : Gm} (hG : GOK G) {w fi x n3 a rb : Int} (hw : -500 ≤ w ∧ w ≤ 460) (hx : 0 ≤ x ∧ x < 24) (ha : 0 ≤ a ∧ a ≤ 9) (hrb : 0 ≤ rb ∧ rb ≤ 9) {k19 : Int → Int → Int → Int → Int → Int → Mm → Option Mm} : ∀ (k n : Nat) (b : Int) (L : List Int) {μ : Mm}, b + k = (if n3 ≤ 1 then 0 else rb) + 1 → 0 ≤ b → k < n → KR μ → GM G μ → L.length + k * 20 ≤ 90000 → TRx 98 (1060 + w) L μ → ∃ μ', jX8_comesByFills_86 k19 N n 50 w x fi n3 a rb b μ = k19 50 w x fi n3 (a + 1) μ' ∧ TRx 98 (1060 + w) (L ++ (iot k b).flatMap (fun b => inC G n3 x a b (rst G rb b))) μ' ∧ oRx 98 (1060 + w) μ μ'
  | k, 0, b, L, μ, hc, h0, hn, _, _, _, _ => absurd hn (by omega)
  | 0, n + 1, b, L, μ, hc, h0, hn, hK, hM, hl, hT => by
    refine ⟨μ, ?_, by simpa [iot] using hT, oRx.rf _ _ _⟩
    show jX8_comesByFills_86b k19 (jX8_comesByFills_86 k19 N n) N 50 w x fi n3 a rb b μ = _
    unfold jX8_comesByFills_86b jX8_comesByFills_100 jX8_comesByFills_196
    by_cases z : n3 ≤ 1
    · rw [if_pos z] at hc
      rw [if_pos z, if_pos (by omega), bnd_e, i_add_e (by omega) (by omega)]
    · rw [if_neg z] at hc
      rw [if_neg z, if_pos (by omega), bnd_e, i_add_e (by omega) (by omega)]
  | k + 1, n + 1, b, L, μ, hc, h0, hn, hK, hM, hl, hT => by
    have hp := hG.1
    have hb9 : b ≤ 9 ∧ (n3 ≤ 1 ∨ b ≤ rb) := by split at hc <;> omega
    have hle : b ≤ rb ∨ (b = 0) := by split at hc <;> omega
    have hrc : 0 ≤ rst G rb b ∧ rst G rb b ≤ 9 := by unfold rst; split <;> omega
    have hlim : 0 ≤ (if n3 ≤ 2 then 0 else rst G rb b) ∧ (if n3 ≤ 2 then 0 else rst G rb b) ≤ 9 := by split <;> omega
    obtain ⟨μ1, a1, a2, a3⟩ := cf_129 (N := N) hw hx ha ⟨h0, hb9.1⟩ hrc (fi := fi) (n3 := n3) (rb := rb) (k19 := k19) (k86 := jX8_comesByFills_86 k19 N n) ((if n3 ≤ 2 then 0 else rst G rb b).toNat + 1) N 0 L (μ := μ) (by omega) (by omega) (by omega) hK (by omega) hT
    obtain ⟨μ2, b1, b2, b3⟩ := cf_86 hN hG hw hx ha hrb (N := N) (fi := fi) (n3 := n3) (k19 := k19) k n (b + 1) (L ++ inC G n3 x a b (rst G rb b)) (μ := μ1) (by omega) (by omega) (by omega) (K98 a3 hK) (G98 a3 hM) (by
      have := inC_len (G := G) (n3 := n3) (x := x) (a := a) (b := b) hrc
      rw [List.length_append]
      omega) a2
    refine ⟨μ2, ?_, ?_, a3.tr b3⟩
    · rw [← b1, ← a1]
      have e101 : ∀ s0 : Int, b ≤ s0 → jX8_comesByFills_100 k19 (jX8_comesByFills_86 k19 N n) N 50 w x fi n3 a rb b s0 b μ = jX8_comesByFills_129 k19 (jX8_comesByFills_86 k19 N n) N N 50 w x fi n3 a rb b (rst G rb b) 0 μ := by
        intro s0 hs0
        unfold jX8_comesByFills_100 jX8_comesByFills_124 rst
        rw [if_neg (by omega)]
        by_cases z : b = rb
        · rw [if_neg (not_not_intro z), if_pos z, r_50_31 hK, ald_e (k_74 hK) (by decide) (by decide), ob_e, hM.1.1]
        · rw [if_pos z, if_neg z, i_sub_e (by omega) (by omega)]
      show jX8_comesByFills_86b k19 (jX8_comesByFills_86 k19 N n) N 50 w x fi n3 a rb b μ = _
      unfold jX8_comesByFills_86b
      by_cases z : n3 ≤ 1
      · rw [if_pos z] at hc
        rw [if_pos z]
        exact e101 0 (by omega)
      · rw [if_neg z] at hc
        rw [if_neg z]
        exact e101 rb (by omega)
    · rw [iot, List.flatMap_cons, ← List.append_assoc]
      exact b2
theorem inB_len {G : Gm} (hp : 0 ≤ G.1 0 ∧ G.1 0 ≤ 9) {n3 x a rb : Int} (hrb : 0 ≤ rb ∧ rb ≤ 9) : (inB G n3 x a rb).length ≤ 100 := by
  have key : ∀ (k : Nat) (b : Int), 0 ≤ b → b + k ≤ (if n3 ≤ 1 then 0 else rb) + 1 → ((iot k b).flatMap (fun b => inC G n3 x a b (rst G rb b))).length ≤ k * 10 := by
    intro k
    induction k with
    | zero => intro b _ _; simp [iot]
    | succ k ih =>
      intro b hb0 hbk
      rw [iot, List.flatMap_cons, List.length_append]
      have h1 := ih (b + 1) (by omega) (by omega)
      have hb : b ≤ rb := by split at hbk <;> omega
      have h2 := inC_len (G := G) (n3 := n3) (x := x) (a := a) (b := b) (rc := rst G rb b) (by unfold rst; split <;> omega)
      rw [Nat.succ_mul]
      omega
  have hlim : 0 ≤ (if n3 ≤ 1 then 0 else rb) ∧ (if n3 ≤ 1 then 0 else rb) ≤ 9 := by split <;> omega
  have := key ((if n3 ≤ 1 then 0 else rb).toNat + 1) 0 (by omega) (by omega)
  unfold inB
  omega
/-- the first fill, if one is told -/
abbrev fsel (n3 fi a : Int) : Prop := n3 ≤ 0 ∨ fi = -1 ∨ a = fi
theorem cf_19 {N : Nat} (hN : 1000000 ≤ N) {G : Gm} (hG : GOK G) {w fi x n3 st : Int} (hw : -500 ≤ w ∧ w ≤ 460) (hx : 0 ≤ x ∧ x < 24) (hst : 1 ≤ st ∧ st ≤ G.1 0) : ∀ (k n : Nat) (a : Int) (L : List Int) {μ : Mm}, a + k = (if n3 ≤ 0 then 0 else st) + 1 → 0 ≤ a → k < n → KR μ → GM G μ → m_gt μ 50 66 = st → L.length + k * 500 ≤ 80000 → TRx 98 (1060 + w) L μ → ∃ μ', jX8_comesByFills_19 N n 50 w x fi n3 a μ = some μ' ∧ TRx 98 (1060 + w) (L ++ (iot k a).flatMap (fun a => if fsel n3 fi a then inB G n3 x a (rst G st a) else [])) μ' ∧ oRx 98 (1060 + w) μ μ'
  | k, 0, a, L, μ, hc, h0, hn, _, _, _, _, _ => absurd hn (by omega)
  | 0, n + 1, a, L, μ, hc, h0, hn, hK, hM, h66, hl, hT => by
    refine ⟨μ, ?_, by simpa [iot] using hT, oRx.rf _ _ _⟩
    show jX8_comesByFills_19b (jX8_comesByFills_19 N n) N 50 w x fi n3 a μ = _
    unfold jX8_comesByFills_19b jX8_comesByFills_34
    by_cases z : n3 ≤ 0
    · rw [if_pos z] at hc
      rw [if_pos z, if_pos (by omega)]
    · rw [if_neg z] at hc
      rw [if_neg z, h66, if_pos (by omega)]
  | k + 1, n + 1, a, L, μ, hc, h0, hn, hK, hM, h66, hl, hT => by
    have hp := hG.1
    have ha9 : a ≤ st := by split at hc <;> omega
    have hrb : 0 ≤ rst G st a ∧ rst G st a ≤ 9 := by unfold rst; split <;> omega
    have hlim : 0 ≤ (if n3 ≤ 1 then 0 else rst G st a) ∧ (if n3 ≤ 1 then 0 else rst G st a) ≤ 9 := by split <;> omega
    have go : ∀ v : Int → Option Mm, (∀ s0, a ≤ s0 → v s0 = jX8_comesByFills_34 (jX8_comesByFills_19 N n) N 50 w x fi n3 a s0 a μ) → ∃ s0, a ≤ s0 ∧ jX8_comesByFills_19b (jX8_comesByFills_19 N n) N 50 w x fi n3 a μ = v s0 := by
      intro v hv
      unfold jX8_comesByFills_19b
      by_cases z : n3 ≤ 0
      · rw [if_pos z] at hc
        rw [if_pos z]
        exact ⟨0, by omega, (hv 0 (by omega)).symm⟩
      · rw [if_neg z, h66]
        exact ⟨st, ha9, (hv st ha9).symm⟩
    obtain ⟨s0, hs0, e0⟩ := go (fun s0 => jX8_comesByFills_34 (jX8_comesByFills_19 N n) N 50 w x fi n3 a s0 a μ) (fun _ _ => rfl)
    by_cases cs : fsel n3 fi a
    · obtain ⟨μ1, a1, a2, a3⟩ := cf_86 (N := N) hN hG hw hx (a := a) (by omega) hrb (fi := fi) (n3 := n3) (k19 := jX8_comesByFills_19 N n) ((if n3 ≤ 1 then 0 else rst G st a).toNat + 1) N 0 L (μ := μ) (by omega) (by omega) (by omega) hK hM (by omega) hT
      obtain ⟨μ2, b1, b2, b3⟩ := cf_19 hN hG hw hx hst (N := N) (fi := fi) (n3 := n3) k n (a + 1) (L ++ inB G n3 x a (rst G st a)) (μ := μ1) (by omega) (by omega) (by omega) (K98 a3 hK) (G98 a3 hM) (by rw [s98 a3]; exact h66) (by
        have := inB_len (G := G) (by omega) (n3 := n3) (x := x) (a := a) hrb
        rw [List.length_append]
        omega) a2
      refine ⟨μ2, ?_, ?_, a3.tr b3⟩
      · rw [← b1, ← a1]
        have e56 : jX8_comesByFills_56 (jX8_comesByFills_19 N n) N 50 w x fi n3 a μ = jX8_comesByFills_86 (jX8_comesByFills_19 N n) N N 50 w x fi n3 a (rst G st a) 0 μ := by
          unfold jX8_comesByFills_56 jX8_comesByFills_81 rst
          rw [h66]
          by_cases z : a = st
          · rw [if_neg (not_not_intro z), if_pos z, r_50_31 hK, ald_e (k_74 hK) (by decide) (by decide), ob_e, hM.1.1]
          · rw [if_pos z, if_neg z, i_sub_e (by omega) (by omega)]
        show jX8_comesByFills_19b (jX8_comesByFills_19 N n) N 50 w x fi n3 a μ = _
        rw [e0, ← e56]
        unfold jX8_comesByFills_34
        rw [if_neg (by omega)]
        by_cases z1 : n3 ≤ 0
        · rw [if_pos z1]
        · rw [if_neg z1]
          by_cases z2 : fi = -1
          · rw [if_pos z2]
          · rw [if_neg z2, if_pos (by rcases cs with q | q | q; exact absurd q z1; exact absurd q z2; exact q)]
      · rw [iot, List.flatMap_cons, ← List.append_assoc, if_pos cs]
        exact b2
    · obtain ⟨μ2, b1, b2, b3⟩ := cf_19 hN hG hw hx hst (N := N) (fi := fi) (n3 := n3) k n (a + 1) L (μ := μ) (by omega) (by omega) (by omega) hK hM h66 (by have e : (k + 1) * 500 = k * 500 + 500 := Nat.succ_mul k 500; rw [e] at hl; exact Nat.le_trans (Nat.add_le_add_left (Nat.le_add_right _ 500) _) hl) hT
      refine ⟨μ2, ?_, ?_, b3⟩
      · rw [← b1]
        show jX8_comesByFills_19b (jX8_comesByFills_19 N n) N 50 w x fi n3 a μ = _
        rw [e0]
        unfold jX8_comesByFills_34 jX8_comesByFills_196
        have cs' : ¬ n3 ≤ 0 ∧ ¬ fi = -1 ∧ ¬ a = fi := by unfold fsel at cs; omega
        rw [if_neg (by omega), if_neg cs'.1, if_neg cs'.2.1, if_neg cs'.2.2, bnd_e, i_add_e (by omega) (by omega)]
      · rw [iot, List.flatMap_cons, if_neg cs, List.nil_append]
        exact b2
