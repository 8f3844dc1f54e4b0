/-! ===== PURE: fits of the reference; what is reached ===== -/
theorem tb_or10 {x y : Int} (hx : ps10 x) (hy : ps10 y) : ps10 (i_or x y) ∧ ∀ k, tb (i_or x y) k = (tb x k || tb y k) := by
  have h1 := hx.1; have h2 := hx.2; have h3 := hy.1; have h4 := hy.2
  rw [i_or_n ⟨hx.1, by omega⟩ ⟨hy.1, by omega⟩]
  have : x.toNat ||| y.toNat < 2 ^ 10 := Nat.or_lt_two_pow (by omega) (by omega)
  refine ⟨⟨by omega, by omega⟩, fun k => ?_⟩
  unfold tb
  rw [Int.toNat_natCast, Nat.testBit_or]
theorem tb_bit10 {x : Int} (hx : ps10 x) {k : Nat} (hk : k < 10) : i_and (i_shr x k) 1 = if tb x k then 1 else 0 := by
  have h1 := hx.1; have h2 := hx.2
  have hb : x.toNat >>> k ≤ x.toNat := by rw [Nat.shiftRight_eq_div_pow]; exact Nat.div_le_self _ _
  have hz : ∀ q : Nat, q ≤ x.toNat → 0 ≤ (q : Int) ∧ (q : Int) < 2147483648 := fun q hq => ⟨by omega, by omega⟩
  rw [i_shr_n ⟨h1, by omega⟩ ⟨by omega, by omega⟩, Int.toNat_natCast, i_and_n (hz _ hb) (by decide), Int.toNat_natCast]
  unfold tb Nat.testBit
  rw [Nat.and_comm, show (1 : Int).toNat = 1 from rfl, Nat.one_and_eq_mod_two]
  rcases Nat.mod_two_eq_zero_or_one (x.toNat >>> k) with h | h <;> rw [h] <;> rfl
theorem tb_one10 {k : Nat} (hk : k < 10) : ps10 (i_shl 1 k) ∧ ∀ j, tb (i_shl 1 k) j = decide (j = k) := by
  rw [pw_e k hk]
  have hp : 2 ^ k < 2 ^ 10 := Nat.pow_lt_pow_right (by decide) hk
  have hz : ∀ q : Nat, q < 2 ^ 10 → ps10 (q : Int) := fun q hq => ⟨by omega, by omega⟩
  refine ⟨hz _ hp, fun j => ?_⟩
  unfold tb
  rw [Int.toNat_natCast, Nat.testBit_two_pow]
  by_cases h : k = j
  · rw [h]
  · rw [decide_eq_false h, decide_eq_false (fun z => h z.symm)]
def cWp (L : List Int) (p : Int → Bool) (t : Int) : Nat := L.countP (fun b => p b && decide (b < t))
theorem cWp_s (p : Int → Bool) (t : Int) : ∀ L : List Int, cWp L p (t + 1) = cWp L p t + (if p t = true then cB L t else 0)
  | [] => by unfold cWp cB; simp
  | b :: L => by
    have ih := cWp_s p t L
    unfold cWp cB at *
    rw [List.countP_cons, List.countP_cons, List.countP_cons, ih]
    by_cases e : b = t
    · rw [e]
      have d1 : decide (t < t + 1) = true := decide_eq_true (by omega)
      have d2 : decide (t < t) = false := decide_eq_false (by omega)
      have d3 : decide (t = t) = true := decide_eq_true rfl
      rw [d1, d2, d3]
      cases p t <;> simp <;> omega
    · have d3 : decide (b = t) = false := decide_eq_false e
      have d1 : decide (b < t + 1) = decide (b < t) := by
        congr 1
        apply propext
        omega
      rw [d1, d3]
      cases p t <;> simp <;> omega
theorem cWp_0 {L : List Int} {t : Int} (hb : ∀ b ∈ L, t ≤ b) (p : Int → Bool) : cWp L p t = 0 := by
  unfold cWp
  rw [List.countP_eq_zero]
  intro b hbL z
  have := hb b hbL
  rw [Bool.and_eq_true] at z
  have := of_decide_eq_true z.2
  omega
theorem cWp_1 {L : List Int} {t : Int} (hb : ∀ b ∈ L, b < t) (p : Int → Bool) : cWp L p t = L.countP p := by
  unfold cWp
  apply List.countP_congr
  intro b hbL
  have := hb b hbL
  rw [decide_eq_true this, Bool.and_true]
def prF (a : Bool) (n b : Int) : Bool := a || decide (b = n)
theorem fits_loop {N : Nat} {a : Bool} {n0 : Int} {L : List Int} {μ : Mm} (hK : KR μ) (hT : TR 96 0 o0 L μ) : ∀ (k n : Nat) (i : Int), i + k = 600 → -460 ≤ i → k < n → jX8_fits_26 N n 50 n0 (if a then 1 else 0) (mnI CM (cWp L (prF a n0) i)) i μ = some (mnI CM (cWp L (prF a n0) 600), μ)
  | k, 0, i, hi, h0, hn => absurd hn (by omega)
  | 0, n + 1, i, hi, h0, hn => by
    show jX8_fits_26b (jX8_fits_26 N n) N 50 n0 (if a then 1 else 0) _ i μ = _
    unfold jX8_fits_26b
    rw [if_pos (by omega), show i = 600 by omega]
  | k + 1, n + 1, i, hi, h0, hn => by
    have ih := fits_loop (N := N) (a := a) (n0 := n0) hK hT k n (i + 1) (by omega) (by omega) (by omega)
    rw [cWp_s] at ih
    have ec : jX8_cell N 0 0 i μ = some (cel 0 o0 i, μ) := cell_M (o := o0) OwOK_0 (by decide) (by omega)
    have e0 : enc o0 = 0 := rfl
    have hcel : 0 ≤ cel 0 o0 i ∧ cel 0 o0 i < 228960 := by unfold cel; rw [e0]; omega
    have skip : ¬ prF a n0 i = true → jX8_fits_62 (jX8_fits_26 N n) N 50 n0 (if a then 1 else 0) (mnI CM (cWp L (prF a n0) i)) i μ = some (mnI CM (cWp L (prF a n0) 600), μ) := by
      intro c
      rw [if_neg c, Nat.add_zero] at ih
      unfold jX8_fits_62
      rw [bnd_e, i_add_e (by omega) (by omega)]
      exact ih
    have take : prF a n0 i = true → jX8_fits_44 (jX8_fits_26 N n) N 50 n0 (if a then 1 else 0) (mnI CM (cWp L (prF a n0) i)) i μ = some (mnI CM (cWp L (prF a n0) 600), μ) := by
      intro c
      rw [if_pos c] at ih
      unfold jX8_fits_44 jX8_fits_62
      rw [ec, b2_e, r_50_71 hK, ald_e (k_96 hK) hcel.1 hcel.2, ob_e, hT _ (by omega) (by omega), cap_M, b2_e, bnd_e, i_add_e (by omega) (by omega)]
      exact ih
    show jX8_fits_26b (jX8_fits_26 N n) N 50 n0 (if a then 1 else 0) _ i μ = _
    unfold jX8_fits_26b
    rw [if_neg (by omega)]
    cases a with
    | true =>
      rw [if_pos (show ¬ (if true = true then (1 : Int) else 0) = 0 by decide)]
      exact take rfl
    | false =>
      rw [if_neg (show ¬ ¬ (if false = true then (1 : Int) else 0) = 0 by decide)]
      by_cases c : i = n0
      · rw [if_neg (not_not_intro c)]
        exact take (by unfold prF; rw [decide_eq_true c]; rfl)
      · rw [if_pos c]
        exact skip (by unfold prF; rw [decide_eq_false c]; decide)
theorem LT_tot {G : Gm} {R : List Int} {tn : Int → Bool} : (LT G R tn (-1)).map (fun w => w.2.1) = Bk G (QB G R tn) (FT G) 0 o0 := by
  have h := Lf_Bk G (QB G R tn) (FT G) 0
  rw [Nat.zero_add] at h
  unfold LT
  show (Lf G (QB G R tn) (FT G + 1)).map _ = _
  rw [h]
  show (Bk G (QB G R tn) (FT G) 0 (0, 0, 0)).map (fun b => 0 + b) ++ [] = _
  rw [List.append_nil]
  have : (fun b : Int => 0 + b) = id := by funext b; exact Int.zero_add b
  rw [this, List.map_id]
  rfl
theorem fits_M {N : Nat} (hN : 1000000 ≤ N) {G : Gm} {R : List Int} {tn : Int → Bool} (n : Int) (a : Bool) {μ : Mm} (h : MC G R μ) (ht : TnM tn μ) (hF : FIC G R tn μ) : ∃ μ', jX8_fits N 50 n (if a then 1 else 0) μ = some (fiA G R tn n a, μ') ∧ MC G R μ' ∧ TnM tn μ' ∧ FIC G R tn μ' ∧ Fr tfI tfS μ μ' := by
  obtain ⟨μ1, a1, T1, h1, f1⟩ := h.go (N := N) hN
  have F1 : Fr tfI tfS μ μ1 := f1.mono (by decide) (fun q hq => Or.inl (by simp [tfS, hq]))
  have N1 : TnM tn μ1 := ht.ag (f1.2.2 50 78 (by decide) (by decide))
  have C1 : FIC G R tn μ1 := hF.ag (fun j => f1.2.2 96 j (by decide) (by simp [sGo])) (f1.2.2 50 72 (by decide) (by decide))
  unfold jX8_fits fiA
  rw [a1, ob_e, T1.2.2.2.2.2]
  by_cases c : whi G (spl G R) = 0
  · rw [if_neg (not_not_intro c), if_pos c]
    exact ⟨μ1, rfl, h1, N1, C1, F1⟩
  · have hw := whi_w.mp c
    obtain ⟨μ2, b1, b2, b3, b4, f2⟩ := tellsFits_M (N := N) hN hw h1 N1 C1
    have hG := h.1.1
    have hV := h.1.2
    have h8 := hG.2.1
    have hT0 := b3 0 (FT G) (by omega) o0 OwOK_0 (Or.inr rfl)
    have hbd : ∀ b ∈ Bk G (QB G R tn) (FT G) 0 o0, -460 ≤ b ∧ b < 600 := fun b hb => by
      have := Bk_ok hG (QB_ok hG hV tn) (FT G) 0 o0 (by unfold FT; omega) OwOK_0 b hb
      have e : sm o0 = 0 := rfl
      unfold FT at this
      omega
    have hl := fits_loop (N := N) (a := a) (n0 := n) b4.1.2.1 hT0 1060 N (-460) (by omega) (by omega) (by omega)
    rw [cWp_0 (fun b hb => (hbd b hb).1), mn0, cWp_1 (fun b hb => (hbd b hb).2)] at hl
    refine ⟨μ2, ?_, b4.1, b4.2.2, Or.inr ⟨b2, hw, b3⟩, F1.trI f2⟩
    rw [if_pos c, if_neg c, b1, ob_e, hl, ← LT_tot, List.countP_map]
    have h0 := (LT_LE hG hV tn (-1)).2
    cases a with
    | true =>
      rw [if_pos rfl]
      have : (LT G R tn (-1)).countP (prF true n ∘ fun w => w.2.1) = (LT G R tn (-1)).length := by
        rw [List.countP_eq_length]
        intro w _
        rfl
      rw [this]
    | false =>
      rw [if_neg (by decide)]
      have : (LT G R tn (-1)).countP (prF false n ∘ fun w => w.2.1) = cT (LT G R tn (-1)) o0 n := by
        unfold cT
        apply List.countP_congr
        intro w hw
        show (false || decide (w.2.1 = n)) = true ↔ _
        rw [Bool.false_or, decide_eq_true_eq, decide_eq_true_eq]
        exact ⟨fun z => ⟨h0 w hw, z⟩, fun z => z.2⟩
      rw [this]
/-- a row of marks, by what is owed and what there is -/
def RB (t : Int) (P : Ow → Int → Prop) (μ : Mm) : Prop := (∀ j, 0 ≤ j → j < 25440 → m_gt μ t j = 0 ∨ m_gt μ t j = 1) ∧ ∀ o, OwOK o → ∀ s, -460 ≤ s → s < 600 → (m_gt μ t (cel 0 o s) = 1 ↔ P o s)
theorem RB.ag {t : Int} {P : Ow → Int → Prop} {μ μ' : Mm} (h : RB t P μ) (g : ∀ j, m_gt μ' t j = m_gt μ t j) : RB t P μ' := ⟨fun j j0 j1 => by rw [g]; exact h.1 j j0 j1, fun o ho s s0 s1 => by rw [g]; exact h.2 o ho s s0 s1⟩
theorem RB.cg {t : Int} {P Q : Ow → Int → Prop} {μ : Mm} (h : RB t P μ) (g : ∀ o, OwOK o → ∀ s, -460 ≤ s → s < 600 → (P o s ↔ Q o s)) : RB t Q μ := ⟨h.1, fun o ho s s0 s1 => (h.2 o ho s s0 s1).trans (g o ho s s0 s1)⟩
theorem leadsOn_loop {N : Nat} {o o' : Ow} (ho : OwOK o) (ho' : OwOK o') {g : Int} (hg : -60 ≤ g ∧ g ≤ 60) {P T : Ow → Int → Prop} (hP : ∀ s, -460 ≤ s → s < 600 → P o s → -460 ≤ s + g ∧ s + g < 600) : ∀ (k n i : Nat) {μ : Mm}, i + k = 1060 → k < n → KR μ → RB 99 P μ → RB 100 (fun o2 s => T o2 s ∨ (o2 = o' ∧ s - g < (i : Int) - 460 ∧ -460 ≤ s - g ∧ P o (s - g))) μ → ∃ μ', jX8_leadsOn_24 N n 50 (enc o * 1060) (enc o' * 1060 + g) i μ = some μ' ∧ RB 100 (fun o2 s => T o2 s ∨ (o2 = o' ∧ -460 ≤ s - g ∧ s - g < 600 ∧ P o (s - g))) μ' ∧ Fr [100] [] μ μ'
  | k, 0, i, μ, hi, hn, _, _, _ => absurd hn (by omega)
  | 0, n + 1, i, μ, hi, hn, hK, hR, hT => by
    refine ⟨μ, ?_, hT.cg (fun o2 _ s _ _ => ?_), Fr.rf0 _ _ _⟩
    · show jX8_leadsOn_24b (jX8_leadsOn_24 N n) N 50 (enc o * 1060) (enc o' * 1060 + g) i μ = _
      unfold jX8_leadsOn_24b
      rw [if_pos (by omega)]
    · constructor
      · rintro (z | ⟨z1, z2, z3, z4⟩)
        · exact Or.inl z
        · exact Or.inr ⟨z1, z3, by omega, z4⟩
      · rintro (z | ⟨z1, z2, z3, z4⟩)
        · exact Or.inl z
        · exact Or.inr ⟨z1, by omega, z2, z4⟩
  | k + 1, n + 1, i, μ, hi, hn, hK, hR, hT => by
    have e1 := enc_ok ho
    have e2 := enc_ok ho'
    have c1 : enc o * 1060 + i = cel 0 o ((i : Int) - 460) := by unfold cel; omega
    have hb := hR.2 o ho ((i : Int) - 460) (by omega) (by omega)
    have h01 := hR.1 (cel 0 o ((i : Int) - 460)) (by unfold cel; omega) (by unfold cel; omega)
    have nxt : ∀ {μ1 : Mm}, KR μ1 → RB 99 P μ1 → RB 100 (fun o2 s => T o2 s ∨ (o2 = o' ∧ s - g < (i : Int) + 1 - 460 ∧ -460 ≤ s - g ∧ P o (s - g))) μ1 → Fr [100] [] μ μ1 → ∃ μ', jX8_leadsOn_55 (jX8_leadsOn_24 N n) N 50 (enc o * 1060) (enc o' * 1060 + g) i μ1 = some μ' ∧ RB 100 (fun o2 s => T o2 s ∨ (o2 = o' ∧ -460 ≤ s - g ∧ s - g < 600 ∧ P o (s - g))) μ' ∧ Fr [100] [] μ μ' := by
      intro μ1 q1 q2 q3 q4
      obtain ⟨μ', r1, r2, r3⟩ := leadsOn_loop (N := N) ho ho' hg hP (T := T) k n (i + 1) (μ := μ1) (by omega) (by omega) q1 q2 (by rw [show ((i + 1 : Nat) : Int) - 460 = (i : Int) + 1 - 460 by omega]; exact q3)
      refine ⟨μ', ?_, r2, q4.trI r3⟩
      unfold jX8_leadsOn_55
      rw [bnd_e, i_add_e (by omega) (by omega)]
      exact r1
    show ∃ μ', jX8_leadsOn_24b (jX8_leadsOn_24 N n) N 50 (enc o * 1060) (enc o' * 1060 + g) i μ = some μ' ∧ _
    unfold jX8_leadsOn_24b
    rw [if_neg (by omega), r_50_79 hK, i_add_e (by omega) (by omega), ald_e (k_99 hK) (by omega) (by omega), ob_e, c1]
    by_cases z : m_gt μ 99 (cel 0 o ((i : Int) - 460)) = 1
    · have hpi := hb.mp z
      have hbd := hP _ (by omega) (by omega) hpi
      have c2 : enc o' * 1060 + g + i = cel 0 o' ((i : Int) - 460 + g) := by unfold cel; omega
      have c3 : 0 ≤ cel 0 o' ((i : Int) - 460 + g) ∧ cel 0 o' ((i : Int) - 460 + g) < 25440 := by unfold cel; omega
      rw [z, if_neg (by decide), r_50_80 hK, i_add_e (by omega) (by omega), c2, ast_e (k_100 hK) c3.1 c3.2, ob_e]
      refine nxt (hK.sa _ _ (by decide)) (hR.ag (fun j => gt_r _ _ _ _ (by decide))) ⟨fun j j0 j1 => ?_, fun o2 ho2 s s0 s1 => ?_⟩ (Fr.stI (Fr.rf0 _ _ _) (by simp))
      · by_cases y : j = cel 0 o' ((i : Int) - 460 + g)
        · rw [y, gt_same]; exact Or.inr rfl
        · rw [gt_i _ _ _ y]; exact hT.1 j j0 j1
      · by_cases y : cel 0 o2 s = cel 0 o' ((i : Int) - 460 + g)
        · rw [y, gt_same]
          have eo : o2 = o' ∧ s = (i : Int) - 460 + g := by
            have := enc_ok ho2
            unfold cel at y
            exact ⟨enc_inj ho' ho2 (by omega), by omega⟩
          refine ⟨fun _ => Or.inr ⟨eo.1, by omega, by omega, ?_⟩, fun _ => rfl⟩
          rw [eo.2, show (i : Int) - 460 + g - g = (i : Int) - 460 by omega]
          exact hpi
        · rw [gt_i _ _ _ y, hT.2 o2 ho2 s s0 s1]
          constructor
          · rintro (w | ⟨w1, w2, w3, w4⟩)
            · exact Or.inl w
            · exact Or.inr ⟨w1, by omega, w3, w4⟩
          · rintro (w | ⟨w1, w2, w3, w4⟩)
            · exact Or.inl w
            · refine Or.inr ⟨w1, ?_, w3, w4⟩
              have : ¬ s = (i : Int) - 460 + g := fun q => y (by rw [w1, q])
              omega
    · rw [if_pos (by omega)]
      refine nxt hK hR (hT.cg (fun o2 _ s _ _ => ?_)) (Fr.rf0 _ _ _)
      constructor
      · rintro (w | ⟨w1, w2, w3, w4⟩)
        · exact Or.inl w
        · exact Or.inr ⟨w1, by omega, w3, w4⟩
      · rintro (w | ⟨w1, w2, w3, w4⟩)
        · exact Or.inl w
        · refine Or.inr ⟨w1, ?_, w3, w4⟩
          have : ¬ s - g = (i : Int) - 460 := fun q => z (hb.mpr (by rw [← q]; exact w4))
          omega
theorem leadsOn_M {N : Nat} (hN : 1000000 ≤ N) {f : Int} {o o' : Ow} (ho : OwOK o) (ho' : OwOK o') {g : Int} (hg : -60 ≤ g ∧ g ≤ 60) {P T : Ow → Int → Prop} (hP : ∀ s, -460 ≤ s → s < 600 → P o s → -460 ≤ s + g ∧ s + g < 600) {μ : Mm} (hK : KR μ) (h75 : m_gt μ 50 75 = g) (h76 : m_gt μ 50 76 = enc o') (hR : RB 99 P μ) (hT : RB 100 T μ) : ∃ μ', jX8_leadsOn N 50 f (enc o) μ = some μ' ∧ RB 100 (fun o2 s => T o2 s ∨ (o2 = o' ∧ -460 ≤ s - g ∧ s - g < 600 ∧ P o (s - g))) μ' ∧ Fr [100] [] μ μ' := by
  have e1 := enc_ok ho
  have e2 := enc_ok ho'
  obtain ⟨μ', r1, r2, r3⟩ := leadsOn_loop (N := N) ho ho' hg hP (T := T) 1060 N 0 (μ := μ) (by omega) (by omega) hK hR (hT.cg (fun o2 _ s _ _ => ⟨Or.inl, fun z => z.elim id (fun y => by omega)⟩))
  refine ⟨μ', ?_, r2, r3⟩
  unfold jX8_leadsOn
  rw [bnd_e, bnd_e, h75, h76, i_mul_e (by omega) (by omega), i_mul_e (by omega) (by omega), i_add_e (by omega) (by omega)]
  exact r1
