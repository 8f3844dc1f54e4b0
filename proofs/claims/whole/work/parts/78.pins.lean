/-! ===== PURE: the calls of pins ===== -/
theorem Clu_ex {G : Gm} {s : Int} (hs : ps s) : ∀ (k : Nat) (x : Int), 9 ≤ cd (tb x) 9 + k → Goo G s x → ∃ y, Clu G s y
  | k, x, hk, hx => by
    refine Classical.byCases (p := Clo G s x) (fun c => ⟨x, hx, c⟩) (fun c => ?_)
    have : ∃ a b : Nat, a < 9 ∧ b < 9 ∧ tb x a = true ∧ tb s b = true ∧ gJ G a b = true ∧ tb x b = false := by
      refine Classical.byContradiction (fun z => c (fun a b ha hb q1 q2 q3 => ?_))
      cases h : tb x b with
      | true => rfl
      | false => exact absurd ⟨a, b, ha, hb, q1, q2, q3, h⟩ z
    obtain ⟨a, b, ha, hb, q1, q2, q3, q4⟩ := this
    have hO1 := tb_one hb
    have hO := tb_or hx.1 hO1.1
    have inc : ∀ j, j < 9 → tb x j = true → tb (i_or x (i_shl 1 b)) j = true := fun j _ q => by rw [hO.2, q]; rfl
    have l1 := cd_lt (f := tb x) (g := tb (i_or x (i_shl 1 b))) 9 inc ⟨b, hb, by rw [hO.2, hO1.2]; simp, q4⟩
    have gd : Goo G s (i_or x (i_shl 1 b)) := by
      refine ⟨hO.1, fun k hk => by rw [hO.2, hx.2.1 k hk]; rfl, fun y y1 y2 k hk q => ?_⟩
      rw [hO.2, hO1.2] at q
      rcases (Bool.or_eq_true_iff.mp q) with q | q
      · exact hx.2.2 y y1 y2 k hk q
      · have : k = b := of_decide_eq_true q
        subst this
        exact y2 a k ha hk (hx.2.2 y y1 y2 a ha q1) q2 q3
    cases k with
    | zero =>
      have := cd_n (tb (i_or x (i_shl 1 b))) 9
      omega
    | succ k => exact Clu_ex hs k _ (by omega) gd
theorem clf_ok {G : Gm} {s : Int} (hs : ps s) : Clu G s (clf G s) := by
  obtain ⟨y, hy⟩ := Clu_ex (G := G) hs 9 (low s) (by omega) (Goo.low hs)
  rw [← clf_e hy]
  exact hy
def pw (p : Int) : Int := ((2 ^ p.toNat : Nat) : Int)
theorem pw_e : ∀ k : Nat, k < 10 → i_shl 1 (k : Int) = ((2 ^ k : Nat) : Int) := by decide +kernel
theorem pw_le {p : Int} (h : p ≤ 9) : pw p ≤ 512 := by
  unfold pw
  have h2 : 2 ^ p.toNat ≤ 2 ^ 9 := Nat.pow_le_pow_right (by decide) (by omega)
  generalize 2 ^ p.toNat = q at *
  omega
def hp (G : Gm) (s : Int) : Prop := 0 ≤ s ∧ s < pw (G.1 0)
theorem hp.ps {G : Gm} (hG : GOK G) {s : Int} (h : 0 ≤ s ∧ s < pw (G.1 0)) : ps s := ⟨h.1, by have := pw_le hG.1.2; have := h.2; omega⟩
theorem hasPins_X {N : Nat} {l : Int} {G : Gm} (hG : GOK G) {s : Int} {μ : Mm} (hL : LX l G μ) : jX1_hasPins N l s μ = some (if 0 ≤ s ∧ s < pw (G.1 0) then 1 else 0, μ) := by
  have h0 := hG.1
  unfold jX1_hasPins jX1_hasPins_18 jX1_hasPins_19
  rw [hL.1.1, z_e (x := 0) (Or.inl rfl), z_e (x := 1) (Or.inr rfl)]
  have e := pw_e (G.1 0).toNat (by omega)
  rw [show (((G.1 0).toNat : Nat) : Int) = G.1 0 by omega] at e
  rw [e]
  show (if s < 0 then _ else if pw (G.1 0) ≤ s then _ else _) = _
  by_cases c : s < 0
  · rw [if_pos c, if_neg (by omega)]
  · rw [if_neg c]
    by_cases c2 : pw (G.1 0) ≤ s
    · rw [if_pos c2, if_neg (by omega)]
    · rw [if_neg c2, if_pos (by omega)]
theorem isPins_M {N : Nat} {G : Gm} (hG : GOK G) {s le : Int} (hs : okI s) (hle : 0 ≤ le ∧ le ≤ 1) {μ : Mm} (hK : KR μ) (hM : GM G μ) : jX8_isPins N 50 s le μ = some (if le ≤ s ∧ 0 ≤ s ∧ s < pw (G.1 0) then 1 else 0, μ) := by
  have h0 := hG.1
  have hpw := pw_le hG.1.2
  unfold jX8_isPins jX8_isPins_28 jX8_isPins_29
  rw [i_2l_e hs.1 hs.2, i_2l_e (x := le) (by omega) (by omega), isIn_M, b2_e, r_50_31 hK, ald_e (k_74 hK) (by decide) (by decide), ob_e, hM.1.1, z_e (x := 0) (Or.inl rfl), z_e (x := 1) (Or.inr rfl)]
  by_cases c : le ≤ s ∧ s ≤ 511
  · rw [if_pos c, if_neg (by decide), i_shr_n (by omega) (by omega)]
    have e : ((s.toNat >>> (G.1 0).toNat : Nat) : Int) = 0 ↔ s < pw (G.1 0) := by
      rw [Nat.shiftRight_eq_div_pow]
      unfold pw
      have hq : 0 < 2 ^ (G.1 0).toNat := Nat.pow_pos (by decide)
      have hd : s.toNat / 2 ^ (G.1 0).toNat = 0 ↔ s.toNat < 2 ^ (G.1 0).toNat := by
        rw [Nat.div_eq_zero_iff]
        omega
      generalize 2 ^ (G.1 0).toNat = q at *
      constructor
      · intro z
        have := hd.mp (by omega)
        omega
      · intro z
        have := hd.mpr (by omega)
        omega
    by_cases c2 : ((s.toNat >>> (G.1 0).toNat : Nat) : Int) = 0
    · rw [if_neg (not_not_intro c2), if_pos ⟨c.1, by omega, e.mp c2⟩]
    · rw [if_pos c2, if_neg (fun z => c2 (e.mpr z.2.2))]
  · rw [if_neg c, if_pos rfl, if_neg (by omega)]
theorem hang_X {N : Nat} (hN : 1000000 ≤ N) {l : Int} (hl : l = 2 ∨ l = 13) {G : Gm} {s : Int} (hs : ps s) {μ : Mm} (hK : KR μ) (hJ : JX l G μ) : jX1_hangTogether N l s μ = some (if s ≠ 0 ∧ clf G s = s then 1 else 0, μ) := by
  unfold jX1_hangTogether jX1_hangTogether_17 jX1_hangTogether_18
  rw [cluster_X hN hl hs hK hJ, b2_e, z_e (x := 0) (Or.inl rfl), z_e (x := 1) (Or.inr rfl)]
  by_cases c : s = 0
  · rw [if_pos c, if_neg (fun z => z.1 c)]
  · rw [if_neg c]
    by_cases c2 : clf G s = s
    · rw [if_neg (not_not_intro c2), if_pos ⟨c, c2⟩]
    · rw [if_pos c2, if_neg (fun z => c2 z.2)]
noncomputable def faA (G : Gm) (s f : Int) : Int := if (0 ≤ s ∧ s < pw (G.1 0)) ∧ (0 ≤ f ∧ f < pw (G.1 0)) ∧ f ≠ 0 then (if i_and f (i_xor s (-1)) = 0 ∧ clf G f = f then 1 else 0) else -1
theorem falls_X {N : Nat} (hN : 1000000 ≤ N) {l : Int} (hl : l = 2 ∨ l = 13) {G : Gm} (hG : GOK G) {s f : Int} {μ : Mm} (hK : KR μ) (h2 : m_gt μ 0 2 = l) (hL : LX l G μ) : jX7_falls N 0 s f μ = some (faA G s f, μ) := by
  have hk := chk_e (β := Int × Mm) (LK.of hK hl).1.1
  have hJ : JX l G μ := hL.2.2
  unfold jX7_falls jX7_falls_26 jX7_falls_51 jX7_falls_52 faA
  rw [h2, hk, hasPins_X hG hL, b2_e, h2, hk, hasPins_X hG hL, b2_e]
  by_cases c : 0 ≤ s ∧ s < pw (G.1 0)
  · rw [if_pos c, if_neg (by decide)]
    by_cases c1 : 0 ≤ f ∧ f < pw (G.1 0)
    · rw [if_pos c1, if_neg (by decide)]
      by_cases c2 : f = 0
      · rw [if_neg (not_not_intro c2), if_neg (fun z => z.2.2 c2)]
      · rw [if_pos c2, if_pos (show (0 ≤ s ∧ s < pw (G.1 0)) ∧ (0 ≤ f ∧ f < pw (G.1 0)) ∧ f ≠ 0 from ⟨c, c1, c2⟩), h2, hk, hang_X hN hl (hp.ps hG c1) hK hJ, b2_e]
        by_cases c3 : i_and f (i_xor s (-1)) = 0
        · rw [if_neg (not_not_intro c3)]
          by_cases c4 : clf G f = f
          · rw [if_pos (show f ≠ 0 ∧ clf G f = f from ⟨c2, c4⟩), if_neg (by decide), if_pos ⟨c3, c4⟩]
          · rw [if_neg (show ¬ (f ≠ 0 ∧ clf G f = f) from fun z => c4 z.2), if_pos rfl, if_neg (fun z => c4 z.2)]
        · rw [if_pos c3, if_neg (fun z => c3 z.1)]
    · rw [if_neg c1, if_pos rfl, if_neg (fun z => c1 z.2.1)]
  · rw [if_neg c, if_pos rfl, if_neg (fun z => c z.1)]
theorem falls_M {N : Nat} (hN : 1000000 ≤ N) {G : Gm} (hG : GOK G) {s f : Int} (hs : okI s) (hf : okI f) {μ : Mm} (hK : KR μ) (hM : GM G μ) : jX8_falls N 50 s f μ = some (faA G s f, μ) := by
  have hJ : JM G μ := hM.2.2
  unfold jX8_falls jX8_falls_18 jX8_falls_41 jX8_falls_42 faA
  rw [isPins_M hG hs (by omega) hK hM, b2_e, isPins_M hG hf (by omega) hK hM, b2_e]
  by_cases c : 0 ≤ s ∧ s < pw (G.1 0)
  · rw [if_pos (show 0 ≤ s ∧ 0 ≤ s ∧ s < pw (G.1 0) from ⟨c.1, c⟩), if_neg (by decide)]
    by_cases c1 : (0 ≤ f ∧ f < pw (G.1 0)) ∧ f ≠ 0
    · rw [if_pos (show 1 ≤ f ∧ 0 ≤ f ∧ f < pw (G.1 0) by omega), if_pos (by decide), if_pos (show (0 ≤ s ∧ s < pw (G.1 0)) ∧ (0 ≤ f ∧ f < pw (G.1 0)) ∧ f ≠ 0 from ⟨c, c1⟩), part_M hN (hp.ps hG c1.1) hK hJ, b2_e]
      by_cases c3 : i_and f (i_xor s (-1)) = 0
      · rw [if_neg (not_not_intro c3)]
        by_cases c4 : clf G f = f
        · rw [if_neg (not_not_intro c4), if_pos ⟨c3, c4⟩]
        · rw [if_pos c4, if_neg (fun z => c4 z.2)]
      · rw [if_pos c3, if_neg (fun z => c3 z.1)]
    · rw [if_neg (show ¬ (1 ≤ f ∧ 0 ≤ f ∧ f < pw (G.1 0)) by omega), if_neg (by decide), if_neg (fun z => c1 z.2)]
  · rw [if_neg (show ¬ (0 ≤ s ∧ 0 ≤ s ∧ s < pw (G.1 0)) from fun z => c z.2), if_pos rfl, if_neg (fun z => c z.1)]
noncomputable def spA (G : Gm) (s : Int) : Int := if 0 ≤ s ∧ s < pw (G.1 0) then (if s ≠ 0 ∧ clf G s ≠ s then 1 else 0) else -1
theorem split_X {N : Nat} (hN : 1000000 ≤ N) {l : Int} (hl : l = 2 ∨ l = 13) {G : Gm} (hG : GOK G) {s : Int} {μ : Mm} (hK : KR μ) (h2 : m_gt μ 0 2 = l) (hL : LX l G μ) : jX7_split N 0 s μ = some (spA G s, μ) := by
  have hk := chk_e (β := Int × Mm) (LK.of hK hl).1.1
  have hJ : JX l G μ := hL.2.2
  unfold jX7_split jX7_split_32 jX7_split_33 spA
  rw [h2, hk, hasPins_X hG hL, b2_e, h2, hk]
  by_cases c : 0 ≤ s ∧ s < pw (G.1 0)
  · rw [if_pos c, if_pos (by decide), if_pos c, hang_X hN hl (hp.ps hG c) hK hJ, b2_e]
    by_cases c2 : s = 0
    · rw [if_pos c2, if_neg (fun z => z.1 c2)]
    · rw [if_neg c2]
      by_cases c4 : clf G s = s
      · rw [if_pos (show s ≠ 0 ∧ clf G s = s from ⟨c2, c4⟩), if_pos (by decide), if_neg (fun z => z.2 c4)]
      · rw [if_neg (show ¬ (s ≠ 0 ∧ clf G s = s) from fun z => c4 z.2), if_neg (by decide), if_pos ⟨c2, c4⟩]
  · rw [if_neg c, if_neg (by decide), if_neg c]
def pcn : Nat → Nat → Nat
  | 0, _ => 0
  | n + 1, v => v % 2 + pcn n (v / 2)
theorem many_loop {N : Nat} {μ : Mm} : ∀ (k n : Nat) (a v : Nat), v < 2 ^ k → k < 10 → k < n → a + k ≤ 9 → jX8_many_4 N n a v μ = some (((a + pcn k v : Nat) : Int), μ)
  | k, 0, a, v, hv, _, hn, _ => absurd hn (by omega)
  | 0, n + 1, a, v, hv, _, hn, _ => by
    show jX8_many_4b (jX8_many_4 N n) N a v μ = _
    unfold jX8_many_4b
    rw [if_pos (by omega)]
    rfl
  | k + 1, n + 1, a, v, hv, hk, hn, ha => by
    show jX8_many_4b (jX8_many_4 N n) N a v μ = _
    unfold jX8_many_4b
    have hv' : v < 2 ^ 10 := Nat.lt_of_lt_of_le hv (Nat.pow_le_pow_right (by decide) (by omega))
    rw [Nat.pow_succ] at hv
    by_cases c : (v : Int) ≤ 0
    · have : v = 0 := by omega
      subst this
      rw [if_pos c]
      have : ∀ k, pcn k 0 = 0 := by
        intro k
        induction k with
        | zero => rfl
        | succ k ih => unfold pcn; rw [Nat.zero_mod, Nat.zero_div, ih]
      rw [this]
      rfl
    · rw [if_neg c, bnd_e, bnd_e, i_and_n (by omega) (by decide), i_shr_n (by omega) (by decide)]
      rw [show ((v : Int).toNat &&& (1 : Int).toNat) = v % 2 by rw [Int.toNat_natCast]; exact Nat.and_one_is_mod v, show ((v : Int).toNat >>> (1 : Int).toNat) = v / 2 by rw [Int.toNat_natCast, Nat.shiftRight_eq_div_pow]; rfl]
      rw [i_add_e (by omega) (by omega), show (a : Int) + ((v % 2 : Nat) : Int) = ((a + v % 2 : Nat) : Int) by omega, many_loop k n (a + v % 2) (v / 2) (by omega) (by omega) (by omega) (by omega)]
      rw [show pcn (k + 1) v = v % 2 + pcn k (v / 2) from rfl]
      congr 2
      omega
theorem pc_low : ∀ s : Fin 512, (decide (2 ≤ pcn 9 s.val) || decide (s.val = 0) || decide (low (s.val : Int) = (s.val : Int))) = true := by decide +kernel
theorem pc_two : ∀ s : Fin 512, (decide (pcn 9 s.val ≤ 9) && (decide (¬ s.val = 0) || decide (pcn 9 s.val = 0))) = true := by decide +kernel
theorem split_M {N : Nat} (hN : 1000000 ≤ N) {G : Gm} (hG : GOK G) {s : Int} (hs : okI s) {μ : Mm} (hK : KR μ) (hM : GM G μ) : jX8_split N 50 s μ = some (spA G s, μ) := by
  have hJ : JM G μ := hM.2.2
  unfold jX8_split jX8_split_32 jX8_split_33 spA
  rw [isPins_M hG hs (by omega) hK hM, b2_e]
  by_cases c : 0 ≤ s ∧ s < pw (G.1 0)
  · have hps := hp.ps hG c
    have hps1 := hps.1
    have hps2 := hps.2
    have hm := many_loop (N := N) (μ := μ) 9 N 0 s.toNat (by omega) (by omega) (by omega) (by omega)
    rw [Nat.zero_add, show ((s.toNat : Nat) : Int) = s by omega, show ((0 : Nat) : Int) = 0 from rfl] at hm
    have h1 := pc_low ⟨s.toNat, by omega⟩
    have h2 := pc_two ⟨s.toNat, by omega⟩
    dsimp only at h1 h2
    rw [show ((s.toNat : Nat) : Int) = s by omega] at h1
    simp only [Bool.or_eq_true, Bool.and_eq_true, decide_eq_true_eq] at h1 h2
    unfold jX8_many
    rw [if_pos (show 0 ≤ s ∧ 0 ≤ s ∧ s < pw (G.1 0) from ⟨c.1, c⟩), if_pos (by decide), if_pos c, hm, b2_e, part_M hN hps hK hJ, b2_e]
    by_cases c1 : ((pcn 9 s.toNat : Nat) : Int) ≤ 1
    · rw [if_pos c1, if_neg]
      intro z
      rcases h1 with (h1 | h1) | h1
      · omega
      · exact z.1 (by omega)
      · apply z.2
        have hc := clf_ok (G := G) hps
        refine (tb_ext hc.1.1 hps (fun k hk => ?_))
        have a1 := hc.1.sub hps k hk
        have a2 := hc.1.2.1 k
        rw [h1] at a2
        cases ha : tb (clf G s) k <;> cases hb : tb s k
        · rfl
        · exact absurd (a2 hb) (by simp [ha])
        · exact absurd (a1 ha) (by simp [hb])
        · rfl
    · have : ¬ s = 0 := fun z => by
        rw [z] at c1 h2
        have : pcn 9 (0 : Int).toNat = 0 := rfl
        omega
      rw [if_neg c1]
      by_cases c4 : clf G s = s
      · rw [if_pos c4, if_neg (fun z => z.2 c4)]
      · rw [if_neg c4, if_pos ⟨this, c4⟩]
  · rw [if_neg (show ¬ (0 ≤ s ∧ 0 ≤ s ∧ s < pw (G.1 0)) from fun z => c z.2), if_neg (by decide), if_neg c]
noncomputable def few (G : Gm) : Nat → Int → Int
  | 0, _ => 0
  | n + 1, s => if s = 0 then 0 else 1 + few G n (i_and s (i_xor (clf G s) (-1)))
theorem few_ok (G : Gm) : ∀ (n : Nat) (s : Int), 0 ≤ few G n s ∧ few G n s ≤ n
  | 0, s => by simp [few]
  | n + 1, s => by
    have := few_ok G n (i_and s (i_xor (clf G s) (-1)))
    unfold few
    split <;> omega
theorem few_dec {G : Gm} {s : Int} (hs : ps s) (h0 : s ≠ 0) : ps (i_and s (i_xor (clf G s) (-1))) ∧ cd (tb (i_and s (i_xor (clf G s) (-1)))) 9 < cd (tb s) 9 := by
  have hc := clf_ok (G := G) hs
  have hd := tb_dif hs hc.1.1
  refine ⟨hd.1, cd_lt 9 (fun k _ q => by rw [hd.2] at q; exact (Bool.and_eq_true_iff.mp q).1) ?_⟩
  have hl := low_ok hs
  have : ∃ k, k < 9 ∧ tb (low s) k = true := by
    refine Classical.byContradiction (fun z => hl.2.2.2 h0 (tb_ext hl.1 ⟨by decide, by decide⟩ (fun k hk => ?_)))
    rw [tb_zero]
    cases h : tb (low s) k with
    | false => rfl
    | true => exact absurd ⟨k, hk, h⟩ z
  obtain ⟨k, hk, q⟩ := this
  exact ⟨k, hk, hl.2.1 k q, by rw [hd.2, hc.1.2.1 k q]; simp⟩
theorem clusters_loop {N : Nat} (hN : 1000000 ≤ N) {l : Int} (hl : l = 2 ∨ l = 13) {G : Gm} {μ : Mm} (hK : KR μ) (hJ : JX l G μ) : ∀ (k n i : Nat) (s a : Int), i + k = 9 → k < n → ps s → 0 ≤ a → a ≤ i → jX1_countClusters_7 N n l s a i μ = some (a + few G k s, μ)
  | k, 0, i, s, a, hi, hn, _, _, _ => absurd hn (by omega)
  | 0, n + 1, i, s, a, hi, hn, hs, h0, h1 => by
    show jX1_countClusters_7b (jX1_countClusters_7 N n) N l s a i μ = _
    unfold jX1_countClusters_7b jX1_countClusters_37
    rw [if_pos (by omega)]
    simp [few]
  | k + 1, n + 1, i, s, a, hi, hn, hs, h0, h1 => by
    show jX1_countClusters_7b (jX1_countClusters_7 N n) N l s a i μ = _
    unfold jX1_countClusters_7b jX1_countClusters_37 few
    rw [if_neg (by omega)]
    by_cases c : s = 0
    · rw [if_pos c, if_pos c]; simp
    · rw [if_neg c, if_neg c, cluster_X hN hl hs hK hJ, b2_e, bnd_e, bnd_e, bnd_e, i_add_e (by omega) (by omega), i_add_e (by omega) (by omega), show (i : Int) + 1 = ((i + 1 : Nat) : Int) by omega, clusters_loop hN hl hK hJ k n (i + 1) _ (a + 1) (by omega) (by omega) (few_dec hs c).1 (by omega) (by omega), Int.add_assoc]
theorem fewest_loop {N : Nat} (hN : 1000000 ≤ N) {G : Gm} {μ : Mm} (hK : KR μ) (hJ : JM G μ) : ∀ (k n : Nat) (s a : Int), cd (tb s) 9 ≤ k → k < n → ps s → 0 ≤ a → a ≤ 100 - k → jX8_fewest_15 N n 50 a s μ = some (a + few G k s, μ)
  | k, 0, s, a, hi, hn, _, _, _ => absurd hn (by omega)
  | k, n + 1, s, a, hi, hn, hs, h0, h1 => by
    show jX8_fewest_15b (jX8_fewest_15 N n) N 50 a s μ = _
    unfold jX8_fewest_15b
    by_cases c : s = 0
    · rw [if_pos c]
      cases k with
      | zero => simp [few]
      | succ k => unfold few; rw [if_pos c]; simp
    · have hd := few_dec (G := G) hs c
      rw [if_neg c, bnd_e, part_M hN hs hK hJ, b2_e, bnd_e, i_add_e (by omega) (by omega)]
      cases k with
      | zero => omega
      | succ k =>
        unfold few
        rw [if_neg c, fewest_loop hN hK hJ k n _ (a + 1) (by omega) (by omega) hd.1 (by omega) (by omega), Int.add_assoc]
noncomputable def fwA (G : Gm) (s : Int) : Int := if 0 ≤ s ∧ s < pw (G.1 0) then few G 9 s else -1
theorem fewest_X {N : Nat} (hN : 1000000 ≤ N) {l : Int} (hl : l = 2 ∨ l = 13) {G : Gm} (hG : GOK G) {s : Int} {μ : Mm} (hK : KR μ) (h2 : m_gt μ 0 2 = l) (hL : LX l G μ) : jX7_fewest N 0 s μ = some (fwA G s, μ) := by
  have hk := chk_e (β := Int × Mm) (LK.of hK hl).1.1
  unfold jX7_fewest jX7_fewest_23 fwA
  rw [h2, hk, hasPins_X hG hL, b2_e, h2, hk]
  by_cases c : 0 ≤ s ∧ s < pw (G.1 0)
  · have := clusters_loop (N := N) hN hl hK hL.2.2 9 N 0 s 0 (by omega) (by omega) (hp.ps hG c) (by omega) (by omega)
    rw [Int.zero_add, show ((0 : Nat) : Int) = 0 from rfl] at this
    unfold jX1_countClusters
    rw [if_pos c, if_neg (by decide), if_pos c, this, b2_e]
  · rw [if_neg c, if_pos rfl, if_neg c]
theorem fewest_M {N : Nat} (hN : 1000000 ≤ N) {G : Gm} (hG : GOK G) {s : Int} (hs : okI s) {μ : Mm} (hK : KR μ) (hM : GM G μ) : jX8_fewest N 50 s μ = some (fwA G s, μ) := by
  unfold jX8_fewest fwA
  rw [isPins_M hG hs (by omega) hK hM, b2_e]
  by_cases c : 0 ≤ s ∧ s < pw (G.1 0)
  · have := fewest_loop (N := N) hN hK hM.2.2 9 N s 0 (cd_n _ 9) (by omega) (hp.ps hG c) (by omega) (by omega)
    rw [Int.zero_add] at this
    rw [if_pos (show 0 ≤ s ∧ 0 ≤ s ∧ s < pw (G.1 0) from ⟨c.1, c⟩), if_pos (by decide), if_pos c, this]
  · rw [if_neg (show ¬ (0 ≤ s ∧ 0 ≤ s ∧ s < pw (G.1 0)) from fun z => c z.2), if_neg (by decide), if_neg c]
noncomputable def lvs (G : Gm) (s : Int) : Nat → Int
  | 0 => 0
  | n + 1 => lvs G s n + if i_and ((n : Int) + 1) (i_xor s (-1)) = 0 ∧ clf G ((n : Int) + 1) = (n : Int) + 1 then 1 else 0
theorem lvs_s (G : Gm) (s : Int) (n : Nat) : lvs G s (n + 1) = lvs G s n + if i_and ((n : Int) + 1) (i_xor s (-1)) = 0 ∧ clf G ((n : Int) + 1) = (n : Int) + 1 then 1 else 0 := rfl
theorem lvs_ok (G : Gm) (s : Int) : ∀ n : Nat, 0 ≤ lvs G s n ∧ lvs G s n ≤ n
  | 0 => by simp [lvs]
  | n + 1 => by
    have := lvs_ok G s n
    unfold lvs
    split <;> omega
theorem countFalls_loop {N : Nat} (hN : 1000000 ≤ N) {l : Int} (hl : l = 2 ∨ l = 13) {G : Gm} {s : Int} (hs : ps s) {μ : Mm} (hK : KR μ) (hJ : JX l G μ) : ∀ (k n i : Nat), i + k = s.toNat → k < n → jX1_countFalls_4 N n l s (lvs G s i) (i + 1 : Nat) μ = some (lvs G s s.toNat, μ)
  | k, 0, i, hi, hn => absurd hn (by omega)
  | 0, n + 1, i, hi, hn => by
    have h0 := hs.1
    show jX1_countFalls_4b (jX1_countFalls_4 N n) N l s (lvs G s i) (i + 1 : Nat) μ = _
    unfold jX1_countFalls_4b
    rw [if_pos (by omega), show i = s.toNat by omega]
  | k + 1, n + 1, i, hi, hn => by
    have h0 := hs.1
    have h1 := hs.2
    have hv := lvs_ok G s i
    have ih := countFalls_loop hN hl hs hK hJ k n (i + 1) (by omega) (by omega)
    show jX1_countFalls_4b (jX1_countFalls_4 N n) N l s (lvs G s i) (i + 1 : Nat) μ = _
    unfold jX1_countFalls_4b jX1_countFalls_28
    rw [show ((i + 1 + 1 : Nat) : Int) = (i : Int) + 1 + 1 by omega] at ih
    rw [show ((i + 1 : Nat) : Int) = (i : Int) + 1 by omega, if_neg (by omega), hang_X hN hl (s := (i : Int) + 1) ⟨by omega, by omega⟩ hK hJ, b2_e, bnd_e, bnd_e, i_add_e (by omega) (by omega), bnd_e, i_add_e (x := lvs G s i) (by omega) (by omega)]
    rw [lvs_s] at ih
    by_cases c : i_and ((i : Int) + 1) (i_xor s (-1)) = 0
    · rw [if_neg (not_not_intro c)]
      by_cases c4 : clf G ((i : Int) + 1) = (i : Int) + 1
      · rw [if_pos (show (i : Int) + 1 ≠ 0 ∧ clf G ((i : Int) + 1) = (i : Int) + 1 from ⟨by omega, c4⟩), if_neg (by decide)]
        rw [if_pos ⟨c, c4⟩] at ih
        exact ih
      · rw [if_neg (show ¬ ((i : Int) + 1 ≠ 0 ∧ clf G ((i : Int) + 1) = (i : Int) + 1) from fun z => c4 z.2), if_pos rfl]
        rw [if_neg (fun z => c4 z.2), Int.add_zero] at ih
        exact ih
    · rw [if_pos c]
      rw [if_neg (fun z => c z.1), Int.add_zero] at ih
      exact ih
theorem leaves_loop {N : Nat} (hN : 1000000 ≤ N) {G : Gm} {s : Int} (hs : ps s) {μ : Mm} (hK : KR μ) (hJ : JM G μ) : ∀ (k n i : Nat), i + k = s.toNat → k < n → jX8_leaves_15 N n 50 s (lvs G s i) (i + 1 : Nat) μ = some (lvs G s s.toNat, μ)
  | k, 0, i, hi, hn => absurd hn (by omega)
  | 0, n + 1, i, hi, hn => by
    have h0 := hs.1
    show jX8_leaves_15b (jX8_leaves_15 N n) N 50 s (lvs G s i) (i + 1 : Nat) μ = _
    unfold jX8_leaves_15b
    rw [if_pos (by omega), show i = s.toNat by omega]
  | k + 1, n + 1, i, hi, hn => by
    have h0 := hs.1
    have h1 := hs.2
    have hv := lvs_ok G s i
    have ih := leaves_loop hN hs hK hJ k n (i + 1) (by omega) (by omega)
    show jX8_leaves_15b (jX8_leaves_15 N n) N 50 s (lvs G s i) (i + 1 : Nat) μ = _
    unfold jX8_leaves_15b jX8_leaves_40
    rw [show ((i + 1 + 1 : Nat) : Int) = (i : Int) + 1 + 1 by omega] at ih
    rw [show ((i + 1 : Nat) : Int) = (i : Int) + 1 by omega, if_neg (by omega), part_M hN (s := (i : Int) + 1) ⟨by omega, by omega⟩ hK hJ, b2_e, bnd_e, bnd_e, i_add_e (by omega) (by omega), bnd_e, i_add_e (x := lvs G s i) (by omega) (by omega)]
    rw [lvs_s] at ih
    by_cases c : i_and ((i : Int) + 1) (i_xor s (-1)) = 0
    · rw [if_neg (not_not_intro c)]
      by_cases c4 : clf G ((i : Int) + 1) = (i : Int) + 1
      · rw [if_neg (not_not_intro c4)]
        rw [if_pos ⟨c, c4⟩] at ih
        exact ih
      · rw [if_pos c4]
        rw [if_neg (fun z => c4 z.2), Int.add_zero] at ih
        exact ih
    · rw [if_pos c]
      rw [if_neg (fun z => c z.1), Int.add_zero] at ih
      exact ih
noncomputable def lvA (G : Gm) (s : Int) : Int := if 0 ≤ s ∧ s < pw (G.1 0) then lvs G s s.toNat else -1
theorem leaves_X {N : Nat} (hN : 1000000 ≤ N) {l : Int} (hl : l = 2 ∨ l = 13) {G : Gm} (hG : GOK G) {s : Int} {μ : Mm} (hK : KR μ) (h2 : m_gt μ 0 2 = l) (hL : LX l G μ) : jX7_leaves N 0 s μ = some (lvA G s, μ) := by
  have hk := chk_e (β := Int × Mm) (LK.of hK hl).1.1
  unfold jX7_leaves jX7_leaves_23 lvA
  rw [h2, hk, hasPins_X hG hL, b2_e, h2, hk]
  by_cases c : 0 ≤ s ∧ s < pw (G.1 0)
  · have hps := hp.ps hG c
    have hps2 := hps.2
    have := countFalls_loop (N := N) hN hl hps hK hL.2.2 s.toNat N 0 (by omega) (by omega)
    unfold jX1_countFalls
    rw [if_pos c, if_neg (by decide), if_pos c]
    have e : jX1_countFalls_4 N N l s 0 1 μ = some (lvs G s s.toNat, μ) := this
    rw [e, b2_e]
  · rw [if_neg c, if_pos rfl, if_neg c]
theorem leaves_M {N : Nat} (hN : 1000000 ≤ N) {G : Gm} (hG : GOK G) {s : Int} (hs : okI s) {μ : Mm} (hK : KR μ) (hM : GM G μ) : jX8_leaves N 50 s μ = some (lvA G s, μ) := by
  unfold jX8_leaves lvA
  rw [isPins_M hG hs (by omega) hK hM, b2_e]
  by_cases c : 0 ≤ s ∧ s < pw (G.1 0)
  · have hps := hp.ps hG c
    have hps2 := hps.2
    have := leaves_loop (N := N) hN hps hK hM.2.2 s.toNat N 0 (by omega) (by omega)
    rw [if_pos (show 0 ≤ s ∧ 0 ≤ s ∧ s < pw (G.1 0) from ⟨c.1, c⟩), if_pos (by decide), if_pos c]
    exact this
  · rw [if_neg (show ¬ (0 ≤ s ∧ 0 ≤ s ∧ s < pw (G.1 0)) from fun z => c z.2), if_neg (by decide), if_neg c]
