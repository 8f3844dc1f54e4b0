/-! ===== PURE: what hangs together ===== -/
def cd (f : Nat → Bool) : Nat → Nat
  | 0 => 0
  | n + 1 => cd f n + if f n then 1 else 0
theorem cd_le {f g : Nat → Bool} : ∀ n, (∀ k, k < n → f k = true → g k = true) → cd f n ≤ cd g n
  | 0, _ => Nat.le_refl _
  | n + 1, h => by
    have h1 := cd_le n (fun k hk => h k (by omega))
    have h2 := h n (by omega)
    unfold cd
    cases hf : f n <;> cases hg : g n <;> simp [hf, hg] at h2 ⊢ <;> omega
theorem cd_lt {f g : Nat → Bool} : ∀ n, (∀ k, k < n → f k = true → g k = true) → (∃ k, k < n ∧ g k = true ∧ f k = false) → cd f n < cd g n
  | 0, _, ⟨k, hk, _⟩ => absurd hk (by omega)
  | n + 1, h, ⟨k, hk, h1, h2⟩ => by
    unfold cd
    by_cases c : k = n
    · subst c
      have := cd_le k (fun j hj => h j (by omega))
      rw [h1, h2]
      simp
      omega
    · have h3 := cd_lt n (fun j hj => h j (by omega)) ⟨k, by omega, h1, h2⟩
      have h4 := h n (by omega)
      cases hf : f n <;> cases hg : g n <;> simp [hf, hg] at h4 ⊢ <;> omega
theorem cd_n (f : Nat → Bool) : ∀ n, cd f n ≤ n
  | 0 => Nat.le_refl _
  | n + 1 => by
    have := cd_n f n
    unfold cd
    split <;> omega
theorem cd_full {f : Nat → Bool} {n : Nat} (h : n ≤ cd f n) : ∀ k, k < n → f k = true := by
  intro k hk
  cases hf : f k with
  | true => rfl
  | false =>
    exfalso
    have h1 := cd_lt (f := f) (g := fun _ => true) n (fun _ _ _ => rfl) ⟨k, hk, rfl, hf⟩
    have h2 := cd_n (fun _ => true) n
    omega
/-- a set that holds all of s that is joined to it -/
def Clo (G : Gm) (s y : Int) : Prop := ∀ a b : Nat, a < 9 → b < 9 → tb y a = true → tb s b = true → gJ G a b = true → tb y b = true
def Goo (G : Gm) (s x : Int) : Prop := ps x ∧ (∀ k, tb (low s) k = true → tb x k = true) ∧ ∀ y, (∀ k, tb (low s) k = true → tb y k = true) → Clo G s y → ∀ k, k < 9 → tb x k = true → tb y k = true
def Clu (G : Gm) (s x : Int) : Prop := Goo G s x ∧ Clo G s x
theorem Clu.uni {G : Gm} {s x y : Int} (h : Clu G s x) (g : Clu G s y) : x = y := by
  refine tb_ext h.1.1 g.1.1 (fun k hk => ?_)
  have h1 := h.1.2.2 y g.1.2.1 g.2 k hk
  have h2 := g.1.2.2 x h.1.2.1 h.2 k hk
  cases hx : tb x k <;> cases hy : tb y k
  · rfl
  · exact absurd (h2 hy) (by simp [hx])
  · exact absurd (h1 hx) (by simp [hy])
  · rfl
theorem Goo.low {G : Gm} {s : Int} (hs : ps s) : Goo G s (low s) := ⟨(low_ok hs).1, fun _ h => h, fun _ h _ k _ hk => h k hk⟩
theorem Clo.self {G : Gm} {s : Int} : Clo G s s := fun _ _ _ _ _ h _ => h
theorem Goo.sub {G : Gm} {s x : Int} (hs : ps s) (h : Goo G s x) : ∀ k, k < 9 → tb x k = true → tb s k = true := h.2.2 s (low_ok hs).2.1 Clo.self
noncomputable def clf (G : Gm) (s : Int) : Int := Classical.epsilon (fun x => Clu G s x)
theorem clf_e {G : Gm} {s x : Int} (h : Clu G s x) : x = clf G s := h.uni (Classical.epsilon_spec (p := fun x => Clu G s x) ⟨x, h⟩)
/-! the class -/
def JX (l : Int) (G : Gm) (μ : Mm) : Prop := ∀ a : Int, 0 ≤ a → a ≤ 8 → 0 ≤ m_gt μ (l + 6) a ∧ m_gt μ (l + 6) a < 512 ∧ ∀ b : Nat, b ≤ 8 → (m_gt μ (l + 6) a).toNat.testBit b = gJ G a b
theorem cluster_19 {N : Nat} {l : Int} (hl : l = 2 ∨ l = 13) {G : Gm} {s fo ro : Int} (hs : ps s) (hf : Goo G s fo) {μ : Mm} (hK : KR μ) (hJ : JX l G μ) {K : Int → Int → Int → Int → Mm → Option (Int × Mm)} (hro : 0 ≤ ro ∧ ro ≤ 9) : ∀ (k n i : Nat) (gr : Int), i + k = 9 → k < n → Goo G s gr → (∀ j, j < 9 → tb fo j = true → tb gr j = true) → (∀ a b : Nat, a < i → b < 9 → tb fo a = true → tb s b = true → gJ G a b = true → tb gr b = true) → ∃ gr', jX1_cluster_19 K N n l s fo ro gr i μ = (if gr' = fo then some (fo, μ) else K l s gr' (ro + 1) μ) ∧ Goo G s gr' ∧ (∀ j, j < 9 → tb fo j = true → tb gr' j = true) ∧ (gr' = fo → Clo G s fo)
  | k, 0, i, gr, hi, hn, _, _, _ => absurd hn (by omega)
  | 0, n + 1, i, gr, hi, hn, hg, h1, h2 => by
    obtain ⟨⟨lk, _⟩, ⟨_, k6, _⟩, _, _, p8, _⟩ := LK.of hK hl
    refine ⟨gr, ?_, hg, h1, fun z => ?_⟩
    · show jX1_cluster_19b K (jX1_cluster_19 K N n) N l s fo ro gr i μ = _
      unfold jX1_cluster_19b
      rw [p8, len_e k6 (by decide) (by decide), ob_e, if_pos (by omega), bnd_e, i_add_e (by omega) (by omega)]
      by_cases c : gr = fo
      · rw [if_neg (not_not_intro c), if_pos c]
      · rw [if_pos c, if_neg c]
    · rw [← z]
      intro a b ha hb q1 q2 q3
      exact h2 a b (by omega) hb (by rw [z] at q1; exact q1) q2 q3
  | k + 1, n + 1, i, gr, hi, hn, hg, h1, h2 => by
    obtain ⟨⟨lk, _⟩, ⟨_, k6, _⟩, _, _, p8, _⟩ := LK.of hK hl
    have hj := hJ i (by omega) (by omega)
    have stp : ∀ g', Goo G s g' → (∀ j, j < 9 → tb fo j = true → tb g' j = true) → (∀ a b : Nat, a < i + 1 → b < 9 → tb fo a = true → tb s b = true → gJ G a b = true → tb g' b = true) → ∃ gr', jX1_cluster_53 K (jX1_cluster_19 K N n) N l s fo ro g' i μ = (if gr' = fo then some (fo, μ) else K l s gr' (ro + 1) μ) ∧ Goo G s gr' ∧ (∀ j, j < 9 → tb fo j = true → tb gr' j = true) ∧ (gr' = fo → Clo G s fo) := by
      intro g' a1 a2 a3
      unfold jX1_cluster_53
      rw [bnd_e, i_add_e (by omega) (by omega), show (i : Int) + 1 = ((i + 1 : Nat) : Int) by omega]
      exact cluster_19 hl hs hf hK hJ hro k n (i + 1) g' (by omega) (by omega) a1 a2 a3
    show ∃ gr', jX1_cluster_19b K (jX1_cluster_19 K N n) N l s fo ro gr i μ = _ ∧ _
    unfold jX1_cluster_19b
    rw [p8, len_e k6 (by decide) (by decide), ob_e, if_neg (by omega), tb_bit hf.1 (show i < 9 by omega), ald_e k6 (by omega) (by omega), ob_e, bnd_e]
    cases hb : tb fo i with
    | false =>
      rw [if_pos (by decide)]
      refine stp gr hg h1 (fun a b ha hb' q1 q2 q3 => ?_)
      by_cases c : a = i
      · rw [c, hb] at q1; cases q1
      · exact h2 a b (by omega) hb' q1 q2 q3
    | true =>
      rw [if_neg (by decide)]
      have hjs : ps (m_gt μ (l + 6) i) := ⟨hj.1, hj.2.1⟩
      have hA := tb_and hjs hs
      have hO := tb_or hg.1 hA.1
      refine stp _ ⟨hO.1, fun k hk => ?_, fun y y1 y2 k hk q => ?_⟩ (fun j hj' q => ?_) (fun a b ha hb' q1 q2 q3 => ?_)
      · rw [hO.2, hg.2.1 k hk]; rfl
      · rw [hO.2, hA.2] at q
        rcases (Bool.or_eq_true_iff.mp q) with q | q
        · exact hg.2.2 y y1 y2 k hk q
        · obtain ⟨w1, w2⟩ := Bool.and_eq_true_iff.mp q
          refine y2 i k (by omega) hk (hf.2.2 y y1 y2 i (by omega) hb) w2 ?_
          rw [← hj.2.2 k (by omega)]
          exact w1
      · rw [hO.2, h1 j hj' q]; rfl
      · rw [hO.2, hA.2]
        by_cases c : a = i
        · subst c
          have : tb (m_gt μ (l + 6) a) b = true := by unfold tb; rw [hj.2.2 b (by omega)]; exact q3
          rw [this, q2]
          simp
        · rw [h2 a b (by omega) hb' q1 q2 q3]; rfl
theorem cluster_7 {N : Nat} (hN : 1000000 ≤ N) {l : Int} (hl : l = 2 ∨ l = 13) {G : Gm} {s : Int} (hs : ps s) {μ : Mm} (hK : KR μ) (hJ : JX l G μ) : ∀ (k n i : Nat) (fo : Int), i + k = 9 → k < n → Goo G s fo → i ≤ cd (tb fo) 9 → jX1_cluster_7 N n l s fo i μ = some (clf G s, μ)
  | k, 0, i, fo, hi, hn, _, _ => absurd hn (by omega)
  | 0, n + 1, i, fo, hi, hn, hg, hc => by
    show jX1_cluster_7b (jX1_cluster_7 N n) N l s fo i μ = _
    unfold jX1_cluster_7b
    have hf := cd_full (f := tb fo) (n := 9) (by omega)
    rw [if_pos (by omega), ← clf_e (x := fo) ⟨hg, fun a b _ hb _ _ _ => hf b hb⟩]
  | k + 1, n + 1, i, fo, hi, hn, hg, hc => by
    show jX1_cluster_7b (jX1_cluster_7 N n) N l s fo i μ = _
    unfold jX1_cluster_7b
    obtain ⟨g', e1, e2, e3, e4⟩ := cluster_19 (N := N) hl hs hg hK hJ (K := jX1_cluster_7 N n) (ro := i) (by omega) 9 N 0 fo (by omega) (by omega) hg (fun _ _ h => h) (fun a b ha => absurd ha (by omega))
    rw [show ((0 : Nat) : Int) = 0 from rfl] at e1
    rw [if_neg (by omega), e1]
    by_cases c : g' = fo
    · rw [if_pos c, ← clf_e (x := fo) ⟨hg, e4 c⟩]
    · rw [if_neg c, show (i : Int) + 1 = ((i + 1 : Nat) : Int) by omega]
      refine cluster_7 hN hl hs hK hJ k n (i + 1) g' (by omega) (by omega) e2 ?_
      have : ∃ j, j < 9 ∧ tb g' j = true ∧ tb fo j = false := by
        refine Classical.byContradiction (fun z => c (tb_ext e2.1 hg.1 (fun j hj => ?_)))
        cases h1 : tb fo j
        · cases h2 : tb g' j
          · rfl
          · exact absurd ⟨j, hj, h2, h1⟩ z
        · exact e3 j hj h1
      have := cd_lt (f := tb fo) (g := tb g') 9 e3 this
      omega
theorem cluster_X {N : Nat} (hN : 1000000 ≤ N) {l : Int} (hl : l = 2 ∨ l = 13) {G : Gm} {s : Int} (hs : ps s) {μ : Mm} (hK : KR μ) (hJ : JX l G μ) : jX1_cluster N l s μ = some (clf G s, μ) := by
  unfold jX1_cluster
  rw [bnd_e]
  exact cluster_7 hN hl hs hK hJ 9 N 0 (low s) (by omega) (by omega) (Goo.low hs) (Nat.zero_le _)
/-! the reference -/
def JM (G : Gm) (μ : Mm) : Prop := ∀ a b : Int, 0 ≤ a → a ≤ 8 → 0 ≤ b → b ≤ 8 → m_gt μ 85 (81 + 9 * a + b) = if gJ G a b then 1 else 0
/-- one pass, so far -/
def Pas (G : Gm) (s a0 al mo : Int) (p : Nat) : Prop := Goo G s al ∧ (∀ j, j < 9 → tb a0 j = true → tb al j = true) ∧ ((mo = 0 ∧ al = a0 ∧ ∀ a b : Nat, a < 9 → b < 9 → 9 * a + b < p → tb a0 a = true → tb s b = true → gJ G a b = true → tb a0 b = true) ∨ (mo = 1 ∧ cd (tb a0) 9 < cd (tb al) 9))
theorem part_34 {N : Nat} {G : Gm} {s a0 : Int} (hs : ps s) {μ : Mm} (hK : KR μ) (hJ : JM G μ) {k15 : Int → Int → Int → Int → Mm → Option (Int × Mm)} {k24 : Int → Int → Int → Int → Int → Mm → Option (Int × Mm)} {a : Nat} (ha : a < 9) : ∀ (k n i : Nat) (al mo : Int), i + k = 9 → k < n → Pas G s a0 al mo (9 * a + i) → ∃ al' mo', jX8_part_34 k15 k24 N n 50 s al mo a i μ = k24 50 s al' mo' (a + 1 : Nat) μ ∧ Pas G s a0 al' mo' (9 * (a + 1))
  | k, 0, i, al, mo, hi, hn, _ => absurd hn (by omega)
  | 0, n + 1, i, al, mo, hi, hn, hP => by
    refine ⟨al, mo, ?_, by rw [show 9 * (a + 1) = 9 * a + i by omega]; exact hP⟩
    show jX8_part_34b k15 k24 (jX8_part_34 k15 k24 N n) N 50 s al mo a i μ = _
    unfold jX8_part_34b
    rw [if_pos (by omega), bnd_e, i_add_e (by omega) (by omega)]
    rfl
  | k + 1, n + 1, i, al, mo, hi, hn, hP => by
    have hj := hJ a i (by omega) (by omega) (by omega) (by omega)
    have stp : ∀ al' mo', Pas G s a0 al' mo' (9 * a + (i + 1)) → ∃ al'' mo'', jX8_part_100 k15 k24 (jX8_part_34 k15 k24 N n) N 50 s al' mo' a i μ = k24 50 s al'' mo'' (a + 1 : Nat) μ ∧ Pas G s a0 al'' mo'' (9 * (a + 1)) := by
      intro al' mo' h
      unfold jX8_part_100
      rw [bnd_e, i_add_e (by omega) (by omega), show (i : Int) + 1 = ((i + 1 : Nat) : Int) by omega]
      exact part_34 hs hK hJ ha k n (i + 1) al' mo' (by omega) (by omega) h
    obtain ⟨hG, hS, hC⟩ := hP
    have same : (tb al a = true → tb s i = true → gJ G a i = true → tb al i = true) → Pas G s a0 al mo (9 * a + (i + 1)) := by
      intro q
      refine ⟨hG, hS, ?_⟩
      rcases hC with ⟨c1, c2, c3⟩ | c
      · left
        refine ⟨c1, c2, fun x y hx hy hp q1 q2 q3 => ?_⟩
        by_cases c : 9 * x + y < 9 * a + i
        · exact c3 x y hx hy c q1 q2 q3
        · have : x = a := by omega
          have : y = i := by omega
          subst x y
          rw [← c2] at q1 ⊢
          exact q q1 q2 q3
      · right; exact c
    show ∃ al'' mo'', jX8_part_34b k15 k24 (jX8_part_34 k15 k24 N n) N 50 s al mo a i μ = _ ∧ _
    unfold jX8_part_34b
    rw [if_neg (by omega), tb_bit hG.1 ha, tb_bit hs (show i < 9 by omega), tb_bit hG.1 (show i < 9 by omega)]
    cases h1 : tb al a with
    | false =>
      rw [if_pos (by decide)]
      exact stp al mo (same (fun q => by rw [h1] at q; cases q))
    | true =>
      rw [if_neg (by decide)]
      cases h2 : tb s i with
      | false =>
        rw [if_pos (by decide)]
        exact stp al mo (same (fun _ q => by rw [h2] at q; cases q))
      | true =>
        rw [if_neg (by decide)]
        cases h3 : tb al i with
        | true =>
          rw [if_pos (by decide)]
          exact stp al mo (same (fun _ _ _ => h3))
        | false =>
          rw [if_neg (by decide), r_50_42 hK, i_mul_e (by omega) (by omega), i_add_e (x := 81) (by omega) (by omega), i_add_e (by omega) (by omega), ald_e (k_85 hK) (by omega) (by omega), ob_e, hj]
          cases h4 : gJ G a i with
          | false =>
            rw [if_neg (by decide)]
            exact stp al mo (same (fun _ _ q => by rw [h4] at q; cases q))
          | true =>
            rw [if_pos (by decide), bnd_e]
            have hO1 := tb_one (k := i) (by omega)
            have hO := tb_or hG.1 hO1.1
            have inc : ∀ j, j < 9 → tb al j = true → tb (i_or al (i_shl 1 i)) j = true := fun j _ q => by rw [hO.2, q]; rfl
            have gd : Goo G s (i_or al (i_shl 1 i)) := by
              refine ⟨hO.1, fun k hk => by rw [hO.2, hG.2.1 k hk]; rfl, fun y y1 y2 k hk q => ?_⟩
              rw [hO.2, hO1.2] at q
              rcases (Bool.or_eq_true_iff.mp q) with q | q
              · exact hG.2.2 y y1 y2 k hk q
              · have : k = i := of_decide_eq_true q
                subst this
                exact y2 a k ha hk (hG.2.2 y y1 y2 a ha h1) h2 h4
            refine stp _ 1 ⟨gd, fun j hj q => inc j hj (hS j hj q), Or.inr ⟨rfl, ?_⟩⟩
            have l1 := cd_lt (f := tb al) (g := tb (i_or al (i_shl 1 i))) 9 inc ⟨i, by omega, by rw [hO.2, hO1.2]; simp, h3⟩
            have l2 := cd_le (f := tb a0) (g := tb al) 9 hS
            omega
theorem part_24 {N : Nat} (hN : 1000000 ≤ N) {G : Gm} {s a0 : Int} (hs : ps s) {μ : Mm} (hK : KR μ) (hJ : JM G μ) {k15 : Int → Int → Int → Int → Mm → Option (Int × Mm)} : ∀ (k n a : Nat) (al mo : Int), a + k = 9 → k < n → Pas G s a0 al mo (9 * a) → ∃ al' mo', jX8_part_24 k15 N n 50 s al mo a μ = k15 50 s al' mo' μ ∧ Pas G s a0 al' mo' 81
  | k, 0, i, al, mo, hi, hn, _ => absurd hn (by omega)
  | 0, n + 1, a, al, mo, hi, hn, hP => by
    refine ⟨al, mo, ?_, by rw [show 81 = 9 * a by omega]; exact hP⟩
    show jX8_part_24b k15 (jX8_part_24 k15 N n) N 50 s al mo a μ = _
    unfold jX8_part_24b
    rw [if_pos (by omega)]
  | k + 1, n + 1, a, al, mo, hi, hn, hP => by
    obtain ⟨al1, mo1, e1, p1⟩ := part_34 (N := N) hs hK hJ (k15 := k15) (k24 := jX8_part_24 k15 N n) (a := a) (by omega) 9 N 0 al mo (by omega) (by omega) hP
    obtain ⟨al2, mo2, e2, p2⟩ := part_24 hN hs hK hJ k n (a + 1) al1 mo1 (by omega) (by omega) p1
    refine ⟨al2, mo2, ?_, p2⟩
    show jX8_part_24b k15 (jX8_part_24 k15 N n) N 50 s al mo a μ = _
    unfold jX8_part_24b
    rw [show ((0 : Nat) : Int) = 0 from rfl] at e1
    rw [if_neg (by omega), e1, e2]
theorem part_15 {N : Nat} (hN : 1000000 ≤ N) {G : Gm} {s : Int} (hs : ps s) {μ : Mm} (hK : KR μ) (hJ : JM G μ) : ∀ (k n : Nat) (al mo : Int), 9 ≤ cd (tb al) 9 + k → k + 1 < n → Goo G s al → (mo = 0 → Clo G s al) → jX8_part_15 N n 50 s al mo μ = some (clf G s, μ)
  | k, 0, al, mo, hi, hn, _, _ => absurd hn (by omega)
  | k, n + 1, al, mo, hi, hn, hg, hc => by
    show jX8_part_15b (jX8_part_15 N n) N 50 s al mo μ = _
    unfold jX8_part_15b
    by_cases c : mo = 0
    · rw [if_pos c, ← clf_e (x := al) ⟨hg, hc c⟩]
    · obtain ⟨al', mo', e1, p1, p2, p3⟩ := part_24 (N := N) hN hs hK hJ (k15 := jX8_part_15 N n) (a0 := al) 9 N 0 al 0 (by omega) (by omega) ⟨hg, fun _ _ h => h, Or.inl ⟨rfl, rfl, fun a b _ _ h => absurd h (by omega)⟩⟩
      rw [show ((0 : Nat) : Int) = 0 from rfl] at e1
      rw [if_neg c, e1]
      rcases p3 with ⟨c1, c2, c3⟩ | ⟨c1, c2⟩
      · obtain ⟨m, rfl⟩ : ∃ m, n = m + 1 := ⟨n - 1, by omega⟩
        show jX8_part_15b (jX8_part_15 N m) N 50 s al' mo' μ = _
        unfold jX8_part_15b
        rw [if_pos c1, ← clf_e (x := al') ⟨p1, ?_⟩]
        rw [c2]
        exact fun a b ha hb q1 q2 q3 => c3 a b ha hb (by omega) q1 q2 q3
      · cases k with
        | zero =>
          have := cd_n (tb al') 9
          omega
        | succ k => exact part_15 hN hs hK hJ k n al' mo' (by omega) (by omega) p1 (fun z => by omega)
theorem part_M {N : Nat} (hN : 1000000 ≤ N) {G : Gm} {s : Int} (hs : ps s) {μ : Mm} (hK : KR μ) (hJ : JM G μ) : jX8_part N 50 s μ = some (clf G s, μ) := by
  unfold jX8_part jX8_part_14
  rw [bnd_e]
  show (if low s = 0 then jX8_part_15 N N 50 s (low s) 0 μ else jX8_part_15 N N 50 s (low s) 1 μ) = _
  by_cases c : low s = 0
  · rw [if_pos c]
    refine part_15 hN hs hK hJ 9 N (low s) 0 (by omega) (by omega) (Goo.low hs) (fun _ => ?_)
    rw [c]
    intro a b _ _ q
    rw [tb_zero] at q
    cases q
  · rw [if_neg c]
    exact part_15 hN hs hK hJ 9 N (low s) 1 (by omega) (by omega) (Goo.low hs) (fun z => by omega)
