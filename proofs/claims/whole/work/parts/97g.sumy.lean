/-! ===== PURE: the class reads products and sums ===== -/
theorem prodx_49 {N : Nat} (hN : 1000000 ≤ N) {l : Int} (hl : lok l) {T : List Int} (hT : TB T) {d : Nat} {R : Int → Int → Mm → Option (Int × Mm)} {S : SF} (hS : SOKs T S) (hR : SumX N l T d R S) (hd6 : d ≤ 6) {q q1 : Nat} {C : List Int} (hI : IN T q1) (hq : q + 1 ≤ q1) (hC : C.length ≤ q) {op : Int} (hop : op = tX op) (h0 : ¬ op = 0) {i : Nat} (hi : i ≤ 1000) {k12 : Int → Int → Int → Mm → Option (Int × Mm)} {g : Nat → List Int → PR} {μ : Mm} (h : XS l T q1 C μ) (hk : ∀ q2 C2 μ2, IN T q2 → C2.length ≤ q2 → XS l T q2 C2 μ2 → XR l T μ2 (k12 24 d (i + 1 : Nat) μ2) (g q2 C2)) : XR l T μ (jX3_product_49 R k12 N 24 d i op μ) (bR (partS T S d q1 C) (fun q2 C2 => g q2 (C2 ++ [op]))) := by
  have hl7 := hT.1
  unfold jX3_product_49 jX3_product_78
  rw [if_pos h0]
  refine XR.bd (part_X (N := N) hN hl hT hS hR hd6 hI (by omega) h) (fun q2 C2 μ2 e2 s2 => ?_) (fun μ' z => by rw [if_pos rfl])
  have g2 := partS_GR hS (d := d) (q := q1) (C := C)
  rw [e2] at g2
  have g21 := g2.1.2.1
  have g23 := g2.2.2.1
  rw [if_neg (by decide)]
  refine XR.put hl (by omega) hop s2 (fun μ3 s3 => ?_)
  rw [if_pos (by decide), bnd_e, i_add_e (by omega) (by omega)]
  exact hk q2 (C2 ++ [op]) μ3 g2.1 (by simp; omega) s3
theorem prodx_loop {N : Nat} (hN : 1000000 ≤ N) {l : Int} (hl : lok l) {T : List Int} (hT : TB T) {d : Nat} {R : Int → Int → Mm → Option (Int × Mm)} {S : SF} (hS : SOKs T S) (hR : SumX N l T d R S) (hd6 : d ≤ 6) : ∀ (k n i q : Nat) (C : List Int) {μ : Mm}, i + k = T.length → k < n → IN T q → C.length ≤ q → XS l T q C μ → XR l T μ (jX3_product_12 R N n 24 d i μ) (prodL T S d k q C)
  | k, 0, i, q, C, μ, hi, hn, _, _, _ => absurd hn (by omega)
  | 0, n + 1, i, q, C, μ, hi, hn, hI, hC, h => by
    show XR l T μ (jX3_product_12b R (jX3_product_12 R N n) N 24 d i μ) _
    unfold jX3_product_12b prodL
    rw [h.2.1.1.2, if_pos (by omega)]
    exact XR.ok h
  | k + 1, n + 1, i, q, C, μ, hi, hn, hI, hC, h => by
    have hl7 := hT.1
    have go : ∀ q2 C2 μ2, IN T q2 → C2.length ≤ q2 → XS l T q2 C2 μ2 → XR l T μ2 (jX3_product_12 R N n 24 d (i + 1 : Nat) μ2) (prodL T S d k q2 C2) := fun q2 C2 μ2 a b c => prodx_loop (N := N) hN hl hT hS hR hd6 k n (i + 1) q2 C2 (by omega) (by omega) a b c
    show XR l T μ (jX3_product_12b R (jX3_product_12 R N n) N 24 d i μ) _
    unfold jX3_product_12b prodL
    rw [h.2.1.1.2, if_neg (by omega)]
    cases h1 : sg T 42 q with
    | some q1 =>
      have i1 := sg_IN c42.2 h1
      obtain ⟨μ1, r1, r2, r3, r4⟩ := sign_1 (N := N) hN hT h1 h.1 h.2.1
      obtain ⟨s1, s2⟩ := h.lex hl r2 r3 r4
      rw [r1, b2_e, if_neg (by decide)]
      exact (prodx_49 hN hl hT hS hR hd6 i1.1 i1.2.1 hC (op := -13) (by decide) (by decide) (i := i) (by omega) s1 go).fr s2
    | none =>
      rw [sign_0 hT h1 h.1 h.2.1, b2_e, if_pos rfl]
      dsimp only
      cases h2 : sg T 47 q with
      | some q1 =>
        have i1 := sg_IN c47.2 h2
        obtain ⟨μ1, r1, r2, r3, r4⟩ := sign_1 (N := N) hN hT h2 h.1 h.2.1
        obtain ⟨s1, s2⟩ := h.lex hl r2 r3 r4
        rw [r1, b2_e, if_neg (by decide)]
        exact (prodx_49 hN hl hT hS hR hd6 i1.1 i1.2.1 hC (op := -14) (by decide) (by decide) (i := i) (by omega) s1 go).fr s2
      | none =>
        rw [sign_0 hT h2 h.1 h.2.1, b2_e, if_pos rfl]
        unfold jX3_product_49
        rw [if_neg (by decide)]
        exact XR.ok h
theorem prod_X {N : Nat} (hN : 1000000 ≤ N) {l : Int} (hl : lok l) {T : List Int} (hT : TB T) {d : Nat} {R : Int → Int → Mm → Option (Int × Mm)} {S : SF} (hS : SOKs T S) (hR : SumX N l T d R S) (hd6 : d ≤ 6) {q : Nat} {C : List Int} (hI : IN T q) (hC : C.length ≤ q) {μ : Mm} (h : XS l T q C μ) : XR l T μ (jX3_product R N 24 d μ) (prodS T S d q C) := by
  have hl7 := hT.1
  unfold jX3_product prodS
  refine XR.bd (part_X (N := N) hN hl hT hS hR hd6 hI hC h) (fun q2 C2 μ2 e2 s2 => ?_) (fun μ' z => by rw [if_neg (by decide)])
  have g2 := partS_GR hS (d := d) (q := q) (C := C)
  rw [e2] at g2
  have g23 := g2.2.2.1
  rw [if_pos (by decide)]
  exact prodx_loop (N := N) hN hl hT hS hR hd6 T.length N 0 q2 C2 (by omega) (by omega) g2.1 (by omega) s2
theorem sumx_49 {N : Nat} (hN : 1000000 ≤ N) {l : Int} (hl : lok l) {T : List Int} (hT : TB T) {d : Nat} {R : Int → Int → Mm → Option (Int × Mm)} {S : SF} (hS : SOKs T S) (hR : SumX N l T d R S) (hd6 : d ≤ 6) {q q1 : Nat} {C : List Int} (hI : IN T q1) (hq : q + 1 ≤ q1) (hC : C.length ≤ q) {op : Int} (hop : op = tX op) (h0 : ¬ op = 0) {i : Nat} (hi : i ≤ 1000) {k12 : Int → Int → Int → Mm → Option (Int × Mm)} {g : Nat → List Int → PR} {μ : Mm} (h : XS l T q1 C μ) (hk : ∀ q2 C2 μ2, IN T q2 → C2.length ≤ q2 → XS l T q2 C2 μ2 → XR l T μ2 (k12 24 d (i + 1 : Nat) μ2) (g q2 C2)) : XR l T μ (jX3_sum_49 R k12 N 24 d i op μ) (bR (prodS T S d q1 C) (fun q2 C2 => g q2 (C2 ++ [op]))) := by
  have hl7 := hT.1
  unfold jX3_sum_49 jX3_sum_78
  rw [if_pos h0]
  refine XR.bd (prod_X (N := N) hN hl hT hS hR hd6 hI (by omega) h) (fun q2 C2 μ2 e2 s2 => ?_) (fun μ' z => by rw [if_pos rfl])
  have g2 := prodS_GR hS (d := d) (q := q1) (C := C)
  rw [e2] at g2
  have g21 := g2.1.2.1
  have g23 := g2.2.2.1
  rw [if_neg (by decide)]
  refine XR.put hl (by omega) hop s2 (fun μ3 s3 => ?_)
  rw [if_pos (by decide), bnd_e, i_add_e (by omega) (by omega)]
  exact hk q2 (C2 ++ [op]) μ3 g2.1 (by simp; omega) s3
theorem sumx_loop {N : Nat} (hN : 1000000 ≤ N) {l : Int} (hl : lok l) {T : List Int} (hT : TB T) {d : Nat} {R : Int → Int → Mm → Option (Int × Mm)} {S : SF} (hS : SOKs T S) (hR : SumX N l T d R S) (hd6 : d ≤ 6) : ∀ (k n i q : Nat) (C : List Int) {μ : Mm}, i + k = T.length → k < n → IN T q → C.length ≤ q → XS l T q C μ → XR l T μ (jX3_sum_12 R N n 24 d i μ) (sumL T S d k q C)
  | k, 0, i, q, C, μ, hi, hn, _, _, _ => absurd hn (by omega)
  | 0, n + 1, i, q, C, μ, hi, hn, hI, hC, h => by
    show XR l T μ (jX3_sum_12b R (jX3_sum_12 R N n) N 24 d i μ) _
    unfold jX3_sum_12b sumL
    rw [h.2.1.1.2, if_pos (by omega)]
    exact XR.ok h
  | k + 1, n + 1, i, q, C, μ, hi, hn, hI, hC, h => by
    have hl7 := hT.1
    have go : ∀ q2 C2 μ2, IN T q2 → C2.length ≤ q2 → XS l T q2 C2 μ2 → XR l T μ2 (jX3_sum_12 R N n 24 d (i + 1 : Nat) μ2) (sumL T S d k q2 C2) := fun q2 C2 μ2 a b c => sumx_loop (N := N) hN hl hT hS hR hd6 k n (i + 1) q2 C2 (by omega) (by omega) a b c
    show XR l T μ (jX3_sum_12b R (jX3_sum_12 R N n) N 24 d i μ) _
    unfold jX3_sum_12b sumL
    rw [h.2.1.1.2, if_neg (by omega)]
    cases h1 : sg T 43 q with
    | some q1 =>
      have i1 := sg_IN c43.2 h1
      obtain ⟨μ1, r1, r2, r3, r4⟩ := sign_1 (N := N) hN hT h1 h.1 h.2.1
      obtain ⟨s1, s2⟩ := h.lex hl r2 r3 r4
      rw [r1, b2_e, if_neg (by decide)]
      exact (sumx_49 hN hl hT hS hR hd6 i1.1 i1.2.1 hC (op := -11) (by decide) (by decide) (i := i) (by omega) s1 go).fr s2
    | none =>
      rw [sign_0 hT h1 h.1 h.2.1, b2_e, if_pos rfl]
      dsimp only
      cases h2 : sg T 45 q with
      | some q1 =>
        have i1 := sg_IN c45.2 h2
        obtain ⟨μ1, r1, r2, r3, r4⟩ := sign_1 (N := N) hN hT h2 h.1 h.2.1
        obtain ⟨s1, s2⟩ := h.lex hl r2 r3 r4
        rw [r1, b2_e, if_neg (by decide)]
        exact (sumx_49 hN hl hT hS hR hd6 i1.1 i1.2.1 hC (op := -12) (by decide) (by decide) (i := i) (by omega) s1 go).fr s2
      | none =>
        rw [sign_0 hT h2 h.1 h.2.1, b2_e, if_pos rfl]
        unfold jX3_sum_49
        rw [if_neg (by decide)]
        exact XR.ok h
theorem sum_X {N : Nat} (hN : 1000000 ≤ N) {l : Int} (hl : lok l) {T : List Int} (hT : TB T) : ∀ (k n d : Nat), d + k = 7 → k ≤ n → ∀ {q : Nat} {C : List Int} {μ : Mm}, 1 ≤ k → IN T q → C.length ≤ q → XS l T q C μ → XR l T μ (jX3_sum N n 24 d μ) (sumS T k d q C)
  | 0, n, d, hd, hn, q, C, μ, h1, _, _, _ => absurd h1 (by omega)
  | k + 1, 0, d, hd, hn, q, C, μ, _, _, _, _ => absurd hn (by omega)
  | k + 1, n + 1, d, hd, hn, q, C, μ, _, hI, hC, h => by
    have hl7 := hT.1
    have hS := sumS_GR (T := T) k
    have hR : SumX N l T d (jX3_sum N n) (sumS T k) := fun hd5 q1 C1 μ1 a b c => sum_X (N := N) hN hl hT k n (d + 1) (by omega) (by omega) (by omega) a b c
    show XR l T μ (jX3_sum_B (jX3_sum N n) N 24 d μ) (sumB T (sumS T k) d q C)
    unfold jX3_sum_B sumB
    refine XR.bd (prod_X (N := N) hN hl hT hS hR (by omega) hI hC h) (fun q2 C2 μ2 e2 s2 => ?_) (fun μ' z => by rw [if_neg (by decide)])
    have g2 := prodS_GR hS (d := d) (q := q) (C := C)
    rw [e2] at g2
    have g23 := g2.2.2.1
    rw [if_pos (by decide)]
    exact sumx_loop (N := N) hN hl hT hS hR (by omega) T.length N 0 q2 C2 (by omega) (by omega) g2.1 (by omega) s2
