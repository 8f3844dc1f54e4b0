/-! ===== PURE: the reference reads products and sums, whole ===== -/
def okP (T : List Int) (q : Nat) (pd : List Int) : Prop := (sg T 42 q = none ∧ sg T 47 q = none) ∧ ∀ x ∈ pd, -14 ≤ x ∧ x ≤ -13
theorem sg_end {T : List Int} {c : Int} {q : Nat} (h : T.length ≤ q) : sg T c q = none := by
  unfold sg
  rw [if_neg (fun z => by have := z.1; omega)]
theorem pL_M {N : Nat} (hN : 1000000 ≤ N) {T : List Int} (hT : TB T) {was : Int} {b : Int} {d : Nat} (hd6 : d ≤ 6) {S : SF} (hS : SOKs T S) (hM : SumM N was T b d S) {W : List Int} (hW : noT [3, 4] W) (hb : b ≤ W.length) : ∀ (k m n q : Nat) (C pd : List Int) {μ : Mm}, T.length ≤ q + k → IN T q → (∀ x ∈ pd, -14 ≤ x ∧ x ≤ -13) → C.length + (W.length + pd.length) + 5 ≤ q → T.length + 9 < q + m → T.length + 9 < q + n → MS T q C (W ++ pd.map tM) d b μ → MO N was T W d b (okP T) μ (GH N was m n μ) (prodL T S d k q (C ++ pd.reverse))
  | 0, m, n, q, C, pd, μ, hk, hI, hx, hC, hm, hn, h => ⟨m, n, μ, C, pd, ⟨⟨sg_end (by omega), sg_end (by omega)⟩, hx⟩, rfl, rfl, ⟨hm, hn⟩, h, hC, RF.rf _⟩
  | k + 1, m, n, q, C, pd, μ, hk, hI, hx, hC, hm, hn, h => by
    have hl := hT.1
    have hq := hI.2.1
    unfold prodL
    have go : ∀ {c t : Int} {q1 : Nat}, ((c = 42 ∧ t = -13) ∨ (c = 47 ∧ t = -14)) → sg T c q = some q1 → MO N was T W d b (okP T) μ (GH N was m n μ) (bR (partS T S d q1 (C ++ pd.reverse)) (fun q2 C2 => prodL T S d k q2 (C2 ++ [t]))) := by
      intro c t q1 hc hs
      have hcs : sgc c := by rcases hc with z | z <;> rw [z.1] <;> exact ⟨by decide, by decide, by decide⟩
      have i1 := sg_IN hcs.2 hs
      have ht : -14 ≤ t ∧ t ≤ -13 := by rcases hc with z | z <;> omega
      obtain ⟨μ1, a1, a2, a3⟩ := GH_op (N := N) hN hT (was := was) hI (c := c) (t := t) (by rcases hc with z | z; exact Or.inl z; exact Or.inr (Or.inl z)) hs (m := m) (n := n) (by omega) (by omega) (by rw [if_pos (by rcases hc with z | z; exact Or.inl z.1; exact Or.inr z.1)]; exact ⟨hW, hx⟩) (by omega) (by omega) h
      have hlen : (C ++ pd.reverse).length = C.length + pd.length := by simp
      rw [a1]
      refine MO.fr ?_ a3
      have o := prt_M (N := N) hN hT (was := was) hd6 hS hM (m := N) (n := n - 1) (W := W ++ [tM t]) (q := q1) (C := C ++ pd.reverse) i1.1 (by simp; omega) (by rw [hlen]; simp; omega) (by omega) (by omega) a2
      have g := partS_GR hS (d := d) (q := q1) (C := C ++ pd.reverse)
      match hxx : partS T S d q1 (C ++ pd.reverse), o with
      | Sum.inl e, o =>
        obtain ⟨μ', a, b', c, f⟩ := o
        exact ⟨μ', a, b', c, f⟩
      | Sum.inr (q2, C2), o =>
        have g2 := g.inr hxx
        obtain ⟨m', n', μ', C2', pd', ok, e, r, ⟨fm, fn⟩, ms, inv, fr⟩ := o
        have ok : pd' = [] := ok
        subst ok
        have e : C2 = C2' := by simpa using e
        subst e
        rw [r]
        show MO N was T W d b (okP T) μ1 (GH N was m' n' μ') (prodL T S d k q2 (C2 ++ [t]))
        refine MO.fr ?_ fr
        have := pL_M (N := N) hN hT (was := was) hd6 hS hM hW hb k m' n' q2 C2 [t] (μ := μ') (by omega) g2.1 (fun x hx => by rw [List.mem_singleton.mp hx]; exact ht) (by simp at inv ⊢; omega) fm fn (by simpa using ms)
        simpa using this
    cases h1 : sg T 42 q with
    | some q1 => exact go (Or.inl ⟨rfl, rfl⟩) h1
    | none =>
      dsimp only
      cases h2 : sg T 47 q with
      | some q1 => exact go (Or.inr ⟨rfl, rfl⟩) h2
      | none => exact ⟨m, n, μ, C, pd, ⟨⟨h1, h2⟩, hx⟩, rfl, rfl, ⟨hm, hn⟩, h, hC, RF.rf _⟩
theorem prd_M {N : Nat} (hN : 1000000 ≤ N) {T : List Int} (hT : TB T) {was : Int} {b : Int} {d : Nat} (hd6 : d ≤ 6) {S : SF} (hS : SOKs T S) (hM : SumM N was T b d S) {m n : Nat} {W : List Int} (hW : noT [3, 4] W) {q : Nat} {C : List Int} (hI : IN T q) (hb : b ≤ W.length) (hC : C.length + W.length + 5 ≤ q) (hm : T.length + 9 < q + m) (hn : T.length + 9 < q + n) {μ : Mm} (h : MS T q C W d b μ) : MO N was T W d b (okP T) μ (PH N was m n 1 μ) (prodS T S d q C) := by
  have hl := hT.1
  have o := prt_M (N := N) hN hT (was := was) hd6 hS hM hI hb hC hm hn h
  have g := partS_GR hS (d := d) (q := q) (C := C)
  unfold prodS
  match hxx : partS T S d q C, o with
  | Sum.inl e, o =>
    obtain ⟨μ', a, b', c, f⟩ := o
    exact ⟨μ', a, b', c, f⟩
  | Sum.inr (q2, C2), o =>
    have g2 := g.inr hxx
    obtain ⟨m', n', μ', C2', pd', ok, e, r, ⟨fm, fn⟩, ms, inv, fr⟩ := o
    have ok : pd' = [] := ok
    subst ok
    have e : C2 = C2' := by simpa using e
    subst e
    rw [r]
    show MO N was T W d b (okP T) μ (GH N was m' n' μ') (prodL T S d T.length q2 C2)
    refine MO.fr ?_ fr
    have := pL_M (N := N) hN hT (was := was) hd6 hS hM hW hb T.length m' n' q2 C2 [] (μ := μ') (by omega) g2.1 (fun x hx => absurd hx (by simp)) (by simp at inv ⊢; omega) fm fn (by simpa using ms)
    simpa using this
theorem sL_M {N : Nat} (hN : 1000000 ≤ N) {T : List Int} (hT : TB T) {was : Int} {b : Int} {d : Nat} (hd6 : d ≤ 6) {S : SF} (hS : SOKs T S) (hM : SumM N was T b d S) {W : List Int} (hW : noT [1, 2, 3, 4] W) (hb : b ≤ W.length) : ∀ (k m n q : Nat) (C pd : List Int) {μ : Mm}, T.length ≤ q + k → IN T q → (sg T 42 q = none ∧ sg T 47 q = none) → (∀ x ∈ pd, -14 ≤ x ∧ x ≤ -11) → C.length + (W.length + pd.length) + 5 ≤ q → T.length + 9 < q + m → T.length + 9 < q + n → MS T q C (W ++ pd.map tM) d b μ → MO N was T W d b (okS T) μ (GH N was m n μ) (sumL T S d k q (C ++ pd.reverse))
  | 0, m, n, q, C, pd, μ, hk, hI, hp, hx, hC, hm, hn, h => ⟨m, n, μ, C, pd, ⟨⟨hp, sg_end (by omega), sg_end (by omega)⟩, hx⟩, rfl, rfl, ⟨hm, hn⟩, h, hC, RF.rf _⟩
  | k + 1, m, n, q, C, pd, μ, hk, hI, hp, hx, hC, hm, hn, h => by
    have hl := hT.1
    have hq := hI.2.1
    unfold sumL
    have go : ∀ {c t : Int} {q1 : Nat}, ((c = 43 ∧ t = -11) ∨ (c = 45 ∧ t = -12)) → sg T c q = some q1 → MO N was T W d b (okS T) μ (GH N was m n μ) (bR (prodS T S d q1 (C ++ pd.reverse)) (fun q2 C2 => sumL T S d k q2 (C2 ++ [t]))) := by
      intro c t q1 hc hs
      have hcs : sgc c := by rcases hc with z | z <;> rw [z.1] <;> exact ⟨by decide, by decide, by decide⟩
      have i1 := sg_IN hcs.2 hs
      have ht : -12 ≤ t ∧ t ≤ -11 := by rcases hc with z | z <;> omega
      obtain ⟨μ1, a1, a2, a3⟩ := GH_op (N := N) hN hT (was := was) hI (c := c) (t := t) (by rcases hc with z | z; exact Or.inr (Or.inr (Or.inl z)); exact Or.inr (Or.inr (Or.inr z))) hs (m := m) (n := n) (by omega) (by omega) (by rw [if_neg (by omega)]; exact ⟨hW, hx⟩) (by omega) (by omega) h
      have hlen : (C ++ pd.reverse).length = C.length + pd.length := by simp
      rw [a1]
      refine MO.fr ?_ a3
      have o := prd_M (N := N) hN hT (was := was) hd6 hS hM (m := N) (n := n - 1) (W := W ++ [tM t]) (noT_mk W (by rw [tM_op (by omega)]; simp; omega)) (q := q1) (C := C ++ pd.reverse) i1.1 (by simp; omega) (by rw [hlen]; simp; omega) (by omega) (by omega) a2
      have g := prodS_GR hS (d := d) (q := q1) (C := C ++ pd.reverse)
      match hxx : prodS T S d q1 (C ++ pd.reverse), o with
      | Sum.inl e, o =>
        obtain ⟨μ', a, b', c, f⟩ := o
        exact ⟨μ', a, b', c, f⟩
      | Sum.inr (q2, C2), o =>
        have g2 := g.inr hxx
        obtain ⟨m', n', μ', C2', pd', ok, e, r, ⟨fm, fn⟩, ms, inv, fr⟩ := o
        rw [r]
        show MO N was T W d b (okS T) μ1 (GH N was m' n' μ') (sumL T S d k q2 (C2 ++ [t]))
        refine MO.fr ?_ fr
        have := sL_M (N := N) hN hT (was := was) hd6 hS hM hW hb k m' n' q2 C2' (t :: pd') (μ := μ') (by omega) g2.1 ok.1 (fun x hx => by
          rcases List.mem_cons.mp hx with z | z
          · rw [z]; omega
          · have := ok.2 x z; omega) (by simp at inv ⊢; omega) fm fn (by simpa using ms)
        rw [e]
        simpa using this
    cases h1 : sg T 43 q with
    | some q1 => exact go (Or.inl ⟨rfl, rfl⟩) h1
    | none =>
      dsimp only
      cases h2 : sg T 45 q with
      | some q1 => exact go (Or.inr ⟨rfl, rfl⟩) h2
      | none => exact ⟨m, n, μ, C, pd, ⟨⟨hp, h1, h2⟩, hx⟩, rfl, rfl, ⟨hm, hn⟩, h, hC, RF.rf _⟩
theorem noT.sub {vs ws W : List Int} (h : noT vs W) (hs : ∀ x ∈ ws, x ∈ vs) : noT ws W := fun x hx z => h x hx (hs x z)
theorem sumB_M {N : Nat} (hN : 1000000 ≤ N) {T : List Int} (hT : TB T) {was : Int} {b : Int} {d : Nat} (hd6 : d ≤ 6) {S : SF} (hS : SOKs T S) (hM : SumM N was T b d S) {m n : Nat} {W : List Int} (hW : noT [1, 2, 3, 4] W) {q : Nat} {C : List Int} (hI : IN T q) (hb : b ≤ W.length) (hC : C.length + W.length + 5 ≤ q) (hm : T.length + 9 < q + m) (hn : T.length + 9 < q + n) {μ : Mm} (h : MS T q C W d b μ) : MO N was T W d b (okS T) μ (PH N was m n 1 μ) (sumB T S d q C) := by
  have hl := hT.1
  have o := prd_M (N := N) hN hT (was := was) hd6 hS hM (hW.sub (by simp)) hI hb hC hm hn h
  have g := prodS_GR hS (d := d) (q := q) (C := C)
  unfold sumB
  match hxx : prodS T S d q C, o with
  | Sum.inl e, o =>
    obtain ⟨μ', a, b', c, f⟩ := o
    exact ⟨μ', a, b', c, f⟩
  | Sum.inr (q2, C2), o =>
    have g2 := g.inr hxx
    obtain ⟨m', n', μ', C2', pd', ok, e, r, ⟨fm, fn⟩, ms, inv, fr⟩ := o
    rw [r]
    show MO N was T W d b (okS T) μ (GH N was m' n' μ') (sumL T S d T.length q2 C2)
    refine MO.fr ?_ fr
    rw [e]
    exact sL_M (N := N) hN hT (was := was) hd6 hS hM hW hb T.length m' n' q2 C2' pd' (μ := μ') (by omega) g2.1 ok.1 (fun x hx => by have := ok.2 x hx; omega) inv fm fn ms
theorem sum_MO {N : Nat} (hN : 1000000 ≤ N) {T : List Int} (hT : TB T) {was : Int} {b : Int} : ∀ (k d : Nat), d + k = 7 → 1 ≤ k → ∀ (m n : Nat) (W : List Int) (q : Nat) (C : List Int) (μ : Mm), IN T q → noT [1, 2, 3, 4] W → b ≤ W.length → C.length + W.length + 5 ≤ q → T.length + 9 < q + m → T.length + 9 < q + n → MS T q C W d b μ → MO N was T W d b (okS T) μ (PH N was m n 1 μ) (sumS T k d q C)
  | 0, d, hd, h1 => absurd h1 (by omega)
  | k + 1, d, hd, _ => fun m n W q C μ hI hW hb hC hm hn h => by
    have hM : SumM N was T b d (sumS T k) := fun hd5 m n W q C μ hI hW hb hC hm hn h => sum_MO (N := N) hN hT (was := was) k (d + 1) (by omega) (by omega) m n W q C μ hI hW hb hC hm hn h
    exact sumB_M (N := N) hN hT (was := was) (by omega) (sumS_GR k) hM hW hI hb hC hm hn h
