/-! ===== PURE: the reference's facts ===== -/
def MF (T W : List Int) (d : Nat) (b : Int) (μ : Mm) (res : Option Mm) (x : PR) : Prop := match x with
  | Sum.inl e => ∃ μ', res = some μ' ∧ FM e μ' ∧ RF μ μ'
  | Sum.inr (q', C') => ∃ μ', res = some μ' ∧ MS T q' C' W d b μ' ∧ RF μ μ'
theorem MF.fr {T W : List Int} {d : Nat} {b : Int} {μ μ0 : Mm} {res : Option Mm} {x : PR} (h : MF T W d b μ res x) (f : RF μ0 μ) : MF T W d b μ0 res x := by
  match x, h with
  | Sum.inl e, ⟨μ', a, b, g⟩ => exact ⟨μ', a, b, f.trI g⟩
  | Sum.inr (q, C), ⟨μ', a, b, g⟩ => exact ⟨μ', a, b, f.trI g⟩
theorem fact63_M {N : Nat} (hN : 1000000 ≤ N) {T : List Int} (hT : TB T) {c t : Int} (hc : (c = 60 ∧ t = -17) ∨ (c = 62 ∧ t = -18) ∨ (c = 61 ∧ t = -19)) {q q1 : Nat} (hs : sg T c q = some q1) {C W : List Int} {d : Nat} {b : Int} (hd : d ≤ 6) (hW : noT [1, 2, 3, 4] W) (hC : C.length + W.length + 5 ≤ q) {μ : Mm} (hQ : PQ T q μ) (h : MS T q C W d b μ) : MF T W d b μ (jX8_fact_63 N 50 c μ) (bR (sumS T (7 - d) d q1 C) (fun q2 C2 => Sum.inr (q2, C2 ++ [t]))) := by
  have hl := hT.1
  have hcs : sgc c := by rcases hc with z | z | z <;> rw [z.1] <;> exact ⟨by decide, by decide, by decide⟩
  have i1 := sg_IN hcs.2 hs
  have i2 := i1.2.2.1
  have f2 : Fr [] [(50, 2)] μ (m_st μ 50 2 (q + 1 : Nat)) := Fr.stI (Fr.rf0 _ _ _) (by simp)
  have h2 := h.l2 (hQ.step hcs hs h.1 hT) f2
  have o := sums_M (N := N) hN hT hd hW i1.1 (by omega) h2
  have g := sumS_GR (T := T) (7 - d) d q1 C
  have e0 : ∀ μ2, jX8_sums N 50 (m_st μ 50 2 (q + 1 : Nat)) = some μ2 → jX8_fact_63 N 50 c μ = jX8_fact_102 N 50 (tM t) 50 μ2 := by
    intro μ2 e
    unfold jX8_fact_63
    rw [bnd_e, hQ.at, i_add_e (by omega) (by omega), show (q : Int) + 1 = ((q + 1 : Nat) : Int) by omega, e, ob_e]
    rcases hc with ⟨rfl, rfl⟩ | ⟨rfl, rfl⟩ | ⟨rfl, rfl⟩
    · rw [if_neg (by decide)]; rfl
    · rw [if_pos (by decide), if_neg (by decide)]; rfl
    · rw [if_pos (by decide), if_pos (by decide)]; rfl
  match hxx : sumS T (7 - d) d q1 C, o with
  | Sum.inl e, o =>
    obtain ⟨μ2, a, b', f⟩ := o
    obtain ⟨k, hk, h44⟩ := b'.2.1.2
    have K2 : KR μ2 := mp_KR f h2.1
    refine ⟨m_st (m_st μ2 86 k (tM t)) 50 44 (k + 1), ?_, ⟨?_, ?_, b'.2.2⟩, (lx2 f2).trI (f.trI (RF_code (by omega) _ _ _))⟩
    · rw [e0 μ2 a]
      unfold jX8_fact_102
      rw [chk_e (k_50 K2), code_raw (by omega) K2 h44, ob_e]
    · rw [gt_i _ _ _ (by decide), gt_r _ _ _ _ (by decide)]; exact b'.1
    · rw [gt_i _ _ _ (by decide), gt_r _ _ _ _ (by decide)]; exact b'.2.1.1
  | Sum.inr (q2, C2), o =>
    have g2 := g.inr hxx
    have g3 := g2.1.2.1
    have g4 := g2.2.2.1
    obtain ⟨μ2, a, ms, f⟩ := o
    obtain ⟨μ3, r1, r2, r3, r4⟩ := code_M (N := N) (by omega) (t := t) rfl ms
    refine ⟨μ3, ?_, r2, (lx2 f2).trI (f.trI r4)⟩
    rw [e0 μ2 a]
    unfold jX8_fact_102
    rw [chk_e (k_50 ms.1), r1, ob_e]
def fctS (T : List Int) (d q : Nat) (C : List Int) : PR := match wrd T wAll q with
  | some q1 => Sum.inr (q1, C ++ [-7])
  | none => bR (sumS T (7 - d) d q C) (cmpS T d)
theorem fct_M {N : Nat} (hN : 1000000 ≤ N) {T : List Int} (hT : TB T) {q : Nat} (hI : IN T q) {C W : List Int} {d : Nat} {b : Int} (hd : d ≤ 6) (hW : noT [1, 2, 3, 4] W) (hC : C.length + W.length + 5 ≤ q) {μ : Mm} (h : MS T q C W d b μ) : MF T W d b μ (jX8_fact N 50 μ) (fctS T d q C) := by
  have hl := hT.1
  have hq := hI.2.1
  have ww := wm h.1 h.2.2.2 (r := 65) (w := wAll) (by decide)
  unfold fctS
  cases h1 : wrd T wAll q with
  | some q1 =>
    obtain ⟨μ1, a1, a2, a3, a4⟩ := takesM_1 (N := N) hN hT hI (by decide) h.1 ww h1 h.2.1
    have m1 := h.l4 a2 a4
    obtain ⟨μ2, b1, b2', _, b4⟩ := code_M (N := N) (by omega) (t := -7) (v := 17) (by decide) m1
    refine ⟨μ2, ?_, b2', (lx4 a4).trI b4⟩
    unfold jX8_fact
    rw [r_50_22 h.1, a1, b2_e, if_neg (by decide), b1, ob_e]
  | none =>
    obtain ⟨μ1, a1, a2, a3, a4⟩ := takesM_0 (N := N) hN hT hI (by decide) h.1 ww h1 h.2.1
    have m1 := h.pq hI a2 a4
    refine MF.fr ?_ (lx2 a4)
    have o := sums_M (N := N) hN hT hd hW hI hC m1
    have g := sumS_GR (T := T) (7 - d) d q C
    unfold jX8_fact
    rw [r_50_22 h.1, a1, b2_e, if_pos rfl]
    dsimp only
    match hxx : sumS T (7 - d) d q C, o with
    | Sum.inl e, o =>
      obtain ⟨μ2, a, b', f⟩ := o
      refine ⟨μ2, ?_, b'.fm, f⟩
      rw [a, ob_e, if_neg b'.bad]
    | Sum.inr (q2, C2), o =>
      have g2 := g.inr hxx
      have g3 := g2.1.2.1
      have g4 := g2.2.2.1
      obtain ⟨μ2, a, ms, f⟩ := o
      obtain ⟨μ3, c1, c2, c3, c4⟩ := look_M (N := N) hN hT ms.1 ms.2.1
      have m3 := ms.pq g2.1 c2 c4
      rw [a, ob_e, if_pos ms.2.1.b0, c1, b2_e]
      show MF T W d b μ1 _ (cmpS T d q2 C2)
      refine MF.fr ?_ (f.trI (lx2 c4))
      have lks : ∀ {c : Int} {q1 : Nat}, 0 ≤ c → sg T c q2 = some q1 → lk T q2 = c := fun hc hs => by
        unfold sg at hs
        split at hs
        · rename_i z; exact (lk_sg hc).mpr z
        · cases hs
      have lkn : ∀ {c : Int}, 0 ≤ c → sg T c q2 = none → ¬ lk T q2 = c := fun hc hs z => by
        unfold sg at hs
        rw [if_pos ((lk_sg hc).mp z)] at hs
        cases hs
      have go : ∀ {c t : Int} {q1 : Nat}, ((c = 60 ∧ t = -17) ∨ (c = 62 ∧ t = -18) ∨ (c = 61 ∧ t = -19)) → sg T c q2 = some q1 → MF T W d b μ3 (jX8_fact_63 N 50 (lk T q2) μ3) (bR (sumS T (7 - d) d q1 C2) (fun q2 C2 => Sum.inr (q2, C2 ++ [t]))) := by
        intro c t q1 hc hs
        rw [lks (by omega) hs]
        exact fact63_M (N := N) hN hT hc hs hd hW (by omega) c2 m3
      unfold cmpS
      cases s1 : sg T 60 q2 with
      | some q1 =>
        rw [if_pos (lks (by decide) s1)]
        exact go (Or.inl ⟨rfl, rfl⟩) s1
      | none =>
        rw [if_neg (lkn (by decide) s1)]
        dsimp only
        cases s2 : sg T 62 q2 with
        | some q1 =>
          rw [if_pos (lks (by decide) s2)]
          exact go (Or.inr (Or.inl ⟨rfl, rfl⟩)) s2
        | none =>
          rw [if_neg (lkn (by decide) s2)]
          dsimp only
          cases s3 : sg T 61 q2 with
          | some q1 =>
            rw [if_pos (lks (by decide) s3)]
            exact go (Or.inr (Or.inr ⟨rfl, rfl⟩)) s3
          | none =>
            rw [if_neg (lkn (by decide) s3), c2.at, failM m3.2.1.b0, ob_e]
            exact ⟨_, rfl, FM_of (by decide) μ3, lx56 (FM_fr 1 q2 μ3)⟩
