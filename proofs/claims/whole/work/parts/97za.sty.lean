/-! ===== PURE: the class reads statements: joins, worth, handicap ===== -/
theorem isPin_X {N : Nat} {a : Int} (h : 0 ≤ a ∧ a ≤ 8) {μ : Mm} : jX1_isPin N a μ = some (1, μ) := by
  unfold jX1_isPin jX1_isPin_15
  rw [if_neg (by omega), if_neg (by omega), z_e (Or.inr rfl)]
theorem LX.join {l : Int} {G : Gm} {a b x y : Int} {μ μ' : Mm} (h : LX l G μ) (ha : 0 ≤ a ∧ a ≤ 8) (hb : 0 ≤ b ∧ b ≤ 8) (hx : x = i_or (m_gt μ (l + 6) a) (i_shl 1 b)) (hy : y = i_or (m_gt μ (l + 6) b) (i_shl 1 a)) (hab : ¬ a = b) (e : μ' = m_st (m_st μ (l + 6) a x) (l + 6) b y) : LX l (gjoin G a b) μ' := by
  obtain ⟨⟨h1, h2, h3, h4, h5, h6, h7, h8⟩, ⟨r1, r2, r3, r4, r5⟩, hj⟩ := h
  have o : ∀ r i : Int, r ≠ l + 6 → m_gt μ' r i = m_gt μ r i := fun r i hn => by rw [e, gt_r _ _ _ _ hn, gt_r _ _ _ _ hn]
  refine ⟨⟨by rw [o _ _ (by omega)]; exact h1, by rw [o _ _ (by omega)]; exact h2, by rw [o _ _ (by omega)]; exact h3, by rw [o _ _ (by omega)]; exact h4, by rw [o _ _ (by omega)]; exact h5, by rw [o _ _ (by omega)]; exact h6, by rw [o _ _ (by omega)]; exact h7, by rw [o _ _ (by omega)]; exact h8⟩, ⟨r1.ext (fun i => o _ _ (by omega)), r2.ext (fun i => o _ _ (by omega)), r3.ext (fun i => o _ _ (by omega)), r4.ext (fun i => o _ _ (by omega)), r5.ext (fun i => o _ _ (by omega))⟩, fun c c0 c1 => ?_⟩
  have ja := hj a ha.1 ha.2
  have jb := hj b hb.1 hb.2
  have jc := hj c c0 c1
  have ob : ∀ {u v w : Int}, 0 ≤ v ∧ v ≤ 8 → (0 ≤ u ∧ u < 512) → w = i_or u (i_shl 1 v) → 0 ≤ w ∧ w < 512 ∧ ∀ k : Nat, w.toNat.testBit k = (u.toNat.testBit k || decide ((k : Int) = v)) := by
    intro u v w hv hu hw
    have t1 := tb_one (k := v.toNat) (by omega)
    rw [show ((v.toNat : Nat) : Int) = v by omega] at t1
    have t2 := tb_or (x := u) hu t1.1
    rw [← hw] at t2
    refine ⟨t2.1.1, t2.1.2, fun k => ?_⟩
    have := t2.2 k
    rw [t1.2 k] at this
    refine this.trans ?_
    show (u.toNat.testBit k || decide (k = v.toNat)) = _
    rw [decide_eq_decide.mpr (show k = v.toNat ↔ (k : Int) = v by omega)]
  have ox := ob hb ⟨ja.1, ja.2.1⟩ hx
  have oy := ob ha ⟨jb.1, jb.2.1⟩ hy
  have g : ∀ k : Int, gJ (gjoin G a b) c k = (gJ G c k || decide (c = a ∧ k = b) || decide (c = b ∧ k = a)) := fun _ => rfl
  by_cases ca : c = a
  · have ec : m_gt μ' (l + 6) c = x := by rw [e, gt_i _ _ _ (by omega), ca, gt_same]
    rw [ec]
    refine ⟨ox.1, ox.2.1, fun k hk => ?_⟩
    rw [ox.2.2 k, ja.2.2 k hk, g, ca, decide_eq_false (show ¬ (a = b ∧ (k : Int) = a) from fun z => hab z.1), Bool.or_false, decide_eq_decide.mpr (show (k : Int) = b ↔ (a = a ∧ (k : Int) = b) from ⟨fun z => ⟨rfl, z⟩, fun z => z.2⟩)]
  · by_cases cb : c = b
    · have ec : m_gt μ' (l + 6) c = y := by rw [e, cb, gt_same]
      rw [ec]
      refine ⟨oy.1, oy.2.1, fun k hk => ?_⟩
      rw [oy.2.2 k, jb.2.2 k hk, g, cb, decide_eq_false (show ¬ (b = a ∧ (k : Int) = b) from fun z => hab z.1.symm), Bool.or_false, decide_eq_decide.mpr (show (k : Int) = a ↔ (b = b ∧ (k : Int) = a) from ⟨fun z => ⟨rfl, z⟩, fun z => z.2⟩)]
    · have ec : m_gt μ' (l + 6) c = m_gt μ (l + 6) c := by rw [e, gt_i _ _ _ cb, gt_i _ _ _ ca]
      rw [ec]
      refine ⟨jc.1, jc.2.1, fun k hk => ?_⟩
      rw [jc.2.2 k hk, g, decide_eq_false (show ¬ (c = a ∧ (k : Int) = b) from fun z => ca z.1), decide_eq_false (show ¬ (c = b ∧ (k : Int) = a) from fun z => cb z.1), Bool.or_false, Bool.or_false]
theorem joi_X {N : Nat} (hN : 1000000 ≤ N) {l : Int} (hl : lok l) {T : List Int} (hT : TB T) {q : Nat} {G : Gm} (hI : IN T q) {μ : Mm} (h : XG l T q G μ) : GX l T μ (jX3_joins N 24 μ) (joiS T G q) := by
  have hl7 := hT.1
  unfold jX3_joins joiS
  cases hn : numb T 0 8 q with
  | inl e =>
    obtain ⟨μ2, r1, r2, r3⟩ := number_0 (N := N) hN hT hI.2.1 hn h.1 h.2.1
    exact ⟨μ2, by rw [r1, b2_e, if_neg (by decide)], r2, gx01 r3⟩
  | inr p =>
    obtain ⟨a, q1⟩ := p
    have i1 := numb_IN hn
    have ia1 := i1.2.2.1
    have ia2 := i1.2.2.2.1
    obtain ⟨μ2, r1, r2, r3, r4⟩ := number_1 (N := N) hN hT hI.2.1 hn h.1 h.2.1
    have s := h.lex hl r2 r3 r4
    rw [r1, b2_e, if_pos (by omega), bnd_e, s.2.1.2.1]
    refine GX.fr ?_ (gx4 r4)
    show GX l T μ2 _ (bN (numb T 0 8 q1) _)
    cases hm : numb T 0 8 q1 with
    | inl e =>
      obtain ⟨μ3, a1, a2, a3⟩ := number_0 (N := N) hN hT i1.1.2.1 hm s.1 s.2.1
      exact ⟨μ3, by rw [a1, b2_e, if_neg (by decide)], a2, gx01 a3⟩
    | inr p =>
      obtain ⟨b, q2⟩ := p
      have i2 := numb_IN hm
      have ib1 := i2.2.2.1
      have ib2 := i2.2.2.2.1
      obtain ⟨μ3, a1, a2, a3, a4⟩ := number_1 (N := N) hN hT i1.1.2.1 hm s.1 s.2.1
      have s3 := s.lex hl a2 a3 a4
      rw [a1, b2_e, if_pos (by omega)]
      refine GX.fr ?_ (gx4 a4)
      show GX l T μ3 _ (if a = b then Sum.inl (2, q1) else Sum.inr (q2, gjoin G a b))
      by_cases c : a = b
      · rw [if_pos c, if_neg (by omega), fail_X s3.2.1.2.2.1, b2_e, z_e (Or.inl rfl)]
        exact ⟨_, rfl, FX_of (by decide) μ3, gx01 (FX_fr 2 q1 μ3)⟩
      · rw [if_neg c, if_pos (by omega), s3.2.2.1, chk_e (LK.of s3.1 hl).1.1]
        have L := LK.of s3.1 hl
        have f1 : ∀ v, Fr (gI l) (gS l) μ3 (m_st μ3 (l + 6) a v) := fun v => Fr.stI (Fr.rf0 _ _ _) (by simp [gI])
        have K1 : ∀ v, KR (m_st μ3 (l + 6) a v) := fun v => gKR hl (f1 v) s3.1
        have f2 : ∀ v w, Fr (gI l) (gS l) μ3 (m_st (m_st μ3 (l + 6) a v) (l + 6) b w) := fun v w => (f1 v).stI (by simp [gI])
        have f2' : ∀ v w, Fr (gI l) (gS l) (m_st μ3 (l + 6) a v) (m_st (m_st μ3 (l + 6) a v) (l + 6) b w) := fun v w => Fr.stI (Fr.rf0 _ _ _) (by simp [gI])
        have e : jX1_joinPins N l a b μ3 = some (m_st (m_st μ3 (l + 6) a (i_or (m_gt μ3 (l + 6) a) (i_shl 1 b))) (l + 6) b (i_or (m_gt μ3 (l + 6) b) (i_shl 1 a))) := by
          have L1 := LK.of (K1 (i_or (m_gt μ3 (l + 6) a) (i_shl 1 b))) hl
          unfold jX1_joinPins jX1_joinPins_38
          rw [isPin_X ⟨ia1, ia2⟩, b2_e, if_neg (by decide), isPin_X ⟨ib1, ib2⟩, b2_e, if_neg (by decide), L.2.2.2.2.1, ald_e L.2.1.2.1 (by omega) (by omega), ob_e, ast_e L.2.1.2.1 (by omega) (by omega), ob_e, L1.2.2.2.2.1, ald_e L1.2.1.2.1 (by omega) (by omega), ob_e, ast_e L1.2.1.2.1 (by omega) (by omega), ob_e, gt_i _ _ _ (show b ≠ a by omega)]
        rw [e, ob_e]
        refine ⟨_, rfl, ?_, f2 _ _⟩
        have hL := s3.2.2.2.join ⟨ia1, ia2⟩ ⟨ib1, ib2⟩ rfl rfl c rfl
        have n24 : (24 : Int) ≠ l + 6 := by rcases hl with rfl | rfl <;> decide
        have n1 : (1 : Int) ≠ l + 6 := by rcases hl with rfl | rfl <;> decide
        refine ⟨gKR hl (f2 _ _) s3.1, ⟨⟨?_, ?_⟩, ?_, ?_, ?_⟩, ?_, hL⟩
        · exact ⟨by rw [gt_r _ _ _ _ n24, gt_r _ _ _ _ n24]; exact s3.2.1.1.1.1, by rw [gt_r _ _ _ _ n24, gt_r _ _ _ _ n24]; exact s3.2.1.1.1.2⟩
        · rw [gt_r _ _ _ _ n24, gt_r _ _ _ _ n24]; exact s3.2.1.1.2
        · rw [gt_r _ _ _ _ n24, gt_r _ _ _ _ n24]; exact s3.2.1.2.1
        · rw [gt_r _ _ _ _ n24, gt_r _ _ _ _ n24]; exact s3.2.1.2.2.1
        · exact s3.2.1.2.2.2.ext (fun i => by rw [gt_r _ _ _ _ n1, gt_r _ _ _ _ n1])
        · rw [gt_r _ _ _ _ n24, gt_r _ _ _ _ n24]; exact s3.2.2.1
/-- a handicap is told -/
theorem LX.hcap {l : Int} {G : Gm} {μ : Mm} {a : Nat} (h : LX l G μ) : LX l (ghcp G a) (m_st (m_st μ l 12 a) l 13 ((gC G).length : Int)) := by
  obtain ⟨⟨h1, h2, h3, h4, h5, h6, h7, h8⟩, ⟨r1, r2, r3, r4, r5⟩, hj⟩ := h
  have o : ∀ r i : Int, ¬ (r = l ∧ (i = 12 ∨ i = 13)) → m_gt (m_st (m_st μ l 12 a) l 13 ((gC G).length : Int)) r i = m_gt μ r i := fun r i hn => by rw [m_gt_st, if_neg (by omega), m_gt_st, if_neg (by omega)]
  refine ⟨⟨by rw [o _ _ (by omega)]; exact h1, by rw [o _ _ (by omega)]; exact h2, by rw [o _ _ (by omega)]; exact h3, by rw [o _ _ (by omega)]; exact h4, by rw [o _ _ (by omega)]; exact h5, by rw [gt_i _ _ _ (by decide), gt_same]; rfl, by rw [gt_same]; rfl, by rw [o _ _ (by omega)]; exact h8⟩, ⟨r1.ext (fun i => o _ _ (by omega)), r2.ext (fun i => o _ _ (by omega)), r3.ext (fun i => o _ _ (by omega)), r4.ext (fun i => o _ _ (by omega)), r5.ext (fun i => o _ _ (by omega))⟩, fun c c0 c1 => ?_⟩
  rw [o _ _ (by omega)]
  exact hj c c0 c1
theorem hca_X {N : Nat} (hN : 1000000 ≤ N) {l : Int} (hl : lok l) {T : List Int} (hT : TB T) {q : Nat} {G : Gm} (hI : IN T q) (hC : (gC G).length ≤ q) {μ : Mm} (h : XG l T q G μ) : GX l T μ (jX3_handicap N 24 μ) (hcaS T G q) := by
  have hl7 := hT.1
  have L := LK.of h.1 hl
  have xs := h.xs
  have o : XR l T μ (jX3_sum N 10 24 0 μ) (sumS T 7 0 q (gC G)) := sum_X (N := N) hN hl hT 7 10 0 (by omega) (by omega) (by omega) hI hC xs
  unfold jX3_handicap jX0_sizeNow hcaS
  rw [h.2.2.1, chk_e L.1.1, L.2.2.1, chk_e L.1.2.1, b2_e, xs.2.2.2.1]
  match hx : sumS T 7 0 q (gC G), o with
  | Sum.inl e, o =>
    obtain ⟨μ2, r1, r2, r3⟩ := o
    refine ⟨μ2, ?_, r2, gxx r3⟩
    rw [r1, b2_e, if_neg (by decide)]
  | Sum.inr (q1, C1), o =>
    obtain ⟨μ2, r1, r2, r3⟩ := o
    have s := h.rd hl r2 r3
    have L2 := LK.of s.1 hl
    have fe : Fr (gI l) (gS l) μ2 (m_st (m_st μ2 l 12 ((gC G).length : Int)) l 13 (C1.length : Int)) := (Fr.stI (Fr.rf0 _ _ _) (by simp [gS])).stI (by simp [gS])
    have f1 : Fr (gI l) (gS l) μ2 (m_st μ2 l 12 ((gC G).length : Int)) := Fr.stI (Fr.rf0 _ _ _) (by simp [gS])
    have L3 := LK.of (gKR hl f1 s.1) hl
    have hL := s.2.2.2.hcap (a := (gC G).length)
    have n24 : (24 : Int) ≠ l := by rcases hl with rfl | rfl <;> decide
    have n1 : (1 : Int) ≠ l := by rcases hl with rfl | rfl <;> decide
    refine ⟨_, ?_, ⟨gKR hl fe s.1, ⟨⟨?_, ?_⟩, ?_, ?_, ?_⟩, ?_, hL⟩, (gxx r3).trI fe⟩
    · rw [r1, b2_e, if_pos (by decide), s.2.2.1, chk_e L2.1.1]
      unfold jX1_setHandicap jX0_sizeNow
      rw [bnd_e, L3.2.2.1, chk_e L3.1.2.1, b2_e, bnd_e, gt_r _ _ _ _ (show l + 1 ≠ l by omega), r2.2.2.2.1, ob_e]
    · exact ⟨by rw [gt_r _ _ _ _ n24, gt_r _ _ _ _ n24]; exact s.2.1.1.1.1, by rw [gt_r _ _ _ _ n24, gt_r _ _ _ _ n24]; exact s.2.1.1.1.2⟩
    · rw [gt_r _ _ _ _ n24, gt_r _ _ _ _ n24]; exact s.2.1.1.2
    · rw [gt_r _ _ _ _ n24, gt_r _ _ _ _ n24]; exact s.2.1.2.1
    · rw [gt_r _ _ _ _ n24, gt_r _ _ _ _ n24]; exact s.2.1.2.2.1
    · exact s.2.1.2.2.2.ext (fun i => by rw [gt_r _ _ _ _ n1, gt_r _ _ _ _ n1])
    · rw [gt_r _ _ _ _ n24, gt_r _ _ _ _ n24]; exact s.2.2.1
/-- a worth is told -/
theorem LX.wor {l : Int} {G : Gm} {μ μ' : Mm} {a b : Nat} (h : LX l G μ) (e : μ' = m_st (m_st (m_st (m_st μ (l + 7) (gW G).length a) (l + 8) (gW G).length b) (l + 9) (gW G).length (gC G).length) l 5 ((gW G).length + 1)) : LX l (gadd G a b) μ' := by
  obtain ⟨⟨h1, h2, h3, h4, h5, h6, h7, h8⟩, ⟨r1, r2, r3, r4, r5⟩, hj⟩ := h
  have o : ∀ r i : Int, ¬ (r = l ∧ i = 5) → r ≠ l + 7 → r ≠ l + 8 → r ≠ l + 9 → m_gt μ' r i = m_gt μ r i := fun r i n1 n2 n3 n4 => by rw [e, m_gt_st, if_neg n1, gt_r _ _ _ _ n4, gt_r _ _ _ _ n3, gt_r _ _ _ _ n2]
  have hl0 : ((gW G).map fun w => (w.1 : Int)).length = (gW G).length := by simp
  have hl1 : ((gW G).map fun w => (w.2.1 : Int)).length = (gW G).length := by simp
  have hl2 : ((gW G).map fun w => (w.2.2 : Int)).length = (gW G).length := by simp
  refine ⟨⟨by rw [o _ _ (by omega) (by omega) (by omega) (by omega)]; exact h1, by rw [o _ _ (by omega) (by omega) (by omega) (by omega)]; exact h2, by rw [o _ _ (by omega) (by omega) (by omega) (by omega)]; exact h3, by rw [o _ _ (by omega) (by omega) (by omega) (by omega)]; exact h4, ?_, by rw [o _ _ (by omega) (by omega) (by omega) (by omega)]; exact h6, by rw [o _ _ (by omega) (by omega) (by omega) (by omega)]; exact h7, by rw [o _ _ (by omega) (by omega) (by omega) (by omega)]; exact h8⟩, ⟨r1.ext (fun i => o _ _ (by omega) (by omega) (by omega) (by omega)), r2.ext (fun i => o _ _ (by omega) (by omega) (by omega) (by omega)), ?_, ?_, ?_⟩, fun c c0 c1 => ?_⟩
  · show m_gt μ' l 5 = ((gW G ++ [(a, b, (gC G).length)]).length : Nat)
    rw [e, gt_same, List.length_append, List.length_singleton]; omega
  · show Row μ' (l + 7) 0 ((gW G ++ [(a, b, (gC G).length)]).map fun w => (w.1 : Int))
    have := Row.push r3 (a : Int)
    rw [Int.zero_add, hl0] at this
    rw [List.map_append]
    exact this.ext (fun i => by rw [e, m_gt_st, if_neg (by omega), gt_r _ _ _ _ (by omega), gt_r _ _ _ _ (by omega)])
  · show Row μ' (l + 8) 0 ((gW G ++ [(a, b, (gC G).length)]).map fun w => (w.2.1 : Int))
    have := Row.push (r4.ext (μ' := m_st μ (l + 7) (gW G).length a) (fun i => gt_r _ _ _ _ (by omega))) (b : Int)
    rw [Int.zero_add, hl1] at this
    rw [List.map_append]
    exact this.ext (fun i => by rw [e, m_gt_st, if_neg (by omega), gt_r _ _ _ _ (by omega)])
  · show Row μ' (l + 9) 0 ((gW G ++ [(a, b, (gC G).length)]).map fun w => (w.2.2 : Int))
    have := Row.push (r5.ext (μ' := m_st (m_st μ (l + 7) (gW G).length a) (l + 8) (gW G).length b) (fun i => by rw [gt_r _ _ _ _ (by omega), gt_r _ _ _ _ (by omega)])) ((gC G).length : Int)
    rw [Int.zero_add, hl2] at this
    rw [List.map_append]
    exact this.ext (fun i => by rw [e, m_gt_st, if_neg (by omega)])
  · rw [o _ _ (by omega) (by omega) (by omega) (by omega)]
    exact hj c c0 c1
theorem addW_X {N : Nat} {l : Int} (hl : lok l) {T : List Int} {q : Nat} {G : Gm} {a b : Nat} (hw : (gW G).length < 30) {μ : Mm} (h : XG l T q G μ) : ∃ μ', jX1_addWorth N l a b μ = some μ' ∧ XG l T q (gadd G a b) μ' ∧ Fr (gI l) (gS l) μ μ' := by
  have n24 : (24 : Int) ≠ l ∧ (24 : Int) ≠ l + 7 ∧ (24 : Int) ≠ l + 8 ∧ (24 : Int) ≠ l + 9 := by rcases hl with rfl | rfl <;> decide
  have n1 : (1 : Int) ≠ l ∧ (1 : Int) ≠ l + 7 ∧ (1 : Int) ≠ l + 8 ∧ (1 : Int) ≠ l + 9 := by rcases hl with rfl | rfl <;> decide
  obtain ⟨μ', hμ⟩ : ∃ μ', μ' = m_st (m_st (m_st (m_st μ (l + 7) (gW G).length a) (l + 8) (gW G).length b) (l + 9) (gW G).length (gC G).length) l 5 ((gW G).length + 1) := ⟨_, rfl⟩
  have f1 : Fr (gI l) (gS l) μ (m_st μ (l + 7) (gW G).length a) := Fr.stI (Fr.rf0 _ _ _) (by simp [gI])
  have f2 : Fr (gI l) (gS l) μ (m_st (m_st μ (l + 7) (gW G).length a) (l + 8) (gW G).length b) := f1.stI (by simp [gI])
  have f4 : Fr (gI l) (gS l) μ μ' := by rw [hμ]; exact (f2.stI (by simp [gI])).stI (by simp [gS])
  have o : ∀ r i : Int, r ≠ l → r ≠ l + 7 → r ≠ l + 8 → r ≠ l + 9 → m_gt μ' r i = m_gt μ r i := fun r i n1 n2 n3 n4 => by rw [hμ, gt_r _ _ _ _ n1, gt_r _ _ _ _ n4, gt_r _ _ _ _ n3, gt_r _ _ _ _ n2]
  have L0 := LK.of h.1 hl
  have L1 := LK.of (gKR hl f1 h.1) hl
  have L2 := LK.of (gKR hl f2 h.1) hl
  have h5 := h.2.2.2.1.2.2.2.2.1
  refine ⟨μ', ?_, ⟨gKR hl f4 h.1, ⟨⟨?_, ?_⟩, ?_, ?_, ?_⟩, ?_, h.2.2.2.wor hμ⟩, f4⟩
  · unfold jX1_addWorth jX1_addWorth_55 jX0_sizeNow
    rw [h5, if_neg (by omega), L0.2.2.2.2.2.1, ast_e L0.2.1.2.2.1 (by omega) (by omega), ob_e, L1.2.2.2.2.2.2.1, gt_r _ _ _ _ (show l ≠ l + 7 by omega), h5, ast_e L1.2.1.2.2.2.1 (by omega) (by omega), ob_e, L2.2.2.1, chk_e L2.1.2.1, b2_e, L2.2.2.2.2.2.2.2.1, gt_r _ _ _ _ (show l ≠ l + 8 by omega), gt_r _ _ _ _ (show l ≠ l + 7 by omega), h5, ast_e L2.2.1.2.2.2.2.1 (by omega) (by omega), ob_e, bnd_e, gt_r _ _ _ _ (show l ≠ l + 9 by omega), gt_r _ _ _ _ (show l ≠ l + 8 by omega), gt_r _ _ _ _ (show l ≠ l + 7 by omega), h5, i_add_e (by omega) (by omega), gt_r _ _ _ _ (show l + 1 ≠ l + 8 by omega), gt_r _ _ _ _ (show l + 1 ≠ l + 7 by omega), h.xs.2.2.2.1, hμ]
  · exact ⟨by rw [o _ _ n24.1 n24.2.1 n24.2.2.1 n24.2.2.2]; exact h.2.1.1.1.1, by rw [o _ _ n24.1 n24.2.1 n24.2.2.1 n24.2.2.2]; exact h.2.1.1.1.2⟩
  · rw [o _ _ n24.1 n24.2.1 n24.2.2.1 n24.2.2.2]; exact h.2.1.1.2
  · rw [o _ _ n24.1 n24.2.1 n24.2.2.1 n24.2.2.2]; exact h.2.1.2.1
  · rw [o _ _ n24.1 n24.2.1 n24.2.2.1 n24.2.2.2]; exact h.2.1.2.2.1
  · exact h.2.1.2.2.2.ext (fun i => o _ _ n1.1 n1.2.1 n1.2.2.1 n1.2.2.2)
  · rw [o _ _ n24.1 n24.2.1 n24.2.2.1 n24.2.2.2]; exact h.2.2.1
theorem wor_X {N : Nat} (hN : 1000000 ≤ N) {l : Int} (hl : lok l) {T : List Int} (hT : TB T) {q : Nat} {G : Gm} (hI : IN T q) (hC : (gC G).length ≤ q) (hw : (gW G).length < 30) {μ : Mm} (h : XG l T q G μ) : GX l T μ (jX3_worth N 24 μ) (worS T G q) := by
  have hl7 := hT.1
  have WW : isW (-25) wWhen := isW_of (by decide)
  have L := LK.of h.1 hl
  have xs := h.xs
  have o : XR l T μ (jX3_sum N 10 24 0 μ) (sumS T 7 0 q (gC G)) := sum_X (N := N) hN hl hT 7 10 0 (by omega) (by omega) (by omega) hI hC xs
  have g := sumS_GR (T := T) 7 0 q (gC G)
  unfold jX3_worth jX3_worth_28 jX0_sizeNow worS
  rw [h.2.2.1, chk_e L.1.1, L.2.2.1, chk_e L.1.2.1, b2_e, xs.2.2.2.1]
  match hx : sumS T 7 0 q (gC G), o with
  | Sum.inl e, o =>
    obtain ⟨μ2, r1, r2, r3⟩ := o
    refine ⟨μ2, ?_, r2, gxx r3⟩
    rw [r1, b2_e, if_pos rfl]
  | Sum.inr (q1, C1), o =>
    obtain ⟨μ2, r1, r2, r3⟩ := o
    have g2 := g.inr hx
    have gq := g2.1.2.1
    have gl := g2.2.2.1
    have s := h.rd hl r2 r3
    show GX l T μ _ (wR T wWhen q1 _)
    refine GX.fr (μ := μ2) ?_ (gxx r3)
    rw [r1, b2_e, if_neg (by decide)]
    unfold wR
    cases hwn : wrd T wWhen q1 with
    | none =>
      refine ⟨_, by rw [ew_0 (N := N) hN hT WW gq hwn s.1 s.2.1, b2_e, if_neg (by decide)], FX_of (by decide) μ2, gx01 (FX_fr 1 q1 μ2)⟩
    | some q2 =>
      have i2 := wrd_1 w10_ok.2.2.2 hwn
      obtain ⟨μ3, a1, a2, a3, a4⟩ := ew_1 (N := N) hN hT WW gq hwn s.1 s.2.1
      have s3 := s.lex hl a2 a3 a4
      have L3 := LK.of s3.1 hl
      have xs3 := s3.xs
      have e3 : m_gt μ3 (l + 1) 1 = C1.length := xs3.2.2.2.1
      rw [a1, b2_e, if_pos (by decide), s3.2.2.1, chk_e L3.1.1, L3.2.2.1, chk_e L3.1.2.1, b2_e, e3]
      refine GX.fr ?_ (gx4 a4)
      have o2 : XR l T μ3 (jX3_test (jX3_fact N 10) N 24 0 μ3) (testS T (factS T 7) 0 q2 C1) := test_X (N := N) hN hl hT (factS_GR 7) (fact_X (N := N) hN hl hT 7 10 0 (by omega) (by omega) (by omega)) i2.1 (C := C1) (by omega) xs3
      dsimp only
      match hx2 : testS T (factS T 7) 0 q2 C1, o2 with
      | Sum.inl e, o2 =>
        obtain ⟨μ4, b1, b2', b3⟩ := o2
        refine ⟨μ4, ?_, b2', gxx b3⟩
        rw [b1, b2_e, if_neg (by decide)]
      | Sum.inr (q3, C3), o2 =>
        obtain ⟨μ4, b1, b2', b3⟩ := o2
        have s4 : XG l T q3 (gtok G C3) μ4 := s3.rd hl b2' b3
        obtain ⟨μ5, c1, c2, c3⟩ := addW_X (N := N) hl (a := (gC G).length) (b := C1.length) (show (gW (gtok G C3)).length < 30 from hw) s4
        refine ⟨μ5, ?_, c2, (gxx b3).trI c3⟩
        rw [b1, b2_e, if_pos (by decide), s4.2.2.1, chk_e (LK.of s4.1 hl).1.1, c1, ob_e]
