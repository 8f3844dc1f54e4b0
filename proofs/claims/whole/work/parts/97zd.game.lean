/-! ===== PURE: game() of the class, whole ===== -/
theorem reaS_ok {T : List Int} (hT : TB T) : ∀ (k n q : Nat) (G : Gm), n + k = 30 → GI T n q G → match reaS T k n G q with | Sum.inl e => ¬ e.1 = 0 | Sum.inr (m, G') => GOK G' ∧ m ≤ 30
  | k, n, q, G, hk, hG => by
    by_cases hq : q < T.length
    · match k, hk with
      | 0, hk => rw [reaS_0 hq]; exact (by decide : ¬ (5 : Int) = 0)
      | k + 1, hk =>
        rw [reaS_s hq]
        have so := stmS_SO hT (n := n) (by omega) hG
        match hx : stmS T G q, so with
        | Sum.inl e, so => exact so
        | Sum.inr (q1, G1), so =>
          dsimp only
          cases hs : sg T 59 q1 with
          | none => exact (by decide : ¬ (1 : Int) = 0)
          | some q2 =>
            have i2 := sg_IN c59.2 hs
            exact reaS_ok hT k (n + 1) q2 G1 (by omega) ⟨so.1.1, so.1.2.1, by have := so.1.2.2.1; omega, i2.1⟩
    · rw [reaS_e k hq]
      exact ⟨hG.1, by omega⟩
theorem forget_loop {N : Nat} : ∀ (k n i : Nat) {μ : Mm}, i + k = 6 → k < n → KR μ → (∀ j : Int, 0 ≤ j → j < i → m_gt μ 47 j = 0) → ∃ μ', jX4_forget_2 N n 45 i μ = some μ' ∧ PX (fun _ => []) μ' ∧ Fr [47] [] μ μ'
  | k, 0, i, μ, hi, hn, _, _ => absurd hn (by omega)
  | 0, n + 1, i, μ, hi, hn, hK, hz => by
    refine ⟨μ, ?_, fun p h0 h1 => ⟨hz p h0 (by omega), Row.nil _ _ _⟩, Fr.rf0 _ _ _⟩
    show jX4_forget_2b (jX4_forget_2 N n) N 45 i μ = _
    unfold jX4_forget_2b
    rw [if_pos (by omega)]
  | k + 1, n + 1, i, μ, hi, hn, hK, hz => by
    have f : Fr [47] [] μ (m_st μ 47 i 0) := Fr.stI (Fr.rf0 _ _ _) (by simp)
    obtain ⟨μ', r1, r2, r3⟩ := forget_loop (N := N) k n (i + 1) (μ := m_st μ 47 i 0) (by omega) (by omega) (f.KR hK (by decide)) (fun j h0 h1 => by
      rw [m_gt_st]
      split
      · rfl
      · rename_i c
        exact hz j h0 (by omega))
    refine ⟨μ', ?_, r2, f.trI r3⟩
    rw [← r1]
    show jX4_forget_2b (jX4_forget_2 N n) N 45 i μ = _
    unfold jX4_forget_2b
    rw [if_neg (by omega), r_45_1 hK, ast_e (k_47 hK) (by omega) (by omega), ob_e, bnd_e, i_add_e (by omega) (by omega)]
    rfl
theorem TX_se {l : Int} {G : Gm} {μ μ' : Mm} (h : TX l G μ) (e : ∀ i : Int, m_gt μ' (l + 10) i = m_gt μ (l + 10) i) : TX l G μ' := fun f d u x h1 h2 h3 h4 h5 h6 h7 h8 => by
  rw [e]
  exact h f d u x h1 h2 h3 h4 h5 h6 h7 h8
def ggI (l sh : Int) : List Int := [l + 3, l + 4, l + 10, sh + 1, sh + 2, 32, 47] ++ gI l
def ggT (l sh : Int) : List (Int × Int) := [(l + 1, 4), (33, 0)] ++ sFr sh
def ggS (l sh : Int) : List (Int × Int) := [(0, 1), (0, 2), (0, 3), (24, 2), (24, 3), (24, 5), (l, 0)] ++ gS l ++ ggT l sh
theorem game_X {N : Nat} (hN : 1000000 ≤ N) {l l' sh : Int} (hl : lok l') (hs : sh = 26 ∨ sh = 29) {T : List Int} (hT : TB T) {μ : Mm} (hK : KR μ) (h2 : m_gt μ 0 2 = l) (h3 : m_gt μ 0 3 = l') (h5 : m_gt μ 0 5 = sh) (ht : tpX T μ) : match reaS T 30 0 G0 (SKP T 0) with
    | Sum.inl e => ∃ μ', jX7_game N 0 μ = some (-1, μ') ∧ FX e μ' ∧ m_gt μ' 0 1 = 0 ∧ Fr (gI l') ((0, 1) :: kS l') μ μ'
    | Sum.inr (n, G) => ∃ μ', jX7_game N 0 μ = some ((n : Int), μ') ∧ (m_gt μ' 24 0 = 0 ∧ m_gt μ' 24 1 = -1) ∧ (m_gt μ' 0 1 = 0 ∧ m_gt μ' 0 2 = l' ∧ m_gt μ' 0 3 = l) ∧ SC sh l' G [] μ' ∧ TN μ' ∧ PX (fun _ => []) μ' ∧ Fr (ggI l' sh) (ggS l' sh) μ μ' := by
  have o := read_X (N := N) hN hl hT hK ht
  have ok := reaS_ok hT 30 0 (SKP T 0) G0 (by omega) ⟨G0_ok, Nat.zero_le _, Nat.zero_le _, IN_start T⟩
  have e0 : jX7_game N 0 μ = b2 (jX3_read N 24 1 T.length l' μ) fun x1 μ1 =>
bnd (m_st μ1 0 1 0) fun μ2 =>
if ¬ x1 = 0 then (bnd (m_st μ2 0 2 (m_gt μ2 0 3)) fun μ3 =>
bnd (m_st μ3 0 3 (m_gt μ2 0 2)) fun μ4 =>
m_chk 1 μ4 (m_gt μ4 0 2) (
(jX1_settle N (m_gt μ4 0 2) μ4).bind fun μ5 =>
m_chk 5 μ5 (m_gt μ5 0 5) (
(jX5_empty N (m_gt μ5 0 5) (m_gt μ5 0 2) μ5).bind fun μ6 =>
m_chk 4 μ6 (m_gt μ6 0 9) (
(jX4_forget N (m_gt μ6 0 9) μ6).bind fun μ7 =>
(jX7_sheetIsNew N 0 μ7).bind fun μ8 =>
m_chk 1 μ8 (m_gt μ8 0 2) (
some (m_gt μ8 (m_gt μ8 0 2) 0, μ8)))))) else (some ((-1), μ2)) := by
    unfold jX7_game
    rw [r_0_4 hK, chk_e (k_24 hK), r_0_0 hK, ht.1, h3]
  have n0 : (0 : Int) ∉ gI l' ∧ ∀ i : Int, ((0 : Int), i) ∉ kS l' := by rcases hl with rfl | rfl <;> exact ⟨by decide, fun i => by simp [kS, hS, gS]⟩
  rw [e0]
  match hx : reaS T 30 0 G0 (SKP T 0), o, ok with
  | Sum.inl e, o, ok =>
    obtain ⟨μ1, a1, a2, a3⟩ := o
    refine ⟨m_st μ1 0 1 0, ?_, ⟨by rw [gt_r _ _ _ _ (by decide)]; exact a2.1, by rw [gt_r _ _ _ _ (by decide)]; exact a2.2.1, a2.2.2⟩, gt_same _ _ _ _, (a3.mono (fun r hr => hr) (fun p hp => Or.inl (List.mem_cons_of_mem _ hp))).stI (Or.inr (by simp))⟩
    rw [a1, b2_e, bnd_e, if_neg (by decide)]
  | Sum.inr (n, G), o, ok =>
    obtain ⟨μ1, q, a1, a2, a3, a4⟩ := o
    obtain ⟨hG, hn⟩ := ok
    have K1 := kKR hl a4 hK
    obtain ⟨μ4, h4⟩ : ∃ μ4, μ4 = m_st (m_st (m_st μ1 0 1 0) 0 2 l') 0 3 l := ⟨_, rfl⟩
    have f14 : Fr [] [(0, 1), (0, 2), (0, 3)] μ1 μ4 := by rw [h4]; exact ((Fr.stI (Fr.rf0 _ _ _) (by simp)).stI (by simp)).stI (by simp)
    have K4 : KR μ4 := f14.KR K1 (by decide)
    have L4 : LX l' G μ4 := by rcases hl with rfl | rfl <;> exact a2.2.2.2.ag (f14.ag (by decide))
    obtain ⟨μ5, b1, b2', b3, b4, b5⟩ := settle_X (N := N) hN hl hG K4 L4
    obtain ⟨μ6, c1, c2, c3, c4⟩ := empty_X (N := N) hs hl hG b2' b3
    have K6 := KR_s b2' hs c4
    have S6 : SC sh l' G [] μ6 := ⟨⟨hs, hl, hG, fun k hk => absurd hk (by simp)⟩, K6, LX_s b3 hl hs c4, TX_se b4 (fun i => c4.2.2 (l' + 10) i (by rcases hl with rfl | rfl <;> rcases hs with rfl | rfl <;> decide) (by rcases hl with rfl | rfl <;> rcases hs with rfl | rfl <;> simp [sFr])), c2⟩
    obtain ⟨μ7, d1, d2, d3⟩ := forget_loop (N := N) 6 N 0 (μ := μ6) (by omega) (by omega) K6 (fun j h0 h1 => absurd h1 (by omega))
    have K7 : KR μ7 := d3.KR K6 (by decide)
    obtain ⟨μ8, g1, g2, g3⟩ := sheetIsNew_X (N := N) hN K7
    have K8 : KR μ8 := g3.KR K7 (by decide)
    have F48 : Fr (ggI l' sh) (ggT l' sh) μ4 μ8 := (b5.mono (by simp [ggI]) (by simp [ggT])).trI ((c4.mono (by simp [ggI]) (fun p hp => Or.inl (by simp [ggT, hp]))).trI ((d3.mono (by simp [ggI]) (by simp)).trI (g3.mono (by simp [ggI]) (by simp [ggT]))))
    have z0 : ∀ i : Int, m_gt μ8 0 i = m_gt μ4 0 i := fun i => F48.2.2 0 i (by rcases hl with rfl | rfl <;> rcases hs with rfl | rfl <;> decide) (by rcases hl with rfl | rfl <;> rcases hs with rfl | rfl <;> simp [ggT, sFr])
    have z24 : ∀ i : Int, m_gt μ8 24 i = m_gt μ1 24 i := fun i => by
      rw [F48.2.2 24 i (by rcases hl with rfl | rfl <;> rcases hs with rfl | rfl <;> decide) (by rcases hl with rfl | rfl <;> rcases hs with rfl | rfl <;> simp [ggT, sFr])]
      exact f14.2.2 24 i (by decide) (by simp)
    have zl : m_gt μ8 l' 0 = n := by
      rw [F48.2.2 l' 0 (by rcases hl with rfl | rfl <;> rcases hs with rfl | rfl <;> decide) (by rcases hl with rfl | rfl <;> rcases hs with rfl | rfl <;> decide), f14.2.2 l' 0 (by simp) (by rcases hl with rfl | rfl <;> decide)]
      exact a3
    have m01 : m_gt μ1 0 2 = l ∧ m_gt μ1 0 3 = l' := ⟨by rw [a4.2.2 0 2 n0.1 (n0.2 2)]; exact h2, by rw [a4.2.2 0 3 n0.1 (n0.2 3)]; exact h3⟩
    have m42 : m_gt μ4 0 2 = l' := by rw [h4, gt_i _ _ _ (by decide), gt_same]
    have m43 : m_gt μ4 0 3 = l := by rw [h4, gt_same]
    have m41 : m_gt μ4 0 1 = 0 := by rw [h4, gt_i _ _ _ (by decide), gt_i _ _ _ (by decide), gt_same]
    have m45 : m_gt μ4 0 5 = sh := by rw [f14.2.2 0 5 (by decide) (by decide), a4.2.2 0 5 n0.1 (n0.2 5)]; exact h5
    have m55 : m_gt μ5 0 5 = sh ∧ m_gt μ5 0 2 = l' := by
      have z : ∀ i : Int, m_gt μ5 0 i = m_gt μ4 0 i := fun i => b5.2.2 0 i (by rcases hl with rfl | rfl <;> decide) (by rcases hl with rfl | rfl <;> simp)
      exact ⟨by rw [z]; exact m45, by rw [z]; exact m42⟩
    refine ⟨μ8, ?_, ⟨by rw [z24]; exact a2.2.1.2.2.1, by rw [z24]; exact a2.2.1.1.1.2⟩, ⟨by rw [z0]; exact m41, by rw [z0]; exact m42, by rw [z0]; exact m43⟩, S6.ext K8 (fun r i hr => by rw [g3.2.2 r i (by simp; omega) (by simp; omega), d3.2.2 r i (by simp; omega) (by simp)]), g2, d2.ag (g3.ag (by decide)), ?_⟩
    · rw [a1, b2_e, bnd_e, if_pos (by decide), bnd_e, bnd_e, gt_i _ _ _ (by decide), gt_i _ _ _ (by decide), m01.1, m01.2, ← h4, m42, chk_e (LK.of K4 hl).1.1, b1, ob_e, m55.1, m55.2, chk_e (SK.of b2' hs).1, c1, ob_e, r_0_9 K6, chk_e (k_45 K6)]
      have d1' : jX4_forget N 45 μ6 = some μ7 := d1
      rw [d1', ob_e, g1, ob_e, z0, m42, chk_e (LK.of K8 hl).1.1, zl]
    · refine (a4.mono (fun r hr => by simp [ggI, hr]) (fun p hp => Or.inl ?_)).trI ((f14.mono (by simp) (by simp [ggS])).trI (F48.mono (fun r hr => hr) (fun p hp => Or.inl (by simp [ggS, hp]))))
      simp [kS, hS] at hp
      simp [ggS]
      rcases hp with z | z | z | z | z
      · exact Or.inr (Or.inr (Or.inr (Or.inl z)))
      · exact Or.inr (Or.inr (Or.inr (Or.inr (Or.inl z))))
      · exact Or.inr (Or.inr (Or.inr (Or.inr (Or.inr (Or.inl z)))))
      · exact Or.inr (Or.inr (Or.inr (Or.inr (Or.inr (Or.inr (Or.inl z))))))
      · exact Or.inr (Or.inr (Or.inr (Or.inr (Or.inr (Or.inr (Or.inr (Or.inl z)))))))
