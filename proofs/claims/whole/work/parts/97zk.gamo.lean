/-! ===== PURE: game() of the reference ===== -/
theorem g100 {N : Nat} : ∀ (k n i : Nat) {v : Int} {μ : Mm}, i + k = 6 → k < n → KR μ → m_gt μ 50 48 = v → (∀ j : Int, 0 ≤ j → j < i → m_gt μ 101 j = 0) → ∃ μ', jX8_game_100 N n 50 i μ = some (v, μ') ∧ PM (fun _ => []) μ' ∧ (m_gt μ' 50 70 = 0 ∧ m_gt μ' 50 72 = 0) ∧ Fr [101] [(50, 70), (50, 72)] μ μ'
  | k, 0, i, v, μ, hi, hn, _, _, _ => absurd hn (by omega)
  | 0, n + 1, i, v, μ, hi, hn, hK, h48, hz => by
    refine ⟨m_st (m_st μ 50 70 0) 50 72 0, ?_, fun p h0 h1 => ⟨?_, Row.nil _ _ _⟩, ⟨by rw [gt_i _ _ _ (by decide), gt_same], gt_same _ _ _ _⟩, (Fr.stI (Fr.rf0 _ _ _) (by simp)).stI (by simp)⟩
    · show jX8_game_100b (jX8_game_100 N n) N 50 i μ = _
      unfold jX8_game_100b
      rw [if_pos (by omega), bnd_e, bnd_e, gt_i _ _ _ (by decide), gt_i _ _ _ (by decide), h48]
    · rw [gt_r _ _ _ _ (by decide), gt_r _ _ _ _ (by decide)]
      exact hz p h0 (by omega)
  | k + 1, n + 1, i, v, μ, hi, hn, hK, h48, hz => by
    have f : Fr [101] [(50, 70), (50, 72)] μ (m_st μ 101 i 0) := Fr.stI (Fr.rf0 _ _ _) (by simp)
    obtain ⟨μ', r1, r2, r3, r4⟩ := g100 (N := N) k n (i + 1) (v := v) (μ := m_st μ 101 i 0) (by omega) (by omega) (f.KR hK (by decide)) (by rw [gt_r _ _ _ _ (by decide)]; exact h48) (fun j h0 h1 => by
      rw [m_gt_st]
      split
      · rfl
      · rename_i c
        exact hz j h0 (by omega))
    refine ⟨μ', ?_, r2, r3, f.trI r4⟩
    rw [← r1]
    show jX8_game_100b (jX8_game_100 N n) N 50 i μ = _
    unfold jX8_game_100b
    rw [if_neg (by omega), r_50_81 hK, ast_e (k_101 hK) (by omega) (by omega), ob_e, bnd_e, i_add_e (by omega) (by omega)]
    rfl
/-- what a game told wrong may change -/
def gmP (r i : Int) : Prop := eP r i ∨ (r = 50 ∧ (i = 1 ∨ i = 3 ∨ i = 7 ∨ i = 8))
def HF (μ μ' : Mm) : Prop := μ'.1 = μ.1 ∧ μ'.2.1 = μ.2.1 ∧ ∀ r i : Int, ¬ gmP r i → m_gt μ' r i = m_gt μ r i
theorem HF.rf (μ : Mm) : HF μ μ := ⟨rfl, rfl, fun _ _ _ => rfl⟩
theorem HF.trI {a b c : Mm} (h : HF a b) (g : HF b c) : HF a c := ⟨g.1.trans h.1, g.2.1.trans h.2.1, fun r i hn => (g.2.2 r i hn).trans (h.2.2 r i hn)⟩
theorem EF.hf {a b : Mm} (h : EF a b) : HF a b := ⟨h.1, h.2.1, fun r i hn => h.2.2 r i (fun z => hn (Or.inl z))⟩
theorem HF.st {i : Int} (h : gmP 50 i) (μ : Mm) (v : Int) : HF μ (m_st μ 50 i v) := ⟨rfl, rfl, fun a b hn => by
  rw [m_gt_st, if_neg]
  rintro ⟨rfl, rfl⟩
  exact hn h⟩
def gsI : List Int := [74, 75, 76, 77, 78, 79, 80, 81, 82, 83, 84, 85, 86, 87, 101]
def gsS : List (Int × Int) := [(50, 1), (50, 2), (50, 3), (50, 4), (50, 5), (50, 6), (50, 7), (50, 8), (50, 44), (50, 46), (50, 47), (50, 48), (50, 49), (50, 58), (50, 70), (50, 72), (50, 78)]
theorem HF.fr {a b : Mm} (h : HF a b) : Fr gsI gsS a b := ⟨h.1, h.2.1, fun r i h1 h2 => h.2.2 r i (fun z => by
    rcases z with z | ⟨rfl, z⟩
    · rcases z with z | ⟨rfl, rfl⟩
      · rcases z with z | z | z | z | z
        · rcases z with rfl | ⟨rfl, _⟩ | ⟨rfl, z⟩
          · exact h1 (by simp [gsI])
          · exact h1 (by simp [gsI])
          · exact h2 (by simp [gsS]; omega)
        · exact h1 (by simp [gsI]; omega)
        · exact h1 (by simp [gsI]; omega)
        · exact h1 (by simp [gsI]; omega)
        · exact h1 (by simp [gsI]; omega)
      · exact h2 (by simp [gsS])
    · exact h2 (by simp [gsS]; omega))⟩
theorem HF.KR {a b : Mm} (h : HF a b) (hK : KR a) : KR b := h.fr.KR hK (by decide)
theorem game_M {N : Nat} (hN : 1000000 ≤ N) {T : List Int} (hT : TB T) {μ : Mm} (hK : KR μ) (hW : WDM μ) (ht : tpM T μ) : match reaS T 30 0 G0 (SKP T 0) with
    | Sum.inl e => ∃ μ', jX8_game N 50 μ = some (-1, μ') ∧ (m_gt μ' 50 7 = e.1 ∧ m_gt μ' 50 8 = e.2) ∧ m_gt μ' 50 1 = 0 ∧ HF μ μ'
    | Sum.inr (n, G) => ∃ μ', jX8_game N 50 μ = some ((n : Int), μ') ∧ (m_gt μ' 50 7 = 0 ∧ m_gt μ' 50 8 = -1) ∧ m_gt μ' 50 1 = 0 ∧ GM G μ' ∧ m_gt μ' 50 58 = 0 ∧ (m_gt μ' 50 78 = 0 ∧ m_gt μ' 50 72 = 0 ∧ m_gt μ' 50 70 = 0) ∧ PM (fun _ => []) μ' ∧ Fr gsI gsS μ μ' := by
  have hl := hT.1
  have ok := reaS_ok hT 30 0 (SKP T 0) G0 (by omega) ⟨G0_ok, Nat.zero_le _, Nat.zero_le _, IN_start T⟩
  obtain ⟨μ6, h6⟩ : ∃ μ6, μ6 = m_st (m_st (m_st (m_st (m_st (m_st μ 50 3 T.length) 50 1 0) 50 2 0) 50 4 (-1)) 50 5 0) 50 6 (-1) := ⟨_, rfl⟩
  have d : ∀ i : Int, (i = 1 ∨ i = 2 ∨ i = 3 ∨ i = 4 ∨ i = 5 ∨ i = 6 ∨ i = 7 ∨ i = 8) → gmP 50 i := fun i hi => by unfold gmP eP dP mpP; omega
  have H6 : HF μ μ6 := by rw [h6]; exact (((((HF.st (d 3 (by omega)) _ _).trI (HF.st (d 1 (by omega)) _ _)).trI (HF.st (d 2 (by omega)) _ _)).trI (HF.st (d 4 (by omega)) _ _)).trI (HF.st (d 5 (by omega)) _ _)).trI (HF.st (d 6 (by omega)) _ _)
  have K6 := H6.KR hK
  obtain ⟨μ7, a1, a2, a3, a4, a5⟩ := forgets_M (N := N) hN K6
  have K7 := a4.KR K6
  have o7 : ∀ i : Int, i ≠ 44 → i ≠ 48 → m_gt μ7 50 i = m_gt μ6 50 i := fun i n1 n2 => a5.2.2 50 i (by decide) (by simp; omega)
  have P7 : PP T (SKP T 0) μ7 := by
    refine ⟨0, -1, rfl, Nat.zero_le _, ⟨?_, ?_, ?_, ?_, ?_, ?_⟩, by omega, ?_⟩
    · rw [o7 3 (by decide) (by decide), h6]; simp [m_gt_st]
    · rw [o7 2 (by decide) (by decide), h6]; simp [m_gt_st]
    · rw [o7 4 (by decide) (by decide), h6]; simp [m_gt_st]
    · rw [o7 5 (by decide) (by decide), h6]; simp [m_gt_st]
    · refine ht.2.ext (fun i => ?_)
      rw [a5.2.2 51 i (by decide) (by simp), h6]
      simp only [gt_r _ _ _ _ (show (51 : Int) ≠ 50 by decide)]
    · rw [o7 6 (by decide) (by decide), h6, gt_same]
    · constructor
      · intro z; omega
      · intro z
        exact absurd z (pv_no (fun y => absurd y.1 (by omega)) (fun y => absurd y.1 (by omega)))
  have M7 : MG T (SKP T 0) G0 μ7 := ⟨⟨K7, P7, ⟨a3.1, Row.nil _ _ _⟩, hW.fr (fun r i h1 h2 => by
    rw [a4.2.2 r i (by unfold eP dP mpP; omega)]
    exact H6.2.2 r i (by unfold gmP eP dP mpP; omega))⟩, a2⟩
  have o := gam_loop (N := N) hN hT 30 N 0 (SKP T 0) G0 (by omega) (by omega) ⟨G0_ok, Nat.zero_le _, Nat.zero_le _, IN_start T⟩ M7 (by rw [a3.2]; rfl)
  have e0 : jX8_game N 50 μ = jX8_game_37 N N 50 μ7 := by
    unfold jX8_game
    rw [bnd_e, bnd_e, bnd_e, bnd_e, bnd_e, bnd_e, ht.1, ← h6, a1, ob_e]
  have z1 : m_gt μ7 50 1 = 0 := by rw [o7 1 (by decide) (by decide), h6]; simp [m_gt_st]
  have q1 : ¬ eP 50 1 := by unfold eP dP mpP; omega
  rw [e0]
  match hx : reaS T 30 0 G0 (SKP T 0), o, ok with
  | Sum.inl e, o, ok =>
    obtain ⟨μ8, b1, b2', b3⟩ := o
    refine ⟨m_st (m_st μ8 50 7 e.1) 50 8 e.2, ?_, ⟨by rw [gt_i _ _ _ (by decide), gt_same], gt_same _ _ _ _⟩, ?_, H6.trI (a4.hf.trI (b3.hf.trI ((HF.st (d 7 (by omega)) _ _).trI (HF.st (d 8 (by omega)) _ _))))⟩
    · rw [b1]
      unfold jX8_game_59
      rw [bnd_e, bnd_e, b2'.1, gt_i (b := 6) _ _ _ (by decide), b2'.2.1, gt_i (b := 5) _ _ _ (by decide), gt_i (b := 5) _ _ _ (by decide), b2'.1, if_neg b2'.2.2]
    · rw [gt_i _ _ _ (by decide), gt_i _ _ _ (by decide), b3.2.2 50 1 q1]; exact z1
  | Sum.inr (n, G), o, ok =>
    obtain ⟨μ8, q, b1, b2', b3, b4⟩ := o
    obtain ⟨hG, hn⟩ := ok
    have y6 : m_gt μ8 50 6 = -1 := by
      obtain ⟨p, e, _, _, y, _⟩ := b2'.1.2.1
      exact y.2.2.2.2.2
    have y5 := b2'.1.2.1.b0
    have f9 : Fr [] [(50, 7), (50, 8)] μ8 (m_st (m_st μ8 50 7 0) 50 8 (-1)) := (Fr.stI (Fr.rf0 _ _ _) (by simp)).stI (by simp)
    have M9 : MG T q G (m_st (m_st μ8 50 7 0) 50 8 (-1)) := by
      refine ⟨⟨f9.KR b2'.1.1 (by decide), b2'.1.2.1.fr (f9.ag (by decide)), ⟨by rw [f9.2.2 50 44 (by decide) (by decide)]; exact b2'.1.2.2.1.1, b2'.1.2.2.1.2.ext (fun i => f9.2.2 86 i (by decide) (by simp))⟩, b2'.1.2.2.2.fr (fun r i h1 h2 => f9.2.2 r i (by simp) (by simp; omega))⟩, b2'.2.ext (fun r i h1 h2 => f9.2.2 r i (by simp) (by simp; omega))⟩
    obtain ⟨μ10, c1, c2, c3⟩ := stands_M (N := N) hN hG.2.2.2.2.2.1 M9
    have K10 : KR μ10 := c3.KR M9.1.1 (by decide)
    have f12 : Fr [] [(50, 58), (50, 78)] μ10 (m_st (m_st μ10 50 58 0) 50 78 0) := (Fr.stI (Fr.rf0 _ _ _) (by simp)).stI (by simp)
    have e48 : m_gt (m_st (m_st μ10 50 58 0) 50 78 0) 50 48 = n := by rw [f12.2.2 50 48 (by decide) (by decide), c3.2.2 50 48 (by decide) (by simp), f9.2.2 50 48 (by decide) (by decide)]; exact b3
    obtain ⟨μ13, g1, g2, g3, g4⟩ := g100 (N := N) 6 N 0 (by omega) (by omega) (f12.KR K10 (by decide)) e48 (fun j h0 h1 => absurd h1 (by omega))
    have oo : ∀ i : Int, i ≠ 58 → i ≠ 78 → i ≠ 70 → i ≠ 72 → m_gt μ13 50 i = m_gt (m_st (m_st μ8 50 7 0) 50 8 (-1)) 50 i := fun i n1 n2 n3 n4 => by
      rw [g4.2.2 50 i (by decide) (by simp; omega), f12.2.2 50 i (by decide) (by simp; omega), c3.2.2 50 i (by decide) (by simp)]
    refine ⟨μ13, ?_, ⟨?_, ?_⟩, ?_, ?_, ?_, ⟨?_, g3.2, g3.1⟩, g2, ?_⟩
    · rw [b1]
      unfold jX8_game_59
      rw [bnd_e, bnd_e, y5, gt_i (b := 6) _ _ _ (by decide), y6, gt_i (b := 5) _ _ _ (by decide), gt_i (b := 5) _ _ _ (by decide), y5, if_pos rfl, c1, ob_e, bnd_e, bnd_e]
      exact g1
    · rw [oo 7 (by decide) (by decide) (by decide) (by decide), gt_i _ _ _ (by decide), gt_same]
    · rw [oo 8 (by decide) (by decide) (by decide) (by decide), gt_same]
    · rw [oo 1 (by decide) (by decide) (by decide) (by decide), gt_i _ _ _ (by decide), gt_i _ _ _ (by decide), b4.2.2 50 1 q1]; exact z1
    · exact (c2.ag (f12.ag (by decide))).ag (g4.ag (by decide))
    · rw [g4.2.2 50 58 (by decide) (by decide), gt_i _ _ _ (by decide), gt_same]
    · rw [g4.2.2 50 78 (by decide) (by decide), gt_same]
    · exact (H6.trI (a4.hf.trI b4.hf)).fr.trI ((f9.mono (by simp) (by simp [gsS])).trI ((c3.mono (by simp [wGM, gsI]) (by simp)).trI ((f12.mono (by simp) (by simp [gsS])).trI (g4.mono (by simp [gsI]) (by simp [gsS])))))
