/-! ===== PURE: game() of the class ===== -/
theorem emp_75 {N : Nat} {l : Int} (hl : lok l) : ∀ (k n i : Nat) {μ : Mm}, i + k = 9 → k < n → KR μ → (∀ j : Int, 0 ≤ j → j < i → m_gt μ (l + 6) j = 0) → ∃ μ', jX1_empty_75 N n l i μ = some μ' ∧ (∀ j : Int, 0 ≤ j → j < 9 → m_gt μ' (l + 6) j = 0) ∧ Fr [l + 6] [] μ μ'
  | k, 0, i, μ, hi, hn, _, _ => absurd hn (by omega)
  | 0, n + 1, i, μ, hi, hn, hK, hz => by
    have L := LK.of hK hl
    refine ⟨μ, ?_, fun j h0 h1 => hz j h0 (by omega), Fr.rf0 _ _ _⟩
    show jX1_empty_75b (jX1_empty_75 N n) N l i μ = _
    unfold jX1_empty_75b
    rw [L.2.2.2.2.1, len_e L.2.1.2.1 (by decide) (by decide), ob_e, if_pos (by omega)]
  | k + 1, n + 1, i, μ, hi, hn, hK, hz => by
    have L := LK.of hK hl
    have f : Fr [l + 6] [] μ (m_st μ (l + 6) i 0) := Fr.stI (Fr.rf0 _ _ _) (by simp)
    have K1 : KR (m_st μ (l + 6) i 0) := by rcases hl with rfl | rfl <;> exact f.KR hK (by decide)
    obtain ⟨μ', r1, r2, r3⟩ := emp_75 (N := N) hl k n (i + 1) (μ := m_st μ (l + 6) i 0) (by omega) (by omega) K1 (fun j h0 h1 => by
      rw [m_gt_st]
      split
      · rfl
      · rename_i c
        exact hz j h0 (by omega))
    refine ⟨μ', ?_, r2, f.trI r3⟩
    rw [← r1]
    show jX1_empty_75b (jX1_empty_75 N n) N l i μ = _
    unfold jX1_empty_75b
    rw [L.2.2.2.2.1, len_e L.2.1.2.1 (by decide) (by decide), ob_e, if_neg (by omega), ast_e L.2.1.2.1 (by omega) (by omega), ob_e, bnd_e, i_add_e (by omega) (by omega)]
    rfl
theorem emp_51 {N : Nat} (hN : 1000000 ≤ N) {l : Int} (hl : lok l) : ∀ (k n i : Nat) {μ : Mm}, i + k = 4 → k < n → KR μ → (∀ j : Int, 0 ≤ j → j < i → m_gt μ (l + 5) j = 0) → ∃ μ', jX1_empty_51 N n l i μ = some μ' ∧ (∀ j : Int, 0 ≤ j → j < 4 → m_gt μ' (l + 5) j = 0) ∧ (∀ j : Int, 0 ≤ j → j < 9 → m_gt μ' (l + 6) j = 0) ∧ Fr [l + 5, l + 6] [] μ μ'
  | k, 0, i, μ, hi, hn, _, _ => absurd hn (by omega)
  | 0, n + 1, i, μ, hi, hn, hK, hz => by
    have L := LK.of hK hl
    obtain ⟨μ', r1, r2, r3⟩ := emp_75 (N := N) hl 9 N 0 (μ := μ) (by omega) (by omega) hK (fun j h0 h1 => absurd h1 (by omega))
    refine ⟨μ', ?_, fun j h0 h1 => ?_, r2, r3.mono (by simp) (by simp)⟩
    · rw [← r1]
      show jX1_empty_51b (jX1_empty_51 N n) N l i μ = _
      unfold jX1_empty_51b
      rw [L.2.2.2.1, len_e L.2.1.1 (by decide) (by decide), ob_e, if_pos (by omega)]
      rfl
    · rw [r3.2.2 (l + 5) j (by simp <;> omega) (by simp)]
      exact hz j h0 (by omega)
  | k + 1, n + 1, i, μ, hi, hn, hK, hz => by
    have L := LK.of hK hl
    have f : Fr [l + 5, l + 6] [] μ (m_st μ (l + 5) i 0) := Fr.stI (Fr.rf0 _ _ _) (by simp)
    have K1 : KR (m_st μ (l + 5) i 0) := by rcases hl with rfl | rfl <;> exact f.KR hK (by decide)
    obtain ⟨μ', r1, r2, r3, r4⟩ := emp_51 (N := N) hN hl k n (i + 1) (μ := m_st μ (l + 5) i 0) (by omega) (by omega) K1 (fun j h0 h1 => by
      rw [m_gt_st]
      split
      · rfl
      · rename_i c
        exact hz j h0 (by omega))
    refine ⟨μ', ?_, r2, r3, f.trI r4⟩
    rw [← r1]
    show jX1_empty_51b (jX1_empty_51 N n) N l i μ = _
    unfold jX1_empty_51b
    rw [L.2.2.2.1, len_e L.2.1.1 (by decide) (by decide), ob_e, if_neg (by omega), ast_e L.2.1.1 (by omega) (by omega), ob_e, bnd_e, i_add_e (by omega) (by omega)]
    rfl
def eS (l : Int) : List (Int × Int) := [(l, 0), (l + 1, 1), (l, 1), (l, 2), (l, 3), (l, 4), (l, 5), (l, 12), (l, 13)]
theorem eKR {l : Int} (hl : lok l) {μ μ' : Mm} (f : Fr (gI l) (eS l) μ μ') (hK : KR μ) : KR μ' := by rcases hl with rfl | rfl <;> exact f.KR hK (by decide)
theorem eup {l : Int} {μ μ' : Mm} (f : Fr (gI l) (eS l) μ μ') : Fr (gI l) (hS l) μ μ' := f.mono (fun r hr => hr) (by simp [eS, hS, gS])
/-- a Laws object is empty -/
theorem empL_X {N : Nat} (hN : 1000000 ≤ N) {l : Int} (hl : lok l) {μ : Mm} (hK : KR μ) : ∃ μ', jX1_empty N l μ = some μ' ∧ LX l G0 μ' ∧ Fr (gI l) (eS l) μ μ' := by
  obtain ⟨μ9, h9⟩ : ∃ μ9, μ9 = m_st (m_st (m_st (m_st (m_st (m_st (m_st (m_st (m_st μ l 0 0) l 1 9) l 2 6) l 3 2) l 4 0) l 5 0) (l + 1) 1 0) l 12 0) l 13 0 := ⟨_, rfl⟩
  have f6 : Fr (gI l) (eS l) μ (m_st (m_st (m_st (m_st (m_st (m_st μ l 0 0) l 1 9) l 2 6) l 3 2) l 4 0) l 5 0) := ((((((Fr.stI (Fr.rf0 _ _ _) (by simp [eS])).stI (by simp [eS])).stI (by simp [eS])).stI (by simp [eS])).stI (by simp [eS])).stI (by simp [eS]))
  have f9 : Fr (gI l) (eS l) μ μ9 := by rw [h9]; exact (((f6.stI (by simp [eS])).stI (by simp [eS])).stI (by simp [eS]))
  have K9 := eKR hl f9 hK
  have L6 := LK.of (eKR hl f6 hK) hl
  obtain ⟨μ', r1, r2, r3, r4⟩ := emp_51 (N := N) hN hl 4 N 0 (μ := μ9) (by omega) (by omega) K9 (fun j h0 h1 => absurd h1 (by omega))
  have o : ∀ r i : Int, r ≠ l + 5 → r ≠ l + 6 → m_gt μ' r i = m_gt μ9 r i := fun r i n1 n2 => r4.2.2 r i (by simp; omega) (by simp)
  have ql : ¬ l = l + 1 := by omega
  refine ⟨μ', ?_, ⟨⟨?_, ?_, ?_, ?_, ?_, ?_, ?_, ?_⟩, ⟨Row.nil _ _ _, ?_, Row.nil _ _ _, Row.nil _ _ _, Row.nil _ _ _⟩, fun a a0 a1 => ?_⟩, f9.trI (r4.mono (by simp [gI]) (by simp))⟩
  · unfold jX1_empty jX0_empty
    rw [bnd_e, bnd_e, bnd_e, bnd_e, bnd_e, bnd_e, L6.2.2.1, chk_e L6.1.2.1, bnd_e, ob_e, bnd_e, bnd_e, ← h9]
    exact r1
  · rw [o _ _ (by omega) (by omega), h9]; simp [m_gt_st, ql]; rfl
  · rw [o _ _ (by omega) (by omega), h9]; simp [m_gt_st, ql]; rfl
  · rw [o _ _ (by omega) (by omega), h9]; simp [m_gt_st, ql]; rfl
  · rw [o _ _ (by omega) (by omega), h9]; simp [m_gt_st, ql]; rfl
  · rw [o _ _ (by omega) (by omega), h9]; simp [m_gt_st, ql]; rfl
  · rw [o _ _ (by omega) (by omega), h9]; simp [m_gt_st, ql]; rfl
  · rw [o _ _ (by omega) (by omega), h9]; simp [m_gt_st, ql]; rfl
  · rw [o _ _ (by omega) (by omega), h9, gt_r _ _ _ _ (by omega), gt_r _ _ _ _ (by omega), gt_same]; rfl
  · intro i hi
    have hi : i < 4 := hi
    rw [r2 _ (by omega) (by omega)]
    match i, hi with
    | 0, _ => rfl
    | 1, _ => rfl
    | 2, _ => rfl
    | 3, _ => rfl
  · rw [r3 a a0 (by omega)]
    refine ⟨by decide, by decide, fun b hb => ?_⟩
    show (0 : Nat).testBit b = false
    simp
def kS (l : Int) : List (Int × Int) := (24, 2) :: (24, 3) :: (24, 5) :: hS l
theorem kKR {l : Int} (hl : lok l) {μ μ' : Mm} (f : Fr (gI l) (kS l) μ μ') (hK : KR μ) : KR μ' := by rcases hl with rfl | rfl <;> exact f.KR hK (by decide)
theorem kup {l : Int} {μ μ' : Mm} (f : Fr (gI l) (hS l) μ μ') : Fr (gI l) (kS l) μ μ' := f.mono (fun r hr => hr) (fun p hp => Or.inl (List.mem_cons_of_mem _ (List.mem_cons_of_mem _ (List.mem_cons_of_mem _ hp))))
def RGK (l : Int) (T : List Int) (μ : Mm) (res : Option (Int × Mm)) (x : GP) : Prop := match x with
  | Sum.inr (n, G) => ∃ μ' q, res = some (1, μ') ∧ XG l T q G μ' ∧ m_gt μ' l 0 = n ∧ Fr (gI l) (kS l) μ μ'
  | Sum.inl e => ∃ μ', res = some (0, μ') ∧ FX e μ' ∧ Fr (gI l) (kS l) μ μ'
theorem IN_start (T : List Int) : IN T (SKP T 0) := IN_of (by omega) (fun z => absurd z.1.1 (by omega)) (fun z => absurd z.1.1 (by omega))
theorem read_X {N : Nat} (hN : 1000000 ≤ N) {l : Int} (hl : lok l) {T : List Int} (hT : TB T) {μ : Mm} (hK : KR μ) (ht : tpX T μ) : RGK l T μ (jX3_read N 24 1 T.length l μ) (reaS T 30 0 G0 (SKP T 0)) := by
  have hl7 := hT.1
  have n24 : (24 : Int) ≠ l := by rcases hl with rfl | rfl <;> decide
  obtain ⟨μ6, h6⟩ : ∃ μ6, μ6 = m_st (m_st (m_st (m_st (m_st (m_st μ 24 2 1) 24 3 T.length) 24 4 0) 24 0 0) 24 1 (-1)) 24 5 l := ⟨_, rfl⟩
  have f1 : Fr (gI l) (kS l) μ (m_st μ 24 2 1) := Fr.stI (Fr.rf0 _ _ _) (by simp [kS])
  have f6 : Fr (gI l) (kS l) μ μ6 := by rw [h6]; exact (((((f1.stI (by simp [kS])).stI (by simp [kS, hS, gS])).stI (by simp [kS, hS, gS])).stI (by simp [kS, hS, gS])).stI (by simp [kS]))
  have K6 := kKR hl f6 hK
  obtain ⟨μ7, e1, e2, e3⟩ := empL_X (N := N) hN hl K6
  have K7 := eKR hl e3 K6
  have s7 : ∀ i : Int, m_gt μ7 24 i = m_gt μ6 24 i := fun i => e3.2.2 24 i (by rcases hl with rfl | rfl <;> decide) (by rcases hl with rfl | rfl <;> simp [eS])
  have e01 : m_gt μ7 24 0 = 0 ∧ m_gt μ7 24 1 = -1 ∧ m_gt μ7 24 4 = ((0 : Nat) : Int) := by
    refine ⟨?_, ?_, ?_⟩
    · rw [s7, h6]; simp [m_gt_st]
    · rw [s7, h6]; simp [m_gt_st]
    · rw [s7, h6]; simp [m_gt_st]
  have g2 : m_gt μ7 24 2 = 1 := by rw [s7 2, h6]; simp [m_gt_st]
  have g3 : m_gt μ7 24 3 = T.length := by rw [s7 3, h6]; simp [m_gt_st]
  have g5 : m_gt μ7 24 5 = l := by rw [s7 5, h6]; simp [m_gt_st]
  have R7 : Row μ7 1 0 T := ht.2.ext (fun i => by
    rw [e3.2.2 1 i (by rcases hl with rfl | rfl <;> decide) (by rcases hl with rfl | rfl <;> simp [eS]), h6]
    simp only [gt_r _ _ _ _ (show (1 : Int) ≠ 24 by decide)])
  obtain ⟨μ8, a1, a2, a3⟩ := skip_X (N := N) hN hT (p := 0) (by omega) K7 g2 g3 e01.2.2 R7
  have K8 : KR μ8 := a3.KR K7 (by decide)
  have X8 : XG l T (SKP T 0) G0 μ8 := by
    refine ⟨K8, ⟨⟨⟨?_, ?_⟩, ?_⟩, a2, ?_, ?_⟩, ?_, ?_⟩
    · rw [a3.2.2 24 2 (by decide) (by decide)]; exact g2
    · rw [a3.2.2 24 1 (by decide) (by decide)]; exact e01.2.1
    · rw [a3.2.2 24 3 (by decide) (by decide)]; exact g3
    · rw [a3.2.2 24 0 (by decide) (by decide)]; exact e01.1
    · exact R7.ext (fun i => a3.2.2 1 i (by decide) (by simp))
    · rw [a3.2.2 24 5 (by decide) (by decide)]; exact g5
    · rcases hl with rfl | rfl <;> exact e2.ag (a3.ag (by decide))
  have F : Fr (gI l) (kS l) μ μ8 := f6.trI ((kup (eup e3)).trI (kup (hup (gx4 a3))))
  have o := read_loop (N := N) hN hl hT 30 N 0 (SKP T 0) G0 (by omega) (by omega) ⟨G0_ok, Nat.zero_le _, Nat.zero_le _, IN_start T⟩ X8
  have e : jX3_read N 24 1 T.length l μ = jX3_read_49 N N 24 (0 : Nat) μ8 := by
    unfold jX3_read
    have k1 : m_kd (m_st μ 24 2 1) 1 = (100, 700) := k_1 (kKR hl f1 hK)
    have m5 : m_gt μ6 24 5 = l := by rw [h6, gt_same]
    rw [bnd_e, len_e k1 (by decide) (by decide), ob_e, bnd_e, i_min_e, if_pos (by omega), bnd_e, bnd_e, bnd_e, bnd_e, ← h6, m5, chk_e (LK.of K6 hl).1.1, e1, ob_e, a1, ob_e]
    rfl
  rw [e]
  match hx : reaS T 30 0 G0 (SKP T 0), o with
  | Sum.inl e', o =>
    obtain ⟨μ9, b1, b2', b3⟩ := o
    exact ⟨μ9, b1, b2', F.trI (kup b3)⟩
  | Sum.inr (n, G), o =>
    obtain ⟨μ9, q, b1, b2', b3, b4⟩ := o
    exact ⟨μ9, q, b1, b2', b3, F.trI (kup b4)⟩
