/-! ===== PURE: feed, end ===== -/
theorem bv_and255 (a : BitVec 32) (s : Nat) (hs : s ≤ 24) : a.sshiftRight s &&& 255#32 = (a >>> s) &&& 255#32 := by
  apply BitVec.eq_of_getLsbD_eq
  intro i hi
  rw [BitVec.getLsbD_and, BitVec.getLsbD_and, BitVec.getLsbD_sshiftRight, BitVec.getLsbD_ushiftRight]
  by_cases h8 : i < 8
  · have h1 : s + i < 32 := by omega
    simp [hi, h1, show ¬ 32 ≤ i by omega]
  · have : (255#32).getLsbD i = false := by
      have : ∀ i, i < 32 → ¬ i < 8 → (255#32).getLsbD i = false := by decide
      exact this i hi h8
    rw [this, Bool.and_false, Bool.and_false]
theorem shr_and (w s : Int) (h : s = 0 ∨ s = 8 ∨ s = 16 ∨ s = 24) : i_and (i_shr w s) 255 = i_and (i_ushr w s) 255 := by
  unfold i_and i_shr i_ushr
  rw [Int32.ofInt_toInt, Int32.ofInt_toInt]
  congr 1
  apply Int32.toBitVec_inj.mp
  generalize Int32.ofInt w = a
  rcases h with rfl | rfl | rfl | rfl
  · exact bv_and255 a.toBitVec 0 (by omega)
  · exact bv_and255 a.toBitVec 8 (by omega)
  · exact bv_and255 a.toBitVec 16 (by omega)
  · exact bv_and255 a.toBitVec 24 (by omega)
/-- bytes put behind one another -/
def pX (μ : Mm) (n : Int) : List Int → Mm
  | [] => μ
  | v :: l => pX (m_st (m_st μ 1 n v) 0 1 (n + 1)) (n + 1) l
def pM (μ : Mm) (n : Int) : List Int → Mm
  | [] => μ
  | v :: l => pM (m_st (m_st μ 51 n v) 50 1 (n + 1)) (n + 1) l
theorem pX_ok : ∀ (l : List Int) {T : List Int} {μ : Mm}, tpX T μ → tpX (T ++ l) (pX μ T.length l) ∧ Fr [1] [(0, 1)] μ (pX μ T.length l)
  | [], T, μ, h => ⟨by rw [List.append_nil]; exact h, (Fr.rf μ).mono (by decide) (by decide)⟩
  | v :: l, T, μ, h => by
    obtain ⟨h1, h2⟩ := pX_ok l (tpX_push h v)
    rw [List.length_append, List.length_singleton] at h1 h2
    have e : ((T.length + 1 : Nat) : Int) = (T.length : Int) + 1 := by omega
    rw [e] at h1 h2
    refine ⟨by rw [List.append_assoc] at h1; exact h1, ?_⟩
    exact (((Fr.sa μ 1 T.length v).tr (Fr.st _ 0 1 _)).tr h2).mono (by decide) (by decide)
theorem pM_ok : ∀ (l : List Int) {T : List Int} {μ : Mm}, tpM T μ → tpM (T ++ l) (pM μ T.length l) ∧ Fr [51] [(50, 1)] μ (pM μ T.length l)
  | [], T, μ, h => ⟨by rw [List.append_nil]; exact h, (Fr.rf μ).mono (by decide) (by decide)⟩
  | v :: l, T, μ, h => by
    obtain ⟨h1, h2⟩ := pM_ok l (tpM_push h v)
    rw [List.length_append, List.length_singleton] at h1 h2
    have e : ((T.length + 1 : Nat) : Int) = (T.length : Int) + 1 := by omega
    rw [e] at h1 h2
    refine ⟨by rw [List.append_assoc] at h1; exact h1, ?_⟩
    exact (((Fr.sa μ 51 T.length v).tr (Fr.st _ 50 1 _)).tr h2).mono (by decide) (by decide)
theorem app_step {N n : Nat} {w sh : Int} {T : List Int} {μ : Mm} (hK : KR μ) (hT : tpX T μ) (hl : T.length < 700) (h0 : 0 ≤ sh) : jX7_append_3 N (n + 1) 0 w sh μ = jX7_append_3 N n 0 w (i_add sh (-8)) (m_st (m_st μ 1 T.length (i_and (i_ushr w sh) 255)) 0 1 (T.length + 1)) := by
  show jX7_append_3b _ _ _ _ _ _ = _
  unfold jX7_append_3b
  rw [if_neg (by omega), hT.1, if_neg (by omega), r_0_0 hK, ast_e (k_1 hK) (by omega) (by omega), ob_e, bnd_e, bnd_e, gt_r _ _ _ _ (by decide), hT.1, i_add_e (x := (T.length : Int)) (y := 1) (by omega) (by omega)]
theorem app_X {N n : Nat} (hn : 5 ≤ n) {w : Int} {T : List Int} {μ : Mm} (hK : KR μ) (hT : tpX T μ) (hl : T.length + 4 ≤ 700) : jX7_append_3 N n 0 w 24 μ = some (pX μ T.length (bytes w)) := by
  obtain ⟨m, rfl⟩ : ∃ m, n = m + 5 := ⟨n - 5, by omega⟩
  have g1 := tpX_push hT (byt w 3)
  have K1 : KR (m_st (m_st μ 1 T.length (byt w 3)) 0 1 (T.length + 1)) := (hK.sa _ _ (by decide)).st _ (by decide)
  have g2 := tpX_push g1 (byt w 2)
  have g3 := tpX_push g2 (byt w 1)
  simp only [List.length_append, List.length_singleton] at g2 g3
  rw [app_step hK hT (by omega) (by omega), show i_add 24 (-8) = 16 from rfl]
  have e1 := app_step (N := N) (n := m + 3) (w := w) (sh := 16) K1 g1 (by simp; omega) (by omega)
  simp only [List.length_append, List.length_singleton] at e1
  have K2 := (K1.sa (r := 1) (T.length + 1 : Nat) (byt w 2) (by decide)).st (r := 0) (i := 1) ((T.length + 1 : Nat) + 1 : Int) (by decide)
  have e2 := app_step (N := N) (n := m + 2) (w := w) (sh := 8) K2 g2 (by simp; omega) (by omega)
  simp only [List.length_append, List.length_singleton] at e2
  have K3 := (K2.sa (r := 1) (T.length + 1 + 1 : Nat) (byt w 1) (by decide)).st (r := 0) (i := 1) ((T.length + 1 + 1 : Nat) + 1 : Int) (by decide)
  have e3 := app_step (N := N) (n := m + 1) (w := w) (sh := 0) K3 g3 (by simp; omega) (by omega)
  simp only [List.length_append, List.length_singleton] at e3
  rw [show i_add 16 (-8) = 8 from rfl] at e1
  rw [show i_add 8 (-8) = 0 from rfl] at e2
  rw [show i_add 0 (-8) = -8 from rfl] at e3
  refine e1.trans (e2.trans (e3.trans ?_))
  show jX7_append_3b _ _ _ _ _ _ = _
  unfold jX7_append_3b
  rw [if_pos (by omega)]
  have c1 : ((T.length + 1 : Nat) : Int) = (T.length : Int) + 1 := by omega
  have c2 : ((T.length + 1 + 1 : Nat) : Int) = (T.length : Int) + 1 + 1 := by omega
  have c3 : ((T.length + 1 + 1 + 1 : Nat) : Int) = (T.length : Int) + 1 + 1 + 1 := by omega
  simp only [jX7_append_49, bytes, pX, c1, c2, c3]
  rfl
/-- one int behind another on the tape -/
theorem app2_X {N : Nat} (hN : 1000000 ≤ N) {w : Int} {T : List Int} {μ : Mm} (hK : KR μ) (hT : tpX T μ) (hl : T.length + 4 ≤ 700) : ∃ μ', jX7_append N 0 w μ = some μ' ∧ KR μ' ∧ tpX (T ++ bytes w) μ' ∧ Fr [1] [(0, 1)] μ μ' := by
  obtain ⟨h1, h2⟩ := pX_ok (bytes w) hT
  exact ⟨_, app_X (by omega) hK hT hl, h2.KR hK (by decide), h1, h2⟩
def fed (a b c d e : Int) : List Int := bytes a ++ bytes b ++ bytes c ++ bytes d ++ bytes e
theorem fed_ok (a b c d e : Int) : (fed a b c d e).length = 20 ∧ ∀ x ∈ fed a b c d e, 0 ≤ x ∧ x ≤ 255 := by
  refine ⟨rfl, fun x hx => ?_⟩
  simp only [fed, List.mem_append] at hx
  rcases hx with (((hx | hx) | hx) | hx) | hx <;> exact bytes_ok _ x hx
theorem feed_X {N : Nat} (hN : 1000000 ≤ N) {a b c d e : Int} {T : List Int} {μ : Mm} (hK : KR μ) (hT : tpX T μ) (hl : T.length ≤ 700) : ∃ r μ', jX7_feed N 0 a b c d e μ = some (r, μ') ∧ r = (if T.length + 20 ≤ 700 then (T.length : Int) + 20 else -1) ∧ tpX (if T.length + 20 ≤ 700 then T ++ fed a b c d e else T) μ' ∧ Fr [1] [(0, 1)] μ μ' := by
  unfold jX7_feed
  rw [hT.1, i_add_e (by omega) (by omega)]
  by_cases q : T.length + 20 ≤ 700
  · rw [if_pos (by omega), if_pos q, if_pos q]
    obtain ⟨μ1, e1, K1, t1, f1⟩ := app2_X hN (w := a) hK hT (by omega)
    obtain ⟨μ2, e2, K2, t2, f2⟩ := app2_X hN (w := b) K1 t1 (by simp [bytes]; omega)
    obtain ⟨μ3, e3, K3, t3, f3⟩ := app2_X hN (w := c) K2 t2 (by simp [bytes]; omega)
    obtain ⟨μ4, e4, K4, t4, f4⟩ := app2_X hN (w := d) K3 t3 (by simp [bytes]; omega)
    obtain ⟨μ5, e5, K5, t5, f5⟩ := app2_X hN (w := e) K4 t4 (by simp [bytes]; omega)
    rw [e1, ob_e, e2, ob_e, e3, ob_e, e4, ob_e, e5, ob_e]
    have e6 : T ++ bytes a ++ bytes b ++ bytes c ++ bytes d ++ bytes e = T ++ fed a b c d e := by simp [fed]
    rw [e6] at t5
    refine ⟨_, _, rfl, ?_, t5, ((((f1.tr f2).tr f3).tr f4).tr f5).mono (by decide) (by decide)⟩
    rw [t5.1, List.length_append, (fed_ok a b c d e).1]
    omega
  · rw [if_neg (by omega), if_neg q, if_neg q]
    exact ⟨_, _, rfl, rfl, hT, (Fr.rf μ).mono (by decide) (by decide)⟩
theorem feedM_step {N n : Nat} {a b c d e k s v : Int} {T : List Int} {μ : Mm} (hK : KR μ) (hT : tpM T μ) (hl : T.length < 700) (h0 : 0 ≤ k ∧ k < 20) (hs : s = (if k < 4 then a else if k < 8 then b else if k < 12 then c else if k < 16 then d else e)) (hv : v = byt s (3 - k % 4)) : jX8_feed_18 N (n + 1) 50 a b c d e k μ = jX8_feed_18 N n 50 a b c d e (k + 1) (m_st (m_st μ 51 T.length v) 50 1 (T.length + 1)) := by
  have key : jX8_feed_71 (jX8_feed_18 N n) N 50 a b c d e k s μ = jX8_feed_18 N n 50 a b c d e (k + 1) (m_st (m_st μ 51 T.length v) 50 1 (T.length + 1)) := by
    unfold jX8_feed_71
    rw [i_rem_p h0.1 (by omega) (by omega) (by omega), i_sub_e (by omega) (by omega), i_mul_e (by omega) (by omega), shr_and _ _ (by omega), hT.1, r_50_0 hK, ast_e (k_51 hK) (by omega) (by omega), ob_e, bnd_e, bnd_e, gt_r _ _ _ _ (by decide), hT.1, i_add_e (x := (T.length : Int)) (y := 1) (by omega) (by omega), i_add_e (x := k) (y := 1) (by omega) (by omega), hv]
    rfl
  rw [← key]
  show jX8_feed_18b _ _ _ _ _ _ _ _ _ _ = _
  unfold jX8_feed_18b
  rw [if_neg (by omega), hs]
  by_cases q4 : k < 4
  · rw [if_neg (by omega), if_pos q4]
  · rw [if_pos (by omega), if_neg q4]
    by_cases q8 : k < 8
    · rw [if_neg (by omega), if_pos q8]
    · rw [if_pos (by omega), if_neg q8]
      by_cases q12 : k < 12
      · rw [if_neg (by omega), if_pos q12]
      · rw [if_pos (by omega), if_neg q12]
        by_cases q16 : k < 16
        · rw [if_neg (by omega), if_pos q16]
        · rw [if_pos (by omega), if_neg q16]
theorem fed_at (a b c d e : Int) : ∀ k : Nat, k < 20 → (fed a b c d e).getD k 0 = byt (if (k : Int) < 4 then a else if (k : Int) < 8 then b else if (k : Int) < 12 then c else if (k : Int) < 16 then d else e) (3 - (k : Int) % 4)
  | 0, _ => rfl | 1, _ => rfl | 2, _ => rfl | 3, _ => rfl | 4, _ => rfl | 5, _ => rfl | 6, _ => rfl | 7, _ => rfl | 8, _ => rfl | 9, _ => rfl
  | 10, _ => rfl | 11, _ => rfl | 12, _ => rfl | 13, _ => rfl | 14, _ => rfl | 15, _ => rfl | 16, _ => rfl | 17, _ => rfl | 18, _ => rfl | 19, _ => rfl
  | n + 20, h => absurd h (by omega)
theorem feedM_loop {N : Nat} {a b c d e : Int} : ∀ (j n k : Nat) {T : List Int} {μ : Mm}, k + j = 20 → j < n → KR μ → tpM T μ → T.length + j ≤ 700 → ∃ μ', jX8_feed_18 N n 50 a b c d e k μ = some ((T.length : Int) + j, μ') ∧ tpM (T ++ (fed a b c d e).drop k) μ' ∧ Fr [51] [(50, 1)] μ μ'
  | 0, n + 1, k, T, μ, hk, hn, hK, hT, hl => by
    have : k = 20 := by omega
    subst this
    refine ⟨μ, ?_, by rw [List.drop_eq_nil_of_le (by rw [(fed_ok a b c d e).1]; omega), List.append_nil]; exact hT, (Fr.rf μ).mono (by decide) (by decide)⟩
    show jX8_feed_18b _ _ _ _ _ _ _ _ _ _ = _
    unfold jX8_feed_18b
    rw [if_pos (by omega), hT.1]
    simp
  | j + 1, n + 1, k, T, μ, hk, hn, hK, hT, hl => by
    rw [feedM_step (v := (fed a b c d e).getD k 0) hK hT (by omega) (by omega) rfl (fed_at a b c d e k (by omega))]
    have hT2 := tpM_push hT ((fed a b c d e).getD k 0)
    have hK2 := (hK.sa (r := 51) T.length ((fed a b c d e).getD k 0) (by decide)).st (r := 50) (i := 1) ((T.length : Int) + 1) (by decide)
    obtain ⟨μ', e1, e2, e3⟩ := feedM_loop j n (k + 1) (by omega) (by omega) hK2 hT2 (by simp; omega)
    rw [show ((k + 1 : Nat) : Int) = (k : Int) + 1 by omega] at e1
    refine ⟨μ', ?_, ?_, (((Fr.sa μ 51 T.length _).tr (Fr.st _ 50 1 _)).tr e3).mono (by decide) (by decide)⟩
    · rw [e1]
      simp only [List.length_append, List.length_singleton]
      congr 2
      omega
    · have hk2 : k < (fed a b c d e).length := by rw [(fed_ok a b c d e).1]; omega
      rw [List.drop_eq_getElem_cons hk2]
      rw [List.append_assoc, List.getD_eq_getElem?_getD, List.getElem?_eq_getElem hk2] at e2
      exact e2
  | _ + 1, 0, _, _, _, _, hn, _, _, _ => absurd hn (by omega)
  | 0, 0, _, _, _, _, hn, _, _, _ => absurd hn (by omega)
theorem feed_M {N : Nat} (hN : 1000000 ≤ N) {a b c d e : Int} {T : List Int} {μ : Mm} (hK : KR μ) (hT : tpM T μ) (hl : T.length ≤ 700) : ∃ r μ', jX8_feed N 50 a b c d e μ = some (r, μ') ∧ r = (if T.length + 20 ≤ 700 then (T.length : Int) + 20 else -1) ∧ tpM (if T.length + 20 ≤ 700 then T ++ fed a b c d e else T) μ' ∧ Fr [51] [(50, 1)] μ μ' := by
  unfold jX8_feed
  rw [hT.1, i_add_e (by omega) (by omega)]
  by_cases q : T.length + 20 ≤ 700
  · rw [if_pos (by omega), if_pos q, if_pos q]
    obtain ⟨μ', e1, e2, e3⟩ := feedM_loop (N := N) (a := a) (b := b) (c := c) (d := d) (e := e) 20 N 0 rfl (by omega) hK hT (by omega)
    exact ⟨_, _, e1, rfl, e2, e3⟩
  · rw [if_neg (by omega), if_neg q, if_neg q]
    exact ⟨_, _, rfl, rfl, hT, (Fr.rf μ).mono (by decide) (by decide)⟩
theorem end_X {N : Nat} {n : Int} {T : List Int} {μ : Mm} (hT : tpX T μ) : ∃ r μ', jX7_end N 0 n μ = some (r, μ') ∧ r = (if 0 ≤ n ∧ n ≤ T.length then 1 else 0) ∧ tpX (if 0 ≤ n ∧ n ≤ T.length then T.take n.toNat else T) μ' ∧ Fr [] [(0, 1)] μ μ' := by
  unfold jX7_end
  rw [hT.1]
  by_cases q : 0 ≤ n ∧ n ≤ T.length
  · rw [if_neg (by omega), if_pos q.2, if_pos q, if_pos q, bnd_e]
    refine ⟨_, _, rfl, rfl, ⟨?_, (hT.2.take _).fr (Fr.st _ 0 1 _) (by decide) (fun q hq => by rw [List.mem_singleton.mp hq]; decide)⟩, Fr.st _ _ _ _⟩
    rw [gt_same, List.length_take]
    omega
  · rw [if_neg q, if_neg q]
    by_cases q0 : n < 0
    · rw [if_pos q0]; exact ⟨_, _, rfl, rfl, hT, (Fr.rf μ).mono (by decide) (by decide)⟩
    · rw [if_neg q0, if_neg (by omega)]; exact ⟨_, _, rfl, rfl, hT, (Fr.rf μ).mono (by decide) (by decide)⟩
theorem end_M {N : Nat} {n : Int} {T : List Int} {μ : Mm} (hT : tpM T μ) : ∃ r μ', jX8_end N 50 n μ = some (r, μ') ∧ r = (if 0 ≤ n ∧ n ≤ T.length then 1 else 0) ∧ tpM (if 0 ≤ n ∧ n ≤ T.length then T.take n.toNat else T) μ' ∧ Fr [] [(50, 1)] μ μ' := by
  unfold jX8_end
  rw [hT.1]
  by_cases q : 0 ≤ n ∧ n ≤ T.length
  · rw [if_neg (by omega), if_pos q.2, if_pos q, if_pos q, bnd_e]
    refine ⟨_, _, rfl, rfl, ⟨?_, (hT.2.take _).fr (Fr.st _ 50 1 _) (by decide) (fun q hq => by rw [List.mem_singleton.mp hq]; decide)⟩, Fr.st _ _ _ _⟩
    rw [gt_same, List.length_take]
    omega
  · rw [if_neg q, if_neg q]
    by_cases q0 : n < 0
    · rw [if_pos q0]; exact ⟨_, _, rfl, rfl, hT, (Fr.rf μ).mono (by decide) (by decide)⟩
    · rw [if_neg q0, if_neg (by omega)]; exact ⟨_, _, rfl, rfl, hT, (Fr.rf μ).mono (by decide) (by decide)⟩
