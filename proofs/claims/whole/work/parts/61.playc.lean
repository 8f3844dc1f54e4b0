/-! ===== PURE: the calls player, meet, place ===== -/
theorem bestOf_X {N : Nat} (hN : 1000000 ≤ N) {P : Pl} {p : Int} {μ : Mm} (hK : KR μ) (hO : POK P) (hP : PX P μ) (h0 : 0 ≤ p) (h1 : p ≤ 5) : jX4_bestOf N 45 p μ = some (best (P p), μ) := by
  unfold jX4_bestOf
  have hl := (hO p h0 h1).1
  cases hP1 : P p with
  | nil =>
    have e : jX4_totalOf N 45 p 0 μ = some (0, μ) := by
      unfold jX4_totalOf
      rw [if_neg (by omega), gamesOf_X hK hP h0 h1, b2_e, hP1, if_pos (by simp)]
      rfl
    rw [e, b2_e]
    obtain ⟨n, rfl⟩ : ∃ n, N = n + 1 := ⟨N - 1, by omega⟩
    show jX4_bestOf_9b (jX4_bestOf_9 (n + 1) n) (n + 1) 45 p 0 1 μ = _
    unfold jX4_bestOf_9b
    rw [gamesOf_X hK hP h0 h1, b2_e, hP1, if_pos (by simp)]
    rfl
  | cons t r =>
    have e : jX4_totalOf N 45 p 0 μ = some (t, μ) := totalOf_X (i := 0) hK hO hP h0 h1 (by rw [hP1]; rfl)
    rw [hP1, List.length_cons] at hl
    have := best_X_loop hK hO hP h0 h1 (N := N) r.length N 1 t (by rw [hP1, List.length_cons]; omega) (by omega)
    rw [hP1] at this
    rw [e, b2_e]
    exact this
theorem greatest_loop {N : Nat} {P : Pl} {p : Int} {μ : Mm} (hK : KR μ) (hO : POK P) (hP : PM P μ) (h0 : 0 ≤ p) (h1 : p ≤ 5) : ∀ (k n i : Nat) (v : Int), i + k = (P p).length → 0 < i → k < n → jX8_greatest_4 N n 50 p v i μ = some (((P p).drop i).foldl (fun a b => if a < b then b else a) v, μ)
  | 0, n + 1, i, v, hi, hz, hn => by
    show jX8_greatest_4b (jX8_greatest_4 N n) N 50 p v i μ = _
    unfold jX8_greatest_4b
    rw [r_50_81 hK, ald_e (k_101 hK) h0 (by omega), ob_e, (hP p h0 h1).1, if_pos (by omega), List.drop_eq_nil_of_le (by omega)]
    rfl
  | k + 1, n + 1, i, v, hi, hz, hn => by
    obtain ⟨t, ht, htm, hd⟩ := drop_get (show i < (P p).length by omega)
    have hl := (hO p h0 h1).1
    have := greatest_loop hK hO hP h0 h1 (N := N) k n (i + 1) (if v < t then t else v) (by omega) (by omega) (by omega)
    show jX8_greatest_4b (jX8_greatest_4 N n) N 50 p v i μ = _
    unfold jX8_greatest_4b jX8_greatest_33 jX8_greatest_48
    rw [r_50_81 hK, ald_e (k_101 hK) h0 (by omega), ob_e, (hP p h0 h1).1, if_neg (by omega), if_neg (by omega), r_50_82 hK, i_mul_e (by omega) (by omega), i_add_e (x := 10 * p) (by omega) (by omega), ald_e (k_102 hK) (by omega) (by omega), ob_e, ob_e, (hP p h0 h1).2.get ht rfl, bnd_e, bnd_e, i_add_e (by omega) (by omega), hd, List.foldl_cons]
    by_cases c : t ≤ v
    · rw [if_pos c]
      rw [if_neg (show ¬ v < t by omega)] at this ⊢
      exact this
    · rw [if_neg c]
      rw [if_pos (show v < t by omega)] at this ⊢
      exact this
  | _ + 1, 0, _, _, _, _, hn => absurd hn (by omega)
  | 0, 0, _, _, _, _, hn => absurd hn (by omega)
theorem greatest_M {N : Nat} (hN : 1000000 ≤ N) {P : Pl} {p : Int} {μ : Mm} (hK : KR μ) (hO : POK P) (hP : PM P μ) (h0 : 0 ≤ p) (h1 : p ≤ 5) : jX8_greatest N 50 p μ = some (best (P p), μ) := by
  have hl := (hO p h0 h1).1
  obtain ⟨n, hn⟩ : ∃ n, N = n + 1 := ⟨N - 1, by omega⟩
  unfold jX8_greatest
  have st : ∀ m, jX8_greatest_4 N (m + 1) 50 p 0 0 μ = jX8_greatest_4b (jX8_greatest_4 N m) N 50 p 0 0 μ := fun _ => rfl
  have e : jX8_greatest_4 N N 50 p 0 0 μ = jX8_greatest_4b (jX8_greatest_4 N n) N 50 p 0 0 μ := by
    rw [← st, ← hn]
  rw [e]
  unfold jX8_greatest_4b
  rw [r_50_81 hK, ald_e (k_101 hK) h0 (by omega), ob_e, (hP p h0 h1).1]
  cases hP1 : P p with
  | nil => rw [if_pos (by simp)]; rfl
  | cons t r =>
    rw [hP1, List.length_cons] at hl
    have := greatest_loop hK hO hP h0 h1 (N := N) r.length n 1 t (by rw [hP1, List.length_cons]; omega) (by omega) (by omega)
    rw [hP1] at this
    unfold jX8_greatest_33 jX8_greatest_48
    rw [if_neg (by rw [List.length_cons]; omega), if_pos rfl, r_50_82 hK, i_mul_e (by omega) (by omega), i_add_e (x := 10 * p) (by omega) (by omega), ald_e (k_102 hK) (by omega) (by omega), ob_e, (hP p h0 h1).2.get (i := 0) (j := 10 * p + 0) (v := t) (by rw [hP1]; rfl) rfl, bnd_e]
    exact this
/-! answers -/
theorem ites {c : Prop} [Decidable c] {β : Type} (a b : Int) (μ : β) : (if c then some (a, μ) else some (b, μ)) = some (if c then a else b, μ) := by split <;> rfl
def plA (G : Gm) (P : Pl) (p w : Int) : Int := if 0 ≤ p ∧ p ≤ 5 then (if w = 0 then (P p).length else if w = 1 then lsum (P p) else if w = 2 then mean (P p) else if w = 3 then hcpOf G P p else if w = 4 then best (P p) else if w = 5 then meetsOf G P p else -1000000) else -1000000
def meA (G : Gm) (P : Pl) (p q : Int) : Int := if (0 ≤ p ∧ p ≤ 5) ∧ (0 ≤ q ∧ q ≤ 5) ∧ p ≠ q then meetOf G P p q else -1
def pcA (G : Gm) (P : Pl) (p : Int) : Int := if 0 ≤ p ∧ p ≤ 5 then placeOf G P p else -1
theorem hH_use {l : Int} (hl : l = 2 ∨ l = 13) {P : Pl} {μ μ' : Mm} (hK : KR μ) (hP : PX P μ) (f : Fr [l + 3, l + 4, 48] [(l + 1, 4)] μ μ') : KR μ' ∧ PX P μ' := by
  rcases hl with rfl | rfl <;> exact ⟨f.KR hK (by decide), hP.ag (f.ag (by decide))⟩
theorem player_X {N : Nat} (hN : 1000000 ≤ N) {l : Int} (hl : l = 2 ∨ l = 13) {G : Gm} (hG : COK G) {P : Pl} (hO : POK P) {p w : Int} {μ : Mm} (hK : KR μ) (h2 : m_gt μ 0 2 = l) (hL : LX l G μ) (hP : PX P μ) : ∃ μ', jX7_player N 0 p w μ = some (plA G P p w, μ') ∧ Fr [l + 3, l + 4, 48] [(l + 1, 4)] μ μ' := by
  unfold jX7_player plA
  rw [r_0_9 hK, chk_e (k_45 hK), knows_X, b2_e]
  by_cases c : 0 ≤ p ∧ p ≤ 5
  · obtain ⟨μ1, e1, e2, e3⟩ := setHandicaps_X hN hl hG hO hK hL hP
    obtain ⟨hK1, hP1⟩ := hH_use hl hK hP e3
    refine ⟨μ1, ?_, e3⟩
    rw [if_pos c, if_pos (by decide), if_pos c, r_0_9 hK, chk_e (k_45 hK), h2, e1, ob_e, r_0_9 hK1, chk_e (k_45 hK1), chk_e (k_45 hK1), chk_e (k_45 hK1), chk_e (k_45 hK1), chk_e (k_45 hK1), chk_e (k_45 hK1), gamesOf_X hK1 hP1 c.1 c.2, sumOf_X hN hK1 hO hP1 c.1 c.2, meanOf_X hN hK1 hO hP1 c.1 c.2, handicapOf_X hK1 e2 c.1 c.2, bestOf_X hN hK1 hO hP1 c.1 c.2, gathered_X hN hK1 hO hP1 e2 c.1 c.2]
    simp only [b2_e]
    simp only [ites]
  · refine ⟨μ, ?_, (Fr.rf μ).mono (by simp) (by simp)⟩
    rw [if_neg c, if_neg (by decide), if_neg c]
theorem isPlayer_M {N : Nat} {p : Int} {μ : Mm} (hp : okI p) : jX8_isPlayer N p μ = some (if 0 ≤ p ∧ p ≤ 5 then 1 else 0, μ) := by
  unfold jX8_isPlayer
  rw [i_2l_e hp.1 hp.2, isIn_M, b2_e, z_e]
  split <;> simp
theorem player_M {N : Nat} (hN : 1000000 ≤ N) {G : Gm} (hG : COK G) {P : Pl} (hO : POK P) {p w : Int} (hp : okI p) {μ : Mm} (hK : KR μ) (hL : GM G μ) (hP : PM P μ) : ∃ μ', jX8_player N 50 p w μ = some (plA G P p w, μ') ∧ Fr [88] pfs μ μ' := by
  unfold jX8_player plA
  rw [isPlayer_M hp, b2_e]
  by_cases c : 0 ≤ p ∧ p ≤ 5
  · obtain ⟨μ1, e1, e2⟩ := handicapOf_M hN hG hK hL hO hP c.1 c.2
    obtain ⟨μ2, f1, f2⟩ := meetsAll_M hN hG hO c.1 c.2 hK hL hP
    rw [if_pos c, if_pos (by decide), if_pos c, r_50_81 hK, ald_e (k_101 hK) c.1 (by omega), ob_e, (hP p c.1 c.2).1, sumOf_M hN hK hO hP c.1 c.2, meanOf_M hN hK hO hP c.1 c.2, e1, greatest_M hN hK hO hP c.1 c.2, f1]
    simp only [b2_e]
    by_cases c0 : w = 0
    · exact ⟨μ, by rw [if_pos c0, if_pos c0], (Fr.rf μ).mono (by decide) (by decide)⟩
    rw [if_neg c0, if_neg c0]
    by_cases c0 : w = 1
    · exact ⟨μ, by rw [if_pos c0, if_pos c0], (Fr.rf μ).mono (by decide) (by decide)⟩
    rw [if_neg c0, if_neg c0]
    by_cases c0 : w = 2
    · exact ⟨μ, by rw [if_pos c0, if_pos c0], (Fr.rf μ).mono (by decide) (by decide)⟩
    rw [if_neg c0, if_neg c0]
    by_cases c0 : w = 3
    · exact ⟨μ1, by rw [if_pos c0, if_pos c0], e2⟩
    rw [if_neg c0, if_neg c0]
    by_cases c0 : w = 4
    · exact ⟨μ, by rw [if_pos c0, if_pos c0], (Fr.rf μ).mono (by decide) (by decide)⟩
    rw [if_neg c0, if_neg c0]
    by_cases c0 : w = 5
    · exact ⟨μ2, by rw [if_pos c0, if_pos c0], f2⟩
    rw [if_neg c0, if_neg c0]
    exact ⟨μ, rfl, (Fr.rf μ).mono (by decide) (by decide)⟩
  · refine ⟨μ, ?_, (Fr.rf μ).mono (by decide) (by decide)⟩
    rw [if_neg c, if_neg (by decide), if_neg c]
theorem meet_X {N : Nat} (hN : 1000000 ≤ N) {l : Int} (hl : l = 2 ∨ l = 13) {G : Gm} (hG : COK G) {P : Pl} (hO : POK P) {p q : Int} {μ : Mm} (hK : KR μ) (h2 : m_gt μ 0 2 = l) (hL : LX l G μ) (hP : PX P μ) : ∃ μ', jX7_meet N 0 p q μ = some (meA G P p q, μ') ∧ Fr [l + 3, l + 4, 48] [(l + 1, 4)] μ μ' := by
  unfold jX7_meet meA
  rw [r_0_9 hK, chk_e (k_45 hK), knows_X, b2_e, r_0_9 hK, chk_e (k_45 hK), knows_X, b2_e]
  by_cases c : (0 ≤ p ∧ p ≤ 5) ∧ (0 ≤ q ∧ q ≤ 5) ∧ p ≠ q
  · obtain ⟨μ1, e1, e2, e3⟩ := setHandicaps_X hN hl hG hO hK hL hP
    obtain ⟨hK1, hP1⟩ := hH_use hl hK hP e3
    refine ⟨μ1, ?_, e3⟩
    rw [if_pos c.1, if_neg (by decide), if_pos c.2.1, if_neg (by decide), if_pos c.2.2, if_pos c, r_0_9 hK, chk_e (k_45 hK), h2, e1, ob_e, r_0_9 hK1, chk_e (k_45 hK1), meeting_X hN hK1 hO hP1 e2 c.1.1 c.1.2 c.2.1.1 c.2.1.2, b2_e]
  · refine ⟨μ, ?_, (Fr.rf μ).mono (by simp) (by simp)⟩
    rw [if_neg c]
    unfold jX7_meet_27
    by_cases c1 : 0 ≤ p ∧ p ≤ 5
    · rw [if_pos c1, if_neg (by decide)]
      by_cases c2 : 0 ≤ q ∧ q ≤ 5
      · rw [if_pos c2, if_neg (by decide), if_neg (fun z => c ⟨c1, c2, z⟩)]
      · rw [if_neg c2, if_pos rfl]
    · rw [if_neg c1, if_pos rfl]
theorem meet_M {N : Nat} (hN : 1000000 ≤ N) {G : Gm} (hG : COK G) {P : Pl} (hO : POK P) {p q : Int} (hp : okI p) (hq : okI q) {μ : Mm} (hK : KR μ) (hL : GM G μ) (hP : PM P μ) : ∃ μ', jX8_meet N 50 p q μ = some (meA G P p q, μ') ∧ Fr [88] pfs μ μ' := by
  unfold jX8_meet meA
  rw [isPlayer_M hp, b2_e, isPlayer_M hq, b2_e]
  by_cases c : (0 ≤ p ∧ p ≤ 5) ∧ (0 ≤ q ∧ q ≤ 5) ∧ p ≠ q
  · obtain ⟨μ1, e1, e2⟩ := meets_M hN hG hK hL hO hP c.1.1 c.1.2 c.2.1.1 c.2.1.2
    refine ⟨μ1, ?_, e2⟩
    rw [if_pos c.1, if_neg (by decide), if_pos c.2.1, if_neg (by decide), if_neg c.2.2, if_pos c, e1, b2_e]
    rfl
  · refine ⟨μ, ?_, (Fr.rf μ).mono (by decide) (by decide)⟩
    rw [if_neg c]
    unfold jX8_meet_28 jX8_meet_29
    by_cases c1 : 0 ≤ p ∧ p ≤ 5
    · rw [if_pos c1, if_neg (by decide)]
      by_cases c2 : 0 ≤ q ∧ q ≤ 5
      · rw [if_pos c2, if_neg (by decide), if_pos (Classical.byContradiction fun z => c ⟨c1, c2, z⟩)]
      · rw [if_neg c2, if_pos rfl]
    · rw [if_neg c1, if_pos rfl]
theorem place_X {N : Nat} (hN : 1000000 ≤ N) {l : Int} (hl : l = 2 ∨ l = 13) {G : Gm} (hG : COK G) {P : Pl} (hO : POK P) {p : Int} {μ : Mm} (hK : KR μ) (h2 : m_gt μ 0 2 = l) (hL : LX l G μ) (hP : PX P μ) : ∃ μ', jX7_place N 0 p μ = some (pcA G P p, μ') ∧ Fr [l + 3, l + 4, 48] [(l + 1, 4)] μ μ' := by
  unfold jX7_place pcA
  rw [r_0_9 hK, chk_e (k_45 hK), knows_X, b2_e]
  by_cases c : 0 ≤ p ∧ p ≤ 5
  · obtain ⟨μ1, e1, e2, e3⟩ := setHandicaps_X hN hl hG hO hK hL hP
    obtain ⟨hK1, hP1⟩ := hH_use hl hK hP e3
    refine ⟨μ1, ?_, e3⟩
    rw [if_pos c, if_pos (by decide), if_pos c, r_0_9 hK, chk_e (k_45 hK), h2, e1, ob_e, r_0_9 hK1, chk_e (k_45 hK1), countAhead_X hN hK1 hO hP1 e2 c.1 c.2, b2_e]
  · refine ⟨μ, ?_, (Fr.rf μ).mono (by simp) (by simp)⟩
    rw [if_neg c, if_neg (by decide), if_neg c]
theorem place_M {N : Nat} (hN : 1000000 ≤ N) {G : Gm} (hG : COK G) {P : Pl} (hO : POK P) {p : Int} (hp : okI p) {μ : Mm} (hK : KR μ) (hL : GM G μ) (hP : PM P μ) : ∃ μ', jX8_place N 50 p μ = some (pcA G P p, μ') ∧ Fr [88] pfs μ μ' := by
  unfold jX8_place pcA
  rw [isPlayer_M hp, b2_e]
  by_cases c : 0 ≤ p ∧ p ≤ 5
  · obtain ⟨μ1, e1, e2⟩ := meetsAll_M hN hG hO c.1 c.2 hK hL hP
    obtain ⟨μ2, f1, f2⟩ := place_loop hN hG hO (p := p) 6 N 0 (by omega) (by omega) (e2.KR hK (by decide)) (hL.ag (e2.ag (by decide))) (hP.ag (e2.ag (by decide)))
    refine ⟨μ2, ?_, (e2.tr f2).mono (by decide) (by decide)⟩
    rw [if_pos c, if_pos (by decide), if_pos c, e1, b2_e]
    exact f1
  · refine ⟨μ, ?_, (Fr.rf μ).mono (by decide) (by decide)⟩
    rw [if_neg c, if_neg (by decide), if_neg c]
