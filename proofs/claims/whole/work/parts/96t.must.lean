/-! ===== PURE: must of the reference ===== -/
theorem isIn_i_p {N : Nat} {v : Int} {μ : Mm} (hv : okI v) : jX8_isIn N (i_2l v) 0 1059 μ = some (if 0 ≤ v ∧ v ≤ 1059 then 1 else 0, μ) := by rw [i_2l_e hv.1 hv.2, isIn_M]
/-- some sheet goes through: reached by what is owed, and what may come behind -/
def thr (P : Int → Prop) (B : List Int) (g n : Int) (a : Bool) : Prop := if a then (∃ s, P s) ∧ B ≠ [] else ∃ s, P s ∧ n - s - g ∈ B
theorem thr_loop {N : Nat} {f : Int} {o o' : Ow} (ho : OwOK o) (ho' : OwOK o') (hf : 0 ≤ f ∧ f ≤ 7) {g n : Int} (hg : -60 ≤ g ∧ g ≤ 60) {a : Bool} (hn : a = false → -920 ≤ n ∧ n ≤ 2120) {P : Ow → Int → Prop} {B : List Int} (hP : ∀ o s, P o s → -400 ≤ s ∧ s ≤ 400) (hB : ∀ b ∈ B, -460 ≤ b ∧ b < 600) {μ : Mm} (hK : KR μ) (h75 : m_gt μ 50 75 = g) (h99 : RB 99 P μ) (hT : TR 96 (f + 1) o' B μ) : ∀ (k m i : Nat) (u v : Int), i + k = 1060 → k < m → (¬ u = 0 ↔ ∃ s, s < (i : Int) - 460 ∧ P o s) → (¬ v = 0 ↔ ∃ s, s < (i : Int) - 460 ∧ s ∈ B) → (a = false → ∀ s, s < (i : Int) - 460 → P o s → ¬ n - s - g ∈ B) → ∃ x, jX8_isThrough_31 N m 50 n (if a then 1 else 0) (enc o * 1060) (cel (f + 1) o' (-460)) u v i μ = some (x, μ) ∧ (x = 0 ∨ x = 1) ∧ (x = 1 ↔ thr (P o) B g n a)
  | k, 0, i, u, v, hi, hm, _, _, _ => absurd hm (by omega)
  | 0, m + 1, i, u, v, hi, hm, hu, hv, hz => by
    have eu : (¬ u = 0) ↔ ∃ s, P o s := hu.trans ⟨fun ⟨s, _, q⟩ => ⟨s, q⟩, fun ⟨s, q⟩ => ⟨s, by have := hP _ _ q; omega, q⟩⟩
    have ev : (¬ v = 0) ↔ B ≠ [] := hv.trans ⟨fun ⟨s, _, q⟩ => List.ne_nil_of_mem q, fun q => by obtain ⟨s, hs⟩ := ex_mem q; exact ⟨s, by have := hB s hs; omega, hs⟩⟩
    show ∃ x, jX8_isThrough_31b (jX8_isThrough_31 N m) N 50 n (if a then 1 else 0) (enc o * 1060) (cel (f + 1) o' (-460)) u v i μ = some (x, μ) ∧ _
    unfold jX8_isThrough_31b jX8_isThrough_183 jX8_isThrough_184
    rw [if_pos (by omega)]
    cases a with
    | false =>
      rw [if_pos (show (if false = true then (1 : Int) else 0) = 0 by decide), z_e (Or.inl rfl)]
      refine ⟨0, rfl, Or.inl rfl, fun z => by omega, fun z => ?_⟩
      unfold thr at z
      rw [if_neg (by decide)] at z
      obtain ⟨s, q1, q2⟩ := z
      exact absurd q2 (hz rfl s (by have := hP _ _ q1; omega) q1)
    | true =>
      rw [if_neg (show ¬ (if true = true then (1 : Int) else 0) = 0 by decide)]
      unfold thr
      rw [if_pos rfl]
      by_cases c1 : u = 0
      · rw [if_pos c1, z_e (Or.inl rfl)]
        exact ⟨0, rfl, Or.inl rfl, fun z => by omega, fun z => absurd c1 (eu.mpr z.1)⟩
      · rw [if_neg c1]
        by_cases c2 : v = 0
        · rw [if_pos c2, z_e (Or.inl rfl)]
          exact ⟨0, rfl, Or.inl rfl, fun z => by omega, fun z => absurd c2 (ev.mpr z.2)⟩
        · rw [if_neg c2, z_e (Or.inr rfl)]
          exact ⟨1, rfl, Or.inr rfl, fun _ => ⟨eu.mp c1, ev.mp c2⟩, fun _ => rfl⟩
  | k + 1, m + 1, i, u, v, hi, hm, hu, hv, hz => by
    have e1 := enc_ok ho
    have e2 := enc_ok ho'
    have c1 : enc o * 1060 + i = cel 0 o ((i : Int) - 460) := by unfold cel; omega
    have hb := h99.2 o ho ((i : Int) - 460) (by omega) (by omega)
    have h01 := h99.1 (cel 0 o ((i : Int) - 460)) (by unfold cel; omega) (by unfold cel; omega)
    have b1 : 0 ≤ cel (f + 1) o' (-460) ∧ cel (f + 1) o' (-460) + 1060 ≤ 228960 := by unfold cel; omega
    have c2 : cel (f + 1) o' (-460) + i = cel (f + 1) o' ((i : Int) - 460) := by unfold cel; omega
    have hv1 := hT ((i : Int) - 460) (by omega) (by omega)
    have hBi : 0 < cB B ((i : Int) - 460) ↔ (i : Int) - 460 ∈ B := ⟨cB_mem, fun q => by unfold cB; rw [List.countP_pos_iff]; exact ⟨_, q, decide_eq_true rfl⟩⟩
    have a99 : m_ald 102 μ (m_gt μ 50 79) (i_add (enc o * 1060) i) = some (m_gt μ 99 (cel 0 o ((i : Int) - 460))) := by
      rw [r_50_79 hK, i_add_e (by omega) (by omega), ald_e (k_99 hK) (by omega) (by omega), c1]
    have a96 : m_ald 101 μ (m_gt μ 50 71) (i_add (cel (f + 1) o' (-460)) i) = some (mnI CM (cB B ((i : Int) - 460))) := by
      rw [r_50_71 hK, i_add_e (by omega) (by omega), ald_e (k_96 hK) (by omega) (by omega), c2, hv1]
    -- the third step: goes on, or is through
    have s3 : ∀ u' v' : Int, (¬ u' = 0 ↔ ∃ s, s < (i : Int) + 1 - 460 ∧ P o s) → (¬ v' = 0 ↔ ∃ s, s < (i : Int) + 1 - 460 ∧ s ∈ B) → ∃ x, jX8_isThrough_89 (jX8_isThrough_31 N m) N 50 n (if a then 1 else 0) (enc o * 1060) (cel (f + 1) o' (-460)) u' i v' μ = some (x, μ) ∧ (x = 0 ∨ x = 1) ∧ (x = 1 ↔ thr (P o) B g n a) := by
      intro u' v' hu' hv'
      have go : (a = false → P o ((i : Int) - 460) → ¬ n - ((i : Int) - 460) - g ∈ B) → ∃ x, jX8_isThrough_158 (jX8_isThrough_31 N m) N 50 n (if a then 1 else 0) (enc o * 1060) (cel (f + 1) o' (-460)) u' v' i μ = some (x, μ) ∧ (x = 0 ∨ x = 1) ∧ (x = 1 ↔ thr (P o) B g n a) := by
        intro hq
        obtain ⟨x, r1, r2⟩ := thr_loop (N := N) ho ho' hf hg hn hP hB hK h75 h99 hT k m (i + 1) u' v' (by omega) (by omega) (by rw [show ((i + 1 : Nat) : Int) - 460 = (i : Int) + 1 - 460 by omega]; exact hu') (by rw [show ((i + 1 : Nat) : Int) - 460 = (i : Int) + 1 - 460 by omega]; exact hv') (fun ha s hs hp => by
          by_cases c : s < (i : Int) - 460
          · exact hz ha s c hp
          · have es : s = (i : Int) - 460 := by omega
            rw [es] at hp ⊢
            exact hq ha hp)
        refine ⟨x, ?_, r2⟩
        unfold jX8_isThrough_158
        rw [bnd_e, i_add_e (by omega) (by omega)]
        exact r1
      unfold jX8_isThrough_89
      rw [bnd_e, h75]
      cases a with
      | true =>
        rw [if_pos (show ¬ (if true = true then (1 : Int) else 0) = 0 by decide)]
        exact go (fun z => by cases z)
      | false =>
        have hn' := hn rfl
        rw [if_neg (show ¬ ¬ (if false = true then (1 : Int) else 0) = 0 by decide), a99, ob_e]
        have ex : i_add (i_sub n (i_add (i_sub i 460) g)) 460 = n - ((i : Int) - 460) - g + 460 := by
          simp (disch := omega) only [i_add_e, i_sub_e]
          omega
        rw [ex]
        clear ex
        by_cases z1 : m_gt μ 99 (cel 0 o ((i : Int) - 460)) = 0
        · rw [if_pos z1]
          refine go (fun _ hp => ?_)
          have := hb.mpr hp
          omega
        · have hp : P o ((i : Int) - 460) := hb.mp (h01.resolve_left z1)
          rw [if_neg z1, isIn_i_p (by unfold okI; omega), b2_e]
          by_cases z2 : 0 ≤ n - ((i : Int) - 460) - g + 460 ∧ n - ((i : Int) - 460) - g + 460 ≤ 1059
          · have hv2 := hT (n - ((i : Int) - 460) - g) (by omega) (by omega)
            have c3 : cel (f + 1) o' (-460) + (n - ((i : Int) - 460) - g + 460) = cel (f + 1) o' (n - ((i : Int) - 460) - g) := by unfold cel; omega
            rw [if_pos z2, if_neg (by decide), r_50_71 hK, i_add_e (by omega) (by omega), ald_e (k_96 hK) (by omega) (by omega), ob_e, c3, hv2]
            by_cases z3 : 0 < cB B (n - ((i : Int) - 460) - g)
            · rw [if_neg (fun y => absurd ((l_cmp_le0 _ _).mp y) (Int.not_le.mpr (mn_pos.mpr z3)))]
              refine ⟨1, rfl, Or.inr rfl, fun _ => ?_, fun _ => rfl⟩
              unfold thr
              rw [if_neg (by decide)]
              exact ⟨(i : Int) - 460, hp, cB_mem z3⟩
            · have z0 : cB B (n - ((i : Int) - 460) - g) = 0 := by omega
              rw [if_pos ((l_cmp_le0 _ _).mpr (by rw [z0, mn0]; exact Int.le_refl _))]
              refine go (fun _ _ hm => z3 ?_)
              unfold cB
              rw [List.countP_pos_iff]
              exact ⟨_, hm, decide_eq_true rfl⟩
          · rw [if_neg z2, if_pos rfl]
            refine go (fun _ _ hm => ?_)
            have := hB _ hm
            omega
    have s2 : ∀ u' : Int, (¬ u' = 0 ↔ ∃ s, s < (i : Int) + 1 - 460 ∧ P o s) → ∃ x, jX8_isThrough_62 (jX8_isThrough_31 N m) N 50 n (if a then 1 else 0) (enc o * 1060) (cel (f + 1) o' (-460)) v i u' μ = some (x, μ) ∧ (x = 0 ∨ x = 1) ∧ (x = 1 ↔ thr (P o) B g n a) := by
      intro u' hu'
      unfold jX8_isThrough_62 jX8_isThrough_84
      by_cases z : v = 0
      · rw [if_neg (not_not_intro z), a96, ob_e]
        by_cases z3 : 0 < cB B ((i : Int) - 460)
        · rw [if_neg (fun y => absurd ((l_cmp_le0 _ _).mp y) (Int.not_le.mpr (mn_pos.mpr z3)))]
          exact s3 u' 1 hu' ⟨fun _ => ⟨_, by omega, hBi.mp z3⟩, fun _ => by decide⟩
        · have z0 : cB B ((i : Int) - 460) = 0 := by omega
          rw [if_pos ((l_cmp_le0 _ _).mpr (by rw [z0, mn0]; exact Int.le_refl _))]
          refine s3 u' 0 hu' ⟨fun q => absurd rfl q, fun ⟨s, q1, q2⟩ => ?_⟩
          by_cases c : s < (i : Int) - 460
          · exact absurd z (hv.mpr ⟨s, c, q2⟩)
          · rw [show s = (i : Int) - 460 by omega] at q2
            exact absurd (hBi.mpr q2) z3
      · rw [if_pos z]
        obtain ⟨s, q1, q2⟩ := hv.mp z
        exact s3 u' 1 hu' ⟨fun _ => ⟨s, by omega, q2⟩, fun _ => by decide⟩
    show ∃ x, jX8_isThrough_31b (jX8_isThrough_31 N m) N 50 n (if a then 1 else 0) (enc o * 1060) (cel (f + 1) o' (-460)) u v i μ = some (x, μ) ∧ _
    unfold jX8_isThrough_31b jX8_isThrough_57
    rw [if_neg (by omega)]
    by_cases z : u = 0
    · rw [if_neg (not_not_intro z), a99, ob_e]
      by_cases z1 : m_gt μ 99 (cel 0 o ((i : Int) - 460)) = 0
      · rw [if_pos z1]
        refine s2 0 ⟨fun q => absurd rfl q, fun ⟨s, q1, q2⟩ => ?_⟩
        by_cases c : s < (i : Int) - 460
        · exact absurd z (hu.mpr ⟨s, c, q2⟩)
        · rw [show s = (i : Int) - 460 by omega] at q2
          have := hb.mpr q2
          omega
      · rw [if_neg z1]
        exact s2 1 ⟨fun _ => ⟨_, by omega, hb.mp (h01.resolve_left z1)⟩, fun _ => by decide⟩
    · rw [if_pos z]
      obtain ⟨s, q1, q2⟩ := hu.mp z
      exact s2 1 ⟨fun _ => ⟨s, by omega, q2⟩, fun _ => by decide⟩
theorem isThrough_M {N : Nat} (hN : 1000000 ≤ N) {f : Int} {o o' : Ow} (ho : OwOK o) (ho' : OwOK o') (hf : 0 ≤ f ∧ f ≤ 7) {g n : Int} (hg : -60 ≤ g ∧ g ≤ 60) {a : Bool} (hn : a = false → -920 ≤ n ∧ n ≤ 2120) {P : Ow → Int → Prop} {B : List Int} (hP : ∀ o s, P o s → -400 ≤ s ∧ s ≤ 400) (hB : ∀ b ∈ B, -460 ≤ b ∧ b < 600) {μ : Mm} (hK : KR μ) (h75 : m_gt μ 50 75 = g) (h76 : m_gt μ 50 76 = enc o') (h99 : RB 99 P μ) (hT : TR 96 (f + 1) o' B μ) : ∃ x, jX8_isThrough N 50 f (enc o) n (if a then 1 else 0) μ = some (x, μ) ∧ (x = 0 ∨ x = 1) ∧ (x = 1 ↔ thr (P o) B g n a) := by
  have e1 := enc_ok ho
  have e2 := enc_ok ho'
  obtain ⟨x, r1, r2⟩ := thr_loop (N := N) ho ho' hf hg hn hP hB hK h75 h99 hT 1060 N 0 0 0 (by omega) (by omega) ⟨fun q => absurd rfl q, fun ⟨s, q1, q2⟩ => by have := hP _ _ q2; omega⟩ ⟨fun q => absurd rfl q, fun ⟨s, q1, q2⟩ => by have := hB _ q2; omega⟩ (fun _ s q1 q2 => by have := hP _ _ q2; omega)
  refine ⟨x, ?_, r2⟩
  unfold jX8_isThrough
  rw [bnd_e, i_mul_e (by omega) (by omega), i_add_e (by omega) (by omega), h76, cell_M ho' (by omega) (by decide), b2_e]
  exact r1
