/-! ===== PURE: the class's sheet ===== -/
def lens (Fs : List (List Int)) : Int := Fs.flatten.length
/-- where the frames begin, and where the next one would -/
def sts : List (List Int) → Int → List Int
  | [], o => [o]
  | F :: l, o => o :: sts l (o + F.length)
theorem sts_len : ∀ (Fs : List (List Int)) (o : Int), (sts Fs o).length = Fs.length + 1
  | [], _ => rfl
  | F :: l, o => by rw [sts, List.length_cons, sts_len l, List.length_cons]
theorem sts_snoc : ∀ (Fs : List (List Int)) (F : List Int) (o : Int), sts (Fs ++ [F]) o = sts Fs o ++ [o + lens Fs + F.length]
  | [], F, o => by simp [sts, lens]
  | A :: l, F, o => by
    rw [List.cons_append, sts, sts, sts_snoc l F, List.cons_append]
    simp [lens]
    omega
theorem spl_snoc (G : Gm) (R : List Int) (x : Int) : spl G (R ++ [x]) = adds G (spl G R) x := by unfold spl; rw [List.foldl_append]; rfl
theorem adds_flat (G : Gm) (s : Sh) (n : Int) : (adds G s n).1.flatten ++ (adds G s n).2 = s.1.flatten ++ s.2 ++ [n] := by
  unfold adds
  split
  · simp
  · split <;> simp
theorem snocI {P : List Int → Prop} (h0 : P []) (h1 : ∀ l x, P l → P (l ++ [x])) (l : List Int) : P l := by
  have : ∀ n : Nat, ∀ l : List Int, l.length = n → P l := by
    intro n
    induction n with
    | zero => intro l hl; rw [List.length_eq_zero_iff.mp hl]; exact h0
    | succ n ih =>
      intro l hl
      have hne : l ≠ [] := fun z => by rw [z] at hl; cases hl
      rw [← List.dropLast_concat_getLast hne]
      exact h1 _ _ (ih _ (by rw [List.length_dropLast]; omega))
  exact this _ l rfl
theorem spl_flat (G : Gm) (R : List Int) : (spl G R).1.flatten ++ (spl G R).2 = R := by
  refine snocI (P := fun R => (spl G R).1.flatten ++ (spl G R).2 = R) rfl ?_ R
  intro l x ih
  rw [spl_snoc, adds_flat, ih]
def SX (sh l : Int) (G : Gm) (R : List Int) (s : Sh) (μ : Mm) : Prop :=
  (m_gt μ sh 1 = R.length ∧ m_gt μ sh 2 = s.1.length ∧ m_gt μ sh 3 = s.2.length ∧ m_gt μ sh 4 = sta G s ∧ m_gt μ sh 5 = l ∧ 0 ≤ m_gt μ sh 7 ∧ m_gt μ sh 7 ≤ 40 ∧ (if m_gt μ sh 7 ≤ lens s.1 then 0 else m_gt μ sh 7 - lens s.1) = cnt (owd G s.1)) ∧ Row μ (sh + 1) 0 R ∧ Row μ (sh + 2) 0 (sts s.1 0)
theorem cnt_lt1 {o : Ow} (h : OwOK o) : cnt (lt1 o) = if cnt o ≤ 1 then 0 else cnt o - 1 := by
  unfold cnt lt1 OwOK at *
  dsimp only
  by_cases c1 : 1 ≤ o.1 <;> by_cases c2 : 1 ≤ o.2.1 <;> by_cases c3 : 1 ≤ o.2.2 <;> simp [c1, c2, c3] <;> omega
theorem cnt_ltn : ∀ (k : Nat) {o : Ow}, OwOK o → cnt (ltn k o) = if cnt o ≤ k then 0 else cnt o - k
  | 0, o, h => by
    have := cnt_ok (o := o)
    show cnt o = _
    split <;> omega
  | k + 1, o, h => by
    show cnt (ltn k (lt1 o)) = _
    rw [cnt_ltn k (lt1_ok h).ok, cnt_lt1 h]
    have := cnt_ok (o := o)
    by_cases c : cnt o ≤ 1
    · rw [if_pos c, if_pos (by omega), if_pos (by omega)]
    · rw [if_neg c]
      by_cases c2 : cnt o - 1 ≤ k
      · rw [if_pos c2, if_pos (by omega)]
      · rw [if_neg c2, if_neg (by omega)]; omega
theorem cnt_pls {o : Ow} (h : OwOK1 o) {e : Int} (h0 : 0 ≤ e) (h3 : e ≤ 3) : cnt (pls o e) = if cnt o ≤ e then e else cnt o := by
  unfold cnt pls OwOK1 at *
  dsimp only
  have : e = 0 ∨ e = 1 ∨ e = 2 ∨ e = 3 := by omega
  by_cases c1 : 1 ≤ o.1 <;> by_cases c2 : 1 ≤ o.2.1 <;> rcases this with rfl | rfl | rfl | rfl <;> simp [c1, c2, show ¬ 1 ≤ o.2.2 by omega] <;> omega
def whi (G : Gm) (s : Sh) : Int := if (s.1.length : Int) = G.1 1 ∧ cnt (owd G s.1) ≤ s.2.length then 1 else 0
theorem whi_1 {G : Gm} {s : Sh} (h : whole G s) : whi G s = 1 := if_pos h
theorem whi_0 {G : Gm} {s : Sh} (h : ¬ whole G s) : whi G s = 0 := if_neg h
theorem isWhole_X {N : Nat} {sh l : Int} (hl : l = 2 ∨ l = 13) {G : Gm} {R : List Int} {s : Sh} {μ : Mm} (hK : KR μ) (hL : LX l G μ) (hO : SOK G s) (hR : (R.length : Int) = lens s.1 + s.2.length) (hS : SX sh l G R s μ) : jX5_isWhole N sh μ = some (whi G s, μ) := by
  obtain ⟨⟨s1, s2, s3, s4, s5, s6, s7, s8⟩, s9, s10⟩ := hS
  have h2 := hO.2.1
  unfold jX5_isWhole jX5_isWhole_29 jX5_isWhole_30 whi
  rw [s5, chk_e (LK.of hK hl).1.1, s2, hL.1.2.1, s1, z_e (Or.inl rfl), z_e (Or.inr rfl)]
  by_cases c : (s.1.length : Int) < G.1 1
  · rw [if_pos c, if_neg (by omega)]
  · rw [if_neg c]
    by_cases c2 : (R.length : Int) < m_gt μ sh 7
    · rw [if_pos c2, if_neg]
      rintro ⟨_, z⟩
      split at s8 <;> omega
    · rw [if_neg c2, if_pos]
      refine ⟨by omega, ?_⟩
      split at s8 <;> omega
def SK (μ : Mm) (sh : Int) : Prop := m_kd μ sh = (5, 0) ∧ m_kd μ (sh + 1) = (100, 27) ∧ m_kd μ (sh + 2) = (100, 9) ∧ m_gt μ sh 0 = sh + 1 ∧ m_gt μ sh 6 = sh + 2
theorem SK.of {μ : Mm} (h : KR μ) {sh : Int} (hs : sh = 26 ∨ sh = 29) : SK μ sh := by
  rcases hs with rfl | rfl
  · exact ⟨k_26 h, k_27 h, k_28 h, r_26_0 h, r_26_6 h⟩
  · exact ⟨k_29 h, k_30 h, k_31 h, r_29_0 h, r_29_6 h⟩
def sFr (sh : Int) : List (Int × Int) := [(sh, 1), (sh, 2), (sh, 3), (sh, 4), (sh, 5), (sh, 7)]
theorem KR_s {μ μ' : Mm} {sh : Int} (h : KR μ) (hs : sh = 26 ∨ sh = 29) (f : Fr [sh + 1, sh + 2] (sFr sh) μ μ') : KR μ' := by
  rcases hs with rfl | rfl <;> exact f.KR h (by decide)
theorem LX_s {μ μ' : Mm} {sh l : Int} {G : Gm} (h : LX l G μ) (hl : l = 2 ∨ l = 13) (hs : sh = 26 ∨ sh = 29) (f : Fr [sh + 1, sh + 2] (sFr sh) μ μ') : LX l G μ' := by
  rcases hs with rfl | rfl <;> rcases hl with rfl | rfl <;> exact h.ag (f.ag (by decide))
theorem SX.mem {sh l : Int} {G : Gm} {R : List Int} {s : Sh} {μ : Mm} (h : SX sh l G R s μ) : True := trivial
theorem lens_snoc (Fs : List (List Int)) (F : List Int) : lens (Fs ++ [F]) = lens Fs + F.length := by simp [lens]
theorem lens_le {G : Gm} : ∀ {Fs : List (List Int)}, (∀ F ∈ Fs, FO G F) → lens Fs ≤ G.1 2 * Fs.length
  | [], _ => by simp [lens]
  | F :: l, h => by
    have h1 := (h F (by simp)).2.2.1
    have h2 := lens_le (Fs := l) (fun A hA => h A (by simp [hA]))
    have e : lens (F :: l) = F.length + lens l := by simp [lens]
    rw [e, List.length_cons, show ((l.length + 1 : Nat) : Int) = (l.length : Int) + 1 by omega, Int.mul_add]
    omega
theorem cnt_R {G : Gm} (hG : GOK G) {s : Sh} (h : SOK G s) (hw : ¬ whole G s) : lens s.1 + s.2.length < 27 ∧ lens s.1 ≤ 24 := by
  have h1 := lens_le h.1
  have g2 := hG.2.1
  have g3 := hG.2.2.1
  have hm : G.1 2 * s.1.length ≤ 3 * s.1.length := Int.mul_le_mul_of_nonneg_right g3.2 (by omega)
  have h2 := h.2.1
  by_cases c : (s.1.length : Int) = G.1 1
  · have : ¬ cnt (owd G s.1) ≤ s.2.length := fun z => hw ⟨c, z⟩
    have := cnt_ok (o := owd G s.1)
    omega
  · have := h.2.2.2.1 (by omega)
    omega
theorem add_X0 {N : Nat} {sh l : Int} (hl : l = 2 ∨ l = 13) {G : Gm} (hG : GOK G) {R : List Int} {s : Sh} {μ : Mm} (hK : KR μ) (hL : LX l G μ) (hO : SOK G s) (hR : (R.length : Int) = lens s.1 + s.2.length) (hS : SX sh l G R s μ) {n : Int} (hc : ¬ can G s n) : jX5_add N sh n μ = some (0, μ) := by
  unfold jX5_add jX5_add_34
  rw [isWhole_X hl hK hL hO hR hS, b2_e]
  by_cases c : whole G s
  · rw [whi_1 c, if_pos (by decide)]
  · have := cnt_R hG hO c
    rw [whi_0 c, if_neg (by decide), hS.1.1, if_neg (show ¬ 27 ≤ (R.length : Int) by omega), hS.1.2.2.2.1]
    by_cases c2 : sta G s < n
    · rw [if_pos c2]
    · rw [if_neg c2]
      by_cases c3 : 0 ≤ n
      · exact absurd ⟨c, Or.inr ⟨c3, by omega⟩⟩ hc
      · rw [if_neg c3]
        by_cases c4 : n = -2
        · exact absurd ⟨c, Or.inl c4⟩ hc
        · rw [if_neg c4]
theorem add_to36 {N : Nat} {sh l : Int} (hl : l = 2 ∨ l = 13) {G : Gm} (hG : GOK G) {R : List Int} {s : Sh} {μ : Mm} (hK : KR μ) (hL : LX l G μ) (hO : SOK G s) (hR : (R.length : Int) = lens s.1 + s.2.length) (hS : SX sh l G R s μ) {n : Int} (hc : can G s n) : jX5_add N sh n μ = jX5_add_36 N sh n μ := by
  have hb := cnt_R hG hO hc.1
  have hst := sta_ok hG hO
  unfold jX5_add
  rw [isWhole_X hl hK hL hO hR hS, b2_e, whi_0 hc.1, if_neg (by decide), hS.1.1, if_neg (show ¬ 27 ≤ (R.length : Int) by omega), hS.1.2.2.2.1]
  rcases hc.2 with c | c
  · rw [if_neg (show ¬ sta G s < n by omega), if_neg (show ¬ 0 ≤ n by omega), if_pos c]
  · rw [if_neg (show ¬ sta G s < n by omega), if_pos c.1]
/-- the memory behind the first half of a roll -/
def m36 (sh : Int) (μ : Mm) (c n u st : Int) : Mm := m_st (m_st (m_st (m_st μ (sh + 1) c n) sh 1 (c + 1)) sh 3 (u + 1)) sh 4 st
theorem m36_fr (sh : Int) (μ : Mm) (c n u st : Int) : Fr [sh + 1, sh + 2] (sFr sh) μ (m36 sh μ c n u st) := ((((Fr.sa μ (sh + 1) c n).tr (Fr.st _ sh 1 _)).tr (Fr.st _ sh 3 _)).tr (Fr.st _ sh 4 _)).mono (by simp) (by simp [sFr])
theorem m36_sh (sh : Int) (μ : Mm) (c n u st i : Int) : m_gt (m36 sh μ c n u st) sh i = if i = 4 then st else if i = 3 then u + 1 else if i = 1 then c + 1 else m_gt μ sh i := by
  unfold m36
  rw [m_gt_st, m_gt_st, m_gt_st, m_gt_st]
  have : ¬ sh = sh + 1 := by omega
  simp [this]
theorem m36_2 (sh : Int) (μ : Mm) (c n u st i : Int) : m_gt (m36 sh μ c n u st) (sh + 2) i = m_gt μ (sh + 2) i := by
  unfold m36
  rw [gt_r _ _ _ _ (by omega), gt_r _ _ _ _ (by omega), gt_r _ _ _ _ (by omega), gt_r _ _ _ _ (by omega)]
theorem m36_row {sh : Int} {μ : Mm} {R : List Int} (h : Row μ (sh + 1) 0 R) (n u st : Int) : Row (m36 sh μ R.length n u st) (sh + 1) 0 (R ++ [n]) := by
  have h1 := Row.push h n
  rw [Int.zero_add] at h1
  intro i hi
  unfold m36
  rw [gt_r _ _ _ _ (by omega), gt_r _ _ _ _ (by omega), gt_r _ _ _ _ (by omega)]
  exact h1 i hi
