/-! ===== PURE: a game as data ===== -/
/-- the cells 'wh' and the slots 'so' are the same in both -/
def Ag (wh : List Int) (so : List (Int × Int)) (μ μ' : Mm) : Prop := (∀ r ∈ wh, ∀ i, m_gt μ' r i = m_gt μ r i) ∧ ∀ q ∈ so, m_gt μ' q.1 q.2 = m_gt μ q.1 q.2
def dj (ids : List Int) (sl : List (Int × Int)) (wh : List Int) (so : List (Int × Int)) : Bool :=
  wh.all (fun r => !(ids.contains r) && sl.all (fun q => !(q.1 == r))) && so.all (fun q => !(ids.contains q.1) && !(sl.contains q))
theorem Fr.ag {ids : List Int} {sl : List (Int × Int)} {a b : Mm} (f : Fr ids sl a b) {wh : List Int} {so : List (Int × Int)} (h : dj ids sl wh so = true) : Ag wh so a b := by
  unfold dj at h
  rw [Bool.and_eq_true, List.all_eq_true, List.all_eq_true] at h
  refine ⟨fun r hr i => ?_, fun q hq => ?_⟩
  · have h1 := h.1 r hr
    rw [Bool.and_eq_true, List.all_eq_true] at h1
    refine f.2.2 r i (fun z => ?_) (fun z => ?_)
    · have := h1.1
      rw [List.contains_iff_mem.mpr z] at this
      cases this
    · have := h1.2 _ z
      simp at this
  · have h1 := h.2 q hq
    rw [Bool.and_eq_true] at h1
    refine f.2.2 q.1 q.2 (fun z => ?_) (fun z => ?_)
    · have := h1.1
      rw [List.contains_iff_mem.mpr z] at this
      cases this
    · have := h1.2
      rw [List.contains_iff_mem.mpr (show q ∈ sl from z)] at this
      cases this
theorem Row.ag {a b : Mm} {wh : List Int} {so : List (Int × Int)} {r o : Int} {l : List Int} (h : Row a r o l) (g : Ag wh so a b) (h1 : r ∈ wh) : Row b r o l := fun i hi => by rw [g.1 r h1]; exact h i hi
theorem Row.get {μ : Mm} {r o : Int} {l : List Int} (h : Row μ r o l) {i : Nat} {v j : Int} (hi : l[i]? = some v) (hj : j = o + i) : m_gt μ r j = v := by
  have hl : i < l.length := by
    rw [List.getElem?_eq_some_iff] at hi
    exact hi.1
  rw [hj, h i hl, List.getD_eq_getElem?_getD, hi]
  rfl
abbrev Gm : Type := (Int → Int) × List (Nat × Nat × Nat) × (Nat × Nat) × List Int × (Int → Int → Bool)
def gW (G : Gm) : List (Nat × Nat × Nat) := G.2.1
def gH (G : Gm) : Nat × Nat := G.2.2.1
def gC (G : Gm) : List Int := G.2.2.2.1
def gJ (G : Gm) : Int → Int → Bool := G.2.2.2.2
def fenv (a b c d e f : Int) : Int → Int := fun k => if k = -1 then a else if k = -2 then b else if k = -3 then c else if k = -4 then d else if k = -5 then e else f
def cl20 (x : Int) : Int := if x < -20 then -20 else if x > 20 then 20 else x
def cl99 (x : Int) : Int := if x < 0 then 0 else if x > 99 then 99 else x
def wfirst (C : List Int) (e : Int → Int) : List (Nat × Nat × Nat) → Int
  | [] => 0
  | q :: r => if ev e (slc C q.2.1 q.2.2) = 1 then cl20 (ev e (slc C q.1 q.2.1)) else wfirst C e r
/-- the worth of a frame -/
def wrt (G : Gm) (f d u x : Int) : Int := wfirst (gC G) (fenv (f + 1) d u x 0 0) (gW G)
/-- the handicap of a mean and so many games -/
def hcp (G : Gm) (m n : Int) : Int := if (gH G).1 = (gH G).2 then 0 else cl99 (ev (fenv 0 0 0 0 m n) (slc (gC G) (gH G).1 (gH G).2))
def WOK (C : List Int) (q : Nat × Nat × Nat) : Prop := q.1 ≤ q.2.1 ∧ q.2.1 ≤ q.2.2 ∧ q.2.2 ≤ C.length ∧ ck [] (slc C q.1 q.2.1) = some [false] ∧ ck [] (slc C q.2.1 q.2.2) = some [true]
def COK (G : Gm) : Prop := (gC G).length ≤ 700 ∧ (gW G).length ≤ 30 ∧ (∀ q ∈ gW G, WOK (gC G) q) ∧ (gH G).1 ≤ (gH G).2 ∧ (gH G).2 ≤ (gC G).length ∧ ((gH G).1 = (gH G).2 ∨ ck [] (slc (gC G) (gH G).1 (gH G).2) = some [false])
def GOK (G : Gm) : Prop := (1 ≤ G.1 0 ∧ G.1 0 ≤ 9) ∧ (1 ≤ G.1 1 ∧ G.1 1 ≤ 8) ∧ (1 ≤ G.1 2 ∧ G.1 2 ≤ 3) ∧ (0 ≤ G.1 3 ∧ G.1 3 ≤ 10) ∧ (∀ k, 4 ≤ k → k ≤ 6 → 0 ≤ G.1 k ∧ G.1 k ≤ 3) ∧ COK G ∧ (∀ a b, gJ G a b = gJ G b a) ∧ ∀ a, gJ G a a = false
theorem cl20_ok (x : Int) : -20 ≤ cl20 x ∧ cl20 x ≤ 20 := by unfold cl20; split <;> (try split) <;> omega
theorem cl99_ok (x : Int) : 0 ≤ cl99 x ∧ cl99 x ≤ 99 := by unfold cl99; split <;> (try split) <;> omega
theorem wfirst_ok (C : List Int) (e : Int → Int) : ∀ W : List (Nat × Nat × Nat), -20 ≤ wfirst C e W ∧ wfirst C e W ≤ 20
  | [] => ⟨by unfold wfirst; omega, by unfold wfirst; omega⟩
  | q :: r => by
    unfold wfirst
    split
    · exact cl20_ok _
    · exact wfirst_ok C e r
theorem wrt_ok (G : Gm) (f d u x : Int) : -20 ≤ wrt G f d u x ∧ wrt G f d u x ≤ 20 := wfirst_ok _ _ _
theorem hcp_ok (G : Gm) (m n : Int) : 0 ≤ hcp G m n ∧ hcp G m n ≤ 99 := by
  unfold hcp
  split
  · omega
  · exact cl99_ok _
theorem fenv_oke {a b c d e f : Int} (ha : -1000000 ≤ a ∧ a ≤ 1000000) (hb : -1000000 ≤ b ∧ b ≤ 1000000) (hc : -1000000 ≤ c ∧ c ≤ 1000000) (hd : -1000000 ≤ d ∧ d ≤ 1000000) (he : -1000000 ≤ e ∧ e ≤ 1000000) (hf : -1000000 ≤ f ∧ f ≤ 1000000) : oke (fenv a b c d e f) := fun t _ _ => by
  unfold fenv
  split
  · exact ha
  split
  · exact hb
  split
  · exact hc
  split
  · exact hd
  split
  · exact he
  · exact hf
theorem ev_b {env : Int → Int} {l : List Int} (h : okst (run env [] l) [true]) : ev env l = 0 ∨ ev env l = 1 := by
  unfold ev
  match run env [] l, h with
  | [v], h => exact h.1.2.2 rfl
  | _ :: _ :: _, h => exact h.2.elim
  | [], h => exact h.elim
theorem ev_n {env : Int → Int} {l : List Int} {ty : Bool} (h : okst (run env [] l) [ty]) : -1000000 ≤ ev env l ∧ ev env l ≤ 1000000 := by
  unfold ev
  match run env [] l, h with
  | [v], h => exact ⟨h.1.1, h.1.2.1⟩
  | _ :: _ :: _, h => exact h.2.elim
  | [], h => exact h.elim
/-! the two memories of it -/
/-- a Laws object at l, and its cells -/
def LK (μ : Mm) (l : Int) : Prop := (m_kd μ l = (1, 0) ∧ CK μ (l + 1)) ∧ (m_kd μ (l + 5) = (100, 4) ∧ m_kd μ (l + 6) = (100, 9) ∧ m_kd μ (l + 7) = (100, 30) ∧ m_kd μ (l + 8) = (100, 30) ∧ m_kd μ (l + 9) = (100, 30) ∧ m_kd μ (l + 10) = (100, 1280)) ∧ m_gt μ l 6 = l + 1 ∧ m_gt μ l 7 = l + 5 ∧ m_gt μ l 8 = l + 6 ∧ m_gt μ l 9 = l + 7 ∧ m_gt μ l 10 = l + 8 ∧ m_gt μ l 11 = l + 9 ∧ m_gt μ l 14 = l + 10
theorem LK.of {μ : Mm} (h : KR μ) {l : Int} (hl : l = 2 ∨ l = 13) : LK μ l := by
  rcases hl with rfl | rfl
  · exact ⟨⟨k_2 h, CK.of h (Or.inl rfl)⟩, ⟨k_7 h, k_8 h, k_9 h, k_10 h, k_11 h, k_12 h⟩, r_2_6 h, r_2_7 h, r_2_8 h, r_2_9 h, r_2_10 h, r_2_11 h, r_2_14 h⟩
  · exact ⟨⟨k_13 h, CK.of h (Or.inr rfl)⟩, ⟨k_18 h, k_19 h, k_20 h, k_21 h, k_22 h, k_23 h⟩, r_13_6 h, r_13_7 h, r_13_8 h, r_13_9 h, r_13_10 h, r_13_11 h, r_13_14 h⟩
def LX (l : Int) (G : Gm) (μ : Mm) : Prop :=
  (m_gt μ l 1 = G.1 0 ∧ m_gt μ l 2 = G.1 1 ∧ m_gt μ l 3 = G.1 2 ∧ m_gt μ l 4 = G.1 3 ∧ m_gt μ l 5 = (gW G).length ∧ m_gt μ l 12 = (gH G).1 ∧ m_gt μ l 13 = (gH G).2 ∧ m_gt μ (l + 1) 1 = (gC G).length) ∧ (Row μ (l + 2) 0 ((gC G).map tX) ∧ Row μ (l + 5) 0 [0, G.1 4, G.1 5, G.1 6] ∧ Row μ (l + 7) 0 ((gW G).map fun q => (q.1 : Int)) ∧ Row μ (l + 8) 0 ((gW G).map fun q => (q.2.1 : Int)) ∧ Row μ (l + 9) 0 ((gW G).map fun q => (q.2.2 : Int))) ∧ ∀ a, 0 ≤ a → a ≤ 8 → 0 ≤ m_gt μ (l + 6) a ∧ m_gt μ (l + 6) a < 512 ∧ ∀ b : Nat, b ≤ 8 → (m_gt μ (l + 6) a).toNat.testBit b = gJ G a b
def wLX (l : Int) : List Int := [l + 2, l + 5, l + 6, l + 7, l + 8, l + 9]
def sLX (l : Int) : List (Int × Int) := [(l, 1), (l, 2), (l, 3), (l, 4), (l, 5), (l, 12), (l, 13), (l + 1, 1)]
theorem LX.ag {l : Int} {G : Gm} {a b : Mm} (h : LX l G a) (g : Ag (wLX l) (sLX l) a b) : LX l G b := by
  obtain ⟨⟨h1, h2, h3, h4, h5, h6, h7, h8⟩, ⟨r1, r2, r3, r4, r5⟩, hj⟩ := h
  have s := g.2
  refine ⟨⟨?_, ?_, ?_, ?_, ?_, ?_, ?_, ?_⟩, ⟨r1.ag g (by simp [wLX]), r2.ag g (by simp [wLX]), r3.ag g (by simp [wLX]), r4.ag g (by simp [wLX]), r5.ag g (by simp [wLX])⟩, fun x h0 h1 => ?_⟩
  · rw [← h1]; exact s (l, 1) (by simp [sLX])
  · rw [← h2]; exact s (l, 2) (by simp [sLX])
  · rw [← h3]; exact s (l, 3) (by simp [sLX])
  · rw [← h4]; exact s (l, 4) (by simp [sLX])
  · rw [← h5]; exact s (l, 5) (by simp [sLX])
  · rw [← h6]; exact s (l, 12) (by simp [sLX])
  · rw [← h7]; exact s (l, 13) (by simp [sLX])
  · rw [← h8]; exact s (l + 1, 1) (by simp [sLX])
  · rw [g.1 (l + 6) (by simp [wLX])]
    exact hj x h0 h1
/-- the table of worths -/
def TX (l : Int) (G : Gm) (μ : Mm) : Prop := ∀ f d u x : Int, 0 ≤ f → f < G.1 1 → 0 ≤ d → d ≤ G.1 0 → 1 ≤ u → u ≤ G.1 2 → 0 ≤ x → x ≤ u → m_gt μ (l + 10) ((f * 10 + d) * 16 + u * 4 + x) = wrt G f d u x
theorem TX.ag {l : Int} {G : Gm} {a b : Mm} (h : TX l G a) (g : Ag [l + 10] [] a b) : TX l G b := fun f d u x h1 h2 h3 h4 h5 h6 h7 h8 => by
  rw [g.1 (l + 10) (by simp)]
  exact h f d u x h1 h2 h3 h4 h5 h6 h7 h8
def GM (G : Gm) (μ : Mm) : Prop :=
  (m_gt μ 74 1 = G.1 0 ∧ m_gt μ 75 1 = G.1 1 ∧ m_gt μ 76 1 = G.1 2 ∧ m_gt μ 77 1 = G.1 3 ∧ m_gt μ 79 1 = (gW G).length ∧ m_gt μ 83 1 = (gH G).1 ∧ m_gt μ 84 1 = (gH G).2) ∧ (Row μ 86 700 ((gC G).map tM) ∧ Row μ 78 4 [0, G.1 4, G.1 5, G.1 6] ∧ Row μ 80 30 ((gW G).map fun q => (q.1 : Int)) ∧ Row μ 81 30 ((gW G).map fun q => (q.2.1 : Int)) ∧ Row μ 82 30 ((gW G).map fun q => (q.2.2 : Int))) ∧ ∀ a b, 0 ≤ a → a ≤ 8 → 0 ≤ b → b ≤ 8 → m_gt μ 85 (81 + 9 * a + b) = if gJ G a b then 1 else 0
def wGM : List Int := [74, 75, 76, 77, 78, 79, 80, 81, 82, 83, 84, 85, 86]
theorem GM.ag {G : Gm} {a b : Mm} (h : GM G a) (g : Ag wGM [] a b) : GM G b := by
  obtain ⟨⟨h1, h2, h3, h4, h5, h6, h7⟩, ⟨r1, r2, r3, r4, r5⟩, hj⟩ := h
  have s := g.1
  refine ⟨⟨?_, ?_, ?_, ?_, ?_, ?_, ?_⟩, ⟨r1.ag g (by decide), r2.ag g (by decide), r3.ag g (by decide), r4.ag g (by decide), r5.ag g (by decide)⟩, fun x y q1 q2 q3 q4 => ?_⟩
  · rw [s 74 (by decide)]; exact h1
  · rw [s 75 (by decide)]; exact h2
  · rw [s 76 (by decide)]; exact h3
  · rw [s 77 (by decide)]; exact h4
  · rw [s 79 (by decide)]; exact h5
  · rw [s 83 (by decide)]; exact h6
  · rw [s 84 (by decide)]; exact h7
  · rw [s 85 (by decide)]; exact hj x y q1 q2 q3 q4
/-! facts for a frame, a player -/
theorem setFrame_X {N : Nat} {c a b d e : Int} {μ : Mm} (hc : CK μ c) : ∃ μ', jX0_setFrame N c a b d e μ = some μ' ∧ (∀ k, -6 ≤ k → k ≤ -1 → m_gt μ' (c + 2) (-k) = fenv a b d e 0 0 k) ∧ Fr [c + 2] [] μ μ' := by
  obtain ⟨h1, h2, h3, h4, h5, h6, h7⟩ := hc
  have n1 : c ≠ c + 2 := by omega
  refine ⟨m_st (m_st (m_st (m_st (m_st (m_st μ (c + 2) 1 a) (c + 2) 2 b) (c + 2) 3 d) (c + 2) 4 e) (c + 2) 5 0) (c + 2) 6 0, ?_, ?_, ?_⟩
  · unfold jX0_setFrame
    rw [h6, ast_e h3 (by decide) (by decide), ob_e, gt_r _ _ _ _ n1, h6, ast_e (c := 100) (n := 7) (by simp only [m_kd_st]; exact h3) (by decide) (by decide), ob_e, gt_r _ _ _ _ n1, gt_r _ _ _ _ n1, h6, ast_e (c := 100) (n := 7) (by simp only [m_kd_st]; exact h3) (by decide) (by decide), ob_e, gt_r _ _ _ _ n1, gt_r _ _ _ _ n1, gt_r _ _ _ _ n1, h6, ast_e (c := 100) (n := 7) (by simp only [m_kd_st]; exact h3) (by decide) (by decide), ob_e, gt_r _ _ _ _ n1, gt_r _ _ _ _ n1, gt_r _ _ _ _ n1, gt_r _ _ _ _ n1, h6, ast_e (c := 100) (n := 7) (by simp only [m_kd_st]; exact h3) (by decide) (by decide), ob_e, gt_r _ _ _ _ n1, gt_r _ _ _ _ n1, gt_r _ _ _ _ n1, gt_r _ _ _ _ n1, gt_r _ _ _ _ n1, h6, ast_e (c := 100) (n := 7) (by simp only [m_kd_st]; exact h3) (by decide) (by decide), ob_e]
  · intro k h1 h2
    have : k = -1 ∨ k = -2 ∨ k = -3 ∨ k = -4 ∨ k = -5 ∨ k = -6 := by omega
    rcases this with rfl | rfl | rfl | rfl | rfl | rfl <;> simp [m_gt_st, fenv]
  · exact ((((((Fr.sa μ (c + 2) 1 a).tr (Fr.sa _ (c + 2) 2 b)).tr (Fr.sa _ (c + 2) 3 d)).tr (Fr.sa _ (c + 2) 4 e)).tr (Fr.sa _ (c + 2) 5 0)).tr (Fr.sa _ (c + 2) 6 0)).mono (by simp) (by simp)
theorem CK.fr2 {μ μ' : Mm} {c : Int} (h : CK μ c) (f : Fr [c + 2] [] μ μ') : CK μ' c := by
  obtain ⟨h1, h2, h3, h4, h5, h6, h7⟩ := h
  have g : ∀ i : Int, m_gt μ' c i = m_gt μ c i := fun i => f.2.2 c i (by simp <;> omega) (by simp)
  exact ⟨by rw [f.kd]; exact h1, by rw [f.kd]; exact h2, by rw [f.kd]; exact h3, by rw [f.kd]; exact h4, by rw [g 0]; exact h5, by rw [g 2]; exact h6, by rw [g 3]; exact h7⟩
theorem setPlayer_X {N : Nat} {c a b : Int} {μ : Mm} (hc : CK μ c) : ∃ μ', jX0_setPlayer N c a b μ = some μ' ∧ (∀ k, -6 ≤ k → k ≤ -1 → m_gt μ' (c + 2) (-k) = fenv 0 0 0 0 a b k) ∧ Fr [c + 2] [] μ μ' := by
  obtain ⟨μ1, e1, e2, e3⟩ := setFrame_X (N := N) (a := 0) (b := 0) (d := 0) (e := 0) hc
  obtain ⟨h1, h2, h3, h4, h5, h6, h7⟩ := hc.fr2 e3
  have n1 : c ≠ c + 2 := by omega
  refine ⟨m_st (m_st μ1 (c + 2) 5 a) (c + 2) 6 b, ?_, ?_, ?_⟩
  · unfold jX0_setPlayer
    rw [e1, ob_e, h6, ast_e h3 (by decide) (by decide), ob_e, gt_r _ _ _ _ n1, h6, ast_e (c := 100) (n := 7) (by simp only [m_kd_st]; exact h3) (by decide) (by decide), ob_e]
  · intro k h1 h2
    have e2 := e2 k h1 h2
    have : k = -1 ∨ k = -2 ∨ k = -3 ∨ k = -4 ∨ k = -5 ∨ k = -6 := by omega
    rcases this with rfl | rfl | rfl | rfl | rfl | rfl <;> simp [m_gt_st, fenv] at e2 ⊢ <;> exact e2
  · exact ((e3.tr (Fr.sa _ (c + 2) 5 a)).tr (Fr.sa _ (c + 2) 6 b)).mono (by simp) (by simp)
