/-! ===== PURE: the reference reads statements ===== -/
def dP (r i : Int) : Prop := mpP r i ∨ ((r = 74 ∨ r = 75 ∨ r = 76 ∨ r = 77 ∨ r = 79 ∨ r = 83 ∨ r = 84) ∧ i = 0) ∨ (r = 78 ∧ 0 ≤ i ∧ i < 4) ∨ ((r = 80 ∨ r = 81 ∨ r = 82) ∧ 0 ≤ i ∧ i < 30) ∨ (r = 85 ∧ 0 ≤ i ∧ i < 81)
def DF (μ μ' : Mm) : Prop := μ'.1 = μ.1 ∧ μ'.2.1 = μ.2.1 ∧ ∀ r i : Int, ¬ dP r i → m_gt μ' r i = m_gt μ r i
theorem DF.rf (μ : Mm) : DF μ μ := ⟨rfl, rfl, fun _ _ _ => rfl⟩
theorem DF.trI {a b c : Mm} (h : DF a b) (g : DF b c) : DF a c := ⟨g.1.trans h.1, g.2.1.trans h.2.1, fun r i hn => (g.2.2 r i hn).trans (h.2.2 r i hn)⟩
theorem RF.df {a b : Mm} (h : RF a b) : DF a b := ⟨h.1, h.2.1, fun r i hn => h.2.2 r i (fun z => hn (Or.inl z))⟩
theorem DF.st {r i : Int} (h : dP r i) (μ : Mm) (v : Int) : DF μ (m_st μ r i v) := ⟨rfl, rfl, fun a b hn => by
  rw [m_gt_st, if_neg]
  rintro ⟨rfl, rfl⟩
  exact hn h⟩
theorem DF.fr {a b : Mm} (h : DF a b) : Fr [74, 75, 76, 77, 78, 79, 80, 81, 82, 83, 84, 85, 86, 87] mpS a b := ⟨h.1, h.2.1, fun r i h1 h2 => h.2.2 r i (by simp at h1; simp [mpS] at h2; unfold dP mpP; omega)⟩
theorem DF.KR {a b : Mm} (h : DF a b) (hK : KR a) : KR b := h.fr.KR hK (by decide)
def DM (G : Gm) (μ : Mm) : Prop := (m_gt μ 74 0 = G.1 0 ∧ m_gt μ 75 0 = G.1 1 ∧ m_gt μ 76 0 = G.1 2 ∧ m_gt μ 77 0 = G.1 3 ∧ m_gt μ 79 0 = (gW G).length ∧ m_gt μ 83 0 = (gH G).1 ∧ m_gt μ 84 0 = (gH G).2) ∧ (Row μ 78 0 [0, G.1 4, G.1 5, G.1 6] ∧ Row μ 80 0 ((gW G).map fun q => (q.1 : Int)) ∧ Row μ 81 0 ((gW G).map fun q => (q.2.1 : Int)) ∧ Row μ 82 0 ((gW G).map fun q => (q.2.2 : Int))) ∧ ∀ a b, 0 ≤ a → a ≤ 8 → 0 ≤ b → b ≤ 8 → m_gt μ 85 (9 * a + b) = if gJ G a b then 1 else 0
theorem DM.ext {G : Gm} {μ μ' : Mm} (h : DM G μ) (e : ∀ r i : Int, 74 ≤ r → r ≤ 85 → m_gt μ' r i = m_gt μ r i) : DM G μ' := by
  obtain ⟨⟨h1, h2, h3, h4, h5, h6, h7⟩, ⟨r1, r2, r3, r4⟩, hj⟩ := h
  refine ⟨⟨by rw [e _ _ (by decide) (by decide)]; exact h1, by rw [e _ _ (by decide) (by decide)]; exact h2, by rw [e _ _ (by decide) (by decide)]; exact h3, by rw [e _ _ (by decide) (by decide)]; exact h4, by rw [e _ _ (by decide) (by decide)]; exact h5, by rw [e _ _ (by decide) (by decide)]; exact h6, by rw [e _ _ (by decide) (by decide)]; exact h7⟩, ⟨r1.ext (fun i => e _ _ (by decide) (by decide)), r2.ext (fun i => e _ _ (by decide) (by decide)), r3.ext (fun i => e _ _ (by decide) (by decide)), r4.ext (fun i => e _ _ (by decide) (by decide))⟩, fun a b a0 a1 b0 b1 => ?_⟩
  rw [e _ _ (by decide) (by decide)]
  exact hj a b a0 a1 b0 b1
theorem DM.rd {G : Gm} {μ μ' : Mm} (h : DM G μ) (f : RF μ μ') : DM G μ' := h.ext (fun r i h1 h2 => f.2.2 r i (by unfold mpP; omega))
def ML (T : List Int) (q : Nat) (C : List Int) (μ : Mm) : Prop := KR μ ∧ PP T q μ ∧ (m_gt μ 50 44 = C.length ∧ Row μ 86 0 (C.map tM)) ∧ WDM μ
def MG (T : List Int) (q : Nat) (G : Gm) (μ : Mm) : Prop := ML T q (gC G) μ ∧ DM G μ
theorem WDM.df {μ μ' : Mm} (h : WDM μ) (f : DF μ μ') : WDM μ' := h.fr (fun r i h1 h2 => f.2.2 r i (by unfold dP mpP; omega))
theorem MG.lx {T : List Int} {q q' : Nat} {G : Gm} {μ μ' : Mm} (h : MG T q G μ) (hP : PP T q' μ') (f : Fr [] [(50, 2), (50, 4)] μ μ') : MG T q' G μ' := ⟨⟨f.KR h.1.1 (by decide), hP, ⟨by rw [f.2.2 50 44 (by decide) (by decide)]; exact h.1.2.2.1.1, h.1.2.2.1.2.ext (fun i => f.2.2 86 i (by decide) (by simp))⟩, h.1.2.2.2.lx (lx4 f)⟩, h.2.rd (lx4 f)⟩
theorem f24 {μ μ' : Mm} (f : Fr [] [(50, 2)] μ μ') : Fr [] [(50, 2), (50, 4)] μ μ' := f.mono (by simp) (by simp)
theorem MG.l2 {T : List Int} {q q' : Nat} {G : Gm} {μ μ' : Mm} (h : MG T q G μ) (hP : PP T q' μ') (f : Fr [] [(50, 2)] μ μ') : MG T q' G μ' := h.lx hP (f24 f)
/-- a draft's cell was written -/
theorem MG.st {T : List Int} {q : Nat} {G G' : Gm} {μ : Mm} {r i v : Int} (hr : 74 ≤ r ∧ r ≤ 85) (hp : dP r i) (h : MG T q G μ) (hc : gC G' = gC G) (hD : DM G' (m_st μ r i v)) : MG T q G' (m_st μ r i v) ∧ DF μ (m_st μ r i v) := by
  have f := DF.st hp μ v
  have g : ∀ a b : Int, (a < 74 ∨ 85 < a) → m_gt (m_st μ r i v) a b = m_gt μ a b := fun a b hn => gt_r _ _ _ _ (by omega)
  refine ⟨⟨⟨f.KR h.1.1, h.1.2.1.fr ⟨fun a ha j => ?_, fun p hp => ?_⟩, ⟨?_, ?_⟩, h.1.2.2.2.df f⟩, hD⟩, f⟩
  · rw [List.mem_singleton.mp ha]
    exact g _ _ (by omega)
  · exact g _ _ (by simp at hp; rcases hp with rfl | rfl | rfl | rfl | rfl <;> simp)
  · rw [g _ _ (by omega), hc]; exact h.1.2.2.1.1
  · rw [hc]; exact h.1.2.2.1.2.ext (fun j => g _ _ (by omega))
def SMR (K : Mm → Option Mm) (T : List Int) (μ : Mm) (res : Option Mm) (x : GP) : Prop := match x with
  | Sum.inr (q, G) => ∃ μ', res = K μ' ∧ MG T q G μ' ∧ DF μ μ'
  | Sum.inl e => ∃ μ', res = K μ' ∧ FM e μ' ∧ DF μ μ'
theorem SMR.fr {K : Mm → Option Mm} {T : List Int} {μ μ0 : Mm} {res : Option Mm} {x : GP} (h : SMR K T μ res x) (f : DF μ0 μ) : SMR K T μ0 res x := by
  match x, h with
  | Sum.inl e, ⟨μ', a, b, c⟩ => exact ⟨μ', a, b, f.trI c⟩
  | Sum.inr (q, C), ⟨μ', a, b, c⟩ => exact ⟨μ', a, b, f.trI c⟩
theorem FM.st {e : Int × Nat} {μ : Mm} (h : FM e μ) {r i v : Int} (hr : r ≠ 50) : FM e (m_st μ r i v) := ⟨by rw [gt_r _ _ _ _ (Ne.symm hr)]; exact h.1, by rw [gt_r _ _ _ _ (Ne.symm hr)]; exact h.2.1, h.2.2⟩
theorem FM.bad {e : Int × Nat} {μ : Mm} (h : FM e μ) : ¬ m_gt μ 50 5 = 0 := by rw [h.1]; exact h.2.2
theorem DM.set {G : Gm} {μ : Mm} {k v : Int} (hk : k = 0 ∨ k = 1 ∨ k = 2 ∨ k = 3) (h : DM G μ) : DM (gset G k v) (m_st μ (74 + k) 0 v) := by
  obtain ⟨⟨h1, h2, h3, h4, h5, h6, h7⟩, ⟨r1, r2, r3, r4⟩, hj⟩ := h
  have e : ∀ i, (gset G k v).1 i = if i = k then v else G.1 i := fun _ => rfl
  refine ⟨⟨?_, ?_, ?_, ?_, ?_, ?_, ?_⟩, ⟨?_, r2.ext (fun i => by rw [m_gt_st, if_neg (by omega)]), r3.ext (fun i => by rw [m_gt_st, if_neg (by omega)]), r4.ext (fun i => by rw [m_gt_st, if_neg (by omega)])⟩, fun a b a0 a1 b0 b1 => ?_⟩
  · rw [e, m_gt_st, h1]; rcases hk with rfl | rfl | rfl | rfl <;> simp
  · rw [e, m_gt_st, h2]; rcases hk with rfl | rfl | rfl | rfl <;> simp
  · rw [e, m_gt_st, h3]; rcases hk with rfl | rfl | rfl | rfl <;> simp
  · rw [e, m_gt_st, h4]; rcases hk with rfl | rfl | rfl | rfl <;> simp
  · rw [m_gt_st, if_neg (by omega)]; exact h5
  · rw [m_gt_st, if_neg (by omega)]; exact h6
  · rw [m_gt_st, if_neg (by omega)]; exact h7
  · rw [e, e, e, if_neg (by omega), if_neg (by omega), if_neg (by omega)]
    exact r1.ext (fun i => by rw [m_gt_st, if_neg (by omega)])
  · rw [m_gt_st, if_neg (by omega)]
    exact hj a b a0 a1 b0 b1
theorem fld_M {N : Nat} (hN : 1000000 ≤ N) {T : List Int} (hT : TB T) {k lo hi : Int} (hk : k = 0 ∨ k = 1 ∨ k = 2 ∨ k = 3) (hlo : 0 ≤ lo ∧ lo ≤ 10000) (hhi : 0 ≤ hi ∧ hi ≤ 10000) {q : Nat} {G : Gm} (hI : IN T q) {μ : Mm} (h : MG T q G μ) {c : Int} (hc : c = 74 + k) (K : Mm → Option Mm) : SMR K T μ (b2 (jX8_number N 50 lo hi μ) fun x μ1 => (m_ast 100 μ1 c 0 x).bind fun μ2 => K μ2) (fldS T G k lo hi q) := by
  have ks : ∀ {μ1 : Mm}, KR μ1 → m_kd μ1 (74 + k) = (100, 2) := fun hK => by
    rcases hk with rfl | rfl | rfl | rfl
    · exact k_74 hK
    · exact k_75 hK
    · exact k_76 hK
    · exact k_77 hK
  have dp : dP (74 + k) 0 := by unfold dP; omega
  subst hc
  unfold fldS bN
  cases hn : numb T lo hi q with
  | inr p =>
    obtain ⟨v, q1⟩ := p
    obtain ⟨μ1, a1, a2, a3, a4⟩ := numM_1 (N := N) hN hT hlo hhi hI hn h.1.1 h.1.2.1
    have s := h.lx a2 a4
    obtain ⟨s1, s2⟩ := s.st (v := v) (by omega) dp (G' := gset G k v) rfl (s.2.set hk)
    exact ⟨_, by rw [a1, b2_e, ast_e (ks a3) (by decide) (by decide), ob_e], s1, (lx4 a4).df.trI s2⟩
  | inl e =>
    obtain ⟨v, μ1, a1, a2, _, a3⟩ := numM_0 (N := N) hN hT hlo hhi hI hn h.1.1 h.1.2.1
    have K1 : KR μ1 := a3.KR h.1.1 (by decide)
    exact ⟨_, by rw [a1, b2_e, ast_e (ks K1) (by decide) (by decide), ob_e], a2.st (by omega), (lx6 a3).df.trI (DF.st dp μ1 v)⟩
theorem DM.earn {G : Gm} {μ : Mm} {v u : Int} (hv : v = 1 ∨ v = 2 ∨ v = 3) (h : DM G μ) : DM (gset G (3 + v) u) (m_st μ 78 v u) := by
  obtain ⟨⟨h1, h2, h3, h4, h5, h6, h7⟩, ⟨r1, r2, r3, r4⟩, hj⟩ := h
  have e : ∀ i, (gset G (3 + v) u).1 i = if i = 3 + v then u else G.1 i := fun _ => rfl
  have e0 : m_gt μ 78 0 = 0 := r1.get (i := 0) rfl rfl
  have e1 : m_gt μ 78 1 = G.1 4 := r1.get (i := 1) rfl rfl
  have e2 : m_gt μ 78 2 = G.1 5 := r1.get (i := 2) rfl rfl
  have e3 : m_gt μ 78 3 = G.1 6 := r1.get (i := 3) rfl rfl
  refine ⟨⟨?_, ?_, ?_, ?_, ?_, ?_, ?_⟩, ⟨?_, r2.ext (fun i => by rw [m_gt_st, if_neg (by omega)]), r3.ext (fun i => by rw [m_gt_st, if_neg (by omega)]), r4.ext (fun i => by rw [m_gt_st, if_neg (by omega)])⟩, fun a b a0 a1 b0 b1 => ?_⟩
  · rw [e, m_gt_st, if_neg (by omega), if_neg (by omega)]; exact h1
  · rw [e, m_gt_st, if_neg (by omega), if_neg (by omega)]; exact h2
  · rw [e, m_gt_st, if_neg (by omega), if_neg (by omega)]; exact h3
  · rw [e, m_gt_st, if_neg (by omega), if_neg (by omega)]; exact h4
  · rw [m_gt_st, if_neg (by omega)]; exact h5
  · rw [m_gt_st, if_neg (by omega)]; exact h6
  · rw [m_gt_st, if_neg (by omega)]; exact h7
  · intro i hi
    have hi : i < 4 := hi
    rw [e, e, e, Int.zero_add, m_gt_st]
    match i, hi with
    | 0, _ => rcases hv with rfl | rfl | rfl <;> simp [e0]
    | 1, _ => rcases hv with rfl | rfl | rfl <;> simp [e1]
    | 2, _ => rcases hv with rfl | rfl | rfl <;> simp [e2]
    | 3, _ => rcases hv with rfl | rfl | rfl <;> simp [e3]
  · rw [m_gt_st, if_neg (by omega)]
    exact hj a b a0 a1 b0 b1
theorem cln_M {N : Nat} (hN : 1000000 ≤ N) {T : List Int} (hT : TB T) {q : Nat} {G : Gm} (hI : IN T q) {μ : Mm} (h : MG T q G μ) (K : Mm → Option Mm) : SMR K T μ ((jX8_cleanTold N 50 μ).bind K) (clnS T G q) := by
  unfold jX8_cleanTold jX8_cleanTold_36 clnS
  cases hn : numb T 1 3 q with
  | inl e =>
    obtain ⟨v, μ1, a1, a2, _, a3⟩ := numM_0 (N := N) hN hT (by decide) (by decide) hI hn h.1.1 h.1.2.1
    refine ⟨μ1, ?_, a2, (lx6 a3).df⟩
    rw [a1, b2_e, asks_b a2.bad, ob_e, num_b a2.bad, b2_e, if_pos a2.bad, ob_e]
  | inr p =>
    obtain ⟨v, q1⟩ := p
    have i1 := numb_IN hn
    have iv1 := i1.2.2.1
    have iv2 := i1.2.2.2.1
    obtain ⟨μ1, a1, a2, a3, a4⟩ := numM_1 (N := N) hN hT (by decide) (by decide) hI hn h.1.1 h.1.2.1
    have s := h.lx a2 a4
    rw [a1, b2_e, r_50_13 a3]
    refine SMR.fr ?_ (lx4 a4).df
    show SMR K T μ1 _ (wR T wEarns q1 _)
    have ww := wm s.1.1 s.1.2.2.2 (r := 56) (w := wEarns) (by decide)
    unfold wR
    cases hw : wrd T wEarns q1 with
    | none =>
      obtain ⟨μ2, b1, b2', b3⟩ := asksM_0 (N := N) hN hT i1.1 (by decide) s.1.1 ww hw s.1.2.1
      refine ⟨μ2, ?_, b2', (lx6 b3).df⟩
      rw [b1, ob_e, num_b b2'.bad, b2_e, if_pos b2'.bad, ob_e]
    | some q2 =>
      have i2 := wrd_1 w10_ok.2.2.1 hw
      obtain ⟨μ2, b1, b2', b3, b4⟩ := asksM_1 (N := N) hN hT i1.1 (by decide) s.1.1 ww hw s.1.2.1
      have s2 := s.lx b2' b4
      rw [b1, ob_e]
      refine SMR.fr ?_ (lx4 b4).df
      dsimp only
      unfold bN
      cases hm : numb T 0 3 q2 with
      | inl e =>
        obtain ⟨u, μ3, c1, c2, _, c3⟩ := numM_0 (N := N) hN hT (by decide) (by decide) i2.1 hm s2.1.1 s2.1.2.1
        refine ⟨μ3, ?_, c2, (lx6 c3).df⟩
        rw [c1, b2_e, if_pos c2.bad, ob_e]
      | inr p =>
        obtain ⟨u, q3⟩ := p
        obtain ⟨μ3, c1, c2, c3, c4⟩ := numM_1 (N := N) hN hT (by decide) (by decide) i2.1 hm s2.1.1 s2.1.2.1
        have s3 := s2.lx c2 c4
        obtain ⟨t1, t2⟩ := s3.st (v := u) (r := 78) (i := v) (by omega) (by unfold dP; omega) (G' := gset G (3 + v) u) rfl (s3.2.earn (by omega))
        refine ⟨_, ?_, t1, (lx4 c4).df.trI t2⟩
        rw [c1, b2_e, if_neg (not_not_intro c2.b0), r_50_35 c3, ast_e (k_78 c3) (by omega) (by omega), ob_e, ob_e]
