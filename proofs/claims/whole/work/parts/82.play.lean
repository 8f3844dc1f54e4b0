/-! ===== PURE: the class plays a frame, and fills ===== -/
def iot : Nat → Int → List Int
  | 0, _ => []
  | n + 1, a => a :: iot n (a + 1)
theorem iot_range : ∀ (n : Nat) (a : Int), (List.range n).map (fun k : Nat => a + (k : Int)) = iot n a
  | 0, a => rfl
  | n + 1, a => by
    rw [List.range_succ_eq_map, List.map_cons, List.map_map]
    show (a + ((0 : Nat) : Int)) :: _ = a :: iot n (a + 1)
    rw [← iot_range n (a + 1)]
    congr 1
    · omega
    · congr 1
      funext k
      show a + ((k + 1 : Nat) : Int) = a + 1 + (k : Int)
      omega
theorem upto_iot (st : Int) : upto st = iot (st.toNat + 1) 0 := by
  rw [← iot_range]
  unfold upto
  congr 1
  funext k
  omega
theorem SC.ext {sh l : Int} {G : Gm} {R : List Int} {μ μ' : Mm} (h : SC sh l G R μ) (hK : KR μ') (e : ∀ r i : Int, 2 ≤ r ∧ r ≤ 31 → m_gt μ' r i = m_gt μ r i) : SC sh l G R μ' := by
  have hl := h.1.2.1
  have hs := h.1.1
  refine ⟨h.1, hK, ?_, ?_, h.2.2.2.2.ext (fun r i hr => e r i (by omega))⟩
  · refine h.2.2.1.ag (b := μ') ⟨fun r hr i => e r i ?_, fun q hq => e q.1 q.2 ?_⟩
    · simp [wLX] at hr; omega
    · simp [sLX] at hq; rcases hq with rfl | rfl | rfl | rfl | rfl | rfl | rfl | rfl <;> dsimp only <;> omega
  · refine h.2.2.2.1.ag (b := μ') ⟨fun r hr i => e r i ?_, fun q hq => absurd hq (by simp)⟩
    rw [List.mem_singleton.mp hr]; omega
def PC (sh l : Int) (G : Gm) (R : List Int) (Q : Qu) (b : Bool) (μ : Mm) : Prop := SC sh l G R μ ∧ (m_gt μ 33 3 = sh ∧ m_gt μ 33 4 = l ∧ m_gt μ 33 6 = (if Q.2.1 then 1 else 0) ∧ m_gt μ 33 7 = (if b then 1 else 0) ∧ m_gt μ 33 8 = Q.2.2.1 ∧ m_gt μ 33 9 = Q.2.2.2) ∧ ∀ f, 0 ≤ f → f ≤ 8 → m_gt μ 42 f = (Q.1 f).length
def QR (G : Gm) (R : List Int) (Q : Qu) : Prop := QOK G Q ∧ (∀ f, 0 ≤ f → f ≤ G.1 1 → ∀ u : Nat, u < (Q.1 f).length → rA R (fR (spl G R) f + u) = (Q.1 f).getD u 0) ∧ 0 ≤ Q.2.2.2 ∧ ∀ f, (Q.1 f).length ≤ 27
def plI : List Int := [43, 44]
def plS : List (Int × Int) := [(33, 13), (33, 10)]
theorem PC.fr {sh l : Int} {G : Gm} {R : List Int} {Q : Qu} {b : Bool} {μ μ' : Mm} (h : PC sh l G R Q b μ) (f : Fr plI plS μ μ') : PC sh l G R Q b μ' := by
  obtain ⟨h1, ⟨a3, a4, a6, a7, a8, a9⟩, h2⟩ := h
  have g : ∀ r i : Int, r ≠ 43 → r ≠ 44 → ¬ (r = 33 ∧ (i = 13 ∨ i = 10)) → m_gt μ' r i = m_gt μ r i := fun r i q1 q2 q3 => f.2.2 r i (by simp [plI]; omega) (by simp [plS]; omega)
  refine ⟨h1.ext (f.KR h1.2.1 (by decide)) (fun r i hr => g r i (by omega) (by omega) (by omega)), ⟨?_, ?_, ?_, ?_, ?_, ?_⟩, fun f h0 h8 => ?_⟩
  · rw [g 33 3 (by decide) (by decide) (by decide)]; exact a3
  · rw [g 33 4 (by decide) (by decide) (by decide)]; exact a4
  · rw [g 33 6 (by decide) (by decide) (by decide)]; exact a6
  · rw [g 33 7 (by decide) (by decide) (by decide)]; exact a7
  · rw [g 33 8 (by decide) (by decide) (by decide)]; exact a8
  · rw [g 33 9 (by decide) (by decide) (by decide)]; exact a9
  · rw [g 42 f (by decide) (by decide) (by omega)]; exact h2 f h0 h8
theorem givenIn_X {N : Nat} {sh l : Int} {G : Gm} {R : List Int} {Q : Qu} {b : Bool} {μ : Mm} (h : PC sh l G R Q b μ) {f : Int} (h0 : 0 ≤ f) (h8 : f ≤ 8) : jX2_givenIn N 33 f μ = some (((Q.1 f).length : Int), μ) := by
  have hK := h.1.2.1
  unfold jX2_givenIn jX2_givenIn_23
  rw [if_neg (by omega), r_33_5 hK, len_e (k_42 hK) (by decide) (by decide), ob_e, if_pos (by omega), ald_e (k_42 hK) (by omega) (by omega), ob_e, h.2.2 f h0 h8]
/-- what the mark is, behind some rolls -/
def MKI (Q : Qu) (f : Int) (p : List Int) (μ : Mm) : Prop := (f ≠ Q.2.2.1 → m_gt μ 33 10 = 1) ∧ (f = Q.2.2.1 → Q.2.2.2 < p.length → m_gt μ 33 10 = l_shl 1 (tk (p.getD Q.2.2.2.toNat 0)))
theorem markTake_X {N : Nat} {Q : Qu} (hr : 0 ≤ Q.2.2.2) {f : Int} {p : List Int} {x : Int} {μ : Mm} (h8 : m_gt μ 33 8 = Q.2.2.1) (h9 : m_gt μ 33 9 = Q.2.2.2) (hM : MKI Q f p μ) : ∃ μ', jX2_markTake N 33 f p.length (tk x) μ = some μ' ∧ MKI Q f (p ++ [x]) μ' ∧ Fr [] [(33, 10)] μ μ' := by
  unfold jX2_markTake jX2_markTake_23
  rw [h8, h9]
  by_cases c : f = Q.2.2.1
  · rw [if_neg (not_not_intro c)]
    by_cases c2 : (p.length : Int) = Q.2.2.2
    · rw [if_neg (not_not_intro c2), bnd_e]
      refine ⟨_, rfl, ⟨fun z => absurd c z, fun _ _ => ?_⟩, Fr.stI (Fr.rf0 _ _ _) (by simp)⟩
      rw [gt_same, ← c2, Int.toNat_natCast, List.getD_eq_getElem?_getD, List.getElem?_append_right (Nat.le_refl _), Nat.sub_self]
      rfl
    · rw [if_pos c2]
      refine ⟨μ, rfl, ⟨fun z => absurd c z, fun _ z => ?_⟩, Fr.rf0 _ _ _⟩
      rw [List.length_append, List.length_singleton] at z
      have := hM.2 c (by omega)
      rw [this, List.getD_eq_getElem?_getD, List.getD_eq_getElem?_getD, List.getElem?_append_left (by omega)]
  · rw [if_pos c]
    exact ⟨μ, rfl, ⟨fun _ => hM.1 c, fun z => absurd z c⟩, Fr.rf0 _ _ _⟩
theorem MKI.back {Q : Qu} {f : Int} {p : List Int} {x : Int} {μ : Mm} (hr : 0 ≤ Q.2.2.2) (h : MKI Q f (p ++ [x]) μ) : MKI Q f p μ := by
  refine ⟨h.1, fun c z => ?_⟩
  have := h.2 c (by rw [List.length_append, List.length_singleton]; omega)
  rw [this, List.getD_eq_getElem?_getD, List.getD_eq_getElem?_getD, List.getElem?_append_left (by omega)]
def leaf (G : Gm) (Q : Qu) (f : Int) (o : Ow) (F : List Int) : Int × Int := (si (fo G f o F).1 * 107 + (fo G f o F).2 + 50, lm Q.2.2.1 Q.2.2.2 f F)
theorem MKI.leaf {Q : Qu} {f : Int} {p : List Int} {μ : Mm} (hM : MKI Q f p μ) (hlen : f = Q.2.2.1 → Q.2.2.2 < p.length) : m_gt μ 33 10 = l_shl 1 (lm Q.2.2.1 Q.2.2.2 f p) := by
  unfold lm
  by_cases c : f = Q.2.2.1
  · rw [if_pos c]; exact hM.2 c (hlen c)
  · rw [if_neg c]; exact hM.1 c
theorem play_leaf {N : Nat} {sh l : Int} {G : Gm} {R : List Int} {Q : Qu} {b : Bool} {rc : Int → Int → Int → Int → Int → Int → Int → Mm → Option Mm} {f : Int} (hf : 0 ≤ f ∧ f < G.1 1) {o : Ow} (ho : OwOK o) {p : List Int} (hp : FG G p) {ks : List (Int × Int)} (hks : ∀ k ∈ ks, 0 ≤ k.2 ∧ k.2 ≤ 9) (hl : ks.length < 1400) {μ : Mm} (h : PC sh l G R Q b μ) (hG : GRP b ks μ) (hM : MKI Q f p μ) (hlen : b = false → f = Q.2.2.1 → Q.2.2.2 < p.length) : ∃ μ', jX2_playFrame_15 rc N 33 f p.length (G.1 0 - dn p) (si (ltn p.length o)) (gn o p) (fls p) μ = some μ' ∧ GRP b (ks ++ [leaf G Q f o p]) μ' ∧ MKI Q f p μ' ∧ Fr plI plS μ μ' := by
  obtain ⟨⟨⟨hs, hL2, hGO, hV⟩, hK, hL, hT, hS⟩, ⟨a3, a4, a6, a7, a8, a9⟩, hgv⟩ := id h
  obtain ⟨p1, p2, p3, p4, p5⟩ := hp
  have h0 := hGO.1
  have h2 := hGO.2.2.1
  have hc := hGO.2.2.2.1
  have hd := dn_nn p1
  have hfl := fls_ok p
  have lk := (LK.of hK hL2).1.1
  have hwr := wrt_ok G f (dn p) p.length (fls p)
  have hgn := gn_ok p o ho p1
  have hern := ern_ok hGO (p.length : Int)
  have m1 : 0 ≤ fls p * G.1 3 := Int.mul_nonneg hfl.1 hc.1
  have m2 : fls p * G.1 3 ≤ 3 * 10 := Int.mul_le_mul (by omega) hc.2 hc.1 (by omega)
  have h1o : OwOK1 (ltn p.length o) := ltn_ok ho p2
  have hfo := fo_ok hGO (f := f) ho ⟨p1, p2, p3, p4, p5⟩
  have hso := si_ok hfo.1
  have how : ow G p = if 0 < G.1 0 - dn p then 0 else ern G p.length := by
    unfold ow cln
    by_cases c : dn p = G.1 0
    · rw [if_pos c, if_neg (by omega)]
    · rw [if_neg c, if_pos (by omega)]; rfl
  obtain ⟨μ', e1, e2, e3⟩ := addToGroup_X (N := N) (b := b) (ks := ks) (so := si (fo G f o p).1) (g := (fo G f o p).2) (m := lm Q.2.2.1 Q.2.2.2 f p) rfl hso ⟨hfo.2.1, hfo.2.2.1⟩ (lm_ok p1) hl hks hK a7 (fun z => hM.leaf (hlen z)) hG
  have f3 : Fr plI plS μ μ' := e3.mono (by decide) (by decide)
  have hM' : MKI Q f p μ' := by
    have g : m_gt μ' 33 10 = m_gt μ 33 10 := e3.2.2 33 10 (by decide) (by decide)
    exact ⟨fun z => by rw [g]; exact hM.1 z, fun z y => by rw [g]; exact hM.2 z y⟩
  refine ⟨μ', ?_, e2, hM', f3⟩
  have tail : ∀ e, e = ow G p → jX2_playFrame_53 rc N 33 (si (ltn p.length o)) (gn o p) (fls p) (wrt G f (dn p) p.length (fls p)) e μ = some μ' := by
    intro e he
    unfold jX2_playFrame_53
    have hoe : 0 ≤ e ∧ e ≤ 3 := by rw [he]; exact ern_ok hGO _
    rw [stateWith_X h1o hoe.1 hoe.2, b2_e, a4, chk_e lk, hL.1.2.2.2.1, i_mul_e (by omega) (by omega), i_add_e (by omega) (by omega), i_sub_e (by omega) (by omega), he]
    have : jX2_addToGroup N 33 (si (pls (ltn p.length o) (ow G p))) (gn o p + wrt G f (dn p) p.length (fls p) - fls p * G.1 3) μ = some μ' := e1
    rw [this, ob_e]
  unfold jX2_playFrame_15
  rw [a4, chk_e lk, hL.1.1, i_sub_e (by omega) (by omega), show G.1 0 - (G.1 0 - dn p) = dn p by omega, worthOf_X hL2 hGO hf ⟨hd, p4⟩ ⟨by omega, p3⟩ ⟨hfl.1, hfl.2⟩ hK hT, b2_e]
  by_cases c : 0 < G.1 0 - dn p
  · rw [if_pos c]
    exact tail 0 (by rw [how, if_pos c])
  · rw [if_neg c, a4, chk_e lk, earnedBy_X hL2 hK hL, b2_e]
    exact tail _ (by rw [how, if_neg c])
theorem frow_len : ∀ (n : Nat) (st : Int) (c : List Int), 0 ≤ st → st ≤ 9 → FVf st c → (frow n st c).length ≤ 10 ^ n
  | 0, st, c, _, _, _ => by simp [frow]
  | n + 1, st, c, h0, h9, hc => by
    have hp : 1 ≤ 10 ^ n := Nat.one_le_pow _ _ (by decide)
    unfold frow
    split
    · rw [Nat.pow_succ]; simp; omega
    · cases c with
      | nil =>
        dsimp only
        rw [upto_iot]
        have key : ∀ (k : Nat) (a : Int), 0 ≤ a → a + k ≤ st + 1 → ((iot k a).flatMap fun t => (frow n (st - t) []).map (t :: ·)).length ≤ k * 10 ^ n := by
          intro k
          induction k with
          | zero => intro a _ _; simp [iot]
          | succ k ih =>
            intro a ha hk
            rw [iot, List.flatMap_cons, List.length_append, List.length_map]
            have h1 := frow_len n (st - a) [] (by omega) (by omega) trivial
            have h2 := ih (a + 1) (by omega) (by omega)
            rw [Nat.succ_mul]
            omega
        have := key (st.toNat + 1) 0 (by omega) (by omega)
        have h10 : (st.toNat + 1) * 10 ^ n ≤ 10 * 10 ^ n := Nat.mul_le_mul_right _ (by omega)
        rw [Nat.pow_succ, Nat.mul_comm]
        omega
      | cons x c =>
        dsimp only
        rw [List.length_map]
        have ht : 0 ≤ tk x ∧ tk x ≤ st := by have := hc.1; unfold tk; rcases this with z | z <;> split <;> omega
        have := frow_len n (st - tk x) c (by omega) (by omega) hc.2
        rw [Nat.pow_succ]
        omega
/-- a loop over takes, each of which adds its leaves -/
theorem play_185 {N : Nat} {sh l : Int} {G : Gm} {R : List Int} {Q : Qu} {b : Bool} (hr : 0 ≤ Q.2.2.2) {rc : Int → Int → Int → Int → Int → Int → Int → Mm → Option Mm} {f st so' g fo' each : Int} {p : List Int} {LL : Int → List (Int × Int)} (hst : 0 ≤ st ∧ st ≤ 9) (hg : 0 ≤ g ∧ g ≤ 1000) (he : 0 ≤ each ∧ each ≤ 4) {B : Nat} (hlm : ∀ t, 0 ≤ t → t ≤ st → (LL t).length ≤ B ∧ ∀ k ∈ LL t, 0 ≤ k.2 ∧ k.2 ≤ 9)
    (IH : ∀ (t : Int) (ks : List (Int × Int)) (μ : Mm), 0 ≤ t → t ≤ st → (∀ k ∈ ks, 0 ≤ k.2 ∧ k.2 ≤ 9) → ks.length + B < 1400 → PC sh l G R Q b μ → GRP b ks μ → MKI Q f (p ++ [t]) μ → ∃ μ', rc 33 f (p.length + 1) (st - t) so' (g + each * t) fo' μ = some μ' ∧ GRP b (ks ++ LL t) μ' ∧ MKI Q f (p ++ [t]) μ' ∧ Fr plI plS μ μ') (hpl : p.length ≤ 3) :
    ∀ (k n : Nat) (t : Int) (ks : List (Int × Int)) {μ : Mm}, t + k = st + 1 → 0 ≤ t → k < n → (∀ k ∈ ks, 0 ≤ k.2 ∧ k.2 ≤ 9) → ks.length + k * B < 1400 → PC sh l G R Q b μ → GRP b ks μ → MKI Q f p μ → ∃ μ', jX2_playFrame_185 rc N n 33 f p.length st g fo' each so' t μ = some μ' ∧ GRP b (ks ++ (iot k t).flatMap LL) μ' ∧ MKI Q f p μ' ∧ Fr plI plS μ μ'
  | k, 0, t, ks, μ, ht, h0, hn, _, _, _, _, _ => absurd hn (by omega)
  | 0, n + 1, t, ks, μ, ht, h0, hn, hks, hkl, hP, hG, hM => by
    refine ⟨μ, ?_, by simpa [iot] using hG, hM, Fr.rf0 _ _ _⟩
    show jX2_playFrame_185b rc (jX2_playFrame_185 rc N n) N 33 f p.length st g fo' each so' t μ = _
    unfold jX2_playFrame_185b
    rw [if_pos (by omega)]
  | k + 1, n + 1, t, ks, μ, ht, h0, hn, hks, hkl, hP, hG, hM => by
    have hh := hlm t h0 (by omega)
    have etk : tk t = t := by unfold tk; rw [if_neg (by omega)]
    rw [Nat.succ_mul] at hkl
    obtain ⟨μ1, m1, m2, m3⟩ := markTake_X (N := N) hr (f := f) (p := p) (x := t) hP.2.1.2.2.2.2.1 hP.2.1.2.2.2.2.2 hM
    have f1 : Fr plI plS μ μ1 := m3.mono (by decide) (by decide)
    have G1 : GRP b ks μ1 := by
      obtain ⟨q1, q2, q3⟩ := hG
      refine ⟨fun i i0 i1 => ?_, ?_, q3.ext (fun i => m3.2.2 44 i (by decide) (by simp))⟩
      · rw [m3.2.2 43 i (by decide) (by simp)]; exact q1 i i0 i1
      · rw [m3.2.2 33 13 (by decide) (by decide)]; exact q2
    obtain ⟨μ2, r1, r2, r3, r4⟩ := IH t ks μ1 h0 (by omega) hks (by omega) (hP.fr f1) G1 m2
    have f2 := f1.trI r4
    have hks2 : ∀ k ∈ ks ++ LL t, 0 ≤ k.2 ∧ k.2 ≤ 9 := fun k hk => (List.mem_append.mp hk).elim (hks k) (hh.2 k)
    obtain ⟨μ3, s1, s2, s3, s4⟩ := play_185 hr hst hg he hlm IH hpl k n (t + 1) (ks ++ LL t) (by omega) (by omega) (by omega) hks2 (by rw [List.length_append]; omega) (hP.fr f2) r2 (r3.back hr)
    refine ⟨μ3, ?_, ?_, s3, f2.trI s4⟩
    · show jX2_playFrame_185b rc (jX2_playFrame_185 rc N n) N 33 f p.length st g fo' each so' t μ = _
      unfold jX2_playFrame_185b
      have hm0 : 0 ≤ each * t := Int.mul_nonneg he.1 h0
      have hm1 : each * t ≤ 4 * 9 := Int.mul_le_mul he.2 (by omega) h0 (by omega)
      rw [etk] at m1
      rw [if_neg (by omega), m1, ob_e, i_add_e (x := (p.length : Int)) (by omega) (by omega), i_sub_e (by omega) (by omega), i_mul_e (by omega) (by omega), i_add_e (x := g) (by omega) (by omega), r1, ob_e, bnd_e, i_add_e (by omega) (by omega)]
      exact s1
    · rw [iot, List.flatMap_cons, ← List.append_assoc]
      exact s2
theorem drop_cons {l : List Int} {u : Nat} (h : u < l.length) : l.drop u = l.getD u 0 :: l.drop (u + 1) := by
  rw [List.drop_eq_getElem_cons h, List.getD_eq_getElem?_getD, List.getElem?_eq_getElem h]
  rfl
theorem play_X {N : Nat} (hN : 1000000 ≤ N) {sh l : Int} {G : Gm} {R : List Int} {Q : Qu} (hQ : QR G R Q) {b : Bool} {f : Int} (hf : 0 ≤ f ∧ f < G.1 1) {o : Ow} (ho : OwOK o) : ∀ (n d : Nat) (p : List Int) (ks : List (Int × Int)) {μ : Mm}, (p.length : Int) + n = G.1 2 → n < d → rok p → dn p ≤ G.1 0 → FVf (G.1 0 - dn p) ((Q.1 f).drop p.length) → (1 ≤ p.length ∨ (1 ≤ n ∧ dn p < G.1 0)) → (b = false → f = Q.2.2.1 → ∀ r ∈ frow n (G.1 0 - dn p) ((Q.1 f).drop p.length), Q.2.2.2 < (p ++ r).length) → (∀ k ∈ ks, 0 ≤ k.2 ∧ k.2 ≤ 9) → ks.length + 10 ^ n < 1400 → PC sh l G R Q b μ → GRP b ks μ → MKI Q f p μ → ∃ μ', jX2_playFrame N d 33 f p.length (G.1 0 - dn p) (si (ltn p.length o)) (gn o p) (fls p) μ = some μ' ∧ GRP b (ks ++ (frow n (G.1 0 - dn p) ((Q.1 f).drop p.length)).map (fun r => leaf G Q f o (p ++ r))) μ' ∧ MKI Q f p μ' ∧ Fr plI plS μ μ'
  | n, 0, p, ks, μ, hn, hd, _, _, _, _, _, _, _, _, _, _ => absurd hd (by omega)
  | 0, d + 1, p, ks, μ, hn, hd, hpr, hpd, hv, hne, hlen, hks, hkl, hP, hG, hM => by
    have hGO := hP.1.1.2.2.1
    have h2 := hGO.2.2.1
    have hFG : FG G p := ⟨hpr, by omega, by omega, hpd, Or.inr (by omega)⟩
    obtain ⟨μ', e1, e2, e3, e4⟩ := play_leaf (N := N) (rc := jX2_playFrame N d) hf ho hFG hks (by omega) hP hG hM (fun z y => by have := hlen z y [] (by simp [frow]); simpa using this)
    refine ⟨μ', ?_, by simpa [frow] using e2, e3, e4⟩
    show jX2_playFrame_B (jX2_playFrame N d) N 33 f p.length (G.1 0 - dn p) (si (ltn p.length o)) (gn o p) (fls p) μ = _
    unfold jX2_playFrame_B
    rw [hP.2.1.2.1, chk_e (LK.of hP.1.2.1 hP.1.1.2.1).1.1, hP.1.2.2.1.1.2.2.1, if_neg (show ¬ (p.length : Int) < G.1 2 by omega), e1]
    split <;> rfl
  | n + 1, d + 1, p, ks, μ, hn, hd, hpr, hpd, hv, hne, hlen, hks, hkl, hP, hG, hM => by
    have hGO := hP.1.1.2.2.1
    have h2 := hGO.2.2.1
    have h0 := hGO.1
    have hd0 := dn_nn hpr
    have hfr8 := hGO.2.1
    have lk := (LK.of hP.1.2.1 hP.1.1.2.1).1.1
    have hgn := gn_ok p o ho hpr
    have hfl := fls_ok p
    have hol := ho.ltn p.length
    have holn := hol
    unfold OwOK at holn
    show ∃ μ', jX2_playFrame_B (jX2_playFrame N d) N 33 f p.length (G.1 0 - dn p) (si (ltn p.length o)) (gn o p) (fls p) μ = some μ' ∧ _
    unfold jX2_playFrame_B
    by_cases c : G.1 0 - dn p ≤ 0
    · have hpow : 1 ≤ 10 ^ (n + 1) := Nat.one_le_pow _ _ (by decide)
      have hFG : FG G p := ⟨hpr, by omega, by omega, hpd, Or.inl (by omega)⟩
      have ef : frow (n + 1) (G.1 0 - dn p) ((Q.1 f).drop p.length) = [[]] := by unfold frow; rw [if_pos c]
      rw [ef] at hlen ⊢
      obtain ⟨μ', e1, e2, e3, e4⟩ := play_leaf (N := N) (rc := jX2_playFrame N d) hf ho hFG hks (by omega) hP hG hM (fun z y => by have := hlen z y [] (by simp); simpa using this)
      rw [if_pos c]
      exact ⟨μ', e1, by simpa using e2, e3, e4⟩
    · rw [if_neg c, hP.2.1.2.1, chk_e lk, hP.1.2.2.1.1.2.2.1, if_pos (by omega), nextOf_X hol, b2_e, bnd_e, stateBehind_X hol, b2_e, givenIn_X hP hf.1 (by omega), b2_e]
      by_cases c2 : ((Q.1 f).length : Int) ≤ p.length
      · -- free
        have edr : (Q.1 f).drop p.length = [] := List.drop_eq_nil_of_le (by omega)
        rw [edr] at hv hlen ⊢
        have ef : frow (n + 1) (G.1 0 - dn p) [] = (upto (G.1 0 - dn p)).flatMap fun t => (frow n (G.1 0 - dn p - t) []).map (t :: ·) := by
          rw [frow, if_neg c]
        rw [if_pos c2, i_add_e (by omega) (by omega)]
        have hpow : 1 ≤ 10 ^ n := Nat.one_le_pow _ _ (by decide)
        rw [Nat.pow_succ] at hkl
        have K := play_185 (N := N) hQ.2.2.1 (rc := jX2_playFrame N d) (f := f) (st := G.1 0 - dn p) (so' := si (lt1 (ltn p.length o))) (g := gn o p) (fo' := fls p) (each := 1 + (ltn p.length o).1) (p := p) (LL := fun t => (frow n (G.1 0 - dn p - t) []).map (fun r => leaf G Q f o (p ++ t :: r))) (sh := sh) (l := l) (G := G) (R := R) (b := b) (by omega) (by omega) (by omega) (B := 10 ^ n) ?_ ?_ (by omega) ((G.1 0 - dn p).toNat + 1) N 0 ks (by omega) (by omega) (by omega) hks ?_ hP hG hM
        · obtain ⟨μ', e1, e2, e3, e4⟩ := K
          refine ⟨μ', e1, ?_, e3, e4⟩
          have el : (List.map (fun r => leaf G Q f o (p ++ r)) (frow (n + 1) (G.1 0 - dn p) [])) = (iot ((G.1 0 - dn p).toNat + 1) 0).flatMap (fun t => (frow n (G.1 0 - dn p - t) []).map (fun r => leaf G Q f o (p ++ t :: r))) := by
            rw [ef, upto_iot, List.map_flatMap]
            congr 1
            funext t
            rw [List.map_map]
            rfl
          rw [el]
          exact e2
        · intro t t0 t1
          refine ⟨by rw [List.length_map]; exact frow_len n _ [] (by omega) (by omega) trivial, fun k hk => ?_⟩
          obtain ⟨r, hr, rfl⟩ := List.mem_map.mp hk
          have ha := frow_ok n (G.1 0 - dn p - t) [] (by omega) (by omega) trivial r hr
          have : rok (p ++ t :: r) := by
            intro y hy
            rcases List.mem_append.mp hy with z | z
            · exact hpr y z
            · rcases List.mem_cons.mp z with w | w
              · rw [w]; omega
              · exact ha.1 y w
          exact lm_ok this
        · intro t ks' μ1 t0 t1 hks' hkl' hP' hG' hM'
          have etk : tk t = t := by unfold tk; rw [if_neg (by omega)]
          have ed : dn (p ++ [t]) = dn p + t := by rw [dn_one, etk]
          have el : ((p ++ [t]).length : Int) = p.length + 1 := by simp
          have edr' : (Q.1 f).drop (p ++ [t]).length = [] := List.drop_eq_nil_of_le (by simp; omega)
          have ih := play_X hN hQ hf ho n d (p ++ [t]) ks' (μ := μ1) (by omega) (by omega) (rok_snoc hpr (by omega)) (by omega) (by rw [edr']; trivial) (Or.inl (by simp)) ?_ hks' (by omega) hP' hG' hM'
          · obtain ⟨μ2, e1, e2, e3, e4⟩ := ih
            rw [edr', ed, show G.1 0 - (dn p + t) = G.1 0 - dn p - t by omega] at e2
            refine ⟨μ2, ?_, ?_, e3, e4⟩
            · rw [← e1, el, ed, show G.1 0 - (dn p + t) = G.1 0 - dn p - t by omega, List.length_append, List.length_singleton, ltn_snoc, gn_app, fls_app]
              have e5 : fls [t] = 0 := by simp [fls, lsum]; omega
              have e6 : gn (ltn p.length o) [t] = (1 + (ltn p.length o).1) * t := by
                show tk t * (1 + (ltn p.length o).1) + 0 = _
                rw [etk, Int.add_zero, Int.mul_comm]
              rw [e5, e6, Int.add_zero]
            · have : (frow n (G.1 0 - dn p - t) []).map (fun r => leaf G Q f o (p ++ [t] ++ r)) = (frow n (G.1 0 - dn p - t) []).map (fun r => leaf G Q f o (p ++ t :: r)) := by
                congr 1
                funext r
                simp
              rw [← this]
              exact e2
          · intro z y r hr
            rw [edr', ed, show G.1 0 - (dn p + t) = G.1 0 - dn p - t by omega] at hr
            have := hlen z y (t :: r) (by rw [ef, List.mem_flatMap]; exact ⟨t, (mem_upto (by omega)).mpr ⟨t0, t1⟩, List.mem_map.mpr ⟨r, hr, rfl⟩⟩)
            simpa using this
        · have : ((G.1 0 - dn p).toNat + 1) * 10 ^ n ≤ 10 * 10 ^ n := Nat.mul_le_mul_right _ (by omega)
          omega
      · -- given
        have hu : p.length < (Q.1 f).length := by omega
        have edr := drop_cons hu
        have hra := hQ.2.1 f hf.1 (by omega) p.length hu
        rw [edr] at hv hlen ⊢
        generalize (Q.1 f).getD p.length 0 = x at *
        have hv1 := hv.1
        have hx9 : x = -2 ∨ 0 ≤ x ∧ x ≤ 9 := by omega
        have htk := tk_ok hx9
        have htk2 : tk x ≤ G.1 0 - dn p := by unfold tk; rcases hv1 with z | z <;> split <;> omega
        have hwi : i_max 0 (i_min (G.1 0 - dn p) x) = tk x := by unfold i_max i_min tk; repeat' split <;> omega
        have ef : frow (n + 1) (G.1 0 - dn p) (x :: (Q.1 f).drop (p.length + 1)) = (frow n (G.1 0 - dn p - tk x) ((Q.1 f).drop (p.length + 1))).map (x :: ·) := by rw [frow, if_neg c]
        rw [ef] at hlen ⊢
        obtain ⟨μ1, m1, m2, m3⟩ := markTake_X (N := N) hQ.2.2.1 (f := f) (p := p) (x := x) hP.2.1.2.2.2.2.1 hP.2.1.2.2.2.2.2 hM
        have f1 : Fr plI plS μ μ1 := m3.mono (by decide) (by decide)
        have P1 := hP.fr f1
        have G1 : GRP b ks μ1 := by
          obtain ⟨q1, q2, q3⟩ := hG
          refine ⟨fun i i0 i1 => ?_, ?_, q3.ext (fun i => m3.2.2 44 i (by decide) (by simp))⟩
          · rw [m3.2.2 43 i (by decide) (by simp)]; exact q1 i i0 i1
          · rw [m3.2.2 33 13 (by decide) (by decide)]; exact q2
        have ed : dn (p ++ [x]) = dn p + tk x := dn_one p x
        have el : ((p ++ [x]).length : Int) = p.length + 1 := by simp
        have eln : (p ++ [x]).length = p.length + 1 := by simp
        rw [Nat.pow_succ] at hkl
        have ih := play_X hN hQ hf ho n d (p ++ [x]) ks (μ := μ1) (by omega) (by omega) (rok_snoc hpr hx9) (by omega) (by rw [eln, ed, show G.1 0 - (dn p + tk x) = G.1 0 - dn p - tk x by omega]; exact hv.2) (Or.inl (by simp)) ?_ hks (by omega) P1 G1 m2
        · obtain ⟨μ2, e1, e2, e3, e4⟩ := ih
          refine ⟨μ2, ?_, ?_, e3.back hQ.2.2.1, f1.trI e4⟩
          · have hfR := fR_ok (spl G R) f
            have hsl := spl_len G R
            have hR27 := R_len hGO hP.1.1.2.2.2
            have hmul0 : 0 ≤ (1 + (ltn p.length o).1) * tk x := Int.mul_nonneg (by omega) htk.1
            have hmul1 : (1 + (ltn p.length o).1) * tk x ≤ 4 * 9 := Int.mul_le_mul (by omega) htk.2 htk.1 (by omega)
            have hchk2 : ∀ (g : Option Mm), m_chk 2 μ1 33 g = g := chk_e (k_33 P1.1.2.1)
            have fin : ∀ v, v = (if x = -2 then 1 else 0) → jX2_playFrame_177 (jX2_playFrame N d) N 33 v (fls p) (i_add (gn o p) (i_mul (i_add 1 (ltn p.length o).1) (tk x))) (si (lt1 (ltn p.length o))) (i_sub (G.1 0 - dn p) (tk x)) (i_add p.length 1) f 33 μ1 = some μ2 := by
              intro v hvv
              have hv01 : 0 ≤ v ∧ v ≤ 1 := by rw [hvv]; split <;> omega
              unfold jX2_playFrame_177
              rw [hchk2, i_add_e (x := 1) (by omega) (by omega), i_mul_e (by omega) (by omega), i_add_e (x := gn o p) (by omega) (by omega), i_sub_e (by omega) (by omega), i_add_e (x := (p.length : Int)) (by omega) (by omega), i_add_e (by omega) (by omega)]
              have e5 : fls (p ++ [x]) = fls p + v := by rw [fls_app, hvv]; simp [fls, lsum]
              have e6 : gn o (p ++ [x]) = gn o p + (1 + (ltn p.length o).1) * tk x := by
                rw [gn_app]
                show gn o p + (tk x * (1 + (ltn p.length o).1) + 0) = _
                rw [Int.add_zero, Int.mul_comm]
              rw [el, ed, eln, e5, e6, ltn_snoc, show G.1 0 - (dn p + tk x) = G.1 0 - dn p - tk x by omega] at e1
              rw [e1, ob_e]
            rw [if_neg c2, hP.2.1.1, chk_e (SK.of hP.1.2.1 hP.1.1.1).1, hP.1.fr, b2_e, i_add_e (x := fR (spl G R) f) (by omega) (by omega), hP.1.ra, b2_e, hra, within_X, b2_e, hwi, m1, ob_e]
            by_cases z : x = -2
            · rw [if_neg (not_not_intro z)]; exact fin 1 (by rw [if_pos z])
            · rw [if_pos z]; exact fin 0 (by rw [if_neg z])
          · rw [eln, ed, show G.1 0 - (dn p + tk x) = G.1 0 - dn p - tk x by omega] at e2
            have : (frow n (G.1 0 - dn p - tk x) ((Q.1 f).drop (p.length + 1))).map (fun r => leaf G Q f o (p ++ [x] ++ r)) = ((frow n (G.1 0 - dn p - tk x) ((Q.1 f).drop (p.length + 1))).map (x :: ·)).map (fun r => leaf G Q f o (p ++ r)) := by
              rw [List.map_map]
              congr 1
              funext r
              simp
            rw [← this]
            exact e2
        · intro z y r hr
          rw [eln, ed, show G.1 0 - (dn p + tk x) = G.1 0 - dn p - tk x by omega] at hr
          have := hlen z y (x :: r) (List.mem_map.mpr ⟨r, hr, rfl⟩)
          simpa using this
