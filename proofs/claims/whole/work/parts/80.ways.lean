/-! ===== PURE: all ways, as lists (never computed) ===== -/
def upto (st : Int) : List Int := (List.range (st.toNat + 1)).map (fun k : Nat => (k : Int))
theorem mem_upto {st x : Int} (h : 0 ≤ st) : x ∈ upto st ↔ 0 ≤ x ∧ x ≤ st := by
  unfold upto
  rw [List.mem_map]
  constructor
  · rintro ⟨k, hk, rfl⟩
    have := List.mem_range.mp hk
    omega
  · intro hx
    exact ⟨x.toNat, List.mem_range.mpr (by omega), by omega⟩
/-- the rows of a frame of which some rolls are given -/
def frow : Nat → Int → List Int → List (List Int)
  | 0, _, _ => [[]]
  | n + 1, st, c => if st ≤ 0 then [[]] else match c with
    | [] => (upto st).flatMap fun t => (frow n (st - t) []).map (t :: ·)
    | x :: c => (frow n (st - tk x) c).map (x :: ·)
/-- the rows of fills of which some are given -/
def frw (G : Gm) : Nat → Int → List Int → List (List Int)
  | 0, _, _ => [[]]
  | n + 1, st, [] => (upto st).flatMap fun t => (frw G n (nst G st t) []).map (t :: ·)
  | n + 1, st, x :: c => (frw G n (nst G st x) c).map (x :: ·)
def gn : Ow → List Int → Int
  | _, [] => 0
  | o, x :: r => tk x * (1 + o.1) + gn (lt1 o) r
def gf : Ow → List Int → Int
  | _, [] => 0
  | o, x :: r => tk x * o.1 + gf (lt1 o) r
def fo (G : Gm) (f : Int) (o : Ow) (F : List Int) : Ow × Int := (pls (ltn F.length o) (ow G F), gn o F + wrt G f (dn F) F.length (fls F) - fls F * G.1 3)
def sm (o : Ow) : Int := o.1 + o.2.1 + o.2.2
def FVf : Int → List Int → Prop
  | _, [] => True
  | st, x :: c => (x = -2 ∨ 0 ≤ x ∧ x ≤ st) ∧ FVf (st - tk x) c
theorem dn_cons (x : Int) (l : List Int) : dn (x :: l) = tk x + dn l := by simp [dn, lsum]
theorem fls_cons (x : Int) (l : List Int) : fls (x :: l) = (if x = -2 then 1 else 0) + fls l := by simp [fls, lsum]
theorem frow_ok : ∀ (n : Nat) (st : Int) (c : List Int), 0 ≤ st → st ≤ 9 → FVf st c → ∀ F ∈ frow n st c, rok F ∧ dn F ≤ st ∧ F.length ≤ n ∧ (dn F = st ∨ F.length = n) ∧ (1 ≤ n → 1 ≤ st → 1 ≤ F.length)
  | 0, st, c, h0, h9, hc, F, hF => by
    unfold frow at hF
    rw [List.mem_singleton.mp hF]
    exact ⟨fun x hx => absurd hx (by simp), (by simp [dn, lsum]; omega), by simp, Or.inr rfl, fun z => by omega⟩
  | n + 1, st, c, h0, h9, hc, F, hF => by
    unfold frow at hF
    by_cases q : st ≤ 0
    · rw [if_pos q] at hF
      rw [List.mem_singleton.mp hF]
      exact ⟨fun x hx => absurd hx (by simp), (by simp [dn, lsum]; omega), by simp, Or.inl (by simp [dn, lsum]; omega), fun _ z => by omega⟩
    · rw [if_neg q] at hF
      have key : ∀ (x : Int) (c' : List Int), (x = -2 ∨ 0 ≤ x ∧ x ≤ st) → FVf (st - tk x) c' → ∀ F' ∈ frow n (st - tk x) c', rok (x :: F') ∧ dn (x :: F') ≤ st ∧ (x :: F').length ≤ n + 1 ∧ (dn (x :: F') = st ∨ (x :: F').length = n + 1) ∧ (1 ≤ n + 1 → 1 ≤ st → 1 ≤ (x :: F').length) := by
        intro x c' hx hv F' hF'
        have ht : 0 ≤ tk x ∧ tk x ≤ st := by unfold tk; rcases hx with z | z <;> split <;> omega
        obtain ⟨a1, a2, a3, a4, a5⟩ := frow_ok n (st - tk x) c' (by omega) (by omega) hv F' hF'
        refine ⟨fun y hy => ?_, (by rw [dn_cons]; omega), (by simp; omega), ?_, fun _ _ => by simp⟩
        · rcases List.mem_cons.mp hy with z | z
          · rw [z]; omega
          · exact a1 y z
        · rcases a4 with z | z
          · left; rw [dn_cons]; omega
          · right; simp; omega
      cases c with
      | nil =>
        dsimp only at hF
        obtain ⟨t, ht, hm⟩ := List.mem_flatMap.mp hF
        obtain ⟨F', hF', rfl⟩ := List.mem_map.mp hm
        have h1 := (mem_upto h0).mp ht
        have e : tk t = t := by unfold tk; rw [if_neg (by omega)]
        have := key t [] (Or.inr h1) trivial F' (by rw [e]; exact hF')
        exact this
      | cons x c =>
        dsimp only at hF
        obtain ⟨F', hF', rfl⟩ := List.mem_map.mp hF
        exact key x c hc.1 hc.2 F' hF'
theorem frw_ok {G : Gm} (hG : GOK G) : ∀ (n : Nat) (st : Int) (c : List Int), 1 ≤ st ∧ st ≤ G.1 0 → FV G st c → ∀ F ∈ frw G n st c, rok F ∧ F.length = n
  | 0, st, c, h0, hc, F, hF => by
    unfold frw at hF
    rw [List.mem_singleton.mp hF]
    exact ⟨fun x hx => absurd hx (by simp), rfl⟩
  | n + 1, st, c, h0, hc, F, hF => by
    have hp := hG.1
    have key : ∀ (x : Int) (c' : List Int), (x = -2 ∨ 0 ≤ x ∧ x ≤ st) → FV G (nst G st x) c' → ∀ F' ∈ frw G n (nst G st x) c', rok (x :: F') ∧ (x :: F').length = n + 1 := by
      intro x c' hx hv F' hF'
      obtain ⟨a1, a2⟩ := frw_ok hG n _ c' (nst_ok hG h0 hx) hv F' hF'
      refine ⟨fun y hy => ?_, (by simp; omega)⟩
      rcases List.mem_cons.mp hy with z | z
      · rw [z]; omega
      · exact a1 y z
    cases c with
    | nil =>
      unfold frw at hF
      obtain ⟨t, ht, hm⟩ := List.mem_flatMap.mp hF
      obtain ⟨F', hF', rfl⟩ := List.mem_map.mp hm
      exact key t [] (Or.inr ((mem_upto (by omega)).mp ht)) trivial F' hF'
    | cons x c =>
      unfold frw at hF
      obtain ⟨F', hF', rfl⟩ := List.mem_map.mp hF
      exact key x c hc.1 hc.2 F' hF'
theorem OwOK_0 : OwOK (0, 0, 0) := ⟨by decide, by decide, by decide, by decide, by decide, by decide⟩
theorem OwOK.lt {o : Ow} (h : OwOK o) : OwOK (lt1 o) := (lt1_ok h).ok
theorem OwOK.ltn {o : Ow} (h : OwOK o) : ∀ n, OwOK (ltn n o)
  | 0 => h
  | n + 1 => OwOK.ltn h.lt n
theorem sm_ok {o : Ow} (h : OwOK o) : 0 ≤ sm o ∧ sm o ≤ 6 := by unfold sm OwOK at *; omega
theorem gn_ok : ∀ (F : List Int) (o : Ow), OwOK o → rok F → 0 ≤ gn o F ∧ gn o F ≤ 4 * dn F ∧ gn o F + 9 * sm (ltn F.length o) ≤ dn F + 9 * sm o
  | [], o, ho, _ => by simp [gn, ltn, dn, lsum]
  | x :: F, o, ho, hF => by
    have hx := tk_ok (hF x (by simp))
    have ih := gn_ok F (lt1 o) ho.lt (fun y hy => hF y (by simp [hy]))
    have h1 := ho
    unfold OwOK at h1
    have m0 : 0 ≤ tk x * o.1 := Int.mul_nonneg hx.1 (by omega)
    have m1 : tk x * o.1 ≤ 9 * o.1 := Int.mul_le_mul_of_nonneg_right hx.2 (by omega)
    have m2 : tk x * o.1 ≤ tk x * 3 := Int.mul_le_mul_of_nonneg_left h1.2.2.2.1 hx.1
    have e : gn o (x :: F) = tk x + tk x * o.1 + gn (lt1 o) F := by rw [gn, Int.mul_add, Int.mul_one]
    have e2 : ltn (x :: F).length o = ltn F.length (lt1 o) := rfl
    have e3 : sm o = o.1 + sm (lt1 o) := by unfold sm lt1; dsimp only; omega
    rw [e, e2, dn_cons, e3]
    omega
theorem gf_ok : ∀ (F : List Int) (o : Ow), OwOK o → rok F → 0 ≤ gf o F ∧ gf o F + 9 * sm (ltn F.length o) ≤ 9 * sm o
  | [], o, ho, _ => by simp [gf, ltn]
  | x :: F, o, ho, hF => by
    have hx := tk_ok (hF x (by simp))
    have ih := gf_ok F (lt1 o) ho.lt (fun y hy => hF y (by simp [hy]))
    have h1 := ho
    unfold OwOK at h1
    have m0 : 0 ≤ tk x * o.1 := Int.mul_nonneg hx.1 (by omega)
    have m1 : tk x * o.1 ≤ 9 * o.1 := Int.mul_le_mul_of_nonneg_right hx.2 (by omega)
    have e : gf o (x :: F) = tk x * o.1 + gf (lt1 o) F := rfl
    have e2 : ltn (x :: F).length o = ltn F.length (lt1 o) := rfl
    have e3 : sm o = o.1 + sm (lt1 o) := by unfold sm lt1; dsimp only; omega
    rw [e, e2, e3]
    omega
theorem gn_app : ∀ (c r : List Int) (o : Ow), gn o (c ++ r) = gn o c + gn (ltn c.length o) r
  | [], r, o => by simp [gn, ltn]
  | x :: c, r, o => by
    show tk x * (1 + o.1) + gn (lt1 o) (c ++ r) = tk x * (1 + o.1) + gn (lt1 o) c + gn (ltn c.length (lt1 o)) r
    rw [gn_app c r (lt1 o)]
    omega
theorem ltn_add : ∀ (a b : Nat) (o : Ow), ltn (a + b) o = ltn b (ltn a o)
  | 0, b, o => by rw [Nat.zero_add]; rfl
  | a + 1, b, o => by
    rw [show a + 1 + b = (a + b) + 1 by omega]
    exact ltn_add a b (lt1 o)
theorem ltn_snoc (n : Nat) (o : Ow) : ltn (n + 1) o = lt1 (ltn n o) := by rw [ltn_add]; rfl
/-- what is good of a whole row of a frame -/
def FG (G : Gm) (F : List Int) : Prop := rok F ∧ 1 ≤ F.length ∧ (F.length : Int) ≤ G.1 2 ∧ dn F ≤ G.1 0 ∧ (dn F = G.1 0 ∨ (F.length : Int) = G.1 2)
theorem FO.fg {G : Gm} {F : List Int} (h : FO G F) : FG G F := ⟨h.1, h.2.1, h.2.2.1, h.2.2.2.1, h.2.2.2.2.1⟩
theorem frow_FG {G : Gm} (hG : GOK G) {c : List Int} (hc : FVf (G.1 0) c) {F : List Int} (hF : F ∈ frow (G.1 2).toNat (G.1 0) c) : FG G F := by
  have h0 := hG.1
  have h2 := hG.2.2.1
  obtain ⟨a1, a2, a3, a4, a5⟩ := frow_ok _ _ c (by omega) h0.2 hc F hF
  exact ⟨a1, a5 (by omega) h0.1, by omega, a2, by omega⟩
theorem fo_ok {G : Gm} (hG : GOK G) {f : Int} {o : Ow} (ho : OwOK o) {F : List Int} (hF : FG G F) : OwOK (fo G f o F).1 ∧ -50 ≤ (fo G f o F).2 ∧ (fo G f o F).2 ≤ 56 ∧ (fo G f o F).2 + 9 * sm (fo G f o F).1 ≤ 56 + 9 * sm o := by
  obtain ⟨a1, a2, a3, a4, a5⟩ := hF
  have hg := gn_ok F o ho a1
  have hw := wrt_ok G f (dn F) F.length (fls F)
  have hfl := fls_ok F
  have hc := hG.2.2.2.1
  have hr := hG.2.2.1
  have hp := hG.1
  have he := ern_ok hG (cln G F)
  have m1 : 0 ≤ fls F * G.1 3 := Int.mul_nonneg hfl.1 hc.1
  have m2 : fls F * G.1 3 ≤ 3 * 10 := Int.mul_le_mul (by omega) hc.2 hc.1 (by omega)
  have h1 := ltn_ok (n := F.length) ho (by omega)
  have hs : sm (pls (ltn F.length o) (ow G F)) ≤ sm (ltn F.length o) + 3 := by
    unfold sm pls
    dsimp only
    repeat' split <;> omega
  unfold fo
  dsimp only
  exact ⟨pls_ok h1, by omega, by omega, by omega⟩
abbrev Wy : Type := Ow × Int × Int
def lm (mf mr f : Int) (F : List Int) : Int := if f = mf then tk (F.getD mr.toNat 0) else 0
/-- what is asked: the given rolls of each frame, whether fills are as given, which roll is marked -/
abbrev Qu : Type := (Int → List Int) × Bool × Int × Int
def KS (G : Gm) (Q : Qu) (f : Int) (o : Ow) : List Wy :=
  if f < G.1 1 then (frow (G.1 2).toNat (G.1 0) (Q.1 f)).map (fun F => ((fo G f o F).1, (fo G f o F).2, lm Q.2.2.1 Q.2.2.2 f F))
  else if Q.2.1 = true ∧ cnt o ≠ (Q.1 (G.1 1)).length then [] else (frw G (cnt o).toNat (G.1 0) (Q.1 (G.1 1))).map (fun F => ((0, 0, 0), gf o F, lm Q.2.2.1 Q.2.2.2 f F))
def nxt (Q : Qu) (f : Int) (w k : Wy) : Wy := (k.1, w.2.1 + k.2.1, if f = Q.2.2.1 then k.2.2 else w.2.2)
def Lf (G : Gm) (Q : Qu) : Nat → List Wy
  | 0 => [((0, 0, 0), 0, 0)]
  | n + 1 => (Lf G Q n).flatMap (fun w => (KS G Q n w.1).map (nxt Q n w))
theorem Lf_s (G : Gm) (Q : Qu) (n : Nat) : Lf G Q (n + 1) = (Lf G Q n).flatMap (fun w => (KS G Q n w.1).map (nxt Q n w)) := rfl
def QOK (G : Gm) (Q : Qu) : Prop := (∀ f, 0 ≤ f → f < G.1 1 → FVf (G.1 0) (Q.1 f)) ∧ FV G (G.1 0) (Q.1 (G.1 1))
theorem lm_ok {mf mr f : Int} {F : List Int} (h : rok F) : 0 ≤ lm mf mr f F ∧ lm mf mr f F ≤ 9 := by
  unfold lm
  split
  · by_cases c : mr.toNat < F.length
    · rw [List.getD_eq_getElem?_getD, List.getElem?_eq_getElem c]
      exact tk_ok (h _ (List.getElem_mem c))
    · rw [List.getD_eq_getElem?_getD, List.getElem?_eq_none (by omega)]
      simp [tk]
  · omega
theorem KS_ok {G : Gm} (hG : GOK G) {Q : Qu} (hQ : QOK G Q) {f : Int} (h0 : 0 ≤ f) {o : Ow} (ho : OwOK o) {k : Wy} (hk : k ∈ KS G Q f o) : OwOK k.1 ∧ -50 ≤ k.2.1 ∧ k.2.1 ≤ 56 ∧ (0 ≤ k.2.2 ∧ k.2.2 ≤ 9) ∧ (f < G.1 1 → k.2.1 + 9 * sm k.1 ≤ 56 + 9 * sm o) ∧ (¬ f < G.1 1 → 0 ≤ k.2.1 ∧ k.2.1 ≤ 9 * sm o ∧ k.1 = (0, 0, 0)) := by
  have hp := hG.1
  unfold KS at hk
  by_cases c : f < G.1 1
  · rw [if_pos c] at hk
    obtain ⟨F, hF, rfl⟩ := List.mem_map.mp hk
    have hFG := frow_FG hG (hQ.1 f h0 c) hF
    have h1 := fo_ok hG (f := f) ho hFG
    exact ⟨h1.1, h1.2.1, h1.2.2.1, lm_ok hFG.1, fun _ => h1.2.2.2, fun z => absurd c z⟩
  · rw [if_neg c] at hk
    split at hk
    · cases hk
    · obtain ⟨F, hF, rfl⟩ := List.mem_map.mp hk
      have h1 := frw_ok hG _ _ _ (by omega) hQ.2 F hF
      have h2 := gf_ok F o ho h1.1
      have h3 := sm_ok ho
      have h4 := sm_ok (ho.ltn F.length)
      exact ⟨OwOK_0, (by dsimp only; omega), (by dsimp only; omega), lm_ok h1.1, fun z => absurd z c, fun _ => ⟨h2.1, (by dsimp only; omega), rfl⟩⟩
/-- a way is within bounds, ahead of frame f -/
def wOK (f : Int) (w : Wy) : Prop := OwOK w.1 ∧ -(50 * f) ≤ w.2.1 ∧ w.2.1 + 9 * sm w.1 ≤ 56 * f ∧ 0 ≤ w.2.2 ∧ w.2.2 ≤ 9
theorem Lf_ok {G : Gm} (hG : GOK G) {Q : Qu} (hQ : QOK G Q) : ∀ n : Nat, (n : Int) ≤ G.1 1 → ∀ w ∈ Lf G Q n, wOK n w
  | 0, _, w, hw => by
    rw [List.mem_singleton.mp hw]
    exact ⟨OwOK_0, by decide, by decide, by decide, by decide⟩
  | n + 1, hn, w, hw => by
    rw [Lf_s] at hw
    obtain ⟨v, hv, hm⟩ := List.mem_flatMap.mp hw
    obtain ⟨k, hk, rfl⟩ := List.mem_map.mp hm
    obtain ⟨a1, a2, a3, a4, a5⟩ := Lf_ok hG hQ n (by omega) v hv
    obtain ⟨b1, b2, b3, b4, b5, b6⟩ := KS_ok hG hQ (by omega) a1 hk
    have b5 := b5 (by omega)
    unfold nxt wOK
    dsimp only
    refine ⟨b1, by omega, by omega, ?_, ?_⟩ <;> split <;> omega
theorem Lf_end {G : Gm} (hG : GOK G) {Q : Qu} (hQ : QOK G Q) {n : Nat} (hn : (n : Int) = G.1 1) : ∀ w ∈ Lf G Q (n + 1), w.1 = (0, 0, 0) ∧ -(50 * n) ≤ w.2.1 ∧ w.2.1 ≤ 56 * n ∧ 0 ≤ w.2.2 ∧ w.2.2 ≤ 9 := by
  intro w hw
  rw [Lf_s] at hw
  obtain ⟨v, hv, hm⟩ := List.mem_flatMap.mp hw
  obtain ⟨k, hk, rfl⟩ := List.mem_map.mp hm
  obtain ⟨a1, a2, a3, a4, a5⟩ := Lf_ok hG hQ n (by omega) v hv
  obtain ⟨b1, b2, b3, b4, b5, b6⟩ := KS_ok hG hQ (by omega) a1 hk
  have b6 := b6 (by omega)
  have := sm_ok a1
  unfold nxt
  dsimp only
  refine ⟨b6.2.2, by omega, by omega, ?_, ?_⟩ <;> split <;> omega
/-- what frames from f on can bring -/
def Bk (G : Gm) (Q : Qu) : Nat → Nat → Ow → List Int
  | 0, f, o => (KS G Q f o).map (fun k => k.2.1)
  | n + 1, f, o => (KS G Q f o).flatMap (fun k => (Bk G Q n (f + 1) k.1).map (fun b => k.2.1 + b))
theorem Lf_Bk (G : Gm) (Q : Qu) : ∀ (n f : Nat), (Lf G Q (f + n + 1)).map (fun w => w.2.1) = (Lf G Q f).flatMap (fun w => (Bk G Q n f w.1).map (fun b => w.2.1 + b))
  | 0, f => by
    rw [Nat.add_zero, Lf_s, List.map_flatMap]
    congr 1
    funext w
    unfold Bk
    rw [List.map_map, List.map_map]
    rfl
  | n + 1, f => by
    have h := Lf_Bk G Q n (f + 1)
    rw [show f + (n + 1) + 1 = f + 1 + n + 1 by omega, h, Lf_s, List.flatMap_assoc]
    congr 1
    funext w
    rw [Bk, List.map_flatMap, List.flatMap_map]
    congr 1
    funext k
    rw [List.map_map]
    congr 1
    funext b
    show w.2.1 + k.2.1 + b = w.2.1 + (k.2.1 + b)
    omega
