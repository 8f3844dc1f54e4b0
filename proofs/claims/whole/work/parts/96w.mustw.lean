/-! ===== PURE: must of the reference is that of the class ===== -/
def prj (w : Wy) : Ow × Int := (w.1, w.2.1)
theorem KS_prj {G : Gm} {R : List Int} {tn : Int → Bool} {m m' : Int} {f : Int} {o : Ow} : (KS G (QT G R tn m) f o).map prj = (KS G (QT G R tn m') f o).map prj := by
  unfold KS
  by_cases c : f < G.1 1
  · rw [if_pos c, if_pos c, List.map_map, List.map_map]
    rfl
  · rw [if_neg c, if_neg c]
    show List.map prj (if (!tn (G.1 1)) = true ∧ cnt o ≠ ((if tn (G.1 1) then [] else fra (spl G R) (G.1 1)).length : Nat) then [] else _) = List.map prj (if (!tn (G.1 1)) = true ∧ cnt o ≠ ((if tn (G.1 1) then [] else fra (spl G R) (G.1 1)).length : Nat) then [] else _)
    by_cases d : (!tn (G.1 1)) = true ∧ cnt o ≠ ((if tn (G.1 1) then [] else fra (spl G R) (G.1 1)).length : Nat)
    · rw [if_pos d, if_pos d]
    · rw [if_neg d, if_neg d, List.map_map, List.map_map]
      rfl
theorem Bk_m {G : Gm} {R : List Int} {tn : Int → Bool} {m m' : Int} : ∀ (n f : Nat) (o : Ow), Bk G (QT G R tn m) n f o = Bk G (QT G R tn m') n f o
  | 0, f, o => by
    have h := congrArg (List.map (fun p : Ow × Int => p.2)) (KS_prj (G := G) (R := R) (tn := tn) (m := m) (m' := m') (f := f) (o := o))
    rw [List.map_map, List.map_map] at h
    exact h
  | n + 1, f, o => by
    have h := congrArg (fun l : List (Ow × Int) => l.flatMap (fun p => (Bk G (QT G R tn m) n (f + 1) p.1).map (fun b => p.2 + b))) (KS_prj (G := G) (R := R) (tn := tn) (m := m) (m' := m') (f := f) (o := o))
    rw [List.flatMap_map, List.flatMap_map] at h
    rw [Bk, Bk]
    refine Eq.trans h ?_
    congr 1
    funext k
    show List.map _ (Bk G (QT G R tn m) n (f + 1) k.1) = _
    rw [Bk_m (m := m) (m' := m') n (f + 1) k.1]
    rfl
theorem Lf_prj {G : Gm} {R : List Int} {tn : Int → Bool} {m m' : Int} : ∀ n : Nat, (Lf G (QT G R tn m) n).map prj = (Lf G (QT G R tn m') n).map prj
  | 0 => rfl
  | n + 1 => by
    have ih := Lf_prj (G := G) (R := R) (tn := tn) (m := m) (m' := m') n
    have key : ∀ q : Int, (Lf G (QT G R tn q) (n + 1)).map prj = ((Lf G (QT G R tn q) n).map prj).flatMap (fun p => ((KS G (QT G R tn m) n p.1).map prj).map (fun k => (k.1, p.2 + k.2))) := by
      intro q
      rw [Lf_s, List.map_flatMap, List.flatMap_map]
      congr 1
      funext w
      rw [KS_prj (m := m) (m' := q), List.map_map, List.map_map]
      rfl
    rw [key m, key m', ih]
theorem PL_m {G : Gm} {R : List Int} {tn : Int → Bool} {m : Int} {n : Nat} {o : Ow} {s : Int} : (∃ w ∈ Lf G (QT G R tn m) n, w.1 = o ∧ w.2.1 = s) ↔ PL G R tn n o s := by
  have h := Lf_prj (G := G) (R := R) (tn := tn) (m := m) (m' := -1) n
  have e : ∀ q : Int, (∃ w ∈ Lf G (QT G R tn q) n, w.1 = o ∧ w.2.1 = s) ↔ (o, s) ∈ (Lf G (QT G R tn q) n).map prj := by
    intro q
    rw [List.mem_map]
    constructor
    · rintro ⟨w, hw, rfl, rfl⟩
      exact ⟨w, hw, rfl⟩
    · rintro ⟨w, hw, e⟩
      unfold prj at e
      injection e with e1 e2
      exact ⟨w, hw, e1, e2⟩
  rw [e m, h, ← e (-1)]
  rfl
/-- the marks of a frame in sheets that fit -/
theorem LT_mst {G : Gm} (hG : GOK G) {R : List Int} (hV : VR G R) {tn : Int → Bool} {f : Nat} (hf : (f : Int) < G.1 1) (hw : ((spl G R).1.length : Int) = G.1 1) {n : Int} {a : Bool} {x : Int} : (∃ w ∈ LT G R tn f, (a = true ∨ w.2.1 = n) ∧ w.2.2 = x) ↔ ∃ o, OwOK o ∧ ∃ F ∈ rowsT G R tn f, mst G f o (PL G R tn f) (fun o' => Bk G (QB G R tn) (FT G - f - 1) (f + 1) o') n a F x := by
  have h8 := hG.2.1
  have hb := Lf_BkM G (QT G R tn f) (FT G - f - 1) (f + 1) (by show (f : Int) < ((f + 1 : Nat) : Int); omega)
  have e1 : f + 1 + (FT G - f - 1) + 1 = (G.1 1).toNat + 1 := by unfold FT; omega
  rw [e1] at hb
  have hmem : (∃ w ∈ LT G R tn f, (a = true ∨ w.2.1 = n) ∧ w.2.2 = x) ↔ ∃ p ∈ (LT G R tn f).map PMk, (a = true ∨ p.1 = n) ∧ p.2 = x := by
    constructor
    · rintro ⟨w, hw, q⟩
      exact ⟨PMk w, List.mem_map.mpr ⟨w, hw, rfl⟩, q⟩
    · rintro ⟨p, hp, q⟩
      obtain ⟨w, hw, rfl⟩ := List.mem_map.mp hp
      exact ⟨w, hw, q⟩
  rw [hmem]
  show (∃ p ∈ (Lf G (QT G R tn f) ((G.1 1).toNat + 1)).map PMk, _) ↔ _
  rw [hb, Lf_s]
  constructor
  · rintro ⟨p, hp, q1, q2⟩
    obtain ⟨w', hw', hp⟩ := List.mem_flatMap.mp hp
    obtain ⟨b, hbb, rfl⟩ := List.mem_map.mp hp
    obtain ⟨w, hwL, hm⟩ := List.mem_flatMap.mp hw'
    obtain ⟨k, hk, rfl⟩ := List.mem_map.mp hm
    rw [KST hG hV hf hw] at hk
    obtain ⟨F, hF, rfl⟩ := List.mem_map.mp hk
    have hPL : PL G R tn f w.1 w.2.1 := PL_m.mp ⟨w, hwL, rfl, rfl⟩
    have ok := Lf_ok hG (QT_QR hG hV tn f).1 f (by omega) w hwL
    rw [Bk_m (m' := -1)] at hbb
    refine ⟨w.1, ok.1, F, hF, ?_, ?_⟩
    · unfold thr
      cases a with
      | true =>
        rw [if_pos rfl]
        exact ⟨⟨w.2.1, hPL⟩, List.ne_nil_of_mem hbb⟩
      | false =>
        rw [if_neg (by decide)]
        refine ⟨w.2.1, hPL, ?_⟩
        have q : w.2.1 + (fo G f w.1 F).2 + b = n := q1.resolve_left (by decide)
        rw [show n - w.2.1 - (fo G f w.1 F).2 = b by omega]
        exact hbb
    · have q : (if (f : Int) = f then lm f 0 f F else w.2.2) = x := q2
      rw [if_pos rfl] at q
      unfold lm at q
      rw [if_pos rfl] at q
      exact q
  · rintro ⟨o, ho, F, hF, q1, q2⟩
    have mk : ∀ (w : Wy) (b : Int), w ∈ Lf G (QT G R tn f) f → b ∈ Bk G (QB G R tn) (FT G - f - 1) (f + 1) (fo G f w.1 F).1 → (a = true ∨ w.2.1 + (fo G f w.1 F).2 + b = n) → ∃ p ∈ ((Lf G (QT G R tn f) f).flatMap (fun w => (KS G (QT G R tn f) f w.1).map (nxt (QT G R tn f) f w))).flatMap (fun w => (Bk G (QT G R tn f) (FT G - f - 1) (f + 1) w.1).map (fun b => (w.2.1 + b, w.2.2))), (a = true ∨ p.1 = n) ∧ p.2 = x := by
      intro w b hwL hbb hs
      refine ⟨(w.2.1 + (fo G f w.1 F).2 + b, x), List.mem_flatMap.mpr ⟨nxt (QT G R tn f) f w ((fo G f w.1 F).1, (fo G f w.1 F).2, lm f 0 f F), List.mem_flatMap.mpr ⟨w, hwL, List.mem_map.mpr ⟨_, ?_, rfl⟩⟩, List.mem_map.mpr ⟨b, ?_, ?_⟩⟩, hs, rfl⟩
      · rw [KST hG hV hf hw]
        exact List.mem_map.mpr ⟨F, hF, rfl⟩
      · rw [Bk_m (m' := -1)]
        exact hbb
      · show (w.2.1 + (fo G f w.1 F).2 + b, if (f : Int) = f then lm f 0 f F else w.2.2) = _
        rw [if_pos rfl]
        unfold lm
        rw [if_pos rfl, ← q2]
        rfl
    unfold thr at q1
    cases a with
    | true =>
      rw [if_pos rfl] at q1
      obtain ⟨⟨s, hs⟩, hne⟩ := q1
      obtain ⟨w, hwL, rfl, rfl⟩ := PL_m.mpr hs
      obtain ⟨b, hbb⟩ := ex_mem hne
      exact mk w b hwL hbb (Or.inl rfl)
    | false =>
      rw [if_neg (by decide)] at q1
      obtain ⟨s, hs, hbb⟩ := q1
      obtain ⟨w, hwL, rfl, rfl⟩ := PL_m.mpr hs
      exact mk w _ hwL hbb (Or.inr (by omega))
theorem must_zero {N : Nat} {f n l : Int} : ∀ (k m : Nat) (i : Int) {μ : Mm}, i + k = 25440 → 0 ≤ i → k < m → KR μ → (∀ j, 0 ≤ j → j < i → m_gt μ 99 j = if j = 460 then 1 else 0) → ∃ μ', jX8_must_58 N m 50 f n l i μ = jX8_must_95 N N 50 f n l 0 μ' ∧ (∀ j, 0 ≤ j → j < 25440 → m_gt μ' 99 j = if j = 460 then 1 else 0) ∧ Fr [99] [] μ μ'
  | k, 0, i, μ, hi, h0, hn, _, _ => absurd hn (by omega)
  | 0, m + 1, i, μ, hi, h0, hn, hK, hZ => by
    refine ⟨μ, ?_, fun j j0 j1 => hZ j j0 (by omega), Fr.rf0 _ _ _⟩
    show jX8_must_58b (jX8_must_58 N m) N 50 f n l i μ = _
    unfold jX8_must_58b
    rw [if_pos (by omega)]
  | k + 1, m + 1, i, μ, hi, h0, hn, hK, hZ => by
    obtain ⟨μ', r1, r2, r3⟩ := must_zero (N := N) (f := f) (n := n) (l := l) k m (i + 1) (μ := m_st μ 99 i (if i = 460 then 1 else 0)) (by omega) (by omega) (by omega) (hK.sa _ _ (by decide)) (fun j j0 j1 => by
      by_cases c : j = i
      · rw [c, gt_same]
      · rw [gt_i _ _ _ c]
        exact hZ j j0 (by omega))
    refine ⟨μ', ?_, r2, (Fr.stI (Fr.rf0 _ _ _) (by simp)).trI r3⟩
    rw [← r1]
    show jX8_must_58b (jX8_must_58 N m) N 50 f n l i μ = _
    unfold jX8_must_58b jX8_must_85
    rw [if_neg (by omega), r_50_79 hK]
    by_cases c : i = 460
    · rw [if_neg (not_not_intro c), z_e (Or.inr rfl), ast_e (k_99 hK) (by omega) (by omega), ob_e, bnd_e, i_add_e (by omega) (by omega), if_pos c]
    · rw [if_pos c, z_e (Or.inl rfl), ast_e (k_99 hK) (by omega) (by omega), ob_e, bnd_e, i_add_e (by omega) (by omega), if_neg c]
def ld3 : List Int := [88, 97, 100, 99]
theorem KP.l3 {G : Gm} {R : List Int} {tn : Int → Bool} {μ μ' : Mm} (h : KP G R tn μ) (f : Fr ld2 opS μ μ') : KP G R tn μ' := ⟨⟨h.1.1, f.KR h.1.2.1 (by decide), h.1.2.2.1.ag (f.ag (by decide)), h.1.2.2.2.ag (f.ag (by decide))⟩, h.2.1.ag (f.ag (by decide)), h.2.2.ag (f.2.2 50 78 (by decide) (by decide))⟩
theorem must_leads {N : Nat} (hN : 1000000 ≤ N) {G : Gm} {R : List Int} {tn : Int → Bool} {f : Nat} (hf : (f : Int) < G.1 1) (hw : ((spl G R).1.length : Int) = G.1 1) {n l : Int} : ∀ (k m i : Nat) {μ : Mm}, i + k = f → k < m → KP G R tn μ → RB 99 (PL G R tn i) μ → ∃ μ', jX8_must_95 N m 50 f n l i μ = jX8_must_119 N N 50 f n l 0 0 μ' ∧ RB 99 (PL G R tn f) μ' ∧ Fr ld2 opS μ μ'
  | k, 0, i, μ, hi, hn, _, _ => absurd hn (by omega)
  | 0, m + 1, i, μ, hi, hn, hk, hR => by
    have : i = f := by omega
    rw [this] at hR
    refine ⟨μ, ?_, hR, Fr.rf0 _ _ _⟩
    show jX8_must_95b (jX8_must_95 N m) N 50 f n l i μ = _
    unfold jX8_must_95b
    rw [if_pos (by omega)]
  | k + 1, m + 1, i, μ, hi, hn, hk, hR => by
    have h8 := hk.1.1.1.2.1
    obtain ⟨μ1, a1, a2, a3⟩ := leads_M (N := N) hN (f := i) (by omega) hw hk hR
    obtain ⟨μ', r1, r2, r3⟩ := must_leads hN (N := N) hf hw (n := n) (l := l) k m (i + 1) (μ := μ1) (by omega) (by omega) (hk.l3 a3) a2
    refine ⟨μ', ?_, r2, a3.trI r3⟩
    rw [← r1]
    show jX8_must_95b (jX8_must_95 N m) N 50 f n l i μ = _
    unfold jX8_must_95b
    rw [if_neg (by omega), a1, ob_e, bnd_e, i_add_e (by omega) (by omega)]
    rfl
def mfI : List Int := [88, 97, 96, 90, 91, 92, 93, 94, 99, 100]
theorem MC.mf {G : Gm} {R : List Int} {μ μ' : Mm} (h : MC G R μ) (f : Fr mfI tfS μ μ') : MC G R μ' := ⟨h.1, f.KR h.2.1 (by decide), h.2.2.1.ag (f.ag (by decide)), h.2.2.2.ag (f.ag (by decide))⟩
theorem must_51 {N : Nat} (hN : 1000000 ≤ N) {G : Gm} {R : List Int} {tn : Int → Bool} {f : Nat} (hf : (f : Int) < G.1 1) (hw : whole G (spl G R)) {n : Int} {a : Bool} (hn : a = false → -920 ≤ n ∧ n ≤ 2120) {μ : Mm} (h : MC G R μ) (ht : TnM tn μ) (hF : FIC G R tn μ) : ∃ v μ', jX8_must_51 N 50 f n (if a then 1 else 0) μ = some (v, μ') ∧ MB (LT G R tn f) (fun s => a = true ∨ s = n) v ∧ MC G R μ' ∧ TnM tn μ' ∧ FIC G R tn μ' ∧ Fr mfI tfS μ μ' := by
  have hG := h.1.1
  have hV := h.1.2
  have h8 := hG.2.1
  have hlen := hw.1
  obtain ⟨μ1, a1, a2, a3, k1, f1⟩ := tellsFits_M (N := N) hN hw h ht hF
  obtain ⟨μ2, b1, b2, f2⟩ := must_zero (N := N) (f := f) (n := n) (l := if a then 1 else 0) 25440 N 0 (μ := μ1) (by omega) (by omega) (by omega) k1.1.2.1 (fun j j0 j1 => by omega)
  have F2 : Fr ld2 opS μ1 μ2 := f2.mono (by decide) (by simp)
  have k2 := k1.l3 F2
  have R2 : RB 99 (PL G R tn 0) μ2 := by
    refine ⟨fun j j0 j1 => ?_, fun o ho s s0 s1 => ?_⟩
    · rw [b2 j j0 j1]
      by_cases c : j = 460
      · rw [if_pos c]; exact Or.inr rfl
      · rw [if_neg c]; exact Or.inl rfl
    · have he := enc_ok ho
      rw [b2 _ (by unfold cel; omega) (by unfold cel; omega)]
      have : PL G R tn 0 o s ↔ (o = o0 ∧ s = 0) := by
        unfold PL Lf
        constructor
        · rintro ⟨w, hw, rfl, rfl⟩
          rw [List.mem_singleton.mp hw]
          exact ⟨rfl, rfl⟩
        · rintro ⟨rfl, rfl⟩
          exact ⟨_, List.mem_singleton.mpr rfl, rfl, rfl⟩
      rw [this]
      by_cases c : cel 0 o s = 460
      · rw [if_pos c]
        refine ⟨fun _ => ?_, fun _ => rfl⟩
        unfold cel at c
        exact ⟨enc_inj OwOK_0 ho (by show enc o = 0; omega), by omega⟩
      · rw [if_neg c]
        refine ⟨fun z => by omega, fun ⟨z1, z2⟩ => ?_⟩
        rw [z1, z2] at c
        exact absurd rfl c
  obtain ⟨μ3, c1, c2, f3⟩ := must_leads (N := N) hN hf hlen (n := n) (l := if a then 1 else 0) f N 0 (μ := μ2) (by omega) (by omega) k2 R2
  have k3 := k2.l3 f3
  have f13 : Fr ld2 opS μ1 μ3 := F2.trI f3
  have I3 : FI G R tn μ3 := a3.ag (fun j => f13.2.2 96 j (by decide) (by simp [opS, pfs]))
  obtain ⟨v, μ4, d1, d2, f4⟩ := must_loop (N := N) hN (tn := tn) (f := f) (by omega) (by omega) hn (PL_ok hG hV (tn := tn) (f := f) (by omega) (by omega)) (B := fun o' => Bk G (QB G R tn) (FT G - f - 1) (f + 1) o') (fun o' ho' b hb => by
    have := Bk_ok hG (QB_ok hG hV tn) _ _ o' (by unfold FT; omega) ho' b hb
    have := sm_ok ho'
    unfold FT at *
    omega) 24 N 0 0 (μ := μ3) (by omega) (by omega) (by omega) k3 c2 (fun o' ho' => by
    have := I3 (f + 1) (FT G - f - 1) (by unfold FT; omega) o' ho' (Or.inl (by omega))
    rw [show ((f + 1 : Nat) : Int) = (f : Int) + 1 by omega] at this
    exact this) ⟨⟨by decide, by decide⟩, fun x hx => by
    rw [tb_zero]
    refine ⟨fun z => absurd z (by decide), fun ⟨o, z1, z2, _⟩ => ?_⟩
    have := enc_ok z1
    omega⟩
  have k4 := k3.mu f4
  have f14 : Fr ld2 opS μ1 μ4 := f13.trI (f4.mono (by decide) (fun q hq => Or.inl hq))
  have F : Fr mfI tfS μ μ4 := (f1.mono (by decide) (fun q hq => Or.inl hq)).trI (f14.mono (by decide) (fun q hq => Or.inl (by simp [tfS, hq])))
  refine ⟨v, μ4, ?_, ⟨d2.1, fun x hx => ?_⟩, k4.1, k4.2.2, Or.inr ⟨?_, hw, a3.ag (fun j => f14.2.2 96 j (by decide) (by simp [opS, pfs]))⟩, F⟩
  · unfold jX8_must_51
    rw [a1, ob_e, b1]
    exact c1.trans d1
  · rw [d2.2 x hx]
    exact (LT_mst hG hV hf hlen).symm
  · rw [f14.2.2 50 72 (by decide) (by decide)]
    exact a2
theorem must_M {N : Nat} (hN : 1000000 ≤ N) {G : Gm} {R : List Int} {tn : Int → Bool} {f n : Int} (hf : okI f) (hn : okI n) (a : Bool) {μ : Mm} (h : MC G R μ) (ht : TnM tn μ) (hF : FIC G R tn μ) : ∃ v μ', jX8_must N 50 f n (if a then 1 else 0) μ = some (v, μ') ∧ muA G R tn f n a v ∧ MC G R μ' ∧ TnM tn μ' ∧ FIC G R tn μ' ∧ Fr mfI tfS μ μ' := by
  have hG := h.1.1
  have hV := h.1.2
  have h8 := hG.2.1
  obtain ⟨μ1, a1, T1, h1, f1⟩ := h.go (N := N) hN
  have F1 : Fr mfI tfS μ μ1 := f1.mono (by decide) (fun q hq => Or.inl (by simp [tfS, hq]))
  have N1 : TnM tn μ1 := ht.ag (f1.2.2 50 78 (by decide) (by decide))
  have C1 : FIC G R tn μ1 := hF.ag (fun j => f1.2.2 96 j (by decide) (by simp [sGo])) (f1.2.2 50 72 (by decide) (by decide))
  unfold jX8_must jX8_must_29 muA
  rw [a1, ob_e, T1.2.2.2.2.2]
  by_cases cw : whi G (spl G R) = 0
  · have hC : ¬ (0 ≤ f ∧ f < G.1 1 ∧ ¬ whi G (spl G R) = 0) := fun z => z.2.2 cw
    simp only [if_neg hC]
    rw [if_pos cw]
    exact ⟨-1, μ1, rfl, rfl, h1, N1, C1, F1⟩
  · rw [if_neg cw, r_50_32 h1.2.1, ald_e (k_75 h1.2.1) (by decide) (by decide), ob_e, h1.2.2.1.1.2.1, i_sub_e (by omega) (by omega), isIn_i hf (by unfold okI; omega), b2_e]
    by_cases c : 0 ≤ f ∧ f ≤ G.1 1 - 1
    · have hC : 0 ≤ f ∧ f < G.1 1 ∧ ¬ whi G (spl G R) = 0 := ⟨c.1, by omega, cw⟩
      have hw := whi_w.mp cw
      simp only [if_pos hC]
      obtain ⟨k, rfl⟩ : ∃ k : Nat, f = k := ⟨f.toNat, by omega⟩
      rw [if_pos c, if_pos (show ¬ (1 : Int) = 0 by decide)]
      cases a with
      | true =>
        obtain ⟨v, μ', r1, r2, r3, r4, r5, r6⟩ := must_51 (N := N) hN (f := k) (by omega) hw (n := n) (a := true) (fun z => by cases z) h1 N1 C1
        refine ⟨v, μ', ?_, r2, r3, r4, r5, F1.trI r6⟩
        rw [if_pos (show ¬ (if true = true then (1 : Int) else 0) = 0 by decide)]
        exact r1
      | false =>
        rw [if_neg (show ¬ ¬ (if false = true then (1 : Int) else 0) = 0 by decide), i_2l_e hn.1 hn.2, isIn_M, b2_e]
        by_cases d : -920 ≤ n ∧ n ≤ 2120
        · obtain ⟨v, μ', r1, r2, r3, r4, r5, r6⟩ := must_51 (N := N) hN (f := k) (by omega) hw (n := n) (a := false) (fun _ => d) h1 N1 C1
          refine ⟨v, μ', ?_, r2, r3, r4, r5, F1.trI r6⟩
          rw [if_pos d, if_pos (show ¬ (1 : Int) = 0 by decide)]
          exact r1
        · rw [if_neg d, if_neg (show ¬ ¬ (0 : Int) = 0 by decide)]
          refine ⟨0, μ1, rfl, (MB.zero _).congr (fun w hw => ⟨fun z => z.elim, fun z => ?_⟩), h1, N1, C1, F1⟩
          have := (LT_LE hG hV tn k).1 w hw
          have z := z.resolve_left (by decide)
          omega
    · have hC : ¬ (0 ≤ f ∧ f < G.1 1 ∧ ¬ whi G (spl G R) = 0) := fun z => c ⟨z.1, by omega⟩
      simp only [if_neg hC]
      rw [if_neg c, if_neg (show ¬ ¬ (0 : Int) = 0 by decide)]
      exact ⟨-1, μ1, rfl, rfl, h1, N1, C1, F1⟩
