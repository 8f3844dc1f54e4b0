/-! ===== PURE: rows that are over; the reference's ends ===== -/
theorem fm_congr {α β : Type} {f g : α → List β} : ∀ {l : List α}, (∀ a ∈ l, f a = g a) → l.flatMap f = l.flatMap g
  | [], _ => rfl
  | a :: l, h => by rw [List.flatMap_cons, List.flatMap_cons, h a (by simp), fm_congr (fun b hb => h b (by simp [hb]))]
theorem filter_fm {α β : Type} {p : β → Bool} {f : α → List β} : ∀ {l : List α}, (l.flatMap f).filter p = l.flatMap (fun a => (f a).filter p)
  | [] => rfl
  | a :: l => by rw [List.flatMap_cons, List.flatMap_cons, List.filter_append, filter_fm]
theorem frow_dsc : ∀ (n : Nat) (st : Int), 1 ≤ n → 1 ≤ st → frow n st [] = (dsc n st).filter (fun F => decide (lsum F = st ∨ F.length = n))
  | 0, st, h, _ => absurd h (by omega)
  | n + 1, st, _, hst => by
    rw [frow, if_neg (by omega), dsc, if_neg (by omega), filter_fm]
    refine fm_congr (fun t ht => ?_)
    have h1 := (mem_upto (by omega)).mp ht
    have lt : lsum [t] = t := by simp [lsum]
    by_cases c : n = 0
    · subst c
      have e : frow 0 (st - t) [] = [[]] := rfl
      have e2 : dsc 0 (st - t) = [] := rfl
      rw [e, e2, List.map_nil, List.filter_cons_of_pos (by simp)]
      rfl
    · by_cases c2 : t = st
      · have e : frow n (st - t) [] = [[]] := by
          obtain ⟨m, rfl⟩ : ∃ m, n = m + 1 := ⟨n - 1, by omega⟩
          rw [frow, if_pos (by omega)]
        have e2 : dsc n (st - t) = [] := by
          obtain ⟨m, rfl⟩ : ∃ m, n = m + 1 := ⟨n - 1, by omega⟩
          rw [dsc, if_pos (by omega)]
        rw [e, e2, List.map_nil, List.filter_cons_of_pos (by rw [lt]; exact decide_eq_true (Or.inl c2))]
        rfl
      · have ih := frow_dsc n (st - t) (by omega) (by omega)
        rw [List.filter_cons_of_neg (by
          rw [lt]
          intro z
          have z := of_decide_eq_true z
          simp at z
          omega), List.filter_map, ih]
        congr 1
        apply List.filter_congr
        intro d _
        show _ = decide (lsum (t :: d) = st ∨ (t :: d).length = n + 1)
        have e1 : lsum (t :: d) = t + lsum d := rfl
        rw [e1, List.length_cons]
        congr 1
        apply propext
        omega
theorem dsc_rv : ∀ (n : Nat) (st : Int), st ≤ 9 → ∀ F ∈ dsc n st, (∀ x ∈ F, 0 ≤ x ∧ x ≤ 9) ∧ lsum F ≤ st ∧ F.length ≤ n ∧ F ≠ []
  | 0, st, _, F, hF => absurd hF (by simp [dsc])
  | n + 1, st, h9, F, hF => by
    unfold dsc at hF
    split at hF
    · cases hF
    · obtain ⟨t, ht, hm⟩ := List.mem_flatMap.mp hF
      have h1 := (mem_upto (by omega)).mp ht
      rcases List.mem_cons.mp hm with z | z
      · rw [z]
        refine ⟨fun x hx => ?_, ?_, by simp, by simp⟩
        · rw [List.mem_singleton.mp hx]; omega
        · simp [lsum]; omega
      · obtain ⟨d, hd, rfl⟩ := List.mem_map.mp z
        obtain ⟨a1, a2, a3, a4⟩ := dsc_rv n (st - t) (by omega) d hd
        refine ⟨fun x hx => ?_, ?_, by simp; omega, by simp⟩
        · rcases List.mem_cons.mp hx with y | y
          · rw [y]; omega
          · exact a1 x y
        · show t + lsum d ≤ st
          omega
theorem dn_lsum : ∀ {F : List Int}, (∀ x ∈ F, 0 ≤ x ∧ x ≤ 9) → dn F = lsum F ∧ fls F = 0 ∧ rok F
  | [], _ => ⟨rfl, rfl, fun x hx => absurd hx (by simp)⟩
  | x :: F, h => by
    have hx := h x (by simp)
    obtain ⟨a1, a2, a3⟩ := dn_lsum (F := F) (fun y hy => h y (by simp [hy]))
    have et : tk x = x := by unfold tk; rw [if_neg (by omega)]
    refine ⟨by rw [dn_cons, a1, et]; rfl, by rw [fls_cons, a2, if_neg (by omega)]; rfl, fun y hy => ?_⟩
    rcases List.mem_cons.mp hy with z | z
    · rw [z]; exact Or.inr hx
    · exact a3 y z
theorem take_gn {o : Ow} {r : List Int} {k : Nat} (hk : k < r.length) : gn o (r.take (k + 1)) = gn o (r.take k) + tk r[k] * (1 + (ltn k o).1) := by
  rw [List.take_succ_eq_append_getElem hk, gn_app, List.length_take, Nat.min_eq_left (by omega)]
  show _ + (tk r[k] * (1 + (ltn k o).1) + 0) = _
  omega
/-- the end of a row -/
theorem ends_131 {N : Nat} (hN : 1000000 ≤ N) {G : Gm} (hG : GOK G) {f : Int} (hf : 0 ≤ f ∧ f ≤ 8) {o1 : Ow} (ho : OwOK1 o1) {F : List Int} (hF : rok F) (hl : F.length ≤ 3) (hd : dn F ≤ G.1 0) {v : Int} (hv : -100 ≤ v ∧ v ≤ 100) {μ : Mm} (hK : KR μ) (hM : GM G μ) : ∃ μ', jX8_ends_131 N 50 f v (enc o1) (dn F) (fls F) F.length μ = some (1, μ') ∧ m_gt μ' 50 75 = v + wrt G f (dn F) F.length (fls F) ∧ m_gt μ' 50 76 = enc (pls o1 (ow G F)) ∧ Fr [88] (pfs ++ [(50, 75), (50, 76)]) μ μ' := by
  have hp := hG.1
  have hfl := fls_ok F
  have hdn := dn_nn hF
  obtain ⟨μ1, e1, f1⟩ := worthOf_M (N := N) hN hG.2.2.2.2.2.1 (f := f) (d := dn F) (u := F.length) (x := fls F) hf (by omega) (by omega) (by omega) hK hM
  have hw := wrt_ok G f (dn F) F.length (fls F)
  let μ2 := m_st μ1 50 75 (v + wrt G f (dn F) F.length (fls F))
  have f2 : Fr [88] (pfs ++ [(50, 75), (50, 76)]) μ μ2 := (f1.mono (by decide) (by decide)).stI (by decide)
  have K2 : KR μ2 := f2.KR hK (by decide)
  have M2 : GM G μ2 := hM.ag (f2.ag (by decide))
  have key : ∀ s : Int, s = cln G F → jX8_ends_148 N 50 f v (enc o1) (dn F) (fls F) F.length s μ = some (1, m_st μ2 50 76 (enc (pls o1 (ow G F)))) := by
    intro s hs
    have hc : 0 ≤ cln G F ∧ cln G F ≤ 3 := by unfold cln; split <;> omega
    have h189 : ∀ e, e = ow G F → jX8_ends_189 N 50 e (enc o1) 50 μ2 = some (1, m_st μ2 50 76 (enc (pls o1 (ow G F)))) := by
      intro e he
      have hoe : 0 ≤ e ∧ e ≤ 3 := by rw [he]; exact ern_ok hG _
      unfold jX8_ends_189
      rw [plus_M ho hoe.1 hoe.2, b2_e, chk_e (k_50 K2), bnd_e, he]
    unfold jX8_ends_148
    rw [e1, b2_e, bnd_e, i_add_e (by omega) (by omega)]
    show (if s ≤ 0 then jX8_ends_189 N 50 0 (enc o1) 50 μ2 else (m_ald 100 μ2 (m_gt μ2 50 35) (i_add 4 s)).bind fun x2 => jX8_ends_189 N 50 x2 (enc o1) 50 μ2) = _
    by_cases c : s ≤ 0
    · rw [if_pos c]
      refine h189 0 ?_
      unfold ow
      rw [← hs, show s = 0 by omega]
      rfl
    · rw [if_neg c, r_50_35 K2, i_add_e (by omega) (by omega), ald_e (k_78 K2) (by omega) (by omega), ob_e, earns_M M2 (by omega) (by omega)]
      refine h189 _ ?_
      unfold ow
      rw [hs]
  refine ⟨m_st μ2 50 76 (enc (pls o1 (ow G F))), ?_, ?_, gt_same _ _ _ _, f2.stI (by decide)⟩
  · unfold jX8_ends_131
    rw [r_50_31 hK, ald_e (k_74 hK) (by decide) (by decide), ob_e, hM.1.1]
    by_cases c : dn F = G.1 0
    · rw [if_neg (not_not_intro c)]
      exact key _ (by unfold cln; rw [if_pos c])
    · rw [if_pos c]
      exact key 0 (by unfold cln; rw [if_neg c])
  · rw [gt_i _ _ _ (by decide)]
    exact gt_same _ _ _ _
def brg (G : Gm) (f : Int) (o : Ow) (c r : List Int) : Int := gn o r - G.1 3 * fls r + wrt G f (dn (c ++ r)) (c ++ r).length (fls (c ++ r))
def lvg (G : Gm) (o : Ow) (c r : List Int) : Ow := pls (ltn r.length o) (ow G (c ++ r))
def cmpl (G : Gm) (c r : List Int) : Prop := ¬ (dn c + dn r < G.1 0 ∧ (c.length : Int) + r.length < G.1 2)
theorem ends_loop {N : Nat} (hN : 1000000 ≤ N) {G : Gm} (hG : GOK G) {f : Int} (hf : 0 ≤ f ∧ f ≤ 8) {o : Ow} (ho : OwOK o) {c r : List Int} (hc : rok c) (hr : rok r) (hl : c.length + r.length ≤ 3) (hne : r ≠ []) (hd : dn c + dn r ≤ G.1 0) {μ : Mm} (hK : KR μ) (hM : GM G μ) (hR : ROW r μ) : ∀ (k n i : Nat), i + k = r.length → k < n → ∃ x μ', jX8_ends_17 N n 50 f c.length (gn o (r.take i) - G.1 3 * fls (r.take i)) (enc (ltn i o)) (dn c + dn (r.take i)) (fls c + fls (r.take i)) i μ = some (x, μ') ∧ (cmpl G c r → x = 1 ∧ m_gt μ' 50 75 = brg G f o c r ∧ m_gt μ' 50 76 = enc (lvg G o c r)) ∧ (¬ cmpl G c r → x = 0 ∧ μ' = μ) ∧ Fr [88] (pfs ++ [(50, 75), (50, 76)]) μ μ'
  | k, 0, i, hi, hn => absurd hn (by omega)
  | 0, n + 1, i, hi, hn => by
    have hp := hG.1
    have hrl := hG.2.2.1
    have hco := hG.2.2.2.1
    have hgn := gn_ok r o ho hr
    have hfl := fls_ok r
    have hdr := dn_nn hr
    have hdc := dn_nn hc
    have hl1 : 1 ≤ r.length := by cases r with | nil => exact absurd rfl hne | cons _ _ => simp
    have m1 : 0 ≤ G.1 3 * fls r := Int.mul_nonneg hco.1 hfl.1
    have m2 : G.1 3 * fls r ≤ 10 * 3 := Int.mul_le_mul hco.2 (by omega) hfl.1 (by omega)
    have hlen : ((c ++ r).length : Int) = c.length + r.length := by rw [List.length_append]; omega
    rw [List.take_of_length_le (by omega), show i = r.length by omega]
    show ∃ x μ', jX8_ends_17b (jX8_ends_17 N n) N 50 f c.length (gn o r - G.1 3 * fls r) (enc (ltn r.length o)) (dn c + dn r) (fls c + fls r) r.length μ = some (x, μ') ∧ _
    unfold jX8_ends_17b
    rw [hR.1, if_pos (by omega), bnd_e, i_add_e (by omega) (by omega), r_50_31 hK, ald_e (k_74 hK) (by decide) (by decide), ob_e, hM.1.1, r_50_33 hK, ald_e (k_76 hK) (by decide) (by decide), ob_e, hM.1.2.2.1]
    by_cases C : dn c + dn r < G.1 0 ∧ (c.length : Int) + r.length < G.1 2
    · rw [if_neg (by omega), if_neg (by omega)]
      exact ⟨0, μ, rfl, fun z => absurd C z, fun _ => ⟨rfl, rfl⟩, Fr.rf0 _ _ _⟩
    · obtain ⟨μ', e1, e2, e3, e4⟩ := ends_131 (N := N) hN hG hf (ltn_ok ho hl1) (F := c ++ r) (fun x hx => (List.mem_append.mp hx).elim (hc x) (hr x)) (by rw [List.length_append]; omega) (by rw [dn_app]; omega) (v := gn o r - G.1 3 * fls r) (by omega) hK hM
      rw [dn_app, fls_app, hlen] at e1
      have fin : ∃ x μ', jX8_ends_131 N 50 f (gn o r - G.1 3 * fls r) (enc (ltn r.length o)) (dn c + dn r) (fls c + fls r) (c.length + r.length) μ = some (x, μ') ∧ (cmpl G c r → x = 1 ∧ m_gt μ' 50 75 = brg G f o c r ∧ m_gt μ' 50 76 = enc (lvg G o c r)) ∧ (¬ cmpl G c r → x = 0 ∧ μ' = μ) ∧ Fr [88] (pfs ++ [(50, 75), (50, 76)]) μ μ' := ⟨1, μ', e1, fun _ => ⟨rfl, e2, e3⟩, fun z => absurd C z, e4⟩
      by_cases c1 : G.1 0 ≤ dn c + dn r
      · rw [if_pos c1]; exact fin
      · rw [if_neg c1, if_pos (by omega)]; exact fin
  | k + 1, n + 1, i, hi, hn => by
    have hp := hG.1
    have hco := hG.2.2.2.1
    have hil : i < r.length := by omega
    have hk : r[i]? = some r[i] := List.getElem?_eq_getElem hil
    have e97 : m_gt μ 97 i = r[i] := hR.2.get hk (by omega)
    have hx := hr _ (List.getElem_mem hil)
    have htk := tk_ok hx
    have hrt : rok (r.take i) := fun x hx => hr x (List.mem_of_mem_take hx)
    have hgn := gn_ok (r.take i) o ho hrt
    have hfl := fls_ok (r.take i)
    have hfc := fls_ok c
    have hdt := dn_nn hrt
    have hdc := dn_nn hc
    have hdle := dn_le hrt
    have hdcl := dn_le hc
    have hli : (r.take i).length = i := by rw [List.length_take]; omega
    rw [hli] at hfl hdle
    have hol := ho.ltn i
    have hol1 := hol
    unfold OwOK at hol1
    have m1 : 0 ≤ G.1 3 * fls (r.take i) := Int.mul_nonneg hco.1 hfl.1
    have m2 : G.1 3 * fls (r.take i) ≤ 10 * 3 := Int.mul_le_mul hco.2 (by omega) hfl.1 (by omega)
    have m3 : 0 ≤ tk r[i] * (1 + (ltn i o).1) := Int.mul_nonneg htk.1 (by omega)
    have m4 : tk r[i] * (1 + (ltn i o).1) ≤ 9 * 4 := Int.mul_le_mul htk.2 (by omega) (by omega) (by omega)
    have ih := ends_loop hN hG hf ho hc hr hl hne hd hK hM hR k n (i + 1) (by omega) (by omega)
    have t1 : dn (r.take (i + 1)) = dn (r.take i) + tk r[i] := by rw [List.take_succ_eq_append_getElem hil, dn_one]
    have t2 : fls (r.take (i + 1)) = fls (r.take i) + (if r[i] = -2 then 1 else 0) := by rw [List.take_succ_eq_append_getElem hil, fls_app]; simp [fls, lsum]
    rw [take_gn hil, t1, t2, ltn_snoc, show ((i + 1 : Nat) : Int) = (i : Int) + 1 by omega] at ih
    have step : jX8_ends_17 N (n + 1) 50 f c.length (gn o (r.take i) - G.1 3 * fls (r.take i)) (enc (ltn i o)) (dn c + dn (r.take i)) (fls c + fls (r.take i)) i μ = jX8_ends_17 N n 50 f c.length (gn o (r.take i) + tk r[i] * (1 + (ltn i o).1) - G.1 3 * (fls (r.take i) + (if r[i] = -2 then 1 else 0))) (enc (lt1 (ltn i o))) (dn c + (dn (r.take i) + tk r[i])) (fls c + (fls (r.take i) + (if r[i] = -2 then 1 else 0))) (i + 1) μ := by
      show jX8_ends_17b (jX8_ends_17 N n) N 50 f c.length (gn o (r.take i) - G.1 3 * fls (r.take i)) (enc (ltn i o)) (dn c + dn (r.take i)) (fls c + fls (r.take i)) i μ = _
      unfold jX8_ends_17b jX8_ends_79
      rw [hR.1, if_neg (by omega), r_50_73 hK, ald_e (k_97 hK) (by omega) (by omega), ob_e, e97, taken_M, b2_e, oneOf_M hol, b2_e, bnd_e, r_50_73 hK, ald_e (k_97 hK) (by omega) (by omega), ob_e, e97]
      simp (disch := omega) only [later_M hol, b2_e, bnd_e, r_50_34 hK, ald_e (k_77 hK), ob_e, hM.1.2.2.2.1, i_add_e, i_mul_e, i_sub_e]
      by_cases z : r[i] = -2
      · rw [if_neg (not_not_intro z), if_pos z]
        have e1 : gn o (r.take i) - G.1 3 * fls (r.take i) + tk r[i] * (1 + (ltn i o).1) - G.1 3 = gn o (r.take i) + tk r[i] * (1 + (ltn i o).1) - G.1 3 * (fls (r.take i) + 1) := by
          rw [Int.mul_add (G.1 3), Int.mul_one]; omega
        rw [e1, show dn c + dn (r.take i) + tk r[i] = dn c + (dn (r.take i) + tk r[i]) by omega, show fls c + fls (r.take i) + 1 = fls c + (fls (r.take i) + 1) by omega]
      · rw [if_pos z, if_neg z]
        have e1 : gn o (r.take i) - G.1 3 * fls (r.take i) + tk r[i] * (1 + (ltn i o).1) = gn o (r.take i) + tk r[i] * (1 + (ltn i o).1) - G.1 3 * (fls (r.take i) + 0) := by
          rw [Int.add_zero]; omega
        rw [e1, show dn c + dn (r.take i) + tk r[i] = dn c + (dn (r.take i) + tk r[i]) by omega, show fls c + fls (r.take i) = fls c + (fls (r.take i) + 0) by omega]
    rw [step]
    exact ih
theorem ends_M {N : Nat} (hN : 1000000 ≤ N) {G : Gm} (hG : GOK G) {f : Int} (hf : 0 ≤ f ∧ f ≤ 8) {o : Ow} (ho : OwOK o) {c r : List Int} (hc : rok c) (hr : rok r) (hl : c.length + r.length ≤ 3) (hne : r ≠ []) (hd : dn c + dn r ≤ G.1 0) {μ : Mm} (hK : KR μ) (hM : GM G μ) (hR : ROW r μ) : ∃ x μ', jX8_ends N 50 f (enc o) c.length (dn c) (fls c) μ = some (x, μ') ∧ (cmpl G c r → x = 1 ∧ m_gt μ' 50 75 = brg G f o c r ∧ m_gt μ' 50 76 = enc (lvg G o c r)) ∧ (¬ cmpl G c r → x = 0 ∧ μ' = μ) ∧ Fr [88] (pfs ++ [(50, 75), (50, 76)]) μ μ' := by
  have h := ends_loop (N := N) hN hG hf ho hc hr hl hne hd hK hM hR r.length N 0 (by omega) (by omega)
  have e1 : gn o (r.take 0) - G.1 3 * fls (r.take 0) = 0 := by simp [gn, fls, lsum]
  have e2 : dn c + dn (r.take 0) = dn c := by simp [dn, lsum]
  have e3 : fls c + fls (r.take 0) = fls c := by simp [fls, lsum]
  rw [e1, e2, e3] at h
  exact h
