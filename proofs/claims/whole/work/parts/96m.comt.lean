/-! ===== PURE: what may come, as the class has it ===== -/
theorem stf_fold {G : Gm} : ∀ (c : List Int) (st : Int), stf G st c = c.foldl (nst G) st
  | [], _ => rfl
  | x :: c, st => by rw [stf, List.foldl_cons, stf_fold c]
theorem fm_filter {α β : Type} {p : α → Bool} {f : α → List β} : ∀ l : List α, (l.filter p).flatMap f = l.flatMap (fun a => if p a then f a else [])
  | [] => rfl
  | a :: l => by
    rw [List.flatMap_cons, List.filter_cons]
    by_cases c : p a = true
    · rw [if_pos c, if_pos c, List.flatMap_cons, fm_filter l]
    · rw [if_neg c, if_neg c, fm_filter l, List.nil_append]
theorem tot_bd {G : Gm} (hG : GOK G) {R : List Int} (hV : VR G R) : -400 ≤ tot G (spl G R) ∧ tot G (spl G R) ≤ 448 := by
  have hO := hV.ok hG
  have h8 := hG.2.1
  have hl := hO.2.1
  have h1 := Lf_ok hG (QA_QR hG hV).1 (spl G R).1.length hl _ (by rw [LA_one hG hV _ (Nat.le_refl _)]; exact List.mem_singleton.mpr rfl)
  unfold wOK at h1
  dsimp only at h1
  rw [List.take_length] at h1
  have h2 := gf_ok (spl G R).2 _ (owd_ok hO.1) hO.2.2.1
  have h3 := sm_ok ((owd_ok hO.1).ltn (spl G R).2.length)
  rw [tot_gs hG]
  omega
theorem own_ok {G : Gm} (hG : GOK G) {R : List Int} (hV : VR G R) : OwOK (own G (spl G R)) := (owd_ok (hV.ok hG).1).ltn _
/-- the open frame's rows -/
theorem sel_open {G : Gm} (hG : GOK G) {R : List Int} (hV : VR G R) (ha : ((spl G R).1.length : Int) < G.1 1) (fi : Int) : sel fi (LM G R) = (dsc (G.1 2 - (spl G R).2.length).toNat (G.1 0 - dn (spl G R).2)).flatMap (rowC G fi (spl G R).1.length (tot G (spl G R) + (dn (spl G R).2 - G.1 3 * fls (spl G R).2)) (own G (spl G R)) (spl G R).2 (fun o' => Bk G QF (FT G - (spl G R).1.length - 1) ((spl G R).1.length + 1) o')) := by
  have hO := hV.ok hG
  have hp := hG.1
  have hrl := hG.2.2.1
  have hd := hO.2.2.2.1 ha
  have hd0 := dn_nn hO.2.2.1
  rw [LM_open hG hV ha, sel_fm, show (G.1 2).toNat - (spl G R).2.length = (G.1 2 - (spl G R).2.length).toNat by omega, frow_dsc _ _ (by omega) (by omega), fm_filter]
  apply fm_cg
  intro r hr
  obtain ⟨q1, q2, q3, q4⟩ := dsc_rv _ _ (by omega) r hr
  have hr1 : 1 ≤ r.length := by cases r with | nil => exact absurd rfl q4 | cons _ _ => simp
  rw [sel_all]
  have et : tk (r.getD 0 0) = r.getD 0 0 := by
    apply tk_nn
    cases r with
    | nil => exact absurd rfl q4
    | cons x l => exact (q1 x (by simp)).1
  have ec : (decide (lsum r = G.1 0 - dn (spl G R).2 ∨ r.length = (G.1 2 - ((spl G R).2.length : Int)).toNat) = true) ↔ (dn (spl G R).2 + lsum r = G.1 0 ∨ ((spl G R).2.length : Int) + r.length = G.1 2) := by
    rw [decide_eq_true_eq]
    omega
  have el : lvg G (own G (spl G R)) (spl G R).2 r = (fo G (spl G R).1.length (owd G (spl G R).1) ((spl G R).2 ++ r)).1 := by
    unfold lvg fo own
    dsimp only
    rw [List.length_append, ltn_add]
  have eb : (tot G (spl G R) + (dn (spl G R).2 - G.1 3 * fls (spl G R).2)) + brg G (spl G R).1.length (own G (spl G R)) (spl G R).2 r = gs G (spl G R).1 (spl G R).1.length + (fo G (spl G R).1.length (owd G (spl G R).1) ((spl G R).2 ++ r)).2 := by
    unfold brg fo own
    dsimp only
    rw [tot_gs hG, gn_app, gn_gf (spl G R).2, fls_app, Int.mul_comm (fls (spl G R).2 + fls r), Int.mul_add]
    omega
  unfold rowC
  rw [el, eb, et]
  by_cases c1 : dn (spl G R).2 + lsum r = G.1 0 ∨ ((spl G R).2.length : Int) + r.length = G.1 2
  · rw [if_pos (ec.mpr c1)]
    by_cases c2 : fi = -1 ∨ r.getD 0 0 = fi
    · rw [if_pos c2, if_pos ⟨c1, c2⟩]
    · rw [if_neg c2, if_neg (fun z => c2 z.2)]
  · rw [if_neg (fun z => c1 (ec.mp z)), if_neg (fun z => c1 z.1)]
/-- the fills -/
def lfil (G : Gm) (fi st : Int) (o : Ow) : List Int := (iot ((if cnt o ≤ 0 then 0 else st).toNat + 1) 0).flatMap (fun a => if fsel (cnt o) fi a then inB G (cnt o) (enc o) a (rst G st a) else [])
theorem sel_fill {G : Gm} {o : Ow} (ho : OwOK o) {fi st t : Int} (hfi : fi = -1 ∨ 0 < cnt o) : sel fi ((frw G (cnt o).toNat st []).map (fun r => (t + gf o r, tk (r.getD 0 0)))) = (lfil G fi st o).map (fun b => t + b) := by
  unfold lfil
  by_cases c : cnt o ≤ 0
  · have hf : fi = -1 := by rcases hfi with q | q; exact q; omega
    rw [if_pos c, show (cnt o).toNat = 0 by omega, frw0]
    show sel fi [(t + gf o [], tk 0)] = _
    unfold sel
    rw [List.filter_cons_of_pos (by exact decide_eq_true (Or.inl hf))]
    show [t + gf o []] = List.map _ ((if fsel (cnt o) fi 0 then inB G (cnt o) (enc o) 0 (rst G st 0) else []) ++ [])
    rw [if_pos (show fsel (cnt o) fi 0 from Or.inl c), List.append_nil, inB_frw ho, show (cnt o - 1).toNat = 0 by omega, frw0, gf, gf, Int.zero_mul]
    rfl
  · rw [if_neg c, show (cnt o).toNat = (cnt o - 1).toNat + 1 by omega, frwS, sel_fm, List.map_flatMap]
    apply fm_cg
    intro a ha
    have h0 := (iot_mem ha).1
    show sel fi (List.map (fun r => (t + gf o (a :: r), tk a)) _) = _
    rw [sel_all, tk_nn h0]
    have es : fsel (cnt o) fi a ↔ (fi = -1 ∨ a = fi) := ⟨fun z => z.resolve_left c, Or.inr⟩
    by_cases c2 : fi = -1 ∨ a = fi
    · rw [if_pos c2, if_pos (es.mpr c2), inB_frw ho, rst_nst h0, List.map_map]
      congr 1
      funext r
      show t + gf o (a :: r) = t + (a * o.1 + gf (lt1 o) r)
      rw [gf, tk_nn h0]
    · rw [if_neg c2, if_neg (fun z => c2 (es.mp z)), List.map_nil]
theorem cnt_own {G : Gm} (hG : GOK G) {R : List Int} (hV : VR G R) (ha : ((spl G R).1.length : Int) = G.1 1) : cnt (own G (spl G R)) = cnt (owd G (spl G R).1) - (spl G R).2.length := by
  have hO := hV.ok hG
  have h := (hO.2.2.2.2 ha).1
  unfold own
  rw [cnt_ltn _ (owd_ok hO.1)]
  split <;> omega
theorem sel_fills {G : Gm} (hG : GOK G) {R : List Int} (hV : VR G R) (ha : ((spl G R).1.length : Int) = G.1 1) {fi : Int} (hfi : fi = -1 ∨ ¬ whole G (spl G R)) : sel fi (LM G R) = (lfil G fi (sta G (spl G R)) (own G (spl G R))).map (fun b => tot G (spl G R) + b) ∧ LM G R = (frw G (cnt (own G (spl G R))).toNat (sta G (spl G R)) []).map (fun r => (tot G (spl G R) + gf (own G (spl G R)) r, tk (r.getD 0 0))) := by
  have hO := hV.ok hG
  have hc := (hO.2.2.2.2 ha).1
  have ec := cnt_own hG hV ha
  have es : stf G (G.1 0) (spl G R).2 = sta G (spl G R) := by
    unfold sta fst
    rw [if_pos ha, stf_fold]
  have e : LM G R = (frw G (cnt (own G (spl G R))).toNat (sta G (spl G R)) []).map (fun r => (tot G (spl G R) + gf (own G (spl G R)) r, tk (r.getD 0 0))) := by
    rw [LM_fill hG hV ha hc, es, show (cnt (owd G (spl G R).1)).toNat - (spl G R).2.length = (cnt (own G (spl G R))).toNat by omega]
  refine ⟨?_, e⟩
  rw [e]
  exact sel_fill (own_ok hG hV) (by
    rcases hfi with q | q
    · exact Or.inl q
    · right
      unfold whole at q
      omega)
theorem lfil_ok {G : Gm} (hG : GOK G) {o : Ow} (ho : OwOK o) {fi st : Int} (hst : 1 ≤ st ∧ st ≤ G.1 0) (hfi : fi = -1 ∨ 0 < cnt o) : (∀ b ∈ lfil G fi st o, 0 ≤ b ∧ b ≤ 54) ∧ (lfil G fi st o).length ≤ 1000 := by
  have h := sel_fill (G := G) ho (st := st) (t := 0) hfi
  have hc := cnt_ok (o := o)
  constructor
  · intro b hb
    have h1 : 0 + b ∈ (lfil G fi st o).map (fun b => 0 + b) := List.mem_map.mpr ⟨b, hb, rfl⟩
    rw [← h] at h1
    unfold sel at h1
    obtain ⟨p, hp, e⟩ := List.mem_map.mp h1
    obtain ⟨r, hr, rfl⟩ := List.mem_map.mp (List.mem_filter.mp hp).1
    have h2 := frw_ok hG _ _ [] hst trivial r hr
    have h3 := gf_ok r o ho h2.1
    have h4 := sm_ok ho
    have h5 := sm_ok (ho.ltn r.length)
    dsimp only at e
    omega
  · have h1 := congrArg List.length h
    rw [List.length_map] at h1
    rw [← h1]
    unfold sel
    rw [List.length_map]
    refine Nat.le_trans (List.length_filter_le _ _) ?_
    rw [List.length_map]
    have h2 := frw_len hG (cnt o).toNat st [] hst trivial
    have : 10 ^ (cnt o).toNat ≤ 10 ^ 3 := Nat.pow_le_pow_right (by decide) (by omega)
    omega
theorem AH.ag {G : Gm} {μ μ' : Mm} (h : AH G μ) (g : ∀ j, m_gt μ' 95 j = m_gt μ 95 j) : AH G μ' := fun f m hf o ho hq s s0 s1 => by rw [g]; exact h f m hf o ho hq s s0 s1
theorem AHC.ag {G : Gm} {μ μ' : Mm} (h : AHC G μ) (g : ∀ j, m_gt μ' 95 j = m_gt μ 95 j) (e : m_gt μ' 50 70 = m_gt μ 50 70) : AHC G μ' := by
  rcases h with z | ⟨z, y⟩
  · exact Or.inl (by rw [e]; exact z)
  · exact Or.inr ⟨by rw [e]; exact z, y.ag g⟩
def cmI : List Int := [88, 97, 98, 95, 90, 91, 92, 93, 94]
def cmS : List (Int × Int) := (50, 70) :: (opS ++ sGo)
theorem MC.cm {G : Gm} {R : List Int} {μ μ' : Mm} (h : MC G R μ) (f : Fr cmI cmS μ μ') : MC G R μ' := ⟨h.1, f.KR h.2.1 (by decide), h.2.2.1.ag (f.ag (by decide)), h.2.2.2.ag (f.ag (by decide))⟩
theorem tellsComing_M {N : Nat} (hN : 1000000 ≤ N) {G : Gm} {R : List Int} {fi : Int} {μ : Mm} (h : MC G R μ) (hA : AHC G μ) (hfi : fi = -1 ∨ ¬ whole G (spl G R)) : ∃ μ', jX8_tellsComing N 50 fi μ = some μ' ∧ CO (sel fi (LM G R)) μ' ∧ MC G R μ' ∧ AHC G μ' ∧ Fr cmI cmS μ μ' := by
  have hG := h.1.1
  have hV := h.1.2
  have hO := hV.ok hG
  have hp := hG.1
  have h8 := hG.2.1
  have hrl := hG.2.2.1
  have hcost := hG.2.2.2.1
  have hl8 := hO.2.1
  obtain ⟨μ1, a1, T1, h1, f1⟩ := h.go (N := N) hN
  have A1 : AHC G μ1 := hA.ag (fun j => f1.2.2 95 j (by decide) (by simp [sGo])) (f1.2.2 50 70 (by decide) (by decide))
  have F1 : Fr cmI cmS μ μ1 := f1.mono (by decide) (fun q hq => Or.inl (by simp [cmS, hq]))
  obtain ⟨μ2, b1, b70, b2, f2⟩ := tellsAhead_M (N := N) hN hG h1.2.1 h1.2.2.1 A1
  have F2 : Fr cmI cmS μ1 μ2 := f2.mono (by decide) (fun q hq => Or.inl (by simp [cmS]; simp at hq; rcases hq with z | z <;> simp [z]))
  have T2 : GT G R μ2 := T1.ag (f2.ag (by decide))
  have h2 := h1.cm F2
  obtain ⟨n', μ3, c1, c2, f3⟩ := com_zero (N := N) (fi := fi) 2120 N 0 (μ := μ2) (by omega) (by omega) (by omega) h2.2.1 (fun j j0 j1 => by omega)
  have F3 : Fr cmI cmS μ2 μ3 := f3.mono (by decide) (by simp)
  have T3 : GT G R μ3 := T2.ag (f3.ag (by decide))
  have h3 := h2.cm F3
  have d1 := owedNow_M (N := N) hN h3 T3
  obtain ⟨μ4, e1, f4⟩ := soFar_M (N := N) hN h3 T3
  have F4 : Fr cmI cmS μ3 μ4 := f4.mono (by decide) (fun q hq => Or.inl (by simp [cmS, opS, hq]))
  have T4 : GT G R μ4 := T3.pf f4
  have h4 := h3.cm F4
  have Z4 : ∀ j, 0 ≤ j → j < 2120 → m_gt μ4 98 j = 0 := fun j j0 j1 => by rw [f4.2.2 98 j (by decide) (by simp [pfs])]; exact c2 j j0 j1
  have A4 : AH G μ4 := b2.ag (fun j => by rw [f4.2.2 95 j (by decide) (by simp [pfs]), f3.2.2 95 j (by decide) (by simp)])
  have s70 : m_gt μ4 50 70 = 1 := by rw [f4.2.2 50 70 (by decide) (by decide), f3.2.2 50 70 (by decide) (by simp)]; exact b70
  have F04 : Fr cmI cmS μ μ4 := F1.trI (F2.trI (F3.trI F4))
  have htb := tot_bd hG hV
  have how := own_ok hG hV
  have e65 := T4.2.1.1
  have red : ∀ v, jX8_tellsComing_10b (jX8_tellsComing_10 N n') N 50 fi 2120 μ3 = v → jX8_tellsComing N 50 fi μ = v := by
    intro v hv
    unfold jX8_tellsComing
    rw [a1, ob_e, b1, ob_e, c1]
    exact hv
  by_cases ha : ((spl G R).1.length : Int) = G.1 1
  · have hst := sta_ok hG hO
    have hcn := cnt_own hG hV ha
    have hfi' : fi = -1 ∨ 0 < cnt (own G (spl G R)) := by
      rcases hfi with q | q
      · exact Or.inl q
      · right
        unfold whole at q
        omega
    have e67 : m_gt μ4 50 67 = cnt (owd G (spl G R).1) := by rw [T4.2.2.2.2.1, if_pos ha]
    have hck := cnt_ok (o := owd G (spl G R).1)
    have hlc := (hO.2.2.2.2 ha).1
    have hlim : 0 ≤ (if cnt (own G (spl G R)) ≤ 0 then 0 else sta G (spl G R)) ∧ (if cnt (own G (spl G R)) ≤ 0 then 0 else sta G (spl G R)) ≤ 9 := by split <;> omega
    obtain ⟨μ5, g1, g2, g3⟩ := cf_19 (N := N) hN hG (w := tot G (spl G R)) (fi := fi) (x := enc (own G (spl G R))) (n3 := cnt (own G (spl G R))) (st := sta G (spl G R)) (by omega) (enc_ok how) hst ((if cnt (own G (spl G R)) ≤ 0 then 0 else sta G (spl G R)).toNat + 1) N 0 [] (μ := μ4) (by omega) (by omega) (by omega) h4.2.1 h4.2.2.1 T4.2.2.2.1 (by simp; omega) (fun s s0 s1 => by rw [cB_nil]; exact Z4 _ (by omega) (by omega))
    rw [List.nil_append] at g2
    have F5 : Fr cmI cmS μ4 μ5 := g3.1.mono (by decide) (by simp)
    refine ⟨μ5, red _ ?_, ?_, h4.cm F5, Or.inr ⟨by rw [s98 g3]; exact s70, A4.ag (fun j => g3.1.2.2 95 j (by decide) (by simp))⟩, F04.trI F5⟩
    · rw [jX8_tellsComing_10b, if_pos (by decide), d1, b2_e, e1, b2_e, r_50_32 h4.2.1, ald_e (k_75 h4.2.1) (by decide) (by decide), ob_e, h4.2.2.1.1.2.1, e65, if_neg (not_not_intro ha)]
      unfold jX8_comesByFills
      rw [e65, r_50_61 h4.2.1, ald_e (k_91 h4.2.1) (by omega) (by omega), ob_e, T4.2.1.2.2, e67, bnd_e, i_sub_e (by omega) (by omega), ← hcn, g1, ob_e]
    · obtain ⟨s1, _⟩ := sel_fills hG hV ha hfi
      obtain ⟨l1, l2⟩ := lfil_ok hG how (fi := fi) hst hfi'
      rw [s1]
      intro j j0 j1
      rw [cB_shift]
      have hcb := cB_len (lfil G fi (sta G (spl G R)) (own G (spl G R))) (j - 1060 - tot G (spl G R))
      rw [mn_small (by omega)]
      by_cases q : -460 ≤ j - 1060 - tot G (spl G R) ∧ j - 1060 - tot G (spl G R) < 600
      · have := g2 _ q.1 q.2
        rw [show 1060 + tot G (spl G R) + (j - 1060 - tot G (spl G R)) = j by omega] at this
        exact this
      · rw [g3.2 j (by omega), Z4 j j0 j1, cB_no (fun b hb z => by have := l1 b hb; omega)]
        rfl
  · have ha' : ((spl G R).1.length : Int) < G.1 1 := by omega
    have hd := hO.2.2.2.1 ha'
    have hd0 := dn_nn hO.2.2.1
    have hfl := fls_ok (spl G R).2
    have hm0 : 0 ≤ G.1 3 * fls (spl G R).2 := Int.mul_nonneg hcost.1 hfl.1
    have hm1 : G.1 3 * fls (spl G R).2 ≤ 10 * 3 := Int.mul_le_mul hcost.2 (by omega) hfl.1 (by omega)
    have t92 := T4.2.2.1 ha'
    have go : ∀ {μ5 : Mm}, (∀ r i, m_gt μ5 r i = m_gt μ4 r i) → Fr cmI cmS μ4 μ5 → ∃ μ', jX8_tellsComing_114 N 50 fi (enc (own G (spl G R))) (tot G (spl G R) + (dn (spl G R).2 - G.1 3 * fls (spl G R).2)) μ5 = some μ' ∧ CO (sel fi (LM G R)) μ' ∧ MC G R μ' ∧ AHC G μ' ∧ Fr cmI cmS μ μ' := by
      intro μ5 q F5
      have h5 := h4.cm F5
      obtain ⟨μ6, g1, g2, g3⟩ := com_rows (N := N) hN hG (fi := fi) (w := tot G (spl G R) + (dn (spl G R).2 - G.1 3 * fls (spl G R).2)) (c := (spl G R).2) (f := (spl G R).1.length) ha' how hO.2.2.1 hd.2 hd.1 (by omega) (B := fun o' => Bk G QF (FT G - (spl G R).1.length - 1) ((spl G R).1.length + 1) o') (fun o' ho' b hb => by
        have := Bk_ok hG (QF_ok G) _ _ o' (by unfold FT; omega) ho' b hb
        have := sm_ok ho'
        unfold FT at *
        omega) (μ := μ5) h5.2.1 h5.2.2.1 (by rw [q]; exact e65) (by rw [q]; exact T4.2.1.2.2) (by rw [q]; exact t92.2.1) (by rw [q]; exact t92.2.2) (fun o' ho' s s0 s1 => by
        rw [q]
        exact A4 ((spl G R).1.length + 1) _ (by unfold FT; omega) o' ho' (Or.inl (by omega)) s s0 s1) (fun j j0 j1 => by rw [q, Z4 j j0 j1, cB_nil, mn0])
      have F6 : Fr cmI cmS μ5 μ6 := g3.mono (by decide) (fun p hp => Or.inl (by simp [cmS, hp]))
      refine ⟨μ6, g1, ?_, h5.cm F6, Or.inr ⟨?_, A4.ag (fun j => ?_)⟩, F04.trI (F5.trI F6)⟩
      · rw [sel_open hG hV ha']
        exact g2
      · rw [g3.2.2 50 70 (by decide) (by decide), q]; exact s70
      · rw [g3.2.2 95 j (by decide) (by simp [opS, pfs]), q]
    have ex7 : i_add (tot G (spl G R)) (i_sub (dn (spl G R).2) (i_mul (G.1 3) (fls (spl G R).2))) = tot G (spl G R) + (dn (spl G R).2 - G.1 3 * fls (spl G R).2) := by
      rw [i_mul_e (by omega) (by omega), i_sub_e (by omega) (by omega), i_add_e (by omega) (by omega)]
    have main : ∀ v, (if ¬ ((spl G R).2.length : Int) = 0 then jX8_tellsComing_114 N 50 fi (enc (own G (spl G R))) (tot G (spl G R) + (dn (spl G R).2 - G.1 3 * fls (spl G R).2)) μ4 else (jX8_empties N 50 ((spl G R).1.length : Nat) (R.length : Nat) μ4).bind fun μ3 => jX8_tellsComing_114 N 50 fi (enc (own G (spl G R))) (tot G (spl G R) + (dn (spl G R).2 - G.1 3 * fls (spl G R).2)) μ3) = v → jX8_tellsComing N 50 fi μ = v := by
      intro v hv
      apply red
      rw [jX8_tellsComing_10b, if_pos (by decide), d1, b2_e, e1, b2_e, r_50_32 h4.2.1, ald_e (k_75 h4.2.1) (by decide) (by decide), ob_e, h4.2.2.1.1.2.1, e65, if_pos ha, r_50_63 h4.2.1, ald_e (k_93 h4.2.1) (by omega) (by omega), ob_e, t92.2.1, r_50_34 h4.2.1, ald_e (k_77 h4.2.1) (by decide) (by decide), ob_e, h4.2.2.1.1.2.2.2.1, r_50_64 h4.2.1, ald_e (k_94 h4.2.1) (by omega) (by omega), ob_e, t92.2.2, bnd_e, ex7, r_50_61 h4.2.1, ald_e (k_91 h4.2.1) (by omega) (by omega), ob_e, T4.2.1.2.2, h4.2.2.2.1]
      exact hv
    by_cases hz : ((spl G R).2.length : Int) = 0
    · have hnil : (spl G R).2 = [] := List.length_eq_zero_iff.mp (by omega)
      obtain ⟨M, m1, m2, m3, m4⟩ := empties_M (N := N) (f := (spl G R).1.length) (v := R.length) h4.2.1 (by omega)
      have hl := spl_len G R
      have q : ∀ r i, m_gt M r i = m_gt μ4 r i := by
        intro r i
        by_cases ci : i = (spl G R).1.length
        · by_cases cr : r ∈ ([90, 91, 92, 93, 94] : List Int)
          · have t90 := T4.2.1.2.1
            have t91 := T4.2.1.2.2
            rw [hnil] at t92 t91 hl
            have z1 : dn [] = 0 := rfl
            have z2 : fls [] = 0 := rfl
            rw [z1, z2] at t92
            simp at cr
            rw [ci]
            rcases cr with rfl | rfl | rfl | rfl | rfl
            · rw [m2.1, t90]; simp at hl; omega
            · rw [m2.2.1, t91]; rfl
            · rw [m2.2.2.1, t92.1]
            · rw [m2.2.2.2.1, t92.2.1]
            · rw [m2.2.2.2.2, t92.2.2]
          · exact m4.2.2 r i cr (by simp)
        · exact m3 r i ci
      obtain ⟨μ', w1, w2⟩ := go q (m4.mono (by decide) (by simp))
      refine ⟨μ', main _ ?_, w2⟩
      rw [if_neg (not_not_intro hz), m1, ob_e]
      exact w1
    · obtain ⟨μ', w1, w2⟩ := go (μ5 := μ4) (fun _ _ => rfl) (Fr.rf0 _ _ _)
      refine ⟨μ', main _ ?_, w2⟩
      rw [if_pos hz]
      exact w1
