/-! ===== PURE: fills that fit, told by the reference ===== -/
abbrev QB (G : Gm) (R : List Int) (tn : Int → Bool) : Qu := QT G R tn (-1)
theorem QB_ok {G : Gm} (hG : GOK G) {R : List Int} (hV : VR G R) (tn : Int → Bool) : QOK G (QB G R tn) := (QT_QR hG hV tn (-1)).1
theorem frw_self {G : Gm} {c : List Int} {n : Nat} {st : Int} (h : c.length = n) : frw G n st c = [c] := by
  rw [frw_pre c n st (by omega), show n - c.length = 0 by omega]
  show [c ++ []] = [c]
  rw [List.append_nil]
theorem BkT_0 {G : Gm} {R : List Int} {tn : Int → Bool} {f : Nat} (hf : (f : Int) = G.1 1) {o : Ow} (hw : ((spl G R).1.length : Int) = G.1 1) : Bk G (QB G R tn) 0 f o = if tn (G.1 1) then (frw G (cnt o).toNat (G.1 0) []).map (gf o) else if cnt o = (spl G R).2.length then [gf o (spl G R).2] else [] := by
  have efra : fra (spl G R) (G.1 1) = (spl G R).2 := by
    unfold fra
    have := hw
    rw [if_neg (by omega), if_neg (by omega), if_pos hw.symm]
  unfold Bk KS QB QT
  dsimp only
  rw [if_neg (by omega)]
  by_cases ht : tn (G.1 1) = true
  · simp only [ht, Bool.not_true, Bool.false_eq_true, false_and, if_false, if_true, List.map_map]
    rfl
  · have hf : tn (G.1 1) = false := by simpa using ht
    simp only [hf, Bool.not_false, true_and, if_false, if_true, efra, Bool.false_eq_true]
    by_cases c : cnt o = (spl G R).2.length
    · rw [if_neg (fun z => z c), if_pos c, frw_self (by omega)]
      rfl
    · rw [if_pos c, if_neg c]
      rfl
theorem BkT_S {G : Gm} (hG : GOK G) {R : List Int} (hV : VR G R) {tn : Int → Bool} {n f : Nat} (hf : (f : Int) < G.1 1) {o : Ow} (hw : ((spl G R).1.length : Int) = G.1 1) : Bk G (QB G R tn) (n + 1) f o = (if tn f then frow (G.1 2).toNat (G.1 0) [] else [fra (spl G R) f]).flatMap (fun F => (Bk G (QB G R tn) n (f + 1) (fo G f o F).1).map (fun b => (fo G f o F).2 + b)) := by
  have hFO := fra_FO (hV.ok hG) (f := f) (by omega) (by omega)
  rw [Bk, KS, if_pos hf, List.flatMap_map]
  show (frow (G.1 2).toNat (G.1 0) (if tn f then [] else fra (spl G R) f)).flatMap _ = _
  cases ht : tn f with
  | true => rfl
  | false =>
    rw [if_neg (show ¬ false = true by decide), if_neg (show ¬ false = true by decide), hFO.ful hG]
theorem TRx_tr {t f : Int} {o : Ow} {L : List Int} (hl : L.length ≤ 100000) {μ : Mm} (h : TRx t (bas f (enc o)) L μ) : TR t f o L μ := fun s s0 s1 => by
  have h1 := h s s0 s1
  rw [bas_cel] at h1
  have h2 := cB_len L s
  rw [h1, mn_small (by omega)]
theorem gf_take {o : Ow} {r : List Int} {k : Nat} (hk : k < r.length) : gf o (r.take (k + 1)) = gf o (r.take k) + tk (r.getD k 0) * (ltn k o).1 := by
  rw [List.take_succ_eq_append_getElem hk, gf_app, List.length_take, Nat.min_eq_left (by omega), List.getD_eq_getElem?_getD, List.getElem?_eq_getElem hk]
  show _ + (tk r[k] * (ltn k o).1 + 0) = _
  rw [Int.add_zero]
  rfl
theorem fit_80 {N : Nat} {G : Gm} (hG : GOK G) {R : List Int} (hV : VR G R) (hw : ((spl G R).1.length : Int) = G.1 1) {o : Ow} (ho : OwOK o) {μ : Mm} (hK : KR μ) (hM : GM G μ) (hR : RM R μ) (hT : TRx 96 (bas (G.1 1) (enc o)) [] μ) : ∀ (k n i : Nat), i + k = (spl G R).2.length → k < n → ∃ μ', jX8_fitsFills_80 N n 50 (enc o) (gf o ((spl G R).2.take i)) (enc (ltn i o)) (lens (spl G R).1 + i) μ = some μ' ∧ TRx 96 (bas (G.1 1) (enc o)) [gf o (spl G R).2] μ' ∧ oRx 96 (bas (G.1 1) (enc o)) μ μ'
  | k, 0, i, hi, hn => absurd hn (by omega)
  | 0, n + 1, i, hi, hn => by
    have h8 := hG.2.1
    have hl := spl_len G R
    have he := enc_ok ho
    have hrk := (hV.ok hG).2.2.1
    have hgf := gf_ok (spl G R).2 o ho hrk
    have hs0 := sm_ok ho
    have hs1 := sm_ok (ho.ltn (spl G R).2.length)
    have hold := hT (gf o (spl G R).2) (by omega) (by omega)
    rw [cB_nil] at hold
    refine ⟨m_st μ 96 (bas (G.1 1) (enc o) + gf o (spl G R).2) 1, ?_, ?_, ⟨Fr.stI (Fr.rf0 _ _ _) (by simp), fun j hj => gt_i _ _ _ (by omega) _⟩⟩
    · show jX8_fitsFills_80b (jX8_fitsFills_80 N n) N 50 (enc o) _ _ _ μ = _
      unfold jX8_fitsFills_80b
      rw [hR.1, if_pos (by omega), List.take_of_length_le (by omega), r_50_32 hK, ald_e (k_75 hK) (by decide) (by decide), ob_e, hM.1.2.1, cell_M ho (by omega) (by omega), b2_e, r_50_71 hK, ← bas_cel, ald_e (k_96 hK) (by unfold bas; omega) (by unfold bas; omega), ob_e, hold, ast_e (k_96 hK) (by unfold bas; omega) (by unfold bas; omega), ob_e]
      rfl
    · intro s s0 s1
      by_cases z : s = gf o (spl G R).2
      · rw [z, gt_same]
        have : cB [gf o (spl G R).2] (gf o (spl G R).2) = 1 := by unfold cB; simp
        rw [this]
        rfl
      · rw [gt_i _ _ _ (by omega), hT s s0 s1, cB_nil, cB_no (fun b hb q => z (by rw [List.mem_singleton.mp hb] at q; exact q.symm))]
  | k + 1, n + 1, i, hi, hn => by
    have h8 := hG.2.1
    have hl := spl_len G R
    have hO := hV.ok hG
    have hrk := hO.2.2.1
    have hl27 := R_len hG hV
    have hil : i < (spl G R).2.length := by omega
    have efra : fra (spl G R) (G.1 1) = (spl G R).2 := by
      unfold fra
      have := hw
      rw [if_neg (by omega), if_neg (by omega), if_pos hw.symm]
    have efR : fR (spl G R) (G.1 1) = lens (spl G R).1 := by
      unfold fR
      rw [if_neg (by omega), List.take_of_length_le (by omega)]
    have hu := fra_rA hG hV (f := G.1 1) (by omega) (u := i) (by rw [efra]; exact hil)
    rw [efra, efR] at hu
    have hn0 : 0 ≤ lens (spl G R).1 := by unfold lens; omega
    unfold rA at hu
    rw [if_pos (by omega)] at hu
    have e89 : m_gt μ 89 (lens (spl G R).1 + i) = (spl G R).2.getD i 0 := by
      rw [hR.2.at (by omega) (by omega), Int.sub_zero]
      exact hu
    have hoi := ho.ltn i
    have hoi' := hoi
    unfold OwOK at hoi'
    have htk := tk_ok (hrk _ (show (spl G R).2.getD i 0 ∈ (spl G R).2 by rw [List.getD_eq_getElem?_getD, List.getElem?_eq_getElem hil]; exact List.getElem_mem hil))
    have hgf := gf_ok ((spl G R).2.take i) o ho (fun x hx => hrk x (List.mem_of_mem_take hx))
    have hs0 := sm_ok ho
    have hs1 := sm_ok (ho.ltn ((spl G R).2.take i).length)
    have hm0 : 0 ≤ tk ((spl G R).2.getD i 0) * (ltn i o).1 := Int.mul_nonneg htk.1 (by omega)
    have hm1 : tk ((spl G R).2.getD i 0) * (ltn i o).1 ≤ 9 * 3 := Int.mul_le_mul htk.2 (by omega) (by omega) (by omega)
    obtain ⟨μ', r1, r2, r3⟩ := fit_80 (N := N) hG hV hw ho hK hM hR hT k n (i + 1) (by omega) (by omega)
    refine ⟨μ', ?_, r2, r3⟩
    rw [← r1]
    show jX8_fitsFills_80b (jX8_fitsFills_80 N n) N 50 (enc o) _ _ _ μ = _
    unfold jX8_fitsFills_80b
    rw [hR.1, if_neg (by omega), r_50_59 hK, ald_e (k_89 hK) (by omega) (by omega), ob_e, e89, taken_M, b2_e, oneOf_M hoi, b2_e, bnd_e, later_M hoi, b2_e, bnd_e, i_mul_e (by omega) (by omega), i_add_e (by omega) (by omega), i_add_e (by omega) (by omega), ← gf_take hil, ← ltn_snoc, show lens (spl G R).1 + (i : Int) + 1 = lens (spl G R).1 + ((i + 1 : Nat) : Int) by omega]
theorem fitsFills_M {N : Nat} (hN : 1000000 ≤ N) {G : Gm} {R : List Int} {tn : Int → Bool} (hw : whole G (spl G R)) {o : Ow} (ho : OwOK o) {μ : Mm} (h : MC G R μ) (hG : GT G R μ) (ht : TnM tn μ) (hT : TRx 96 (bas (G.1 1) (enc o)) [] μ) : ∃ μ', jX8_fitsFills N 50 (enc o) μ = some μ' ∧ TR 96 (G.1 1) o (Bk G (QB G R tn) 0 (FT G) o) μ' ∧ oRx 96 (bas (G.1 1) (enc o)) μ μ' := by
  have gok := h.1.1
  have hO := h.1.2.ok gok
  have h8 := gok.2.1
  have he := enc_ok ho
  have hlen := hw.1
  have hcur : ((spl G R).2.length : Int) = cnt (owd G (spl G R).1) := by have := (hO.2.2.2.2 hlen).1; have := hw.2; omega
  have e67 : m_gt μ 50 67 = (spl G R).2.length := by rw [hG.2.2.2.2.1, if_pos hlen]; exact hcur.symm
  have hbk := BkT_0 (G := G) (R := R) (tn := tn) (f := FT G) (by unfold FT; omega) (o := o) hlen
  unfold jX8_fitsFills
  rw [r_50_32 h.2.1, ald_e (k_75 h.2.1) (by decide) (by decide), ob_e, h.2.2.1.1.2.1, isTorn_M ht (by omega) (by omega), b2_e]
  cases hc : tn (G.1 1) with
  | true =>
    rw [hc, if_pos rfl] at hbk
    obtain ⟨n3, μ', r1, r2, r3, r4⟩ := fillsAhead_x (N := N) hN gok (t := 96) (x := enc o) (Or.inr rfl) he h.2.1 h.2.2.1 hT
    refine ⟨μ', ?_, ?_, r4⟩
    · rw [if_neg (show ¬ (if true = true then (1 : Int) else 0) = 0 by decide), r_50_71 h.2.1, r1, ob_e]
    · rw [hbk]
      rw [r2 o ho rfl, fill_frw ho] at r3
      exact TRx_tr (by have := frw_small gok (o := o); omega) r3
  | false =>
    rw [hc, if_neg (by decide)] at hbk
    rw [if_pos (show (if false = true then (1 : Int) else 0) = 0 by decide)]
    have hx : enc o % 2 = o.2.2 ∧ enc o / 2 % 3 = o.2.1 := by
      have := ho
      unfold OwOK at this
      unfold enc
      omega
    have d2 : i_rem (i_div (enc o) 2) 3 = enc o / 2 % 3 := by rw [i_div_p (by omega) (by omega) (by omega) (by omega), i_rem_p (by omega) (by omega) (by omega) (by omega)]
    have d3 : i_rem (enc o) 2 = enc o % 2 := i_rem_p (by omega) (by omega) (by omega) (by omega)
    rw [d2, d3, hx.1, hx.2]
    clear d2 d3
    have go : ∃ μ', jX8_fitsFills_54 N 50 (enc o) (cnt o) μ = some μ' ∧ TR 96 (G.1 1) o (Bk G (QB G R tn) 0 (FT G) o) μ' ∧ oRx 96 (bas (G.1 1) (enc o)) μ μ' := by
      unfold jX8_fitsFills_54
      rw [e67, hbk]
      by_cases c : cnt o = (spl G R).2.length
      · rw [if_pos c, if_pos c, r_50_60 h.2.1, hG.2.1.1, ald_e (k_90 h.2.1) (by omega) (by omega), ob_e, hG.2.1.2.1]
        have hck := cnt_ok (o := o)
        obtain ⟨μ', r1, r2, r3⟩ := fit_80 (N := N) gok h.1.2 hlen ho h.2.1 h.2.2.1 h.2.2.2 hT (spl G R).2.length N 0 (by omega) (by omega)
        refine ⟨μ', ?_, TRx_tr (by simp) r2, r3⟩
        rw [List.take_zero] at r1
        rw [← r1]
        rw [show lens (spl G R).1 + ((0 : Nat) : Int) = lens (spl G R).1 by omega]
        rfl
      · rw [if_neg c, if_neg c]
        exact ⟨μ, rfl, TRx_tr (by simp) hT, oRx.rf _ _ _⟩
    have hoo := ho
    unfold OwOK at hoo
    rcases cnt_cs ho with z | z | z | z
    · rw [if_neg (not_not_intro (show enc o = 0 by unfold enc; omega))]
      rw [z.1] at go
      exact go
    · rw [if_pos (show ¬ enc o = 0 by unfold enc; omega), if_pos (by omega), if_pos (by omega)]
      rw [z.1] at go
      exact go
    · rw [if_pos (show ¬ enc o = 0 by unfold enc; omega), if_pos (by omega), if_neg (by omega)]
      rw [z.1] at go
      exact go
    · rw [if_pos (show ¬ enc o = 0 by unfold enc; omega), if_neg (by omega)]
      rw [z.1] at go
      exact go
