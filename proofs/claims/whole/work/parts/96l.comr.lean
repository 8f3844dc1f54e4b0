/-! ===== PURE: the rows of an open frame ===== -/
theorem c236_k {N : Nat} {k119 : Int → Int → Int → Int → Mm → Option Mm} {fi x w base : Int} : ∀ (n : Nat) (i : Int) (μ : Mm), jX8_tellsComing_236 k119 N n 50 fi x w base i μ = jX8_tellsComing_236 (fun _ _ _ _ => k119 50 fi x w) N n 50 fi x w base i μ
  | 0, _, _ => rfl
  | n + 1, i, μ => by
    show jX8_tellsComing_236b k119 (jX8_tellsComing_236 k119 N n) N 50 fi x w base i μ = jX8_tellsComing_236b (fun _ _ _ _ => k119 50 fi x w) (jX8_tellsComing_236 (fun _ _ _ _ => k119 50 fi x w) N n) N 50 fi x w base i μ
    have ih := c236_k (N := N) (k119 := k119) (fi := fi) (x := x) (w := w) (base := base) n
    unfold jX8_tellsComing_236b jX8_tellsComing_313
    simp only [ih]
theorem c173_k {N : Nat} {k119 : Int → Int → Int → Int → Mm → Option Mm} {fi x w : Int} (μ : Mm) : jX8_tellsComing_173 k119 N 50 fi x w μ = jX8_tellsComing_173 (fun _ _ _ _ => k119 50 fi x w) N 50 fi x w μ := by
  unfold jX8_tellsComing_173
  simp only [c236_k (k119 := k119)]
theorem fm_snoc {α β : Type} (f : α → List β) (l : List α) (a : α) : (l ++ [a]).flatMap f = l.flatMap f ++ f a := by rw [List.flatMap_append, List.flatMap_cons, List.flatMap_nil, List.append_nil]
theorem com_rows {N : Nat} (hN : 1000000 ≤ N) {G : Gm} (hG : GOK G) {fi w : Int} {c : List Int} {f : Nat} (hf : (f : Int) < G.1 1) {o : Ow} (ho : OwOK o) (hc : rok c) (hcl : (c.length : Int) < G.1 2) (hcd : dn c < G.1 0) (hw : -500 ≤ w ∧ w ≤ 490) {B : Ow → List Int} (hB : ∀ o', OwOK o' → ∀ b ∈ B o', -400 ≤ b ∧ b ≤ 500) {μ : Mm} (hK : KR μ) (hM : GM G μ) (h65 : m_gt μ 50 65 = f) (h91 : m_gt μ 91 f = c.length) (h93 : m_gt μ 93 f = dn c) (h94 : m_gt μ 94 f = fls c) (hT : ∀ o', OwOK o' → TR 95 (f + 1 : Int) o' (B o') μ) (hZ : CO [] μ) : ∃ μ', jX8_tellsComing_114 N 50 fi (enc o) w μ = some μ' ∧ CO ((dsc (G.1 2 - c.length).toNat (G.1 0 - dn c)).flatMap (rowC G fi f w o c B)) μ' ∧ Fr comI opS μ μ' := by
  have hp := hG.1
  have h8 := hG.2.1
  have hrl := hG.2.2.1
  have hd0 := dn_nn hc
  let Inv : List (List Int) → Mm → Prop := fun V μ1 => Fr comI opS μ μ1 ∧ CO (V.flatMap (rowC G fi f w o c B)) μ1
  have hI : ∀ V μ1, Inv V μ1 → KR μ1 ∧ GM G μ1 ∧ (∀ o', OwOK o' → TR 95 (f + 1 : Int) o' (B o') μ1) ∧ m_gt μ1 50 65 = f ∧ m_gt μ1 91 f = c.length ∧ m_gt μ1 93 f = dn c ∧ m_gt μ1 94 f = fls c := fun V μ1 h => ⟨h.1.KR hK (by decide), hM.ag (h.1.ag (by decide)), fun o' ho' s s0 s1 => by rw [h.1.2.2 95 _ (by decide) (by simp [opS, pfs])]; exact hT o' ho' s s0 s1, by rw [h.1.2.2 50 65 (by decide) (by decide)]; exact h65, by rw [h.1.2.2 91 _ (by decide) (by simp [opS, pfs])]; exact h91, by rw [h.1.2.2 93 _ (by decide) (by simp [opS, pfs])]; exact h93, by rw [h.1.2.2 94 _ (by decide) (by simp [opS, pfs])]; exact h94⟩
  have H : RLp N (G.1 0 - dn c) (G.1 2 - c.length).toNat (fun n μ => jX8_tellsComing_119 N n 50 fi (enc o) w μ) (fun μ => some μ) (fun K μ1 => if fi = -1 then jX8_tellsComing_173 (fun _ _ _ _ => K) N 50 fi (enc o) w μ1 else ((m_ald 100 μ1 (m_gt μ1 50 73) 0).bind fun x6 => if ¬ x6 = fi then K μ1 else jX8_tellsComing_173 (fun _ _ _ _ => K) N 50 fi (enc o) w μ1)) Inv := by
    refine ⟨fun n V μ1 h => ?_, fun V μ1 h => (hI V μ1 h).1, fun V μ1 μ2 h g => ?_, fun K V r μ1 hne hrv h hR => ?_⟩
    · obtain ⟨K1, M1, _, q65, q91, q93, q94⟩ := hI V μ1 h
      show jX8_tellsComing_119b (jX8_tellsComing_119 N n) N 50 fi (enc o) w μ1 = _
      unfold jX8_tellsComing_119b
      rw [r_50_31 K1, ald_e (k_74 K1) (by decide) (by decide), ob_e, M1.1.1, r_50_63 K1, q65, ald_e (k_93 K1) (by omega) (by omega), ob_e, q93, r_50_33 K1, ald_e (k_76 K1) (by decide) (by decide), ob_e, M1.1.2.2.1, r_50_61 K1, ald_e (k_91 K1) (by omega) (by omega), ob_e, q91, i_sub_e (by omega) (by omega), i_sub_e (by omega) (by omega), show (((G.1 2 - c.length).toNat : Nat) : Int) = G.1 2 - c.length by omega]
      simp only [c173_k (k119 := jX8_tellsComing_119 N n)]
    · have gt : ∀ j, m_gt μ2 98 j = m_gt μ1 98 j := fun j => g.2.2 98 j (by decide) (by simp)
      exact ⟨h.1.trI (g.mono (by simp [comI]) (by simp [opS])), fun j j0 j1 => by rw [gt]; exact h.2 j j0 j1⟩
    · obtain ⟨K1, M1, T1, q65, q91, q93, q94⟩ := hI V μ1 h
      obtain ⟨d1, d2, d3⟩ := dn_lsum hrv.1
      have v2 := hrv.2.1
      have v3 := hrv.2.2
      have l0 := lsum_nn hrv.1
      have hr1 : 1 ≤ r.length := by cases r with | nil => exact absurd rfl hne | cons _ _ => simp
      have e97 : m_gt μ1 97 0 = r.getD 0 0 := hR.2 0 (by omega)
      have c73 : ∀ y : Int → Option Mm, ((m_ald 100 μ1 (m_gt μ1 50 73) 0).bind y) = y (r.getD 0 0) := by
        intro y
        rw [r_50_73 K1, ald_e (k_97 K1) (by decide) (by decide), ob_e, e97]
      have e173 : (fi = -1 ∨ r.getD 0 0 = fi) → ∃ μ', jX8_tellsComing_173 (fun _ _ _ _ => K) N 50 fi (enc o) w μ1 = K μ' ∧ Inv (V ++ [r]) μ' ∧ ROW r μ' := by
        intro hsel
        obtain ⟨x, μ2, e1, e2, e3, e4⟩ := ends_M (N := N) hN hG (f := f) (by omega) ho (c := c) (r := r) hc d3 (by omega) hne (by omega) K1 M1 hR
        have hcm : cmpl G c r ↔ (dn c + lsum r = G.1 0 ∨ (c.length : Int) + r.length = G.1 2) := by
          unfold cmpl
          rw [d1]
          omega
        unfold jX8_tellsComing_173
        rw [q65, r_50_61 K1, ald_e (k_91 K1) (by omega) (by omega), ob_e, q91, r_50_63 K1, ald_e (k_93 K1) (by omega) (by omega), ob_e, q93, r_50_64 K1, ald_e (k_94 K1) (by omega) (by omega), ob_e, q94, e1, b2_e]
        by_cases cc : cmpl G c r
        · obtain ⟨y1, y2, y3⟩ := e2 cc
          have K2 : KR μ2 := e4.KR K1 (by decide)
          have hlo := lvg_ok (G := G) ho (c := c) hne
          have hbr := brg_ok hG (f := f) ho (c := c) d3 (by omega) hd0 (by omega)
          have T2 : TR 95 (f + 1 : Int) (lvg G o c r) (B (lvg G o c r)) μ2 := fun s s0 s1 => by rw [e4.2.2 95 _ (by decide) (by simp [pfs])]; exact T1 _ hlo s s0 s1
          have z65 : m_gt μ2 50 65 = f := by rw [e4.2.2 50 65 (by decide) (by decide)]; exact q65
          have C2 : CO (V.flatMap (rowC G fi f w o c B)) μ2 := fun j j0 j1 => by rw [e4.2.2 98 _ (by decide) (by simp [pfs])]; exact h.2 j j0 j1
          obtain ⟨μ3, g1, g2, g3⟩ := com_loop (N := N) (fi := fi) (x := enc o) (w := w) (f := f) (g := brg G f o c r) hlo (by omega) (A := V.flatMap (rowC G fi f w o c B)) (by omega) hbr (fun b hb => by have := hB _ hlo b hb; omega) (k119 := fun _ _ _ _ => K) 1060 N 0 (μ := μ2) (by omega) (by omega) K2 y2 T2 (fun j j0 j1 => by
            rw [C2 j j0 j1]
            by_cases q : j - 1060 - (w + brg G f o c r) < ((0 : Nat) : Int) - 460
            · rw [if_pos q, cB_no (L := B (lvg G o c r)) (fun b hb z => by have := hB _ hlo b hb; omega)]
              rfl
            · rw [if_neg q]
              rfl)
          refine ⟨μ3, ?_, ⟨?_, ?_⟩, ?_⟩
          · rw [if_pos (by omega), z65, y3, i_add_e (by omega) (by omega), cell_M hlo (by omega) (by decide), b2_e]
            exact g1
          · exact h.1.trI ((e4.mono (by simp [comI]) (fun q hq => Or.inl (by
              unfold opS
              rcases List.mem_append.mp hq with z | z
              · exact List.mem_append.mpr (Or.inl z)
              · refine List.mem_append.mpr (Or.inr ?_)
                simp at z ⊢
                rcases z with z | z <;> simp [z]))).trI (g3.mono (by simp [comI]) (by simp)))
          · rw [fm_snoc]
            have : rowC G fi f w o c B r = (B (lvg G o c r)).map (fun b => (w + brg G f o c r) + b) := by
              unfold rowC
              rw [if_pos ⟨hcm.mp cc, hsel⟩]
            rw [this]
            exact g2
          · refine ⟨?_, ?_⟩
            · rw [g3.2.2 50 74 (by decide) (by simp), e4.2.2 50 74 (by decide) (by decide)]; exact hR.1
            · exact hR.2.ext (fun i => by rw [g3.2.2 97 i (by decide) (by simp), e4.2.2 97 i (by decide) (by simp [pfs])])
        · obtain ⟨y1, y2⟩ := e3 cc
          rw [if_neg (not_not_intro y1), y2]
          refine ⟨μ1, rfl, ⟨h.1, ?_⟩, hR⟩
          rw [fm_snoc]
          have : rowC G fi f w o c B r = [] := by
            unfold rowC
            rw [if_neg (fun q => cc (hcm.mpr q.1))]
          rw [this, List.append_nil]
          exact h.2
      dsimp only
      by_cases z1 : fi = -1
      · rw [if_pos z1]
        exact e173 (Or.inl z1)
      · rw [if_neg z1, c73]
        by_cases z2 : r.getD 0 0 = fi
        · rw [if_neg (not_not_intro z2)]
          exact e173 (Or.inr z2)
        · rw [if_pos z2]
          refine ⟨μ1, rfl, ⟨h.1, ?_⟩, hR⟩
          rw [fm_snoc]
          have : rowC G fi f w o c B r = [] := by
            unfold rowC
            rw [if_neg (fun q => by rcases q.2 with q | q; exact z1 q; exact z2 q)]
          rw [this, List.append_nil]
          exact h.2
  have f0 : Fr comI opS μ (m_st μ 50 74 0) := Fr.stI (Fr.rf0 _ _ _) (by simp [opS])
  have I0 : Inv [] (m_st μ 50 74 0) := ⟨f0, fun j j0 j1 => by rw [gt_r _ _ _ _ (by decide)]; exact hZ j j0 j1⟩
  obtain ⟨μ', r1, r2⟩ := rows_M hN (by omega) (by omega) (by omega) H I0 ⟨gt_same _ _ _ _, Row.nil _ _ _⟩
  refine ⟨μ', ?_, r2.2, r2.1⟩
  unfold jX8_tellsComing_114
  rw [bnd_e]
  exact r1
