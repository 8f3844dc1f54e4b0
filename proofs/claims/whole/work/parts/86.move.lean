/-! ===== PURE: a group of ways moved ===== -/
def Eqv (A B : List Wy) : Prop := ∀ P : Wy → Bool, A.countP P = B.countP P
theorem Eqv.rf (A : List Wy) : Eqv A A := fun _ => rfl
theorem Eqv.sy {A B : List Wy} (h : Eqv A B) : Eqv B A := fun P => (h P).symm
theorem Eqv.tr {A B C : List Wy} (h : Eqv A B) (g : Eqv B C) : Eqv A C := fun P => (h P).trans (g P)
theorem Eqv.app {A B A' B' : List Wy} (h : Eqv A A') (g : Eqv B B') : Eqv (A ++ B) (A' ++ B') := fun P => by rw [List.countP_append, List.countP_append, h P, g P]
theorem Eqv.mem {A B : List Wy} (h : Eqv A B) {w : Wy} : w ∈ A ↔ w ∈ B := by
  have key : ∀ A : List Wy, w ∈ A ↔ 0 < A.countP (fun v => decide (v = w)) := by
    intro A
    rw [List.countP_pos_iff]
    exact ⟨fun hw => ⟨w, hw, decide_eq_true rfl⟩, fun ⟨v, hv, e⟩ => by rw [← of_decide_eq_true e]; exact hv⟩
  rw [key A, key B, h]
theorem SpR.eqv {b : Bool} {A B : List Wy} {p c : Int} {μ : Mm} (e : Eqv A B) (h : SpR b A p c μ) : SpR b B p c μ := by
  refine ⟨fun o ho t t0 t1 => ?_, fun o ho => ?_⟩
  · have := h.1 o ho t t0 t1
    unfold RV at this ⊢
    have e1 : cT B o (t - 400) = cT A o (t - 400) := (e _).symm
    have e2 : ∀ x, cMk B o (t - 400) x = cMk A o (t - 400) x := fun x => (e _).symm
    rw [e1]
    simp only [e2]
    exact this
  · rcases h.2 o ho with ⟨⟨w0, m0, q0⟩, ⟨w1, m1, q1⟩, ⟨w2, m2, q2⟩, hb⟩ | ⟨hn, q⟩
    · exact Or.inl ⟨⟨w0, e.mem.mp m0, q0⟩, ⟨w1, e.mem.mp m1, q1⟩, ⟨w2, e.mem.mp m2, q2⟩, fun w hw => hb w (e.mem.mpr hw)⟩
    · exact Or.inr ⟨fun w hw => hn w (e.mem.mpr hw), q⟩
def kx (k : Wy) : Int × Int := (si k.1 * 107 + k.2.1 + 50, k.2.2)
def kfi (kf : List Wy) (i : Int) : List Wy := kf.filter (fun k => decide ((kx k).1 = i))
def CG (Q : Qu) (f : Int) (L : List Wy) (o : Ow) (ki : List Wy) : List Wy := (L.filter (fun w => decide (w.1 = o))).flatMap (fun w => ki.map (nxt Q f w))
theorem CG_cons (Q : Qu) (f : Int) (w : Wy) (L : List Wy) (o : Ow) (ki : List Wy) : CG Q f (w :: L) o ki = (if w.1 = o then ki.map (nxt Q f w) else []) ++ CG Q f L o ki := by
  unfold CG
  by_cases c : w.1 = o
  · rw [List.filter_cons_of_pos (by simpa using c), List.flatMap_cons, if_pos c]
  · rw [List.filter_cons_of_neg (by simpa using c), if_neg c, List.nil_append]
theorem mem_CG {Q : Qu} {f : Int} {L : List Wy} {o : Ow} {ki : List Wy} {v : Wy} : v ∈ CG Q f L o ki ↔ ∃ w ∈ L, w.1 = o ∧ ∃ k ∈ ki, nxt Q f w k = v := by
  unfold CG
  rw [List.mem_flatMap]
  constructor
  · rintro ⟨w, hw, hm⟩
    obtain ⟨k, hk, e⟩ := List.mem_map.mp hm
    have := List.mem_filter.mp hw
    exact ⟨w, this.1, by simpa using this.2, k, hk, e⟩
  · rintro ⟨w, hw, e, k, hk, e2⟩
    exact ⟨w, List.mem_filter.mpr ⟨hw, by simpa using e⟩, List.mem_map.mpr ⟨k, hk, e2⟩⟩
theorem CG_app (Q : Qu) (f : Int) (o : Ow) (A B : List Wy) : ∀ L : List Wy, Eqv (CG Q f L o (A ++ B)) (CG Q f L o A ++ CG Q f L o B)
  | [] => fun P => rfl
  | w :: L => fun P => by
    have ih := CG_app Q f o A B L P
    rw [List.countP_append] at ih
    rw [CG_cons, CG_cons, CG_cons, List.countP_append, List.countP_append, List.countP_append, List.countP_append, ih]
    split
    · rw [List.map_append, List.countP_append]; omega
    · simp
theorem CG_eqv {Q : Qu} {f : Int} {o : Ow} {A B : List Wy} (h : Eqv A B) : ∀ L : List Wy, Eqv (CG Q f L o A) (CG Q f L o B)
  | [] => fun P => rfl
  | w :: L => fun P => by
    rw [CG_cons, CG_cons, List.countP_append, List.countP_append, CG_eqv h L P]
    split
    · rw [List.countP_map, List.countP_map, h]
    · rfl
theorem part_countP {kf : List Wy} (P : Wy → Bool) : ∀ D : List Int, D.Nodup → (D.flatMap (kfi kf)).countP P = kf.countP (fun k => P k && decide ((kx k).1 ∈ D))
  | [], _ => by
    rw [List.flatMap_nil, List.countP_nil]
    symm
    rw [List.countP_eq_zero]
    intro k _
    simp
  | i :: D, hD => by
    rw [List.nodup_cons] at hD
    rw [List.flatMap_cons, List.countP_append, part_countP P D hD.2]
    unfold kfi
    rw [List.countP_filter]
    have key : ∀ kf : List Wy, kf.countP (fun k => P k && decide ((kx k).1 = i)) + kf.countP (fun k => P k && decide ((kx k).1 ∈ D)) = kf.countP (fun k => P k && decide ((kx k).1 ∈ i :: D)) := by
      intro kf
      induction kf with
      | nil => rfl
      | cons k kf ih =>
        rw [List.countP_cons, List.countP_cons, List.countP_cons, ← ih]
        by_cases c1 : (kx k).1 = i
        · have c2 : ¬ (kx k).1 ∈ D := fun z => hD.1 (by rw [← c1]; exact z)
          have c3 : (kx k).1 ∈ i :: D := by rw [c1]; simp
          rw [decide_eq_true c1, decide_eq_false c2, decide_eq_true c3]
          cases P k <;> simp <;> omega
        · by_cases c2 : (kx k).1 ∈ D
          · have c3 : (kx k).1 ∈ i :: D := List.mem_cons_of_mem _ c2
            rw [decide_eq_false c1, decide_eq_true c2, decide_eq_true c3]
            cases P k <;> simp <;> omega
          · have c3 : ¬ (kx k).1 ∈ i :: D := by simp [c1, c2]
            rw [decide_eq_false c1, decide_eq_false c2, decide_eq_false c3]
            cases P k <;> simp
    exact key kf
theorem part_eqv {kf : List Wy} {D : List Int} (hD : D.Nodup) (hc : ∀ k ∈ kf, (kx k).1 ∈ D) : Eqv (D.flatMap (kfi kf)) kf := fun P => by
  rw [part_countP P D hD]
  apply List.countP_congr
  intro k hk
  rw [decide_eq_true (hc k hk), Bool.and_true]
theorem nk_kfi (kf : List Wy) (i : Int) : nk (kf.map kx) i = (kfi kf i).length := by
  unfold nk kfi
  rw [List.countP_map, ← List.countP_eq_length_filter]
  rfl
theorem nkx_kfi (kf : List Wy) (i : Int) (x : Nat) : nkx (kf.map kx) i x = (kfi kf i).countP (fun k => decide (k.2.2 = (x : Int))) := by
  unfold nkx kfi
  rw [List.countP_map, List.countP_filter]
  apply List.countP_congr
  intro k _
  show (decide ((kx k).1 = i) && decide ((kx k).2 = (x : Int))) = true ↔ _
  rw [Bool.and_comm]
  rfl
theorem cnt_all {α : Type} {P : α → Bool} {l : List α} {b : Bool} (h : ∀ a ∈ l, P a = b) : l.countP P = if b then l.length else 0 := by
  cases b with
  | true => rw [if_pos rfl, List.countP_eq_length]; exact h
  | false => rw [if_neg (by decide), List.countP_eq_zero]; exact fun a ha => by rw [h a ha]; decide
theorem cT_CG {Q : Qu} {f : Int} {o o' : Ow} {g : Int} {ki : List Wy} (hk : ∀ k ∈ ki, k.1 = o' ∧ k.2.1 = g) (r : Ow) (s : Int) : ∀ L : List Wy, cT (CG Q f L o ki) r s = if r = o' then cT L o (s - g) * ki.length else 0
  | [] => by
    have : cT (CG Q f [] o ki) r s = 0 := rfl
    have h2 : cT ([] : List Wy) o (s - g) = 0 := rfl
    rw [this, h2]
    simp
  | w :: L => by
    have ih := cT_CG (Q := Q) (f := f) (o := o) hk r s L
    unfold cT at ih ⊢
    rw [CG_cons, List.countP_append, ih, List.countP_cons]
    by_cases c : w.1 = o
    · rw [if_pos c, List.countP_map]
      have hb : ∀ k ∈ ki, ((fun v : Wy => decide (v.1 = r ∧ v.2.1 = s)) ∘ nxt Q f w) k = decide (r = o' ∧ w.2.1 = s - g) := by
        intro k hk'
        obtain ⟨h1, h2⟩ := hk k hk'
        show decide (k.1 = r ∧ w.2.1 + k.2.1 = s) = _
        rw [h1, h2]
        congr 1
        apply propext
        constructor
        · rintro ⟨a, b⟩; exact ⟨a.symm, by omega⟩
        · rintro ⟨a, b⟩; exact ⟨a.symm, by omega⟩
      rw [cnt_all hb]
      by_cases c1 : r = o'
      · rw [if_pos c1, if_pos c1]
        by_cases c2 : w.2.1 = s - g
        · rw [decide_eq_true ⟨c1, c2⟩, decide_eq_true ⟨c, c2⟩, if_pos rfl, if_pos rfl, Nat.add_mul, Nat.one_mul, Nat.add_comm]
        · rw [decide_eq_false (fun z => c2 z.2), decide_eq_false (fun z => c2 z.2), if_neg (by decide), if_neg (by decide), Nat.zero_add, Nat.add_zero]
      · rw [if_neg c1, if_neg c1, decide_eq_false (fun z => c1 z.1), if_neg (by decide)]
    · rw [if_neg c, decide_eq_false (fun z => c z.1), if_neg (show ¬ (false = true) by decide), List.countP_nil, Nat.zero_add, Nat.add_zero]
theorem cM_CGm {Q : Qu} {f : Int} (hf : f = Q.2.2.1) {o o' : Ow} {g : Int} {ki : List Wy} (hk : ∀ k ∈ ki, k.1 = o' ∧ k.2.1 = g) (r : Ow) (s : Int) (x : Nat) : ∀ L : List Wy, cMk (CG Q f L o ki) r s x = if r = o' then cT L o (s - g) * ki.countP (fun k => decide (k.2.2 = (x : Int))) else 0
  | [] => by
    have : cMk (CG Q f [] o ki) r s x = 0 := rfl
    have h2 : cT ([] : List Wy) o (s - g) = 0 := rfl
    rw [this, h2]
    simp
  | w :: L => by
    have ih := cM_CGm hf (o := o) hk r s x L
    unfold cMk cT at *
    rw [CG_cons, List.countP_append, ih, List.countP_cons]
    by_cases c : w.1 = o
    · rw [if_pos c, List.countP_map]
      have hb : ki.countP ((fun v : Wy => decide (v.1 = r ∧ v.2.1 = s ∧ v.2.2 = (x : Int))) ∘ nxt Q f w) = ki.countP (fun k => decide (k.2.2 = (x : Int)) && decide (r = o' ∧ w.2.1 = s - g)) := by
        apply List.countP_congr
        intro k hk'
        obtain ⟨h1, h2⟩ := hk k hk'
        show decide (k.1 = r ∧ w.2.1 + k.2.1 = s ∧ (if f = Q.2.2.1 then k.2.2 else w.2.2) = (x : Int)) = true ↔ _
        rw [h1, h2, if_pos hf, Bool.and_eq_true, decide_eq_true_eq, decide_eq_true_eq, decide_eq_true_eq]
        constructor
        · rintro ⟨a, b, d⟩; exact ⟨d, a.symm, by omega⟩
        · rintro ⟨d, a, b⟩; exact ⟨a.symm, by omega, d⟩
      rw [hb]
      by_cases c1 : r = o'
      · rw [if_pos c1, if_pos c1]
        by_cases c2 : w.2.1 = s - g
        · rw [decide_eq_true (show r = o' ∧ w.2.1 = s - g from ⟨c1, c2⟩), decide_eq_true (show w.1 = o ∧ w.2.1 = s - g from ⟨c, c2⟩), if_pos rfl, Nat.add_mul, Nat.one_mul, Nat.add_comm]
          simp
        · rw [decide_eq_false (show ¬ (r = o' ∧ w.2.1 = s - g) from fun z => c2 z.2), decide_eq_false (show ¬ (w.1 = o ∧ w.2.1 = s - g) from fun z => c2 z.2), if_neg (by decide)]
          simp
      · rw [if_neg c1, if_neg c1, decide_eq_false (show ¬ (r = o' ∧ w.2.1 = s - g) from fun z => c1 z.1)]
        simp
    · rw [if_neg c, decide_eq_false (fun z => c z.1), if_neg (show ¬ (false = true) by decide), List.countP_nil, Nat.zero_add, Nat.add_zero]
theorem cM_CGu {Q : Qu} {f : Int} (hf : ¬ f = Q.2.2.1) {o o' : Ow} {g : Int} {ki : List Wy} (hk : ∀ k ∈ ki, k.1 = o' ∧ k.2.1 = g) (r : Ow) (s : Int) (x : Nat) : ∀ L : List Wy, cMk (CG Q f L o ki) r s x = if r = o' then cMk L o (s - g) x * ki.length else 0
  | [] => by
    have : cMk (CG Q f [] o ki) r s x = 0 := rfl
    have h2 : cMk ([] : List Wy) o (s - g) x = 0 := rfl
    rw [this, h2]
    simp
  | w :: L => by
    have ih := cM_CGu hf (o := o) hk r s x L
    unfold cMk at *
    rw [CG_cons, List.countP_append, ih, List.countP_cons]
    by_cases c : w.1 = o
    · rw [if_pos c, List.countP_map]
      have hb : ∀ k ∈ ki, ((fun v : Wy => decide (v.1 = r ∧ v.2.1 = s ∧ v.2.2 = (x : Int))) ∘ nxt Q f w) k = decide (r = o' ∧ w.2.1 = s - g ∧ w.2.2 = (x : Int)) := by
        intro k hk'
        obtain ⟨h1, h2⟩ := hk k hk'
        show decide (k.1 = r ∧ w.2.1 + k.2.1 = s ∧ (if f = Q.2.2.1 then k.2.2 else w.2.2) = (x : Int)) = _
        rw [h1, h2, if_neg hf]
        congr 1
        apply propext
        constructor
        · rintro ⟨a, b, d⟩; exact ⟨a.symm, by omega, d⟩
        · rintro ⟨a, b, d⟩; exact ⟨a.symm, by omega, d⟩
      rw [cnt_all hb]
      by_cases c1 : r = o'
      · rw [if_pos c1, if_pos c1]
        by_cases c2 : w.2.1 = s - g ∧ w.2.2 = (x : Int)
        · rw [decide_eq_true (show r = o' ∧ w.2.1 = s - g ∧ w.2.2 = (x : Int) from ⟨c1, c2⟩), decide_eq_true (show w.1 = o ∧ w.2.1 = s - g ∧ w.2.2 = (x : Int) from ⟨c, c2⟩), if_pos rfl, if_pos rfl, Nat.add_mul, Nat.one_mul, Nat.add_comm]
        · rw [decide_eq_false (show ¬ (r = o' ∧ w.2.1 = s - g ∧ w.2.2 = (x : Int)) from fun z => c2 z.2), decide_eq_false (show ¬ (w.1 = o ∧ w.2.1 = s - g ∧ w.2.2 = (x : Int)) from fun z => c2 z.2), if_neg (by decide), if_neg (by decide), Nat.zero_add, Nat.add_zero]
      · rw [if_neg c1, if_neg c1, decide_eq_false (show ¬ (r = o' ∧ w.2.1 = s - g ∧ w.2.2 = (x : Int)) from fun z => c1 z.1), if_neg (by decide)]
    · rw [if_neg c, decide_eq_false (fun z => c z.1), if_neg (show ¬ (false = true) by decide), List.countP_nil, Nat.zero_add, Nat.add_zero]
theorem sat_add {A B T : Nat} (hT : 1 ≤ T) : satA (mnI CM A) (mnI CM B) T = mnI CM ((A + B * T : Nat) : Int) := by
  have hCM : CM = 1000000000000000000 := rfl
  have hp : (T : Int) ≠ 0 := by omega
  have e0 : ((A + B * T : Nat) : Int) = (A : Int) + (B : Int) * (T : Int) := by rw [Int.natCast_add, Int.natCast_mul]
  have hBT : (B : Int) ≤ (B : Int) * (T : Int) := by
    have := Int.mul_le_mul_of_nonneg_left (show (1 : Int) ≤ (T : Int) by omega) (show (0 : Int) ≤ (B : Int) by omega)
    omega
  rw [e0]
  have hA : 0 ≤ mnI CM A ∧ mnI CM A ≤ CM ∧ mnI CM A ≤ A := by unfold mnI; split <;> omega
  have top : ∀ y : Int, CM ≤ y → mnI CM y = CM := fun y hy => if_neg (by omega)
  have h0X : 0 ≤ (B : Int) * (T : Int) := by omega
  unfold satA satm
  by_cases c : mnI CM B ≤ CM / T
  · rw [if_pos c]
    by_cases c2 : (B : Int) < CM
    · have e : mnI CM B = B := if_pos c2
      rw [e]
      generalize (B : Int) * (T : Int) = X at *
      by_cases c3 : (A : Int) < CM
      · have e3 : mnI CM A = A := if_pos c3
        rw [e3]
      · have e3 : mnI CM A = CM := if_neg c3
        rw [e3, top _ (by omega), top _ (by omega)]
    · have e : mnI CM B = CM := if_neg c2
      rw [e] at c ⊢
      have h3 : CM ≤ CM * T := by
        have := Int.mul_le_mul_of_nonneg_left (show (1 : Int) ≤ (T : Int) by omega) (show (0 : Int) ≤ CM by omega)
        omega
      generalize (B : Int) * (T : Int) = X at *
      generalize CM * (T : Int) = Y at *
      rw [top _ (by omega), top _ (by omega)]
  · rw [if_neg c]
    have h1 : CM / T < mnI CM B := by omega
    have h2 : mnI CM B ≤ B := by unfold mnI; split <;> omega
    have h3 : CM < (CM / T + 1) * T := Int.lt_ediv_add_one_mul_self CM (by omega)
    have h4 : (CM / T + 1) * T ≤ (B : Int) * T := Int.mul_le_mul_of_nonneg_right (by omega) (by omega)
    have h5 : CM < (B : Int) * T := by omega
    generalize (B : Int) * (T : Int) = X at *
    rw [top _ (by omega), top _ (by omega)]
