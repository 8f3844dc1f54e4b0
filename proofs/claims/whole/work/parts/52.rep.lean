/-! ===== PURE: frames, and what the two memories hold ===== -/
/-- the memory is the same but for the cells 'ids' and the slots 'sl' -/
def Fr (ids : List Int) (sl : List (Int × Int)) (μ μ' : Mm) : Prop := μ'.1 = μ.1 ∧ μ'.2.1 = μ.2.1 ∧ ∀ r i : Int, r ∉ ids → (r, i) ∉ sl → m_gt μ' r i = m_gt μ r i
theorem Fr.rf (μ : Mm) : Fr [] [] μ μ := ⟨rfl, rfl, fun _ _ _ _ => rfl⟩
theorem Fr.st (μ : Mm) (r i v : Int) : Fr [] [(r, i)] μ (m_st μ r i v) := ⟨rfl, rfl, fun a b _ h => by
  rw [m_gt_st, if_neg]
  rintro ⟨rfl, rfl⟩
  exact h (List.mem_singleton.mpr rfl)⟩
theorem Fr.sa (μ : Mm) (r i v : Int) : Fr [r] [] μ (m_st μ r i v) := ⟨rfl, rfl, fun a b h _ => by
  rw [m_gt_st, if_neg]
  rintro ⟨rfl, rfl⟩
  exact h (List.mem_singleton.mpr rfl)⟩
theorem Fr.tr {i1 i2 : List Int} {s1 s2 : List (Int × Int)} {a b c : Mm} (h1 : Fr i1 s1 a b) (h2 : Fr i2 s2 b c) : Fr (i1 ++ i2) (s1 ++ s2) a c :=
  ⟨h2.1.trans h1.1, h2.2.1.trans h1.2.1, fun r i hr hs => by
    simp only [List.mem_append, not_or] at hr hs
    rw [h2.2.2 r i hr.2 hs.2, h1.2.2 r i hr.1 hs.1]⟩
theorem Fr.mono {i1 i2 : List Int} {s1 s2 : List (Int × Int)} {a b : Mm} (h : Fr i1 s1 a b) (hi : ∀ r ∈ i1, r ∈ i2) (hs : ∀ q ∈ s1, q ∈ s2 ∨ q.1 ∈ i2) : Fr i2 s2 a b :=
  ⟨h.1, h.2.1, fun r i hr hq => h.2.2 r i (fun z => hr (hi r z)) (fun z => (hs _ z).elim hq hr)⟩
theorem Fr.kd {ids : List Int} {sl : List (Int × Int)} {a b : Mm} (h : Fr ids sl a b) (r : Int) : m_kd b r = m_kd a r := congrFun h.2.1 r
theorem Fr.KR {ids : List Int} {sl : List (Int × Int)} {a b : Mm} (h : Fr ids sl a b) (hK : KR a) (hn : rfT.all (fun q => !(decide (q.1 ∈ ids ∨ (q.1, q.2.1) ∈ sl))) = true) : KR b := by
  refine ⟨fun q hq => by rw [h.kd]; exact hK.1 q hq, fun q hq => ?_, by show 105 ≤ b.1.1; rw [h.1]; exact hK.2.2⟩
  have h1 := List.all_eq_true.mp hn q hq
  simp only [Bool.not_eq_true', decide_eq_false_iff_not, not_or] at h1
  rw [h.2.2 _ _ h1.1 h1.2]
  exact hK.2.1 q hq
/-- a row of numbers in the cell r, from place o on -/
def Row (μ : Mm) (r o : Int) (l : List Int) : Prop := ∀ i : Nat, i < l.length → m_gt μ r (o + i) = l.getD i 0
theorem Row.fr {ids : List Int} {sl : List (Int × Int)} {a b : Mm} {r o : Int} {l : List Int} (h : Row a r o l) (f : Fr ids sl a b) (h1 : r ∉ ids) (h2 : ∀ q ∈ sl, q.1 ≠ r) : Row b r o l := fun i hi => by
  rw [f.2.2 r _ h1 (fun z => h2 _ z rfl)]
  exact h i hi
theorem Row.at {μ : Mm} {r o : Int} {l : List Int} (h : Row μ r o l) {i : Int} (h0 : o ≤ i) (h1 : i < o + l.length) : m_gt μ r i = l.getD (i - o).toNat 0 := by
  have := h (i - o).toNat (by omega)
  rw [← this]
  congr 1
  omega
theorem Row.nil (μ : Mm) (r o : Int) : Row μ r o [] := fun i hi => absurd hi (Nat.not_lt_zero i)
theorem Row.push {μ : Mm} {r o : Int} {l : List Int} (h : Row μ r o l) (v : Int) : Row (m_st μ r (o + l.length) v) r o (l ++ [v]) := fun i hi => by
  rw [List.length_append, List.length_singleton] at hi
  rw [m_gt_st]
  by_cases q : i = l.length
  · subst q
    rw [if_pos ⟨rfl, rfl⟩]
    simp
  · rw [if_neg (fun z => q (by have := z.2; omega)), h i (by omega)]
    rw [List.getD_eq_getElem?_getD, List.getD_eq_getElem?_getD, List.getElem?_append_left (by omega)]
theorem Row.take {μ : Mm} {r o : Int} {l : List Int} (h : Row μ r o l) (n : Nat) : Row μ r o (l.take n) := fun i hi => by
  rw [List.length_take] at hi
  rw [h i (by omega), List.getD_eq_getElem?_getD, List.getD_eq_getElem?_getD, List.getElem?_take_of_lt (by omega)]
/-! the tape -/
def TV (T : List Int) : Prop := T.length ≤ 700 ∧ ∀ b ∈ T, 0 ≤ b ∧ b ≤ 255
def tpX (T : List Int) (μ : Mm) : Prop := m_gt μ 0 1 = T.length ∧ Row μ 1 0 T
def tpM (T : List Int) (μ : Mm) : Prop := m_gt μ 50 1 = T.length ∧ Row μ 51 0 T
/-- byte k (from the lowest) of a number -/
def byt (w k : Int) : Int := i_and (i_ushr w (8 * k)) 255
def bytes (w : Int) : List Int := [byt w 3, byt w 2, byt w 1, byt w 0]
theorem i_and_255 (x : Int) : 0 ≤ i_and x 255 ∧ i_and x 255 ≤ 255 := by
  unfold i_and
  have h : (Int32.ofInt x &&& Int32.ofInt 255).toBitVec.toNat ≤ 255 := by
    rw [Int32.toBitVec_and, BitVec.toNat_and]
    exact Nat.le_trans Nat.and_le_right (by decide)
  generalize Int32.ofInt x &&& Int32.ofInt 255 = a at h
  have e : a.toInt = (a.toBitVec.toNat : Int) := by
    show a.toBitVec.toInt = _
    rw [BitVec.toInt_eq_toNat_cond, if_pos (by omega)]
  rw [e]
  omega
theorem bytes_ok (w : Int) : ∀ b ∈ bytes w, 0 ≤ b ∧ b ≤ 255 := by
  intro b hb
  simp only [bytes, List.mem_cons, List.not_mem_nil, or_false] at hb
  rcases hb with rfl | rfl | rfl | rfl <;> exact i_and_255 _
theorem tpX_push {T : List Int} {μ : Mm} (h : tpX T μ) (v : Int) : tpX (T ++ [v]) (m_st (m_st μ 1 T.length v) 0 1 (T.length + 1)) := by
  refine ⟨by rw [gt_same]; simp, ?_⟩
  have h1 := Row.push h.2 v
  rw [Int.zero_add] at h1
  exact h1.fr (Fr.st _ 0 1 _) (by decide) (fun q hq => by rw [List.mem_singleton.mp hq]; decide)
theorem tpM_push {T : List Int} {μ : Mm} (h : tpM T μ) (v : Int) : tpM (T ++ [v]) (m_st (m_st μ 51 T.length v) 50 1 (T.length + 1)) := by
  refine ⟨by rw [gt_same]; simp, ?_⟩
  have h1 := Row.push h.2 v
  rw [Int.zero_add] at h1
  exact h1.fr (Fr.st _ 50 1 _) (by decide) (fun q hq => by rw [List.mem_singleton.mp hq]; decide)
