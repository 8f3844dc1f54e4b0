/-! ===== the calculus, 2: the rest of the instructions ===== -/
def bnd {α β : Type} (a : α) (f : α → β) : β := f a
def rI (q : Int × Mm) : Option AV × Mm := (some (vi q.1), q.2)
def rJ (q : Int × Mm) : Option AV × Mm := (some (vl q.1), q.2)
def rV (μ : Mm) : Option AV × Mm := (none, μ)
def m_ald (c : Nat) (μ : Mm) (r i : Int) : Option Int := if (m_kd μ r).1 = c ∧ 0 ≤ i ∧ i < ((m_kd μ r).2 : Int) then some (m_gt μ r i) else none
def m_ast (c : Nat) (μ : Mm) (r i v : Int) : Option Mm := if (m_kd μ r).1 = c ∧ 0 ≤ i ∧ i < ((m_kd μ r).2 : Int) then some (m_st μ r i v) else none
def m_len (μ : Mm) (r : Int) : Option Int := if 100 ≤ (m_kd μ r).1 ∧ (m_kd μ r).1 < 104 then some ((m_kd μ r).2 : Int) else none
def m_na (c : Nat) (μ : Mm) (n : Int) : Option Mm := if 0 ≤ n ∧ n ≤ 60000000 then some (m_nw μ c n.toNat n.toNat) else none
def s_ald (j : Nat) (i : Int) : Option Int := if 0 ≤ i ∧ i < ((m_tab j).2.1 : Int) then some ((m_tab j).2.2.getD i.toNat 0) else none
/-- a check that a reference is an object of class c -/
def m_chk {β : Type} (c : Nat) (μ : Mm) (r : Int) (f : Option β) : Option β := if m_kd μ r = (c, 0) then f else none
def z_chk {β : Type} (x : Int) (f : Option β) : Option β := if x = 0 ∨ x = 1 then f else none
def n_chk {β : Type} (x : Int) (f : Option β) : Option β := if x = 0 then none else f
section AAT
variable {E : m_E} {l : Launch} {d : Nat} {z : Nat × Nat} {own nm : String} {cc : ByteArray} {nL : Nat} {ret : Option FieldType} {pc : Nat} {L L' : List (Nat × AV)} {st st' : List AV} {μ : Mm} {ρ : Option AV × Mm} {τ : Type} {t : τ}
theorem a_ladd {x y : Int} (hd : decode cc pc = .ok (.ladd, 1)) (k : AA E l d z own nm cc nL ret (pc + 1) L (vl (l_add x y) :: st) μ ρ) : AA E l d z own nm cc nL ret pc L (vl y :: vl x :: st) μ ρ :=
  aa_s (fun _ hs _ => oks.c (v := vl (l_add x y)) (okJ_t _) hs.t.t) (fun _ hs _ hC _ _ _ w => lv_ladd hC.1 hC.2.1 hd (by rw [c_S_c, l_add, c_lt] at w; exact w)) k
theorem a_lsub {x y : Int} (hd : decode cc pc = .ok (.lsub, 1)) (k : AA E l d z own nm cc nL ret (pc + 1) L (vl (l_sub x y) :: st) μ ρ) : AA E l d z own nm cc nL ret pc L (vl y :: vl x :: st) μ ρ :=
  aa_s (fun _ hs _ => oks.c (v := vl (l_sub x y)) (okJ_t _) hs.t.t) (fun _ hs _ hC _ _ _ w => lv_lsub hC.1 hC.2.1 hd (by rw [c_S_c, l_sub, c_lt] at w; exact w)) k
theorem a_lmul {x y : Int} (hd : decode cc pc = .ok (.lmul, 1)) (k : AA E l d z own nm cc nL ret (pc + 1) L (vl (l_mul x y) :: st) μ ρ) : AA E l d z own nm cc nL ret pc L (vl y :: vl x :: st) μ ρ :=
  aa_s (fun _ hs _ => oks.c (v := vl (l_mul x y)) (okJ_t _) hs.t.t) (fun _ hs _ hC _ _ _ w => lv_lmul hC.1 hC.2.1 hd (by rw [c_S_c, l_mul, c_lt] at w; exact w)) k
theorem a_land {x y : Int} (hd : decode cc pc = .ok (.land, 1)) (k : AA E l d z own nm cc nL ret (pc + 1) L (vl (l_and x y) :: st) μ ρ) : AA E l d z own nm cc nL ret pc L (vl y :: vl x :: st) μ ρ :=
  aa_s (fun _ hs _ => oks.c (v := vl (l_and x y)) (okJ_t _) hs.t.t) (fun _ hs _ hC _ _ _ w => lv_land hC.1 hC.2.1 hd (by rw [c_S_c, l_and, c_lt] at w; exact w)) k
theorem a_lor {x y : Int} (hd : decode cc pc = .ok (.lor, 1)) (k : AA E l d z own nm cc nL ret (pc + 1) L (vl (l_or x y) :: st) μ ρ) : AA E l d z own nm cc nL ret pc L (vl y :: vl x :: st) μ ρ :=
  aa_s (fun _ hs _ => oks.c (v := vl (l_or x y)) (okJ_t _) hs.t.t) (fun _ hs _ hC _ _ _ w => lv_lor hC.1 hC.2.1 hd (by rw [c_S_c, l_or, c_lt] at w; exact w)) k
theorem a_lxor {x y : Int} (hd : decode cc pc = .ok (.lxor, 1)) (k : AA E l d z own nm cc nL ret (pc + 1) L (vl (l_xor x y) :: st) μ ρ) : AA E l d z own nm cc nL ret pc L (vl y :: vl x :: st) μ ρ :=
  aa_s (fun _ hs _ => oks.c (v := vl (l_xor x y)) (okJ_t _) hs.t.t) (fun _ hs _ hC _ _ _ w => lv_lxor hC.1 hC.2.1 hd (by rw [c_S_c, l_xor, c_lt] at w; exact w)) k
theorem a_ineg {x : Int} (hd : decode cc pc = .ok (.ineg, 1)) (k : AA E l d z own nm cc nL ret (pc + 1) L (vi (i_neg x) :: st) μ ρ) : AA E l d z own nm cc nL ret pc L (vi x :: st) μ ρ :=
  aa_s (fun _ hs _ => oks.c (v := vi (i_neg x)) (okI_t _) hs.t) (fun _ hs _ hC _ _ _ w => lv_ineg hC.1 hC.2.1 hd (by rw [c_S_c, i_neg, c_it] at w; exact w)) k
theorem a_idiv {x y : Int} {f : Option τ} (hd : decode cc pc = .ok (.idiv, 1)) (h : n_chk y f = some t) (k : f = some t → AA E l d z own nm cc nL ret (pc + 1) L (vi (i_div x y) :: st) μ ρ) : AA E l d z own nm cc nL ret pc L (vi y :: vi x :: st) μ ρ := by
  unfold n_chk at h
  by_cases hy : y = 0
  · rw [if_pos hy] at h; cases h
  · rw [if_neg hy] at h
    exact aa_s (fun _ hs _ => oks.c (v := vi (i_div x y)) (okI_t _) hs.t.t) (fun _ hs _ hC _ _ _ w => lv_idiv hC.1 hC.2.1 hd (fun q => hy ((ofI_eq hs.i okI_0).mp q)) (by rw [c_S_c, i_div, c_it] at w; exact w)) (k h)
theorem a_ldiv {x y : Int} {f : Option τ} (hd : decode cc pc = .ok (.ldiv, 1)) (h : n_chk y f = some t) (k : f = some t → AA E l d z own nm cc nL ret (pc + 1) L (vl (l_div x y) :: st) μ ρ) : AA E l d z own nm cc nL ret pc L (vl y :: vl x :: st) μ ρ := by
  unfold n_chk at h
  by_cases hy : y = 0
  · rw [if_pos hy] at h; cases h
  · rw [if_neg hy] at h
    exact aa_s (fun _ hs _ => oks.c (v := vl (l_div x y)) (okJ_t _) hs.t.t) (fun _ hs _ hC _ _ _ w => lv_ldiv hC.1 hC.2.1 hd (fun q => hy ((ofJ_eq hs.j ⟨by omega, by omega⟩).mp q)) (by rw [c_S_c, l_div, c_lt] at w; exact w)) (k h)
theorem a_irem {x y : Int} {f : Option τ} (hd : decode cc pc = .ok (.irem, 1)) (h : n_chk y f = some t) (k : f = some t → AA E l d z own nm cc nL ret (pc + 1) L (vi (i_rem x y) :: st) μ ρ) : AA E l d z own nm cc nL ret pc L (vi y :: vi x :: st) μ ρ := by
  unfold n_chk at h
  by_cases hy : y = 0
  · rw [if_pos hy] at h; cases h
  · rw [if_neg hy] at h
    exact aa_s (fun _ hs _ => oks.c (v := vi (i_rem x y)) (okI_t _) hs.t.t) (fun _ hs _ hC _ _ _ w => lv_irem hC.1 hC.2.1 hd (fun q => hy ((ofI_eq hs.i okI_0).mp q)) (by rw [c_S_c, i_rem, c_it] at w; exact w)) (k h)
theorem a_lrem {x y : Int} {f : Option τ} (hd : decode cc pc = .ok (.lrem, 1)) (h : n_chk y f = some t) (k : f = some t → AA E l d z own nm cc nL ret (pc + 1) L (vl (l_rem x y) :: st) μ ρ) : AA E l d z own nm cc nL ret pc L (vl y :: vl x :: st) μ ρ := by
  unfold n_chk at h
  by_cases hy : y = 0
  · rw [if_pos hy] at h; cases h
  · rw [if_neg hy] at h
    exact aa_s (fun _ hs _ => oks.c (v := vl (l_rem x y)) (okJ_t _) hs.t.t) (fun _ hs _ hC _ _ _ w => lv_lrem hC.1 hC.2.1 hd (fun q => hy ((ofJ_eq hs.j ⟨by omega, by omega⟩).mp q)) (by rw [c_S_c, l_rem, c_lt] at w; exact w)) (k h)
theorem a_i2l {x : Int} (hd : decode cc pc = .ok (.i2l, 1)) (k : AA E l d z own nm cc nL ret (pc + 1) L (vl (i_2l x) :: st) μ ρ) : AA E l d z own nm cc nL ret pc L (vi x :: st) μ ρ :=
  aa_s (fun _ hs _ => oks.c (v := vl (i_2l x)) (okJ_t _) hs.t) (fun _ hs _ hC _ _ _ w => lv_i2l hC.1 hC.2.1 hd rfl (by rw [c_S_c, i_2l, c_lt] at w; exact w)) k
theorem a_l2i {x : Int} (hd : decode cc pc = .ok (.l2i, 1)) (k : AA E l d z own nm cc nL ret (pc + 1) L (vi (l_2i x) :: st) μ ρ) : AA E l d z own nm cc nL ret pc L (vl x :: st) μ ρ :=
  aa_s (fun _ hs _ => oks.c (v := vi (l_2i x)) (okI_t _) hs.t) (fun _ hs _ hC _ _ _ w => lv_l2i hC.1 hC.2.1 hd rfl (by rw [c_S_c, l_2i, c_it] at w; exact w)) k
theorem a_iushr {x y : Int} (hd : decode cc pc = .ok (.iushr, 1)) (k : AA E l d z own nm cc nL ret (pc + 1) L (vi (i_ushr x y) :: st) μ ρ) : AA E l d z own nm cc nL ret pc L (vi y :: vi x :: st) μ ρ :=
  aa_s (fun _ hs _ => oks.c (v := vi (i_ushr x y)) (okI_t _) hs.t.t) (fun _ hs _ hC _ _ _ w => lv_iushr hC.1 hC.2.1 hd rfl (by rw [c_S_c, i_ushr, c_it] at w; exact w)) k
theorem a_lshl {x y : Int} (hd : decode cc pc = .ok (.lshl, 1)) (k : AA E l d z own nm cc nL ret (pc + 1) L (vl (l_shl x y) :: st) μ ρ) : AA E l d z own nm cc nL ret pc L (vi y :: vl x :: st) μ ρ :=
  aa_s (fun _ hs _ => oks.c (v := vl (l_shl x y)) (okJ_t _) hs.t.t) (fun _ hs _ hC _ _ _ w => lv_lshl hC.1 hC.2.1 hd rfl (by rw [c_S_c, l_shl, c_lt] at w; exact w)) k
theorem a_lshr {x y : Int} (hd : decode cc pc = .ok (.lshr, 1)) (k : AA E l d z own nm cc nL ret (pc + 1) L (vl (l_shr x y) :: st) μ ρ) : AA E l d z own nm cc nL ret pc L (vi y :: vl x :: st) μ ρ :=
  aa_s (fun _ hs _ => oks.c (v := vl (l_shr x y)) (okJ_t _) hs.t.t) (fun _ hs _ hC _ _ _ w => lv_lshr hC.1 hC.2.1 hd rfl (by rw [c_S_c, l_shr, c_lt] at w; exact w)) k
theorem l_cmp_ok (x y : Int) : okI (l_cmp x y) := by
  unfold l_cmp
  split
  · exact ⟨by omega, by omega⟩
  · split <;> exact ⟨by omega, by omega⟩
theorem l_cmp_g {x y : Int} (hx : okJ x) (hy : okJ y) : lg_cmp (Int64.ofInt x) (Int64.ofInt y) = Int32.ofInt (l_cmp x y) := by
  unfold lg_cmp l_cmp
  have e1 : (Int64.ofInt x > Int64.ofInt y) ↔ y < x := ofJ_lt hy hx
  have e2 := ofJ_eq hx hy
  by_cases q1 : x < y
  · have q2 : ¬ y < x := by omega
    have q3 : ¬ x = y := by omega
    rw [if_neg (fun q => q2 (e1.mp q)), if_neg (fun q => q3 (e2.mp q)), if_pos q1]; rfl
  · by_cases q3 : x = y
    · have q2 : ¬ y < x := by omega
      rw [if_neg (fun q => q2 (e1.mp q)), if_pos (e2.mpr q3), if_neg q1, if_pos q3]; rfl
    · have q2 : y < x := by omega
      rw [if_pos (e1.mpr q2), if_neg q1, if_neg q3]; rfl
theorem a_lcmp {x y : Int} (hd : decode cc pc = .ok (.lcmp, 1)) (k : AA E l d z own nm cc nL ret (pc + 1) L (vi (l_cmp x y) :: st) μ ρ) : AA E l d z own nm cc nL ret pc L (vl y :: vl x :: st) μ ρ :=
  aa_s (fun _ hs _ => oks.c (v := vi (l_cmp x y)) (l_cmp_ok x y) hs.t.t) (fun _ hs _ hC _ _ _ w => W.lcmp hC.1 hC.2.1 hd (by rw [c_S_c, c_i, ← l_cmp_g hs.t.j hs.j] at w; exact w)) k
-- names
theorem a_nmi {x : Int} {f : Int → Option τ} (h : bnd x f = some t) (k : ∀ y, f y = some t → AA E l d z own nm cc nL ret pc L (vi y :: st) μ ρ) : AA E l d z own nm cc nL ret pc L (vi x :: st) μ ρ := k x h
theorem a_nml {x : Int} {f : Int → Option τ} (h : bnd x f = some t) (k : ∀ y, f y = some t → AA E l d z own nm cc nL ret pc L (vl y :: st) μ ρ) : AA E l d z own nm cc nL ret pc L (vl x :: st) μ ρ := k x h
theorem a_nmr {x : Int} {f : Int → Option τ} (h : bnd x f = some t) (k : ∀ y, f y = some t → AA E l d z own nm cc nL ret pc L (vr y :: st) μ ρ) : AA E l d z own nm cc nL ret pc L (vr x :: st) μ ρ := k x h
-- branches
theorem a_goto {off : Int} {tgt : Nat} (hd : decode cc pc = .ok (.goto off, 3)) (ht : (pc : Int) + off = (tgt : Int)) (k : AA E l d z own nm cc nL ret tgt L st μ ρ) : AA E l d z own nm cc nL ret pc L st μ ρ :=
  aa_s (fun _ hs _ => hs) (fun _ hs _ hC _ _ _ w => lv_goto hC.1 hC.2.1 hd ht w) k
theorem a_icmp_eq {x y off : Int} {tgt : Nat} {A B : Option τ} (hd : decode cc pc = .ok (.if_icmp .eq off, 3)) (ht : (pc : Int) + off = (tgt : Int)) (h : (if x = y then A else B) = some t) (kt : A = some t → AA E l d z own nm cc nL ret tgt L st μ ρ) (kf : B = some t → AA E l d z own nm cc nL ret (pc + 3) L st μ ρ) : AA E l d z own nm cc nL ret pc L (vi y :: vi x :: st) μ ρ := by
  by_cases q : x = y
  · rw [if_pos q] at h
    exact aa_s (fun _ hs _ => hs.t.t) (fun _ hs _ hC _ _ _ w => lv_icmp_eq hC.1 hC.2.1 hd ht (fun _ => w) (fun n => absurd ((ofI_eq hs.t.i hs.i).mpr q) n)) (kt h)
  · rw [if_neg q] at h
    exact aa_s (fun _ hs _ => hs.t.t) (fun _ hs _ hC _ _ _ w => lv_icmp_eq hC.1 hC.2.1 hd ht (fun n => absurd ((ofI_eq hs.t.i hs.i).mp n) q) (fun _ => w)) (kf h)
theorem a_if_eq {x off : Int} {tgt : Nat} {A B : Option τ} (hd : decode cc pc = .ok (.ifCond .eq off, 3)) (ht : (pc : Int) + off = (tgt : Int)) (h : (if x = 0 then A else B) = some t) (kt : A = some t → AA E l d z own nm cc nL ret tgt L st μ ρ) (kf : B = some t → AA E l d z own nm cc nL ret (pc + 3) L st μ ρ) : AA E l d z own nm cc nL ret pc L (vi x :: st) μ ρ := by
  by_cases q : x = 0
  · rw [if_pos q] at h
    exact aa_s (fun _ hs _ => hs.t) (fun _ hs _ hC _ _ _ w => lv_if_eq hC.1 hC.2.1 hd ht (fun _ => w) (fun n => absurd ((ofI_eq hs.i okI_0).mpr q) n)) (kt h)
  · rw [if_neg q] at h
    exact aa_s (fun _ hs _ => hs.t) (fun _ hs _ hC _ _ _ w => lv_if_eq hC.1 hC.2.1 hd ht (fun n => absurd ((ofI_eq hs.i okI_0).mp n) q) (fun _ => w)) (kf h)
theorem a_icmp_lt {x y off : Int} {tgt : Nat} {A B : Option τ} (hd : decode cc pc = .ok (.if_icmp .lt off, 3)) (ht : (pc : Int) + off = (tgt : Int)) (h : (if x < y then A else B) = some t) (kt : A = some t → AA E l d z own nm cc nL ret tgt L st μ ρ) (kf : B = some t → AA E l d z own nm cc nL ret (pc + 3) L st μ ρ) : AA E l d z own nm cc nL ret pc L (vi y :: vi x :: st) μ ρ := by
  by_cases q : x < y
  · rw [if_pos q] at h
    exact aa_s (fun _ hs _ => hs.t.t) (fun _ hs _ hC _ _ _ w => lv_icmp_lt hC.1 hC.2.1 hd ht (fun _ => w) (fun n => absurd ((ofI_lt hs.t.i hs.i).mpr q) n)) (kt h)
  · rw [if_neg q] at h
    exact aa_s (fun _ hs _ => hs.t.t) (fun _ hs _ hC _ _ _ w => lv_icmp_lt hC.1 hC.2.1 hd ht (fun n => absurd ((ofI_lt hs.t.i hs.i).mp n) q) (fun _ => w)) (kf h)
theorem a_if_lt {x off : Int} {tgt : Nat} {A B : Option τ} (hd : decode cc pc = .ok (.ifCond .lt off, 3)) (ht : (pc : Int) + off = (tgt : Int)) (h : (if x < 0 then A else B) = some t) (kt : A = some t → AA E l d z own nm cc nL ret tgt L st μ ρ) (kf : B = some t → AA E l d z own nm cc nL ret (pc + 3) L st μ ρ) : AA E l d z own nm cc nL ret pc L (vi x :: st) μ ρ := by
  by_cases q : x < 0
  · rw [if_pos q] at h
    exact aa_s (fun _ hs _ => hs.t) (fun _ hs _ hC _ _ _ w => lv_if_lt hC.1 hC.2.1 hd ht (fun _ => w) (fun n => absurd ((ofI_lt hs.i okI_0).mpr q) n)) (kt h)
  · rw [if_neg q] at h
    exact aa_s (fun _ hs _ => hs.t) (fun _ hs _ hC _ _ _ w => lv_if_lt hC.1 hC.2.1 hd ht (fun n => absurd ((ofI_lt hs.i okI_0).mp n) q) (fun _ => w)) (kf h)
theorem a_icmp_le {x y off : Int} {tgt : Nat} {A B : Option τ} (hd : decode cc pc = .ok (.if_icmp .le off, 3)) (ht : (pc : Int) + off = (tgt : Int)) (h : (if x ≤ y then A else B) = some t) (kt : A = some t → AA E l d z own nm cc nL ret tgt L st μ ρ) (kf : B = some t → AA E l d z own nm cc nL ret (pc + 3) L st μ ρ) : AA E l d z own nm cc nL ret pc L (vi y :: vi x :: st) μ ρ := by
  by_cases q : x ≤ y
  · rw [if_pos q] at h
    exact aa_s (fun _ hs _ => hs.t.t) (fun _ hs _ hC _ _ _ w => lv_icmp_le hC.1 hC.2.1 hd ht (fun _ => w) (fun n => absurd ((ofI_le hs.t.i hs.i).mpr q) n)) (kt h)
  · rw [if_neg q] at h
    exact aa_s (fun _ hs _ => hs.t.t) (fun _ hs _ hC _ _ _ w => lv_icmp_le hC.1 hC.2.1 hd ht (fun n => absurd ((ofI_le hs.t.i hs.i).mp n) q) (fun _ => w)) (kf h)
theorem a_if_le {x off : Int} {tgt : Nat} {A B : Option τ} (hd : decode cc pc = .ok (.ifCond .le off, 3)) (ht : (pc : Int) + off = (tgt : Int)) (h : (if x ≤ 0 then A else B) = some t) (kt : A = some t → AA E l d z own nm cc nL ret tgt L st μ ρ) (kf : B = some t → AA E l d z own nm cc nL ret (pc + 3) L st μ ρ) : AA E l d z own nm cc nL ret pc L (vi x :: st) μ ρ := by
  by_cases q : x ≤ 0
  · rw [if_pos q] at h
    exact aa_s (fun _ hs _ => hs.t) (fun _ hs _ hC _ _ _ w => lv_if_le hC.1 hC.2.1 hd ht (fun _ => w) (fun n => absurd ((ofI_le hs.i okI_0).mpr q) n)) (kt h)
  · rw [if_neg q] at h
    exact aa_s (fun _ hs _ => hs.t) (fun _ hs _ hC _ _ _ w => lv_if_le hC.1 hC.2.1 hd ht (fun n => absurd ((ofI_le hs.i okI_0).mp n) q) (fun _ => w)) (kf h)
theorem a_icmp_gt {x y off : Int} {tgt : Nat} {A B : Option τ} (hd : decode cc pc = .ok (.if_icmp .gt off, 3)) (ht : (pc : Int) + off = (tgt : Int)) (h : (if y < x then A else B) = some t) (kt : A = some t → AA E l d z own nm cc nL ret tgt L st μ ρ) (kf : B = some t → AA E l d z own nm cc nL ret (pc + 3) L st μ ρ) : AA E l d z own nm cc nL ret pc L (vi y :: vi x :: st) μ ρ := by
  by_cases q : y < x
  · rw [if_pos q] at h
    exact aa_s (fun _ hs _ => hs.t.t) (fun _ hs _ hC _ _ _ w => lv_icmp_gt hC.1 hC.2.1 hd ht (fun _ => w) (fun n => absurd ((ofI_lt hs.i hs.t.i).mpr q) n)) (kt h)
  · rw [if_neg q] at h
    exact aa_s (fun _ hs _ => hs.t.t) (fun _ hs _ hC _ _ _ w => lv_icmp_gt hC.1 hC.2.1 hd ht (fun n => absurd ((ofI_lt hs.i hs.t.i).mp n) q) (fun _ => w)) (kf h)
theorem a_if_gt {x off : Int} {tgt : Nat} {A B : Option τ} (hd : decode cc pc = .ok (.ifCond .gt off, 3)) (ht : (pc : Int) + off = (tgt : Int)) (h : (if 0 < x then A else B) = some t) (kt : A = some t → AA E l d z own nm cc nL ret tgt L st μ ρ) (kf : B = some t → AA E l d z own nm cc nL ret (pc + 3) L st μ ρ) : AA E l d z own nm cc nL ret pc L (vi x :: st) μ ρ := by
  by_cases q : 0 < x
  · rw [if_pos q] at h
    exact aa_s (fun _ hs _ => hs.t) (fun _ hs _ hC _ _ _ w => lv_if_gt hC.1 hC.2.1 hd ht (fun _ => w) (fun n => absurd ((ofI_lt okI_0 hs.i).mpr q) n)) (kt h)
  · rw [if_neg q] at h
    exact aa_s (fun _ hs _ => hs.t) (fun _ hs _ hC _ _ _ w => lv_if_gt hC.1 hC.2.1 hd ht (fun n => absurd ((ofI_lt okI_0 hs.i).mp n) q) (fun _ => w)) (kf h)
theorem a_icmp_ge {x y off : Int} {tgt : Nat} {A B : Option τ} (hd : decode cc pc = .ok (.if_icmp .ge off, 3)) (ht : (pc : Int) + off = (tgt : Int)) (h : (if y ≤ x then A else B) = some t) (kt : A = some t → AA E l d z own nm cc nL ret tgt L st μ ρ) (kf : B = some t → AA E l d z own nm cc nL ret (pc + 3) L st μ ρ) : AA E l d z own nm cc nL ret pc L (vi y :: vi x :: st) μ ρ := by
  by_cases q : y ≤ x
  · rw [if_pos q] at h
    exact aa_s (fun _ hs _ => hs.t.t) (fun _ hs _ hC _ _ _ w => lv_icmp_ge hC.1 hC.2.1 hd ht (fun _ => w) (fun n => absurd ((ofI_le hs.i hs.t.i).mpr q) n)) (kt h)
  · rw [if_neg q] at h
    exact aa_s (fun _ hs _ => hs.t.t) (fun _ hs _ hC _ _ _ w => lv_icmp_ge hC.1 hC.2.1 hd ht (fun n => absurd ((ofI_le hs.i hs.t.i).mp n) q) (fun _ => w)) (kf h)
theorem a_if_ge {x off : Int} {tgt : Nat} {A B : Option τ} (hd : decode cc pc = .ok (.ifCond .ge off, 3)) (ht : (pc : Int) + off = (tgt : Int)) (h : (if 0 ≤ x then A else B) = some t) (kt : A = some t → AA E l d z own nm cc nL ret tgt L st μ ρ) (kf : B = some t → AA E l d z own nm cc nL ret (pc + 3) L st μ ρ) : AA E l d z own nm cc nL ret pc L (vi x :: st) μ ρ := by
  by_cases q : 0 ≤ x
  · rw [if_pos q] at h
    exact aa_s (fun _ hs _ => hs.t) (fun _ hs _ hC _ _ _ w => lv_if_ge hC.1 hC.2.1 hd ht (fun _ => w) (fun n => absurd ((ofI_le okI_0 hs.i).mpr q) n)) (kt h)
  · rw [if_neg q] at h
    exact aa_s (fun _ hs _ => hs.t) (fun _ hs _ hC _ _ _ w => lv_if_ge hC.1 hC.2.1 hd ht (fun n => absurd ((ofI_le okI_0 hs.i).mp n) q) (fun _ => w)) (kf h)
theorem a_icmp_ne {x y off : Int} {tgt : Nat} {A B : Option τ} (hd : decode cc pc = .ok (.if_icmp .ne off, 3)) (ht : (pc : Int) + off = (tgt : Int)) (h : (if ¬ x = y then A else B) = some t) (kt : A = some t → AA E l d z own nm cc nL ret tgt L st μ ρ) (kf : B = some t → AA E l d z own nm cc nL ret (pc + 3) L st μ ρ) : AA E l d z own nm cc nL ret pc L (vi y :: vi x :: st) μ ρ := by
  by_cases q : ¬ x = y
  · rw [if_pos q] at h
    exact aa_s (fun _ hs _ => hs.t.t) (fun _ hs _ hC _ _ _ w => lv_icmp_ne hC.1 hC.2.1 hd ht (fun _ => w) (fun n => absurd n ((not_congr (ofI_eq hs.t.i hs.i)).mpr q))) (kt h)
  · rw [if_neg q] at h
    exact aa_s (fun _ hs _ => hs.t.t) (fun _ hs _ hC _ _ _ w => lv_icmp_ne hC.1 hC.2.1 hd ht (fun n => absurd ((not_congr (ofI_eq hs.t.i hs.i)).mp n) q) (fun _ => w)) (kf h)
theorem a_if_ne {x off : Int} {tgt : Nat} {A B : Option τ} (hd : decode cc pc = .ok (.ifCond .ne off, 3)) (ht : (pc : Int) + off = (tgt : Int)) (h : (if ¬ x = 0 then A else B) = some t) (kt : A = some t → AA E l d z own nm cc nL ret tgt L st μ ρ) (kf : B = some t → AA E l d z own nm cc nL ret (pc + 3) L st μ ρ) : AA E l d z own nm cc nL ret pc L (vi x :: st) μ ρ := by
  by_cases q : ¬ x = 0
  · rw [if_pos q] at h
    exact aa_s (fun _ hs _ => hs.t) (fun _ hs _ hC _ _ _ w => lv_if_ne hC.1 hC.2.1 hd ht (fun _ => w) (fun n => absurd n ((not_congr (ofI_eq hs.i okI_0)).mpr q))) (kt h)
  · rw [if_neg q] at h
    exact aa_s (fun _ hs _ => hs.t) (fun _ hs _ hC _ _ _ w => lv_if_ne hC.1 hC.2.1 hd ht (fun n => absurd ((not_congr (ofI_eq hs.i okI_0)).mp n) q) (fun _ => w)) (kf h)
end AAT
