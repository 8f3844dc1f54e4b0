-- X3_skip
def jX3_skip_52 (N : Nat) (l0 : Int) (μ : Mm) : Option (Mm) :=
  some μ
def jX3_skip_39 (k0 : Int → Mm → Option (Mm)) (N : Nat) (l0 : Int) (μ : Mm) : Option (Mm) :=
  bnd (m_st μ l0 4 (i_add (m_gt μ l0 4) 1)) fun μ1 =>
k0 l0 μ1
def jX3_skip_0b (k0 : Int → Mm → Option (Mm)) (N : Nat) (l0 : Int) (μ : Mm) : Option (Mm) :=
  if (m_gt μ l0 3) ≤ (m_gt μ l0 4) then (jX3_skip_52 N l0 μ) else ((m_ald 100 μ (m_gt μ l0 2) (m_gt μ l0 4)).bind fun x1 =>
if x1 = 32 then (jX3_skip_39 k0 N l0 μ) else ((m_ald 100 μ (m_gt μ l0 2) (m_gt μ l0 4)).bind fun x2 =>
if ¬ x2 = 10 then (jX3_skip_52 N l0 μ) else (jX3_skip_39 k0 N l0 μ)))
def jX3_skip_0 (N : Nat) : Nat → Int → Mm → Option (Mm)
  | 0 => fun _ _ => none
  | n + 1 => fun l0 μ => jX3_skip_0b (jX3_skip_0 N n) N l0 μ
def jX3_skip (N : Nat) (l0 : Int) (μ : Mm) : Option (Mm) :=
  jX3_skip_0 N N l0 μ
-- X3_takesSign
def jX3_takesSign_24 (N : Nat) (l0 : Int) (μ : Mm) : Option (Int × Mm) :=
  some (0, μ)
def jX3_takesSign (N : Nat) (l0 l1 : Int) (μ : Mm) : Option (Int × Mm) :=
  if (m_gt μ l0 3) ≤ (m_gt μ l0 4) then (jX3_takesSign_24 N l0 μ) else ((m_ald 100 μ (m_gt μ l0 2) (m_gt μ l0 4)).bind fun x1 =>
if x1 = l1 then (bnd (m_st μ l0 4 (i_add (m_gt μ l0 4) 1)) fun μ1 =>
(jX3_skip N l0 μ1).bind fun μ2 =>
some (1, μ2)) else (jX3_takesSign_24 N l0 μ))
-- X3_fail
def jX3_fail_17 (N : Nat) (l0 : Int) (μ : Mm) : Option (Int × Mm) :=
  some (0, μ)
def jX3_fail (N : Nat) (l0 l1 l2 : Int) (μ : Mm) : Option (Int × Mm) :=
  if ¬ (m_gt μ l0 0) = 0 then (jX3_fail_17 N l0 μ) else (bnd (m_st μ l0 0 l1) fun μ1 =>
bnd (m_st μ1 l0 1 l2) fun μ2 =>
jX3_fail_17 N l0 μ2)
-- X3_mayOpen
def jX3_mayOpen_20 (N : Nat) (l0 s0 : Int) (μ : Mm) : Option (Int × Mm) :=
  z_chk s0 (some (s0, μ))
def jX3_mayOpen_15 (N : Nat) (l0 : Int) (μ : Mm) : Option (Int × Mm) :=
  jX3_mayOpen_20 N l0 1 μ
def jX3_mayOpen (N : Nat) (l0 l1 l2 : Int) (μ : Mm) : Option (Int × Mm) :=
  if l1 < 6 then (jX3_mayOpen_15 N l0 μ) else (b2 (jX3_fail N l0 4 l2 μ) fun x1 μ1 =>
if x1 = 0 then (jX3_mayOpen_20 N l0 0 μ1) else (jX3_mayOpen_15 N l0 μ1))
-- X3_isDigit
def jX3_isDigit_39 (N : Nat) (l0 s0 : Int) (μ : Mm) : Option (Int × Mm) :=
  z_chk s0 (some (s0, μ))
def jX3_isDigit_38 (N : Nat) (l0 : Int) (μ : Mm) : Option (Int × Mm) :=
  jX3_isDigit_39 N l0 0 μ
def jX3_isDigit (N : Nat) (l0 l1 : Int) (μ : Mm) : Option (Int × Mm) :=
  if l1 < 0 then (jX3_isDigit_38 N l0 μ) else (if (m_gt μ l0 3) ≤ l1 then (jX3_isDigit_38 N l0 μ) else ((m_ald 100 μ (m_gt μ l0 2) l1).bind fun x1 =>
if x1 < 48 then (jX3_isDigit_38 N l0 μ) else ((m_ald 100 μ (m_gt μ l0 2) l1).bind fun x2 =>
if 57 < x2 then (jX3_isDigit_38 N l0 μ) else (jX3_isDigit_39 N l0 1 μ))))
-- X3_isLetter
def jX3_isLetter_39 (N : Nat) (l0 s0 : Int) (μ : Mm) : Option (Int × Mm) :=
  z_chk s0 (some (s0, μ))
def jX3_isLetter_38 (N : Nat) (l0 : Int) (μ : Mm) : Option (Int × Mm) :=
  jX3_isLetter_39 N l0 0 μ
def jX3_isLetter (N : Nat) (l0 l1 : Int) (μ : Mm) : Option (Int × Mm) :=
  if l1 < 0 then (jX3_isLetter_38 N l0 μ) else (if (m_gt μ l0 3) ≤ l1 then (jX3_isLetter_38 N l0 μ) else ((m_ald 100 μ (m_gt μ l0 2) l1).bind fun x1 =>
if x1 < 97 then (jX3_isLetter_38 N l0 μ) else ((m_ald 100 μ (m_gt μ l0 2) l1).bind fun x2 =>
if 122 < x2 then (jX3_isLetter_38 N l0 μ) else (jX3_isLetter_39 N l0 1 μ))))
-- X3_number
def jX3_number_115 (N : Nat) (l0 : Int) (μ : Mm) : Option (Int × Mm) :=
  b2 (jX3_fail N l0 2 (m_gt μ l0 4) μ) fun x1 μ1 =>
some ((-1), μ1)
def jX3_number_105 (N : Nat) (l0 l1 l2 l3 l4 : Int) (μ : Mm) : Option (Int × Mm) :=
  if l3 < l1 then (jX3_number_115 N l0 μ) else (if l3 ≤ l2 then (bnd (m_st μ l0 4 l4) fun μ1 =>
(jX3_skip N l0 μ1).bind fun μ2 =>
some (l3, μ2)) else (jX3_number_115 N l0 μ))
def jX3_number_44b (k44 : Int → Int → Int → Int → Int → Mm → Option (Int × Mm)) (N : Nat) (l0 l1 l2 l3 l4 : Int) (μ : Mm) : Option (Int × Mm) :=
  if (m_gt μ l0 3) ≤ l4 then (jX3_number_105 N l0 l1 l2 l3 l4 μ) else (b2 (jX3_isDigit N l0 l4 μ) fun x1 μ1 =>
if x1 = 0 then (jX3_number_105 N l0 l1 l2 l3 l4 μ1) else (if ¬ (i_sub l4 (m_gt μ1 l0 4)) = 4 then ((m_ald 100 μ1 (m_gt μ1 l0 2) l4).bind fun x2 =>
bnd (i_sub (i_add (i_mul 10 l3) x2) 48) fun x3 =>
bnd (i_add l4 1) fun x4 =>
k44 l0 l1 l2 x3 x4 μ1) else (b2 (jX3_fail N l0 1 l4 μ1) fun x5 μ2 =>
some ((-1), μ2))))
def jX3_number_44 (N : Nat) : Nat → Int → Int → Int → Int → Int → Mm → Option (Int × Mm)
  | 0 => fun _ _ _ _ _ _ => none
  | n + 1 => fun l0 l1 l2 l3 l4 μ => jX3_number_44b (jX3_number_44 N n) N l0 l1 l2 l3 l4 μ
def jX3_number_24 (N : Nat) (l0 : Int) (μ : Mm) : Option (Int × Mm) :=
  b2 (jX3_fail N l0 1 (m_gt μ l0 4) μ) fun x1 μ1 =>
some ((-1), μ1)
def jX3_number (N : Nat) (l0 l1 l2 : Int) (μ : Mm) : Option (Int × Mm) :=
  b2 (jX3_isDigit N l0 (m_gt μ l0 4) μ) fun x1 μ1 =>
if x1 = 0 then (jX3_number_24 N l0 μ1) else (b2 (jX3_isLetter N l0 (i_sub (m_gt μ1 l0 4) 1) μ1) fun x2 μ2 =>
if x2 = 0 then (bnd (m_gt μ2 l0 4) fun x3 =>
jX3_number_44 N N l0 l1 l2 0 x3 μ2) else (jX3_number_24 N l0 μ2))
-- X3_takes
def jX3_takes_43b (k43 : Int → Int → Int → Int → Mm → Option (Int × Mm)) (N : Nat) (l0 l1 l2 l3 : Int) (μ : Mm) : Option (Int × Mm) :=
  (s_len l1).bind fun x1 =>
if x1 ≤ l3 then (bnd (m_st μ l0 4 l2) fun μ1 =>
(jX3_skip N l0 μ1).bind fun μ2 =>
some (1, μ2)) else ((m_ald 100 μ (m_gt μ l0 2) (i_add (m_gt μ l0 4) l3)).bind fun x2 =>
(s_at l1 l3).bind fun x3 =>
if x2 = x3 then (bnd (i_add l3 1) fun x4 =>
k43 l0 l1 l2 x4 μ) else (some (0, μ)))
def jX3_takes_43 (N : Nat) : Nat → Int → Int → Int → Int → Mm → Option (Int × Mm)
  | 0 => fun _ _ _ _ _ => none
  | n + 1 => fun l0 l1 l2 l3 μ => jX3_takes_43b (jX3_takes_43 N n) N l0 l1 l2 l3 μ
def jX3_takes_39 (N : Nat) (l0 : Int) (μ : Mm) : Option (Int × Mm) :=
  some (0, μ)
def jX3_takes (N : Nat) (l0 l1 : Int) (μ : Mm) : Option (Int × Mm) :=
  (s_len l1).bind fun x1 =>
bnd (i_add (m_gt μ l0 4) x1) fun x2 =>
if (m_gt μ l0 3) < x2 then (jX3_takes_39 N l0 μ) else (b2 (jX3_isLetter N l0 x2 μ) fun x3 μ1 =>
if ¬ x3 = 0 then (jX3_takes_39 N l0 μ1) else (b2 (jX3_isDigit N l0 (i_sub (m_gt μ1 l0 4) 1) μ1) fun x4 μ2 =>
if x4 = 0 then (jX3_takes_43 N N l0 l1 x2 0 μ2) else (jX3_takes_39 N l0 μ2)))
-- X3_pair
def jX3_pair_92 (rX3_sum : Int → Int → Mm → Option (Int × Mm)) (N : Nat) (l0 s0 : Int) (μ : Mm) : Option (Int × Mm) :=
  z_chk s0 (some (s0, μ))
def jX3_pair_87 (rX3_sum : Int → Int → Mm → Option (Int × Mm)) (N : Nat) (l0 : Int) (μ : Mm) : Option (Int × Mm) :=
  jX3_pair_92 rX3_sum N l0 1 μ
def jX3_pair_75 (rX3_sum : Int → Int → Mm → Option (Int × Mm)) (N : Nat) (l0 : Int) (μ : Mm) : Option (Int × Mm) :=
  b2 (jX3_fail N l0 1 (m_gt μ l0 4) μ) fun x1 μ1 =>
if x1 = 0 then (jX3_pair_92 rX3_sum N l0 0 μ1) else (jX3_pair_87 rX3_sum N l0 μ1)
def jX3_pair (rX3_sum : Int → Int → Mm → Option (Int × Mm)) (N : Nat) (l0 l1 l2 : Int) (μ : Mm) : Option (Int × Mm) :=
  bnd (m_gt μ l0 4) fun x1 =>
b2 (jX3_takesSign N l0 40 μ) fun x2 μ1 =>
if x2 = 0 then (jX3_pair_75 rX3_sum N l0 μ1) else (b2 (jX3_mayOpen N l0 l1 x1 μ1) fun x3 μ2 =>
if x3 = 0 then (jX3_pair_75 rX3_sum N l0 μ2) else (b2 (rX3_sum l0 (i_add l1 1) μ2) fun x4 μ3 =>
if x4 = 0 then (jX3_pair_75 rX3_sum N l0 μ3) else (b2 (jX3_takesSign N l0 44 μ3) fun x5 μ4 =>
if x5 = 0 then (jX3_pair_75 rX3_sum N l0 μ4) else (b2 (rX3_sum l0 (i_add l1 1) μ4) fun x6 μ5 =>
if x6 = 0 then (jX3_pair_75 rX3_sum N l0 μ5) else (b2 (jX3_takesSign N l0 41 μ5) fun x7 μ6 =>
if x7 = 0 then (jX3_pair_75 rX3_sum N l0 μ6) else (m_chk 1 μ6 (m_gt μ6 l0 5) (
m_chk 0 μ6 (m_gt μ6 (m_gt μ6 l0 5) 6) (
b2 (jX0_put N (m_gt μ6 (m_gt μ6 l0 5) 6) l2 μ6) fun x8 μ7 =>
if ¬ x8 = 0 then (jX3_pair_87 rX3_sum N l0 μ7) else (jX3_pair_75 rX3_sum N l0 μ7)))))))))
-- X3_part
def jX3_part_258 (rX3_sum : Int → Int → Mm → Option (Int × Mm)) (N : Nat) (l0 s0 : Int) (μ : Mm) : Option (Int × Mm) :=
  z_chk s0 (some (s0, μ))
def jX3_part_257 (rX3_sum : Int → Int → Mm → Option (Int × Mm)) (N : Nat) (l0 : Int) (μ : Mm) : Option (Int × Mm) :=
  jX3_part_258 rX3_sum N l0 0 μ
def jX3_part_59 (rX3_sum : Int → Int → Mm → Option (Int × Mm)) (N : Nat) (l0 s0 : Int) (μ : Mm) : Option (Int × Mm) :=
  z_chk s0 (some (s0, μ))
def jX3_part_54 (rX3_sum : Int → Int → Mm → Option (Int × Mm)) (N : Nat) (l0 : Int) (μ : Mm) : Option (Int × Mm) :=
  jX3_part_59 rX3_sum N l0 1 μ
def jX3_part_42 (rX3_sum : Int → Int → Mm → Option (Int × Mm)) (N : Nat) (l0 : Int) (μ : Mm) : Option (Int × Mm) :=
  b2 (jX3_fail N l0 1 (m_gt μ l0 4) μ) fun x1 μ1 =>
if x1 = 0 then (jX3_part_59 rX3_sum N l0 0 μ1) else (jX3_part_54 rX3_sum N l0 μ1)
def jX3_part (rX3_sum : Int → Int → Mm → Option (Int × Mm)) (N : Nat) (l0 l1 : Int) (μ : Mm) : Option (Int × Mm) :=
  bnd (m_gt μ l0 4) fun x1 =>
b2 (jX3_takesSign N l0 40 μ) fun x2 μ1 =>
if x2 = 0 then (b2 (jX3_takes N l0 (-17) μ1) fun x3 μ2 =>
if x3 = 0 then (b2 (jX3_takes N l0 (-18) μ2) fun x4 μ3 =>
if x4 = 0 then (b2 (jX3_takes N l0 (-19) μ3) fun x5 μ4 =>
if x5 = 0 then (b2 (jX3_takes N l0 (-20) μ4) fun x6 μ5 =>
if x6 = 0 then (b2 (jX3_takes N l0 (-21) μ5) fun x7 μ6 =>
if x7 = 0 then (b2 (jX3_takes N l0 (-22) μ6) fun x8 μ7 =>
if x8 = 0 then (b2 (jX3_takes N l0 (-23) μ7) fun x9 μ8 =>
if x9 = 0 then (b2 (jX3_takes N l0 (-24) μ8) fun x10 μ9 =>
if x10 = 0 then (b2 (jX3_number N l0 0 9999 μ9) fun x11 μ10 =>
if x11 = (-1) then (jX3_part_257 rX3_sum N l0 μ10) else (m_chk 1 μ10 (m_gt μ10 l0 5) (
m_chk 0 μ10 (m_gt μ10 (m_gt μ10 l0 5) 6) (
b2 (jX0_put N (m_gt μ10 (m_gt μ10 l0 5) 6) x11 μ10) fun x12 μ11 =>
if x12 = 0 then (jX3_part_257 rX3_sum N l0 μ11) else (jX3_part_258 rX3_sum N l0 1 μ11))))) else (m_chk 1 μ9 (m_gt μ9 l0 5) (
m_chk 0 μ9 (m_gt μ9 (m_gt μ9 l0 5) 6) (
b2 (jX0_put N (m_gt μ9 (m_gt μ9 l0 5) 6) (-6) μ9) fun x13 μ12 =>
z_chk x13 (some (x13, μ12)))))) else (m_chk 1 μ8 (m_gt μ8 l0 5) (
m_chk 0 μ8 (m_gt μ8 (m_gt μ8 l0 5) 6) (
b2 (jX0_put N (m_gt μ8 (m_gt μ8 l0 5) 6) (-5) μ8) fun x14 μ13 =>
z_chk x14 (some (x14, μ13)))))) else (m_chk 1 μ7 (m_gt μ7 l0 5) (
m_chk 0 μ7 (m_gt μ7 (m_gt μ7 l0 5) 6) (
b2 (jX0_put N (m_gt μ7 (m_gt μ7 l0 5) 6) (-4) μ7) fun x15 μ14 =>
z_chk x15 (some (x15, μ14)))))) else (m_chk 1 μ6 (m_gt μ6 l0 5) (
m_chk 0 μ6 (m_gt μ6 (m_gt μ6 l0 5) 6) (
b2 (jX0_put N (m_gt μ6 (m_gt μ6 l0 5) 6) (-3) μ6) fun x16 μ15 =>
z_chk x16 (some (x16, μ15)))))) else (m_chk 1 μ5 (m_gt μ5 l0 5) (
m_chk 0 μ5 (m_gt μ5 (m_gt μ5 l0 5) 6) (
b2 (jX0_put N (m_gt μ5 (m_gt μ5 l0 5) 6) (-2) μ5) fun x17 μ16 =>
z_chk x17 (some (x17, μ16)))))) else (m_chk 1 μ4 (m_gt μ4 l0 5) (
m_chk 0 μ4 (m_gt μ4 (m_gt μ4 l0 5) 6) (
b2 (jX0_put N (m_gt μ4 (m_gt μ4 l0 5) 6) (-1) μ4) fun x18 μ17 =>
z_chk x18 (some (x18, μ17)))))) else (b2 (jX3_pair rX3_sum N l0 l1 (-16) μ3) fun x19 μ18 =>
z_chk x19 (some (x19, μ18)))) else (b2 (jX3_pair rX3_sum N l0 l1 (-15) μ2) fun x20 μ19 =>
z_chk x20 (some (x20, μ19)))) else (b2 (jX3_mayOpen N l0 l1 x1 μ1) fun x21 μ20 =>
if x21 = 0 then (jX3_part_42 rX3_sum N l0 μ20) else (b2 (rX3_sum l0 (i_add l1 1) μ20) fun x22 μ21 =>
if x22 = 0 then (jX3_part_42 rX3_sum N l0 μ21) else (b2 (jX3_takesSign N l0 41 μ21) fun x23 μ22 =>
if ¬ x23 = 0 then (jX3_part_54 rX3_sum N l0 μ22) else (jX3_part_42 rX3_sum N l0 μ22))))
-- X3_product
def jX3_product_78 (rX3_sum : Int → Int → Mm → Option (Int × Mm)) (N : Nat) (l0 : Int) (μ : Mm) : Option (Int × Mm) :=
  some (0, μ)
def jX3_product_49 (rX3_sum : Int → Int → Mm → Option (Int × Mm)) (k12 : Int → Int → Int → Mm → Option (Int × Mm)) (N : Nat) (l0 l1 l2 s0 : Int) (μ : Mm) : Option (Int × Mm) :=
  if ¬ s0 = 0 then (b2 (jX3_part rX3_sum N l0 l1 μ) fun x1 μ1 =>
if x1 = 0 then (jX3_product_78 rX3_sum N l0 μ1) else (m_chk 1 μ1 (m_gt μ1 l0 5) (
m_chk 0 μ1 (m_gt μ1 (m_gt μ1 l0 5) 6) (
b2 (jX0_put N (m_gt μ1 (m_gt μ1 l0 5) 6) s0 μ1) fun x2 μ2 =>
if ¬ x2 = 0 then (bnd (i_add l2 1) fun x3 =>
k12 l0 l1 x3 μ2) else (jX3_product_78 rX3_sum N l0 μ2))))) else (some (1, μ))
def jX3_product_12b (rX3_sum : Int → Int → Mm → Option (Int × Mm)) (k12 : Int → Int → Int → Mm → Option (Int × Mm)) (N : Nat) (l0 l1 l2 : Int) (μ : Mm) : Option (Int × Mm) :=
  if (m_gt μ l0 3) ≤ l2 then (some (1, μ)) else (b2 (jX3_takesSign N l0 42 μ) fun x1 μ1 =>
if x1 = 0 then (b2 (jX3_takesSign N l0 47 μ1) fun x2 μ2 =>
if x2 = 0 then (jX3_product_49 rX3_sum k12 N l0 l1 l2 0 μ2) else (jX3_product_49 rX3_sum k12 N l0 l1 l2 (-14) μ2)) else (jX3_product_49 rX3_sum k12 N l0 l1 l2 (-13) μ1))
def jX3_product_12 (rX3_sum : Int → Int → Mm → Option (Int × Mm)) (N : Nat) : Nat → Int → Int → Int → Mm → Option (Int × Mm)
  | 0 => fun _ _ _ _ => none
  | n + 1 => fun l0 l1 l2 μ => jX3_product_12b rX3_sum (jX3_product_12 rX3_sum N n) N l0 l1 l2 μ
def jX3_product (rX3_sum : Int → Int → Mm → Option (Int × Mm)) (N : Nat) (l0 l1 : Int) (μ : Mm) : Option (Int × Mm) :=
  b2 (jX3_part rX3_sum N l0 l1 μ) fun x1 μ1 =>
if ¬ x1 = 0 then (jX3_product_12 rX3_sum N N l0 l1 0 μ1) else (some (0, μ1))
-- X3_sum
def jX3_sum_78 (rX3_sum : Int → Int → Mm → Option (Int × Mm)) (N : Nat) (l0 : Int) (μ : Mm) : Option (Int × Mm) :=
  some (0, μ)
def jX3_sum_49 (rX3_sum : Int → Int → Mm → Option (Int × Mm)) (k12 : Int → Int → Int → Mm → Option (Int × Mm)) (N : Nat) (l0 l1 l2 s0 : Int) (μ : Mm) : Option (Int × Mm) :=
  if ¬ s0 = 0 then (b2 (jX3_product rX3_sum N l0 l1 μ) fun x1 μ1 =>
if x1 = 0 then (jX3_sum_78 rX3_sum N l0 μ1) else (m_chk 1 μ1 (m_gt μ1 l0 5) (
m_chk 0 μ1 (m_gt μ1 (m_gt μ1 l0 5) 6) (
b2 (jX0_put N (m_gt μ1 (m_gt μ1 l0 5) 6) s0 μ1) fun x2 μ2 =>
if ¬ x2 = 0 then (bnd (i_add l2 1) fun x3 =>
k12 l0 l1 x3 μ2) else (jX3_sum_78 rX3_sum N l0 μ2))))) else (some (1, μ))
def jX3_sum_12b (rX3_sum : Int → Int → Mm → Option (Int × Mm)) (k12 : Int → Int → Int → Mm → Option (Int × Mm)) (N : Nat) (l0 l1 l2 : Int) (μ : Mm) : Option (Int × Mm) :=
  if (m_gt μ l0 3) ≤ l2 then (some (1, μ)) else (b2 (jX3_takesSign N l0 43 μ) fun x1 μ1 =>
if x1 = 0 then (b2 (jX3_takesSign N l0 45 μ1) fun x2 μ2 =>
if x2 = 0 then (jX3_sum_49 rX3_sum k12 N l0 l1 l2 0 μ2) else (jX3_sum_49 rX3_sum k12 N l0 l1 l2 (-12) μ2)) else (jX3_sum_49 rX3_sum k12 N l0 l1 l2 (-11) μ1))
def jX3_sum_12 (rX3_sum : Int → Int → Mm → Option (Int × Mm)) (N : Nat) : Nat → Int → Int → Int → Mm → Option (Int × Mm)
  | 0 => fun _ _ _ _ => none
  | n + 1 => fun l0 l1 l2 μ => jX3_sum_12b rX3_sum (jX3_sum_12 rX3_sum N n) N l0 l1 l2 μ
def jX3_sum_B (rX3_sum : Int → Int → Mm → Option (Int × Mm)) (N : Nat) (l0 l1 : Int) (μ : Mm) : Option (Int × Mm) :=
  b2 (jX3_product rX3_sum N l0 l1 μ) fun x1 μ1 =>
if ¬ x1 = 0 then (jX3_sum_12 rX3_sum N N l0 l1 0 μ1) else (some (0, μ1))
def jX3_sum (N : Nat) : Nat → Int → Int → Mm → Option (Int × Mm)
  | 0 => fun _ _ _ => none
  | n + 1 => fun l0 l1 μ => jX3_sum_B (jX3_sum N n) N l0 l1 μ
-- X3_both
def jX3_both_60 (rX3_fact : Int → Int → Mm → Option (Int × Mm)) (N : Nat) (l0 : Int) (μ : Mm) : Option (Int × Mm) :=
  some (1, μ)
def jX3_both_52 (rX3_fact : Int → Int → Mm → Option (Int × Mm)) (N : Nat) (l0 : Int) (μ : Mm) : Option (Int × Mm) :=
  some (0, μ)
def jX3_both_12b (rX3_fact : Int → Int → Mm → Option (Int × Mm)) (k12 : Int → Int → Int → Mm → Option (Int × Mm)) (N : Nat) (l0 l1 l2 : Int) (μ : Mm) : Option (Int × Mm) :=
  if (m_gt μ l0 3) ≤ l2 then (jX3_both_60 rX3_fact N l0 μ) else (b2 (jX3_takes N l0 (-28) μ) fun x1 μ1 =>
if x1 = 0 then (jX3_both_60 rX3_fact N l0 μ1) else (b2 (rX3_fact l0 l1 μ1) fun x2 μ2 =>
if x2 = 0 then (jX3_both_52 rX3_fact N l0 μ2) else (m_chk 1 μ2 (m_gt μ2 l0 5) (
m_chk 0 μ2 (m_gt μ2 (m_gt μ2 l0 5) 6) (
b2 (jX0_put N (m_gt μ2 (m_gt μ2 l0 5) 6) (-20) μ2) fun x3 μ3 =>
if ¬ x3 = 0 then (bnd (i_add l2 1) fun x4 =>
k12 l0 l1 x4 μ3) else (jX3_both_52 rX3_fact N l0 μ3))))))
def jX3_both_12 (rX3_fact : Int → Int → Mm → Option (Int × Mm)) (N : Nat) : Nat → Int → Int → Int → Mm → Option (Int × Mm)
  | 0 => fun _ _ _ _ => none
  | n + 1 => fun l0 l1 l2 μ => jX3_both_12b rX3_fact (jX3_both_12 rX3_fact N n) N l0 l1 l2 μ
def jX3_both (rX3_fact : Int → Int → Mm → Option (Int × Mm)) (N : Nat) (l0 l1 : Int) (μ : Mm) : Option (Int × Mm) :=
  b2 (rX3_fact l0 l1 μ) fun x1 μ1 =>
if ¬ x1 = 0 then (jX3_both_12 rX3_fact N N l0 l1 0 μ1) else (some (0, μ1))
-- X3_test
def jX3_test_60 (rX3_fact : Int → Int → Mm → Option (Int × Mm)) (N : Nat) (l0 : Int) (μ : Mm) : Option (Int × Mm) :=
  some (1, μ)
def jX3_test_52 (rX3_fact : Int → Int → Mm → Option (Int × Mm)) (N : Nat) (l0 : Int) (μ : Mm) : Option (Int × Mm) :=
  some (0, μ)
def jX3_test_12b (rX3_fact : Int → Int → Mm → Option (Int × Mm)) (k12 : Int → Int → Int → Mm → Option (Int × Mm)) (N : Nat) (l0 l1 l2 : Int) (μ : Mm) : Option (Int × Mm) :=
  if (m_gt μ l0 3) ≤ l2 then (jX3_test_60 rX3_fact N l0 μ) else (b2 (jX3_takes N l0 (-29) μ) fun x1 μ1 =>
if x1 = 0 then (jX3_test_60 rX3_fact N l0 μ1) else (b2 (jX3_both rX3_fact N l0 l1 μ1) fun x2 μ2 =>
if x2 = 0 then (jX3_test_52 rX3_fact N l0 μ2) else (m_chk 1 μ2 (m_gt μ2 l0 5) (
m_chk 0 μ2 (m_gt μ2 (m_gt μ2 l0 5) 6) (
b2 (jX0_put N (m_gt μ2 (m_gt μ2 l0 5) 6) (-21) μ2) fun x3 μ3 =>
if ¬ x3 = 0 then (bnd (i_add l2 1) fun x4 =>
k12 l0 l1 x4 μ3) else (jX3_test_52 rX3_fact N l0 μ3))))))
def jX3_test_12 (rX3_fact : Int → Int → Mm → Option (Int × Mm)) (N : Nat) : Nat → Int → Int → Int → Mm → Option (Int × Mm)
  | 0 => fun _ _ _ _ => none
  | n + 1 => fun l0 l1 l2 μ => jX3_test_12b rX3_fact (jX3_test_12 rX3_fact N n) N l0 l1 l2 μ
def jX3_test (rX3_fact : Int → Int → Mm → Option (Int × Mm)) (N : Nat) (l0 l1 : Int) (μ : Mm) : Option (Int × Mm) :=
  b2 (jX3_both rX3_fact N l0 l1 μ) fun x1 μ1 =>
if ¬ x1 = 0 then (jX3_test_12 rX3_fact N N l0 l1 0 μ1) else (some (0, μ1))
-- X3_fact
def jX3_fact_225 (rX3_fact : Int → Int → Mm → Option (Int × Mm)) (N : Nat) (l0 s0 : Int) (μ : Mm) : Option (Int × Mm) :=
  z_chk s0 (some (s0, μ))
def jX3_fact_224 (rX3_fact : Int → Int → Mm → Option (Int × Mm)) (N : Nat) (l0 : Int) (μ : Mm) : Option (Int × Mm) :=
  jX3_fact_225 rX3_fact N l0 0 μ
def jX3_fact_183 (rX3_fact : Int → Int → Mm → Option (Int × Mm)) (N : Nat) (l0 l1 s0 : Int) (μ : Mm) : Option (Int × Mm) :=
  if ¬ s0 = 0 then (b2 (jX3_sum N 10 l0 l1 μ) fun x1 μ1 =>
if x1 = 0 then (jX3_fact_224 rX3_fact N l0 μ1) else (m_chk 1 μ1 (m_gt μ1 l0 5) (
m_chk 0 μ1 (m_gt μ1 (m_gt μ1 l0 5) 6) (
b2 (jX0_put N (m_gt μ1 (m_gt μ1 l0 5) 6) s0 μ1) fun x2 μ2 =>
if x2 = 0 then (jX3_fact_224 rX3_fact N l0 μ2) else (jX3_fact_225 rX3_fact N l0 1 μ2))))) else (b2 (jX3_fail N l0 1 (m_gt μ l0 4) μ) fun x3 μ3 =>
z_chk x3 (some (x3, μ3)))
def jX3_fact_108 (rX3_fact : Int → Int → Mm → Option (Int × Mm)) (N : Nat) (l0 s0 : Int) (μ : Mm) : Option (Int × Mm) :=
  z_chk s0 (some (s0, μ))
def jX3_fact_103 (rX3_fact : Int → Int → Mm → Option (Int × Mm)) (N : Nat) (l0 : Int) (μ : Mm) : Option (Int × Mm) :=
  jX3_fact_108 rX3_fact N l0 1 μ
def jX3_fact_91 (rX3_fact : Int → Int → Mm → Option (Int × Mm)) (N : Nat) (l0 : Int) (μ : Mm) : Option (Int × Mm) :=
  b2 (jX3_fail N l0 1 (m_gt μ l0 4) μ) fun x1 μ1 =>
if x1 = 0 then (jX3_fact_108 rX3_fact N l0 0 μ1) else (jX3_fact_103 rX3_fact N l0 μ1)
def jX3_fact_53 (rX3_fact : Int → Int → Mm → Option (Int × Mm)) (N : Nat) (l0 s0 : Int) (μ : Mm) : Option (Int × Mm) :=
  z_chk s0 (some (s0, μ))
def jX3_fact_52 (rX3_fact : Int → Int → Mm → Option (Int × Mm)) (N : Nat) (l0 : Int) (μ : Mm) : Option (Int × Mm) :=
  jX3_fact_53 rX3_fact N l0 0 μ
def jX3_fact_B (rX3_fact : Int → Int → Mm → Option (Int × Mm)) (N : Nat) (l0 l1 : Int) (μ : Mm) : Option (Int × Mm) :=
  bnd (m_gt μ l0 4) fun x1 =>
b2 (jX3_takes N l0 (-26) μ) fun x2 μ1 =>
if x2 = 0 then (b2 (jX3_takesSign N l0 91 μ1) fun x3 μ2 =>
if x3 = 0 then (b2 (jX3_takes N l0 (-27) μ2) fun x4 μ3 =>
if x4 = 0 then (b2 (jX3_sum N 10 l0 l1 μ3) fun x5 μ4 =>
if ¬ x5 = 0 then (b2 (jX3_takesSign N l0 60 μ4) fun x6 μ5 =>
if x6 = 0 then (b2 (jX3_takesSign N l0 62 μ5) fun x7 μ6 =>
if x7 = 0 then (b2 (jX3_takesSign N l0 61 μ6) fun x8 μ7 =>
if x8 = 0 then (jX3_fact_183 rX3_fact N l0 l1 0 μ7) else (jX3_fact_183 rX3_fact N l0 l1 (-19) μ7)) else (jX3_fact_183 rX3_fact N l0 l1 (-18) μ6)) else (jX3_fact_183 rX3_fact N l0 l1 (-17) μ5)) else (some (0, μ4))) else (m_chk 1 μ3 (m_gt μ3 l0 5) (
m_chk 0 μ3 (m_gt μ3 (m_gt μ3 l0 5) 6) (
b2 (jX0_put N (m_gt μ3 (m_gt μ3 l0 5) 6) 1 μ3) fun x9 μ8 =>
z_chk x9 (some (x9, μ8)))))) else (b2 (jX3_mayOpen N l0 l1 x1 μ2) fun x10 μ9 =>
if x10 = 0 then (jX3_fact_91 rX3_fact N l0 μ9) else (b2 (jX3_test rX3_fact N l0 (i_add l1 1) μ9) fun x11 μ10 =>
if x11 = 0 then (jX3_fact_91 rX3_fact N l0 μ10) else (b2 (jX3_takesSign N l0 93 μ10) fun x12 μ11 =>
if ¬ x12 = 0 then (jX3_fact_103 rX3_fact N l0 μ11) else (jX3_fact_91 rX3_fact N l0 μ11))))) else (b2 (jX3_mayOpen N l0 l1 x1 μ1) fun x13 μ12 =>
if x13 = 0 then (jX3_fact_52 rX3_fact N l0 μ12) else (b2 (rX3_fact l0 (i_add l1 1) μ12) fun x14 μ13 =>
if x14 = 0 then (jX3_fact_52 rX3_fact N l0 μ13) else (m_chk 1 μ13 (m_gt μ13 l0 5) (
m_chk 0 μ13 (m_gt μ13 (m_gt μ13 l0 5) 6) (
b2 (jX0_put N (m_gt μ13 (m_gt μ13 l0 5) 6) (-22) μ13) fun x15 μ14 =>
if x15 = 0 then (jX3_fact_52 rX3_fact N l0 μ14) else (jX3_fact_53 rX3_fact N l0 1 μ14))))))
def jX3_fact (N : Nat) : Nat → Int → Int → Mm → Option (Int × Mm)
  | 0 => fun _ _ _ => none
  | n + 1 => fun l0 l1 μ => jX3_fact_B (jX3_fact N n) N l0 l1 μ
-- X3_init
def jX3_init (N : Nat) (l0 l1 : Int) (μ : Mm) : Option (Mm) :=
  bnd (m_st μ l0 0 0) fun μ1 =>
bnd (m_st μ1 l0 1 (-1)) fun μ2 =>
(m_na 100 μ2 0).bind fun μ3 =>
bnd (m_st μ3 l0 2 (m_sz μ2 : Int)) fun μ4 =>
bnd (m_st μ4 l0 3 0) fun μ5 =>
bnd (m_st μ5 l0 4 0) fun μ6 =>
bnd (m_st μ6 l0 5 l1) fun μ7 =>
some μ7
-- X3_expectsWord
def jX3_expectsWord_25 (N : Nat) (l0 s0 : Int) (μ : Mm) : Option (Int × Mm) :=
  z_chk s0 (some (s0, μ))
def jX3_expectsWord_20 (N : Nat) (l0 : Int) (μ : Mm) : Option (Int × Mm) :=
  jX3_expectsWord_25 N l0 1 μ
def jX3_expectsWord (N : Nat) (l0 l1 : Int) (μ : Mm) : Option (Int × Mm) :=
  b2 (jX3_takes N l0 l1 μ) fun x1 μ1 =>
if ¬ x1 = 0 then (jX3_expectsWord_20 N l0 μ1) else (b2 (jX3_fail N l0 1 (m_gt μ1 l0 4) μ1) fun x2 μ2 =>
if x2 = 0 then (jX3_expectsWord_25 N l0 0 μ2) else (jX3_expectsWord_20 N l0 μ2))
-- X3_clean
def jX3_clean_49 (N : Nat) (l0 s0 : Int) (μ : Mm) : Option (Int × Mm) :=
  z_chk s0 (some (s0, μ))
def jX3_clean_21 (N : Nat) (l0 : Int) (μ : Mm) : Option (Int × Mm) :=
  some (0, μ)
def jX3_clean (N : Nat) (l0 : Int) (μ : Mm) : Option (Int × Mm) :=
  b2 (jX3_number N l0 1 3 μ) fun x1 μ1 =>
if x1 = (-1) then (jX3_clean_21 N l0 μ1) else (b2 (jX3_expectsWord N l0 (-15) μ1) fun x2 μ2 =>
if ¬ x2 = 0 then (b2 (jX3_number N l0 0 3 μ2) fun x3 μ3 =>
m_chk 1 μ3 (m_gt μ3 l0 5) (
(jX1_setEarned N (m_gt μ3 l0 5) x1 x3 μ3).bind fun μ4 =>
if x3 = (-1) then (jX3_clean_49 N l0 0 μ4) else (jX3_clean_49 N l0 1 μ4))) else (jX3_clean_21 N l0 μ2))
-- X3_handicap
def jX3_handicap (N : Nat) (l0 : Int) (μ : Mm) : Option (Int × Mm) :=
  m_chk 1 μ (m_gt μ l0 5) (
m_chk 0 μ (m_gt μ (m_gt μ l0 5) 6) (
b2 (jX0_sizeNow N (m_gt μ (m_gt μ l0 5) 6) μ) fun x1 μ1 =>
b2 (jX3_sum N 10 l0 0 μ1) fun x2 μ2 =>
if ¬ x2 = 0 then (m_chk 1 μ2 (m_gt μ2 l0 5) (
(jX1_setHandicap N (m_gt μ2 l0 5) x1 μ2).bind fun μ3 =>
some (1, μ3))) else (some (0, μ2))))
-- X3_joins
def jX3_joins (N : Nat) (l0 : Int) (μ : Mm) : Option (Int × Mm) :=
  b2 (jX3_number N l0 0 8 μ) fun x1 μ1 =>
if ¬ x1 = (-1) then (bnd (m_gt μ1 l0 4) fun x2 =>
b2 (jX3_number N l0 0 8 μ1) fun x3 μ2 =>
if ¬ x3 = (-1) then (if ¬ x3 = x1 then (m_chk 1 μ2 (m_gt μ2 l0 5) (
(jX1_joinPins N (m_gt μ2 l0 5) x1 x3 μ2).bind fun μ3 =>
some (1, μ3))) else (b2 (jX3_fail N l0 2 x2 μ2) fun x4 μ4 =>
z_chk x4 (some (x4, μ4)))) else (some (0, μ2))) else (some (0, μ1))
-- X3_worth
def jX3_worth_28 (N : Nat) (l0 : Int) (μ : Mm) : Option (Int × Mm) :=
  some (0, μ)
def jX3_worth (N : Nat) (l0 : Int) (μ : Mm) : Option (Int × Mm) :=
  m_chk 1 μ (m_gt μ l0 5) (
m_chk 0 μ (m_gt μ (m_gt μ l0 5) 6) (
b2 (jX0_sizeNow N (m_gt μ (m_gt μ l0 5) 6) μ) fun x1 μ1 =>
b2 (jX3_sum N 10 l0 0 μ1) fun x2 μ2 =>
if x2 = 0 then (jX3_worth_28 N l0 μ2) else (b2 (jX3_expectsWord N l0 (-25) μ2) fun x3 μ3 =>
if ¬ x3 = 0 then (m_chk 1 μ3 (m_gt μ3 l0 5) (
m_chk 0 μ3 (m_gt μ3 (m_gt μ3 l0 5) 6) (
b2 (jX0_sizeNow N (m_gt μ3 (m_gt μ3 l0 5) 6) μ3) fun x4 μ4 =>
b2 (jX3_test (jX3_fact N 10) N l0 0 μ4) fun x5 μ5 =>
if ¬ x5 = 0 then (m_chk 1 μ5 (m_gt μ5 l0 5) (
(jX1_addWorth N (m_gt μ5 l0 5) x1 x4 μ5).bind fun μ6 =>
some (1, μ6))) else (some (0, μ5))))) else (jX3_worth_28 N l0 μ3))))
-- X3_statement
def jX3_statement_181 (N : Nat) (l0 s0 : Int) (μ : Mm) : Option (Int × Mm) :=
  z_chk s0 (some (s0, μ))
def jX3_statement_169 (N : Nat) (l0 : Int) (μ : Mm) : Option (Int × Mm) :=
  if ¬ (m_gt μ l0 0) = 0 then (jX3_statement_181 N l0 0 μ) else (jX3_statement_181 N l0 1 μ)
def jX3_statement (N : Nat) (l0 : Int) (μ : Mm) : Option (Int × Mm) :=
  b2 (jX3_takes N l0 (-10) μ) fun x1 μ1 =>
if x1 = 0 then (b2 (jX3_takes N l0 (-11) μ1) fun x2 μ2 =>
if x2 = 0 then (b2 (jX3_takes N l0 (-12) μ2) fun x3 μ3 =>
if x3 = 0 then (b2 (jX3_takes N l0 (-13) μ3) fun x4 μ4 =>
if x4 = 0 then (b2 (jX3_takes N l0 (-14) μ4) fun x5 μ5 =>
if x5 = 0 then (b2 (jX3_takes N l0 (-16) μ5) fun x6 μ6 =>
if x6 = 0 then (b2 (jX3_takes N l0 (-30) μ6) fun x7 μ7 =>
if x7 = 0 then (b2 (jX3_takes N l0 (-31) μ7) fun x8 μ8 =>
if x8 = 0 then (b2 (jX3_fail N l0 1 (m_gt μ8 l0 4) μ8) fun x9 μ9 =>
z_chk x9 (some (x9, μ9))) else (b2 (jX3_joins N l0 μ8) fun x10 μ10 =>
z_chk x10 (some (x10, μ10)))) else (b2 (jX3_handicap N l0 μ7) fun x11 μ11 =>
z_chk x11 (some (x11, μ11)))) else (b2 (jX3_worth N l0 μ6) fun x12 μ12 =>
z_chk x12 (some (x12, μ12)))) else (b2 (jX3_clean N l0 μ5) fun x13 μ13 =>
z_chk x13 (some (x13, μ13)))) else (b2 (jX3_number N l0 0 10 μ4) fun x14 μ14 =>
m_chk 1 μ14 (m_gt μ4 l0 5) (
bnd (m_st μ14 (m_gt μ4 l0 5) 4 x14) fun μ15 =>
jX3_statement_169 N l0 μ15))) else (b2 (jX3_number N l0 1 3 μ3) fun x15 μ16 =>
m_chk 1 μ16 (m_gt μ3 l0 5) (
bnd (m_st μ16 (m_gt μ3 l0 5) 3 x15) fun μ17 =>
jX3_statement_169 N l0 μ17))) else (b2 (jX3_number N l0 1 8 μ2) fun x16 μ18 =>
m_chk 1 μ18 (m_gt μ2 l0 5) (
bnd (m_st μ18 (m_gt μ2 l0 5) 2 x16) fun μ19 =>
jX3_statement_169 N l0 μ19))) else (b2 (jX3_number N l0 1 9 μ1) fun x17 μ20 =>
m_chk 1 μ20 (m_gt μ1 l0 5) (
bnd (m_st μ20 (m_gt μ1 l0 5) 1 x17) fun μ21 =>
jX3_statement_169 N l0 μ21))
-- X3_read
def jX3_read_111 (N : Nat) (l0 : Int) (μ : Mm) : Option (Int × Mm) :=
  b2 (jX3_fail N l0 1 (m_gt μ l0 4) μ) fun x1 μ1 =>
z_chk x1 (some (x1, μ1))
def jX3_read_49b (k49 : Int → Int → Mm → Option (Int × Mm)) (N : Nat) (l0 l4 : Int) (μ : Mm) : Option (Int × Mm) :=
  if 30 < l4 then (some (0, μ)) else (m_chk 1 μ (m_gt μ l0 5) (
bnd (m_st μ (m_gt μ l0 5) 0 l4) fun μ1 =>
if (m_gt μ1 l0 4) < (m_gt μ1 l0 3) then (if ¬ l4 = 30 then (b2 (jX3_statement N l0 μ1) fun x1 μ2 =>
if x1 = 0 then (jX3_read_111 N l0 μ2) else (b2 (jX3_takesSign N l0 59 μ2) fun x2 μ3 =>
if ¬ x2 = 0 then (bnd (i_add l4 1) fun x3 =>
k49 l0 x3 μ3) else (jX3_read_111 N l0 μ3))) else (b2 (jX3_fail N l0 5 (m_gt μ1 l0 4) μ1) fun x4 μ4 =>
z_chk x4 (some (x4, μ4)))) else (some (1, μ1))))
def jX3_read_49 (N : Nat) : Nat → Int → Int → Mm → Option (Int × Mm)
  | 0 => fun _ _ _ => none
  | n + 1 => fun l0 l4 μ => jX3_read_49b (jX3_read_49 N n) N l0 l4 μ
def jX3_read (N : Nat) (l0 l1 l2 l3 : Int) (μ : Mm) : Option (Int × Mm) :=
  bnd (m_st μ l0 2 l1) fun μ1 =>
(m_len μ1 l1).bind fun x1 =>
bnd (m_st μ1 l0 3 (i_min l2 x1)) fun μ2 =>
bnd (m_st μ2 l0 4 0) fun μ3 =>
bnd (m_st μ3 l0 0 0) fun μ4 =>
bnd (m_st μ4 l0 1 (-1)) fun μ5 =>
bnd (m_st μ5 l0 5 l3) fun μ6 =>
m_chk 1 μ6 (m_gt μ6 l0 5) (
(jX1_empty N (m_gt μ6 l0 5) μ6).bind fun μ7 =>
(jX3_skip N l0 μ7).bind fun μ8 =>
jX3_read_49 N N l0 0 μ8)
