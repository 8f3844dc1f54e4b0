-- X8_back
def jX8_back (N : Nat) (l0 : Int) (μ : Mm) : Option (Int × Mm) :=
  if ¬ (m_gt μ l0 58) = 0 then (bnd (m_st μ l0 58 (i_sub (m_gt μ l0 58) 1)) fun μ1 =>
bnd (m_st μ1 l0 78 0) fun μ2 =>
bnd (m_st μ2 l0 72 0) fun μ3 =>
some (1, μ3)) else (some (0, μ))
-- X8_clear
def jX8_clear (N : Nat) (l0 : Int) (μ : Mm) : Option (Int × Mm) :=
  bnd (m_gt μ l0 58) fun x1 =>
bnd (m_st μ l0 58 0) fun μ1 =>
bnd (m_st μ1 l0 78 0) fun μ2 =>
bnd (m_st μ2 l0 72 0) fun μ3 =>
some (x1, μ3)
-- X8_endOfComing
def jX8_endOfComing_22 (k2 : Int → Int → Int → Mm → Option (Int × Mm)) (N : Nat) (l0 l1 l2 s0 : Int) (μ : Mm) : Option (Int × Mm) :=
  (m_ald 101 μ (m_gt μ l0 77) s0).bind fun x1 =>
if (l_cmp x1 0) ≤ 0 then (bnd (i_add l2 1) fun x2 =>
k2 l0 l1 x2 μ) else (some (i_sub s0 1060, μ))
def jX8_endOfComing_2b (k2 : Int → Int → Int → Mm → Option (Int × Mm)) (N : Nat) (l0 l1 l2 : Int) (μ : Mm) : Option (Int × Mm) :=
  if 2120 ≤ l2 then (some ((-1000000), μ)) else (if l1 = 0 then (jX8_endOfComing_22 k2 N l0 l1 l2 l2 μ) else (jX8_endOfComing_22 k2 N l0 l1 l2 (i_sub 2119 l2) μ))
def jX8_endOfComing_2 (N : Nat) : Nat → Int → Int → Int → Mm → Option (Int × Mm)
  | 0 => fun _ _ _ _ => none
  | n + 1 => fun l0 l1 l2 μ => jX8_endOfComing_2b (jX8_endOfComing_2 N n) N l0 l1 l2 μ
def jX8_endOfComing (N : Nat) (l0 l1 : Int) (μ : Mm) : Option (Int × Mm) :=
  jX8_endOfComing_2 N N l0 l1 0 μ
-- X8_capped
def jX8_capped_15 (N : Nat) (s0 : Int) (μ : Mm) : Option (Int × Mm) :=
  some (s0, μ)
def jX8_capped (N : Nat) (l0 : Int) (μ : Mm) : Option (Int × Mm) :=
  if (l_cmp l0 1000000000000000000) ≤ 0 then (jX8_capped_15 N l0 μ) else (jX8_capped_15 N 1000000000000000000 μ)
-- X8_cell
def jX8_cell (N : Nat) (l0 l1 l2 : Int) (μ : Mm) : Option (Int × Mm) :=
  some (i_add (i_add (i_mul (i_add (i_mul 24 l0) l1) 1060) 460) l2, μ)
-- X8_oneOf
def jX8_oneOf (N : Nat) (l0 : Int) (μ : Mm) : Option (Int × Mm) :=
  some (i_div l0 6, μ)
-- X8_comesByFills
def jX8_comesByFills_196 (k19 : Int → Int → Int → Int → Int → Int → Mm → Option (Mm)) (N : Nat) (l0 l1 l2 l3 l4 l5 : Int) (μ : Mm) : Option (Mm) :=
  bnd (i_add l5 1) fun x1 =>
k19 l0 l1 l2 l3 l4 x1 μ
def jX8_comesByFills_143 (k19 : Int → Int → Int → Int → Int → Int → Mm → Option (Mm)) (k86 : Int → Int → Int → Int → Int → Int → Int → Int → Mm → Option (Mm)) (k129 : Int → Int → Int → Int → Int → Int → Int → Int → Int → Int → Mm → Option (Mm)) (N : Nat) (l0 l1 l2 l3 l4 l5 l6 l7 l8 l9 s0 s1 : Int) (μ : Mm) : Option (Mm) :=
  if s0 < s1 then (bnd (i_add l7 1) fun x1 =>
k86 l0 l1 l2 l3 l4 l5 l6 x1 μ) else (b2 (jX8_oneOf N l2 μ) fun x2 μ1 =>
(m_ald 101 μ1 (m_gt μ l0 77) (i_add (i_add (i_add (i_add 1060 l1) (i_mul l5 x2)) (i_mul l7 (i_rem (i_div l2 2) 3))) (i_mul l9 (i_rem l2 2)))).bind fun x3 =>
(m_ast 101 μ1 (m_gt μ l0 77) (i_add (i_add (i_add (i_add 1060 l1) (i_mul l5 x2)) (i_mul l7 (i_rem (i_div l2 2) 3))) (i_mul l9 (i_rem l2 2))) (l_add x3 1)).bind fun μ2 =>
bnd (i_add l9 1) fun x4 =>
k129 l0 l1 l2 l3 l4 l5 l6 l7 l8 x4 μ2)
def jX8_comesByFills_129b (k19 : Int → Int → Int → Int → Int → Int → Mm → Option (Mm)) (k86 : Int → Int → Int → Int → Int → Int → Int → Int → Mm → Option (Mm)) (k129 : Int → Int → Int → Int → Int → Int → Int → Int → Int → Int → Mm → Option (Mm)) (N : Nat) (l0 l1 l2 l3 l4 l5 l6 l7 l8 l9 : Int) (μ : Mm) : Option (Mm) :=
  if l4 ≤ 2 then (jX8_comesByFills_143 k19 k86 k129 N l0 l1 l2 l3 l4 l5 l6 l7 l8 l9 0 l9 μ) else (jX8_comesByFills_143 k19 k86 k129 N l0 l1 l2 l3 l4 l5 l6 l7 l8 l9 l8 l9 μ)
def jX8_comesByFills_129 (k19 : Int → Int → Int → Int → Int → Int → Mm → Option (Mm)) (k86 : Int → Int → Int → Int → Int → Int → Int → Int → Mm → Option (Mm)) (N : Nat) : Nat → Int → Int → Int → Int → Int → Int → Int → Int → Int → Int → Mm → Option (Mm)
  | 0 => fun _ _ _ _ _ _ _ _ _ _ _ => none
  | n + 1 => fun l0 l1 l2 l3 l4 l5 l6 l7 l8 l9 μ => jX8_comesByFills_129b k19 k86 (jX8_comesByFills_129 k19 k86 N n) N l0 l1 l2 l3 l4 l5 l6 l7 l8 l9 μ
def jX8_comesByFills_124 (k19 : Int → Int → Int → Int → Int → Int → Mm → Option (Mm)) (k86 : Int → Int → Int → Int → Int → Int → Int → Int → Mm → Option (Mm)) (N : Nat) (l0 l1 l2 l3 l4 l5 l6 l7 s0 : Int) (μ : Mm) : Option (Mm) :=
  jX8_comesByFills_129 k19 k86 N N l0 l1 l2 l3 l4 l5 l6 l7 s0 0 μ
def jX8_comesByFills_100 (k19 : Int → Int → Int → Int → Int → Int → Mm → Option (Mm)) (k86 : Int → Int → Int → Int → Int → Int → Int → Int → Mm → Option (Mm)) (N : Nat) (l0 l1 l2 l3 l4 l5 l6 l7 s0 s1 : Int) (μ : Mm) : Option (Mm) :=
  if s0 < s1 then (jX8_comesByFills_196 k19 N l0 l1 l2 l3 l4 l5 μ) else (if ¬ l7 = l6 then (jX8_comesByFills_124 k19 k86 N l0 l1 l2 l3 l4 l5 l6 l7 (i_sub l6 l7) μ) else ((m_ald 100 μ (m_gt μ l0 31) 1).bind fun x1 =>
jX8_comesByFills_124 k19 k86 N l0 l1 l2 l3 l4 l5 l6 l7 x1 μ))
def jX8_comesByFills_86b (k19 : Int → Int → Int → Int → Int → Int → Mm → Option (Mm)) (k86 : Int → Int → Int → Int → Int → Int → Int → Int → Mm → Option (Mm)) (N : Nat) (l0 l1 l2 l3 l4 l5 l6 l7 : Int) (μ : Mm) : Option (Mm) :=
  if l4 ≤ 1 then (jX8_comesByFills_100 k19 k86 N l0 l1 l2 l3 l4 l5 l6 l7 0 l7 μ) else (jX8_comesByFills_100 k19 k86 N l0 l1 l2 l3 l4 l5 l6 l7 l6 l7 μ)
def jX8_comesByFills_86 (k19 : Int → Int → Int → Int → Int → Int → Mm → Option (Mm)) (N : Nat) : Nat → Int → Int → Int → Int → Int → Int → Int → Int → Mm → Option (Mm)
  | 0 => fun _ _ _ _ _ _ _ _ _ => none
  | n + 1 => fun l0 l1 l2 l3 l4 l5 l6 l7 μ => jX8_comesByFills_86b k19 (jX8_comesByFills_86 k19 N n) N l0 l1 l2 l3 l4 l5 l6 l7 μ
def jX8_comesByFills_81 (k19 : Int → Int → Int → Int → Int → Int → Mm → Option (Mm)) (N : Nat) (l0 l1 l2 l3 l4 l5 s0 : Int) (μ : Mm) : Option (Mm) :=
  jX8_comesByFills_86 k19 N N l0 l1 l2 l3 l4 l5 s0 0 μ
def jX8_comesByFills_56 (k19 : Int → Int → Int → Int → Int → Int → Mm → Option (Mm)) (N : Nat) (l0 l1 l2 l3 l4 l5 : Int) (μ : Mm) : Option (Mm) :=
  if ¬ l5 = (m_gt μ l0 66) then (jX8_comesByFills_81 k19 N l0 l1 l2 l3 l4 l5 (i_sub (m_gt μ l0 66) l5) μ) else ((m_ald 100 μ (m_gt μ l0 31) 1).bind fun x1 =>
jX8_comesByFills_81 k19 N l0 l1 l2 l3 l4 l5 x1 μ)
def jX8_comesByFills_34 (k19 : Int → Int → Int → Int → Int → Int → Mm → Option (Mm)) (N : Nat) (l0 l1 l2 l3 l4 l5 s0 s1 : Int) (μ : Mm) : Option (Mm) :=
  if s0 < s1 then (some μ) else (if l4 ≤ 0 then (jX8_comesByFills_56 k19 N l0 l1 l2 l3 l4 l5 μ) else (if l3 = (-1) then (jX8_comesByFills_56 k19 N l0 l1 l2 l3 l4 l5 μ) else (if l5 = l3 then (jX8_comesByFills_56 k19 N l0 l1 l2 l3 l4 l5 μ) else (jX8_comesByFills_196 k19 N l0 l1 l2 l3 l4 l5 μ))))
def jX8_comesByFills_19b (k19 : Int → Int → Int → Int → Int → Int → Mm → Option (Mm)) (N : Nat) (l0 l1 l2 l3 l4 l5 : Int) (μ : Mm) : Option (Mm) :=
  if l4 ≤ 0 then (jX8_comesByFills_34 k19 N l0 l1 l2 l3 l4 l5 0 l5 μ) else (jX8_comesByFills_34 k19 N l0 l1 l2 l3 l4 l5 (m_gt μ l0 66) l5 μ)
def jX8_comesByFills_19 (N : Nat) : Nat → Int → Int → Int → Int → Int → Int → Mm → Option (Mm)
  | 0 => fun _ _ _ _ _ _ _ => none
  | n + 1 => fun l0 l1 l2 l3 l4 l5 μ => jX8_comesByFills_19b (jX8_comesByFills_19 N n) N l0 l1 l2 l3 l4 l5 μ
def jX8_comesByFills (N : Nat) (l0 l1 l2 l3 : Int) (μ : Mm) : Option (Mm) :=
  (m_ald 100 μ (m_gt μ l0 61) (m_gt μ l0 65)).bind fun x1 =>
bnd (i_sub (m_gt μ l0 67) x1) fun x2 =>
jX8_comesByFills_19 N N l0 l1 l2 l3 x2 0 μ
-- X8_empties
def jX8_empties (N : Nat) (l0 l1 l2 : Int) (μ : Mm) : Option (Mm) :=
  (m_ast 100 μ (m_gt μ l0 60) l1 l2).bind fun μ1 =>
(m_ast 100 μ1 (m_gt μ1 l0 61) l1 0).bind fun μ2 =>
(m_ast 100 μ2 (m_gt μ2 l0 62) l1 0).bind fun μ3 =>
(m_ast 100 μ3 (m_gt μ3 l0 63) l1 0).bind fun μ4 =>
(m_ast 100 μ4 (m_gt μ4 l0 64) l1 0).bind fun μ5 =>
some μ5
-- X8_owes
def jX8_owes (N : Nat) (l0 l1 l2 : Int) (μ : Mm) : Option (Int × Mm) :=
  some (i_add (i_add (i_mul 6 l0) (i_mul 2 l1)) l2, μ)
-- X8_later
def jX8_later (N : Nat) (l0 : Int) (μ : Mm) : Option (Int × Mm) :=
  b2 (jX8_owes N (i_rem (i_div l0 2) 3) (i_rem l0 2) 0 μ) fun x1 μ1 =>
some (x1, μ1)
-- X8_plus
def jX8_plus_25 (N : Nat) (l2 : Int) (μ : Mm) : Option (Int × Mm) :=
  some (l2, μ)
def jX8_plus_17 (N : Nat) (l1 l2 : Int) (μ : Mm) : Option (Int × Mm) :=
  if l1 ≤ 2 then (jX8_plus_25 N l2 μ) else (bnd (i_add l2 1) fun x1 =>
jX8_plus_25 N x1 μ)
def jX8_plus_9 (N : Nat) (l1 l2 : Int) (μ : Mm) : Option (Int × Mm) :=
  if l1 ≤ 1 then (jX8_plus_17 N l1 l2 μ) else (bnd (i_add l2 2) fun x1 =>
jX8_plus_17 N l1 x1 μ)
def jX8_plus (N : Nat) (l0 l1 : Int) (μ : Mm) : Option (Int × Mm) :=
  if l1 ≤ 0 then (jX8_plus_9 N l1 l0 μ) else (bnd (i_add l0 6) fun x1 =>
jX8_plus_9 N l1 x1 μ)
-- X8_taken
def jX8_taken_11 (N : Nat) (s0 : Int) (μ : Mm) : Option (Int × Mm) :=
  some (s0, μ)
def jX8_taken (N : Nat) (l0 : Int) (μ : Mm) : Option (Int × Mm) :=
  if ¬ l0 = (-2) then (jX8_taken_11 N l0 μ) else (jX8_taken_11 N 0 μ)
-- X8_clip
def jX8_clip_29 (N : Nat) (s0 : Int) (μ : Mm) : Option (Int × Mm) :=
  some (s0, μ)
def jX8_clip (N : Nat) (l0 : Int) (μ : Mm) : Option (Int × Mm) :=
  if (l_cmp l0 1000000) ≤ 0 then (if 0 ≤ (l_cmp l0 (-1000000)) then (jX8_clip_29 N l0 μ) else (jX8_clip_29 N (-1000000) μ)) else (jX8_clip_29 N 1000000 μ)
-- X8_floor
def jX8_floor_55 (N : Nat) (s0 : Int) (μ : Mm) : Option (Int × Mm) :=
  some (s0, μ)
def jX8_floor_53 (N : Nat) (l4 : Int) (μ : Mm) : Option (Int × Mm) :=
  jX8_floor_55 N l4 μ
def jX8_floor_43 (N : Nat) (l4 s0 s1 : Int) (μ : Mm) : Option (Int × Mm) :=
  if s1 = s0 then (jX8_floor_53 N l4 μ) else (jX8_floor_55 N (l_sub l4 1) μ)
def jX8_floor_32 (N : Nat) (l2 l4 s0 : Int) (μ : Mm) : Option (Int × Mm) :=
  if 0 ≤ (l_cmp l2 0) then (jX8_floor_43 N l4 0 s0 μ) else (jX8_floor_43 N l4 1 s0 μ)
def jX8_floor (N : Nat) (l0 l2 : Int) (μ : Mm) : Option (Int × Mm) :=
  if ¬ (l_cmp l2 0) = 0 then (n_chk l2 (
bnd (l_div l0 l2) fun x1 =>
n_chk l2 (
if (l_cmp (l_rem l0 l2) 0) = 0 then (jX8_floor_53 N x1 μ) else (if 0 ≤ (l_cmp l0 0) then (jX8_floor_32 N l2 x1 0 μ) else (jX8_floor_32 N l2 x1 1 μ))))) else (some (0, μ))
-- X8_puts
def jX8_puts (N : Nat) (l0 l1 : Int) (μ : Mm) : Option (Mm) :=
  (m_ast 101 μ (m_gt μ l0 50) (m_gt μ l0 51) l1).bind fun μ1 =>
bnd (m_st μ1 l0 51 (i_add (m_gt μ1 l0 51) 1)) fun μ2 =>
some μ2
-- X8_joins
def jX8_joins_289 (N : Nat) (l0 : Int) (μ : Mm) : Option (Mm) :=
  some μ
def jX8_joins_286 (N : Nat) (l0 s0 s1 : Int) (μ : Mm) : Option (Mm) :=
  m_chk 8 μ s1 (
(jX8_puts N s1 s0 μ).bind fun μ1 =>
jX8_joins_289 N l0 μ1)
def jX8_joins_254 (N : Nat) (l0 s0 s1 : Int) (μ : Mm) : Option (Mm) :=
  m_chk 8 μ s1 (
(jX8_puts N s1 s0 μ).bind fun μ1 =>
jX8_joins_289 N l0 μ1)
def jX8_joins_235 (N : Nat) (l0 s0 s1 : Int) (μ : Mm) : Option (Mm) :=
  m_chk 8 μ s1 (
(jX8_puts N s1 s0 μ).bind fun μ1 =>
jX8_joins_289 N l0 μ1)
def jX8_joins_216 (N : Nat) (l0 s0 s1 : Int) (μ : Mm) : Option (Mm) :=
  m_chk 8 μ s1 (
(jX8_puts N s1 s0 μ).bind fun μ1 =>
jX8_joins_289 N l0 μ1)
def jX8_joins_197 (N : Nat) (l0 s0 s1 : Int) (μ : Mm) : Option (Mm) :=
  m_chk 8 μ s1 (
(jX8_puts N s1 s0 μ).bind fun μ1 =>
jX8_joins_289 N l0 μ1)
def jX8_joins_177 (N : Nat) (l0 s0 s1 : Int) (μ : Mm) : Option (Mm) :=
  m_chk 8 μ s1 (
(jX8_puts N s1 s0 μ).bind fun μ1 =>
jX8_joins_289 N l0 μ1)
def jX8_joins (N : Nat) (l0 l1 : Int) (μ : Mm) : Option (Mm) :=
  (m_ald 101 μ (m_gt μ l0 50) (i_sub (m_gt μ l0 51) 1)).bind fun x1 =>
(m_ald 101 μ (m_gt μ l0 50) (i_sub (m_gt μ l0 51) 2)).bind fun x2 =>
bnd (m_st μ l0 51 (i_sub (m_gt μ l0 51) 2)) fun μ1 =>
if l1 = 1 then (b2 (jX8_clip N (l_add x2 x1) μ1) fun x3 μ2 =>
(jX8_puts N l0 x3 μ2).bind fun μ3 =>
jX8_joins_289 N l0 μ3) else (
if l1 = 2 then (b2 (jX8_clip N (l_sub x2 x1) μ1) fun x4 μ4 =>
(jX8_puts N l0 x4 μ4).bind fun μ5 =>
jX8_joins_289 N l0 μ5) else (
if l1 = 3 then (b2 (jX8_clip N (l_mul x2 x1) μ1) fun x5 μ6 =>
(jX8_puts N l0 x5 μ6).bind fun μ7 =>
jX8_joins_289 N l0 μ7) else (
if l1 = 4 then (b2 (jX8_floor N x2 x1 μ1) fun x6 μ8 =>
(jX8_puts N l0 x6 μ8).bind fun μ9 =>
jX8_joins_289 N l0 μ9) else (
if l1 = 5 then (if 0 ≤ (l_cmp x2 x1) then (jX8_joins_177 N l0 x1 l0 μ1) else (jX8_joins_177 N l0 x2 l0 μ1)) else (
if l1 = 6 then (if (l_cmp x2 x1) ≤ 0 then (jX8_joins_197 N l0 x1 l0 μ1) else (jX8_joins_197 N l0 x2 l0 μ1)) else (
if l1 = 7 then (if (l_cmp (l_add x2 x1) 0) ≤ 0 then (jX8_joins_286 N l0 0 l0 μ1) else (jX8_joins_286 N l0 1 l0 μ1)) else (
if l1 = 8 then (if (l_cmp (l_add x2 x1) 0) ≤ 0 then (jX8_joins_286 N l0 0 l0 μ1) else (jX8_joins_286 N l0 1 l0 μ1)) else (
if l1 = 9 then (if (l_cmp (l_add x2 x1) 0) ≤ 0 then (jX8_joins_286 N l0 0 l0 μ1) else (jX8_joins_286 N l0 1 l0 μ1)) else (
if l1 = 10 then (if (l_cmp (l_add x2 x1) 0) ≤ 0 then (jX8_joins_286 N l0 0 l0 μ1) else (jX8_joins_286 N l0 1 l0 μ1)) else (
if l1 = 11 then (if 0 ≤ (l_cmp x2 x1) then (jX8_joins_216 N l0 0 l0 μ1) else (jX8_joins_216 N l0 1 l0 μ1)) else (
if l1 = 12 then (if (l_cmp x2 x1) ≤ 0 then (jX8_joins_235 N l0 0 l0 μ1) else (jX8_joins_235 N l0 1 l0 μ1)) else (
if l1 = 13 then (if ¬ (l_cmp x2 x1) = 0 then (jX8_joins_254 N l0 0 l0 μ1) else (jX8_joins_254 N l0 1 l0 μ1)) else (
if l1 = 14 then ((jX8_puts N l0 (l_mul x2 x1) μ1).bind fun μ10 =>
jX8_joins_289 N l0 μ10) else (
if (l_cmp (l_add x2 x1) 0) ≤ 0 then (jX8_joins_286 N l0 0 l0 μ1) else (jX8_joins_286 N l0 1 l0 μ1)))))))))))))))
-- X8_tells
def jX8_tells_215 (k7 : Int → Int → Int → Mm → Option (Int × Mm)) (N : Nat) (l0 l2 l3 : Int) (μ : Mm) : Option (Int × Mm) :=
  bnd (i_add l3 1) fun x1 =>
k7 l0 l2 x1 μ
def jX8_tells_7b (k7 : Int → Int → Int → Mm → Option (Int × Mm)) (N : Nat) (l0 l2 l3 : Int) (μ : Mm) : Option (Int × Mm) :=
  if l2 ≤ l3 then ((m_ald 101 μ (m_gt μ l0 50) 0).bind fun x1 =>
some (x1, μ)) else ((m_ald 100 μ (m_gt μ l0 43) (i_add 700 l3)).bind fun x2 =>
if x2 < 1000 then (if ¬ x2 = 7 then (if ¬ x2 = 8 then (if ¬ x2 = 9 then (if ¬ x2 = 10 then (if ¬ x2 = 18 then (if ¬ x2 = 30 then (if ¬ x2 = 17 then (if ¬ x2 = 16 then ((jX8_joins N l0 x2 μ).bind fun μ1 =>
jX8_tells_215 k7 N l0 l2 l3 μ1) else ((m_ald 101 μ (m_gt μ l0 50) (i_sub (m_gt μ l0 51) 1)).bind fun x3 =>
(m_ast 101 μ (m_gt μ l0 50) (i_sub (m_gt μ l0 51) 1) (l_sub 1 x3)).bind fun μ2 =>
jX8_tells_215 k7 N l0 l2 l3 μ2)) else ((jX8_puts N l0 1 μ).bind fun μ3 =>
jX8_tells_215 k7 N l0 l2 l3 μ3)) else ((jX8_puts N l0 (i_2l (m_gt μ l0 57)) μ).bind fun μ4 =>
jX8_tells_215 k7 N l0 l2 l3 μ4)) else ((jX8_puts N l0 (i_2l (m_gt μ l0 56)) μ).bind fun μ5 =>
jX8_tells_215 k7 N l0 l2 l3 μ5)) else ((jX8_puts N l0 (i_2l (m_gt μ l0 55)) μ).bind fun μ6 =>
jX8_tells_215 k7 N l0 l2 l3 μ6)) else ((jX8_puts N l0 (i_2l (m_gt μ l0 54)) μ).bind fun μ7 =>
jX8_tells_215 k7 N l0 l2 l3 μ7)) else ((jX8_puts N l0 (i_2l (m_gt μ l0 53)) μ).bind fun μ8 =>
jX8_tells_215 k7 N l0 l2 l3 μ8)) else ((jX8_puts N l0 (i_2l (m_gt μ l0 52)) μ).bind fun μ9 =>
jX8_tells_215 k7 N l0 l2 l3 μ9)) else ((jX8_puts N l0 (i_2l (i_sub x2 1000)) μ).bind fun μ10 =>
jX8_tells_215 k7 N l0 l2 l3 μ10))
def jX8_tells_7 (N : Nat) : Nat → Int → Int → Int → Mm → Option (Int × Mm)
  | 0 => fun _ _ _ _ => none
  | n + 1 => fun l0 l2 l3 μ => jX8_tells_7b (jX8_tells_7 N n) N l0 l2 l3 μ
def jX8_tells (N : Nat) (l0 l1 l2 : Int) (μ : Mm) : Option (Int × Mm) :=
  bnd (m_st μ l0 51 0) fun μ1 =>
jX8_tells_7 N N l0 l2 l1 μ1
-- X8_worthOf
def jX8_worthOf_128 (N : Nat) (l0 s0 : Int) (μ : Mm) : Option (Int × Mm) :=
  some (s0, μ)
def jX8_worthOf_37b (k37 : Int → Int → Mm → Option (Int × Mm)) (N : Nat) (l0 l5 : Int) (μ : Mm) : Option (Int × Mm) :=
  (m_ald 100 μ (m_gt μ l0 36) 1).bind fun x1 =>
if (i_add 30 x1) ≤ l5 then (some (0, μ)) else ((m_ald 100 μ (m_gt μ l0 38) l5).bind fun x2 =>
(m_ald 100 μ (m_gt μ l0 39) l5).bind fun x3 =>
b2 (jX8_tells N l0 x2 x3 μ) fun x4 μ1 =>
if (l_cmp x4 1) = 0 then ((m_ald 100 μ1 (m_gt μ1 l0 37) l5).bind fun x5 =>
(m_ald 100 μ1 (m_gt μ1 l0 38) l5).bind fun x6 =>
b2 (jX8_tells N l0 x5 x6 μ1) fun x7 μ2 =>
if 0 ≤ (l_cmp x7 (-20)) then (if (l_cmp x7 20) ≤ 0 then (jX8_worthOf_128 N l0 (l_2i x7) μ2) else (jX8_worthOf_128 N l0 20 μ2)) else (jX8_worthOf_128 N l0 (-20) μ2)) else (bnd (i_add l5 1) fun x8 =>
k37 l0 x8 μ1))
def jX8_worthOf_37 (N : Nat) : Nat → Int → Int → Mm → Option (Int × Mm)
  | 0 => fun _ _ _ => none
  | n + 1 => fun l0 l5 μ => jX8_worthOf_37b (jX8_worthOf_37 N n) N l0 l5 μ
def jX8_worthOf (N : Nat) (l0 l1 l2 l3 l4 : Int) (μ : Mm) : Option (Int × Mm) :=
  bnd (m_st μ l0 52 (i_add l1 1)) fun μ1 =>
bnd (m_st μ1 l0 53 l2) fun μ2 =>
bnd (m_st μ2 l0 54 l3) fun μ3 =>
bnd (m_st μ3 l0 55 l4) fun μ4 =>
bnd (m_st μ4 l0 56 0) fun μ5 =>
bnd (m_st μ5 l0 57 0) fun μ6 =>
jX8_worthOf_37 N N l0 30 μ6
-- X8_ends
def jX8_ends_189 (N : Nat) (l0 s0 s1 s2 : Int) (μ : Mm) : Option (Int × Mm) :=
  b2 (jX8_plus N s1 s0 μ) fun x1 μ1 =>
m_chk 8 μ1 s2 (
bnd (m_st μ1 s2 76 x1) fun μ2 =>
some (1, μ2))
def jX8_ends_148 (N : Nat) (l0 l1 l6 l7 l8 l9 l10 s0 : Int) (μ : Mm) : Option (Int × Mm) :=
  b2 (jX8_worthOf N l0 l1 l8 l10 l9 μ) fun x1 μ1 =>
bnd (m_st μ1 l0 75 (i_add l6 x1)) fun μ2 =>
if s0 ≤ 0 then (jX8_ends_189 N l0 0 l7 l0 μ2) else ((m_ald 100 μ2 (m_gt μ2 l0 35) (i_add 4 s0)).bind fun x2 =>
jX8_ends_189 N l0 x2 l7 l0 μ2)
def jX8_ends_131 (N : Nat) (l0 l1 l6 l7 l8 l9 l10 : Int) (μ : Mm) : Option (Int × Mm) :=
  (m_ald 100 μ (m_gt μ l0 31) 1).bind fun x1 =>
if ¬ l8 = x1 then (jX8_ends_148 N l0 l1 l6 l7 l8 l9 l10 0 μ) else (jX8_ends_148 N l0 l1 l6 l7 l8 l9 l10 l10 μ)
def jX8_ends_79 (k17 : Int → Int → Int → Int → Int → Int → Int → Int → Mm → Option (Int × Mm)) (N : Nat) (l0 l1 l3 l6 l7 l8 l9 l10 l11 : Int) (μ : Mm) : Option (Int × Mm) :=
  bnd (i_add l8 l11) fun x1 =>
b2 (jX8_later N l7 μ) fun x2 μ1 =>
bnd (i_add l10 1) fun x3 =>
k17 l0 l1 l3 l6 x2 x1 l9 x3 μ1
def jX8_ends_17b (k17 : Int → Int → Int → Int → Int → Int → Int → Int → Mm → Option (Int × Mm)) (N : Nat) (l0 l1 l3 l6 l7 l8 l9 l10 : Int) (μ : Mm) : Option (Int × Mm) :=
  if (m_gt μ l0 74) ≤ l10 then (bnd (i_add l3 (m_gt μ l0 74)) fun x1 =>
(m_ald 100 μ (m_gt μ l0 31) 1).bind fun x2 =>
if x2 ≤ l8 then (jX8_ends_131 N l0 l1 l6 l7 l8 l9 x1 μ) else ((m_ald 100 μ (m_gt μ l0 33) 1).bind fun x3 =>
if x3 ≤ x1 then (jX8_ends_131 N l0 l1 l6 l7 l8 l9 x1 μ) else (some (0, μ)))) else ((m_ald 100 μ (m_gt μ l0 73) l10).bind fun x4 =>
b2 (jX8_taken N x4 μ) fun x5 μ1 =>
b2 (jX8_oneOf N l7 μ1) fun x6 μ2 =>
bnd (i_add l6 (i_mul x5 (i_add 1 x6))) fun x7 =>
(m_ald 100 μ2 (m_gt μ2 l0 73) l10).bind fun x8 =>
if ¬ x8 = (-2) then (jX8_ends_79 k17 N l0 l1 l3 x7 l7 l8 l9 l10 x5 μ2) else (bnd (i_add l9 1) fun x9 =>
(m_ald 100 μ2 (m_gt μ2 l0 34) 1).bind fun x10 =>
bnd (i_sub x7 x10) fun x11 =>
jX8_ends_79 k17 N l0 l1 l3 x11 l7 l8 x9 l10 x5 μ2))
def jX8_ends_17 (N : Nat) : Nat → Int → Int → Int → Int → Int → Int → Int → Int → Mm → Option (Int × Mm)
  | 0 => fun _ _ _ _ _ _ _ _ _ => none
  | n + 1 => fun l0 l1 l3 l6 l7 l8 l9 l10 μ => jX8_ends_17b (jX8_ends_17 N n) N l0 l1 l3 l6 l7 l8 l9 l10 μ
def jX8_ends (N : Nat) (l0 l1 l2 l3 l4 l5 : Int) (μ : Mm) : Option (Int × Mm) :=
  jX8_ends_17 N N l0 l1 l3 0 l2 l4 l5 0 μ
-- X8_isOver
def jX8_isOver_29 (N : Nat) (l0 s0 : Int) (μ : Mm) : Option (Int × Mm) :=
  z_chk s0 (some (s0, μ))
def jX8_isOver_24 (N : Nat) (l0 : Int) (μ : Mm) : Option (Int × Mm) :=
  jX8_isOver_29 N l0 1 μ
def jX8_isOver (N : Nat) (l0 l1 : Int) (μ : Mm) : Option (Int × Mm) :=
  (m_ald 100 μ (m_gt μ l0 62) l1).bind fun x1 =>
if 0 < x1 then (jX8_isOver_24 N l0 μ) else ((m_ald 100 μ (m_gt μ l0 61) l1).bind fun x2 =>
(m_ald 100 μ (m_gt μ l0 33) 1).bind fun x3 =>
if ¬ x2 = x3 then (jX8_isOver_29 N l0 0 μ) else (jX8_isOver_24 N l0 μ))
-- X8_owed
def jX8_owed_26 (N : Nat) (l0 s0 : Int) (μ : Mm) : Option (Int × Mm) :=
  some (s0, μ)
def jX8_owed (N : Nat) (l0 l1 : Int) (μ : Mm) : Option (Int × Mm) :=
  (m_ald 100 μ (m_gt μ l0 62) l1).bind fun x1 =>
if x1 ≤ 0 then (jX8_owed_26 N l0 0 μ) else ((m_ald 100 μ (m_gt μ l0 62) l1).bind fun x2 =>
(m_ald 100 μ (m_gt μ l0 35) (i_add 4 x2)).bind fun x3 =>
jX8_owed_26 N l0 x3 μ)
-- X8_goesThrough
def jX8_goesThrough_397 (N : Nat) (l0 s0 s1 : Int) (μ : Mm) : Option (Mm) :=
  m_chk 8 μ s1 (
z_chk s0 (
bnd (m_st μ s1 68 s0) fun μ1 =>
some μ1))
def jX8_goesThrough_366 (k319 : Int → Int → Mm → Option (Mm)) (N : Nat) (l0 l1 s0 s1 : Int) (μ : Mm) : Option (Mm) :=
  m_chk 8 μ s1 (
bnd (m_st μ s1 66 s0) fun μ1 =>
bnd (i_add l1 1) fun x1 =>
k319 l0 x1 μ1)
def jX8_goesThrough_319b (k319 : Int → Int → Mm → Option (Mm)) (N : Nat) (l0 l1 : Int) (μ : Mm) : Option (Mm) :=
  if (m_gt μ l0 58) ≤ l1 then ((m_ald 100 μ (m_gt μ l0 61) (m_gt μ l0 65)).bind fun x1 =>
if ¬ x1 = (m_gt μ l0 67) then (jX8_goesThrough_397 N l0 0 l0 μ) else (jX8_goesThrough_397 N l0 1 l0 μ)) else ((m_ald 100 μ (m_gt μ l0 59) l1).bind fun x2 =>
b2 (jX8_taken N x2 μ) fun x3 μ1 =>
bnd (m_st μ1 l0 66 (i_sub (m_gt μ l0 66) x3)) fun μ2 =>
if ¬ (m_gt μ2 l0 66) = 0 then (jX8_goesThrough_366 k319 N l0 l1 (m_gt μ2 l0 66) l0 μ2) else ((m_ald 100 μ2 (m_gt μ2 l0 31) 1).bind fun x4 =>
jX8_goesThrough_366 k319 N l0 l1 x4 l0 μ2))
def jX8_goesThrough_319 (N : Nat) : Nat → Int → Int → Mm → Option (Mm)
  | 0 => fun _ _ _ => none
  | n + 1 => fun l0 l1 μ => jX8_goesThrough_319b (jX8_goesThrough_319 N n) N l0 l1 μ
def jX8_goesThrough_287 (k230 : Int → Int → Int → Mm → Option (Mm)) (N : Nat) (l0 l1 l2 s0 s1 : Int) (μ : Mm) : Option (Mm) :=
  m_chk 8 μ s1 (
bnd (m_st μ s1 67 s0) fun μ1 =>
bnd (i_add l2 1) fun x1 =>
k230 l0 l1 x1 μ1)
def jX8_goesThrough_230b (k230 : Int → Int → Int → Mm → Option (Mm)) (N : Nat) (l0 l1 l2 : Int) (μ : Mm) : Option (Mm) :=
  (m_ald 100 μ (m_gt μ l0 32) 1).bind fun x1 =>
if x1 ≤ l2 then ((m_ald 100 μ (m_gt μ l0 60) (m_gt μ l0 65)).bind fun x2 =>
(m_ast 100 μ (m_gt μ l0 61) (m_gt μ l0 65) (i_sub (m_gt μ l0 58) x2)).bind fun μ1 =>
jX8_goesThrough_319 N N l0 l1 μ1) else (b2 (jX8_owed N l0 l2 μ) fun x3 μ2 =>
(m_ald 100 μ2 (m_gt μ2 l0 60) (m_gt μ2 l0 65)).bind fun x4 =>
(m_ald 100 μ2 (m_gt μ2 l0 60) l2).bind fun x5 =>
(m_ald 100 μ2 (m_gt μ2 l0 61) l2).bind fun x6 =>
bnd (i_sub x3 (i_sub (i_sub x4 x5) x6)) fun x7 =>
if x7 ≤ (m_gt μ2 l0 67) then (jX8_goesThrough_287 k230 N l0 l1 l2 (m_gt μ2 l0 67) l0 μ2) else (jX8_goesThrough_287 k230 N l0 l1 l2 x7 l0 μ2))
def jX8_goesThrough_230 (N : Nat) : Nat → Int → Int → Int → Mm → Option (Mm)
  | 0 => fun _ _ _ _ => none
  | n + 1 => fun l0 l1 l2 μ => jX8_goesThrough_230b (jX8_goesThrough_230 N n) N l0 l1 l2 μ
def jX8_goesThrough_176 (N : Nat) (l0 l1 : Int) (μ : Mm) : Option (Mm) :=
  (m_ald 100 μ (m_gt μ l0 31) 1).bind fun x1 =>
bnd (m_st μ l0 66 x1) fun μ1 =>
bnd (m_st μ1 l0 67 0) fun μ2 =>
bnd (m_st μ2 l0 68 0) fun μ3 =>
(m_ald 100 μ3 (m_gt μ3 l0 32) 1).bind fun x2 =>
if x2 ≤ (m_gt μ3 l0 65) then (jX8_goesThrough_230 N N l0 l1 0 μ3) else ((m_ald 100 μ3 (m_gt μ3 l0 63) (m_gt μ3 l0 65)).bind fun x3 =>
bnd (m_st μ3 l0 66 (i_sub (m_gt μ3 l0 66) x3)) fun μ4 =>
some μ4)
def jX8_goesThrough_140 (k13 : Int → Int → Mm → Option (Mm)) (N : Nat) (l0 l1 : Int) (μ : Mm) : Option (Mm) :=
  b2 (jX8_isOver N l0 (m_gt μ l0 65) μ) fun x1 μ1 =>
if ¬ x1 = 0 then (bnd (m_st μ1 l0 65 (i_add (m_gt μ1 l0 65) 1)) fun μ2 =>
(jX8_empties N l0 (m_gt μ2 l0 65) l1 μ2).bind fun μ3 =>
k13 l0 l1 μ3) else (k13 l0 l1 μ1)
def jX8_goesThrough_92 (k13 : Int → Int → Mm → Option (Mm)) (N : Nat) (l0 l1 : Int) (μ : Mm) : Option (Mm) :=
  (m_ald 100 μ (m_gt μ l0 63) (m_gt μ l0 65)).bind fun x1 =>
(m_ald 100 μ (m_gt μ l0 31) 1).bind fun x2 =>
if ¬ x1 = x2 then (jX8_goesThrough_140 k13 N l0 l1 μ) else ((m_ald 100 μ (m_gt μ l0 62) (m_gt μ l0 65)).bind fun x3 =>
if ¬ x3 = 0 then (jX8_goesThrough_140 k13 N l0 l1 μ) else ((m_ald 100 μ (m_gt μ l0 61) (m_gt μ l0 65)).bind fun x4 =>
(m_ast 100 μ (m_gt μ l0 62) (m_gt μ l0 65) x4).bind fun μ1 =>
jX8_goesThrough_140 k13 N l0 l1 μ1))
def jX8_goesThrough_13b (k13 : Int → Int → Mm → Option (Mm)) (N : Nat) (l0 l1 : Int) (μ : Mm) : Option (Mm) :=
  if (m_gt μ l0 58) ≤ l1 then (jX8_goesThrough_176 N l0 l1 μ) else ((m_ald 100 μ (m_gt μ l0 32) 1).bind fun x1 =>
if x1 ≤ (m_gt μ l0 65) then (jX8_goesThrough_176 N l0 l1 μ) else ((m_ald 100 μ (m_gt μ l0 59) l1).bind fun x2 =>
bnd (i_add l1 1) fun x3 =>
(m_ald 100 μ (m_gt μ l0 61) (m_gt μ l0 65)).bind fun x4 =>
(m_ast 100 μ (m_gt μ l0 61) (m_gt μ l0 65) (i_add x4 1)).bind fun μ1 =>
(m_ald 100 μ1 (m_gt μ1 l0 63) (m_gt μ1 l0 65)).bind fun x5 =>
b2 (jX8_taken N x2 μ1) fun x6 μ2 =>
(m_ast 100 μ2 (m_gt μ1 l0 63) (m_gt μ1 l0 65) (i_add x5 x6)).bind fun μ3 =>
if ¬ x2 = (-2) then (jX8_goesThrough_92 k13 N l0 x3 μ3) else ((m_ald 100 μ3 (m_gt μ3 l0 64) (m_gt μ3 l0 65)).bind fun x7 =>
(m_ast 100 μ3 (m_gt μ3 l0 64) (m_gt μ3 l0 65) (i_add x7 1)).bind fun μ4 =>
jX8_goesThrough_92 k13 N l0 x3 μ4)))
def jX8_goesThrough_13 (N : Nat) : Nat → Int → Int → Mm → Option (Mm)
  | 0 => fun _ _ _ => none
  | n + 1 => fun l0 l1 μ => jX8_goesThrough_13b (jX8_goesThrough_13 N n) N l0 l1 μ
def jX8_goesThrough (N : Nat) (l0 : Int) (μ : Mm) : Option (Mm) :=
  bnd (m_st μ l0 65 0) fun μ1 =>
(jX8_empties N l0 0 0 μ1).bind fun μ2 =>
jX8_goesThrough_13 N N l0 0 μ2
-- X8_nextRow
def jX8_nextRow_65b (k65 : Int → Int → Int → Mm → Option (Int × Mm)) (N : Nat) (l0 l1 l3 : Int) (μ : Mm) : Option (Int × Mm) :=
  if (m_gt μ l0 74) ≤ 0 then (some (0, μ)) else (bnd (m_st μ l0 74 (i_sub (m_gt μ l0 74) 1)) fun μ1 =>
(m_ald 100 μ1 (m_gt μ1 l0 73) (m_gt μ1 l0 74)).bind fun x1 =>
bnd (i_sub l3 x1) fun x2 =>
(m_ald 100 μ1 (m_gt μ1 l0 73) (m_gt μ1 l0 74)).bind fun x3 =>
if l1 ≤ (i_add x3 x2) then (k65 l0 l1 x2 μ1) else ((m_ald 100 μ1 (m_gt μ1 l0 73) (m_gt μ1 l0 74)).bind fun x4 =>
(m_ast 100 μ1 (m_gt μ1 l0 73) (m_gt μ1 l0 74) (i_add x4 1)).bind fun μ2 =>
bnd (m_st μ2 l0 74 (i_add (m_gt μ2 l0 74) 1)) fun μ3 =>
some (1, μ3)))
def jX8_nextRow_65 (N : Nat) : Nat → Int → Int → Int → Mm → Option (Int × Mm)
  | 0 => fun _ _ _ _ => none
  | n + 1 => fun l0 l1 l3 μ => jX8_nextRow_65b (jX8_nextRow_65 N n) N l0 l1 l3 μ
def jX8_nextRow_5b (k5 : Int → Int → Int → Int → Int → Mm → Option (Int × Mm)) (N : Nat) (l0 l1 l2 l3 l4 : Int) (μ : Mm) : Option (Int × Mm) :=
  if (m_gt μ l0 74) ≤ l4 then (if l2 ≤ (m_gt μ l0 74) then (jX8_nextRow_65 N N l0 l1 l3 μ) else (if l1 ≤ l3 then (jX8_nextRow_65 N N l0 l1 l3 μ) else ((m_ast 100 μ (m_gt μ l0 73) (m_gt μ l0 74) 0).bind fun μ1 =>
bnd (m_st μ1 l0 74 (i_add (m_gt μ1 l0 74) 1)) fun μ2 =>
some (1, μ2)))) else ((m_ald 100 μ (m_gt μ l0 73) l4).bind fun x1 =>
bnd (i_add l3 x1) fun x2 =>
bnd (i_add l4 1) fun x3 =>
k5 l0 l1 l2 x2 x3 μ)
def jX8_nextRow_5 (N : Nat) : Nat → Int → Int → Int → Int → Int → Mm → Option (Int × Mm)
  | 0 => fun _ _ _ _ _ _ => none
  | n + 1 => fun l0 l1 l2 l3 l4 μ => jX8_nextRow_5b (jX8_nextRow_5 N n) N l0 l1 l2 l3 l4 μ
def jX8_nextRow (N : Nat) (l0 l1 l2 : Int) (μ : Mm) : Option (Int × Mm) :=
  jX8_nextRow_5 N N l0 l1 l2 0 0 μ
-- X8_owedNow
def jX8_owedNow_63 (N : Nat) (l0 l1 : Int) (μ : Mm) : Option (Int × Mm) :=
  some (l1, μ)
def jX8_owedNow_57 (k4 : Int → Int → Int → Mm → Option (Int × Mm)) (N : Nat) (l0 l1 l2 : Int) (μ : Mm) : Option (Int × Mm) :=
  bnd (i_add l2 1) fun x1 =>
k4 l0 l1 x1 μ
def jX8_owedNow_4b (k4 : Int → Int → Int → Mm → Option (Int × Mm)) (N : Nat) (l0 l1 l2 : Int) (μ : Mm) : Option (Int × Mm) :=
  if (m_gt μ l0 65) ≤ l2 then (jX8_owedNow_63 N l0 l1 μ) else ((m_ald 100 μ (m_gt μ l0 32) 1).bind fun x1 =>
if x1 ≤ l2 then (jX8_owedNow_63 N l0 l1 μ) else (b2 (jX8_owed N l0 l2 μ) fun x2 μ1 =>
(m_ald 100 μ1 (m_gt μ1 l0 60) l2).bind fun x3 =>
(m_ald 100 μ1 (m_gt μ1 l0 61) l2).bind fun x4 =>
bnd (i_sub x2 (i_sub (i_sub (m_gt μ1 l0 58) x3) x4)) fun x5 =>
if x5 ≤ 0 then (jX8_owedNow_57 k4 N l0 l1 l2 μ1) else (b2 (jX8_plus N l1 x5 μ1) fun x6 μ2 =>
jX8_owedNow_57 k4 N l0 x6 l2 μ2)))
def jX8_owedNow_4 (N : Nat) : Nat → Int → Int → Int → Mm → Option (Int × Mm)
  | 0 => fun _ _ _ _ => none
  | n + 1 => fun l0 l1 l2 μ => jX8_owedNow_4b (jX8_owedNow_4 N n) N l0 l1 l2 μ
def jX8_owedNow (N : Nat) (l0 : Int) (μ : Mm) : Option (Int × Mm) :=
  jX8_owedNow_4 N N l0 0 0 μ
-- X8_pointsOf
def jX8_pointsOf_102 (N : Nat) (l0 l2 : Int) (μ : Mm) : Option (Int × Mm) :=
  some (l2, μ)
def jX8_pointsOf_62b (k62 : Int → Int → Int → Int → Int → Mm → Option (Int × Mm)) (N : Nat) (l0 l1 l2 l3 l4 : Int) (μ : Mm) : Option (Int × Mm) :=
  b2 (jX8_owed N l0 l1 μ) fun x1 μ1 =>
if (i_add l3 x1) ≤ l4 then (jX8_pointsOf_102 N l0 l2 μ1) else (if (m_gt μ1 l0 58) ≤ l4 then (jX8_pointsOf_102 N l0 l2 μ1) else ((m_ald 100 μ1 (m_gt μ1 l0 59) l4).bind fun x2 =>
b2 (jX8_taken N x2 μ1) fun x3 μ2 =>
bnd (i_add l2 x3) fun x4 =>
bnd (i_add l4 1) fun x5 =>
k62 l0 l1 x4 l3 x5 μ2))
def jX8_pointsOf_62 (N : Nat) : Nat → Int → Int → Int → Int → Int → Mm → Option (Int × Mm)
  | 0 => fun _ _ _ _ _ _ => none
  | n + 1 => fun l0 l1 l2 l3 l4 μ => jX8_pointsOf_62b (jX8_pointsOf_62 N n) N l0 l1 l2 l3 l4 μ
def jX8_pointsOf (N : Nat) (l0 l1 : Int) (μ : Mm) : Option (Int × Mm) :=
  (m_ald 100 μ (m_gt μ l0 63) l1).bind fun x1 =>
(m_ald 100 μ (m_gt μ l0 34) 1).bind fun x2 =>
(m_ald 100 μ (m_gt μ l0 64) l1).bind fun x3 =>
(m_ald 100 μ (m_gt μ l0 63) l1).bind fun x4 =>
(m_ald 100 μ (m_gt μ l0 61) l1).bind fun x5 =>
(m_ald 100 μ (m_gt μ l0 64) l1).bind fun x6 =>
b2 (jX8_worthOf N l0 l1 x4 x5 x6 μ) fun x7 μ1 =>
bnd (i_add (i_sub x1 (i_mul x2 x3)) x7) fun x8 =>
(m_ald 100 μ1 (m_gt μ1 l0 60) l1).bind fun x9 =>
(m_ald 100 μ1 (m_gt μ1 l0 61) l1).bind fun x10 =>
bnd (i_add x9 x10) fun x11 =>
jX8_pointsOf_62 N N l0 l1 x8 x11 x11 μ1
-- X8_soFar
def jX8_soFar_4b (k4 : Int → Int → Int → Mm → Option (Int × Mm)) (N : Nat) (l0 l1 l2 : Int) (μ : Mm) : Option (Int × Mm) :=
  if (m_gt μ l0 65) ≤ l2 then (some (l1, μ)) else (b2 (jX8_pointsOf N l0 l2 μ) fun x1 μ1 =>
bnd (i_add l1 x1) fun x2 =>
bnd (i_add l2 1) fun x3 =>
k4 l0 x2 x3 μ1)
def jX8_soFar_4 (N : Nat) : Nat → Int → Int → Int → Mm → Option (Int × Mm)
  | 0 => fun _ _ _ _ => none
  | n + 1 => fun l0 l1 l2 μ => jX8_soFar_4b (jX8_soFar_4 N n) N l0 l1 l2 μ
def jX8_soFar (N : Nat) (l0 : Int) (μ : Mm) : Option (Int × Mm) :=
  jX8_soFar_4 N N l0 0 0 μ
-- X8_fillsAhead
def jX8_fillsAhead_143 (k35 : Int → Int → Int → Int → Int → Mm → Option (Mm)) (k88 : Int → Int → Int → Int → Int → Int → Int → Mm → Option (Mm)) (k130 : Int → Int → Int → Int → Int → Int → Int → Int → Int → Mm → Option (Mm)) (N : Nat) (l0 l1 l2 l3 l4 l5 l6 l7 l8 s0 s1 : Int) (μ : Mm) : Option (Mm) :=
  if s0 < s1 then (bnd (i_add l6 1) fun x1 =>
k88 l0 l1 l2 l3 l4 l5 x1 μ) else ((m_ald 100 μ (m_gt μ l0 32) 1).bind fun x2 =>
b2 (jX8_oneOf N l2 μ) fun x3 μ1 =>
b2 (jX8_cell N x2 l2 (i_add (i_add (i_mul l4 x3) (i_mul l6 (i_rem (i_div l2 2) 3))) (i_mul l8 (i_rem l2 2))) μ1) fun x4 μ2 =>
(m_ald 101 μ2 l1 x4).bind fun x5 =>
(m_ast 101 μ2 l1 x4 (l_add x5 1)).bind fun μ3 =>
bnd (i_add l8 1) fun x6 =>
k130 l0 l1 l2 l3 l4 l5 l6 l7 x6 μ3)
def jX8_fillsAhead_130b (k35 : Int → Int → Int → Int → Int → Mm → Option (Mm)) (k88 : Int → Int → Int → Int → Int → Int → Int → Mm → Option (Mm)) (k130 : Int → Int → Int → Int → Int → Int → Int → Int → Int → Mm → Option (Mm)) (N : Nat) (l0 l1 l2 l3 l4 l5 l6 l7 l8 : Int) (μ : Mm) : Option (Mm) :=
  if l3 ≤ 2 then (jX8_fillsAhead_143 k35 k88 k130 N l0 l1 l2 l3 l4 l5 l6 l7 l8 0 l8 μ) else (jX8_fillsAhead_143 k35 k88 k130 N l0 l1 l2 l3 l4 l5 l6 l7 l8 l7 l8 μ)
def jX8_fillsAhead_130 (k35 : Int → Int → Int → Int → Int → Mm → Option (Mm)) (k88 : Int → Int → Int → Int → Int → Int → Int → Mm → Option (Mm)) (N : Nat) : Nat → Int → Int → Int → Int → Int → Int → Int → Int → Int → Mm → Option (Mm)
  | 0 => fun _ _ _ _ _ _ _ _ _ _ => none
  | n + 1 => fun l0 l1 l2 l3 l4 l5 l6 l7 l8 μ => jX8_fillsAhead_130b k35 k88 (jX8_fillsAhead_130 k35 k88 N n) N l0 l1 l2 l3 l4 l5 l6 l7 l8 μ
def jX8_fillsAhead_125 (k35 : Int → Int → Int → Int → Int → Mm → Option (Mm)) (k88 : Int → Int → Int → Int → Int → Int → Int → Mm → Option (Mm)) (N : Nat) (l0 l1 l2 l3 l4 l5 l6 s0 : Int) (μ : Mm) : Option (Mm) :=
  jX8_fillsAhead_130 k35 k88 N N l0 l1 l2 l3 l4 l5 l6 s0 0 μ
def jX8_fillsAhead_101 (k35 : Int → Int → Int → Int → Int → Mm → Option (Mm)) (k88 : Int → Int → Int → Int → Int → Int → Int → Mm → Option (Mm)) (N : Nat) (l0 l1 l2 l3 l4 l5 l6 s0 s1 : Int) (μ : Mm) : Option (Mm) :=
  if s0 < s1 then (bnd (i_add l4 1) fun x1 =>
k35 l0 l1 l2 l3 x1 μ) else (if ¬ l6 = l5 then (jX8_fillsAhead_125 k35 k88 N l0 l1 l2 l3 l4 l5 l6 (i_sub l5 l6) μ) else ((m_ald 100 μ (m_gt μ l0 31) 1).bind fun x2 =>
jX8_fillsAhead_125 k35 k88 N l0 l1 l2 l3 l4 l5 l6 x2 μ))
def jX8_fillsAhead_88b (k35 : Int → Int → Int → Int → Int → Mm → Option (Mm)) (k88 : Int → Int → Int → Int → Int → Int → Int → Mm → Option (Mm)) (N : Nat) (l0 l1 l2 l3 l4 l5 l6 : Int) (μ : Mm) : Option (Mm) :=
  if l3 ≤ 1 then (jX8_fillsAhead_101 k35 k88 N l0 l1 l2 l3 l4 l5 l6 0 l6 μ) else (jX8_fillsAhead_101 k35 k88 N l0 l1 l2 l3 l4 l5 l6 l5 l6 μ)
def jX8_fillsAhead_88 (k35 : Int → Int → Int → Int → Int → Mm → Option (Mm)) (N : Nat) : Nat → Int → Int → Int → Int → Int → Int → Int → Mm → Option (Mm)
  | 0 => fun _ _ _ _ _ _ _ _ => none
  | n + 1 => fun l0 l1 l2 l3 l4 l5 l6 μ => jX8_fillsAhead_88b k35 (jX8_fillsAhead_88 k35 N n) N l0 l1 l2 l3 l4 l5 l6 μ
def jX8_fillsAhead_83 (k35 : Int → Int → Int → Int → Int → Mm → Option (Mm)) (N : Nat) (l0 l1 l2 l3 l4 s0 : Int) (μ : Mm) : Option (Mm) :=
  jX8_fillsAhead_88 k35 N N l0 l1 l2 l3 l4 s0 0 μ
def jX8_fillsAhead_51 (k35 : Int → Int → Int → Int → Int → Mm → Option (Mm)) (N : Nat) (l0 l1 l2 l3 l4 s0 s1 : Int) (μ : Mm) : Option (Mm) :=
  if s0 < s1 then (some μ) else ((m_ald 100 μ (m_gt μ l0 31) 1).bind fun x1 =>
if ¬ l4 = x1 then ((m_ald 100 μ (m_gt μ l0 31) 1).bind fun x2 =>
jX8_fillsAhead_83 k35 N l0 l1 l2 l3 l4 (i_sub x2 l4) μ) else ((m_ald 100 μ (m_gt μ l0 31) 1).bind fun x3 =>
jX8_fillsAhead_83 k35 N l0 l1 l2 l3 l4 x3 μ))
def jX8_fillsAhead_35b (k35 : Int → Int → Int → Int → Int → Mm → Option (Mm)) (N : Nat) (l0 l1 l2 l3 l4 : Int) (μ : Mm) : Option (Mm) :=
  if l3 ≤ 0 then (jX8_fillsAhead_51 k35 N l0 l1 l2 l3 l4 0 l4 μ) else ((m_ald 100 μ (m_gt μ l0 31) 1).bind fun x1 =>
jX8_fillsAhead_51 k35 N l0 l1 l2 l3 l4 x1 l4 μ)
def jX8_fillsAhead_35 (N : Nat) : Nat → Int → Int → Int → Int → Int → Mm → Option (Mm)
  | 0 => fun _ _ _ _ _ _ => none
  | n + 1 => fun l0 l1 l2 l3 l4 μ => jX8_fillsAhead_35b (jX8_fillsAhead_35 N n) N l0 l1 l2 l3 l4 μ
def jX8_fillsAhead_31 (N : Nat) (l0 l1 l2 s0 : Int) (μ : Mm) : Option (Mm) :=
  jX8_fillsAhead_35 N N l0 l1 l2 s0 0 μ
def jX8_fillsAhead (N : Nat) (l0 l1 l2 : Int) (μ : Mm) : Option (Mm) :=
  if ¬ l2 = 0 then (if (i_rem l2 2) ≤ 0 then (if (i_rem (i_div l2 2) 3) ≤ 0 then (jX8_fillsAhead_31 N l0 l1 l2 1 μ) else (jX8_fillsAhead_31 N l0 l1 l2 2 μ)) else (jX8_fillsAhead_31 N l0 l1 l2 3 μ)) else (jX8_fillsAhead_31 N l0 l1 l2 0 μ)
-- X8_isOwing
def jX8_isOwing_28 (N : Nat) (s0 : Int) (μ : Mm) : Option (Int × Mm) :=
  z_chk s0 (some (s0, μ))
def jX8_isOwing_27 (N : Nat) (μ : Mm) : Option (Int × Mm) :=
  jX8_isOwing_28 N 0 μ
def jX8_isOwing (N : Nat) (l0 : Int) (μ : Mm) : Option (Int × Mm) :=
  if (i_rem (i_div l0 2) 3) < (i_rem l0 2) then (jX8_isOwing_27 N  μ) else (b2 (jX8_oneOf N l0 μ) fun x1 μ1 =>
if x1 < (i_rem (i_div l0 2) 3) then (jX8_isOwing_27 N  μ1) else (jX8_isOwing_28 N 1 μ1))
-- X8_mayOwe
def jX8_mayOwe_13 (N : Nat) (l0 s0 : Int) (μ : Mm) : Option (Int × Mm) :=
  z_chk s0 (some (s0, μ))
def jX8_mayOwe_8 (N : Nat) (l0 : Int) (μ : Mm) : Option (Int × Mm) :=
  jX8_mayOwe_13 N l0 1 μ
def jX8_mayOwe (N : Nat) (l0 l1 l2 : Int) (μ : Mm) : Option (Int × Mm) :=
  if 0 < l1 then (jX8_mayOwe_8 N l0 μ) else (if ¬ l2 = 0 then (jX8_mayOwe_13 N l0 0 μ) else (jX8_mayOwe_8 N l0 μ))
-- X8_lays
def jX8_lays_82 (k28 : Int → Int → Int → Int → Int → Mm → Option (Mm)) (N : Nat) (l0 l1 l4 l5 l6 : Int) (μ : Mm) : Option (Mm) :=
  bnd (i_add l6 1) fun x1 =>
k28 l0 l1 l4 l5 x1 μ
def jX8_lays_28b (k28 : Int → Int → Int → Int → Int → Mm → Option (Mm)) (N : Nat) (l0 l1 l4 l5 l6 : Int) (μ : Mm) : Option (Mm) :=
  if 1060 ≤ l6 then (some μ) else ((m_ald 101 μ l1 (i_add l4 l6)).bind fun x1 =>
if (l_cmp x1 0) ≤ 0 then (jX8_lays_82 k28 N l0 l1 l4 l5 l6 μ) else ((m_ald 101 μ l1 (i_add (i_add l5 l6) (m_gt μ l0 75))).bind fun x2 =>
b2 (jX8_capped N (l_add x2 x1) μ) fun x3 μ1 =>
(m_ast 101 μ1 l1 (i_add (i_add l5 l6) (m_gt μ l0 75)) x3).bind fun μ2 =>
jX8_lays_82 k28 N l0 l1 l4 l5 l6 μ2))
def jX8_lays_28 (N : Nat) : Nat → Int → Int → Int → Int → Int → Mm → Option (Mm)
  | 0 => fun _ _ _ _ _ _ => none
  | n + 1 => fun l0 l1 l4 l5 l6 μ => jX8_lays_28b (jX8_lays_28 N n) N l0 l1 l4 l5 l6 μ
def jX8_lays (N : Nat) (l0 l1 l2 l3 : Int) (μ : Mm) : Option (Mm) :=
  b2 (jX8_cell N (i_add l2 1) (m_gt μ l0 76) (-460) μ) fun x1 μ1 =>
b2 (jX8_cell N l2 l3 (-460) μ1) fun x2 μ2 =>
jX8_lays_28 N N l0 l1 x1 x2 0 μ2
-- X8_opensFrame
def jX8_opensFrame_5b (k5 : Int → Int → Int → Int → Mm → Option (Mm)) (N : Nat) (l0 l1 l2 l3 : Int) (μ : Mm) : Option (Mm) :=
  (m_ald 100 μ (m_gt μ l0 31) 1).bind fun x1 =>
(m_ald 100 μ (m_gt μ l0 33) 1).bind fun x2 =>
b2 (jX8_nextRow N l0 x1 x2 μ) fun x3 μ1 =>
if x3 = 0 then (some μ1) else (b2 (jX8_ends N l0 l2 l3 0 0 0 μ1) fun x4 μ2 =>
if x4 = 0 then (k5 l0 l1 l2 l3 μ2) else ((jX8_lays N l0 l1 l2 l3 μ2).bind fun μ3 =>
k5 l0 l1 l2 l3 μ3))
def jX8_opensFrame_5 (N : Nat) : Nat → Int → Int → Int → Int → Mm → Option (Mm)
  | 0 => fun _ _ _ _ _ => none
  | n + 1 => fun l0 l1 l2 l3 μ => jX8_opensFrame_5b (jX8_opensFrame_5 N n) N l0 l1 l2 l3 μ
def jX8_opensFrame (N : Nat) (l0 l1 l2 l3 : Int) (μ : Mm) : Option (Mm) :=
  bnd (m_st μ l0 74 0) fun μ1 =>
jX8_opensFrame_5 N N l0 l1 l2 l3 μ1
-- X8_tellsAhead
def jX8_tellsAhead_104 (k66 : Int → Int → Mm → Option (Mm)) (k72 : Int → Int → Int → Mm → Option (Mm)) (N : Nat) (l0 l1 l2 : Int) (μ : Mm) : Option (Mm) :=
  bnd (i_add l2 1) fun x1 =>
k72 l0 l1 x1 μ
def jX8_tellsAhead_72b (k66 : Int → Int → Mm → Option (Mm)) (k72 : Int → Int → Int → Mm → Option (Mm)) (N : Nat) (l0 l1 l2 : Int) (μ : Mm) : Option (Mm) :=
  if 24 ≤ l2 then (bnd (i_add l1 (-1)) fun x1 =>
k66 l0 x1 μ) else (b2 (jX8_mayOwe N l0 l1 l2 μ) fun x2 μ1 =>
if x2 = 0 then (jX8_tellsAhead_104 k66 k72 N l0 l1 l2 μ1) else (b2 (jX8_isOwing N l2 μ1) fun x3 μ2 =>
if x3 = 0 then (jX8_tellsAhead_104 k66 k72 N l0 l1 l2 μ2) else ((jX8_opensFrame N l0 (m_gt μ2 l0 69) l1 l2 μ2).bind fun μ3 =>
jX8_tellsAhead_104 k66 k72 N l0 l1 l2 μ3)))
def jX8_tellsAhead_72 (k66 : Int → Int → Mm → Option (Mm)) (N : Nat) : Nat → Int → Int → Int → Mm → Option (Mm)
  | 0 => fun _ _ _ _ => none
  | n + 1 => fun l0 l1 l2 μ => jX8_tellsAhead_72b k66 (jX8_tellsAhead_72 k66 N n) N l0 l1 l2 μ
def jX8_tellsAhead_66b (k66 : Int → Int → Mm → Option (Mm)) (N : Nat) (l0 l1 : Int) (μ : Mm) : Option (Mm) :=
  if l1 < 0 then (some μ) else (jX8_tellsAhead_72 k66 N N l0 l1 0 μ)
def jX8_tellsAhead_66 (N : Nat) : Nat → Int → Int → Mm → Option (Mm)
  | 0 => fun _ _ _ => none
  | n + 1 => fun l0 l1 μ => jX8_tellsAhead_66b (jX8_tellsAhead_66 N n) N l0 l1 μ
def jX8_tellsAhead_36b (k36 : Int → Int → Mm → Option (Mm)) (N : Nat) (l0 l1 : Int) (μ : Mm) : Option (Mm) :=
  if 24 ≤ l1 then ((m_ald 100 μ (m_gt μ l0 32) 1).bind fun x1 =>
bnd (i_sub x1 1) fun x2 =>
jX8_tellsAhead_66 N N l0 x2 μ) else ((jX8_fillsAhead N l0 (m_gt μ l0 69) l1 μ).bind fun μ1 =>
bnd (i_add l1 1) fun x3 =>
k36 l0 x3 μ1)
def jX8_tellsAhead_36 (N : Nat) : Nat → Int → Int → Mm → Option (Mm)
  | 0 => fun _ _ _ => none
  | n + 1 => fun l0 l1 μ => jX8_tellsAhead_36b (jX8_tellsAhead_36 N n) N l0 l1 μ
def jX8_tellsAhead_15b (k15 : Int → Int → Mm → Option (Mm)) (N : Nat) (l0 l1 : Int) (μ : Mm) : Option (Mm) :=
  if 228960 ≤ l1 then (jX8_tellsAhead_36 N N l0 0 μ) else ((m_ast 101 μ (m_gt μ l0 69) l1 0).bind fun μ1 =>
bnd (i_add l1 1) fun x1 =>
k15 l0 x1 μ1)
def jX8_tellsAhead_15 (N : Nat) : Nat → Int → Int → Mm → Option (Mm)
  | 0 => fun _ _ _ => none
  | n + 1 => fun l0 l1 μ => jX8_tellsAhead_15b (jX8_tellsAhead_15 N n) N l0 l1 μ
def jX8_tellsAhead (N : Nat) (l0 : Int) (μ : Mm) : Option (Mm) :=
  if (m_gt μ l0 70) = 0 then (bnd (m_st μ l0 70 1) fun μ1 =>
jX8_tellsAhead_15 N N l0 0 μ1) else (some μ)
-- X8_tellsComing
def jX8_tellsComing_313 (k119 : Int → Int → Int → Int → Mm → Option (Mm)) (k236 : Int → Int → Int → Int → Int → Int → Mm → Option (Mm)) (N : Nat) (l0 l1 l2 l3 l4 l5 : Int) (μ : Mm) : Option (Mm) :=
  bnd (i_add l5 1) fun x1 =>
k236 l0 l1 l2 l3 l4 x1 μ
def jX8_tellsComing_236b (k119 : Int → Int → Int → Int → Mm → Option (Mm)) (k236 : Int → Int → Int → Int → Int → Int → Mm → Option (Mm)) (N : Nat) (l0 l1 l2 l3 l4 l5 : Int) (μ : Mm) : Option (Mm) :=
  if 1060 ≤ l5 then (k119 l0 l1 l2 l3 μ) else ((m_ald 101 μ (m_gt μ l0 69) (i_add l4 l5)).bind fun x1 =>
if (l_cmp x1 0) ≤ 0 then (jX8_tellsComing_313 k119 k236 N l0 l1 l2 l3 l4 l5 μ) else ((m_ald 101 μ (m_gt μ l0 77) (i_sub (i_add (i_add (i_add 1060 l3) (m_gt μ l0 75)) l5) 460)).bind fun x2 =>
b2 (jX8_capped N (l_add x2 x1) μ) fun x3 μ1 =>
(m_ast 101 μ1 (m_gt μ l0 77) (i_sub (i_add (i_add (i_add 1060 l3) (m_gt μ l0 75)) l5) 460) x3).bind fun μ2 =>
jX8_tellsComing_313 k119 k236 N l0 l1 l2 l3 l4 l5 μ2))
def jX8_tellsComing_236 (k119 : Int → Int → Int → Int → Mm → Option (Mm)) (N : Nat) : Nat → Int → Int → Int → Int → Int → Int → Mm → Option (Mm)
  | 0 => fun _ _ _ _ _ _ _ => none
  | n + 1 => fun l0 l1 l2 l3 l4 l5 μ => jX8_tellsComing_236b k119 (jX8_tellsComing_236 k119 N n) N l0 l1 l2 l3 l4 l5 μ
def jX8_tellsComing_173 (k119 : Int → Int → Int → Int → Mm → Option (Mm)) (N : Nat) (l0 l1 l2 l3 : Int) (μ : Mm) : Option (Mm) :=
  (m_ald 100 μ (m_gt μ l0 61) (m_gt μ l0 65)).bind fun x1 =>
(m_ald 100 μ (m_gt μ l0 63) (m_gt μ l0 65)).bind fun x2 =>
(m_ald 100 μ (m_gt μ l0 64) (m_gt μ l0 65)).bind fun x3 =>
b2 (jX8_ends N l0 (m_gt μ l0 65) l2 x1 x2 x3 μ) fun x4 μ1 =>
if ¬ x4 = 0 then (b2 (jX8_cell N (i_add (m_gt μ1 l0 65) 1) (m_gt μ1 l0 76) (-460) μ1) fun x5 μ2 =>
jX8_tellsComing_236 k119 N N l0 l1 l2 l3 x5 0 μ2) else (k119 l0 l1 l2 l3 μ1)
def jX8_tellsComing_119b (k119 : Int → Int → Int → Int → Mm → Option (Mm)) (N : Nat) (l0 l1 l2 l3 : Int) (μ : Mm) : Option (Mm) :=
  (m_ald 100 μ (m_gt μ l0 31) 1).bind fun x1 =>
(m_ald 100 μ (m_gt μ l0 63) (m_gt μ l0 65)).bind fun x2 =>
(m_ald 100 μ (m_gt μ l0 33) 1).bind fun x3 =>
(m_ald 100 μ (m_gt μ l0 61) (m_gt μ l0 65)).bind fun x4 =>
b2 (jX8_nextRow N l0 (i_sub x1 x2) (i_sub x3 x4) μ) fun x5 μ1 =>
if x5 = 0 then (some μ1) else (if l1 = (-1) then (jX8_tellsComing_173 k119 N l0 l1 l2 l3 μ1) else ((m_ald 100 μ1 (m_gt μ1 l0 73) 0).bind fun x6 =>
if ¬ x6 = l1 then (k119 l0 l1 l2 l3 μ1) else (jX8_tellsComing_173 k119 N l0 l1 l2 l3 μ1)))
def jX8_tellsComing_119 (N : Nat) : Nat → Int → Int → Int → Int → Mm → Option (Mm)
  | 0 => fun _ _ _ _ _ => none
  | n + 1 => fun l0 l1 l2 l3 μ => jX8_tellsComing_119b (jX8_tellsComing_119 N n) N l0 l1 l2 l3 μ
def jX8_tellsComing_114 (N : Nat) (l0 l1 l2 l3 : Int) (μ : Mm) : Option (Mm) :=
  bnd (m_st μ l0 74 0) fun μ1 =>
jX8_tellsComing_119 N N l0 l1 l2 l3 μ1
def jX8_tellsComing_10b (k10 : Int → Int → Int → Mm → Option (Mm)) (N : Nat) (l0 l1 l2 : Int) (μ : Mm) : Option (Mm) :=
  if 2120 ≤ l2 then (b2 (jX8_owedNow N l0 μ) fun x1 μ1 =>
b2 (jX8_soFar N l0 μ1) fun x2 μ2 =>
(m_ald 100 μ2 (m_gt μ2 l0 32) 1).bind fun x3 =>
if ¬ (m_gt μ2 l0 65) = x3 then ((m_ald 100 μ2 (m_gt μ2 l0 63) (m_gt μ2 l0 65)).bind fun x4 =>
(m_ald 100 μ2 (m_gt μ2 l0 34) 1).bind fun x5 =>
(m_ald 100 μ2 (m_gt μ2 l0 64) (m_gt μ2 l0 65)).bind fun x6 =>
bnd (i_add x2 (i_sub x4 (i_mul x5 x6))) fun x7 =>
(m_ald 100 μ2 (m_gt μ2 l0 61) (m_gt μ2 l0 65)).bind fun x8 =>
if ¬ x8 = 0 then (jX8_tellsComing_114 N l0 l1 x1 x7 μ2) else ((jX8_empties N l0 (m_gt μ2 l0 65) (m_gt μ2 l0 58) μ2).bind fun μ3 =>
jX8_tellsComing_114 N l0 l1 x1 x7 μ3)) else ((jX8_comesByFills N l0 x2 x1 l1 μ2).bind fun μ4 =>
some μ4)) else ((m_ast 101 μ (m_gt μ l0 77) l2 0).bind fun μ5 =>
bnd (i_add l2 1) fun x9 =>
k10 l0 l1 x9 μ5)
def jX8_tellsComing_10 (N : Nat) : Nat → Int → Int → Int → Mm → Option (Mm)
  | 0 => fun _ _ _ _ => none
  | n + 1 => fun l0 l1 l2 μ => jX8_tellsComing_10b (jX8_tellsComing_10 N n) N l0 l1 l2 μ
def jX8_tellsComing (N : Nat) (l0 l1 : Int) (μ : Mm) : Option (Mm) :=
  (jX8_goesThrough N l0 μ).bind fun μ1 =>
(jX8_tellsAhead N l0 μ1).bind fun μ2 =>
jX8_tellsComing_10 N N l0 l1 0 μ2
-- X8_come
def jX8_come (N : Nat) (l0 l1 : Int) (μ : Mm) : Option (Int × Mm) :=
  (jX8_tellsComing N l0 (-1) μ).bind fun μ1 =>
b2 (jX8_endOfComing N l0 l1 μ1) fun x1 μ2 =>
some (x1, μ2)
-- X8_end
def jX8_end_12 (N : Nat) (l0 : Int) (μ : Mm) : Option (Int × Mm) :=
  some (0, μ)
def jX8_end (N : Nat) (l0 l1 : Int) (μ : Mm) : Option (Int × Mm) :=
  if l1 < 0 then (jX8_end_12 N l0 μ) else (if l1 ≤ (m_gt μ l0 1) then (bnd (m_st μ l0 1 l1) fun μ1 =>
some (1, μ1)) else (jX8_end_12 N l0 μ))
-- X8_isIn
def jX8_isIn_18 (N : Nat) (s0 : Int) (μ : Mm) : Option (Int × Mm) :=
  z_chk s0 (some (s0, μ))
def jX8_isIn_17 (N : Nat) (μ : Mm) : Option (Int × Mm) :=
  jX8_isIn_18 N 0 μ
def jX8_isIn (N : Nat) (l0 l2 l4 : Int) (μ : Mm) : Option (Int × Mm) :=
  if (l_cmp l0 l2) < 0 then (jX8_isIn_17 N  μ) else (if 0 < (l_cmp l0 l4) then (jX8_isIn_17 N  μ) else (jX8_isIn_18 N 1 μ))
-- X8_isPins
def jX8_isPins_29 (N : Nat) (l0 s0 : Int) (μ : Mm) : Option (Int × Mm) :=
  z_chk s0 (some (s0, μ))
def jX8_isPins_28 (N : Nat) (l0 : Int) (μ : Mm) : Option (Int × Mm) :=
  jX8_isPins_29 N l0 0 μ
def jX8_isPins (N : Nat) (l0 l1 l2 : Int) (μ : Mm) : Option (Int × Mm) :=
  b2 (jX8_isIn N (i_2l l1) (i_2l l2) 511 μ) fun x1 μ1 =>
if x1 = 0 then (jX8_isPins_28 N l0 μ1) else ((m_ald 100 μ1 (m_gt μ1 l0 31) 1).bind fun x2 =>
if ¬ (i_shr l1 x2) = 0 then (jX8_isPins_28 N l0 μ1) else (jX8_isPins_29 N l0 1 μ1))
-- X8_part
def jX8_part_100 (k15 : Int → Int → Int → Int → Mm → Option (Int × Mm)) (k24 : Int → Int → Int → Int → Int → Mm → Option (Int × Mm)) (k34 : Int → Int → Int → Int → Int → Int → Mm → Option (Int × Mm)) (N : Nat) (l0 l1 l2 l3 l4 l5 : Int) (μ : Mm) : Option (Int × Mm) :=
  bnd (i_add l5 1) fun x1 =>
k34 l0 l1 l2 l3 l4 x1 μ
def jX8_part_34b (k15 : Int → Int → Int → Int → Mm → Option (Int × Mm)) (k24 : Int → Int → Int → Int → Int → Mm → Option (Int × Mm)) (k34 : Int → Int → Int → Int → Int → Int → Mm → Option (Int × Mm)) (N : Nat) (l0 l1 l2 l3 l4 l5 : Int) (μ : Mm) : Option (Int × Mm) :=
  if 9 ≤ l5 then (bnd (i_add l4 1) fun x1 =>
k24 l0 l1 l2 l3 x1 μ) else (if (i_and (i_shr l2 l4) 1) = 0 then (jX8_part_100 k15 k24 k34 N l0 l1 l2 l3 l4 l5 μ) else (if (i_and (i_shr l1 l5) 1) = 0 then (jX8_part_100 k15 k24 k34 N l0 l1 l2 l3 l4 l5 μ) else (if (i_and (i_shr l2 l5) 1) = 1 then (jX8_part_100 k15 k24 k34 N l0 l1 l2 l3 l4 l5 μ) else ((m_ald 102 μ (m_gt μ l0 42) (i_add (i_add 81 (i_mul 9 l4)) l5)).bind fun x2 =>
if ¬ x2 = 0 then (bnd (i_or l2 (i_shl 1 l5)) fun x3 =>
jX8_part_100 k15 k24 k34 N l0 l1 x3 1 l4 l5 μ) else (jX8_part_100 k15 k24 k34 N l0 l1 l2 l3 l4 l5 μ)))))
def jX8_part_34 (k15 : Int → Int → Int → Int → Mm → Option (Int × Mm)) (k24 : Int → Int → Int → Int → Int → Mm → Option (Int × Mm)) (N : Nat) : Nat → Int → Int → Int → Int → Int → Int → Mm → Option (Int × Mm)
  | 0 => fun _ _ _ _ _ _ _ => none
  | n + 1 => fun l0 l1 l2 l3 l4 l5 μ => jX8_part_34b k15 k24 (jX8_part_34 k15 k24 N n) N l0 l1 l2 l3 l4 l5 μ
def jX8_part_24b (k15 : Int → Int → Int → Int → Mm → Option (Int × Mm)) (k24 : Int → Int → Int → Int → Int → Mm → Option (Int × Mm)) (N : Nat) (l0 l1 l2 l3 l4 : Int) (μ : Mm) : Option (Int × Mm) :=
  if 9 ≤ l4 then (k15 l0 l1 l2 l3 μ) else (jX8_part_34 k15 k24 N N l0 l1 l2 l3 l4 0 μ)
def jX8_part_24 (k15 : Int → Int → Int → Int → Mm → Option (Int × Mm)) (N : Nat) : Nat → Int → Int → Int → Int → Int → Mm → Option (Int × Mm)
  | 0 => fun _ _ _ _ _ _ => none
  | n + 1 => fun l0 l1 l2 l3 l4 μ => jX8_part_24b k15 (jX8_part_24 k15 N n) N l0 l1 l2 l3 l4 μ
def jX8_part_15b (k15 : Int → Int → Int → Int → Mm → Option (Int × Mm)) (N : Nat) (l0 l1 l2 l3 : Int) (μ : Mm) : Option (Int × Mm) :=
  if l3 = 0 then (some (l2, μ)) else (jX8_part_24 k15 N N l0 l1 l2 0 0 μ)
def jX8_part_15 (N : Nat) : Nat → Int → Int → Int → Int → Mm → Option (Int × Mm)
  | 0 => fun _ _ _ _ _ => none
  | n + 1 => fun l0 l1 l2 l3 μ => jX8_part_15b (jX8_part_15 N n) N l0 l1 l2 l3 μ
def jX8_part_14 (N : Nat) (l0 l1 l2 s0 : Int) (μ : Mm) : Option (Int × Mm) :=
  jX8_part_15 N N l0 l1 l2 s0 μ
def jX8_part (N : Nat) (l0 l1 : Int) (μ : Mm) : Option (Int × Mm) :=
  bnd (i_and l1 (i_neg l1)) fun x1 =>
if x1 = 0 then (jX8_part_14 N l0 l1 x1 0 μ) else (jX8_part_14 N l0 l1 x1 1 μ)
-- X8_falls
def jX8_falls_42 (N : Nat) (l0 s0 : Int) (μ : Mm) : Option (Int × Mm) :=
  some (s0, μ)
def jX8_falls_41 (N : Nat) (l0 : Int) (μ : Mm) : Option (Int × Mm) :=
  jX8_falls_42 N l0 0 μ
def jX8_falls_18 (N : Nat) (l0 : Int) (μ : Mm) : Option (Int × Mm) :=
  some ((-1), μ)
def jX8_falls (N : Nat) (l0 l1 l2 : Int) (μ : Mm) : Option (Int × Mm) :=
  b2 (jX8_isPins N l0 l1 0 μ) fun x1 μ1 =>
if x1 = 0 then (jX8_falls_18 N l0 μ1) else (b2 (jX8_isPins N l0 l2 1 μ1) fun x2 μ2 =>
if ¬ x2 = 0 then (if ¬ (i_and l2 (i_xor l1 (-1))) = 0 then (jX8_falls_41 N l0 μ2) else (b2 (jX8_part N l0 l2 μ2) fun x3 μ3 =>
if ¬ x3 = l2 then (jX8_falls_41 N l0 μ3) else (jX8_falls_42 N l0 1 μ3))) else (jX8_falls_18 N l0 μ2))
-- X8_fault
def jX8_fault_24 (N : Nat) (l0 s0 : Int) (μ : Mm) : Option (Int × Mm) :=
  some (s0, μ)
def jX8_fault (N : Nat) (l0 l1 : Int) (μ : Mm) : Option (Int × Mm) :=
  if ¬ l1 = 0 then (if ¬ l1 = 1 then (jX8_fault_24 N l0 (-1) μ) else (jX8_fault_24 N l0 (m_gt μ l0 8) μ)) else (jX8_fault_24 N l0 (m_gt μ l0 7) μ)
-- X8_feed
def jX8_feed_71 (k18 : Int → Int → Int → Int → Int → Int → Int → Mm → Option (Int × Mm)) (N : Nat) (l0 l1 l2 l3 l4 l5 l6 s0 : Int) (μ : Mm) : Option (Int × Mm) :=
  (m_ast 100 μ (m_gt μ l0 0) (m_gt μ l0 1) (i_and (i_shr s0 (i_mul 8 (i_sub 3 (i_rem l6 4)))) 255)).bind fun μ1 =>
bnd (m_st μ1 l0 1 (i_add (m_gt μ1 l0 1) 1)) fun μ2 =>
bnd (i_add l6 1) fun x1 =>
k18 l0 l1 l2 l3 l4 l5 x1 μ2
def jX8_feed_18b (k18 : Int → Int → Int → Int → Int → Int → Int → Mm → Option (Int × Mm)) (N : Nat) (l0 l1 l2 l3 l4 l5 l6 : Int) (μ : Mm) : Option (Int × Mm) :=
  if 20 ≤ l6 then (some (m_gt μ l0 1, μ)) else (if 4 ≤ l6 then (if 8 ≤ l6 then (if 12 ≤ l6 then (if 16 ≤ l6 then (jX8_feed_71 k18 N l0 l1 l2 l3 l4 l5 l6 l5 μ) else (jX8_feed_71 k18 N l0 l1 l2 l3 l4 l5 l6 l4 μ)) else (jX8_feed_71 k18 N l0 l1 l2 l3 l4 l5 l6 l3 μ)) else (jX8_feed_71 k18 N l0 l1 l2 l3 l4 l5 l6 l2 μ)) else (jX8_feed_71 k18 N l0 l1 l2 l3 l4 l5 l6 l1 μ))
def jX8_feed_18 (N : Nat) : Nat → Int → Int → Int → Int → Int → Int → Int → Mm → Option (Int × Mm)
  | 0 => fun _ _ _ _ _ _ _ _ => none
  | n + 1 => fun l0 l1 l2 l3 l4 l5 l6 μ => jX8_feed_18b (jX8_feed_18 N n) N l0 l1 l2 l3 l4 l5 l6 μ
def jX8_feed (N : Nat) (l0 l1 l2 l3 l4 l5 : Int) (μ : Mm) : Option (Int × Mm) :=
  if (i_add (m_gt μ l0 1) 20) ≤ 700 then (jX8_feed_18 N N l0 l1 l2 l3 l4 l5 0 μ) else (some ((-1), μ))
-- X8_fewest
def jX8_fewest_15b (k15 : Int → Int → Int → Mm → Option (Int × Mm)) (N : Nat) (l0 l2 l3 : Int) (μ : Mm) : Option (Int × Mm) :=
  if l3 = 0 then (some (l2, μ)) else (bnd (i_add l2 1) fun x1 =>
b2 (jX8_part N l0 l3 μ) fun x2 μ1 =>
bnd (i_and l3 (i_xor x2 (-1))) fun x3 =>
k15 l0 x1 x3 μ1)
def jX8_fewest_15 (N : Nat) : Nat → Int → Int → Int → Mm → Option (Int × Mm)
  | 0 => fun _ _ _ _ => none
  | n + 1 => fun l0 l2 l3 μ => jX8_fewest_15b (jX8_fewest_15 N n) N l0 l2 l3 μ
def jX8_fewest (N : Nat) (l0 l1 : Int) (μ : Mm) : Option (Int × Mm) :=
  b2 (jX8_isPins N l0 l1 0 μ) fun x1 μ1 =>
if ¬ x1 = 0 then (jX8_fewest_15 N N l0 0 l1 μ1) else (some ((-1), μ1))
-- X8_asThere
def jX8_asThere_12b (k12 : Int → Int → Int → Mm → Option (Mm)) (N : Nat) (l0 l1 l2 : Int) (μ : Mm) : Option (Mm) :=
  if (m_gt μ l0 74) ≤ l2 then (some μ) else ((m_ald 100 μ (m_gt μ l0 60) l1).bind fun x1 =>
(m_ald 100 μ (m_gt μ l0 59) (i_add x1 l2)).bind fun x2 =>
(m_ast 100 μ (m_gt μ l0 73) l2 x2).bind fun μ1 =>
bnd (i_add l2 1) fun x3 =>
k12 l0 l1 x3 μ1)
def jX8_asThere_12 (N : Nat) : Nat → Int → Int → Int → Mm → Option (Mm)
  | 0 => fun _ _ _ _ => none
  | n + 1 => fun l0 l1 l2 μ => jX8_asThere_12b (jX8_asThere_12 N n) N l0 l1 l2 μ
def jX8_asThere (N : Nat) (l0 l1 : Int) (μ : Mm) : Option (Mm) :=
  (m_ald 100 μ (m_gt μ l0 61) l1).bind fun x1 =>
bnd (m_st μ l0 74 x1) fun μ1 =>
jX8_asThere_12 N N l0 l1 0 μ1
-- X8_isTorn
def jX8_isTorn_17 (N : Nat) (l0 s0 : Int) (μ : Mm) : Option (Int × Mm) :=
  z_chk s0 (some (s0, μ))
def jX8_isTorn (N : Nat) (l0 l1 : Int) (μ : Mm) : Option (Int × Mm) :=
  if ¬ (i_and (i_shr (m_gt μ l0 78) l1) 1) = 1 then (jX8_isTorn_17 N l0 0 μ) else (jX8_isTorn_17 N l0 1 μ)
-- X8_fitsFills
def jX8_fitsFills_80b (k80 : Int → Int → Int → Int → Int → Mm → Option (Mm)) (N : Nat) (l0 l1 l3 l4 l5 : Int) (μ : Mm) : Option (Mm) :=
  if (m_gt μ l0 58) ≤ l5 then ((m_ald 100 μ (m_gt μ l0 32) 1).bind fun x1 =>
b2 (jX8_cell N x1 l1 l3 μ) fun x2 μ1 =>
(m_ald 101 μ1 (m_gt μ l0 71) x2).bind fun x3 =>
(m_ast 101 μ1 (m_gt μ l0 71) x2 (l_add x3 1)).bind fun μ2 =>
some μ2) else ((m_ald 100 μ (m_gt μ l0 59) l5).bind fun x4 =>
b2 (jX8_taken N x4 μ) fun x5 μ3 =>
b2 (jX8_oneOf N l4 μ3) fun x6 μ4 =>
bnd (i_add l3 (i_mul x5 x6)) fun x7 =>
b2 (jX8_later N l4 μ4) fun x8 μ5 =>
bnd (i_add l5 1) fun x9 =>
k80 l0 l1 x7 x8 x9 μ5)
def jX8_fitsFills_80 (N : Nat) : Nat → Int → Int → Int → Int → Int → Mm → Option (Mm)
  | 0 => fun _ _ _ _ _ _ => none
  | n + 1 => fun l0 l1 l3 l4 l5 μ => jX8_fitsFills_80b (jX8_fitsFills_80 N n) N l0 l1 l3 l4 l5 μ
def jX8_fitsFills_54 (N : Nat) (l0 l1 s0 : Int) (μ : Mm) : Option (Mm) :=
  if s0 = (m_gt μ l0 67) then ((m_ald 100 μ (m_gt μ l0 60) (m_gt μ l0 65)).bind fun x1 =>
jX8_fitsFills_80 N N l0 l1 0 l1 x1 μ) else (some μ)
def jX8_fitsFills (N : Nat) (l0 l1 : Int) (μ : Mm) : Option (Mm) :=
  (m_ald 100 μ (m_gt μ l0 32) 1).bind fun x1 =>
b2 (jX8_isTorn N l0 x1 μ) fun x2 μ1 =>
if x2 = 0 then (if ¬ l1 = 0 then (if (i_rem l1 2) ≤ 0 then (if (i_rem (i_div l1 2) 3) ≤ 0 then (jX8_fitsFills_54 N l0 l1 1 μ1) else (jX8_fitsFills_54 N l0 l1 2 μ1)) else (jX8_fitsFills_54 N l0 l1 3 μ1)) else (jX8_fitsFills_54 N l0 l1 0 μ1)) else ((jX8_fillsAhead N l0 (m_gt μ1 l0 71) l1 μ1).bind fun μ2 =>
some μ2)
-- X8_tellsFits
def jX8_tellsFits_152 (k73 : Int → Int → Mm → Option (Mm)) (k79 : Int → Int → Int → Mm → Option (Mm)) (N : Nat) (l0 l1 l2 : Int) (μ : Mm) : Option (Mm) :=
  bnd (i_add l2 1) fun x1 =>
k79 l0 l1 x1 μ
def jX8_tellsFits_79b (k73 : Int → Int → Mm → Option (Mm)) (k79 : Int → Int → Int → Mm → Option (Mm)) (N : Nat) (l0 l1 l2 : Int) (μ : Mm) : Option (Mm) :=
  if 24 ≤ l2 then (bnd (i_add l1 (-1)) fun x1 =>
k73 l0 x1 μ) else (b2 (jX8_mayOwe N l0 l1 l2 μ) fun x2 μ1 =>
if x2 = 0 then (jX8_tellsFits_152 k73 k79 N l0 l1 l2 μ1) else (b2 (jX8_isOwing N l2 μ1) fun x3 μ2 =>
if ¬ x3 = 0 then (b2 (jX8_isTorn N l0 l1 μ2) fun x4 μ3 =>
if x4 = 0 then ((jX8_asThere N l0 l1 μ3).bind fun μ4 =>
b2 (jX8_ends N l0 l1 l2 0 0 0 μ4) fun x5 μ5 =>
if x5 = 0 then (jX8_tellsFits_152 k73 k79 N l0 l1 l2 μ5) else ((jX8_lays N l0 (m_gt μ5 l0 71) l1 l2 μ5).bind fun μ6 =>
jX8_tellsFits_152 k73 k79 N l0 l1 l2 μ6)) else ((jX8_opensFrame N l0 (m_gt μ3 l0 71) l1 l2 μ3).bind fun μ7 =>
jX8_tellsFits_152 k73 k79 N l0 l1 l2 μ7)) else (jX8_tellsFits_152 k73 k79 N l0 l1 l2 μ2)))
def jX8_tellsFits_79 (k73 : Int → Int → Mm → Option (Mm)) (N : Nat) : Nat → Int → Int → Int → Mm → Option (Mm)
  | 0 => fun _ _ _ _ => none
  | n + 1 => fun l0 l1 l2 μ => jX8_tellsFits_79b k73 (jX8_tellsFits_79 k73 N n) N l0 l1 l2 μ
def jX8_tellsFits_73b (k73 : Int → Int → Mm → Option (Mm)) (N : Nat) (l0 l1 : Int) (μ : Mm) : Option (Mm) :=
  if l1 < 0 then (some μ) else (jX8_tellsFits_79 k73 N N l0 l1 0 μ)
def jX8_tellsFits_73 (N : Nat) : Nat → Int → Int → Mm → Option (Mm)
  | 0 => fun _ _ _ => none
  | n + 1 => fun l0 l1 μ => jX8_tellsFits_73b (jX8_tellsFits_73 N n) N l0 l1 μ
def jX8_tellsFits_58 (k40 : Int → Int → Mm → Option (Mm)) (N : Nat) (l0 l1 : Int) (μ : Mm) : Option (Mm) :=
  bnd (i_add l1 1) fun x1 =>
k40 l0 x1 μ
def jX8_tellsFits_40b (k40 : Int → Int → Mm → Option (Mm)) (N : Nat) (l0 l1 : Int) (μ : Mm) : Option (Mm) :=
  if 24 ≤ l1 then ((m_ald 100 μ (m_gt μ l0 32) 1).bind fun x1 =>
bnd (i_sub x1 1) fun x2 =>
jX8_tellsFits_73 N N l0 x2 μ) else (b2 (jX8_isOwing N l1 μ) fun x3 μ1 =>
if x3 = 0 then (jX8_tellsFits_58 k40 N l0 l1 μ1) else ((jX8_fitsFills N l0 l1 μ1).bind fun μ2 =>
jX8_tellsFits_58 k40 N l0 l1 μ2))
def jX8_tellsFits_40 (N : Nat) : Nat → Int → Int → Mm → Option (Mm)
  | 0 => fun _ _ _ => none
  | n + 1 => fun l0 l1 μ => jX8_tellsFits_40b (jX8_tellsFits_40 N n) N l0 l1 μ
def jX8_tellsFits_19b (k19 : Int → Int → Mm → Option (Mm)) (N : Nat) (l0 l1 : Int) (μ : Mm) : Option (Mm) :=
  if 228960 ≤ l1 then (jX8_tellsFits_40 N N l0 0 μ) else ((m_ast 101 μ (m_gt μ l0 71) l1 0).bind fun μ1 =>
bnd (i_add l1 1) fun x1 =>
k19 l0 x1 μ1)
def jX8_tellsFits_19 (N : Nat) : Nat → Int → Int → Mm → Option (Mm)
  | 0 => fun _ _ _ => none
  | n + 1 => fun l0 l1 μ => jX8_tellsFits_19b (jX8_tellsFits_19 N n) N l0 l1 μ
def jX8_tellsFits (N : Nat) (l0 : Int) (μ : Mm) : Option (Mm) :=
  (jX8_goesThrough N l0 μ).bind fun μ1 =>
if (m_gt μ1 l0 72) = 0 then (bnd (m_st μ1 l0 72 1) fun μ2 =>
jX8_tellsFits_19 N N l0 0 μ2) else (some μ1)
-- X8_fits
def jX8_fits_62 (k26 : Int → Int → Int → Int → Int → Mm → Option (Int × Mm)) (N : Nat) (l0 l1 l2 l3 l5 : Int) (μ : Mm) : Option (Int × Mm) :=
  bnd (i_add l5 1) fun x1 =>
k26 l0 l1 l2 l3 x1 μ
def jX8_fits_44 (k26 : Int → Int → Int → Int → Int → Mm → Option (Int × Mm)) (N : Nat) (l0 l1 l2 l3 l5 : Int) (μ : Mm) : Option (Int × Mm) :=
  b2 (jX8_cell N 0 0 l5 μ) fun x1 μ1 =>
(m_ald 101 μ1 (m_gt μ l0 71) x1).bind fun x2 =>
b2 (jX8_capped N (l_add l3 x2) μ1) fun x3 μ2 =>
jX8_fits_62 k26 N l0 l1 l2 x3 l5 μ2
def jX8_fits_26b (k26 : Int → Int → Int → Int → Int → Mm → Option (Int × Mm)) (N : Nat) (l0 l1 l2 l3 l5 : Int) (μ : Mm) : Option (Int × Mm) :=
  if 600 ≤ l5 then (some (l3, μ)) else (if ¬ l2 = 0 then (jX8_fits_44 k26 N l0 l1 l2 l3 l5 μ) else (if ¬ l5 = l1 then (jX8_fits_62 k26 N l0 l1 l2 l3 l5 μ) else (jX8_fits_44 k26 N l0 l1 l2 l3 l5 μ)))
def jX8_fits_26 (N : Nat) : Nat → Int → Int → Int → Int → Int → Mm → Option (Int × Mm)
  | 0 => fun _ _ _ _ _ _ => none
  | n + 1 => fun l0 l1 l2 l3 l5 μ => jX8_fits_26b (jX8_fits_26 N n) N l0 l1 l2 l3 l5 μ
def jX8_fits (N : Nat) (l0 l1 l2 : Int) (μ : Mm) : Option (Int × Mm) :=
  (jX8_goesThrough N l0 μ).bind fun μ1 =>
if ¬ (m_gt μ1 l0 68) = 0 then ((jX8_tellsFits N l0 μ1).bind fun μ2 =>
jX8_fits_26 N N l0 l1 l2 0 (-460) μ2) else (some ((-1), μ1))
-- X8_frame
def jX8_frame_39 (N : Nat) (l0 : Int) (μ : Mm) : Option (Int × Mm) :=
  some ((-1), μ)
def jX8_frame (N : Nat) (l0 l1 l2 : Int) (μ : Mm) : Option (Int × Mm) :=
  (jX8_goesThrough N l0 μ).bind fun μ1 =>
(m_ald 100 μ1 (m_gt μ1 l0 32) 1).bind fun x1 =>
b2 (jX8_isIn N (i_2l l1) 0 (i_2l (i_sub x1 1)) μ1) fun x2 μ2 =>
if x2 = 0 then (jX8_frame_39 N l0 μ2) else (if (m_gt μ2 l0 65) < l1 then (jX8_frame_39 N l0 μ2) else ((m_ald 100 μ2 (m_gt μ2 l0 61) l1).bind fun x3 =>
if ¬ x3 = 0 then (if l2 = 0 then ((m_ald 100 μ2 (m_gt μ2 l0 63) l1).bind fun x4 =>
some (x4, μ2)) else (
if l2 = 1 then ((m_ald 100 μ2 (m_gt μ2 l0 61) l1).bind fun x5 =>
some (x5, μ2)) else (
if l2 = 2 then ((m_ald 100 μ2 (m_gt μ2 l0 62) l1).bind fun x6 =>
some (x6, μ2)) else (
if l2 = 3 then ((m_ald 100 μ2 (m_gt μ2 l0 64) l1).bind fun x7 =>
some (x7, μ2)) else (
some ((-1), μ2)))))) else (jX8_frame_39 N l0 μ2)))
-- X8_forgets
def jX8_forgets_73b (k73 : Int → Int → Mm → Option (Mm)) (N : Nat) (l0 l1 : Int) (μ : Mm) : Option (Mm) :=
  if 81 ≤ l1 then (bnd (m_st μ l0 44 0) fun μ1 =>
bnd (m_st μ1 l0 48 0) fun μ2 =>
some μ2) else ((m_ast 102 μ (m_gt μ l0 42) l1 0).bind fun μ3 =>
bnd (i_add l1 1) fun x1 =>
k73 l0 x1 μ3)
def jX8_forgets_73 (N : Nat) : Nat → Int → Int → Mm → Option (Mm)
  | 0 => fun _ _ _ => none
  | n + 1 => fun l0 l1 μ => jX8_forgets_73b (jX8_forgets_73 N n) N l0 l1 μ
def jX8_forgets_53b (k53 : Int → Int → Mm → Option (Mm)) (N : Nat) (l0 l1 : Int) (μ : Mm) : Option (Mm) :=
  if 4 ≤ l1 then (jX8_forgets_73 N N l0 0 μ) else ((m_ast 100 μ (m_gt μ l0 35) l1 0).bind fun μ1 =>
bnd (i_add l1 1) fun x1 =>
k53 l0 x1 μ1)
def jX8_forgets_53 (N : Nat) : Nat → Int → Int → Mm → Option (Mm)
  | 0 => fun _ _ _ => none
  | n + 1 => fun l0 l1 μ => jX8_forgets_53b (jX8_forgets_53 N n) N l0 l1 μ
def jX8_forgets (N : Nat) (l0 : Int) (μ : Mm) : Option (Mm) :=
  (m_ast 100 μ (m_gt μ l0 31) 0 9).bind fun μ1 =>
(m_ast 100 μ1 (m_gt μ1 l0 32) 0 6).bind fun μ2 =>
(m_ast 100 μ2 (m_gt μ2 l0 33) 0 2).bind fun μ3 =>
(m_ast 100 μ3 (m_gt μ3 l0 34) 0 0).bind fun μ4 =>
(m_ast 100 μ4 (m_gt μ4 l0 36) 0 0).bind fun μ5 =>
(m_ast 100 μ5 (m_gt μ5 l0 40) 0 0).bind fun μ6 =>
(m_ast 100 μ6 (m_gt μ6 l0 41) 0 0).bind fun μ7 =>
jX8_forgets_53 N N l0 0 μ7
-- X8_look
def jX8_look_76 (N : Nat) (l0 s0 : Int) (μ : Mm) : Option (Int × Mm) :=
  some (s0, μ)
def jX8_look_52 (N : Nat) (l0 : Int) (μ : Mm) : Option (Int × Mm) :=
  if (m_gt μ l0 3) ≤ (m_gt μ l0 2) then (jX8_look_76 N l0 (-1) μ) else ((m_ald 100 μ (m_gt μ l0 0) (m_gt μ l0 2)).bind fun x1 =>
jX8_look_76 N l0 x1 μ)
def jX8_look_39 (k0 : Int → Mm → Option (Int × Mm)) (N : Nat) (l0 : Int) (μ : Mm) : Option (Int × Mm) :=
  bnd (m_st μ l0 2 (i_add (m_gt μ l0 2) 1)) fun μ1 =>
k0 l0 μ1
def jX8_look_0b (k0 : Int → Mm → Option (Int × Mm)) (N : Nat) (l0 : Int) (μ : Mm) : Option (Int × Mm) :=
  if (m_gt μ l0 3) ≤ (m_gt μ l0 2) then (jX8_look_52 N l0 μ) else ((m_ald 100 μ (m_gt μ l0 0) (m_gt μ l0 2)).bind fun x1 =>
if x1 = 10 then (jX8_look_39 k0 N l0 μ) else ((m_ald 100 μ (m_gt μ l0 0) (m_gt μ l0 2)).bind fun x2 =>
if ¬ x2 = 32 then (jX8_look_52 N l0 μ) else (jX8_look_39 k0 N l0 μ)))
def jX8_look_0 (N : Nat) : Nat → Int → Mm → Option (Int × Mm)
  | 0 => fun _ _ => none
  | n + 1 => fun l0 μ => jX8_look_0b (jX8_look_0 N n) N l0 μ
def jX8_look (N : Nat) (l0 : Int) (μ : Mm) : Option (Int × Mm) :=
  jX8_look_0 N N l0 μ
-- X8_stands
def jX8_stands_201b (k201 : Int → Int → Mm → Option (Mm)) (N : Nat) (l0 l1 : Int) (μ : Mm) : Option (Mm) :=
  if (m_gt μ l0 44) ≤ l1 then (some μ) else ((m_ald 100 μ (m_gt μ l0 43) l1).bind fun x1 =>
(m_ast 100 μ (m_gt μ l0 43) (i_add 700 l1) x1).bind fun μ1 =>
bnd (i_add l1 1) fun x2 =>
k201 l0 x2 μ1)
def jX8_stands_201 (N : Nat) : Nat → Int → Int → Mm → Option (Mm)
  | 0 => fun _ _ _ => none
  | n + 1 => fun l0 l1 μ => jX8_stands_201b (jX8_stands_201 N n) N l0 l1 μ
def jX8_stands_142b (k142 : Int → Int → Mm → Option (Mm)) (N : Nat) (l0 l1 : Int) (μ : Mm) : Option (Mm) :=
  if 30 ≤ l1 then (jX8_stands_201 N N l0 0 μ) else ((m_ald 100 μ (m_gt μ l0 37) l1).bind fun x1 =>
(m_ast 100 μ (m_gt μ l0 37) (i_add 30 l1) x1).bind fun μ1 =>
(m_ald 100 μ1 (m_gt μ1 l0 38) l1).bind fun x2 =>
(m_ast 100 μ1 (m_gt μ1 l0 38) (i_add 30 l1) x2).bind fun μ2 =>
(m_ald 100 μ2 (m_gt μ2 l0 39) l1).bind fun x3 =>
(m_ast 100 μ2 (m_gt μ2 l0 39) (i_add 30 l1) x3).bind fun μ3 =>
bnd (i_add l1 1) fun x4 =>
k142 l0 x4 μ3)
def jX8_stands_142 (N : Nat) : Nat → Int → Int → Mm → Option (Mm)
  | 0 => fun _ _ _ => none
  | n + 1 => fun l0 l1 μ => jX8_stands_142b (jX8_stands_142 N n) N l0 l1 μ
def jX8_stands_113b (k113 : Int → Int → Mm → Option (Mm)) (N : Nat) (l0 l1 : Int) (μ : Mm) : Option (Mm) :=
  if 81 ≤ l1 then (jX8_stands_142 N N l0 0 μ) else ((m_ald 102 μ (m_gt μ l0 42) l1).bind fun x1 =>
z_chk x1 (
(m_ast 102 μ (m_gt μ l0 42) (i_add 81 l1) x1).bind fun μ1 =>
bnd (i_add l1 1) fun x2 =>
k113 l0 x2 μ1))
def jX8_stands_113 (N : Nat) : Nat → Int → Int → Mm → Option (Mm)
  | 0 => fun _ _ _ => none
  | n + 1 => fun l0 l1 μ => jX8_stands_113b (jX8_stands_113 N n) N l0 l1 μ
def jX8_stands_86b (k86 : Int → Int → Mm → Option (Mm)) (N : Nat) (l0 l1 : Int) (μ : Mm) : Option (Mm) :=
  if 4 ≤ l1 then (jX8_stands_113 N N l0 0 μ) else ((m_ald 100 μ (m_gt μ l0 35) l1).bind fun x1 =>
(m_ast 100 μ (m_gt μ l0 35) (i_add 4 l1) x1).bind fun μ1 =>
bnd (i_add l1 1) fun x2 =>
k86 l0 x2 μ1)
def jX8_stands_86 (N : Nat) : Nat → Int → Int → Mm → Option (Mm)
  | 0 => fun _ _ _ => none
  | n + 1 => fun l0 l1 μ => jX8_stands_86b (jX8_stands_86 N n) N l0 l1 μ
def jX8_stands (N : Nat) (l0 : Int) (μ : Mm) : Option (Mm) :=
  (m_ald 100 μ (m_gt μ l0 31) 0).bind fun x1 =>
(m_ast 100 μ (m_gt μ l0 31) 1 x1).bind fun μ1 =>
(m_ald 100 μ1 (m_gt μ1 l0 32) 0).bind fun x2 =>
(m_ast 100 μ1 (m_gt μ1 l0 32) 1 x2).bind fun μ2 =>
(m_ald 100 μ2 (m_gt μ2 l0 33) 0).bind fun x3 =>
(m_ast 100 μ2 (m_gt μ2 l0 33) 1 x3).bind fun μ3 =>
(m_ald 100 μ3 (m_gt μ3 l0 34) 0).bind fun x4 =>
(m_ast 100 μ3 (m_gt μ3 l0 34) 1 x4).bind fun μ4 =>
(m_ald 100 μ4 (m_gt μ4 l0 36) 0).bind fun x5 =>
(m_ast 100 μ4 (m_gt μ4 l0 36) 1 x5).bind fun μ5 =>
(m_ald 100 μ5 (m_gt μ5 l0 40) 0).bind fun x6 =>
(m_ast 100 μ5 (m_gt μ5 l0 40) 1 x6).bind fun μ6 =>
(m_ald 100 μ6 (m_gt μ6 l0 41) 0).bind fun x7 =>
(m_ast 100 μ6 (m_gt μ6 l0 41) 1 x7).bind fun μ7 =>
jX8_stands_86 N N l0 0 μ7
-- X8_fail
def jX8_fail (N : Nat) (l0 l1 l2 : Int) (μ : Mm) : Option (Mm) :=
  if (m_gt μ l0 5) = 0 then (bnd (m_st μ l0 5 l1) fun μ1 =>
bnd (m_st μ1 l0 6 l2) fun μ2 =>
some μ2) else (some μ)
-- X8_isLetter
def jX8_isLetter_17 (N : Nat) (s0 : Int) (μ : Mm) : Option (Int × Mm) :=
  z_chk s0 (some (s0, μ))
def jX8_isLetter_16 (N : Nat) (μ : Mm) : Option (Int × Mm) :=
  jX8_isLetter_17 N 0 μ
def jX8_isLetter (N : Nat) (l0 : Int) (μ : Mm) : Option (Int × Mm) :=
  if l0 < 97 then (jX8_isLetter_16 N  μ) else (if 122 < l0 then (jX8_isLetter_16 N  μ) else (jX8_isLetter_17 N 1 μ))
-- X8_isHere
def jX8_isHere_76b (k76 : Int → Int → Int → Mm → Option (Int × Mm)) (N : Nat) (l0 l1 l3 : Int) (μ : Mm) : Option (Int × Mm) :=
  (m_len μ l1).bind fun x1 =>
if x1 ≤ l3 then (some (1, μ)) else ((m_ald 100 μ (m_gt μ l0 0) (i_add (m_gt μ l0 2) l3)).bind fun x2 =>
(m_ald 103 μ l1 l3).bind fun x3 =>
if x2 = x3 then (bnd (i_add l3 1) fun x4 =>
k76 l0 l1 x4 μ) else (some (0, μ)))
def jX8_isHere_76 (N : Nat) : Nat → Int → Int → Int → Mm → Option (Int × Mm)
  | 0 => fun _ _ _ _ => none
  | n + 1 => fun l0 l1 l3 μ => jX8_isHere_76b (jX8_isHere_76 N n) N l0 l1 l3 μ
def jX8_isHere_61 (N : Nat) (l0 l1 l2 : Int) (μ : Mm) : Option (Int × Mm) :=
  (m_len μ l1).bind fun x1 =>
if (i_sub l2 (m_gt μ l0 2)) = x1 then (jX8_isHere_76 N N l0 l1 0 μ) else (some (0, μ))
def jX8_isHere_35b (k35 : Int → Int → Int → Mm → Option (Int × Mm)) (N : Nat) (l0 l1 l2 : Int) (μ : Mm) : Option (Int × Mm) :=
  if (m_gt μ l0 3) ≤ l2 then (jX8_isHere_61 N l0 l1 l2 μ) else ((m_ald 100 μ (m_gt μ l0 0) l2).bind fun x1 =>
b2 (jX8_isLetter N x1 μ) fun x2 μ1 =>
if x2 = 0 then (jX8_isHere_61 N l0 l1 l2 μ1) else (bnd (i_add l2 1) fun x3 =>
k35 l0 l1 x3 μ1))
def jX8_isHere_35 (N : Nat) : Nat → Int → Int → Int → Mm → Option (Int × Mm)
  | 0 => fun _ _ _ _ => none
  | n + 1 => fun l0 l1 l2 μ => jX8_isHere_35b (jX8_isHere_35 N n) N l0 l1 l2 μ
def jX8_isHere_28 (N : Nat) (l0 : Int) (μ : Mm) : Option (Int × Mm) :=
  some (0, μ)
def jX8_isHere (N : Nat) (l0 l1 : Int) (μ : Mm) : Option (Int × Mm) :=
  if ¬ (m_gt μ l0 5) = 0 then (jX8_isHere_28 N l0 μ) else (b2 (jX8_look N l0 μ) fun x1 μ1 =>
b2 (jX8_isLetter N x1 μ1) fun x2 μ2 =>
if x2 = 0 then (jX8_isHere_28 N l0 μ2) else (if ¬ (m_gt μ2 l0 2) = (m_gt μ2 l0 4) then (bnd (m_gt μ2 l0 2) fun x3 =>
jX8_isHere_35 N N l0 l1 x3 μ2) else (jX8_isHere_28 N l0 μ2)))
-- X8_takes
def jX8_takes (N : Nat) (l0 l1 : Int) (μ : Mm) : Option (Int × Mm) :=
  b2 (jX8_isHere N l0 l1 μ) fun x1 μ1 =>
if ¬ x1 = 0 then ((m_len μ1 l1).bind fun x2 =>
bnd (m_st μ1 l0 2 (i_add (m_gt μ1 l0 2) x2)) fun μ2 =>
bnd (m_st μ2 l0 4 (m_gt μ2 l0 2)) fun μ3 =>
some (1, μ3)) else (some (0, μ1))
-- X8_asks
def jX8_asks_24 (N : Nat) (l0 : Int) (μ : Mm) : Option (Mm) :=
  some μ
def jX8_asks (N : Nat) (l0 l1 : Int) (μ : Mm) : Option (Mm) :=
  if ¬ (m_gt μ l0 5) = 0 then (jX8_asks_24 N l0 μ) else (b2 (jX8_takes N l0 l1 μ) fun x1 μ1 =>
if ¬ x1 = 0 then (jX8_asks_24 N l0 μ1) else ((jX8_fail N l0 1 (m_gt μ1 l0 2) μ1).bind fun μ2 =>
jX8_asks_24 N l0 μ2))
-- X8_takesSign
def jX8_takesSign_15 (N : Nat) (l0 : Int) (μ : Mm) : Option (Int × Mm) :=
  some (0, μ)
def jX8_takesSign (N : Nat) (l0 l1 : Int) (μ : Mm) : Option (Int × Mm) :=
  if ¬ (m_gt μ l0 5) = 0 then (jX8_takesSign_15 N l0 μ) else (b2 (jX8_look N l0 μ) fun x1 μ1 =>
if x1 = l1 then (bnd (m_st μ1 l0 2 (i_add (m_gt μ1 l0 2) 1)) fun μ2 =>
some (1, μ2)) else (jX8_takesSign_15 N l0 μ1))
-- X8_asksSign
def jX8_asksSign_24 (N : Nat) (l0 : Int) (μ : Mm) : Option (Mm) :=
  some μ
def jX8_asksSign (N : Nat) (l0 l1 : Int) (μ : Mm) : Option (Mm) :=
  if ¬ (m_gt μ l0 5) = 0 then (jX8_asksSign_24 N l0 μ) else (b2 (jX8_takesSign N l0 l1 μ) fun x1 μ1 =>
if ¬ x1 = 0 then (jX8_asksSign_24 N l0 μ1) else ((jX8_fail N l0 1 (m_gt μ1 l0 2) μ1).bind fun μ2 =>
jX8_asksSign_24 N l0 μ2))
-- X8_isDigit
def jX8_isDigit_17 (N : Nat) (s0 : Int) (μ : Mm) : Option (Int × Mm) :=
  z_chk s0 (some (s0, μ))
def jX8_isDigit_16 (N : Nat) (μ : Mm) : Option (Int × Mm) :=
  jX8_isDigit_17 N 0 μ
def jX8_isDigit (N : Nat) (l0 : Int) (μ : Mm) : Option (Int × Mm) :=
  if l0 < 48 then (jX8_isDigit_16 N  μ) else (if 57 < l0 then (jX8_isDigit_16 N  μ) else (jX8_isDigit_17 N 1 μ))
-- X8_number
def jX8_number_156 (N : Nat) (l0 l4 : Int) (μ : Mm) : Option (Int × Mm) :=
  some (l4, μ)
def jX8_number_129 (N : Nat) (l0 l1 l2 l3 l4 : Int) (μ : Mm) : Option (Int × Mm) :=
  bnd (m_st μ l0 4 (m_gt μ l0 2)) fun μ1 =>
b2 (jX8_isIn N (i_2l l4) (i_2l l1) (i_2l l2) μ1) fun x1 μ2 =>
if ¬ x1 = 0 then (jX8_number_156 N l0 l4 μ2) else ((jX8_fail N l0 2 l3 μ2).bind fun μ3 =>
jX8_number_156 N l0 l4 μ3)
def jX8_number_49b (k49 : Int → Int → Int → Int → Int → Mm → Option (Int × Mm)) (N : Nat) (l0 l1 l2 l3 l4 : Int) (μ : Mm) : Option (Int × Mm) :=
  if (m_gt μ l0 3) ≤ (m_gt μ l0 2) then (jX8_number_129 N l0 l1 l2 l3 l4 μ) else ((m_ald 100 μ (m_gt μ l0 0) (m_gt μ l0 2)).bind fun x1 =>
b2 (jX8_isDigit N x1 μ) fun x2 μ1 =>
if x2 = 0 then (jX8_number_129 N l0 l1 l2 l3 l4 μ1) else (if ¬ (i_sub (m_gt μ1 l0 2) l3) = 4 then ((m_ald 100 μ1 (m_gt μ1 l0 0) (m_gt μ1 l0 2)).bind fun x3 =>
bnd (i_sub (i_add (i_mul 10 l4) x3) 48) fun x4 =>
bnd (m_st μ1 l0 2 (i_add (m_gt μ1 l0 2) 1)) fun μ2 =>
k49 l0 l1 l2 l3 x4 μ2) else ((jX8_fail N l0 1 (m_gt μ1 l0 2) μ1).bind fun μ3 =>
some (0, μ3))))
def jX8_number_49 (N : Nat) : Nat → Int → Int → Int → Int → Int → Mm → Option (Int × Mm)
  | 0 => fun _ _ _ _ _ _ => none
  | n + 1 => fun l0 l1 l2 l3 l4 μ => jX8_number_49b (jX8_number_49 N n) N l0 l1 l2 l3 l4 μ
def jX8_number_30 (N : Nat) (l0 : Int) (μ : Mm) : Option (Int × Mm) :=
  (jX8_fail N l0 1 (m_gt μ l0 2) μ).bind fun μ1 =>
some (0, μ1)
def jX8_number (N : Nat) (l0 l1 l2 : Int) (μ : Mm) : Option (Int × Mm) :=
  if (m_gt μ l0 5) = 0 then (b2 (jX8_look N l0 μ) fun x1 μ1 =>
b2 (jX8_isDigit N x1 μ1) fun x2 μ2 =>
if x2 = 0 then (jX8_number_30 N l0 μ2) else (if ¬ (m_gt μ2 l0 2) = (m_gt μ2 l0 4) then (bnd (m_gt μ2 l0 2) fun x3 =>
jX8_number_49 N N l0 l1 l2 x3 0 μ2) else (jX8_number_30 N l0 μ2))) else (some (0, μ))
-- X8_cleanTold
def jX8_cleanTold_36 (N : Nat) (l0 : Int) (μ : Mm) : Option (Mm) :=
  some μ
def jX8_cleanTold (N : Nat) (l0 : Int) (μ : Mm) : Option (Mm) :=
  b2 (jX8_number N l0 1 3 μ) fun x1 μ1 =>
(jX8_asks N l0 (m_gt μ1 l0 13) μ1).bind fun μ2 =>
b2 (jX8_number N l0 0 3 μ2) fun x2 μ3 =>
if ¬ (m_gt μ3 l0 5) = 0 then (jX8_cleanTold_36 N l0 μ3) else ((m_ast 100 μ3 (m_gt μ3 l0 35) x1 x2).bind fun μ4 =>
jX8_cleanTold_36 N l0 μ4)
-- X8_joinsTold
def jX8_joinsTold_44 (N : Nat) (l0 l1 l3 : Int) (μ : Mm) : Option (Mm) :=
  if (m_gt μ l0 5) = 0 then ((m_ast 102 μ (m_gt μ l0 42) (i_add (i_mul 9 l1) l3) 1).bind fun μ1 =>
(m_ast 102 μ1 (m_gt μ1 l0 42) (i_add (i_mul 9 l3) l1) 1).bind fun μ2 =>
some μ2) else (some μ)
def jX8_joinsTold (N : Nat) (l0 : Int) (μ : Mm) : Option (Mm) :=
  b2 (jX8_number N l0 0 8 μ) fun x1 μ1 =>
b2 (jX8_look N l0 μ1) fun x2 μ2 =>
bnd (m_gt μ2 l0 2) fun x3 =>
b2 (jX8_number N l0 0 8 μ2) fun x4 μ3 =>
if ¬ (m_gt μ3 l0 5) = 0 then (jX8_joinsTold_44 N l0 x1 x4 μ3) else (if ¬ x1 = x4 then (jX8_joinsTold_44 N l0 x1 x4 μ3) else ((jX8_fail N l0 2 x3 μ3).bind fun μ4 =>
jX8_joinsTold_44 N l0 x1 x4 μ4))
-- X8_code
def jX8_code (N : Nat) (l0 l1 : Int) (μ : Mm) : Option (Mm) :=
  (m_ast 100 μ (m_gt μ l0 43) (m_gt μ l0 44) l1).bind fun μ1 =>
bnd (m_st μ1 l0 44 (i_add (m_gt μ1 l0 44) 1)) fun μ2 =>
some μ2
-- X8_drops
def jX8_drops (N : Nat) (l0 : Int) (μ : Mm) : Option (Mm) :=
  bnd (m_st μ l0 46 (i_sub (m_gt μ l0 46) 1)) fun μ1 =>
(m_ald 100 μ1 (m_gt μ1 l0 45) (m_gt μ1 l0 46)).bind fun x1 =>
(jX8_code N l0 x1 μ1).bind fun μ2 =>
some μ2
-- X8_isMark
def jX8_isMark_17 (N : Nat) (l0 s0 : Int) (μ : Mm) : Option (Int × Mm) :=
  z_chk s0 (some (s0, μ))
def jX8_isMark_16 (N : Nat) (l0 : Int) (μ : Mm) : Option (Int × Mm) :=
  jX8_isMark_17 N l0 0 μ
def jX8_isMark (N : Nat) (l0 l1 : Int) (μ : Mm) : Option (Int × Mm) :=
  if l1 < 20 then (jX8_isMark_16 N l0 μ) else (if 24 < l1 then (jX8_isMark_16 N l0 μ) else (jX8_isMark_17 N l0 1 μ))
-- X8_dropsToMark
def jX8_dropsToMark_36 (N : Nat) (l0 : Int) (μ : Mm) : Option (Mm) :=
  some μ
def jX8_dropsToMark_0b (k0 : Int → Mm → Option (Mm)) (N : Nat) (l0 : Int) (μ : Mm) : Option (Mm) :=
  if (m_gt μ l0 46) ≤ (m_gt μ l0 49) then (jX8_dropsToMark_36 N l0 μ) else ((m_ald 100 μ (m_gt μ l0 45) (i_sub (m_gt μ l0 46) 1)).bind fun x1 =>
b2 (jX8_isMark N l0 x1 μ) fun x2 μ1 =>
if ¬ x2 = 0 then (jX8_dropsToMark_36 N l0 μ1) else ((jX8_drops N l0 μ1).bind fun μ2 =>
k0 l0 μ2))
def jX8_dropsToMark_0 (N : Nat) : Nat → Int → Mm → Option (Mm)
  | 0 => fun _ _ => none
  | n + 1 => fun l0 μ => jX8_dropsToMark_0b (jX8_dropsToMark_0 N n) N l0 μ
def jX8_dropsToMark (N : Nat) (l0 : Int) (μ : Mm) : Option (Mm) :=
  jX8_dropsToMark_0 N N l0 μ
-- X8_isOn
def jX8_isOn_27 (N : Nat) (l0 s0 : Int) (μ : Mm) : Option (Int × Mm) :=
  z_chk s0 (some (s0, μ))
def jX8_isOn_26 (N : Nat) (l0 : Int) (μ : Mm) : Option (Int × Mm) :=
  jX8_isOn_27 N l0 0 μ
def jX8_isOn (N : Nat) (l0 l1 : Int) (μ : Mm) : Option (Int × Mm) :=
  if (m_gt μ l0 46) ≤ 0 then (jX8_isOn_26 N l0 μ) else ((m_ald 100 μ (m_gt μ l0 45) (i_sub (m_gt μ l0 46) 1)).bind fun x1 =>
if ¬ x1 = l1 then (jX8_isOn_26 N l0 μ) else (jX8_isOn_27 N l0 1 μ))
-- X8_mark
def jX8_mark_52 (N : Nat) (l0 s0 : Int) (μ : Mm) : Option (Int × Mm) :=
  some (s0, μ)
def jX8_mark_34 (N : Nat) (l0 l1 : Int) (μ : Mm) : Option (Int × Mm) :=
  if l1 < (m_gt μ l0 49) then (jX8_mark_52 N l0 (-1) μ) else ((m_ald 100 μ (m_gt μ l0 45) l1).bind fun x1 =>
jX8_mark_52 N l0 x1 μ)
def jX8_mark_7b (k7 : Int → Int → Mm → Option (Int × Mm)) (N : Nat) (l0 l1 : Int) (μ : Mm) : Option (Int × Mm) :=
  if l1 < (m_gt μ l0 49) then (jX8_mark_34 N l0 l1 μ) else ((m_ald 100 μ (m_gt μ l0 45) l1).bind fun x1 =>
b2 (jX8_isMark N l0 x1 μ) fun x2 μ1 =>
if ¬ x2 = 0 then (jX8_mark_34 N l0 l1 μ1) else (bnd (i_add l1 (-1)) fun x3 =>
k7 l0 x3 μ1))
def jX8_mark_7 (N : Nat) : Nat → Int → Int → Mm → Option (Int × Mm)
  | 0 => fun _ _ _ => none
  | n + 1 => fun l0 l1 μ => jX8_mark_7b (jX8_mark_7 N n) N l0 l1 μ
def jX8_mark (N : Nat) (l0 : Int) (μ : Mm) : Option (Int × Mm) :=
  bnd (i_sub (m_gt μ l0 46) 1) fun x1 =>
jX8_mark_7 N N l0 x1 μ
-- X8_goesOn
def jX8_goesOn_382 (N : Nat) (l0 : Int) (μ : Mm) : Option (Int × Mm) :=
  some (0, μ)
def jX8_goesOn_322 (N : Nat) (l0 : Int) (μ : Mm) : Option (Int × Mm) :=
  (jX8_asksSign N l0 44 μ).bind fun μ1 =>
if (m_gt μ1 l0 5) = 0 then ((jX8_dropsToMark N l0 μ1).bind fun μ2 =>
(m_ald 100 μ2 (m_gt μ2 l0 45) (i_sub (m_gt μ2 l0 46) 1)).bind fun x1 =>
(m_ast 100 μ2 (m_gt μ2 l0 45) (i_sub (m_gt μ2 l0 46) 1) (i_add x1 2)).bind fun μ3 =>
some (1, μ3)) else (some (0, μ1))
def jX8_goesOn_275 (k243 : Int → Int → Mm → Option (Int × Mm)) (N : Nat) (l0 l1 : Int) (μ : Mm) : Option (Int × Mm) :=
  (jX8_drops N l0 μ).bind fun μ1 =>
k243 l0 l1 μ1
def jX8_goesOn_243b (k243 : Int → Int → Mm → Option (Int × Mm)) (N : Nat) (l0 l1 : Int) (μ : Mm) : Option (Int × Mm) :=
  b2 (jX8_isOn N l0 3 μ) fun x1 μ1 =>
if ¬ x1 = 0 then (jX8_goesOn_275 k243 N l0 l1 μ1) else (b2 (jX8_isOn N l0 4 μ1) fun x2 μ2 =>
if ¬ x2 = 0 then (jX8_goesOn_275 k243 N l0 l1 μ2) else (b2 (jX8_isOn N l0 1 μ2) fun x3 μ3 =>
if ¬ x3 = 0 then (jX8_goesOn_275 k243 N l0 l1 μ3) else (b2 (jX8_isOn N l0 2 μ3) fun x4 μ4 =>
if x4 = 0 then ((m_ast 100 μ4 (m_gt μ4 l0 45) (m_gt μ4 l0 46) l1).bind fun μ5 =>
bnd (m_st μ5 l0 46 (i_add (m_gt μ5 l0 46) 1)) fun μ6 =>
some (1, μ6)) else (jX8_goesOn_275 k243 N l0 l1 μ4))))
def jX8_goesOn_243 (N : Nat) : Nat → Int → Int → Mm → Option (Int × Mm)
  | 0 => fun _ _ _ => none
  | n + 1 => fun l0 l1 μ => jX8_goesOn_243b (jX8_goesOn_243 N n) N l0 l1 μ
def jX8_goesOn_242 (N : Nat) (l0 s0 : Int) (μ : Mm) : Option (Int × Mm) :=
  jX8_goesOn_243 N N l0 s0 μ
def jX8_goesOn_221 (N : Nat) (l0 : Int) (μ : Mm) : Option (Int × Mm) :=
  (m_ald 100 μ (m_gt μ l0 0) (i_sub (m_gt μ l0 2) 1)).bind fun x1 =>
if ¬ x1 = 43 then (jX8_goesOn_242 N l0 2 μ) else (jX8_goesOn_242 N l0 1 μ)
def jX8_goesOn_174 (k158 : Int → Int → Mm → Option (Int × Mm)) (N : Nat) (l0 l1 : Int) (μ : Mm) : Option (Int × Mm) :=
  (jX8_drops N l0 μ).bind fun μ1 =>
k158 l0 l1 μ1
def jX8_goesOn_158b (k158 : Int → Int → Mm → Option (Int × Mm)) (N : Nat) (l0 l1 : Int) (μ : Mm) : Option (Int × Mm) :=
  b2 (jX8_isOn N l0 3 μ) fun x1 μ1 =>
if ¬ x1 = 0 then (jX8_goesOn_174 k158 N l0 l1 μ1) else (b2 (jX8_isOn N l0 4 μ1) fun x2 μ2 =>
if x2 = 0 then ((m_ast 100 μ2 (m_gt μ2 l0 45) (m_gt μ2 l0 46) l1).bind fun μ3 =>
bnd (m_st μ3 l0 46 (i_add (m_gt μ3 l0 46) 1)) fun μ4 =>
some (1, μ4)) else (jX8_goesOn_174 k158 N l0 l1 μ2))
def jX8_goesOn_158 (N : Nat) : Nat → Int → Int → Mm → Option (Int × Mm)
  | 0 => fun _ _ _ => none
  | n + 1 => fun l0 l1 μ => jX8_goesOn_158b (jX8_goesOn_158 N n) N l0 l1 μ
def jX8_goesOn_157 (N : Nat) (l0 s0 : Int) (μ : Mm) : Option (Int × Mm) :=
  jX8_goesOn_158 N N l0 s0 μ
def jX8_goesOn_136 (N : Nat) (l0 : Int) (μ : Mm) : Option (Int × Mm) :=
  (m_ald 100 μ (m_gt μ l0 0) (i_sub (m_gt μ l0 2) 1)).bind fun x1 =>
if ¬ x1 = 42 then (jX8_goesOn_157 N l0 4 μ) else (jX8_goesOn_157 N l0 3 μ)
def jX8_goesOn_118 (N : Nat) (l0 : Int) (μ : Mm) : Option (Int × Mm) :=
  b2 (jX8_takesSign N l0 42 μ) fun x1 μ1 =>
if ¬ x1 = 0 then (jX8_goesOn_136 N l0 μ1) else (b2 (jX8_takesSign N l0 47 μ1) fun x2 μ2 =>
if x2 = 0 then (b2 (jX8_takesSign N l0 43 μ2) fun x3 μ3 =>
if ¬ x3 = 0 then (jX8_goesOn_221 N l0 μ3) else (b2 (jX8_takesSign N l0 45 μ3) fun x4 μ4 =>
if x4 = 0 then (b2 (jX8_mark N l0 μ4) fun x5 μ5 =>
if x5 = 21 then (jX8_goesOn_322 N l0 μ5) else (b2 (jX8_mark N l0 μ5) fun x6 μ6 =>
if ¬ x6 = 22 then (b2 (jX8_mark N l0 μ6) fun x7 μ7 =>
if x7 = (-1) then (jX8_goesOn_382 N l0 μ7) else (if ¬ (m_gt μ7 l0 5) = 0 then (jX8_goesOn_382 N l0 μ7) else ((jX8_fail N l0 1 (m_gt μ7 l0 2) μ7).bind fun μ8 =>
jX8_goesOn_382 N l0 μ8))) else (jX8_goesOn_322 N l0 μ6))) else (jX8_goesOn_221 N l0 μ4))) else (jX8_goesOn_136 N l0 μ2))
def jX8_goesOn_112 (k0 : Int → Mm → Option (Int × Mm)) (N : Nat) (l0 s0 s1 : Int) (μ : Mm) : Option (Int × Mm) :=
  m_chk 8 μ s1 (
(jX8_code N s1 s0 μ).bind fun μ1 =>
k0 l0 μ1)
def jX8_goesOn_43 (k0 : Int → Mm → Option (Int × Mm)) (N : Nat) (l0 : Int) (μ : Mm) : Option (Int × Mm) :=
  bnd (m_st μ l0 2 (i_add (m_gt μ l0 2) 1)) fun μ1 =>
(jX8_dropsToMark N l0 μ1).bind fun μ2 =>
bnd (m_st μ2 l0 46 (i_sub (m_gt μ2 l0 46) 1)) fun μ3 =>
bnd (m_st μ3 l0 47 (i_sub (m_gt μ3 l0 47) 1)) fun μ4 =>
(m_ald 100 μ4 (m_gt μ4 l0 45) (m_gt μ4 l0 46)).bind fun x1 =>
if x1 = 20 then (k0 l0 μ4) else ((m_ald 100 μ4 (m_gt μ4 l0 45) (m_gt μ4 l0 46)).bind fun x2 =>
if ¬ x2 = 23 then (jX8_goesOn_112 k0 N l0 6 l0 μ4) else (jX8_goesOn_112 k0 N l0 5 l0 μ4))
def jX8_goesOn_0b (k0 : Int → Mm → Option (Int × Mm)) (N : Nat) (l0 : Int) (μ : Mm) : Option (Int × Mm) :=
  if ¬ (m_gt μ l0 5) = 0 then (jX8_goesOn_118 N l0 μ) else (b2 (jX8_look N l0 μ) fun x1 μ1 =>
if ¬ x1 = 41 then (jX8_goesOn_118 N l0 μ1) else (b2 (jX8_mark N l0 μ1) fun x2 μ2 =>
if x2 = 20 then (jX8_goesOn_43 k0 N l0 μ2) else (b2 (jX8_mark N l0 μ2) fun x3 μ3 =>
if x3 = 23 then (jX8_goesOn_43 k0 N l0 μ3) else (b2 (jX8_mark N l0 μ3) fun x4 μ4 =>
if ¬ x4 = 24 then (jX8_goesOn_118 N l0 μ4) else (jX8_goesOn_43 k0 N l0 μ4)))))
def jX8_goesOn_0 (N : Nat) : Nat → Int → Mm → Option (Int × Mm)
  | 0 => fun _ _ => none
  | n + 1 => fun l0 μ => jX8_goesOn_0b (jX8_goesOn_0 N n) N l0 μ
def jX8_goesOn (N : Nat) (l0 : Int) (μ : Mm) : Option (Int × Mm) :=
  jX8_goesOn_0 N N l0 μ
-- X8_opens
def jX8_opens (N : Nat) (l0 l1 l2 : Int) (μ : Mm) : Option (Mm) :=
  if ¬ (m_gt μ l0 47) = 6 then (bnd (m_st μ l0 47 (i_add (m_gt μ l0 47) 1)) fun μ1 =>
(m_ast 100 μ1 (m_gt μ1 l0 45) (m_gt μ1 l0 46) l1).bind fun μ2 =>
bnd (m_st μ2 l0 46 (i_add (m_gt μ2 l0 46) 1)) fun μ3 =>
some μ3) else ((jX8_fail N l0 4 l2 μ).bind fun μ4 =>
some μ4)
-- X8_onePart
def jX8_onePart_274 (N : Nat) (l0 s0 s1 : Int) (μ : Mm) : Option (Mm) :=
  m_chk 8 μ s1 (
(jX8_code N s1 s0 μ).bind fun μ1 =>
some μ1)
def jX8_onePart_251 (N : Nat) (l0 s0 : Int) (μ : Mm) : Option (Mm) :=
  if s0 = (-1) then (b2 (jX8_number N l0 0 9999 μ) fun x1 μ1 =>
jX8_onePart_274 N l0 (i_add 1000 x1) l0 μ1) else (jX8_onePart_274 N l0 s0 l0 μ)
def jX8_onePart_146 (N : Nat) (l0 : Int) (μ : Mm) : Option (Mm) :=
  if (m_gt μ l0 5) = 0 then (b2 (jX8_takes N l0 (m_gt μ l0 23) μ) fun x1 μ1 =>
if x1 = 0 then (b2 (jX8_takes N l0 (m_gt μ1 l0 24) μ1) fun x2 μ2 =>
if x2 = 0 then (b2 (jX8_takes N l0 (m_gt μ2 l0 25) μ2) fun x3 μ3 =>
if x3 = 0 then (b2 (jX8_takes N l0 (m_gt μ3 l0 26) μ3) fun x4 μ4 =>
if x4 = 0 then (b2 (jX8_takes N l0 (m_gt μ4 l0 27) μ4) fun x5 μ5 =>
if x5 = 0 then (b2 (jX8_takes N l0 (m_gt μ5 l0 28) μ5) fun x6 μ6 =>
if x6 = 0 then (jX8_onePart_251 N l0 (-1) μ6) else (jX8_onePart_251 N l0 30 μ6)) else (jX8_onePart_251 N l0 18 μ5)) else (jX8_onePart_251 N l0 10 μ4)) else (jX8_onePart_251 N l0 9 μ3)) else (jX8_onePart_251 N l0 8 μ2)) else (jX8_onePart_251 N l0 7 μ1)) else (some μ)
def jX8_onePart_143 (k2 : Int → Int → Mm → Option (Mm)) (N : Nat) (l0 l1 : Int) (μ : Mm) : Option (Mm) :=
  k2 l0 l1 μ
def jX8_onePart_132 (k2 : Int → Int → Mm → Option (Mm)) (N : Nat) (l0 l1 : Int) (μ : Mm) : Option (Mm) :=
  (jX8_asksSign N l0 40 μ).bind fun μ1 =>
jX8_onePart_143 k2 N l0 l1 μ1
def jX8_onePart_127 (k2 : Int → Int → Mm → Option (Mm)) (N : Nat) (l0 l1 l4 s0 s1 : Int) (μ : Mm) : Option (Mm) :=
  m_chk 8 μ s1 (
(jX8_opens N s1 s0 l4 μ).bind fun μ1 =>
jX8_onePart_132 k2 N l0 l1 μ1)
def jX8_onePart_107 (k2 : Int → Int → Mm → Option (Mm)) (N : Nat) (l0 l1 l3 s0 : Int) (μ : Mm) : Option (Mm) :=
  if s0 = (-1) then (jX8_onePart_132 k2 N l0 l1 μ) else (if l3 = 0 then (jX8_onePart_127 k2 N l0 l1 s0 22 l0 μ) else (jX8_onePart_127 k2 N l0 l1 s0 21 l0 μ))
def jX8_onePart_90 (k2 : Int → Int → Mm → Option (Mm)) (N : Nat) (l0 l1 l3 : Int) (μ : Mm) : Option (Mm) :=
  b2 (jX8_look N l0 μ) fun x1 μ1 =>
if ¬ x1 = 40 then (jX8_onePart_107 k2 N l0 l1 l3 (-1) μ1) else (jX8_onePart_107 k2 N l0 l1 l3 (m_gt μ1 l0 2) μ1)
def jX8_onePart_69 (k2 : Int → Int → Mm → Option (Mm)) (N : Nat) (l0 l1 : Int) (μ : Mm) : Option (Mm) :=
  b2 (jX8_takes N l0 (m_gt μ l0 29) μ) fun x1 μ1 =>
if ¬ x1 = 0 then (jX8_onePart_90 k2 N l0 l1 x1 μ1) else ((jX8_asks N l0 (m_gt μ1 l0 30) μ1).bind fun μ2 =>
jX8_onePart_90 k2 N l0 l1 x1 μ2)
def jX8_onePart_2b (k2 : Int → Int → Mm → Option (Mm)) (N : Nat) (l0 l1 : Int) (μ : Mm) : Option (Mm) :=
  if l1 = 0 then (jX8_onePart_146 N l0 μ) else (if ¬ (m_gt μ l0 5) = 0 then (jX8_onePart_146 N l0 μ) else (b2 (jX8_look N l0 μ) fun x1 μ1 =>
if ¬ x1 = 40 then (b2 (jX8_isHere N l0 (m_gt μ1 l0 29) μ1) fun x2 μ2 =>
if ¬ x2 = 0 then (jX8_onePart_69 k2 N l0 l1 μ2) else (b2 (jX8_isHere N l0 (m_gt μ2 l0 30) μ2) fun x3 μ3 =>
if x3 = 0 then (jX8_onePart_143 k2 N l0 0 μ3) else (jX8_onePart_69 k2 N l0 l1 μ3))) else ((jX8_opens N l0 20 (m_gt μ1 l0 2) μ1).bind fun μ4 =>
bnd (m_st μ4 l0 2 (i_add (m_gt μ4 l0 2) 1)) fun μ5 =>
jX8_onePart_143 k2 N l0 l1 μ5)))
def jX8_onePart_2 (N : Nat) : Nat → Int → Int → Mm → Option (Mm)
  | 0 => fun _ _ _ => none
  | n + 1 => fun l0 l1 μ => jX8_onePart_2b (jX8_onePart_2 N n) N l0 l1 μ
def jX8_onePart (N : Nat) (l0 : Int) (μ : Mm) : Option (Mm) :=
  jX8_onePart_2 N N l0 1 μ
-- X8_sums
def jX8_sums_78 (N : Nat) (l0 l1 : Int) (μ : Mm) : Option (Mm) :=
  bnd (m_st μ l0 49 l1) fun μ1 =>
some μ1
def jX8_sums_53b (k53 : Int → Int → Mm → Option (Mm)) (N : Nat) (l0 l1 : Int) (μ : Mm) : Option (Mm) :=
  if ¬ (m_gt μ l0 5) = 0 then (jX8_sums_78 N l0 l1 μ) else (if (m_gt μ l0 46) ≤ (m_gt μ l0 49) then (jX8_sums_78 N l0 l1 μ) else ((jX8_drops N l0 μ).bind fun μ1 =>
k53 l0 l1 μ1))
def jX8_sums_53 (N : Nat) : Nat → Int → Int → Mm → Option (Mm)
  | 0 => fun _ _ _ => none
  | n + 1 => fun l0 l1 μ => jX8_sums_53b (jX8_sums_53 N n) N l0 l1 μ
def jX8_sums_49 (k15 : Int → Int → Int → Mm → Option (Mm)) (N : Nat) (l0 l1 s0 : Int) (μ : Mm) : Option (Mm) :=
  k15 l0 l1 s0 μ
def jX8_sums_48 (k15 : Int → Int → Int → Mm → Option (Mm)) (N : Nat) (l0 l1 : Int) (μ : Mm) : Option (Mm) :=
  jX8_sums_49 k15 N l0 l1 0 μ
def jX8_sums_15b (k15 : Int → Int → Int → Mm → Option (Mm)) (N : Nat) (l0 l1 l2 : Int) (μ : Mm) : Option (Mm) :=
  if l2 = 0 then (jX8_sums_53 N N l0 l1 μ) else (if ¬ (m_gt μ l0 5) = 0 then (jX8_sums_53 N N l0 l1 μ) else ((jX8_onePart N l0 μ).bind fun μ1 =>
if ¬ (m_gt μ1 l0 5) = 0 then (jX8_sums_48 k15 N l0 l1 μ1) else (b2 (jX8_goesOn N l0 μ1) fun x1 μ2 =>
if x1 = 0 then (jX8_sums_48 k15 N l0 l1 μ2) else (jX8_sums_49 k15 N l0 l1 1 μ2))))
def jX8_sums_15 (N : Nat) : Nat → Int → Int → Int → Mm → Option (Mm)
  | 0 => fun _ _ _ _ => none
  | n + 1 => fun l0 l1 l2 μ => jX8_sums_15b (jX8_sums_15 N n) N l0 l1 l2 μ
def jX8_sums (N : Nat) (l0 : Int) (μ : Mm) : Option (Mm) :=
  bnd (m_gt μ l0 49) fun x1 =>
bnd (m_st μ l0 49 (m_gt μ l0 46)) fun μ1 =>
jX8_sums_15 N N l0 x1 1 μ1
-- X8_readsSum
def jX8_readsSum_26 (N : Nat) (l0 : Int) (μ : Mm) : Option (Mm) :=
  some μ
def jX8_readsSum (N : Nat) (l0 : Int) (μ : Mm) : Option (Mm) :=
  bnd (m_st μ l0 46 0) fun μ1 =>
bnd (m_st μ1 l0 47 0) fun μ2 =>
bnd (m_st μ2 l0 49 0) fun μ3 =>
if ¬ (m_gt μ3 l0 5) = 0 then (jX8_readsSum_26 N l0 μ3) else ((jX8_sums N l0 μ3).bind fun μ4 =>
jX8_readsSum_26 N l0 μ4)
-- X8_dropsNots
def jX8_dropsNots_33 (N : Nat) (l0 : Int) (μ : Mm) : Option (Mm) :=
  some μ
def jX8_dropsNots_0b (k0 : Int → Mm → Option (Mm)) (N : Nat) (l0 : Int) (μ : Mm) : Option (Mm) :=
  if ¬ (m_gt μ l0 5) = 0 then (jX8_dropsNots_33 N l0 μ) else (b2 (jX8_isOn N l0 16 μ) fun x1 μ1 =>
if x1 = 0 then (jX8_dropsNots_33 N l0 μ1) else (bnd (m_st μ1 l0 47 (i_sub (m_gt μ1 l0 47) 1)) fun μ2 =>
(jX8_drops N l0 μ2).bind fun μ3 =>
k0 l0 μ3))
def jX8_dropsNots_0 (N : Nat) : Nat → Int → Mm → Option (Mm)
  | 0 => fun _ _ => none
  | n + 1 => fun l0 μ => jX8_dropsNots_0b (jX8_dropsNots_0 N n) N l0 μ
def jX8_dropsNots (N : Nat) (l0 : Int) (μ : Mm) : Option (Mm) :=
  jX8_dropsNots_0 N N l0 μ
-- X8_fact
def jX8_fact_102 (N : Nat) (l0 s0 s1 : Int) (μ : Mm) : Option (Mm) :=
  m_chk 8 μ s1 (
(jX8_code N s1 s0 μ).bind fun μ1 =>
some μ1)
def jX8_fact_63 (N : Nat) (l0 l1 : Int) (μ : Mm) : Option (Mm) :=
  bnd (m_st μ l0 2 (i_add (m_gt μ l0 2) 1)) fun μ1 =>
(jX8_sums N l0 μ1).bind fun μ2 =>
if ¬ l1 = 60 then (if ¬ l1 = 62 then (jX8_fact_102 N l0 13 l0 μ2) else (jX8_fact_102 N l0 12 l0 μ2)) else (jX8_fact_102 N l0 11 l0 μ2)
def jX8_fact (N : Nat) (l0 : Int) (μ : Mm) : Option (Mm) :=
  b2 (jX8_takes N l0 (m_gt μ l0 22) μ) fun x1 μ1 =>
if x1 = 0 then ((jX8_sums N l0 μ1).bind fun μ2 =>
if (m_gt μ2 l0 5) = 0 then (b2 (jX8_look N l0 μ2) fun x2 μ3 =>
if x2 = 60 then (jX8_fact_63 N l0 x2 μ3) else (if x2 = 62 then (jX8_fact_63 N l0 x2 μ3) else (if x2 = 61 then (jX8_fact_63 N l0 x2 μ3) else ((jX8_fail N l0 1 (m_gt μ3 l0 2) μ3).bind fun μ4 =>
some μ4)))) else (some μ2)) else ((jX8_code N l0 17 μ1).bind fun μ5 =>
some μ5)
-- X8_hasSquare
def jX8_hasSquare_2b (k2 : Int → Int → Mm → Option (Int × Mm)) (N : Nat) (l0 l1 : Int) (μ : Mm) : Option (Int × Mm) :=
  if (m_gt μ l0 46) ≤ l1 then (some (0, μ)) else ((m_ald 100 μ (m_gt μ l0 45) l1).bind fun x1 =>
if ¬ x1 = 25 then (bnd (i_add l1 1) fun x2 =>
k2 l0 x2 μ) else (some (1, μ)))
def jX8_hasSquare_2 (N : Nat) : Nat → Int → Int → Mm → Option (Int × Mm)
  | 0 => fun _ _ _ => none
  | n + 1 => fun l0 l1 μ => jX8_hasSquare_2b (jX8_hasSquare_2 N n) N l0 l1 μ
def jX8_hasSquare (N : Nat) (l0 : Int) (μ : Mm) : Option (Int × Mm) :=
  jX8_hasSquare_2 N N l0 0 μ
-- X8_goesOnTest
def jX8_goesOnTest_208 (N : Nat) (l0 : Int) (μ : Mm) : Option (Int × Mm) :=
  some (0, μ)
def jX8_goesOnTest_155 (k137 : Int → Mm → Option (Int × Mm)) (N : Nat) (l0 : Int) (μ : Mm) : Option (Int × Mm) :=
  (jX8_drops N l0 μ).bind fun μ1 =>
k137 l0 μ1
def jX8_goesOnTest_137b (k137 : Int → Mm → Option (Int × Mm)) (N : Nat) (l0 : Int) (μ : Mm) : Option (Int × Mm) :=
  b2 (jX8_isOn N l0 14 μ) fun x1 μ1 =>
if ¬ x1 = 0 then (jX8_goesOnTest_155 k137 N l0 μ1) else (b2 (jX8_isOn N l0 15 μ1) fun x2 μ2 =>
if x2 = 0 then ((m_ast 100 μ2 (m_gt μ2 l0 45) (m_gt μ2 l0 46) 15).bind fun μ3 =>
bnd (m_st μ3 l0 46 (i_add (m_gt μ3 l0 46) 1)) fun μ4 =>
some (1, μ4)) else (jX8_goesOnTest_155 k137 N l0 μ2))
def jX8_goesOnTest_137 (N : Nat) : Nat → Int → Mm → Option (Int × Mm)
  | 0 => fun _ _ => none
  | n + 1 => fun l0 μ => jX8_goesOnTest_137b (jX8_goesOnTest_137 N n) N l0 μ
def jX8_goesOnTest_87b (k87 : Int → Mm → Option (Int × Mm)) (N : Nat) (l0 : Int) (μ : Mm) : Option (Int × Mm) :=
  b2 (jX8_isOn N l0 14 μ) fun x1 μ1 =>
if x1 = 0 then ((m_ast 100 μ1 (m_gt μ1 l0 45) (m_gt μ1 l0 46) 14).bind fun μ2 =>
bnd (m_st μ2 l0 46 (i_add (m_gt μ2 l0 46) 1)) fun μ3 =>
some (1, μ3)) else ((jX8_drops N l0 μ1).bind fun μ4 =>
k87 l0 μ4)
def jX8_goesOnTest_87 (N : Nat) : Nat → Int → Mm → Option (Int × Mm)
  | 0 => fun _ _ => none
  | n + 1 => fun l0 μ => jX8_goesOnTest_87b (jX8_goesOnTest_87 N n) N l0 μ
def jX8_goesOnTest_76 (N : Nat) (l0 : Int) (μ : Mm) : Option (Int × Mm) :=
  b2 (jX8_takes N l0 (m_gt μ l0 20) μ) fun x1 μ1 =>
if x1 = 0 then (b2 (jX8_takes N l0 (m_gt μ1 l0 19) μ1) fun x2 μ2 =>
if x2 = 0 then (if ¬ (m_gt μ2 l0 5) = 0 then (jX8_goesOnTest_208 N l0 μ2) else (b2 (jX8_hasSquare N l0 μ2) fun x3 μ3 =>
if x3 = 0 then (jX8_goesOnTest_208 N l0 μ3) else ((jX8_fail N l0 1 (m_gt μ3 l0 2) μ3).bind fun μ4 =>
jX8_goesOnTest_208 N l0 μ4))) else (jX8_goesOnTest_137 N N l0 μ2)) else (jX8_goesOnTest_87 N N l0 μ1)
def jX8_goesOnTest_33b (k0 : Int → Mm → Option (Int × Mm)) (k33 : Int → Mm → Option (Int × Mm)) (N : Nat) (l0 : Int) (μ : Mm) : Option (Int × Mm) :=
  b2 (jX8_isOn N l0 25 μ) fun x1 μ1 =>
if ¬ x1 = 0 then (bnd (m_st μ1 l0 46 (i_sub (m_gt μ1 l0 46) 1)) fun μ2 =>
bnd (m_st μ2 l0 47 (i_sub (m_gt μ2 l0 47) 1)) fun μ3 =>
(jX8_dropsNots N l0 μ3).bind fun μ4 =>
k0 l0 μ4) else ((jX8_drops N l0 μ1).bind fun μ5 =>
k33 l0 μ5)
def jX8_goesOnTest_33 (k0 : Int → Mm → Option (Int × Mm)) (N : Nat) : Nat → Int → Mm → Option (Int × Mm)
  | 0 => fun _ _ => none
  | n + 1 => fun l0 μ => jX8_goesOnTest_33b k0 (jX8_goesOnTest_33 k0 N n) N l0 μ
def jX8_goesOnTest_0b (k0 : Int → Mm → Option (Int × Mm)) (N : Nat) (l0 : Int) (μ : Mm) : Option (Int × Mm) :=
  if ¬ (m_gt μ l0 5) = 0 then (jX8_goesOnTest_76 N l0 μ) else (b2 (jX8_look N l0 μ) fun x1 μ1 =>
if ¬ x1 = 93 then (jX8_goesOnTest_76 N l0 μ1) else (b2 (jX8_hasSquare N l0 μ1) fun x2 μ2 =>
if x2 = 0 then (jX8_goesOnTest_76 N l0 μ2) else (bnd (m_st μ2 l0 2 (i_add (m_gt μ2 l0 2) 1)) fun μ3 =>
jX8_goesOnTest_33 k0 N N l0 μ3)))
def jX8_goesOnTest_0 (N : Nat) : Nat → Int → Mm → Option (Int × Mm)
  | 0 => fun _ _ => none
  | n + 1 => fun l0 μ => jX8_goesOnTest_0b (jX8_goesOnTest_0 N n) N l0 μ
def jX8_goesOnTest (N : Nat) (l0 : Int) (μ : Mm) : Option (Int × Mm) :=
  jX8_goesOnTest_0 N N l0 μ
-- X8_test
def jX8_test_131 (N : Nat) (l0 : Int) (μ : Mm) : Option (Mm) :=
  some μ
def jX8_test_110b (k110 : Int → Mm → Option (Mm)) (N : Nat) (l0 : Int) (μ : Mm) : Option (Mm) :=
  if ¬ (m_gt μ l0 5) = 0 then (jX8_test_131 N l0 μ) else (if (m_gt μ l0 46) ≤ 0 then (jX8_test_131 N l0 μ) else ((jX8_drops N l0 μ).bind fun μ1 =>
k110 l0 μ1))
def jX8_test_110 (N : Nat) : Nat → Int → Mm → Option (Mm)
  | 0 => fun _ _ => none
  | n + 1 => fun l0 μ => jX8_test_110b (jX8_test_110 N n) N l0 μ
def jX8_test_106 (k2 : Int → Int → Mm → Option (Mm)) (N : Nat) (l0 s0 : Int) (μ : Mm) : Option (Mm) :=
  k2 l0 s0 μ
def jX8_test_105 (k2 : Int → Int → Mm → Option (Mm)) (N : Nat) (l0 : Int) (μ : Mm) : Option (Mm) :=
  jX8_test_106 k2 N l0 0 μ
def jX8_test_2b (k2 : Int → Int → Mm → Option (Mm)) (N : Nat) (l0 l1 : Int) (μ : Mm) : Option (Mm) :=
  if l1 = 0 then (jX8_test_110 N N l0 μ) else (if ¬ (m_gt μ l0 5) = 0 then (jX8_test_110 N N l0 μ) else (b2 (jX8_look N l0 μ) fun x1 μ1 =>
if ¬ x1 = 91 then (b2 (jX8_isHere N l0 (m_gt μ1 l0 21) μ1) fun x2 μ2 =>
if x2 = 0 then ((jX8_fact N l0 μ2).bind fun μ3 =>
(jX8_dropsNots N l0 μ3).bind fun μ4 =>
if ¬ (m_gt μ4 l0 5) = 0 then (jX8_test_105 k2 N l0 μ4) else (b2 (jX8_goesOnTest N l0 μ4) fun x3 μ5 =>
if x3 = 0 then (jX8_test_105 k2 N l0 μ5) else (jX8_test_106 k2 N l0 1 μ5))) else ((jX8_opens N l0 16 (m_gt μ2 l0 2) μ2).bind fun μ6 =>
(jX8_asks N l0 (m_gt μ6 l0 21) μ6).bind fun μ7 =>
k2 l0 l1 μ7)) else ((jX8_opens N l0 25 (m_gt μ1 l0 2) μ1).bind fun μ8 =>
bnd (m_st μ8 l0 2 (i_add (m_gt μ8 l0 2) 1)) fun μ9 =>
k2 l0 l1 μ9)))
def jX8_test_2 (N : Nat) : Nat → Int → Int → Mm → Option (Mm)
  | 0 => fun _ _ _ => none
  | n + 1 => fun l0 l1 μ => jX8_test_2b (jX8_test_2 N n) N l0 l1 μ
def jX8_test (N : Nat) (l0 : Int) (μ : Mm) : Option (Mm) :=
  jX8_test_2 N N l0 1 μ
-- X8_worthTold
def jX8_worthTold_50 (N : Nat) (l0 l1 : Int) (μ : Mm) : Option (Mm) :=
  (m_ast 100 μ (m_gt μ l0 39) l1 (m_gt μ l0 44)).bind fun μ1 =>
(m_ald 100 μ1 (m_gt μ1 l0 36) 0).bind fun x1 =>
(m_ast 100 μ1 (m_gt μ1 l0 36) 0 (i_add x1 1)).bind fun μ2 =>
some μ2
def jX8_worthTold (N : Nat) (l0 : Int) (μ : Mm) : Option (Mm) :=
  (m_ald 100 μ (m_gt μ l0 36) 0).bind fun x1 =>
(m_ast 100 μ (m_gt μ l0 37) x1 (m_gt μ l0 44)).bind fun μ1 =>
(jX8_readsSum N l0 μ1).bind fun μ2 =>
(m_ast 100 μ2 (m_gt μ2 l0 38) x1 (m_gt μ2 l0 44)).bind fun μ3 =>
(jX8_asks N l0 (m_gt μ3 l0 16) μ3).bind fun μ4 =>
if ¬ (m_gt μ4 l0 5) = 0 then (jX8_worthTold_50 N l0 x1 μ4) else ((jX8_test N l0 μ4).bind fun μ5 =>
jX8_worthTold_50 N l0 x1 μ5)
-- X8_statement
def jX8_statement_212 (N : Nat) (l0 : Int) (μ : Mm) : Option (Mm) :=
  (jX8_asksSign N l0 59 μ).bind fun μ1 =>
bnd (m_st μ1 l0 48 (i_add (m_gt μ1 l0 48) 1)) fun μ2 =>
some μ2
def jX8_statement (N : Nat) (l0 : Int) (μ : Mm) : Option (Mm) :=
  if ¬ (m_gt μ l0 48) = 30 then (b2 (jX8_takes N l0 (m_gt μ l0 9) μ) fun x1 μ1 =>
if x1 = 0 then (b2 (jX8_takes N l0 (m_gt μ1 l0 10) μ1) fun x2 μ2 =>
if x2 = 0 then (b2 (jX8_takes N l0 (m_gt μ2 l0 11) μ2) fun x3 μ3 =>
if x3 = 0 then (b2 (jX8_takes N l0 (m_gt μ3 l0 12) μ3) fun x4 μ4 =>
if x4 = 0 then (b2 (jX8_takes N l0 (m_gt μ4 l0 14) μ4) fun x5 μ5 =>
if x5 = 0 then (b2 (jX8_takes N l0 (m_gt μ5 l0 15) μ5) fun x6 μ6 =>
if x6 = 0 then (b2 (jX8_takes N l0 (m_gt μ6 l0 17) μ6) fun x7 μ7 =>
if x7 = 0 then ((jX8_asks N l0 (m_gt μ7 l0 18) μ7).bind fun μ8 =>
(jX8_joinsTold N l0 μ8).bind fun μ9 =>
jX8_statement_212 N l0 μ9) else ((m_ast 100 μ7 (m_gt μ7 l0 40) 0 (m_gt μ7 l0 44)).bind fun μ10 =>
(jX8_readsSum N l0 μ10).bind fun μ11 =>
(m_ast 100 μ11 (m_gt μ11 l0 41) 0 (m_gt μ11 l0 44)).bind fun μ12 =>
jX8_statement_212 N l0 μ12)) else ((jX8_worthTold N l0 μ6).bind fun μ13 =>
jX8_statement_212 N l0 μ13)) else (b2 (jX8_number N l0 0 10 μ5) fun x8 μ14 =>
(m_ast 100 μ14 (m_gt μ5 l0 34) 0 x8).bind fun μ15 =>
jX8_statement_212 N l0 μ15)) else ((jX8_cleanTold N l0 μ4).bind fun μ16 =>
jX8_statement_212 N l0 μ16)) else (b2 (jX8_number N l0 1 3 μ3) fun x9 μ17 =>
(m_ast 100 μ17 (m_gt μ3 l0 33) 0 x9).bind fun μ18 =>
jX8_statement_212 N l0 μ18)) else (b2 (jX8_number N l0 1 8 μ2) fun x10 μ19 =>
(m_ast 100 μ19 (m_gt μ2 l0 32) 0 x10).bind fun μ20 =>
jX8_statement_212 N l0 μ20)) else (b2 (jX8_number N l0 1 9 μ1) fun x11 μ21 =>
(m_ast 100 μ21 (m_gt μ1 l0 31) 0 x11).bind fun μ22 =>
jX8_statement_212 N l0 μ22)) else ((jX8_fail N l0 5 (m_gt μ l0 2) μ).bind fun μ23 =>
some μ23)
-- X8_game
def jX8_game_100b (k100 : Int → Int → Mm → Option (Int × Mm)) (N : Nat) (l0 l1 : Int) (μ : Mm) : Option (Int × Mm) :=
  if 6 ≤ l1 then (bnd (m_st μ l0 70 0) fun μ1 =>
bnd (m_st μ1 l0 72 0) fun μ2 =>
some (m_gt μ2 l0 48, μ2)) else ((m_ast 100 μ (m_gt μ l0 81) l1 0).bind fun μ3 =>
bnd (i_add l1 1) fun x1 =>
k100 l0 x1 μ3)
def jX8_game_100 (N : Nat) : Nat → Int → Int → Mm → Option (Int × Mm)
  | 0 => fun _ _ _ => none
  | n + 1 => fun l0 l1 μ => jX8_game_100b (jX8_game_100 N n) N l0 l1 μ
def jX8_game_59 (N : Nat) (l0 : Int) (μ : Mm) : Option (Int × Mm) :=
  bnd (m_st μ l0 7 (m_gt μ l0 5)) fun μ1 =>
bnd (m_st μ1 l0 8 (m_gt μ1 l0 6)) fun μ2 =>
if (m_gt μ2 l0 5) = 0 then ((jX8_stands N l0 μ2).bind fun μ3 =>
bnd (m_st μ3 l0 58 0) fun μ4 =>
bnd (m_st μ4 l0 78 0) fun μ5 =>
jX8_game_100 N N l0 0 μ5) else (some ((-1), μ2))
def jX8_game_37b (k37 : Int → Mm → Option (Int × Mm)) (N : Nat) (l0 : Int) (μ : Mm) : Option (Int × Mm) :=
  if ¬ (m_gt μ l0 5) = 0 then (jX8_game_59 N l0 μ) else (b2 (jX8_look N l0 μ) fun x1 μ1 =>
if x1 = (-1) then (jX8_game_59 N l0 μ1) else ((jX8_statement N l0 μ1).bind fun μ2 =>
k37 l0 μ2))
def jX8_game_37 (N : Nat) : Nat → Int → Mm → Option (Int × Mm)
  | 0 => fun _ _ => none
  | n + 1 => fun l0 μ => jX8_game_37b (jX8_game_37 N n) N l0 μ
def jX8_game (N : Nat) (l0 : Int) (μ : Mm) : Option (Int × Mm) :=
  bnd (m_st μ l0 3 (m_gt μ l0 1)) fun μ1 =>
bnd (m_st μ1 l0 1 0) fun μ2 =>
bnd (m_st μ2 l0 2 0) fun μ3 =>
bnd (m_st μ3 l0 4 (-1)) fun μ4 =>
bnd (m_st μ4 l0 5 0) fun μ5 =>
bnd (m_st μ5 l0 6 (-1)) fun μ6 =>
(jX8_forgets N l0 μ6).bind fun μ7 =>
jX8_game_37 N N l0 μ7
-- X8_has
def jX8_has_134 (k98 : Int → Int → Int → Mm → Option (Int × Mm)) (k107 : Int → Int → Int → Int → Mm → Option (Int × Mm)) (N : Nat) (l0 l2 l3 l4 : Int) (μ : Mm) : Option (Int × Mm) :=
  bnd (i_add l4 1) fun x1 =>
k107 l0 l2 l3 x1 μ
def jX8_has_107b (k98 : Int → Int → Int → Mm → Option (Int × Mm)) (k107 : Int → Int → Int → Int → Mm → Option (Int × Mm)) (N : Nat) (l0 l2 l3 l4 : Int) (μ : Mm) : Option (Int × Mm) :=
  if l3 ≤ l4 then (bnd (i_add l3 1) fun x1 =>
k98 l0 l2 x1 μ) else ((m_ald 102 μ (m_gt μ l0 42) (i_add (i_add 81 (i_mul 9 l3)) l4)).bind fun x2 =>
if x2 = 0 then (jX8_has_134 k98 k107 N l0 l2 l3 l4 μ) else (bnd (i_add l2 1) fun x3 =>
jX8_has_134 k98 k107 N l0 x3 l3 l4 μ))
def jX8_has_107 (k98 : Int → Int → Int → Mm → Option (Int × Mm)) (N : Nat) : Nat → Int → Int → Int → Int → Mm → Option (Int × Mm)
  | 0 => fun _ _ _ _ _ => none
  | n + 1 => fun l0 l2 l3 l4 μ => jX8_has_107b k98 (jX8_has_107 k98 N n) N l0 l2 l3 l4 μ
def jX8_has_98b (k98 : Int → Int → Int → Mm → Option (Int × Mm)) (N : Nat) (l0 l2 l3 : Int) (μ : Mm) : Option (Int × Mm) :=
  if 9 ≤ l3 then (some (l2, μ)) else (jX8_has_107 k98 N N l0 l2 l3 0 μ)
def jX8_has_98 (N : Nat) : Nat → Int → Int → Int → Mm → Option (Int × Mm)
  | 0 => fun _ _ _ _ => none
  | n + 1 => fun l0 l2 l3 μ => jX8_has_98b (jX8_has_98 N n) N l0 l2 l3 μ
def jX8_has (N : Nat) (l0 l1 : Int) (μ : Mm) : Option (Int × Mm) :=
  if l1 = 0 then ((m_ald 100 μ (m_gt μ l0 31) 1).bind fun x1 =>
some (x1, μ)) else (
if l1 = 1 then ((m_ald 100 μ (m_gt μ l0 32) 1).bind fun x2 =>
some (x2, μ)) else (
if l1 = 2 then ((m_ald 100 μ (m_gt μ l0 33) 1).bind fun x3 =>
some (x3, μ)) else (
if l1 = 3 then ((m_ald 100 μ (m_gt μ l0 34) 1).bind fun x4 =>
some (x4, μ)) else (
if l1 = 4 then ((m_ald 100 μ (m_gt μ l0 35) (i_add l1 1)).bind fun x5 =>
some (x5, μ)) else (
if l1 = 5 then ((m_ald 100 μ (m_gt μ l0 35) (i_add l1 1)).bind fun x6 =>
some (x6, μ)) else (
if l1 = 6 then ((m_ald 100 μ (m_gt μ l0 35) (i_add l1 1)).bind fun x7 =>
some (x7, μ)) else (
if l1 = 7 then ((m_ald 100 μ (m_gt μ l0 36) 1).bind fun x8 =>
some (x8, μ)) else (
if l1 = 8 then (jX8_has_98 N N l0 0 0 μ) else (
some ((-1), μ))))))))))
-- X8_checked
def jX8_checked_5b (k5 : Int → Int → Int → Int → Mm → Option (Int × Mm)) (N : Nat) (l0 l1 l2 l3 : Int) (μ : Mm) : Option (Int × Mm) :=
  if l1 ≤ l3 then (some (l2, μ)) else ((m_ald 100 μ l0 l3).bind fun x1 =>
bnd (i_rem (i_add (i_mul 7 l2) x1) 239) fun x2 =>
bnd (i_add l3 1) fun x3 =>
k5 l0 l1 x2 x3 μ)
def jX8_checked_5 (N : Nat) : Nat → Int → Int → Int → Int → Mm → Option (Int × Mm)
  | 0 => fun _ _ _ _ _ => none
  | n + 1 => fun l0 l1 l2 l3 μ => jX8_checked_5b (jX8_checked_5 N n) N l0 l1 l2 l3 μ
def jX8_checked (N : Nat) (l0 l1 : Int) (μ : Mm) : Option (Int × Mm) :=
  jX8_checked_5 N N l0 l1 11 0 μ
-- X8_writes
def jX8_writes (N : Nat) (l0 l1 : Int) (μ : Mm) : Option (Mm) :=
  (m_ast 100 μ (m_gt μ l0 83) (m_gt μ l0 84) l1).bind fun μ1 =>
bnd (m_st μ1 l0 84 (i_add (m_gt μ1 l0 84) 1)) fun μ2 =>
some μ2
-- X8_image
def jX8_image_47 (k15 : Int → Int → Mm → Option (Int × Mm)) (N : Nat) (l0 l1 s0 s1 : Int) (μ : Mm) : Option (Int × Mm) :=
  m_chk 8 μ s1 (
(jX8_writes N s1 s0 μ).bind fun μ1 =>
bnd (i_add l1 1) fun x1 =>
k15 l0 x1 μ1)
def jX8_image_15b (k15 : Int → Int → Mm → Option (Int × Mm)) (N : Nat) (l0 l1 : Int) (μ : Mm) : Option (Int × Mm) :=
  if (m_gt μ l0 58) ≤ l1 then (b2 (jX8_checked N (m_gt μ l0 83) (m_gt μ l0 84) μ) fun x1 μ1 =>
(jX8_writes N l0 x1 μ1).bind fun μ2 =>
some (m_gt μ2 l0 84, μ2)) else ((m_ald 100 μ (m_gt μ l0 59) l1).bind fun x2 =>
if ¬ x2 = (-2) then ((m_ald 100 μ (m_gt μ l0 59) l1).bind fun x3 =>
jX8_image_47 k15 N l0 l1 x3 l0 μ) else (jX8_image_47 k15 N l0 l1 200 l0 μ))
def jX8_image_15 (N : Nat) : Nat → Int → Int → Mm → Option (Int × Mm)
  | 0 => fun _ _ _ => none
  | n + 1 => fun l0 l1 μ => jX8_image_15b (jX8_image_15 N n) N l0 l1 μ
def jX8_image (N : Nat) (l0 : Int) (μ : Mm) : Option (Int × Mm) :=
  bnd (m_st μ l0 84 0) fun μ1 =>
(jX8_writes N l0 (m_gt μ1 l0 58) μ1).bind fun μ2 =>
jX8_image_15 N N l0 0 μ2
-- X8_init
def jX8_init (N : Nat) (l0 : Int) (μ : Mm) : Option (Mm) :=
  (m_na 100 μ 700).bind fun μ1 =>
bnd (m_st μ1 l0 0 (m_sz μ : Int)) fun μ2 =>
bnd (m_st μ2 l0 8 (-1)) fun μ3 =>
(m_na 103 μ3 4).bind fun μ4 =>
(m_ast 103 μ4 (m_sz μ3 : Int) 0 112).bind fun μ5 =>
(m_ast 103 μ5 (m_sz μ3 : Int) 1 105).bind fun μ6 =>
(m_ast 103 μ6 (m_sz μ3 : Int) 2 110).bind fun μ7 =>
(m_ast 103 μ7 (m_sz μ3 : Int) 3 115).bind fun μ8 =>
bnd (m_st μ8 l0 9 (m_sz μ3 : Int)) fun μ9 =>
(m_na 103 μ9 6).bind fun μ10 =>
(m_ast 103 μ10 (m_sz μ9 : Int) 0 102).bind fun μ11 =>
(m_ast 103 μ11 (m_sz μ9 : Int) 1 114).bind fun μ12 =>
(m_ast 103 μ12 (m_sz μ9 : Int) 2 97).bind fun μ13 =>
(m_ast 103 μ13 (m_sz μ9 : Int) 3 109).bind fun μ14 =>
(m_ast 103 μ14 (m_sz μ9 : Int) 4 101).bind fun μ15 =>
(m_ast 103 μ15 (m_sz μ9 : Int) 5 115).bind fun μ16 =>
bnd (m_st μ16 l0 10 (m_sz μ9 : Int)) fun μ17 =>
(m_na 103 μ17 5).bind fun μ18 =>
(m_ast 103 μ18 (m_sz μ17 : Int) 0 114).bind fun μ19 =>
(m_ast 103 μ19 (m_sz μ17 : Int) 1 111).bind fun μ20 =>
(m_ast 103 μ20 (m_sz μ17 : Int) 2 108).bind fun μ21 =>
(m_ast 103 μ21 (m_sz μ17 : Int) 3 108).bind fun μ22 =>
(m_ast 103 μ22 (m_sz μ17 : Int) 4 115).bind fun μ23 =>
bnd (m_st μ23 l0 11 (m_sz μ17 : Int)) fun μ24 =>
(m_na 103 μ24 5).bind fun μ25 =>
(m_ast 103 μ25 (m_sz μ24 : Int) 0 99).bind fun μ26 =>
(m_ast 103 μ26 (m_sz μ24 : Int) 1 108).bind fun μ27 =>
(m_ast 103 μ27 (m_sz μ24 : Int) 2 101).bind fun μ28 =>
(m_ast 103 μ28 (m_sz μ24 : Int) 3 97).bind fun μ29 =>
(m_ast 103 μ29 (m_sz μ24 : Int) 4 110).bind fun μ30 =>
bnd (m_st μ30 l0 12 (m_sz μ24 : Int)) fun μ31 =>
(m_na 103 μ31 5).bind fun μ32 =>
(m_ast 103 μ32 (m_sz μ31 : Int) 0 101).bind fun μ33 =>
(m_ast 103 μ33 (m_sz μ31 : Int) 1 97).bind fun μ34 =>
(m_ast 103 μ34 (m_sz μ31 : Int) 2 114).bind fun μ35 =>
(m_ast 103 μ35 (m_sz μ31 : Int) 3 110).bind fun μ36 =>
(m_ast 103 μ36 (m_sz μ31 : Int) 4 115).bind fun μ37 =>
bnd (m_st μ37 l0 13 (m_sz μ31 : Int)) fun μ38 =>
(m_na 103 μ38 4).bind fun μ39 =>
(m_ast 103 μ39 (m_sz μ38 : Int) 0 102).bind fun μ40 =>
(m_ast 103 μ40 (m_sz μ38 : Int) 1 111).bind fun μ41 =>
(m_ast 103 μ41 (m_sz μ38 : Int) 2 117).bind fun μ42 =>
(m_ast 103 μ42 (m_sz μ38 : Int) 3 108).bind fun μ43 =>
bnd (m_st μ43 l0 14 (m_sz μ38 : Int)) fun μ44 =>
(m_na 103 μ44 5).bind fun μ45 =>
(m_ast 103 μ45 (m_sz μ44 : Int) 0 119).bind fun μ46 =>
(m_ast 103 μ46 (m_sz μ44 : Int) 1 111).bind fun μ47 =>
(m_ast 103 μ47 (m_sz μ44 : Int) 2 114).bind fun μ48 =>
(m_ast 103 μ48 (m_sz μ44 : Int) 3 116).bind fun μ49 =>
(m_ast 103 μ49 (m_sz μ44 : Int) 4 104).bind fun μ50 =>
bnd (m_st μ50 l0 15 (m_sz μ44 : Int)) fun μ51 =>
(m_na 103 μ51 4).bind fun μ52 =>
(m_ast 103 μ52 (m_sz μ51 : Int) 0 119).bind fun μ53 =>
(m_ast 103 μ53 (m_sz μ51 : Int) 1 104).bind fun μ54 =>
(m_ast 103 μ54 (m_sz μ51 : Int) 2 101).bind fun μ55 =>
(m_ast 103 μ55 (m_sz μ51 : Int) 3 110).bind fun μ56 =>
bnd (m_st μ56 l0 16 (m_sz μ51 : Int)) fun μ57 =>
(m_na 103 μ57 8).bind fun μ58 =>
(m_ast 103 μ58 (m_sz μ57 : Int) 0 104).bind fun μ59 =>
(m_ast 103 μ59 (m_sz μ57 : Int) 1 97).bind fun μ60 =>
(m_ast 103 μ60 (m_sz μ57 : Int) 2 110).bind fun μ61 =>
(m_ast 103 μ61 (m_sz μ57 : Int) 3 100).bind fun μ62 =>
(m_ast 103 μ62 (m_sz μ57 : Int) 4 105).bind fun μ63 =>
(m_ast 103 μ63 (m_sz μ57 : Int) 5 99).bind fun μ64 =>
(m_ast 103 μ64 (m_sz μ57 : Int) 6 97).bind fun μ65 =>
(m_ast 103 μ65 (m_sz μ57 : Int) 7 112).bind fun μ66 =>
bnd (m_st μ66 l0 17 (m_sz μ57 : Int)) fun μ67 =>
(m_na 103 μ67 5).bind fun μ68 =>
(m_ast 103 μ68 (m_sz μ67 : Int) 0 106).bind fun μ69 =>
(m_ast 103 μ69 (m_sz μ67 : Int) 1 111).bind fun μ70 =>
(m_ast 103 μ70 (m_sz μ67 : Int) 2 105).bind fun μ71 =>
(m_ast 103 μ71 (m_sz μ67 : Int) 3 110).bind fun μ72 =>
(m_ast 103 μ72 (m_sz μ67 : Int) 4 115).bind fun μ73 =>
bnd (m_st μ73 l0 18 (m_sz μ67 : Int)) fun μ74 =>
(m_na 103 μ74 2).bind fun μ75 =>
(m_ast 103 μ75 (m_sz μ74 : Int) 0 111).bind fun μ76 =>
(m_ast 103 μ76 (m_sz μ74 : Int) 1 114).bind fun μ77 =>
bnd (m_st μ77 l0 19 (m_sz μ74 : Int)) fun μ78 =>
(m_na 103 μ78 3).bind fun μ79 =>
(m_ast 103 μ79 (m_sz μ78 : Int) 0 97).bind fun μ80 =>
(m_ast 103 μ80 (m_sz μ78 : Int) 1 110).bind fun μ81 =>
(m_ast 103 μ81 (m_sz μ78 : Int) 2 100).bind fun μ82 =>
bnd (m_st μ82 l0 20 (m_sz μ78 : Int)) fun μ83 =>
(m_na 103 μ83 3).bind fun μ84 =>
(m_ast 103 μ84 (m_sz μ83 : Int) 0 110).bind fun μ85 =>
(m_ast 103 μ85 (m_sz μ83 : Int) 1 111).bind fun μ86 =>
(m_ast 103 μ86 (m_sz μ83 : Int) 2 116).bind fun μ87 =>
bnd (m_st μ87 l0 21 (m_sz μ83 : Int)) fun μ88 =>
(m_na 103 μ88 3).bind fun μ89 =>
(m_ast 103 μ89 (m_sz μ88 : Int) 0 97).bind fun μ90 =>
(m_ast 103 μ90 (m_sz μ88 : Int) 1 108).bind fun μ91 =>
(m_ast 103 μ91 (m_sz μ88 : Int) 2 108).bind fun μ92 =>
bnd (m_st μ92 l0 22 (m_sz μ88 : Int)) fun μ93 =>
(m_na 103 μ93 5).bind fun μ94 =>
(m_ast 103 μ94 (m_sz μ93 : Int) 0 102).bind fun μ95 =>
(m_ast 103 μ95 (m_sz μ93 : Int) 1 114).bind fun μ96 =>
(m_ast 103 μ96 (m_sz μ93 : Int) 2 97).bind fun μ97 =>
(m_ast 103 μ97 (m_sz μ93 : Int) 3 109).bind fun μ98 =>
(m_ast 103 μ98 (m_sz μ93 : Int) 4 101).bind fun μ99 =>
bnd (m_st μ99 l0 23 (m_sz μ93 : Int)) fun μ100 =>
(m_na 103 μ100 4).bind fun μ101 =>
(m_ast 103 μ101 (m_sz μ100 : Int) 0 100).bind fun μ102 =>
(m_ast 103 μ102 (m_sz μ100 : Int) 1 111).bind fun μ103 =>
(m_ast 103 μ103 (m_sz μ100 : Int) 2 119).bind fun μ104 =>
(m_ast 103 μ104 (m_sz μ100 : Int) 3 110).bind fun μ105 =>
bnd (m_st μ105 l0 24 (m_sz μ100 : Int)) fun μ106 =>
(m_na 103 μ106 4).bind fun μ107 =>
(m_ast 103 μ107 (m_sz μ106 : Int) 0 117).bind fun μ108 =>
(m_ast 103 μ108 (m_sz μ106 : Int) 1 115).bind fun μ109 =>
(m_ast 103 μ109 (m_sz μ106 : Int) 2 101).bind fun μ110 =>
(m_ast 103 μ110 (m_sz μ106 : Int) 3 100).bind fun μ111 =>
bnd (m_st μ111 l0 25 (m_sz μ106 : Int)) fun μ112 =>
(m_na 103 μ112 5).bind fun μ113 =>
(m_ast 103 μ113 (m_sz μ112 : Int) 0 102).bind fun μ114 =>
(m_ast 103 μ114 (m_sz μ112 : Int) 1 111).bind fun μ115 =>
(m_ast 103 μ115 (m_sz μ112 : Int) 2 117).bind fun μ116 =>
(m_ast 103 μ116 (m_sz μ112 : Int) 3 108).bind fun μ117 =>
(m_ast 103 μ117 (m_sz μ112 : Int) 4 115).bind fun μ118 =>
bnd (m_st μ118 l0 26 (m_sz μ112 : Int)) fun μ119 =>
(m_na 103 μ119 4).bind fun μ120 =>
(m_ast 103 μ120 (m_sz μ119 : Int) 0 109).bind fun μ121 =>
(m_ast 103 μ121 (m_sz μ119 : Int) 1 101).bind fun μ122 =>
(m_ast 103 μ122 (m_sz μ119 : Int) 2 97).bind fun μ123 =>
(m_ast 103 μ123 (m_sz μ119 : Int) 3 110).bind fun μ124 =>
bnd (m_st μ124 l0 27 (m_sz μ119 : Int)) fun μ125 =>
(m_na 103 μ125 5).bind fun μ126 =>
(m_ast 103 μ126 (m_sz μ125 : Int) 0 103).bind fun μ127 =>
(m_ast 103 μ127 (m_sz μ125 : Int) 1 97).bind fun μ128 =>
(m_ast 103 μ128 (m_sz μ125 : Int) 2 109).bind fun μ129 =>
(m_ast 103 μ129 (m_sz μ125 : Int) 3 101).bind fun μ130 =>
(m_ast 103 μ130 (m_sz μ125 : Int) 4 115).bind fun μ131 =>
bnd (m_st μ131 l0 28 (m_sz μ125 : Int)) fun μ132 =>
(m_na 103 μ132 3).bind fun μ133 =>
(m_ast 103 μ133 (m_sz μ132 : Int) 0 109).bind fun μ134 =>
(m_ast 103 μ134 (m_sz μ132 : Int) 1 105).bind fun μ135 =>
(m_ast 103 μ135 (m_sz μ132 : Int) 2 110).bind fun μ136 =>
bnd (m_st μ136 l0 29 (m_sz μ132 : Int)) fun μ137 =>
(m_na 103 μ137 3).bind fun μ138 =>
(m_ast 103 μ138 (m_sz μ137 : Int) 0 109).bind fun μ139 =>
(m_ast 103 μ139 (m_sz μ137 : Int) 1 97).bind fun μ140 =>
(m_ast 103 μ140 (m_sz μ137 : Int) 2 120).bind fun μ141 =>
bnd (m_st μ141 l0 30 (m_sz μ137 : Int)) fun μ142 =>
(m_na 100 μ142 2).bind fun μ143 =>
(m_ast 100 μ143 (m_sz μ142 : Int) 0 9).bind fun μ144 =>
(m_ast 100 μ144 (m_sz μ142 : Int) 1 9).bind fun μ145 =>
bnd (m_st μ145 l0 31 (m_sz μ142 : Int)) fun μ146 =>
(m_na 100 μ146 2).bind fun μ147 =>
(m_ast 100 μ147 (m_sz μ146 : Int) 0 6).bind fun μ148 =>
(m_ast 100 μ148 (m_sz μ146 : Int) 1 6).bind fun μ149 =>
bnd (m_st μ149 l0 32 (m_sz μ146 : Int)) fun μ150 =>
(m_na 100 μ150 2).bind fun μ151 =>
(m_ast 100 μ151 (m_sz μ150 : Int) 0 2).bind fun μ152 =>
(m_ast 100 μ152 (m_sz μ150 : Int) 1 2).bind fun μ153 =>
bnd (m_st μ153 l0 33 (m_sz μ150 : Int)) fun μ154 =>
(m_na 100 μ154 2).bind fun μ155 =>
bnd (m_st μ155 l0 34 (m_sz μ154 : Int)) fun μ156 =>
(m_na 100 μ156 8).bind fun μ157 =>
bnd (m_st μ157 l0 35 (m_sz μ156 : Int)) fun μ158 =>
(m_na 100 μ158 2).bind fun μ159 =>
bnd (m_st μ159 l0 36 (m_sz μ158 : Int)) fun μ160 =>
(m_na 100 μ160 60).bind fun μ161 =>
bnd (m_st μ161 l0 37 (m_sz μ160 : Int)) fun μ162 =>
(m_na 100 μ162 60).bind fun μ163 =>
bnd (m_st μ163 l0 38 (m_sz μ162 : Int)) fun μ164 =>
(m_na 100 μ164 60).bind fun μ165 =>
bnd (m_st μ165 l0 39 (m_sz μ164 : Int)) fun μ166 =>
(m_na 100 μ166 2).bind fun μ167 =>
bnd (m_st μ167 l0 40 (m_sz μ166 : Int)) fun μ168 =>
(m_na 100 μ168 2).bind fun μ169 =>
bnd (m_st μ169 l0 41 (m_sz μ168 : Int)) fun μ170 =>
(m_na 102 μ170 162).bind fun μ171 =>
bnd (m_st μ171 l0 42 (m_sz μ170 : Int)) fun μ172 =>
(m_na 100 μ172 1400).bind fun μ173 =>
bnd (m_st μ173 l0 43 (m_sz μ172 : Int)) fun μ174 =>
(m_na 100 μ174 800).bind fun μ175 =>
bnd (m_st μ175 l0 45 (m_sz μ174 : Int)) fun μ176 =>
(m_na 101 μ176 700).bind fun μ177 =>
bnd (m_st μ177 l0 50 (m_sz μ176 : Int)) fun μ178 =>
(m_na 100 μ178 40).bind fun μ179 =>
bnd (m_st μ179 l0 59 (m_sz μ178 : Int)) fun μ180 =>
(m_na 100 μ180 9).bind fun μ181 =>
bnd (m_st μ181 l0 60 (m_sz μ180 : Int)) fun μ182 =>
(m_na 100 μ182 9).bind fun μ183 =>
bnd (m_st μ183 l0 61 (m_sz μ182 : Int)) fun μ184 =>
(m_na 100 μ184 9).bind fun μ185 =>
bnd (m_st μ185 l0 62 (m_sz μ184 : Int)) fun μ186 =>
(m_na 100 μ186 9).bind fun μ187 =>
bnd (m_st μ187 l0 63 (m_sz μ186 : Int)) fun μ188 =>
(m_na 100 μ188 9).bind fun μ189 =>
bnd (m_st μ189 l0 64 (m_sz μ188 : Int)) fun μ190 =>
(m_na 101 μ190 228960).bind fun μ191 =>
bnd (m_st μ191 l0 69 (m_sz μ190 : Int)) fun μ192 =>
(m_na 101 μ192 228960).bind fun μ193 =>
bnd (m_st μ193 l0 71 (m_sz μ192 : Int)) fun μ194 =>
(m_na 100 μ194 3).bind fun μ195 =>
bnd (m_st μ195 l0 73 (m_sz μ194 : Int)) fun μ196 =>
(m_na 101 μ196 2120).bind fun μ197 =>
bnd (m_st μ197 l0 77 (m_sz μ196 : Int)) fun μ198 =>
(m_na 102 μ198 25440).bind fun μ199 =>
bnd (m_st μ199 l0 79 (m_sz μ198 : Int)) fun μ200 =>
(m_na 102 μ200 25440).bind fun μ201 =>
bnd (m_st μ201 l0 80 (m_sz μ200 : Int)) fun μ202 =>
(m_na 100 μ202 6).bind fun μ203 =>
bnd (m_st μ203 l0 81 (m_sz μ202 : Int)) fun μ204 =>
(m_na 100 μ204 60).bind fun μ205 =>
bnd (m_st μ205 l0 82 (m_sz μ204 : Int)) fun μ206 =>
(m_na 100 μ206 40).bind fun μ207 =>
bnd (m_st μ207 l0 83 (m_sz μ206 : Int)) fun μ208 =>
(m_na 100 μ208 40).bind fun μ209 =>
bnd (m_st μ209 l0 85 (m_sz μ208 : Int)) fun μ210 =>
some μ210
-- X8_isPlayer
def jX8_isPlayer (N : Nat) (l0 : Int) (μ : Mm) : Option (Int × Mm) :=
  b2 (jX8_isIn N (i_2l l0) 0 5 μ) fun x1 μ1 =>
z_chk x1 (some (x1, μ1))
-- X8_keep
def jX8_keep_29 (N : Nat) (l0 : Int) (μ : Mm) : Option (Int × Mm) :=
  some ((-1), μ)
def jX8_keep (N : Nat) (l0 l1 : Int) (μ : Mm) : Option (Int × Mm) :=
  (jX8_goesThrough N l0 μ).bind fun μ1 =>
b2 (jX8_isPlayer N l1 μ1) fun x1 μ2 =>
if x1 = 0 then (jX8_keep_29 N l0 μ2) else (if (m_gt μ2 l0 68) = 0 then (jX8_keep_29 N l0 μ2) else ((m_ald 100 μ2 (m_gt μ2 l0 81) l1).bind fun x2 =>
if ¬ x2 = 10 then ((m_ald 100 μ2 (m_gt μ2 l0 81) l1).bind fun x3 =>
b2 (jX8_soFar N l0 μ2) fun x4 μ3 =>
(m_ast 100 μ3 (m_gt μ2 l0 82) (i_add (i_mul 10 l1) x3) x4).bind fun μ4 =>
(m_ald 100 μ4 (m_gt μ4 l0 81) l1).bind fun x5 =>
(m_ast 100 μ4 (m_gt μ4 l0 81) l1 (i_add x5 1)).bind fun μ5 =>
(m_ald 100 μ5 (m_gt μ5 l0 81) l1).bind fun x6 =>
some (x6, μ5)) else (jX8_keep_29 N l0 μ2)))
-- X8_leaves
def jX8_leaves_40 (k15 : Int → Int → Int → Int → Mm → Option (Int × Mm)) (N : Nat) (l0 l1 l2 l3 : Int) (μ : Mm) : Option (Int × Mm) :=
  bnd (i_add l3 1) fun x1 =>
k15 l0 l1 l2 x1 μ
def jX8_leaves_15b (k15 : Int → Int → Int → Int → Mm → Option (Int × Mm)) (N : Nat) (l0 l1 l2 l3 : Int) (μ : Mm) : Option (Int × Mm) :=
  if l1 < l3 then (some (l2, μ)) else (if ¬ (i_and l3 (i_xor l1 (-1))) = 0 then (jX8_leaves_40 k15 N l0 l1 l2 l3 μ) else (b2 (jX8_part N l0 l3 μ) fun x1 μ1 =>
if ¬ x1 = l3 then (jX8_leaves_40 k15 N l0 l1 l2 l3 μ1) else (bnd (i_add l2 1) fun x2 =>
jX8_leaves_40 k15 N l0 l1 x2 l3 μ1)))
def jX8_leaves_15 (N : Nat) : Nat → Int → Int → Int → Int → Mm → Option (Int × Mm)
  | 0 => fun _ _ _ _ _ => none
  | n + 1 => fun l0 l1 l2 l3 μ => jX8_leaves_15b (jX8_leaves_15 N n) N l0 l1 l2 l3 μ
def jX8_leaves (N : Nat) (l0 l1 : Int) (μ : Mm) : Option (Int × Mm) :=
  b2 (jX8_isPins N l0 l1 0 μ) fun x1 μ1 =>
if ¬ x1 = 0 then (jX8_leaves_15 N N l0 l1 0 1 μ1) else (some ((-1), μ1))
-- X8_sumOf
def jX8_sumOf_4b (k4 : Int → Int → Int → Int → Mm → Option (Int × Mm)) (N : Nat) (l0 l1 l2 l3 : Int) (μ : Mm) : Option (Int × Mm) :=
  (m_ald 100 μ (m_gt μ l0 81) l1).bind fun x1 =>
if x1 ≤ l3 then (some (l2, μ)) else ((m_ald 100 μ (m_gt μ l0 82) (i_add (i_mul 10 l1) l3)).bind fun x2 =>
bnd (i_add l2 x2) fun x3 =>
bnd (i_add l3 1) fun x4 =>
k4 l0 l1 x3 x4 μ)
def jX8_sumOf_4 (N : Nat) : Nat → Int → Int → Int → Int → Mm → Option (Int × Mm)
  | 0 => fun _ _ _ _ _ => none
  | n + 1 => fun l0 l1 l2 l3 μ => jX8_sumOf_4b (jX8_sumOf_4 N n) N l0 l1 l2 l3 μ
def jX8_sumOf (N : Nat) (l0 l1 : Int) (μ : Mm) : Option (Int × Mm) :=
  jX8_sumOf_4 N N l0 l1 0 0 μ
-- X8_meanOf
def jX8_meanOf_45 (N : Nat) (l0 s0 : Int) (μ : Mm) : Option (Int × Mm) :=
  some (s0, μ)
def jX8_meanOf (N : Nat) (l0 l1 : Int) (μ : Mm) : Option (Int × Mm) :=
  (m_ald 100 μ (m_gt μ l0 81) l1).bind fun x1 =>
if ¬ x1 = 0 then (b2 (jX8_sumOf N l0 l1 μ) fun x2 μ1 =>
(m_ald 100 μ1 (m_gt μ1 l0 81) l1).bind fun x3 =>
n_chk x3 (
bnd (i_div x2 x3) fun x4 =>
(m_ald 100 μ1 (m_gt μ1 l0 81) l1).bind fun x5 =>
if (i_mul x4 x5) ≤ x2 then (jX8_meanOf_45 N l0 x4 μ1) else (jX8_meanOf_45 N l0 (i_sub x4 1) μ1))) else (some (0, μ))
-- X8_handicapOf
def jX8_handicapOf_98 (N : Nat) (l0 s0 : Int) (μ : Mm) : Option (Int × Mm) :=
  some (s0, μ)
def jX8_handicapOf (N : Nat) (l0 l1 : Int) (μ : Mm) : Option (Int × Mm) :=
  bnd (m_st μ l0 52 0) fun μ1 =>
bnd (m_st μ1 l0 53 0) fun μ2 =>
bnd (m_st μ2 l0 54 0) fun μ3 =>
bnd (m_st μ3 l0 55 0) fun μ4 =>
b2 (jX8_meanOf N l0 l1 μ4) fun x1 μ5 =>
bnd (m_st μ5 l0 56 x1) fun μ6 =>
(m_ald 100 μ6 (m_gt μ6 l0 81) l1).bind fun x2 =>
bnd (m_st μ6 l0 57 x2) fun μ7 =>
(m_ald 100 μ7 (m_gt μ7 l0 40) 1).bind fun x3 =>
(m_ald 100 μ7 (m_gt μ7 l0 41) 1).bind fun x4 =>
if ¬ x3 = x4 then ((m_ald 100 μ7 (m_gt μ7 l0 40) 1).bind fun x5 =>
(m_ald 100 μ7 (m_gt μ7 l0 41) 1).bind fun x6 =>
b2 (jX8_tells N l0 x5 x6 μ7) fun x7 μ8 =>
if 0 ≤ (l_cmp x7 0) then (if (l_cmp x7 99) ≤ 0 then (jX8_handicapOf_98 N l0 (l_2i x7) μ8) else (jX8_handicapOf_98 N l0 99 μ8)) else (jX8_handicapOf_98 N l0 0 μ8)) else (some (0, μ7))
-- X8_meets
def jX8_meets_103 (N : Nat) (l0 l5 : Int) (μ : Mm) : Option (Int × Mm) :=
  some (l5, μ)
def jX8_meets_94 (k19 : Int → Int → Int → Int → Int → Int → Int → Mm → Option (Int × Mm)) (N : Nat) (l0 l1 l2 l3 l4 l6 s0 s1 : Int) (μ : Mm) : Option (Int × Mm) :=
  bnd (i_add s1 s0) fun x1 =>
bnd (i_add l6 1) fun x2 =>
k19 l0 l1 l2 l3 l4 x1 x2 μ
def jX8_meets_19b (k19 : Int → Int → Int → Int → Int → Int → Int → Mm → Option (Int × Mm)) (N : Nat) (l0 l1 l2 l3 l4 l5 l6 : Int) (μ : Mm) : Option (Int × Mm) :=
  (m_ald 100 μ (m_gt μ l0 81) l1).bind fun x1 =>
if x1 ≤ l6 then (jX8_meets_103 N l0 l5 μ) else ((m_ald 100 μ (m_gt μ l0 81) l2).bind fun x2 =>
if x2 ≤ l6 then (jX8_meets_103 N l0 l5 μ) else ((m_ald 100 μ (m_gt μ l0 82) (i_add (i_mul 10 l1) l6)).bind fun x3 =>
(m_ald 100 μ (m_gt μ l0 82) (i_add (i_mul 10 l2) l6)).bind fun x4 =>
bnd (i_sub (i_sub (i_add x3 l3) x4) l4) fun x5 =>
if x5 ≤ 0 then (if ¬ x5 = 0 then (jX8_meets_94 k19 N l0 l1 l2 l3 l4 l6 0 l5 μ) else (jX8_meets_94 k19 N l0 l1 l2 l3 l4 l6 1 l5 μ)) else (jX8_meets_94 k19 N l0 l1 l2 l3 l4 l6 2 l5 μ)))
def jX8_meets_19 (N : Nat) : Nat → Int → Int → Int → Int → Int → Int → Int → Mm → Option (Int × Mm)
  | 0 => fun _ _ _ _ _ _ _ _ => none
  | n + 1 => fun l0 l1 l2 l3 l4 l5 l6 μ => jX8_meets_19b (jX8_meets_19 N n) N l0 l1 l2 l3 l4 l5 l6 μ
def jX8_meets (N : Nat) (l0 l1 l2 : Int) (μ : Mm) : Option (Int × Mm) :=
  b2 (jX8_handicapOf N l0 l1 μ) fun x1 μ1 =>
b2 (jX8_handicapOf N l0 l2 μ1) fun x2 μ2 =>
jX8_meets_19 N N l0 l1 l2 x1 x2 0 0 μ2
-- X8_meet
def jX8_meet_29 (N : Nat) (l0 s0 : Int) (μ : Mm) : Option (Int × Mm) :=
  some (s0, μ)
def jX8_meet_28 (N : Nat) (l0 : Int) (μ : Mm) : Option (Int × Mm) :=
  jX8_meet_29 N l0 (-1) μ
def jX8_meet (N : Nat) (l0 l1 l2 : Int) (μ : Mm) : Option (Int × Mm) :=
  b2 (jX8_isPlayer N l1 μ) fun x1 μ1 =>
if x1 = 0 then (jX8_meet_28 N l0 μ1) else (b2 (jX8_isPlayer N l2 μ1) fun x2 μ2 =>
if x2 = 0 then (jX8_meet_28 N l0 μ2) else (if l1 = l2 then (jX8_meet_28 N l0 μ2) else (b2 (jX8_meets N l0 l1 l2 μ2) fun x3 μ3 =>
jX8_meet_29 N l0 x3 μ3)))
-- X8_isThrough
def jX8_isThrough_184 (N : Nat) (l0 s0 : Int) (μ : Mm) : Option (Int × Mm) :=
  z_chk s0 (some (s0, μ))
def jX8_isThrough_183 (N : Nat) (l0 : Int) (μ : Mm) : Option (Int × Mm) :=
  jX8_isThrough_184 N l0 0 μ
def jX8_isThrough_158 (k31 : Int → Int → Int → Int → Int → Int → Int → Int → Mm → Option (Int × Mm)) (N : Nat) (l0 l3 l4 l5 l6 l7 l8 l9 : Int) (μ : Mm) : Option (Int × Mm) :=
  bnd (i_add l9 1) fun x1 =>
k31 l0 l3 l4 l5 l6 l7 l8 x1 μ
def jX8_isThrough_89 (k31 : Int → Int → Int → Int → Int → Int → Int → Int → Mm → Option (Int × Mm)) (N : Nat) (l0 l3 l4 l5 l6 l7 l9 s0 : Int) (μ : Mm) : Option (Int × Mm) :=
  bnd (i_add (i_sub l3 (i_add (i_sub l9 460) (m_gt μ l0 75))) 460) fun x1 =>
if ¬ l4 = 0 then (jX8_isThrough_158 k31 N l0 l3 l4 l5 l6 l7 s0 l9 μ) else ((m_ald 102 μ (m_gt μ l0 79) (i_add l5 l9)).bind fun x2 =>
if x2 = 0 then (jX8_isThrough_158 k31 N l0 l3 l4 l5 l6 l7 s0 l9 μ) else (b2 (jX8_isIn N (i_2l x1) 0 1059 μ) fun x3 μ1 =>
if x3 = 0 then (jX8_isThrough_158 k31 N l0 l3 l4 l5 l6 l7 s0 l9 μ1) else ((m_ald 101 μ1 (m_gt μ1 l0 71) (i_add l6 x1)).bind fun x4 =>
if (l_cmp x4 0) ≤ 0 then (jX8_isThrough_158 k31 N l0 l3 l4 l5 l6 l7 s0 l9 μ1) else (some (1, μ1)))))
def jX8_isThrough_84 (k31 : Int → Int → Int → Int → Int → Int → Int → Int → Mm → Option (Int × Mm)) (N : Nat) (l0 l3 l4 l5 l6 l7 l9 : Int) (μ : Mm) : Option (Int × Mm) :=
  jX8_isThrough_89 k31 N l0 l3 l4 l5 l6 l7 l9 1 μ
def jX8_isThrough_62 (k31 : Int → Int → Int → Int → Int → Int → Int → Int → Mm → Option (Int × Mm)) (N : Nat) (l0 l3 l4 l5 l6 l8 l9 s0 : Int) (μ : Mm) : Option (Int × Mm) :=
  if ¬ l8 = 0 then (jX8_isThrough_84 k31 N l0 l3 l4 l5 l6 s0 l9 μ) else ((m_ald 101 μ (m_gt μ l0 71) (i_add l6 l9)).bind fun x1 =>
if (l_cmp x1 0) ≤ 0 then (jX8_isThrough_89 k31 N l0 l3 l4 l5 l6 s0 l9 0 μ) else (jX8_isThrough_84 k31 N l0 l3 l4 l5 l6 s0 l9 μ))
def jX8_isThrough_57 (k31 : Int → Int → Int → Int → Int → Int → Int → Int → Mm → Option (Int × Mm)) (N : Nat) (l0 l3 l4 l5 l6 l8 l9 : Int) (μ : Mm) : Option (Int × Mm) :=
  jX8_isThrough_62 k31 N l0 l3 l4 l5 l6 l8 l9 1 μ
def jX8_isThrough_31b (k31 : Int → Int → Int → Int → Int → Int → Int → Int → Mm → Option (Int × Mm)) (N : Nat) (l0 l3 l4 l5 l6 l7 l8 l9 : Int) (μ : Mm) : Option (Int × Mm) :=
  if 1060 ≤ l9 then (if l4 = 0 then (jX8_isThrough_183 N l0 μ) else (if l7 = 0 then (jX8_isThrough_183 N l0 μ) else (if l8 = 0 then (jX8_isThrough_183 N l0 μ) else (jX8_isThrough_184 N l0 1 μ)))) else (if ¬ l7 = 0 then (jX8_isThrough_57 k31 N l0 l3 l4 l5 l6 l8 l9 μ) else ((m_ald 102 μ (m_gt μ l0 79) (i_add l5 l9)).bind fun x1 =>
if x1 = 0 then (jX8_isThrough_62 k31 N l0 l3 l4 l5 l6 l8 l9 0 μ) else (jX8_isThrough_57 k31 N l0 l3 l4 l5 l6 l8 l9 μ)))
def jX8_isThrough_31 (N : Nat) : Nat → Int → Int → Int → Int → Int → Int → Int → Int → Mm → Option (Int × Mm)
  | 0 => fun _ _ _ _ _ _ _ _ _ => none
  | n + 1 => fun l0 l3 l4 l5 l6 l7 l8 l9 μ => jX8_isThrough_31b (jX8_isThrough_31 N n) N l0 l3 l4 l5 l6 l7 l8 l9 μ
def jX8_isThrough (N : Nat) (l0 l1 l2 l3 l4 : Int) (μ : Mm) : Option (Int × Mm) :=
  bnd (i_mul l2 1060) fun x1 =>
b2 (jX8_cell N (i_add l1 1) (m_gt μ l0 76) (-460) μ) fun x2 μ1 =>
jX8_isThrough_31 N N l0 l3 l4 x1 x2 0 0 0 μ1
-- X8_leadsOn
def jX8_leadsOn_55 (k24 : Int → Int → Int → Int → Mm → Option (Mm)) (N : Nat) (l0 l3 l4 l5 : Int) (μ : Mm) : Option (Mm) :=
  bnd (i_add l5 1) fun x1 =>
k24 l0 l3 l4 x1 μ
def jX8_leadsOn_24b (k24 : Int → Int → Int → Int → Mm → Option (Mm)) (N : Nat) (l0 l3 l4 l5 : Int) (μ : Mm) : Option (Mm) :=
  if 1060 ≤ l5 then (some μ) else ((m_ald 102 μ (m_gt μ l0 79) (i_add l3 l5)).bind fun x1 =>
if x1 = 0 then (jX8_leadsOn_55 k24 N l0 l3 l4 l5 μ) else ((m_ast 102 μ (m_gt μ l0 80) (i_add l4 l5) 1).bind fun μ1 =>
jX8_leadsOn_55 k24 N l0 l3 l4 l5 μ1))
def jX8_leadsOn_24 (N : Nat) : Nat → Int → Int → Int → Int → Mm → Option (Mm)
  | 0 => fun _ _ _ _ _ => none
  | n + 1 => fun l0 l3 l4 l5 μ => jX8_leadsOn_24b (jX8_leadsOn_24 N n) N l0 l3 l4 l5 μ
def jX8_leadsOn (N : Nat) (l0 l1 l2 : Int) (μ : Mm) : Option (Mm) :=
  bnd (i_mul l2 1060) fun x1 =>
bnd (i_add (i_mul (m_gt μ l0 76) 1060) (m_gt μ l0 75)) fun x2 =>
jX8_leadsOn_24 N N l0 x1 x2 0 μ
-- X8_leads
def jX8_leads_127b (k127 : Int → Int → Mm → Option (Mm)) (N : Nat) (l0 l2 : Int) (μ : Mm) : Option (Mm) :=
  if 25440 ≤ l2 then (some μ) else ((m_ald 102 μ (m_gt μ l0 80) l2).bind fun x1 =>
z_chk x1 (
(m_ast 102 μ (m_gt μ l0 79) l2 x1).bind fun μ1 =>
bnd (i_add l2 1) fun x2 =>
k127 l0 x2 μ1))
def jX8_leads_127 (N : Nat) : Nat → Int → Int → Mm → Option (Mm)
  | 0 => fun _ _ _ => none
  | n + 1 => fun l0 l2 μ => jX8_leads_127b (jX8_leads_127 N n) N l0 l2 μ
def jX8_leads_119 (k24 : Int → Int → Int → Mm → Option (Mm)) (N : Nat) (l0 l1 l2 : Int) (μ : Mm) : Option (Mm) :=
  bnd (i_add l2 1) fun x1 =>
k24 l0 l1 x1 μ
def jX8_leads_79b (k24 : Int → Int → Int → Mm → Option (Mm)) (k79 : Int → Int → Int → Mm → Option (Mm)) (N : Nat) (l0 l1 l2 : Int) (μ : Mm) : Option (Mm) :=
  (m_ald 100 μ (m_gt μ l0 31) 1).bind fun x1 =>
(m_ald 100 μ (m_gt μ l0 33) 1).bind fun x2 =>
b2 (jX8_nextRow N l0 x1 x2 μ) fun x3 μ1 =>
if x3 = 0 then (jX8_leads_119 k24 N l0 l1 l2 μ1) else (b2 (jX8_ends N l0 l1 l2 0 0 0 μ1) fun x4 μ2 =>
if x4 = 0 then (k79 l0 l1 l2 μ2) else ((jX8_leadsOn N l0 l1 l2 μ2).bind fun μ3 =>
k79 l0 l1 l2 μ3))
def jX8_leads_79 (k24 : Int → Int → Int → Mm → Option (Mm)) (N : Nat) : Nat → Int → Int → Int → Mm → Option (Mm)
  | 0 => fun _ _ _ _ => none
  | n + 1 => fun l0 l1 l2 μ => jX8_leads_79b k24 (jX8_leads_79 k24 N n) N l0 l1 l2 μ
def jX8_leads_24b (k24 : Int → Int → Int → Mm → Option (Mm)) (N : Nat) (l0 l1 l2 : Int) (μ : Mm) : Option (Mm) :=
  if 24 ≤ l2 then (jX8_leads_127 N N l0 0 μ) else (b2 (jX8_isOwing N l2 μ) fun x1 μ1 =>
if ¬ x1 = 0 then (b2 (jX8_isTorn N l0 l1 μ1) fun x2 μ2 =>
if ¬ x2 = 0 then (bnd (m_st μ2 l0 74 0) fun μ3 =>
jX8_leads_79 k24 N N l0 l1 l2 μ3) else ((jX8_asThere N l0 l1 μ2).bind fun μ4 =>
b2 (jX8_ends N l0 l1 l2 0 0 0 μ4) fun x3 μ5 =>
if x3 = 0 then (jX8_leads_119 k24 N l0 l1 l2 μ5) else ((jX8_leadsOn N l0 l1 l2 μ5).bind fun μ6 =>
jX8_leads_119 k24 N l0 l1 l2 μ6))) else (jX8_leads_119 k24 N l0 l1 l2 μ1))
def jX8_leads_24 (N : Nat) : Nat → Int → Int → Int → Mm → Option (Mm)
  | 0 => fun _ _ _ _ => none
  | n + 1 => fun l0 l1 l2 μ => jX8_leads_24b (jX8_leads_24 N n) N l0 l1 l2 μ
def jX8_leads_2b (k2 : Int → Int → Int → Mm → Option (Mm)) (N : Nat) (l0 l1 l2 : Int) (μ : Mm) : Option (Mm) :=
  if 25440 ≤ l2 then (jX8_leads_24 N N l0 l1 0 μ) else ((m_ast 102 μ (m_gt μ l0 80) l2 0).bind fun μ1 =>
bnd (i_add l2 1) fun x1 =>
k2 l0 l1 x1 μ1)
def jX8_leads_2 (N : Nat) : Nat → Int → Int → Int → Mm → Option (Mm)
  | 0 => fun _ _ _ _ => none
  | n + 1 => fun l0 l1 l2 μ => jX8_leads_2b (jX8_leads_2 N n) N l0 l1 l2 μ
def jX8_leads (N : Nat) (l0 l1 : Int) (μ : Mm) : Option (Mm) :=
  jX8_leads_2 N N l0 l1 0 μ
-- X8_must
def jX8_must_273 (k119 : Int → Int → Int → Int → Int → Int → Mm → Option (Int × Mm)) (N : Nat) (l0 l1 l2 l3 l4 l5 : Int) (μ : Mm) : Option (Int × Mm) :=
  bnd (i_add l5 1) fun x1 =>
k119 l0 l1 l2 l3 l4 x1 μ
def jX8_must_199b (k119 : Int → Int → Int → Int → Int → Int → Mm → Option (Int × Mm)) (k199 : Int → Int → Int → Int → Int → Int → Mm → Option (Int × Mm)) (N : Nat) (l0 l1 l2 l3 l4 l5 : Int) (μ : Mm) : Option (Int × Mm) :=
  (m_ald 100 μ (m_gt μ l0 31) 1).bind fun x1 =>
(m_ald 100 μ (m_gt μ l0 33) 1).bind fun x2 =>
b2 (jX8_nextRow N l0 x1 x2 μ) fun x3 μ1 =>
if x3 = 0 then (jX8_must_273 k119 N l0 l1 l2 l3 l4 l5 μ1) else ((m_ald 100 μ1 (m_gt μ1 l0 73) 0).bind fun x4 =>
if ¬ (i_and (i_shr l4 x4) 1) = 0 then (k199 l0 l1 l2 l3 l4 l5 μ1) else (b2 (jX8_ends N l0 l1 l5 0 0 0 μ1) fun x5 μ2 =>
if x5 = 0 then (k199 l0 l1 l2 l3 l4 l5 μ2) else (b2 (jX8_isThrough N l0 l1 l5 l2 l3 μ2) fun x6 μ3 =>
if x6 = 0 then (k199 l0 l1 l2 l3 l4 l5 μ3) else ((m_ald 100 μ3 (m_gt μ3 l0 73) 0).bind fun x7 =>
bnd (i_or l4 (i_shl 1 x7)) fun x8 =>
k199 l0 l1 l2 l3 x8 l5 μ3))))
def jX8_must_199 (k119 : Int → Int → Int → Int → Int → Int → Mm → Option (Int × Mm)) (N : Nat) : Nat → Int → Int → Int → Int → Int → Int → Mm → Option (Int × Mm)
  | 0 => fun _ _ _ _ _ _ _ => none
  | n + 1 => fun l0 l1 l2 l3 l4 l5 μ => jX8_must_199b k119 (jX8_must_199 k119 N n) N l0 l1 l2 l3 l4 l5 μ
def jX8_must_119b (k119 : Int → Int → Int → Int → Int → Int → Mm → Option (Int × Mm)) (N : Nat) (l0 l1 l2 l3 l4 l5 : Int) (μ : Mm) : Option (Int × Mm) :=
  if 24 ≤ l5 then (some (l4, μ)) else (b2 (jX8_isOwing N l5 μ) fun x1 μ1 =>
if ¬ x1 = 0 then (b2 (jX8_isTorn N l0 l1 μ1) fun x2 μ2 =>
if ¬ x2 = 0 then (bnd (m_st μ2 l0 74 0) fun μ3 =>
jX8_must_199 k119 N N l0 l1 l2 l3 l4 l5 μ3) else ((jX8_asThere N l0 l1 μ2).bind fun μ4 =>
b2 (jX8_ends N l0 l1 l5 0 0 0 μ4) fun x3 μ5 =>
if x3 = 0 then (jX8_must_273 k119 N l0 l1 l2 l3 l4 l5 μ5) else (b2 (jX8_isThrough N l0 l1 l5 l2 l3 μ5) fun x4 μ6 =>
if x4 = 0 then (jX8_must_273 k119 N l0 l1 l2 l3 l4 l5 μ6) else ((m_ald 100 μ6 (m_gt μ6 l0 73) 0).bind fun x5 =>
b2 (jX8_taken N x5 μ6) fun x6 μ7 =>
bnd (i_or l4 (i_shl 1 x6)) fun x7 =>
jX8_must_273 k119 N l0 l1 l2 l3 x7 l5 μ7)))) else (jX8_must_273 k119 N l0 l1 l2 l3 l4 l5 μ1))
def jX8_must_119 (N : Nat) : Nat → Int → Int → Int → Int → Int → Int → Mm → Option (Int × Mm)
  | 0 => fun _ _ _ _ _ _ _ => none
  | n + 1 => fun l0 l1 l2 l3 l4 l5 μ => jX8_must_119b (jX8_must_119 N n) N l0 l1 l2 l3 l4 l5 μ
def jX8_must_95b (k95 : Int → Int → Int → Int → Int → Mm → Option (Int × Mm)) (N : Nat) (l0 l1 l2 l3 l4 : Int) (μ : Mm) : Option (Int × Mm) :=
  if l1 ≤ l4 then (jX8_must_119 N N l0 l1 l2 l3 0 0 μ) else ((jX8_leads N l0 l4 μ).bind fun μ1 =>
bnd (i_add l4 1) fun x1 =>
k95 l0 l1 l2 l3 x1 μ1)
def jX8_must_95 (N : Nat) : Nat → Int → Int → Int → Int → Int → Mm → Option (Int × Mm)
  | 0 => fun _ _ _ _ _ _ => none
  | n + 1 => fun l0 l1 l2 l3 l4 μ => jX8_must_95b (jX8_must_95 N n) N l0 l1 l2 l3 l4 μ
def jX8_must_85 (k58 : Int → Int → Int → Int → Int → Mm → Option (Int × Mm)) (N : Nat) (l0 l1 l2 l3 l4 s0 s1 s2 : Int) (μ : Mm) : Option (Int × Mm) :=
  z_chk s0 (
(m_ast 102 μ s2 s1 s0).bind fun μ1 =>
bnd (i_add l4 1) fun x1 =>
k58 l0 l1 l2 l3 x1 μ1)
def jX8_must_58b (k58 : Int → Int → Int → Int → Int → Mm → Option (Int × Mm)) (N : Nat) (l0 l1 l2 l3 l4 : Int) (μ : Mm) : Option (Int × Mm) :=
  if 25440 ≤ l4 then (jX8_must_95 N N l0 l1 l2 l3 0 μ) else (if ¬ l4 = 460 then (jX8_must_85 k58 N l0 l1 l2 l3 l4 0 l4 (m_gt μ l0 79) μ) else (jX8_must_85 k58 N l0 l1 l2 l3 l4 1 l4 (m_gt μ l0 79) μ))
def jX8_must_58 (N : Nat) : Nat → Int → Int → Int → Int → Int → Mm → Option (Int × Mm)
  | 0 => fun _ _ _ _ _ _ => none
  | n + 1 => fun l0 l1 l2 l3 l4 μ => jX8_must_58b (jX8_must_58 N n) N l0 l1 l2 l3 l4 μ
def jX8_must_51 (N : Nat) (l0 l1 l2 l3 : Int) (μ : Mm) : Option (Int × Mm) :=
  (jX8_tellsFits N l0 μ).bind fun μ1 =>
jX8_must_58 N N l0 l1 l2 l3 0 μ1
def jX8_must_29 (N : Nat) (l0 : Int) (μ : Mm) : Option (Int × Mm) :=
  some ((-1), μ)
def jX8_must (N : Nat) (l0 l1 l2 l3 : Int) (μ : Mm) : Option (Int × Mm) :=
  (jX8_goesThrough N l0 μ).bind fun μ1 =>
if (m_gt μ1 l0 68) = 0 then (jX8_must_29 N l0 μ1) else ((m_ald 100 μ1 (m_gt μ1 l0 32) 1).bind fun x1 =>
b2 (jX8_isIn N (i_2l l1) 0 (i_2l (i_sub x1 1)) μ1) fun x2 μ2 =>
if ¬ x2 = 0 then (if ¬ l3 = 0 then (jX8_must_51 N l0 l1 l2 l3 μ2) else (b2 (jX8_isIn N (i_2l l2) (-920) 2120 μ2) fun x3 μ3 =>
if ¬ x3 = 0 then (jX8_must_51 N l0 l1 l2 l3 μ3) else (some (0, μ3)))) else (jX8_must_29 N l0 μ2))
-- X8_needs
def jX8_needs_43 (k21 : Int → Int → Int → Int → Int → Mm → Option (Int × Mm)) (N : Nat) (l0 l1 l2 l3 l4 s0 s1 : Int) (μ : Mm) : Option (Int × Mm) :=
  m_chk 8 μ s1 (
b2 (jX8_endOfComing N s1 s0 μ) fun x1 μ1 =>
if x1 < l1 then (bnd (i_add l4 1) fun x2 =>
k21 l0 l1 l2 l3 x2 μ1) else (some (l4, μ1)))
def jX8_needs_21b (k21 : Int → Int → Int → Int → Int → Mm → Option (Int × Mm)) (N : Nat) (l0 l1 l2 l3 l4 : Int) (μ : Mm) : Option (Int × Mm) :=
  if l3 < l4 then (some ((-1), μ)) else ((jX8_tellsComing N l0 l4 μ).bind fun μ1 =>
if ¬ l2 = 0 then (jX8_needs_43 k21 N l0 l1 l2 l3 l4 0 l0 μ1) else (jX8_needs_43 k21 N l0 l1 l2 l3 l4 1 l0 μ1))
def jX8_needs_21 (N : Nat) : Nat → Int → Int → Int → Int → Int → Mm → Option (Int × Mm)
  | 0 => fun _ _ _ _ _ _ => none
  | n + 1 => fun l0 l1 l2 l3 l4 μ => jX8_needs_21b (jX8_needs_21 N n) N l0 l1 l2 l3 l4 μ
def jX8_needs (N : Nat) (l0 l1 l2 : Int) (μ : Mm) : Option (Int × Mm) :=
  (jX8_goesThrough N l0 μ).bind fun μ1 =>
if (m_gt μ1 l0 68) = 0 then (bnd (m_gt μ1 l0 66) fun x1 =>
jX8_needs_21 N N l0 l1 l2 x1 0 μ1) else (some ((-1), μ1))
-- X8_octet
def jX8_octet_22 (N : Nat) (l0 s0 : Int) (μ : Mm) : Option (Int × Mm) :=
  some (s0, μ)
def jX8_octet_21 (N : Nat) (l0 : Int) (μ : Mm) : Option (Int × Mm) :=
  jX8_octet_22 N l0 (-1) μ
def jX8_octet (N : Nat) (l0 l1 : Int) (μ : Mm) : Option (Int × Mm) :=
  if l1 < 0 then (jX8_octet_21 N l0 μ) else (if (m_gt μ l0 84) ≤ l1 then (jX8_octet_21 N l0 μ) else ((m_ald 100 μ (m_gt μ l0 83) l1).bind fun x1 =>
jX8_octet_22 N l0 x1 μ))
-- X8_roll
def jX8_roll_33 (N : Nat) (l0 l1 : Int) (μ : Mm) : Option (Int × Mm) :=
  (m_ast 100 μ (m_gt μ l0 59) (m_gt μ l0 58) l1).bind fun μ1 =>
bnd (m_st μ1 l0 58 (i_add (m_gt μ1 l0 58) 1)) fun μ2 =>
bnd (m_st μ2 l0 72 0) fun μ3 =>
some (1, μ3)
def jX8_roll_31 (N : Nat) (l0 : Int) (μ : Mm) : Option (Int × Mm) :=
  some (0, μ)
def jX8_roll (N : Nat) (l0 l1 : Int) (μ : Mm) : Option (Int × Mm) :=
  (jX8_goesThrough N l0 μ).bind fun μ1 =>
if ¬ (m_gt μ1 l0 68) = 0 then (jX8_roll_31 N l0 μ1) else (if l1 = (-2) then (jX8_roll_33 N l0 l1 μ1) else (b2 (jX8_isIn N (i_2l l1) 0 (i_2l (m_gt μ1 l0 66)) μ1) fun x1 μ2 =>
if ¬ x1 = 0 then (jX8_roll_33 N l0 l1 μ2) else (jX8_roll_31 N l0 μ2)))
-- X8_on
def jX8_on_187b (k187 : Int → Int → Int → Mm → Option (Int × Mm)) (N : Nat) (l0 l2 l5 : Int) (μ : Mm) : Option (Int × Mm) :=
  if l2 ≤ l5 then (some (0, μ)) else ((m_ald 100 μ (m_gt μ l0 85) l5).bind fun x1 =>
(m_ast 100 μ (m_gt μ l0 59) l5 x1).bind fun μ1 =>
bnd (i_add l5 1) fun x2 =>
k187 l0 l2 x2 μ1)
def jX8_on_187 (N : Nat) : Nat → Int → Int → Int → Mm → Option (Int × Mm)
  | 0 => fun _ _ _ _ => none
  | n + 1 => fun l0 l2 l5 μ => jX8_on_187b (jX8_on_187 N n) N l0 l2 l5 μ
def jX8_on_162 (N : Nat) (l0 l2 l3 l4 : Int) (μ : Mm) : Option (Int × Mm) :=
  bnd (m_st μ l0 72 0) fun μ1 =>
if l4 = 0 then (bnd (m_st μ1 l0 58 l2) fun μ2 =>
bnd (m_st μ2 l0 78 l3) fun μ3 =>
jX8_on_187 N N l0 l2 0 μ3) else (some (1, μ1))
def jX8_on_151 (k112 : Int → Int → Int → Int → Int → Int → Mm → Option (Int × Mm)) (N : Nat) (l0 l1 l2 l3 l5 s0 s1 : Int) (μ : Mm) : Option (Int × Mm) :=
  m_chk 8 μ s1 (
b2 (jX8_roll N s1 s0 μ) fun x1 μ1 =>
bnd (i_add l5 1) fun x2 =>
k112 l0 l1 l2 l3 x1 x2 μ1)
def jX8_on_112b (k112 : Int → Int → Int → Int → Int → Int → Mm → Option (Int × Mm)) (N : Nat) (l0 l1 l2 l3 l4 l5 : Int) (μ : Mm) : Option (Int × Mm) :=
  if (i_sub l1 1) ≤ l5 then (jX8_on_162 N l0 l2 l3 l4 μ) else (if l4 = 0 then (jX8_on_162 N l0 l2 l3 l4 μ) else ((m_ald 100 μ (m_gt μ l0 0) l5).bind fun x1 =>
if ¬ x1 = 200 then ((m_ald 100 μ (m_gt μ l0 0) l5).bind fun x2 =>
jX8_on_151 k112 N l0 l1 l2 l3 l5 x2 l0 μ) else (jX8_on_151 k112 N l0 l1 l2 l3 l5 (-2) l0 μ)))
def jX8_on_112 (N : Nat) : Nat → Int → Int → Int → Int → Int → Int → Mm → Option (Int × Mm)
  | 0 => fun _ _ _ _ _ _ _ => none
  | n + 1 => fun l0 l1 l2 l3 l4 l5 μ => jX8_on_112b (jX8_on_112 N n) N l0 l1 l2 l3 l4 l5 μ
def jX8_on_68b (k68 : Int → Int → Int → Int → Mm → Option (Int × Mm)) (N : Nat) (l0 l1 l2 l3 : Int) (μ : Mm) : Option (Int × Mm) :=
  if l2 ≤ l3 then (bnd (m_gt μ l0 78) fun x1 =>
bnd (m_st μ l0 58 0) fun μ1 =>
bnd (m_st μ1 l0 78 0) fun μ2 =>
jX8_on_112 N N l0 l1 l2 x1 1 1 μ2) else ((m_ald 100 μ (m_gt μ l0 59) l3).bind fun x2 =>
(m_ast 100 μ (m_gt μ l0 85) l3 x2).bind fun μ3 =>
bnd (i_add l3 1) fun x3 =>
k68 l0 l1 l2 x3 μ3)
def jX8_on_68 (N : Nat) : Nat → Int → Int → Int → Int → Mm → Option (Int × Mm)
  | 0 => fun _ _ _ _ _ => none
  | n + 1 => fun l0 l1 l2 l3 μ => jX8_on_68b (jX8_on_68 N n) N l0 l1 l2 l3 μ
def jX8_on_59 (N : Nat) (l0 : Int) (μ : Mm) : Option (Int × Mm) :=
  some (0, μ)
def jX8_on (N : Nat) (l0 : Int) (μ : Mm) : Option (Int × Mm) :=
  bnd (m_gt μ l0 1) fun x1 =>
bnd (m_st μ l0 1 0) fun μ1 =>
if x1 < 2 then (jX8_on_59 N l0 μ1) else ((m_ald 100 μ1 (m_gt μ1 l0 0) 0).bind fun x2 =>
if ¬ x2 = (i_sub x1 2) then (jX8_on_59 N l0 μ1) else ((m_ald 100 μ1 (m_gt μ1 l0 0) 0).bind fun x3 =>
if 30 < x3 then (jX8_on_59 N l0 μ1) else ((m_ald 100 μ1 (m_gt μ1 l0 0) (i_sub x1 1)).bind fun x4 =>
b2 (jX8_checked N (m_gt μ1 l0 0) (i_sub x1 1) μ1) fun x5 μ2 =>
if x4 = x5 then (bnd (m_gt μ2 l0 58) fun x6 =>
jX8_on_68 N N l0 x1 x6 0 μ2) else (jX8_on_59 N l0 μ2))))
-- X8_meetsAll
def jX8_meetsAll_24 (k4 : Int → Int → Int → Int → Mm → Option (Int × Mm)) (N : Nat) (l0 l1 l2 l3 : Int) (μ : Mm) : Option (Int × Mm) :=
  bnd (i_add l3 1) fun x1 =>
k4 l0 l1 l2 x1 μ
def jX8_meetsAll_4b (k4 : Int → Int → Int → Int → Mm → Option (Int × Mm)) (N : Nat) (l0 l1 l2 l3 : Int) (μ : Mm) : Option (Int × Mm) :=
  if 6 ≤ l3 then (some (l2, μ)) else (if l3 = l1 then (jX8_meetsAll_24 k4 N l0 l1 l2 l3 μ) else (b2 (jX8_meets N l0 l1 l3 μ) fun x1 μ1 =>
bnd (i_add l2 x1) fun x2 =>
jX8_meetsAll_24 k4 N l0 l1 x2 l3 μ1))
def jX8_meetsAll_4 (N : Nat) : Nat → Int → Int → Int → Int → Mm → Option (Int × Mm)
  | 0 => fun _ _ _ _ _ => none
  | n + 1 => fun l0 l1 l2 l3 μ => jX8_meetsAll_4b (jX8_meetsAll_4 N n) N l0 l1 l2 l3 μ
def jX8_meetsAll (N : Nat) (l0 l1 : Int) (μ : Mm) : Option (Int × Mm) :=
  jX8_meetsAll_4 N N l0 l1 0 0 μ
-- X8_place
def jX8_place_40 (k20 : Int → Int → Int → Int → Mm → Option (Int × Mm)) (N : Nat) (l0 l2 l3 l4 : Int) (μ : Mm) : Option (Int × Mm) :=
  bnd (i_add l4 1) fun x1 =>
k20 l0 l2 l3 x1 μ
def jX8_place_20b (k20 : Int → Int → Int → Int → Mm → Option (Int × Mm)) (N : Nat) (l0 l2 l3 l4 : Int) (μ : Mm) : Option (Int × Mm) :=
  if 6 ≤ l4 then (some (l3, μ)) else (b2 (jX8_meetsAll N l0 l4 μ) fun x1 μ1 =>
if x1 ≤ l2 then (jX8_place_40 k20 N l0 l2 l3 l4 μ1) else (bnd (i_add l3 1) fun x2 =>
jX8_place_40 k20 N l0 l2 x2 l4 μ1))
def jX8_place_20 (N : Nat) : Nat → Int → Int → Int → Int → Mm → Option (Int × Mm)
  | 0 => fun _ _ _ _ _ => none
  | n + 1 => fun l0 l2 l3 l4 μ => jX8_place_20b (jX8_place_20 N n) N l0 l2 l3 l4 μ
def jX8_place (N : Nat) (l0 l1 : Int) (μ : Mm) : Option (Int × Mm) :=
  b2 (jX8_isPlayer N l1 μ) fun x1 μ1 =>
if ¬ x1 = 0 then (b2 (jX8_meetsAll N l0 l1 μ1) fun x2 μ2 =>
jX8_place_20 N N l0 x2 0 0 μ2) else (some ((-1), μ1))
-- X8_greatest
def jX8_greatest_48 (k4 : Int → Int → Int → Int → Mm → Option (Int × Mm)) (N : Nat) (l0 l1 l3 s0 : Int) (μ : Mm) : Option (Int × Mm) :=
  bnd (i_add l3 1) fun x1 =>
k4 l0 l1 s0 x1 μ
def jX8_greatest_33 (k4 : Int → Int → Int → Int → Mm → Option (Int × Mm)) (N : Nat) (l0 l1 l3 : Int) (μ : Mm) : Option (Int × Mm) :=
  (m_ald 100 μ (m_gt μ l0 82) (i_add (i_mul 10 l1) l3)).bind fun x1 =>
jX8_greatest_48 k4 N l0 l1 l3 x1 μ
def jX8_greatest_4b (k4 : Int → Int → Int → Int → Mm → Option (Int × Mm)) (N : Nat) (l0 l1 l2 l3 : Int) (μ : Mm) : Option (Int × Mm) :=
  (m_ald 100 μ (m_gt μ l0 81) l1).bind fun x1 =>
if x1 ≤ l3 then (some (l2, μ)) else (if l3 = 0 then (jX8_greatest_33 k4 N l0 l1 l3 μ) else ((m_ald 100 μ (m_gt μ l0 82) (i_add (i_mul 10 l1) l3)).bind fun x2 =>
if x2 ≤ l2 then (jX8_greatest_48 k4 N l0 l1 l3 l2 μ) else (jX8_greatest_33 k4 N l0 l1 l3 μ)))
def jX8_greatest_4 (N : Nat) : Nat → Int → Int → Int → Int → Mm → Option (Int × Mm)
  | 0 => fun _ _ _ _ _ => none
  | n + 1 => fun l0 l1 l2 l3 μ => jX8_greatest_4b (jX8_greatest_4 N n) N l0 l1 l2 l3 μ
def jX8_greatest (N : Nat) (l0 l1 : Int) (μ : Mm) : Option (Int × Mm) :=
  jX8_greatest_4 N N l0 l1 0 0 μ
-- X8_player
def jX8_player (N : Nat) (l0 l1 l2 : Int) (μ : Mm) : Option (Int × Mm) :=
  b2 (jX8_isPlayer N l1 μ) fun x1 μ1 =>
if ¬ x1 = 0 then (if l2 = 0 then ((m_ald 100 μ1 (m_gt μ1 l0 81) l1).bind fun x2 =>
some (x2, μ1)) else (
if l2 = 1 then (b2 (jX8_sumOf N l0 l1 μ1) fun x3 μ2 =>
some (x3, μ2)) else (
if l2 = 2 then (b2 (jX8_meanOf N l0 l1 μ1) fun x4 μ3 =>
some (x4, μ3)) else (
if l2 = 3 then (b2 (jX8_handicapOf N l0 l1 μ1) fun x5 μ4 =>
some (x5, μ4)) else (
if l2 = 4 then (b2 (jX8_greatest N l0 l1 μ1) fun x6 μ5 =>
some (x6, μ5)) else (
if l2 = 5 then (b2 (jX8_meetsAll N l0 l1 μ1) fun x7 μ6 =>
some (x7, μ6)) else (
some ((-1000000), μ1)))))))) else (some ((-1000000), μ1))
-- X8_points
def jX8_points_56 (N : Nat) (l0 : Int) (μ : Mm) : Option (Int × Mm) :=
  some ((-1000000), μ)
def jX8_points (N : Nat) (l0 l1 : Int) (μ : Mm) : Option (Int × Mm) :=
  (jX8_goesThrough N l0 μ).bind fun μ1 =>
(m_ald 100 μ1 (m_gt μ1 l0 32) 1).bind fun x1 =>
b2 (jX8_isIn N (i_2l l1) 0 (i_2l (i_sub x1 1)) μ1) fun x2 μ2 =>
if x2 = 0 then (jX8_points_56 N l0 μ2) else (if (m_gt μ2 l0 65) ≤ l1 then (jX8_points_56 N l0 μ2) else ((m_ald 100 μ2 (m_gt μ2 l0 60) l1).bind fun x3 =>
(m_ald 100 μ2 (m_gt μ2 l0 61) l1).bind fun x4 =>
b2 (jX8_owed N l0 l1 μ2) fun x5 μ3 =>
if (i_add (i_add x3 x4) x5) ≤ (m_gt μ3 l0 58) then (b2 (jX8_pointsOf N l0 l1 μ3) fun x6 μ4 =>
some (x6, μ4)) else (jX8_points_56 N l0 μ3)))
-- X8_rolled
def jX8_rolled_26 (N : Nat) (l0 s0 : Int) (μ : Mm) : Option (Int × Mm) :=
  some (s0, μ)
def jX8_rolled (N : Nat) (l0 l1 : Int) (μ : Mm) : Option (Int × Mm) :=
  b2 (jX8_isIn N (i_2l l1) 0 (i_2l (i_sub (m_gt μ l0 58) 1)) μ) fun x1 μ1 =>
if x1 = 0 then (jX8_rolled_26 N l0 (-1) μ1) else ((m_ald 100 μ1 (m_gt μ1 l0 59) l1).bind fun x2 =>
jX8_rolled_26 N l0 x2 μ1)
-- X8_sheet
def jX8_sheet_114 (N : Nat) (l0 s0 : Int) (μ : Mm) : Option (Int × Mm) :=
  some (s0, μ)
def jX8_sheet_101 (N : Nat) (l0 s0 : Int) (μ : Mm) : Option (Int × Mm) :=
  some (s0, μ)
def jX8_sheet_85 (N : Nat) (l0 s0 : Int) (μ : Mm) : Option (Int × Mm) :=
  some (s0, μ)
def jX8_sheet_64 (N : Nat) (l0 s0 : Int) (μ : Mm) : Option (Int × Mm) :=
  some (s0, μ)
def jX8_sheet (N : Nat) (l0 l1 : Int) (μ : Mm) : Option (Int × Mm) :=
  (jX8_goesThrough N l0 μ).bind fun μ1 =>
if l1 = 0 then (some (m_gt μ1 l0 58, μ1)) else (
if l1 = 1 then (if (m_gt μ1 l0 68) = 0 then (jX8_sheet_64 N l0 (m_gt μ1 l0 65) μ1) else (jX8_sheet_64 N l0 (-1) μ1)) else (
if l1 = 2 then (if (m_gt μ1 l0 68) = 0 then ((m_ald 100 μ1 (m_gt μ1 l0 61) (m_gt μ1 l0 65)).bind fun x1 =>
jX8_sheet_85 N l0 x1 μ1) else (jX8_sheet_85 N l0 0 μ1)) else (
if l1 = 3 then (if (m_gt μ1 l0 68) = 0 then (jX8_sheet_101 N l0 (m_gt μ1 l0 66) μ1) else (jX8_sheet_101 N l0 0 μ1)) else (
if l1 = 4 then (if (m_gt μ1 l0 68) = 0 then (jX8_sheet_114 N l0 0 μ1) else (jX8_sheet_114 N l0 1 μ1)) else (
if l1 = 5 then (some (m_gt μ1 l0 67, μ1)) else (
some ((-1), μ1)))))))
-- X8_many
def jX8_many_4b (k4 : Int → Int → Mm → Option (Int × Mm)) (N : Nat) (l1 l2 : Int) (μ : Mm) : Option (Int × Mm) :=
  if l2 ≤ 0 then (some (l1, μ)) else (bnd (i_add l1 (i_and l2 1)) fun x1 =>
bnd (i_shr l2 1) fun x2 =>
k4 x1 x2 μ)
def jX8_many_4 (N : Nat) : Nat → Int → Int → Mm → Option (Int × Mm)
  | 0 => fun _ _ _ => none
  | n + 1 => fun l1 l2 μ => jX8_many_4b (jX8_many_4 N n) N l1 l2 μ
def jX8_many (N : Nat) (l0 : Int) (μ : Mm) : Option (Int × Mm) :=
  jX8_many_4 N N 0 l0 μ
-- X8_split
def jX8_split_33 (N : Nat) (l0 s0 : Int) (μ : Mm) : Option (Int × Mm) :=
  some (s0, μ)
def jX8_split_32 (N : Nat) (l0 : Int) (μ : Mm) : Option (Int × Mm) :=
  jX8_split_33 N l0 0 μ
def jX8_split (N : Nat) (l0 l1 : Int) (μ : Mm) : Option (Int × Mm) :=
  b2 (jX8_isPins N l0 l1 0 μ) fun x1 μ1 =>
if ¬ x1 = 0 then (b2 (jX8_many N l1 μ1) fun x2 μ2 =>
if x2 ≤ 1 then (jX8_split_32 N l0 μ2) else (b2 (jX8_part N l0 l1 μ2) fun x3 μ3 =>
if x3 = l1 then (jX8_split_32 N l0 μ3) else (jX8_split_33 N l0 1 μ3))) else (some ((-1), μ1))
-- X8_tear
def jX8_tear_55 (N : Nat) (l0 s0 s1 : Int) (μ : Mm) : Option (Int × Mm) :=
  m_chk 8 μ s1 (
bnd (m_st μ s1 78 s0) fun μ1 =>
bnd (m_st μ1 l0 72 0) fun μ2 =>
some (1, μ2))
def jX8_tear_27 (N : Nat) (l0 : Int) (μ : Mm) : Option (Int × Mm) :=
  some (0, μ)
def jX8_tear (N : Nat) (l0 l1 l2 : Int) (μ : Mm) : Option (Int × Mm) :=
  (jX8_goesThrough N l0 μ).bind fun μ1 =>
if (m_gt μ1 l0 68) = 0 then (jX8_tear_27 N l0 μ1) else ((m_ald 100 μ1 (m_gt μ1 l0 32) 1).bind fun x1 =>
b2 (jX8_isIn N (i_2l l1) 0 (i_2l x1) μ1) fun x2 μ2 =>
if ¬ x2 = 0 then (if l2 = 0 then (jX8_tear_55 N l0 (i_and (m_gt μ2 l0 78) (i_xor (i_shl 1 l1) (-1))) l0 μ2) else (jX8_tear_55 N l0 (i_or (m_gt μ2 l0 78) (i_shl 1 l1)) l0 μ2)) else (jX8_tear_27 N l0 μ2))
-- X8_total
def jX8_total_21 (N : Nat) (l0 s0 : Int) (μ : Mm) : Option (Int × Mm) :=
  some (s0, μ)
def jX8_total (N : Nat) (l0 : Int) (μ : Mm) : Option (Int × Mm) :=
  (jX8_goesThrough N l0 μ).bind fun μ1 =>
if (m_gt μ1 l0 68) = 0 then (jX8_total_21 N l0 (-1000000) μ1) else (b2 (jX8_soFar N l0 μ1) fun x1 μ2 =>
jX8_total_21 N l0 x1 μ2)
-- X8_ways
def jX8_ways_58 (k10 : Int → Int → Int → Int → Int → Mm → Option (Int × Mm)) (N : Nat) (l0 l1 l2 l3 l5 : Int) (μ : Mm) : Option (Int × Mm) :=
  bnd (i_add l5 1) fun x1 =>
k10 l0 l1 l2 l3 x1 μ
def jX8_ways_45 (k10 : Int → Int → Int → Int → Int → Mm → Option (Int × Mm)) (N : Nat) (l0 l1 l2 l3 l5 : Int) (μ : Mm) : Option (Int × Mm) :=
  (m_ald 101 μ (m_gt μ l0 77) l5).bind fun x1 =>
b2 (jX8_capped N (l_add l3 x1) μ) fun x2 μ1 =>
jX8_ways_58 k10 N l0 l1 l2 x2 l5 μ1
def jX8_ways_10b (k10 : Int → Int → Int → Int → Int → Mm → Option (Int × Mm)) (N : Nat) (l0 l1 l2 l3 l5 : Int) (μ : Mm) : Option (Int × Mm) :=
  if 2120 ≤ l5 then (some (l3, μ)) else (if l2 = 0 then (if ¬ (i_sub l5 1060) = l1 then (jX8_ways_58 k10 N l0 l1 l2 l3 l5 μ) else (jX8_ways_45 k10 N l0 l1 l2 l3 l5 μ)) else (if (i_sub l5 1060) < l1 then (jX8_ways_58 k10 N l0 l1 l2 l3 l5 μ) else (jX8_ways_45 k10 N l0 l1 l2 l3 l5 μ)))
def jX8_ways_10 (N : Nat) : Nat → Int → Int → Int → Int → Int → Mm → Option (Int × Mm)
  | 0 => fun _ _ _ _ _ _ => none
  | n + 1 => fun l0 l1 l2 l3 l5 μ => jX8_ways_10b (jX8_ways_10 N n) N l0 l1 l2 l3 l5 μ
def jX8_ways (N : Nat) (l0 l1 l2 : Int) (μ : Mm) : Option (Int × Mm) :=
  (jX8_tellsComing N l0 (-1) μ).bind fun μ1 =>
jX8_ways_10 N N l0 l1 l2 0 0 μ1
