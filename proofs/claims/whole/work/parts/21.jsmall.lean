-- X0_put
def jX0_put (N : Nat) (l0 l1 : Int) (μ : Mm) : Option (Int × Mm) :=
  (m_len μ (m_gt μ l0 0)).bind fun x1 =>
if (m_gt μ l0 1) < x1 then ((m_ast 100 μ (m_gt μ l0 0) (m_gt μ l0 1) l1).bind fun μ1 =>
bnd (m_st μ1 l0 1 (i_add (m_gt μ1 l0 1) 1)) fun μ2 =>
some (1, μ2)) else (some (0, μ))
-- J6_bitCount_0f7a4
def jJ6_bitCount_0f7a4 (N : Nat) (l0 : Int) (μ : Mm) : Option (Int × Mm) :=
  bnd (i_sub l0 (i_and (i_ushr l0 1) 1431655765)) fun x1 =>
bnd (i_add (i_and x1 858993459) (i_and (i_ushr x1 2) 858993459)) fun x2 =>
bnd (i_and (i_add x2 (i_ushr x2 4)) 252645135) fun x3 =>
bnd (i_add x3 (i_ushr x3 8)) fun x4 =>
bnd (i_add x4 (i_ushr x4 16)) fun x5 =>
some (i_and x5 63, μ)
-- J6_signum_0f7a4
def jJ6_signum_0f7a4 (N : Nat) (l0 : Int) (μ : Mm) : Option (Int × Mm) :=
  some (i_or (i_shr l0 31) (i_ushr (i_neg l0) 31), μ)
-- J9_floorDiv_7cf53
def jJ9_floorDiv_7cf53_21 (N : Nat) (l2 : Int) (μ : Mm) : Option (Int × Mm) :=
  some (l2, μ)
def jJ9_floorDiv_7cf53 (N : Nat) (l0 l1 : Int) (μ : Mm) : Option (Int × Mm) :=
  n_chk l1 (
bnd (i_div l0 l1) fun x1 =>
if 0 ≤ (i_xor l0 l1) then (jJ9_floorDiv_7cf53_21 N x1 μ) else (if (i_mul x1 l1) = l0 then (jJ9_floorDiv_7cf53_21 N x1 μ) else (some (i_sub x1 1, μ))))
-- X0_init
def jX0_init (N : Nat) (l0 : Int) (μ : Mm) : Option (Mm) :=
  (m_na 100 μ 700).bind fun μ1 =>
bnd (m_st μ1 l0 0 (m_sz μ : Int)) fun μ2 =>
bnd (m_st μ2 l0 1 0) fun μ3 =>
(m_na 100 μ3 7).bind fun μ4 =>
bnd (m_st μ4 l0 2 (m_sz μ3 : Int)) fun μ5 =>
(m_na 100 μ5 64).bind fun μ6 =>
bnd (m_st μ6 l0 3 (m_sz μ5 : Int)) fun μ7 =>
bnd (m_st μ7 l0 4 0) fun μ8 =>
some μ8
-- X0_empty
def jX0_empty (N : Nat) (l0 : Int) (μ : Mm) : Option (Mm) :=
  bnd (m_st μ l0 1 0) fun μ1 =>
some μ1
-- X0_sizeNow
def jX0_sizeNow (N : Nat) (l0 : Int) (μ : Mm) : Option (Int × Mm) :=
  some (m_gt μ l0 1, μ)
-- X0_setFrame
def jX0_setFrame (N : Nat) (l0 l1 l2 l3 l4 : Int) (μ : Mm) : Option (Mm) :=
  (m_ast 100 μ (m_gt μ l0 2) 1 l1).bind fun μ1 =>
(m_ast 100 μ1 (m_gt μ1 l0 2) 2 l2).bind fun μ2 =>
(m_ast 100 μ2 (m_gt μ2 l0 2) 3 l3).bind fun μ3 =>
(m_ast 100 μ3 (m_gt μ3 l0 2) 4 l4).bind fun μ4 =>
(m_ast 100 μ4 (m_gt μ4 l0 2) 5 0).bind fun μ5 =>
(m_ast 100 μ5 (m_gt μ5 l0 2) 6 0).bind fun μ6 =>
some μ6
-- X0_setPlayer
def jX0_setPlayer (N : Nat) (l0 l1 l2 : Int) (μ : Mm) : Option (Mm) :=
  (jX0_setFrame N l0 0 0 0 0 μ).bind fun μ1 =>
(m_ast 100 μ1 (m_gt μ1 l0 2) 5 l1).bind fun μ2 =>
(m_ast 100 μ2 (m_gt μ2 l0 2) 6 l2).bind fun μ3 =>
some μ3
-- X0_pop
def jX0_pop_19 (N : Nat) (l0 : Int) (μ : Mm) : Option (Int × Mm) :=
  some (0, μ)
def jX0_pop (N : Nat) (l0 : Int) (μ : Mm) : Option (Int × Mm) :=
  if (m_gt μ l0 4) ≤ 0 then (jX0_pop_19 N l0 μ) else ((m_len μ (m_gt μ l0 3)).bind fun x1 =>
if (m_gt μ l0 4) ≤ x1 then (bnd (m_st μ l0 4 (i_sub (m_gt μ l0 4) 1)) fun μ1 =>
(m_ald 100 μ1 (m_gt μ1 l0 3) (m_gt μ1 l0 4)).bind fun x2 =>
some (x2, μ1)) else (jX0_pop_19 N l0 μ))
-- X7_within
def jX7_within (N : Nat) (l0 l1 l2 : Int) (μ : Mm) : Option (Int × Mm) :=
  some (i_max l0 (i_min l2 l1), μ)
-- X0_join
def jX0_join_155 (N : Nat) (s0 : Int) (μ : Mm) : Option (Int × Mm) :=
  some (s0, μ)
def jX0_join_144 (N : Nat) (s0 : Int) (μ : Mm) : Option (Int × Mm) :=
  some (s0, μ)
def jX0_join_133 (N : Nat) (s0 : Int) (μ : Mm) : Option (Int × Mm) :=
  some (s0, μ)
def jX0_join_110 (N : Nat) (s0 : Int) (μ : Mm) : Option (Int × Mm) :=
  some (s0, μ)
def jX0_join (N : Nat) (l0 l1 l2 : Int) (μ : Mm) : Option (Int × Mm) :=
  if l0 = (-20) then (some (i_and l1 l2, μ)) else (
if l0 = (-19) then (if ¬ l1 = l2 then (jX0_join_155 N 0 μ) else (jX0_join_155 N 1 μ)) else (
if l0 = (-18) then (if l1 ≤ l2 then (jX0_join_144 N 0 μ) else (jX0_join_144 N 1 μ)) else (
if l0 = (-17) then (if l2 ≤ l1 then (jX0_join_133 N 0 μ) else (jX0_join_133 N 1 μ)) else (
if l0 = (-16) then (some (i_max l1 l2, μ)) else (
if l0 = (-15) then (some (i_min l1 l2, μ)) else (
if l0 = (-14) then (if ¬ l2 = 0 then (b2 (jJ9_floorDiv_7cf53 N l1 l2 μ) fun x1 μ1 =>
jX0_join_110 N x1 μ1) else (jX0_join_110 N 0 μ)) else (
if l0 = (-13) then (some (l_2i (l_max (-1000000) (l_min 1000000 (l_mul (i_2l l1) (i_2l l2)))), μ)) else (
if l0 = (-12) then (b2 (jX7_within N (-1000000) (i_sub l1 l2) 1000000 μ) fun x2 μ2 =>
some (x2, μ2)) else (
if l0 = (-11) then (b2 (jX7_within N (-1000000) (i_add l1 l2) 1000000 μ) fun x3 μ3 =>
some (x3, μ3)) else (
some (i_or l1 l2, μ)))))))))))
-- X0_push
def jX0_push_32 (N : Nat) (l0 : Int) (μ : Mm) : Option (Mm) :=
  some μ
def jX0_push (N : Nat) (l0 l1 : Int) (μ : Mm) : Option (Mm) :=
  (m_len μ (m_gt μ l0 3)).bind fun x1 =>
if x1 ≤ (m_gt μ l0 4) then (jX0_push_32 N l0 μ) else ((m_ast 100 μ (m_gt μ l0 3) (m_gt μ l0 4) l1).bind fun μ1 =>
bnd (m_st μ1 l0 4 (i_add (m_gt μ1 l0 4) 1)) fun μ2 =>
jX0_push_32 N l0 μ2)
-- X0_step
def jX0_step_71 (N : Nat) (l0 : Int) (μ : Mm) : Option (Mm) :=
  some μ
def jX0_step (N : Nat) (l0 l1 : Int) (μ : Mm) : Option (Mm) :=
  if l1 < 0 then (if l1 < (-6) then (if ¬ l1 = (-22) then (b2 (jX0_pop N l0 μ) fun x1 μ1 =>
b2 (jX0_pop N l0 μ1) fun x2 μ2 =>
b2 (jX0_join N l1 x2 x1 μ2) fun x3 μ3 =>
(jX0_push N l0 x3 μ3).bind fun μ4 =>
jX0_step_71 N l0 μ4) else (b2 (jX0_pop N l0 μ) fun x4 μ5 =>
(jX0_push N l0 (i_sub 1 x4) μ5).bind fun μ6 =>
jX0_step_71 N l0 μ6)) else ((m_ald 100 μ (m_gt μ l0 2) (i_neg l1)).bind fun x5 =>
(jX0_push N l0 x5 μ).bind fun μ7 =>
jX0_step_71 N l0 μ7)) else ((jX0_push N l0 l1 μ).bind fun μ8 =>
jX0_step_71 N l0 μ8)
-- X0_reckon
def jX0_reckon_40 (N : Nat) (l0 : Int) (μ : Mm) : Option (Int × Mm) :=
  b2 (jX0_pop N l0 μ) fun x1 μ1 =>
some (x1, μ1)
def jX0_reckon_11b (k11 : Int → Int → Int → Mm → Option (Int × Mm)) (N : Nat) (l0 l2 l3 : Int) (μ : Mm) : Option (Int × Mm) :=
  if l2 ≤ l3 then (jX0_reckon_40 N l0 μ) else (if (m_gt μ l0 1) ≤ l3 then (jX0_reckon_40 N l0 μ) else ((m_ald 100 μ (m_gt μ l0 0) l3).bind fun x1 =>
(jX0_step N l0 x1 μ).bind fun μ1 =>
bnd (i_add l3 1) fun x2 =>
k11 l0 l2 x2 μ1))
def jX0_reckon_11 (N : Nat) : Nat → Int → Int → Int → Mm → Option (Int × Mm)
  | 0 => fun _ _ _ _ => none
  | n + 1 => fun l0 l2 l3 μ => jX0_reckon_11b (jX0_reckon_11 N n) N l0 l2 l3 μ
def jX0_reckon (N : Nat) (l0 l1 l2 : Int) (μ : Mm) : Option (Int × Mm) :=
  bnd (m_st μ l0 4 0) fun μ1 =>
bnd (i_max l1 0) fun x1 =>
jX0_reckon_11 N N l0 l2 x1 μ1
-- X1_empty
def jX1_empty_75b (k75 : Int → Int → Mm → Option (Mm)) (N : Nat) (l0 l1 : Int) (μ : Mm) : Option (Mm) :=
  (m_len μ (m_gt μ l0 8)).bind fun x1 =>
if x1 ≤ l1 then (some μ) else ((m_ast 100 μ (m_gt μ l0 8) l1 0).bind fun μ1 =>
bnd (i_add l1 1) fun x2 =>
k75 l0 x2 μ1)
def jX1_empty_75 (N : Nat) : Nat → Int → Int → Mm → Option (Mm)
  | 0 => fun _ _ _ => none
  | n + 1 => fun l0 l1 μ => jX1_empty_75b (jX1_empty_75 N n) N l0 l1 μ
def jX1_empty_51b (k51 : Int → Int → Mm → Option (Mm)) (N : Nat) (l0 l1 : Int) (μ : Mm) : Option (Mm) :=
  (m_len μ (m_gt μ l0 7)).bind fun x1 =>
if x1 ≤ l1 then (jX1_empty_75 N N l0 0 μ) else ((m_ast 100 μ (m_gt μ l0 7) l1 0).bind fun μ1 =>
bnd (i_add l1 1) fun x2 =>
k51 l0 x2 μ1)
def jX1_empty_51 (N : Nat) : Nat → Int → Int → Mm → Option (Mm)
  | 0 => fun _ _ _ => none
  | n + 1 => fun l0 l1 μ => jX1_empty_51b (jX1_empty_51 N n) N l0 l1 μ
def jX1_empty (N : Nat) (l0 : Int) (μ : Mm) : Option (Mm) :=
  bnd (m_st μ l0 0 0) fun μ1 =>
bnd (m_st μ1 l0 1 9) fun μ2 =>
bnd (m_st μ2 l0 2 6) fun μ3 =>
bnd (m_st μ3 l0 3 2) fun μ4 =>
bnd (m_st μ4 l0 4 0) fun μ5 =>
bnd (m_st μ5 l0 5 0) fun μ6 =>
m_chk 0 μ6 (m_gt μ6 l0 6) (
(jX0_empty N (m_gt μ6 l0 6) μ6).bind fun μ7 =>
bnd (m_st μ7 l0 12 0) fun μ8 =>
bnd (m_st μ8 l0 13 0) fun μ9 =>
jX1_empty_51 N N l0 0 μ9)
-- X1_init
def jX1_init (N : Nat) (l0 : Int) (μ : Mm) : Option (Mm) :=
  bnd (m_nw μ 0 0 5) fun μ1 =>
(jX0_init N (m_sz μ : Int) μ1).bind fun μ2 =>
bnd (m_st μ2 l0 6 (m_sz μ : Int)) fun μ3 =>
(m_na 100 μ3 4).bind fun μ4 =>
bnd (m_st μ4 l0 7 (m_sz μ3 : Int)) fun μ5 =>
(m_na 100 μ5 9).bind fun μ6 =>
bnd (m_st μ6 l0 8 (m_sz μ5 : Int)) fun μ7 =>
(m_na 100 μ7 30).bind fun μ8 =>
bnd (m_st μ8 l0 9 (m_sz μ7 : Int)) fun μ9 =>
(m_na 100 μ9 30).bind fun μ10 =>
bnd (m_st μ10 l0 10 (m_sz μ9 : Int)) fun μ11 =>
(m_na 100 μ11 30).bind fun μ12 =>
bnd (m_st μ12 l0 11 (m_sz μ11 : Int)) fun μ13 =>
(m_na 100 μ13 1280).bind fun μ14 =>
bnd (m_st μ14 l0 14 (m_sz μ13 : Int)) fun μ15 =>
(jX1_empty N l0 μ15).bind fun μ16 =>
some μ16
-- X1_setEarned
def jX1_setEarned_20 (N : Nat) (l0 : Int) (μ : Mm) : Option (Mm) :=
  some μ
def jX1_setEarned (N : Nat) (l0 l1 l2 : Int) (μ : Mm) : Option (Mm) :=
  if l1 < 0 then (jX1_setEarned_20 N l0 μ) else ((m_len μ (m_gt μ l0 7)).bind fun x1 =>
if x1 ≤ l1 then (jX1_setEarned_20 N l0 μ) else ((m_ast 100 μ (m_gt μ l0 7) l1 l2).bind fun μ1 =>
jX1_setEarned_20 N l0 μ1))
-- X1_isPin
def jX1_isPin_15 (N : Nat) (s0 : Int) (μ : Mm) : Option (Int × Mm) :=
  z_chk s0 (some (s0, μ))
def jX1_isPin_14 (N : Nat) (μ : Mm) : Option (Int × Mm) :=
  jX1_isPin_15 N 0 μ
def jX1_isPin (N : Nat) (l0 : Int) (μ : Mm) : Option (Int × Mm) :=
  if l0 < 0 then (jX1_isPin_14 N  μ) else (if 9 ≤ l0 then (jX1_isPin_14 N  μ) else (jX1_isPin_15 N 1 μ))
-- X1_joinPins
def jX1_joinPins_38 (N : Nat) (l0 : Int) (μ : Mm) : Option (Mm) :=
  some μ
def jX1_joinPins (N : Nat) (l0 l1 l2 : Int) (μ : Mm) : Option (Mm) :=
  b2 (jX1_isPin N l1 μ) fun x1 μ1 =>
if x1 = 0 then (jX1_joinPins_38 N l0 μ1) else (b2 (jX1_isPin N l2 μ1) fun x2 μ2 =>
if x2 = 0 then (jX1_joinPins_38 N l0 μ2) else ((m_ald 100 μ2 (m_gt μ2 l0 8) l1).bind fun x3 =>
(m_ast 100 μ2 (m_gt μ2 l0 8) l1 (i_or x3 (i_shl 1 l2))).bind fun μ3 =>
(m_ald 100 μ3 (m_gt μ3 l0 8) l2).bind fun x4 =>
(m_ast 100 μ3 (m_gt μ3 l0 8) l2 (i_or x4 (i_shl 1 l1))).bind fun μ4 =>
jX1_joinPins_38 N l0 μ4))
-- X1_addWorth
def jX1_addWorth_55 (N : Nat) (l0 : Int) (μ : Mm) : Option (Mm) :=
  some μ
def jX1_addWorth (N : Nat) (l0 l1 l2 : Int) (μ : Mm) : Option (Mm) :=
  if 30 ≤ (m_gt μ l0 5) then (jX1_addWorth_55 N l0 μ) else ((m_ast 100 μ (m_gt μ l0 9) (m_gt μ l0 5) l1).bind fun μ1 =>
(m_ast 100 μ1 (m_gt μ1 l0 10) (m_gt μ1 l0 5) l2).bind fun μ2 =>
m_chk 0 μ2 (m_gt μ2 l0 6) (
b2 (jX0_sizeNow N (m_gt μ2 l0 6) μ2) fun x1 μ3 =>
(m_ast 100 μ3 (m_gt μ2 l0 11) (m_gt μ2 l0 5) x1).bind fun μ4 =>
bnd (m_st μ4 l0 5 (i_add (m_gt μ4 l0 5) 1)) fun μ5 =>
jX1_addWorth_55 N l0 μ5))
-- X1_setHandicap
def jX1_setHandicap (N : Nat) (l0 l1 : Int) (μ : Mm) : Option (Mm) :=
  bnd (m_st μ l0 12 l1) fun μ1 =>
m_chk 0 μ1 (m_gt μ1 l0 6) (
b2 (jX0_sizeNow N (m_gt μ1 l0 6) μ1) fun x1 μ2 =>
bnd (m_st μ2 l0 13 x1) fun μ3 =>
some μ3)
-- X1_reckonWorth
def jX1_reckonWorth_92 (N : Nat) (l0 : Int) (μ : Mm) : Option (Int × Mm) :=
  some (0, μ)
def jX1_reckonWorth_17b (k17 : Int → Int → Mm → Option (Int × Mm)) (N : Nat) (l0 l5 : Int) (μ : Mm) : Option (Int × Mm) :=
  if (m_gt μ l0 5) ≤ l5 then (jX1_reckonWorth_92 N l0 μ) else (if 30 ≤ l5 then (jX1_reckonWorth_92 N l0 μ) else ((m_ald 100 μ (m_gt μ l0 10) l5).bind fun x1 =>
(m_ald 100 μ (m_gt μ l0 11) l5).bind fun x2 =>
m_chk 0 μ (m_gt μ l0 6) (
b2 (jX0_reckon N (m_gt μ l0 6) x1 x2 μ) fun x3 μ1 =>
if x3 = 0 then (bnd (i_add l5 1) fun x4 =>
k17 l0 x4 μ1) else ((m_ald 100 μ1 (m_gt μ1 l0 9) l5).bind fun x5 =>
(m_ald 100 μ1 (m_gt μ1 l0 10) l5).bind fun x6 =>
m_chk 0 μ1 (m_gt μ1 l0 6) (
b2 (jX0_reckon N (m_gt μ1 l0 6) x5 x6 μ1) fun x7 μ2 =>
b2 (jX7_within N (-20) x7 20 μ2) fun x8 μ3 =>
some (x8, μ3))))))
def jX1_reckonWorth_17 (N : Nat) : Nat → Int → Int → Mm → Option (Int × Mm)
  | 0 => fun _ _ _ => none
  | n + 1 => fun l0 l5 μ => jX1_reckonWorth_17b (jX1_reckonWorth_17 N n) N l0 l5 μ
def jX1_reckonWorth (N : Nat) (l0 l1 l2 l3 l4 : Int) (μ : Mm) : Option (Int × Mm) :=
  m_chk 0 μ (m_gt μ l0 6) (
(jX0_setFrame N (m_gt μ l0 6) (i_add l1 1) l2 l3 l4 μ).bind fun μ1 =>
jX1_reckonWorth_17 N N l0 0 μ1)
-- X1_worthIndex
def jX1_worthIndex (N : Nat) (l0 l1 l2 l3 : Int) (μ : Mm) : Option (Int × Mm) :=
  some (i_add (i_add (i_mul (i_add (i_mul l0 10) l1) 16) (i_mul l2 4)) l3, μ)
-- X1_settleFouls
def jX1_settleFouls_50 (k3 : Int → Int → Int → Int → Int → Mm → Option (Mm)) (N : Nat) (l0 l1 l2 l3 l4 : Int) (μ : Mm) : Option (Mm) :=
  bnd (i_add l4 1) fun x1 =>
k3 l0 l1 l2 l3 x1 μ
def jX1_settleFouls_3b (k3 : Int → Int → Int → Int → Int → Mm → Option (Mm)) (N : Nat) (l0 l1 l2 l3 l4 : Int) (μ : Mm) : Option (Mm) :=
  if l3 < l4 then (some μ) else (b2 (jX1_worthIndex N l1 l2 l3 l4 μ) fun x1 μ1 =>
if x1 < 0 then (jX1_settleFouls_50 k3 N l0 l1 l2 l3 l4 μ1) else ((m_len μ1 (m_gt μ1 l0 14)).bind fun x2 =>
if x2 ≤ x1 then (jX1_settleFouls_50 k3 N l0 l1 l2 l3 l4 μ1) else (b2 (jX1_reckonWorth N l0 l1 l2 l3 l4 μ1) fun x3 μ2 =>
(m_ast 100 μ2 (m_gt μ1 l0 14) x1 x3).bind fun μ3 =>
jX1_settleFouls_50 k3 N l0 l1 l2 l3 l4 μ3)))
def jX1_settleFouls_3 (N : Nat) : Nat → Int → Int → Int → Int → Int → Mm → Option (Mm)
  | 0 => fun _ _ _ _ _ _ => none
  | n + 1 => fun l0 l1 l2 l3 l4 μ => jX1_settleFouls_3b (jX1_settleFouls_3 N n) N l0 l1 l2 l3 l4 μ
def jX1_settleFouls (N : Nat) (l0 l1 l2 l3 : Int) (μ : Mm) : Option (Mm) :=
  jX1_settleFouls_3 N N l0 l1 l2 l3 0 μ
-- X1_settle
def jX1_settle_22b (k2 : Int → Int → Mm → Option (Mm)) (k12 : Int → Int → Int → Mm → Option (Mm)) (k22 : Int → Int → Int → Int → Mm → Option (Mm)) (N : Nat) (l0 l1 l2 l3 : Int) (μ : Mm) : Option (Mm) :=
  if (m_gt μ l0 3) < l3 then (bnd (i_add l2 1) fun x1 =>
k12 l0 l1 x1 μ) else ((jX1_settleFouls N l0 l1 l2 l3 μ).bind fun μ1 =>
bnd (i_add l3 1) fun x2 =>
k22 l0 l1 l2 x2 μ1)
def jX1_settle_22 (k2 : Int → Int → Mm → Option (Mm)) (k12 : Int → Int → Int → Mm → Option (Mm)) (N : Nat) : Nat → Int → Int → Int → Int → Mm → Option (Mm)
  | 0 => fun _ _ _ _ _ => none
  | n + 1 => fun l0 l1 l2 l3 μ => jX1_settle_22b k2 k12 (jX1_settle_22 k2 k12 N n) N l0 l1 l2 l3 μ
def jX1_settle_12b (k2 : Int → Int → Mm → Option (Mm)) (k12 : Int → Int → Int → Mm → Option (Mm)) (N : Nat) (l0 l1 l2 : Int) (μ : Mm) : Option (Mm) :=
  if (m_gt μ l0 1) < l2 then (bnd (i_add l1 1) fun x1 =>
k2 l0 x1 μ) else (jX1_settle_22 k2 k12 N N l0 l1 l2 1 μ)
def jX1_settle_12 (k2 : Int → Int → Mm → Option (Mm)) (N : Nat) : Nat → Int → Int → Int → Mm → Option (Mm)
  | 0 => fun _ _ _ _ => none
  | n + 1 => fun l0 l1 l2 μ => jX1_settle_12b k2 (jX1_settle_12 k2 N n) N l0 l1 l2 μ
def jX1_settle_2b (k2 : Int → Int → Mm → Option (Mm)) (N : Nat) (l0 l1 : Int) (μ : Mm) : Option (Mm) :=
  if (m_gt μ l0 2) ≤ l1 then (some μ) else (jX1_settle_12 k2 N N l0 l1 0 μ)
def jX1_settle_2 (N : Nat) : Nat → Int → Int → Mm → Option (Mm)
  | 0 => fun _ _ _ => none
  | n + 1 => fun l0 l1 μ => jX1_settle_2b (jX1_settle_2 N n) N l0 l1 μ
def jX1_settle (N : Nat) (l0 : Int) (μ : Mm) : Option (Mm) :=
  jX1_settle_2 N N l0 0 μ
-- X1_worthOf
def jX1_worthOf_36 (N : Nat) (l0 s0 : Int) (μ : Mm) : Option (Int × Mm) :=
  some (s0, μ)
def jX1_worthOf_25 (N : Nat) (l0 : Int) (μ : Mm) : Option (Int × Mm) :=
  jX1_worthOf_36 N l0 0 μ
def jX1_worthOf (N : Nat) (l0 l1 l2 l3 l4 : Int) (μ : Mm) : Option (Int × Mm) :=
  b2 (jX1_worthIndex N l1 l2 l3 l4 μ) fun x1 μ1 =>
if x1 < 0 then (jX1_worthOf_25 N l0 μ1) else ((m_len μ1 (m_gt μ1 l0 14)).bind fun x2 =>
if x1 < x2 then ((m_ald 100 μ1 (m_gt μ1 l0 14) x1).bind fun x3 =>
jX1_worthOf_36 N l0 x3 μ1) else (jX1_worthOf_25 N l0 μ1))
-- X1_earnedBy
def jX1_earnedBy_23 (N : Nat) (l0 s0 : Int) (μ : Mm) : Option (Int × Mm) :=
  some (s0, μ)
def jX1_earnedBy_13 (N : Nat) (l0 : Int) (μ : Mm) : Option (Int × Mm) :=
  jX1_earnedBy_23 N l0 0 μ
def jX1_earnedBy (N : Nat) (l0 l1 : Int) (μ : Mm) : Option (Int × Mm) :=
  if l1 < 0 then (jX1_earnedBy_13 N l0 μ) else ((m_len μ (m_gt μ l0 7)).bind fun x1 =>
if l1 < x1 then ((m_ald 100 μ (m_gt μ l0 7) l1).bind fun x2 =>
jX1_earnedBy_23 N l0 x2 μ) else (jX1_earnedBy_13 N l0 μ))
-- X1_handicap
def jX1_handicap (N : Nat) (l0 l1 l2 : Int) (μ : Mm) : Option (Int × Mm) :=
  m_chk 0 μ (m_gt μ l0 6) (
(jX0_setPlayer N (m_gt μ l0 6) l1 l2 μ).bind fun μ1 =>
m_chk 0 μ1 (m_gt μ1 l0 6) (
b2 (jX0_reckon N (m_gt μ1 l0 6) (m_gt μ1 l0 12) (m_gt μ1 l0 13) μ1) fun x1 μ2 =>
b2 (jX7_within N 0 x1 99 μ2) fun x2 μ3 =>
some (x2, μ3)))
-- X1_hasPins
def jX1_hasPins_19 (N : Nat) (l0 s0 : Int) (μ : Mm) : Option (Int × Mm) :=
  z_chk s0 (some (s0, μ))
def jX1_hasPins_18 (N : Nat) (l0 : Int) (μ : Mm) : Option (Int × Mm) :=
  jX1_hasPins_19 N l0 0 μ
def jX1_hasPins (N : Nat) (l0 l1 : Int) (μ : Mm) : Option (Int × Mm) :=
  if l1 < 0 then (jX1_hasPins_18 N l0 μ) else (if (i_shl 1 (m_gt μ l0 1)) ≤ l1 then (jX1_hasPins_18 N l0 μ) else (jX1_hasPins_19 N l0 1 μ))
-- X1_countJoins
def jX1_countJoins_4b (k4 : Int → Int → Int → Mm → Option (Int × Mm)) (N : Nat) (l0 l1 l2 : Int) (μ : Mm) : Option (Int × Mm) :=
  (m_len μ (m_gt μ l0 8)).bind fun x1 =>
if x1 ≤ l2 then (some (i_div l1 2, μ)) else ((m_ald 100 μ (m_gt μ l0 8) l2).bind fun x2 =>
b2 (jJ6_bitCount_0f7a4 N x2 μ) fun x3 μ1 =>
bnd (i_add l1 x3) fun x4 =>
bnd (i_add l2 1) fun x5 =>
k4 l0 x4 x5 μ1)
def jX1_countJoins_4 (N : Nat) : Nat → Int → Int → Int → Mm → Option (Int × Mm)
  | 0 => fun _ _ _ _ => none
  | n + 1 => fun l0 l1 l2 μ => jX1_countJoins_4b (jX1_countJoins_4 N n) N l0 l1 l2 μ
def jX1_countJoins (N : Nat) (l0 : Int) (μ : Mm) : Option (Int × Mm) :=
  jX1_countJoins_4 N N l0 0 0 μ
-- X1_cluster
def jX1_cluster_53 (k7 : Int → Int → Int → Int → Mm → Option (Int × Mm)) (k19 : Int → Int → Int → Int → Int → Int → Mm → Option (Int × Mm)) (N : Nat) (l0 l1 l2 l3 l4 l5 : Int) (μ : Mm) : Option (Int × Mm) :=
  bnd (i_add l5 1) fun x1 =>
k19 l0 l1 l2 l3 l4 x1 μ
def jX1_cluster_19b (k7 : Int → Int → Int → Int → Mm → Option (Int × Mm)) (k19 : Int → Int → Int → Int → Int → Int → Mm → Option (Int × Mm)) (N : Nat) (l0 l1 l2 l3 l4 l5 : Int) (μ : Mm) : Option (Int × Mm) :=
  (m_len μ (m_gt μ l0 8)).bind fun x1 =>
if x1 ≤ l5 then (if ¬ l4 = l2 then (bnd (i_add l3 1) fun x2 =>
k7 l0 l1 l4 x2 μ) else (some (l2, μ))) else (if ¬ (i_and (i_shr l2 l5) 1) = 1 then (jX1_cluster_53 k7 k19 N l0 l1 l2 l3 l4 l5 μ) else ((m_ald 100 μ (m_gt μ l0 8) l5).bind fun x3 =>
bnd (i_or l4 (i_and x3 l1)) fun x4 =>
jX1_cluster_53 k7 k19 N l0 l1 l2 l3 x4 l5 μ))
def jX1_cluster_19 (k7 : Int → Int → Int → Int → Mm → Option (Int × Mm)) (N : Nat) : Nat → Int → Int → Int → Int → Int → Int → Mm → Option (Int × Mm)
  | 0 => fun _ _ _ _ _ _ _ => none
  | n + 1 => fun l0 l1 l2 l3 l4 l5 μ => jX1_cluster_19b k7 (jX1_cluster_19 k7 N n) N l0 l1 l2 l3 l4 l5 μ
def jX1_cluster_7b (k7 : Int → Int → Int → Int → Mm → Option (Int × Mm)) (N : Nat) (l0 l1 l2 l3 : Int) (μ : Mm) : Option (Int × Mm) :=
  if 9 ≤ l3 then (some (l2, μ)) else (jX1_cluster_19 k7 N N l0 l1 l2 l3 l2 0 μ)
def jX1_cluster_7 (N : Nat) : Nat → Int → Int → Int → Int → Mm → Option (Int × Mm)
  | 0 => fun _ _ _ _ _ => none
  | n + 1 => fun l0 l1 l2 l3 μ => jX1_cluster_7b (jX1_cluster_7 N n) N l0 l1 l2 l3 μ
def jX1_cluster (N : Nat) (l0 l1 : Int) (μ : Mm) : Option (Int × Mm) :=
  bnd (i_and l1 (i_neg l1)) fun x1 =>
jX1_cluster_7 N N l0 l1 x1 0 μ
-- X1_hangTogether
def jX1_hangTogether_18 (N : Nat) (l0 s0 : Int) (μ : Mm) : Option (Int × Mm) :=
  z_chk s0 (some (s0, μ))
def jX1_hangTogether_17 (N : Nat) (l0 : Int) (μ : Mm) : Option (Int × Mm) :=
  jX1_hangTogether_18 N l0 0 μ
def jX1_hangTogether (N : Nat) (l0 l1 : Int) (μ : Mm) : Option (Int × Mm) :=
  if l1 = 0 then (jX1_hangTogether_17 N l0 μ) else (b2 (jX1_cluster N l0 l1 μ) fun x1 μ1 =>
if ¬ x1 = l1 then (jX1_hangTogether_17 N l0 μ1) else (jX1_hangTogether_18 N l0 1 μ1))
-- X1_countClusters
def jX1_countClusters_37 (N : Nat) (l0 l3 : Int) (μ : Mm) : Option (Int × Mm) :=
  some (l3, μ)
def jX1_countClusters_7b (k7 : Int → Int → Int → Int → Mm → Option (Int × Mm)) (N : Nat) (l0 l2 l3 l4 : Int) (μ : Mm) : Option (Int × Mm) :=
  if 9 ≤ l4 then (jX1_countClusters_37 N l0 l3 μ) else (if l2 = 0 then (jX1_countClusters_37 N l0 l3 μ) else (b2 (jX1_cluster N l0 l2 μ) fun x1 μ1 =>
bnd (i_and l2 (i_xor x1 (-1))) fun x2 =>
bnd (i_add l3 1) fun x3 =>
bnd (i_add l4 1) fun x4 =>
k7 l0 x2 x3 x4 μ1))
def jX1_countClusters_7 (N : Nat) : Nat → Int → Int → Int → Int → Mm → Option (Int × Mm)
  | 0 => fun _ _ _ _ _ => none
  | n + 1 => fun l0 l2 l3 l4 μ => jX1_countClusters_7b (jX1_countClusters_7 N n) N l0 l2 l3 l4 μ
def jX1_countClusters (N : Nat) (l0 l1 : Int) (μ : Mm) : Option (Int × Mm) :=
  jX1_countClusters_7 N N l0 l1 0 0 μ
-- X1_countFalls
def jX1_countFalls_28 (k4 : Int → Int → Int → Int → Mm → Option (Int × Mm)) (N : Nat) (l0 l1 l2 l3 : Int) (μ : Mm) : Option (Int × Mm) :=
  bnd (i_add l3 1) fun x1 =>
k4 l0 l1 l2 x1 μ
def jX1_countFalls_4b (k4 : Int → Int → Int → Int → Mm → Option (Int × Mm)) (N : Nat) (l0 l1 l2 l3 : Int) (μ : Mm) : Option (Int × Mm) :=
  if l1 < l3 then (some (l2, μ)) else (if ¬ (i_and l3 (i_xor l1 (-1))) = 0 then (jX1_countFalls_28 k4 N l0 l1 l2 l3 μ) else (b2 (jX1_hangTogether N l0 l3 μ) fun x1 μ1 =>
if x1 = 0 then (jX1_countFalls_28 k4 N l0 l1 l2 l3 μ1) else (bnd (i_add l2 1) fun x2 =>
jX1_countFalls_28 k4 N l0 l1 x2 l3 μ1)))
def jX1_countFalls_4 (N : Nat) : Nat → Int → Int → Int → Int → Mm → Option (Int × Mm)
  | 0 => fun _ _ _ _ _ => none
  | n + 1 => fun l0 l1 l2 l3 μ => jX1_countFalls_4b (jX1_countFalls_4 N n) N l0 l1 l2 l3 μ
def jX1_countFalls (N : Nat) (l0 l1 : Int) (μ : Mm) : Option (Int × Mm) :=
  jX1_countFalls_4 N N l0 l1 0 1 μ
-- X4_init
def jX4_init (N : Nat) (l0 : Int) (μ : Mm) : Option (Mm) :=
  (m_na 100 μ 60).bind fun μ1 =>
bnd (m_st μ1 l0 0 (m_sz μ : Int)) fun μ2 =>
(m_na 100 μ2 6).bind fun μ3 =>
bnd (m_st μ3 l0 1 (m_sz μ2 : Int)) fun μ4 =>
(m_na 100 μ4 6).bind fun μ5 =>
bnd (m_st μ5 l0 2 (m_sz μ4 : Int)) fun μ6 =>
some μ6
-- X4_forget
def jX4_forget_2b (k2 : Int → Int → Mm → Option (Mm)) (N : Nat) (l0 l1 : Int) (μ : Mm) : Option (Mm) :=
  if 6 ≤ l1 then (some μ) else ((m_ast 100 μ (m_gt μ l0 1) l1 0).bind fun μ1 =>
bnd (i_add l1 1) fun x1 =>
k2 l0 x1 μ1)
def jX4_forget_2 (N : Nat) : Nat → Int → Int → Mm → Option (Mm)
  | 0 => fun _ _ _ => none
  | n + 1 => fun l0 l1 μ => jX4_forget_2b (jX4_forget_2 N n) N l0 l1 μ
def jX4_forget (N : Nat) (l0 : Int) (μ : Mm) : Option (Mm) :=
  jX4_forget_2 N N l0 0 μ
-- X4_knows
def jX4_knows_15 (N : Nat) (l0 s0 : Int) (μ : Mm) : Option (Int × Mm) :=
  z_chk s0 (some (s0, μ))
def jX4_knows_14 (N : Nat) (l0 : Int) (μ : Mm) : Option (Int × Mm) :=
  jX4_knows_15 N l0 0 μ
def jX4_knows (N : Nat) (l0 l1 : Int) (μ : Mm) : Option (Int × Mm) :=
  if l1 < 0 then (jX4_knows_14 N l0 μ) else (if 6 ≤ l1 then (jX4_knows_14 N l0 μ) else (jX4_knows_15 N l0 1 μ))
-- X4_gamesOf
def jX4_gamesOf_18 (N : Nat) (l0 s0 : Int) (μ : Mm) : Option (Int × Mm) :=
  some (s0, μ)
def jX4_gamesOf (N : Nat) (l0 l1 : Int) (μ : Mm) : Option (Int × Mm) :=
  b2 (jX4_knows N l0 l1 μ) fun x1 μ1 =>
if x1 = 0 then (jX4_gamesOf_18 N l0 0 μ1) else ((m_ald 100 μ1 (m_gt μ1 l0 1) l1).bind fun x2 =>
jX4_gamesOf_18 N l0 x2 μ1)
-- X4_totalOf
def jX4_totalOf_34 (N : Nat) (l0 s0 : Int) (μ : Mm) : Option (Int × Mm) :=
  some (s0, μ)
def jX4_totalOf_19 (N : Nat) (l0 : Int) (μ : Mm) : Option (Int × Mm) :=
  jX4_totalOf_34 N l0 0 μ
def jX4_totalOf (N : Nat) (l0 l1 l2 : Int) (μ : Mm) : Option (Int × Mm) :=
  if l2 < 0 then (jX4_totalOf_19 N l0 μ) else (b2 (jX4_gamesOf N l0 l1 μ) fun x1 μ1 =>
if x1 ≤ l2 then (jX4_totalOf_19 N l0 μ1) else (if l2 < 10 then ((m_ald 100 μ1 (m_gt μ1 l0 0) (i_add (i_mul l1 10) l2)).bind fun x2 =>
jX4_totalOf_34 N l0 x2 μ1) else (jX4_totalOf_19 N l0 μ1)))
-- X4_add
def jX4_add_20 (N : Nat) (l0 : Int) (μ : Mm) : Option (Int × Mm) :=
  some ((-1), μ)
def jX4_add (N : Nat) (l0 l1 l2 : Int) (μ : Mm) : Option (Int × Mm) :=
  b2 (jX4_gamesOf N l0 l1 μ) fun x1 μ1 =>
b2 (jX4_knows N l0 l1 μ1) fun x2 μ2 =>
if x2 = 0 then (jX4_add_20 N l0 μ2) else (if x1 < 10 then ((m_ast 100 μ2 (m_gt μ2 l0 0) (i_add (i_mul l1 10) x1) l2).bind fun μ3 =>
(m_ast 100 μ3 (m_gt μ3 l0 1) l1 (i_add x1 1)).bind fun μ4 =>
some (i_add x1 1, μ4)) else (jX4_add_20 N l0 μ2))
-- X4_sumOf
def jX4_sumOf_4b (k4 : Int → Int → Int → Int → Mm → Option (Int × Mm)) (N : Nat) (l0 l1 l2 l3 : Int) (μ : Mm) : Option (Int × Mm) :=
  b2 (jX4_gamesOf N l0 l1 μ) fun x1 μ1 =>
if x1 ≤ l3 then (some (l2, μ1)) else (b2 (jX4_totalOf N l0 l1 l3 μ1) fun x2 μ2 =>
bnd (i_add l2 x2) fun x3 =>
bnd (i_add l3 1) fun x4 =>
k4 l0 l1 x3 x4 μ2)
def jX4_sumOf_4 (N : Nat) : Nat → Int → Int → Int → Int → Mm → Option (Int × Mm)
  | 0 => fun _ _ _ _ _ => none
  | n + 1 => fun l0 l1 l2 l3 μ => jX4_sumOf_4b (jX4_sumOf_4 N n) N l0 l1 l2 l3 μ
def jX4_sumOf (N : Nat) (l0 l1 : Int) (μ : Mm) : Option (Int × Mm) :=
  jX4_sumOf_4 N N l0 l1 0 0 μ
-- X4_meanOf
def jX4_meanOf_23 (N : Nat) (l0 s0 : Int) (μ : Mm) : Option (Int × Mm) :=
  some (s0, μ)
def jX4_meanOf (N : Nat) (l0 l1 : Int) (μ : Mm) : Option (Int × Mm) :=
  b2 (jX4_gamesOf N l0 l1 μ) fun x1 μ1 =>
if ¬ x1 = 0 then (b2 (jX4_sumOf N l0 l1 μ1) fun x2 μ2 =>
b2 (jJ9_floorDiv_7cf53 N x2 x1 μ2) fun x3 μ3 =>
jX4_meanOf_23 N l0 x3 μ3) else (jX4_meanOf_23 N l0 0 μ1)
-- X4_bestOf
def jX4_bestOf_9b (k9 : Int → Int → Int → Int → Mm → Option (Int × Mm)) (N : Nat) (l0 l1 l2 l3 : Int) (μ : Mm) : Option (Int × Mm) :=
  b2 (jX4_gamesOf N l0 l1 μ) fun x1 μ1 =>
if x1 ≤ l3 then (some (l2, μ1)) else (b2 (jX4_totalOf N l0 l1 l3 μ1) fun x2 μ2 =>
bnd (i_max l2 x2) fun x3 =>
bnd (i_add l3 1) fun x4 =>
k9 l0 l1 x3 x4 μ2)
def jX4_bestOf_9 (N : Nat) : Nat → Int → Int → Int → Int → Mm → Option (Int × Mm)
  | 0 => fun _ _ _ _ _ => none
  | n + 1 => fun l0 l1 l2 l3 μ => jX4_bestOf_9b (jX4_bestOf_9 N n) N l0 l1 l2 l3 μ
def jX4_bestOf (N : Nat) (l0 l1 : Int) (μ : Mm) : Option (Int × Mm) :=
  b2 (jX4_totalOf N l0 l1 0 μ) fun x1 μ1 =>
jX4_bestOf_9 N N l0 l1 x1 1 μ1
-- X4_setHandicaps
def jX4_setHandicaps_2b (k2 : Int → Int → Int → Mm → Option (Mm)) (N : Nat) (l0 l1 l2 : Int) (μ : Mm) : Option (Mm) :=
  if 6 ≤ l2 then (some μ) else (b2 (jX4_meanOf N l0 l2 μ) fun x1 μ1 =>
b2 (jX4_gamesOf N l0 l2 μ1) fun x2 μ2 =>
m_chk 1 μ2 l1 (
b2 (jX1_handicap N l1 x1 x2 μ2) fun x3 μ3 =>
(m_ast 100 μ3 (m_gt μ l0 2) l2 x3).bind fun μ4 =>
bnd (i_add l2 1) fun x4 =>
k2 l0 l1 x4 μ4))
def jX4_setHandicaps_2 (N : Nat) : Nat → Int → Int → Int → Mm → Option (Mm)
  | 0 => fun _ _ _ _ => none
  | n + 1 => fun l0 l1 l2 μ => jX4_setHandicaps_2b (jX4_setHandicaps_2 N n) N l0 l1 l2 μ
def jX4_setHandicaps (N : Nat) (l0 l1 : Int) (μ : Mm) : Option (Mm) :=
  jX4_setHandicaps_2 N N l0 l1 0 μ
-- X4_handicapOf
def jX4_handicapOf_18 (N : Nat) (l0 s0 : Int) (μ : Mm) : Option (Int × Mm) :=
  some (s0, μ)
def jX4_handicapOf (N : Nat) (l0 l1 : Int) (μ : Mm) : Option (Int × Mm) :=
  b2 (jX4_knows N l0 l1 μ) fun x1 μ1 =>
if x1 = 0 then (jX4_handicapOf_18 N l0 0 μ1) else ((m_ald 100 μ1 (m_gt μ1 l0 2) l1).bind fun x2 =>
jX4_handicapOf_18 N l0 x2 μ1)
-- X4_meeting
def jX4_meeting_33b (k33 : Int → Int → Int → Int → Int → Int → Int → Mm → Option (Int × Mm)) (N : Nat) (l0 l1 l2 l3 l4 l5 l6 : Int) (μ : Mm) : Option (Int × Mm) :=
  if l3 ≤ l6 then (some (l5, μ)) else (b2 (jX4_totalOf N l0 l1 l6 μ) fun x1 μ1 =>
b2 (jX4_totalOf N l0 l2 l6 μ1) fun x2 μ2 =>
b2 (jJ6_signum_0f7a4 N (i_sub (i_add x1 l4) x2) μ2) fun x3 μ3 =>
bnd (i_add l5 (i_add 1 x3)) fun x4 =>
bnd (i_add l6 1) fun x5 =>
k33 l0 l1 l2 l3 l4 x4 x5 μ3)
def jX4_meeting_33 (N : Nat) : Nat → Int → Int → Int → Int → Int → Int → Int → Mm → Option (Int × Mm)
  | 0 => fun _ _ _ _ _ _ _ _ => none
  | n + 1 => fun l0 l1 l2 l3 l4 l5 l6 μ => jX4_meeting_33b (jX4_meeting_33 N n) N l0 l1 l2 l3 l4 l5 l6 μ
def jX4_meeting (N : Nat) (l0 l1 l2 : Int) (μ : Mm) : Option (Int × Mm) :=
  b2 (jX4_gamesOf N l0 l1 μ) fun x1 μ1 =>
b2 (jX4_gamesOf N l0 l2 μ1) fun x2 μ2 =>
bnd (i_min x1 x2) fun x3 =>
b2 (jX4_handicapOf N l0 l1 μ2) fun x4 μ3 =>
b2 (jX4_handicapOf N l0 l2 μ3) fun x5 μ4 =>
bnd (i_sub x4 x5) fun x6 =>
jX4_meeting_33 N N l0 l1 l2 x3 x6 0 0 μ4
-- X4_gathered
def jX4_gathered_26 (k4 : Int → Int → Int → Int → Mm → Option (Int × Mm)) (N : Nat) (l0 l1 l3 s0 s1 : Int) (μ : Mm) : Option (Int × Mm) :=
  bnd (i_add s1 s0) fun x1 =>
bnd (i_add l3 1) fun x2 =>
k4 l0 l1 x1 x2 μ
def jX4_gathered_4b (k4 : Int → Int → Int → Int → Mm → Option (Int × Mm)) (N : Nat) (l0 l1 l2 l3 : Int) (μ : Mm) : Option (Int × Mm) :=
  if 6 ≤ l3 then (some (l2, μ)) else (if ¬ l3 = l1 then (b2 (jX4_meeting N l0 l1 l3 μ) fun x1 μ1 =>
jX4_gathered_26 k4 N l0 l1 l3 x1 l2 μ1) else (jX4_gathered_26 k4 N l0 l1 l3 0 l2 μ))
def jX4_gathered_4 (N : Nat) : Nat → Int → Int → Int → Int → Mm → Option (Int × Mm)
  | 0 => fun _ _ _ _ _ => none
  | n + 1 => fun l0 l1 l2 l3 μ => jX4_gathered_4b (jX4_gathered_4 N n) N l0 l1 l2 l3 μ
def jX4_gathered (N : Nat) (l0 l1 : Int) (μ : Mm) : Option (Int × Mm) :=
  jX4_gathered_4 N N l0 l1 0 0 μ
-- X4_countAhead
def jX4_countAhead_34 (k11 : Int → Int → Int → Int → Mm → Option (Int × Mm)) (N : Nat) (l0 l2 l4 s0 s1 : Int) (μ : Mm) : Option (Int × Mm) :=
  bnd (i_add s1 s0) fun x1 =>
bnd (i_add l4 1) fun x2 =>
k11 l0 l2 x1 x2 μ
def jX4_countAhead_11b (k11 : Int → Int → Int → Int → Mm → Option (Int × Mm)) (N : Nat) (l0 l2 l3 l4 : Int) (μ : Mm) : Option (Int × Mm) :=
  if 6 ≤ l4 then (some (l3, μ)) else (b2 (jX4_gathered N l0 l4 μ) fun x1 μ1 =>
if x1 ≤ l2 then (jX4_countAhead_34 k11 N l0 l2 l4 0 l3 μ1) else (jX4_countAhead_34 k11 N l0 l2 l4 1 l3 μ1))
def jX4_countAhead_11 (N : Nat) : Nat → Int → Int → Int → Int → Mm → Option (Int × Mm)
  | 0 => fun _ _ _ _ _ => none
  | n + 1 => fun l0 l2 l3 l4 μ => jX4_countAhead_11b (jX4_countAhead_11 N n) N l0 l2 l3 l4 μ
def jX4_countAhead (N : Nat) (l0 l1 : Int) (μ : Mm) : Option (Int × Mm) :=
  b2 (jX4_gathered N l0 l1 μ) fun x1 μ1 =>
jX4_countAhead_11 N N l0 x1 0 0 μ1
-- X5_empty
def jX5_empty (N : Nat) (l0 l1 : Int) (μ : Mm) : Option (Mm) :=
  bnd (m_st μ l0 5 l1) fun μ1 =>
bnd (m_st μ1 l0 1 0) fun μ2 =>
bnd (m_st μ2 l0 2 0) fun μ3 =>
bnd (m_st μ3 l0 3 0) fun μ4 =>
m_chk 1 μ4 l1 (
bnd (m_st μ4 l0 4 (m_gt μ4 l1 1)) fun μ5 =>
bnd (m_st μ5 l0 7 0) fun μ6 =>
(m_ast 100 μ6 (m_gt μ6 l0 6) 0 0).bind fun μ7 =>
some μ7)
-- X5_init
def jX5_init (N : Nat) (l0 l1 : Int) (μ : Mm) : Option (Mm) :=
  (m_na 100 μ 27).bind fun μ1 =>
bnd (m_st μ1 l0 0 (m_sz μ : Int)) fun μ2 =>
(m_na 100 μ2 9).bind fun μ3 =>
bnd (m_st μ3 l0 6 (m_sz μ2 : Int)) fun μ4 =>
(jX5_empty N l0 l1 μ4).bind fun μ5 =>
some μ5
-- X5_isWhole
def jX5_isWhole_30 (N : Nat) (l0 s0 : Int) (μ : Mm) : Option (Int × Mm) :=
  z_chk s0 (some (s0, μ))
def jX5_isWhole_29 (N : Nat) (l0 : Int) (μ : Mm) : Option (Int × Mm) :=
  jX5_isWhole_30 N l0 0 μ
def jX5_isWhole (N : Nat) (l0 : Int) (μ : Mm) : Option (Int × Mm) :=
  m_chk 1 μ (m_gt μ l0 5) (
if (m_gt μ l0 2) < (m_gt μ (m_gt μ l0 5) 2) then (jX5_isWhole_29 N l0 μ) else (if (m_gt μ l0 1) < (m_gt μ l0 7) then (jX5_isWhole_29 N l0 μ) else (jX5_isWhole_30 N l0 1 μ)))
-- X5_closeFrame
def jX5_closeFrame_69 (N : Nat) (l0 : Int) (μ : Mm) : Option (Mm) :=
  bnd (m_st μ l0 3 0) fun μ1 =>
m_chk 1 μ1 (m_gt μ1 l0 5) (
bnd (m_st μ1 l0 4 (m_gt μ1 (m_gt μ1 l0 5) 1)) fun μ2 =>
some μ2)
def jX5_closeFrame_34 (N : Nat) (l0 : Int) (μ : Mm) : Option (Mm) :=
  bnd (m_st μ l0 2 (i_add (m_gt μ l0 2) 1)) fun μ1 =>
(m_len μ1 (m_gt μ1 l0 6)).bind fun x1 =>
if x1 ≤ (m_gt μ1 l0 2) then (jX5_closeFrame_69 N l0 μ1) else ((m_ast 100 μ1 (m_gt μ1 l0 6) (m_gt μ1 l0 2) (m_gt μ1 l0 1)).bind fun μ2 =>
jX5_closeFrame_69 N l0 μ2)
def jX5_closeFrame (N : Nat) (l0 : Int) (μ : Mm) : Option (Mm) :=
  if ¬ (m_gt μ l0 4) = 0 then (jX5_closeFrame_34 N l0 μ) else (m_chk 1 μ (m_gt μ l0 5) (
b2 (jX1_earnedBy N (m_gt μ l0 5) (m_gt μ l0 3) μ) fun x1 μ1 =>
bnd (m_st μ1 l0 7 (i_max (m_gt μ l0 7) (i_add (m_gt μ l0 1) x1))) fun μ2 =>
jX5_closeFrame_34 N l0 μ2))
-- X5_add
def jX5_add_147 (N : Nat) (l0 : Int) (μ : Mm) : Option (Int × Mm) :=
  some (1, μ)
def jX5_add_143 (N : Nat) (l0 : Int) (μ : Mm) : Option (Int × Mm) :=
  (jX5_closeFrame N l0 μ).bind fun μ1 =>
jX5_add_147 N l0 μ1
def jX5_add_116 (N : Nat) (l0 s0 s1 : Int) (μ : Mm) : Option (Int × Mm) :=
  m_chk 5 μ s1 (
bnd (m_st μ s1 4 s0) fun μ1 =>
jX5_add_147 N l0 μ1)
def jX5_add_36 (N : Nat) (l0 l1 : Int) (μ : Mm) : Option (Int × Mm) :=
  (m_ast 100 μ (m_gt μ l0 0) (m_gt μ l0 1) l1).bind fun μ1 =>
bnd (m_st μ1 l0 1 (i_add (m_gt μ1 l0 1) 1)) fun μ2 =>
bnd (m_st μ2 l0 3 (i_add (m_gt μ2 l0 3) 1)) fun μ3 =>
bnd (m_st μ3 l0 4 (i_sub (m_gt μ3 l0 4) (i_max l1 0))) fun μ4 =>
m_chk 1 μ4 (m_gt μ4 l0 5) (
if (m_gt μ4 l0 2) < (m_gt μ4 (m_gt μ4 l0 5) 2) then (if (m_gt μ4 l0 4) = 0 then (jX5_add_143 N l0 μ4) else (if (m_gt μ4 l0 3) < (m_gt μ4 (m_gt μ4 l0 5) 3) then (jX5_add_147 N l0 μ4) else (jX5_add_143 N l0 μ4))) else (if ¬ (m_gt μ4 l0 4) = 0 then (jX5_add_116 N l0 (m_gt μ4 l0 4) l0 μ4) else (jX5_add_116 N l0 (m_gt μ4 (m_gt μ4 l0 5) 1) l0 μ4)))
def jX5_add_34 (N : Nat) (l0 : Int) (μ : Mm) : Option (Int × Mm) :=
  some (0, μ)
def jX5_add (N : Nat) (l0 l1 : Int) (μ : Mm) : Option (Int × Mm) :=
  b2 (jX5_isWhole N l0 μ) fun x1 μ1 =>
if ¬ x1 = 0 then (jX5_add_34 N l0 μ1) else (if 27 ≤ (m_gt μ1 l0 1) then (jX5_add_34 N l0 μ1) else (if (m_gt μ1 l0 4) < l1 then (jX5_add_34 N l0 μ1) else (if 0 ≤ l1 then (jX5_add_36 N l0 l1 μ1) else (if l1 = (-2) then (jX5_add_36 N l0 l1 μ1) else (jX5_add_34 N l0 μ1)))))
-- X5_takeLast
def jX5_takeLast_54 (N : Nat) (l0 : Int) (μ : Mm) : Option (Int × Mm) :=
  some (1, μ)
def jX5_takeLast_26b (k26 : Int → Int → Int → Mm → Option (Int × Mm)) (N : Nat) (l0 l1 l2 : Int) (μ : Mm) : Option (Int × Mm) :=
  if l1 ≤ l2 then (jX5_takeLast_54 N l0 μ) else (if 27 ≤ l2 then (jX5_takeLast_54 N l0 μ) else ((m_ald 100 μ (m_gt μ l0 0) l2).bind fun x1 =>
b2 (jX5_add N l0 x1 μ) fun x2 μ1 =>
bnd (i_add l2 1) fun x3 =>
k26 l0 l1 x3 μ1))
def jX5_takeLast_26 (N : Nat) : Nat → Int → Int → Int → Mm → Option (Int × Mm)
  | 0 => fun _ _ _ _ => none
  | n + 1 => fun l0 l1 l2 μ => jX5_takeLast_26b (jX5_takeLast_26 N n) N l0 l1 l2 μ
def jX5_takeLast (N : Nat) (l0 : Int) (μ : Mm) : Option (Int × Mm) :=
  if ¬ (m_gt μ l0 1) = 0 then (bnd (i_sub (m_gt μ l0 1) 1) fun x1 =>
(jX5_empty N l0 (m_gt μ l0 5) μ).bind fun μ1 =>
jX5_takeLast_26 N N l0 x1 0 μ1) else (some (0, μ))
-- X5_firstRoll
def jX5_firstRoll_34 (N : Nat) (l0 s0 : Int) (μ : Mm) : Option (Int × Mm) :=
  some (s0, μ)
def jX5_firstRoll_21 (N : Nat) (l0 : Int) (μ : Mm) : Option (Int × Mm) :=
  jX5_firstRoll_34 N l0 (m_gt μ l0 1) μ
def jX5_firstRoll (N : Nat) (l0 l1 : Int) (μ : Mm) : Option (Int × Mm) :=
  if l1 < 0 then (jX5_firstRoll_21 N l0 μ) else (if (m_gt μ l0 2) < l1 then (jX5_firstRoll_21 N l0 μ) else ((m_len μ (m_gt μ l0 6)).bind fun x1 =>
if l1 < x1 then ((m_ald 100 μ (m_gt μ l0 6) l1).bind fun x2 =>
jX5_firstRoll_34 N l0 x2 μ) else (jX5_firstRoll_21 N l0 μ)))
-- X5_fillsEarned
def jX5_fillsEarned_38 (N : Nat) (l0 s0 : Int) (μ : Mm) : Option (Int × Mm) :=
  some (s0, μ)
def jX5_fillsEarned (N : Nat) (l0 : Int) (μ : Mm) : Option (Int × Mm) :=
  m_chk 1 μ (m_gt μ l0 5) (
if (m_gt μ (m_gt μ l0 5) 2) ≤ (m_gt μ l0 2) then (b2 (jX5_firstRoll N l0 (m_gt μ (m_gt μ l0 5) 2) μ) fun x1 μ1 =>
jX5_fillsEarned_38 N l0 (i_max 0 (i_sub (m_gt μ l0 7) x1)) μ1) else (jX5_fillsEarned_38 N l0 0 μ))
-- X5_rollAt
def jX5_rollAt_28 (N : Nat) (l0 s0 : Int) (μ : Mm) : Option (Int × Mm) :=
  some (s0, μ)
def jX5_rollAt_18 (N : Nat) (l0 : Int) (μ : Mm) : Option (Int × Mm) :=
  jX5_rollAt_28 N l0 (-1) μ
def jX5_rollAt (N : Nat) (l0 l1 : Int) (μ : Mm) : Option (Int × Mm) :=
  if l1 < 0 then (jX5_rollAt_18 N l0 μ) else (if (m_gt μ l0 1) ≤ l1 then (jX5_rollAt_18 N l0 μ) else (if l1 < 27 then ((m_ald 100 μ (m_gt μ l0 0) l1).bind fun x1 =>
jX5_rollAt_28 N l0 x1 μ) else (jX5_rollAt_18 N l0 μ)))
-- X5_sizeOf
def jX5_sizeOf (N : Nat) (l0 l1 : Int) (μ : Mm) : Option (Int × Mm) :=
  b2 (jX5_firstRoll N l0 (i_add l1 1) μ) fun x1 μ1 =>
b2 (jX5_firstRoll N l0 l1 μ1) fun x2 μ2 =>
some (i_sub x1 x2, μ2)
-- X5_takenFrom
def jX5_takenFrom_5b (k5 : Int → Int → Int → Int → Int → Mm → Option (Int × Mm)) (N : Nat) (l0 l1 l2 l3 l4 : Int) (μ : Mm) : Option (Int × Mm) :=
  if (i_add l1 l2) ≤ l4 then (some (l3, μ)) else (b2 (jX5_rollAt N l0 l4 μ) fun x1 μ1 =>
bnd (i_add l3 (i_max x1 0)) fun x2 =>
bnd (i_add l4 1) fun x3 =>
k5 l0 l1 l2 x2 x3 μ1)
def jX5_takenFrom_5 (N : Nat) : Nat → Int → Int → Int → Int → Int → Mm → Option (Int × Mm)
  | 0 => fun _ _ _ _ _ _ => none
  | n + 1 => fun l0 l1 l2 l3 l4 μ => jX5_takenFrom_5b (jX5_takenFrom_5 N n) N l0 l1 l2 l3 l4 μ
def jX5_takenFrom (N : Nat) (l0 l1 l2 : Int) (μ : Mm) : Option (Int × Mm) :=
  jX5_takenFrom_5 N N l0 l1 l2 0 l1 μ
-- X5_downIn
def jX5_downIn (N : Nat) (l0 l1 : Int) (μ : Mm) : Option (Int × Mm) :=
  b2 (jX5_firstRoll N l0 l1 μ) fun x1 μ1 =>
b2 (jX5_sizeOf N l0 l1 μ1) fun x2 μ2 =>
b2 (jX5_takenFrom N l0 x1 x2 μ2) fun x3 μ3 =>
some (x3, μ3)
-- X5_foulsIn
def jX5_foulsIn_35 (k8 : Int → Int → Int → Int → Mm → Option (Int × Mm)) (N : Nat) (l0 l1 l3 s0 s1 : Int) (μ : Mm) : Option (Int × Mm) :=
  bnd (i_add s1 s0) fun x1 =>
bnd (i_add l3 1) fun x2 =>
k8 l0 l1 x1 x2 μ
def jX5_foulsIn_8b (k8 : Int → Int → Int → Int → Mm → Option (Int × Mm)) (N : Nat) (l0 l1 l2 l3 : Int) (μ : Mm) : Option (Int × Mm) :=
  b2 (jX5_firstRoll N l0 (i_add l1 1) μ) fun x1 μ1 =>
if x1 ≤ l3 then (some (l2, μ1)) else (b2 (jX5_rollAt N l0 l3 μ1) fun x2 μ2 =>
if ¬ x2 = (-2) then (jX5_foulsIn_35 k8 N l0 l1 l3 0 l2 μ2) else (jX5_foulsIn_35 k8 N l0 l1 l3 1 l2 μ2))
def jX5_foulsIn_8 (N : Nat) : Nat → Int → Int → Int → Int → Mm → Option (Int × Mm)
  | 0 => fun _ _ _ _ _ => none
  | n + 1 => fun l0 l1 l2 l3 μ => jX5_foulsIn_8b (jX5_foulsIn_8 N n) N l0 l1 l2 l3 μ
def jX5_foulsIn (N : Nat) (l0 l1 : Int) (μ : Mm) : Option (Int × Mm) :=
  b2 (jX5_firstRoll N l0 l1 μ) fun x1 μ1 =>
jX5_foulsIn_8 N N l0 l1 0 x1 μ1
-- X5_cleanBy
def jX5_cleanBy_24 (N : Nat) (l0 s0 : Int) (μ : Mm) : Option (Int × Mm) :=
  some (s0, μ)
def jX5_cleanBy (N : Nat) (l0 l1 : Int) (μ : Mm) : Option (Int × Mm) :=
  b2 (jX5_downIn N l0 l1 μ) fun x1 μ1 =>
m_chk 1 μ1 (m_gt μ1 l0 5) (
if ¬ x1 = (m_gt μ1 (m_gt μ1 l0 5) 1) then (jX5_cleanBy_24 N l0 0 μ1) else (b2 (jX5_sizeOf N l0 l1 μ1) fun x2 μ2 =>
jX5_cleanBy_24 N l0 x2 μ2))
-- X5_isSettled
def jX5_isSettled_55 (N : Nat) (l0 s0 : Int) (μ : Mm) : Option (Int × Mm) :=
  z_chk s0 (some (s0, μ))
def jX5_isSettled_54 (N : Nat) (l0 : Int) (μ : Mm) : Option (Int × Mm) :=
  jX5_isSettled_55 N l0 0 μ
def jX5_isSettled (N : Nat) (l0 l1 : Int) (μ : Mm) : Option (Int × Mm) :=
  if l1 < 0 then (jX5_isSettled_54 N l0 μ) else (if (m_gt μ l0 2) ≤ l1 then (jX5_isSettled_54 N l0 μ) else (m_chk 1 μ (m_gt μ l0 5) (
if (m_gt μ (m_gt μ l0 5) 2) ≤ l1 then (jX5_isSettled_54 N l0 μ) else (b2 (jX5_firstRoll N l0 (i_add l1 1) μ) fun x1 μ1 =>
b2 (jX5_cleanBy N l0 l1 μ1) fun x2 μ2 =>
m_chk 1 μ2 (m_gt μ1 l0 5) (
b2 (jX1_earnedBy N (m_gt μ1 l0 5) x2 μ2) fun x3 μ3 =>
if (m_gt μ3 l0 1) < (i_add x1 x3) then (jX5_isSettled_54 N l0 μ3) else (jX5_isSettled_55 N l0 1 μ3))))))
-- X5_worthAndTaken
def jX5_worthAndTaken (N : Nat) (l0 l1 : Int) (μ : Mm) : Option (Int × Mm) :=
  b2 (jX5_downIn N l0 l1 μ) fun x1 μ1 =>
b2 (jX5_foulsIn N l0 l1 μ1) fun x2 μ2 =>
b2 (jX5_firstRoll N l0 (i_add l1 1) μ2) fun x3 μ3 =>
b2 (jX5_cleanBy N l0 l1 μ3) fun x4 μ4 =>
m_chk 1 μ4 (m_gt μ3 l0 5) (
b2 (jX1_earnedBy N (m_gt μ3 l0 5) x4 μ4) fun x5 μ5 =>
b2 (jX5_takenFrom N l0 x3 x5 μ5) fun x6 μ6 =>
b2 (jX5_sizeOf N l0 l1 μ6) fun x7 μ7 =>
m_chk 1 μ7 (m_gt μ6 l0 5) (
b2 (jX1_worthOf N (m_gt μ6 l0 5) l1 x1 x7 x2 μ7) fun x8 μ8 =>
m_chk 1 μ8 (m_gt μ8 l0 5) (
some (i_sub (i_add (i_add x1 x6) x8) (i_mul x2 (m_gt μ8 (m_gt μ8 l0 5) 4)), μ8))))
-- X5_sumOfFrames
def jX5_sumOfFrames_4b (k4 : Int → Int → Int → Mm → Option (Int × Mm)) (N : Nat) (l0 l1 l2 : Int) (μ : Mm) : Option (Int × Mm) :=
  m_chk 1 μ (m_gt μ l0 5) (
if (m_gt μ (m_gt μ l0 5) 2) ≤ l2 then (some (l1, μ)) else (b2 (jX5_worthAndTaken N l0 l2 μ) fun x1 μ1 =>
bnd (i_add l1 x1) fun x2 =>
bnd (i_add l2 1) fun x3 =>
k4 l0 x2 x3 μ1))
def jX5_sumOfFrames_4 (N : Nat) : Nat → Int → Int → Int → Mm → Option (Int × Mm)
  | 0 => fun _ _ _ _ => none
  | n + 1 => fun l0 l1 l2 μ => jX5_sumOfFrames_4b (jX5_sumOfFrames_4 N n) N l0 l1 l2 μ
def jX5_sumOfFrames (N : Nat) (l0 : Int) (μ : Mm) : Option (Int × Mm) :=
  jX5_sumOfFrames_4 N N l0 0 0 μ
-- X6_init
def jX6_init_44b (k44 : Int → Int → Mm → Option (Mm)) (N : Nat) (l0 l3 : Int) (μ : Mm) : Option (Mm) :=
  (m_len μ (m_gt μ l0 2)).bind fun x1 =>
if x1 ≤ l3 then (some μ) else ((m_ast 100 μ (m_gt μ l0 2) l3 (m_gt μ l0 0)).bind fun μ1 =>
(m_ast 100 μ1 (m_gt μ1 l0 3) l3 (-1)).bind fun μ2 =>
bnd (i_add l3 1) fun x2 =>
k44 l0 x2 μ2)
def jX6_init_44 (N : Nat) : Nat → Int → Int → Mm → Option (Mm)
  | 0 => fun _ _ _ => none
  | n + 1 => fun l0 l3 μ => jX6_init_44b (jX6_init_44 N n) N l0 l3 μ
def jX6_init (N : Nat) (l0 l1 l2 : Int) (μ : Mm) : Option (Mm) :=
  (m_na 101 μ 0).bind fun μ1 =>
bnd (m_st μ1 l0 1 (m_sz μ : Int)) fun μ2 =>
bnd (m_st μ2 l0 0 (i_max l2 0)) fun μ3 =>
(m_na 100 μ3 (i_max l1 0)).bind fun μ4 =>
bnd (m_st μ4 l0 2 (m_sz μ3 : Int)) fun μ5 =>
(m_len μ5 (m_gt μ5 l0 2)).bind fun x1 =>
(m_na 100 μ5 x1).bind fun μ6 =>
bnd (m_st μ6 l0 3 (m_sz μ5 : Int)) fun μ7 =>
jX6_init_44 N N l0 0 μ7
-- X6_open
def jX6_open_24 (N : Nat) (l0 : Int) (μ : Mm) : Option (Mm) :=
  some μ
def jX6_open (N : Nat) (l0 : Int) (μ : Mm) : Option (Mm) :=
  (m_len μ (m_gt μ l0 1)).bind fun x1 =>
if ¬ x1 = 0 then (jX6_open_24 N l0 μ) else ((m_len μ (m_gt μ l0 2)).bind fun x2 =>
(m_na 101 μ (i_mul x2 (m_gt μ l0 0))).bind fun μ1 =>
bnd (m_st μ1 l0 1 (m_sz μ : Int)) fun μ2 =>
jX6_open_24 N l0 μ2)
-- X6_isRow
def jX6_isRow_34 (N : Nat) (l0 s0 : Int) (μ : Mm) : Option (Int × Mm) :=
  z_chk s0 (some (s0, μ))
def jX6_isRow_33 (N : Nat) (l0 : Int) (μ : Mm) : Option (Int × Mm) :=
  jX6_isRow_34 N l0 0 μ
def jX6_isRow (N : Nat) (l0 l1 : Int) (μ : Mm) : Option (Int × Mm) :=
  if l1 < 0 then (jX6_isRow_33 N l0 μ) else ((m_len μ (m_gt μ l0 2)).bind fun x1 =>
if x1 ≤ l1 then (jX6_isRow_33 N l0 μ) else ((m_len μ (m_gt μ l0 1)).bind fun x2 =>
if x2 < (i_mul (i_add l1 1) (m_gt μ l0 0)) then (jX6_isRow_33 N l0 μ) else (jX6_isRow_34 N l0 1 μ)))
-- X6_low
def jX6_low_21 (N : Nat) (l0 s0 : Int) (μ : Mm) : Option (Int × Mm) :=
  some (s0, μ)
def jX6_low (N : Nat) (l0 l1 : Int) (μ : Mm) : Option (Int × Mm) :=
  b2 (jX6_isRow N l0 l1 μ) fun x1 μ1 =>
if x1 = 0 then (jX6_low_21 N l0 (m_gt μ1 l0 0) μ1) else ((m_ald 100 μ1 (m_gt μ1 l0 2) l1).bind fun x2 =>
jX6_low_21 N l0 x2 μ1)
-- X6_high
def jX6_high_18 (N : Nat) (l0 s0 : Int) (μ : Mm) : Option (Int × Mm) :=
  some (s0, μ)
def jX6_high (N : Nat) (l0 l1 : Int) (μ : Mm) : Option (Int × Mm) :=
  b2 (jX6_isRow N l0 l1 μ) fun x1 μ1 =>
if x1 = 0 then (jX6_high_18 N l0 (-1) μ1) else ((m_ald 100 μ1 (m_gt μ1 l0 3) l1).bind fun x2 =>
jX6_high_18 N l0 x2 μ1)
-- X6_isEmpty
def jX6_isEmpty_18 (N : Nat) (l0 s0 : Int) (μ : Mm) : Option (Int × Mm) :=
  z_chk s0 (some (s0, μ))
def jX6_isEmpty (N : Nat) (l0 l1 : Int) (μ : Mm) : Option (Int × Mm) :=
  b2 (jX6_low N l0 l1 μ) fun x1 μ1 =>
b2 (jX6_high N l0 l1 μ1) fun x2 μ2 =>
if x1 ≤ x2 then (jX6_isEmpty_18 N l0 0 μ2) else (jX6_isEmpty_18 N l0 1 μ2)
-- X6_value
def jX6_value_37 (N : Nat) (l0 s0 : Int) (μ : Mm) : Option (Int × Mm) :=
  some (s0, μ)
def jX6_value_36 (N : Nat) (l0 : Int) (μ : Mm) : Option (Int × Mm) :=
  jX6_value_37 N l0 0 μ
def jX6_value (N : Nat) (l0 l1 l2 : Int) (μ : Mm) : Option (Int × Mm) :=
  b2 (jX6_isRow N l0 l1 μ) fun x1 μ1 =>
if x1 = 0 then (jX6_value_36 N l0 μ1) else (if l2 < 0 then (jX6_value_36 N l0 μ1) else (if (m_gt μ1 l0 0) ≤ l2 then (jX6_value_36 N l0 μ1) else ((m_ald 101 μ1 (m_gt μ1 l0 1) (i_add (i_mul l1 (m_gt μ1 l0 0)) l2)).bind fun x2 =>
jX6_value_37 N l0 x2 μ1)))
-- X6_stretch
def jX6_stretch_40 (N : Nat) (l0 : Int) (μ : Mm) : Option (Mm) :=
  some μ
def jX6_stretch (N : Nat) (l0 l1 l2 l3 : Int) (μ : Mm) : Option (Mm) :=
  b2 (jX6_isRow N l0 l1 μ) fun x1 μ1 =>
if x1 = 0 then (jX6_stretch_40 N l0 μ1) else ((m_ald 100 μ1 (m_gt μ1 l0 2) l1).bind fun x2 =>
(m_ast 100 μ1 (m_gt μ1 l0 2) l1 (i_min x2 l2)).bind fun μ2 =>
(m_ald 100 μ2 (m_gt μ2 l0 3) l1).bind fun x3 =>
(m_ast 100 μ2 (m_gt μ2 l0 3) l1 (i_max x3 l3)).bind fun μ3 =>
jX6_stretch_40 N l0 μ3)
-- X6_set
def jX6_set_41 (N : Nat) (l0 : Int) (μ : Mm) : Option (Mm) :=
  some μ
def jX6_set (N : Nat) (l0 l1 l2 l3 : Int) (μ : Mm) : Option (Mm) :=
  b2 (jX6_isRow N l0 l1 μ) fun x1 μ1 =>
if x1 = 0 then (jX6_set_41 N l0 μ1) else (if l2 < 0 then (jX6_set_41 N l0 μ1) else (if (m_gt μ1 l0 0) ≤ l2 then (jX6_set_41 N l0 μ1) else ((m_ast 101 μ1 (m_gt μ1 l0 1) (i_add (i_mul l1 (m_gt μ1 l0 0)) l2) l3).bind fun μ2 =>
(jX6_stretch N l0 l1 l2 l2 μ2).bind fun μ3 =>
jX6_set_41 N l0 μ3)))
-- X6_canTake
def jX6_canTake_75 (N : Nat) (l0 s0 : Int) (μ : Mm) : Option (Int × Mm) :=
  z_chk s0 (some (s0, μ))
def jX6_canTake_74 (N : Nat) (l0 : Int) (μ : Mm) : Option (Int × Mm) :=
  jX6_canTake_75 N l0 0 μ
def jX6_canTake (N : Nat) (l0 l1 l2 l3 l4 : Int) (μ : Mm) : Option (Int × Mm) :=
  m_chk 6 μ l1 (
b2 (jX6_isRow N l1 l2 μ) fun x1 μ1 =>
if x1 = 0 then (jX6_canTake_74 N l0 μ1) else (b2 (jX6_isRow N l0 l3 μ1) fun x2 μ2 =>
if x2 = 0 then (jX6_canTake_74 N l0 μ2) else (if ¬ (m_gt μ2 l1 0) = (m_gt μ2 l0 0) then (jX6_canTake_74 N l0 μ2) else ((m_ald 100 μ2 (m_gt μ2 l1 2) l2).bind fun x3 =>
(m_ald 100 μ2 (m_gt μ2 l1 3) l2).bind fun x4 =>
if x4 < x3 then (jX6_canTake_74 N l0 μ2) else ((m_ald 100 μ2 (m_gt μ2 l1 2) l2).bind fun x5 =>
if (i_add x5 l4) < 0 then (jX6_canTake_74 N l0 μ2) else ((m_ald 100 μ2 (m_gt μ2 l1 3) l2).bind fun x6 =>
if (m_gt μ2 l0 0) ≤ (i_add x6 l4) then (jX6_canTake_74 N l0 μ2) else (jX6_canTake_75 N l0 1 μ2)))))))
-- X6_addCounts
def jX6_addCounts_93 (k47 : Int → Int → Int → Int → Int → Int → Int → Int → Int → Mm → Option (Mm)) (N : Nat) (l0 l1 l2 l3 l4 l5 l7 l9 l10 s0 : Int) (μ : Mm) : Option (Mm) :=
  (m_ald 101 μ (m_gt μ l0 1) (i_add l9 l10)).bind fun x1 =>
(m_ast 101 μ (m_gt μ l0 1) (i_add l9 l10) (l_min 1000000000000000000 (l_add x1 s0))).bind fun μ1 =>
bnd (i_add l10 1) fun x2 =>
k47 l0 l1 l2 l3 l4 l5 l7 l9 x2 μ1
def jX6_addCounts_47b (k47 : Int → Int → Int → Int → Int → Int → Int → Int → Int → Mm → Option (Mm)) (N : Nat) (l0 l1 l2 l3 l4 l5 l7 l9 l10 : Int) (μ : Mm) : Option (Mm) :=
  m_chk 6 μ l1 (
(m_ald 100 μ (m_gt μ l1 3) l2).bind fun x1 =>
if x1 < l10 then ((m_ald 100 μ (m_gt μ l1 2) l2).bind fun x2 =>
(m_ald 100 μ (m_gt μ l1 3) l2).bind fun x3 =>
(jX6_stretch N l0 l3 (i_add x2 l4) (i_add x3 l4) μ).bind fun μ1 =>
some μ1) else ((m_ald 101 μ (m_gt μ l1 1) (i_add (i_mul l2 (m_gt μ l0 0)) l10)).bind fun x4 =>
if (l_cmp x4 l7) ≤ 0 then (jX6_addCounts_93 k47 N l0 l1 l2 l3 l4 l5 l7 l9 l10 (l_mul x4 l5) μ) else (jX6_addCounts_93 k47 N l0 l1 l2 l3 l4 l5 l7 l9 l10 1000000000000000000 μ)))
def jX6_addCounts_47 (N : Nat) : Nat → Int → Int → Int → Int → Int → Int → Int → Int → Int → Mm → Option (Mm)
  | 0 => fun _ _ _ _ _ _ _ _ _ _ => none
  | n + 1 => fun l0 l1 l2 l3 l4 l5 l7 l9 l10 μ => jX6_addCounts_47b (jX6_addCounts_47 N n) N l0 l1 l2 l3 l4 l5 l7 l9 l10 μ
def jX6_addCounts_19 (N : Nat) (l0 : Int) (μ : Mm) : Option (Mm) :=
  some μ
def jX6_addCounts (N : Nat) (l0 l1 l2 l3 l4 l5 : Int) (μ : Mm) : Option (Mm) :=
  if (l_cmp l5 0) ≤ 0 then (jX6_addCounts_19 N l0 μ) else (b2 (jX6_canTake N l0 l1 l2 l3 l4 μ) fun x1 μ1 =>
if ¬ x1 = 0 then (n_chk l5 (
bnd (l_div 1000000000000000000 l5) fun x2 =>
bnd (i_add (i_mul l3 (m_gt μ1 l0 0)) l4) fun x3 =>
m_chk 6 μ1 l1 (
(m_ald 100 μ1 (m_gt μ1 l1 2) l2).bind fun x4 =>
jX6_addCounts_47 N N l0 l1 l2 l3 l4 l5 x2 x3 x4 μ1))) else (jX6_addCounts_19 N l0 μ1))
-- X6_addMarks
def jX6_addMarks_93 (k32 : Int → Int → Int → Int → Int → Int → Int → Int → Mm → Option (Mm)) (N : Nat) (l0 l1 l2 l3 l4 l5 l7 l8 : Int) (μ : Mm) : Option (Mm) :=
  bnd (i_add l8 1) fun x1 =>
k32 l0 l1 l2 l3 l4 l5 l7 x1 μ
def jX6_addMarks_91 (k32 : Int → Int → Int → Int → Int → Int → Int → Int → Mm → Option (Mm)) (N : Nat) (l0 l1 l2 l3 l4 l5 l7 l8 s0 s1 s2 s3 : Int) (μ : Mm) : Option (Mm) :=
  (m_ast 101 μ s3 s2 (l_or s1 s0)).bind fun μ1 =>
jX6_addMarks_93 k32 N l0 l1 l2 l3 l4 l5 l7 l8 μ1
def jX6_addMarks_32b (k32 : Int → Int → Int → Int → Int → Int → Int → Int → Mm → Option (Mm)) (N : Nat) (l0 l1 l2 l3 l4 l5 l7 l8 : Int) (μ : Mm) : Option (Mm) :=
  m_chk 6 μ l1 (
(m_ald 100 μ (m_gt μ l1 3) l2).bind fun x1 =>
if x1 < l8 then ((m_ald 100 μ (m_gt μ l1 2) l2).bind fun x2 =>
(m_ald 100 μ (m_gt μ l1 3) l2).bind fun x3 =>
(jX6_stretch N l0 l3 (i_add x2 l4) (i_add x3 l4) μ).bind fun μ1 =>
some μ1) else ((m_ald 101 μ (m_gt μ l1 1) (i_add (i_mul l2 (m_gt μ l0 0)) l8)).bind fun x4 =>
if (l_cmp x4 0) = 0 then (jX6_addMarks_93 k32 N l0 l1 l2 l3 l4 l5 l7 l8 μ) else ((m_ald 101 μ (m_gt μ l0 1) (i_add l7 l8)).bind fun x5 =>
if ¬ (l_cmp l5 0) = 0 then (jX6_addMarks_91 k32 N l0 l1 l2 l3 l4 l5 l7 l8 l5 x5 (i_add l7 l8) (m_gt μ l0 1) μ) else (jX6_addMarks_91 k32 N l0 l1 l2 l3 l4 l5 l7 l8 x4 x5 (i_add l7 l8) (m_gt μ l0 1) μ))))
def jX6_addMarks_32 (N : Nat) : Nat → Int → Int → Int → Int → Int → Int → Int → Int → Mm → Option (Mm)
  | 0 => fun _ _ _ _ _ _ _ _ _ => none
  | n + 1 => fun l0 l1 l2 l3 l4 l5 l7 l8 μ => jX6_addMarks_32b (jX6_addMarks_32 N n) N l0 l1 l2 l3 l4 l5 l7 l8 μ
def jX6_addMarks (N : Nat) (l0 l1 l2 l3 l4 l5 : Int) (μ : Mm) : Option (Mm) :=
  b2 (jX6_canTake N l0 l1 l2 l3 l4 μ) fun x1 μ1 =>
if ¬ x1 = 0 then (bnd (i_add (i_mul l3 (m_gt μ1 l0 0)) l4) fun x2 =>
m_chk 6 μ1 l1 (
(m_ald 100 μ1 (m_gt μ1 l1 2) l2).bind fun x3 =>
jX6_addMarks_32 N N l0 l1 l2 l3 l4 l5 x2 x3 μ1)) else (some μ1)
-- X6_wipe
def jX6_wipe_37b (k2 : Int → Int → Mm → Option (Mm)) (k37 : Int → Int → Int → Int → Mm → Option (Mm)) (N : Nat) (l0 l1 l2 l3 : Int) (μ : Mm) : Option (Mm) :=
  if l2 < l3 then ((m_ast 100 μ (m_gt μ l0 2) l1 (m_gt μ l0 0)).bind fun μ1 =>
(m_ast 100 μ1 (m_gt μ1 l0 3) l1 (-1)).bind fun μ2 =>
bnd (i_add l1 1) fun x1 =>
k2 l0 x1 μ2) else ((m_ast 101 μ (m_gt μ l0 1) (i_add (i_mul l1 (m_gt μ l0 0)) l3) 0).bind fun μ3 =>
bnd (i_add l3 1) fun x2 =>
k37 l0 l1 l2 x2 μ3)
def jX6_wipe_37 (k2 : Int → Int → Mm → Option (Mm)) (N : Nat) : Nat → Int → Int → Int → Int → Mm → Option (Mm)
  | 0 => fun _ _ _ _ _ => none
  | n + 1 => fun l0 l1 l2 l3 μ => jX6_wipe_37b k2 (jX6_wipe_37 k2 N n) N l0 l1 l2 l3 μ
def jX6_wipe_2b (k2 : Int → Int → Mm → Option (Mm)) (N : Nat) (l0 l1 : Int) (μ : Mm) : Option (Mm) :=
  (m_len μ (m_gt μ l0 2)).bind fun x1 =>
if x1 ≤ l1 then (some μ) else (b2 (jX6_high N l0 l1 μ) fun x2 μ1 =>
bnd (i_min x2 (i_sub (m_gt μ1 l0 0) 1)) fun x3 =>
(m_ald 100 μ1 (m_gt μ1 l0 2) l1).bind fun x4 =>
bnd (i_max x4 0) fun x5 =>
jX6_wipe_37 k2 N N l0 l1 x3 x5 μ1)
def jX6_wipe_2 (N : Nat) : Nat → Int → Int → Mm → Option (Mm)
  | 0 => fun _ _ _ => none
  | n + 1 => fun l0 l1 μ => jX6_wipe_2b (jX6_wipe_2 N n) N l0 l1 μ
def jX6_wipe (N : Nat) (l0 : Int) (μ : Mm) : Option (Mm) :=
  jX6_wipe_2 N N l0 0 μ
