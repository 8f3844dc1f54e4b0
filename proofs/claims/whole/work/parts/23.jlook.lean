-- X2_init
def jX2_init (N : Nat) (l0 l1 : Int) (μ : Mm) : Option (Mm) :=
  bnd (m_st μ l0 0 0) fun μ1 =>
bnd (m_nw μ1 6 0 4) fun μ2 =>
(jX6_init N (m_sz μ1 : Int) 14 850 μ2).bind fun μ3 =>
bnd (m_st μ3 l0 1 (m_sz μ1 : Int)) fun μ4 =>
bnd (m_nw μ4 6 0 4) fun μ5 =>
(jX6_init N (m_sz μ4 : Int) 14 850 μ5).bind fun μ6 =>
bnd (m_st μ6 l0 2 (m_sz μ4 : Int)) fun μ7 =>
(m_na 100 μ7 9).bind fun μ8 =>
bnd (m_st μ8 l0 5 (m_sz μ7 : Int)) fun μ9 =>
bnd (m_st μ9 l0 6 0) fun μ10 =>
bnd (m_st μ10 l0 7 0) fun μ11 =>
bnd (m_st μ11 l0 8 (-1)) fun μ12 =>
bnd (m_st μ12 l0 9 0) fun μ13 =>
bnd (m_st μ13 l0 10 1) fun μ14 =>
(m_na 101 μ14 1498).bind fun μ15 =>
bnd (m_st μ15 l0 11 (m_sz μ14 : Int)) fun μ16 =>
(m_na 100 μ16 1498).bind fun μ17 =>
bnd (m_st μ17 l0 12 (m_sz μ16 : Int)) fun μ18 =>
bnd (m_st μ18 l0 13 0) fun μ19 =>
bnd (m_st μ19 l0 3 l1) fun μ20 =>
m_chk 5 μ20 l1 (
bnd (m_st μ20 l0 4 (m_gt μ20 l1 5)) fun μ21 =>
some μ21)
-- X2_forget
def jX2_forget (N : Nat) (l0 : Int) (μ : Mm) : Option (Mm) :=
  bnd (m_st μ l0 0 0) fun μ1 =>
some μ1
-- X2_fillsOf
def jX2_fillsOf_10 (N : Nat) (μ : Mm) : Option (Int × Mm) :=
  some (0, μ)
def jX2_fillsOf (N : Nat) (l0 : Int) (μ : Mm) : Option (Int × Mm) :=
  if l0 < 0 then (jX2_fillsOf_10 N  μ) else (if l0 < 14 then ((s_ald 2 l0).bind fun x1 =>
(s_ald 3 l0).bind fun x2 =>
(s_ald 4 l0).bind fun x3 =>
some (i_add (i_add (i_min x1 1) (i_min x2 1)) x3, μ)) else (jX2_fillsOf_10 N  μ))
-- X2_givenIn
def jX2_givenIn_23 (N : Nat) (l0 s0 : Int) (μ : Mm) : Option (Int × Mm) :=
  some (s0, μ)
def jX2_givenIn_13 (N : Nat) (l0 : Int) (μ : Mm) : Option (Int × Mm) :=
  jX2_givenIn_23 N l0 0 μ
def jX2_givenIn (N : Nat) (l0 l1 : Int) (μ : Mm) : Option (Int × Mm) :=
  if l1 < 0 then (jX2_givenIn_13 N l0 μ) else ((m_len μ (m_gt μ l0 5)).bind fun x1 =>
if l1 < x1 then ((m_ald 100 μ (m_gt μ l0 5) l1).bind fun x2 =>
jX2_givenIn_23 N l0 x2 μ) else (jX2_givenIn_13 N l0 μ))
-- X2_moveGroup
def jX2_moveGroup_91 (N : Nat) (l0 l2 : Int) (μ : Mm) : Option (Mm) :=
  (m_ast 101 μ (m_gt μ l0 11) l2 0).bind fun μ1 =>
some μ1
def jX2_moveGroup_88 (N : Nat) (l0 l2 s0 s1 s2 s3 s4 s5 : Int) (μ : Mm) : Option (Mm) :=
  m_chk 6 μ s5 (
(jX6_addMarks N s5 s4 s3 s2 s1 s0 μ).bind fun μ1 =>
jX2_moveGroup_91 N l0 l2 μ1)
def jX2_moveGroup_13 (N : Nat) (l0 : Int) (μ : Mm) : Option (Mm) :=
  some μ
def jX2_moveGroup (N : Nat) (l0 l1 l2 l3 : Int) (μ : Mm) : Option (Mm) :=
  if l2 < 0 then (jX2_moveGroup_13 N l0 μ) else ((m_len μ (m_gt μ l0 11)).bind fun x1 =>
if l2 < x1 then (bnd (i_div l2 107) fun x2 =>
bnd (i_add (i_rem l2 107) (-50)) fun x3 =>
if (m_gt μ l0 7) = 0 then (if l3 = 0 then (jX2_moveGroup_88 N l0 l2 0 x3 x2 l1 (m_gt μ l0 1) (m_gt μ l0 2) μ) else ((m_ald 101 μ (m_gt μ l0 11) l2).bind fun x4 =>
jX2_moveGroup_88 N l0 l2 x4 x3 x2 l1 (m_gt μ l0 1) (m_gt μ l0 2) μ)) else ((m_ald 101 μ (m_gt μ l0 11) l2).bind fun x5 =>
m_chk 6 μ (m_gt μ l0 2) (
(jX6_addCounts N (m_gt μ l0 2) (m_gt μ l0 1) l1 x2 x3 x5 μ).bind fun μ1 =>
jX2_moveGroup_91 N l0 l2 μ1))) else (jX2_moveGroup_13 N l0 μ))
-- X2_addToGroup
def jX2_addToGroup_101 (N : Nat) (l0 s0 s1 s2 : Int) (μ : Mm) : Option (Mm) :=
  (m_ast 101 μ s2 s1 s0).bind fun μ1 =>
some μ1
def jX2_addToGroup_67 (N : Nat) (l0 l3 : Int) (μ : Mm) : Option (Mm) :=
  if (m_gt μ l0 7) = 0 then ((m_ald 101 μ (m_gt μ l0 11) l3).bind fun x1 =>
jX2_addToGroup_101 N l0 (l_or x1 (m_gt μ l0 10)) l3 (m_gt μ l0 11) μ) else ((m_ald 101 μ (m_gt μ l0 11) l3).bind fun x2 =>
jX2_addToGroup_101 N l0 (l_add x2 1) l3 (m_gt μ l0 11) μ)
def jX2_addToGroup_23 (N : Nat) (l0 : Int) (μ : Mm) : Option (Mm) :=
  some μ
def jX2_addToGroup (N : Nat) (l0 l1 l2 : Int) (μ : Mm) : Option (Mm) :=
  bnd (i_sub (i_add (i_mul l1 107) l2) (-50)) fun x1 =>
if x1 < 0 then (jX2_addToGroup_23 N l0 μ) else ((m_len μ (m_gt μ l0 11)).bind fun x2 =>
if x1 < x2 then ((m_ald 101 μ (m_gt μ l0 11) x1).bind fun x3 =>
if ¬ (l_cmp x3 0) = 0 then (jX2_addToGroup_67 N l0 x1 μ) else ((m_len μ (m_gt μ l0 12)).bind fun x4 =>
if x4 ≤ (m_gt μ l0 13) then (jX2_addToGroup_67 N l0 x1 μ) else ((m_ast 100 μ (m_gt μ l0 12) (m_gt μ l0 13) x1).bind fun μ1 =>
bnd (m_st μ1 l0 13 (i_add (m_gt μ1 l0 13) 1)) fun μ2 =>
jX2_addToGroup_67 N l0 x1 μ2))) else (jX2_addToGroup_23 N l0 μ))
-- X2_markTake
def jX2_markTake_23 (N : Nat) (l0 : Int) (μ : Mm) : Option (Mm) :=
  some μ
def jX2_markTake (N : Nat) (l0 l1 l2 l3 : Int) (μ : Mm) : Option (Mm) :=
  if ¬ l1 = (m_gt μ l0 8) then (jX2_markTake_23 N l0 μ) else (if ¬ l2 = (m_gt μ l0 9) then (jX2_markTake_23 N l0 μ) else (bnd (m_st μ l0 10 (l_shl 1 l3)) fun μ1 =>
jX2_markTake_23 N l0 μ1))
-- X2_nextOf
def jX2_nextOf_19 (N : Nat) (s0 : Int) (μ : Mm) : Option (Int × Mm) :=
  some (s0, μ)
def jX2_nextOf_10 (N : Nat) (μ : Mm) : Option (Int × Mm) :=
  jX2_nextOf_19 N 0 μ
def jX2_nextOf (N : Nat) (l0 : Int) (μ : Mm) : Option (Int × Mm) :=
  if l0 < 0 then (jX2_nextOf_10 N  μ) else (if l0 < 14 then ((s_ald 2 l0).bind fun x1 =>
jX2_nextOf_19 N x1 μ) else (jX2_nextOf_10 N  μ))
-- X2_stateOf
def jX2_stateOf_34 (N : Nat) (s0 s1 : Int) (μ : Mm) : Option (Int × Mm) :=
  some (i_add s1 s0, μ)
def jX2_stateOf_12 (N : Nat) (μ : Mm) : Option (Int × Mm) :=
  some (0, μ)
def jX2_stateOf (N : Nat) (l0 l1 l2 : Int) (μ : Mm) : Option (Int × Mm) :=
  if l0 < 0 then (jX2_stateOf_12 N  μ) else (if l0 < 4 then ((s_ald 5 l0).bind fun x1 =>
if ¬ l1 = 0 then (jX2_stateOf_34 N (i_add (i_sub (i_mul 2 l1) 1) l2) x1 μ) else (jX2_stateOf_34 N 0 x1 μ)) else (jX2_stateOf_12 N  μ))
-- X2_stateBehind
def jX2_stateBehind_28 (N : Nat) (s0 : Int) (μ : Mm) : Option (Int × Mm) :=
  some (s0, μ)
def jX2_stateBehind_10 (N : Nat) (μ : Mm) : Option (Int × Mm) :=
  jX2_stateBehind_28 N 0 μ
def jX2_stateBehind (N : Nat) (l0 : Int) (μ : Mm) : Option (Int × Mm) :=
  if l0 < 0 then (jX2_stateBehind_10 N  μ) else (if l0 < 14 then ((s_ald 3 l0).bind fun x1 =>
(s_ald 4 l0).bind fun x2 =>
b2 (jX2_stateOf N x1 x2 0 μ) fun x3 μ1 =>
jX2_stateBehind_28 N x3 μ1) else (jX2_stateBehind_10 N  μ))
-- X2_playFills
def jX2_playFills_124 (rX2_playFills : Int → Int → Int → Int → Int → Mm → Option (Mm)) (k83 : Int → Int → Int → Int → Int → Int → Int → Int → Mm → Option (Mm)) (N : Nat) (l0 l1 l2 l3 l4 l5 l7 l8 s0 : Int) (μ : Mm) : Option (Mm) :=
  b2 (jX2_stateBehind N l3 μ) fun x1 μ1 =>
(rX2_playFills l0 (i_add l1 1) s0 x1 (i_add l4 (i_mul l5 l8)) μ1).bind fun μ2 =>
bnd (i_add l8 1) fun x2 =>
k83 l0 l1 l2 l3 l4 l5 l7 x2 μ2
def jX2_playFills_83b (rX2_playFills : Int → Int → Int → Int → Int → Mm → Option (Mm)) (k83 : Int → Int → Int → Int → Int → Int → Int → Int → Mm → Option (Mm)) (N : Nat) (l0 l1 l2 l3 l4 l5 l7 l8 : Int) (μ : Mm) : Option (Mm) :=
  if l7 < l8 then (some μ) else (m_chk 1 μ (m_gt μ l0 4) (
(jX2_markTake N l0 (m_gt μ (m_gt μ l0 4) 2) l1 l8 μ).bind fun μ1 =>
if ¬ l8 = l2 then (jX2_playFills_124 rX2_playFills k83 N l0 l1 l2 l3 l4 l5 l7 l8 (i_sub l2 l8) μ1) else (m_chk 1 μ1 (m_gt μ1 l0 4) (
jX2_playFills_124 rX2_playFills k83 N l0 l1 l2 l3 l4 l5 l7 l8 (m_gt μ1 (m_gt μ1 l0 4) 1) μ1))))
def jX2_playFills_83 (rX2_playFills : Int → Int → Int → Int → Int → Mm → Option (Mm)) (N : Nat) : Nat → Int → Int → Int → Int → Int → Int → Int → Int → Mm → Option (Mm)
  | 0 => fun _ _ _ _ _ _ _ _ _ => none
  | n + 1 => fun l0 l1 l2 l3 l4 l5 l7 l8 μ => jX2_playFills_83b rX2_playFills (jX2_playFills_83 rX2_playFills N n) N l0 l1 l2 l3 l4 l5 l7 l8 μ
def jX2_playFills_79 (rX2_playFills : Int → Int → Int → Int → Int → Mm → Option (Mm)) (N : Nat) (l0 l1 l2 l3 l4 l5 l6 l7 : Int) (μ : Mm) : Option (Mm) :=
  jX2_playFills_83 rX2_playFills N N l0 l1 l2 l3 l4 l5 l7 l6 μ
def jX2_playFills_16 (rX2_playFills : Int → Int → Int → Int → Int → Mm → Option (Mm)) (N : Nat) (l0 l4 : Int) (μ : Mm) : Option (Mm) :=
  (jX2_addToGroup N l0 0 l4 μ).bind fun μ1 =>
some μ1
def jX2_playFills_B (rX2_playFills : Int → Int → Int → Int → Int → Mm → Option (Mm)) (N : Nat) (l0 l1 l2 l3 l4 : Int) (μ : Mm) : Option (Mm) :=
  b2 (jX2_nextOf N l3 μ) fun x1 μ1 =>
if x1 = 0 then (jX2_playFills_16 rX2_playFills N l0 l4 μ1) else (if l1 < 3 then (m_chk 1 μ1 (m_gt μ1 l0 4) (
b2 (jX2_givenIn N l0 (m_gt μ1 (m_gt μ1 l0 4) 2) μ1) fun x2 μ2 =>
if x2 ≤ l1 then (jX2_playFills_79 rX2_playFills N l0 l1 l2 l3 l4 x1 0 l2 μ2) else (m_chk 1 μ2 (m_gt μ2 l0 4) (
m_chk 5 μ2 (m_gt μ2 l0 3) (
b2 (jX5_firstRoll N (m_gt μ2 l0 3) (m_gt μ2 (m_gt μ2 l0 4) 2) μ2) fun x3 μ3 =>
b2 (jX5_rollAt N (m_gt μ2 l0 3) (i_add x3 l1) μ3) fun x4 μ4 =>
b2 (jX7_within N 0 x4 l2 μ4) fun x5 μ5 =>
jX2_playFills_79 rX2_playFills N l0 l1 l2 l3 l4 x1 x5 x5 μ5))))) else (jX2_playFills_16 rX2_playFills N l0 l4 μ1))
def jX2_playFills (N : Nat) : Nat → Int → Int → Int → Int → Int → Mm → Option (Mm)
  | 0 => fun _ _ _ _ _ _ => none
  | n + 1 => fun l0 l1 l2 l3 l4 μ => jX2_playFills_B (jX2_playFills N n) N l0 l1 l2 l3 l4 μ
-- X2_stateWith
def jX2_stateWith_58 (N : Nat) (s0 s1 s2 s3 : Int) (μ : Mm) : Option (Int × Mm) :=
  b2 (jX2_stateOf N s3 s2 (i_add s1 s0) μ) fun x1 μ1 =>
some (x1, μ1)
def jX2_stateWith_42 (N : Nat) (l0 l1 s0 s1 s2 : Int) (μ : Mm) : Option (Int × Mm) :=
  (s_ald 4 l0).bind fun x1 =>
if l1 ≤ 2 then (jX2_stateWith_58 N 0 x1 (i_add s1 s0) s2 μ) else (jX2_stateWith_58 N 1 x1 (i_add s1 s0) s2 μ)
def jX2_stateWith_26 (N : Nat) (l0 l1 s0 s1 : Int) (μ : Mm) : Option (Int × Mm) :=
  (s_ald 3 l0).bind fun x1 =>
if l1 ≤ 1 then (jX2_stateWith_42 N l0 l1 0 x1 (i_add s1 s0) μ) else (jX2_stateWith_42 N l0 l1 1 x1 (i_add s1 s0) μ)
def jX2_stateWith_10 (N : Nat) (μ : Mm) : Option (Int × Mm) :=
  some (0, μ)
def jX2_stateWith (N : Nat) (l0 l1 : Int) (μ : Mm) : Option (Int × Mm) :=
  if l0 < 0 then (jX2_stateWith_10 N  μ) else (if l0 < 14 then ((s_ald 2 l0).bind fun x1 =>
if l1 ≤ 0 then (jX2_stateWith_26 N l0 l1 0 x1 μ) else (jX2_stateWith_26 N l0 l1 1 x1 μ)) else (jX2_stateWith_10 N  μ))
-- X2_playFrame
def jX2_playFrame_185b (rX2_playFrame : Int → Int → Int → Int → Int → Int → Int → Mm → Option (Mm)) (k185 : Int → Int → Int → Int → Int → Int → Int → Int → Int → Mm → Option (Mm)) (N : Nat) (l0 l1 l2 l3 l5 l6 l7 l8 l9 : Int) (μ : Mm) : Option (Mm) :=
  if l3 < l9 then (some μ) else ((jX2_markTake N l0 l1 l2 l9 μ).bind fun μ1 =>
(rX2_playFrame l0 l1 (i_add l2 1) (i_sub l3 l9) l8 (i_add l5 (i_mul l7 l9)) l6 μ1).bind fun μ2 =>
bnd (i_add l9 1) fun x1 =>
k185 l0 l1 l2 l3 l5 l6 l7 l8 x1 μ2)
def jX2_playFrame_185 (rX2_playFrame : Int → Int → Int → Int → Int → Int → Int → Mm → Option (Mm)) (N : Nat) : Nat → Int → Int → Int → Int → Int → Int → Int → Int → Int → Mm → Option (Mm)
  | 0 => fun _ _ _ _ _ _ _ _ _ _ => none
  | n + 1 => fun l0 l1 l2 l3 l5 l6 l7 l8 l9 μ => jX2_playFrame_185b rX2_playFrame (jX2_playFrame_185 rX2_playFrame N n) N l0 l1 l2 l3 l5 l6 l7 l8 l9 μ
def jX2_playFrame_177 (rX2_playFrame : Int → Int → Int → Int → Int → Int → Int → Mm → Option (Mm)) (N : Nat) (l0 s0 s1 s2 s3 s4 s5 s6 s7 : Int) (μ : Mm) : Option (Mm) :=
  m_chk 2 μ s7 (
(rX2_playFrame s7 s6 s5 s4 s3 s2 (i_add s1 s0) μ).bind fun μ1 =>
some μ1)
def jX2_playFrame_53 (rX2_playFrame : Int → Int → Int → Int → Int → Int → Int → Mm → Option (Mm)) (N : Nat) (l0 l4 l5 l6 l7 s0 : Int) (μ : Mm) : Option (Mm) :=
  b2 (jX2_stateWith N l4 s0 μ) fun x1 μ1 =>
m_chk 1 μ1 (m_gt μ1 l0 4) (
(jX2_addToGroup N l0 x1 (i_sub (i_add l5 l7) (i_mul l6 (m_gt μ1 (m_gt μ1 l0 4) 4))) μ1).bind fun μ2 =>
some μ2)
def jX2_playFrame_15 (rX2_playFrame : Int → Int → Int → Int → Int → Int → Int → Mm → Option (Mm)) (N : Nat) (l0 l1 l2 l3 l4 l5 l6 : Int) (μ : Mm) : Option (Mm) :=
  m_chk 1 μ (m_gt μ l0 4) (
b2 (jX1_worthOf N (m_gt μ l0 4) l1 (i_sub (m_gt μ (m_gt μ l0 4) 1) l3) l2 l6 μ) fun x1 μ1 =>
if 0 < l3 then (jX2_playFrame_53 rX2_playFrame N l0 l4 l5 l6 x1 0 μ1) else (m_chk 1 μ1 (m_gt μ1 l0 4) (
b2 (jX1_earnedBy N (m_gt μ1 l0 4) l2 μ1) fun x2 μ2 =>
jX2_playFrame_53 rX2_playFrame N l0 l4 l5 l6 x1 x2 μ2)))
def jX2_playFrame_B (rX2_playFrame : Int → Int → Int → Int → Int → Int → Int → Mm → Option (Mm)) (N : Nat) (l0 l1 l2 l3 l4 l5 l6 : Int) (μ : Mm) : Option (Mm) :=
  if l3 ≤ 0 then (jX2_playFrame_15 rX2_playFrame N l0 l1 l2 l3 l4 l5 l6 μ) else (m_chk 1 μ (m_gt μ l0 4) (
if l2 < (m_gt μ (m_gt μ l0 4) 3) then (b2 (jX2_nextOf N l4 μ) fun x1 μ1 =>
bnd (i_add 1 x1) fun x2 =>
b2 (jX2_stateBehind N l4 μ1) fun x3 μ2 =>
b2 (jX2_givenIn N l0 l1 μ2) fun x4 μ3 =>
if x4 ≤ l2 then (jX2_playFrame_185 rX2_playFrame N N l0 l1 l2 l3 l5 l6 x2 x3 0 μ3) else (m_chk 5 μ3 (m_gt μ3 l0 3) (
b2 (jX5_firstRoll N (m_gt μ3 l0 3) l1 μ3) fun x5 μ4 =>
b2 (jX5_rollAt N (m_gt μ3 l0 3) (i_add x5 l2) μ4) fun x6 μ5 =>
b2 (jX7_within N 0 x6 l3 μ5) fun x7 μ6 =>
(jX2_markTake N l0 l1 l2 x7 μ6).bind fun μ7 =>
if ¬ x6 = (-2) then (jX2_playFrame_177 rX2_playFrame N l0 0 l6 (i_add l5 (i_mul x2 x7)) x3 (i_sub l3 x7) (i_add l2 1) l1 l0 μ7) else (jX2_playFrame_177 rX2_playFrame N l0 1 l6 (i_add l5 (i_mul x2 x7)) x3 (i_sub l3 x7) (i_add l2 1) l1 l0 μ7)))) else (jX2_playFrame_15 rX2_playFrame N l0 l1 l2 l3 l4 l5 l6 μ)))
def jX2_playFrame (N : Nat) : Nat → Int → Int → Int → Int → Int → Int → Int → Mm → Option (Mm)
  | 0 => fun _ _ _ _ _ _ _ _ => none
  | n + 1 => fun l0 l1 l2 l3 l4 l5 l6 μ => jX2_playFrame_B (jX2_playFrame N n) N l0 l1 l2 l3 l4 l5 l6 μ
-- X2_goThroughFrame
def jX2_goThroughFrame_144 (k2 : Int → Int → Int → Mm → Option (Mm)) (N : Nat) (l0 l1 l2 : Int) (μ : Mm) : Option (Mm) :=
  bnd (i_add l2 1) fun x1 =>
k2 l0 l1 x1 μ
def jX2_goThroughFrame_139 (k2 : Int → Int → Int → Mm → Option (Mm)) (N : Nat) (l0 l1 l2 : Int) (μ : Mm) : Option (Mm) :=
  bnd (m_st μ l0 13 0) fun μ1 =>
jX2_goThroughFrame_144 k2 N l0 l1 l2 μ1
def jX2_goThroughFrame_130 (k2 : Int → Int → Int → Mm → Option (Mm)) (k92 : Int → Int → Int → Int → Mm → Option (Mm)) (N : Nat) (l0 l1 l2 l3 s0 s1 s2 s3 : Int) (μ : Mm) : Option (Mm) :=
  m_chk 2 μ s3 (
(jX2_moveGroup N s3 s2 s1 s0 μ).bind fun μ1 =>
bnd (i_add l3 1) fun x1 =>
k92 l0 l1 l2 x1 μ1)
def jX2_goThroughFrame_92b (k2 : Int → Int → Int → Mm → Option (Mm)) (k92 : Int → Int → Int → Int → Mm → Option (Mm)) (N : Nat) (l0 l1 l2 l3 : Int) (μ : Mm) : Option (Mm) :=
  if (m_gt μ l0 13) ≤ l3 then (jX2_goThroughFrame_139 k2 N l0 l1 l2 μ) else ((m_len μ (m_gt μ l0 12)).bind fun x1 =>
if x1 ≤ l3 then (jX2_goThroughFrame_139 k2 N l0 l1 l2 μ) else ((m_ald 100 μ (m_gt μ l0 12) l3).bind fun x2 =>
if ¬ l1 = (m_gt μ l0 8) then (jX2_goThroughFrame_130 k2 k92 N l0 l1 l2 l3 0 x2 l2 l0 μ) else (jX2_goThroughFrame_130 k2 k92 N l0 l1 l2 l3 1 x2 l2 l0 μ)))
def jX2_goThroughFrame_92 (k2 : Int → Int → Int → Mm → Option (Mm)) (N : Nat) : Nat → Int → Int → Int → Int → Mm → Option (Mm)
  | 0 => fun _ _ _ _ _ => none
  | n + 1 => fun l0 l1 l2 l3 μ => jX2_goThroughFrame_92b k2 (jX2_goThroughFrame_92 k2 N n) N l0 l1 l2 l3 μ
def jX2_goThroughFrame_90 (k2 : Int → Int → Int → Mm → Option (Mm)) (N : Nat) (l0 l1 l2 : Int) (μ : Mm) : Option (Mm) :=
  jX2_goThroughFrame_92 k2 N N l0 l1 l2 0 μ
def jX2_goThroughFrame_76 (k2 : Int → Int → Int → Mm → Option (Mm)) (N : Nat) (l0 l1 l2 : Int) (μ : Mm) : Option (Mm) :=
  m_chk 1 μ (m_gt μ l0 4) (
(jX2_playFills N 10 l0 0 (m_gt μ (m_gt μ l0 4) 1) l2 0 μ).bind fun μ1 =>
jX2_goThroughFrame_90 k2 N l0 l1 l2 μ1)
def jX2_goThroughFrame_2b (k2 : Int → Int → Int → Mm → Option (Mm)) (N : Nat) (l0 l1 l2 : Int) (μ : Mm) : Option (Mm) :=
  if 14 ≤ l2 then (m_chk 6 μ (m_gt μ l0 1) (
(jX6_wipe N (m_gt μ l0 1) μ).bind fun μ1 =>
bnd (m_st μ1 l0 1 (m_gt μ1 l0 2)) fun μ2 =>
bnd (m_st μ2 l0 2 (m_gt μ1 l0 1)) fun μ3 =>
some μ3)) else (m_chk 6 μ (m_gt μ l0 1) (
b2 (jX6_isEmpty N (m_gt μ l0 1) l2 μ) fun x1 μ4 =>
if x1 = 0 then (bnd (m_st μ4 l0 10 1) fun μ5 =>
m_chk 1 μ5 (m_gt μ5 l0 4) (
if (m_gt μ5 (m_gt μ5 l0 4) 2) ≤ l1 then (if (m_gt μ5 l0 6) = 0 then (jX2_goThroughFrame_76 k2 N l0 l1 l2 μ5) else (b2 (jX2_fillsOf N l2 μ5) fun x2 μ6 =>
b2 (jX2_givenIn N l0 l1 μ6) fun x3 μ7 =>
if ¬ x2 = x3 then (jX2_goThroughFrame_90 k2 N l0 l1 l2 μ7) else (jX2_goThroughFrame_76 k2 N l0 l1 l2 μ7))) else ((jX2_playFrame N 10 l0 l1 0 (m_gt μ5 (m_gt μ5 l0 4) 1) l2 0 0 μ5).bind fun μ8 =>
jX2_goThroughFrame_90 k2 N l0 l1 l2 μ8))) else (jX2_goThroughFrame_144 k2 N l0 l1 l2 μ4)))
def jX2_goThroughFrame_2 (N : Nat) : Nat → Int → Int → Int → Mm → Option (Mm)
  | 0 => fun _ _ _ _ => none
  | n + 1 => fun l0 l1 l2 μ => jX2_goThroughFrame_2b (jX2_goThroughFrame_2 N n) N l0 l1 l2 μ
def jX2_goThroughFrame (N : Nat) (l0 l1 : Int) (μ : Mm) : Option (Mm) :=
  jX2_goThroughFrame_2 N N l0 l1 0 μ
-- X2_goThrough
def jX2_goThrough_48b (k48 : Int → Int → Mm → Option (Mm)) (N : Nat) (l0 l2 : Int) (μ : Mm) : Option (Mm) :=
  m_chk 1 μ (m_gt μ l0 4) (
if (m_gt μ (m_gt μ l0 4) 2) < l2 then (some μ) else ((jX2_goThroughFrame N l0 l2 μ).bind fun μ1 =>
bnd (i_add l2 1) fun x1 =>
k48 l0 x1 μ1))
def jX2_goThrough_48 (N : Nat) : Nat → Int → Int → Mm → Option (Mm)
  | 0 => fun _ _ _ => none
  | n + 1 => fun l0 l2 μ => jX2_goThrough_48b (jX2_goThrough_48 N n) N l0 l2 μ
def jX2_goThrough (N : Nat) (l0 l1 : Int) (μ : Mm) : Option (Mm) :=
  bnd (m_st μ l0 3 l1) fun μ1 =>
m_chk 5 μ1 l1 (
bnd (m_st μ1 l0 4 (m_gt μ1 l1 5)) fun μ2 =>
m_chk 6 μ2 (m_gt μ2 l0 1) (
(jX6_open N (m_gt μ2 l0 1) μ2).bind fun μ3 =>
m_chk 6 μ3 (m_gt μ3 l0 2) (
(jX6_open N (m_gt μ3 l0 2) μ3).bind fun μ4 =>
m_chk 6 μ4 (m_gt μ4 l0 1) (
(jX6_wipe N (m_gt μ4 l0 1) μ4).bind fun μ5 =>
m_chk 6 μ5 (m_gt μ5 l0 1) (
(jX6_set N (m_gt μ5 l0 1) 0 400 1 μ5).bind fun μ6 =>
jX2_goThrough_48 N N l0 0 μ6)))))
-- X2_lookAhead
def jX2_lookAhead_53b (k53 : Int → Int → Int → Mm → Option (Mm)) (N : Nat) (l0 l1 l4 : Int) (μ : Mm) : Option (Mm) :=
  (m_len μ (m_gt μ l0 5)).bind fun x1 =>
if x1 ≤ l4 then ((jX2_goThrough N l0 l1 μ).bind fun μ1 =>
some μ1) else (m_chk 5 μ l1 (
b2 (jX5_sizeOf N l1 l4 μ) fun x2 μ2 =>
(m_ast 100 μ2 (m_gt μ l0 5) l4 x2).bind fun μ3 =>
bnd (i_add l4 1) fun x3 =>
k53 l0 l1 x3 μ3))
def jX2_lookAhead_53 (N : Nat) : Nat → Int → Int → Int → Mm → Option (Mm)
  | 0 => fun _ _ _ _ => none
  | n + 1 => fun l0 l1 l4 μ => jX2_lookAhead_53b (jX2_lookAhead_53 N n) N l0 l1 l4 μ
def jX2_lookAhead_9 (N : Nat) (l0 l1 l2 s0 : Int) (μ : Mm) : Option (Mm) :=
  if ¬ (m_gt μ l0 0) = s0 then (bnd (m_st μ l0 0 s0) fun μ1 =>
z_chk l2 (
bnd (m_st μ1 l0 7 l2) fun μ2 =>
bnd (m_st μ2 l0 6 0) fun μ3 =>
m_chk 5 μ3 l1 (
bnd (m_st μ3 l0 8 (m_gt μ3 l1 2)) fun μ4 =>
bnd (m_st μ4 l0 9 (m_gt μ4 l1 3)) fun μ5 =>
jX2_lookAhead_53 N N l0 l1 0 μ5))) else (some μ)
def jX2_lookAhead (N : Nat) (l0 l1 l2 : Int) (μ : Mm) : Option (Mm) :=
  if l2 = 0 then (jX2_lookAhead_9 N l0 l1 l2 2 μ) else (jX2_lookAhead_9 N l0 l1 l2 1 μ)
-- X2_isTorn
def jX2_isTorn_21 (N : Nat) (s0 : Int) (μ : Mm) : Option (Int × Mm) :=
  z_chk s0 (some (s0, μ))
def jX2_isTorn_20 (N : Nat) (μ : Mm) : Option (Int × Mm) :=
  jX2_isTorn_21 N 0 μ
def jX2_isTorn (N : Nat) (l0 l1 : Int) (μ : Mm) : Option (Int × Mm) :=
  if l1 < 0 then (jX2_isTorn_20 N  μ) else ((m_len μ l0).bind fun x1 =>
if x1 ≤ l1 then (jX2_isTorn_20 N  μ) else ((m_ald 102 μ l0 l1).bind fun x2 =>
if x2 = 0 then (jX2_isTorn_20 N  μ) else (jX2_isTorn_21 N 1 μ)))
-- X2_lookAtTorn
def jX2_lookAtTorn_119 (N : Nat) (l0 l1 s0 s1 : Int) (μ : Mm) : Option (Mm) :=
  m_chk 2 μ s1 (
z_chk s0 (
bnd (m_st μ s1 6 s0) fun μ1 =>
(jX2_goThrough N l0 l1 μ1).bind fun μ2 =>
some μ2))
def jX2_lookAtTorn_92 (k57 : Int → Int → Int → Int → Mm → Option (Mm)) (N : Nat) (l0 l1 l2 l5 s0 s1 s2 : Int) (μ : Mm) : Option (Mm) :=
  (m_ast 100 μ s2 s1 s0).bind fun μ1 =>
bnd (i_add l5 1) fun x1 =>
k57 l0 l1 l2 x1 μ1
def jX2_lookAtTorn_57b (k57 : Int → Int → Int → Int → Mm → Option (Mm)) (N : Nat) (l0 l1 l2 l5 : Int) (μ : Mm) : Option (Mm) :=
  (m_len μ (m_gt μ l0 5)).bind fun x1 =>
if x1 ≤ l5 then (m_chk 5 μ l1 (
m_chk 1 μ (m_gt μ l1 5) (
b2 (jX2_isTorn N l2 (m_gt μ (m_gt μ l1 5) 2) μ) fun x2 μ1 =>
if ¬ x2 = 0 then (jX2_lookAtTorn_119 N l0 l1 0 l0 μ1) else (jX2_lookAtTorn_119 N l0 l1 1 l0 μ1)))) else (b2 (jX2_isTorn N l2 l5 μ) fun x3 μ2 =>
if x3 = 0 then (m_chk 5 μ2 l1 (
b2 (jX5_sizeOf N l1 l5 μ2) fun x4 μ3 =>
jX2_lookAtTorn_92 k57 N l0 l1 l2 l5 x4 l5 (m_gt μ l0 5) μ3)) else (jX2_lookAtTorn_92 k57 N l0 l1 l2 l5 0 l5 (m_gt μ l0 5) μ2))
def jX2_lookAtTorn_57 (N : Nat) : Nat → Int → Int → Int → Int → Mm → Option (Mm)
  | 0 => fun _ _ _ _ _ => none
  | n + 1 => fun l0 l1 l2 l5 μ => jX2_lookAtTorn_57b (jX2_lookAtTorn_57 N n) N l0 l1 l2 l5 μ
def jX2_lookAtTorn_41 (N : Nat) (l0 l1 l2 l3 s0 s1 : Int) (μ : Mm) : Option (Mm) :=
  m_chk 2 μ s1 (
z_chk s0 (
bnd (m_st μ s1 7 s0) fun μ1 =>
bnd (m_st μ1 l0 8 l3) fun μ2 =>
bnd (m_st μ2 l0 9 0) fun μ3 =>
jX2_lookAtTorn_57 N N l0 l1 l2 0 μ3))
def jX2_lookAtTorn_12 (N : Nat) (l0 l1 l2 l3 s0 : Int) (μ : Mm) : Option (Mm) :=
  if ¬ (m_gt μ l0 0) = s0 then (bnd (m_st μ l0 0 s0) fun μ1 =>
if ¬ l3 = (-1) then (jX2_lookAtTorn_41 N l0 l1 l2 l3 0 l0 μ1) else (jX2_lookAtTorn_41 N l0 l1 l2 l3 1 l0 μ1)) else (some μ)
def jX2_lookAtTorn (N : Nat) (l0 l1 l2 l3 : Int) (μ : Mm) : Option (Mm) :=
  if ¬ l3 = (-1) then (jX2_lookAtTorn_12 N l0 l1 l2 l3 (i_add 4 l3) μ) else (jX2_lookAtTorn_12 N l0 l1 l2 l3 3 μ)
-- X2_at
def jX2_at_31 (N : Nat) (l0 s0 : Int) (μ : Mm) : Option (Int × Mm) :=
  some (s0, μ)
def jX2_at_14 (N : Nat) (l0 : Int) (μ : Mm) : Option (Int × Mm) :=
  jX2_at_31 N l0 0 μ
def jX2_at (N : Nat) (l0 l1 : Int) (μ : Mm) : Option (Int × Mm) :=
  if l1 < (-400) then (jX2_at_14 N l0 μ) else (if l1 < 450 then (m_chk 6 μ (m_gt μ l0 1) (
b2 (jX6_value N (m_gt μ l0 1) 0 (i_sub l1 (-400)) μ) fun x1 μ1 =>
jX2_at_31 N l0 x1 μ1)) else (jX2_at_14 N l0 μ))
-- X2_least
def jX2_least (N : Nat) (l0 : Int) (μ : Mm) : Option (Int × Mm) :=
  m_chk 6 μ (m_gt μ l0 1) (
b2 (jX6_low N (m_gt μ l0 1) 0 μ) fun x1 μ1 =>
some (i_add (-400) x1, μ1))
-- X2_greatest
def jX2_greatest (N : Nat) (l0 : Int) (μ : Mm) : Option (Int × Mm) :=
  m_chk 6 μ (m_gt μ l0 1) (
b2 (jX6_high N (m_gt μ l0 1) 0 μ) fun x1 μ1 =>
some (i_add (-400) x1, μ1))
-- X2_countFrom
def jX2_countFrom_12b (k12 : Int → Int → Int → Mm → Option (Int × Mm)) (N : Nat) (l0 l2 l4 : Int) (μ : Mm) : Option (Int × Mm) :=
  b2 (jX2_greatest N l0 μ) fun x1 μ1 =>
if x1 < l4 then (some (l2, μ1)) else (b2 (jX2_at N l0 l4 μ1) fun x2 μ2 =>
bnd (l_min 1000000000000000000 (l_add l2 x2)) fun x3 =>
bnd (i_add l4 1) fun x4 =>
k12 l0 x3 x4 μ2)
def jX2_countFrom_12 (N : Nat) : Nat → Int → Int → Int → Mm → Option (Int × Mm)
  | 0 => fun _ _ _ _ => none
  | n + 1 => fun l0 l2 l4 μ => jX2_countFrom_12b (jX2_countFrom_12 N n) N l0 l2 l4 μ
def jX2_countFrom (N : Nat) (l0 l1 : Int) (μ : Mm) : Option (Int × Mm) :=
  b2 (jX2_least N l0 μ) fun x1 μ1 =>
bnd (i_max l1 x1) fun x2 =>
jX2_countFrom_12 N N l0 0 x2 μ1
-- X2_marksFrom
def jX2_marksFrom_12b (k12 : Int → Int → Int → Mm → Option (Int × Mm)) (N : Nat) (l0 l2 l4 : Int) (μ : Mm) : Option (Int × Mm) :=
  b2 (jX2_greatest N l0 μ) fun x1 μ1 =>
if x1 < l4 then (some (l2, μ1)) else (b2 (jX2_at N l0 l4 μ1) fun x2 μ2 =>
bnd (l_or l2 x2) fun x3 =>
bnd (i_add l4 1) fun x4 =>
k12 l0 x3 x4 μ2)
def jX2_marksFrom_12 (N : Nat) : Nat → Int → Int → Int → Mm → Option (Int × Mm)
  | 0 => fun _ _ _ _ => none
  | n + 1 => fun l0 l2 l4 μ => jX2_marksFrom_12b (jX2_marksFrom_12 N n) N l0 l2 l4 μ
def jX2_marksFrom (N : Nat) (l0 l1 : Int) (μ : Mm) : Option (Int × Mm) :=
  b2 (jX2_least N l0 μ) fun x1 μ1 =>
bnd (i_max l1 x1) fun x2 =>
jX2_marksFrom_12 N N l0 0 x2 μ1
-- X2_marksBelow
def jX2_marksBelow_38 (N : Nat) (l0 l2 : Int) (μ : Mm) : Option (Int × Mm) :=
  some (l2, μ)
def jX2_marksBelow_8b (k8 : Int → Int → Int → Int → Mm → Option (Int × Mm)) (N : Nat) (l0 l1 l2 l4 : Int) (μ : Mm) : Option (Int × Mm) :=
  if l1 ≤ l4 then (jX2_marksBelow_38 N l0 l2 μ) else (b2 (jX2_greatest N l0 μ) fun x1 μ1 =>
if x1 < l4 then (jX2_marksBelow_38 N l0 l2 μ1) else (b2 (jX2_at N l0 l4 μ1) fun x2 μ2 =>
bnd (l_or l2 x2) fun x3 =>
bnd (i_add l4 1) fun x4 =>
k8 l0 l1 x3 x4 μ2))
def jX2_marksBelow_8 (N : Nat) : Nat → Int → Int → Int → Int → Mm → Option (Int × Mm)
  | 0 => fun _ _ _ _ _ => none
  | n + 1 => fun l0 l1 l2 l4 μ => jX2_marksBelow_8b (jX2_marksBelow_8 N n) N l0 l1 l2 l4 μ
def jX2_marksBelow (N : Nat) (l0 l1 : Int) (μ : Mm) : Option (Int × Mm) :=
  b2 (jX2_least N l0 μ) fun x1 μ1 =>
jX2_marksBelow_8 N N l0 l1 0 x1 μ1
