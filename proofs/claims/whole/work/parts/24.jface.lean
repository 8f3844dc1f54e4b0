-- X7_init
def jX7_init (N : Nat) (l0 : Int) (μ : Mm) : Option (Mm) :=
  (m_na 100 μ 700).bind fun μ1 =>
bnd (m_st μ1 l0 0 (m_sz μ : Int)) fun μ2 =>
bnd (m_st μ2 l0 1 0) fun μ3 =>
bnd (m_nw μ3 1 0 15) fun μ4 =>
(jX1_init N (m_sz μ3 : Int) μ4).bind fun μ5 =>
bnd (m_st μ5 l0 2 (m_sz μ3 : Int)) fun μ6 =>
bnd (m_nw μ6 1 0 15) fun μ7 =>
(jX1_init N (m_sz μ6 : Int) μ7).bind fun μ8 =>
bnd (m_st μ8 l0 3 (m_sz μ6 : Int)) fun μ9 =>
bnd (m_nw μ9 3 0 6) fun μ10 =>
(jX3_init N (m_sz μ9 : Int) (m_gt μ10 l0 3) μ10).bind fun μ11 =>
bnd (m_st μ11 l0 4 (m_sz μ9 : Int)) fun μ12 =>
bnd (m_nw μ12 5 0 8) fun μ13 =>
(jX5_init N (m_sz μ12 : Int) (m_gt μ13 l0 2) μ13).bind fun μ14 =>
bnd (m_st μ14 l0 5 (m_sz μ12 : Int)) fun μ15 =>
bnd (m_nw μ15 5 0 8) fun μ16 =>
(jX5_init N (m_sz μ15 : Int) (m_gt μ16 l0 2) μ16).bind fun μ17 =>
bnd (m_st μ17 l0 6 (m_sz μ15 : Int)) fun μ18 =>
(m_na 102 μ18 9).bind fun μ19 =>
bnd (m_st μ19 l0 7 (m_sz μ18 : Int)) fun μ20 =>
bnd (m_nw μ20 2 0 14) fun μ21 =>
(jX2_init N (m_sz μ20 : Int) (m_gt μ21 l0 5) μ21).bind fun μ22 =>
bnd (m_st μ22 l0 8 (m_sz μ20 : Int)) fun μ23 =>
bnd (m_nw μ23 4 0 3) fun μ24 =>
(jX4_init N (m_sz μ23 : Int) μ24).bind fun μ25 =>
bnd (m_st μ25 l0 9 (m_sz μ23 : Int)) fun μ26 =>
(m_na 100 μ26 29).bind fun μ27 =>
bnd (m_st μ27 l0 10 (m_sz μ26 : Int)) fun μ28 =>
bnd (m_st μ28 l0 11 0) fun μ29 =>
some μ29
-- X7_append
def jX7_append_49 (N : Nat) (l0 : Int) (μ : Mm) : Option (Mm) :=
  some μ
def jX7_append_3b (k3 : Int → Int → Int → Mm → Option (Mm)) (N : Nat) (l0 l1 l2 : Int) (μ : Mm) : Option (Mm) :=
  if l2 < 0 then (jX7_append_49 N l0 μ) else (if 700 ≤ (m_gt μ l0 1) then (jX7_append_49 N l0 μ) else ((m_ast 100 μ (m_gt μ l0 0) (m_gt μ l0 1) (i_and (i_ushr l1 l2) 255)).bind fun μ1 =>
bnd (m_st μ1 l0 1 (i_add (m_gt μ1 l0 1) 1)) fun μ2 =>
bnd (i_add l2 (-8)) fun x1 =>
k3 l0 l1 x1 μ2))
def jX7_append_3 (N : Nat) : Nat → Int → Int → Int → Mm → Option (Mm)
  | 0 => fun _ _ _ _ => none
  | n + 1 => fun l0 l1 l2 μ => jX7_append_3b (jX7_append_3 N n) N l0 l1 l2 μ
def jX7_append (N : Nat) (l0 l1 : Int) (μ : Mm) : Option (Mm) :=
  jX7_append_3 N N l0 l1 24 μ
-- X7_feed
def jX7_feed (N : Nat) (l0 l1 l2 l3 l4 l5 : Int) (μ : Mm) : Option (Int × Mm) :=
  if (i_add (m_gt μ l0 1) 20) ≤ 700 then ((jX7_append N l0 l1 μ).bind fun μ1 =>
(jX7_append N l0 l2 μ1).bind fun μ2 =>
(jX7_append N l0 l3 μ2).bind fun μ3 =>
(jX7_append N l0 l4 μ3).bind fun μ4 =>
(jX7_append N l0 l5 μ4).bind fun μ5 =>
some (m_gt μ5 l0 1, μ5)) else (some ((-1), μ))
-- X7_end
def jX7_end_12 (N : Nat) (l0 : Int) (μ : Mm) : Option (Int × Mm) :=
  some (0, μ)
def jX7_end (N : Nat) (l0 l1 : Int) (μ : Mm) : Option (Int × Mm) :=
  if l1 < 0 then (jX7_end_12 N l0 μ) else (if l1 ≤ (m_gt μ l0 1) then (bnd (m_st μ l0 1 l1) fun μ1 =>
some (1, μ1)) else (jX7_end_12 N l0 μ))
-- X7_sheetIsNew
def jX7_sheetIsNew_2b (k2 : Int → Int → Mm → Option (Mm)) (N : Nat) (l0 l1 : Int) (μ : Mm) : Option (Mm) :=
  (m_len μ (m_gt μ l0 7)).bind fun x1 =>
if x1 ≤ l1 then (m_chk 2 μ (m_gt μ l0 8) (
(jX2_forget N (m_gt μ l0 8) μ).bind fun μ1 =>
some μ1)) else ((m_ast 102 μ (m_gt μ l0 7) l1 0).bind fun μ2 =>
bnd (i_add l1 1) fun x2 =>
k2 l0 x2 μ2)
def jX7_sheetIsNew_2 (N : Nat) : Nat → Int → Int → Mm → Option (Mm)
  | 0 => fun _ _ _ => none
  | n + 1 => fun l0 l1 μ => jX7_sheetIsNew_2b (jX7_sheetIsNew_2 N n) N l0 l1 μ
def jX7_sheetIsNew (N : Nat) (l0 : Int) (μ : Mm) : Option (Mm) :=
  jX7_sheetIsNew_2 N N l0 0 μ
-- X7_game
def jX7_game (N : Nat) (l0 : Int) (μ : Mm) : Option (Int × Mm) :=
  m_chk 3 μ (m_gt μ l0 4) (
b2 (jX3_read N (m_gt μ l0 4) (m_gt μ l0 0) (m_gt μ l0 1) (m_gt μ l0 3) μ) fun x1 μ1 =>
bnd (m_st μ1 l0 1 0) fun μ2 =>
if ¬ x1 = 0 then (bnd (m_st μ2 l0 2 (m_gt μ2 l0 3)) fun μ3 =>
bnd (m_st μ3 l0 3 (m_gt μ2 l0 2)) fun μ4 =>
m_chk 1 μ4 (m_gt μ4 l0 2) (
(jX1_settle N (m_gt μ4 l0 2) μ4).bind fun μ5 =>
m_chk 5 μ5 (m_gt μ5 l0 5) (
(jX5_empty N (m_gt μ5 l0 5) (m_gt μ5 l0 2) μ5).bind fun μ6 =>
m_chk 4 μ6 (m_gt μ6 l0 9) (
(jX4_forget N (m_gt μ6 l0 9) μ6).bind fun μ7 =>
(jX7_sheetIsNew N l0 μ7).bind fun μ8 =>
m_chk 1 μ8 (m_gt μ8 l0 2) (
some (m_gt μ8 (m_gt μ8 l0 2) 0, μ8)))))) else (some ((-1), μ2)))
-- X7_fault
def jX7_fault_28 (N : Nat) (l0 s0 : Int) (μ : Mm) : Option (Int × Mm) :=
  some (s0, μ)
def jX7_fault (N : Nat) (l0 l1 : Int) (μ : Mm) : Option (Int × Mm) :=
  if ¬ l1 = 0 then (if ¬ l1 = 1 then (jX7_fault_28 N l0 (-1) μ) else (m_chk 3 μ (m_gt μ l0 4) (
jX7_fault_28 N l0 (m_gt μ (m_gt μ l0 4) 1) μ))) else (m_chk 3 μ (m_gt μ l0 4) (
some (m_gt μ (m_gt μ l0 4) 0, μ)))
-- X7_has
def jX7_has (N : Nat) (l0 l1 : Int) (μ : Mm) : Option (Int × Mm) :=
  if l1 = 0 then (m_chk 1 μ (m_gt μ l0 2) (
some (m_gt μ (m_gt μ l0 2) 1, μ))) else (
if l1 = 1 then (m_chk 1 μ (m_gt μ l0 2) (
some (m_gt μ (m_gt μ l0 2) 2, μ))) else (
if l1 = 2 then (m_chk 1 μ (m_gt μ l0 2) (
some (m_gt μ (m_gt μ l0 2) 3, μ))) else (
if l1 = 3 then (m_chk 1 μ (m_gt μ l0 2) (
some (m_gt μ (m_gt μ l0 2) 4, μ))) else (
if l1 = 4 then (m_chk 1 μ (m_gt μ l0 2) (
b2 (jX1_earnedBy N (m_gt μ l0 2) (i_sub l1 3) μ) fun x1 μ1 =>
some (x1, μ1))) else (
if l1 = 5 then (m_chk 1 μ (m_gt μ l0 2) (
b2 (jX1_earnedBy N (m_gt μ l0 2) (i_sub l1 3) μ) fun x2 μ2 =>
some (x2, μ2))) else (
if l1 = 6 then (m_chk 1 μ (m_gt μ l0 2) (
b2 (jX1_earnedBy N (m_gt μ l0 2) (i_sub l1 3) μ) fun x3 μ3 =>
some (x3, μ3))) else (
if l1 = 7 then (m_chk 1 μ (m_gt μ l0 2) (
some (m_gt μ (m_gt μ l0 2) 5, μ))) else (
if l1 = 8 then (m_chk 1 μ (m_gt μ l0 2) (
b2 (jX1_countJoins N (m_gt μ l0 2) μ) fun x4 μ4 =>
some (x4, μ4))) else (
some ((-1), μ))))))))))
-- X7_roll
def jX7_roll (N : Nat) (l0 l1 : Int) (μ : Mm) : Option (Int × Mm) :=
  m_chk 5 μ (m_gt μ l0 5) (
b2 (jX5_add N (m_gt μ l0 5) l1 μ) fun x1 μ1 =>
if ¬ x1 = 0 then ((jX7_sheetIsNew N l0 μ1).bind fun μ2 =>
some (1, μ2)) else (some (0, μ1)))
-- X7_back
def jX7_back (N : Nat) (l0 : Int) (μ : Mm) : Option (Int × Mm) :=
  m_chk 5 μ (m_gt μ l0 5) (
b2 (jX5_takeLast N (m_gt μ l0 5) μ) fun x1 μ1 =>
if ¬ x1 = 0 then ((jX7_sheetIsNew N l0 μ1).bind fun μ2 =>
some (1, μ2)) else (some (0, μ1)))
-- X7_clear
def jX7_clear (N : Nat) (l0 : Int) (μ : Mm) : Option (Int × Mm) :=
  m_chk 5 μ (m_gt μ l0 5) (
bnd (m_gt μ (m_gt μ l0 5) 1) fun x1 =>
(jX5_empty N (m_gt μ l0 5) (m_gt μ l0 2) μ).bind fun μ1 =>
(jX7_sheetIsNew N l0 μ1).bind fun μ2 =>
some (x1, μ2))
-- X7_sheet
def jX7_sheet_113 (N : Nat) (l0 s0 : Int) (μ : Mm) : Option (Int × Mm) :=
  some (s0, μ)
def jX7_sheet_103 (N : Nat) (l0 s0 : Int) (μ : Mm) : Option (Int × Mm) :=
  some (s0, μ)
def jX7_sheet_87 (N : Nat) (l0 s0 : Int) (μ : Mm) : Option (Int × Mm) :=
  some (s0, μ)
def jX7_sheet_71 (N : Nat) (l0 s0 : Int) (μ : Mm) : Option (Int × Mm) :=
  some (s0, μ)
def jX7_sheet (N : Nat) (l0 l1 : Int) (μ : Mm) : Option (Int × Mm) :=
  m_chk 5 μ (m_gt μ l0 5) (
b2 (jX5_isWhole N (m_gt μ l0 5) μ) fun x1 μ1 =>
if l1 = 0 then (m_chk 5 μ1 (m_gt μ1 l0 5) (
some (m_gt μ1 (m_gt μ1 l0 5) 1, μ1))) else (
if l1 = 1 then (if x1 = 0 then (m_chk 5 μ1 (m_gt μ1 l0 5) (
jX7_sheet_71 N l0 (m_gt μ1 (m_gt μ1 l0 5) 2) μ1)) else (jX7_sheet_71 N l0 (-1) μ1)) else (
if l1 = 2 then (if x1 = 0 then (m_chk 5 μ1 (m_gt μ1 l0 5) (
jX7_sheet_87 N l0 (m_gt μ1 (m_gt μ1 l0 5) 3) μ1)) else (jX7_sheet_87 N l0 0 μ1)) else (
if l1 = 3 then (if x1 = 0 then (m_chk 5 μ1 (m_gt μ1 l0 5) (
jX7_sheet_103 N l0 (m_gt μ1 (m_gt μ1 l0 5) 4) μ1)) else (jX7_sheet_103 N l0 0 μ1)) else (
if l1 = 4 then (if x1 = 0 then (jX7_sheet_113 N l0 0 μ1) else (jX7_sheet_113 N l0 1 μ1)) else (
if l1 = 5 then (m_chk 5 μ1 (m_gt μ1 l0 5) (
b2 (jX5_fillsEarned N (m_gt μ1 l0 5) μ1) fun x2 μ2 =>
some (x2, μ2))) else (
some ((-1), μ1))))))))
-- X7_rolled
def jX7_rolled_27 (N : Nat) (l0 : Int) (μ : Mm) : Option (Int × Mm) :=
  some ((-1), μ)
def jX7_rolled (N : Nat) (l0 l1 : Int) (μ : Mm) : Option (Int × Mm) :=
  if l1 < 0 then (jX7_rolled_27 N l0 μ) else (m_chk 5 μ (m_gt μ l0 5) (
if (m_gt μ (m_gt μ l0 5) 1) ≤ l1 then (jX7_rolled_27 N l0 μ) else ((m_len μ (m_gt μ (m_gt μ l0 5) 0)).bind fun x1 =>
if l1 < x1 then ((m_ald 100 μ (m_gt μ (m_gt μ l0 5) 0) l1).bind fun x2 =>
some (x2, μ)) else (jX7_rolled_27 N l0 μ))))
-- X7_frame
def jX7_frame_26 (N : Nat) (l0 : Int) (μ : Mm) : Option (Int × Mm) :=
  some ((-1), μ)
def jX7_frame (N : Nat) (l0 l1 l2 : Int) (μ : Mm) : Option (Int × Mm) :=
  if l1 < 0 then (jX7_frame_26 N l0 μ) else (m_chk 1 μ (m_gt μ l0 2) (
if (m_gt μ (m_gt μ l0 2) 2) ≤ l1 then (jX7_frame_26 N l0 μ) else (m_chk 5 μ (m_gt μ l0 5) (
b2 (jX5_sizeOf N (m_gt μ l0 5) l1 μ) fun x1 μ1 =>
if ¬ x1 = 0 then (if l2 = 0 then (m_chk 5 μ1 (m_gt μ1 l0 5) (
b2 (jX5_downIn N (m_gt μ1 l0 5) l1 μ1) fun x2 μ2 =>
some (x2, μ2))) else (
if l2 = 1 then (m_chk 5 μ1 (m_gt μ1 l0 5) (
b2 (jX5_sizeOf N (m_gt μ1 l0 5) l1 μ1) fun x3 μ3 =>
some (x3, μ3))) else (
if l2 = 2 then (m_chk 5 μ1 (m_gt μ1 l0 5) (
b2 (jX5_cleanBy N (m_gt μ1 l0 5) l1 μ1) fun x4 μ4 =>
some (x4, μ4))) else (
if l2 = 3 then (m_chk 5 μ1 (m_gt μ1 l0 5) (
b2 (jX5_foulsIn N (m_gt μ1 l0 5) l1 μ1) fun x5 μ5 =>
some (x5, μ5))) else (
some ((-1), μ1)))))) else (jX7_frame_26 N l0 μ1)))))
-- X7_points
def jX7_points_24 (N : Nat) (l0 s0 : Int) (μ : Mm) : Option (Int × Mm) :=
  some (s0, μ)
def jX7_points (N : Nat) (l0 l1 : Int) (μ : Mm) : Option (Int × Mm) :=
  m_chk 5 μ (m_gt μ l0 5) (
b2 (jX5_isSettled N (m_gt μ l0 5) l1 μ) fun x1 μ1 =>
if x1 = 0 then (jX7_points_24 N l0 (-1000000) μ1) else (m_chk 5 μ1 (m_gt μ1 l0 5) (
b2 (jX5_worthAndTaken N (m_gt μ1 l0 5) l1 μ1) fun x2 μ2 =>
jX7_points_24 N l0 x2 μ2)))
-- X7_total
def jX7_total_22 (N : Nat) (l0 s0 : Int) (μ : Mm) : Option (Int × Mm) :=
  some (s0, μ)
def jX7_total (N : Nat) (l0 : Int) (μ : Mm) : Option (Int × Mm) :=
  m_chk 5 μ (m_gt μ l0 5) (
b2 (jX5_isWhole N (m_gt μ l0 5) μ) fun x1 μ1 =>
if x1 = 0 then (jX7_total_22 N l0 (-1000000) μ1) else (m_chk 5 μ1 (m_gt μ1 l0 5) (
b2 (jX5_sumOfFrames N (m_gt μ1 l0 5) μ1) fun x2 μ2 =>
jX7_total_22 N l0 x2 μ2)))
-- X7_come
def jX7_come_33 (N : Nat) (l0 s0 : Int) (μ : Mm) : Option (Int × Mm) :=
  some (s0, μ)
def jX7_come (N : Nat) (l0 l1 : Int) (μ : Mm) : Option (Int × Mm) :=
  m_chk 2 μ (m_gt μ l0 8) (
(jX2_lookAhead N (m_gt μ l0 8) (m_gt μ l0 5) 1 μ).bind fun μ1 =>
if l1 = 0 then (m_chk 2 μ1 (m_gt μ1 l0 8) (
b2 (jX2_least N (m_gt μ1 l0 8) μ1) fun x1 μ2 =>
jX7_come_33 N l0 x1 μ2)) else (m_chk 2 μ1 (m_gt μ1 l0 8) (
b2 (jX2_greatest N (m_gt μ1 l0 8) μ1) fun x2 μ3 =>
jX7_come_33 N l0 x2 μ3)))
-- X7_ways
def jX7_ways_35 (N : Nat) (l0 s0 : Int) (μ : Mm) : Option (Int × Mm) :=
  some (s0, μ)
def jX7_ways (N : Nat) (l0 l1 l2 : Int) (μ : Mm) : Option (Int × Mm) :=
  m_chk 2 μ (m_gt μ l0 8) (
(jX2_lookAhead N (m_gt μ l0 8) (m_gt μ l0 5) 1 μ).bind fun μ1 =>
if l2 = 0 then (m_chk 2 μ1 (m_gt μ1 l0 8) (
b2 (jX2_at N (m_gt μ1 l0 8) l1 μ1) fun x1 μ2 =>
jX7_ways_35 N l0 x1 μ2)) else (m_chk 2 μ1 (m_gt μ1 l0 8) (
b2 (jX2_countFrom N (m_gt μ1 l0 8) l1 μ1) fun x2 μ3 =>
jX7_ways_35 N l0 x2 μ3)))
-- X7_needs
def jX7_needs_60b (k60 : Int → Int → Int → Mm → Option (Int × Mm)) (N : Nat) (l0 l5 l7 : Int) (μ : Mm) : Option (Int × Mm) :=
  if 9 < l7 then (some ((-1), μ)) else (if ¬ (l_cmp (l_and (l_shr l5 l7) 1) 1) = 0 then (bnd (i_add l7 1) fun x1 =>
k60 l0 l5 x1 μ) else (some (l7, μ)))
def jX7_needs_60 (N : Nat) : Nat → Int → Int → Int → Mm → Option (Int × Mm)
  | 0 => fun _ _ _ _ => none
  | n + 1 => fun l0 l5 l7 μ => jX7_needs_60b (jX7_needs_60 N n) N l0 l5 l7 μ
def jX7_needs_55 (N : Nat) (l0 s0 : Int) (μ : Mm) : Option (Int × Mm) :=
  jX7_needs_60 N N l0 s0 0 μ
def jX7_needs (N : Nat) (l0 l1 l2 : Int) (μ : Mm) : Option (Int × Mm) :=
  m_chk 5 μ (m_gt μ l0 5) (
b2 (jX5_isWhole N (m_gt μ l0 5) μ) fun x1 μ1 =>
if x1 = 0 then (m_chk 2 μ1 (m_gt μ1 l0 8) (
(jX2_lookAhead N (m_gt μ1 l0 8) (m_gt μ1 l0 5) 0 μ1).bind fun μ2 =>
m_chk 2 μ2 (m_gt μ2 l0 8) (
b2 (jX2_marksFrom N (m_gt μ2 l0 8) l1 μ2) fun x2 μ3 =>
if l2 = 0 then (jX7_needs_55 N l0 x2 μ3) else (m_chk 2 μ3 (m_gt μ3 l0 8) (
b2 (jX2_marksBelow N (m_gt μ3 l0 8) l1 μ3) fun x3 μ4 =>
jX7_needs_55 N l0 (l_and x2 (l_xor x3 (-1))) μ4))))) else (some ((-1), μ1)))
-- X7_tear
def jX7_tear_34 (N : Nat) (l0 : Int) (μ : Mm) : Option (Int × Mm) :=
  some (0, μ)
def jX7_tear (N : Nat) (l0 l1 l2 : Int) (μ : Mm) : Option (Int × Mm) :=
  if l1 < 0 then (jX7_tear_34 N l0 μ) else (m_chk 1 μ (m_gt μ l0 2) (
if (m_gt μ (m_gt μ l0 2) 2) < l1 then (jX7_tear_34 N l0 μ) else ((m_len μ (m_gt μ l0 7)).bind fun x1 =>
if x1 ≤ l1 then (jX7_tear_34 N l0 μ) else (m_chk 5 μ (m_gt μ l0 5) (
b2 (jX5_isWhole N (m_gt μ l0 5) μ) fun x2 μ1 =>
if ¬ x2 = 0 then (z_chk l2 (
(m_ast 102 μ1 (m_gt μ1 l0 7) l1 l2).bind fun μ2 =>
m_chk 2 μ2 (m_gt μ2 l0 8) (
(jX2_forget N (m_gt μ2 l0 8) μ2).bind fun μ3 =>
some (1, μ3)))) else (jX7_tear_34 N l0 μ1))))))
-- X7_fits
def jX7_fits_55 (N : Nat) (l0 s0 : Int) (μ : Mm) : Option (Int × Mm) :=
  some (s0, μ)
def jX7_fits (N : Nat) (l0 l1 l2 : Int) (μ : Mm) : Option (Int × Mm) :=
  m_chk 5 μ (m_gt μ l0 5) (
b2 (jX5_isWhole N (m_gt μ l0 5) μ) fun x1 μ1 =>
if ¬ x1 = 0 then (m_chk 2 μ1 (m_gt μ1 l0 8) (
(jX2_lookAtTorn N (m_gt μ1 l0 8) (m_gt μ1 l0 5) (m_gt μ1 l0 7) (-1) μ1).bind fun μ2 =>
if l2 = 0 then (m_chk 2 μ2 (m_gt μ2 l0 8) (
b2 (jX2_at N (m_gt μ2 l0 8) l1 μ2) fun x2 μ3 =>
jX7_fits_55 N l0 x2 μ3)) else (m_chk 2 μ2 (m_gt μ2 l0 8) (
b2 (jX2_countFrom N (m_gt μ2 l0 8) (-400) μ2) fun x3 μ4 =>
jX7_fits_55 N l0 x3 μ4)))) else (some ((-1), μ1)))
-- X7_must
def jX7_must_68 (N : Nat) (l0 s0 : Int) (μ : Mm) : Option (Int × Mm) :=
  some (l_2i s0, μ)
def jX7_must_25 (N : Nat) (l0 : Int) (μ : Mm) : Option (Int × Mm) :=
  some ((-1), μ)
def jX7_must (N : Nat) (l0 l1 l2 l3 : Int) (μ : Mm) : Option (Int × Mm) :=
  if l1 < 0 then (jX7_must_25 N l0 μ) else (m_chk 1 μ (m_gt μ l0 2) (
if (m_gt μ (m_gt μ l0 2) 2) ≤ l1 then (jX7_must_25 N l0 μ) else (m_chk 5 μ (m_gt μ l0 5) (
b2 (jX5_isWhole N (m_gt μ l0 5) μ) fun x1 μ1 =>
if ¬ x1 = 0 then (m_chk 2 μ1 (m_gt μ1 l0 8) (
(jX2_lookAtTorn N (m_gt μ1 l0 8) (m_gt μ1 l0 5) (m_gt μ1 l0 7) l1 μ1).bind fun μ2 =>
if l3 = 0 then (m_chk 2 μ2 (m_gt μ2 l0 8) (
b2 (jX2_at N (m_gt μ2 l0 8) l2 μ2) fun x2 μ3 =>
jX7_must_68 N l0 x2 μ3)) else (m_chk 2 μ2 (m_gt μ2 l0 8) (
b2 (jX2_marksFrom N (m_gt μ2 l0 8) (-400) μ2) fun x3 μ4 =>
jX7_must_68 N l0 x3 μ4)))) else (jX7_must_25 N l0 μ1)))))
-- X7_falls
def jX7_falls_52 (N : Nat) (l0 s0 : Int) (μ : Mm) : Option (Int × Mm) :=
  some (s0, μ)
def jX7_falls_51 (N : Nat) (l0 : Int) (μ : Mm) : Option (Int × Mm) :=
  jX7_falls_52 N l0 0 μ
def jX7_falls_26 (N : Nat) (l0 : Int) (μ : Mm) : Option (Int × Mm) :=
  some ((-1), μ)
def jX7_falls (N : Nat) (l0 l1 l2 : Int) (μ : Mm) : Option (Int × Mm) :=
  m_chk 1 μ (m_gt μ l0 2) (
b2 (jX1_hasPins N (m_gt μ l0 2) l1 μ) fun x1 μ1 =>
if x1 = 0 then (jX7_falls_26 N l0 μ1) else (m_chk 1 μ1 (m_gt μ1 l0 2) (
b2 (jX1_hasPins N (m_gt μ1 l0 2) l2 μ1) fun x2 μ2 =>
if x2 = 0 then (jX7_falls_26 N l0 μ2) else (if ¬ l2 = 0 then (if ¬ (i_and l2 (i_xor l1 (-1))) = 0 then (jX7_falls_51 N l0 μ2) else (m_chk 1 μ2 (m_gt μ2 l0 2) (
b2 (jX1_hangTogether N (m_gt μ2 l0 2) l2 μ2) fun x3 μ3 =>
if x3 = 0 then (jX7_falls_51 N l0 μ3) else (jX7_falls_52 N l0 1 μ3)))) else (jX7_falls_26 N l0 μ2)))))
-- X7_split
def jX7_split_33 (N : Nat) (l0 s0 : Int) (μ : Mm) : Option (Int × Mm) :=
  some (s0, μ)
def jX7_split_32 (N : Nat) (l0 : Int) (μ : Mm) : Option (Int × Mm) :=
  jX7_split_33 N l0 0 μ
def jX7_split (N : Nat) (l0 l1 : Int) (μ : Mm) : Option (Int × Mm) :=
  m_chk 1 μ (m_gt μ l0 2) (
b2 (jX1_hasPins N (m_gt μ l0 2) l1 μ) fun x1 μ1 =>
if ¬ x1 = 0 then (if l1 = 0 then (jX7_split_32 N l0 μ1) else (m_chk 1 μ1 (m_gt μ1 l0 2) (
b2 (jX1_hangTogether N (m_gt μ1 l0 2) l1 μ1) fun x2 μ2 =>
if ¬ x2 = 0 then (jX7_split_32 N l0 μ2) else (jX7_split_33 N l0 1 μ2)))) else (some ((-1), μ1)))
-- X7_fewest
def jX7_fewest_23 (N : Nat) (l0 s0 : Int) (μ : Mm) : Option (Int × Mm) :=
  some (s0, μ)
def jX7_fewest (N : Nat) (l0 l1 : Int) (μ : Mm) : Option (Int × Mm) :=
  m_chk 1 μ (m_gt μ l0 2) (
b2 (jX1_hasPins N (m_gt μ l0 2) l1 μ) fun x1 μ1 =>
if x1 = 0 then (jX7_fewest_23 N l0 (-1) μ1) else (m_chk 1 μ1 (m_gt μ1 l0 2) (
b2 (jX1_countClusters N (m_gt μ1 l0 2) l1 μ1) fun x2 μ2 =>
jX7_fewest_23 N l0 x2 μ2)))
-- X7_leaves
def jX7_leaves_23 (N : Nat) (l0 s0 : Int) (μ : Mm) : Option (Int × Mm) :=
  some (s0, μ)
def jX7_leaves (N : Nat) (l0 l1 : Int) (μ : Mm) : Option (Int × Mm) :=
  m_chk 1 μ (m_gt μ l0 2) (
b2 (jX1_hasPins N (m_gt μ l0 2) l1 μ) fun x1 μ1 =>
if x1 = 0 then (jX7_leaves_23 N l0 (-1) μ1) else (m_chk 1 μ1 (m_gt μ1 l0 2) (
b2 (jX1_countFalls N (m_gt μ1 l0 2) l1 μ1) fun x2 μ2 =>
jX7_leaves_23 N l0 x2 μ2)))
-- X7_keep
def jX7_keep_21 (N : Nat) (l0 : Int) (μ : Mm) : Option (Int × Mm) :=
  some ((-1), μ)
def jX7_keep (N : Nat) (l0 l1 : Int) (μ : Mm) : Option (Int × Mm) :=
  m_chk 4 μ (m_gt μ l0 9) (
b2 (jX4_knows N (m_gt μ l0 9) l1 μ) fun x1 μ1 =>
if x1 = 0 then (jX7_keep_21 N l0 μ1) else (m_chk 5 μ1 (m_gt μ1 l0 5) (
b2 (jX5_isWhole N (m_gt μ1 l0 5) μ1) fun x2 μ2 =>
if ¬ x2 = 0 then (m_chk 5 μ2 (m_gt μ2 l0 5) (
b2 (jX5_sumOfFrames N (m_gt μ2 l0 5) μ2) fun x3 μ3 =>
m_chk 4 μ3 (m_gt μ2 l0 9) (
b2 (jX4_add N (m_gt μ2 l0 9) l1 x3 μ3) fun x4 μ4 =>
some (x4, μ4)))) else (jX7_keep_21 N l0 μ2))))
-- X7_player
def jX7_player (N : Nat) (l0 l1 l2 : Int) (μ : Mm) : Option (Int × Mm) :=
  m_chk 4 μ (m_gt μ l0 9) (
b2 (jX4_knows N (m_gt μ l0 9) l1 μ) fun x1 μ1 =>
if ¬ x1 = 0 then (m_chk 4 μ1 (m_gt μ1 l0 9) (
(jX4_setHandicaps N (m_gt μ1 l0 9) (m_gt μ1 l0 2) μ1).bind fun μ2 =>
if l2 = 0 then (m_chk 4 μ2 (m_gt μ2 l0 9) (
b2 (jX4_gamesOf N (m_gt μ2 l0 9) l1 μ2) fun x2 μ3 =>
some (x2, μ3))) else (
if l2 = 1 then (m_chk 4 μ2 (m_gt μ2 l0 9) (
b2 (jX4_sumOf N (m_gt μ2 l0 9) l1 μ2) fun x3 μ4 =>
some (x3, μ4))) else (
if l2 = 2 then (m_chk 4 μ2 (m_gt μ2 l0 9) (
b2 (jX4_meanOf N (m_gt μ2 l0 9) l1 μ2) fun x4 μ5 =>
some (x4, μ5))) else (
if l2 = 3 then (m_chk 4 μ2 (m_gt μ2 l0 9) (
b2 (jX4_handicapOf N (m_gt μ2 l0 9) l1 μ2) fun x5 μ6 =>
some (x5, μ6))) else (
if l2 = 4 then (m_chk 4 μ2 (m_gt μ2 l0 9) (
b2 (jX4_bestOf N (m_gt μ2 l0 9) l1 μ2) fun x6 μ7 =>
some (x6, μ7))) else (
if l2 = 5 then (m_chk 4 μ2 (m_gt μ2 l0 9) (
b2 (jX4_gathered N (m_gt μ2 l0 9) l1 μ2) fun x7 μ8 =>
some (x7, μ8))) else (
some ((-1000000), μ2))))))))) else (some ((-1000000), μ1)))
-- X7_meet
def jX7_meet_27 (N : Nat) (l0 : Int) (μ : Mm) : Option (Int × Mm) :=
  some ((-1), μ)
def jX7_meet (N : Nat) (l0 l1 l2 : Int) (μ : Mm) : Option (Int × Mm) :=
  m_chk 4 μ (m_gt μ l0 9) (
b2 (jX4_knows N (m_gt μ l0 9) l1 μ) fun x1 μ1 =>
if x1 = 0 then (jX7_meet_27 N l0 μ1) else (m_chk 4 μ1 (m_gt μ1 l0 9) (
b2 (jX4_knows N (m_gt μ1 l0 9) l2 μ1) fun x2 μ2 =>
if x2 = 0 then (jX7_meet_27 N l0 μ2) else (if ¬ l1 = l2 then (m_chk 4 μ2 (m_gt μ2 l0 9) (
(jX4_setHandicaps N (m_gt μ2 l0 9) (m_gt μ2 l0 2) μ2).bind fun μ3 =>
m_chk 4 μ3 (m_gt μ3 l0 9) (
b2 (jX4_meeting N (m_gt μ3 l0 9) l1 l2 μ3) fun x3 μ4 =>
some (x3, μ4)))) else (jX7_meet_27 N l0 μ2)))))
-- X7_place
def jX7_place (N : Nat) (l0 l1 : Int) (μ : Mm) : Option (Int × Mm) :=
  m_chk 4 μ (m_gt μ l0 9) (
b2 (jX4_knows N (m_gt μ l0 9) l1 μ) fun x1 μ1 =>
if ¬ x1 = 0 then (m_chk 4 μ1 (m_gt μ1 l0 9) (
(jX4_setHandicaps N (m_gt μ1 l0 9) (m_gt μ1 l0 2) μ1).bind fun μ2 =>
m_chk 4 μ2 (m_gt μ2 l0 9) (
b2 (jX4_countAhead N (m_gt μ2 l0 9) l1 μ2) fun x2 μ3 =>
some (x2, μ3)))) else (some ((-1), μ1)))
-- X7_checkByte
def jX7_checkByte_35 (N : Nat) (l2 : Int) (μ : Mm) : Option (Int × Mm) :=
  some (l2, μ)
def jX7_checkByte_5b (k5 : Int → Int → Int → Int → Mm → Option (Int × Mm)) (N : Nat) (l0 l1 l2 l3 : Int) (μ : Mm) : Option (Int × Mm) :=
  if l1 ≤ l3 then (jX7_checkByte_35 N l2 μ) else ((m_len μ l0).bind fun x1 =>
if x1 ≤ l3 then (jX7_checkByte_35 N l2 μ) else ((m_ald 100 μ l0 l3).bind fun x2 =>
bnd (i_rem (i_add (i_mul 7 l2) x2) 239) fun x3 =>
bnd (i_add l3 1) fun x4 =>
k5 l0 l1 x3 x4 μ))
def jX7_checkByte_5 (N : Nat) : Nat → Int → Int → Int → Int → Mm → Option (Int × Mm)
  | 0 => fun _ _ _ _ _ => none
  | n + 1 => fun l0 l1 l2 l3 μ => jX7_checkByte_5b (jX7_checkByte_5 N n) N l0 l1 l2 l3 μ
def jX7_checkByte (N : Nat) (l0 l1 : Int) (μ : Mm) : Option (Int × Mm) :=
  jX7_checkByte_5 N N l0 l1 11 0 μ
-- X7_image
def jX7_image_64 (k23 : Int → Int → Int → Mm → Option (Int × Mm)) (N : Nat) (l0 l1 l2 s0 s1 s2 : Int) (μ : Mm) : Option (Int × Mm) :=
  (m_ast 100 μ s2 s1 s0).bind fun μ1 =>
bnd (i_add l2 1) fun x1 =>
k23 l0 l1 x1 μ1
def jX7_image_23b (k23 : Int → Int → Int → Mm → Option (Int × Mm)) (N : Nat) (l0 l1 l2 : Int) (μ : Mm) : Option (Int × Mm) :=
  if l1 ≤ l2 then (b2 (jX7_checkByte N (m_gt μ l0 10) (i_add l1 1) μ) fun x1 μ1 =>
(m_ast 100 μ1 (m_gt μ l0 10) (i_add l1 1) x1).bind fun μ2 =>
bnd (m_st μ2 l0 11 (i_add l1 2)) fun μ3 =>
some (m_gt μ3 l0 11, μ3)) else (m_chk 5 μ (m_gt μ l0 5) (
(m_ald 100 μ (m_gt μ (m_gt μ l0 5) 0) l2).bind fun x2 =>
if ¬ x2 = (-2) then ((m_ald 100 μ (m_gt μ (m_gt μ l0 5) 0) l2).bind fun x3 =>
jX7_image_64 k23 N l0 l1 l2 x3 (i_add l2 1) (m_gt μ l0 10) μ) else (jX7_image_64 k23 N l0 l1 l2 200 (i_add l2 1) (m_gt μ l0 10) μ)))
def jX7_image_23 (N : Nat) : Nat → Int → Int → Int → Mm → Option (Int × Mm)
  | 0 => fun _ _ _ _ => none
  | n + 1 => fun l0 l1 l2 μ => jX7_image_23b (jX7_image_23 N n) N l0 l1 l2 μ
def jX7_image (N : Nat) (l0 : Int) (μ : Mm) : Option (Int × Mm) :=
  m_chk 5 μ (m_gt μ l0 5) (
b2 (jX7_within N 0 (m_gt μ (m_gt μ l0 5) 1) 27 μ) fun x1 μ1 =>
(m_ast 100 μ1 (m_gt μ1 l0 10) 0 x1).bind fun μ2 =>
jX7_image_23 N N l0 x1 0 μ2)
-- X7_octet
def jX7_octet_31 (N : Nat) (l0 s0 : Int) (μ : Mm) : Option (Int × Mm) :=
  some (s0, μ)
def jX7_octet_21 (N : Nat) (l0 : Int) (μ : Mm) : Option (Int × Mm) :=
  jX7_octet_31 N l0 (-1) μ
def jX7_octet (N : Nat) (l0 l1 : Int) (μ : Mm) : Option (Int × Mm) :=
  if l1 < 0 then (jX7_octet_21 N l0 μ) else (if (m_gt μ l0 11) ≤ l1 then (jX7_octet_21 N l0 μ) else ((m_len μ (m_gt μ l0 10)).bind fun x1 =>
if l1 < x1 then ((m_ald 100 μ (m_gt μ l0 10) l1).bind fun x2 =>
jX7_octet_31 N l0 x2 μ) else (jX7_octet_21 N l0 μ)))
-- X7_isImage
def jX7_isImage_54 (N : Nat) (l0 s0 : Int) (μ : Mm) : Option (Int × Mm) :=
  z_chk s0 (some (s0, μ))
def jX7_isImage_26 (N : Nat) (l0 : Int) (μ : Mm) : Option (Int × Mm) :=
  some (0, μ)
def jX7_isImage (N : Nat) (l0 l1 : Int) (μ : Mm) : Option (Int × Mm) :=
  if l1 < 2 then (jX7_isImage_26 N l0 μ) else ((m_len μ (m_gt μ l0 10)).bind fun x1 =>
if x1 < l1 then (jX7_isImage_26 N l0 μ) else ((m_ald 100 μ (m_gt μ l0 0) 0).bind fun x2 =>
if x2 = (i_sub l1 2) then ((m_ald 100 μ (m_gt μ l0 0) (i_sub l1 1)).bind fun x3 =>
b2 (jX7_checkByte N (m_gt μ l0 0) (i_sub l1 1) μ) fun x4 μ1 =>
if ¬ x3 = x4 then (jX7_isImage_54 N l0 0 μ1) else (jX7_isImage_54 N l0 1 μ1)) else (jX7_isImage_26 N l0 μ)))
-- X7_on
def jX7_on_63 (k33 : Int → Int → Int → Mm → Option (Int × Mm)) (N : Nat) (l0 l1 l2 s0 : Int) (μ : Mm) : Option (Int × Mm) :=
  m_chk 5 μ (m_gt μ l0 6) (
b2 (jX5_add N (m_gt μ l0 6) s0 μ) fun x1 μ1 =>
if ¬ x1 = 0 then (bnd (i_add l2 1) fun x2 =>
k33 l0 l1 x2 μ1) else (some (0, μ1)))
def jX7_on_33b (k33 : Int → Int → Int → Mm → Option (Int × Mm)) (N : Nat) (l0 l1 l2 : Int) (μ : Mm) : Option (Int × Mm) :=
  if (i_sub l1 1) ≤ l2 then (bnd (m_st μ l0 5 (m_gt μ l0 6)) fun μ1 =>
bnd (m_st μ1 l0 6 (m_gt μ l0 5)) fun μ2 =>
(jX7_sheetIsNew N l0 μ2).bind fun μ3 =>
some (1, μ3)) else ((m_ald 100 μ (m_gt μ l0 0) l2).bind fun x1 =>
if ¬ x1 = 200 then ((m_ald 100 μ (m_gt μ l0 0) l2).bind fun x2 =>
jX7_on_63 k33 N l0 l1 l2 x2 μ) else (jX7_on_63 k33 N l0 l1 l2 (-2) μ))
def jX7_on_33 (N : Nat) : Nat → Int → Int → Int → Mm → Option (Int × Mm)
  | 0 => fun _ _ _ _ => none
  | n + 1 => fun l0 l1 l2 μ => jX7_on_33b (jX7_on_33 N n) N l0 l1 l2 μ
def jX7_on (N : Nat) (l0 : Int) (μ : Mm) : Option (Int × Mm) :=
  bnd (m_gt μ l0 1) fun x1 =>
bnd (m_st μ l0 1 0) fun μ1 =>
b2 (jX7_isImage N l0 x1 μ1) fun x2 μ2 =>
if ¬ x2 = 0 then (m_chk 5 μ2 (m_gt μ2 l0 6) (
(jX5_empty N (m_gt μ2 l0 6) (m_gt μ2 l0 2) μ2).bind fun μ3 =>
jX7_on_33 N N l0 x1 1 μ3)) else (some (0, μ2))
