-- L_law
def jL_law_1036 (E : m_E) (k18 : Int → Int → Int → Mm → Option (Int × Mm)) (N : Nat) (l1 l2 l3 : Int) (μ : Mm) : Option (Int × Mm) :=
  bnd (i_add l3 6) fun x1 =>
k18 l1 l2 x1 μ
def jL_law_765 (E : m_E) (k18 : Int → Int → Int → Mm → Option (Int × Mm)) (N : Nat) (l1 l2 l3 s0 s1 s2 s3 s4 : Int) (μ : Mm) : Option (Int × Mm) :=
  m_chk 8 μ s3 (
b2 (jX8_must N s3 s2 s1 s0 μ) fun x1 μ1 =>
if s4 = x1 then (jL_law_1036 E k18 N l1 l2 l3 μ1) else (some (0, μ1)))
def jL_law_738 (E : m_E) (k18 : Int → Int → Int → Mm → Option (Int × Mm)) (N : Nat) (l1 l2 l3 s0 s1 s2 s3 : Int) (μ : Mm) : Option (Int × Mm) :=
  m_chk 7 μ s3 (
b2 (jX7_must N s3 s2 s1 s0 μ) fun x1 μ1 =>
(x_ald E (i_add l3 1)).bind fun x2 =>
(x_ald E (i_add l3 2)).bind fun x3 =>
(x_ald E (i_add l3 3)).bind fun x4 =>
if x4 = 0 then (jL_law_765 E k18 N l1 l2 l3 0 x3 x2 l2 x1 μ1) else (jL_law_765 E k18 N l1 l2 l3 1 x3 x2 l2 x1 μ1))
def jL_law_705 (E : m_E) (k18 : Int → Int → Int → Mm → Option (Int × Mm)) (N : Nat) (l1 l2 l3 s0 s1 s2 s3 : Int) (μ : Mm) : Option (Int × Mm) :=
  m_chk 8 μ s2 (
b2 (jX8_fits N s2 s1 s0 μ) fun x1 μ1 =>
if (l_cmp s3 x1) = 0 then (jL_law_1036 E k18 N l1 l2 l3 μ1) else (some (0, μ1)))
def jL_law_683 (E : m_E) (k18 : Int → Int → Int → Mm → Option (Int × Mm)) (N : Nat) (l1 l2 l3 s0 s1 s2 : Int) (μ : Mm) : Option (Int × Mm) :=
  m_chk 7 μ s2 (
b2 (jX7_fits N s2 s1 s0 μ) fun x1 μ1 =>
(x_ald E (i_add l3 1)).bind fun x2 =>
(x_ald E (i_add l3 2)).bind fun x3 =>
if x3 = 0 then (jL_law_705 E k18 N l1 l2 l3 0 x2 l2 x1 μ1) else (jL_law_705 E k18 N l1 l2 l3 1 x2 l2 x1 μ1))
def jL_law_656 (E : m_E) (k18 : Int → Int → Int → Mm → Option (Int × Mm)) (N : Nat) (l1 l2 l3 s0 s1 s2 s3 : Int) (μ : Mm) : Option (Int × Mm) :=
  m_chk 8 μ s2 (
b2 (jX8_tear N s2 s1 s0 μ) fun x1 μ1 =>
if s3 = x1 then (jL_law_1036 E k18 N l1 l2 l3 μ1) else (some (0, μ1)))
def jL_law_634 (E : m_E) (k18 : Int → Int → Int → Mm → Option (Int × Mm)) (N : Nat) (l1 l2 l3 s0 s1 s2 : Int) (μ : Mm) : Option (Int × Mm) :=
  m_chk 7 μ s2 (
b2 (jX7_tear N s2 s1 s0 μ) fun x1 μ1 =>
(x_ald E (i_add l3 1)).bind fun x2 =>
(x_ald E (i_add l3 2)).bind fun x3 =>
if x3 = 0 then (jL_law_656 E k18 N l1 l2 l3 0 x2 l2 x1 μ1) else (jL_law_656 E k18 N l1 l2 l3 1 x2 l2 x1 μ1))
def jL_law_607 (E : m_E) (k18 : Int → Int → Int → Mm → Option (Int × Mm)) (N : Nat) (l1 l2 l3 s0 s1 s2 s3 : Int) (μ : Mm) : Option (Int × Mm) :=
  m_chk 8 μ s2 (
b2 (jX8_needs N s2 s1 s0 μ) fun x1 μ1 =>
if s3 = x1 then (jL_law_1036 E k18 N l1 l2 l3 μ1) else (some (0, μ1)))
def jL_law_585 (E : m_E) (k18 : Int → Int → Int → Mm → Option (Int × Mm)) (N : Nat) (l1 l2 l3 s0 s1 s2 : Int) (μ : Mm) : Option (Int × Mm) :=
  m_chk 7 μ s2 (
b2 (jX7_needs N s2 s1 s0 μ) fun x1 μ1 =>
(x_ald E (i_add l3 1)).bind fun x2 =>
(x_ald E (i_add l3 2)).bind fun x3 =>
if x3 = 0 then (jL_law_607 E k18 N l1 l2 l3 0 x2 l2 x1 μ1) else (jL_law_607 E k18 N l1 l2 l3 1 x2 l2 x1 μ1))
def jL_law_557 (E : m_E) (k18 : Int → Int → Int → Mm → Option (Int × Mm)) (N : Nat) (l1 l2 l3 s0 s1 s2 s3 : Int) (μ : Mm) : Option (Int × Mm) :=
  m_chk 8 μ s2 (
b2 (jX8_ways N s2 s1 s0 μ) fun x1 μ1 =>
if (l_cmp s3 x1) = 0 then (jL_law_1036 E k18 N l1 l2 l3 μ1) else (some (0, μ1)))
def jL_law_535 (E : m_E) (k18 : Int → Int → Int → Mm → Option (Int × Mm)) (N : Nat) (l1 l2 l3 s0 s1 s2 : Int) (μ : Mm) : Option (Int × Mm) :=
  m_chk 7 μ s2 (
b2 (jX7_ways N s2 s1 s0 μ) fun x1 μ1 =>
(x_ald E (i_add l3 1)).bind fun x2 =>
(x_ald E (i_add l3 2)).bind fun x3 =>
if x3 = 0 then (jL_law_557 E k18 N l1 l2 l3 0 x2 l2 x1 μ1) else (jL_law_557 E k18 N l1 l2 l3 1 x2 l2 x1 μ1))
def jL_law_508 (E : m_E) (k18 : Int → Int → Int → Mm → Option (Int × Mm)) (N : Nat) (l1 l2 l3 s0 s1 s2 : Int) (μ : Mm) : Option (Int × Mm) :=
  m_chk 8 μ s1 (
b2 (jX8_come N s1 s0 μ) fun x1 μ1 =>
if s2 = x1 then (jL_law_1036 E k18 N l1 l2 l3 μ1) else (some (0, μ1)))
def jL_law_491 (E : m_E) (k18 : Int → Int → Int → Mm → Option (Int × Mm)) (N : Nat) (l1 l2 l3 s0 s1 : Int) (μ : Mm) : Option (Int × Mm) :=
  m_chk 7 μ s1 (
b2 (jX7_come N s1 s0 μ) fun x1 μ1 =>
(x_ald E (i_add l3 1)).bind fun x2 =>
if x2 = 0 then (jL_law_508 E k18 N l1 l2 l3 0 l2 x1 μ1) else (jL_law_508 E k18 N l1 l2 l3 1 l2 x1 μ1))
def jL_law_18b (E : m_E) (k18 : Int → Int → Int → Mm → Option (Int × Mm)) (N : Nat) (l1 l2 l3 : Int) (μ : Mm) : Option (Int × Mm) :=
  if (i_sub (x_len E) 6) < l3 then (some (1, μ)) else ((x_ald E l3).bind fun x1 =>
bnd (i_and x1 31) fun x2 =>
if x2 = 0 then ((x_ald E (i_add l3 1)).bind fun x3 =>
(x_ald E (i_add l3 2)).bind fun x4 =>
(x_ald E (i_add l3 3)).bind fun x5 =>
(x_ald E (i_add l3 4)).bind fun x6 =>
(x_ald E (i_add l3 5)).bind fun x7 =>
m_chk 7 μ l1 (
b2 (jX7_feed N l1 x3 x4 x5 x6 x7 μ) fun x8 μ1 =>
(x_ald E (i_add l3 1)).bind fun x9 =>
(x_ald E (i_add l3 2)).bind fun x10 =>
(x_ald E (i_add l3 3)).bind fun x11 =>
(x_ald E (i_add l3 4)).bind fun x12 =>
(x_ald E (i_add l3 5)).bind fun x13 =>
m_chk 8 μ1 l2 (
b2 (jX8_feed N l2 x9 x10 x11 x12 x13 μ1) fun x14 μ2 =>
if x8 = x14 then (jL_law_1036 E k18 N l1 l2 l3 μ2) else (some (0, μ2))))) else (
if x2 = 1 then ((x_ald E (i_add l3 1)).bind fun x15 =>
m_chk 7 μ l1 (
b2 (jX7_end N l1 x15 μ) fun x16 μ3 =>
(x_ald E (i_add l3 1)).bind fun x17 =>
m_chk 8 μ3 l2 (
b2 (jX8_end N l2 x17 μ3) fun x18 μ4 =>
if x16 = x18 then (jL_law_1036 E k18 N l1 l2 l3 μ4) else (some (0, μ4))))) else (
if x2 = 2 then (m_chk 7 μ l1 (
b2 (jX7_game N l1 μ) fun x19 μ5 =>
m_chk 8 μ5 l2 (
b2 (jX8_game N l2 μ5) fun x20 μ6 =>
if x19 = x20 then (jL_law_1036 E k18 N l1 l2 l3 μ6) else (some (0, μ6))))) else (
if x2 = 3 then ((x_ald E (i_add l3 1)).bind fun x21 =>
m_chk 7 μ l1 (
b2 (jX7_fault N l1 x21 μ) fun x22 μ7 =>
(x_ald E (i_add l3 1)).bind fun x23 =>
m_chk 8 μ7 l2 (
b2 (jX8_fault N l2 x23 μ7) fun x24 μ8 =>
if x22 = x24 then (jL_law_1036 E k18 N l1 l2 l3 μ8) else (some (0, μ8))))) else (
if x2 = 4 then ((x_ald E (i_add l3 1)).bind fun x25 =>
m_chk 7 μ l1 (
b2 (jX7_has N l1 x25 μ) fun x26 μ9 =>
(x_ald E (i_add l3 1)).bind fun x27 =>
m_chk 8 μ9 l2 (
b2 (jX8_has N l2 x27 μ9) fun x28 μ10 =>
if x26 = x28 then (jL_law_1036 E k18 N l1 l2 l3 μ10) else (some (0, μ10))))) else (
if x2 = 5 then ((x_ald E (i_add l3 1)).bind fun x29 =>
m_chk 7 μ l1 (
b2 (jX7_roll N l1 x29 μ) fun x30 μ11 =>
(x_ald E (i_add l3 1)).bind fun x31 =>
m_chk 8 μ11 l2 (
b2 (jX8_roll N l2 x31 μ11) fun x32 μ12 =>
if x30 = x32 then (jL_law_1036 E k18 N l1 l2 l3 μ12) else (some (0, μ12))))) else (
if x2 = 6 then (m_chk 7 μ l1 (
b2 (jX7_back N l1 μ) fun x33 μ13 =>
m_chk 8 μ13 l2 (
b2 (jX8_back N l2 μ13) fun x34 μ14 =>
if x33 = x34 then (jL_law_1036 E k18 N l1 l2 l3 μ14) else (some (0, μ14))))) else (
if x2 = 7 then (m_chk 7 μ l1 (
b2 (jX7_clear N l1 μ) fun x35 μ15 =>
m_chk 8 μ15 l2 (
b2 (jX8_clear N l2 μ15) fun x36 μ16 =>
if x35 = x36 then (jL_law_1036 E k18 N l1 l2 l3 μ16) else (some (0, μ16))))) else (
if x2 = 8 then ((x_ald E (i_add l3 1)).bind fun x37 =>
m_chk 7 μ l1 (
b2 (jX7_sheet N l1 x37 μ) fun x38 μ17 =>
(x_ald E (i_add l3 1)).bind fun x39 =>
m_chk 8 μ17 l2 (
b2 (jX8_sheet N l2 x39 μ17) fun x40 μ18 =>
if x38 = x40 then (jL_law_1036 E k18 N l1 l2 l3 μ18) else (some (0, μ18))))) else (
if x2 = 9 then ((x_ald E (i_add l3 1)).bind fun x41 =>
m_chk 7 μ l1 (
b2 (jX7_rolled N l1 x41 μ) fun x42 μ19 =>
(x_ald E (i_add l3 1)).bind fun x43 =>
m_chk 8 μ19 l2 (
b2 (jX8_rolled N l2 x43 μ19) fun x44 μ20 =>
if x42 = x44 then (jL_law_1036 E k18 N l1 l2 l3 μ20) else (some (0, μ20))))) else (
if x2 = 10 then ((x_ald E (i_add l3 1)).bind fun x45 =>
(x_ald E (i_add l3 2)).bind fun x46 =>
m_chk 7 μ l1 (
b2 (jX7_frame N l1 x45 x46 μ) fun x47 μ21 =>
(x_ald E (i_add l3 1)).bind fun x48 =>
(x_ald E (i_add l3 2)).bind fun x49 =>
m_chk 8 μ21 l2 (
b2 (jX8_frame N l2 x48 x49 μ21) fun x50 μ22 =>
if x47 = x50 then (jL_law_1036 E k18 N l1 l2 l3 μ22) else (some (0, μ22))))) else (
if x2 = 11 then ((x_ald E (i_add l3 1)).bind fun x51 =>
m_chk 7 μ l1 (
b2 (jX7_points N l1 x51 μ) fun x52 μ23 =>
(x_ald E (i_add l3 1)).bind fun x53 =>
m_chk 8 μ23 l2 (
b2 (jX8_points N l2 x53 μ23) fun x54 μ24 =>
if x52 = x54 then (jL_law_1036 E k18 N l1 l2 l3 μ24) else (some (0, μ24))))) else (
if x2 = 12 then (m_chk 7 μ l1 (
b2 (jX7_total N l1 μ) fun x55 μ25 =>
m_chk 8 μ25 l2 (
b2 (jX8_total N l2 μ25) fun x56 μ26 =>
if x55 = x56 then (jL_law_1036 E k18 N l1 l2 l3 μ26) else (some (0, μ26))))) else (
if x2 = 13 then ((x_ald E (i_add l3 1)).bind fun x57 =>
if x57 = 0 then (jL_law_491 E k18 N l1 l2 l3 0 l1 μ) else (jL_law_491 E k18 N l1 l2 l3 1 l1 μ)) else (
if x2 = 14 then ((x_ald E (i_add l3 1)).bind fun x58 =>
(x_ald E (i_add l3 2)).bind fun x59 =>
if x59 = 0 then (jL_law_535 E k18 N l1 l2 l3 0 x58 l1 μ) else (jL_law_535 E k18 N l1 l2 l3 1 x58 l1 μ)) else (
if x2 = 15 then ((x_ald E (i_add l3 1)).bind fun x60 =>
(x_ald E (i_add l3 2)).bind fun x61 =>
if x61 = 0 then (jL_law_585 E k18 N l1 l2 l3 0 x60 l1 μ) else (jL_law_585 E k18 N l1 l2 l3 1 x60 l1 μ)) else (
if x2 = 16 then ((x_ald E (i_add l3 1)).bind fun x62 =>
(x_ald E (i_add l3 2)).bind fun x63 =>
if x63 = 0 then (jL_law_634 E k18 N l1 l2 l3 0 x62 l1 μ) else (jL_law_634 E k18 N l1 l2 l3 1 x62 l1 μ)) else (
if x2 = 17 then ((x_ald E (i_add l3 1)).bind fun x64 =>
(x_ald E (i_add l3 2)).bind fun x65 =>
if x65 = 0 then (jL_law_683 E k18 N l1 l2 l3 0 x64 l1 μ) else (jL_law_683 E k18 N l1 l2 l3 1 x64 l1 μ)) else (
if x2 = 18 then ((x_ald E (i_add l3 1)).bind fun x66 =>
(x_ald E (i_add l3 2)).bind fun x67 =>
(x_ald E (i_add l3 3)).bind fun x68 =>
if x68 = 0 then (jL_law_738 E k18 N l1 l2 l3 0 x67 x66 l1 μ) else (jL_law_738 E k18 N l1 l2 l3 1 x67 x66 l1 μ)) else (
if x2 = 19 then ((x_ald E (i_add l3 1)).bind fun x69 =>
(x_ald E (i_add l3 2)).bind fun x70 =>
m_chk 7 μ l1 (
b2 (jX7_falls N l1 x69 x70 μ) fun x71 μ27 =>
(x_ald E (i_add l3 1)).bind fun x72 =>
(x_ald E (i_add l3 2)).bind fun x73 =>
m_chk 8 μ27 l2 (
b2 (jX8_falls N l2 x72 x73 μ27) fun x74 μ28 =>
if x71 = x74 then (jL_law_1036 E k18 N l1 l2 l3 μ28) else (some (0, μ28))))) else (
if x2 = 20 then ((x_ald E (i_add l3 1)).bind fun x75 =>
m_chk 7 μ l1 (
b2 (jX7_split N l1 x75 μ) fun x76 μ29 =>
(x_ald E (i_add l3 1)).bind fun x77 =>
m_chk 8 μ29 l2 (
b2 (jX8_split N l2 x77 μ29) fun x78 μ30 =>
if x76 = x78 then (jL_law_1036 E k18 N l1 l2 l3 μ30) else (some (0, μ30))))) else (
if x2 = 21 then ((x_ald E (i_add l3 1)).bind fun x79 =>
m_chk 7 μ l1 (
b2 (jX7_fewest N l1 x79 μ) fun x80 μ31 =>
(x_ald E (i_add l3 1)).bind fun x81 =>
m_chk 8 μ31 l2 (
b2 (jX8_fewest N l2 x81 μ31) fun x82 μ32 =>
if x80 = x82 then (jL_law_1036 E k18 N l1 l2 l3 μ32) else (some (0, μ32))))) else (
if x2 = 22 then ((x_ald E (i_add l3 1)).bind fun x83 =>
m_chk 7 μ l1 (
b2 (jX7_leaves N l1 x83 μ) fun x84 μ33 =>
(x_ald E (i_add l3 1)).bind fun x85 =>
m_chk 8 μ33 l2 (
b2 (jX8_leaves N l2 x85 μ33) fun x86 μ34 =>
if x84 = x86 then (jL_law_1036 E k18 N l1 l2 l3 μ34) else (some (0, μ34))))) else (
if x2 = 23 then ((x_ald E (i_add l3 1)).bind fun x87 =>
m_chk 7 μ l1 (
b2 (jX7_keep N l1 x87 μ) fun x88 μ35 =>
(x_ald E (i_add l3 1)).bind fun x89 =>
m_chk 8 μ35 l2 (
b2 (jX8_keep N l2 x89 μ35) fun x90 μ36 =>
if x88 = x90 then (jL_law_1036 E k18 N l1 l2 l3 μ36) else (some (0, μ36))))) else (
if x2 = 24 then ((x_ald E (i_add l3 1)).bind fun x91 =>
(x_ald E (i_add l3 2)).bind fun x92 =>
m_chk 7 μ l1 (
b2 (jX7_player N l1 x91 x92 μ) fun x93 μ37 =>
(x_ald E (i_add l3 1)).bind fun x94 =>
(x_ald E (i_add l3 2)).bind fun x95 =>
m_chk 8 μ37 l2 (
b2 (jX8_player N l2 x94 x95 μ37) fun x96 μ38 =>
if x93 = x96 then (jL_law_1036 E k18 N l1 l2 l3 μ38) else (some (0, μ38))))) else (
if x2 = 25 then ((x_ald E (i_add l3 1)).bind fun x97 =>
(x_ald E (i_add l3 2)).bind fun x98 =>
m_chk 7 μ l1 (
b2 (jX7_meet N l1 x97 x98 μ) fun x99 μ39 =>
(x_ald E (i_add l3 1)).bind fun x100 =>
(x_ald E (i_add l3 2)).bind fun x101 =>
m_chk 8 μ39 l2 (
b2 (jX8_meet N l2 x100 x101 μ39) fun x102 μ40 =>
if x99 = x102 then (jL_law_1036 E k18 N l1 l2 l3 μ40) else (some (0, μ40))))) else (
if x2 = 26 then ((x_ald E (i_add l3 1)).bind fun x103 =>
m_chk 7 μ l1 (
b2 (jX7_place N l1 x103 μ) fun x104 μ41 =>
(x_ald E (i_add l3 1)).bind fun x105 =>
m_chk 8 μ41 l2 (
b2 (jX8_place N l2 x105 μ41) fun x106 μ42 =>
if x104 = x106 then (jL_law_1036 E k18 N l1 l2 l3 μ42) else (some (0, μ42))))) else (
if x2 = 27 then (m_chk 7 μ l1 (
b2 (jX7_image N l1 μ) fun x107 μ43 =>
m_chk 8 μ43 l2 (
b2 (jX8_image N l2 μ43) fun x108 μ44 =>
if x107 = x108 then (jL_law_1036 E k18 N l1 l2 l3 μ44) else (some (0, μ44))))) else (
if x2 = 28 then ((x_ald E (i_add l3 1)).bind fun x109 =>
m_chk 7 μ l1 (
b2 (jX7_octet N l1 x109 μ) fun x110 μ45 =>
(x_ald E (i_add l3 1)).bind fun x111 =>
m_chk 8 μ45 l2 (
b2 (jX8_octet N l2 x111 μ45) fun x112 μ46 =>
if x110 = x112 then (jL_law_1036 E k18 N l1 l2 l3 μ46) else (some (0, μ46))))) else (
if x2 = 29 then (m_chk 7 μ l1 (
b2 (jX7_on N l1 μ) fun x113 μ47 =>
m_chk 8 μ47 l2 (
b2 (jX8_on N l2 μ47) fun x114 μ48 =>
if x113 = x114 then (jL_law_1036 E k18 N l1 l2 l3 μ48) else (some (0, μ48))))) else (
jL_law_1036 E k18 N l1 l2 l3 μ)))))))))))))))))))))))))))))))
def jL_law_18 (E : m_E) (N : Nat) : Nat → Int → Int → Int → Mm → Option (Int × Mm)
  | 0 => fun _ _ _ _ => none
  | n + 1 => fun l1 l2 l3 μ => jL_law_18b E (jL_law_18 E N n) N l1 l2 l3 μ
def jL_law (E : m_E) (N : Nat) (μ : Mm) : Option (Int × Mm) :=
  bnd (m_nw μ 7 0 12) fun μ1 =>
(jX7_init N (m_sz μ : Int) μ1).bind fun μ2 =>
bnd (m_nw μ2 8 0 86) fun μ3 =>
(jX8_init N (m_sz μ2 : Int) μ3).bind fun μ4 =>
jL_law_18 E N N (m_sz μ : Int) (m_sz μ2 : Int) 0 μ4
