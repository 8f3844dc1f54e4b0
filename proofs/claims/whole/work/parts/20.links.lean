/-! ===== words of the tables that the walks use ===== -/
theorem mT1 {w : Cond} (h : w ∈ tables_1_1) (g : goodWord w = true) : w ∈ m_tb := List.mem_filter.mpr ⟨List.mem_append_right _ (List.mem_append_left _ h), g⟩
theorem mT2 {w : Cond} (h : w ∈ tables_1_2) (g : goodWord w = true) : w ∈ m_tb := List.mem_filter.mpr ⟨List.mem_append_right _ (List.mem_append_right _ (List.mem_append_left _ h)), g⟩
theorem mT3 {w : Cond} (h : w ∈ tables_1_3) (g : goodWord w = true) : w ∈ m_tb := List.mem_filter.mpr ⟨List.mem_append_right _ (List.mem_append_right _ (List.mem_append_right _ (List.mem_append_left _ h))), g⟩
theorem mT4 {w : Cond} (h : w ∈ tables_1_4) (g : goodWord w = true) : w ∈ m_tb := List.mem_filter.mpr ⟨List.mem_append_right _ (List.mem_append_right _ (List.mem_append_right _ (List.mem_append_right _ (List.mem_append_left _ h)))), g⟩
theorem mT5 {w : Cond} (h : w ∈ tables_1_5) (g : goodWord w = true) : w ∈ m_tb := List.mem_filter.mpr ⟨List.mem_append_right _ (List.mem_append_right _ (List.mem_append_right _ (List.mem_append_right _ (List.mem_append_right _ (List.mem_append_left _ h))))), g⟩
theorem mT6 {w : Cond} (h : w ∈ tables_1_6) (g : goodWord w = true) : w ∈ m_tb := List.mem_filter.mpr ⟨List.mem_append_right _ (List.mem_append_right _ (List.mem_append_right _ (List.mem_append_right _ (List.mem_append_right _ (List.mem_append_right _ (List.mem_append_left _ h)))))), g⟩
theorem mT7 {w : Cond} (h : w ∈ tables_1_7) (g : goodWord w = true) : w ∈ m_tb := List.mem_filter.mpr ⟨List.mem_append_right _ (List.mem_append_right _ (List.mem_append_right _ (List.mem_append_right _ (List.mem_append_right _ (List.mem_append_right _ (List.mem_append_right _ (List.mem_append_left _ h))))))), g⟩
theorem mT8 {w : Cond} (h : w ∈ tables_1_8) (g : goodWord w = true) : w ∈ m_tb := List.mem_filter.mpr ⟨List.mem_append_right _ (List.mem_append_right _ (List.mem_append_right _ (List.mem_append_right _ (List.mem_append_right _ (List.mem_append_right _ (List.mem_append_right _ (List.mem_append_right _ (h)))))))), g⟩
theorem mP1 {q : MethodName × Nat} (h : q ∈ lw_privs_1) : Cond.selects q.1.cls q.1 q.1 ∈ m_tb := List.mem_filter.mpr ⟨List.mem_append_left _ (List.mem_map.mpr ⟨q, List.mem_append_left _ h, rfl⟩), rfl⟩
theorem mP2 {q : MethodName × Nat} (h : q ∈ lw_privs_2) : Cond.selects q.1.cls q.1 q.1 ∈ m_tb := List.mem_filter.mpr ⟨List.mem_append_left _ (List.mem_map.mpr ⟨q, List.mem_append_right _ (List.mem_append_left _ h), rfl⟩), rfl⟩
theorem mP3 {q : MethodName × Nat} (h : q ∈ lw_privs_3) : Cond.selects q.1.cls q.1 q.1 ∈ m_tb := List.mem_filter.mpr ⟨List.mem_append_left _ (List.mem_map.mpr ⟨q, List.mem_append_right _ (List.mem_append_right _ (List.mem_append_left _ h)), rfl⟩), rfl⟩
theorem mP4 {q : MethodName × Nat} (h : q ∈ lw_privs_4) : Cond.selects q.1.cls q.1 q.1 ∈ m_tb := List.mem_filter.mpr ⟨List.mem_append_left _ (List.mem_map.mpr ⟨q, List.mem_append_right _ (List.mem_append_right _ (List.mem_append_right _ (List.mem_append_left _ h))), rfl⟩), rfl⟩
theorem mP5 {q : MethodName × Nat} (h : q ∈ lw_privs_5) : Cond.selects q.1.cls q.1 q.1 ∈ m_tb := List.mem_filter.mpr ⟨List.mem_append_left _ (List.mem_map.mpr ⟨q, List.mem_append_right _ (List.mem_append_right _ (List.mem_append_right _ (List.mem_append_right _ (List.mem_append_left _ h)))), rfl⟩), rfl⟩
theorem mP6 {q : MethodName × Nat} (h : q ∈ lw_privs_6) : Cond.selects q.1.cls q.1 q.1 ∈ m_tb := List.mem_filter.mpr ⟨List.mem_append_left _ (List.mem_map.mpr ⟨q, List.mem_append_right _ (List.mem_append_right _ (List.mem_append_right _ (List.mem_append_right _ (List.mem_append_right _ (List.mem_append_left _ h))))), rfl⟩), rfl⟩
theorem mP7 {q : MethodName × Nat} (h : q ∈ lw_privs_7) : Cond.selects q.1.cls q.1 q.1 ∈ m_tb := List.mem_filter.mpr ⟨List.mem_append_left _ (List.mem_map.mpr ⟨q, List.mem_append_right _ (List.mem_append_right _ (List.mem_append_right _ (List.mem_append_right _ (List.mem_append_right _ (List.mem_append_right _ (h)))))), rfl⟩), rfl⟩
theorem okI_b (n : Int) (h : (decide (-2147483648 ≤ n) && decide (n ≤ 2147483647)) = true) : okI n := by simpa [okI] using h
theorem okJ_b (n : Int) (h : (decide (-9223372036854775808 ≤ n) && decide (n ≤ 9223372036854775807)) = true) : okJ n := by simpa [okJ] using h
theorem g0_0 : 0 < 9 ∧ 0 < f_n 0 := by decide
theorem g0_1 : 0 < 9 ∧ 1 < f_n 0 := by decide
theorem g0_2 : 0 < 9 ∧ 2 < f_n 0 := by decide
theorem g0_3 : 0 < 9 ∧ 3 < f_n 0 := by decide
theorem g0_4 : 0 < 9 ∧ 4 < f_n 0 := by decide
theorem g1_0 : 1 < 9 ∧ 0 < f_n 1 := by decide
theorem g1_1 : 1 < 9 ∧ 1 < f_n 1 := by decide
theorem g1_2 : 1 < 9 ∧ 2 < f_n 1 := by decide
theorem g1_3 : 1 < 9 ∧ 3 < f_n 1 := by decide
theorem g1_4 : 1 < 9 ∧ 4 < f_n 1 := by decide
theorem g1_5 : 1 < 9 ∧ 5 < f_n 1 := by decide
theorem g1_6 : 1 < 9 ∧ 6 < f_n 1 := by decide
theorem g1_7 : 1 < 9 ∧ 7 < f_n 1 := by decide
theorem g1_8 : 1 < 9 ∧ 8 < f_n 1 := by decide
theorem g1_9 : 1 < 9 ∧ 9 < f_n 1 := by decide
theorem g1_10 : 1 < 9 ∧ 10 < f_n 1 := by decide
theorem g1_11 : 1 < 9 ∧ 11 < f_n 1 := by decide
theorem g1_12 : 1 < 9 ∧ 12 < f_n 1 := by decide
theorem g1_13 : 1 < 9 ∧ 13 < f_n 1 := by decide
theorem g1_14 : 1 < 9 ∧ 14 < f_n 1 := by decide
theorem g2_0 : 2 < 9 ∧ 0 < f_n 2 := by decide
theorem g2_1 : 2 < 9 ∧ 1 < f_n 2 := by decide
theorem g2_2 : 2 < 9 ∧ 2 < f_n 2 := by decide
theorem g2_3 : 2 < 9 ∧ 3 < f_n 2 := by decide
theorem g2_4 : 2 < 9 ∧ 4 < f_n 2 := by decide
theorem g2_5 : 2 < 9 ∧ 5 < f_n 2 := by decide
theorem g2_6 : 2 < 9 ∧ 6 < f_n 2 := by decide
theorem g2_7 : 2 < 9 ∧ 7 < f_n 2 := by decide
theorem g2_8 : 2 < 9 ∧ 8 < f_n 2 := by decide
theorem g2_9 : 2 < 9 ∧ 9 < f_n 2 := by decide
theorem g2_10 : 2 < 9 ∧ 10 < f_n 2 := by decide
theorem g2_11 : 2 < 9 ∧ 11 < f_n 2 := by decide
theorem g2_12 : 2 < 9 ∧ 12 < f_n 2 := by decide
theorem g2_13 : 2 < 9 ∧ 13 < f_n 2 := by decide
theorem g3_0 : 3 < 9 ∧ 0 < f_n 3 := by decide
theorem g3_1 : 3 < 9 ∧ 1 < f_n 3 := by decide
theorem g3_2 : 3 < 9 ∧ 2 < f_n 3 := by decide
theorem g3_3 : 3 < 9 ∧ 3 < f_n 3 := by decide
theorem g3_4 : 3 < 9 ∧ 4 < f_n 3 := by decide
theorem g3_5 : 3 < 9 ∧ 5 < f_n 3 := by decide
theorem g4_0 : 4 < 9 ∧ 0 < f_n 4 := by decide
theorem g4_1 : 4 < 9 ∧ 1 < f_n 4 := by decide
theorem g4_2 : 4 < 9 ∧ 2 < f_n 4 := by decide
theorem g5_0 : 5 < 9 ∧ 0 < f_n 5 := by decide
theorem g5_1 : 5 < 9 ∧ 1 < f_n 5 := by decide
theorem g5_2 : 5 < 9 ∧ 2 < f_n 5 := by decide
theorem g5_3 : 5 < 9 ∧ 3 < f_n 5 := by decide
theorem g5_4 : 5 < 9 ∧ 4 < f_n 5 := by decide
theorem g5_5 : 5 < 9 ∧ 5 < f_n 5 := by decide
theorem g5_6 : 5 < 9 ∧ 6 < f_n 5 := by decide
theorem g5_7 : 5 < 9 ∧ 7 < f_n 5 := by decide
theorem g6_0 : 6 < 9 ∧ 0 < f_n 6 := by decide
theorem g6_1 : 6 < 9 ∧ 1 < f_n 6 := by decide
theorem g6_2 : 6 < 9 ∧ 2 < f_n 6 := by decide
theorem g6_3 : 6 < 9 ∧ 3 < f_n 6 := by decide
theorem g7_0 : 7 < 9 ∧ 0 < f_n 7 := by decide
theorem g7_1 : 7 < 9 ∧ 1 < f_n 7 := by decide
theorem g7_2 : 7 < 9 ∧ 2 < f_n 7 := by decide
theorem g7_3 : 7 < 9 ∧ 3 < f_n 7 := by decide
theorem g7_4 : 7 < 9 ∧ 4 < f_n 7 := by decide
theorem g7_5 : 7 < 9 ∧ 5 < f_n 7 := by decide
theorem g7_6 : 7 < 9 ∧ 6 < f_n 7 := by decide
theorem g7_7 : 7 < 9 ∧ 7 < f_n 7 := by decide
theorem g7_8 : 7 < 9 ∧ 8 < f_n 7 := by decide
theorem g7_9 : 7 < 9 ∧ 9 < f_n 7 := by decide
theorem g7_10 : 7 < 9 ∧ 10 < f_n 7 := by decide
theorem g7_11 : 7 < 9 ∧ 11 < f_n 7 := by decide
theorem g8_0 : 8 < 9 ∧ 0 < f_n 8 := by decide
theorem g8_1 : 8 < 9 ∧ 1 < f_n 8 := by decide
theorem g8_2 : 8 < 9 ∧ 2 < f_n 8 := by decide
theorem g8_3 : 8 < 9 ∧ 3 < f_n 8 := by decide
theorem g8_4 : 8 < 9 ∧ 4 < f_n 8 := by decide
theorem g8_5 : 8 < 9 ∧ 5 < f_n 8 := by decide
theorem g8_6 : 8 < 9 ∧ 6 < f_n 8 := by decide
theorem g8_7 : 8 < 9 ∧ 7 < f_n 8 := by decide
theorem g8_8 : 8 < 9 ∧ 8 < f_n 8 := by decide
theorem g8_9 : 8 < 9 ∧ 9 < f_n 8 := by decide
theorem g8_10 : 8 < 9 ∧ 10 < f_n 8 := by decide
theorem g8_11 : 8 < 9 ∧ 11 < f_n 8 := by decide
theorem g8_12 : 8 < 9 ∧ 12 < f_n 8 := by decide
theorem g8_13 : 8 < 9 ∧ 13 < f_n 8 := by decide
theorem g8_14 : 8 < 9 ∧ 14 < f_n 8 := by decide
theorem g8_15 : 8 < 9 ∧ 15 < f_n 8 := by decide
theorem g8_16 : 8 < 9 ∧ 16 < f_n 8 := by decide
theorem g8_17 : 8 < 9 ∧ 17 < f_n 8 := by decide
theorem g8_18 : 8 < 9 ∧ 18 < f_n 8 := by decide
theorem g8_19 : 8 < 9 ∧ 19 < f_n 8 := by decide
theorem g8_20 : 8 < 9 ∧ 20 < f_n 8 := by decide
theorem g8_21 : 8 < 9 ∧ 21 < f_n 8 := by decide
theorem g8_22 : 8 < 9 ∧ 22 < f_n 8 := by decide
theorem g8_23 : 8 < 9 ∧ 23 < f_n 8 := by decide
theorem g8_24 : 8 < 9 ∧ 24 < f_n 8 := by decide
theorem g8_25 : 8 < 9 ∧ 25 < f_n 8 := by decide
theorem g8_26 : 8 < 9 ∧ 26 < f_n 8 := by decide
theorem g8_27 : 8 < 9 ∧ 27 < f_n 8 := by decide
theorem g8_28 : 8 < 9 ∧ 28 < f_n 8 := by decide
theorem g8_29 : 8 < 9 ∧ 29 < f_n 8 := by decide
theorem g8_30 : 8 < 9 ∧ 30 < f_n 8 := by decide
theorem g8_31 : 8 < 9 ∧ 31 < f_n 8 := by decide
theorem g8_32 : 8 < 9 ∧ 32 < f_n 8 := by decide
theorem g8_33 : 8 < 9 ∧ 33 < f_n 8 := by decide
theorem g8_34 : 8 < 9 ∧ 34 < f_n 8 := by decide
theorem g8_35 : 8 < 9 ∧ 35 < f_n 8 := by decide
theorem g8_36 : 8 < 9 ∧ 36 < f_n 8 := by decide
theorem g8_37 : 8 < 9 ∧ 37 < f_n 8 := by decide
theorem g8_38 : 8 < 9 ∧ 38 < f_n 8 := by decide
theorem g8_39 : 8 < 9 ∧ 39 < f_n 8 := by decide
theorem g8_40 : 8 < 9 ∧ 40 < f_n 8 := by decide
theorem g8_41 : 8 < 9 ∧ 41 < f_n 8 := by decide
theorem g8_42 : 8 < 9 ∧ 42 < f_n 8 := by decide
theorem g8_43 : 8 < 9 ∧ 43 < f_n 8 := by decide
theorem g8_44 : 8 < 9 ∧ 44 < f_n 8 := by decide
theorem g8_45 : 8 < 9 ∧ 45 < f_n 8 := by decide
theorem g8_46 : 8 < 9 ∧ 46 < f_n 8 := by decide
theorem g8_47 : 8 < 9 ∧ 47 < f_n 8 := by decide
theorem g8_48 : 8 < 9 ∧ 48 < f_n 8 := by decide
theorem g8_49 : 8 < 9 ∧ 49 < f_n 8 := by decide
theorem g8_50 : 8 < 9 ∧ 50 < f_n 8 := by decide
theorem g8_51 : 8 < 9 ∧ 51 < f_n 8 := by decide
theorem g8_52 : 8 < 9 ∧ 52 < f_n 8 := by decide
theorem g8_53 : 8 < 9 ∧ 53 < f_n 8 := by decide
theorem g8_54 : 8 < 9 ∧ 54 < f_n 8 := by decide
theorem g8_55 : 8 < 9 ∧ 55 < f_n 8 := by decide
theorem g8_56 : 8 < 9 ∧ 56 < f_n 8 := by decide
theorem g8_57 : 8 < 9 ∧ 57 < f_n 8 := by decide
theorem g8_58 : 8 < 9 ∧ 58 < f_n 8 := by decide
theorem g8_59 : 8 < 9 ∧ 59 < f_n 8 := by decide
theorem g8_60 : 8 < 9 ∧ 60 < f_n 8 := by decide
theorem g8_61 : 8 < 9 ∧ 61 < f_n 8 := by decide
theorem g8_62 : 8 < 9 ∧ 62 < f_n 8 := by decide
theorem g8_63 : 8 < 9 ∧ 63 < f_n 8 := by decide
theorem g8_64 : 8 < 9 ∧ 64 < f_n 8 := by decide
theorem g8_65 : 8 < 9 ∧ 65 < f_n 8 := by decide
theorem g8_66 : 8 < 9 ∧ 66 < f_n 8 := by decide
theorem g8_67 : 8 < 9 ∧ 67 < f_n 8 := by decide
theorem g8_68 : 8 < 9 ∧ 68 < f_n 8 := by decide
theorem g8_69 : 8 < 9 ∧ 69 < f_n 8 := by decide
theorem g8_70 : 8 < 9 ∧ 70 < f_n 8 := by decide
theorem g8_71 : 8 < 9 ∧ 71 < f_n 8 := by decide
theorem g8_72 : 8 < 9 ∧ 72 < f_n 8 := by decide
theorem g8_73 : 8 < 9 ∧ 73 < f_n 8 := by decide
theorem g8_74 : 8 < 9 ∧ 74 < f_n 8 := by decide
theorem g8_75 : 8 < 9 ∧ 75 < f_n 8 := by decide
theorem g8_76 : 8 < 9 ∧ 76 < f_n 8 := by decide
theorem g8_77 : 8 < 9 ∧ 77 < f_n 8 := by decide
theorem g8_78 : 8 < 9 ∧ 78 < f_n 8 := by decide
theorem g8_79 : 8 < 9 ∧ 79 < f_n 8 := by decide
theorem g8_80 : 8 < 9 ∧ 80 < f_n 8 := by decide
theorem g8_81 : 8 < 9 ∧ 81 < f_n 8 := by decide
theorem g8_82 : 8 < 9 ∧ 82 < f_n 8 := by decide
theorem g8_83 : 8 < 9 ∧ 83 < f_n 8 := by decide
theorem g8_84 : 8 < 9 ∧ 84 < f_n 8 := by decide
theorem g8_85 : 8 < 9 ∧ 85 < f_n 8 := by decide
theorem fRX7_9 : Cond.fieldLink RX7 9 (cn 7) (fT 7 0).2.1 (fT 7 0).2.2.1 ∈ m_tb := mT2 (List.mem_of_getElem? (i := 46) rfl) rfl
theorem fRX7_13 : Cond.fieldLink RX7 13 (cn 7) (fT 7 1).2.1 (fT 7 1).2.2.1 ∈ m_tb := mT2 (List.mem_of_getElem? (i := 47) rfl) rfl
theorem fRX7_20 : Cond.fieldLink RX7 20 (cn 7) (fT 7 2).2.1 (fT 7 2).2.2.1 ∈ m_tb := mT2 (List.mem_of_getElem? (i := 48) rfl) rfl
theorem fRX7_24 : Cond.fieldLink RX7 24 (cn 7) (fT 7 3).2.1 (fT 7 3).2.2.1 ∈ m_tb := mT2 (List.mem_of_getElem? (i := 49) rfl) rfl
theorem fRX7_32 : Cond.fieldLink RX7 32 (cn 7) (fT 7 4).2.1 (fT 7 4).2.2.1 ∈ m_tb := mT2 (List.mem_of_getElem? (i := 50) rfl) rfl
theorem fRX7_39 : Cond.fieldLink RX7 39 (cn 7) (fT 7 5).2.1 (fT 7 5).2.2.1 ∈ m_tb := mT2 (List.mem_of_getElem? (i := 51) rfl) rfl
theorem fRX7_43 : Cond.fieldLink RX7 43 (cn 7) (fT 7 6).2.1 (fT 7 6).2.2.1 ∈ m_tb := mT2 (List.mem_of_getElem? (i := 52) rfl) rfl
theorem fRX7_46 : Cond.fieldLink RX7 46 (cn 7) (fT 7 7).2.1 (fT 7 7).2.2.1 ∈ m_tb := mT2 (List.mem_of_getElem? (i := 53) rfl) rfl
theorem fRX7_55 : Cond.fieldLink RX7 55 (cn 7) (fT 7 8).2.1 (fT 7 8).2.2.1 ∈ m_tb := mT2 (List.mem_of_getElem? (i := 54) rfl) rfl
theorem fRX7_62 : Cond.fieldLink RX7 62 (cn 7) (fT 7 9).2.1 (fT 7 9).2.2.1 ∈ m_tb := mT2 (List.mem_of_getElem? (i := 55) rfl) rfl
theorem fRX7_66 : Cond.fieldLink RX7 66 (cn 7) (fT 7 10).2.1 (fT 7 10).2.2.1 ∈ m_tb := mT2 (List.mem_of_getElem? (i := 56) rfl) rfl
theorem fRX7_69 : Cond.fieldLink RX7 69 (cn 7) (fT 7 11).2.1 (fT 7 11).2.2.1 ∈ m_tb := mT2 (List.mem_of_getElem? (i := 57) rfl) rfl
theorem fRX7_92 : Cond.fieldLink RX7 92 (cn 1) (fT 1 0).2.1 (fT 1 0).2.2.1 ∈ m_tb := mT1 (List.mem_of_getElem? (i := 63) rfl) rfl
theorem fRX7_95 : Cond.fieldLink RX7 95 (cn 3) (fT 3 0).2.1 (fT 3 0).2.2.1 ∈ m_tb := mT1 (List.mem_of_getElem? (i := 134) rfl) rfl
theorem fRX7_98 : Cond.fieldLink RX7 98 (cn 3) (fT 3 1).2.1 (fT 3 1).2.2.1 ∈ m_tb := mT1 (List.mem_of_getElem? (i := 136) rfl) rfl
theorem fRX7_101 : Cond.fieldLink RX7 101 (cn 1) (fT 1 1).2.1 (fT 1 1).2.2.1 ∈ m_tb := mT1 (List.mem_of_getElem? (i := 67) rfl) rfl
theorem fRX7_104 : Cond.fieldLink RX7 104 (cn 1) (fT 1 2).2.1 (fT 1 2).2.2.1 ∈ m_tb := mT1 (List.mem_of_getElem? (i := 73) rfl) rfl
theorem fRX7_107 : Cond.fieldLink RX7 107 (cn 1) (fT 1 3).2.1 (fT 1 3).2.2.1 ∈ m_tb := mT1 (List.mem_of_getElem? (i := 77) rfl) rfl
theorem fRX7_110 : Cond.fieldLink RX7 110 (cn 1) (fT 1 4).2.1 (fT 1 4).2.2.1 ∈ m_tb := mT1 (List.mem_of_getElem? (i := 81) rfl) rfl
theorem fRX7_117 : Cond.fieldLink RX7 117 (cn 1) (fT 1 5).2.1 (fT 1 5).2.2.1 ∈ m_tb := mT1 (List.mem_of_getElem? (i := 85) rfl) rfl
theorem fRX7_132 : Cond.fieldLink RX7 132 (cn 5) (fT 5 1).2.1 (fT 5 1).2.2.1 ∈ m_tb := mT1 (List.mem_of_getElem? (i := 167) rfl) rfl
theorem fRX7_138 : Cond.fieldLink RX7 138 (cn 5) (fT 5 2).2.1 (fT 5 2).2.2.1 ∈ m_tb := mT1 (List.mem_of_getElem? (i := 170) rfl) rfl
theorem fRX7_141 : Cond.fieldLink RX7 141 (cn 5) (fT 5 3).2.1 (fT 5 3).2.2.1 ∈ m_tb := mT1 (List.mem_of_getElem? (i := 173) rfl) rfl
theorem fRX7_144 : Cond.fieldLink RX7 144 (cn 5) (fT 5 4).2.1 (fT 5 4).2.2.1 ∈ m_tb := mT1 (List.mem_of_getElem? (i := 175) rfl) rfl
theorem fRX7_150 : Cond.fieldLink RX7 150 (cn 5) (fT 5 0).2.1 (fT 5 0).2.2.1 ∈ m_tb := mT1 (List.mem_of_getElem? (i := 165) rfl) rfl
theorem fRX0_9 : Cond.fieldLink RX0 9 (cn 0) (fT 0 0).2.1 (fT 0 0).2.2.1 ∈ m_tb := mT1 (List.mem_of_getElem? (i := 36) rfl) rfl
theorem fRX0_15 : Cond.fieldLink RX0 15 (cn 0) (fT 0 1).2.1 (fT 0 1).2.2.1 ∈ m_tb := mT1 (List.mem_of_getElem? (i := 37) rfl) rfl
theorem fRX0_19 : Cond.fieldLink RX0 19 (cn 0) (fT 0 2).2.1 (fT 0 2).2.2.1 ∈ m_tb := mT1 (List.mem_of_getElem? (i := 38) rfl) rfl
theorem fRX0_22 : Cond.fieldLink RX0 22 (cn 0) (fT 0 3).2.1 (fT 0 3).2.2.1 ∈ m_tb := mT1 (List.mem_of_getElem? (i := 39) rfl) rfl
theorem fRX0_25 : Cond.fieldLink RX0 25 (cn 0) (fT 0 4).2.1 (fT 0 4).2.2.1 ∈ m_tb := mT1 (List.mem_of_getElem? (i := 40) rfl) rfl
theorem fRX1_12 : Cond.fieldLink RX1 12 (cn 1) (fT 1 6).2.1 (fT 1 6).2.2.1 ∈ m_tb := mT1 (List.mem_of_getElem? (i := 86) rfl) rfl
theorem fRX1_18 : Cond.fieldLink RX1 18 (cn 1) (fT 1 7).2.1 (fT 1 7).2.2.1 ∈ m_tb := mT1 (List.mem_of_getElem? (i := 88) rfl) rfl
theorem fRX1_22 : Cond.fieldLink RX1 22 (cn 1) (fT 1 8).2.1 (fT 1 8).2.2.1 ∈ m_tb := mT1 (List.mem_of_getElem? (i := 89) rfl) rfl
theorem fRX1_25 : Cond.fieldLink RX1 25 (cn 1) (fT 1 9).2.1 (fT 1 9).2.2.1 ∈ m_tb := mT1 (List.mem_of_getElem? (i := 90) rfl) rfl
theorem fRX1_28 : Cond.fieldLink RX1 28 (cn 1) (fT 1 10).2.1 (fT 1 10).2.2.1 ∈ m_tb := mT1 (List.mem_of_getElem? (i := 91) rfl) rfl
theorem fRX1_31 : Cond.fieldLink RX1 31 (cn 1) (fT 1 11).2.1 (fT 1 11).2.2.1 ∈ m_tb := mT1 (List.mem_of_getElem? (i := 92) rfl) rfl
theorem fRX1_34 : Cond.fieldLink RX1 34 (cn 1) (fT 1 14).2.1 (fT 1 14).2.2.1 ∈ m_tb := mT1 (List.mem_of_getElem? (i := 95) rfl) rfl
theorem fRX1_40 : Cond.fieldLink RX1 40 (cn 1) (fT 1 0).2.1 (fT 1 0).2.2.1 ∈ m_tb := mT1 (List.mem_of_getElem? (i := 61) rfl) rfl
theorem fRX1_44 : Cond.fieldLink RX1 44 (cn 1) (fT 1 1).2.1 (fT 1 1).2.2.1 ∈ m_tb := mT1 (List.mem_of_getElem? (i := 64) rfl) rfl
theorem fRX1_47 : Cond.fieldLink RX1 47 (cn 1) (fT 1 2).2.1 (fT 1 2).2.2.1 ∈ m_tb := mT1 (List.mem_of_getElem? (i := 69) rfl) rfl
theorem fRX1_50 : Cond.fieldLink RX1 50 (cn 1) (fT 1 3).2.1 (fT 1 3).2.2.1 ∈ m_tb := mT1 (List.mem_of_getElem? (i := 74) rfl) rfl
theorem fRX1_53 : Cond.fieldLink RX1 53 (cn 1) (fT 1 4).2.1 (fT 1 4).2.2.1 ∈ m_tb := mT1 (List.mem_of_getElem? (i := 79) rfl) rfl
theorem fRX1_56 : Cond.fieldLink RX1 56 (cn 1) (fT 1 5).2.1 (fT 1 5).2.2.1 ∈ m_tb := mT1 (List.mem_of_getElem? (i := 84) rfl) rfl
theorem fRX1_60 : Cond.fieldLink RX1 60 (cn 1) (fT 1 12).2.1 (fT 1 12).2.2.1 ∈ m_tb := mT1 (List.mem_of_getElem? (i := 93) rfl) rfl
theorem fRX1_63 : Cond.fieldLink RX1 63 (cn 1) (fT 1 13).2.1 (fT 1 13).2.2.1 ∈ m_tb := mT1 (List.mem_of_getElem? (i := 94) rfl) rfl
theorem fRX2_11 : Cond.fieldLink RX2 11 (cn 2) (fT 2 0).2.1 (fT 2 0).2.2.1 ∈ m_tb := mT1 (List.mem_of_getElem? (i := 227) rfl) rfl
theorem fRX2_20 : Cond.fieldLink RX2 20 (cn 2) (fT 2 1).2.1 (fT 2 1).2.2.1 ∈ m_tb := mT1 (List.mem_of_getElem? (i := 228) rfl) rfl
theorem fRX2_24 : Cond.fieldLink RX2 24 (cn 2) (fT 2 2).2.1 (fT 2 2).2.2.1 ∈ m_tb := mT1 (List.mem_of_getElem? (i := 229) rfl) rfl
theorem fRX2_27 : Cond.fieldLink RX2 27 (cn 2) (fT 2 5).2.1 (fT 2 5).2.2.1 ∈ m_tb := mT1 (List.mem_of_getElem? (i := 232) rfl) rfl
theorem fRX2_31 : Cond.fieldLink RX2 31 (cn 2) (fT 2 6).2.1 (fT 2 6).2.2.1 ∈ m_tb := mT1 (List.mem_of_getElem? (i := 233) rfl) rfl
theorem fRX2_35 : Cond.fieldLink RX2 35 (cn 2) (fT 2 7).2.1 (fT 2 7).2.2.1 ∈ m_tb := mT1 (List.mem_of_getElem? (i := 234) rfl) rfl
theorem fRX2_38 : Cond.fieldLink RX2 38 (cn 2) (fT 2 8).2.1 (fT 2 8).2.2.1 ∈ m_tb := mT1 (List.mem_of_getElem? (i := 235) rfl) rfl
theorem fRX2_41 : Cond.fieldLink RX2 41 (cn 2) (fT 2 9).2.1 (fT 2 9).2.2.1 ∈ m_tb := mT1 (List.mem_of_getElem? (i := 236) rfl) rfl
theorem fRX2_44 : Cond.fieldLink RX2 44 (cn 2) (fT 2 10).2.1 (fT 2 10).2.2.1 ∈ m_tb := mT1 (List.mem_of_getElem? (i := 237) rfl) rfl
theorem fRX2_48 : Cond.fieldLink RX2 48 (cn 2) (fT 2 11).2.1 (fT 2 11).2.2.1 ∈ m_tb := mT1 (List.mem_of_getElem? (i := 238) rfl) rfl
theorem fRX2_52 : Cond.fieldLink RX2 52 (cn 2) (fT 2 12).2.1 (fT 2 12).2.2.1 ∈ m_tb := mT1 (List.mem_of_getElem? (i := 239) rfl) rfl
theorem fRX2_55 : Cond.fieldLink RX2 55 (cn 2) (fT 2 13).2.1 (fT 2 13).2.2.1 ∈ m_tb := mT2 (List.mem_of_getElem? (i := 0) rfl) rfl
theorem fRX2_58 : Cond.fieldLink RX2 58 (cn 2) (fT 2 3).2.1 (fT 2 3).2.2.1 ∈ m_tb := mT1 (List.mem_of_getElem? (i := 230) rfl) rfl
theorem fRX2_68 : Cond.fieldLink RX2 68 (cn 2) (fT 2 4).2.1 (fT 2 4).2.2.1 ∈ m_tb := mT1 (List.mem_of_getElem? (i := 231) rfl) rfl
theorem fRX2_69 : Cond.fieldLink RX2 69 (cn 5) (fT 5 2).2.1 (fT 5 2).2.2.1 ∈ m_tb := mT1 (List.mem_of_getElem? (i := 169) rfl) rfl
theorem fRX2_72 : Cond.fieldLink RX2 72 (cn 5) (fT 5 3).2.1 (fT 5 3).2.2.1 ∈ m_tb := mT1 (List.mem_of_getElem? (i := 172) rfl) rfl
theorem fRX2_87 : Cond.fieldLink RX2 87 (cn 1) (fT 1 2).2.1 (fT 1 2).2.2.1 ∈ m_tb := mT1 (List.mem_of_getElem? (i := 72) rfl) rfl
theorem fRX2_142 : Cond.fieldLink RX2 142 (cn 1) (fT 1 1).2.1 (fT 1 1).2.2.1 ∈ m_tb := mT1 (List.mem_of_getElem? (i := 68) rfl) rfl
theorem fRX2_163 : Cond.fieldLink RX2 163 (cn 1) (fT 1 3).2.1 (fT 1 3).2.2.1 ∈ m_tb := mT1 (List.mem_of_getElem? (i := 78) rfl) rfl
theorem fRX2_176 : Cond.fieldLink RX2 176 (cn 1) (fT 1 4).2.1 (fT 1 4).2.2.1 ∈ m_tb := mT1 (List.mem_of_getElem? (i := 82) rfl) rfl
theorem fRX2_209 : Cond.fieldLink RX2 209 RX2 (m_tab 2).1 "[I" ∈ m_tb := mT4 (List.mem_of_getElem? (i := 69) rfl) rfl
theorem fRX2_214 : Cond.fieldLink RX2 214 RX2 (m_tab 3).1 "[I" ∈ m_tb := mT4 (List.mem_of_getElem? (i := 71) rfl) rfl
theorem fRX2_217 : Cond.fieldLink RX2 217 RX2 (m_tab 4).1 "[I" ∈ m_tb := mT4 (List.mem_of_getElem? (i := 73) rfl) rfl
theorem fRX2_223 : Cond.fieldLink RX2 223 RX2 (m_tab 5).1 "[I" ∈ m_tb := mT4 (List.mem_of_getElem? (i := 78) rfl) rfl
theorem fRX3_9 : Cond.fieldLink RX3 9 (cn 3) (fT 3 0).2.1 (fT 3 0).2.2.1 ∈ m_tb := mT1 (List.mem_of_getElem? (i := 133) rfl) rfl
theorem fRX3_15 : Cond.fieldLink RX3 15 (cn 3) (fT 3 1).2.1 (fT 3 1).2.2.1 ∈ m_tb := mT1 (List.mem_of_getElem? (i := 135) rfl) rfl
theorem fRX3_18 : Cond.fieldLink RX3 18 (cn 3) (fT 3 2).2.1 (fT 3 2).2.2.1 ∈ m_tb := mT1 (List.mem_of_getElem? (i := 137) rfl) rfl
theorem fRX3_22 : Cond.fieldLink RX3 22 (cn 3) (fT 3 3).2.1 (fT 3 3).2.2.1 ∈ m_tb := mT1 (List.mem_of_getElem? (i := 138) rfl) rfl
theorem fRX3_25 : Cond.fieldLink RX3 25 (cn 3) (fT 3 4).2.1 (fT 3 4).2.2.1 ∈ m_tb := mT1 (List.mem_of_getElem? (i := 139) rfl) rfl
theorem fRX3_28 : Cond.fieldLink RX3 28 (cn 3) (fT 3 5).2.1 (fT 3 5).2.2.1 ∈ m_tb := mT1 (List.mem_of_getElem? (i := 140) rfl) rfl
theorem fRX3_46 : Cond.fieldLink RX3 46 (cn 1) (fT 1 0).2.1 (fT 1 0).2.2.1 ∈ m_tb := mT1 (List.mem_of_getElem? (i := 62) rfl) rfl
theorem fRX3_70 : Cond.fieldLink RX3 70 (cn 1) (fT 1 1).2.1 (fT 1 1).2.2.1 ∈ m_tb := mT1 (List.mem_of_getElem? (i := 66) rfl) rfl
theorem fRX3_74 : Cond.fieldLink RX3 74 (cn 1) (fT 1 2).2.1 (fT 1 2).2.2.1 ∈ m_tb := mT1 (List.mem_of_getElem? (i := 71) rfl) rfl
theorem fRX3_78 : Cond.fieldLink RX3 78 (cn 1) (fT 1 3).2.1 (fT 1 3).2.2.1 ∈ m_tb := mT1 (List.mem_of_getElem? (i := 75) rfl) rfl
theorem fRX3_82 : Cond.fieldLink RX3 82 (cn 1) (fT 1 4).2.1 (fT 1 4).2.2.1 ∈ m_tb := mT1 (List.mem_of_getElem? (i := 80) rfl) rfl
theorem fRX3_110 : Cond.fieldLink RX3 110 (cn 1) (fT 1 6).2.1 (fT 1 6).2.2.1 ∈ m_tb := mT1 (List.mem_of_getElem? (i := 87) rfl) rfl
theorem fRX4_11 : Cond.fieldLink RX4 11 (cn 4) (fT 4 0).2.1 (fT 4 0).2.2.1 ∈ m_tb := mT2 (List.mem_of_getElem? (i := 36) rfl) rfl
theorem fRX4_15 : Cond.fieldLink RX4 15 (cn 4) (fT 4 1).2.1 (fT 4 1).2.2.1 ∈ m_tb := mT2 (List.mem_of_getElem? (i := 37) rfl) rfl
theorem fRX4_18 : Cond.fieldLink RX4 18 (cn 4) (fT 4 2).2.1 (fT 4 2).2.2.1 ∈ m_tb := mT2 (List.mem_of_getElem? (i := 38) rfl) rfl
theorem fRX5_9 : Cond.fieldLink RX5 9 (cn 5) (fT 5 0).2.1 (fT 5 0).2.2.1 ∈ m_tb := mT1 (List.mem_of_getElem? (i := 164) rfl) rfl
theorem fRX5_15 : Cond.fieldLink RX5 15 (cn 5) (fT 5 6).2.1 (fT 5 6).2.2.1 ∈ m_tb := mT1 (List.mem_of_getElem? (i := 178) rfl) rfl
theorem fRX5_22 : Cond.fieldLink RX5 22 (cn 5) (fT 5 5).2.1 (fT 5 5).2.2.1 ∈ m_tb := mT1 (List.mem_of_getElem? (i := 177) rfl) rfl
theorem fRX5_26 : Cond.fieldLink RX5 26 (cn 5) (fT 5 1).2.1 (fT 5 1).2.2.1 ∈ m_tb := mT1 (List.mem_of_getElem? (i := 166) rfl) rfl
theorem fRX5_30 : Cond.fieldLink RX5 30 (cn 5) (fT 5 2).2.1 (fT 5 2).2.2.1 ∈ m_tb := mT1 (List.mem_of_getElem? (i := 168) rfl) rfl
theorem fRX5_33 : Cond.fieldLink RX5 33 (cn 5) (fT 5 3).2.1 (fT 5 3).2.2.1 ∈ m_tb := mT1 (List.mem_of_getElem? (i := 171) rfl) rfl
theorem fRX5_36 : Cond.fieldLink RX5 36 (cn 1) (fT 1 1).2.1 (fT 1 1).2.2.1 ∈ m_tb := mT1 (List.mem_of_getElem? (i := 65) rfl) rfl
theorem fRX5_41 : Cond.fieldLink RX5 41 (cn 5) (fT 5 4).2.1 (fT 5 4).2.2.1 ∈ m_tb := mT1 (List.mem_of_getElem? (i := 174) rfl) rfl
theorem fRX5_44 : Cond.fieldLink RX5 44 (cn 5) (fT 5 7).2.1 (fT 5 7).2.2.1 ∈ m_tb := mT1 (List.mem_of_getElem? (i := 179) rfl) rfl
theorem fRX5_47 : Cond.fieldLink RX5 47 (cn 1) (fT 1 2).2.1 (fT 1 2).2.2.1 ∈ m_tb := mT1 (List.mem_of_getElem? (i := 70) rfl) rfl
theorem fRX5_60 : Cond.fieldLink RX5 60 (cn 1) (fT 1 3).2.1 (fT 1 3).2.2.1 ∈ m_tb := mT1 (List.mem_of_getElem? (i := 76) rfl) rfl
theorem fRX5_99 : Cond.fieldLink RX5 99 (cn 1) (fT 1 4).2.1 (fT 1 4).2.2.1 ∈ m_tb := mT1 (List.mem_of_getElem? (i := 83) rfl) rfl
theorem fRX6_9 : Cond.fieldLink RX6 9 (cn 6) (fT 6 1).2.1 (fT 6 1).2.2.1 ∈ m_tb := mT1 (List.mem_of_getElem? (i := 213) rfl) rfl
theorem fRX6_21 : Cond.fieldLink RX6 21 (cn 6) (fT 6 0).2.1 (fT 6 0).2.2.1 ∈ m_tb := mT1 (List.mem_of_getElem? (i := 212) rfl) rfl
theorem fRX6_25 : Cond.fieldLink RX6 25 (cn 6) (fT 6 2).2.1 (fT 6 2).2.2.1 ∈ m_tb := mT1 (List.mem_of_getElem? (i := 214) rfl) rfl
theorem fRX6_29 : Cond.fieldLink RX6 29 (cn 6) (fT 6 3).2.1 (fT 6 3).2.2.1 ∈ m_tb := mT1 (List.mem_of_getElem? (i := 215) rfl) rfl
theorem fRX8_7 : Cond.fieldLink RX8 7 (cn 8) (fT 8 0).2.1 (fT 8 0).2.2.1 ∈ m_tb := mT5 (List.mem_of_getElem? (i := 101) rfl) rfl
theorem fRX8_13 : Cond.fieldLink RX8 13 (cn 8) (fT 8 8).2.1 (fT 8 8).2.2.1 ∈ m_tb := mT5 (List.mem_of_getElem? (i := 109) rfl) rfl
theorem fRX8_17 : Cond.fieldLink RX8 17 (cn 8) (fT 8 9).2.1 (fT 8 9).2.2.1 ∈ m_tb := mT5 (List.mem_of_getElem? (i := 110) rfl) rfl
theorem fRX8_21 : Cond.fieldLink RX8 21 (cn 8) (fT 8 10).2.1 (fT 8 10).2.2.1 ∈ m_tb := mT5 (List.mem_of_getElem? (i := 111) rfl) rfl
theorem fRX8_24 : Cond.fieldLink RX8 24 (cn 8) (fT 8 11).2.1 (fT 8 11).2.2.1 ∈ m_tb := mT5 (List.mem_of_getElem? (i := 112) rfl) rfl
theorem fRX8_27 : Cond.fieldLink RX8 27 (cn 8) (fT 8 12).2.1 (fT 8 12).2.2.1 ∈ m_tb := mT5 (List.mem_of_getElem? (i := 113) rfl) rfl
theorem fRX8_30 : Cond.fieldLink RX8 30 (cn 8) (fT 8 13).2.1 (fT 8 13).2.2.1 ∈ m_tb := mT5 (List.mem_of_getElem? (i := 114) rfl) rfl
theorem fRX8_33 : Cond.fieldLink RX8 33 (cn 8) (fT 8 14).2.1 (fT 8 14).2.2.1 ∈ m_tb := mT5 (List.mem_of_getElem? (i := 115) rfl) rfl
theorem fRX8_36 : Cond.fieldLink RX8 36 (cn 8) (fT 8 15).2.1 (fT 8 15).2.2.1 ∈ m_tb := mT5 (List.mem_of_getElem? (i := 116) rfl) rfl
theorem fRX8_39 : Cond.fieldLink RX8 39 (cn 8) (fT 8 16).2.1 (fT 8 16).2.2.1 ∈ m_tb := mT5 (List.mem_of_getElem? (i := 117) rfl) rfl
theorem fRX8_42 : Cond.fieldLink RX8 42 (cn 8) (fT 8 17).2.1 (fT 8 17).2.2.1 ∈ m_tb := mT5 (List.mem_of_getElem? (i := 118) rfl) rfl
theorem fRX8_45 : Cond.fieldLink RX8 45 (cn 8) (fT 8 18).2.1 (fT 8 18).2.2.1 ∈ m_tb := mT5 (List.mem_of_getElem? (i := 119) rfl) rfl
theorem fRX8_48 : Cond.fieldLink RX8 48 (cn 8) (fT 8 19).2.1 (fT 8 19).2.2.1 ∈ m_tb := mT5 (List.mem_of_getElem? (i := 120) rfl) rfl
theorem fRX8_51 : Cond.fieldLink RX8 51 (cn 8) (fT 8 20).2.1 (fT 8 20).2.2.1 ∈ m_tb := mT5 (List.mem_of_getElem? (i := 121) rfl) rfl
theorem fRX8_54 : Cond.fieldLink RX8 54 (cn 8) (fT 8 21).2.1 (fT 8 21).2.2.1 ∈ m_tb := mT5 (List.mem_of_getElem? (i := 122) rfl) rfl
theorem fRX8_57 : Cond.fieldLink RX8 57 (cn 8) (fT 8 22).2.1 (fT 8 22).2.2.1 ∈ m_tb := mT5 (List.mem_of_getElem? (i := 123) rfl) rfl
theorem fRX8_60 : Cond.fieldLink RX8 60 (cn 8) (fT 8 23).2.1 (fT 8 23).2.2.1 ∈ m_tb := mT5 (List.mem_of_getElem? (i := 124) rfl) rfl
theorem fRX8_63 : Cond.fieldLink RX8 63 (cn 8) (fT 8 24).2.1 (fT 8 24).2.2.1 ∈ m_tb := mT5 (List.mem_of_getElem? (i := 125) rfl) rfl
theorem fRX8_66 : Cond.fieldLink RX8 66 (cn 8) (fT 8 25).2.1 (fT 8 25).2.2.1 ∈ m_tb := mT5 (List.mem_of_getElem? (i := 126) rfl) rfl
theorem fRX8_69 : Cond.fieldLink RX8 69 (cn 8) (fT 8 26).2.1 (fT 8 26).2.2.1 ∈ m_tb := mT5 (List.mem_of_getElem? (i := 127) rfl) rfl
theorem fRX8_72 : Cond.fieldLink RX8 72 (cn 8) (fT 8 27).2.1 (fT 8 27).2.2.1 ∈ m_tb := mT5 (List.mem_of_getElem? (i := 128) rfl) rfl
theorem fRX8_75 : Cond.fieldLink RX8 75 (cn 8) (fT 8 28).2.1 (fT 8 28).2.2.1 ∈ m_tb := mT5 (List.mem_of_getElem? (i := 129) rfl) rfl
theorem fRX8_78 : Cond.fieldLink RX8 78 (cn 8) (fT 8 29).2.1 (fT 8 29).2.2.1 ∈ m_tb := mT5 (List.mem_of_getElem? (i := 130) rfl) rfl
theorem fRX8_81 : Cond.fieldLink RX8 81 (cn 8) (fT 8 30).2.1 (fT 8 30).2.2.1 ∈ m_tb := mT5 (List.mem_of_getElem? (i := 131) rfl) rfl
theorem fRX8_84 : Cond.fieldLink RX8 84 (cn 8) (fT 8 31).2.1 (fT 8 31).2.2.1 ∈ m_tb := mT5 (List.mem_of_getElem? (i := 132) rfl) rfl
theorem fRX8_87 : Cond.fieldLink RX8 87 (cn 8) (fT 8 32).2.1 (fT 8 32).2.2.1 ∈ m_tb := mT5 (List.mem_of_getElem? (i := 133) rfl) rfl
theorem fRX8_90 : Cond.fieldLink RX8 90 (cn 8) (fT 8 33).2.1 (fT 8 33).2.2.1 ∈ m_tb := mT5 (List.mem_of_getElem? (i := 134) rfl) rfl
theorem fRX8_93 : Cond.fieldLink RX8 93 (cn 8) (fT 8 34).2.1 (fT 8 34).2.2.1 ∈ m_tb := mT5 (List.mem_of_getElem? (i := 135) rfl) rfl
theorem fRX8_96 : Cond.fieldLink RX8 96 (cn 8) (fT 8 35).2.1 (fT 8 35).2.2.1 ∈ m_tb := mT5 (List.mem_of_getElem? (i := 136) rfl) rfl
theorem fRX8_99 : Cond.fieldLink RX8 99 (cn 8) (fT 8 36).2.1 (fT 8 36).2.2.1 ∈ m_tb := mT5 (List.mem_of_getElem? (i := 137) rfl) rfl
theorem fRX8_102 : Cond.fieldLink RX8 102 (cn 8) (fT 8 37).2.1 (fT 8 37).2.2.1 ∈ m_tb := mT5 (List.mem_of_getElem? (i := 138) rfl) rfl
theorem fRX8_105 : Cond.fieldLink RX8 105 (cn 8) (fT 8 38).2.1 (fT 8 38).2.2.1 ∈ m_tb := mT5 (List.mem_of_getElem? (i := 139) rfl) rfl
theorem fRX8_108 : Cond.fieldLink RX8 108 (cn 8) (fT 8 39).2.1 (fT 8 39).2.2.1 ∈ m_tb := mT5 (List.mem_of_getElem? (i := 140) rfl) rfl
theorem fRX8_111 : Cond.fieldLink RX8 111 (cn 8) (fT 8 40).2.1 (fT 8 40).2.2.1 ∈ m_tb := mT5 (List.mem_of_getElem? (i := 141) rfl) rfl
theorem fRX8_114 : Cond.fieldLink RX8 114 (cn 8) (fT 8 41).2.1 (fT 8 41).2.2.1 ∈ m_tb := mT5 (List.mem_of_getElem? (i := 142) rfl) rfl
theorem fRX8_117 : Cond.fieldLink RX8 117 (cn 8) (fT 8 42).2.1 (fT 8 42).2.2.1 ∈ m_tb := mT5 (List.mem_of_getElem? (i := 143) rfl) rfl
theorem fRX8_121 : Cond.fieldLink RX8 121 (cn 8) (fT 8 43).2.1 (fT 8 43).2.2.1 ∈ m_tb := mT5 (List.mem_of_getElem? (i := 144) rfl) rfl
theorem fRX8_124 : Cond.fieldLink RX8 124 (cn 8) (fT 8 45).2.1 (fT 8 45).2.2.1 ∈ m_tb := mT5 (List.mem_of_getElem? (i := 146) rfl) rfl
theorem fRX8_127 : Cond.fieldLink RX8 127 (cn 8) (fT 8 50).2.1 (fT 8 50).2.2.1 ∈ m_tb := mT5 (List.mem_of_getElem? (i := 151) rfl) rfl
theorem fRX8_131 : Cond.fieldLink RX8 131 (cn 8) (fT 8 59).2.1 (fT 8 59).2.2.1 ∈ m_tb := mT5 (List.mem_of_getElem? (i := 160) rfl) rfl
theorem fRX8_134 : Cond.fieldLink RX8 134 (cn 8) (fT 8 60).2.1 (fT 8 60).2.2.1 ∈ m_tb := mT5 (List.mem_of_getElem? (i := 161) rfl) rfl
theorem fRX8_137 : Cond.fieldLink RX8 137 (cn 8) (fT 8 61).2.1 (fT 8 61).2.2.1 ∈ m_tb := mT5 (List.mem_of_getElem? (i := 162) rfl) rfl
theorem fRX8_140 : Cond.fieldLink RX8 140 (cn 8) (fT 8 62).2.1 (fT 8 62).2.2.1 ∈ m_tb := mT5 (List.mem_of_getElem? (i := 163) rfl) rfl
theorem fRX8_143 : Cond.fieldLink RX8 143 (cn 8) (fT 8 63).2.1 (fT 8 63).2.2.1 ∈ m_tb := mT5 (List.mem_of_getElem? (i := 164) rfl) rfl
theorem fRX8_146 : Cond.fieldLink RX8 146 (cn 8) (fT 8 64).2.1 (fT 8 64).2.2.1 ∈ m_tb := mT5 (List.mem_of_getElem? (i := 165) rfl) rfl
theorem fRX8_150 : Cond.fieldLink RX8 150 (cn 8) (fT 8 69).2.1 (fT 8 69).2.2.1 ∈ m_tb := mT5 (List.mem_of_getElem? (i := 170) rfl) rfl
theorem fRX8_153 : Cond.fieldLink RX8 153 (cn 8) (fT 8 71).2.1 (fT 8 71).2.2.1 ∈ m_tb := mT5 (List.mem_of_getElem? (i := 172) rfl) rfl
theorem fRX8_156 : Cond.fieldLink RX8 156 (cn 8) (fT 8 73).2.1 (fT 8 73).2.2.1 ∈ m_tb := mT5 (List.mem_of_getElem? (i := 174) rfl) rfl
theorem fRX8_159 : Cond.fieldLink RX8 159 (cn 8) (fT 8 77).2.1 (fT 8 77).2.2.1 ∈ m_tb := mT5 (List.mem_of_getElem? (i := 178) rfl) rfl
theorem fRX8_162 : Cond.fieldLink RX8 162 (cn 8) (fT 8 79).2.1 (fT 8 79).2.2.1 ∈ m_tb := mT5 (List.mem_of_getElem? (i := 180) rfl) rfl
theorem fRX8_165 : Cond.fieldLink RX8 165 (cn 8) (fT 8 80).2.1 (fT 8 80).2.2.1 ∈ m_tb := mT5 (List.mem_of_getElem? (i := 181) rfl) rfl
theorem fRX8_168 : Cond.fieldLink RX8 168 (cn 8) (fT 8 81).2.1 (fT 8 81).2.2.1 ∈ m_tb := mT5 (List.mem_of_getElem? (i := 182) rfl) rfl
theorem fRX8_171 : Cond.fieldLink RX8 171 (cn 8) (fT 8 82).2.1 (fT 8 82).2.2.1 ∈ m_tb := mT5 (List.mem_of_getElem? (i := 183) rfl) rfl
theorem fRX8_174 : Cond.fieldLink RX8 174 (cn 8) (fT 8 83).2.1 (fT 8 83).2.2.1 ∈ m_tb := mT5 (List.mem_of_getElem? (i := 184) rfl) rfl
theorem fRX8_177 : Cond.fieldLink RX8 177 (cn 8) (fT 8 85).2.1 (fT 8 85).2.2.1 ∈ m_tb := mT5 (List.mem_of_getElem? (i := 186) rfl) rfl
theorem fRX8_180 : Cond.fieldLink RX8 180 (cn 8) (fT 8 1).2.1 (fT 8 1).2.2.1 ∈ m_tb := mT5 (List.mem_of_getElem? (i := 102) rfl) rfl
theorem fRX8_183 : Cond.fieldLink RX8 183 (cn 8) (fT 8 5).2.1 (fT 8 5).2.2.1 ∈ m_tb := mT5 (List.mem_of_getElem? (i := 106) rfl) rfl
theorem fRX8_186 : Cond.fieldLink RX8 186 (cn 8) (fT 8 6).2.1 (fT 8 6).2.2.1 ∈ m_tb := mT5 (List.mem_of_getElem? (i := 107) rfl) rfl
theorem fRX8_189 : Cond.fieldLink RX8 189 (cn 8) (fT 8 2).2.1 (fT 8 2).2.2.1 ∈ m_tb := mT5 (List.mem_of_getElem? (i := 103) rfl) rfl
theorem fRX8_192 : Cond.fieldLink RX8 192 (cn 8) (fT 8 3).2.1 (fT 8 3).2.2.1 ∈ m_tb := mT5 (List.mem_of_getElem? (i := 104) rfl) rfl
theorem fRX8_203 : Cond.fieldLink RX8 203 (cn 8) (fT 8 4).2.1 (fT 8 4).2.2.1 ∈ m_tb := mT5 (List.mem_of_getElem? (i := 105) rfl) rfl
theorem fRX8_227 : Cond.fieldLink RX8 227 (cn 8) (fT 8 44).2.1 (fT 8 44).2.2.1 ∈ m_tb := mT5 (List.mem_of_getElem? (i := 145) rfl) rfl
theorem fRX8_230 : Cond.fieldLink RX8 230 (cn 8) (fT 8 47).2.1 (fT 8 47).2.2.1 ∈ m_tb := mT5 (List.mem_of_getElem? (i := 148) rfl) rfl
theorem fRX8_233 : Cond.fieldLink RX8 233 (cn 8) (fT 8 46).2.1 (fT 8 46).2.2.1 ∈ m_tb := mT5 (List.mem_of_getElem? (i := 147) rfl) rfl
theorem fRX8_240 : Cond.fieldLink RX8 240 (cn 8) (fT 8 49).2.1 (fT 8 49).2.2.1 ∈ m_tb := mT5 (List.mem_of_getElem? (i := 150) rfl) rfl
theorem fRX8_300 : Cond.fieldLink RX8 300 (cn 8) (fT 8 48).2.1 (fT 8 48).2.2.1 ∈ m_tb := mT5 (List.mem_of_getElem? (i := 149) rfl) rfl
theorem fRX8_318 : Cond.fieldLink RX8 318 (cn 8) (fT 8 7).2.1 (fT 8 7).2.2.1 ∈ m_tb := mT5 (List.mem_of_getElem? (i := 108) rfl) rfl
theorem fRX8_324 : Cond.fieldLink RX8 324 (cn 8) (fT 8 58).2.1 (fT 8 58).2.2.1 ∈ m_tb := mT5 (List.mem_of_getElem? (i := 159) rfl) rfl
theorem fRX8_327 : Cond.fieldLink RX8 327 (cn 8) (fT 8 78).2.1 (fT 8 78).2.2.1 ∈ m_tb := mT5 (List.mem_of_getElem? (i := 179) rfl) rfl
theorem fRX8_330 : Cond.fieldLink RX8 330 (cn 8) (fT 8 70).2.1 (fT 8 70).2.2.1 ∈ m_tb := mT5 (List.mem_of_getElem? (i := 171) rfl) rfl
theorem fRX8_334 : Cond.fieldLink RX8 334 (cn 8) (fT 8 72).2.1 (fT 8 72).2.2.1 ∈ m_tb := mT5 (List.mem_of_getElem? (i := 173) rfl) rfl
theorem fRX8_341 : Cond.fieldLink RX8 341 (cn 8) (fT 8 51).2.1 (fT 8 51).2.2.1 ∈ m_tb := mT5 (List.mem_of_getElem? (i := 152) rfl) rfl
theorem fRX8_356 : Cond.fieldLink RX8 356 (cn 8) (fT 8 52).2.1 (fT 8 52).2.2.1 ∈ m_tb := mT5 (List.mem_of_getElem? (i := 153) rfl) rfl
theorem fRX8_359 : Cond.fieldLink RX8 359 (cn 8) (fT 8 53).2.1 (fT 8 53).2.2.1 ∈ m_tb := mT5 (List.mem_of_getElem? (i := 154) rfl) rfl
theorem fRX8_362 : Cond.fieldLink RX8 362 (cn 8) (fT 8 54).2.1 (fT 8 54).2.2.1 ∈ m_tb := mT5 (List.mem_of_getElem? (i := 155) rfl) rfl
theorem fRX8_365 : Cond.fieldLink RX8 365 (cn 8) (fT 8 55).2.1 (fT 8 55).2.2.1 ∈ m_tb := mT5 (List.mem_of_getElem? (i := 156) rfl) rfl
theorem fRX8_368 : Cond.fieldLink RX8 368 (cn 8) (fT 8 56).2.1 (fT 8 56).2.2.1 ∈ m_tb := mT5 (List.mem_of_getElem? (i := 157) rfl) rfl
theorem fRX8_371 : Cond.fieldLink RX8 371 (cn 8) (fT 8 57).2.1 (fT 8 57).2.2.1 ∈ m_tb := mT5 (List.mem_of_getElem? (i := 158) rfl) rfl
theorem fRX8_385 : Cond.fieldLink RX8 385 (cn 8) (fT 8 65).2.1 (fT 8 65).2.2.1 ∈ m_tb := mT5 (List.mem_of_getElem? (i := 166) rfl) rfl
theorem fRX8_398 : Cond.fieldLink RX8 398 (cn 8) (fT 8 66).2.1 (fT 8 66).2.2.1 ∈ m_tb := mT5 (List.mem_of_getElem? (i := 167) rfl) rfl
theorem fRX8_401 : Cond.fieldLink RX8 401 (cn 8) (fT 8 67).2.1 (fT 8 67).2.2.1 ∈ m_tb := mT5 (List.mem_of_getElem? (i := 168) rfl) rfl
theorem fRX8_404 : Cond.fieldLink RX8 404 (cn 8) (fT 8 68).2.1 (fT 8 68).2.2.1 ∈ m_tb := mT5 (List.mem_of_getElem? (i := 169) rfl) rfl
theorem fRX8_430 : Cond.fieldLink RX8 430 (cn 8) (fT 8 74).2.1 (fT 8 74).2.2.1 ∈ m_tb := mT5 (List.mem_of_getElem? (i := 175) rfl) rfl
theorem fRX8_439 : Cond.fieldLink RX8 439 (cn 8) (fT 8 75).2.1 (fT 8 75).2.2.1 ∈ m_tb := mT5 (List.mem_of_getElem? (i := 176) rfl) rfl
theorem fRX8_445 : Cond.fieldLink RX8 445 (cn 8) (fT 8 76).2.1 (fT 8 76).2.2.1 ∈ m_tb := mT5 (List.mem_of_getElem? (i := 177) rfl) rfl
theorem fRX8_562 : Cond.fieldLink RX8 562 (cn 8) (fT 8 84).2.1 (fT 8 84).2.2.1 ∈ m_tb := mT5 (List.mem_of_getElem? (i := 185) rfl) rfl
theorem ob1 : Cond.instanceMethod Lib.objectInit ∈ m_tb := mT1 (List.mem_of_getElem? (i := 22) rfl) rfl
theorem ob2 : Cond.code Lib.objectInit ⟨#[0xb1]⟩ 1 none ∈ m_tb := mT1 (List.mem_of_getElem? (i := 23) rfl) rfl
theorem mRX7_3 : Cond.methodLink RX7 3 Lib.objectInit ∈ m_tb := mT1 (List.mem_of_getElem? (i := 21) rfl) rfl
theorem mRX7_19 : Cond.methodLink RX7 19 yX1_init ∈ m_tb := mT1 (List.mem_of_getElem? (i := 26) rfl) rfl
theorem mRX7_29 : Cond.methodLink RX7 29 yX3_init ∈ m_tb := mT1 (List.mem_of_getElem? (i := 129) rfl) rfl
theorem mRX7_38 : Cond.methodLink RX7 38 yX5_init ∈ m_tb := mT1 (List.mem_of_getElem? (i := 156) rfl) rfl
theorem mRX7_52 : Cond.methodLink RX7 52 yX2_init ∈ m_tb := mT1 (List.mem_of_getElem? (i := 199) rfl) rfl
theorem mRX7_72 : Cond.methodLink RX7 72 yX7_append ∈ m_tb := mT2 (List.mem_of_getElem? (i := 87) rfl) rfl
theorem mRX7_76 : Cond.methodLink RX7 76 yX3_read ∈ m_tb := mT2 (List.mem_of_getElem? (i := 99) rfl) rfl
theorem mRX7_80 : Cond.methodLink RX7 80 yX1_settle ∈ m_tb := mT3 (List.mem_of_getElem? (i := 49) rfl) rfl
theorem mRX7_83 : Cond.methodLink RX7 83 yX5_empty ∈ m_tb := mT3 (List.mem_of_getElem? (i := 108) rfl) rfl
theorem mRX7_86 : Cond.methodLink RX7 86 yX4_forget ∈ m_tb := mT3 (List.mem_of_getElem? (i := 109) rfl) rfl
theorem mRX7_89 : Cond.methodLink RX7 89 yX7_sheetIsNew ∈ m_tb := mT3 (List.mem_of_getElem? (i := 113) rfl) rfl
theorem mRX7_113 : Cond.methodLink RX7 113 yX1_earnedBy ∈ m_tb := mT3 (List.mem_of_getElem? (i := 130) rfl) rfl
theorem mRX7_120 : Cond.methodLink RX7 120 yX1_countJoins ∈ m_tb := mT3 (List.mem_of_getElem? (i := 134) rfl) rfl
theorem mRX7_124 : Cond.methodLink RX7 124 yX5_add ∈ m_tb := mT3 (List.mem_of_getElem? (i := 148) rfl) rfl
theorem mRX7_128 : Cond.methodLink RX7 128 yX5_takeLast ∈ m_tb := mT3 (List.mem_of_getElem? (i := 166) rfl) rfl
theorem mRX7_135 : Cond.methodLink RX7 135 yX5_isWhole ∈ m_tb := mT3 (List.mem_of_getElem? (i := 179) rfl) rfl
theorem mRX7_147 : Cond.methodLink RX7 147 yX5_fillsEarned ∈ m_tb := mT3 (List.mem_of_getElem? (i := 180) rfl) rfl
theorem mRX7_153 : Cond.methodLink RX7 153 yX5_sizeOf ∈ m_tb := mT3 (List.mem_of_getElem? (i := 196) rfl) rfl
theorem mRX7_156 : Cond.methodLink RX7 156 yX5_downIn ∈ m_tb := mT3 (List.mem_of_getElem? (i := 200) rfl) rfl
theorem mRX7_159 : Cond.methodLink RX7 159 yX5_cleanBy ∈ m_tb := mT3 (List.mem_of_getElem? (i := 213) rfl) rfl
theorem mRX7_162 : Cond.methodLink RX7 162 yX5_foulsIn ∈ m_tb := mT3 (List.mem_of_getElem? (i := 218) rfl) rfl
theorem mRX7_165 : Cond.methodLink RX7 165 yX5_isSettled ∈ m_tb := mT3 (List.mem_of_getElem? (i := 226) rfl) rfl
theorem mRX7_168 : Cond.methodLink RX7 168 yX5_worthAndTaken ∈ m_tb := mT3 (List.mem_of_getElem? (i := 231) rfl) rfl
theorem mRX7_172 : Cond.methodLink RX7 172 yX5_sumOfFrames ∈ m_tb := mT4 (List.mem_of_getElem? (i := 5) rfl) rfl
theorem mRX7_175 : Cond.methodLink RX7 175 yX2_lookAhead ∈ m_tb := mT4 (List.mem_of_getElem? (i := 14) rfl) rfl
theorem mRX7_179 : Cond.methodLink RX7 179 yX2_greatest ∈ m_tb := mT4 (List.mem_of_getElem? (i := 127) rfl) rfl
theorem mRX7_182 : Cond.methodLink RX7 182 yX2_least ∈ m_tb := mT4 (List.mem_of_getElem? (i := 132) rfl) rfl
theorem mRX7_185 : Cond.methodLink RX7 185 yX2_countFrom ∈ m_tb := mT4 (List.mem_of_getElem? (i := 141) rfl) rfl
theorem mRX7_189 : Cond.methodLink RX7 189 yX2_at ∈ m_tb := mT4 (List.mem_of_getElem? (i := 158) rfl) rfl
theorem mRX7_191 : Cond.methodLink RX7 191 yX2_marksFrom ∈ m_tb := mT4 (List.mem_of_getElem? (i := 163) rfl) rfl
theorem mRX7_194 : Cond.methodLink RX7 194 yX2_marksBelow ∈ m_tb := mT4 (List.mem_of_getElem? (i := 167) rfl) rfl
theorem mRX7_199 : Cond.methodLink RX7 199 yX2_forget ∈ m_tb := mT3 (List.mem_of_getElem? (i := 117) rfl) rfl
theorem mRX7_200 : Cond.methodLink RX7 200 yX2_lookAtTorn ∈ m_tb := mT4 (List.mem_of_getElem? (i := 180) rfl) rfl
theorem mRX7_204 : Cond.methodLink RX7 204 yX1_hasPins ∈ m_tb := mT4 (List.mem_of_getElem? (i := 195) rfl) rfl
theorem mRX7_207 : Cond.methodLink RX7 207 yX1_hangTogether ∈ m_tb := mT4 (List.mem_of_getElem? (i := 199) rfl) rfl
theorem mRX7_210 : Cond.methodLink RX7 210 yX1_countClusters ∈ m_tb := mT4 (List.mem_of_getElem? (i := 215) rfl) rfl
theorem mRX7_213 : Cond.methodLink RX7 213 yX1_countFalls ∈ m_tb := mT4 (List.mem_of_getElem? (i := 223) rfl) rfl
theorem mRX7_216 : Cond.methodLink RX7 216 yX4_knows ∈ m_tb := mT4 (List.mem_of_getElem? (i := 232) rfl) rfl
theorem mRX7_219 : Cond.methodLink RX7 219 yX4_add ∈ m_tb := mT4 (List.mem_of_getElem? (i := 236) rfl) rfl
theorem mRX7_222 : Cond.methodLink RX7 222 yX4_setHandicaps ∈ m_tb := mT5 (List.mem_of_getElem? (i := 9) rfl) rfl
theorem mRX7_225 : Cond.methodLink RX7 225 yX4_gamesOf ∈ m_tb := mT5 (List.mem_of_getElem? (i := 35) rfl) rfl
theorem mRX7_228 : Cond.methodLink RX7 228 yX4_sumOf ∈ m_tb := mT5 (List.mem_of_getElem? (i := 36) rfl) rfl
theorem mRX7_231 : Cond.methodLink RX7 231 yX4_meanOf ∈ m_tb := mT5 (List.mem_of_getElem? (i := 37) rfl) rfl
theorem mRX7_234 : Cond.methodLink RX7 234 yX4_handicapOf ∈ m_tb := mT5 (List.mem_of_getElem? (i := 38) rfl) rfl
theorem mRX7_237 : Cond.methodLink RX7 237 yX4_bestOf ∈ m_tb := mT5 (List.mem_of_getElem? (i := 42) rfl) rfl
theorem mRX7_240 : Cond.methodLink RX7 240 yX4_gathered ∈ m_tb := mT5 (List.mem_of_getElem? (i := 47) rfl) rfl
theorem mRX7_243 : Cond.methodLink RX7 243 yX4_meeting ∈ m_tb := mT5 (List.mem_of_getElem? (i := 64) rfl) rfl
theorem mRX7_246 : Cond.methodLink RX7 246 yX4_countAhead ∈ m_tb := mT5 (List.mem_of_getElem? (i := 69) rfl) rfl
theorem mRX7_249 : Cond.methodLink RX7 249 yX7_within ∈ m_tb := mT5 (List.mem_of_getElem? (i := 78) rfl) rfl
theorem mRX7_253 : Cond.methodLink RX7 253 yX7_checkByte ∈ m_tb := mT5 (List.mem_of_getElem? (i := 79) rfl) rfl
theorem mRX7_257 : Cond.methodLink RX7 257 yX7_isImage ∈ m_tb := mT5 (List.mem_of_getElem? (i := 90) rfl) rfl
theorem mRX7_260 : Cond.methodLink RX7 260 yJ9_min_7cf53 ∈ m_tb := mT3 (List.mem_of_getElem? (i := 93) rfl) rfl
theorem mRX7_265 : Cond.methodLink RX7 265 yJ9_max_7cf53 ∈ m_tb := mT3 (List.mem_of_getElem? (i := 94) rfl) rfl
theorem mRX0_3 : Cond.methodLink RX0 3 Lib.objectInit ∈ m_tb := mT1 (List.mem_of_getElem? (i := 35) rfl) rfl
theorem mRX0_28 : Cond.methodLink RX0 28 yX0_setFrame ∈ m_tb := mT5 (List.mem_of_getElem? (i := 34) rfl) rfl
theorem mRX0_32 : Cond.methodLink RX0 32 yJ9_max_7cf53 ∈ m_tb := mT3 (List.mem_of_getElem? (i := 72) rfl) rfl
theorem mRX0_38 : Cond.methodLink RX0 38 yX0_step ∈ m_tb := mT3 (List.mem_of_getElem? (i := 73) rfl) rfl
theorem mRX0_42 : Cond.methodLink RX0 42 yX0_pop ∈ m_tb := mT3 (List.mem_of_getElem? (i := 81) rfl) rfl
theorem mRX0_46 : Cond.methodLink RX0 46 yX0_push ∈ m_tb := mT3 (List.mem_of_getElem? (i := 77) rfl) rfl
theorem mRX0_49 : Cond.methodLink RX0 49 yX0_join ∈ m_tb := mT3 (List.mem_of_getElem? (i := 85) rfl) rfl
theorem mRX0_62 : Cond.methodLink RX0 62 yJ9_min_f86c9 ∈ m_tb := mT3 (List.mem_of_getElem? (i := 97) rfl) rfl
theorem mRX0_66 : Cond.methodLink RX0 66 yJ9_max_f86c9 ∈ m_tb := mT3 (List.mem_of_getElem? (i := 100) rfl) rfl
theorem mRX0_68 : Cond.methodLink RX0 68 yJ9_floorDiv_7cf53 ∈ m_tb := mT3 (List.mem_of_getElem? (i := 103) rfl) rfl
theorem mRX0_71 : Cond.methodLink RX0 71 yJ9_min_7cf53 ∈ m_tb := mT3 (List.mem_of_getElem? (i := 106) rfl) rfl
theorem mRX1_3 : Cond.methodLink RX1 3 Lib.objectInit ∈ m_tb := mT1 (List.mem_of_getElem? (i := 29) rfl) rfl
theorem mRX1_37 : Cond.methodLink RX1 37 yX1_empty ∈ m_tb := mT1 (List.mem_of_getElem? (i := 53) rfl) rfl
theorem mRX1_59 : Cond.methodLink RX1 59 yX0_empty ∈ m_tb := mT1 (List.mem_of_getElem? (i := 57) rfl) rfl
theorem mRX1_66 : Cond.methodLink RX1 66 yX1_isPin ∈ m_tb := mT3 (List.mem_of_getElem? (i := 46) rfl) rfl
theorem mRX1_70 : Cond.methodLink RX1 70 yX0_sizeNow ∈ m_tb := mT3 (List.mem_of_getElem? (i := 27) rfl) rfl
theorem mRX1_74 : Cond.methodLink RX1 74 yX1_settleFouls ∈ m_tb := mT3 (List.mem_of_getElem? (i := 53) rfl) rfl
theorem mRX1_78 : Cond.methodLink RX1 78 yX1_worthIndex ∈ m_tb := mT3 (List.mem_of_getElem? (i := 57) rfl) rfl
theorem mRX1_82 : Cond.methodLink RX1 82 yX1_reckonWorth ∈ m_tb := mT3 (List.mem_of_getElem? (i := 60) rfl) rfl
theorem mRX1_85 : Cond.methodLink RX1 85 yX0_setFrame ∈ m_tb := mT3 (List.mem_of_getElem? (i := 64) rfl) rfl
theorem mRX1_89 : Cond.methodLink RX1 89 yX0_reckon ∈ m_tb := mT3 (List.mem_of_getElem? (i := 68) rfl) rfl
theorem mRX1_97 : Cond.methodLink RX1 97 yX0_setPlayer ∈ m_tb := mT5 (List.mem_of_getElem? (i := 30) rfl) rfl
theorem mRX1_101 : Cond.methodLink RX1 101 yJ6_bitCount_0f7a4 ∈ m_tb := mT3 (List.mem_of_getElem? (i := 138) rfl) rfl
theorem mRX1_107 : Cond.methodLink RX1 107 yX1_cluster ∈ m_tb := mT4 (List.mem_of_getElem? (i := 203) rfl) rfl
theorem mRX1_110 : Cond.methodLink RX1 110 yX1_hangTogether ∈ m_tb := mT4 (List.mem_of_getElem? (i := 227) rfl) rfl
theorem mRX2_3 : Cond.methodLink RX2 3 Lib.objectInit ∈ m_tb := mT1 (List.mem_of_getElem? (i := 202) rfl) rfl
theorem mRX2_17 : Cond.methodLink RX2 17 yX6_init ∈ m_tb := mT1 (List.mem_of_getElem? (i := 205) rfl) rfl
theorem mRX2_75 : Cond.methodLink RX2 75 yX5_sizeOf ∈ m_tb := mT4 (List.mem_of_getElem? (i := 18) rfl) rfl
theorem mRX2_79 : Cond.methodLink RX2 79 yX2_goThrough ∈ m_tb := mT4 (List.mem_of_getElem? (i := 19) rfl) rfl
theorem mRX2_83 : Cond.methodLink RX2 83 yX2_isTorn ∈ m_tb := mT4 (List.mem_of_getElem? (i := 184) rfl) rfl
theorem mRX2_92 : Cond.methodLink RX2 92 yX6_value ∈ m_tb := mT4 (List.mem_of_getElem? (i := 153) rfl) rfl
theorem mRX2_96 : Cond.methodLink RX2 96 yX6_low ∈ m_tb := mT4 (List.mem_of_getElem? (i := 136) rfl) rfl
theorem mRX2_99 : Cond.methodLink RX2 99 yX6_high ∈ m_tb := mT4 (List.mem_of_getElem? (i := 131) rfl) rfl
theorem mRX2_102 : Cond.methodLink RX2 102 yX2_least ∈ m_tb := mT4 (List.mem_of_getElem? (i := 145) rfl) rfl
theorem mRX2_106 : Cond.methodLink RX2 106 yJ9_max_7cf53 ∈ m_tb := mT4 (List.mem_of_getElem? (i := 146) rfl) rfl
theorem mRX2_112 : Cond.methodLink RX2 112 yX2_greatest ∈ m_tb := mT4 (List.mem_of_getElem? (i := 147) rfl) rfl
theorem mRX2_117 : Cond.methodLink RX2 117 yX2_at ∈ m_tb := mT4 (List.mem_of_getElem? (i := 149) rfl) rfl
theorem mRX2_120 : Cond.methodLink RX2 120 yJ9_min_f86c9 ∈ m_tb := mT4 (List.mem_of_getElem? (i := 157) rfl) rfl
theorem mRX2_124 : Cond.methodLink RX2 124 yX6_open ∈ m_tb := mT4 (List.mem_of_getElem? (i := 23) rfl) rfl
theorem mRX2_127 : Cond.methodLink RX2 127 yX6_wipe ∈ m_tb := mT4 (List.mem_of_getElem? (i := 27) rfl) rfl
theorem mRX2_130 : Cond.methodLink RX2 130 yX6_set ∈ m_tb := mT4 (List.mem_of_getElem? (i := 40) rfl) rfl
theorem mRX2_134 : Cond.methodLink RX2 134 yX2_goThroughFrame ∈ m_tb := mT4 (List.mem_of_getElem? (i := 48) rfl) rfl
theorem mRX2_138 : Cond.methodLink RX2 138 yX6_isEmpty ∈ m_tb := mT4 (List.mem_of_getElem? (i := 52) rfl) rfl
theorem mRX2_145 : Cond.methodLink RX2 145 yX2_playFrame ∈ m_tb := mT4 (List.mem_of_getElem? (i := 60) rfl) rfl
theorem mRX2_149 : Cond.methodLink RX2 149 yX2_fillsOf ∈ m_tb := mT4 (List.mem_of_getElem? (i := 101) rfl) rfl
theorem mRX2_152 : Cond.methodLink RX2 152 yX2_givenIn ∈ m_tb := mT4 (List.mem_of_getElem? (i := 90) rfl) rfl
theorem mRX2_155 : Cond.methodLink RX2 155 yX2_playFills ∈ m_tb := mT4 (List.mem_of_getElem? (i := 105) rfl) rfl
theorem mRX2_159 : Cond.methodLink RX2 159 yX2_moveGroup ∈ m_tb := mT4 (List.mem_of_getElem? (i := 109) rfl) rfl
theorem mRX2_166 : Cond.methodLink RX2 166 yX1_worthOf ∈ m_tb := mT4 (List.mem_of_getElem? (i := 64) rfl) rfl
theorem mRX2_170 : Cond.methodLink RX2 170 yX1_earnedBy ∈ m_tb := mT4 (List.mem_of_getElem? (i := 65) rfl) rfl
theorem mRX2_173 : Cond.methodLink RX2 173 yX2_stateWith ∈ m_tb := mT4 (List.mem_of_getElem? (i := 66) rfl) rfl
theorem mRX2_179 : Cond.methodLink RX2 179 yX2_addToGroup ∈ m_tb := mT4 (List.mem_of_getElem? (i := 80) rfl) rfl
theorem mRX2_182 : Cond.methodLink RX2 182 yX2_nextOf ∈ m_tb := mT4 (List.mem_of_getElem? (i := 84) rfl) rfl
theorem mRX2_185 : Cond.methodLink RX2 185 yX2_stateBehind ∈ m_tb := mT4 (List.mem_of_getElem? (i := 87) rfl) rfl
theorem mRX2_188 : Cond.methodLink RX2 188 yX5_firstRoll ∈ m_tb := mT4 (List.mem_of_getElem? (i := 94) rfl) rfl
theorem mRX2_191 : Cond.methodLink RX2 191 yX5_rollAt ∈ m_tb := mT4 (List.mem_of_getElem? (i := 95) rfl) rfl
theorem mRX2_198 : Cond.methodLink RX2 198 yX2_markTake ∈ m_tb := mT4 (List.mem_of_getElem? (i := 97) rfl) rfl
theorem mRX2_202 : Cond.methodLink RX2 202 yX6_addCounts ∈ m_tb := mT4 (List.mem_of_getElem? (i := 113) rfl) rfl
theorem mRX2_206 : Cond.methodLink RX2 206 yX6_addMarks ∈ m_tb := mT4 (List.mem_of_getElem? (i := 123) rfl) rfl
theorem mRX2_212 : Cond.methodLink RX2 212 yJ9_min_7cf53 ∈ m_tb := mT4 (List.mem_of_getElem? (i := 104) rfl) rfl
theorem mRX2_220 : Cond.methodLink RX2 220 yX2_stateOf ∈ m_tb := mT4 (List.mem_of_getElem? (i := 75) rfl) rfl
theorem mRX3_3 : Cond.methodLink RX3 3 Lib.objectInit ∈ m_tb := mT1 (List.mem_of_getElem? (i := 132) rfl) rfl
theorem mRX3_32 : Cond.methodLink RX3 32 yJ9_min_7cf53 ∈ m_tb := mT2 (List.mem_of_getElem? (i := 103) rfl) rfl
theorem mRX3_38 : Cond.methodLink RX3 38 yX1_empty ∈ m_tb := mT2 (List.mem_of_getElem? (i := 106) rfl) rfl
theorem mRX3_43 : Cond.methodLink RX3 43 yX3_skip ∈ m_tb := mT2 (List.mem_of_getElem? (i := 107) rfl) rfl
theorem mRX3_49 : Cond.methodLink RX3 49 yX3_fail ∈ m_tb := mT2 (List.mem_of_getElem? (i := 111) rfl) rfl
theorem mRX3_53 : Cond.methodLink RX3 53 yX3_statement ∈ m_tb := mT2 (List.mem_of_getElem? (i := 115) rfl) rfl
theorem mRX3_57 : Cond.methodLink RX3 57 yX3_takesSign ∈ m_tb := mT2 (List.mem_of_getElem? (i := 222) rfl) rfl
theorem mRX3_63 : Cond.methodLink RX3 63 yX3_takes ∈ m_tb := mT2 (List.mem_of_getElem? (i := 120) rfl) rfl
theorem mRX3_67 : Cond.methodLink RX3 67 yX3_number ∈ m_tb := mT2 (List.mem_of_getElem? (i := 180) rfl) rfl
theorem mRX3_87 : Cond.methodLink RX3 87 yX3_clean ∈ m_tb := mT2 (List.mem_of_getElem? (i := 188) rfl) rfl
theorem mRX3_91 : Cond.methodLink RX3 91 yX3_worth ∈ m_tb := mT2 (List.mem_of_getElem? (i := 202) rfl) rfl
theorem mRX3_95 : Cond.methodLink RX3 95 yX3_handicap ∈ m_tb := mT3 (List.mem_of_getElem? (i := 29) rfl) rfl
theorem mRX3_99 : Cond.methodLink RX3 99 yX3_joins ∈ m_tb := mT3 (List.mem_of_getElem? (i := 38) rfl) rfl
theorem mRX3_103 : Cond.methodLink RX3 103 yX3_expectsWord ∈ m_tb := mT2 (List.mem_of_getElem? (i := 193) rfl) rfl
theorem mRX3_106 : Cond.methodLink RX3 106 yX1_setEarned ∈ m_tb := mT2 (List.mem_of_getElem? (i := 197) rfl) rfl
theorem mRX3_114 : Cond.methodLink RX3 114 yX0_sizeNow ∈ m_tb := mT2 (List.mem_of_getElem? (i := 206) rfl) rfl
theorem mRX3_120 : Cond.methodLink RX3 120 yX3_sum ∈ m_tb := mT2 (List.mem_of_getElem? (i := 210) rfl) rfl
theorem mRX3_126 : Cond.methodLink RX3 126 yX3_test ∈ m_tb := mT3 (List.mem_of_getElem? (i := 7) rfl) rfl
theorem mRX3_129 : Cond.methodLink RX3 129 yX1_addWorth ∈ m_tb := mT3 (List.mem_of_getElem? (i := 23) rfl) rfl
theorem mRX3_132 : Cond.methodLink RX3 132 yX1_setHandicap ∈ m_tb := mT3 (List.mem_of_getElem? (i := 33) rfl) rfl
theorem mRX3_136 : Cond.methodLink RX3 136 yX1_joinPins ∈ m_tb := mT3 (List.mem_of_getElem? (i := 42) rfl) rfl
theorem mRX3_139 : Cond.methodLink RX3 139 yX3_both ∈ m_tb := mT3 (List.mem_of_getElem? (i := 11) rfl) rfl
theorem mRX3_144 : Cond.methodLink RX3 144 yX0_put ∈ m_tb := mT2 (List.mem_of_getElem? (i := 235) rfl) rfl
theorem mRX3_147 : Cond.methodLink RX3 147 yX3_fact ∈ m_tb := mT3 (List.mem_of_getElem? (i := 15) rfl) rfl
theorem mRX3_154 : Cond.methodLink RX3 154 yX3_mayOpen ∈ m_tb := mT2 (List.mem_of_getElem? (i := 226) rfl) rfl
theorem mRX3_159 : Cond.methodLink RX3 159 yX3_product ∈ m_tb := mT2 (List.mem_of_getElem? (i := 214) rfl) rfl
theorem mRX3_162 : Cond.methodLink RX3 162 yX3_part ∈ m_tb := mT2 (List.mem_of_getElem? (i := 218) rfl) rfl
theorem mRX3_166 : Cond.methodLink RX3 166 yX3_pair ∈ m_tb := mT2 (List.mem_of_getElem? (i := 231) rfl) rfl
theorem mRX3_183 : Cond.methodLink RX3 183 yJ0_length_8abf5 ∈ m_tb := mT2 (List.mem_of_getElem? (i := 124) rfl) rfl
theorem mRX3_187 : Cond.methodLink RX3 187 yX3_isLetter ∈ m_tb := mT2 (List.mem_of_getElem? (i := 134) rfl) rfl
theorem mRX3_190 : Cond.methodLink RX3 190 yX3_isDigit ∈ m_tb := mT2 (List.mem_of_getElem? (i := 138) rfl) rfl
theorem mRX3_193 : Cond.methodLink RX3 193 yJ0_charAt_5068e ∈ m_tb := mT2 (List.mem_of_getElem? (i := 142) rfl) rfl
theorem mRX4_3 : Cond.methodLink RX4 3 Lib.objectInit ∈ m_tb := mT2 (List.mem_of_getElem? (i := 35) rfl) rfl
theorem mRX4_21 : Cond.methodLink RX4 21 yX4_knows ∈ m_tb := mT5 (List.mem_of_getElem? (i := 4) rfl) rfl
theorem mRX4_25 : Cond.methodLink RX4 25 yX4_gamesOf ∈ m_tb := mT5 (List.mem_of_getElem? (i := 0) rfl) rfl
theorem mRX4_29 : Cond.methodLink RX4 29 yX4_totalOf ∈ m_tb := mT5 (List.mem_of_getElem? (i := 21) rfl) rfl
theorem mRX4_33 : Cond.methodLink RX4 33 yX4_sumOf ∈ m_tb := mT5 (List.mem_of_getElem? (i := 17) rfl) rfl
theorem mRX4_36 : Cond.methodLink RX4 36 yJ9_floorDiv_7cf53 ∈ m_tb := mT5 (List.mem_of_getElem? (i := 25) rfl) rfl
theorem mRX4_41 : Cond.methodLink RX4 41 yJ9_max_7cf53 ∈ m_tb := mT5 (List.mem_of_getElem? (i := 46) rfl) rfl
theorem mRX4_44 : Cond.methodLink RX4 44 yX4_meanOf ∈ m_tb := mT5 (List.mem_of_getElem? (i := 13) rfl) rfl
theorem mRX4_47 : Cond.methodLink RX4 47 yX1_handicap ∈ m_tb := mT5 (List.mem_of_getElem? (i := 26) rfl) rfl
theorem mRX4_52 : Cond.methodLink RX4 52 yJ9_min_7cf53 ∈ m_tb := mT5 (List.mem_of_getElem? (i := 55) rfl) rfl
theorem mRX4_55 : Cond.methodLink RX4 55 yX4_handicapOf ∈ m_tb := mT5 (List.mem_of_getElem? (i := 56) rfl) rfl
theorem mRX4_58 : Cond.methodLink RX4 58 yJ6_signum_0f7a4 ∈ m_tb := mT5 (List.mem_of_getElem? (i := 57) rfl) rfl
theorem mRX4_63 : Cond.methodLink RX4 63 yX4_meeting ∈ m_tb := mT5 (List.mem_of_getElem? (i := 51) rfl) rfl
theorem mRX4_66 : Cond.methodLink RX4 66 yX4_gathered ∈ m_tb := mT5 (List.mem_of_getElem? (i := 73) rfl) rfl
theorem mRX5_3 : Cond.methodLink RX5 3 Lib.objectInit ∈ m_tb := mT1 (List.mem_of_getElem? (i := 159) rfl) rfl
theorem mRX5_18 : Cond.methodLink RX5 18 yX5_empty ∈ m_tb := mT1 (List.mem_of_getElem? (i := 160) rfl) rfl
theorem mRX5_50 : Cond.methodLink RX5 50 yX5_isWhole ∈ m_tb := mT3 (List.mem_of_getElem? (i := 152) rfl) rfl
theorem mRX5_54 : Cond.methodLink RX5 54 yJ9_max_7cf53 ∈ m_tb := mT3 (List.mem_of_getElem? (i := 156) rfl) rfl
theorem mRX5_63 : Cond.methodLink RX5 63 yX5_closeFrame ∈ m_tb := mT3 (List.mem_of_getElem? (i := 157) rfl) rfl
theorem mRX5_66 : Cond.methodLink RX5 66 yX1_earnedBy ∈ m_tb := mT3 (List.mem_of_getElem? (i := 161) rfl) rfl
theorem mRX5_70 : Cond.methodLink RX5 70 yX5_add ∈ m_tb := mT3 (List.mem_of_getElem? (i := 170) rfl) rfl
theorem mRX5_74 : Cond.methodLink RX5 74 yX5_firstRoll ∈ m_tb := mT3 (List.mem_of_getElem? (i := 184) rfl) rfl
theorem mRX5_77 : Cond.methodLink RX5 77 yX5_sizeOf ∈ m_tb := mT3 (List.mem_of_getElem? (i := 204) rfl) rfl
theorem mRX5_80 : Cond.methodLink RX5 80 yX5_takenFrom ∈ m_tb := mT3 (List.mem_of_getElem? (i := 205) rfl) rfl
theorem mRX5_83 : Cond.methodLink RX5 83 yX5_rollAt ∈ m_tb := mT3 (List.mem_of_getElem? (i := 209) rfl) rfl
theorem mRX5_86 : Cond.methodLink RX5 86 yX5_downIn ∈ m_tb := mT3 (List.mem_of_getElem? (i := 217) rfl) rfl
theorem mRX5_89 : Cond.methodLink RX5 89 yX5_cleanBy ∈ m_tb := mT3 (List.mem_of_getElem? (i := 230) rfl) rfl
theorem mRX5_92 : Cond.methodLink RX5 92 yX5_foulsIn ∈ m_tb := mT3 (List.mem_of_getElem? (i := 235) rfl) rfl
theorem mRX5_95 : Cond.methodLink RX5 95 yX1_worthOf ∈ m_tb := mT3 (List.mem_of_getElem? (i := 236) rfl) rfl
theorem mRX5_102 : Cond.methodLink RX5 102 yX5_worthAndTaken ∈ m_tb := mT4 (List.mem_of_getElem? (i := 9) rfl) rfl
theorem mRX6_3 : Cond.methodLink RX6 3 Lib.objectInit ∈ m_tb := mT1 (List.mem_of_getElem? (i := 208) rfl) rfl
theorem mRX6_15 : Cond.methodLink RX6 15 yJ9_max_7cf53 ∈ m_tb := mT1 (List.mem_of_getElem? (i := 209) rfl) rfl
theorem mRX6_32 : Cond.methodLink RX6 32 yX6_isRow ∈ m_tb := mT4 (List.mem_of_getElem? (i := 35) rfl) rfl
theorem mRX6_36 : Cond.methodLink RX6 36 yX6_low ∈ m_tb := mT4 (List.mem_of_getElem? (i := 56) rfl) rfl
theorem mRX6_40 : Cond.methodLink RX6 40 yX6_high ∈ m_tb := mT4 (List.mem_of_getElem? (i := 31) rfl) rfl
theorem mRX6_43 : Cond.methodLink RX6 43 yX6_stretch ∈ m_tb := mT4 (List.mem_of_getElem? (i := 44) rfl) rfl
theorem mRX6_47 : Cond.methodLink RX6 47 yJ9_min_7cf53 ∈ m_tb := mT4 (List.mem_of_getElem? (i := 39) rfl) rfl
theorem mRX6_50 : Cond.methodLink RX6 50 yX6_canTake ∈ m_tb := mT4 (List.mem_of_getElem? (i := 117) rfl) rfl
theorem mRX6_56 : Cond.methodLink RX6 56 yJ9_min_f86c9 ∈ m_tb := mT4 (List.mem_of_getElem? (i := 122) rfl) rfl
theorem mRL_9 : Cond.methodLink RL 9 yX7_init ∈ m_tb := mT1 (List.mem_of_getElem? (i := 18) rfl) rfl
theorem mRL_12 : Cond.methodLink RL 12 yX8_init ∈ m_tb := mT5 (List.mem_of_getElem? (i := 96) rfl) rfl
theorem mRL_13 : Cond.methodLink RL 13 yX7_feed ∈ m_tb := mT2 (List.mem_of_getElem? (i := 83) rfl) rfl
theorem mRL_17 : Cond.methodLink RL 17 yX8_feed ∈ m_tb := mT6 (List.mem_of_getElem? (i := 121) rfl) rfl
theorem mRL_18 : Cond.methodLink RL 18 yX7_end ∈ m_tb := mT2 (List.mem_of_getElem? (i := 91) rfl) rfl
theorem mRL_22 : Cond.methodLink RL 22 yX8_end ∈ m_tb := mT6 (List.mem_of_getElem? (i := 125) rfl) rfl
theorem mRL_23 : Cond.methodLink RL 23 yX7_game ∈ m_tb := mT2 (List.mem_of_getElem? (i := 95) rfl) rfl
theorem mRL_27 : Cond.methodLink RL 27 yX8_game ∈ m_tb := mT6 (List.mem_of_getElem? (i := 129) rfl) rfl
theorem mRL_28 : Cond.methodLink RL 28 yX7_fault ∈ m_tb := mT3 (List.mem_of_getElem? (i := 122) rfl) rfl
theorem mRL_32 : Cond.methodLink RL 32 yX8_fault ∈ m_tb := mT7 (List.mem_of_getElem? (i := 22) rfl) rfl
theorem mRL_33 : Cond.methodLink RL 33 yX7_has ∈ m_tb := mT3 (List.mem_of_getElem? (i := 126) rfl) rfl
theorem mRL_36 : Cond.methodLink RL 36 yX8_has ∈ m_tb := mT7 (List.mem_of_getElem? (i := 26) rfl) rfl
theorem mRL_37 : Cond.methodLink RL 37 yX7_roll ∈ m_tb := mT3 (List.mem_of_getElem? (i := 144) rfl) rfl
theorem mRL_40 : Cond.methodLink RL 40 yX8_roll ∈ m_tb := mT7 (List.mem_of_getElem? (i := 30) rfl) rfl
theorem mRL_41 : Cond.methodLink RL 41 yX7_back ∈ m_tb := mT3 (List.mem_of_getElem? (i := 162) rfl) rfl
theorem mRL_45 : Cond.methodLink RL 45 yX8_back ∈ m_tb := mT7 (List.mem_of_getElem? (i := 53) rfl) rfl
theorem mRL_46 : Cond.methodLink RL 46 yX7_clear ∈ m_tb := mT3 (List.mem_of_getElem? (i := 171) rfl) rfl
theorem mRL_49 : Cond.methodLink RL 49 yX8_clear ∈ m_tb := mT7 (List.mem_of_getElem? (i := 57) rfl) rfl
theorem mRL_50 : Cond.methodLink RL 50 yX7_sheet ∈ m_tb := mT3 (List.mem_of_getElem? (i := 175) rfl) rfl
theorem mRL_53 : Cond.methodLink RL 53 yX8_sheet ∈ m_tb := mT7 (List.mem_of_getElem? (i := 61) rfl) rfl
theorem mRL_54 : Cond.methodLink RL 54 yX7_rolled ∈ m_tb := mT3 (List.mem_of_getElem? (i := 188) rfl) rfl
theorem mRL_57 : Cond.methodLink RL 57 yX8_rolled ∈ m_tb := mT7 (List.mem_of_getElem? (i := 65) rfl) rfl
theorem mRL_58 : Cond.methodLink RL 58 yX7_frame ∈ m_tb := mT3 (List.mem_of_getElem? (i := 192) rfl) rfl
theorem mRL_62 : Cond.methodLink RL 62 yX8_frame ∈ m_tb := mT7 (List.mem_of_getElem? (i := 69) rfl) rfl
theorem mRL_63 : Cond.methodLink RL 63 yX7_points ∈ m_tb := mT3 (List.mem_of_getElem? (i := 222) rfl) rfl
theorem mRL_66 : Cond.methodLink RL 66 yX8_points ∈ m_tb := mT7 (List.mem_of_getElem? (i := 73) rfl) rfl
theorem mRL_67 : Cond.methodLink RL 67 yX7_total ∈ m_tb := mT4 (List.mem_of_getElem? (i := 1) rfl) rfl
theorem mRL_70 : Cond.methodLink RL 70 yX8_total ∈ m_tb := mT7 (List.mem_of_getElem? (i := 108) rfl) rfl
theorem mRL_71 : Cond.methodLink RL 71 yX7_come ∈ m_tb := mT4 (List.mem_of_getElem? (i := 10) rfl) rfl
theorem mRL_75 : Cond.methodLink RL 75 yX8_come ∈ m_tb := mT7 (List.mem_of_getElem? (i := 116) rfl) rfl
theorem mRL_76 : Cond.methodLink RL 76 yX7_ways ∈ m_tb := mT4 (List.mem_of_getElem? (i := 137) rfl) rfl
theorem mRL_80 : Cond.methodLink RL 80 yX8_ways ∈ m_tb := mT7 (List.mem_of_getElem? (i := 186) rfl) rfl
theorem mRL_81 : Cond.methodLink RL 81 yX7_needs ∈ m_tb := mT4 (List.mem_of_getElem? (i := 159) rfl) rfl
theorem mRL_85 : Cond.methodLink RL 85 yX8_needs ∈ m_tb := mT7 (List.mem_of_getElem? (i := 190) rfl) rfl
theorem mRL_86 : Cond.methodLink RL 86 yX7_tear ∈ m_tb := mT4 (List.mem_of_getElem? (i := 172) rfl) rfl
theorem mRL_90 : Cond.methodLink RL 90 yX8_tear ∈ m_tb := mT7 (List.mem_of_getElem? (i := 194) rfl) rfl
theorem mRL_91 : Cond.methodLink RL 91 yX7_fits ∈ m_tb := mT4 (List.mem_of_getElem? (i := 176) rfl) rfl
theorem mRL_94 : Cond.methodLink RL 94 yX8_fits ∈ m_tb := mT7 (List.mem_of_getElem? (i := 198) rfl) rfl
theorem mRL_95 : Cond.methodLink RL 95 yX7_must ∈ m_tb := mT4 (List.mem_of_getElem? (i := 187) rfl) rfl
theorem mRL_99 : Cond.methodLink RL 99 yX8_must ∈ m_tb := mT7 (List.mem_of_getElem? (i := 219) rfl) rfl
theorem mRL_100 : Cond.methodLink RL 100 yX7_falls ∈ m_tb := mT4 (List.mem_of_getElem? (i := 191) rfl) rfl
theorem mRL_103 : Cond.methodLink RL 103 yX8_falls ∈ m_tb := mT7 (List.mem_of_getElem? (i := 238) rfl) rfl
theorem mRL_104 : Cond.methodLink RL 104 yX7_split ∈ m_tb := mT4 (List.mem_of_getElem? (i := 207) rfl) rfl
theorem mRL_107 : Cond.methodLink RL 107 yX8_split ∈ m_tb := mT8 (List.mem_of_getElem? (i := 11) rfl) rfl
theorem mRL_108 : Cond.methodLink RL 108 yX7_fewest ∈ m_tb := mT4 (List.mem_of_getElem? (i := 211) rfl) rfl
theorem mRL_111 : Cond.methodLink RL 111 yX8_fewest ∈ m_tb := mT8 (List.mem_of_getElem? (i := 18) rfl) rfl
theorem mRL_112 : Cond.methodLink RL 112 yX7_leaves ∈ m_tb := mT4 (List.mem_of_getElem? (i := 219) rfl) rfl
theorem mRL_115 : Cond.methodLink RL 115 yX8_leaves ∈ m_tb := mT8 (List.mem_of_getElem? (i := 22) rfl) rfl
theorem mRL_116 : Cond.methodLink RL 116 yX7_keep ∈ m_tb := mT4 (List.mem_of_getElem? (i := 228) rfl) rfl
theorem mRL_119 : Cond.methodLink RL 119 yX8_keep ∈ m_tb := mT8 (List.mem_of_getElem? (i := 26) rfl) rfl
theorem mRL_120 : Cond.methodLink RL 120 yX7_player ∈ m_tb := mT5 (List.mem_of_getElem? (i := 5) rfl) rfl
theorem mRL_123 : Cond.methodLink RL 123 yX8_player ∈ m_tb := mT8 (List.mem_of_getElem? (i := 34) rfl) rfl
theorem mRL_124 : Cond.methodLink RL 124 yX7_meet ∈ m_tb := mT5 (List.mem_of_getElem? (i := 60) rfl) rfl
theorem mRL_127 : Cond.methodLink RL 127 yX8_meet ∈ m_tb := mT8 (List.mem_of_getElem? (i := 63) rfl) rfl
theorem mRL_128 : Cond.methodLink RL 128 yX7_place ∈ m_tb := mT5 (List.mem_of_getElem? (i := 65) rfl) rfl
theorem mRL_131 : Cond.methodLink RL 131 yX8_place ∈ m_tb := mT8 (List.mem_of_getElem? (i := 67) rfl) rfl
theorem mRL_132 : Cond.methodLink RL 132 yX7_image ∈ m_tb := mT5 (List.mem_of_getElem? (i := 74) rfl) rfl
theorem mRL_135 : Cond.methodLink RL 135 yX8_image ∈ m_tb := mT8 (List.mem_of_getElem? (i := 71) rfl) rfl
theorem mRL_136 : Cond.methodLink RL 136 yX7_octet ∈ m_tb := mT5 (List.mem_of_getElem? (i := 82) rfl) rfl
theorem mRL_139 : Cond.methodLink RL 139 yX8_octet ∈ m_tb := mT8 (List.mem_of_getElem? (i := 82) rfl) rfl
theorem mRL_140 : Cond.methodLink RL 140 yX7_on ∈ m_tb := mT5 (List.mem_of_getElem? (i := 86) rfl) rfl
theorem mRL_143 : Cond.methodLink RL 143 yX8_on ∈ m_tb := mT8 (List.mem_of_getElem? (i := 86) rfl) rfl
theorem mRX8_1 : Cond.methodLink RX8 1 Lib.objectInit ∈ m_tb := mT5 (List.mem_of_getElem? (i := 99) rfl) rfl
theorem mRX8_195 : Cond.methodLink RX8 195 yX8_look ∈ m_tb := mT6 (List.mem_of_getElem? (i := 137) rfl) rfl
theorem mRX8_199 : Cond.methodLink RX8 199 yX8_isLetter ∈ m_tb := mT6 (List.mem_of_getElem? (i := 157) rfl) rfl
theorem mRX8_206 : Cond.methodLink RX8 206 yX8_isHere ∈ m_tb := mT6 (List.mem_of_getElem? (i := 153) rfl) rfl
theorem mRX8_210 : Cond.methodLink RX8 210 yX8_takes ∈ m_tb := mT6 (List.mem_of_getElem? (i := 149) rfl) rfl
theorem mRX8_213 : Cond.methodLink RX8 213 yX8_fail ∈ m_tb := mT6 (List.mem_of_getElem? (i := 145) rfl) rfl
theorem mRX8_217 : Cond.methodLink RX8 217 yX8_takesSign ∈ m_tb := mT6 (List.mem_of_getElem? (i := 202) rfl) rfl
theorem mRX8_220 : Cond.methodLink RX8 220 yX8_isDigit ∈ m_tb := mT6 (List.mem_of_getElem? (i := 164) rfl) rfl
theorem mRX8_223 : Cond.methodLink RX8 223 yX8_isIn ∈ m_tb := mT6 (List.mem_of_getElem? (i := 167) rfl) rfl
theorem mRX8_236 : Cond.methodLink RX8 236 yX8_code ∈ m_tb := mT6 (List.mem_of_getElem? (i := 206) rfl) rfl
theorem mRX8_243 : Cond.methodLink RX8 243 yX8_isMark ∈ m_tb := mT6 (List.mem_of_getElem? (i := 218) rfl) rfl
theorem mRX8_246 : Cond.methodLink RX8 246 yX8_drops ∈ m_tb := mT6 (List.mem_of_getElem? (i := 226) rfl) rfl
theorem mRX8_249 : Cond.methodLink RX8 249 yX8_opens ∈ m_tb := mT6 (List.mem_of_getElem? (i := 194) rfl) rfl
theorem mRX8_252 : Cond.methodLink RX8 252 yX8_asks ∈ m_tb := mT6 (List.mem_of_getElem? (i := 174) rfl) rfl
theorem mRX8_256 : Cond.methodLink RX8 256 yX8_asksSign ∈ m_tb := mT6 (List.mem_of_getElem? (i := 198) rfl) rfl
theorem mRX8_259 : Cond.methodLink RX8 259 yX8_number ∈ m_tb := mT6 (List.mem_of_getElem? (i := 160) rfl) rfl
theorem mRX8_263 : Cond.methodLink RX8 263 yX8_mark ∈ m_tb := mT6 (List.mem_of_getElem? (i := 214) rfl) rfl
theorem mRX8_266 : Cond.methodLink RX8 266 yX8_dropsToMark ∈ m_tb := mT6 (List.mem_of_getElem? (i := 222) rfl) rfl
theorem mRX8_269 : Cond.methodLink RX8 269 yX8_isOn ∈ m_tb := mT6 (List.mem_of_getElem? (i := 230) rfl) rfl
theorem mRX8_272 : Cond.methodLink RX8 272 yX8_onePart ∈ m_tb := mT6 (List.mem_of_getElem? (i := 190) rfl) rfl
theorem mRX8_275 : Cond.methodLink RX8 275 yX8_goesOn ∈ m_tb := mT6 (List.mem_of_getElem? (i := 210) rfl) rfl
theorem mRX8_279 : Cond.methodLink RX8 279 yX8_sums ∈ m_tb := mT6 (List.mem_of_getElem? (i := 186) rfl) rfl
theorem mRX8_282 : Cond.methodLink RX8 282 yX8_fact ∈ m_tb := mT6 (List.mem_of_getElem? (i := 238) rfl) rfl
theorem mRX8_285 : Cond.methodLink RX8 285 yX8_dropsNots ∈ m_tb := mT7 (List.mem_of_getElem? (i := 2) rfl) rfl
theorem mRX8_288 : Cond.methodLink RX8 288 yX8_goesOnTest ∈ m_tb := mT7 (List.mem_of_getElem? (i := 6) rfl) rfl
theorem mRX8_291 : Cond.methodLink RX8 291 yX8_hasSquare ∈ m_tb := mT7 (List.mem_of_getElem? (i := 10) rfl) rfl
theorem mRX8_294 : Cond.methodLink RX8 294 yX8_readsSum ∈ m_tb := mT6 (List.mem_of_getElem? (i := 182) rfl) rfl
theorem mRX8_297 : Cond.methodLink RX8 297 yX8_test ∈ m_tb := mT6 (List.mem_of_getElem? (i := 234) rfl) rfl
theorem mRX8_303 : Cond.methodLink RX8 303 yX8_cleanTold ∈ m_tb := mT6 (List.mem_of_getElem? (i := 170) rfl) rfl
theorem mRX8_306 : Cond.methodLink RX8 306 yX8_worthTold ∈ m_tb := mT6 (List.mem_of_getElem? (i := 178) rfl) rfl
theorem mRX8_309 : Cond.methodLink RX8 309 yX8_joinsTold ∈ m_tb := mT7 (List.mem_of_getElem? (i := 14) rfl) rfl
theorem mRX8_312 : Cond.methodLink RX8 312 yX8_forgets ∈ m_tb := mT6 (List.mem_of_getElem? (i := 133) rfl) rfl
theorem mRX8_315 : Cond.methodLink RX8 315 yX8_statement ∈ m_tb := mT6 (List.mem_of_getElem? (i := 141) rfl) rfl
theorem mRX8_321 : Cond.methodLink RX8 321 yX8_stands ∈ m_tb := mT7 (List.mem_of_getElem? (i := 18) rfl) rfl
theorem mRX8_344 : Cond.methodLink RX8 344 yX8_clip ∈ m_tb := mT7 (List.mem_of_getElem? (i := 98) rfl) rfl
theorem mRX8_348 : Cond.methodLink RX8 348 yX8_puts ∈ m_tb := mT7 (List.mem_of_getElem? (i := 90) rfl) rfl
theorem mRX8_352 : Cond.methodLink RX8 352 yX8_floor ∈ m_tb := mT7 (List.mem_of_getElem? (i := 103) rfl) rfl
theorem mRX8_374 : Cond.methodLink RX8 374 yX8_joins ∈ m_tb := mT7 (List.mem_of_getElem? (i := 94) rfl) rfl
theorem mRX8_377 : Cond.methodLink RX8 377 yX8_tells ∈ m_tb := mT7 (List.mem_of_getElem? (i := 86) rfl) rfl
theorem mRX8_388 : Cond.methodLink RX8 388 yX8_empties ∈ m_tb := mT7 (List.mem_of_getElem? (i := 38) rfl) rfl
theorem mRX8_391 : Cond.methodLink RX8 391 yX8_taken ∈ m_tb := mT7 (List.mem_of_getElem? (i := 42) rfl) rfl
theorem mRX8_395 : Cond.methodLink RX8 395 yX8_isOver ∈ m_tb := mT7 (List.mem_of_getElem? (i := 45) rfl) rfl
theorem mRX8_407 : Cond.methodLink RX8 407 yX8_owed ∈ m_tb := mT7 (List.mem_of_getElem? (i := 49) rfl) rfl
theorem mRX8_410 : Cond.methodLink RX8 410 yX8_goesThrough ∈ m_tb := mT7 (List.mem_of_getElem? (i := 34) rfl) rfl
theorem mRX8_413 : Cond.methodLink RX8 413 yX8_worthOf ∈ m_tb := mT7 (List.mem_of_getElem? (i := 82) rfl) rfl
theorem mRX8_418 : Cond.methodLink RX8 418 yX8_pointsOf ∈ m_tb := mT7 (List.mem_of_getElem? (i := 78) rfl) rfl
theorem mRX8_421 : Cond.methodLink RX8 421 yX8_soFar ∈ m_tb := mT7 (List.mem_of_getElem? (i := 112) rfl) rfl
theorem mRX8_424 : Cond.methodLink RX8 424 yX8_owes ∈ m_tb := mT7 (List.mem_of_getElem? (i := 160) rfl) rfl
theorem mRX8_433 : Cond.methodLink RX8 433 yX8_oneOf ∈ m_tb := mT7 (List.mem_of_getElem? (i := 132) rfl) rfl
theorem mRX8_436 : Cond.methodLink RX8 436 yX8_later ∈ m_tb := mT7 (List.mem_of_getElem? (i := 157) rfl) rfl
theorem mRX8_442 : Cond.methodLink RX8 442 yX8_plus ∈ m_tb := mT7 (List.mem_of_getElem? (i := 163) rfl) rfl
theorem mRX8_448 : Cond.methodLink RX8 448 yX8_cell ∈ m_tb := mT7 (List.mem_of_getElem? (i := 135) rfl) rfl
theorem mRX8_451 : Cond.methodLink RX8 451 yX8_capped ∈ m_tb := mT7 (List.mem_of_getElem? (i := 170) rfl) rfl
theorem mRX8_454 : Cond.methodLink RX8 454 yX8_nextRow ∈ m_tb := mT7 (List.mem_of_getElem? (i := 149) rfl) rfl
theorem mRX8_458 : Cond.methodLink RX8 458 yX8_ends ∈ m_tb := mT7 (List.mem_of_getElem? (i := 153) rfl) rfl
theorem mRX8_462 : Cond.methodLink RX8 462 yX8_lays ∈ m_tb := mT7 (List.mem_of_getElem? (i := 166) rfl) rfl
theorem mRX8_466 : Cond.methodLink RX8 466 yX8_fillsAhead ∈ m_tb := mT7 (List.mem_of_getElem? (i := 128) rfl) rfl
theorem mRX8_470 : Cond.methodLink RX8 470 yX8_mayOwe ∈ m_tb := mT7 (List.mem_of_getElem? (i := 138) rfl) rfl
theorem mRX8_473 : Cond.methodLink RX8 473 yX8_isOwing ∈ m_tb := mT7 (List.mem_of_getElem? (i := 142) rfl) rfl
theorem mRX8_476 : Cond.methodLink RX8 476 yX8_opensFrame ∈ m_tb := mT7 (List.mem_of_getElem? (i := 145) rfl) rfl
theorem mRX8_479 : Cond.methodLink RX8 479 yX8_tellsAhead ∈ m_tb := mT7 (List.mem_of_getElem? (i := 124) rfl) rfl
theorem mRX8_482 : Cond.methodLink RX8 482 yX8_owedNow ∈ m_tb := mT7 (List.mem_of_getElem? (i := 174) rfl) rfl
theorem mRX8_485 : Cond.methodLink RX8 485 yX8_comesByFills ∈ m_tb := mT7 (List.mem_of_getElem? (i := 178) rfl) rfl
theorem mRX8_489 : Cond.methodLink RX8 489 yX8_tellsComing ∈ m_tb := mT7 (List.mem_of_getElem? (i := 120) rfl) rfl
theorem mRX8_492 : Cond.methodLink RX8 492 yX8_endOfComing ∈ m_tb := mT7 (List.mem_of_getElem? (i := 182) rfl) rfl
theorem mRX8_496 : Cond.methodLink RX8 496 yX8_isTorn ∈ m_tb := mT7 (List.mem_of_getElem? (i := 211) rfl) rfl
theorem mRX8_499 : Cond.methodLink RX8 499 yX8_fitsFills ∈ m_tb := mT7 (List.mem_of_getElem? (i := 207) rfl) rfl
theorem mRX8_502 : Cond.methodLink RX8 502 yX8_asThere ∈ m_tb := mT7 (List.mem_of_getElem? (i := 215) rfl) rfl
theorem mRX8_507 : Cond.methodLink RX8 507 yX8_tellsFits ∈ m_tb := mT7 (List.mem_of_getElem? (i := 203) rfl) rfl
theorem mRX8_510 : Cond.methodLink RX8 510 yX8_leadsOn ∈ m_tb := mT7 (List.mem_of_getElem? (i := 229) rfl) rfl
theorem mRX8_519 : Cond.methodLink RX8 519 yX8_leads ∈ m_tb := mT7 (List.mem_of_getElem? (i := 225) rfl) rfl
theorem mRX8_522 : Cond.methodLink RX8 522 yX8_isThrough ∈ m_tb := mT7 (List.mem_of_getElem? (i := 233) rfl) rfl
theorem mRX8_528 : Cond.methodLink RX8 528 yX8_isPins ∈ m_tb := mT8 (List.mem_of_getElem? (i := 2) rfl) rfl
theorem mRX8_531 : Cond.methodLink RX8 531 yX8_part ∈ m_tb := mT8 (List.mem_of_getElem? (i := 7) rfl) rfl
theorem mRX8_534 : Cond.methodLink RX8 534 yX8_many ∈ m_tb := mT8 (List.mem_of_getElem? (i := 15) rfl) rfl
theorem mRX8_539 : Cond.methodLink RX8 539 yX8_isPlayer ∈ m_tb := mT8 (List.mem_of_getElem? (i := 30) rfl) rfl
theorem mRX8_542 : Cond.methodLink RX8 542 yX8_sumOf ∈ m_tb := mT8 (List.mem_of_getElem? (i := 38) rfl) rfl
theorem mRX8_545 : Cond.methodLink RX8 545 yX8_meanOf ∈ m_tb := mT8 (List.mem_of_getElem? (i := 42) rfl) rfl
theorem mRX8_550 : Cond.methodLink RX8 550 yX8_handicapOf ∈ m_tb := mT8 (List.mem_of_getElem? (i := 46) rfl) rfl
theorem mRX8_553 : Cond.methodLink RX8 553 yX8_meets ∈ m_tb := mT8 (List.mem_of_getElem? (i := 59) rfl) rfl
theorem mRX8_556 : Cond.methodLink RX8 556 yX8_greatest ∈ m_tb := mT8 (List.mem_of_getElem? (i := 51) rfl) rfl
theorem mRX8_559 : Cond.methodLink RX8 559 yX8_meetsAll ∈ m_tb := mT8 (List.mem_of_getElem? (i := 55) rfl) rfl
theorem mRX8_565 : Cond.methodLink RX8 565 yX8_writes ∈ m_tb := mT8 (List.mem_of_getElem? (i := 75) rfl) rfl
theorem mRX8_568 : Cond.methodLink RX8 568 yX8_checked ∈ m_tb := mT8 (List.mem_of_getElem? (i := 79) rfl) rfl
theorem mRX8_572 : Cond.methodLink RX8 572 yX8_roll ∈ m_tb := mT8 (List.mem_of_getElem? (i := 90) rfl) rfl
theorem kRX0_53 : Cond.constant RX0 53 (-1000000) ∈ m_tb := mT3 (List.mem_of_getElem? (i := 88) rfl) rfl
theorem kRX0_54 : Cond.constant RX0 54 (1000000) ∈ m_tb := mT3 (List.mem_of_getElem? (i := 89) rfl) rfl
theorem kRX0_58 : Cond.constantLong RX0 58 (-1000000) ∈ m_tb := mT3 (List.mem_of_getElem? (i := 95) rfl) rfl
theorem kRX0_60 : Cond.constantLong RX0 60 (1000000) ∈ m_tb := mT3 (List.mem_of_getElem? (i := 96) rfl) rfl
theorem kRX2_115 : Cond.constantLong RX2 115 (1000000000000000000) ∈ m_tb := mT4 (List.mem_of_getElem? (i := 148) rfl) rfl
theorem kRX6_54 : Cond.constantLong RX6 54 (1000000000000000000) ∈ m_tb := mT4 (List.mem_of_getElem? (i := 121) rfl) rfl
theorem kRX7_171 : Cond.constant RX7 171 (-1000000) ∈ m_tb := mT4 (List.mem_of_getElem? (i := 0) rfl) rfl
theorem kRX7_197 : Cond.constantLong RX7 197 (-1) ∈ m_tb := mT4 (List.mem_of_getElem? (i := 171) rfl) rfl
theorem kRX8_149 : Cond.constant RX8 149 (228960) ∈ m_tb := mT5 (List.mem_of_getElem? (i := 100) rfl) rfl
theorem kRX8_337 : Cond.constantLong RX8 337 (1000000) ∈ m_tb := mT7 (List.mem_of_getElem? (i := 101) rfl) rfl
theorem kRX8_339 : Cond.constantLong RX8 339 (-1000000) ∈ m_tb := mT7 (List.mem_of_getElem? (i := 102) rfl) rfl
theorem kRX8_381 : Cond.constantLong RX8 381 (-20) ∈ m_tb := mT7 (List.mem_of_getElem? (i := 106) rfl) rfl
theorem kRX8_383 : Cond.constantLong RX8 383 (20) ∈ m_tb := mT7 (List.mem_of_getElem? (i := 107) rfl) rfl
theorem kRX8_417 : Cond.constant RX8 417 (-1000000) ∈ m_tb := mT7 (List.mem_of_getElem? (i := 77) rfl) rfl
theorem kRX8_428 : Cond.constantLong RX8 428 (1000000000000000000) ∈ m_tb := mT7 (List.mem_of_getElem? (i := 173) rfl) rfl
theorem kRX8_505 : Cond.constantLong RX8 505 (-1) ∈ m_tb := mT7 (List.mem_of_getElem? (i := 202) rfl) rfl
theorem kRX8_513 : Cond.constantLong RX8 513 (1059) ∈ m_tb := mT7 (List.mem_of_getElem? (i := 237) rfl) rfl
theorem kRX8_515 : Cond.constantLong RX8 515 (-920) ∈ m_tb := mT7 (List.mem_of_getElem? (i := 223) rfl) rfl
theorem kRX8_517 : Cond.constantLong RX8 517 (2120) ∈ m_tb := mT7 (List.mem_of_getElem? (i := 224) rfl) rfl
theorem kRX8_526 : Cond.constantLong RX8 526 (511) ∈ m_tb := mT8 (List.mem_of_getElem? (i := 6) rfl) rfl
theorem kRX8_537 : Cond.constantLong RX8 537 (5) ∈ m_tb := mT8 (List.mem_of_getElem? (i := 33) rfl) rfl
theorem kRX8_548 : Cond.constantLong RX8 548 (99) ∈ m_tb := mT8 (List.mem_of_getElem? (i := 50) rfl) rfl
theorem kRJ6_265 : Cond.constant RJ6 265 (1431655765) ∈ m_tb := mT3 (List.mem_of_getElem? (i := 141) rfl) rfl
theorem kRJ6_266 : Cond.constant RJ6 266 (858993459) ∈ m_tb := mT3 (List.mem_of_getElem? (i := 142) rfl) rfl
theorem kRJ6_267 : Cond.constant RJ6 267 (252645135) ∈ m_tb := mT3 (List.mem_of_getElem? (i := 143) rfl) rfl
theorem wRX1_9 : Cond.classLink RX1 9 (cn 0) ∈ m_tb := mT1 (List.mem_of_getElem? (i := 30) rfl) rfl
theorem wRX2_15 : Cond.classLink RX2 15 (cn 6) ∈ m_tb := mT1 (List.mem_of_getElem? (i := 203) rfl) rfl
theorem wRX7_17 : Cond.classLink RX7 17 (cn 1) ∈ m_tb := mT1 (List.mem_of_getElem? (i := 24) rfl) rfl
theorem wRX7_27 : Cond.classLink RX7 27 (cn 3) ∈ m_tb := mT1 (List.mem_of_getElem? (i := 127) rfl) rfl
theorem wRX7_36 : Cond.classLink RX7 36 (cn 5) ∈ m_tb := mT1 (List.mem_of_getElem? (i := 154) rfl) rfl
theorem wRX7_50 : Cond.classLink RX7 50 (cn 2) ∈ m_tb := mT1 (List.mem_of_getElem? (i := 197) rfl) rfl
theorem wRX7_59 : Cond.classLink RX7 59 (cn 4) ∈ m_tb := mT2 (List.mem_of_getElem? (i := 30) rfl) rfl
theorem wRL_10 : Cond.classLink RL 10 (cn 8) ∈ m_tb := mT5 (List.mem_of_getElem? (i := 94) rfl) rfl
theorem wRL_7 : Cond.classLink RL 7 (cn 7) ∈ m_tb := mT1 (List.mem_of_getElem? (i := 16) rfl) rfl
theorem in0 : Cond.instantiable (cn 0) (f_n 0) ∈ m_tb := mT1 (List.mem_of_getElem? (i := 31) rfl) rfl
theorem ii0 : Cond.initialized (cn 0) ∈ m_tb := mT1 (List.mem_of_getElem? (i := 3) rfl) rfl
theorem ng0 : ∀ i, i < f_n 0 → f_g (f_ty 0 i) = true := by decide
theorem in1 : Cond.instantiable (cn 1) (f_n 1) ∈ m_tb := mT1 (List.mem_of_getElem? (i := 25) rfl) rfl
theorem ii1 : Cond.initialized (cn 1) ∈ m_tb := mT1 (List.mem_of_getElem? (i := 2) rfl) rfl
theorem ng1 : ∀ i, i < f_n 1 → f_g (f_ty 1 i) = true := by decide
theorem in2 : Cond.instantiable (cn 2) (f_n 2) ∈ m_tb := mT1 (List.mem_of_getElem? (i := 198) rfl) rfl
theorem ii2 : Cond.initialized (cn 2) ∈ m_tb := mT1 (List.mem_of_getElem? (i := 6) rfl) rfl
theorem ng2 : ∀ i, i < f_n 2 → f_g (f_ty 2 i) = true := by decide
theorem in3 : Cond.instantiable (cn 3) (f_n 3) ∈ m_tb := mT1 (List.mem_of_getElem? (i := 128) rfl) rfl
theorem ii3 : Cond.initialized (cn 3) ∈ m_tb := mT1 (List.mem_of_getElem? (i := 4) rfl) rfl
theorem ng3 : ∀ i, i < f_n 3 → f_g (f_ty 3 i) = true := by decide
theorem in4 : Cond.instantiable (cn 4) (f_n 4) ∈ m_tb := mT2 (List.mem_of_getElem? (i := 31) rfl) rfl
theorem ii4 : Cond.initialized (cn 4) ∈ m_tb := mT1 (List.mem_of_getElem? (i := 9) rfl) rfl
theorem ng4 : ∀ i, i < f_n 4 → f_g (f_ty 4 i) = true := by decide
theorem in5 : Cond.instantiable (cn 5) (f_n 5) ∈ m_tb := mT1 (List.mem_of_getElem? (i := 155) rfl) rfl
theorem ii5 : Cond.initialized (cn 5) ∈ m_tb := mT1 (List.mem_of_getElem? (i := 5) rfl) rfl
theorem ng5 : ∀ i, i < f_n 5 → f_g (f_ty 5 i) = true := by decide
theorem in6 : Cond.instantiable (cn 6) (f_n 6) ∈ m_tb := mT1 (List.mem_of_getElem? (i := 204) rfl) rfl
theorem ii6 : Cond.initialized (cn 6) ∈ m_tb := mT1 (List.mem_of_getElem? (i := 7) rfl) rfl
theorem ng6 : ∀ i, i < f_n 6 → f_g (f_ty 6 i) = true := by decide
theorem in7 : Cond.instantiable (cn 7) (f_n 7) ∈ m_tb := mT1 (List.mem_of_getElem? (i := 17) rfl) rfl
theorem ii7 : Cond.initialized (cn 7) ∈ m_tb := mT1 (List.mem_of_getElem? (i := 1) rfl) rfl
theorem ng7 : ∀ i, i < f_n 7 → f_g (f_ty 7 i) = true := by decide
theorem in8 : Cond.instantiable (cn 8) (f_n 8) ∈ m_tb := mT5 (List.mem_of_getElem? (i := 95) rfl) rfl
theorem ii8 : Cond.initialized (cn 8) ∈ m_tb := mT1 (List.mem_of_getElem? (i := 10) rfl) rfl
theorem ng8 : ∀ i, i < f_n 8 → f_g (f_ty 8 i) = true := by decide
theorem ac_int : Cond.arrayClass .int ∈ m_tb := mT1 (List.mem_of_getElem? (i := 52) rfl) rfl
theorem ac_boolean : Cond.arrayClass .boolean ∈ m_tb := mT1 (List.mem_of_getElem? (i := 225) rfl) rfl
theorem ac_long : Cond.arrayClass .long ∈ m_tb := mT1 (List.mem_of_getElem? (i := 226) rfl) rfl
theorem ac_char : Cond.arrayClass .char ∈ m_tb := mT6 (List.mem_of_getElem? (i := 120) rfl) rfl
theorem myX0_put : MY yX0_put cX0_put 2 (some .boolean) 1 := ⟨mT2 (List.mem_of_getElem? (i := 238) rfl) rfl, mT1 (List.mem_of_getElem? (i := 3) rfl) rfl, by decide, by decide +kernel⟩
theorem mvX0_put : Cond.instanceMethod yX0_put ∈ m_tb ∧ Cond.selects (cn 0) yX0_put yX0_put ∈ m_tb := ⟨mT2 (List.mem_of_getElem? (i := 236) rfl) rfl, mT2 (List.mem_of_getElem? (i := 237) rfl) rfl⟩
theorem myX3_skip : MY yX3_skip cX3_skip 1 none 0 := ⟨mT2 (List.mem_of_getElem? (i := 110) rfl) rfl, mT1 (List.mem_of_getElem? (i := 4) rfl) rfl, by decide, by decide +kernel⟩
theorem mvX3_skip : Cond.instanceMethod yX3_skip ∈ m_tb ∧ Cond.selects (cn 3) yX3_skip yX3_skip ∈ m_tb := ⟨mT2 (List.mem_of_getElem? (i := 109) rfl) rfl, mP1 (q := (yX3_skip, 6)) (List.mem_of_getElem? (i := 1) rfl)⟩
theorem myX3_takesSign : MY yX3_takesSign cX3_takesSign 2 (some .boolean) 1 := ⟨mT2 (List.mem_of_getElem? (i := 225) rfl) rfl, mT1 (List.mem_of_getElem? (i := 4) rfl) rfl, by decide, by decide +kernel⟩
theorem mvX3_takesSign : Cond.instanceMethod yX3_takesSign ∈ m_tb ∧ Cond.selects (cn 3) yX3_takesSign yX3_takesSign ∈ m_tb := ⟨mT2 (List.mem_of_getElem? (i := 224) rfl) rfl, mP1 (q := (yX3_takesSign, 6)) (List.mem_of_getElem? (i := 14) rfl)⟩
theorem myX3_fail : MY yX3_fail cX3_fail 3 (some .boolean) 2 := ⟨mT2 (List.mem_of_getElem? (i := 114) rfl) rfl, mT1 (List.mem_of_getElem? (i := 4) rfl) rfl, by decide, by decide +kernel⟩
theorem mvX3_fail : Cond.instanceMethod yX3_fail ∈ m_tb ∧ Cond.selects (cn 3) yX3_fail yX3_fail ∈ m_tb := ⟨mT2 (List.mem_of_getElem? (i := 113) rfl) rfl, mP1 (q := (yX3_fail, 6)) (List.mem_of_getElem? (i := 2) rfl)⟩
theorem myX3_mayOpen : MY yX3_mayOpen cX3_mayOpen 3 (some .boolean) 2 := ⟨mT2 (List.mem_of_getElem? (i := 229) rfl) rfl, mT1 (List.mem_of_getElem? (i := 4) rfl) rfl, by decide, by decide +kernel⟩
theorem mvX3_mayOpen : Cond.instanceMethod yX3_mayOpen ∈ m_tb ∧ Cond.selects (cn 3) yX3_mayOpen yX3_mayOpen ∈ m_tb := ⟨mT2 (List.mem_of_getElem? (i := 228) rfl) rfl, mP1 (q := (yX3_mayOpen, 6)) (List.mem_of_getElem? (i := 15) rfl)⟩
theorem myX3_isDigit : MY yX3_isDigit cX3_isDigit 2 (some .boolean) 1 := ⟨mT2 (List.mem_of_getElem? (i := 141) rfl) rfl, mT1 (List.mem_of_getElem? (i := 4) rfl) rfl, by decide, by decide +kernel⟩
theorem mvX3_isDigit : Cond.instanceMethod yX3_isDigit ∈ m_tb ∧ Cond.selects (cn 3) yX3_isDigit yX3_isDigit ∈ m_tb := ⟨mT2 (List.mem_of_getElem? (i := 140) rfl) rfl, mP1 (q := (yX3_isDigit, 6)) (List.mem_of_getElem? (i := 6) rfl)⟩
theorem myX3_isLetter : MY yX3_isLetter cX3_isLetter 2 (some .boolean) 1 := ⟨mT2 (List.mem_of_getElem? (i := 137) rfl) rfl, mT1 (List.mem_of_getElem? (i := 4) rfl) rfl, by decide, by decide +kernel⟩
theorem mvX3_isLetter : Cond.instanceMethod yX3_isLetter ∈ m_tb ∧ Cond.selects (cn 3) yX3_isLetter yX3_isLetter ∈ m_tb := ⟨mT2 (List.mem_of_getElem? (i := 136) rfl) rfl, mP1 (q := (yX3_isLetter, 6)) (List.mem_of_getElem? (i := 5) rfl)⟩
theorem myX3_number : MY yX3_number cX3_number 5 (some .int) 2 := ⟨mT2 (List.mem_of_getElem? (i := 183) rfl) rfl, mT1 (List.mem_of_getElem? (i := 4) rfl) rfl, by decide, by decide +kernel⟩
theorem mvX3_number : Cond.instanceMethod yX3_number ∈ m_tb ∧ Cond.selects (cn 3) yX3_number yX3_number ∈ m_tb := ⟨mT2 (List.mem_of_getElem? (i := 182) rfl) rfl, mP1 (q := (yX3_number, 6)) (List.mem_of_getElem? (i := 7) rfl)⟩
theorem myX3_takes : MY yX3_takes cX3_takes 4 (some .boolean) 1 := ⟨mT2 (List.mem_of_getElem? (i := 123) rfl) rfl, mT1 (List.mem_of_getElem? (i := 4) rfl) rfl, by decide, by decide +kernel⟩
theorem mvX3_takes : Cond.instanceMethod yX3_takes ∈ m_tb ∧ Cond.selects (cn 3) yX3_takes yX3_takes ∈ m_tb := ⟨mT2 (List.mem_of_getElem? (i := 122) rfl) rfl, mP1 (q := (yX3_takes, 6)) (List.mem_of_getElem? (i := 4) rfl)⟩
theorem myX3_pair : MY yX3_pair cX3_pair 4 (some .boolean) 2 := ⟨mT2 (List.mem_of_getElem? (i := 234) rfl) rfl, mT1 (List.mem_of_getElem? (i := 4) rfl) rfl, by decide, by decide +kernel⟩
theorem mvX3_pair : Cond.instanceMethod yX3_pair ∈ m_tb ∧ Cond.selects (cn 3) yX3_pair yX3_pair ∈ m_tb := ⟨mT2 (List.mem_of_getElem? (i := 233) rfl) rfl, mP2 (q := (yX3_pair, 6)) (List.mem_of_getElem? (i := 0) rfl)⟩
theorem myX3_part : MY yX3_part cX3_part 4 (some .boolean) 1 := ⟨mT2 (List.mem_of_getElem? (i := 221) rfl) rfl, mT1 (List.mem_of_getElem? (i := 4) rfl) rfl, by decide, by decide +kernel⟩
theorem mvX3_part : Cond.instanceMethod yX3_part ∈ m_tb ∧ Cond.selects (cn 3) yX3_part yX3_part ∈ m_tb := ⟨mT2 (List.mem_of_getElem? (i := 220) rfl) rfl, mP1 (q := (yX3_part, 6)) (List.mem_of_getElem? (i := 13) rfl)⟩
theorem myX3_product : MY yX3_product cX3_product 4 (some .boolean) 1 := ⟨mT2 (List.mem_of_getElem? (i := 217) rfl) rfl, mT1 (List.mem_of_getElem? (i := 4) rfl) rfl, by decide, by decide +kernel⟩
theorem mvX3_product : Cond.instanceMethod yX3_product ∈ m_tb ∧ Cond.selects (cn 3) yX3_product yX3_product ∈ m_tb := ⟨mT2 (List.mem_of_getElem? (i := 216) rfl) rfl, mP1 (q := (yX3_product, 6)) (List.mem_of_getElem? (i := 12) rfl)⟩
theorem myX3_sum : MY yX3_sum cX3_sum 4 (some .boolean) 1 := ⟨mT2 (List.mem_of_getElem? (i := 213) rfl) rfl, mT1 (List.mem_of_getElem? (i := 4) rfl) rfl, by decide, by decide +kernel⟩
theorem mvX3_sum : Cond.instanceMethod yX3_sum ∈ m_tb ∧ Cond.selects (cn 3) yX3_sum yX3_sum ∈ m_tb := ⟨mT2 (List.mem_of_getElem? (i := 212) rfl) rfl, mP1 (q := (yX3_sum, 6)) (List.mem_of_getElem? (i := 11) rfl)⟩
theorem myX3_both : MY yX3_both cX3_both 3 (some .boolean) 1 := ⟨mT3 (List.mem_of_getElem? (i := 14) rfl) rfl, mT1 (List.mem_of_getElem? (i := 4) rfl) rfl, by decide, by decide +kernel⟩
theorem mvX3_both : Cond.instanceMethod yX3_both ∈ m_tb ∧ Cond.selects (cn 3) yX3_both yX3_both ∈ m_tb := ⟨mT3 (List.mem_of_getElem? (i := 13) rfl) rfl, mP2 (q := (yX3_both, 6)) (List.mem_of_getElem? (i := 2) rfl)⟩
theorem myX3_test : MY yX3_test cX3_test 3 (some .boolean) 1 := ⟨mT3 (List.mem_of_getElem? (i := 10) rfl) rfl, mT1 (List.mem_of_getElem? (i := 4) rfl) rfl, by decide, by decide +kernel⟩
theorem mvX3_test : Cond.instanceMethod yX3_test ∈ m_tb ∧ Cond.selects (cn 3) yX3_test yX3_test ∈ m_tb := ⟨mT3 (List.mem_of_getElem? (i := 9) rfl) rfl, mP2 (q := (yX3_test, 6)) (List.mem_of_getElem? (i := 1) rfl)⟩
theorem myX3_fact : MY yX3_fact cX3_fact 4 (some .boolean) 1 := ⟨mT3 (List.mem_of_getElem? (i := 18) rfl) rfl, mT1 (List.mem_of_getElem? (i := 4) rfl) rfl, by decide, by decide +kernel⟩
theorem mvX3_fact : Cond.instanceMethod yX3_fact ∈ m_tb ∧ Cond.selects (cn 3) yX3_fact yX3_fact ∈ m_tb := ⟨mT3 (List.mem_of_getElem? (i := 17) rfl) rfl, mP2 (q := (yX3_fact, 6)) (List.mem_of_getElem? (i := 3) rfl)⟩
theorem myJ6_bitCount_0f7a4 : MY yJ6_bitCount_0f7a4 cJ6_bitCount_0f7a4 1 (some .int) 1 := ⟨mT3 (List.mem_of_getElem? (i := 140) rfl) rfl, mT1 (List.mem_of_getElem? (i := 15) rfl) rfl, by decide, by decide +kernel⟩
theorem msJ6_bitCount_0f7a4 : Cond.static yJ6_bitCount_0f7a4 ∈ m_tb := mT3 (List.mem_of_getElem? (i := 139) rfl) rfl
theorem myJ6_signum_0f7a4 : MY yJ6_signum_0f7a4 cJ6_signum_0f7a4 1 (some .int) 1 := ⟨mT5 (List.mem_of_getElem? (i := 59) rfl) rfl, mT1 (List.mem_of_getElem? (i := 15) rfl) rfl, by decide, by decide +kernel⟩
theorem msJ6_signum_0f7a4 : Cond.static yJ6_signum_0f7a4 ∈ m_tb := mT5 (List.mem_of_getElem? (i := 58) rfl) rfl
theorem myJ9_floorDiv_7cf53 : MY yJ9_floorDiv_7cf53 cJ9_floorDiv_7cf53 3 (some .int) 2 := ⟨mT3 (List.mem_of_getElem? (i := 105) rfl) rfl, mT1 (List.mem_of_getElem? (i := 8) rfl) rfl, by decide, by decide +kernel⟩
theorem msJ9_floorDiv_7cf53 : Cond.static yJ9_floorDiv_7cf53 ∈ m_tb := mT3 (List.mem_of_getElem? (i := 104) rfl) rfl
theorem myX0_init : MY yX0_init cX0_init 1 none 0 := ⟨mT1 (List.mem_of_getElem? (i := 34) rfl) rfl, mT1 (List.mem_of_getElem? (i := 3) rfl) rfl, by decide, by decide +kernel⟩
theorem miX0_init : Cond.instanceMethod yX0_init ∈ m_tb := mT1 (List.mem_of_getElem? (i := 33) rfl) rfl
theorem myX0_empty : MY yX0_empty cX0_empty 1 none 0 := ⟨mT1 (List.mem_of_getElem? (i := 60) rfl) rfl, mT1 (List.mem_of_getElem? (i := 3) rfl) rfl, by decide, by decide +kernel⟩
theorem mvX0_empty : Cond.instanceMethod yX0_empty ∈ m_tb ∧ Cond.selects (cn 0) yX0_empty yX0_empty ∈ m_tb := ⟨mT1 (List.mem_of_getElem? (i := 58) rfl) rfl, mT1 (List.mem_of_getElem? (i := 59) rfl) rfl⟩
theorem myX0_sizeNow : MY yX0_sizeNow cX0_sizeNow 1 (some .int) 0 := ⟨mT2 (List.mem_of_getElem? (i := 209) rfl) rfl, mT1 (List.mem_of_getElem? (i := 3) rfl) rfl, by decide, by decide +kernel⟩
theorem mvX0_sizeNow : Cond.instanceMethod yX0_sizeNow ∈ m_tb ∧ Cond.selects (cn 0) yX0_sizeNow yX0_sizeNow ∈ m_tb := ⟨mT2 (List.mem_of_getElem? (i := 207) rfl) rfl, mT2 (List.mem_of_getElem? (i := 208) rfl) rfl⟩
theorem myX0_setFrame : MY yX0_setFrame cX0_setFrame 5 none 4 := ⟨mT3 (List.mem_of_getElem? (i := 67) rfl) rfl, mT1 (List.mem_of_getElem? (i := 3) rfl) rfl, by decide, by decide +kernel⟩
theorem mvX0_setFrame : Cond.instanceMethod yX0_setFrame ∈ m_tb ∧ Cond.selects (cn 0) yX0_setFrame yX0_setFrame ∈ m_tb := ⟨mT3 (List.mem_of_getElem? (i := 65) rfl) rfl, mT3 (List.mem_of_getElem? (i := 66) rfl) rfl⟩
theorem myX0_setPlayer : MY yX0_setPlayer cX0_setPlayer 3 none 2 := ⟨mT5 (List.mem_of_getElem? (i := 33) rfl) rfl, mT1 (List.mem_of_getElem? (i := 3) rfl) rfl, by decide, by decide +kernel⟩
theorem mvX0_setPlayer : Cond.instanceMethod yX0_setPlayer ∈ m_tb ∧ Cond.selects (cn 0) yX0_setPlayer yX0_setPlayer ∈ m_tb := ⟨mT5 (List.mem_of_getElem? (i := 31) rfl) rfl, mT5 (List.mem_of_getElem? (i := 32) rfl) rfl⟩
theorem myX0_pop : MY yX0_pop cX0_pop 1 (some .int) 0 := ⟨mT3 (List.mem_of_getElem? (i := 84) rfl) rfl, mT1 (List.mem_of_getElem? (i := 3) rfl) rfl, by decide, by decide +kernel⟩
theorem mvX0_pop : Cond.instanceMethod yX0_pop ∈ m_tb ∧ Cond.selects (cn 0) yX0_pop yX0_pop ∈ m_tb := ⟨mT3 (List.mem_of_getElem? (i := 83) rfl) rfl, mP2 (q := (yX0_pop, 5)) (List.mem_of_getElem? (i := 10) rfl)⟩
theorem myX7_within : MY yX7_within cX7_within 3 (some .int) 3 := ⟨mT3 (List.mem_of_getElem? (i := 92) rfl) rfl, mT1 (List.mem_of_getElem? (i := 1) rfl) rfl, by decide, by decide +kernel⟩
theorem msX7_within : Cond.static yX7_within ∈ m_tb := mT3 (List.mem_of_getElem? (i := 91) rfl) rfl
theorem myX0_join : MY yX0_join cX0_join 3 (some .int) 3 := ⟨mT3 (List.mem_of_getElem? (i := 87) rfl) rfl, mT1 (List.mem_of_getElem? (i := 3) rfl) rfl, by decide, by decide +kernel⟩
theorem msX0_join : Cond.static yX0_join ∈ m_tb := mT3 (List.mem_of_getElem? (i := 86) rfl) rfl
theorem myX0_push : MY yX0_push cX0_push 2 none 1 := ⟨mT3 (List.mem_of_getElem? (i := 80) rfl) rfl, mT1 (List.mem_of_getElem? (i := 3) rfl) rfl, by decide, by decide +kernel⟩
theorem mvX0_push : Cond.instanceMethod yX0_push ∈ m_tb ∧ Cond.selects (cn 0) yX0_push yX0_push ∈ m_tb := ⟨mT3 (List.mem_of_getElem? (i := 79) rfl) rfl, mP2 (q := (yX0_push, 5)) (List.mem_of_getElem? (i := 9) rfl)⟩
theorem myX0_step : MY yX0_step cX0_step 4 none 1 := ⟨mT3 (List.mem_of_getElem? (i := 76) rfl) rfl, mT1 (List.mem_of_getElem? (i := 3) rfl) rfl, by decide, by decide +kernel⟩
theorem mvX0_step : Cond.instanceMethod yX0_step ∈ m_tb ∧ Cond.selects (cn 0) yX0_step yX0_step ∈ m_tb := ⟨mT3 (List.mem_of_getElem? (i := 75) rfl) rfl, mP2 (q := (yX0_step, 5)) (List.mem_of_getElem? (i := 8) rfl)⟩
theorem myX0_reckon : MY yX0_reckon cX0_reckon 4 (some .int) 2 := ⟨mT3 (List.mem_of_getElem? (i := 71) rfl) rfl, mT1 (List.mem_of_getElem? (i := 3) rfl) rfl, by decide, by decide +kernel⟩
theorem mvX0_reckon : Cond.instanceMethod yX0_reckon ∈ m_tb ∧ Cond.selects (cn 0) yX0_reckon yX0_reckon ∈ m_tb := ⟨mT3 (List.mem_of_getElem? (i := 69) rfl) rfl, mT3 (List.mem_of_getElem? (i := 70) rfl) rfl⟩
theorem myX1_empty : MY yX1_empty cX1_empty 2 none 0 := ⟨mT1 (List.mem_of_getElem? (i := 56) rfl) rfl, mT1 (List.mem_of_getElem? (i := 2) rfl) rfl, by decide, by decide +kernel⟩
theorem mvX1_empty : Cond.instanceMethod yX1_empty ∈ m_tb ∧ Cond.selects (cn 1) yX1_empty yX1_empty ∈ m_tb := ⟨mT1 (List.mem_of_getElem? (i := 54) rfl) rfl, mT1 (List.mem_of_getElem? (i := 55) rfl) rfl⟩
theorem myX1_init : MY yX1_init cX1_init 1 none 0 := ⟨mT1 (List.mem_of_getElem? (i := 28) rfl) rfl, mT1 (List.mem_of_getElem? (i := 2) rfl) rfl, by decide, by decide +kernel⟩
theorem miX1_init : Cond.instanceMethod yX1_init ∈ m_tb := mT1 (List.mem_of_getElem? (i := 27) rfl) rfl
theorem myX1_setEarned : MY yX1_setEarned cX1_setEarned 3 none 2 := ⟨mT2 (List.mem_of_getElem? (i := 200) rfl) rfl, mT1 (List.mem_of_getElem? (i := 2) rfl) rfl, by decide, by decide +kernel⟩
theorem mvX1_setEarned : Cond.instanceMethod yX1_setEarned ∈ m_tb ∧ Cond.selects (cn 1) yX1_setEarned yX1_setEarned ∈ m_tb := ⟨mT2 (List.mem_of_getElem? (i := 198) rfl) rfl, mT2 (List.mem_of_getElem? (i := 199) rfl) rfl⟩
theorem myX1_isPin : MY yX1_isPin cX1_isPin 1 (some .boolean) 1 := ⟨mT3 (List.mem_of_getElem? (i := 48) rfl) rfl, mT1 (List.mem_of_getElem? (i := 2) rfl) rfl, by decide, by decide +kernel⟩
theorem msX1_isPin : Cond.static yX1_isPin ∈ m_tb := mT3 (List.mem_of_getElem? (i := 47) rfl) rfl
theorem myX1_joinPins : MY yX1_joinPins cX1_joinPins 3 none 2 := ⟨mT3 (List.mem_of_getElem? (i := 45) rfl) rfl, mT1 (List.mem_of_getElem? (i := 2) rfl) rfl, by decide, by decide +kernel⟩
theorem mvX1_joinPins : Cond.instanceMethod yX1_joinPins ∈ m_tb ∧ Cond.selects (cn 1) yX1_joinPins yX1_joinPins ∈ m_tb := ⟨mT3 (List.mem_of_getElem? (i := 43) rfl) rfl, mT3 (List.mem_of_getElem? (i := 44) rfl) rfl⟩
theorem myX1_addWorth : MY yX1_addWorth cX1_addWorth 3 none 2 := ⟨mT3 (List.mem_of_getElem? (i := 26) rfl) rfl, mT1 (List.mem_of_getElem? (i := 2) rfl) rfl, by decide, by decide +kernel⟩
theorem mvX1_addWorth : Cond.instanceMethod yX1_addWorth ∈ m_tb ∧ Cond.selects (cn 1) yX1_addWorth yX1_addWorth ∈ m_tb := ⟨mT3 (List.mem_of_getElem? (i := 24) rfl) rfl, mT3 (List.mem_of_getElem? (i := 25) rfl) rfl⟩
theorem myX1_setHandicap : MY yX1_setHandicap cX1_setHandicap 2 none 1 := ⟨mT3 (List.mem_of_getElem? (i := 36) rfl) rfl, mT1 (List.mem_of_getElem? (i := 2) rfl) rfl, by decide, by decide +kernel⟩
theorem mvX1_setHandicap : Cond.instanceMethod yX1_setHandicap ∈ m_tb ∧ Cond.selects (cn 1) yX1_setHandicap yX1_setHandicap ∈ m_tb := ⟨mT3 (List.mem_of_getElem? (i := 34) rfl) rfl, mT3 (List.mem_of_getElem? (i := 35) rfl) rfl⟩
theorem myX1_reckonWorth : MY yX1_reckonWorth cX1_reckonWorth 6 (some .int) 4 := ⟨mT3 (List.mem_of_getElem? (i := 63) rfl) rfl, mT1 (List.mem_of_getElem? (i := 2) rfl) rfl, by decide, by decide +kernel⟩
theorem mvX1_reckonWorth : Cond.instanceMethod yX1_reckonWorth ∈ m_tb ∧ Cond.selects (cn 1) yX1_reckonWorth yX1_reckonWorth ∈ m_tb := ⟨mT3 (List.mem_of_getElem? (i := 62) rfl) rfl, mP2 (q := (yX1_reckonWorth, 15)) (List.mem_of_getElem? (i := 7) rfl)⟩
theorem myX1_worthIndex : MY yX1_worthIndex cX1_worthIndex 4 (some .int) 4 := ⟨mT3 (List.mem_of_getElem? (i := 59) rfl) rfl, mT1 (List.mem_of_getElem? (i := 2) rfl) rfl, by decide, by decide +kernel⟩
theorem msX1_worthIndex : Cond.static yX1_worthIndex ∈ m_tb := mT3 (List.mem_of_getElem? (i := 58) rfl) rfl
theorem myX1_settleFouls : MY yX1_settleFouls cX1_settleFouls 6 none 3 := ⟨mT3 (List.mem_of_getElem? (i := 56) rfl) rfl, mT1 (List.mem_of_getElem? (i := 2) rfl) rfl, by decide, by decide +kernel⟩
theorem mvX1_settleFouls : Cond.instanceMethod yX1_settleFouls ∈ m_tb ∧ Cond.selects (cn 1) yX1_settleFouls yX1_settleFouls ∈ m_tb := ⟨mT3 (List.mem_of_getElem? (i := 55) rfl) rfl, mP2 (q := (yX1_settleFouls, 15)) (List.mem_of_getElem? (i := 6) rfl)⟩
theorem myX1_settle : MY yX1_settle cX1_settle 4 none 0 := ⟨mT3 (List.mem_of_getElem? (i := 52) rfl) rfl, mT1 (List.mem_of_getElem? (i := 2) rfl) rfl, by decide, by decide +kernel⟩
theorem mvX1_settle : Cond.instanceMethod yX1_settle ∈ m_tb ∧ Cond.selects (cn 1) yX1_settle yX1_settle ∈ m_tb := ⟨mT3 (List.mem_of_getElem? (i := 50) rfl) rfl, mT3 (List.mem_of_getElem? (i := 51) rfl) rfl⟩
theorem myX1_worthOf : MY yX1_worthOf cX1_worthOf 6 (some .int) 4 := ⟨mT3 (List.mem_of_getElem? (i := 239) rfl) rfl, mT1 (List.mem_of_getElem? (i := 2) rfl) rfl, by decide, by decide +kernel⟩
theorem mvX1_worthOf : Cond.instanceMethod yX1_worthOf ∈ m_tb ∧ Cond.selects (cn 1) yX1_worthOf yX1_worthOf ∈ m_tb := ⟨mT3 (List.mem_of_getElem? (i := 237) rfl) rfl, mT3 (List.mem_of_getElem? (i := 238) rfl) rfl⟩
theorem myX1_earnedBy : MY yX1_earnedBy cX1_earnedBy 2 (some .int) 1 := ⟨mT3 (List.mem_of_getElem? (i := 133) rfl) rfl, mT1 (List.mem_of_getElem? (i := 2) rfl) rfl, by decide, by decide +kernel⟩
theorem mvX1_earnedBy : Cond.instanceMethod yX1_earnedBy ∈ m_tb ∧ Cond.selects (cn 1) yX1_earnedBy yX1_earnedBy ∈ m_tb := ⟨mT3 (List.mem_of_getElem? (i := 131) rfl) rfl, mT3 (List.mem_of_getElem? (i := 132) rfl) rfl⟩
theorem myX1_handicap : MY yX1_handicap cX1_handicap 3 (some .int) 2 := ⟨mT5 (List.mem_of_getElem? (i := 29) rfl) rfl, mT1 (List.mem_of_getElem? (i := 2) rfl) rfl, by decide, by decide +kernel⟩
theorem mvX1_handicap : Cond.instanceMethod yX1_handicap ∈ m_tb ∧ Cond.selects (cn 1) yX1_handicap yX1_handicap ∈ m_tb := ⟨mT5 (List.mem_of_getElem? (i := 27) rfl) rfl, mT5 (List.mem_of_getElem? (i := 28) rfl) rfl⟩
theorem myX1_hasPins : MY yX1_hasPins cX1_hasPins 2 (some .boolean) 1 := ⟨mT4 (List.mem_of_getElem? (i := 198) rfl) rfl, mT1 (List.mem_of_getElem? (i := 2) rfl) rfl, by decide, by decide +kernel⟩
theorem mvX1_hasPins : Cond.instanceMethod yX1_hasPins ∈ m_tb ∧ Cond.selects (cn 1) yX1_hasPins yX1_hasPins ∈ m_tb := ⟨mT4 (List.mem_of_getElem? (i := 196) rfl) rfl, mT4 (List.mem_of_getElem? (i := 197) rfl) rfl⟩
theorem myX1_countJoins : MY yX1_countJoins cX1_countJoins 3 (some .int) 0 := ⟨mT3 (List.mem_of_getElem? (i := 137) rfl) rfl, mT1 (List.mem_of_getElem? (i := 2) rfl) rfl, by decide, by decide +kernel⟩
theorem mvX1_countJoins : Cond.instanceMethod yX1_countJoins ∈ m_tb ∧ Cond.selects (cn 1) yX1_countJoins yX1_countJoins ∈ m_tb := ⟨mT3 (List.mem_of_getElem? (i := 135) rfl) rfl, mT3 (List.mem_of_getElem? (i := 136) rfl) rfl⟩
theorem myX1_cluster : MY yX1_cluster cX1_cluster 6 (some .int) 1 := ⟨mT4 (List.mem_of_getElem? (i := 206) rfl) rfl, mT1 (List.mem_of_getElem? (i := 2) rfl) rfl, by decide, by decide +kernel⟩
theorem mvX1_cluster : Cond.instanceMethod yX1_cluster ∈ m_tb ∧ Cond.selects (cn 1) yX1_cluster yX1_cluster ∈ m_tb := ⟨mT4 (List.mem_of_getElem? (i := 205) rfl) rfl, mP3 (q := (yX1_cluster, 15)) (List.mem_of_getElem? (i := 9) rfl)⟩
theorem myX1_hangTogether : MY yX1_hangTogether cX1_hangTogether 2 (some .boolean) 1 := ⟨mT4 (List.mem_of_getElem? (i := 202) rfl) rfl, mT1 (List.mem_of_getElem? (i := 2) rfl) rfl, by decide, by decide +kernel⟩
theorem mvX1_hangTogether : Cond.instanceMethod yX1_hangTogether ∈ m_tb ∧ Cond.selects (cn 1) yX1_hangTogether yX1_hangTogether ∈ m_tb := ⟨mT4 (List.mem_of_getElem? (i := 200) rfl) rfl, mT4 (List.mem_of_getElem? (i := 201) rfl) rfl⟩
theorem myX1_countClusters : MY yX1_countClusters cX1_countClusters 5 (some .int) 1 := ⟨mT4 (List.mem_of_getElem? (i := 218) rfl) rfl, mT1 (List.mem_of_getElem? (i := 2) rfl) rfl, by decide, by decide +kernel⟩
theorem mvX1_countClusters : Cond.instanceMethod yX1_countClusters ∈ m_tb ∧ Cond.selects (cn 1) yX1_countClusters yX1_countClusters ∈ m_tb := ⟨mT4 (List.mem_of_getElem? (i := 216) rfl) rfl, mT4 (List.mem_of_getElem? (i := 217) rfl) rfl⟩
theorem myX1_countFalls : MY yX1_countFalls cX1_countFalls 4 (some .int) 1 := ⟨mT4 (List.mem_of_getElem? (i := 226) rfl) rfl, mT1 (List.mem_of_getElem? (i := 2) rfl) rfl, by decide, by decide +kernel⟩
theorem mvX1_countFalls : Cond.instanceMethod yX1_countFalls ∈ m_tb ∧ Cond.selects (cn 1) yX1_countFalls yX1_countFalls ∈ m_tb := ⟨mT4 (List.mem_of_getElem? (i := 224) rfl) rfl, mT4 (List.mem_of_getElem? (i := 225) rfl) rfl⟩
theorem myX4_init : MY yX4_init cX4_init 1 none 0 := ⟨mT2 (List.mem_of_getElem? (i := 34) rfl) rfl, mT1 (List.mem_of_getElem? (i := 9) rfl) rfl, by decide, by decide +kernel⟩
theorem miX4_init : Cond.instanceMethod yX4_init ∈ m_tb := mT2 (List.mem_of_getElem? (i := 33) rfl) rfl
theorem myX4_forget : MY yX4_forget cX4_forget 2 none 0 := ⟨mT3 (List.mem_of_getElem? (i := 112) rfl) rfl, mT1 (List.mem_of_getElem? (i := 9) rfl) rfl, by decide, by decide +kernel⟩
theorem mvX4_forget : Cond.instanceMethod yX4_forget ∈ m_tb ∧ Cond.selects (cn 4) yX4_forget yX4_forget ∈ m_tb := ⟨mT3 (List.mem_of_getElem? (i := 110) rfl) rfl, mT3 (List.mem_of_getElem? (i := 111) rfl) rfl⟩
theorem myX4_knows : MY yX4_knows cX4_knows 2 (some .boolean) 1 := ⟨mT4 (List.mem_of_getElem? (i := 235) rfl) rfl, mT1 (List.mem_of_getElem? (i := 9) rfl) rfl, by decide, by decide +kernel⟩
theorem mvX4_knows : Cond.instanceMethod yX4_knows ∈ m_tb ∧ Cond.selects (cn 4) yX4_knows yX4_knows ∈ m_tb := ⟨mT4 (List.mem_of_getElem? (i := 233) rfl) rfl, mT4 (List.mem_of_getElem? (i := 234) rfl) rfl⟩
theorem myX4_gamesOf : MY yX4_gamesOf cX4_gamesOf 2 (some .int) 1 := ⟨mT5 (List.mem_of_getElem? (i := 3) rfl) rfl, mT1 (List.mem_of_getElem? (i := 9) rfl) rfl, by decide, by decide +kernel⟩
theorem mvX4_gamesOf : Cond.instanceMethod yX4_gamesOf ∈ m_tb ∧ Cond.selects (cn 4) yX4_gamesOf yX4_gamesOf ∈ m_tb := ⟨mT5 (List.mem_of_getElem? (i := 1) rfl) rfl, mT5 (List.mem_of_getElem? (i := 2) rfl) rfl⟩
theorem myX4_totalOf : MY yX4_totalOf cX4_totalOf 3 (some .int) 2 := ⟨mT5 (List.mem_of_getElem? (i := 24) rfl) rfl, mT1 (List.mem_of_getElem? (i := 9) rfl) rfl, by decide, by decide +kernel⟩
theorem mvX4_totalOf : Cond.instanceMethod yX4_totalOf ∈ m_tb ∧ Cond.selects (cn 4) yX4_totalOf yX4_totalOf ∈ m_tb := ⟨mT5 (List.mem_of_getElem? (i := 23) rfl) rfl, mP3 (q := (yX4_totalOf, 3)) (List.mem_of_getElem? (i := 10) rfl)⟩
theorem myX4_add : MY yX4_add cX4_add 4 (some .int) 2 := ⟨mT4 (List.mem_of_getElem? (i := 239) rfl) rfl, mT1 (List.mem_of_getElem? (i := 9) rfl) rfl, by decide, by decide +kernel⟩
theorem mvX4_add : Cond.instanceMethod yX4_add ∈ m_tb ∧ Cond.selects (cn 4) yX4_add yX4_add ∈ m_tb := ⟨mT4 (List.mem_of_getElem? (i := 237) rfl) rfl, mT4 (List.mem_of_getElem? (i := 238) rfl) rfl⟩
theorem myX4_sumOf : MY yX4_sumOf cX4_sumOf 4 (some .int) 1 := ⟨mT5 (List.mem_of_getElem? (i := 20) rfl) rfl, mT1 (List.mem_of_getElem? (i := 9) rfl) rfl, by decide, by decide +kernel⟩
theorem mvX4_sumOf : Cond.instanceMethod yX4_sumOf ∈ m_tb ∧ Cond.selects (cn 4) yX4_sumOf yX4_sumOf ∈ m_tb := ⟨mT5 (List.mem_of_getElem? (i := 18) rfl) rfl, mT5 (List.mem_of_getElem? (i := 19) rfl) rfl⟩
theorem myX4_meanOf : MY yX4_meanOf cX4_meanOf 3 (some .int) 1 := ⟨mT5 (List.mem_of_getElem? (i := 16) rfl) rfl, mT1 (List.mem_of_getElem? (i := 9) rfl) rfl, by decide, by decide +kernel⟩
theorem mvX4_meanOf : Cond.instanceMethod yX4_meanOf ∈ m_tb ∧ Cond.selects (cn 4) yX4_meanOf yX4_meanOf ∈ m_tb := ⟨mT5 (List.mem_of_getElem? (i := 14) rfl) rfl, mT5 (List.mem_of_getElem? (i := 15) rfl) rfl⟩
theorem myX4_bestOf : MY yX4_bestOf cX4_bestOf 4 (some .int) 1 := ⟨mT5 (List.mem_of_getElem? (i := 45) rfl) rfl, mT1 (List.mem_of_getElem? (i := 9) rfl) rfl, by decide, by decide +kernel⟩
theorem mvX4_bestOf : Cond.instanceMethod yX4_bestOf ∈ m_tb ∧ Cond.selects (cn 4) yX4_bestOf yX4_bestOf ∈ m_tb := ⟨mT5 (List.mem_of_getElem? (i := 43) rfl) rfl, mT5 (List.mem_of_getElem? (i := 44) rfl) rfl⟩
theorem myX4_setHandicaps : MY yX4_setHandicaps cX4_setHandicaps 3 none 1 := ⟨mT5 (List.mem_of_getElem? (i := 12) rfl) rfl, mT1 (List.mem_of_getElem? (i := 9) rfl) rfl, by decide, by decide +kernel⟩
theorem mvX4_setHandicaps : Cond.instanceMethod yX4_setHandicaps ∈ m_tb ∧ Cond.selects (cn 4) yX4_setHandicaps yX4_setHandicaps ∈ m_tb := ⟨mT5 (List.mem_of_getElem? (i := 10) rfl) rfl, mT5 (List.mem_of_getElem? (i := 11) rfl) rfl⟩
theorem myX4_handicapOf : MY yX4_handicapOf cX4_handicapOf 2 (some .int) 1 := ⟨mT5 (List.mem_of_getElem? (i := 41) rfl) rfl, mT1 (List.mem_of_getElem? (i := 9) rfl) rfl, by decide, by decide +kernel⟩
theorem mvX4_handicapOf : Cond.instanceMethod yX4_handicapOf ∈ m_tb ∧ Cond.selects (cn 4) yX4_handicapOf yX4_handicapOf ∈ m_tb := ⟨mT5 (List.mem_of_getElem? (i := 39) rfl) rfl, mT5 (List.mem_of_getElem? (i := 40) rfl) rfl⟩
theorem myX4_meeting : MY yX4_meeting cX4_meeting 7 (some .int) 2 := ⟨mT5 (List.mem_of_getElem? (i := 54) rfl) rfl, mT1 (List.mem_of_getElem? (i := 9) rfl) rfl, by decide, by decide +kernel⟩
theorem mvX4_meeting : Cond.instanceMethod yX4_meeting ∈ m_tb ∧ Cond.selects (cn 4) yX4_meeting yX4_meeting ∈ m_tb := ⟨mT5 (List.mem_of_getElem? (i := 52) rfl) rfl, mT5 (List.mem_of_getElem? (i := 53) rfl) rfl⟩
theorem myX4_gathered : MY yX4_gathered cX4_gathered 4 (some .int) 1 := ⟨mT5 (List.mem_of_getElem? (i := 50) rfl) rfl, mT1 (List.mem_of_getElem? (i := 9) rfl) rfl, by decide, by decide +kernel⟩
theorem mvX4_gathered : Cond.instanceMethod yX4_gathered ∈ m_tb ∧ Cond.selects (cn 4) yX4_gathered yX4_gathered ∈ m_tb := ⟨mT5 (List.mem_of_getElem? (i := 48) rfl) rfl, mT5 (List.mem_of_getElem? (i := 49) rfl) rfl⟩
theorem myX4_countAhead : MY yX4_countAhead cX4_countAhead 5 (some .int) 1 := ⟨mT5 (List.mem_of_getElem? (i := 72) rfl) rfl, mT1 (List.mem_of_getElem? (i := 9) rfl) rfl, by decide, by decide +kernel⟩
theorem mvX4_countAhead : Cond.instanceMethod yX4_countAhead ∈ m_tb ∧ Cond.selects (cn 4) yX4_countAhead yX4_countAhead ∈ m_tb := ⟨mT5 (List.mem_of_getElem? (i := 70) rfl) rfl, mT5 (List.mem_of_getElem? (i := 71) rfl) rfl⟩
theorem myX5_empty : MY yX5_empty cX5_empty 2 none 1 := ⟨mT1 (List.mem_of_getElem? (i := 163) rfl) rfl, mT1 (List.mem_of_getElem? (i := 5) rfl) rfl, by decide, by decide +kernel⟩
theorem mvX5_empty : Cond.instanceMethod yX5_empty ∈ m_tb ∧ Cond.selects (cn 5) yX5_empty yX5_empty ∈ m_tb := ⟨mT1 (List.mem_of_getElem? (i := 161) rfl) rfl, mT1 (List.mem_of_getElem? (i := 162) rfl) rfl⟩
theorem myX5_init : MY yX5_init cX5_init 2 none 1 := ⟨mT1 (List.mem_of_getElem? (i := 158) rfl) rfl, mT1 (List.mem_of_getElem? (i := 5) rfl) rfl, by decide, by decide +kernel⟩
theorem miX5_init : Cond.instanceMethod yX5_init ∈ m_tb := mT1 (List.mem_of_getElem? (i := 157) rfl) rfl
theorem myX5_isWhole : MY yX5_isWhole cX5_isWhole 1 (some .boolean) 0 := ⟨mT3 (List.mem_of_getElem? (i := 155) rfl) rfl, mT1 (List.mem_of_getElem? (i := 5) rfl) rfl, by decide, by decide +kernel⟩
theorem mvX5_isWhole : Cond.instanceMethod yX5_isWhole ∈ m_tb ∧ Cond.selects (cn 5) yX5_isWhole yX5_isWhole ∈ m_tb := ⟨mT3 (List.mem_of_getElem? (i := 153) rfl) rfl, mT3 (List.mem_of_getElem? (i := 154) rfl) rfl⟩
theorem myX5_closeFrame : MY yX5_closeFrame cX5_closeFrame 1 none 0 := ⟨mT3 (List.mem_of_getElem? (i := 160) rfl) rfl, mT1 (List.mem_of_getElem? (i := 5) rfl) rfl, by decide, by decide +kernel⟩
theorem mvX5_closeFrame : Cond.instanceMethod yX5_closeFrame ∈ m_tb ∧ Cond.selects (cn 5) yX5_closeFrame yX5_closeFrame ∈ m_tb := ⟨mT3 (List.mem_of_getElem? (i := 159) rfl) rfl, mP2 (q := (yX5_closeFrame, 8)) (List.mem_of_getElem? (i := 12) rfl)⟩
theorem myX5_add : MY yX5_add cX5_add 2 (some .boolean) 1 := ⟨mT3 (List.mem_of_getElem? (i := 151) rfl) rfl, mT1 (List.mem_of_getElem? (i := 5) rfl) rfl, by decide, by decide +kernel⟩
theorem mvX5_add : Cond.instanceMethod yX5_add ∈ m_tb ∧ Cond.selects (cn 5) yX5_add yX5_add ∈ m_tb := ⟨mT3 (List.mem_of_getElem? (i := 149) rfl) rfl, mT3 (List.mem_of_getElem? (i := 150) rfl) rfl⟩
theorem myX5_takeLast : MY yX5_takeLast cX5_takeLast 3 (some .boolean) 0 := ⟨mT3 (List.mem_of_getElem? (i := 169) rfl) rfl, mT1 (List.mem_of_getElem? (i := 5) rfl) rfl, by decide, by decide +kernel⟩
theorem mvX5_takeLast : Cond.instanceMethod yX5_takeLast ∈ m_tb ∧ Cond.selects (cn 5) yX5_takeLast yX5_takeLast ∈ m_tb := ⟨mT3 (List.mem_of_getElem? (i := 167) rfl) rfl, mT3 (List.mem_of_getElem? (i := 168) rfl) rfl⟩
theorem myX5_firstRoll : MY yX5_firstRoll cX5_firstRoll 2 (some .int) 1 := ⟨mT3 (List.mem_of_getElem? (i := 187) rfl) rfl, mT1 (List.mem_of_getElem? (i := 5) rfl) rfl, by decide, by decide +kernel⟩
theorem mvX5_firstRoll : Cond.instanceMethod yX5_firstRoll ∈ m_tb ∧ Cond.selects (cn 5) yX5_firstRoll yX5_firstRoll ∈ m_tb := ⟨mT3 (List.mem_of_getElem? (i := 185) rfl) rfl, mT3 (List.mem_of_getElem? (i := 186) rfl) rfl⟩
theorem myX5_fillsEarned : MY yX5_fillsEarned cX5_fillsEarned 1 (some .int) 0 := ⟨mT3 (List.mem_of_getElem? (i := 183) rfl) rfl, mT1 (List.mem_of_getElem? (i := 5) rfl) rfl, by decide, by decide +kernel⟩
theorem mvX5_fillsEarned : Cond.instanceMethod yX5_fillsEarned ∈ m_tb ∧ Cond.selects (cn 5) yX5_fillsEarned yX5_fillsEarned ∈ m_tb := ⟨mT3 (List.mem_of_getElem? (i := 181) rfl) rfl, mT3 (List.mem_of_getElem? (i := 182) rfl) rfl⟩
theorem myX5_rollAt : MY yX5_rollAt cX5_rollAt 2 (some .int) 1 := ⟨mT3 (List.mem_of_getElem? (i := 212) rfl) rfl, mT1 (List.mem_of_getElem? (i := 5) rfl) rfl, by decide, by decide +kernel⟩
theorem mvX5_rollAt : Cond.instanceMethod yX5_rollAt ∈ m_tb ∧ Cond.selects (cn 5) yX5_rollAt yX5_rollAt ∈ m_tb := ⟨mT3 (List.mem_of_getElem? (i := 210) rfl) rfl, mT3 (List.mem_of_getElem? (i := 211) rfl) rfl⟩
theorem myX5_sizeOf : MY yX5_sizeOf cX5_sizeOf 2 (some .int) 1 := ⟨mT3 (List.mem_of_getElem? (i := 199) rfl) rfl, mT1 (List.mem_of_getElem? (i := 5) rfl) rfl, by decide, by decide +kernel⟩
theorem mvX5_sizeOf : Cond.instanceMethod yX5_sizeOf ∈ m_tb ∧ Cond.selects (cn 5) yX5_sizeOf yX5_sizeOf ∈ m_tb := ⟨mT3 (List.mem_of_getElem? (i := 197) rfl) rfl, mT3 (List.mem_of_getElem? (i := 198) rfl) rfl⟩
theorem myX5_takenFrom : MY yX5_takenFrom cX5_takenFrom 5 (some .int) 2 := ⟨mT3 (List.mem_of_getElem? (i := 208) rfl) rfl, mT1 (List.mem_of_getElem? (i := 5) rfl) rfl, by decide, by decide +kernel⟩
theorem mvX5_takenFrom : Cond.instanceMethod yX5_takenFrom ∈ m_tb ∧ Cond.selects (cn 5) yX5_takenFrom yX5_takenFrom ∈ m_tb := ⟨mT3 (List.mem_of_getElem? (i := 207) rfl) rfl, mP2 (q := (yX5_takenFrom, 8)) (List.mem_of_getElem? (i := 13) rfl)⟩
theorem myX5_downIn : MY yX5_downIn cX5_downIn 2 (some .int) 1 := ⟨mT3 (List.mem_of_getElem? (i := 203) rfl) rfl, mT1 (List.mem_of_getElem? (i := 5) rfl) rfl, by decide, by decide +kernel⟩
theorem mvX5_downIn : Cond.instanceMethod yX5_downIn ∈ m_tb ∧ Cond.selects (cn 5) yX5_downIn yX5_downIn ∈ m_tb := ⟨mT3 (List.mem_of_getElem? (i := 201) rfl) rfl, mT3 (List.mem_of_getElem? (i := 202) rfl) rfl⟩
theorem myX5_foulsIn : MY yX5_foulsIn cX5_foulsIn 4 (some .int) 1 := ⟨mT3 (List.mem_of_getElem? (i := 221) rfl) rfl, mT1 (List.mem_of_getElem? (i := 5) rfl) rfl, by decide, by decide +kernel⟩
theorem mvX5_foulsIn : Cond.instanceMethod yX5_foulsIn ∈ m_tb ∧ Cond.selects (cn 5) yX5_foulsIn yX5_foulsIn ∈ m_tb := ⟨mT3 (List.mem_of_getElem? (i := 219) rfl) rfl, mT3 (List.mem_of_getElem? (i := 220) rfl) rfl⟩
theorem myX5_cleanBy : MY yX5_cleanBy cX5_cleanBy 2 (some .int) 1 := ⟨mT3 (List.mem_of_getElem? (i := 216) rfl) rfl, mT1 (List.mem_of_getElem? (i := 5) rfl) rfl, by decide, by decide +kernel⟩
theorem mvX5_cleanBy : Cond.instanceMethod yX5_cleanBy ∈ m_tb ∧ Cond.selects (cn 5) yX5_cleanBy yX5_cleanBy ∈ m_tb := ⟨mT3 (List.mem_of_getElem? (i := 214) rfl) rfl, mT3 (List.mem_of_getElem? (i := 215) rfl) rfl⟩
theorem myX5_isSettled : MY yX5_isSettled cX5_isSettled 2 (some .boolean) 1 := ⟨mT3 (List.mem_of_getElem? (i := 229) rfl) rfl, mT1 (List.mem_of_getElem? (i := 5) rfl) rfl, by decide, by decide +kernel⟩
theorem mvX5_isSettled : Cond.instanceMethod yX5_isSettled ∈ m_tb ∧ Cond.selects (cn 5) yX5_isSettled yX5_isSettled ∈ m_tb := ⟨mT3 (List.mem_of_getElem? (i := 227) rfl) rfl, mT3 (List.mem_of_getElem? (i := 228) rfl) rfl⟩
theorem myX5_worthAndTaken : MY yX5_worthAndTaken cX5_worthAndTaken 5 (some .int) 1 := ⟨mT3 (List.mem_of_getElem? (i := 234) rfl) rfl, mT1 (List.mem_of_getElem? (i := 5) rfl) rfl, by decide, by decide +kernel⟩
theorem mvX5_worthAndTaken : Cond.instanceMethod yX5_worthAndTaken ∈ m_tb ∧ Cond.selects (cn 5) yX5_worthAndTaken yX5_worthAndTaken ∈ m_tb := ⟨mT3 (List.mem_of_getElem? (i := 232) rfl) rfl, mT3 (List.mem_of_getElem? (i := 233) rfl) rfl⟩
theorem myX5_sumOfFrames : MY yX5_sumOfFrames cX5_sumOfFrames 3 (some .int) 0 := ⟨mT4 (List.mem_of_getElem? (i := 8) rfl) rfl, mT1 (List.mem_of_getElem? (i := 5) rfl) rfl, by decide, by decide +kernel⟩
theorem mvX5_sumOfFrames : Cond.instanceMethod yX5_sumOfFrames ∈ m_tb ∧ Cond.selects (cn 5) yX5_sumOfFrames yX5_sumOfFrames ∈ m_tb := ⟨mT4 (List.mem_of_getElem? (i := 6) rfl) rfl, mT4 (List.mem_of_getElem? (i := 7) rfl) rfl⟩
theorem myX6_init : MY yX6_init cX6_init 4 none 2 := ⟨mT1 (List.mem_of_getElem? (i := 207) rfl) rfl, mT1 (List.mem_of_getElem? (i := 7) rfl) rfl, by decide, by decide +kernel⟩
theorem miX6_init : Cond.instanceMethod yX6_init ∈ m_tb := mT1 (List.mem_of_getElem? (i := 206) rfl) rfl
theorem myX6_open : MY yX6_open cX6_open 1 none 0 := ⟨mT4 (List.mem_of_getElem? (i := 26) rfl) rfl, mT1 (List.mem_of_getElem? (i := 7) rfl) rfl, by decide, by decide +kernel⟩
theorem mvX6_open : Cond.instanceMethod yX6_open ∈ m_tb ∧ Cond.selects (cn 6) yX6_open yX6_open ∈ m_tb := ⟨mT4 (List.mem_of_getElem? (i := 24) rfl) rfl, mT4 (List.mem_of_getElem? (i := 25) rfl) rfl⟩
theorem myX6_isRow : MY yX6_isRow cX6_isRow 2 (some .boolean) 1 := ⟨mT4 (List.mem_of_getElem? (i := 38) rfl) rfl, mT1 (List.mem_of_getElem? (i := 7) rfl) rfl, by decide, by decide +kernel⟩
theorem mvX6_isRow : Cond.instanceMethod yX6_isRow ∈ m_tb ∧ Cond.selects (cn 6) yX6_isRow yX6_isRow ∈ m_tb := ⟨mT4 (List.mem_of_getElem? (i := 37) rfl) rfl, mP2 (q := (yX6_isRow, 4)) (List.mem_of_getElem? (i := 15) rfl)⟩
theorem myX6_low : MY yX6_low cX6_low 2 (some .int) 1 := ⟨mT4 (List.mem_of_getElem? (i := 59) rfl) rfl, mT1 (List.mem_of_getElem? (i := 7) rfl) rfl, by decide, by decide +kernel⟩
theorem mvX6_low : Cond.instanceMethod yX6_low ∈ m_tb ∧ Cond.selects (cn 6) yX6_low yX6_low ∈ m_tb := ⟨mT4 (List.mem_of_getElem? (i := 57) rfl) rfl, mT4 (List.mem_of_getElem? (i := 58) rfl) rfl⟩
theorem myX6_high : MY yX6_high cX6_high 2 (some .int) 1 := ⟨mT4 (List.mem_of_getElem? (i := 34) rfl) rfl, mT1 (List.mem_of_getElem? (i := 7) rfl) rfl, by decide, by decide +kernel⟩
theorem mvX6_high : Cond.instanceMethod yX6_high ∈ m_tb ∧ Cond.selects (cn 6) yX6_high yX6_high ∈ m_tb := ⟨mT4 (List.mem_of_getElem? (i := 32) rfl) rfl, mT4 (List.mem_of_getElem? (i := 33) rfl) rfl⟩
theorem myX6_isEmpty : MY yX6_isEmpty cX6_isEmpty 2 (some .boolean) 1 := ⟨mT4 (List.mem_of_getElem? (i := 55) rfl) rfl, mT1 (List.mem_of_getElem? (i := 7) rfl) rfl, by decide, by decide +kernel⟩
theorem mvX6_isEmpty : Cond.instanceMethod yX6_isEmpty ∈ m_tb ∧ Cond.selects (cn 6) yX6_isEmpty yX6_isEmpty ∈ m_tb := ⟨mT4 (List.mem_of_getElem? (i := 53) rfl) rfl, mT4 (List.mem_of_getElem? (i := 54) rfl) rfl⟩
theorem myX6_value : MY yX6_value cX6_value 3 (some .long) 2 := ⟨mT4 (List.mem_of_getElem? (i := 156) rfl) rfl, mT1 (List.mem_of_getElem? (i := 7) rfl) rfl, by decide, by decide +kernel⟩
theorem mvX6_value : Cond.instanceMethod yX6_value ∈ m_tb ∧ Cond.selects (cn 6) yX6_value yX6_value ∈ m_tb := ⟨mT4 (List.mem_of_getElem? (i := 154) rfl) rfl, mT4 (List.mem_of_getElem? (i := 155) rfl) rfl⟩
theorem myX6_stretch : MY yX6_stretch cX6_stretch 4 none 3 := ⟨mT4 (List.mem_of_getElem? (i := 47) rfl) rfl, mT1 (List.mem_of_getElem? (i := 7) rfl) rfl, by decide, by decide +kernel⟩
theorem mvX6_stretch : Cond.instanceMethod yX6_stretch ∈ m_tb ∧ Cond.selects (cn 6) yX6_stretch yX6_stretch ∈ m_tb := ⟨mT4 (List.mem_of_getElem? (i := 46) rfl) rfl, mP3 (q := (yX6_stretch, 4)) (List.mem_of_getElem? (i := 0) rfl)⟩
theorem myX6_set : MY yX6_set cX6_set 5 none 3 := ⟨mT4 (List.mem_of_getElem? (i := 43) rfl) rfl, mT1 (List.mem_of_getElem? (i := 7) rfl) rfl, by decide, by decide +kernel⟩
theorem mvX6_set : Cond.instanceMethod yX6_set ∈ m_tb ∧ Cond.selects (cn 6) yX6_set yX6_set ∈ m_tb := ⟨mT4 (List.mem_of_getElem? (i := 41) rfl) rfl, mT4 (List.mem_of_getElem? (i := 42) rfl) rfl⟩
theorem myX6_canTake : MY yX6_canTake cX6_canTake 5 (some .boolean) 4 := ⟨mT4 (List.mem_of_getElem? (i := 120) rfl) rfl, mT1 (List.mem_of_getElem? (i := 7) rfl) rfl, by decide, by decide +kernel⟩
theorem mvX6_canTake : Cond.instanceMethod yX6_canTake ∈ m_tb ∧ Cond.selects (cn 6) yX6_canTake yX6_canTake ∈ m_tb := ⟨mT4 (List.mem_of_getElem? (i := 119) rfl) rfl, mP3 (q := (yX6_canTake, 4)) (List.mem_of_getElem? (i := 8) rfl)⟩
theorem myX6_addCounts : MY yX6_addCounts cX6_addCounts 15 none 5 := ⟨mT4 (List.mem_of_getElem? (i := 116) rfl) rfl, mT1 (List.mem_of_getElem? (i := 7) rfl) rfl, by decide, by decide +kernel⟩
theorem mvX6_addCounts : Cond.instanceMethod yX6_addCounts ∈ m_tb ∧ Cond.selects (cn 6) yX6_addCounts yX6_addCounts ∈ m_tb := ⟨mT4 (List.mem_of_getElem? (i := 114) rfl) rfl, mT4 (List.mem_of_getElem? (i := 115) rfl) rfl⟩
theorem myX6_addMarks : MY yX6_addMarks cX6_addMarks 11 none 5 := ⟨mT4 (List.mem_of_getElem? (i := 126) rfl) rfl, mT1 (List.mem_of_getElem? (i := 7) rfl) rfl, by decide, by decide +kernel⟩
theorem mvX6_addMarks : Cond.instanceMethod yX6_addMarks ∈ m_tb ∧ Cond.selects (cn 6) yX6_addMarks yX6_addMarks ∈ m_tb := ⟨mT4 (List.mem_of_getElem? (i := 124) rfl) rfl, mT4 (List.mem_of_getElem? (i := 125) rfl) rfl⟩
theorem myX6_wipe : MY yX6_wipe cX6_wipe 4 none 0 := ⟨mT4 (List.mem_of_getElem? (i := 30) rfl) rfl, mT1 (List.mem_of_getElem? (i := 7) rfl) rfl, by decide, by decide +kernel⟩
theorem mvX6_wipe : Cond.instanceMethod yX6_wipe ∈ m_tb ∧ Cond.selects (cn 6) yX6_wipe yX6_wipe ∈ m_tb := ⟨mT4 (List.mem_of_getElem? (i := 28) rfl) rfl, mT4 (List.mem_of_getElem? (i := 29) rfl) rfl⟩
theorem myX2_init : MY yX2_init cX2_init 2 none 1 := ⟨mT1 (List.mem_of_getElem? (i := 201) rfl) rfl, mT1 (List.mem_of_getElem? (i := 6) rfl) rfl, by decide, by decide +kernel⟩
theorem miX2_init : Cond.instanceMethod yX2_init ∈ m_tb := mT1 (List.mem_of_getElem? (i := 200) rfl) rfl
theorem myX2_forget : MY yX2_forget cX2_forget 1 none 0 := ⟨mT3 (List.mem_of_getElem? (i := 120) rfl) rfl, mT1 (List.mem_of_getElem? (i := 6) rfl) rfl, by decide, by decide +kernel⟩
theorem mvX2_forget : Cond.instanceMethod yX2_forget ∈ m_tb ∧ Cond.selects (cn 2) yX2_forget yX2_forget ∈ m_tb := ⟨mT3 (List.mem_of_getElem? (i := 118) rfl) rfl, mT3 (List.mem_of_getElem? (i := 119) rfl) rfl⟩
theorem myX2_fillsOf : MY yX2_fillsOf cX2_fillsOf 1 (some .int) 1 := ⟨mT4 (List.mem_of_getElem? (i := 103) rfl) rfl, mT1 (List.mem_of_getElem? (i := 6) rfl) rfl, by decide, by decide +kernel⟩
theorem msX2_fillsOf : Cond.static yX2_fillsOf ∈ m_tb := mT4 (List.mem_of_getElem? (i := 102) rfl) rfl
theorem myX2_givenIn : MY yX2_givenIn cX2_givenIn 2 (some .int) 1 := ⟨mT4 (List.mem_of_getElem? (i := 93) rfl) rfl, mT1 (List.mem_of_getElem? (i := 6) rfl) rfl, by decide, by decide +kernel⟩
theorem mvX2_givenIn : Cond.instanceMethod yX2_givenIn ∈ m_tb ∧ Cond.selects (cn 2) yX2_givenIn yX2_givenIn ∈ m_tb := ⟨mT4 (List.mem_of_getElem? (i := 92) rfl) rfl, mP3 (q := (yX2_givenIn, 14)) (List.mem_of_getElem? (i := 4) rfl)⟩
theorem myX2_moveGroup : MY yX2_moveGroup cX2_moveGroup 6 none 3 := ⟨mT4 (List.mem_of_getElem? (i := 112) rfl) rfl, mT1 (List.mem_of_getElem? (i := 6) rfl) rfl, by decide, by decide +kernel⟩
theorem mvX2_moveGroup : Cond.instanceMethod yX2_moveGroup ∈ m_tb ∧ Cond.selects (cn 2) yX2_moveGroup yX2_moveGroup ∈ m_tb := ⟨mT4 (List.mem_of_getElem? (i := 111) rfl) rfl, mP3 (q := (yX2_moveGroup, 14)) (List.mem_of_getElem? (i := 7) rfl)⟩
theorem myX2_addToGroup : MY yX2_addToGroup cX2_addToGroup 4 none 2 := ⟨mT4 (List.mem_of_getElem? (i := 83) rfl) rfl, mT1 (List.mem_of_getElem? (i := 6) rfl) rfl, by decide, by decide +kernel⟩
theorem mvX2_addToGroup : Cond.instanceMethod yX2_addToGroup ∈ m_tb ∧ Cond.selects (cn 2) yX2_addToGroup yX2_addToGroup ∈ m_tb := ⟨mT4 (List.mem_of_getElem? (i := 82) rfl) rfl, mP3 (q := (yX2_addToGroup, 14)) (List.mem_of_getElem? (i := 3) rfl)⟩
theorem myX2_markTake : MY yX2_markTake cX2_markTake 4 none 3 := ⟨mT4 (List.mem_of_getElem? (i := 100) rfl) rfl, mT1 (List.mem_of_getElem? (i := 6) rfl) rfl, by decide, by decide +kernel⟩
theorem mvX2_markTake : Cond.instanceMethod yX2_markTake ∈ m_tb ∧ Cond.selects (cn 2) yX2_markTake yX2_markTake ∈ m_tb := ⟨mT4 (List.mem_of_getElem? (i := 99) rfl) rfl, mP3 (q := (yX2_markTake, 14)) (List.mem_of_getElem? (i := 5) rfl)⟩
theorem myX2_nextOf : MY yX2_nextOf cX2_nextOf 1 (some .int) 1 := ⟨mT4 (List.mem_of_getElem? (i := 86) rfl) rfl, mT1 (List.mem_of_getElem? (i := 6) rfl) rfl, by decide, by decide +kernel⟩
theorem msX2_nextOf : Cond.static yX2_nextOf ∈ m_tb := mT4 (List.mem_of_getElem? (i := 85) rfl) rfl
theorem myX2_stateOf : MY yX2_stateOf cX2_stateOf 3 (some .int) 3 := ⟨mT4 (List.mem_of_getElem? (i := 77) rfl) rfl, mT1 (List.mem_of_getElem? (i := 6) rfl) rfl, by decide, by decide +kernel⟩
theorem msX2_stateOf : Cond.static yX2_stateOf ∈ m_tb := mT4 (List.mem_of_getElem? (i := 76) rfl) rfl
theorem myX2_stateBehind : MY yX2_stateBehind cX2_stateBehind 1 (some .int) 1 := ⟨mT4 (List.mem_of_getElem? (i := 89) rfl) rfl, mT1 (List.mem_of_getElem? (i := 6) rfl) rfl, by decide, by decide +kernel⟩
theorem msX2_stateBehind : Cond.static yX2_stateBehind ∈ m_tb := mT4 (List.mem_of_getElem? (i := 88) rfl) rfl
theorem myX2_playFills : MY yX2_playFills cX2_playFills 10 none 4 := ⟨mT4 (List.mem_of_getElem? (i := 108) rfl) rfl, mT1 (List.mem_of_getElem? (i := 6) rfl) rfl, by decide, by decide +kernel⟩
theorem mvX2_playFills : Cond.instanceMethod yX2_playFills ∈ m_tb ∧ Cond.selects (cn 2) yX2_playFills yX2_playFills ∈ m_tb := ⟨mT4 (List.mem_of_getElem? (i := 107) rfl) rfl, mP3 (q := (yX2_playFills, 14)) (List.mem_of_getElem? (i := 6) rfl)⟩
theorem myX2_stateWith : MY yX2_stateWith cX2_stateWith 2 (some .int) 2 := ⟨mT4 (List.mem_of_getElem? (i := 68) rfl) rfl, mT1 (List.mem_of_getElem? (i := 6) rfl) rfl, by decide, by decide +kernel⟩
theorem msX2_stateWith : Cond.static yX2_stateWith ∈ m_tb := mT4 (List.mem_of_getElem? (i := 67) rfl) rfl
theorem myX2_playFrame : MY yX2_playFrame cX2_playFrame 11 none 6 := ⟨mT4 (List.mem_of_getElem? (i := 63) rfl) rfl, mT1 (List.mem_of_getElem? (i := 6) rfl) rfl, by decide, by decide +kernel⟩
theorem mvX2_playFrame : Cond.instanceMethod yX2_playFrame ∈ m_tb ∧ Cond.selects (cn 2) yX2_playFrame yX2_playFrame ∈ m_tb := ⟨mT4 (List.mem_of_getElem? (i := 62) rfl) rfl, mP3 (q := (yX2_playFrame, 14)) (List.mem_of_getElem? (i := 2) rfl)⟩
theorem myX2_goThroughFrame : MY yX2_goThroughFrame cX2_goThroughFrame 4 none 1 := ⟨mT4 (List.mem_of_getElem? (i := 51) rfl) rfl, mT1 (List.mem_of_getElem? (i := 6) rfl) rfl, by decide, by decide +kernel⟩
theorem mvX2_goThroughFrame : Cond.instanceMethod yX2_goThroughFrame ∈ m_tb ∧ Cond.selects (cn 2) yX2_goThroughFrame yX2_goThroughFrame ∈ m_tb := ⟨mT4 (List.mem_of_getElem? (i := 50) rfl) rfl, mP3 (q := (yX2_goThroughFrame, 14)) (List.mem_of_getElem? (i := 1) rfl)⟩
theorem myX2_goThrough : MY yX2_goThrough cX2_goThrough 3 none 1 := ⟨mT4 (List.mem_of_getElem? (i := 22) rfl) rfl, mT1 (List.mem_of_getElem? (i := 6) rfl) rfl, by decide, by decide +kernel⟩
theorem mvX2_goThrough : Cond.instanceMethod yX2_goThrough ∈ m_tb ∧ Cond.selects (cn 2) yX2_goThrough yX2_goThrough ∈ m_tb := ⟨mT4 (List.mem_of_getElem? (i := 21) rfl) rfl, mP2 (q := (yX2_goThrough, 14)) (List.mem_of_getElem? (i := 14) rfl)⟩
theorem myX2_lookAhead : MY yX2_lookAhead cX2_lookAhead 5 none 2 := ⟨mT4 (List.mem_of_getElem? (i := 17) rfl) rfl, mT1 (List.mem_of_getElem? (i := 6) rfl) rfl, by decide, by decide +kernel⟩
theorem mvX2_lookAhead : Cond.instanceMethod yX2_lookAhead ∈ m_tb ∧ Cond.selects (cn 2) yX2_lookAhead yX2_lookAhead ∈ m_tb := ⟨mT4 (List.mem_of_getElem? (i := 15) rfl) rfl, mT4 (List.mem_of_getElem? (i := 16) rfl) rfl⟩
theorem myX2_isTorn : MY yX2_isTorn cX2_isTorn 2 (some .boolean) 2 := ⟨mT4 (List.mem_of_getElem? (i := 186) rfl) rfl, mT1 (List.mem_of_getElem? (i := 6) rfl) rfl, by decide, by decide +kernel⟩
theorem msX2_isTorn : Cond.static yX2_isTorn ∈ m_tb := mT4 (List.mem_of_getElem? (i := 185) rfl) rfl
theorem myX2_lookAtTorn : MY yX2_lookAtTorn cX2_lookAtTorn 6 none 3 := ⟨mT4 (List.mem_of_getElem? (i := 183) rfl) rfl, mT1 (List.mem_of_getElem? (i := 6) rfl) rfl, by decide, by decide +kernel⟩
theorem mvX2_lookAtTorn : Cond.instanceMethod yX2_lookAtTorn ∈ m_tb ∧ Cond.selects (cn 2) yX2_lookAtTorn yX2_lookAtTorn ∈ m_tb := ⟨mT4 (List.mem_of_getElem? (i := 181) rfl) rfl, mT4 (List.mem_of_getElem? (i := 182) rfl) rfl⟩
theorem myX2_at : MY yX2_at cX2_at 2 (some .long) 1 := ⟨mT4 (List.mem_of_getElem? (i := 152) rfl) rfl, mT1 (List.mem_of_getElem? (i := 6) rfl) rfl, by decide, by decide +kernel⟩
theorem mvX2_at : Cond.instanceMethod yX2_at ∈ m_tb ∧ Cond.selects (cn 2) yX2_at yX2_at ∈ m_tb := ⟨mT4 (List.mem_of_getElem? (i := 150) rfl) rfl, mT4 (List.mem_of_getElem? (i := 151) rfl) rfl⟩
theorem myX2_least : MY yX2_least cX2_least 1 (some .int) 0 := ⟨mT4 (List.mem_of_getElem? (i := 135) rfl) rfl, mT1 (List.mem_of_getElem? (i := 6) rfl) rfl, by decide, by decide +kernel⟩
theorem mvX2_least : Cond.instanceMethod yX2_least ∈ m_tb ∧ Cond.selects (cn 2) yX2_least yX2_least ∈ m_tb := ⟨mT4 (List.mem_of_getElem? (i := 133) rfl) rfl, mT4 (List.mem_of_getElem? (i := 134) rfl) rfl⟩
theorem myX2_greatest : MY yX2_greatest cX2_greatest 1 (some .int) 0 := ⟨mT4 (List.mem_of_getElem? (i := 130) rfl) rfl, mT1 (List.mem_of_getElem? (i := 6) rfl) rfl, by decide, by decide +kernel⟩
theorem mvX2_greatest : Cond.instanceMethod yX2_greatest ∈ m_tb ∧ Cond.selects (cn 2) yX2_greatest yX2_greatest ∈ m_tb := ⟨mT4 (List.mem_of_getElem? (i := 128) rfl) rfl, mT4 (List.mem_of_getElem? (i := 129) rfl) rfl⟩
theorem myX2_countFrom : MY yX2_countFrom cX2_countFrom 5 (some .long) 1 := ⟨mT4 (List.mem_of_getElem? (i := 144) rfl) rfl, mT1 (List.mem_of_getElem? (i := 6) rfl) rfl, by decide, by decide +kernel⟩
theorem mvX2_countFrom : Cond.instanceMethod yX2_countFrom ∈ m_tb ∧ Cond.selects (cn 2) yX2_countFrom yX2_countFrom ∈ m_tb := ⟨mT4 (List.mem_of_getElem? (i := 142) rfl) rfl, mT4 (List.mem_of_getElem? (i := 143) rfl) rfl⟩
theorem myX2_marksFrom : MY yX2_marksFrom cX2_marksFrom 5 (some .long) 1 := ⟨mT4 (List.mem_of_getElem? (i := 166) rfl) rfl, mT1 (List.mem_of_getElem? (i := 6) rfl) rfl, by decide, by decide +kernel⟩
theorem mvX2_marksFrom : Cond.instanceMethod yX2_marksFrom ∈ m_tb ∧ Cond.selects (cn 2) yX2_marksFrom yX2_marksFrom ∈ m_tb := ⟨mT4 (List.mem_of_getElem? (i := 164) rfl) rfl, mT4 (List.mem_of_getElem? (i := 165) rfl) rfl⟩
theorem myX2_marksBelow : MY yX2_marksBelow cX2_marksBelow 5 (some .long) 1 := ⟨mT4 (List.mem_of_getElem? (i := 170) rfl) rfl, mT1 (List.mem_of_getElem? (i := 6) rfl) rfl, by decide, by decide +kernel⟩
theorem mvX2_marksBelow : Cond.instanceMethod yX2_marksBelow ∈ m_tb ∧ Cond.selects (cn 2) yX2_marksBelow yX2_marksBelow ∈ m_tb := ⟨mT4 (List.mem_of_getElem? (i := 168) rfl) rfl, mT4 (List.mem_of_getElem? (i := 169) rfl) rfl⟩
theorem myX3_init : MY yX3_init cX3_init 2 none 1 := ⟨mT1 (List.mem_of_getElem? (i := 131) rfl) rfl, mT1 (List.mem_of_getElem? (i := 4) rfl) rfl, by decide, by decide +kernel⟩
theorem miX3_init : Cond.instanceMethod yX3_init ∈ m_tb := mT1 (List.mem_of_getElem? (i := 130) rfl) rfl
theorem myX3_expectsWord : MY yX3_expectsWord cX3_expectsWord 2 (some .boolean) 1 := ⟨mT2 (List.mem_of_getElem? (i := 196) rfl) rfl, mT1 (List.mem_of_getElem? (i := 4) rfl) rfl, by decide, by decide +kernel⟩
theorem mvX3_expectsWord : Cond.instanceMethod yX3_expectsWord ∈ m_tb ∧ Cond.selects (cn 3) yX3_expectsWord yX3_expectsWord ∈ m_tb := ⟨mT2 (List.mem_of_getElem? (i := 195) rfl) rfl, mP1 (q := (yX3_expectsWord, 6)) (List.mem_of_getElem? (i := 9) rfl)⟩
theorem myX3_clean : MY yX3_clean cX3_clean 3 (some .boolean) 0 := ⟨mT2 (List.mem_of_getElem? (i := 191) rfl) rfl, mT1 (List.mem_of_getElem? (i := 4) rfl) rfl, by decide, by decide +kernel⟩
theorem mvX3_clean : Cond.instanceMethod yX3_clean ∈ m_tb ∧ Cond.selects (cn 3) yX3_clean yX3_clean ∈ m_tb := ⟨mT2 (List.mem_of_getElem? (i := 190) rfl) rfl, mP1 (q := (yX3_clean, 6)) (List.mem_of_getElem? (i := 8) rfl)⟩
theorem myX3_handicap : MY yX3_handicap cX3_handicap 2 (some .boolean) 0 := ⟨mT3 (List.mem_of_getElem? (i := 32) rfl) rfl, mT1 (List.mem_of_getElem? (i := 4) rfl) rfl, by decide, by decide +kernel⟩
theorem mvX3_handicap : Cond.instanceMethod yX3_handicap ∈ m_tb ∧ Cond.selects (cn 3) yX3_handicap yX3_handicap ∈ m_tb := ⟨mT3 (List.mem_of_getElem? (i := 31) rfl) rfl, mP2 (q := (yX3_handicap, 6)) (List.mem_of_getElem? (i := 4) rfl)⟩
theorem myX3_joins : MY yX3_joins cX3_joins 4 (some .boolean) 0 := ⟨mT3 (List.mem_of_getElem? (i := 41) rfl) rfl, mT1 (List.mem_of_getElem? (i := 4) rfl) rfl, by decide, by decide +kernel⟩
theorem mvX3_joins : Cond.instanceMethod yX3_joins ∈ m_tb ∧ Cond.selects (cn 3) yX3_joins yX3_joins ∈ m_tb := ⟨mT3 (List.mem_of_getElem? (i := 40) rfl) rfl, mP2 (q := (yX3_joins, 6)) (List.mem_of_getElem? (i := 5) rfl)⟩
theorem myX3_worth : MY yX3_worth cX3_worth 3 (some .boolean) 0 := ⟨mT2 (List.mem_of_getElem? (i := 205) rfl) rfl, mT1 (List.mem_of_getElem? (i := 4) rfl) rfl, by decide, by decide +kernel⟩
theorem mvX3_worth : Cond.instanceMethod yX3_worth ∈ m_tb ∧ Cond.selects (cn 3) yX3_worth yX3_worth ∈ m_tb := ⟨mT2 (List.mem_of_getElem? (i := 204) rfl) rfl, mP1 (q := (yX3_worth, 6)) (List.mem_of_getElem? (i := 10) rfl)⟩
theorem myX3_statement : MY yX3_statement cX3_statement 1 (some .boolean) 0 := ⟨mT2 (List.mem_of_getElem? (i := 118) rfl) rfl, mT1 (List.mem_of_getElem? (i := 4) rfl) rfl, by decide, by decide +kernel⟩
theorem mvX3_statement : Cond.instanceMethod yX3_statement ∈ m_tb ∧ Cond.selects (cn 3) yX3_statement yX3_statement ∈ m_tb := ⟨mT2 (List.mem_of_getElem? (i := 117) rfl) rfl, mP1 (q := (yX3_statement, 6)) (List.mem_of_getElem? (i := 3) rfl)⟩
theorem myX3_read : MY yX3_read cX3_read 5 (some .boolean) 3 := ⟨mT2 (List.mem_of_getElem? (i := 102) rfl) rfl, mT1 (List.mem_of_getElem? (i := 4) rfl) rfl, by decide, by decide +kernel⟩
theorem mvX3_read : Cond.instanceMethod yX3_read ∈ m_tb ∧ Cond.selects (cn 3) yX3_read yX3_read ∈ m_tb := ⟨mT2 (List.mem_of_getElem? (i := 100) rfl) rfl, mT2 (List.mem_of_getElem? (i := 101) rfl) rfl⟩
theorem myX7_init : MY yX7_init cX7_init 1 none 0 := ⟨mT1 (List.mem_of_getElem? (i := 20) rfl) rfl, mT1 (List.mem_of_getElem? (i := 1) rfl) rfl, by decide, by decide +kernel⟩
theorem miX7_init : Cond.instanceMethod yX7_init ∈ m_tb := mT1 (List.mem_of_getElem? (i := 19) rfl) rfl
theorem myX7_append : MY yX7_append cX7_append 3 none 1 := ⟨mT2 (List.mem_of_getElem? (i := 90) rfl) rfl, mT1 (List.mem_of_getElem? (i := 1) rfl) rfl, by decide, by decide +kernel⟩
theorem mvX7_append : Cond.instanceMethod yX7_append ∈ m_tb ∧ Cond.selects (cn 7) yX7_append yX7_append ∈ m_tb := ⟨mT2 (List.mem_of_getElem? (i := 89) rfl) rfl, mP1 (q := (yX7_append, 12)) (List.mem_of_getElem? (i := 0) rfl)⟩
theorem myX7_feed : MY yX7_feed cX7_feed 6 (some .int) 5 := ⟨mT2 (List.mem_of_getElem? (i := 86) rfl) rfl, mT1 (List.mem_of_getElem? (i := 1) rfl) rfl, by decide, by decide +kernel⟩
theorem mvX7_feed : Cond.instanceMethod yX7_feed ∈ m_tb ∧ Cond.selects (cn 7) yX7_feed yX7_feed ∈ m_tb := ⟨mT2 (List.mem_of_getElem? (i := 84) rfl) rfl, mT2 (List.mem_of_getElem? (i := 85) rfl) rfl⟩
theorem myX7_end : MY yX7_end cX7_end 2 (some .boolean) 1 := ⟨mT2 (List.mem_of_getElem? (i := 94) rfl) rfl, mT1 (List.mem_of_getElem? (i := 1) rfl) rfl, by decide, by decide +kernel⟩
theorem mvX7_end : Cond.instanceMethod yX7_end ∈ m_tb ∧ Cond.selects (cn 7) yX7_end yX7_end ∈ m_tb := ⟨mT2 (List.mem_of_getElem? (i := 92) rfl) rfl, mT2 (List.mem_of_getElem? (i := 93) rfl) rfl⟩
theorem myX7_sheetIsNew : MY yX7_sheetIsNew cX7_sheetIsNew 2 none 0 := ⟨mT3 (List.mem_of_getElem? (i := 116) rfl) rfl, mT1 (List.mem_of_getElem? (i := 1) rfl) rfl, by decide, by decide +kernel⟩
theorem mvX7_sheetIsNew : Cond.instanceMethod yX7_sheetIsNew ∈ m_tb ∧ Cond.selects (cn 7) yX7_sheetIsNew yX7_sheetIsNew ∈ m_tb := ⟨mT3 (List.mem_of_getElem? (i := 115) rfl) rfl, mP2 (q := (yX7_sheetIsNew, 12)) (List.mem_of_getElem? (i := 11) rfl)⟩
theorem myX7_game : MY yX7_game cX7_game 3 (some .int) 0 := ⟨mT2 (List.mem_of_getElem? (i := 98) rfl) rfl, mT1 (List.mem_of_getElem? (i := 1) rfl) rfl, by decide, by decide +kernel⟩
theorem mvX7_game : Cond.instanceMethod yX7_game ∈ m_tb ∧ Cond.selects (cn 7) yX7_game yX7_game ∈ m_tb := ⟨mT2 (List.mem_of_getElem? (i := 96) rfl) rfl, mT2 (List.mem_of_getElem? (i := 97) rfl) rfl⟩
theorem myX7_fault : MY yX7_fault cX7_fault 2 (some .int) 1 := ⟨mT3 (List.mem_of_getElem? (i := 125) rfl) rfl, mT1 (List.mem_of_getElem? (i := 1) rfl) rfl, by decide, by decide +kernel⟩
theorem mvX7_fault : Cond.instanceMethod yX7_fault ∈ m_tb ∧ Cond.selects (cn 7) yX7_fault yX7_fault ∈ m_tb := ⟨mT3 (List.mem_of_getElem? (i := 123) rfl) rfl, mT3 (List.mem_of_getElem? (i := 124) rfl) rfl⟩
theorem myX7_has : MY yX7_has cX7_has 2 (some .int) 1 := ⟨mT3 (List.mem_of_getElem? (i := 129) rfl) rfl, mT1 (List.mem_of_getElem? (i := 1) rfl) rfl, by decide, by decide +kernel⟩
theorem mvX7_has : Cond.instanceMethod yX7_has ∈ m_tb ∧ Cond.selects (cn 7) yX7_has yX7_has ∈ m_tb := ⟨mT3 (List.mem_of_getElem? (i := 127) rfl) rfl, mT3 (List.mem_of_getElem? (i := 128) rfl) rfl⟩
theorem myX7_roll : MY yX7_roll cX7_roll 2 (some .boolean) 1 := ⟨mT3 (List.mem_of_getElem? (i := 147) rfl) rfl, mT1 (List.mem_of_getElem? (i := 1) rfl) rfl, by decide, by decide +kernel⟩
theorem mvX7_roll : Cond.instanceMethod yX7_roll ∈ m_tb ∧ Cond.selects (cn 7) yX7_roll yX7_roll ∈ m_tb := ⟨mT3 (List.mem_of_getElem? (i := 145) rfl) rfl, mT3 (List.mem_of_getElem? (i := 146) rfl) rfl⟩
theorem myX7_back : MY yX7_back cX7_back 1 (some .boolean) 0 := ⟨mT3 (List.mem_of_getElem? (i := 165) rfl) rfl, mT1 (List.mem_of_getElem? (i := 1) rfl) rfl, by decide, by decide +kernel⟩
theorem mvX7_back : Cond.instanceMethod yX7_back ∈ m_tb ∧ Cond.selects (cn 7) yX7_back yX7_back ∈ m_tb := ⟨mT3 (List.mem_of_getElem? (i := 163) rfl) rfl, mT3 (List.mem_of_getElem? (i := 164) rfl) rfl⟩
theorem myX7_clear : MY yX7_clear cX7_clear 2 (some .int) 0 := ⟨mT3 (List.mem_of_getElem? (i := 174) rfl) rfl, mT1 (List.mem_of_getElem? (i := 1) rfl) rfl, by decide, by decide +kernel⟩
theorem mvX7_clear : Cond.instanceMethod yX7_clear ∈ m_tb ∧ Cond.selects (cn 7) yX7_clear yX7_clear ∈ m_tb := ⟨mT3 (List.mem_of_getElem? (i := 172) rfl) rfl, mT3 (List.mem_of_getElem? (i := 173) rfl) rfl⟩
theorem myX7_sheet : MY yX7_sheet cX7_sheet 3 (some .int) 1 := ⟨mT3 (List.mem_of_getElem? (i := 178) rfl) rfl, mT1 (List.mem_of_getElem? (i := 1) rfl) rfl, by decide, by decide +kernel⟩
theorem mvX7_sheet : Cond.instanceMethod yX7_sheet ∈ m_tb ∧ Cond.selects (cn 7) yX7_sheet yX7_sheet ∈ m_tb := ⟨mT3 (List.mem_of_getElem? (i := 176) rfl) rfl, mT3 (List.mem_of_getElem? (i := 177) rfl) rfl⟩
theorem myX7_rolled : MY yX7_rolled cX7_rolled 2 (some .int) 1 := ⟨mT3 (List.mem_of_getElem? (i := 191) rfl) rfl, mT1 (List.mem_of_getElem? (i := 1) rfl) rfl, by decide, by decide +kernel⟩
theorem mvX7_rolled : Cond.instanceMethod yX7_rolled ∈ m_tb ∧ Cond.selects (cn 7) yX7_rolled yX7_rolled ∈ m_tb := ⟨mT3 (List.mem_of_getElem? (i := 189) rfl) rfl, mT3 (List.mem_of_getElem? (i := 190) rfl) rfl⟩
theorem myX7_frame : MY yX7_frame cX7_frame 3 (some .int) 2 := ⟨mT3 (List.mem_of_getElem? (i := 195) rfl) rfl, mT1 (List.mem_of_getElem? (i := 1) rfl) rfl, by decide, by decide +kernel⟩
theorem mvX7_frame : Cond.instanceMethod yX7_frame ∈ m_tb ∧ Cond.selects (cn 7) yX7_frame yX7_frame ∈ m_tb := ⟨mT3 (List.mem_of_getElem? (i := 193) rfl) rfl, mT3 (List.mem_of_getElem? (i := 194) rfl) rfl⟩
theorem myX7_points : MY yX7_points cX7_points 2 (some .int) 1 := ⟨mT3 (List.mem_of_getElem? (i := 225) rfl) rfl, mT1 (List.mem_of_getElem? (i := 1) rfl) rfl, by decide, by decide +kernel⟩
theorem mvX7_points : Cond.instanceMethod yX7_points ∈ m_tb ∧ Cond.selects (cn 7) yX7_points yX7_points ∈ m_tb := ⟨mT3 (List.mem_of_getElem? (i := 223) rfl) rfl, mT3 (List.mem_of_getElem? (i := 224) rfl) rfl⟩
theorem myX7_total : MY yX7_total cX7_total 1 (some .int) 0 := ⟨mT4 (List.mem_of_getElem? (i := 4) rfl) rfl, mT1 (List.mem_of_getElem? (i := 1) rfl) rfl, by decide, by decide +kernel⟩
theorem mvX7_total : Cond.instanceMethod yX7_total ∈ m_tb ∧ Cond.selects (cn 7) yX7_total yX7_total ∈ m_tb := ⟨mT4 (List.mem_of_getElem? (i := 2) rfl) rfl, mT4 (List.mem_of_getElem? (i := 3) rfl) rfl⟩
theorem myX7_come : MY yX7_come cX7_come 2 (some .int) 1 := ⟨mT4 (List.mem_of_getElem? (i := 13) rfl) rfl, mT1 (List.mem_of_getElem? (i := 1) rfl) rfl, by decide, by decide +kernel⟩
theorem mvX7_come : Cond.instanceMethod yX7_come ∈ m_tb ∧ Cond.selects (cn 7) yX7_come yX7_come ∈ m_tb := ⟨mT4 (List.mem_of_getElem? (i := 11) rfl) rfl, mT4 (List.mem_of_getElem? (i := 12) rfl) rfl⟩
theorem myX7_ways : MY yX7_ways cX7_ways 3 (some .long) 2 := ⟨mT4 (List.mem_of_getElem? (i := 140) rfl) rfl, mT1 (List.mem_of_getElem? (i := 1) rfl) rfl, by decide, by decide +kernel⟩
theorem mvX7_ways : Cond.instanceMethod yX7_ways ∈ m_tb ∧ Cond.selects (cn 7) yX7_ways yX7_ways ∈ m_tb := ⟨mT4 (List.mem_of_getElem? (i := 138) rfl) rfl, mT4 (List.mem_of_getElem? (i := 139) rfl) rfl⟩
theorem myX7_needs : MY yX7_needs cX7_needs 8 (some .int) 2 := ⟨mT4 (List.mem_of_getElem? (i := 162) rfl) rfl, mT1 (List.mem_of_getElem? (i := 1) rfl) rfl, by decide, by decide +kernel⟩
theorem mvX7_needs : Cond.instanceMethod yX7_needs ∈ m_tb ∧ Cond.selects (cn 7) yX7_needs yX7_needs ∈ m_tb := ⟨mT4 (List.mem_of_getElem? (i := 160) rfl) rfl, mT4 (List.mem_of_getElem? (i := 161) rfl) rfl⟩
theorem myX7_tear : MY yX7_tear cX7_tear 3 (some .boolean) 2 := ⟨mT4 (List.mem_of_getElem? (i := 175) rfl) rfl, mT1 (List.mem_of_getElem? (i := 1) rfl) rfl, by decide, by decide +kernel⟩
theorem mvX7_tear : Cond.instanceMethod yX7_tear ∈ m_tb ∧ Cond.selects (cn 7) yX7_tear yX7_tear ∈ m_tb := ⟨mT4 (List.mem_of_getElem? (i := 173) rfl) rfl, mT4 (List.mem_of_getElem? (i := 174) rfl) rfl⟩
theorem myX7_fits : MY yX7_fits cX7_fits 3 (some .long) 2 := ⟨mT4 (List.mem_of_getElem? (i := 179) rfl) rfl, mT1 (List.mem_of_getElem? (i := 1) rfl) rfl, by decide, by decide +kernel⟩
theorem mvX7_fits : Cond.instanceMethod yX7_fits ∈ m_tb ∧ Cond.selects (cn 7) yX7_fits yX7_fits ∈ m_tb := ⟨mT4 (List.mem_of_getElem? (i := 177) rfl) rfl, mT4 (List.mem_of_getElem? (i := 178) rfl) rfl⟩
theorem myX7_must : MY yX7_must cX7_must 4 (some .int) 3 := ⟨mT4 (List.mem_of_getElem? (i := 190) rfl) rfl, mT1 (List.mem_of_getElem? (i := 1) rfl) rfl, by decide, by decide +kernel⟩
theorem mvX7_must : Cond.instanceMethod yX7_must ∈ m_tb ∧ Cond.selects (cn 7) yX7_must yX7_must ∈ m_tb := ⟨mT4 (List.mem_of_getElem? (i := 188) rfl) rfl, mT4 (List.mem_of_getElem? (i := 189) rfl) rfl⟩
theorem myX7_falls : MY yX7_falls cX7_falls 3 (some .int) 2 := ⟨mT4 (List.mem_of_getElem? (i := 194) rfl) rfl, mT1 (List.mem_of_getElem? (i := 1) rfl) rfl, by decide, by decide +kernel⟩
theorem mvX7_falls : Cond.instanceMethod yX7_falls ∈ m_tb ∧ Cond.selects (cn 7) yX7_falls yX7_falls ∈ m_tb := ⟨mT4 (List.mem_of_getElem? (i := 192) rfl) rfl, mT4 (List.mem_of_getElem? (i := 193) rfl) rfl⟩
theorem myX7_split : MY yX7_split cX7_split 2 (some .int) 1 := ⟨mT4 (List.mem_of_getElem? (i := 210) rfl) rfl, mT1 (List.mem_of_getElem? (i := 1) rfl) rfl, by decide, by decide +kernel⟩
theorem mvX7_split : Cond.instanceMethod yX7_split ∈ m_tb ∧ Cond.selects (cn 7) yX7_split yX7_split ∈ m_tb := ⟨mT4 (List.mem_of_getElem? (i := 208) rfl) rfl, mT4 (List.mem_of_getElem? (i := 209) rfl) rfl⟩
theorem myX7_fewest : MY yX7_fewest cX7_fewest 2 (some .int) 1 := ⟨mT4 (List.mem_of_getElem? (i := 214) rfl) rfl, mT1 (List.mem_of_getElem? (i := 1) rfl) rfl, by decide, by decide +kernel⟩
theorem mvX7_fewest : Cond.instanceMethod yX7_fewest ∈ m_tb ∧ Cond.selects (cn 7) yX7_fewest yX7_fewest ∈ m_tb := ⟨mT4 (List.mem_of_getElem? (i := 212) rfl) rfl, mT4 (List.mem_of_getElem? (i := 213) rfl) rfl⟩
theorem myX7_leaves : MY yX7_leaves cX7_leaves 2 (some .int) 1 := ⟨mT4 (List.mem_of_getElem? (i := 222) rfl) rfl, mT1 (List.mem_of_getElem? (i := 1) rfl) rfl, by decide, by decide +kernel⟩
theorem mvX7_leaves : Cond.instanceMethod yX7_leaves ∈ m_tb ∧ Cond.selects (cn 7) yX7_leaves yX7_leaves ∈ m_tb := ⟨mT4 (List.mem_of_getElem? (i := 220) rfl) rfl, mT4 (List.mem_of_getElem? (i := 221) rfl) rfl⟩
theorem myX7_keep : MY yX7_keep cX7_keep 2 (some .int) 1 := ⟨mT4 (List.mem_of_getElem? (i := 231) rfl) rfl, mT1 (List.mem_of_getElem? (i := 1) rfl) rfl, by decide, by decide +kernel⟩
theorem mvX7_keep : Cond.instanceMethod yX7_keep ∈ m_tb ∧ Cond.selects (cn 7) yX7_keep yX7_keep ∈ m_tb := ⟨mT4 (List.mem_of_getElem? (i := 229) rfl) rfl, mT4 (List.mem_of_getElem? (i := 230) rfl) rfl⟩
theorem myX7_player : MY yX7_player cX7_player 3 (some .int) 2 := ⟨mT5 (List.mem_of_getElem? (i := 8) rfl) rfl, mT1 (List.mem_of_getElem? (i := 1) rfl) rfl, by decide, by decide +kernel⟩
theorem mvX7_player : Cond.instanceMethod yX7_player ∈ m_tb ∧ Cond.selects (cn 7) yX7_player yX7_player ∈ m_tb := ⟨mT5 (List.mem_of_getElem? (i := 6) rfl) rfl, mT5 (List.mem_of_getElem? (i := 7) rfl) rfl⟩
theorem myX7_meet : MY yX7_meet cX7_meet 3 (some .int) 2 := ⟨mT5 (List.mem_of_getElem? (i := 63) rfl) rfl, mT1 (List.mem_of_getElem? (i := 1) rfl) rfl, by decide, by decide +kernel⟩
theorem mvX7_meet : Cond.instanceMethod yX7_meet ∈ m_tb ∧ Cond.selects (cn 7) yX7_meet yX7_meet ∈ m_tb := ⟨mT5 (List.mem_of_getElem? (i := 61) rfl) rfl, mT5 (List.mem_of_getElem? (i := 62) rfl) rfl⟩
theorem myX7_place : MY yX7_place cX7_place 2 (some .int) 1 := ⟨mT5 (List.mem_of_getElem? (i := 68) rfl) rfl, mT1 (List.mem_of_getElem? (i := 1) rfl) rfl, by decide, by decide +kernel⟩
theorem mvX7_place : Cond.instanceMethod yX7_place ∈ m_tb ∧ Cond.selects (cn 7) yX7_place yX7_place ∈ m_tb := ⟨mT5 (List.mem_of_getElem? (i := 66) rfl) rfl, mT5 (List.mem_of_getElem? (i := 67) rfl) rfl⟩
theorem myX7_checkByte : MY yX7_checkByte cX7_checkByte 4 (some .int) 2 := ⟨mT5 (List.mem_of_getElem? (i := 81) rfl) rfl, mT1 (List.mem_of_getElem? (i := 1) rfl) rfl, by decide, by decide +kernel⟩
theorem msX7_checkByte : Cond.static yX7_checkByte ∈ m_tb := mT5 (List.mem_of_getElem? (i := 80) rfl) rfl
theorem myX7_image : MY yX7_image cX7_image 3 (some .int) 0 := ⟨mT5 (List.mem_of_getElem? (i := 77) rfl) rfl, mT1 (List.mem_of_getElem? (i := 1) rfl) rfl, by decide, by decide +kernel⟩
theorem mvX7_image : Cond.instanceMethod yX7_image ∈ m_tb ∧ Cond.selects (cn 7) yX7_image yX7_image ∈ m_tb := ⟨mT5 (List.mem_of_getElem? (i := 75) rfl) rfl, mT5 (List.mem_of_getElem? (i := 76) rfl) rfl⟩
theorem myX7_octet : MY yX7_octet cX7_octet 2 (some .int) 1 := ⟨mT5 (List.mem_of_getElem? (i := 85) rfl) rfl, mT1 (List.mem_of_getElem? (i := 1) rfl) rfl, by decide, by decide +kernel⟩
theorem mvX7_octet : Cond.instanceMethod yX7_octet ∈ m_tb ∧ Cond.selects (cn 7) yX7_octet yX7_octet ∈ m_tb := ⟨mT5 (List.mem_of_getElem? (i := 83) rfl) rfl, mT5 (List.mem_of_getElem? (i := 84) rfl) rfl⟩
theorem myX7_isImage : MY yX7_isImage cX7_isImage 2 (some .boolean) 1 := ⟨mT5 (List.mem_of_getElem? (i := 93) rfl) rfl, mT1 (List.mem_of_getElem? (i := 1) rfl) rfl, by decide, by decide +kernel⟩
theorem mvX7_isImage : Cond.instanceMethod yX7_isImage ∈ m_tb ∧ Cond.selects (cn 7) yX7_isImage yX7_isImage ∈ m_tb := ⟨mT5 (List.mem_of_getElem? (i := 92) rfl) rfl, mP3 (q := (yX7_isImage, 12)) (List.mem_of_getElem? (i := 11) rfl)⟩
theorem myX7_on : MY yX7_on cX7_on 4 (some .boolean) 0 := ⟨mT5 (List.mem_of_getElem? (i := 89) rfl) rfl, mT1 (List.mem_of_getElem? (i := 1) rfl) rfl, by decide, by decide +kernel⟩
theorem mvX7_on : Cond.instanceMethod yX7_on ∈ m_tb ∧ Cond.selects (cn 7) yX7_on yX7_on ∈ m_tb := ⟨mT5 (List.mem_of_getElem? (i := 87) rfl) rfl, mT5 (List.mem_of_getElem? (i := 88) rfl) rfl⟩
theorem myX8_back : MY yX8_back cX8_back 1 (some .boolean) 0 := ⟨mT7 (List.mem_of_getElem? (i := 56) rfl) rfl, mT1 (List.mem_of_getElem? (i := 10) rfl) rfl, by decide, by decide +kernel⟩
theorem mvX8_back : Cond.instanceMethod yX8_back ∈ m_tb ∧ Cond.selects (cn 8) yX8_back yX8_back ∈ m_tb := ⟨mT7 (List.mem_of_getElem? (i := 54) rfl) rfl, mT7 (List.mem_of_getElem? (i := 55) rfl) rfl⟩
theorem myX8_clear : MY yX8_clear cX8_clear 2 (some .int) 0 := ⟨mT7 (List.mem_of_getElem? (i := 60) rfl) rfl, mT1 (List.mem_of_getElem? (i := 10) rfl) rfl, by decide, by decide +kernel⟩
theorem mvX8_clear : Cond.instanceMethod yX8_clear ∈ m_tb ∧ Cond.selects (cn 8) yX8_clear yX8_clear ∈ m_tb := ⟨mT7 (List.mem_of_getElem? (i := 58) rfl) rfl, mT7 (List.mem_of_getElem? (i := 59) rfl) rfl⟩
theorem myX8_endOfComing : MY yX8_endOfComing cX8_endOfComing 4 (some .int) 1 := ⟨mT7 (List.mem_of_getElem? (i := 185) rfl) rfl, mT1 (List.mem_of_getElem? (i := 10) rfl) rfl, by decide, by decide +kernel⟩
theorem mvX8_endOfComing : Cond.instanceMethod yX8_endOfComing ∈ m_tb ∧ Cond.selects (cn 8) yX8_endOfComing yX8_endOfComing ∈ m_tb := ⟨mT7 (List.mem_of_getElem? (i := 184) rfl) rfl, mP6 (q := (yX8_endOfComing, 86)) (List.mem_of_getElem? (i := 14) rfl)⟩
theorem myX8_capped : MY yX8_capped cX8_capped 2 (some .long) 1 := ⟨mT7 (List.mem_of_getElem? (i := 172) rfl) rfl, mT1 (List.mem_of_getElem? (i := 10) rfl) rfl, by decide, by decide +kernel⟩
theorem msX8_capped : Cond.static yX8_capped ∈ m_tb := mT7 (List.mem_of_getElem? (i := 171) rfl) rfl
theorem myX8_cell : MY yX8_cell cX8_cell 3 (some .int) 3 := ⟨mT7 (List.mem_of_getElem? (i := 137) rfl) rfl, mT1 (List.mem_of_getElem? (i := 10) rfl) rfl, by decide, by decide +kernel⟩
theorem msX8_cell : Cond.static yX8_cell ∈ m_tb := mT7 (List.mem_of_getElem? (i := 136) rfl) rfl
theorem myX8_oneOf : MY yX8_oneOf cX8_oneOf 1 (some .int) 1 := ⟨mT7 (List.mem_of_getElem? (i := 134) rfl) rfl, mT1 (List.mem_of_getElem? (i := 10) rfl) rfl, by decide, by decide +kernel⟩
theorem msX8_oneOf : Cond.static yX8_oneOf ∈ m_tb := mT7 (List.mem_of_getElem? (i := 133) rfl) rfl
theorem myX8_comesByFills : MY yX8_comesByFills cX8_comesByFills 10 none 3 := ⟨mT7 (List.mem_of_getElem? (i := 181) rfl) rfl, mT1 (List.mem_of_getElem? (i := 10) rfl) rfl, by decide, by decide +kernel⟩
theorem mvX8_comesByFills : Cond.instanceMethod yX8_comesByFills ∈ m_tb ∧ Cond.selects (cn 8) yX8_comesByFills yX8_comesByFills ∈ m_tb := ⟨mT7 (List.mem_of_getElem? (i := 180) rfl) rfl, mP6 (q := (yX8_comesByFills, 86)) (List.mem_of_getElem? (i := 13) rfl)⟩
theorem myX8_empties : MY yX8_empties cX8_empties 3 none 2 := ⟨mT7 (List.mem_of_getElem? (i := 41) rfl) rfl, mT1 (List.mem_of_getElem? (i := 10) rfl) rfl, by decide, by decide +kernel⟩
theorem mvX8_empties : Cond.instanceMethod yX8_empties ∈ m_tb ∧ Cond.selects (cn 8) yX8_empties yX8_empties ∈ m_tb := ⟨mT7 (List.mem_of_getElem? (i := 40) rfl) rfl, mP5 (q := (yX8_empties, 86)) (List.mem_of_getElem? (i := 11) rfl)⟩
theorem myX8_owes : MY yX8_owes cX8_owes 3 (some .int) 3 := ⟨mT7 (List.mem_of_getElem? (i := 162) rfl) rfl, mT1 (List.mem_of_getElem? (i := 10) rfl) rfl, by decide, by decide +kernel⟩
theorem msX8_owes : Cond.static yX8_owes ∈ m_tb := mT7 (List.mem_of_getElem? (i := 161) rfl) rfl
theorem myX8_later : MY yX8_later cX8_later 1 (some .int) 1 := ⟨mT7 (List.mem_of_getElem? (i := 159) rfl) rfl, mT1 (List.mem_of_getElem? (i := 10) rfl) rfl, by decide, by decide +kernel⟩
theorem msX8_later : Cond.static yX8_later ∈ m_tb := mT7 (List.mem_of_getElem? (i := 158) rfl) rfl
theorem myX8_plus : MY yX8_plus cX8_plus 3 (some .int) 2 := ⟨mT7 (List.mem_of_getElem? (i := 165) rfl) rfl, mT1 (List.mem_of_getElem? (i := 10) rfl) rfl, by decide, by decide +kernel⟩
theorem msX8_plus : Cond.static yX8_plus ∈ m_tb := mT7 (List.mem_of_getElem? (i := 164) rfl) rfl
theorem myX8_taken : MY yX8_taken cX8_taken 1 (some .int) 1 := ⟨mT7 (List.mem_of_getElem? (i := 44) rfl) rfl, mT1 (List.mem_of_getElem? (i := 10) rfl) rfl, by decide, by decide +kernel⟩
theorem msX8_taken : Cond.static yX8_taken ∈ m_tb := mT7 (List.mem_of_getElem? (i := 43) rfl) rfl
theorem myX8_clip : MY yX8_clip cX8_clip 2 (some .long) 1 := ⟨mT7 (List.mem_of_getElem? (i := 100) rfl) rfl, mT1 (List.mem_of_getElem? (i := 10) rfl) rfl, by decide, by decide +kernel⟩
theorem msX8_clip : Cond.static yX8_clip ∈ m_tb := mT7 (List.mem_of_getElem? (i := 99) rfl) rfl
theorem myX8_floor : MY yX8_floor cX8_floor 6 (some .long) 2 := ⟨mT7 (List.mem_of_getElem? (i := 105) rfl) rfl, mT1 (List.mem_of_getElem? (i := 10) rfl) rfl, by decide, by decide +kernel⟩
theorem msX8_floor : Cond.static yX8_floor ∈ m_tb := mT7 (List.mem_of_getElem? (i := 104) rfl) rfl
theorem myX8_puts : MY yX8_puts cX8_puts 3 none 1 := ⟨mT7 (List.mem_of_getElem? (i := 93) rfl) rfl, mT1 (List.mem_of_getElem? (i := 10) rfl) rfl, by decide, by decide +kernel⟩
theorem mvX8_puts : Cond.instanceMethod yX8_puts ∈ m_tb ∧ Cond.selects (cn 8) yX8_puts yX8_puts ∈ m_tb := ⟨mT7 (List.mem_of_getElem? (i := 92) rfl) rfl, mP6 (q := (yX8_puts, 86)) (List.mem_of_getElem? (i := 1) rfl)⟩
theorem myX8_joins : MY yX8_joins cX8_joins 6 none 1 := ⟨mT7 (List.mem_of_getElem? (i := 97) rfl) rfl, mT1 (List.mem_of_getElem? (i := 10) rfl) rfl, by decide, by decide +kernel⟩
theorem mvX8_joins : Cond.instanceMethod yX8_joins ∈ m_tb ∧ Cond.selects (cn 8) yX8_joins yX8_joins ∈ m_tb := ⟨mT7 (List.mem_of_getElem? (i := 96) rfl) rfl, mP6 (q := (yX8_joins, 86)) (List.mem_of_getElem? (i := 2) rfl)⟩
theorem myX8_tells : MY yX8_tells cX8_tells 5 (some .long) 2 := ⟨mT7 (List.mem_of_getElem? (i := 89) rfl) rfl, mT1 (List.mem_of_getElem? (i := 10) rfl) rfl, by decide, by decide +kernel⟩
theorem mvX8_tells : Cond.instanceMethod yX8_tells ∈ m_tb ∧ Cond.selects (cn 8) yX8_tells yX8_tells ∈ m_tb := ⟨mT7 (List.mem_of_getElem? (i := 88) rfl) rfl, mP6 (q := (yX8_tells, 86)) (List.mem_of_getElem? (i := 0) rfl)⟩
theorem myX8_worthOf : MY yX8_worthOf cX8_worthOf 8 (some .int) 4 := ⟨mT7 (List.mem_of_getElem? (i := 85) rfl) rfl, mT1 (List.mem_of_getElem? (i := 10) rfl) rfl, by decide, by decide +kernel⟩
theorem mvX8_worthOf : Cond.instanceMethod yX8_worthOf ∈ m_tb ∧ Cond.selects (cn 8) yX8_worthOf yX8_worthOf ∈ m_tb := ⟨mT7 (List.mem_of_getElem? (i := 84) rfl) rfl, mP5 (q := (yX8_worthOf, 86)) (List.mem_of_getElem? (i := 15) rfl)⟩
theorem myX8_ends : MY yX8_ends cX8_ends 12 (some .boolean) 5 := ⟨mT7 (List.mem_of_getElem? (i := 156) rfl) rfl, mT1 (List.mem_of_getElem? (i := 10) rfl) rfl, by decide, by decide +kernel⟩
theorem mvX8_ends : Cond.instanceMethod yX8_ends ∈ m_tb ∧ Cond.selects (cn 8) yX8_ends yX8_ends ∈ m_tb := ⟨mT7 (List.mem_of_getElem? (i := 155) rfl) rfl, mP6 (q := (yX8_ends, 86)) (List.mem_of_getElem? (i := 10) rfl)⟩
theorem myX8_isOver : MY yX8_isOver cX8_isOver 2 (some .boolean) 1 := ⟨mT7 (List.mem_of_getElem? (i := 48) rfl) rfl, mT1 (List.mem_of_getElem? (i := 10) rfl) rfl, by decide, by decide +kernel⟩
theorem mvX8_isOver : Cond.instanceMethod yX8_isOver ∈ m_tb ∧ Cond.selects (cn 8) yX8_isOver yX8_isOver ∈ m_tb := ⟨mT7 (List.mem_of_getElem? (i := 47) rfl) rfl, mP5 (q := (yX8_isOver, 86)) (List.mem_of_getElem? (i := 12) rfl)⟩
theorem myX8_owed : MY yX8_owed cX8_owed 2 (some .int) 1 := ⟨mT7 (List.mem_of_getElem? (i := 52) rfl) rfl, mT1 (List.mem_of_getElem? (i := 10) rfl) rfl, by decide, by decide +kernel⟩
theorem mvX8_owed : Cond.instanceMethod yX8_owed ∈ m_tb ∧ Cond.selects (cn 8) yX8_owed yX8_owed ∈ m_tb := ⟨mT7 (List.mem_of_getElem? (i := 51) rfl) rfl, mP5 (q := (yX8_owed, 86)) (List.mem_of_getElem? (i := 13) rfl)⟩
theorem myX8_goesThrough : MY yX8_goesThrough cX8_goesThrough 4 none 0 := ⟨mT7 (List.mem_of_getElem? (i := 37) rfl) rfl, mT1 (List.mem_of_getElem? (i := 10) rfl) rfl, by decide, by decide +kernel⟩
theorem mvX8_goesThrough : Cond.instanceMethod yX8_goesThrough ∈ m_tb ∧ Cond.selects (cn 8) yX8_goesThrough yX8_goesThrough ∈ m_tb := ⟨mT7 (List.mem_of_getElem? (i := 36) rfl) rfl, mP5 (q := (yX8_goesThrough, 86)) (List.mem_of_getElem? (i := 10) rfl)⟩
theorem myX8_nextRow : MY yX8_nextRow cX8_nextRow 5 (some .boolean) 2 := ⟨mT7 (List.mem_of_getElem? (i := 152) rfl) rfl, mT1 (List.mem_of_getElem? (i := 10) rfl) rfl, by decide, by decide +kernel⟩
theorem mvX8_nextRow : Cond.instanceMethod yX8_nextRow ∈ m_tb ∧ Cond.selects (cn 8) yX8_nextRow yX8_nextRow ∈ m_tb := ⟨mT7 (List.mem_of_getElem? (i := 151) rfl) rfl, mP6 (q := (yX8_nextRow, 86)) (List.mem_of_getElem? (i := 9) rfl)⟩
theorem myX8_owedNow : MY yX8_owedNow cX8_owedNow 4 (some .int) 0 := ⟨mT7 (List.mem_of_getElem? (i := 177) rfl) rfl, mT1 (List.mem_of_getElem? (i := 10) rfl) rfl, by decide, by decide +kernel⟩
theorem mvX8_owedNow : Cond.instanceMethod yX8_owedNow ∈ m_tb ∧ Cond.selects (cn 8) yX8_owedNow yX8_owedNow ∈ m_tb := ⟨mT7 (List.mem_of_getElem? (i := 176) rfl) rfl, mP6 (q := (yX8_owedNow, 86)) (List.mem_of_getElem? (i := 12) rfl)⟩
theorem myX8_pointsOf : MY yX8_pointsOf cX8_pointsOf 5 (some .int) 1 := ⟨mT7 (List.mem_of_getElem? (i := 81) rfl) rfl, mT1 (List.mem_of_getElem? (i := 10) rfl) rfl, by decide, by decide +kernel⟩
theorem mvX8_pointsOf : Cond.instanceMethod yX8_pointsOf ∈ m_tb ∧ Cond.selects (cn 8) yX8_pointsOf yX8_pointsOf ∈ m_tb := ⟨mT7 (List.mem_of_getElem? (i := 80) rfl) rfl, mP5 (q := (yX8_pointsOf, 86)) (List.mem_of_getElem? (i := 14) rfl)⟩
theorem myX8_soFar : MY yX8_soFar cX8_soFar 3 (some .int) 0 := ⟨mT7 (List.mem_of_getElem? (i := 115) rfl) rfl, mT1 (List.mem_of_getElem? (i := 10) rfl) rfl, by decide, by decide +kernel⟩
theorem mvX8_soFar : Cond.instanceMethod yX8_soFar ∈ m_tb ∧ Cond.selects (cn 8) yX8_soFar yX8_soFar ∈ m_tb := ⟨mT7 (List.mem_of_getElem? (i := 114) rfl) rfl, mP6 (q := (yX8_soFar, 86)) (List.mem_of_getElem? (i := 3) rfl)⟩
theorem myX8_fillsAhead : MY yX8_fillsAhead cX8_fillsAhead 9 none 2 := ⟨mT7 (List.mem_of_getElem? (i := 131) rfl) rfl, mT1 (List.mem_of_getElem? (i := 10) rfl) rfl, by decide, by decide +kernel⟩
theorem mvX8_fillsAhead : Cond.instanceMethod yX8_fillsAhead ∈ m_tb ∧ Cond.selects (cn 8) yX8_fillsAhead yX8_fillsAhead ∈ m_tb := ⟨mT7 (List.mem_of_getElem? (i := 130) rfl) rfl, mP6 (q := (yX8_fillsAhead, 86)) (List.mem_of_getElem? (i := 6) rfl)⟩
theorem myX8_isOwing : MY yX8_isOwing cX8_isOwing 1 (some .boolean) 1 := ⟨mT7 (List.mem_of_getElem? (i := 144) rfl) rfl, mT1 (List.mem_of_getElem? (i := 10) rfl) rfl, by decide, by decide +kernel⟩
theorem msX8_isOwing : Cond.static yX8_isOwing ∈ m_tb := mT7 (List.mem_of_getElem? (i := 143) rfl) rfl
theorem myX8_mayOwe : MY yX8_mayOwe cX8_mayOwe 3 (some .boolean) 2 := ⟨mT7 (List.mem_of_getElem? (i := 141) rfl) rfl, mT1 (List.mem_of_getElem? (i := 10) rfl) rfl, by decide, by decide +kernel⟩
theorem mvX8_mayOwe : Cond.instanceMethod yX8_mayOwe ∈ m_tb ∧ Cond.selects (cn 8) yX8_mayOwe yX8_mayOwe ∈ m_tb := ⟨mT7 (List.mem_of_getElem? (i := 140) rfl) rfl, mP6 (q := (yX8_mayOwe, 86)) (List.mem_of_getElem? (i := 7) rfl)⟩
theorem myX8_lays : MY yX8_lays cX8_lays 9 none 3 := ⟨mT7 (List.mem_of_getElem? (i := 169) rfl) rfl, mT1 (List.mem_of_getElem? (i := 10) rfl) rfl, by decide, by decide +kernel⟩
theorem mvX8_lays : Cond.instanceMethod yX8_lays ∈ m_tb ∧ Cond.selects (cn 8) yX8_lays yX8_lays ∈ m_tb := ⟨mT7 (List.mem_of_getElem? (i := 168) rfl) rfl, mP6 (q := (yX8_lays, 86)) (List.mem_of_getElem? (i := 11) rfl)⟩
theorem myX8_opensFrame : MY yX8_opensFrame cX8_opensFrame 4 none 3 := ⟨mT7 (List.mem_of_getElem? (i := 148) rfl) rfl, mT1 (List.mem_of_getElem? (i := 10) rfl) rfl, by decide, by decide +kernel⟩
theorem mvX8_opensFrame : Cond.instanceMethod yX8_opensFrame ∈ m_tb ∧ Cond.selects (cn 8) yX8_opensFrame yX8_opensFrame ∈ m_tb := ⟨mT7 (List.mem_of_getElem? (i := 147) rfl) rfl, mP6 (q := (yX8_opensFrame, 86)) (List.mem_of_getElem? (i := 8) rfl)⟩
theorem myX8_tellsAhead : MY yX8_tellsAhead cX8_tellsAhead 3 none 0 := ⟨mT7 (List.mem_of_getElem? (i := 127) rfl) rfl, mT1 (List.mem_of_getElem? (i := 10) rfl) rfl, by decide, by decide +kernel⟩
theorem mvX8_tellsAhead : Cond.instanceMethod yX8_tellsAhead ∈ m_tb ∧ Cond.selects (cn 8) yX8_tellsAhead yX8_tellsAhead ∈ m_tb := ⟨mT7 (List.mem_of_getElem? (i := 126) rfl) rfl, mP6 (q := (yX8_tellsAhead, 86)) (List.mem_of_getElem? (i := 5) rfl)⟩
theorem myX8_tellsComing : MY yX8_tellsComing cX8_tellsComing 8 none 1 := ⟨mT7 (List.mem_of_getElem? (i := 123) rfl) rfl, mT1 (List.mem_of_getElem? (i := 10) rfl) rfl, by decide, by decide +kernel⟩
theorem mvX8_tellsComing : Cond.instanceMethod yX8_tellsComing ∈ m_tb ∧ Cond.selects (cn 8) yX8_tellsComing yX8_tellsComing ∈ m_tb := ⟨mT7 (List.mem_of_getElem? (i := 122) rfl) rfl, mP6 (q := (yX8_tellsComing, 86)) (List.mem_of_getElem? (i := 4) rfl)⟩
theorem myX8_come : MY yX8_come cX8_come 2 (some .int) 1 := ⟨mT7 (List.mem_of_getElem? (i := 119) rfl) rfl, mT1 (List.mem_of_getElem? (i := 10) rfl) rfl, by decide, by decide +kernel⟩
theorem mvX8_come : Cond.instanceMethod yX8_come ∈ m_tb ∧ Cond.selects (cn 8) yX8_come yX8_come ∈ m_tb := ⟨mT7 (List.mem_of_getElem? (i := 117) rfl) rfl, mT7 (List.mem_of_getElem? (i := 118) rfl) rfl⟩
theorem myX8_end : MY yX8_end cX8_end 2 (some .boolean) 1 := ⟨mT6 (List.mem_of_getElem? (i := 128) rfl) rfl, mT1 (List.mem_of_getElem? (i := 10) rfl) rfl, by decide, by decide +kernel⟩
theorem mvX8_end : Cond.instanceMethod yX8_end ∈ m_tb ∧ Cond.selects (cn 8) yX8_end yX8_end ∈ m_tb := ⟨mT6 (List.mem_of_getElem? (i := 126) rfl) rfl, mT6 (List.mem_of_getElem? (i := 127) rfl) rfl⟩
theorem myX8_isIn : MY yX8_isIn cX8_isIn 6 (some .boolean) 3 := ⟨mT6 (List.mem_of_getElem? (i := 169) rfl) rfl, mT1 (List.mem_of_getElem? (i := 10) rfl) rfl, by decide, by decide +kernel⟩
theorem msX8_isIn : Cond.static yX8_isIn ∈ m_tb := mT6 (List.mem_of_getElem? (i := 168) rfl) rfl
theorem myX8_isPins : MY yX8_isPins cX8_isPins 3 (some .boolean) 2 := ⟨mT8 (List.mem_of_getElem? (i := 5) rfl) rfl, mT1 (List.mem_of_getElem? (i := 10) rfl) rfl, by decide, by decide +kernel⟩
theorem mvX8_isPins : Cond.instanceMethod yX8_isPins ∈ m_tb ∧ Cond.selects (cn 8) yX8_isPins yX8_isPins ∈ m_tb := ⟨mT8 (List.mem_of_getElem? (i := 4) rfl) rfl, mP7 (q := (yX8_isPins, 86)) (List.mem_of_getElem? (i := 6) rfl)⟩
theorem myX8_part : MY yX8_part cX8_part 6 (some .int) 1 := ⟨mT8 (List.mem_of_getElem? (i := 10) rfl) rfl, mT1 (List.mem_of_getElem? (i := 10) rfl) rfl, by decide, by decide +kernel⟩
theorem mvX8_part : Cond.instanceMethod yX8_part ∈ m_tb ∧ Cond.selects (cn 8) yX8_part yX8_part ∈ m_tb := ⟨mT8 (List.mem_of_getElem? (i := 9) rfl) rfl, mP7 (q := (yX8_part, 86)) (List.mem_of_getElem? (i := 7) rfl)⟩
theorem myX8_falls : MY yX8_falls cX8_falls 3 (some .int) 2 := ⟨mT8 (List.mem_of_getElem? (i := 1) rfl) rfl, mT1 (List.mem_of_getElem? (i := 10) rfl) rfl, by decide, by decide +kernel⟩
theorem mvX8_falls : Cond.instanceMethod yX8_falls ∈ m_tb ∧ Cond.selects (cn 8) yX8_falls yX8_falls ∈ m_tb := ⟨mT7 (List.mem_of_getElem? (i := 239) rfl) rfl, mT8 (List.mem_of_getElem? (i := 0) rfl) rfl⟩
theorem myX8_fault : MY yX8_fault cX8_fault 2 (some .int) 1 := ⟨mT7 (List.mem_of_getElem? (i := 25) rfl) rfl, mT1 (List.mem_of_getElem? (i := 10) rfl) rfl, by decide, by decide +kernel⟩
theorem mvX8_fault : Cond.instanceMethod yX8_fault ∈ m_tb ∧ Cond.selects (cn 8) yX8_fault yX8_fault ∈ m_tb := ⟨mT7 (List.mem_of_getElem? (i := 23) rfl) rfl, mT7 (List.mem_of_getElem? (i := 24) rfl) rfl⟩
theorem myX8_feed : MY yX8_feed cX8_feed 8 (some .int) 5 := ⟨mT6 (List.mem_of_getElem? (i := 124) rfl) rfl, mT1 (List.mem_of_getElem? (i := 10) rfl) rfl, by decide, by decide +kernel⟩
theorem mvX8_feed : Cond.instanceMethod yX8_feed ∈ m_tb ∧ Cond.selects (cn 8) yX8_feed yX8_feed ∈ m_tb := ⟨mT6 (List.mem_of_getElem? (i := 122) rfl) rfl, mT6 (List.mem_of_getElem? (i := 123) rfl) rfl⟩
theorem myX8_fewest : MY yX8_fewest cX8_fewest 4 (some .int) 1 := ⟨mT8 (List.mem_of_getElem? (i := 21) rfl) rfl, mT1 (List.mem_of_getElem? (i := 10) rfl) rfl, by decide, by decide +kernel⟩
theorem mvX8_fewest : Cond.instanceMethod yX8_fewest ∈ m_tb ∧ Cond.selects (cn 8) yX8_fewest yX8_fewest ∈ m_tb := ⟨mT8 (List.mem_of_getElem? (i := 19) rfl) rfl, mT8 (List.mem_of_getElem? (i := 20) rfl) rfl⟩
theorem myX8_asThere : MY yX8_asThere cX8_asThere 3 none 1 := ⟨mT7 (List.mem_of_getElem? (i := 218) rfl) rfl, mT1 (List.mem_of_getElem? (i := 10) rfl) rfl, by decide, by decide +kernel⟩
theorem mvX8_asThere : Cond.instanceMethod yX8_asThere ∈ m_tb ∧ Cond.selects (cn 8) yX8_asThere yX8_asThere ∈ m_tb := ⟨mT7 (List.mem_of_getElem? (i := 217) rfl) rfl, mP7 (q := (yX8_asThere, 86)) (List.mem_of_getElem? (i := 2) rfl)⟩
theorem myX8_isTorn : MY yX8_isTorn cX8_isTorn 2 (some .boolean) 1 := ⟨mT7 (List.mem_of_getElem? (i := 214) rfl) rfl, mT1 (List.mem_of_getElem? (i := 10) rfl) rfl, by decide, by decide +kernel⟩
theorem mvX8_isTorn : Cond.instanceMethod yX8_isTorn ∈ m_tb ∧ Cond.selects (cn 8) yX8_isTorn yX8_isTorn ∈ m_tb := ⟨mT7 (List.mem_of_getElem? (i := 213) rfl) rfl, mP7 (q := (yX8_isTorn, 86)) (List.mem_of_getElem? (i := 1) rfl)⟩
theorem myX8_fitsFills : MY yX8_fitsFills cX8_fitsFills 6 none 1 := ⟨mT7 (List.mem_of_getElem? (i := 210) rfl) rfl, mT1 (List.mem_of_getElem? (i := 10) rfl) rfl, by decide, by decide +kernel⟩
theorem mvX8_fitsFills : Cond.instanceMethod yX8_fitsFills ∈ m_tb ∧ Cond.selects (cn 8) yX8_fitsFills yX8_fitsFills ∈ m_tb := ⟨mT7 (List.mem_of_getElem? (i := 209) rfl) rfl, mP7 (q := (yX8_fitsFills, 86)) (List.mem_of_getElem? (i := 0) rfl)⟩
theorem myX8_tellsFits : MY yX8_tellsFits cX8_tellsFits 3 none 0 := ⟨mT7 (List.mem_of_getElem? (i := 206) rfl) rfl, mT1 (List.mem_of_getElem? (i := 10) rfl) rfl, by decide, by decide +kernel⟩
theorem mvX8_tellsFits : Cond.instanceMethod yX8_tellsFits ∈ m_tb ∧ Cond.selects (cn 8) yX8_tellsFits yX8_tellsFits ∈ m_tb := ⟨mT7 (List.mem_of_getElem? (i := 205) rfl) rfl, mP6 (q := (yX8_tellsFits, 86)) (List.mem_of_getElem? (i := 15) rfl)⟩
theorem myX8_fits : MY yX8_fits cX8_fits 6 (some .long) 2 := ⟨mT7 (List.mem_of_getElem? (i := 201) rfl) rfl, mT1 (List.mem_of_getElem? (i := 10) rfl) rfl, by decide, by decide +kernel⟩
theorem mvX8_fits : Cond.instanceMethod yX8_fits ∈ m_tb ∧ Cond.selects (cn 8) yX8_fits yX8_fits ∈ m_tb := ⟨mT7 (List.mem_of_getElem? (i := 199) rfl) rfl, mT7 (List.mem_of_getElem? (i := 200) rfl) rfl⟩
theorem myX8_frame : MY yX8_frame cX8_frame 3 (some .int) 2 := ⟨mT7 (List.mem_of_getElem? (i := 72) rfl) rfl, mT1 (List.mem_of_getElem? (i := 10) rfl) rfl, by decide, by decide +kernel⟩
theorem mvX8_frame : Cond.instanceMethod yX8_frame ∈ m_tb ∧ Cond.selects (cn 8) yX8_frame yX8_frame ∈ m_tb := ⟨mT7 (List.mem_of_getElem? (i := 70) rfl) rfl, mT7 (List.mem_of_getElem? (i := 71) rfl) rfl⟩
theorem myX8_forgets : MY yX8_forgets cX8_forgets 2 none 0 := ⟨mT6 (List.mem_of_getElem? (i := 136) rfl) rfl, mT1 (List.mem_of_getElem? (i := 10) rfl) rfl, by decide, by decide +kernel⟩
theorem mvX8_forgets : Cond.instanceMethod yX8_forgets ∈ m_tb ∧ Cond.selects (cn 8) yX8_forgets yX8_forgets ∈ m_tb := ⟨mT6 (List.mem_of_getElem? (i := 135) rfl) rfl, mP3 (q := (yX8_forgets, 86)) (List.mem_of_getElem? (i := 12) rfl)⟩
theorem myX8_look : MY yX8_look cX8_look 1 (some .int) 0 := ⟨mT6 (List.mem_of_getElem? (i := 140) rfl) rfl, mT1 (List.mem_of_getElem? (i := 10) rfl) rfl, by decide, by decide +kernel⟩
theorem mvX8_look : Cond.instanceMethod yX8_look ∈ m_tb ∧ Cond.selects (cn 8) yX8_look yX8_look ∈ m_tb := ⟨mT6 (List.mem_of_getElem? (i := 139) rfl) rfl, mP3 (q := (yX8_look, 86)) (List.mem_of_getElem? (i := 13) rfl)⟩
theorem myX8_stands : MY yX8_stands cX8_stands 2 none 0 := ⟨mT7 (List.mem_of_getElem? (i := 21) rfl) rfl, mT1 (List.mem_of_getElem? (i := 10) rfl) rfl, by decide, by decide +kernel⟩
theorem mvX8_stands : Cond.instanceMethod yX8_stands ∈ m_tb ∧ Cond.selects (cn 8) yX8_stands yX8_stands ∈ m_tb := ⟨mT7 (List.mem_of_getElem? (i := 20) rfl) rfl, mP5 (q := (yX8_stands, 86)) (List.mem_of_getElem? (i := 9) rfl)⟩
theorem myX8_fail : MY yX8_fail cX8_fail 3 none 2 := ⟨mT6 (List.mem_of_getElem? (i := 148) rfl) rfl, mT1 (List.mem_of_getElem? (i := 10) rfl) rfl, by decide, by decide +kernel⟩
theorem mvX8_fail : Cond.instanceMethod yX8_fail ∈ m_tb ∧ Cond.selects (cn 8) yX8_fail yX8_fail ∈ m_tb := ⟨mT6 (List.mem_of_getElem? (i := 147) rfl) rfl, mP3 (q := (yX8_fail, 86)) (List.mem_of_getElem? (i := 15) rfl)⟩
theorem myX8_isLetter : MY yX8_isLetter cX8_isLetter 1 (some .boolean) 1 := ⟨mT6 (List.mem_of_getElem? (i := 159) rfl) rfl, mT1 (List.mem_of_getElem? (i := 10) rfl) rfl, by decide, by decide +kernel⟩
theorem msX8_isLetter : Cond.static yX8_isLetter ∈ m_tb := mT6 (List.mem_of_getElem? (i := 158) rfl) rfl
theorem myX8_isHere : MY yX8_isHere cX8_isHere 4 (some .boolean) 1 := ⟨mT6 (List.mem_of_getElem? (i := 156) rfl) rfl, mT1 (List.mem_of_getElem? (i := 10) rfl) rfl, by decide, by decide +kernel⟩
theorem mvX8_isHere : Cond.instanceMethod yX8_isHere ∈ m_tb ∧ Cond.selects (cn 8) yX8_isHere yX8_isHere ∈ m_tb := ⟨mT6 (List.mem_of_getElem? (i := 155) rfl) rfl, mP4 (q := (yX8_isHere, 86)) (List.mem_of_getElem? (i := 1) rfl)⟩
theorem myX8_takes : MY yX8_takes cX8_takes 2 (some .boolean) 1 := ⟨mT6 (List.mem_of_getElem? (i := 152) rfl) rfl, mT1 (List.mem_of_getElem? (i := 10) rfl) rfl, by decide, by decide +kernel⟩
theorem mvX8_takes : Cond.instanceMethod yX8_takes ∈ m_tb ∧ Cond.selects (cn 8) yX8_takes yX8_takes ∈ m_tb := ⟨mT6 (List.mem_of_getElem? (i := 151) rfl) rfl, mP4 (q := (yX8_takes, 86)) (List.mem_of_getElem? (i := 0) rfl)⟩
theorem myX8_asks : MY yX8_asks cX8_asks 2 none 1 := ⟨mT6 (List.mem_of_getElem? (i := 177) rfl) rfl, mT1 (List.mem_of_getElem? (i := 10) rfl) rfl, by decide, by decide +kernel⟩
theorem mvX8_asks : Cond.instanceMethod yX8_asks ∈ m_tb ∧ Cond.selects (cn 8) yX8_asks yX8_asks ∈ m_tb := ⟨mT6 (List.mem_of_getElem? (i := 176) rfl) rfl, mP4 (q := (yX8_asks, 86)) (List.mem_of_getElem? (i := 4) rfl)⟩
theorem myX8_takesSign : MY yX8_takesSign cX8_takesSign 2 (some .boolean) 1 := ⟨mT6 (List.mem_of_getElem? (i := 205) rfl) rfl, mT1 (List.mem_of_getElem? (i := 10) rfl) rfl, by decide, by decide +kernel⟩
theorem mvX8_takesSign : Cond.instanceMethod yX8_takesSign ∈ m_tb ∧ Cond.selects (cn 8) yX8_takesSign yX8_takesSign ∈ m_tb := ⟨mT6 (List.mem_of_getElem? (i := 204) rfl) rfl, mP4 (q := (yX8_takesSign, 86)) (List.mem_of_getElem? (i := 11) rfl)⟩
theorem myX8_asksSign : MY yX8_asksSign cX8_asksSign 2 none 1 := ⟨mT6 (List.mem_of_getElem? (i := 201) rfl) rfl, mT1 (List.mem_of_getElem? (i := 10) rfl) rfl, by decide, by decide +kernel⟩
theorem mvX8_asksSign : Cond.instanceMethod yX8_asksSign ∈ m_tb ∧ Cond.selects (cn 8) yX8_asksSign yX8_asksSign ∈ m_tb := ⟨mT6 (List.mem_of_getElem? (i := 200) rfl) rfl, mP4 (q := (yX8_asksSign, 86)) (List.mem_of_getElem? (i := 10) rfl)⟩
theorem myX8_isDigit : MY yX8_isDigit cX8_isDigit 1 (some .boolean) 1 := ⟨mT6 (List.mem_of_getElem? (i := 166) rfl) rfl, mT1 (List.mem_of_getElem? (i := 10) rfl) rfl, by decide, by decide +kernel⟩
theorem msX8_isDigit : Cond.static yX8_isDigit ∈ m_tb := mT6 (List.mem_of_getElem? (i := 165) rfl) rfl
theorem myX8_number : MY yX8_number cX8_number 5 (some .int) 2 := ⟨mT6 (List.mem_of_getElem? (i := 163) rfl) rfl, mT1 (List.mem_of_getElem? (i := 10) rfl) rfl, by decide, by decide +kernel⟩
theorem mvX8_number : Cond.instanceMethod yX8_number ∈ m_tb ∧ Cond.selects (cn 8) yX8_number yX8_number ∈ m_tb := ⟨mT6 (List.mem_of_getElem? (i := 162) rfl) rfl, mP4 (q := (yX8_number, 86)) (List.mem_of_getElem? (i := 2) rfl)⟩
theorem myX8_cleanTold : MY yX8_cleanTold cX8_cleanTold 3 none 0 := ⟨mT6 (List.mem_of_getElem? (i := 173) rfl) rfl, mT1 (List.mem_of_getElem? (i := 10) rfl) rfl, by decide, by decide +kernel⟩
theorem mvX8_cleanTold : Cond.instanceMethod yX8_cleanTold ∈ m_tb ∧ Cond.selects (cn 8) yX8_cleanTold yX8_cleanTold ∈ m_tb := ⟨mT6 (List.mem_of_getElem? (i := 172) rfl) rfl, mP4 (q := (yX8_cleanTold, 86)) (List.mem_of_getElem? (i := 3) rfl)⟩
theorem myX8_joinsTold : MY yX8_joinsTold cX8_joinsTold 4 none 0 := ⟨mT7 (List.mem_of_getElem? (i := 17) rfl) rfl, mT1 (List.mem_of_getElem? (i := 10) rfl) rfl, by decide, by decide +kernel⟩
theorem mvX8_joinsTold : Cond.instanceMethod yX8_joinsTold ∈ m_tb ∧ Cond.selects (cn 8) yX8_joinsTold yX8_joinsTold ∈ m_tb := ⟨mT7 (List.mem_of_getElem? (i := 16) rfl) rfl, mP5 (q := (yX8_joinsTold, 86)) (List.mem_of_getElem? (i := 8) rfl)⟩
theorem myX8_code : MY yX8_code cX8_code 2 none 1 := ⟨mT6 (List.mem_of_getElem? (i := 209) rfl) rfl, mT1 (List.mem_of_getElem? (i := 10) rfl) rfl, by decide, by decide +kernel⟩
theorem mvX8_code : Cond.instanceMethod yX8_code ∈ m_tb ∧ Cond.selects (cn 8) yX8_code yX8_code ∈ m_tb := ⟨mT6 (List.mem_of_getElem? (i := 208) rfl) rfl, mP4 (q := (yX8_code, 86)) (List.mem_of_getElem? (i := 12) rfl)⟩
theorem myX8_drops : MY yX8_drops cX8_drops 1 none 0 := ⟨mT6 (List.mem_of_getElem? (i := 229) rfl) rfl, mT1 (List.mem_of_getElem? (i := 10) rfl) rfl, by decide, by decide +kernel⟩
theorem mvX8_drops : Cond.instanceMethod yX8_drops ∈ m_tb ∧ Cond.selects (cn 8) yX8_drops yX8_drops ∈ m_tb := ⟨mT6 (List.mem_of_getElem? (i := 228) rfl) rfl, mP5 (q := (yX8_drops, 86)) (List.mem_of_getElem? (i := 1) rfl)⟩
theorem myX8_isMark : MY yX8_isMark cX8_isMark 2 (some .boolean) 1 := ⟨mT6 (List.mem_of_getElem? (i := 221) rfl) rfl, mT1 (List.mem_of_getElem? (i := 10) rfl) rfl, by decide, by decide +kernel⟩
theorem mvX8_isMark : Cond.instanceMethod yX8_isMark ∈ m_tb ∧ Cond.selects (cn 8) yX8_isMark yX8_isMark ∈ m_tb := ⟨mT6 (List.mem_of_getElem? (i := 220) rfl) rfl, mP4 (q := (yX8_isMark, 86)) (List.mem_of_getElem? (i := 15) rfl)⟩
theorem myX8_dropsToMark : MY yX8_dropsToMark cX8_dropsToMark 1 none 0 := ⟨mT6 (List.mem_of_getElem? (i := 225) rfl) rfl, mT1 (List.mem_of_getElem? (i := 10) rfl) rfl, by decide, by decide +kernel⟩
theorem mvX8_dropsToMark : Cond.instanceMethod yX8_dropsToMark ∈ m_tb ∧ Cond.selects (cn 8) yX8_dropsToMark yX8_dropsToMark ∈ m_tb := ⟨mT6 (List.mem_of_getElem? (i := 224) rfl) rfl, mP5 (q := (yX8_dropsToMark, 86)) (List.mem_of_getElem? (i := 0) rfl)⟩
theorem myX8_isOn : MY yX8_isOn cX8_isOn 2 (some .boolean) 1 := ⟨mT6 (List.mem_of_getElem? (i := 233) rfl) rfl, mT1 (List.mem_of_getElem? (i := 10) rfl) rfl, by decide, by decide +kernel⟩
theorem mvX8_isOn : Cond.instanceMethod yX8_isOn ∈ m_tb ∧ Cond.selects (cn 8) yX8_isOn yX8_isOn ∈ m_tb := ⟨mT6 (List.mem_of_getElem? (i := 232) rfl) rfl, mP5 (q := (yX8_isOn, 86)) (List.mem_of_getElem? (i := 2) rfl)⟩
theorem myX8_mark : MY yX8_mark cX8_mark 2 (some .int) 0 := ⟨mT6 (List.mem_of_getElem? (i := 217) rfl) rfl, mT1 (List.mem_of_getElem? (i := 10) rfl) rfl, by decide, by decide +kernel⟩
theorem mvX8_mark : Cond.instanceMethod yX8_mark ∈ m_tb ∧ Cond.selects (cn 8) yX8_mark yX8_mark ∈ m_tb := ⟨mT6 (List.mem_of_getElem? (i := 216) rfl) rfl, mP4 (q := (yX8_mark, 86)) (List.mem_of_getElem? (i := 14) rfl)⟩
theorem myX8_goesOn : MY yX8_goesOn cX8_goesOn 2 (some .boolean) 0 := ⟨mT6 (List.mem_of_getElem? (i := 213) rfl) rfl, mT1 (List.mem_of_getElem? (i := 10) rfl) rfl, by decide, by decide +kernel⟩
theorem mvX8_goesOn : Cond.instanceMethod yX8_goesOn ∈ m_tb ∧ Cond.selects (cn 8) yX8_goesOn yX8_goesOn ∈ m_tb := ⟨mT6 (List.mem_of_getElem? (i := 212) rfl) rfl, mP4 (q := (yX8_goesOn, 86)) (List.mem_of_getElem? (i := 13) rfl)⟩
theorem myX8_opens : MY yX8_opens cX8_opens 3 none 2 := ⟨mT6 (List.mem_of_getElem? (i := 197) rfl) rfl, mT1 (List.mem_of_getElem? (i := 10) rfl) rfl, by decide, by decide +kernel⟩
theorem mvX8_opens : Cond.instanceMethod yX8_opens ∈ m_tb ∧ Cond.selects (cn 8) yX8_opens yX8_opens ∈ m_tb := ⟨mT6 (List.mem_of_getElem? (i := 196) rfl) rfl, mP4 (q := (yX8_opens, 86)) (List.mem_of_getElem? (i := 9) rfl)⟩
theorem myX8_onePart : MY yX8_onePart cX8_onePart 5 none 0 := ⟨mT6 (List.mem_of_getElem? (i := 193) rfl) rfl, mT1 (List.mem_of_getElem? (i := 10) rfl) rfl, by decide, by decide +kernel⟩
theorem mvX8_onePart : Cond.instanceMethod yX8_onePart ∈ m_tb ∧ Cond.selects (cn 8) yX8_onePart yX8_onePart ∈ m_tb := ⟨mT6 (List.mem_of_getElem? (i := 192) rfl) rfl, mP4 (q := (yX8_onePart, 86)) (List.mem_of_getElem? (i := 8) rfl)⟩
theorem myX8_sums : MY yX8_sums cX8_sums 3 none 0 := ⟨mT6 (List.mem_of_getElem? (i := 189) rfl) rfl, mT1 (List.mem_of_getElem? (i := 10) rfl) rfl, by decide, by decide +kernel⟩
theorem mvX8_sums : Cond.instanceMethod yX8_sums ∈ m_tb ∧ Cond.selects (cn 8) yX8_sums yX8_sums ∈ m_tb := ⟨mT6 (List.mem_of_getElem? (i := 188) rfl) rfl, mP4 (q := (yX8_sums, 86)) (List.mem_of_getElem? (i := 7) rfl)⟩
theorem myX8_readsSum : MY yX8_readsSum cX8_readsSum 1 none 0 := ⟨mT6 (List.mem_of_getElem? (i := 185) rfl) rfl, mT1 (List.mem_of_getElem? (i := 10) rfl) rfl, by decide, by decide +kernel⟩
theorem mvX8_readsSum : Cond.instanceMethod yX8_readsSum ∈ m_tb ∧ Cond.selects (cn 8) yX8_readsSum yX8_readsSum ∈ m_tb := ⟨mT6 (List.mem_of_getElem? (i := 184) rfl) rfl, mP4 (q := (yX8_readsSum, 86)) (List.mem_of_getElem? (i := 6) rfl)⟩
theorem myX8_dropsNots : MY yX8_dropsNots cX8_dropsNots 1 none 0 := ⟨mT7 (List.mem_of_getElem? (i := 5) rfl) rfl, mT1 (List.mem_of_getElem? (i := 10) rfl) rfl, by decide, by decide +kernel⟩
theorem mvX8_dropsNots : Cond.instanceMethod yX8_dropsNots ∈ m_tb ∧ Cond.selects (cn 8) yX8_dropsNots yX8_dropsNots ∈ m_tb := ⟨mT7 (List.mem_of_getElem? (i := 4) rfl) rfl, mP5 (q := (yX8_dropsNots, 86)) (List.mem_of_getElem? (i := 5) rfl)⟩
theorem myX8_fact : MY yX8_fact cX8_fact 2 none 0 := ⟨mT7 (List.mem_of_getElem? (i := 1) rfl) rfl, mT1 (List.mem_of_getElem? (i := 10) rfl) rfl, by decide, by decide +kernel⟩
theorem mvX8_fact : Cond.instanceMethod yX8_fact ∈ m_tb ∧ Cond.selects (cn 8) yX8_fact yX8_fact ∈ m_tb := ⟨mT7 (List.mem_of_getElem? (i := 0) rfl) rfl, mP5 (q := (yX8_fact, 86)) (List.mem_of_getElem? (i := 4) rfl)⟩
theorem myX8_hasSquare : MY yX8_hasSquare cX8_hasSquare 2 (some .boolean) 0 := ⟨mT7 (List.mem_of_getElem? (i := 13) rfl) rfl, mT1 (List.mem_of_getElem? (i := 10) rfl) rfl, by decide, by decide +kernel⟩
theorem mvX8_hasSquare : Cond.instanceMethod yX8_hasSquare ∈ m_tb ∧ Cond.selects (cn 8) yX8_hasSquare yX8_hasSquare ∈ m_tb := ⟨mT7 (List.mem_of_getElem? (i := 12) rfl) rfl, mP5 (q := (yX8_hasSquare, 86)) (List.mem_of_getElem? (i := 7) rfl)⟩
theorem myX8_goesOnTest : MY yX8_goesOnTest cX8_goesOnTest 1 (some .boolean) 0 := ⟨mT7 (List.mem_of_getElem? (i := 9) rfl) rfl, mT1 (List.mem_of_getElem? (i := 10) rfl) rfl, by decide, by decide +kernel⟩
theorem mvX8_goesOnTest : Cond.instanceMethod yX8_goesOnTest ∈ m_tb ∧ Cond.selects (cn 8) yX8_goesOnTest yX8_goesOnTest ∈ m_tb := ⟨mT7 (List.mem_of_getElem? (i := 8) rfl) rfl, mP5 (q := (yX8_goesOnTest, 86)) (List.mem_of_getElem? (i := 6) rfl)⟩
theorem myX8_test : MY yX8_test cX8_test 3 none 0 := ⟨mT6 (List.mem_of_getElem? (i := 237) rfl) rfl, mT1 (List.mem_of_getElem? (i := 10) rfl) rfl, by decide, by decide +kernel⟩
theorem mvX8_test : Cond.instanceMethod yX8_test ∈ m_tb ∧ Cond.selects (cn 8) yX8_test yX8_test ∈ m_tb := ⟨mT6 (List.mem_of_getElem? (i := 236) rfl) rfl, mP5 (q := (yX8_test, 86)) (List.mem_of_getElem? (i := 3) rfl)⟩
theorem myX8_worthTold : MY yX8_worthTold cX8_worthTold 2 none 0 := ⟨mT6 (List.mem_of_getElem? (i := 181) rfl) rfl, mT1 (List.mem_of_getElem? (i := 10) rfl) rfl, by decide, by decide +kernel⟩
theorem mvX8_worthTold : Cond.instanceMethod yX8_worthTold ∈ m_tb ∧ Cond.selects (cn 8) yX8_worthTold yX8_worthTold ∈ m_tb := ⟨mT6 (List.mem_of_getElem? (i := 180) rfl) rfl, mP4 (q := (yX8_worthTold, 86)) (List.mem_of_getElem? (i := 5) rfl)⟩
theorem myX8_statement : MY yX8_statement cX8_statement 1 none 0 := ⟨mT6 (List.mem_of_getElem? (i := 144) rfl) rfl, mT1 (List.mem_of_getElem? (i := 10) rfl) rfl, by decide, by decide +kernel⟩
theorem mvX8_statement : Cond.instanceMethod yX8_statement ∈ m_tb ∧ Cond.selects (cn 8) yX8_statement yX8_statement ∈ m_tb := ⟨mT6 (List.mem_of_getElem? (i := 143) rfl) rfl, mP3 (q := (yX8_statement, 86)) (List.mem_of_getElem? (i := 14) rfl)⟩
theorem myX8_game : MY yX8_game cX8_game 2 (some .int) 0 := ⟨mT6 (List.mem_of_getElem? (i := 132) rfl) rfl, mT1 (List.mem_of_getElem? (i := 10) rfl) rfl, by decide, by decide +kernel⟩
theorem mvX8_game : Cond.instanceMethod yX8_game ∈ m_tb ∧ Cond.selects (cn 8) yX8_game yX8_game ∈ m_tb := ⟨mT6 (List.mem_of_getElem? (i := 130) rfl) rfl, mT6 (List.mem_of_getElem? (i := 131) rfl) rfl⟩
theorem myX8_has : MY yX8_has cX8_has 5 (some .int) 1 := ⟨mT7 (List.mem_of_getElem? (i := 29) rfl) rfl, mT1 (List.mem_of_getElem? (i := 10) rfl) rfl, by decide, by decide +kernel⟩
theorem mvX8_has : Cond.instanceMethod yX8_has ∈ m_tb ∧ Cond.selects (cn 8) yX8_has yX8_has ∈ m_tb := ⟨mT7 (List.mem_of_getElem? (i := 27) rfl) rfl, mT7 (List.mem_of_getElem? (i := 28) rfl) rfl⟩
theorem myX8_checked : MY yX8_checked cX8_checked 4 (some .int) 2 := ⟨mT8 (List.mem_of_getElem? (i := 81) rfl) rfl, mT1 (List.mem_of_getElem? (i := 10) rfl) rfl, by decide, by decide +kernel⟩
theorem msX8_checked : Cond.static yX8_checked ∈ m_tb := mT8 (List.mem_of_getElem? (i := 80) rfl) rfl
theorem myX8_writes : MY yX8_writes cX8_writes 2 none 1 := ⟨mT8 (List.mem_of_getElem? (i := 78) rfl) rfl, mT1 (List.mem_of_getElem? (i := 10) rfl) rfl, by decide, by decide +kernel⟩
theorem mvX8_writes : Cond.instanceMethod yX8_writes ∈ m_tb ∧ Cond.selects (cn 8) yX8_writes yX8_writes ∈ m_tb := ⟨mT8 (List.mem_of_getElem? (i := 77) rfl) rfl, mP7 (q := (yX8_writes, 86)) (List.mem_of_getElem? (i := 14) rfl)⟩
theorem myX8_image : MY yX8_image cX8_image 2 (some .int) 0 := ⟨mT8 (List.mem_of_getElem? (i := 74) rfl) rfl, mT1 (List.mem_of_getElem? (i := 10) rfl) rfl, by decide, by decide +kernel⟩
theorem mvX8_image : Cond.instanceMethod yX8_image ∈ m_tb ∧ Cond.selects (cn 8) yX8_image yX8_image ∈ m_tb := ⟨mT8 (List.mem_of_getElem? (i := 72) rfl) rfl, mT8 (List.mem_of_getElem? (i := 73) rfl) rfl⟩
theorem myX8_init : MY yX8_init cX8_init 1 none 0 := ⟨mT5 (List.mem_of_getElem? (i := 98) rfl) rfl, mT1 (List.mem_of_getElem? (i := 10) rfl) rfl, by decide, by decide +kernel⟩
theorem miX8_init : Cond.instanceMethod yX8_init ∈ m_tb := mT5 (List.mem_of_getElem? (i := 97) rfl) rfl
theorem myX8_isPlayer : MY yX8_isPlayer cX8_isPlayer 1 (some .boolean) 1 := ⟨mT8 (List.mem_of_getElem? (i := 32) rfl) rfl, mT1 (List.mem_of_getElem? (i := 10) rfl) rfl, by decide, by decide +kernel⟩
theorem msX8_isPlayer : Cond.static yX8_isPlayer ∈ m_tb := mT8 (List.mem_of_getElem? (i := 31) rfl) rfl
theorem myX8_keep : MY yX8_keep cX8_keep 2 (some .int) 1 := ⟨mT8 (List.mem_of_getElem? (i := 29) rfl) rfl, mT1 (List.mem_of_getElem? (i := 10) rfl) rfl, by decide, by decide +kernel⟩
theorem mvX8_keep : Cond.instanceMethod yX8_keep ∈ m_tb ∧ Cond.selects (cn 8) yX8_keep yX8_keep ∈ m_tb := ⟨mT8 (List.mem_of_getElem? (i := 27) rfl) rfl, mT8 (List.mem_of_getElem? (i := 28) rfl) rfl⟩
theorem myX8_leaves : MY yX8_leaves cX8_leaves 4 (some .int) 1 := ⟨mT8 (List.mem_of_getElem? (i := 25) rfl) rfl, mT1 (List.mem_of_getElem? (i := 10) rfl) rfl, by decide, by decide +kernel⟩
theorem mvX8_leaves : Cond.instanceMethod yX8_leaves ∈ m_tb ∧ Cond.selects (cn 8) yX8_leaves yX8_leaves ∈ m_tb := ⟨mT8 (List.mem_of_getElem? (i := 23) rfl) rfl, mT8 (List.mem_of_getElem? (i := 24) rfl) rfl⟩
theorem myX8_sumOf : MY yX8_sumOf cX8_sumOf 4 (some .int) 1 := ⟨mT8 (List.mem_of_getElem? (i := 41) rfl) rfl, mT1 (List.mem_of_getElem? (i := 10) rfl) rfl, by decide, by decide +kernel⟩
theorem mvX8_sumOf : Cond.instanceMethod yX8_sumOf ∈ m_tb ∧ Cond.selects (cn 8) yX8_sumOf yX8_sumOf ∈ m_tb := ⟨mT8 (List.mem_of_getElem? (i := 40) rfl) rfl, mP7 (q := (yX8_sumOf, 86)) (List.mem_of_getElem? (i := 8) rfl)⟩
theorem myX8_meanOf : MY yX8_meanOf cX8_meanOf 4 (some .int) 1 := ⟨mT8 (List.mem_of_getElem? (i := 45) rfl) rfl, mT1 (List.mem_of_getElem? (i := 10) rfl) rfl, by decide, by decide +kernel⟩
theorem mvX8_meanOf : Cond.instanceMethod yX8_meanOf ∈ m_tb ∧ Cond.selects (cn 8) yX8_meanOf yX8_meanOf ∈ m_tb := ⟨mT8 (List.mem_of_getElem? (i := 44) rfl) rfl, mP7 (q := (yX8_meanOf, 86)) (List.mem_of_getElem? (i := 9) rfl)⟩
theorem myX8_handicapOf : MY yX8_handicapOf cX8_handicapOf 4 (some .int) 1 := ⟨mT8 (List.mem_of_getElem? (i := 49) rfl) rfl, mT1 (List.mem_of_getElem? (i := 10) rfl) rfl, by decide, by decide +kernel⟩
theorem mvX8_handicapOf : Cond.instanceMethod yX8_handicapOf ∈ m_tb ∧ Cond.selects (cn 8) yX8_handicapOf yX8_handicapOf ∈ m_tb := ⟨mT8 (List.mem_of_getElem? (i := 48) rfl) rfl, mP7 (q := (yX8_handicapOf, 86)) (List.mem_of_getElem? (i := 10) rfl)⟩
theorem myX8_meets : MY yX8_meets cX8_meets 8 (some .int) 2 := ⟨mT8 (List.mem_of_getElem? (i := 62) rfl) rfl, mT1 (List.mem_of_getElem? (i := 10) rfl) rfl, by decide, by decide +kernel⟩
theorem mvX8_meets : Cond.instanceMethod yX8_meets ∈ m_tb ∧ Cond.selects (cn 8) yX8_meets yX8_meets ∈ m_tb := ⟨mT8 (List.mem_of_getElem? (i := 61) rfl) rfl, mP7 (q := (yX8_meets, 86)) (List.mem_of_getElem? (i := 13) rfl)⟩
theorem myX8_meet : MY yX8_meet cX8_meet 3 (some .int) 2 := ⟨mT8 (List.mem_of_getElem? (i := 66) rfl) rfl, mT1 (List.mem_of_getElem? (i := 10) rfl) rfl, by decide, by decide +kernel⟩
theorem mvX8_meet : Cond.instanceMethod yX8_meet ∈ m_tb ∧ Cond.selects (cn 8) yX8_meet yX8_meet ∈ m_tb := ⟨mT8 (List.mem_of_getElem? (i := 64) rfl) rfl, mT8 (List.mem_of_getElem? (i := 65) rfl) rfl⟩
theorem myX8_isThrough : MY yX8_isThrough cX8_isThrough 11 (some .boolean) 4 := ⟨mT7 (List.mem_of_getElem? (i := 236) rfl) rfl, mT1 (List.mem_of_getElem? (i := 10) rfl) rfl, by decide, by decide +kernel⟩
theorem mvX8_isThrough : Cond.instanceMethod yX8_isThrough ∈ m_tb ∧ Cond.selects (cn 8) yX8_isThrough yX8_isThrough ∈ m_tb := ⟨mT7 (List.mem_of_getElem? (i := 235) rfl) rfl, mP7 (q := (yX8_isThrough, 86)) (List.mem_of_getElem? (i := 5) rfl)⟩
theorem myX8_leadsOn : MY yX8_leadsOn cX8_leadsOn 6 none 2 := ⟨mT7 (List.mem_of_getElem? (i := 232) rfl) rfl, mT1 (List.mem_of_getElem? (i := 10) rfl) rfl, by decide, by decide +kernel⟩
theorem mvX8_leadsOn : Cond.instanceMethod yX8_leadsOn ∈ m_tb ∧ Cond.selects (cn 8) yX8_leadsOn yX8_leadsOn ∈ m_tb := ⟨mT7 (List.mem_of_getElem? (i := 231) rfl) rfl, mP7 (q := (yX8_leadsOn, 86)) (List.mem_of_getElem? (i := 4) rfl)⟩
theorem myX8_leads : MY yX8_leads cX8_leads 3 none 1 := ⟨mT7 (List.mem_of_getElem? (i := 228) rfl) rfl, mT1 (List.mem_of_getElem? (i := 10) rfl) rfl, by decide, by decide +kernel⟩
theorem mvX8_leads : Cond.instanceMethod yX8_leads ∈ m_tb ∧ Cond.selects (cn 8) yX8_leads yX8_leads ∈ m_tb := ⟨mT7 (List.mem_of_getElem? (i := 227) rfl) rfl, mP7 (q := (yX8_leads, 86)) (List.mem_of_getElem? (i := 3) rfl)⟩
theorem myX8_must : MY yX8_must cX8_must 6 (some .int) 3 := ⟨mT7 (List.mem_of_getElem? (i := 222) rfl) rfl, mT1 (List.mem_of_getElem? (i := 10) rfl) rfl, by decide, by decide +kernel⟩
theorem mvX8_must : Cond.instanceMethod yX8_must ∈ m_tb ∧ Cond.selects (cn 8) yX8_must yX8_must ∈ m_tb := ⟨mT7 (List.mem_of_getElem? (i := 220) rfl) rfl, mT7 (List.mem_of_getElem? (i := 221) rfl) rfl⟩
theorem myX8_needs : MY yX8_needs cX8_needs 5 (some .int) 2 := ⟨mT7 (List.mem_of_getElem? (i := 193) rfl) rfl, mT1 (List.mem_of_getElem? (i := 10) rfl) rfl, by decide, by decide +kernel⟩
theorem mvX8_needs : Cond.instanceMethod yX8_needs ∈ m_tb ∧ Cond.selects (cn 8) yX8_needs yX8_needs ∈ m_tb := ⟨mT7 (List.mem_of_getElem? (i := 191) rfl) rfl, mT7 (List.mem_of_getElem? (i := 192) rfl) rfl⟩
theorem myX8_octet : MY yX8_octet cX8_octet 2 (some .int) 1 := ⟨mT8 (List.mem_of_getElem? (i := 85) rfl) rfl, mT1 (List.mem_of_getElem? (i := 10) rfl) rfl, by decide, by decide +kernel⟩
theorem mvX8_octet : Cond.instanceMethod yX8_octet ∈ m_tb ∧ Cond.selects (cn 8) yX8_octet yX8_octet ∈ m_tb := ⟨mT8 (List.mem_of_getElem? (i := 83) rfl) rfl, mT8 (List.mem_of_getElem? (i := 84) rfl) rfl⟩
theorem myX8_roll : MY yX8_roll cX8_roll 2 (some .boolean) 1 := ⟨mT7 (List.mem_of_getElem? (i := 33) rfl) rfl, mT1 (List.mem_of_getElem? (i := 10) rfl) rfl, by decide, by decide +kernel⟩
theorem mvX8_roll : Cond.instanceMethod yX8_roll ∈ m_tb ∧ Cond.selects (cn 8) yX8_roll yX8_roll ∈ m_tb := ⟨mT7 (List.mem_of_getElem? (i := 31) rfl) rfl, mT7 (List.mem_of_getElem? (i := 32) rfl) rfl⟩
theorem myX8_on : MY yX8_on cX8_on 6 (some .boolean) 0 := ⟨mT8 (List.mem_of_getElem? (i := 89) rfl) rfl, mT1 (List.mem_of_getElem? (i := 10) rfl) rfl, by decide, by decide +kernel⟩
theorem mvX8_on : Cond.instanceMethod yX8_on ∈ m_tb ∧ Cond.selects (cn 8) yX8_on yX8_on ∈ m_tb := ⟨mT8 (List.mem_of_getElem? (i := 87) rfl) rfl, mT8 (List.mem_of_getElem? (i := 88) rfl) rfl⟩
theorem myX8_meetsAll : MY yX8_meetsAll cX8_meetsAll 4 (some .int) 1 := ⟨mT8 (List.mem_of_getElem? (i := 58) rfl) rfl, mT1 (List.mem_of_getElem? (i := 10) rfl) rfl, by decide, by decide +kernel⟩
theorem mvX8_meetsAll : Cond.instanceMethod yX8_meetsAll ∈ m_tb ∧ Cond.selects (cn 8) yX8_meetsAll yX8_meetsAll ∈ m_tb := ⟨mT8 (List.mem_of_getElem? (i := 57) rfl) rfl, mP7 (q := (yX8_meetsAll, 86)) (List.mem_of_getElem? (i := 12) rfl)⟩
theorem myX8_place : MY yX8_place cX8_place 5 (some .int) 1 := ⟨mT8 (List.mem_of_getElem? (i := 70) rfl) rfl, mT1 (List.mem_of_getElem? (i := 10) rfl) rfl, by decide, by decide +kernel⟩
theorem mvX8_place : Cond.instanceMethod yX8_place ∈ m_tb ∧ Cond.selects (cn 8) yX8_place yX8_place ∈ m_tb := ⟨mT8 (List.mem_of_getElem? (i := 68) rfl) rfl, mT8 (List.mem_of_getElem? (i := 69) rfl) rfl⟩
theorem myX8_greatest : MY yX8_greatest cX8_greatest 4 (some .int) 1 := ⟨mT8 (List.mem_of_getElem? (i := 54) rfl) rfl, mT1 (List.mem_of_getElem? (i := 10) rfl) rfl, by decide, by decide +kernel⟩
theorem mvX8_greatest : Cond.instanceMethod yX8_greatest ∈ m_tb ∧ Cond.selects (cn 8) yX8_greatest yX8_greatest ∈ m_tb := ⟨mT8 (List.mem_of_getElem? (i := 53) rfl) rfl, mP7 (q := (yX8_greatest, 86)) (List.mem_of_getElem? (i := 11) rfl)⟩
theorem myX8_player : MY yX8_player cX8_player 3 (some .int) 2 := ⟨mT8 (List.mem_of_getElem? (i := 37) rfl) rfl, mT1 (List.mem_of_getElem? (i := 10) rfl) rfl, by decide, by decide +kernel⟩
theorem mvX8_player : Cond.instanceMethod yX8_player ∈ m_tb ∧ Cond.selects (cn 8) yX8_player yX8_player ∈ m_tb := ⟨mT8 (List.mem_of_getElem? (i := 35) rfl) rfl, mT8 (List.mem_of_getElem? (i := 36) rfl) rfl⟩
theorem myX8_points : MY yX8_points cX8_points 2 (some .int) 1 := ⟨mT7 (List.mem_of_getElem? (i := 76) rfl) rfl, mT1 (List.mem_of_getElem? (i := 10) rfl) rfl, by decide, by decide +kernel⟩
theorem mvX8_points : Cond.instanceMethod yX8_points ∈ m_tb ∧ Cond.selects (cn 8) yX8_points yX8_points ∈ m_tb := ⟨mT7 (List.mem_of_getElem? (i := 74) rfl) rfl, mT7 (List.mem_of_getElem? (i := 75) rfl) rfl⟩
theorem myX8_rolled : MY yX8_rolled cX8_rolled 2 (some .int) 1 := ⟨mT7 (List.mem_of_getElem? (i := 68) rfl) rfl, mT1 (List.mem_of_getElem? (i := 10) rfl) rfl, by decide, by decide +kernel⟩
theorem mvX8_rolled : Cond.instanceMethod yX8_rolled ∈ m_tb ∧ Cond.selects (cn 8) yX8_rolled yX8_rolled ∈ m_tb := ⟨mT7 (List.mem_of_getElem? (i := 66) rfl) rfl, mT7 (List.mem_of_getElem? (i := 67) rfl) rfl⟩
theorem myX8_sheet : MY yX8_sheet cX8_sheet 2 (some .int) 1 := ⟨mT7 (List.mem_of_getElem? (i := 64) rfl) rfl, mT1 (List.mem_of_getElem? (i := 10) rfl) rfl, by decide, by decide +kernel⟩
theorem mvX8_sheet : Cond.instanceMethod yX8_sheet ∈ m_tb ∧ Cond.selects (cn 8) yX8_sheet yX8_sheet ∈ m_tb := ⟨mT7 (List.mem_of_getElem? (i := 62) rfl) rfl, mT7 (List.mem_of_getElem? (i := 63) rfl) rfl⟩
theorem myX8_many : MY yX8_many cX8_many 3 (some .int) 1 := ⟨mT8 (List.mem_of_getElem? (i := 17) rfl) rfl, mT1 (List.mem_of_getElem? (i := 10) rfl) rfl, by decide, by decide +kernel⟩
theorem msX8_many : Cond.static yX8_many ∈ m_tb := mT8 (List.mem_of_getElem? (i := 16) rfl) rfl
theorem myX8_split : MY yX8_split cX8_split 2 (some .int) 1 := ⟨mT8 (List.mem_of_getElem? (i := 14) rfl) rfl, mT1 (List.mem_of_getElem? (i := 10) rfl) rfl, by decide, by decide +kernel⟩
theorem mvX8_split : Cond.instanceMethod yX8_split ∈ m_tb ∧ Cond.selects (cn 8) yX8_split yX8_split ∈ m_tb := ⟨mT8 (List.mem_of_getElem? (i := 12) rfl) rfl, mT8 (List.mem_of_getElem? (i := 13) rfl) rfl⟩
theorem myX8_tear : MY yX8_tear cX8_tear 3 (some .boolean) 2 := ⟨mT7 (List.mem_of_getElem? (i := 197) rfl) rfl, mT1 (List.mem_of_getElem? (i := 10) rfl) rfl, by decide, by decide +kernel⟩
theorem mvX8_tear : Cond.instanceMethod yX8_tear ∈ m_tb ∧ Cond.selects (cn 8) yX8_tear yX8_tear ∈ m_tb := ⟨mT7 (List.mem_of_getElem? (i := 195) rfl) rfl, mT7 (List.mem_of_getElem? (i := 196) rfl) rfl⟩
theorem myX8_total : MY yX8_total cX8_total 1 (some .int) 0 := ⟨mT7 (List.mem_of_getElem? (i := 111) rfl) rfl, mT1 (List.mem_of_getElem? (i := 10) rfl) rfl, by decide, by decide +kernel⟩
theorem mvX8_total : Cond.instanceMethod yX8_total ∈ m_tb ∧ Cond.selects (cn 8) yX8_total yX8_total ∈ m_tb := ⟨mT7 (List.mem_of_getElem? (i := 109) rfl) rfl, mT7 (List.mem_of_getElem? (i := 110) rfl) rfl⟩
theorem myX8_ways : MY yX8_ways cX8_ways 6 (some .long) 2 := ⟨mT7 (List.mem_of_getElem? (i := 189) rfl) rfl, mT1 (List.mem_of_getElem? (i := 10) rfl) rfl, by decide, by decide +kernel⟩
theorem mvX8_ways : Cond.instanceMethod yX8_ways ∈ m_tb ∧ Cond.selects (cn 8) yX8_ways yX8_ways ∈ m_tb := ⟨mT7 (List.mem_of_getElem? (i := 187) rfl) rfl, mT7 (List.mem_of_getElem? (i := 188) rfl) rfl⟩
theorem msJ9_max_7cf53 : Cond.static yJ9_max_7cf53 ∈ m_tb := mT1 (List.mem_of_getElem? (i := 210) rfl) rfl
theorem mcJ9_max_7cf53 : Cond.code yJ9_max_7cf53 cJ9_max_7cf53 2 (some .int) ∈ m_tb := mT1 (List.mem_of_getElem? (i := 211) rfl) rfl
theorem msJ9_min_7cf53 : Cond.static yJ9_min_7cf53 ∈ m_tb := mT2 (List.mem_of_getElem? (i := 104) rfl) rfl
theorem mcJ9_min_7cf53 : Cond.code yJ9_min_7cf53 cJ9_min_7cf53 2 (some .int) ∈ m_tb := mT2 (List.mem_of_getElem? (i := 105) rfl) rfl
theorem msJ9_max_f86c9 : Cond.static yJ9_max_f86c9 ∈ m_tb := mT3 (List.mem_of_getElem? (i := 101) rfl) rfl
theorem mcJ9_max_f86c9 : Cond.code yJ9_max_f86c9 cJ9_max_f86c9 4 (some .long) ∈ m_tb := mT3 (List.mem_of_getElem? (i := 102) rfl) rfl
theorem msJ9_min_f86c9 : Cond.static yJ9_min_f86c9 ∈ m_tb := mT3 (List.mem_of_getElem? (i := 98) rfl) rfl
theorem mcJ9_min_f86c9 : Cond.code yJ9_min_f86c9 cJ9_min_f86c9 4 (some .long) ∈ m_tb := mT3 (List.mem_of_getElem? (i := 99) rfl) rfl
theorem myJ0_length_8abf5 : MY yJ0_length_8abf5 cJ0_length_8abf5 1 (some .int) 0 := ⟨mT2 (List.mem_of_getElem? (i := 127) rfl) rfl, mT1 (List.mem_of_getElem? (i := 11) rfl) rfl, by decide, by decide +kernel⟩
theorem mvJ0_length_8abf5 : Cond.instanceMethod yJ0_length_8abf5 ∈ m_tb ∧ Cond.selects "java/lang/String" yJ0_length_8abf5 yJ0_length_8abf5 ∈ m_tb := ⟨mT2 (List.mem_of_getElem? (i := 125) rfl) rfl, mT2 (List.mem_of_getElem? (i := 126) rfl) rfl⟩
theorem myJ0_charAt_5068e : MY yJ0_charAt_5068e cJ0_charAt_5068e 2 (some .char) 1 := ⟨mT2 (List.mem_of_getElem? (i := 145) rfl) rfl, mT1 (List.mem_of_getElem? (i := 11) rfl) rfl, by decide, by decide +kernel⟩
theorem mvJ0_charAt_5068e : Cond.instanceMethod yJ0_charAt_5068e ∈ m_tb ∧ Cond.selects "java/lang/String" yJ0_charAt_5068e yJ0_charAt_5068e ∈ m_tb := ⟨mT2 (List.mem_of_getElem? (i := 143) rfl) rfl, mT2 (List.mem_of_getElem? (i := 144) rfl) rfl⟩
theorem myJ0_coder_7d493 : MY yJ0_coder_7d493 cJ0_coder_7d493 1 (some .byte) 0 := ⟨mT2 (List.mem_of_getElem? (i := 131) rfl) rfl, mT1 (List.mem_of_getElem? (i := 11) rfl) rfl, by decide, by decide +kernel⟩
theorem mvJ0_coder_7d493 : Cond.instanceMethod yJ0_coder_7d493 ∈ m_tb ∧ Cond.selects "java/lang/String" yJ0_coder_7d493 yJ0_coder_7d493 ∈ m_tb := ⟨mT2 (List.mem_of_getElem? (i := 129) rfl) rfl, mT2 (List.mem_of_getElem? (i := 130) rfl) rfl⟩
theorem myJ0_isLatin1_aae02 : MY yJ0_isLatin1_aae02 cJ0_isLatin1_aae02 1 (some .boolean) 0 := ⟨mT2 (List.mem_of_getElem? (i := 149) rfl) rfl, mT1 (List.mem_of_getElem? (i := 11) rfl) rfl, by decide, by decide +kernel⟩
theorem mvJ0_isLatin1_aae02 : Cond.instanceMethod yJ0_isLatin1_aae02 ∈ m_tb ∧ Cond.selects "java/lang/String" yJ0_isLatin1_aae02 yJ0_isLatin1_aae02 ∈ m_tb := ⟨mT2 (List.mem_of_getElem? (i := 147) rfl) rfl, mT2 (List.mem_of_getElem? (i := 148) rfl) rfl⟩
theorem myJ0_checkIndex_df160 : MY yJ0_checkIndex_df160 cJ0_checkIndex_df160 2 none 2 := ⟨mT2 (List.mem_of_getElem? (i := 155) rfl) rfl, mT1 (List.mem_of_getElem? (i := 11) rfl) rfl, by decide, by decide +kernel⟩
theorem msJ0_checkIndex_df160 : Cond.static yJ0_checkIndex_df160 ∈ m_tb := mT2 (List.mem_of_getElem? (i := 154) rfl) rfl
theorem myJ1_charAt_3b067 : MY yJ1_charAt_3b067 cJ1_charAt_3b067 2 (some .char) 2 := ⟨mT2 (List.mem_of_getElem? (i := 152) rfl) rfl, mT1 (List.mem_of_getElem? (i := 12) rfl) rfl, by decide, by decide +kernel⟩
theorem msJ1_charAt_3b067 : Cond.static yJ1_charAt_3b067 ∈ m_tb := mT2 (List.mem_of_getElem? (i := 151) rfl) rfl
theorem myJ3_checkIndex_8e157 : MY yJ3_checkIndex_8e157 cJ3_checkIndex_8e157 3 (some .int) 3 := ⟨mT2 (List.mem_of_getElem? (i := 160) rfl) rfl, mT1 (List.mem_of_getElem? (i := 13) rfl) rfl, by decide, by decide +kernel⟩
theorem msJ3_checkIndex_8e157 : Cond.static yJ3_checkIndex_8e157 ∈ m_tb := mT2 (List.mem_of_getElem? (i := 159) rfl) rfl
theorem mRJ0_335 : Cond.methodLink "java/lang/String" 335 yJ0_coder_7d493 ∈ m_tb := mT2 (List.mem_of_getElem? (i := 128) rfl) rfl
theorem fRJ0_38 : Cond.fieldLink "java/lang/String" 38 "java/lang/String" "COMPACT_STRINGS" "Z" ∈ m_tb := mT2 (List.mem_of_getElem? (i := 132) rfl) rfl
theorem mRJ0_492 : Cond.methodLink "java/lang/String" 492 yJ0_isLatin1_aae02 ∈ m_tb := mT2 (List.mem_of_getElem? (i := 146) rfl) rfl
theorem mRJ0_495 : Cond.methodLink "java/lang/String" 495 yJ1_charAt_3b067 ∈ m_tb := mT2 (List.mem_of_getElem? (i := 150) rfl) rfl
theorem mRJ1_9 : Cond.methodLink "java/lang/StringLatin1" 9 yJ0_checkIndex_df160 ∈ m_tb := mT2 (List.mem_of_getElem? (i := 153) rfl) rfl
theorem fRJ0_1053 : Cond.fieldLink "java/lang/String" 1053 "jdk/internal/util/Preconditions" "SIOOBE_FORMATTER" "Ljava/util/function/BiFunction;" ∈ m_tb := mT2 (List.mem_of_getElem? (i := 156) rfl) rfl
theorem mRJ0_1059 : Cond.methodLink "java/lang/String" 1059 yJ3_checkIndex_8e157 ∈ m_tb := mT2 (List.mem_of_getElem? (i := 158) rfl) rfl
theorem fRJ0_9 : Cond.fieldLink "java/lang/String" 9 "java/lang/String" "value" "[B" ∈ m_tb := mT8 (List.mem_of_getElem? (i := 91) rfl) rfl
theorem fRJ0_15 : Cond.fieldLink "java/lang/String" 15 "java/lang/String" "coder" "B" ∈ m_tb := mT8 (List.mem_of_getElem? (i := 92) rfl) rfl
theorem miMath : Cond.initialized "java/lang/Math" ∈ m_tb := mT1 (List.mem_of_getElem? (i := 8) rfl) rfl
