theorem dX8_tellsFits_1 : decode cX8_tellsFits 1 = .ok (.invokevirtual 410, 3) := by decide +kernel
theorem dX8_tellsFits_4 : decode cX8_tellsFits 4 = .ok (.aload_n 0, 1) := by decide +kernel
theorem dX8_tellsFits_5 : decode cX8_tellsFits 5 = .ok (.getfield 334, 3) := by decide +kernel
theorem dX8_tellsFits_8 : decode cX8_tellsFits 8 = .ok (.ifCond .eq 4, 3) := by decide +kernel
theorem dX8_tellsFits_11 : decode cX8_tellsFits 11 = .ok (.return_, 1) := by decide +kernel
theorem dX8_tellsFits_12 : decode cX8_tellsFits 12 = .ok (.aload_n 0, 1) := by decide +kernel
theorem dX8_tellsFits_13 : decode cX8_tellsFits 13 = .ok (.iconst 1, 1) := by decide +kernel
theorem dX8_tellsFits_14 : decode cX8_tellsFits 14 = .ok (.putfield 334, 3) := by decide +kernel
theorem dX8_tellsFits_17 : decode cX8_tellsFits 17 = .ok (.iconst 0, 1) := by decide +kernel
theorem dX8_tellsFits_18 : decode cX8_tellsFits 18 = .ok (.istore_n 1, 1) := by decide +kernel
theorem dX8_tellsFits_19 : decode cX8_tellsFits 19 = .ok (.iload_n 1, 1) := by decide +kernel
theorem dX8_tellsFits_20 : decode cX8_tellsFits 20 = .ok (.ldc 149, 2) := by decide +kernel
theorem dX8_tellsFits_22 : decode cX8_tellsFits 22 = .ok (.if_icmp .ge 16, 3) := by decide +kernel
theorem dX8_tellsFits_25 : decode cX8_tellsFits 25 = .ok (.aload_n 0, 1) := by decide +kernel
theorem dX8_tellsFits_26 : decode cX8_tellsFits 26 = .ok (.getfield 153, 3) := by decide +kernel
theorem dX8_tellsFits_29 : decode cX8_tellsFits 29 = .ok (.iload_n 1, 1) := by decide +kernel
theorem dX8_tellsFits_30 : decode cX8_tellsFits 30 = .ok (.lconst 0, 1) := by decide +kernel
theorem dX8_tellsFits_31 : decode cX8_tellsFits 31 = .ok (.lastore, 1) := by decide +kernel
theorem dX8_tellsFits_32 : decode cX8_tellsFits 32 = .ok (.iinc 1 1, 3) := by decide +kernel
theorem dX8_tellsFits_35 : decode cX8_tellsFits 35 = .ok (.goto (-16), 3) := by decide +kernel
theorem dX8_tellsFits_38 : decode cX8_tellsFits 38 = .ok (.iconst 0, 1) := by decide +kernel
theorem dX8_tellsFits_39 : decode cX8_tellsFits 39 = .ok (.istore_n 1, 1) := by decide +kernel
theorem dX8_tellsFits_40 : decode cX8_tellsFits 40 = .ok (.iload_n 1, 1) := by decide +kernel
theorem dX8_tellsFits_41 : decode cX8_tellsFits 41 = .ok (.bipush 24, 2) := by decide +kernel
theorem dX8_tellsFits_43 : decode cX8_tellsFits 43 = .ok (.if_icmp .ge 21, 3) := by decide +kernel
theorem dX8_tellsFits_46 : decode cX8_tellsFits 46 = .ok (.iload_n 1, 1) := by decide +kernel
theorem dX8_tellsFits_47 : decode cX8_tellsFits 47 = .ok (.invokestatic 473, 3) := by decide +kernel
theorem dX8_tellsFits_50 : decode cX8_tellsFits 50 = .ok (.ifCond .eq 8, 3) := by decide +kernel
theorem dX8_tellsFits_53 : decode cX8_tellsFits 53 = .ok (.aload_n 0, 1) := by decide +kernel
theorem dX8_tellsFits_54 : decode cX8_tellsFits 54 = .ok (.iload_n 1, 1) := by decide +kernel
theorem dX8_tellsFits_55 : decode cX8_tellsFits 55 = .ok (.invokevirtual 499, 3) := by decide +kernel
theorem dX8_tellsFits_58 : decode cX8_tellsFits 58 = .ok (.iinc 1 1, 3) := by decide +kernel
theorem dX8_tellsFits_61 : decode cX8_tellsFits 61 = .ok (.goto (-21), 3) := by decide +kernel
theorem dX8_tellsFits_64 : decode cX8_tellsFits 64 = .ok (.aload_n 0, 1) := by decide +kernel
theorem dX8_tellsFits_65 : decode cX8_tellsFits 65 = .ok (.getfield 87, 3) := by decide +kernel
theorem dX8_tellsFits_68 : decode cX8_tellsFits 68 = .ok (.iconst 1, 1) := by decide +kernel
theorem dX8_tellsFits_69 : decode cX8_tellsFits 69 = .ok (.iaload, 1) := by decide +kernel
theorem dX8_tellsFits_70 : decode cX8_tellsFits 70 = .ok (.iconst 1, 1) := by decide +kernel
theorem dX8_tellsFits_71 : decode cX8_tellsFits 71 = .ok (.isub, 1) := by decide +kernel
theorem dX8_tellsFits_72 : decode cX8_tellsFits 72 = .ok (.istore_n 1, 1) := by decide +kernel
theorem dX8_tellsFits_73 : decode cX8_tellsFits 73 = .ok (.iload_n 1, 1) := by decide +kernel
theorem dX8_tellsFits_74 : decode cX8_tellsFits 74 = .ok (.ifCond .lt 90, 3) := by decide +kernel
theorem dX8_tellsFits_77 : decode cX8_tellsFits 77 = .ok (.iconst 0, 1) := by decide +kernel
theorem dX8_tellsFits_78 : decode cX8_tellsFits 78 = .ok (.istore_n 2, 1) := by decide +kernel
theorem dX8_tellsFits_79 : decode cX8_tellsFits 79 = .ok (.iload_n 2, 1) := by decide +kernel
theorem dX8_tellsFits_80 : decode cX8_tellsFits 80 = .ok (.bipush 24, 2) := by decide +kernel
theorem dX8_tellsFits_82 : decode cX8_tellsFits 82 = .ok (.if_icmp .ge 76, 3) := by decide +kernel
theorem dX8_tellsFits_85 : decode cX8_tellsFits 85 = .ok (.aload_n 0, 1) := by decide +kernel
theorem dX8_tellsFits_86 : decode cX8_tellsFits 86 = .ok (.iload_n 1, 1) := by decide +kernel
theorem dX8_tellsFits_87 : decode cX8_tellsFits 87 = .ok (.iload_n 2, 1) := by decide +kernel
theorem dX8_tellsFits_88 : decode cX8_tellsFits 88 = .ok (.invokevirtual 470, 3) := by decide +kernel
theorem dX8_tellsFits_91 : decode cX8_tellsFits 91 = .ok (.ifCond .eq 61, 3) := by decide +kernel
theorem dX8_tellsFits_94 : decode cX8_tellsFits 94 = .ok (.iload_n 2, 1) := by decide +kernel
theorem dX8_tellsFits_95 : decode cX8_tellsFits 95 = .ok (.invokestatic 473, 3) := by decide +kernel
theorem dX8_tellsFits_98 : decode cX8_tellsFits 98 = .ok (.ifCond .ne 6, 3) := by decide +kernel
theorem dX8_tellsFits_101 : decode cX8_tellsFits 101 = .ok (.goto 51, 3) := by decide +kernel
theorem dX8_tellsFits_104 : decode cX8_tellsFits 104 = .ok (.aload_n 0, 1) := by decide +kernel
theorem dX8_tellsFits_105 : decode cX8_tellsFits 105 = .ok (.iload_n 1, 1) := by decide +kernel
theorem dX8_tellsFits_106 : decode cX8_tellsFits 106 = .ok (.invokevirtual 496, 3) := by decide +kernel
theorem dX8_tellsFits_109 : decode cX8_tellsFits 109 = .ok (.ifCond .eq 16, 3) := by decide +kernel
theorem dX8_tellsFits_112 : decode cX8_tellsFits 112 = .ok (.aload_n 0, 1) := by decide +kernel
theorem dX8_tellsFits_113 : decode cX8_tellsFits 113 = .ok (.aload_n 0, 1) := by decide +kernel
theorem dX8_tellsFits_114 : decode cX8_tellsFits 114 = .ok (.getfield 153, 3) := by decide +kernel
theorem dX8_tellsFits_117 : decode cX8_tellsFits 117 = .ok (.iload_n 1, 1) := by decide +kernel
theorem dX8_tellsFits_118 : decode cX8_tellsFits 118 = .ok (.iload_n 2, 1) := by decide +kernel
theorem dX8_tellsFits_119 : decode cX8_tellsFits 119 = .ok (.invokevirtual 476, 3) := by decide +kernel
theorem dX8_tellsFits_122 : decode cX8_tellsFits 122 = .ok (.goto 30, 3) := by decide +kernel
theorem dX8_tellsFits_125 : decode cX8_tellsFits 125 = .ok (.aload_n 0, 1) := by decide +kernel
theorem dX8_tellsFits_126 : decode cX8_tellsFits 126 = .ok (.iload_n 1, 1) := by decide +kernel
theorem dX8_tellsFits_127 : decode cX8_tellsFits 127 = .ok (.invokevirtual 502, 3) := by decide +kernel
theorem dX8_tellsFits_130 : decode cX8_tellsFits 130 = .ok (.aload_n 0, 1) := by decide +kernel
theorem dX8_tellsFits_131 : decode cX8_tellsFits 131 = .ok (.iload_n 1, 1) := by decide +kernel
theorem dX8_tellsFits_132 : decode cX8_tellsFits 132 = .ok (.iload_n 2, 1) := by decide +kernel
theorem dX8_tellsFits_133 : decode cX8_tellsFits 133 = .ok (.iconst 0, 1) := by decide +kernel
theorem dX8_tellsFits_134 : decode cX8_tellsFits 134 = .ok (.iconst 0, 1) := by decide +kernel
theorem dX8_tellsFits_135 : decode cX8_tellsFits 135 = .ok (.iconst 0, 1) := by decide +kernel
theorem dX8_tellsFits_136 : decode cX8_tellsFits 136 = .ok (.invokevirtual 458, 3) := by decide +kernel
theorem dX8_tellsFits_139 : decode cX8_tellsFits 139 = .ok (.ifCond .eq 13, 3) := by decide +kernel
theorem dX8_tellsFits_142 : decode cX8_tellsFits 142 = .ok (.aload_n 0, 1) := by decide +kernel
theorem dX8_tellsFits_143 : decode cX8_tellsFits 143 = .ok (.aload_n 0, 1) := by decide +kernel
theorem dX8_tellsFits_144 : decode cX8_tellsFits 144 = .ok (.getfield 153, 3) := by decide +kernel
theorem dX8_tellsFits_147 : decode cX8_tellsFits 147 = .ok (.iload_n 1, 1) := by decide +kernel
theorem dX8_tellsFits_148 : decode cX8_tellsFits 148 = .ok (.iload_n 2, 1) := by decide +kernel
theorem dX8_tellsFits_149 : decode cX8_tellsFits 149 = .ok (.invokevirtual 462, 3) := by decide +kernel
theorem dX8_tellsFits_152 : decode cX8_tellsFits 152 = .ok (.iinc 2 1, 3) := by decide +kernel
theorem dX8_tellsFits_155 : decode cX8_tellsFits 155 = .ok (.goto (-76), 3) := by decide +kernel
theorem dX8_tellsFits_158 : decode cX8_tellsFits 158 = .ok (.iinc 1 (-1), 3) := by decide +kernel
theorem dX8_tellsFits_161 : decode cX8_tellsFits 161 = .ok (.goto (-88), 3) := by decide +kernel
theorem dX8_tellsFits_164 : decode cX8_tellsFits 164 = .ok (.return_, 1) := by decide +kernel
theorem dX8_fits_0 : decode cX8_fits 0 = .ok (.aload_n 0, 1) := by decide +kernel
theorem dX8_fits_1 : decode cX8_fits 1 = .ok (.invokevirtual 410, 3) := by decide +kernel
theorem dX8_fits_4 : decode cX8_fits 4 = .ok (.aload_n 0, 1) := by decide +kernel
theorem dX8_fits_5 : decode cX8_fits 5 = .ok (.getfield 404, 3) := by decide +kernel
theorem dX8_fits_8 : decode cX8_fits 8 = .ok (.ifCond .ne 7, 3) := by decide +kernel
theorem dX8_fits_11 : decode cX8_fits 11 = .ok (.ldc2_w 505, 3) := by decide +kernel
theorem dX8_fits_14 : decode cX8_fits 14 = .ok (.lreturn, 1) := by decide +kernel
theorem dX8_fits_15 : decode cX8_fits 15 = .ok (.aload_n 0, 1) := by decide +kernel
theorem dX8_fits_16 : decode cX8_fits 16 = .ok (.invokevirtual 507, 3) := by decide +kernel
theorem dX8_fits_19 : decode cX8_fits 19 = .ok (.lconst 0, 1) := by decide +kernel
theorem dX8_fits_20 : decode cX8_fits 20 = .ok (.lstore_n 3, 1) := by decide +kernel
theorem dX8_fits_21 : decode cX8_fits 21 = .ok (.sipush (-460), 3) := by decide +kernel
theorem dX8_fits_24 : decode cX8_fits 24 = .ok (.istore 5, 2) := by decide +kernel
theorem dX8_fits_26 : decode cX8_fits 26 = .ok (.iload 5, 2) := by decide +kernel
theorem dX8_fits_28 : decode cX8_fits 28 = .ok (.sipush 600, 3) := by decide +kernel
theorem dX8_fits_31 : decode cX8_fits 31 = .ok (.if_icmp .ge 37, 3) := by decide +kernel
theorem dX8_fits_34 : decode cX8_fits 34 = .ok (.iload_n 2, 1) := by decide +kernel
theorem dX8_fits_35 : decode cX8_fits 35 = .ok (.ifCond .ne 9, 3) := by decide +kernel
theorem dX8_fits_38 : decode cX8_fits 38 = .ok (.iload 5, 2) := by decide +kernel
theorem dX8_fits_40 : decode cX8_fits 40 = .ok (.iload_n 1, 1) := by decide +kernel
theorem dX8_fits_41 : decode cX8_fits 41 = .ok (.if_icmp .ne 21, 3) := by decide +kernel
theorem dX8_fits_44 : decode cX8_fits 44 = .ok (.lload_n 3, 1) := by decide +kernel
theorem dX8_fits_45 : decode cX8_fits 45 = .ok (.aload_n 0, 1) := by decide +kernel
theorem dX8_fits_46 : decode cX8_fits 46 = .ok (.getfield 153, 3) := by decide +kernel
theorem dX8_fits_49 : decode cX8_fits 49 = .ok (.iconst 0, 1) := by decide +kernel
theorem dX8_fits_50 : decode cX8_fits 50 = .ok (.iconst 0, 1) := by decide +kernel
theorem dX8_fits_51 : decode cX8_fits 51 = .ok (.iload 5, 2) := by decide +kernel
theorem dX8_fits_53 : decode cX8_fits 53 = .ok (.invokestatic 448, 3) := by decide +kernel
theorem dX8_fits_56 : decode cX8_fits 56 = .ok (.laload, 1) := by decide +kernel
theorem dX8_fits_57 : decode cX8_fits 57 = .ok (.ladd, 1) := by decide +kernel
theorem dX8_fits_58 : decode cX8_fits 58 = .ok (.invokestatic 451, 3) := by decide +kernel
theorem dX8_fits_61 : decode cX8_fits 61 = .ok (.lstore_n 3, 1) := by decide +kernel
theorem dX8_fits_62 : decode cX8_fits 62 = .ok (.iinc 5 1, 3) := by decide +kernel
theorem dX8_fits_65 : decode cX8_fits 65 = .ok (.goto (-39), 3) := by decide +kernel
theorem dX8_fits_68 : decode cX8_fits 68 = .ok (.lload_n 3, 1) := by decide +kernel
theorem dX8_fits_69 : decode cX8_fits 69 = .ok (.lreturn, 1) := by decide +kernel
theorem dX8_leadsOn_0 : decode cX8_leadsOn 0 = .ok (.iload_n 2, 1) := by decide +kernel
theorem dX8_leadsOn_1 : decode cX8_leadsOn 1 = .ok (.sipush 1060, 3) := by decide +kernel
theorem dX8_leadsOn_4 : decode cX8_leadsOn 4 = .ok (.imul, 1) := by decide +kernel
theorem dX8_leadsOn_5 : decode cX8_leadsOn 5 = .ok (.istore_n 3, 1) := by decide +kernel
theorem dX8_leadsOn_6 : decode cX8_leadsOn 6 = .ok (.aload_n 0, 1) := by decide +kernel
theorem dX8_leadsOn_7 : decode cX8_leadsOn 7 = .ok (.getfield 445, 3) := by decide +kernel
theorem dX8_leadsOn_10 : decode cX8_leadsOn 10 = .ok (.sipush 1060, 3) := by decide +kernel
theorem dX8_leadsOn_13 : decode cX8_leadsOn 13 = .ok (.imul, 1) := by decide +kernel
theorem dX8_leadsOn_14 : decode cX8_leadsOn 14 = .ok (.aload_n 0, 1) := by decide +kernel
theorem dX8_leadsOn_15 : decode cX8_leadsOn 15 = .ok (.getfield 439, 3) := by decide +kernel
theorem dX8_leadsOn_18 : decode cX8_leadsOn 18 = .ok (.iadd, 1) := by decide +kernel
theorem dX8_leadsOn_19 : decode cX8_leadsOn 19 = .ok (.istore 4, 2) := by decide +kernel
theorem dX8_leadsOn_21 : decode cX8_leadsOn 21 = .ok (.iconst 0, 1) := by decide +kernel
theorem dX8_leadsOn_22 : decode cX8_leadsOn 22 = .ok (.istore 5, 2) := by decide +kernel
theorem dX8_leadsOn_24 : decode cX8_leadsOn 24 = .ok (.iload 5, 2) := by decide +kernel
theorem dX8_leadsOn_26 : decode cX8_leadsOn 26 = .ok (.sipush 1060, 3) := by decide +kernel
theorem dX8_leadsOn_29 : decode cX8_leadsOn 29 = .ok (.if_icmp .ge 32, 3) := by decide +kernel
theorem dX8_leadsOn_32 : decode cX8_leadsOn 32 = .ok (.aload_n 0, 1) := by decide +kernel
theorem dX8_leadsOn_33 : decode cX8_leadsOn 33 = .ok (.getfield 162, 3) := by decide +kernel
theorem dX8_leadsOn_36 : decode cX8_leadsOn 36 = .ok (.iload_n 3, 1) := by decide +kernel
theorem dX8_leadsOn_37 : decode cX8_leadsOn 37 = .ok (.iload 5, 2) := by decide +kernel
theorem dX8_leadsOn_39 : decode cX8_leadsOn 39 = .ok (.iadd, 1) := by decide +kernel
theorem dX8_leadsOn_40 : decode cX8_leadsOn 40 = .ok (.baload, 1) := by decide +kernel
theorem dX8_leadsOn_41 : decode cX8_leadsOn 41 = .ok (.ifCond .eq 14, 3) := by decide +kernel
theorem dX8_leadsOn_44 : decode cX8_leadsOn 44 = .ok (.aload_n 0, 1) := by decide +kernel
theorem dX8_leadsOn_45 : decode cX8_leadsOn 45 = .ok (.getfield 165, 3) := by decide +kernel
theorem dX8_leadsOn_48 : decode cX8_leadsOn 48 = .ok (.iload 4, 2) := by decide +kernel
theorem dX8_leadsOn_50 : decode cX8_leadsOn 50 = .ok (.iload 5, 2) := by decide +kernel
theorem dX8_leadsOn_52 : decode cX8_leadsOn 52 = .ok (.iadd, 1) := by decide +kernel
theorem dX8_leadsOn_53 : decode cX8_leadsOn 53 = .ok (.iconst 1, 1) := by decide +kernel
theorem dX8_leadsOn_54 : decode cX8_leadsOn 54 = .ok (.bastore, 1) := by decide +kernel
theorem dX8_leadsOn_55 : decode cX8_leadsOn 55 = .ok (.iinc 5 1, 3) := by decide +kernel
theorem dX8_leadsOn_58 : decode cX8_leadsOn 58 = .ok (.goto (-34), 3) := by decide +kernel
theorem dX8_leadsOn_61 : decode cX8_leadsOn 61 = .ok (.return_, 1) := by decide +kernel
theorem dX8_leads_0 : decode cX8_leads 0 = .ok (.iconst 0, 1) := by decide +kernel
theorem dX8_leads_1 : decode cX8_leads 1 = .ok (.istore_n 2, 1) := by decide +kernel
theorem dX8_leads_2 : decode cX8_leads 2 = .ok (.iload_n 2, 1) := by decide +kernel
theorem dX8_leads_3 : decode cX8_leads 3 = .ok (.sipush 25440, 3) := by decide +kernel
theorem dX8_leads_6 : decode cX8_leads 6 = .ok (.if_icmp .ge 16, 3) := by decide +kernel
theorem dX8_leads_9 : decode cX8_leads 9 = .ok (.aload_n 0, 1) := by decide +kernel
theorem dX8_leads_10 : decode cX8_leads 10 = .ok (.getfield 165, 3) := by decide +kernel
theorem dX8_leads_13 : decode cX8_leads 13 = .ok (.iload_n 2, 1) := by decide +kernel
theorem dX8_leads_14 : decode cX8_leads 14 = .ok (.iconst 0, 1) := by decide +kernel
theorem dX8_leads_15 : decode cX8_leads 15 = .ok (.bastore, 1) := by decide +kernel
theorem dX8_leads_16 : decode cX8_leads 16 = .ok (.iinc 2 1, 3) := by decide +kernel
theorem dX8_leads_19 : decode cX8_leads 19 = .ok (.goto (-17), 3) := by decide +kernel
theorem dX8_leads_22 : decode cX8_leads 22 = .ok (.iconst 0, 1) := by decide +kernel
theorem dX8_leads_23 : decode cX8_leads 23 = .ok (.istore_n 2, 1) := by decide +kernel
theorem dX8_leads_24 : decode cX8_leads 24 = .ok (.iload_n 2, 1) := by decide +kernel
theorem dX8_leads_25 : decode cX8_leads 25 = .ok (.bipush 24, 2) := by decide +kernel
theorem dX8_leads_27 : decode cX8_leads 27 = .ok (.if_icmp .ge 98, 3) := by decide +kernel
theorem dX8_leads_30 : decode cX8_leads 30 = .ok (.iload_n 2, 1) := by decide +kernel
theorem dX8_leads_31 : decode cX8_leads 31 = .ok (.invokestatic 473, 3) := by decide +kernel
theorem dX8_leads_34 : decode cX8_leads 34 = .ok (.ifCond .ne 6, 3) := by decide +kernel
theorem dX8_leads_37 : decode cX8_leads 37 = .ok (.goto 82, 3) := by decide +kernel
theorem dX8_leads_40 : decode cX8_leads 40 = .ok (.aload_n 0, 1) := by decide +kernel
theorem dX8_leads_41 : decode cX8_leads 41 = .ok (.iload_n 1, 1) := by decide +kernel
theorem dX8_leads_42 : decode cX8_leads 42 = .ok (.invokevirtual 496, 3) := by decide +kernel
theorem dX8_leads_45 : decode cX8_leads 45 = .ok (.ifCond .ne 29, 3) := by decide +kernel
theorem dX8_leads_48 : decode cX8_leads 48 = .ok (.aload_n 0, 1) := by decide +kernel
theorem dX8_leads_49 : decode cX8_leads 49 = .ok (.iload_n 1, 1) := by decide +kernel
theorem dX8_leads_50 : decode cX8_leads 50 = .ok (.invokevirtual 502, 3) := by decide +kernel
theorem dX8_leads_53 : decode cX8_leads 53 = .ok (.aload_n 0, 1) := by decide +kernel
theorem dX8_leads_54 : decode cX8_leads 54 = .ok (.iload_n 1, 1) := by decide +kernel
theorem dX8_leads_55 : decode cX8_leads 55 = .ok (.iload_n 2, 1) := by decide +kernel
theorem dX8_leads_56 : decode cX8_leads 56 = .ok (.iconst 0, 1) := by decide +kernel
theorem dX8_leads_57 : decode cX8_leads 57 = .ok (.iconst 0, 1) := by decide +kernel
theorem dX8_leads_58 : decode cX8_leads 58 = .ok (.iconst 0, 1) := by decide +kernel
theorem dX8_leads_59 : decode cX8_leads 59 = .ok (.invokevirtual 458, 3) := by decide +kernel
theorem dX8_leads_62 : decode cX8_leads 62 = .ok (.ifCond .eq 57, 3) := by decide +kernel
theorem dX8_leads_65 : decode cX8_leads 65 = .ok (.aload_n 0, 1) := by decide +kernel
theorem dX8_leads_66 : decode cX8_leads 66 = .ok (.iload_n 1, 1) := by decide +kernel
theorem dX8_leads_67 : decode cX8_leads 67 = .ok (.iload_n 2, 1) := by decide +kernel
theorem dX8_leads_68 : decode cX8_leads 68 = .ok (.invokevirtual 510, 3) := by decide +kernel
theorem dX8_leads_71 : decode cX8_leads 71 = .ok (.goto 48, 3) := by decide +kernel
theorem dX8_leads_74 : decode cX8_leads 74 = .ok (.aload_n 0, 1) := by decide +kernel
theorem dX8_leads_75 : decode cX8_leads 75 = .ok (.iconst 0, 1) := by decide +kernel
theorem dX8_leads_76 : decode cX8_leads 76 = .ok (.putfield 430, 3) := by decide +kernel
theorem dX8_leads_79 : decode cX8_leads 79 = .ok (.aload_n 0, 1) := by decide +kernel
theorem dX8_leads_80 : decode cX8_leads 80 = .ok (.aload_n 0, 1) := by decide +kernel
theorem dX8_leads_81 : decode cX8_leads 81 = .ok (.getfield 84, 3) := by decide +kernel
theorem dX8_leads_84 : decode cX8_leads 84 = .ok (.iconst 1, 1) := by decide +kernel
theorem dX8_leads_85 : decode cX8_leads 85 = .ok (.iaload, 1) := by decide +kernel
theorem dX8_leads_86 : decode cX8_leads 86 = .ok (.aload_n 0, 1) := by decide +kernel
theorem dX8_leads_87 : decode cX8_leads 87 = .ok (.getfield 90, 3) := by decide +kernel
theorem dX8_leads_90 : decode cX8_leads 90 = .ok (.iconst 1, 1) := by decide +kernel
theorem dX8_leads_91 : decode cX8_leads 91 = .ok (.iaload, 1) := by decide +kernel
theorem dX8_leads_92 : decode cX8_leads 92 = .ok (.invokevirtual 454, 3) := by decide +kernel
theorem dX8_leads_95 : decode cX8_leads 95 = .ok (.ifCond .eq 24, 3) := by decide +kernel
theorem dX8_leads_98 : decode cX8_leads 98 = .ok (.aload_n 0, 1) := by decide +kernel
theorem dX8_leads_99 : decode cX8_leads 99 = .ok (.iload_n 1, 1) := by decide +kernel
theorem dX8_leads_100 : decode cX8_leads 100 = .ok (.iload_n 2, 1) := by decide +kernel
theorem dX8_leads_101 : decode cX8_leads 101 = .ok (.iconst 0, 1) := by decide +kernel
theorem dX8_leads_102 : decode cX8_leads 102 = .ok (.iconst 0, 1) := by decide +kernel
theorem dX8_leads_103 : decode cX8_leads 103 = .ok (.iconst 0, 1) := by decide +kernel
theorem dX8_leads_104 : decode cX8_leads 104 = .ok (.invokevirtual 458, 3) := by decide +kernel
theorem dX8_leads_107 : decode cX8_leads 107 = .ok (.ifCond .eq (-28), 3) := by decide +kernel
theorem dX8_leads_110 : decode cX8_leads 110 = .ok (.aload_n 0, 1) := by decide +kernel
theorem dX8_leads_111 : decode cX8_leads 111 = .ok (.iload_n 1, 1) := by decide +kernel
theorem dX8_leads_112 : decode cX8_leads 112 = .ok (.iload_n 2, 1) := by decide +kernel
theorem dX8_leads_113 : decode cX8_leads 113 = .ok (.invokevirtual 510, 3) := by decide +kernel
theorem dX8_leads_116 : decode cX8_leads 116 = .ok (.goto (-37), 3) := by decide +kernel
theorem dX8_leads_119 : decode cX8_leads 119 = .ok (.iinc 2 1, 3) := by decide +kernel
theorem dX8_leads_122 : decode cX8_leads 122 = .ok (.goto (-98), 3) := by decide +kernel
theorem dX8_leads_125 : decode cX8_leads 125 = .ok (.iconst 0, 1) := by decide +kernel
theorem dX8_leads_126 : decode cX8_leads 126 = .ok (.istore_n 2, 1) := by decide +kernel
theorem dX8_leads_127 : decode cX8_leads 127 = .ok (.iload_n 2, 1) := by decide +kernel
theorem dX8_leads_128 : decode cX8_leads 128 = .ok (.sipush 25440, 3) := by decide +kernel
theorem dX8_leads_131 : decode cX8_leads 131 = .ok (.if_icmp .ge 21, 3) := by decide +kernel
theorem dX8_leads_134 : decode cX8_leads 134 = .ok (.aload_n 0, 1) := by decide +kernel
theorem dX8_leads_135 : decode cX8_leads 135 = .ok (.getfield 162, 3) := by decide +kernel
theorem dX8_leads_138 : decode cX8_leads 138 = .ok (.iload_n 2, 1) := by decide +kernel
theorem dX8_leads_139 : decode cX8_leads 139 = .ok (.aload_n 0, 1) := by decide +kernel
theorem dX8_leads_140 : decode cX8_leads 140 = .ok (.getfield 165, 3) := by decide +kernel
theorem dX8_leads_143 : decode cX8_leads 143 = .ok (.iload_n 2, 1) := by decide +kernel
theorem dX8_leads_144 : decode cX8_leads 144 = .ok (.baload, 1) := by decide +kernel
theorem dX8_leads_145 : decode cX8_leads 145 = .ok (.bastore, 1) := by decide +kernel
theorem dX8_leads_146 : decode cX8_leads 146 = .ok (.iinc 2 1, 3) := by decide +kernel
theorem dX8_leads_149 : decode cX8_leads 149 = .ok (.goto (-22), 3) := by decide +kernel
theorem dX8_leads_152 : decode cX8_leads 152 = .ok (.return_, 1) := by decide +kernel
theorem dX8_isThrough_0 : decode cX8_isThrough 0 = .ok (.iload_n 2, 1) := by decide +kernel
theorem dX8_isThrough_1 : decode cX8_isThrough 1 = .ok (.sipush 1060, 3) := by decide +kernel
theorem dX8_isThrough_4 : decode cX8_isThrough 4 = .ok (.imul, 1) := by decide +kernel
theorem dX8_isThrough_5 : decode cX8_isThrough 5 = .ok (.istore 5, 2) := by decide +kernel
theorem dX8_isThrough_7 : decode cX8_isThrough 7 = .ok (.iload_n 1, 1) := by decide +kernel
theorem dX8_isThrough_8 : decode cX8_isThrough 8 = .ok (.iconst 1, 1) := by decide +kernel
theorem dX8_isThrough_9 : decode cX8_isThrough 9 = .ok (.iadd, 1) := by decide +kernel
theorem dX8_isThrough_10 : decode cX8_isThrough 10 = .ok (.aload_n 0, 1) := by decide +kernel
theorem dX8_isThrough_11 : decode cX8_isThrough 11 = .ok (.getfield 445, 3) := by decide +kernel
theorem dX8_isThrough_14 : decode cX8_isThrough 14 = .ok (.sipush (-460), 3) := by decide +kernel
theorem dX8_isThrough_17 : decode cX8_isThrough 17 = .ok (.invokestatic 448, 3) := by decide +kernel
theorem dX8_isThrough_20 : decode cX8_isThrough 20 = .ok (.istore 6, 2) := by decide +kernel
theorem dX8_isThrough_22 : decode cX8_isThrough 22 = .ok (.iconst 0, 1) := by decide +kernel
theorem dX8_isThrough_23 : decode cX8_isThrough 23 = .ok (.istore 7, 2) := by decide +kernel
theorem dX8_isThrough_25 : decode cX8_isThrough 25 = .ok (.iconst 0, 1) := by decide +kernel
theorem dX8_isThrough_26 : decode cX8_isThrough 26 = .ok (.istore 8, 2) := by decide +kernel
theorem dX8_isThrough_28 : decode cX8_isThrough 28 = .ok (.iconst 0, 1) := by decide +kernel
theorem dX8_isThrough_29 : decode cX8_isThrough 29 = .ok (.istore 9, 2) := by decide +kernel
theorem dX8_isThrough_31 : decode cX8_isThrough 31 = .ok (.iload 9, 2) := by decide +kernel
theorem dX8_isThrough_33 : decode cX8_isThrough 33 = .ok (.sipush 1060, 3) := by decide +kernel
theorem dX8_isThrough_36 : decode cX8_isThrough 36 = .ok (.if_icmp .ge 128, 3) := by decide +kernel
theorem dX8_isThrough_39 : decode cX8_isThrough 39 = .ok (.iload 7, 2) := by decide +kernel
theorem dX8_isThrough_41 : decode cX8_isThrough 41 = .ok (.ifCond .ne 16, 3) := by decide +kernel
theorem dX8_isThrough_44 : decode cX8_isThrough 44 = .ok (.aload_n 0, 1) := by decide +kernel
theorem dX8_isThrough_45 : decode cX8_isThrough 45 = .ok (.getfield 162, 3) := by decide +kernel
theorem dX8_isThrough_48 : decode cX8_isThrough 48 = .ok (.iload 5, 2) := by decide +kernel
theorem dX8_isThrough_50 : decode cX8_isThrough 50 = .ok (.iload 9, 2) := by decide +kernel
theorem dX8_isThrough_52 : decode cX8_isThrough 52 = .ok (.iadd, 1) := by decide +kernel
theorem dX8_isThrough_53 : decode cX8_isThrough 53 = .ok (.baload, 1) := by decide +kernel
theorem dX8_isThrough_54 : decode cX8_isThrough 54 = .ok (.ifCond .eq 7, 3) := by decide +kernel
theorem dX8_isThrough_57 : decode cX8_isThrough 57 = .ok (.iconst 1, 1) := by decide +kernel
theorem dX8_isThrough_58 : decode cX8_isThrough 58 = .ok (.goto 4, 3) := by decide +kernel
theorem dX8_isThrough_61 : decode cX8_isThrough 61 = .ok (.iconst 0, 1) := by decide +kernel
theorem dX8_isThrough_62 : decode cX8_isThrough 62 = .ok (.istore 7, 2) := by decide +kernel
theorem dX8_isThrough_64 : decode cX8_isThrough 64 = .ok (.iload 8, 2) := by decide +kernel
theorem dX8_isThrough_66 : decode cX8_isThrough 66 = .ok (.ifCond .ne 18, 3) := by decide +kernel
theorem dX8_isThrough_69 : decode cX8_isThrough 69 = .ok (.aload_n 0, 1) := by decide +kernel
theorem dX8_isThrough_70 : decode cX8_isThrough 70 = .ok (.getfield 153, 3) := by decide +kernel
theorem dX8_isThrough_73 : decode cX8_isThrough 73 = .ok (.iload 6, 2) := by decide +kernel
theorem dX8_isThrough_75 : decode cX8_isThrough 75 = .ok (.iload 9, 2) := by decide +kernel
theorem dX8_isThrough_77 : decode cX8_isThrough 77 = .ok (.iadd, 1) := by decide +kernel
theorem dX8_isThrough_78 : decode cX8_isThrough 78 = .ok (.laload, 1) := by decide +kernel
theorem dX8_isThrough_79 : decode cX8_isThrough 79 = .ok (.lconst 0, 1) := by decide +kernel
theorem dX8_isThrough_80 : decode cX8_isThrough 80 = .ok (.lcmp, 1) := by decide +kernel
theorem dX8_isThrough_81 : decode cX8_isThrough 81 = .ok (.ifCond .le 7, 3) := by decide +kernel
theorem dX8_isThrough_84 : decode cX8_isThrough 84 = .ok (.iconst 1, 1) := by decide +kernel
theorem dX8_isThrough_85 : decode cX8_isThrough 85 = .ok (.goto 4, 3) := by decide +kernel
theorem dX8_isThrough_88 : decode cX8_isThrough 88 = .ok (.iconst 0, 1) := by decide +kernel
theorem dX8_isThrough_89 : decode cX8_isThrough 89 = .ok (.istore 8, 2) := by decide +kernel
theorem dX8_isThrough_91 : decode cX8_isThrough 91 = .ok (.iload_n 3, 1) := by decide +kernel
theorem dX8_isThrough_92 : decode cX8_isThrough 92 = .ok (.iload 9, 2) := by decide +kernel
theorem dX8_isThrough_94 : decode cX8_isThrough 94 = .ok (.sipush 460, 3) := by decide +kernel
theorem dX8_isThrough_97 : decode cX8_isThrough 97 = .ok (.isub, 1) := by decide +kernel
theorem dX8_isThrough_98 : decode cX8_isThrough 98 = .ok (.aload_n 0, 1) := by decide +kernel
theorem dX8_isThrough_99 : decode cX8_isThrough 99 = .ok (.getfield 439, 3) := by decide +kernel
theorem dX8_isThrough_102 : decode cX8_isThrough 102 = .ok (.iadd, 1) := by decide +kernel
theorem dX8_isThrough_103 : decode cX8_isThrough 103 = .ok (.isub, 1) := by decide +kernel
theorem dX8_isThrough_104 : decode cX8_isThrough 104 = .ok (.sipush 460, 3) := by decide +kernel
theorem dX8_isThrough_107 : decode cX8_isThrough 107 = .ok (.iadd, 1) := by decide +kernel
theorem dX8_isThrough_108 : decode cX8_isThrough 108 = .ok (.istore 10, 2) := by decide +kernel
theorem dX8_isThrough_110 : decode cX8_isThrough 110 = .ok (.iload 4, 2) := by decide +kernel
theorem dX8_isThrough_112 : decode cX8_isThrough 112 = .ok (.ifCond .ne 46, 3) := by decide +kernel
theorem dX8_isThrough_115 : decode cX8_isThrough 115 = .ok (.aload_n 0, 1) := by decide +kernel
theorem dX8_isThrough_116 : decode cX8_isThrough 116 = .ok (.getfield 162, 3) := by decide +kernel
theorem dX8_isThrough_119 : decode cX8_isThrough 119 = .ok (.iload 5, 2) := by decide +kernel
theorem dX8_isThrough_121 : decode cX8_isThrough 121 = .ok (.iload 9, 2) := by decide +kernel
theorem dX8_isThrough_123 : decode cX8_isThrough 123 = .ok (.iadd, 1) := by decide +kernel
theorem dX8_isThrough_124 : decode cX8_isThrough 124 = .ok (.baload, 1) := by decide +kernel
theorem dX8_isThrough_125 : decode cX8_isThrough 125 = .ok (.ifCond .eq 33, 3) := by decide +kernel
theorem dX8_isThrough_128 : decode cX8_isThrough 128 = .ok (.iload 10, 2) := by decide +kernel
theorem dX8_isThrough_130 : decode cX8_isThrough 130 = .ok (.i2l, 1) := by decide +kernel
theorem dX8_isThrough_131 : decode cX8_isThrough 131 = .ok (.lconst 0, 1) := by decide +kernel
theorem dX8_isThrough_132 : decode cX8_isThrough 132 = .ok (.ldc2_w 513, 3) := by decide +kernel
theorem dX8_isThrough_135 : decode cX8_isThrough 135 = .ok (.invokestatic 223, 3) := by decide +kernel
theorem dX8_isThrough_138 : decode cX8_isThrough 138 = .ok (.ifCond .eq 20, 3) := by decide +kernel
theorem dX8_isThrough_141 : decode cX8_isThrough 141 = .ok (.aload_n 0, 1) := by decide +kernel
theorem dX8_isThrough_142 : decode cX8_isThrough 142 = .ok (.getfield 153, 3) := by decide +kernel
theorem dX8_isThrough_145 : decode cX8_isThrough 145 = .ok (.iload 6, 2) := by decide +kernel
theorem dX8_isThrough_147 : decode cX8_isThrough 147 = .ok (.iload 10, 2) := by decide +kernel
theorem dX8_isThrough_149 : decode cX8_isThrough 149 = .ok (.iadd, 1) := by decide +kernel
theorem dX8_isThrough_150 : decode cX8_isThrough 150 = .ok (.laload, 1) := by decide +kernel
theorem dX8_isThrough_151 : decode cX8_isThrough 151 = .ok (.lconst 0, 1) := by decide +kernel
theorem dX8_isThrough_152 : decode cX8_isThrough 152 = .ok (.lcmp, 1) := by decide +kernel
theorem dX8_isThrough_153 : decode cX8_isThrough 153 = .ok (.ifCond .le 5, 3) := by decide +kernel
theorem dX8_isThrough_156 : decode cX8_isThrough 156 = .ok (.iconst 1, 1) := by decide +kernel
theorem dX8_isThrough_157 : decode cX8_isThrough 157 = .ok (.ireturn, 1) := by decide +kernel
theorem dX8_isThrough_158 : decode cX8_isThrough 158 = .ok (.iinc 9 1, 3) := by decide +kernel
theorem dX8_isThrough_161 : decode cX8_isThrough 161 = .ok (.goto (-130), 3) := by decide +kernel
theorem dX8_isThrough_164 : decode cX8_isThrough 164 = .ok (.iload 4, 2) := by decide +kernel
theorem dX8_isThrough_166 : decode cX8_isThrough 166 = .ok (.ifCond .eq 17, 3) := by decide +kernel
theorem dX8_isThrough_169 : decode cX8_isThrough 169 = .ok (.iload 7, 2) := by decide +kernel
theorem dX8_isThrough_171 : decode cX8_isThrough 171 = .ok (.ifCond .eq 12, 3) := by decide +kernel
theorem dX8_isThrough_174 : decode cX8_isThrough 174 = .ok (.iload 8, 2) := by decide +kernel
theorem dX8_isThrough_176 : decode cX8_isThrough 176 = .ok (.ifCond .eq 7, 3) := by decide +kernel
theorem dX8_isThrough_179 : decode cX8_isThrough 179 = .ok (.iconst 1, 1) := by decide +kernel
theorem dX8_isThrough_180 : decode cX8_isThrough 180 = .ok (.goto 4, 3) := by decide +kernel
theorem dX8_isThrough_183 : decode cX8_isThrough 183 = .ok (.iconst 0, 1) := by decide +kernel
theorem dX8_isThrough_184 : decode cX8_isThrough 184 = .ok (.ireturn, 1) := by decide +kernel
theorem dX8_must_0 : decode cX8_must 0 = .ok (.aload_n 0, 1) := by decide +kernel
theorem dX8_must_1 : decode cX8_must 1 = .ok (.invokevirtual 410, 3) := by decide +kernel
theorem dX8_must_4 : decode cX8_must 4 = .ok (.aload_n 0, 1) := by decide +kernel
theorem dX8_must_5 : decode cX8_must 5 = .ok (.getfield 404, 3) := by decide +kernel
theorem dX8_must_8 : decode cX8_must 8 = .ok (.ifCond .eq 21, 3) := by decide +kernel
theorem dX8_must_11 : decode cX8_must 11 = .ok (.iload_n 1, 1) := by decide +kernel
theorem dX8_must_12 : decode cX8_must 12 = .ok (.i2l, 1) := by decide +kernel
theorem dX8_must_13 : decode cX8_must 13 = .ok (.lconst 0, 1) := by decide +kernel
theorem dX8_must_14 : decode cX8_must 14 = .ok (.aload_n 0, 1) := by decide +kernel
theorem dX8_must_15 : decode cX8_must 15 = .ok (.getfield 87, 3) := by decide +kernel
theorem dX8_must_18 : decode cX8_must 18 = .ok (.iconst 1, 1) := by decide +kernel
theorem dX8_must_19 : decode cX8_must 19 = .ok (.iaload, 1) := by decide +kernel
theorem dX8_must_20 : decode cX8_must 20 = .ok (.iconst 1, 1) := by decide +kernel
theorem dX8_must_21 : decode cX8_must 21 = .ok (.isub, 1) := by decide +kernel
theorem dX8_must_22 : decode cX8_must 22 = .ok (.i2l, 1) := by decide +kernel
theorem dX8_must_23 : decode cX8_must 23 = .ok (.invokestatic 223, 3) := by decide +kernel
theorem dX8_must_26 : decode cX8_must 26 = .ok (.ifCond .ne 5, 3) := by decide +kernel
theorem dX8_must_29 : decode cX8_must 29 = .ok (.iconst (-1), 1) := by decide +kernel
theorem dX8_must_30 : decode cX8_must 30 = .ok (.ireturn, 1) := by decide +kernel
theorem dX8_must_31 : decode cX8_must 31 = .ok (.iload_n 3, 1) := by decide +kernel
theorem dX8_must_32 : decode cX8_must 32 = .ok (.ifCond .ne 19, 3) := by decide +kernel
theorem dX8_must_35 : decode cX8_must 35 = .ok (.iload_n 2, 1) := by decide +kernel
theorem dX8_must_36 : decode cX8_must 36 = .ok (.i2l, 1) := by decide +kernel
theorem dX8_must_37 : decode cX8_must 37 = .ok (.ldc2_w 515, 3) := by decide +kernel
theorem dX8_must_40 : decode cX8_must 40 = .ok (.ldc2_w 517, 3) := by decide +kernel
theorem dX8_must_43 : decode cX8_must 43 = .ok (.invokestatic 223, 3) := by decide +kernel
theorem dX8_must_46 : decode cX8_must 46 = .ok (.ifCond .ne 5, 3) := by decide +kernel
theorem dX8_must_49 : decode cX8_must 49 = .ok (.iconst 0, 1) := by decide +kernel
theorem dX8_must_50 : decode cX8_must 50 = .ok (.ireturn, 1) := by decide +kernel
theorem dX8_must_51 : decode cX8_must 51 = .ok (.aload_n 0, 1) := by decide +kernel
theorem dX8_must_52 : decode cX8_must 52 = .ok (.invokevirtual 507, 3) := by decide +kernel
theorem dX8_must_55 : decode cX8_must 55 = .ok (.iconst 0, 1) := by decide +kernel
theorem dX8_must_56 : decode cX8_must 56 = .ok (.istore 4, 2) := by decide +kernel
theorem dX8_must_58 : decode cX8_must 58 = .ok (.iload 4, 2) := by decide +kernel
theorem dX8_must_60 : decode cX8_must 60 = .ok (.sipush 25440, 3) := by decide +kernel
theorem dX8_must_63 : decode cX8_must 63 = .ok (.if_icmp .ge 29, 3) := by decide +kernel
theorem dX8_must_66 : decode cX8_must 66 = .ok (.aload_n 0, 1) := by decide +kernel
theorem dX8_must_67 : decode cX8_must 67 = .ok (.getfield 162, 3) := by decide +kernel
theorem dX8_must_70 : decode cX8_must 70 = .ok (.iload 4, 2) := by decide +kernel
theorem dX8_must_72 : decode cX8_must 72 = .ok (.iload 4, 2) := by decide +kernel
theorem dX8_must_74 : decode cX8_must 74 = .ok (.sipush 460, 3) := by decide +kernel
theorem dX8_must_77 : decode cX8_must 77 = .ok (.if_icmp .ne 7, 3) := by decide +kernel
theorem dX8_must_80 : decode cX8_must 80 = .ok (.iconst 1, 1) := by decide +kernel
theorem dX8_must_81 : decode cX8_must 81 = .ok (.goto 4, 3) := by decide +kernel
theorem dX8_must_84 : decode cX8_must 84 = .ok (.iconst 0, 1) := by decide +kernel
theorem dX8_must_85 : decode cX8_must 85 = .ok (.bastore, 1) := by decide +kernel
theorem dX8_must_86 : decode cX8_must 86 = .ok (.iinc 4 1, 3) := by decide +kernel
theorem dX8_must_89 : decode cX8_must 89 = .ok (.goto (-31), 3) := by decide +kernel
theorem dX8_must_92 : decode cX8_must 92 = .ok (.iconst 0, 1) := by decide +kernel
theorem dX8_must_93 : decode cX8_must 93 = .ok (.istore 4, 2) := by decide +kernel
theorem dX8_must_95 : decode cX8_must 95 = .ok (.iload 4, 2) := by decide +kernel
theorem dX8_must_97 : decode cX8_must 97 = .ok (.iload_n 1, 1) := by decide +kernel
theorem dX8_must_98 : decode cX8_must 98 = .ok (.if_icmp .ge 15, 3) := by decide +kernel
theorem dX8_must_101 : decode cX8_must 101 = .ok (.aload_n 0, 1) := by decide +kernel
theorem dX8_must_102 : decode cX8_must 102 = .ok (.iload 4, 2) := by decide +kernel
theorem dX8_must_104 : decode cX8_must 104 = .ok (.invokevirtual 519, 3) := by decide +kernel
theorem dX8_must_107 : decode cX8_must 107 = .ok (.iinc 4 1, 3) := by decide +kernel
theorem dX8_must_110 : decode cX8_must 110 = .ok (.goto (-15), 3) := by decide +kernel
theorem dX8_must_113 : decode cX8_must 113 = .ok (.iconst 0, 1) := by decide +kernel
theorem dX8_must_114 : decode cX8_must 114 = .ok (.istore 4, 2) := by decide +kernel
theorem dX8_must_116 : decode cX8_must 116 = .ok (.iconst 0, 1) := by decide +kernel
theorem dX8_must_117 : decode cX8_must 117 = .ok (.istore 5, 2) := by decide +kernel
theorem dX8_must_119 : decode cX8_must 119 = .ok (.iload 5, 2) := by decide +kernel
theorem dX8_must_121 : decode cX8_must 121 = .ok (.bipush 24, 2) := by decide +kernel
theorem dX8_must_123 : decode cX8_must 123 = .ok (.if_icmp .ge 156, 3) := by decide +kernel
theorem dX8_must_126 : decode cX8_must 126 = .ok (.iload 5, 2) := by decide +kernel
theorem dX8_must_128 : decode cX8_must 128 = .ok (.invokestatic 473, 3) := by decide +kernel
theorem dX8_must_131 : decode cX8_must 131 = .ok (.ifCond .ne 6, 3) := by decide +kernel
theorem dX8_must_134 : decode cX8_must 134 = .ok (.goto 139, 3) := by decide +kernel
theorem dX8_must_137 : decode cX8_must 137 = .ok (.aload_n 0, 1) := by decide +kernel
theorem dX8_must_138 : decode cX8_must 138 = .ok (.iload_n 1, 1) := by decide +kernel
theorem dX8_must_139 : decode cX8_must 139 = .ok (.invokevirtual 496, 3) := by decide +kernel
theorem dX8_must_142 : decode cX8_must 142 = .ok (.ifCond .ne 52, 3) := by decide +kernel
theorem dX8_must_145 : decode cX8_must 145 = .ok (.aload_n 0, 1) := by decide +kernel
theorem dX8_must_146 : decode cX8_must 146 = .ok (.iload_n 1, 1) := by decide +kernel
theorem dX8_must_147 : decode cX8_must 147 = .ok (.invokevirtual 502, 3) := by decide +kernel
theorem dX8_must_150 : decode cX8_must 150 = .ok (.aload_n 0, 1) := by decide +kernel
theorem dX8_must_151 : decode cX8_must 151 = .ok (.iload_n 1, 1) := by decide +kernel
theorem dX8_must_152 : decode cX8_must 152 = .ok (.iload 5, 2) := by decide +kernel
theorem dX8_must_154 : decode cX8_must 154 = .ok (.iconst 0, 1) := by decide +kernel
theorem dX8_must_155 : decode cX8_must 155 = .ok (.iconst 0, 1) := by decide +kernel
theorem dX8_must_156 : decode cX8_must 156 = .ok (.iconst 0, 1) := by decide +kernel
theorem dX8_must_157 : decode cX8_must 157 = .ok (.invokevirtual 458, 3) := by decide +kernel
theorem dX8_must_160 : decode cX8_must 160 = .ok (.ifCond .eq 113, 3) := by decide +kernel
theorem dX8_must_163 : decode cX8_must 163 = .ok (.aload_n 0, 1) := by decide +kernel
theorem dX8_must_164 : decode cX8_must 164 = .ok (.iload_n 1, 1) := by decide +kernel
theorem dX8_must_165 : decode cX8_must 165 = .ok (.iload 5, 2) := by decide +kernel
theorem dX8_must_167 : decode cX8_must 167 = .ok (.iload_n 2, 1) := by decide +kernel
theorem dX8_must_168 : decode cX8_must 168 = .ok (.iload_n 3, 1) := by decide +kernel
theorem dX8_must_169 : decode cX8_must 169 = .ok (.invokevirtual 522, 3) := by decide +kernel
theorem dX8_must_172 : decode cX8_must 172 = .ok (.ifCond .eq 101, 3) := by decide +kernel
theorem dX8_must_175 : decode cX8_must 175 = .ok (.iload 4, 2) := by decide +kernel
theorem dX8_must_177 : decode cX8_must 177 = .ok (.iconst 1, 1) := by decide +kernel
theorem dX8_must_178 : decode cX8_must 178 = .ok (.aload_n 0, 1) := by decide +kernel
theorem dX8_must_179 : decode cX8_must 179 = .ok (.getfield 156, 3) := by decide +kernel
theorem dX8_must_182 : decode cX8_must 182 = .ok (.iconst 0, 1) := by decide +kernel
theorem dX8_must_183 : decode cX8_must 183 = .ok (.iaload, 1) := by decide +kernel
theorem dX8_must_184 : decode cX8_must 184 = .ok (.invokestatic 391, 3) := by decide +kernel
theorem dX8_must_187 : decode cX8_must 187 = .ok (.ishl, 1) := by decide +kernel
theorem dX8_must_188 : decode cX8_must 188 = .ok (.ior, 1) := by decide +kernel
theorem dX8_must_189 : decode cX8_must 189 = .ok (.istore 4, 2) := by decide +kernel
theorem dX8_must_191 : decode cX8_must 191 = .ok (.goto 82, 3) := by decide +kernel
theorem dX8_must_194 : decode cX8_must 194 = .ok (.aload_n 0, 1) := by decide +kernel
theorem dX8_must_195 : decode cX8_must 195 = .ok (.iconst 0, 1) := by decide +kernel
theorem dX8_must_196 : decode cX8_must 196 = .ok (.putfield 430, 3) := by decide +kernel
theorem dX8_must_199 : decode cX8_must 199 = .ok (.aload_n 0, 1) := by decide +kernel
theorem dX8_must_200 : decode cX8_must 200 = .ok (.aload_n 0, 1) := by decide +kernel
theorem dX8_must_201 : decode cX8_must 201 = .ok (.getfield 84, 3) := by decide +kernel
theorem dX8_must_204 : decode cX8_must 204 = .ok (.iconst 1, 1) := by decide +kernel
theorem dX8_must_205 : decode cX8_must 205 = .ok (.iaload, 1) := by decide +kernel
theorem dX8_must_206 : decode cX8_must 206 = .ok (.aload_n 0, 1) := by decide +kernel
theorem dX8_must_207 : decode cX8_must 207 = .ok (.getfield 90, 3) := by decide +kernel
theorem dX8_must_210 : decode cX8_must 210 = .ok (.iconst 1, 1) := by decide +kernel
theorem dX8_must_211 : decode cX8_must 211 = .ok (.iaload, 1) := by decide +kernel
theorem dX8_must_212 : decode cX8_must 212 = .ok (.invokevirtual 454, 3) := by decide +kernel
theorem dX8_must_215 : decode cX8_must 215 = .ok (.ifCond .eq 58, 3) := by decide +kernel
theorem dX8_must_218 : decode cX8_must 218 = .ok (.iload 4, 2) := by decide +kernel
theorem dX8_must_220 : decode cX8_must 220 = .ok (.aload_n 0, 1) := by decide +kernel
theorem dX8_must_221 : decode cX8_must 221 = .ok (.getfield 156, 3) := by decide +kernel
theorem dX8_must_224 : decode cX8_must 224 = .ok (.iconst 0, 1) := by decide +kernel
theorem dX8_must_225 : decode cX8_must 225 = .ok (.iaload, 1) := by decide +kernel
theorem dX8_must_226 : decode cX8_must 226 = .ok (.ishr, 1) := by decide +kernel
theorem dX8_must_227 : decode cX8_must 227 = .ok (.iconst 1, 1) := by decide +kernel
theorem dX8_must_228 : decode cX8_must 228 = .ok (.iand, 1) := by decide +kernel
theorem dX8_must_229 : decode cX8_must 229 = .ok (.ifCond .ne (-30), 3) := by decide +kernel
theorem dX8_must_232 : decode cX8_must 232 = .ok (.aload_n 0, 1) := by decide +kernel
theorem dX8_must_233 : decode cX8_must 233 = .ok (.iload_n 1, 1) := by decide +kernel
theorem dX8_must_234 : decode cX8_must 234 = .ok (.iload 5, 2) := by decide +kernel
theorem dX8_must_236 : decode cX8_must 236 = .ok (.iconst 0, 1) := by decide +kernel
theorem dX8_must_237 : decode cX8_must 237 = .ok (.iconst 0, 1) := by decide +kernel
theorem dX8_must_238 : decode cX8_must 238 = .ok (.iconst 0, 1) := by decide +kernel
theorem dX8_must_239 : decode cX8_must 239 = .ok (.invokevirtual 458, 3) := by decide +kernel
theorem dX8_must_242 : decode cX8_must 242 = .ok (.ifCond .eq (-43), 3) := by decide +kernel
theorem dX8_must_245 : decode cX8_must 245 = .ok (.aload_n 0, 1) := by decide +kernel
theorem dX8_must_246 : decode cX8_must 246 = .ok (.iload_n 1, 1) := by decide +kernel
theorem dX8_must_247 : decode cX8_must 247 = .ok (.iload 5, 2) := by decide +kernel
theorem dX8_must_249 : decode cX8_must 249 = .ok (.iload_n 2, 1) := by decide +kernel
theorem dX8_must_250 : decode cX8_must 250 = .ok (.iload_n 3, 1) := by decide +kernel
theorem dX8_must_251 : decode cX8_must 251 = .ok (.invokevirtual 522, 3) := by decide +kernel
theorem dX8_must_254 : decode cX8_must 254 = .ok (.ifCond .eq (-55), 3) := by decide +kernel
theorem dX8_must_257 : decode cX8_must 257 = .ok (.iload 4, 2) := by decide +kernel
theorem dX8_must_259 : decode cX8_must 259 = .ok (.iconst 1, 1) := by decide +kernel
theorem dX8_must_260 : decode cX8_must 260 = .ok (.aload_n 0, 1) := by decide +kernel
theorem dX8_must_261 : decode cX8_must 261 = .ok (.getfield 156, 3) := by decide +kernel
theorem dX8_must_264 : decode cX8_must 264 = .ok (.iconst 0, 1) := by decide +kernel
theorem dX8_must_265 : decode cX8_must 265 = .ok (.iaload, 1) := by decide +kernel
theorem dX8_must_266 : decode cX8_must 266 = .ok (.ishl, 1) := by decide +kernel
theorem dX8_must_267 : decode cX8_must 267 = .ok (.ior, 1) := by decide +kernel
theorem dX8_must_268 : decode cX8_must 268 = .ok (.istore 4, 2) := by decide +kernel
theorem dX8_must_270 : decode cX8_must 270 = .ok (.goto (-71), 3) := by decide +kernel
theorem dX8_must_273 : decode cX8_must 273 = .ok (.iinc 5 1, 3) := by decide +kernel
theorem dX8_must_276 : decode cX8_must 276 = .ok (.goto (-157), 3) := by decide +kernel
theorem dX8_must_279 : decode cX8_must 279 = .ok (.iload 4, 2) := by decide +kernel
theorem dX8_must_281 : decode cX8_must 281 = .ok (.ireturn, 1) := by decide +kernel
theorem dX8_isPins_0 : decode cX8_isPins 0 = .ok (.iload_n 1, 1) := by decide +kernel
theorem dX8_isPins_1 : decode cX8_isPins 1 = .ok (.i2l, 1) := by decide +kernel
theorem dX8_isPins_2 : decode cX8_isPins 2 = .ok (.iload_n 2, 1) := by decide +kernel
theorem dX8_isPins_3 : decode cX8_isPins 3 = .ok (.i2l, 1) := by decide +kernel
theorem dX8_isPins_4 : decode cX8_isPins 4 = .ok (.ldc2_w 526, 3) := by decide +kernel
theorem dX8_isPins_7 : decode cX8_isPins 7 = .ok (.invokestatic 223, 3) := by decide +kernel
theorem dX8_isPins_10 : decode cX8_isPins 10 = .ok (.ifCond .eq 18, 3) := by decide +kernel
theorem dX8_isPins_13 : decode cX8_isPins 13 = .ok (.iload_n 1, 1) := by decide +kernel
theorem dX8_isPins_14 : decode cX8_isPins 14 = .ok (.aload_n 0, 1) := by decide +kernel
theorem dX8_isPins_15 : decode cX8_isPins 15 = .ok (.getfield 84, 3) := by decide +kernel
theorem dX8_isPins_18 : decode cX8_isPins 18 = .ok (.iconst 1, 1) := by decide +kernel
theorem dX8_isPins_19 : decode cX8_isPins 19 = .ok (.iaload, 1) := by decide +kernel
theorem dX8_isPins_20 : decode cX8_isPins 20 = .ok (.ishr, 1) := by decide +kernel
theorem dX8_isPins_21 : decode cX8_isPins 21 = .ok (.ifCond .ne 7, 3) := by decide +kernel
theorem dX8_isPins_24 : decode cX8_isPins 24 = .ok (.iconst 1, 1) := by decide +kernel
theorem dX8_isPins_25 : decode cX8_isPins 25 = .ok (.goto 4, 3) := by decide +kernel
theorem dX8_isPins_28 : decode cX8_isPins 28 = .ok (.iconst 0, 1) := by decide +kernel
theorem dX8_isPins_29 : decode cX8_isPins 29 = .ok (.ireturn, 1) := by decide +kernel
theorem dX8_part_0 : decode cX8_part 0 = .ok (.iload_n 1, 1) := by decide +kernel
theorem dX8_part_1 : decode cX8_part 1 = .ok (.iload_n 1, 1) := by decide +kernel
theorem dX8_part_2 : decode cX8_part 2 = .ok (.ineg, 1) := by decide +kernel
theorem dX8_part_3 : decode cX8_part 3 = .ok (.iand, 1) := by decide +kernel
theorem dX8_part_4 : decode cX8_part 4 = .ok (.istore_n 2, 1) := by decide +kernel
theorem dX8_part_5 : decode cX8_part 5 = .ok (.iload_n 2, 1) := by decide +kernel
theorem dX8_part_6 : decode cX8_part 6 = .ok (.ifCond .eq 7, 3) := by decide +kernel
theorem dX8_part_9 : decode cX8_part 9 = .ok (.iconst 1, 1) := by decide +kernel
theorem dX8_part_10 : decode cX8_part 10 = .ok (.goto 4, 3) := by decide +kernel
theorem dX8_part_13 : decode cX8_part 13 = .ok (.iconst 0, 1) := by decide +kernel
theorem dX8_part_14 : decode cX8_part 14 = .ok (.istore_n 3, 1) := by decide +kernel
theorem dX8_part_15 : decode cX8_part 15 = .ok (.iload_n 3, 1) := by decide +kernel
theorem dX8_part_16 : decode cX8_part 16 = .ok (.ifCond .eq 99, 3) := by decide +kernel
theorem dX8_part_19 : decode cX8_part 19 = .ok (.iconst 0, 1) := by decide +kernel
theorem dX8_part_20 : decode cX8_part 20 = .ok (.istore_n 3, 1) := by decide +kernel
theorem dX8_part_21 : decode cX8_part 21 = .ok (.iconst 0, 1) := by decide +kernel
theorem dX8_part_22 : decode cX8_part 22 = .ok (.istore 4, 2) := by decide +kernel
theorem dX8_part_24 : decode cX8_part 24 = .ok (.iload 4, 2) := by decide +kernel
theorem dX8_part_26 : decode cX8_part 26 = .ok (.bipush 9, 2) := by decide +kernel
theorem dX8_part_28 : decode cX8_part 28 = .ok (.if_icmp .ge 84, 3) := by decide +kernel
theorem dX8_part_31 : decode cX8_part 31 = .ok (.iconst 0, 1) := by decide +kernel
theorem dX8_part_32 : decode cX8_part 32 = .ok (.istore 5, 2) := by decide +kernel
theorem dX8_part_34 : decode cX8_part 34 = .ok (.iload 5, 2) := by decide +kernel
theorem dX8_part_36 : decode cX8_part 36 = .ok (.bipush 9, 2) := by decide +kernel
theorem dX8_part_38 : decode cX8_part 38 = .ok (.if_icmp .ge 68, 3) := by decide +kernel
theorem dX8_part_41 : decode cX8_part 41 = .ok (.iload_n 2, 1) := by decide +kernel
theorem dX8_part_42 : decode cX8_part 42 = .ok (.iload 4, 2) := by decide +kernel
theorem dX8_part_44 : decode cX8_part 44 = .ok (.ishr, 1) := by decide +kernel
theorem dX8_part_45 : decode cX8_part 45 = .ok (.iconst 1, 1) := by decide +kernel
theorem dX8_part_46 : decode cX8_part 46 = .ok (.iand, 1) := by decide +kernel
theorem dX8_part_47 : decode cX8_part 47 = .ok (.ifCond .eq 53, 3) := by decide +kernel
theorem dX8_part_50 : decode cX8_part 50 = .ok (.iload_n 1, 1) := by decide +kernel
theorem dX8_part_51 : decode cX8_part 51 = .ok (.iload 5, 2) := by decide +kernel
theorem dX8_part_53 : decode cX8_part 53 = .ok (.ishr, 1) := by decide +kernel
theorem dX8_part_54 : decode cX8_part 54 = .ok (.iconst 1, 1) := by decide +kernel
theorem dX8_part_55 : decode cX8_part 55 = .ok (.iand, 1) := by decide +kernel
theorem dX8_part_56 : decode cX8_part 56 = .ok (.ifCond .eq 44, 3) := by decide +kernel
theorem dX8_part_59 : decode cX8_part 59 = .ok (.iload_n 2, 1) := by decide +kernel
theorem dX8_part_60 : decode cX8_part 60 = .ok (.iload 5, 2) := by decide +kernel
theorem dX8_part_62 : decode cX8_part 62 = .ok (.ishr, 1) := by decide +kernel
theorem dX8_part_63 : decode cX8_part 63 = .ok (.iconst 1, 1) := by decide +kernel
theorem dX8_part_64 : decode cX8_part 64 = .ok (.iand, 1) := by decide +kernel
theorem dX8_part_65 : decode cX8_part 65 = .ok (.iconst 1, 1) := by decide +kernel
theorem dX8_part_66 : decode cX8_part 66 = .ok (.if_icmp .eq 34, 3) := by decide +kernel
theorem dX8_part_69 : decode cX8_part 69 = .ok (.aload_n 0, 1) := by decide +kernel
theorem dX8_part_70 : decode cX8_part 70 = .ok (.getfield 117, 3) := by decide +kernel
theorem dX8_part_73 : decode cX8_part 73 = .ok (.bipush 81, 2) := by decide +kernel
theorem dX8_part_75 : decode cX8_part 75 = .ok (.bipush 9, 2) := by decide +kernel
theorem dX8_part_77 : decode cX8_part 77 = .ok (.iload 4, 2) := by decide +kernel
theorem dX8_part_79 : decode cX8_part 79 = .ok (.imul, 1) := by decide +kernel
theorem dX8_part_80 : decode cX8_part 80 = .ok (.iadd, 1) := by decide +kernel
theorem dX8_part_81 : decode cX8_part 81 = .ok (.iload 5, 2) := by decide +kernel
theorem dX8_part_83 : decode cX8_part 83 = .ok (.iadd, 1) := by decide +kernel
theorem dX8_part_84 : decode cX8_part 84 = .ok (.baload, 1) := by decide +kernel
theorem dX8_part_85 : decode cX8_part 85 = .ok (.ifCond .ne 6, 3) := by decide +kernel
theorem dX8_part_88 : decode cX8_part 88 = .ok (.goto 12, 3) := by decide +kernel
theorem dX8_part_91 : decode cX8_part 91 = .ok (.iload_n 2, 1) := by decide +kernel
theorem dX8_part_92 : decode cX8_part 92 = .ok (.iconst 1, 1) := by decide +kernel
theorem dX8_part_93 : decode cX8_part 93 = .ok (.iload 5, 2) := by decide +kernel
theorem dX8_part_95 : decode cX8_part 95 = .ok (.ishl, 1) := by decide +kernel
theorem dX8_part_96 : decode cX8_part 96 = .ok (.ior, 1) := by decide +kernel
theorem dX8_part_97 : decode cX8_part 97 = .ok (.istore_n 2, 1) := by decide +kernel
theorem dX8_part_98 : decode cX8_part 98 = .ok (.iconst 1, 1) := by decide +kernel
theorem dX8_part_99 : decode cX8_part 99 = .ok (.istore_n 3, 1) := by decide +kernel
theorem dX8_part_100 : decode cX8_part 100 = .ok (.iinc 5 1, 3) := by decide +kernel
theorem dX8_part_103 : decode cX8_part 103 = .ok (.goto (-69), 3) := by decide +kernel
theorem dX8_part_106 : decode cX8_part 106 = .ok (.iinc 4 1, 3) := by decide +kernel
theorem dX8_part_109 : decode cX8_part 109 = .ok (.goto (-85), 3) := by decide +kernel
theorem dX8_part_112 : decode cX8_part 112 = .ok (.goto (-97), 3) := by decide +kernel
theorem dX8_part_115 : decode cX8_part 115 = .ok (.iload_n 2, 1) := by decide +kernel
theorem dX8_part_116 : decode cX8_part 116 = .ok (.ireturn, 1) := by decide +kernel
theorem dX8_many_0 : decode cX8_many 0 = .ok (.iconst 0, 1) := by decide +kernel
theorem dX8_many_1 : decode cX8_many 1 = .ok (.istore_n 1, 1) := by decide +kernel
theorem dX8_many_2 : decode cX8_many 2 = .ok (.iload_n 0, 1) := by decide +kernel
theorem dX8_many_3 : decode cX8_many 3 = .ok (.istore_n 2, 1) := by decide +kernel
theorem dX8_many_4 : decode cX8_many 4 = .ok (.iload_n 2, 1) := by decide +kernel
theorem dX8_many_5 : decode cX8_many 5 = .ok (.ifCond .le 16, 3) := by decide +kernel
theorem dX8_many_8 : decode cX8_many 8 = .ok (.iload_n 1, 1) := by decide +kernel
theorem dX8_many_9 : decode cX8_many 9 = .ok (.iload_n 2, 1) := by decide +kernel
theorem dX8_many_10 : decode cX8_many 10 = .ok (.iconst 1, 1) := by decide +kernel
theorem dX8_many_11 : decode cX8_many 11 = .ok (.iand, 1) := by decide +kernel
theorem dX8_many_12 : decode cX8_many 12 = .ok (.iadd, 1) := by decide +kernel
theorem dX8_many_13 : decode cX8_many 13 = .ok (.istore_n 1, 1) := by decide +kernel
theorem dX8_many_14 : decode cX8_many 14 = .ok (.iload_n 2, 1) := by decide +kernel
theorem dX8_many_15 : decode cX8_many 15 = .ok (.iconst 1, 1) := by decide +kernel
theorem dX8_many_16 : decode cX8_many 16 = .ok (.ishr, 1) := by decide +kernel
theorem dX8_many_17 : decode cX8_many 17 = .ok (.istore_n 2, 1) := by decide +kernel
theorem dX8_many_18 : decode cX8_many 18 = .ok (.goto (-14), 3) := by decide +kernel
theorem dX8_many_21 : decode cX8_many 21 = .ok (.iload_n 1, 1) := by decide +kernel
theorem dX8_many_22 : decode cX8_many 22 = .ok (.ireturn, 1) := by decide +kernel
theorem dX8_falls_0 : decode cX8_falls 0 = .ok (.aload_n 0, 1) := by decide +kernel
theorem dX8_falls_1 : decode cX8_falls 1 = .ok (.iload_n 1, 1) := by decide +kernel
theorem dX8_falls_2 : decode cX8_falls 2 = .ok (.iconst 0, 1) := by decide +kernel
theorem dX8_falls_3 : decode cX8_falls 3 = .ok (.invokevirtual 528, 3) := by decide +kernel
theorem dX8_falls_6 : decode cX8_falls 6 = .ok (.ifCond .eq 12, 3) := by decide +kernel
theorem dX8_falls_9 : decode cX8_falls 9 = .ok (.aload_n 0, 1) := by decide +kernel
theorem dX8_falls_10 : decode cX8_falls 10 = .ok (.iload_n 2, 1) := by decide +kernel
theorem dX8_falls_11 : decode cX8_falls 11 = .ok (.iconst 1, 1) := by decide +kernel
theorem dX8_falls_12 : decode cX8_falls 12 = .ok (.invokevirtual 528, 3) := by decide +kernel
theorem dX8_falls_15 : decode cX8_falls 15 = .ok (.ifCond .ne 5, 3) := by decide +kernel
theorem dX8_falls_18 : decode cX8_falls 18 = .ok (.iconst (-1), 1) := by decide +kernel
theorem dX8_falls_19 : decode cX8_falls 19 = .ok (.ireturn, 1) := by decide +kernel
theorem dX8_falls_20 : decode cX8_falls 20 = .ok (.iload_n 2, 1) := by decide +kernel
theorem dX8_falls_21 : decode cX8_falls 21 = .ok (.iload_n 1, 1) := by decide +kernel
theorem dX8_falls_22 : decode cX8_falls 22 = .ok (.iconst (-1), 1) := by decide +kernel
theorem dX8_falls_23 : decode cX8_falls 23 = .ok (.ixor, 1) := by decide +kernel
theorem dX8_falls_24 : decode cX8_falls 24 = .ok (.iand, 1) := by decide +kernel
theorem dX8_falls_25 : decode cX8_falls 25 = .ok (.ifCond .ne 16, 3) := by decide +kernel
theorem dX8_falls_28 : decode cX8_falls 28 = .ok (.aload_n 0, 1) := by decide +kernel
theorem dX8_falls_29 : decode cX8_falls 29 = .ok (.iload_n 2, 1) := by decide +kernel
theorem dX8_falls_30 : decode cX8_falls 30 = .ok (.invokevirtual 531, 3) := by decide +kernel
theorem dX8_falls_33 : decode cX8_falls 33 = .ok (.iload_n 2, 1) := by decide +kernel
theorem dX8_falls_34 : decode cX8_falls 34 = .ok (.if_icmp .ne 7, 3) := by decide +kernel
theorem dX8_falls_37 : decode cX8_falls 37 = .ok (.iconst 1, 1) := by decide +kernel
theorem dX8_falls_38 : decode cX8_falls 38 = .ok (.goto 4, 3) := by decide +kernel
theorem dX8_falls_41 : decode cX8_falls 41 = .ok (.iconst 0, 1) := by decide +kernel
theorem dX8_falls_42 : decode cX8_falls 42 = .ok (.ireturn, 1) := by decide +kernel
theorem dX8_split_0 : decode cX8_split 0 = .ok (.aload_n 0, 1) := by decide +kernel
theorem dX8_split_1 : decode cX8_split 1 = .ok (.iload_n 1, 1) := by decide +kernel
theorem dX8_split_2 : decode cX8_split 2 = .ok (.iconst 0, 1) := by decide +kernel
theorem dX8_split_3 : decode cX8_split 3 = .ok (.invokevirtual 528, 3) := by decide +kernel
theorem dX8_split_6 : decode cX8_split 6 = .ok (.ifCond .ne 5, 3) := by decide +kernel
theorem dX8_split_9 : decode cX8_split 9 = .ok (.iconst (-1), 1) := by decide +kernel
theorem dX8_split_10 : decode cX8_split 10 = .ok (.ireturn, 1) := by decide +kernel
theorem dX8_split_11 : decode cX8_split 11 = .ok (.iload_n 1, 1) := by decide +kernel
theorem dX8_split_12 : decode cX8_split 12 = .ok (.invokestatic 534, 3) := by decide +kernel
theorem dX8_split_15 : decode cX8_split 15 = .ok (.iconst 1, 1) := by decide +kernel
theorem dX8_split_16 : decode cX8_split 16 = .ok (.if_icmp .le 16, 3) := by decide +kernel
theorem dX8_split_19 : decode cX8_split 19 = .ok (.aload_n 0, 1) := by decide +kernel
theorem dX8_split_20 : decode cX8_split 20 = .ok (.iload_n 1, 1) := by decide +kernel
theorem dX8_split_21 : decode cX8_split 21 = .ok (.invokevirtual 531, 3) := by decide +kernel
theorem dX8_split_24 : decode cX8_split 24 = .ok (.iload_n 1, 1) := by decide +kernel
theorem dX8_split_25 : decode cX8_split 25 = .ok (.if_icmp .eq 7, 3) := by decide +kernel
theorem dX8_split_28 : decode cX8_split 28 = .ok (.iconst 1, 1) := by decide +kernel
theorem dX8_split_29 : decode cX8_split 29 = .ok (.goto 4, 3) := by decide +kernel
theorem dX8_split_32 : decode cX8_split 32 = .ok (.iconst 0, 1) := by decide +kernel
theorem dX8_split_33 : decode cX8_split 33 = .ok (.ireturn, 1) := by decide +kernel
theorem dX8_fewest_0 : decode cX8_fewest 0 = .ok (.aload_n 0, 1) := by decide +kernel
theorem dX8_fewest_1 : decode cX8_fewest 1 = .ok (.iload_n 1, 1) := by decide +kernel
theorem dX8_fewest_2 : decode cX8_fewest 2 = .ok (.iconst 0, 1) := by decide +kernel
theorem dX8_fewest_3 : decode cX8_fewest 3 = .ok (.invokevirtual 528, 3) := by decide +kernel
theorem dX8_fewest_6 : decode cX8_fewest 6 = .ok (.ifCond .ne 5, 3) := by decide +kernel
theorem dX8_fewest_9 : decode cX8_fewest 9 = .ok (.iconst (-1), 1) := by decide +kernel
theorem dX8_fewest_10 : decode cX8_fewest 10 = .ok (.ireturn, 1) := by decide +kernel
theorem dX8_fewest_11 : decode cX8_fewest 11 = .ok (.iconst 0, 1) := by decide +kernel
theorem dX8_fewest_12 : decode cX8_fewest 12 = .ok (.istore_n 2, 1) := by decide +kernel
theorem dX8_fewest_13 : decode cX8_fewest 13 = .ok (.iload_n 1, 1) := by decide +kernel
theorem dX8_fewest_14 : decode cX8_fewest 14 = .ok (.istore_n 3, 1) := by decide +kernel
theorem dX8_fewest_15 : decode cX8_fewest 15 = .ok (.iload_n 3, 1) := by decide +kernel
theorem dX8_fewest_16 : decode cX8_fewest 16 = .ok (.ifCond .eq 19, 3) := by decide +kernel
theorem dX8_fewest_19 : decode cX8_fewest 19 = .ok (.iinc 2 1, 3) := by decide +kernel
theorem dX8_fewest_22 : decode cX8_fewest 22 = .ok (.iload_n 3, 1) := by decide +kernel
theorem dX8_fewest_23 : decode cX8_fewest 23 = .ok (.aload_n 0, 1) := by decide +kernel
theorem dX8_fewest_24 : decode cX8_fewest 24 = .ok (.iload_n 3, 1) := by decide +kernel
theorem dX8_fewest_25 : decode cX8_fewest 25 = .ok (.invokevirtual 531, 3) := by decide +kernel
theorem dX8_fewest_28 : decode cX8_fewest 28 = .ok (.iconst (-1), 1) := by decide +kernel
theorem dX8_fewest_29 : decode cX8_fewest 29 = .ok (.ixor, 1) := by decide +kernel
theorem dX8_fewest_30 : decode cX8_fewest 30 = .ok (.iand, 1) := by decide +kernel
theorem dX8_fewest_31 : decode cX8_fewest 31 = .ok (.istore_n 3, 1) := by decide +kernel
theorem dX8_fewest_32 : decode cX8_fewest 32 = .ok (.goto (-17), 3) := by decide +kernel
theorem dX8_fewest_35 : decode cX8_fewest 35 = .ok (.iload_n 2, 1) := by decide +kernel
theorem dX8_fewest_36 : decode cX8_fewest 36 = .ok (.ireturn, 1) := by decide +kernel
theorem dX8_leaves_0 : decode cX8_leaves 0 = .ok (.aload_n 0, 1) := by decide +kernel
theorem dX8_leaves_1 : decode cX8_leaves 1 = .ok (.iload_n 1, 1) := by decide +kernel
theorem dX8_leaves_2 : decode cX8_leaves 2 = .ok (.iconst 0, 1) := by decide +kernel
theorem dX8_leaves_3 : decode cX8_leaves 3 = .ok (.invokevirtual 528, 3) := by decide +kernel
theorem dX8_leaves_6 : decode cX8_leaves 6 = .ok (.ifCond .ne 5, 3) := by decide +kernel
theorem dX8_leaves_9 : decode cX8_leaves 9 = .ok (.iconst (-1), 1) := by decide +kernel
theorem dX8_leaves_10 : decode cX8_leaves 10 = .ok (.ireturn, 1) := by decide +kernel
theorem dX8_leaves_11 : decode cX8_leaves 11 = .ok (.iconst 0, 1) := by decide +kernel
theorem dX8_leaves_12 : decode cX8_leaves 12 = .ok (.istore_n 2, 1) := by decide +kernel
theorem dX8_leaves_13 : decode cX8_leaves 13 = .ok (.iconst 1, 1) := by decide +kernel
theorem dX8_leaves_14 : decode cX8_leaves 14 = .ok (.istore_n 3, 1) := by decide +kernel
theorem dX8_leaves_15 : decode cX8_leaves 15 = .ok (.iload_n 3, 1) := by decide +kernel
theorem dX8_leaves_16 : decode cX8_leaves 16 = .ok (.iload_n 1, 1) := by decide +kernel
theorem dX8_leaves_17 : decode cX8_leaves 17 = .ok (.if_icmp .gt 29, 3) := by decide +kernel
theorem dX8_leaves_20 : decode cX8_leaves 20 = .ok (.iload_n 3, 1) := by decide +kernel
theorem dX8_leaves_21 : decode cX8_leaves 21 = .ok (.iload_n 1, 1) := by decide +kernel
theorem dX8_leaves_22 : decode cX8_leaves 22 = .ok (.iconst (-1), 1) := by decide +kernel
theorem dX8_leaves_23 : decode cX8_leaves 23 = .ok (.ixor, 1) := by decide +kernel
theorem dX8_leaves_24 : decode cX8_leaves 24 = .ok (.iand, 1) := by decide +kernel
theorem dX8_leaves_25 : decode cX8_leaves 25 = .ok (.ifCond .ne 15, 3) := by decide +kernel
theorem dX8_leaves_28 : decode cX8_leaves 28 = .ok (.aload_n 0, 1) := by decide +kernel
theorem dX8_leaves_29 : decode cX8_leaves 29 = .ok (.iload_n 3, 1) := by decide +kernel
theorem dX8_leaves_30 : decode cX8_leaves 30 = .ok (.invokevirtual 531, 3) := by decide +kernel
theorem dX8_leaves_33 : decode cX8_leaves 33 = .ok (.iload_n 3, 1) := by decide +kernel
theorem dX8_leaves_34 : decode cX8_leaves 34 = .ok (.if_icmp .ne 6, 3) := by decide +kernel
theorem dX8_leaves_37 : decode cX8_leaves 37 = .ok (.iinc 2 1, 3) := by decide +kernel
theorem dX8_leaves_40 : decode cX8_leaves 40 = .ok (.iinc 3 1, 3) := by decide +kernel
theorem dX8_leaves_43 : decode cX8_leaves 43 = .ok (.goto (-28), 3) := by decide +kernel
theorem dX8_leaves_46 : decode cX8_leaves 46 = .ok (.iload_n 2, 1) := by decide +kernel
theorem dX8_leaves_47 : decode cX8_leaves 47 = .ok (.ireturn, 1) := by decide +kernel
theorem dX8_isPlayer_0 : decode cX8_isPlayer 0 = .ok (.iload_n 0, 1) := by decide +kernel
theorem dX8_isPlayer_1 : decode cX8_isPlayer 1 = .ok (.i2l, 1) := by decide +kernel
theorem dX8_isPlayer_2 : decode cX8_isPlayer 2 = .ok (.lconst 0, 1) := by decide +kernel
theorem dX8_isPlayer_3 : decode cX8_isPlayer 3 = .ok (.ldc2_w 537, 3) := by decide +kernel
theorem dX8_isPlayer_6 : decode cX8_isPlayer 6 = .ok (.invokestatic 223, 3) := by decide +kernel
theorem dX8_isPlayer_9 : decode cX8_isPlayer 9 = .ok (.ireturn, 1) := by decide +kernel
theorem dX8_keep_0 : decode cX8_keep 0 = .ok (.aload_n 0, 1) := by decide +kernel
theorem dX8_keep_1 : decode cX8_keep 1 = .ok (.invokevirtual 410, 3) := by decide +kernel
theorem dX8_keep_4 : decode cX8_keep 4 = .ok (.iload_n 1, 1) := by decide +kernel
theorem dX8_keep_5 : decode cX8_keep 5 = .ok (.invokestatic 539, 3) := by decide +kernel
theorem dX8_keep_8 : decode cX8_keep 8 = .ok (.ifCond .eq 21, 3) := by decide +kernel
theorem dX8_keep_11 : decode cX8_keep 11 = .ok (.aload_n 0, 1) := by decide +kernel
theorem dX8_keep_12 : decode cX8_keep 12 = .ok (.getfield 404, 3) := by decide +kernel
theorem dX8_keep_15 : decode cX8_keep 15 = .ok (.ifCond .eq 14, 3) := by decide +kernel
theorem dX8_keep_18 : decode cX8_keep 18 = .ok (.aload_n 0, 1) := by decide +kernel
theorem dX8_keep_19 : decode cX8_keep 19 = .ok (.getfield 168, 3) := by decide +kernel
theorem dX8_keep_22 : decode cX8_keep 22 = .ok (.iload_n 1, 1) := by decide +kernel
theorem dX8_keep_23 : decode cX8_keep 23 = .ok (.iaload, 1) := by decide +kernel
theorem dX8_keep_24 : decode cX8_keep 24 = .ok (.bipush 10, 2) := by decide +kernel
theorem dX8_keep_26 : decode cX8_keep 26 = .ok (.if_icmp .ne 5, 3) := by decide +kernel
theorem dX8_keep_29 : decode cX8_keep 29 = .ok (.iconst (-1), 1) := by decide +kernel
theorem dX8_keep_30 : decode cX8_keep 30 = .ok (.ireturn, 1) := by decide +kernel
theorem dX8_keep_31 : decode cX8_keep 31 = .ok (.aload_n 0, 1) := by decide +kernel
theorem dX8_keep_32 : decode cX8_keep 32 = .ok (.getfield 171, 3) := by decide +kernel
theorem dX8_keep_35 : decode cX8_keep 35 = .ok (.bipush 10, 2) := by decide +kernel
theorem dX8_keep_37 : decode cX8_keep 37 = .ok (.iload_n 1, 1) := by decide +kernel
theorem dX8_keep_38 : decode cX8_keep 38 = .ok (.imul, 1) := by decide +kernel
theorem dX8_keep_39 : decode cX8_keep 39 = .ok (.aload_n 0, 1) := by decide +kernel
theorem dX8_keep_40 : decode cX8_keep 40 = .ok (.getfield 168, 3) := by decide +kernel
theorem dX8_keep_43 : decode cX8_keep 43 = .ok (.iload_n 1, 1) := by decide +kernel
theorem dX8_keep_44 : decode cX8_keep 44 = .ok (.iaload, 1) := by decide +kernel
theorem dX8_keep_45 : decode cX8_keep 45 = .ok (.iadd, 1) := by decide +kernel
theorem dX8_keep_46 : decode cX8_keep 46 = .ok (.aload_n 0, 1) := by decide +kernel
theorem dX8_keep_47 : decode cX8_keep 47 = .ok (.invokevirtual 421, 3) := by decide +kernel
theorem dX8_keep_50 : decode cX8_keep 50 = .ok (.iastore, 1) := by decide +kernel
theorem dX8_keep_51 : decode cX8_keep 51 = .ok (.aload_n 0, 1) := by decide +kernel
theorem dX8_keep_52 : decode cX8_keep 52 = .ok (.getfield 168, 3) := by decide +kernel
theorem dX8_keep_55 : decode cX8_keep 55 = .ok (.iload_n 1, 1) := by decide +kernel
theorem dX8_keep_56 : decode cX8_keep 56 = .ok (.dup2, 1) := by decide +kernel
theorem dX8_keep_57 : decode cX8_keep 57 = .ok (.iaload, 1) := by decide +kernel
theorem dX8_keep_58 : decode cX8_keep 58 = .ok (.iconst 1, 1) := by decide +kernel
theorem dX8_keep_59 : decode cX8_keep 59 = .ok (.iadd, 1) := by decide +kernel
theorem dX8_keep_60 : decode cX8_keep 60 = .ok (.iastore, 1) := by decide +kernel
theorem dX8_keep_61 : decode cX8_keep 61 = .ok (.aload_n 0, 1) := by decide +kernel
theorem dX8_keep_62 : decode cX8_keep 62 = .ok (.getfield 168, 3) := by decide +kernel
theorem dX8_keep_65 : decode cX8_keep 65 = .ok (.iload_n 1, 1) := by decide +kernel
theorem dX8_keep_66 : decode cX8_keep 66 = .ok (.iaload, 1) := by decide +kernel
theorem dX8_keep_67 : decode cX8_keep 67 = .ok (.ireturn, 1) := by decide +kernel
theorem dX8_sumOf_0 : decode cX8_sumOf 0 = .ok (.iconst 0, 1) := by decide +kernel
theorem dX8_sumOf_1 : decode cX8_sumOf 1 = .ok (.istore_n 2, 1) := by decide +kernel
theorem dX8_sumOf_2 : decode cX8_sumOf 2 = .ok (.iconst 0, 1) := by decide +kernel
theorem dX8_sumOf_3 : decode cX8_sumOf 3 = .ok (.istore_n 3, 1) := by decide +kernel
theorem dX8_sumOf_4 : decode cX8_sumOf 4 = .ok (.iload_n 3, 1) := by decide +kernel
theorem dX8_sumOf_5 : decode cX8_sumOf 5 = .ok (.aload_n 0, 1) := by decide +kernel
theorem dX8_sumOf_6 : decode cX8_sumOf 6 = .ok (.getfield 168, 3) := by decide +kernel
theorem dX8_sumOf_9 : decode cX8_sumOf 9 = .ok (.iload_n 1, 1) := by decide +kernel
theorem dX8_sumOf_10 : decode cX8_sumOf 10 = .ok (.iaload, 1) := by decide +kernel
theorem dX8_sumOf_11 : decode cX8_sumOf 11 = .ok (.if_icmp .ge 23, 3) := by decide +kernel
theorem dX8_sumOf_14 : decode cX8_sumOf 14 = .ok (.iload_n 2, 1) := by decide +kernel
theorem dX8_sumOf_15 : decode cX8_sumOf 15 = .ok (.aload_n 0, 1) := by decide +kernel
theorem dX8_sumOf_16 : decode cX8_sumOf 16 = .ok (.getfield 171, 3) := by decide +kernel
theorem dX8_sumOf_19 : decode cX8_sumOf 19 = .ok (.bipush 10, 2) := by decide +kernel
theorem dX8_sumOf_21 : decode cX8_sumOf 21 = .ok (.iload_n 1, 1) := by decide +kernel
theorem dX8_sumOf_22 : decode cX8_sumOf 22 = .ok (.imul, 1) := by decide +kernel
theorem dX8_sumOf_23 : decode cX8_sumOf 23 = .ok (.iload_n 3, 1) := by decide +kernel
theorem dX8_sumOf_24 : decode cX8_sumOf 24 = .ok (.iadd, 1) := by decide +kernel
theorem dX8_sumOf_25 : decode cX8_sumOf 25 = .ok (.iaload, 1) := by decide +kernel
theorem dX8_sumOf_26 : decode cX8_sumOf 26 = .ok (.iadd, 1) := by decide +kernel
theorem dX8_sumOf_27 : decode cX8_sumOf 27 = .ok (.istore_n 2, 1) := by decide +kernel
theorem dX8_sumOf_28 : decode cX8_sumOf 28 = .ok (.iinc 3 1, 3) := by decide +kernel
theorem dX8_sumOf_31 : decode cX8_sumOf 31 = .ok (.goto (-27), 3) := by decide +kernel
theorem dX8_sumOf_34 : decode cX8_sumOf 34 = .ok (.iload_n 2, 1) := by decide +kernel
theorem dX8_sumOf_35 : decode cX8_sumOf 35 = .ok (.ireturn, 1) := by decide +kernel
theorem dX8_meanOf_0 : decode cX8_meanOf 0 = .ok (.aload_n 0, 1) := by decide +kernel
theorem dX8_meanOf_1 : decode cX8_meanOf 1 = .ok (.getfield 168, 3) := by decide +kernel
theorem dX8_meanOf_4 : decode cX8_meanOf 4 = .ok (.iload_n 1, 1) := by decide +kernel
theorem dX8_meanOf_5 : decode cX8_meanOf 5 = .ok (.iaload, 1) := by decide +kernel
theorem dX8_meanOf_6 : decode cX8_meanOf 6 = .ok (.ifCond .ne 5, 3) := by decide +kernel
theorem dX8_meanOf_9 : decode cX8_meanOf 9 = .ok (.iconst 0, 1) := by decide +kernel
theorem dX8_meanOf_10 : decode cX8_meanOf 10 = .ok (.ireturn, 1) := by decide +kernel
theorem dX8_meanOf_11 : decode cX8_meanOf 11 = .ok (.aload_n 0, 1) := by decide +kernel
theorem dX8_meanOf_12 : decode cX8_meanOf 12 = .ok (.iload_n 1, 1) := by decide +kernel
theorem dX8_meanOf_13 : decode cX8_meanOf 13 = .ok (.invokevirtual 542, 3) := by decide +kernel
theorem dX8_meanOf_16 : decode cX8_meanOf 16 = .ok (.istore_n 2, 1) := by decide +kernel
theorem dX8_meanOf_17 : decode cX8_meanOf 17 = .ok (.iload_n 2, 1) := by decide +kernel
theorem dX8_meanOf_18 : decode cX8_meanOf 18 = .ok (.aload_n 0, 1) := by decide +kernel
theorem dX8_meanOf_19 : decode cX8_meanOf 19 = .ok (.getfield 168, 3) := by decide +kernel
theorem dX8_meanOf_22 : decode cX8_meanOf 22 = .ok (.iload_n 1, 1) := by decide +kernel
theorem dX8_meanOf_23 : decode cX8_meanOf 23 = .ok (.iaload, 1) := by decide +kernel
theorem dX8_meanOf_24 : decode cX8_meanOf 24 = .ok (.idiv, 1) := by decide +kernel
theorem dX8_meanOf_25 : decode cX8_meanOf 25 = .ok (.istore_n 3, 1) := by decide +kernel
theorem dX8_meanOf_26 : decode cX8_meanOf 26 = .ok (.iload_n 3, 1) := by decide +kernel
theorem dX8_meanOf_27 : decode cX8_meanOf 27 = .ok (.aload_n 0, 1) := by decide +kernel
theorem dX8_meanOf_28 : decode cX8_meanOf 28 = .ok (.getfield 168, 3) := by decide +kernel
theorem dX8_meanOf_31 : decode cX8_meanOf 31 = .ok (.iload_n 1, 1) := by decide +kernel
theorem dX8_meanOf_32 : decode cX8_meanOf 32 = .ok (.iaload, 1) := by decide +kernel
theorem dX8_meanOf_33 : decode cX8_meanOf 33 = .ok (.imul, 1) := by decide +kernel
theorem dX8_meanOf_34 : decode cX8_meanOf 34 = .ok (.iload_n 2, 1) := by decide +kernel
theorem dX8_meanOf_35 : decode cX8_meanOf 35 = .ok (.if_icmp .le 9, 3) := by decide +kernel
theorem dX8_meanOf_38 : decode cX8_meanOf 38 = .ok (.iload_n 3, 1) := by decide +kernel
theorem dX8_meanOf_39 : decode cX8_meanOf 39 = .ok (.iconst 1, 1) := by decide +kernel
theorem dX8_meanOf_40 : decode cX8_meanOf 40 = .ok (.isub, 1) := by decide +kernel
theorem dX8_meanOf_41 : decode cX8_meanOf 41 = .ok (.goto 4, 3) := by decide +kernel
theorem dX8_meanOf_44 : decode cX8_meanOf 44 = .ok (.iload_n 3, 1) := by decide +kernel
theorem dX8_meanOf_45 : decode cX8_meanOf 45 = .ok (.ireturn, 1) := by decide +kernel
theorem dX8_handicapOf_0 : decode cX8_handicapOf 0 = .ok (.aload_n 0, 1) := by decide +kernel
theorem dX8_handicapOf_1 : decode cX8_handicapOf 1 = .ok (.iconst 0, 1) := by decide +kernel
theorem dX8_handicapOf_2 : decode cX8_handicapOf 2 = .ok (.putfield 356, 3) := by decide +kernel
theorem dX8_handicapOf_5 : decode cX8_handicapOf 5 = .ok (.aload_n 0, 1) := by decide +kernel
theorem dX8_handicapOf_6 : decode cX8_handicapOf 6 = .ok (.iconst 0, 1) := by decide +kernel
theorem dX8_handicapOf_7 : decode cX8_handicapOf 7 = .ok (.putfield 359, 3) := by decide +kernel
theorem dX8_handicapOf_10 : decode cX8_handicapOf 10 = .ok (.aload_n 0, 1) := by decide +kernel
theorem dX8_handicapOf_11 : decode cX8_handicapOf 11 = .ok (.iconst 0, 1) := by decide +kernel
theorem dX8_handicapOf_12 : decode cX8_handicapOf 12 = .ok (.putfield 362, 3) := by decide +kernel
theorem dX8_handicapOf_15 : decode cX8_handicapOf 15 = .ok (.aload_n 0, 1) := by decide +kernel
theorem dX8_handicapOf_16 : decode cX8_handicapOf 16 = .ok (.iconst 0, 1) := by decide +kernel
theorem dX8_handicapOf_17 : decode cX8_handicapOf 17 = .ok (.putfield 365, 3) := by decide +kernel
theorem dX8_handicapOf_20 : decode cX8_handicapOf 20 = .ok (.aload_n 0, 1) := by decide +kernel
theorem dX8_handicapOf_21 : decode cX8_handicapOf 21 = .ok (.aload_n 0, 1) := by decide +kernel
theorem dX8_handicapOf_22 : decode cX8_handicapOf 22 = .ok (.iload_n 1, 1) := by decide +kernel
theorem dX8_handicapOf_23 : decode cX8_handicapOf 23 = .ok (.invokevirtual 545, 3) := by decide +kernel
theorem dX8_handicapOf_26 : decode cX8_handicapOf 26 = .ok (.putfield 368, 3) := by decide +kernel
theorem dX8_handicapOf_29 : decode cX8_handicapOf 29 = .ok (.aload_n 0, 1) := by decide +kernel
theorem dX8_handicapOf_30 : decode cX8_handicapOf 30 = .ok (.aload_n 0, 1) := by decide +kernel
theorem dX8_handicapOf_31 : decode cX8_handicapOf 31 = .ok (.getfield 168, 3) := by decide +kernel
theorem dX8_handicapOf_34 : decode cX8_handicapOf 34 = .ok (.iload_n 1, 1) := by decide +kernel
theorem dX8_handicapOf_35 : decode cX8_handicapOf 35 = .ok (.iaload, 1) := by decide +kernel
theorem dX8_handicapOf_36 : decode cX8_handicapOf 36 = .ok (.putfield 371, 3) := by decide +kernel
theorem dX8_handicapOf_39 : decode cX8_handicapOf 39 = .ok (.aload_n 0, 1) := by decide +kernel
theorem dX8_handicapOf_40 : decode cX8_handicapOf 40 = .ok (.getfield 111, 3) := by decide +kernel
theorem dX8_handicapOf_43 : decode cX8_handicapOf 43 = .ok (.iconst 1, 1) := by decide +kernel
theorem dX8_handicapOf_44 : decode cX8_handicapOf 44 = .ok (.iaload, 1) := by decide +kernel
theorem dX8_handicapOf_45 : decode cX8_handicapOf 45 = .ok (.aload_n 0, 1) := by decide +kernel
theorem dX8_handicapOf_46 : decode cX8_handicapOf 46 = .ok (.getfield 114, 3) := by decide +kernel
theorem dX8_handicapOf_49 : decode cX8_handicapOf 49 = .ok (.iconst 1, 1) := by decide +kernel
theorem dX8_handicapOf_50 : decode cX8_handicapOf 50 = .ok (.iaload, 1) := by decide +kernel
theorem dX8_handicapOf_51 : decode cX8_handicapOf 51 = .ok (.if_icmp .ne 5, 3) := by decide +kernel
theorem dX8_handicapOf_54 : decode cX8_handicapOf 54 = .ok (.iconst 0, 1) := by decide +kernel
theorem dX8_handicapOf_55 : decode cX8_handicapOf 55 = .ok (.ireturn, 1) := by decide +kernel
theorem dX8_handicapOf_56 : decode cX8_handicapOf 56 = .ok (.aload_n 0, 1) := by decide +kernel
theorem dX8_handicapOf_57 : decode cX8_handicapOf 57 = .ok (.aload_n 0, 1) := by decide +kernel
theorem dX8_handicapOf_58 : decode cX8_handicapOf 58 = .ok (.getfield 111, 3) := by decide +kernel
theorem dX8_handicapOf_61 : decode cX8_handicapOf 61 = .ok (.iconst 1, 1) := by decide +kernel
theorem dX8_handicapOf_62 : decode cX8_handicapOf 62 = .ok (.iaload, 1) := by decide +kernel
theorem dX8_handicapOf_63 : decode cX8_handicapOf 63 = .ok (.aload_n 0, 1) := by decide +kernel
theorem dX8_handicapOf_64 : decode cX8_handicapOf 64 = .ok (.getfield 114, 3) := by decide +kernel
theorem dX8_handicapOf_67 : decode cX8_handicapOf 67 = .ok (.iconst 1, 1) := by decide +kernel
theorem dX8_handicapOf_68 : decode cX8_handicapOf 68 = .ok (.iaload, 1) := by decide +kernel
theorem dX8_handicapOf_69 : decode cX8_handicapOf 69 = .ok (.invokevirtual 377, 3) := by decide +kernel
theorem dX8_handicapOf_72 : decode cX8_handicapOf 72 = .ok (.lstore_n 2, 1) := by decide +kernel
theorem dX8_handicapOf_73 : decode cX8_handicapOf 73 = .ok (.lload_n 2, 1) := by decide +kernel
theorem dX8_handicapOf_74 : decode cX8_handicapOf 74 = .ok (.lconst 0, 1) := by decide +kernel
theorem dX8_handicapOf_75 : decode cX8_handicapOf 75 = .ok (.lcmp, 1) := by decide +kernel
theorem dX8_handicapOf_76 : decode cX8_handicapOf 76 = .ok (.ifCond .ge 7, 3) := by decide +kernel
theorem dX8_handicapOf_79 : decode cX8_handicapOf 79 = .ok (.iconst 0, 1) := by decide +kernel
theorem dX8_handicapOf_80 : decode cX8_handicapOf 80 = .ok (.goto 18, 3) := by decide +kernel
theorem dX8_handicapOf_83 : decode cX8_handicapOf 83 = .ok (.lload_n 2, 1) := by decide +kernel
theorem dX8_handicapOf_84 : decode cX8_handicapOf 84 = .ok (.ldc2_w 548, 3) := by decide +kernel
theorem dX8_handicapOf_87 : decode cX8_handicapOf 87 = .ok (.lcmp, 1) := by decide +kernel
theorem dX8_handicapOf_88 : decode cX8_handicapOf 88 = .ok (.ifCond .le 8, 3) := by decide +kernel
theorem dX8_handicapOf_91 : decode cX8_handicapOf 91 = .ok (.bipush 99, 2) := by decide +kernel
theorem dX8_handicapOf_93 : decode cX8_handicapOf 93 = .ok (.goto 5, 3) := by decide +kernel
theorem dX8_handicapOf_96 : decode cX8_handicapOf 96 = .ok (.lload_n 2, 1) := by decide +kernel
theorem dX8_handicapOf_97 : decode cX8_handicapOf 97 = .ok (.l2i, 1) := by decide +kernel
theorem dX8_handicapOf_98 : decode cX8_handicapOf 98 = .ok (.ireturn, 1) := by decide +kernel
theorem dX8_meets_0 : decode cX8_meets 0 = .ok (.aload_n 0, 1) := by decide +kernel
theorem dX8_meets_1 : decode cX8_meets 1 = .ok (.iload_n 1, 1) := by decide +kernel
theorem dX8_meets_2 : decode cX8_meets 2 = .ok (.invokevirtual 550, 3) := by decide +kernel
theorem dX8_meets_5 : decode cX8_meets 5 = .ok (.istore_n 3, 1) := by decide +kernel
theorem dX8_meets_6 : decode cX8_meets 6 = .ok (.aload_n 0, 1) := by decide +kernel
theorem dX8_meets_7 : decode cX8_meets 7 = .ok (.iload_n 2, 1) := by decide +kernel
theorem dX8_meets_8 : decode cX8_meets 8 = .ok (.invokevirtual 550, 3) := by decide +kernel
theorem dX8_meets_11 : decode cX8_meets 11 = .ok (.istore 4, 2) := by decide +kernel
theorem dX8_meets_13 : decode cX8_meets 13 = .ok (.iconst 0, 1) := by decide +kernel
theorem dX8_meets_14 : decode cX8_meets 14 = .ok (.istore 5, 2) := by decide +kernel
theorem dX8_meets_16 : decode cX8_meets 16 = .ok (.iconst 0, 1) := by decide +kernel
theorem dX8_meets_17 : decode cX8_meets 17 = .ok (.istore 6, 2) := by decide +kernel
theorem dX8_meets_19 : decode cX8_meets 19 = .ok (.iload 6, 2) := by decide +kernel
theorem dX8_meets_21 : decode cX8_meets 21 = .ok (.aload_n 0, 1) := by decide +kernel
theorem dX8_meets_22 : decode cX8_meets 22 = .ok (.getfield 168, 3) := by decide +kernel
theorem dX8_meets_25 : decode cX8_meets 25 = .ok (.iload_n 1, 1) := by decide +kernel
theorem dX8_meets_26 : decode cX8_meets 26 = .ok (.iaload, 1) := by decide +kernel
theorem dX8_meets_27 : decode cX8_meets 27 = .ok (.if_icmp .ge 76, 3) := by decide +kernel
theorem dX8_meets_30 : decode cX8_meets 30 = .ok (.iload 6, 2) := by decide +kernel
theorem dX8_meets_32 : decode cX8_meets 32 = .ok (.aload_n 0, 1) := by decide +kernel
theorem dX8_meets_33 : decode cX8_meets 33 = .ok (.getfield 168, 3) := by decide +kernel
theorem dX8_meets_36 : decode cX8_meets 36 = .ok (.iload_n 2, 1) := by decide +kernel
theorem dX8_meets_37 : decode cX8_meets 37 = .ok (.iaload, 1) := by decide +kernel
theorem dX8_meets_38 : decode cX8_meets 38 = .ok (.if_icmp .ge 65, 3) := by decide +kernel
theorem dX8_meets_41 : decode cX8_meets 41 = .ok (.aload_n 0, 1) := by decide +kernel
theorem dX8_meets_42 : decode cX8_meets 42 = .ok (.getfield 171, 3) := by decide +kernel
theorem dX8_meets_45 : decode cX8_meets 45 = .ok (.bipush 10, 2) := by decide +kernel
theorem dX8_meets_47 : decode cX8_meets 47 = .ok (.iload_n 1, 1) := by decide +kernel
theorem dX8_meets_48 : decode cX8_meets 48 = .ok (.imul, 1) := by decide +kernel
theorem dX8_meets_49 : decode cX8_meets 49 = .ok (.iload 6, 2) := by decide +kernel
theorem dX8_meets_51 : decode cX8_meets 51 = .ok (.iadd, 1) := by decide +kernel
theorem dX8_meets_52 : decode cX8_meets 52 = .ok (.iaload, 1) := by decide +kernel
theorem dX8_meets_53 : decode cX8_meets 53 = .ok (.iload_n 3, 1) := by decide +kernel
theorem dX8_meets_54 : decode cX8_meets 54 = .ok (.iadd, 1) := by decide +kernel
theorem dX8_meets_55 : decode cX8_meets 55 = .ok (.aload_n 0, 1) := by decide +kernel
theorem dX8_meets_56 : decode cX8_meets 56 = .ok (.getfield 171, 3) := by decide +kernel
theorem dX8_meets_59 : decode cX8_meets 59 = .ok (.bipush 10, 2) := by decide +kernel
theorem dX8_meets_61 : decode cX8_meets 61 = .ok (.iload_n 2, 1) := by decide +kernel
theorem dX8_meets_62 : decode cX8_meets 62 = .ok (.imul, 1) := by decide +kernel
theorem dX8_meets_63 : decode cX8_meets 63 = .ok (.iload 6, 2) := by decide +kernel
theorem dX8_meets_65 : decode cX8_meets 65 = .ok (.iadd, 1) := by decide +kernel
theorem dX8_meets_66 : decode cX8_meets 66 = .ok (.iaload, 1) := by decide +kernel
theorem dX8_meets_67 : decode cX8_meets 67 = .ok (.isub, 1) := by decide +kernel
theorem dX8_meets_68 : decode cX8_meets 68 = .ok (.iload 4, 2) := by decide +kernel
theorem dX8_meets_70 : decode cX8_meets 70 = .ok (.isub, 1) := by decide +kernel
theorem dX8_meets_71 : decode cX8_meets 71 = .ok (.istore 7, 2) := by decide +kernel
theorem dX8_meets_73 : decode cX8_meets 73 = .ok (.iload 5, 2) := by decide +kernel
theorem dX8_meets_75 : decode cX8_meets 75 = .ok (.iload 7, 2) := by decide +kernel
theorem dX8_meets_77 : decode cX8_meets 77 = .ok (.ifCond .le 7, 3) := by decide +kernel
theorem dX8_meets_80 : decode cX8_meets 80 = .ok (.iconst 2, 1) := by decide +kernel
theorem dX8_meets_81 : decode cX8_meets 81 = .ok (.goto 13, 3) := by decide +kernel
theorem dX8_meets_84 : decode cX8_meets 84 = .ok (.iload 7, 2) := by decide +kernel
theorem dX8_meets_86 : decode cX8_meets 86 = .ok (.ifCond .ne 7, 3) := by decide +kernel
theorem dX8_meets_89 : decode cX8_meets 89 = .ok (.iconst 1, 1) := by decide +kernel
theorem dX8_meets_90 : decode cX8_meets 90 = .ok (.goto 4, 3) := by decide +kernel
theorem dX8_meets_93 : decode cX8_meets 93 = .ok (.iconst 0, 1) := by decide +kernel
theorem dX8_meets_94 : decode cX8_meets 94 = .ok (.iadd, 1) := by decide +kernel
theorem dX8_meets_95 : decode cX8_meets 95 = .ok (.istore 5, 2) := by decide +kernel
theorem dX8_meets_97 : decode cX8_meets 97 = .ok (.iinc 6 1, 3) := by decide +kernel
theorem dX8_meets_100 : decode cX8_meets 100 = .ok (.goto (-81), 3) := by decide +kernel
theorem dX8_meets_103 : decode cX8_meets 103 = .ok (.iload 5, 2) := by decide +kernel
theorem dX8_meets_105 : decode cX8_meets 105 = .ok (.ireturn, 1) := by decide +kernel
theorem dX8_meetsAll_0 : decode cX8_meetsAll 0 = .ok (.iconst 0, 1) := by decide +kernel
theorem dX8_meetsAll_1 : decode cX8_meetsAll 1 = .ok (.istore_n 2, 1) := by decide +kernel
theorem dX8_meetsAll_2 : decode cX8_meetsAll 2 = .ok (.iconst 0, 1) := by decide +kernel
theorem dX8_meetsAll_3 : decode cX8_meetsAll 3 = .ok (.istore_n 3, 1) := by decide +kernel
theorem dX8_meetsAll_4 : decode cX8_meetsAll 4 = .ok (.iload_n 3, 1) := by decide +kernel
theorem dX8_meetsAll_5 : decode cX8_meetsAll 5 = .ok (.bipush 6, 2) := by decide +kernel
theorem dX8_meetsAll_7 : decode cX8_meetsAll 7 = .ok (.if_icmp .ge 23, 3) := by decide +kernel
theorem dX8_meetsAll_10 : decode cX8_meetsAll 10 = .ok (.iload_n 3, 1) := by decide +kernel
theorem dX8_meetsAll_11 : decode cX8_meetsAll 11 = .ok (.iload_n 1, 1) := by decide +kernel
theorem dX8_meetsAll_12 : decode cX8_meetsAll 12 = .ok (.if_icmp .eq 12, 3) := by decide +kernel
theorem dX8_meetsAll_15 : decode cX8_meetsAll 15 = .ok (.iload_n 2, 1) := by decide +kernel
theorem dX8_meetsAll_16 : decode cX8_meetsAll 16 = .ok (.aload_n 0, 1) := by decide +kernel
theorem dX8_meetsAll_17 : decode cX8_meetsAll 17 = .ok (.iload_n 1, 1) := by decide +kernel
theorem dX8_meetsAll_18 : decode cX8_meetsAll 18 = .ok (.iload_n 3, 1) := by decide +kernel
theorem dX8_meetsAll_19 : decode cX8_meetsAll 19 = .ok (.invokevirtual 553, 3) := by decide +kernel
theorem dX8_meetsAll_22 : decode cX8_meetsAll 22 = .ok (.iadd, 1) := by decide +kernel
theorem dX8_meetsAll_23 : decode cX8_meetsAll 23 = .ok (.istore_n 2, 1) := by decide +kernel
theorem dX8_meetsAll_24 : decode cX8_meetsAll 24 = .ok (.iinc 3 1, 3) := by decide +kernel
theorem dX8_meetsAll_27 : decode cX8_meetsAll 27 = .ok (.goto (-23), 3) := by decide +kernel
theorem dX8_meetsAll_30 : decode cX8_meetsAll 30 = .ok (.iload_n 2, 1) := by decide +kernel
theorem dX8_meetsAll_31 : decode cX8_meetsAll 31 = .ok (.ireturn, 1) := by decide +kernel
theorem dX8_player_0 : decode cX8_player 0 = .ok (.iload_n 1, 1) := by decide +kernel
theorem dX8_player_1 : decode cX8_player 1 = .ok (.invokestatic 539, 3) := by decide +kernel
theorem dX8_player_4 : decode cX8_player 4 = .ok (.ifCond .ne 7, 3) := by decide +kernel
theorem dX8_player_7 : decode cX8_player 7 = .ok (.ldc_w 417, 3) := by decide +kernel
theorem dX8_player_10 : decode cX8_player 10 = .ok (.ireturn, 1) := by decide +kernel
theorem dX8_player_11 : decode cX8_player 11 = .ok (.iload_n 2, 1) := by decide +kernel
theorem dX8_player_12 : decode cX8_player 12 = .ok (.tableswitch 77 0 5 #[40, 47, 53, 59, 65, 71], 40) := by decide +kernel
theorem dX8_player_52 : decode cX8_player 52 = .ok (.aload_n 0, 1) := by decide +kernel
theorem dX8_player_53 : decode cX8_player 53 = .ok (.getfield 168, 3) := by decide +kernel
theorem dX8_player_56 : decode cX8_player 56 = .ok (.iload_n 1, 1) := by decide +kernel
theorem dX8_player_57 : decode cX8_player 57 = .ok (.iaload, 1) := by decide +kernel
theorem dX8_player_58 : decode cX8_player 58 = .ok (.ireturn, 1) := by decide +kernel
theorem dX8_player_59 : decode cX8_player 59 = .ok (.aload_n 0, 1) := by decide +kernel
theorem dX8_player_60 : decode cX8_player 60 = .ok (.iload_n 1, 1) := by decide +kernel
theorem dX8_player_61 : decode cX8_player 61 = .ok (.invokevirtual 542, 3) := by decide +kernel
theorem dX8_player_64 : decode cX8_player 64 = .ok (.ireturn, 1) := by decide +kernel
theorem dX8_player_65 : decode cX8_player 65 = .ok (.aload_n 0, 1) := by decide +kernel
theorem dX8_player_66 : decode cX8_player 66 = .ok (.iload_n 1, 1) := by decide +kernel
theorem dX8_player_67 : decode cX8_player 67 = .ok (.invokevirtual 545, 3) := by decide +kernel
theorem dX8_player_70 : decode cX8_player 70 = .ok (.ireturn, 1) := by decide +kernel
theorem dX8_player_71 : decode cX8_player 71 = .ok (.aload_n 0, 1) := by decide +kernel
theorem dX8_player_72 : decode cX8_player 72 = .ok (.iload_n 1, 1) := by decide +kernel
theorem dX8_player_73 : decode cX8_player 73 = .ok (.invokevirtual 550, 3) := by decide +kernel
theorem dX8_player_76 : decode cX8_player 76 = .ok (.ireturn, 1) := by decide +kernel
theorem dX8_player_77 : decode cX8_player 77 = .ok (.aload_n 0, 1) := by decide +kernel
theorem dX8_player_78 : decode cX8_player 78 = .ok (.iload_n 1, 1) := by decide +kernel
theorem dX8_player_79 : decode cX8_player 79 = .ok (.invokevirtual 556, 3) := by decide +kernel
theorem dX8_player_82 : decode cX8_player 82 = .ok (.ireturn, 1) := by decide +kernel
theorem dX8_player_83 : decode cX8_player 83 = .ok (.aload_n 0, 1) := by decide +kernel
theorem dX8_player_84 : decode cX8_player 84 = .ok (.iload_n 1, 1) := by decide +kernel
theorem dX8_player_85 : decode cX8_player 85 = .ok (.invokevirtual 559, 3) := by decide +kernel
theorem dX8_player_88 : decode cX8_player 88 = .ok (.ireturn, 1) := by decide +kernel
theorem dX8_player_89 : decode cX8_player 89 = .ok (.ldc_w 417, 3) := by decide +kernel
theorem dX8_player_92 : decode cX8_player 92 = .ok (.ireturn, 1) := by decide +kernel
theorem dX8_greatest_0 : decode cX8_greatest 0 = .ok (.iconst 0, 1) := by decide +kernel
theorem dX8_greatest_1 : decode cX8_greatest 1 = .ok (.istore_n 2, 1) := by decide +kernel
theorem dX8_greatest_2 : decode cX8_greatest 2 = .ok (.iconst 0, 1) := by decide +kernel
theorem dX8_greatest_3 : decode cX8_greatest 3 = .ok (.istore_n 3, 1) := by decide +kernel
theorem dX8_greatest_4 : decode cX8_greatest 4 = .ok (.iload_n 3, 1) := by decide +kernel
theorem dX8_greatest_5 : decode cX8_greatest 5 = .ok (.aload_n 0, 1) := by decide +kernel
theorem dX8_greatest_6 : decode cX8_greatest 6 = .ok (.getfield 168, 3) := by decide +kernel
theorem dX8_greatest_9 : decode cX8_greatest 9 = .ok (.iload_n 1, 1) := by decide +kernel
theorem dX8_greatest_10 : decode cX8_greatest 10 = .ok (.iaload, 1) := by decide +kernel
theorem dX8_greatest_11 : decode cX8_greatest 11 = .ok (.if_icmp .ge 44, 3) := by decide +kernel
theorem dX8_greatest_14 : decode cX8_greatest 14 = .ok (.iload_n 3, 1) := by decide +kernel
theorem dX8_greatest_15 : decode cX8_greatest 15 = .ok (.ifCond .eq 18, 3) := by decide +kernel
theorem dX8_greatest_18 : decode cX8_greatest 18 = .ok (.aload_n 0, 1) := by decide +kernel
theorem dX8_greatest_19 : decode cX8_greatest 19 = .ok (.getfield 171, 3) := by decide +kernel
theorem dX8_greatest_22 : decode cX8_greatest 22 = .ok (.bipush 10, 2) := by decide +kernel
theorem dX8_greatest_24 : decode cX8_greatest 24 = .ok (.iload_n 1, 1) := by decide +kernel
theorem dX8_greatest_25 : decode cX8_greatest 25 = .ok (.imul, 1) := by decide +kernel
theorem dX8_greatest_26 : decode cX8_greatest 26 = .ok (.iload_n 3, 1) := by decide +kernel
theorem dX8_greatest_27 : decode cX8_greatest 27 = .ok (.iadd, 1) := by decide +kernel
theorem dX8_greatest_28 : decode cX8_greatest 28 = .ok (.iaload, 1) := by decide +kernel
theorem dX8_greatest_29 : decode cX8_greatest 29 = .ok (.iload_n 2, 1) := by decide +kernel
theorem dX8_greatest_30 : decode cX8_greatest 30 = .ok (.if_icmp .le 17, 3) := by decide +kernel
theorem dX8_greatest_33 : decode cX8_greatest 33 = .ok (.aload_n 0, 1) := by decide +kernel
theorem dX8_greatest_34 : decode cX8_greatest 34 = .ok (.getfield 171, 3) := by decide +kernel
theorem dX8_greatest_37 : decode cX8_greatest 37 = .ok (.bipush 10, 2) := by decide +kernel
theorem dX8_greatest_39 : decode cX8_greatest 39 = .ok (.iload_n 1, 1) := by decide +kernel
theorem dX8_greatest_40 : decode cX8_greatest 40 = .ok (.imul, 1) := by decide +kernel
theorem dX8_greatest_41 : decode cX8_greatest 41 = .ok (.iload_n 3, 1) := by decide +kernel
theorem dX8_greatest_42 : decode cX8_greatest 42 = .ok (.iadd, 1) := by decide +kernel
theorem dX8_greatest_43 : decode cX8_greatest 43 = .ok (.iaload, 1) := by decide +kernel
theorem dX8_greatest_44 : decode cX8_greatest 44 = .ok (.goto 4, 3) := by decide +kernel
theorem dX8_greatest_47 : decode cX8_greatest 47 = .ok (.iload_n 2, 1) := by decide +kernel
theorem dX8_greatest_48 : decode cX8_greatest 48 = .ok (.istore_n 2, 1) := by decide +kernel
theorem dX8_greatest_49 : decode cX8_greatest 49 = .ok (.iinc 3 1, 3) := by decide +kernel
theorem dX8_greatest_52 : decode cX8_greatest 52 = .ok (.goto (-48), 3) := by decide +kernel
theorem dX8_greatest_55 : decode cX8_greatest 55 = .ok (.iload_n 2, 1) := by decide +kernel
theorem dX8_greatest_56 : decode cX8_greatest 56 = .ok (.ireturn, 1) := by decide +kernel
theorem dX8_meet_0 : decode cX8_meet 0 = .ok (.iload_n 1, 1) := by decide +kernel
theorem dX8_meet_1 : decode cX8_meet 1 = .ok (.invokestatic 539, 3) := by decide +kernel
theorem dX8_meet_4 : decode cX8_meet 4 = .ok (.ifCond .eq 24, 3) := by decide +kernel
theorem dX8_meet_7 : decode cX8_meet 7 = .ok (.iload_n 2, 1) := by decide +kernel
theorem dX8_meet_8 : decode cX8_meet 8 = .ok (.invokestatic 539, 3) := by decide +kernel
theorem dX8_meet_11 : decode cX8_meet 11 = .ok (.ifCond .eq 17, 3) := by decide +kernel
theorem dX8_meet_14 : decode cX8_meet 14 = .ok (.iload_n 1, 1) := by decide +kernel
theorem dX8_meet_15 : decode cX8_meet 15 = .ok (.iload_n 2, 1) := by decide +kernel
theorem dX8_meet_16 : decode cX8_meet 16 = .ok (.if_icmp .eq 12, 3) := by decide +kernel
theorem dX8_meet_19 : decode cX8_meet 19 = .ok (.aload_n 0, 1) := by decide +kernel
theorem dX8_meet_20 : decode cX8_meet 20 = .ok (.iload_n 1, 1) := by decide +kernel
theorem dX8_meet_21 : decode cX8_meet 21 = .ok (.iload_n 2, 1) := by decide +kernel
theorem dX8_meet_22 : decode cX8_meet 22 = .ok (.invokevirtual 553, 3) := by decide +kernel
theorem dX8_meet_25 : decode cX8_meet 25 = .ok (.goto 4, 3) := by decide +kernel
theorem dX8_meet_28 : decode cX8_meet 28 = .ok (.iconst (-1), 1) := by decide +kernel
theorem dX8_meet_29 : decode cX8_meet 29 = .ok (.ireturn, 1) := by decide +kernel
theorem dX8_place_0 : decode cX8_place 0 = .ok (.iload_n 1, 1) := by decide +kernel
theorem dX8_place_1 : decode cX8_place 1 = .ok (.invokestatic 539, 3) := by decide +kernel
theorem dX8_place_4 : decode cX8_place 4 = .ok (.ifCond .ne 5, 3) := by decide +kernel
theorem dX8_place_7 : decode cX8_place 7 = .ok (.iconst (-1), 1) := by decide +kernel
theorem dX8_place_8 : decode cX8_place 8 = .ok (.ireturn, 1) := by decide +kernel
theorem dX8_place_9 : decode cX8_place 9 = .ok (.aload_n 0, 1) := by decide +kernel
theorem dX8_place_10 : decode cX8_place 10 = .ok (.iload_n 1, 1) := by decide +kernel
theorem dX8_place_11 : decode cX8_place 11 = .ok (.invokevirtual 559, 3) := by decide +kernel
theorem dX8_place_14 : decode cX8_place 14 = .ok (.istore_n 2, 1) := by decide +kernel
theorem dX8_place_15 : decode cX8_place 15 = .ok (.iconst 0, 1) := by decide +kernel
theorem dX8_place_16 : decode cX8_place 16 = .ok (.istore_n 3, 1) := by decide +kernel
theorem dX8_place_17 : decode cX8_place 17 = .ok (.iconst 0, 1) := by decide +kernel
theorem dX8_place_18 : decode cX8_place 18 = .ok (.istore 4, 2) := by decide +kernel
theorem dX8_place_20 : decode cX8_place 20 = .ok (.iload 4, 2) := by decide +kernel
theorem dX8_place_22 : decode cX8_place 22 = .ok (.bipush 6, 2) := by decide +kernel
theorem dX8_place_24 : decode cX8_place 24 = .ok (.if_icmp .ge 22, 3) := by decide +kernel
theorem dX8_place_27 : decode cX8_place 27 = .ok (.aload_n 0, 1) := by decide +kernel
theorem dX8_place_28 : decode cX8_place 28 = .ok (.iload 4, 2) := by decide +kernel
theorem dX8_place_30 : decode cX8_place 30 = .ok (.invokevirtual 559, 3) := by decide +kernel
theorem dX8_place_33 : decode cX8_place 33 = .ok (.iload_n 2, 1) := by decide +kernel
theorem dX8_place_34 : decode cX8_place 34 = .ok (.if_icmp .le 6, 3) := by decide +kernel
theorem dX8_place_37 : decode cX8_place 37 = .ok (.iinc 3 1, 3) := by decide +kernel
theorem dX8_place_40 : decode cX8_place 40 = .ok (.iinc 4 1, 3) := by decide +kernel
theorem dX8_place_43 : decode cX8_place 43 = .ok (.goto (-23), 3) := by decide +kernel
theorem dX8_place_46 : decode cX8_place 46 = .ok (.iload_n 3, 1) := by decide +kernel
theorem dX8_place_47 : decode cX8_place 47 = .ok (.ireturn, 1) := by decide +kernel
theorem dX8_writes_0 : decode cX8_writes 0 = .ok (.aload_n 0, 1) := by decide +kernel
theorem dX8_writes_1 : decode cX8_writes 1 = .ok (.getfield 174, 3) := by decide +kernel
theorem dX8_writes_4 : decode cX8_writes 4 = .ok (.aload_n 0, 1) := by decide +kernel
theorem dX8_writes_5 : decode cX8_writes 5 = .ok (.getfield 562, 3) := by decide +kernel
theorem dX8_writes_8 : decode cX8_writes 8 = .ok (.iload_n 1, 1) := by decide +kernel
theorem dX8_writes_9 : decode cX8_writes 9 = .ok (.iastore, 1) := by decide +kernel
theorem dX8_writes_10 : decode cX8_writes 10 = .ok (.aload_n 0, 1) := by decide +kernel
theorem dX8_writes_11 : decode cX8_writes 11 = .ok (.dup, 1) := by decide +kernel
theorem dX8_writes_12 : decode cX8_writes 12 = .ok (.getfield 562, 3) := by decide +kernel
theorem dX8_writes_15 : decode cX8_writes 15 = .ok (.iconst 1, 1) := by decide +kernel
theorem dX8_writes_16 : decode cX8_writes 16 = .ok (.iadd, 1) := by decide +kernel
theorem dX8_writes_17 : decode cX8_writes 17 = .ok (.putfield 562, 3) := by decide +kernel
theorem dX8_writes_20 : decode cX8_writes 20 = .ok (.return_, 1) := by decide +kernel
theorem dX8_checked_0 : decode cX8_checked 0 = .ok (.bipush 11, 2) := by decide +kernel
theorem dX8_checked_2 : decode cX8_checked 2 = .ok (.istore_n 2, 1) := by decide +kernel
theorem dX8_checked_3 : decode cX8_checked 3 = .ok (.iconst 0, 1) := by decide +kernel
theorem dX8_checked_4 : decode cX8_checked 4 = .ok (.istore_n 3, 1) := by decide +kernel
theorem dX8_checked_5 : decode cX8_checked 5 = .ok (.iload_n 3, 1) := by decide +kernel
theorem dX8_checked_6 : decode cX8_checked 6 = .ok (.iload_n 1, 1) := by decide +kernel
theorem dX8_checked_7 : decode cX8_checked 7 = .ok (.if_icmp .ge 22, 3) := by decide +kernel
theorem dX8_checked_10 : decode cX8_checked 10 = .ok (.bipush 7, 2) := by decide +kernel
theorem dX8_checked_12 : decode cX8_checked 12 = .ok (.iload_n 2, 1) := by decide +kernel
theorem dX8_checked_13 : decode cX8_checked 13 = .ok (.imul, 1) := by decide +kernel
theorem dX8_checked_14 : decode cX8_checked 14 = .ok (.aload_n 0, 1) := by decide +kernel
theorem dX8_checked_15 : decode cX8_checked 15 = .ok (.iload_n 3, 1) := by decide +kernel
theorem dX8_checked_16 : decode cX8_checked 16 = .ok (.iaload, 1) := by decide +kernel
theorem dX8_checked_17 : decode cX8_checked 17 = .ok (.iadd, 1) := by decide +kernel
theorem dX8_checked_18 : decode cX8_checked 18 = .ok (.sipush 239, 3) := by decide +kernel
theorem dX8_checked_21 : decode cX8_checked 21 = .ok (.irem, 1) := by decide +kernel
theorem dX8_checked_22 : decode cX8_checked 22 = .ok (.istore_n 2, 1) := by decide +kernel
theorem dX8_checked_23 : decode cX8_checked 23 = .ok (.iinc 3 1, 3) := by decide +kernel
theorem dX8_checked_26 : decode cX8_checked 26 = .ok (.goto (-21), 3) := by decide +kernel
theorem dX8_checked_29 : decode cX8_checked 29 = .ok (.iload_n 2, 1) := by decide +kernel
theorem dX8_checked_30 : decode cX8_checked 30 = .ok (.ireturn, 1) := by decide +kernel
theorem dX8_image_0 : decode cX8_image 0 = .ok (.aload_n 0, 1) := by decide +kernel
theorem dX8_image_1 : decode cX8_image 1 = .ok (.iconst 0, 1) := by decide +kernel
theorem dX8_image_2 : decode cX8_image 2 = .ok (.putfield 562, 3) := by decide +kernel
theorem dX8_image_5 : decode cX8_image 5 = .ok (.aload_n 0, 1) := by decide +kernel
theorem dX8_image_6 : decode cX8_image 6 = .ok (.aload_n 0, 1) := by decide +kernel
theorem dX8_image_7 : decode cX8_image 7 = .ok (.getfield 324, 3) := by decide +kernel
theorem dX8_image_10 : decode cX8_image 10 = .ok (.invokevirtual 565, 3) := by decide +kernel
theorem dX8_image_13 : decode cX8_image 13 = .ok (.iconst 0, 1) := by decide +kernel
theorem dX8_image_14 : decode cX8_image 14 = .ok (.istore_n 1, 1) := by decide +kernel
theorem dX8_image_15 : decode cX8_image 15 = .ok (.iload_n 1, 1) := by decide +kernel
theorem dX8_image_16 : decode cX8_image 16 = .ok (.aload_n 0, 1) := by decide +kernel
theorem dX8_image_17 : decode cX8_image 17 = .ok (.getfield 324, 3) := by decide +kernel
theorem dX8_image_20 : decode cX8_image 20 = .ok (.if_icmp .ge 36, 3) := by decide +kernel
theorem dX8_image_23 : decode cX8_image 23 = .ok (.aload_n 0, 1) := by decide +kernel
theorem dX8_image_24 : decode cX8_image 24 = .ok (.aload_n 0, 1) := by decide +kernel
theorem dX8_image_25 : decode cX8_image 25 = .ok (.getfield 131, 3) := by decide +kernel
theorem dX8_image_28 : decode cX8_image 28 = .ok (.iload_n 1, 1) := by decide +kernel
theorem dX8_image_29 : decode cX8_image 29 = .ok (.iaload, 1) := by decide +kernel
theorem dX8_image_30 : decode cX8_image 30 = .ok (.bipush (-2), 2) := by decide +kernel
theorem dX8_image_32 : decode cX8_image 32 = .ok (.if_icmp .ne 9, 3) := by decide +kernel
theorem dX8_image_35 : decode cX8_image 35 = .ok (.sipush 200, 3) := by decide +kernel
theorem dX8_image_38 : decode cX8_image 38 = .ok (.goto 9, 3) := by decide +kernel
theorem dX8_image_41 : decode cX8_image 41 = .ok (.aload_n 0, 1) := by decide +kernel
theorem dX8_image_42 : decode cX8_image 42 = .ok (.getfield 131, 3) := by decide +kernel
theorem dX8_image_45 : decode cX8_image 45 = .ok (.iload_n 1, 1) := by decide +kernel
theorem dX8_image_46 : decode cX8_image 46 = .ok (.iaload, 1) := by decide +kernel
theorem dX8_image_47 : decode cX8_image 47 = .ok (.invokevirtual 565, 3) := by decide +kernel
theorem dX8_image_50 : decode cX8_image 50 = .ok (.iinc 1 1, 3) := by decide +kernel
theorem dX8_image_53 : decode cX8_image 53 = .ok (.goto (-38), 3) := by decide +kernel
theorem dX8_image_56 : decode cX8_image 56 = .ok (.aload_n 0, 1) := by decide +kernel
theorem dX8_image_57 : decode cX8_image 57 = .ok (.aload_n 0, 1) := by decide +kernel
theorem dX8_image_58 : decode cX8_image 58 = .ok (.getfield 174, 3) := by decide +kernel
theorem dX8_image_61 : decode cX8_image 61 = .ok (.aload_n 0, 1) := by decide +kernel
theorem dX8_image_62 : decode cX8_image 62 = .ok (.getfield 562, 3) := by decide +kernel
theorem dX8_image_65 : decode cX8_image 65 = .ok (.invokestatic 568, 3) := by decide +kernel
theorem dX8_image_68 : decode cX8_image 68 = .ok (.invokevirtual 565, 3) := by decide +kernel
theorem dX8_image_71 : decode cX8_image 71 = .ok (.aload_n 0, 1) := by decide +kernel
theorem dX8_image_72 : decode cX8_image 72 = .ok (.getfield 562, 3) := by decide +kernel
theorem dX8_image_75 : decode cX8_image 75 = .ok (.ireturn, 1) := by decide +kernel
theorem dX8_octet_0 : decode cX8_octet 0 = .ok (.iload_n 1, 1) := by decide +kernel
theorem dX8_octet_1 : decode cX8_octet 1 = .ok (.ifCond .lt 20, 3) := by decide +kernel
theorem dX8_octet_4 : decode cX8_octet 4 = .ok (.iload_n 1, 1) := by decide +kernel
theorem dX8_octet_5 : decode cX8_octet 5 = .ok (.aload_n 0, 1) := by decide +kernel
theorem dX8_octet_6 : decode cX8_octet 6 = .ok (.getfield 562, 3) := by decide +kernel
theorem dX8_octet_9 : decode cX8_octet 9 = .ok (.if_icmp .ge 12, 3) := by decide +kernel
theorem dX8_octet_12 : decode cX8_octet 12 = .ok (.aload_n 0, 1) := by decide +kernel
theorem dX8_octet_13 : decode cX8_octet 13 = .ok (.getfield 174, 3) := by decide +kernel
theorem dX8_octet_16 : decode cX8_octet 16 = .ok (.iload_n 1, 1) := by decide +kernel
theorem dX8_octet_17 : decode cX8_octet 17 = .ok (.iaload, 1) := by decide +kernel
theorem dX8_octet_18 : decode cX8_octet 18 = .ok (.goto 4, 3) := by decide +kernel
theorem dX8_octet_21 : decode cX8_octet 21 = .ok (.iconst (-1), 1) := by decide +kernel
theorem dX8_octet_22 : decode cX8_octet 22 = .ok (.ireturn, 1) := by decide +kernel
theorem dX8_on_0 : decode cX8_on 0 = .ok (.aload_n 0, 1) := by decide +kernel
theorem dX8_on_1 : decode cX8_on 1 = .ok (.getfield 180, 3) := by decide +kernel
theorem dX8_on_4 : decode cX8_on 4 = .ok (.istore_n 1, 1) := by decide +kernel
theorem dX8_on_5 : decode cX8_on 5 = .ok (.aload_n 0, 1) := by decide +kernel
theorem dX8_on_6 : decode cX8_on 6 = .ok (.iconst 0, 1) := by decide +kernel
theorem dX8_on_7 : decode cX8_on 7 = .ok (.putfield 180, 3) := by decide +kernel
theorem dX8_on_10 : decode cX8_on 10 = .ok (.iload_n 1, 1) := by decide +kernel
theorem dX8_on_11 : decode cX8_on 11 = .ok (.iconst 2, 1) := by decide +kernel
theorem dX8_on_12 : decode cX8_on 12 = .ok (.if_icmp .lt 47, 3) := by decide +kernel
theorem dX8_on_15 : decode cX8_on 15 = .ok (.aload_n 0, 1) := by decide +kernel
theorem dX8_on_16 : decode cX8_on 16 = .ok (.getfield 7, 3) := by decide +kernel
theorem dX8_on_19 : decode cX8_on 19 = .ok (.iconst 0, 1) := by decide +kernel
theorem dX8_on_20 : decode cX8_on 20 = .ok (.iaload, 1) := by decide +kernel
theorem dX8_on_21 : decode cX8_on 21 = .ok (.iload_n 1, 1) := by decide +kernel
theorem dX8_on_22 : decode cX8_on 22 = .ok (.iconst 2, 1) := by decide +kernel
theorem dX8_on_23 : decode cX8_on 23 = .ok (.isub, 1) := by decide +kernel
theorem dX8_on_24 : decode cX8_on 24 = .ok (.if_icmp .ne 35, 3) := by decide +kernel
theorem dX8_on_27 : decode cX8_on 27 = .ok (.aload_n 0, 1) := by decide +kernel
theorem dX8_on_28 : decode cX8_on 28 = .ok (.getfield 7, 3) := by decide +kernel
theorem dX8_on_31 : decode cX8_on 31 = .ok (.iconst 0, 1) := by decide +kernel
theorem dX8_on_32 : decode cX8_on 32 = .ok (.iaload, 1) := by decide +kernel
theorem dX8_on_33 : decode cX8_on 33 = .ok (.bipush 30, 2) := by decide +kernel
theorem dX8_on_35 : decode cX8_on 35 = .ok (.if_icmp .gt 24, 3) := by decide +kernel
theorem dX8_on_38 : decode cX8_on 38 = .ok (.aload_n 0, 1) := by decide +kernel
theorem dX8_on_39 : decode cX8_on 39 = .ok (.getfield 7, 3) := by decide +kernel
theorem dX8_on_42 : decode cX8_on 42 = .ok (.iload_n 1, 1) := by decide +kernel
theorem dX8_on_43 : decode cX8_on 43 = .ok (.iconst 1, 1) := by decide +kernel
theorem dX8_on_44 : decode cX8_on 44 = .ok (.isub, 1) := by decide +kernel
theorem dX8_on_45 : decode cX8_on 45 = .ok (.iaload, 1) := by decide +kernel
theorem dX8_on_46 : decode cX8_on 46 = .ok (.aload_n 0, 1) := by decide +kernel
theorem dX8_on_47 : decode cX8_on 47 = .ok (.getfield 7, 3) := by decide +kernel
theorem dX8_on_50 : decode cX8_on 50 = .ok (.iload_n 1, 1) := by decide +kernel
theorem dX8_on_51 : decode cX8_on 51 = .ok (.iconst 1, 1) := by decide +kernel
theorem dX8_on_52 : decode cX8_on 52 = .ok (.isub, 1) := by decide +kernel
theorem dX8_on_53 : decode cX8_on 53 = .ok (.invokestatic 568, 3) := by decide +kernel
theorem dX8_on_56 : decode cX8_on 56 = .ok (.if_icmp .eq 5, 3) := by decide +kernel
theorem dX8_on_59 : decode cX8_on 59 = .ok (.iconst 0, 1) := by decide +kernel
theorem dX8_on_60 : decode cX8_on 60 = .ok (.ireturn, 1) := by decide +kernel
theorem dX8_on_61 : decode cX8_on 61 = .ok (.aload_n 0, 1) := by decide +kernel
theorem dX8_on_62 : decode cX8_on 62 = .ok (.getfield 324, 3) := by decide +kernel
theorem dX8_on_65 : decode cX8_on 65 = .ok (.istore_n 2, 1) := by decide +kernel
theorem dX8_on_66 : decode cX8_on 66 = .ok (.iconst 0, 1) := by decide +kernel
theorem dX8_on_67 : decode cX8_on 67 = .ok (.istore_n 3, 1) := by decide +kernel
theorem dX8_on_68 : decode cX8_on 68 = .ok (.iload_n 3, 1) := by decide +kernel
theorem dX8_on_69 : decode cX8_on 69 = .ok (.iload_n 2, 1) := by decide +kernel
theorem dX8_on_70 : decode cX8_on 70 = .ok (.if_icmp .ge 21, 3) := by decide +kernel
theorem dX8_on_73 : decode cX8_on 73 = .ok (.aload_n 0, 1) := by decide +kernel
theorem dX8_on_74 : decode cX8_on 74 = .ok (.getfield 177, 3) := by decide +kernel
theorem dX8_on_77 : decode cX8_on 77 = .ok (.iload_n 3, 1) := by decide +kernel
theorem dX8_on_78 : decode cX8_on 78 = .ok (.aload_n 0, 1) := by decide +kernel
theorem dX8_on_79 : decode cX8_on 79 = .ok (.getfield 131, 3) := by decide +kernel
theorem dX8_on_82 : decode cX8_on 82 = .ok (.iload_n 3, 1) := by decide +kernel
theorem dX8_on_83 : decode cX8_on 83 = .ok (.iaload, 1) := by decide +kernel
theorem dX8_on_84 : decode cX8_on 84 = .ok (.iastore, 1) := by decide +kernel
theorem dX8_on_85 : decode cX8_on 85 = .ok (.iinc 3 1, 3) := by decide +kernel
theorem dX8_on_88 : decode cX8_on 88 = .ok (.goto (-20), 3) := by decide +kernel
theorem dX8_on_91 : decode cX8_on 91 = .ok (.aload_n 0, 1) := by decide +kernel
theorem dX8_on_92 : decode cX8_on 92 = .ok (.getfield 327, 3) := by decide +kernel
theorem dX8_on_95 : decode cX8_on 95 = .ok (.istore_n 3, 1) := by decide +kernel
theorem dX8_on_96 : decode cX8_on 96 = .ok (.aload_n 0, 1) := by decide +kernel
theorem dX8_on_97 : decode cX8_on 97 = .ok (.iconst 0, 1) := by decide +kernel
theorem dX8_on_98 : decode cX8_on 98 = .ok (.putfield 324, 3) := by decide +kernel
theorem dX8_on_101 : decode cX8_on 101 = .ok (.aload_n 0, 1) := by decide +kernel
theorem dX8_on_102 : decode cX8_on 102 = .ok (.iconst 0, 1) := by decide +kernel
theorem dX8_on_103 : decode cX8_on 103 = .ok (.putfield 327, 3) := by decide +kernel
theorem dX8_on_106 : decode cX8_on 106 = .ok (.iconst 1, 1) := by decide +kernel
theorem dX8_on_107 : decode cX8_on 107 = .ok (.istore 4, 2) := by decide +kernel
theorem dX8_on_109 : decode cX8_on 109 = .ok (.iconst 1, 1) := by decide +kernel
theorem dX8_on_110 : decode cX8_on 110 = .ok (.istore 5, 2) := by decide +kernel
theorem dX8_on_112 : decode cX8_on 112 = .ok (.iload 5, 2) := by decide +kernel
theorem dX8_on_114 : decode cX8_on 114 = .ok (.iload_n 1, 1) := by decide +kernel
theorem dX8_on_115 : decode cX8_on 115 = .ok (.iconst 1, 1) := by decide +kernel
theorem dX8_on_116 : decode cX8_on 116 = .ok (.isub, 1) := by decide +kernel
theorem dX8_on_117 : decode cX8_on 117 = .ok (.if_icmp .ge 45, 3) := by decide +kernel
theorem dX8_on_120 : decode cX8_on 120 = .ok (.iload 4, 2) := by decide +kernel
theorem dX8_on_122 : decode cX8_on 122 = .ok (.ifCond .eq 40, 3) := by decide +kernel
theorem dX8_on_125 : decode cX8_on 125 = .ok (.aload_n 0, 1) := by decide +kernel
theorem dX8_on_126 : decode cX8_on 126 = .ok (.aload_n 0, 1) := by decide +kernel
theorem dX8_on_127 : decode cX8_on 127 = .ok (.getfield 7, 3) := by decide +kernel
theorem dX8_on_130 : decode cX8_on 130 = .ok (.iload 5, 2) := by decide +kernel
theorem dX8_on_132 : decode cX8_on 132 = .ok (.iaload, 1) := by decide +kernel
theorem dX8_on_133 : decode cX8_on 133 = .ok (.sipush 200, 3) := by decide +kernel
theorem dX8_on_136 : decode cX8_on 136 = .ok (.if_icmp .ne 8, 3) := by decide +kernel
theorem dX8_on_139 : decode cX8_on 139 = .ok (.bipush (-2), 2) := by decide +kernel
theorem dX8_on_141 : decode cX8_on 141 = .ok (.goto 10, 3) := by decide +kernel
theorem dX8_on_144 : decode cX8_on 144 = .ok (.aload_n 0, 1) := by decide +kernel
theorem dX8_on_145 : decode cX8_on 145 = .ok (.getfield 7, 3) := by decide +kernel
theorem dX8_on_148 : decode cX8_on 148 = .ok (.iload 5, 2) := by decide +kernel
theorem dX8_on_150 : decode cX8_on 150 = .ok (.iaload, 1) := by decide +kernel
theorem dX8_on_151 : decode cX8_on 151 = .ok (.invokevirtual 572, 3) := by decide +kernel
theorem dX8_on_154 : decode cX8_on 154 = .ok (.istore 4, 2) := by decide +kernel
theorem dX8_on_156 : decode cX8_on 156 = .ok (.iinc 5 1, 3) := by decide +kernel
theorem dX8_on_159 : decode cX8_on 159 = .ok (.goto (-47), 3) := by decide +kernel
theorem dX8_on_162 : decode cX8_on 162 = .ok (.aload_n 0, 1) := by decide +kernel
theorem dX8_on_163 : decode cX8_on 163 = .ok (.iconst 0, 1) := by decide +kernel
theorem dX8_on_164 : decode cX8_on 164 = .ok (.putfield 334, 3) := by decide +kernel
theorem dX8_on_167 : decode cX8_on 167 = .ok (.iload 4, 2) := by decide +kernel
theorem dX8_on_169 : decode cX8_on 169 = .ok (.ifCond .eq 5, 3) := by decide +kernel
theorem dX8_on_172 : decode cX8_on 172 = .ok (.iconst 1, 1) := by decide +kernel
theorem dX8_on_173 : decode cX8_on 173 = .ok (.ireturn, 1) := by decide +kernel
theorem dX8_on_174 : decode cX8_on 174 = .ok (.aload_n 0, 1) := by decide +kernel
theorem dX8_on_175 : decode cX8_on 175 = .ok (.iload_n 2, 1) := by decide +kernel
theorem dX8_on_176 : decode cX8_on 176 = .ok (.putfield 324, 3) := by decide +kernel
theorem dX8_on_179 : decode cX8_on 179 = .ok (.aload_n 0, 1) := by decide +kernel
theorem dX8_on_180 : decode cX8_on 180 = .ok (.iload_n 3, 1) := by decide +kernel
theorem dX8_on_181 : decode cX8_on 181 = .ok (.putfield 327, 3) := by decide +kernel
theorem dX8_on_184 : decode cX8_on 184 = .ok (.iconst 0, 1) := by decide +kernel
theorem dX8_on_185 : decode cX8_on 185 = .ok (.istore 5, 2) := by decide +kernel
theorem dX8_on_187 : decode cX8_on 187 = .ok (.iload 5, 2) := by decide +kernel
theorem dX8_on_189 : decode cX8_on 189 = .ok (.iload_n 2, 1) := by decide +kernel
theorem dX8_on_190 : decode cX8_on 190 = .ok (.if_icmp .ge 23, 3) := by decide +kernel
theorem dX8_on_193 : decode cX8_on 193 = .ok (.aload_n 0, 1) := by decide +kernel
theorem dX8_on_194 : decode cX8_on 194 = .ok (.getfield 131, 3) := by decide +kernel
theorem dX8_on_197 : decode cX8_on 197 = .ok (.iload 5, 2) := by decide +kernel
theorem dX8_on_199 : decode cX8_on 199 = .ok (.aload_n 0, 1) := by decide +kernel
theorem dX8_on_200 : decode cX8_on 200 = .ok (.getfield 177, 3) := by decide +kernel
theorem dX8_on_203 : decode cX8_on 203 = .ok (.iload 5, 2) := by decide +kernel
theorem dX8_on_205 : decode cX8_on 205 = .ok (.iaload, 1) := by decide +kernel
theorem dX8_on_206 : decode cX8_on 206 = .ok (.iastore, 1) := by decide +kernel
theorem dX8_on_207 : decode cX8_on 207 = .ok (.iinc 5 1, 3) := by decide +kernel
theorem dX8_on_210 : decode cX8_on 210 = .ok (.goto (-23), 3) := by decide +kernel
theorem dX8_on_213 : decode cX8_on 213 = .ok (.iconst 0, 1) := by decide +kernel
theorem dX8_on_214 : decode cX8_on 214 = .ok (.ireturn, 1) := by decide +kernel
