/-! ===== each table of steps is its method's bytecode (printed by wip/gen/gen2.py) ===== -/
theorem tk_0 : tk 0 = true := by decide +kernel
theorem tk_1 : tk 1 = true := by decide +kernel
theorem tk_2 : tk 2 = true := by decide +kernel
theorem tk_3 : tk 3 = true := by decide +kernel
theorem tk_4 : tk 4 = true := by decide +kernel
theorem tk_5 : tk 5 = true := by decide +kernel
theorem tk_6 : tk 6 = true := by decide +kernel
theorem tk_7 : tk 7 = true := by decide +kernel
theorem tk_8 : tk 8 = true := by decide +kernel
theorem tk_9 : tk 9 = true := by decide +kernel
theorem tk_10 : tk 10 = true := by decide +kernel
theorem tk_11 : tk 11 = true := by decide +kernel
theorem tk_12 : tk 12 = true := by decide +kernel
theorem tk_13 : tk 13 = true := by decide +kernel
theorem tk_14 : tk 14 = true := by decide +kernel
theorem tk_15 : tk 15 = true := by decide +kernel
theorem tk_16 : tk 16 = true := by decide +kernel
theorem tk_17 : tk 17 = true := by decide +kernel
theorem tk_18 : tk 18 = true := by decide +kernel
theorem tk_19 : tk 19 = true := by decide +kernel
theorem tk_20 : tk 20 = true := by decide +kernel
theorem tk_21 : tk 21 = true := by decide +kernel
theorem tk_22 : tk 22 = true := by decide +kernel
theorem tk_23 : tk 23 = true := by decide +kernel
theorem tk_24 : tk 24 = true := by decide +kernel
theorem tk_25 : tk 25 = true := by decide +kernel
theorem tk_26 : tk 26 = true := by decide +kernel
theorem tk_27 : tk 27 = true := by decide +kernel
theorem tk_28 : tk 28 = true := by decide +kernel
theorem tk_29 : tk 29 = true := by decide +kernel
theorem tk_30 : tk 30 = true := by decide +kernel
theorem tk_31 : tk 31 = true := by decide +kernel
theorem tk_32 : tk 32 = true := by decide +kernel
theorem tk_33 : tk 33 = true := by decide +kernel
theorem tk_34 : tk 34 = true := by decide +kernel
theorem tk_35 : tk 35 = true := by decide +kernel
theorem tk_36 : tk 36 = true := by decide +kernel
theorem tk_37 : tk 37 = true := by decide +kernel
theorem tk_38 : tk 38 = true := by decide +kernel
theorem tk_39 : tk 39 = true := by decide +kernel
theorem tk_40 : tk 40 = true := by decide +kernel
theorem tk_41 : tk 41 = true := by decide +kernel
theorem tk_42 : tk 42 = true := by decide +kernel
theorem tk_43 : tk 43 = true := by decide +kernel
theorem tk_44 : tk 44 = true := by decide +kernel
theorem tk_45 : tk 45 = true := by decide +kernel
theorem tk_46 : tk 46 = true := by decide +kernel
theorem tk_47 : tk 47 = true := by decide +kernel
theorem tk_48 : tk 48 = true := by decide +kernel
theorem tk_49 : tk 49 = true := by decide +kernel
theorem tk_50 : tk 50 = true := by decide +kernel
theorem tk_51 : tk 51 = true := by decide +kernel
theorem tk_52 : tk 52 = true := by decide +kernel
theorem tk_53 : tk 53 = true := by decide +kernel
theorem tk_54 : tk 54 = true := by decide +kernel
theorem tk_55 : tk 55 = true := by decide +kernel
theorem tk_56 : tk 56 = true := by decide +kernel
theorem tk_57 : tk 57 = true := by decide +kernel
theorem tk_58 : tk 58 = true := by decide +kernel
theorem tk_59 : tk 59 = true := by decide +kernel
theorem tk_60 : tk 60 = true := by decide +kernel
theorem tk_61 : tk 61 = true := by decide +kernel
theorem tk_62 : tk 62 = true := by decide +kernel
theorem tk_63 : tk 63 = true := by decide +kernel
theorem tk_64 : tk 64 = true := by decide +kernel
theorem tk_65 : tk 65 = true := by decide +kernel
theorem tk_66 : tk 66 = true := by decide +kernel
theorem tk_67 : tk 67 = true := by decide +kernel
theorem tk_68 : tk 68 = true := by decide +kernel
theorem tk_69 : tk 69 = true := by decide +kernel
theorem tk_70 : tk 70 = true := by decide +kernel
theorem tk_71 : tk 71 = true := by decide +kernel
theorem tk_72 : tk 72 = true := by decide +kernel
theorem tk_73 : tk 73 = true := by decide +kernel
theorem tk_74 : tk 74 = true := by decide +kernel
theorem tk_75 : tk 75 = true := by decide +kernel
theorem tk_76 : tk 76 = true := by decide +kernel
theorem tk_77 : tk 77 = true := by decide +kernel
theorem tk_78 : tk 78 = true := by decide +kernel
theorem tk_79 : tk 79 = true := by decide +kernel
theorem tk_80 : tk 80 = true := by decide +kernel
theorem tk_81 : tk 81 = true := by decide +kernel
theorem tk_82 : tk 82 = true := by decide +kernel
theorem tk_83 : tk 83 = true := by decide +kernel
theorem tk_84 : tk 84 = true := by decide +kernel
theorem tk_85 : tk 85 = true := by decide +kernel
theorem tk_86 : tk 86 = true := by decide +kernel
theorem tk_87 : tk 87 = true := by decide +kernel
theorem tk_88 : tk 88 = true := by decide +kernel
theorem tk_89 : tk 89 = true := by decide +kernel
theorem tk_90 : tk 90 = true := by decide +kernel
theorem tk_91 : tk 91 = true := by decide +kernel
theorem tk_92 : tk 92 = true := by decide +kernel
theorem tk_93 : tk 93 = true := by decide +kernel
theorem tk_94 : tk 94 = true := by decide +kernel
theorem tk_95 : tk 95 = true := by decide +kernel
theorem tk_96 : tk 96 = true := by decide +kernel
theorem tk_97 : tk 97 = true := by decide +kernel
theorem tk_98 : tk 98 = true := by decide +kernel
theorem tk_99 : tk 99 = true := by decide +kernel
theorem tk_100 : tk 100 = true := by decide +kernel
theorem tk_101 : tk 101 = true := by decide +kernel
theorem tk_102 : tk 102 = true := by decide +kernel
theorem tk_103 : tk 103 = true := by decide +kernel
theorem tk_104 : tk 104 = true := by decide +kernel
theorem tk_105 : tk 105 = true := by decide +kernel
theorem tk_106 : tk 106 = true := by decide +kernel
theorem tk_107 : tk 107 = true := by decide +kernel
theorem tk_108 : tk 108 = true := by decide +kernel
theorem tk_109 : tk 109 = true := by decide +kernel
theorem tk_110 : tk 110 = true := by decide +kernel
theorem tk_111 : tk 111 = true := by decide +kernel
theorem tk_112 : tk 112 = true := by decide +kernel
theorem tk_113 : tk 113 = true := by decide +kernel
theorem tk_114 : tk 114 = true := by decide +kernel
theorem tk_115 : tk 115 = true := by decide +kernel
theorem tk_116 : tk 116 = true := by decide +kernel
theorem tk_117 : tk 117 = true := by decide +kernel
theorem tk_118 : tk 118 = true := by decide +kernel
theorem tk_119 : tk 119 = true := by decide +kernel
theorem tk_120 : tk 120 = true := by decide +kernel
theorem tk_121 : tk 121 = true := by decide +kernel
theorem tk_122 : tk 122 = true := by decide +kernel
theorem tk_123 : tk 123 = true := by decide +kernel
theorem tk_124 : tk 124 = true := by decide +kernel
theorem tk_125 : tk 125 = true := by decide +kernel
theorem tk_126 : tk 126 = true := by decide +kernel
theorem tk_127 : tk 127 = true := by decide +kernel
theorem tk_128 : tk 128 = true := by decide +kernel
theorem tk_129 : tk 129 = true := by decide +kernel
theorem tk_130 : tk 130 = true := by decide +kernel
theorem tk_131 : tk 131 = true := by decide +kernel
theorem tk_132 : tk 132 = true := by decide +kernel
theorem tk_133 : tk 133 = true := by decide +kernel
theorem tk_134 : tk 134 = true := by decide +kernel
set_option maxRecDepth 20000 in
theorem tk_all : ∀ mi, mi < 135 → tk mi = true := (lt_s (lt_s (lt_s (lt_s (lt_s (lt_s (lt_s (lt_s (lt_s (lt_s (lt_s (lt_s (lt_s (lt_s (lt_s (lt_s (lt_s (lt_s (lt_s (lt_s (lt_s (lt_s (lt_s (lt_s (lt_s (lt_s (lt_s (lt_s (lt_s (lt_s (lt_s (lt_s (lt_s (lt_s (lt_s (lt_s (lt_s (lt_s (lt_s (lt_s (lt_s (lt_s (lt_s (lt_s (lt_s (lt_s (lt_s (lt_s (lt_s (lt_s (lt_s (lt_s (lt_s (lt_s (lt_s (lt_s (lt_s (lt_s (lt_s (lt_s (lt_s (lt_s (lt_s (lt_s (lt_s (lt_s (lt_s (lt_s (lt_s (lt_s (lt_s (lt_s (lt_s (lt_s (lt_s (lt_s (lt_s (lt_s (lt_s (lt_s (lt_s (lt_s (lt_s (lt_s (lt_s (lt_s (lt_s (lt_s (lt_s (lt_s (lt_s (lt_s (lt_s (lt_s (lt_s (lt_s (lt_s (lt_s (lt_s (lt_s (lt_s (lt_s (lt_s (lt_s (lt_s (lt_s (lt_s (lt_s (lt_s (lt_s (lt_s (lt_s (lt_s (lt_s (lt_s (lt_s (lt_s (lt_s (lt_s (lt_s (lt_s (lt_s (lt_s (lt_s (lt_s (lt_s (lt_s (lt_s (lt_s (lt_s (lt_s (lt_s (lt_s (lt_s (lt_s lt_0 tk_0) tk_1) tk_2) tk_3) tk_4) tk_5) tk_6) tk_7) tk_8) tk_9) tk_10) tk_11) tk_12) tk_13) tk_14) tk_15) tk_16) tk_17) tk_18) tk_19) tk_20) tk_21) tk_22) tk_23) tk_24) tk_25) tk_26) tk_27) tk_28) tk_29) tk_30) tk_31) tk_32) tk_33) tk_34) tk_35) tk_36) tk_37) tk_38) tk_39) tk_40) tk_41) tk_42) tk_43) tk_44) tk_45) tk_46) tk_47) tk_48) tk_49) tk_50) tk_51) tk_52) tk_53) tk_54) tk_55) tk_56) tk_57) tk_58) tk_59) tk_60) tk_61) tk_62) tk_63) tk_64) tk_65) tk_66) tk_67) tk_68) tk_69) tk_70) tk_71) tk_72) tk_73) tk_74) tk_75) tk_76) tk_77) tk_78) tk_79) tk_80) tk_81) tk_82) tk_83) tk_84) tk_85) tk_86) tk_87) tk_88) tk_89) tk_90) tk_91) tk_92) tk_93) tk_94) tk_95) tk_96) tk_97) tk_98) tk_99) tk_100) tk_101) tk_102) tk_103) tk_104) tk_105) tk_106) tk_107) tk_108) tk_109) tk_110) tk_111) tk_112) tk_113) tk_114) tk_115) tk_116) tk_117) tk_118) tk_119) tk_120) tk_121) tk_122) tk_123) tk_124) tk_125) tk_126) tk_127) tk_128) tk_129) tk_130) tk_131) tk_132) tk_133) tk_134)
def PCd (mi : Nat) : Prop := Cond.code (mY mi) (mC mi) (mL mi) (mR mi) ∈ GW
theorem inT1 {w : Cond} (i : Nat) (h : tables_1_1[i]? = some w) (hg : goodWord w = true) : w ∈ GW := List.mem_filter.mpr ⟨List.mem_append_right _ (List.mem_append_left _ (List.mem_of_getElem? h)), hg⟩
theorem inT2 {w : Cond} (i : Nat) (h : tables_1_2[i]? = some w) (hg : goodWord w = true) : w ∈ GW := List.mem_filter.mpr ⟨List.mem_append_right _ (List.mem_append_right _ (List.mem_append_left _ (List.mem_of_getElem? h))), hg⟩
theorem inT3 {w : Cond} (i : Nat) (h : tables_1_3[i]? = some w) (hg : goodWord w = true) : w ∈ GW := List.mem_filter.mpr ⟨List.mem_append_right _ (List.mem_append_right _ (List.mem_append_right _ (List.mem_of_getElem? h))), hg⟩
theorem cw_0 : PCd 0 := inT1 27 rfl rfl
theorem cw_1 : PCd 1 := inT1 104 rfl rfl
theorem cw_2 : PCd 2 := inT1 71 rfl rfl
theorem cw_3 : PCd 3 := inT2 176 rfl rfl
theorem cw_4 : PCd 4 := inT1 176 rfl rfl
theorem cw_5 : PCd 5 := inT2 150 rfl rfl
theorem cw_6 : PCd 6 := inT1 67 rfl rfl
theorem cw_7 : PCd 7 := inT1 134 rfl rfl
theorem cw_8 : PCd 8 := inT1 172 rfl rfl
theorem cw_9 : PCd 9 := inT1 155 rfl rfl
theorem cw_10 : PCd 10 := inT1 151 rfl rfl
theorem cw_11 : PCd 11 := inT1 164 rfl rfl
theorem cw_12 : PCd 12 := inT1 168 rfl rfl
theorem cw_13 : PCd 13 := inT1 21 rfl rfl
theorem cw_14 : PCd 14 := inT1 100 rfl rfl
theorem cw_15 : PCd 15 := inT1 235 rfl rfl
theorem cw_16 : PCd 16 := inT1 96 rfl rfl
theorem cw_17 : PCd 17 := inT1 120 rfl rfl
theorem cw_18 : PCd 18 := inT1 116 rfl rfl
theorem cw_19 : PCd 19 := inT1 147 rfl rfl
theorem cw_20 : PCd 20 := inT1 143 rfl rfl
theorem cw_21 : PCd 21 := inT1 197 rfl rfl
theorem cw_22 : PCd 22 := inT1 193 rfl rfl
theorem cw_23 : PCd 23 := inT1 108 rfl rfl
theorem cw_24 : PCd 24 := inT1 239 rfl rfl
theorem cw_25 : PCd 25 := inT2 3 rfl rfl
theorem cw_26 : PCd 26 := inT2 7 rfl rfl
theorem cw_27 : PCd 27 := inT1 184 rfl rfl
theorem cw_28 : PCd 28 := inT1 124 rfl rfl
theorem cw_29 : PCd 29 := inT1 112 rfl rfl
theorem cw_30 : PCd 30 := inT1 139 rfl rfl
theorem cw_31 : PCd 31 := inT1 160 rfl rfl
theorem cw_32 : PCd 32 := inT1 189 rfl rfl
theorem cw_33 : PCd 33 := inT1 201 rfl rfl
theorem cw_34 : PCd 34 := inT1 205 rfl rfl
theorem cw_35 : PCd 35 := inT1 209 rfl rfl
theorem cw_36 : PCd 36 := inT1 213 rfl rfl
theorem cw_37 : PCd 37 := inT1 221 rfl rfl
theorem cw_38 : PCd 38 := inT1 217 rfl rfl
theorem cw_39 : PCd 39 := inT2 19 rfl rfl
theorem cw_40 : PCd 40 := inT2 15 rfl rfl
theorem cw_41 : PCd 41 := inT2 36 rfl rfl
theorem cw_42 : PCd 42 := inT2 44 rfl rfl
theorem cw_43 : PCd 43 := inT2 48 rfl rfl
theorem cw_44 : PCd 44 := inT2 23 rfl rfl
theorem cw_45 : PCd 45 := inT2 27 rfl rfl
theorem cw_46 : PCd 46 := inT2 68 rfl rfl
theorem cw_47 : PCd 47 := inT2 72 rfl rfl
theorem cw_48 : PCd 48 := inT1 49 rfl rfl
theorem cw_49 : PCd 49 := inT2 107 rfl rfl
theorem cw_50 : PCd 50 := inT2 110 rfl rfl
theorem cw_51 : PCd 51 := inT2 115 rfl rfl
theorem cw_52 : PCd 52 := inT2 123 rfl rfl
theorem cw_53 : PCd 53 := inT2 119 rfl rfl
theorem cw_54 : PCd 54 := inT2 127 rfl rfl
theorem cw_55 : PCd 55 := inT2 131 rfl rfl
theorem cw_56 : PCd 56 := inT2 135 rfl rfl
theorem cw_57 : PCd 57 := inT2 143 rfl rfl
theorem cw_58 : PCd 58 := inT2 138 rfl rfl
theorem cw_59 : PCd 59 := inT2 146 rfl rfl
theorem cw_60 : PCd 60 := inT2 154 rfl rfl
theorem cw_61 : PCd 61 := inT2 159 rfl rfl
theorem cw_62 : PCd 62 := inT2 162 rfl rfl
theorem cw_63 : PCd 63 := inT2 166 rfl rfl
theorem cw_64 : PCd 64 := inT2 172 rfl rfl
theorem cw_65 : PCd 65 := inT1 12 rfl rfl
theorem cw_66 : PCd 66 := inT1 88 rfl rfl
theorem cw_67 : PCd 67 := inT1 225 rfl rfl
theorem cw_68 : PCd 68 := inT1 231 rfl rfl
theorem cw_69 : PCd 69 := inT2 11 rfl rfl
theorem cw_70 : PCd 70 := inT2 31 rfl rfl
theorem cw_71 : PCd 71 := inT2 40 rfl rfl
theorem cw_72 : PCd 72 := inT2 52 rfl rfl
theorem cw_73 : PCd 73 := inT2 58 rfl rfl
theorem cw_74 : PCd 74 := inT2 63 rfl rfl
theorem cw_75 : PCd 75 := inT2 76 rfl rfl
theorem cw_76 : PCd 76 := inT2 81 rfl rfl
theorem cw_77 : PCd 77 := inT2 85 rfl rfl
theorem cw_78 : PCd 78 := inT2 89 rfl rfl
theorem cw_79 : PCd 79 := inT2 94 rfl rfl
theorem cw_80 : PCd 80 := inT2 99 rfl rfl
theorem cw_81 : PCd 81 := inT2 103 rfl rfl
theorem cw_82 : PCd 82 := inT1 92 rfl rfl
theorem cw_83 : PCd 83 := inT1 127 rfl rfl
theorem cw_84 : PCd 84 := inT1 130 rfl rfl
theorem cw_85 : PCd 85 := inT1 179 rfl rfl
theorem cw_86 : PCd 86 := inT2 187 rfl rfl
theorem cw_87 : PCd 87 := inT2 192 rfl rfl
theorem cw_88 : PCd 88 := inT2 203 rfl rfl
theorem cw_89 : PCd 89 := inT3 13 rfl rfl
theorem cw_90 : PCd 90 := inT2 207 rfl rfl
theorem cw_91 : PCd 91 := inT2 211 rfl rfl
theorem cw_92 : PCd 92 := inT2 200 rfl rfl
theorem cw_93 : PCd 93 := inT2 215 rfl rfl
theorem cw_94 : PCd 94 := inT2 219 rfl rfl
theorem cw_95 : PCd 95 := inT2 196 rfl rfl
theorem cw_96 : PCd 96 := inT3 49 rfl rfl
theorem cw_97 : PCd 97 := inT3 45 rfl rfl
theorem cw_98 : PCd 98 := inT3 33 rfl rfl
theorem cw_99 : PCd 99 := inT3 29 rfl rfl
theorem cw_100 : PCd 100 := inT3 25 rfl rfl
theorem cw_101 : PCd 101 := inT3 53 rfl rfl
theorem cw_102 : PCd 102 := inT3 17 rfl rfl
theorem cw_103 : PCd 103 := inT3 21 rfl rfl
theorem cw_104 : PCd 104 := inT3 41 rfl rfl
theorem cw_105 : PCd 105 := inT3 37 rfl rfl
theorem cw_106 : PCd 106 := inT3 9 rfl rfl
theorem cw_107 : PCd 107 := inT3 5 rfl rfl
theorem cw_108 : PCd 108 := inT3 57 rfl rfl
theorem cw_109 : PCd 109 := inT3 65 rfl rfl
theorem cw_110 : PCd 110 := inT3 61 rfl rfl
theorem cw_111 : PCd 111 := inT3 73 rfl rfl
theorem cw_112 : PCd 112 := inT3 69 rfl rfl
theorem cw_113 : PCd 113 := inT3 77 rfl rfl
theorem cw_114 : PCd 114 := inT3 81 rfl rfl
theorem cw_115 : PCd 115 := inT3 85 rfl rfl
theorem cw_116 : PCd 116 := inT3 90 rfl rfl
theorem cw_117 : PCd 117 := inT3 98 rfl rfl
theorem cw_118 : PCd 118 := inT3 94 rfl rfl
theorem cw_119 : PCd 119 := inT3 102 rfl rfl
theorem cw_120 : PCd 120 := inT3 106 rfl rfl
theorem cw_121 : PCd 121 := inT3 110 rfl rfl
theorem cw_122 : PCd 122 := inT3 114 rfl rfl
theorem cw_123 : PCd 123 := inT3 118 rfl rfl
theorem cw_124 : PCd 124 := inT3 122 rfl rfl
theorem cw_125 : PCd 125 := inT3 138 rfl rfl
theorem cw_126 : PCd 126 := inT3 130 rfl rfl
theorem cw_127 : PCd 127 := inT3 146 rfl rfl
theorem cw_128 : PCd 128 := inT3 142 rfl rfl
theorem cw_129 : PCd 129 := inT3 134 rfl rfl
theorem cw_130 : PCd 130 := inT3 150 rfl rfl
theorem cw_131 : PCd 131 := inT3 154 rfl rfl
theorem cw_132 : PCd 132 := inT3 158 rfl rfl
theorem cw_133 : PCd 133 := inT3 162 rfl rfl
theorem cw_134 : PCd 134 := inT3 126 rfl rfl
set_option maxRecDepth 20000 in
theorem cw_all : ∀ mi, mi < 135 → PCd mi := (lt_s (lt_s (lt_s (lt_s (lt_s (lt_s (lt_s (lt_s (lt_s (lt_s (lt_s (lt_s (lt_s (lt_s (lt_s (lt_s (lt_s (lt_s (lt_s (lt_s (lt_s (lt_s (lt_s (lt_s (lt_s (lt_s (lt_s (lt_s (lt_s (lt_s (lt_s (lt_s (lt_s (lt_s (lt_s (lt_s (lt_s (lt_s (lt_s (lt_s (lt_s (lt_s (lt_s (lt_s (lt_s (lt_s (lt_s (lt_s (lt_s (lt_s (lt_s (lt_s (lt_s (lt_s (lt_s (lt_s (lt_s (lt_s (lt_s (lt_s (lt_s (lt_s (lt_s (lt_s (lt_s (lt_s (lt_s (lt_s (lt_s (lt_s (lt_s (lt_s (lt_s (lt_s (lt_s (lt_s (lt_s (lt_s (lt_s (lt_s (lt_s (lt_s (lt_s (lt_s (lt_s (lt_s (lt_s (lt_s (lt_s (lt_s (lt_s (lt_s (lt_s (lt_s (lt_s (lt_s (lt_s (lt_s (lt_s (lt_s (lt_s (lt_s (lt_s (lt_s (lt_s (lt_s (lt_s (lt_s (lt_s (lt_s (lt_s (lt_s (lt_s (lt_s (lt_s (lt_s (lt_s (lt_s (lt_s (lt_s (lt_s (lt_s (lt_s (lt_s (lt_s (lt_s (lt_s (lt_s (lt_s (lt_s (lt_s (lt_s (lt_s (lt_s (lt_s lt_0 cw_0) cw_1) cw_2) cw_3) cw_4) cw_5) cw_6) cw_7) cw_8) cw_9) cw_10) cw_11) cw_12) cw_13) cw_14) cw_15) cw_16) cw_17) cw_18) cw_19) cw_20) cw_21) cw_22) cw_23) cw_24) cw_25) cw_26) cw_27) cw_28) cw_29) cw_30) cw_31) cw_32) cw_33) cw_34) cw_35) cw_36) cw_37) cw_38) cw_39) cw_40) cw_41) cw_42) cw_43) cw_44) cw_45) cw_46) cw_47) cw_48) cw_49) cw_50) cw_51) cw_52) cw_53) cw_54) cw_55) cw_56) cw_57) cw_58) cw_59) cw_60) cw_61) cw_62) cw_63) cw_64) cw_65) cw_66) cw_67) cw_68) cw_69) cw_70) cw_71) cw_72) cw_73) cw_74) cw_75) cw_76) cw_77) cw_78) cw_79) cw_80) cw_81) cw_82) cw_83) cw_84) cw_85) cw_86) cw_87) cw_88) cw_89) cw_90) cw_91) cw_92) cw_93) cw_94) cw_95) cw_96) cw_97) cw_98) cw_99) cw_100) cw_101) cw_102) cw_103) cw_104) cw_105) cw_106) cw_107) cw_108) cw_109) cw_110) cw_111) cw_112) cw_113) cw_114) cw_115) cw_116) cw_117) cw_118) cw_119) cw_120) cw_121) cw_122) cw_123) cw_124) cw_125) cw_126) cw_127) cw_128) cw_129) cw_130) cw_131) cw_132) cw_133) cw_134)
