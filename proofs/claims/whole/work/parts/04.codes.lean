theorem gt_1 {w : Cond} (h : w ∈ tables_1_1) (hg : goodWord w = true) : w ∈ gT := List.mem_filter.mpr ⟨List.mem_append_right _ (show w ∈ tables_1 from List.mem_append_left _ h), hg⟩
theorem gt_2 {w : Cond} (h : w ∈ tables_1_2) (hg : goodWord w = true) : w ∈ gT := List.mem_filter.mpr ⟨List.mem_append_right _ (show w ∈ tables_1 from List.mem_append_right _ (List.mem_append_left _ h)), hg⟩
theorem gt_3 {w : Cond} (h : w ∈ tables_1_3) (hg : goodWord w = true) : w ∈ gT := List.mem_filter.mpr ⟨List.mem_append_right _ (show w ∈ tables_1 from List.mem_append_right _ (List.mem_append_right _ (List.mem_append_left _ h))), hg⟩
theorem gt_4 {w : Cond} (h : w ∈ tables_1_4) (hg : goodWord w = true) : w ∈ gT := List.mem_filter.mpr ⟨List.mem_append_right _ (show w ∈ tables_1 from List.mem_append_right _ (List.mem_append_right _ (List.mem_append_right _ (List.mem_append_left _ h)))), hg⟩
theorem gt_5 {w : Cond} (h : w ∈ tables_1_5) (hg : goodWord w = true) : w ∈ gT := List.mem_filter.mpr ⟨List.mem_append_right _ (show w ∈ tables_1 from List.mem_append_right _ (List.mem_append_right _ (List.mem_append_right _ (List.mem_append_right _ (List.mem_append_left _ h))))), hg⟩
theorem gt_6 {w : Cond} (h : w ∈ tables_1_6) (hg : goodWord w = true) : w ∈ gT := List.mem_filter.mpr ⟨List.mem_append_right _ (show w ∈ tables_1 from List.mem_append_right _ (List.mem_append_right _ (List.mem_append_right _ (List.mem_append_right _ (List.mem_append_right _ (List.mem_append_left _ h)))))), hg⟩
theorem gt_7 {w : Cond} (h : w ∈ tables_1_7) (hg : goodWord w = true) : w ∈ gT := List.mem_filter.mpr ⟨List.mem_append_right _ (show w ∈ tables_1 from List.mem_append_right _ (List.mem_append_right _ (List.mem_append_right _ (List.mem_append_right _ (List.mem_append_right _ (List.mem_append_right _ (List.mem_append_left _ h))))))), hg⟩
theorem gt_8 {w : Cond} (h : w ∈ tables_1_8) (hg : goodWord w = true) : w ∈ gT := List.mem_filter.mpr ⟨List.mem_append_right _ (show w ∈ tables_1 from List.mem_append_right _ (List.mem_append_right _ (List.mem_append_right _ (List.mem_append_right _ (List.mem_append_right _ (List.mem_append_right _ (List.mem_append_right _ (h)))))))), hg⟩
set_option maxRecDepth 20000 in
theorem cw_0 : fCO 0 ∈ gT := gt_2 (List.mem_of_getElem? (i := 38) rfl) rfl
set_option maxRecDepth 20000 in
theorem cw_1 : fCO 1 ∈ gT := gt_4 (List.mem_of_getElem? (i := 22) rfl) rfl
set_option maxRecDepth 20000 in
theorem cw_2 : fCO 2 ∈ gT := gt_5 (List.mem_of_getElem? (i := 133) rfl) rfl
set_option maxRecDepth 20000 in
theorem cw_3 : fCO 3 ∈ gT := gt_5 (List.mem_of_getElem? (i := 141) rfl) rfl
set_option maxRecDepth 20000 in
theorem cw_4 : fCO 4 ∈ gT := gt_5 (List.mem_of_getElem? (i := 219) rfl) rfl
set_option maxRecDepth 20000 in
theorem cw_5 : fCO 5 ∈ gT := gt_1 (List.mem_of_getElem? (i := 88) rfl) rfl
set_option maxRecDepth 20000 in
theorem cw_6 : fCO 6 ∈ gT := gt_2 (List.mem_of_getElem? (i := 147) rfl) rfl
set_option maxRecDepth 20000 in
theorem cw_7 : fCO 7 ∈ gT := gt_3 (List.mem_of_getElem? (i := 238) rfl) rfl
set_option maxRecDepth 20000 in
theorem cw_8 : fCO 8 ∈ gT := gt_4 (List.mem_of_getElem? (i := 13) rfl) rfl
set_option maxRecDepth 20000 in
theorem cw_9 : fCO 9 ∈ gT := gt_4 (List.mem_of_getElem? (i := 98) rfl) rfl
set_option maxRecDepth 20000 in
theorem cw_10 : fCO 10 ∈ gT := gt_4 (List.mem_of_getElem? (i := 101) rfl) rfl
set_option maxRecDepth 20000 in
theorem cw_11 : fCO 11 ∈ gT := gt_4 (List.mem_of_getElem? (i := 104) rfl) rfl
set_option maxRecDepth 20000 in
theorem cw_12 : fCO 12 ∈ gT := gt_1 (List.mem_of_getElem? (i := 176) rfl) rfl
set_option maxRecDepth 20000 in
theorem cw_13 : fCO 13 ∈ gT := gt_4 (List.mem_of_getElem? (i := 18) rfl) rfl
set_option maxRecDepth 20000 in
theorem cw_14 : fCO 14 ∈ gT := gt_4 (List.mem_of_getElem? (i := 56) rfl) rfl
set_option maxRecDepth 20000 in
theorem cw_15 : fCO 15 ∈ gT := gt_4 (List.mem_of_getElem? (i := 61) rfl) rfl
set_option maxRecDepth 20000 in
theorem cw_16 : fCO 16 ∈ gT := gt_4 (List.mem_of_getElem? (i := 232) rfl) rfl
set_option maxRecDepth 20000 in
theorem cw_17 : fCO 17 ∈ gT := gt_2 (List.mem_of_getElem? (i := 75) rfl) rfl
set_option maxRecDepth 20000 in
theorem cw_18 : fCO 18 ∈ gT := gt_5 (List.mem_of_getElem? (i := 45) rfl) rfl
set_option maxRecDepth 20000 in
theorem cw_19 : fCO 19 ∈ gT := gt_5 (List.mem_of_getElem? (i := 51) rfl) rfl
set_option maxRecDepth 20000 in
theorem cw_20 : fCO 20 ∈ gT := gt_5 (List.mem_of_getElem? (i := 56) rfl) rfl
set_option maxRecDepth 20000 in
theorem cw_21 : fCO 21 ∈ gT := gt_5 (List.mem_of_getElem? (i := 60) rfl) rfl
set_option maxRecDepth 20000 in
theorem cw_22 : fCO 22 ∈ gT := gt_5 (List.mem_of_getElem? (i := 65) rfl) rfl
set_option maxRecDepth 20000 in
theorem cw_23 : fCO 23 ∈ gT := gt_1 (List.mem_of_getElem? (i := 213) rfl) rfl
set_option maxRecDepth 20000 in
theorem cw_24 : fCO 24 ∈ gT := gt_4 (List.mem_of_getElem? (i := 35) rfl) rfl
set_option maxRecDepth 20000 in
theorem cw_25 : fCO 25 ∈ gT := gt_4 (List.mem_of_getElem? (i := 41) rfl) rfl
set_option maxRecDepth 20000 in
theorem cw_26 : fCO 26 ∈ gT := gt_4 (List.mem_of_getElem? (i := 49) rfl) rfl
set_option maxRecDepth 20000 in
theorem cw_27 : fCO 27 ∈ gT := gt_1 (List.mem_of_getElem? (i := 197) rfl) rfl
set_option maxRecDepth 20000 in
theorem cw_28 : fCO 28 ∈ gT := gt_2 (List.mem_of_getElem? (i := 225) rfl) rfl
set_option maxRecDepth 20000 in
theorem cw_29 : fCO 29 ∈ gT := gt_3 (List.mem_of_getElem? (i := 103) rfl) rfl
set_option maxRecDepth 20000 in
theorem cw_30 : fCO 30 ∈ gT := gt_3 (List.mem_of_getElem? (i := 137) rfl) rfl
set_option maxRecDepth 20000 in
theorem cw_31 : fCO 31 ∈ gT := gt_3 (List.mem_of_getElem? (i := 146) rfl) rfl
set_option maxRecDepth 20000 in
theorem cw_32 : fCO 32 ∈ gT := gt_3 (List.mem_of_getElem? (i := 184) rfl) rfl
set_option maxRecDepth 20000 in
theorem cw_33 : fCO 33 ∈ gT := gt_3 (List.mem_of_getElem? (i := 190) rfl) rfl
set_option maxRecDepth 20000 in
theorem cw_34 : fCO 34 ∈ gT := gt_3 (List.mem_of_getElem? (i := 194) rfl) rfl
set_option maxRecDepth 20000 in
theorem cw_35 : fCO 35 ∈ gT := gt_3 (List.mem_of_getElem? (i := 198) rfl) rfl
set_option maxRecDepth 20000 in
theorem cw_36 : fCO 36 ∈ gT := gt_3 (List.mem_of_getElem? (i := 202) rfl) rfl
set_option maxRecDepth 20000 in
theorem cw_37 : fCO 37 ∈ gT := gt_3 (List.mem_of_getElem? (i := 206) rfl) rfl
set_option maxRecDepth 20000 in
theorem cw_38 : fCO 38 ∈ gT := gt_3 (List.mem_of_getElem? (i := 210) rfl) rfl
set_option maxRecDepth 20000 in
theorem cw_39 : fCO 39 ∈ gT := gt_3 (List.mem_of_getElem? (i := 214) rfl) rfl
set_option maxRecDepth 20000 in
theorem cw_40 : fCO 40 ∈ gT := gt_3 (List.mem_of_getElem? (i := 218) rfl) rfl
set_option maxRecDepth 20000 in
theorem cw_41 : fCO 41 ∈ gT := gt_3 (List.mem_of_getElem? (i := 222) rfl) rfl
set_option maxRecDepth 20000 in
theorem cw_42 : fCO 42 ∈ gT := gt_2 (List.mem_of_getElem? (i := 28) rfl) rfl
set_option maxRecDepth 20000 in
theorem cw_43 : fCO 43 ∈ gT := gt_4 (List.mem_of_getElem? (i := 26) rfl) rfl
set_option maxRecDepth 20000 in
theorem cw_44 : fCO 44 ∈ gT := gt_4 (List.mem_of_getElem? (i := 148) rfl) rfl
set_option maxRecDepth 20000 in
theorem cw_45 : fCO 45 ∈ gT := gt_4 (List.mem_of_getElem? (i := 152) rfl) rfl
set_option maxRecDepth 20000 in
theorem cw_46 : fCO 46 ∈ gT := gt_4 (List.mem_of_getElem? (i := 224) rfl) rfl
set_option maxRecDepth 20000 in
theorem cw_47 : fCO 47 ∈ gT := gt_5 (List.mem_of_getElem? (i := 215) rfl) rfl
set_option maxRecDepth 20000 in
theorem cw_48 : fCO 48 ∈ gT := gt_5 (List.mem_of_getElem? (i := 224) rfl) rfl
set_option maxRecDepth 20000 in
theorem cw_49 : fCO 49 ∈ gT := gt_1 (List.mem_of_getElem? (i := 82) rfl) rfl
set_option maxRecDepth 20000 in
theorem cw_50 : fCO 50 ∈ gT := gt_2 (List.mem_of_getElem? (i := 143) rfl) rfl
set_option maxRecDepth 20000 in
theorem cw_51 : fCO 51 ∈ gT := gt_3 (List.mem_of_getElem? (i := 156) rfl) rfl
set_option maxRecDepth 20000 in
theorem cw_52 : fCO 52 ∈ gT := gt_3 (List.mem_of_getElem? (i := 160) rfl) rfl
set_option maxRecDepth 20000 in
theorem cw_53 : fCO 53 ∈ gT := gt_4 (List.mem_of_getElem? (i := 8) rfl) rfl
set_option maxRecDepth 20000 in
theorem cw_54 : fCO 54 ∈ gT := gt_4 (List.mem_of_getElem? (i := 70) rfl) rfl
set_option maxRecDepth 20000 in
theorem cw_55 : fCO 55 ∈ gT := gt_4 (List.mem_of_getElem? (i := 82) rfl) rfl
set_option maxRecDepth 20000 in
theorem cw_56 : fCO 56 ∈ gT := gt_4 (List.mem_of_getElem? (i := 86) rfl) rfl
set_option maxRecDepth 20000 in
theorem cw_57 : fCO 57 ∈ gT := gt_4 (List.mem_of_getElem? (i := 93) rfl) rfl
set_option maxRecDepth 20000 in
theorem cw_58 : fCO 58 ∈ gT := gt_4 (List.mem_of_getElem? (i := 118) rfl) rfl
set_option maxRecDepth 20000 in
theorem cw_59 : fCO 59 ∈ gT := gt_4 (List.mem_of_getElem? (i := 131) rfl) rfl
set_option maxRecDepth 20000 in
theorem cw_60 : fCO 60 ∈ gT := gt_4 (List.mem_of_getElem? (i := 170) rfl) rfl
set_option maxRecDepth 20000 in
theorem cw_61 : fCO 61 ∈ gT := gt_2 (List.mem_of_getElem? (i := 107) rfl) rfl
set_option maxRecDepth 20000 in
theorem cw_62 : fCO 62 ∈ gT := gt_5 (List.mem_of_getElem? (i := 77) rfl) rfl
set_option maxRecDepth 20000 in
theorem cw_63 : fCO 63 ∈ gT := gt_5 (List.mem_of_getElem? (i := 82) rfl) rfl
set_option maxRecDepth 20000 in
theorem cw_64 : fCO 64 ∈ gT := gt_5 (List.mem_of_getElem? (i := 86) rfl) rfl
set_option maxRecDepth 20000 in
theorem cw_65 : fCO 65 ∈ gT := gt_5 (List.mem_of_getElem? (i := 90) rfl) rfl
set_option maxRecDepth 20000 in
theorem cw_66 : fCO 66 ∈ gT := gt_5 (List.mem_of_getElem? (i := 95) rfl) rfl
set_option maxRecDepth 20000 in
theorem cw_67 : fCO 67 ∈ gT := gt_1 (List.mem_of_getElem? (i := 226) rfl) rfl
set_option maxRecDepth 20000 in
theorem cw_68 : fCO 68 ∈ gT := gt_2 (List.mem_of_getElem? (i := 151) rfl) rfl
set_option maxRecDepth 20000 in
theorem cw_69 : fCO 69 ∈ gT := gt_2 (List.mem_of_getElem? (i := 161) rfl) rfl
set_option maxRecDepth 20000 in
theorem cw_70 : fCO 70 ∈ gT := gt_4 (List.mem_of_getElem? (i := 74) rfl) rfl
set_option maxRecDepth 20000 in
theorem cw_71 : fCO 71 ∈ gT := gt_4 (List.mem_of_getElem? (i := 78) rfl) rfl
set_option maxRecDepth 20000 in
theorem cw_72 : fCO 72 ∈ gT := gt_4 (List.mem_of_getElem? (i := 110) rfl) rfl
set_option maxRecDepth 20000 in
theorem cw_73 : fCO 73 ∈ gT := gt_4 (List.mem_of_getElem? (i := 126) rfl) rfl
set_option maxRecDepth 20000 in
theorem cw_74 : fCO 74 ∈ gT := gt_4 (List.mem_of_getElem? (i := 143) rfl) rfl
set_option maxRecDepth 20000 in
theorem cw_75 : fCO 75 ∈ gT := gt_4 (List.mem_of_getElem? (i := 156) rfl) rfl
set_option maxRecDepth 20000 in
theorem cw_76 : fCO 76 ∈ gT := gt_4 (List.mem_of_getElem? (i := 160) rfl) rfl
set_option maxRecDepth 20000 in
theorem cw_77 : fCO 77 ∈ gT := gt_4 (List.mem_of_getElem? (i := 166) rfl) rfl
set_option maxRecDepth 20000 in
theorem cw_78 : fCO 78 ∈ gT := gt_4 (List.mem_of_getElem? (i := 180) rfl) rfl
set_option maxRecDepth 20000 in
theorem cw_79 : fCO 79 ∈ gT := gt_4 (List.mem_of_getElem? (i := 184) rfl) rfl
set_option maxRecDepth 20000 in
theorem cw_80 : fCO 80 ∈ gT := gt_4 (List.mem_of_getElem? (i := 192) rfl) rfl
set_option maxRecDepth 20000 in
theorem cw_81 : fCO 81 ∈ gT := gt_4 (List.mem_of_getElem? (i := 201) rfl) rfl
set_option maxRecDepth 20000 in
theorem cw_82 : fCO 82 ∈ gT := gt_4 (List.mem_of_getElem? (i := 210) rfl) rfl
set_option maxRecDepth 20000 in
theorem cw_83 : fCO 83 ∈ gT := gt_4 (List.mem_of_getElem? (i := 214) rfl) rfl
set_option maxRecDepth 20000 in
theorem cw_84 : fCO 84 ∈ gT := gt_5 (List.mem_of_getElem? (i := 3) rfl) rfl
set_option maxRecDepth 20000 in
theorem cw_85 : fCO 85 ∈ gT := gt_5 (List.mem_of_getElem? (i := 41) rfl) rfl
set_option maxRecDepth 20000 in
theorem cw_86 : fCO 86 ∈ gT := gt_5 (List.mem_of_getElem? (i := 233) rfl) rfl
set_option maxRecDepth 20000 in
theorem cw_87 : fCO 87 ∈ gT := gt_1 (List.mem_of_getElem? (i := 39) rfl) rfl
set_option maxRecDepth 20000 in
theorem cw_88 : fCO 88 ∈ gT := gt_2 (List.mem_of_getElem? (i := 217) rfl) rfl
set_option maxRecDepth 20000 in
theorem cw_89 : fCO 89 ∈ gT := gt_2 (List.mem_of_getElem? (i := 230) rfl) rfl
set_option maxRecDepth 20000 in
theorem cw_90 : fCO 90 ∈ gT := gt_2 (List.mem_of_getElem? (i := 234) rfl) rfl
set_option maxRecDepth 20000 in
theorem cw_91 : fCO 91 ∈ gT := gt_2 (List.mem_of_getElem? (i := 237) rfl) rfl
set_option maxRecDepth 20000 in
theorem cw_92 : fCO 92 ∈ gT := gt_3 (List.mem_of_getElem? (i := 0) rfl) rfl
set_option maxRecDepth 20000 in
theorem cw_93 : fCO 93 ∈ gT := gt_3 (List.mem_of_getElem? (i := 4) rfl) rfl
set_option maxRecDepth 20000 in
theorem cw_94 : fCO 94 ∈ gT := gt_3 (List.mem_of_getElem? (i := 8) rfl) rfl
set_option maxRecDepth 20000 in
theorem cw_95 : fCO 95 ∈ gT := gt_3 (List.mem_of_getElem? (i := 12) rfl) rfl
set_option maxRecDepth 20000 in
theorem cw_96 : fCO 96 ∈ gT := gt_3 (List.mem_of_getElem? (i := 108) rfl) rfl
set_option maxRecDepth 20000 in
theorem cw_97 : fCO 97 ∈ gT := gt_3 (List.mem_of_getElem? (i := 133) rfl) rfl
set_option maxRecDepth 20000 in
theorem cw_98 : fCO 98 ∈ gT := gt_3 (List.mem_of_getElem? (i := 141) rfl) rfl
set_option maxRecDepth 20000 in
theorem cw_99 : fCO 99 ∈ gT := gt_3 (List.mem_of_getElem? (i := 150) rfl) rfl
set_option maxRecDepth 20000 in
theorem cw_100 : fCO 100 ∈ gT := gt_3 (List.mem_of_getElem? (i := 165) rfl) rfl
set_option maxRecDepth 20000 in
theorem cw_101 : fCO 101 ∈ gT := gt_3 (List.mem_of_getElem? (i := 171) rfl) rfl
set_option maxRecDepth 20000 in
theorem cw_102 : fCO 102 ∈ gT := gt_3 (List.mem_of_getElem? (i := 175) rfl) rfl
set_option maxRecDepth 20000 in
theorem cw_103 : fCO 103 ∈ gT := gt_3 (List.mem_of_getElem? (i := 179) rfl) rfl
set_option maxRecDepth 20000 in
theorem cw_104 : fCO 104 ∈ gT := gt_3 (List.mem_of_getElem? (i := 228) rfl) rfl
set_option maxRecDepth 20000 in
theorem cw_105 : fCO 105 ∈ gT := gt_3 (List.mem_of_getElem? (i := 233) rfl) rfl
set_option maxRecDepth 20000 in
theorem cw_106 : fCO 106 ∈ gT := gt_4 (List.mem_of_getElem? (i := 4) rfl) rfl
set_option maxRecDepth 20000 in
theorem cw_107 : fCO 107 ∈ gT := gt_1 (List.mem_of_getElem? (i := 31) rfl) rfl
set_option maxRecDepth 20000 in
theorem cw_108 : fCO 108 ∈ gT := gt_2 (List.mem_of_getElem? (i := 208) rfl) rfl
set_option maxRecDepth 20000 in
theorem cw_109 : fCO 109 ∈ gT := gt_2 (List.mem_of_getElem? (i := 212) rfl) rfl
set_option maxRecDepth 20000 in
theorem cw_110 : fCO 110 ∈ gT := gt_2 (List.mem_of_getElem? (i := 221) rfl) rfl
set_option maxRecDepth 20000 in
theorem cw_111 : fCO 111 ∈ gT := gt_4 (List.mem_of_getElem? (i := 31) rfl) rfl
set_option maxRecDepth 20000 in
theorem cw_112 : fCO 112 ∈ gT := gt_4 (List.mem_of_getElem? (i := 66) rfl) rfl
set_option maxRecDepth 20000 in
theorem cw_113 : fCO 113 ∈ gT := gt_4 (List.mem_of_getElem? (i := 114) rfl) rfl
set_option maxRecDepth 20000 in
theorem cw_114 : fCO 114 ∈ gT := gt_4 (List.mem_of_getElem? (i := 122) rfl) rfl
set_option maxRecDepth 20000 in
theorem cw_115 : fCO 115 ∈ gT := gt_4 (List.mem_of_getElem? (i := 139) rfl) rfl
set_option maxRecDepth 20000 in
theorem cw_116 : fCO 116 ∈ gT := gt_4 (List.mem_of_getElem? (i := 176) rfl) rfl
set_option maxRecDepth 20000 in
theorem cw_117 : fCO 117 ∈ gT := gt_4 (List.mem_of_getElem? (i := 188) rfl) rfl
set_option maxRecDepth 20000 in
theorem cw_118 : fCO 118 ∈ gT := gt_4 (List.mem_of_getElem? (i := 197) rfl) rfl
set_option maxRecDepth 20000 in
theorem cw_119 : fCO 119 ∈ gT := gt_4 (List.mem_of_getElem? (i := 206) rfl) rfl
set_option maxRecDepth 20000 in
theorem cw_120 : fCO 120 ∈ gT := gt_4 (List.mem_of_getElem? (i := 220) rfl) rfl
set_option maxRecDepth 20000 in
theorem cw_121 : fCO 121 ∈ gT := gt_4 (List.mem_of_getElem? (i := 228) rfl) rfl
set_option maxRecDepth 20000 in
theorem cw_122 : fCO 122 ∈ gT := gt_5 (List.mem_of_getElem? (i := 7) rfl) rfl
set_option maxRecDepth 20000 in
theorem cw_123 : fCO 123 ∈ gT := gt_5 (List.mem_of_getElem? (i := 11) rfl) rfl
set_option maxRecDepth 20000 in
theorem cw_124 : fCO 124 ∈ gT := gt_5 (List.mem_of_getElem? (i := 15) rfl) rfl
set_option maxRecDepth 20000 in
theorem cw_125 : fCO 125 ∈ gT := gt_5 (List.mem_of_getElem? (i := 20) rfl) rfl
set_option maxRecDepth 20000 in
theorem cw_126 : fCO 126 ∈ gT := gt_5 (List.mem_of_getElem? (i := 25) rfl) rfl
set_option maxRecDepth 20000 in
theorem cw_127 : fCO 127 ∈ gT := gt_5 (List.mem_of_getElem? (i := 29) rfl) rfl
set_option maxRecDepth 20000 in
theorem cw_128 : fCO 128 ∈ gT := gt_5 (List.mem_of_getElem? (i := 33) rfl) rfl
set_option maxRecDepth 20000 in
theorem cw_129 : fCO 129 ∈ gT := gt_5 (List.mem_of_getElem? (i := 37) rfl) rfl
set_option maxRecDepth 20000 in
theorem cw_130 : fCO 130 ∈ gT := gt_5 (List.mem_of_getElem? (i := 69) rfl) rfl
set_option maxRecDepth 20000 in
theorem cw_131 : fCO 131 ∈ gT := gt_5 (List.mem_of_getElem? (i := 73) rfl) rfl
set_option maxRecDepth 20000 in
theorem cw_132 : fCO 132 ∈ gT := gt_5 (List.mem_of_getElem? (i := 99) rfl) rfl
set_option maxRecDepth 20000 in
theorem cw_133 : fCO 133 ∈ gT := gt_5 (List.mem_of_getElem? (i := 103) rfl) rfl
set_option maxRecDepth 20000 in
theorem cw_134 : fCO 134 ∈ gT := gt_5 (List.mem_of_getElem? (i := 107) rfl) rfl
set_option maxRecDepth 20000 in
theorem cw_135 : fCO 135 ∈ gT := gt_5 (List.mem_of_getElem? (i := 113) rfl) rfl
set_option maxRecDepth 20000 in
theorem cw_136 : fCO 136 ∈ gT := gt_5 (List.mem_of_getElem? (i := 117) rfl) rfl
set_option maxRecDepth 20000 in
theorem cw_137 : fCO 137 ∈ gT := gt_5 (List.mem_of_getElem? (i := 121) rfl) rfl
set_option maxRecDepth 20000 in
theorem cw_138 : fCO 138 ∈ gT := gt_5 (List.mem_of_getElem? (i := 125) rfl) rfl
set_option maxRecDepth 20000 in
theorem cw_139 : fCO 139 ∈ gT := gt_5 (List.mem_of_getElem? (i := 129) rfl) rfl
set_option maxRecDepth 20000 in
theorem cw_140 : fCO 140 ∈ gT := gt_5 (List.mem_of_getElem? (i := 137) rfl) rfl
set_option maxRecDepth 20000 in
theorem cw_141 : fCO 141 ∈ gT := gt_5 (List.mem_of_getElem? (i := 146) rfl) rfl
set_option maxRecDepth 20000 in
theorem cw_142 : fCO 142 ∈ gT := gt_5 (List.mem_of_getElem? (i := 150) rfl) rfl
set_option maxRecDepth 20000 in
theorem cw_143 : fCO 143 ∈ gT := gt_5 (List.mem_of_getElem? (i := 156) rfl) rfl
set_option maxRecDepth 20000 in
theorem cw_144 : fCO 144 ∈ gT := gt_5 (List.mem_of_getElem? (i := 160) rfl) rfl
set_option maxRecDepth 20000 in
theorem cw_145 : fCO 145 ∈ gT := gt_5 (List.mem_of_getElem? (i := 164) rfl) rfl
set_option maxRecDepth 20000 in
theorem cw_146 : fCO 146 ∈ gT := gt_5 (List.mem_of_getElem? (i := 174) rfl) rfl
set_option maxRecDepth 20000 in
theorem cw_147 : fCO 147 ∈ gT := gt_5 (List.mem_of_getElem? (i := 178) rfl) rfl
set_option maxRecDepth 20000 in
theorem cw_148 : fCO 148 ∈ gT := gt_5 (List.mem_of_getElem? (i := 182) rfl) rfl
set_option maxRecDepth 20000 in
theorem cw_149 : fCO 149 ∈ gT := gt_5 (List.mem_of_getElem? (i := 187) rfl) rfl
set_option maxRecDepth 20000 in
theorem cw_150 : fCO 150 ∈ gT := gt_5 (List.mem_of_getElem? (i := 191) rfl) rfl
set_option maxRecDepth 20000 in
theorem cw_151 : fCO 151 ∈ gT := gt_5 (List.mem_of_getElem? (i := 195) rfl) rfl
set_option maxRecDepth 20000 in
theorem cw_152 : fCO 152 ∈ gT := gt_5 (List.mem_of_getElem? (i := 199) rfl) rfl
set_option maxRecDepth 20000 in
theorem cw_153 : fCO 153 ∈ gT := gt_5 (List.mem_of_getElem? (i := 203) rfl) rfl
set_option maxRecDepth 20000 in
theorem cw_154 : fCO 154 ∈ gT := gt_5 (List.mem_of_getElem? (i := 211) rfl) rfl
set_option maxRecDepth 20000 in
theorem cw_155 : fCO 155 ∈ gT := gt_5 (List.mem_of_getElem? (i := 228) rfl) rfl
set_option maxRecDepth 20000 in
theorem cw_156 : fCO 156 ∈ gT := gt_6 (List.mem_of_getElem? (i := 1) rfl) rfl
set_option maxRecDepth 20000 in
theorem cw_157 : fCO 157 ∈ gT := gt_6 (List.mem_of_getElem? (i := 4) rfl) rfl
set_option maxRecDepth 20000 in
theorem cw_158 : fCO 158 ∈ gT := gt_6 (List.mem_of_getElem? (i := 72) rfl) rfl
set_option maxRecDepth 20000 in
theorem cw_159 : fCO 159 ∈ gT := gt_6 (List.mem_of_getElem? (i := 77) rfl) rfl
set_option maxRecDepth 20000 in
theorem cw_160 : fCO 160 ∈ gT := gt_6 (List.mem_of_getElem? (i := 81) rfl) rfl
set_option maxRecDepth 20000 in
theorem cw_161 : fCO 161 ∈ gT := gt_6 (List.mem_of_getElem? (i := 86) rfl) rfl
set_option maxRecDepth 20000 in
theorem cw_162 : fCO 162 ∈ gT := gt_6 (List.mem_of_getElem? (i := 90) rfl) rfl
set_option maxRecDepth 20000 in
theorem cw_163 : fCO 163 ∈ gT := gt_6 (List.mem_of_getElem? (i := 124) rfl) rfl
set_option maxRecDepth 20000 in
theorem cw_164 : fCO 164 ∈ gT := gt_6 (List.mem_of_getElem? (i := 128) rfl) rfl
set_option maxRecDepth 20000 in
theorem cw_165 : fCO 165 ∈ gT := gt_6 (List.mem_of_getElem? (i := 132) rfl) rfl
set_option maxRecDepth 20000 in
theorem cw_166 : fCO 166 ∈ gT := gt_6 (List.mem_of_getElem? (i := 136) rfl) rfl
set_option maxRecDepth 20000 in
theorem cw_167 : fCO 167 ∈ gT := gt_6 (List.mem_of_getElem? (i := 140) rfl) rfl
set_option maxRecDepth 20000 in
theorem cw_168 : fCO 168 ∈ gT := gt_6 (List.mem_of_getElem? (i := 144) rfl) rfl
set_option maxRecDepth 20000 in
theorem cw_169 : fCO 169 ∈ gT := gt_6 (List.mem_of_getElem? (i := 148) rfl) rfl
set_option maxRecDepth 20000 in
theorem cw_170 : fCO 170 ∈ gT := gt_7 (List.mem_of_getElem? (i := 18) rfl) rfl
set_option maxRecDepth 20000 in
theorem cw_171 : fCO 171 ∈ gT := gt_7 (List.mem_of_getElem? (i := 22) rfl) rfl
set_option maxRecDepth 20000 in
theorem cw_172 : fCO 172 ∈ gT := gt_7 (List.mem_of_getElem? (i := 25) rfl) rfl
set_option maxRecDepth 20000 in
theorem cw_173 : fCO 173 ∈ gT := gt_7 (List.mem_of_getElem? (i := 29) rfl) rfl
set_option maxRecDepth 20000 in
theorem cw_174 : fCO 174 ∈ gT := gt_7 (List.mem_of_getElem? (i := 32) rfl) rfl
set_option maxRecDepth 20000 in
theorem cw_175 : fCO 175 ∈ gT := gt_7 (List.mem_of_getElem? (i := 37) rfl) rfl
set_option maxRecDepth 20000 in
theorem cw_176 : fCO 176 ∈ gT := gt_7 (List.mem_of_getElem? (i := 41) rfl) rfl
set_option maxRecDepth 20000 in
theorem cw_177 : fCO 177 ∈ gT := gt_7 (List.mem_of_getElem? (i := 45) rfl) rfl
set_option maxRecDepth 20000 in
theorem cw_178 : fCO 178 ∈ gT := gt_7 (List.mem_of_getElem? (i := 49) rfl) rfl
set_option maxRecDepth 20000 in
theorem cw_179 : fCO 179 ∈ gT := gt_7 (List.mem_of_getElem? (i := 53) rfl) rfl
set_option maxRecDepth 20000 in
theorem cw_180 : fCO 180 ∈ gT := gt_7 (List.mem_of_getElem? (i := 57) rfl) rfl
set_option maxRecDepth 20000 in
theorem cw_181 : fCO 181 ∈ gT := gt_7 (List.mem_of_getElem? (i := 61) rfl) rfl
set_option maxRecDepth 20000 in
theorem cw_182 : fCO 182 ∈ gT := gt_7 (List.mem_of_getElem? (i := 65) rfl) rfl
set_option maxRecDepth 20000 in
theorem cw_183 : fCO 183 ∈ gT := gt_7 (List.mem_of_getElem? (i := 69) rfl) rfl
set_option maxRecDepth 20000 in
theorem cw_184 : fCO 184 ∈ gT := gt_7 (List.mem_of_getElem? (i := 73) rfl) rfl
set_option maxRecDepth 20000 in
theorem cw_185 : fCO 185 ∈ gT := gt_7 (List.mem_of_getElem? (i := 77) rfl) rfl
set_option maxRecDepth 20000 in
theorem cw_186 : fCO 186 ∈ gT := gt_7 (List.mem_of_getElem? (i := 81) rfl) rfl
set_option maxRecDepth 20000 in
theorem cw_187 : fCO 187 ∈ gT := gt_7 (List.mem_of_getElem? (i := 85) rfl) rfl
set_option maxRecDepth 20000 in
theorem cw_188 : fCO 188 ∈ gT := gt_7 (List.mem_of_getElem? (i := 89) rfl) rfl
set_option maxRecDepth 20000 in
theorem cw_189 : fCO 189 ∈ gT := gt_7 (List.mem_of_getElem? (i := 93) rfl) rfl
set_option maxRecDepth 20000 in
theorem cw_190 : fCO 190 ∈ gT := gt_7 (List.mem_of_getElem? (i := 97) rfl) rfl
set_option maxRecDepth 20000 in
theorem cw_191 : fCO 191 ∈ gT := gt_7 (List.mem_of_getElem? (i := 101) rfl) rfl
set_option maxRecDepth 20000 in
theorem cw_192 : fCO 192 ∈ gT := gt_7 (List.mem_of_getElem? (i := 105) rfl) rfl
set_option maxRecDepth 20000 in
theorem cw_193 : fCO 193 ∈ gT := gt_7 (List.mem_of_getElem? (i := 109) rfl) rfl
set_option maxRecDepth 20000 in
theorem cw_194 : fCO 194 ∈ gT := gt_7 (List.mem_of_getElem? (i := 113) rfl) rfl
set_option maxRecDepth 20000 in
theorem cw_195 : fCO 195 ∈ gT := gt_7 (List.mem_of_getElem? (i := 117) rfl) rfl
set_option maxRecDepth 20000 in
theorem cw_196 : fCO 196 ∈ gT := gt_7 (List.mem_of_getElem? (i := 121) rfl) rfl
set_option maxRecDepth 20000 in
theorem cw_197 : fCO 197 ∈ gT := gt_7 (List.mem_of_getElem? (i := 125) rfl) rfl
set_option maxRecDepth 20000 in
theorem cw_198 : fCO 198 ∈ gT := gt_7 (List.mem_of_getElem? (i := 129) rfl) rfl
set_option maxRecDepth 20000 in
theorem cw_199 : fCO 199 ∈ gT := gt_7 (List.mem_of_getElem? (i := 133) rfl) rfl
set_option maxRecDepth 20000 in
theorem cw_200 : fCO 200 ∈ gT := gt_7 (List.mem_of_getElem? (i := 137) rfl) rfl
set_option maxRecDepth 20000 in
theorem cw_201 : fCO 201 ∈ gT := gt_7 (List.mem_of_getElem? (i := 140) rfl) rfl
set_option maxRecDepth 20000 in
theorem cw_202 : fCO 202 ∈ gT := gt_7 (List.mem_of_getElem? (i := 144) rfl) rfl
set_option maxRecDepth 20000 in
theorem cw_203 : fCO 203 ∈ gT := gt_7 (List.mem_of_getElem? (i := 148) rfl) rfl
set_option maxRecDepth 20000 in
theorem cw_204 : fCO 204 ∈ gT := gt_7 (List.mem_of_getElem? (i := 152) rfl) rfl
set_option maxRecDepth 20000 in
theorem cw_205 : fCO 205 ∈ gT := gt_7 (List.mem_of_getElem? (i := 156) rfl) rfl
set_option maxRecDepth 20000 in
theorem cw_206 : fCO 206 ∈ gT := gt_7 (List.mem_of_getElem? (i := 160) rfl) rfl
set_option maxRecDepth 20000 in
theorem cw_207 : fCO 207 ∈ gT := gt_7 (List.mem_of_getElem? (i := 164) rfl) rfl
set_option maxRecDepth 20000 in
theorem cw_208 : fCO 208 ∈ gT := gt_7 (List.mem_of_getElem? (i := 168) rfl) rfl
set_option maxRecDepth 20000 in
theorem cw_209 : fCO 209 ∈ gT := gt_7 (List.mem_of_getElem? (i := 171) rfl) rfl
set_option maxRecDepth 20000 in
theorem cw_210 : fCO 210 ∈ gT := gt_7 (List.mem_of_getElem? (i := 175) rfl) rfl
set_option maxRecDepth 20000 in
theorem cw_211 : fCO 211 ∈ gT := gt_7 (List.mem_of_getElem? (i := 179) rfl) rfl
set_option maxRecDepth 20000 in
theorem cw_212 : fCO 212 ∈ gT := gt_7 (List.mem_of_getElem? (i := 183) rfl) rfl
set_option maxRecDepth 20000 in
theorem cw_213 : fCO 213 ∈ gT := gt_7 (List.mem_of_getElem? (i := 187) rfl) rfl
set_option maxRecDepth 20000 in
theorem cw_214 : fCO 214 ∈ gT := gt_7 (List.mem_of_getElem? (i := 191) rfl) rfl
set_option maxRecDepth 20000 in
theorem cw_215 : fCO 215 ∈ gT := gt_7 (List.mem_of_getElem? (i := 195) rfl) rfl
set_option maxRecDepth 20000 in
theorem cw_216 : fCO 216 ∈ gT := gt_7 (List.mem_of_getElem? (i := 198) rfl) rfl
set_option maxRecDepth 20000 in
theorem cw_217 : fCO 217 ∈ gT := gt_7 (List.mem_of_getElem? (i := 202) rfl) rfl
set_option maxRecDepth 20000 in
theorem cw_218 : fCO 218 ∈ gT := gt_7 (List.mem_of_getElem? (i := 206) rfl) rfl
set_option maxRecDepth 20000 in
theorem cw_219 : fCO 219 ∈ gT := gt_7 (List.mem_of_getElem? (i := 210) rfl) rfl
set_option maxRecDepth 20000 in
theorem cw_220 : fCO 220 ∈ gT := gt_7 (List.mem_of_getElem? (i := 214) rfl) rfl
set_option maxRecDepth 20000 in
theorem cw_221 : fCO 221 ∈ gT := gt_7 (List.mem_of_getElem? (i := 218) rfl) rfl
set_option maxRecDepth 20000 in
theorem cw_222 : fCO 222 ∈ gT := gt_7 (List.mem_of_getElem? (i := 222) rfl) rfl
set_option maxRecDepth 20000 in
theorem cw_223 : fCO 223 ∈ gT := gt_7 (List.mem_of_getElem? (i := 226) rfl) rfl
set_option maxRecDepth 20000 in
theorem cw_224 : fCO 224 ∈ gT := gt_7 (List.mem_of_getElem? (i := 230) rfl) rfl
set_option maxRecDepth 20000 in
theorem cw_225 : fCO 225 ∈ gT := gt_7 (List.mem_of_getElem? (i := 234) rfl) rfl
set_option maxRecDepth 20000 in
theorem cw_226 : fCO 226 ∈ gT := gt_7 (List.mem_of_getElem? (i := 238) rfl) rfl
set_option maxRecDepth 20000 in
theorem cw_227 : fCO 227 ∈ gT := gt_8 (List.mem_of_getElem? (i := 2) rfl) rfl
set_option maxRecDepth 20000 in
theorem cw_228 : fCO 228 ∈ gT := gt_8 (List.mem_of_getElem? (i := 6) rfl) rfl
set_option maxRecDepth 20000 in
theorem cw_229 : fCO 229 ∈ gT := gt_8 (List.mem_of_getElem? (i := 10) rfl) rfl
set_option maxRecDepth 20000 in
theorem cw_230 : fCO 230 ∈ gT := gt_8 (List.mem_of_getElem? (i := 14) rfl) rfl
set_option maxRecDepth 20000 in
theorem cw_231 : fCO 231 ∈ gT := gt_8 (List.mem_of_getElem? (i := 18) rfl) rfl
set_option maxRecDepth 20000 in
theorem cw_232 : fCO 232 ∈ gT := gt_8 (List.mem_of_getElem? (i := 22) rfl) rfl
set_option maxRecDepth 20000 in
theorem cw_233 : fCO 233 ∈ gT := gt_8 (List.mem_of_getElem? (i := 26) rfl) rfl
set_option maxRecDepth 20000 in
theorem cw_234 : fCO 234 ∈ gT := gt_8 (List.mem_of_getElem? (i := 30) rfl) rfl
set_option maxRecDepth 20000 in
theorem cw_235 : fCO 235 ∈ gT := gt_8 (List.mem_of_getElem? (i := 34) rfl) rfl
set_option maxRecDepth 20000 in
theorem cw_236 : fCO 236 ∈ gT := gt_8 (List.mem_of_getElem? (i := 38) rfl) rfl
set_option maxRecDepth 20000 in
theorem cw_237 : fCO 237 ∈ gT := gt_8 (List.mem_of_getElem? (i := 42) rfl) rfl
set_option maxRecDepth 20000 in
theorem cw_238 : fCO 238 ∈ gT := gt_8 (List.mem_of_getElem? (i := 46) rfl) rfl
set_option maxRecDepth 20000 in
theorem cw_239 : fCO 239 ∈ gT := gt_8 (List.mem_of_getElem? (i := 50) rfl) rfl
set_option maxRecDepth 20000 in
theorem cw_240 : fCO 240 ∈ gT := gt_8 (List.mem_of_getElem? (i := 54) rfl) rfl
set_option maxRecDepth 20000 in
theorem cw_241 : fCO 241 ∈ gT := gt_8 (List.mem_of_getElem? (i := 58) rfl) rfl
set_option maxRecDepth 20000 in
theorem cw_242 : fCO 242 ∈ gT := gt_8 (List.mem_of_getElem? (i := 62) rfl) rfl
set_option maxRecDepth 20000 in
theorem cw_243 : fCO 243 ∈ gT := gt_8 (List.mem_of_getElem? (i := 66) rfl) rfl
set_option maxRecDepth 20000 in
theorem cw_244 : fCO 244 ∈ gT := gt_8 (List.mem_of_getElem? (i := 70) rfl) rfl
set_option maxRecDepth 20000 in
theorem cw_245 : fCO 245 ∈ gT := gt_8 (List.mem_of_getElem? (i := 74) rfl) rfl
set_option maxRecDepth 20000 in
theorem cw_246 : fCO 246 ∈ gT := gt_8 (List.mem_of_getElem? (i := 77) rfl) rfl
set_option maxRecDepth 20000 in
theorem cw_247 : fCO 247 ∈ gT := gt_8 (List.mem_of_getElem? (i := 81) rfl) rfl
set_option maxRecDepth 20000 in
theorem cw_248 : fCO 248 ∈ gT := gt_8 (List.mem_of_getElem? (i := 85) rfl) rfl
set_option maxRecDepth 20000 in
theorem cw_249 : fCO 249 ∈ gT := gt_8 (List.mem_of_getElem? (i := 89) rfl) rfl
set_option maxRecDepth 20000 in
theorem cw_250 : fCO 250 ∈ gT := gt_8 (List.mem_of_getElem? (i := 93) rfl) rfl
set_option maxRecDepth 20000 in
theorem cw_251 : fCO 251 ∈ gT := gt_8 (List.mem_of_getElem? (i := 97) rfl) rfl
set_option maxRecDepth 20000 in
theorem cw_252 : fCO 252 ∈ gT := gt_8 (List.mem_of_getElem? (i := 101) rfl) rfl
set_option maxRecDepth 20000 in
theorem cw_253 : fCO 253 ∈ gT := gt_8 (List.mem_of_getElem? (i := 105) rfl) rfl
set_option maxRecDepth 20000 in
theorem cw_254 : fCO 254 ∈ gT := gt_8 (List.mem_of_getElem? (i := 109) rfl) rfl
set_option maxRecDepth 20000 in
theorem cw_255 : fCO 255 ∈ gT := gt_8 (List.mem_of_getElem? (i := 113) rfl) rfl
set_option maxRecDepth 20000 in
theorem cw_256 : fCO 256 ∈ gT := gt_8 (List.mem_of_getElem? (i := 117) rfl) rfl
set_option maxRecDepth 20000 in
theorem cw_257 : fCO 257 ∈ gT := gt_8 (List.mem_of_getElem? (i := 121) rfl) rfl
set_option maxRecDepth 20000 in
theorem cw_258 : fCO 258 ∈ gT := gt_8 (List.mem_of_getElem? (i := 125) rfl) rfl
set_option maxRecDepth 20000 in
theorem cw_259 : fCO 259 ∈ gT := gt_8 (List.mem_of_getElem? (i := 129) rfl) rfl
set_option maxRecDepth 20000 in
theorem cw_260 : fCO 260 ∈ gT := gt_8 (List.mem_of_getElem? (i := 133) rfl) rfl
set_option maxRecDepth 20000 in
theorem cw_261 : fCO 261 ∈ gT := gt_8 (List.mem_of_getElem? (i := 137) rfl) rfl
set_option maxRecDepth 20000 in
theorem cw_262 : fCO 262 ∈ gT := gt_8 (List.mem_of_getElem? (i := 141) rfl) rfl
set_option maxRecDepth 20000 in
theorem cw_263 : fCO 263 ∈ gT := gt_8 (List.mem_of_getElem? (i := 145) rfl) rfl
set_option maxRecDepth 20000 in
theorem cw_264 : fCO 264 ∈ gT := gt_8 (List.mem_of_getElem? (i := 149) rfl) rfl
set_option maxRecDepth 20000 in
theorem cw_265 : fCO 265 ∈ gT := gt_8 (List.mem_of_getElem? (i := 154) rfl) rfl
set_option maxRecDepth 20000 in
theorem cw_266 : fCO 266 ∈ gT := gt_8 (List.mem_of_getElem? (i := 157) rfl) rfl
set_option maxRecDepth 20000 in
theorem cw_267 : fCO 267 ∈ gT := gt_8 (List.mem_of_getElem? (i := 161) rfl) rfl
set_option maxRecDepth 20000 in
theorem cw_268 : fCO 268 ∈ gT := gt_8 (List.mem_of_getElem? (i := 165) rfl) rfl
set_option maxRecDepth 20000 in
theorem cw_269 : fCO 269 ∈ gT := gt_8 (List.mem_of_getElem? (i := 169) rfl) rfl
set_option maxRecDepth 20000 in
theorem cw_270 : fCO 270 ∈ gT := gt_8 (List.mem_of_getElem? (i := 177) rfl) rfl
set_option maxRecDepth 20000 in
theorem cw_271 : fCO 271 ∈ gT := gt_8 (List.mem_of_getElem? (i := 181) rfl) rfl
set_option maxRecDepth 20000 in
theorem cw_272 : fCO 272 ∈ gT := gt_8 (List.mem_of_getElem? (i := 185) rfl) rfl
set_option maxRecDepth 20000 in
theorem cw_273 : fCO 273 ∈ gT := gt_3 (List.mem_of_getElem? (i := 17) rfl) rfl
set_option maxRecDepth 20000 in
theorem cw_274 : fCO 274 ∈ gT := gt_3 (List.mem_of_getElem? (i := 21) rfl) rfl
set_option maxRecDepth 20000 in
theorem cw_275 : fCO 275 ∈ gT := gt_3 (List.mem_of_getElem? (i := 25) rfl) rfl
set_option maxRecDepth 20000 in
theorem cw_276 : fCO 276 ∈ gT := gt_3 (List.mem_of_getElem? (i := 31) rfl) rfl
set_option maxRecDepth 20000 in
theorem cw_277 : fCO 277 ∈ gT := gt_3 (List.mem_of_getElem? (i := 35) rfl) rfl
set_option maxRecDepth 20000 in
theorem cw_278 : fCO 278 ∈ gT := gt_3 (List.mem_of_getElem? (i := 113) rfl) rfl
set_option maxRecDepth 20000 in
theorem cw_279 : fCO 279 ∈ gT := gt_3 (List.mem_of_getElem? (i := 119) rfl) rfl
set_option maxRecDepth 20000 in
theorem cw_280 : fCO 280 ∈ gT := gt_3 (List.mem_of_getElem? (i := 38) rfl) rfl
set_option maxRecDepth 20000 in
theorem cw_281 : fCO 281 ∈ gT := gt_3 (List.mem_of_getElem? (i := 41) rfl) rfl
set_option maxRecDepth 20000 in
theorem cw_282 : fCO 282 ∈ gT := gt_3 (List.mem_of_getElem? (i := 50) rfl) rfl
set_option maxRecDepth 20000 in
theorem cw_283 : fCO 283 ∈ gT := gt_3 (List.mem_of_getElem? (i := 116) rfl) rfl
set_option maxRecDepth 20000 in
theorem cw_284 : fCO 284 ∈ gT := gt_2 (List.mem_of_getElem? (i := 157) rfl) rfl
set_option maxRecDepth 20000 in
theorem cw_285 : fCO 285 ∈ gT := gt_5 (List.mem_of_getElem? (i := 167) rfl) rfl
set_option maxRecDepth 20000 in
theorem cw_286 : fCO 286 ∈ gT := gt_3 (List.mem_of_getElem? (i := 44) rfl) rfl
set_option maxRecDepth 20000 in
theorem cw_287 : fCO 287 ∈ gT := gt_3 (List.mem_of_getElem? (i := 47) rfl) rfl
set_option maxRecDepth 20000 in
theorem cw_288 : fCO 288 ∈ gT := gt_4 (List.mem_of_getElem? (i := 135) rfl) rfl
set_option maxRecDepth 20000 in
theorem cw_289 : fCO 289 ∈ gT := gt_3 (List.mem_of_getElem? (i := 122) rfl) rfl
def coL_0 : List Nat := [0, 1, 2, 3, 4, 5, 6, 7, 8, 9, 10, 11, 12, 13, 14, 15, 16, 17, 18, 19, 20, 21, 22, 23]
theorem coK_0 : ∀ j ∈ coL_0, fCO j ∈ gT := List.forall_mem_cons.mpr ⟨cw_0, List.forall_mem_cons.mpr ⟨cw_1, List.forall_mem_cons.mpr ⟨cw_2, List.forall_mem_cons.mpr ⟨cw_3, List.forall_mem_cons.mpr ⟨cw_4, List.forall_mem_cons.mpr ⟨cw_5, List.forall_mem_cons.mpr ⟨cw_6, List.forall_mem_cons.mpr ⟨cw_7, List.forall_mem_cons.mpr ⟨cw_8, List.forall_mem_cons.mpr ⟨cw_9, List.forall_mem_cons.mpr ⟨cw_10, List.forall_mem_cons.mpr ⟨cw_11, List.forall_mem_cons.mpr ⟨cw_12, List.forall_mem_cons.mpr ⟨cw_13, List.forall_mem_cons.mpr ⟨cw_14, List.forall_mem_cons.mpr ⟨cw_15, List.forall_mem_cons.mpr ⟨cw_16, List.forall_mem_cons.mpr ⟨cw_17, List.forall_mem_cons.mpr ⟨cw_18, List.forall_mem_cons.mpr ⟨cw_19, List.forall_mem_cons.mpr ⟨cw_20, List.forall_mem_cons.mpr ⟨cw_21, List.forall_mem_cons.mpr ⟨cw_22, List.forall_mem_cons.mpr ⟨cw_23, fun _ h => absurd h List.not_mem_nil⟩⟩⟩⟩⟩⟩⟩⟩⟩⟩⟩⟩⟩⟩⟩⟩⟩⟩⟩⟩⟩⟩⟩⟩
def coL_1 : List Nat := [24, 25, 26, 27, 28, 29, 30, 31, 32, 33, 34, 35, 36, 37, 38, 39, 40, 41, 42, 43, 44, 45, 46, 47]
theorem coK_1 : ∀ j ∈ coL_1, fCO j ∈ gT := List.forall_mem_cons.mpr ⟨cw_24, List.forall_mem_cons.mpr ⟨cw_25, List.forall_mem_cons.mpr ⟨cw_26, List.forall_mem_cons.mpr ⟨cw_27, List.forall_mem_cons.mpr ⟨cw_28, List.forall_mem_cons.mpr ⟨cw_29, List.forall_mem_cons.mpr ⟨cw_30, List.forall_mem_cons.mpr ⟨cw_31, List.forall_mem_cons.mpr ⟨cw_32, List.forall_mem_cons.mpr ⟨cw_33, List.forall_mem_cons.mpr ⟨cw_34, List.forall_mem_cons.mpr ⟨cw_35, List.forall_mem_cons.mpr ⟨cw_36, List.forall_mem_cons.mpr ⟨cw_37, List.forall_mem_cons.mpr ⟨cw_38, List.forall_mem_cons.mpr ⟨cw_39, List.forall_mem_cons.mpr ⟨cw_40, List.forall_mem_cons.mpr ⟨cw_41, List.forall_mem_cons.mpr ⟨cw_42, List.forall_mem_cons.mpr ⟨cw_43, List.forall_mem_cons.mpr ⟨cw_44, List.forall_mem_cons.mpr ⟨cw_45, List.forall_mem_cons.mpr ⟨cw_46, List.forall_mem_cons.mpr ⟨cw_47, fun _ h => absurd h List.not_mem_nil⟩⟩⟩⟩⟩⟩⟩⟩⟩⟩⟩⟩⟩⟩⟩⟩⟩⟩⟩⟩⟩⟩⟩⟩
def coL_2 : List Nat := [48, 49, 50, 51, 52, 53, 54, 55, 56, 57, 58, 59, 60, 61, 62, 63, 64, 65, 66, 67, 68, 69, 70, 71]
theorem coK_2 : ∀ j ∈ coL_2, fCO j ∈ gT := List.forall_mem_cons.mpr ⟨cw_48, List.forall_mem_cons.mpr ⟨cw_49, List.forall_mem_cons.mpr ⟨cw_50, List.forall_mem_cons.mpr ⟨cw_51, List.forall_mem_cons.mpr ⟨cw_52, List.forall_mem_cons.mpr ⟨cw_53, List.forall_mem_cons.mpr ⟨cw_54, List.forall_mem_cons.mpr ⟨cw_55, List.forall_mem_cons.mpr ⟨cw_56, List.forall_mem_cons.mpr ⟨cw_57, List.forall_mem_cons.mpr ⟨cw_58, List.forall_mem_cons.mpr ⟨cw_59, List.forall_mem_cons.mpr ⟨cw_60, List.forall_mem_cons.mpr ⟨cw_61, List.forall_mem_cons.mpr ⟨cw_62, List.forall_mem_cons.mpr ⟨cw_63, List.forall_mem_cons.mpr ⟨cw_64, List.forall_mem_cons.mpr ⟨cw_65, List.forall_mem_cons.mpr ⟨cw_66, List.forall_mem_cons.mpr ⟨cw_67, List.forall_mem_cons.mpr ⟨cw_68, List.forall_mem_cons.mpr ⟨cw_69, List.forall_mem_cons.mpr ⟨cw_70, List.forall_mem_cons.mpr ⟨cw_71, fun _ h => absurd h List.not_mem_nil⟩⟩⟩⟩⟩⟩⟩⟩⟩⟩⟩⟩⟩⟩⟩⟩⟩⟩⟩⟩⟩⟩⟩⟩
def coL_3 : List Nat := [72, 73, 74, 75, 76, 77, 78, 79, 80, 81, 82, 83, 84, 85, 86, 87, 88, 89, 90, 91, 92, 93, 94, 95]
theorem coK_3 : ∀ j ∈ coL_3, fCO j ∈ gT := List.forall_mem_cons.mpr ⟨cw_72, List.forall_mem_cons.mpr ⟨cw_73, List.forall_mem_cons.mpr ⟨cw_74, List.forall_mem_cons.mpr ⟨cw_75, List.forall_mem_cons.mpr ⟨cw_76, List.forall_mem_cons.mpr ⟨cw_77, List.forall_mem_cons.mpr ⟨cw_78, List.forall_mem_cons.mpr ⟨cw_79, List.forall_mem_cons.mpr ⟨cw_80, List.forall_mem_cons.mpr ⟨cw_81, List.forall_mem_cons.mpr ⟨cw_82, List.forall_mem_cons.mpr ⟨cw_83, List.forall_mem_cons.mpr ⟨cw_84, List.forall_mem_cons.mpr ⟨cw_85, List.forall_mem_cons.mpr ⟨cw_86, List.forall_mem_cons.mpr ⟨cw_87, List.forall_mem_cons.mpr ⟨cw_88, List.forall_mem_cons.mpr ⟨cw_89, List.forall_mem_cons.mpr ⟨cw_90, List.forall_mem_cons.mpr ⟨cw_91, List.forall_mem_cons.mpr ⟨cw_92, List.forall_mem_cons.mpr ⟨cw_93, List.forall_mem_cons.mpr ⟨cw_94, List.forall_mem_cons.mpr ⟨cw_95, fun _ h => absurd h List.not_mem_nil⟩⟩⟩⟩⟩⟩⟩⟩⟩⟩⟩⟩⟩⟩⟩⟩⟩⟩⟩⟩⟩⟩⟩⟩
def coL_4 : List Nat := [96, 97, 98, 99, 100, 101, 102, 103, 104, 105, 106, 107, 108, 109, 110, 111, 112, 113, 114, 115, 116, 117, 118, 119]
theorem coK_4 : ∀ j ∈ coL_4, fCO j ∈ gT := List.forall_mem_cons.mpr ⟨cw_96, List.forall_mem_cons.mpr ⟨cw_97, List.forall_mem_cons.mpr ⟨cw_98, List.forall_mem_cons.mpr ⟨cw_99, List.forall_mem_cons.mpr ⟨cw_100, List.forall_mem_cons.mpr ⟨cw_101, List.forall_mem_cons.mpr ⟨cw_102, List.forall_mem_cons.mpr ⟨cw_103, List.forall_mem_cons.mpr ⟨cw_104, List.forall_mem_cons.mpr ⟨cw_105, List.forall_mem_cons.mpr ⟨cw_106, List.forall_mem_cons.mpr ⟨cw_107, List.forall_mem_cons.mpr ⟨cw_108, List.forall_mem_cons.mpr ⟨cw_109, List.forall_mem_cons.mpr ⟨cw_110, List.forall_mem_cons.mpr ⟨cw_111, List.forall_mem_cons.mpr ⟨cw_112, List.forall_mem_cons.mpr ⟨cw_113, List.forall_mem_cons.mpr ⟨cw_114, List.forall_mem_cons.mpr ⟨cw_115, List.forall_mem_cons.mpr ⟨cw_116, List.forall_mem_cons.mpr ⟨cw_117, List.forall_mem_cons.mpr ⟨cw_118, List.forall_mem_cons.mpr ⟨cw_119, fun _ h => absurd h List.not_mem_nil⟩⟩⟩⟩⟩⟩⟩⟩⟩⟩⟩⟩⟩⟩⟩⟩⟩⟩⟩⟩⟩⟩⟩⟩
def coL_5 : List Nat := [120, 121, 122, 123, 124, 125, 126, 127, 128, 129, 130, 131, 132, 133, 134, 135, 136, 137, 138, 139, 140, 141, 142, 143]
theorem coK_5 : ∀ j ∈ coL_5, fCO j ∈ gT := List.forall_mem_cons.mpr ⟨cw_120, List.forall_mem_cons.mpr ⟨cw_121, List.forall_mem_cons.mpr ⟨cw_122, List.forall_mem_cons.mpr ⟨cw_123, List.forall_mem_cons.mpr ⟨cw_124, List.forall_mem_cons.mpr ⟨cw_125, List.forall_mem_cons.mpr ⟨cw_126, List.forall_mem_cons.mpr ⟨cw_127, List.forall_mem_cons.mpr ⟨cw_128, List.forall_mem_cons.mpr ⟨cw_129, List.forall_mem_cons.mpr ⟨cw_130, List.forall_mem_cons.mpr ⟨cw_131, List.forall_mem_cons.mpr ⟨cw_132, List.forall_mem_cons.mpr ⟨cw_133, List.forall_mem_cons.mpr ⟨cw_134, List.forall_mem_cons.mpr ⟨cw_135, List.forall_mem_cons.mpr ⟨cw_136, List.forall_mem_cons.mpr ⟨cw_137, List.forall_mem_cons.mpr ⟨cw_138, List.forall_mem_cons.mpr ⟨cw_139, List.forall_mem_cons.mpr ⟨cw_140, List.forall_mem_cons.mpr ⟨cw_141, List.forall_mem_cons.mpr ⟨cw_142, List.forall_mem_cons.mpr ⟨cw_143, fun _ h => absurd h List.not_mem_nil⟩⟩⟩⟩⟩⟩⟩⟩⟩⟩⟩⟩⟩⟩⟩⟩⟩⟩⟩⟩⟩⟩⟩⟩
def coL_6 : List Nat := [144, 145, 146, 147, 148, 149, 150, 151, 152, 153, 154, 155, 156, 157, 158, 159, 160, 161, 162, 163, 164, 165, 166, 167]
theorem coK_6 : ∀ j ∈ coL_6, fCO j ∈ gT := List.forall_mem_cons.mpr ⟨cw_144, List.forall_mem_cons.mpr ⟨cw_145, List.forall_mem_cons.mpr ⟨cw_146, List.forall_mem_cons.mpr ⟨cw_147, List.forall_mem_cons.mpr ⟨cw_148, List.forall_mem_cons.mpr ⟨cw_149, List.forall_mem_cons.mpr ⟨cw_150, List.forall_mem_cons.mpr ⟨cw_151, List.forall_mem_cons.mpr ⟨cw_152, List.forall_mem_cons.mpr ⟨cw_153, List.forall_mem_cons.mpr ⟨cw_154, List.forall_mem_cons.mpr ⟨cw_155, List.forall_mem_cons.mpr ⟨cw_156, List.forall_mem_cons.mpr ⟨cw_157, List.forall_mem_cons.mpr ⟨cw_158, List.forall_mem_cons.mpr ⟨cw_159, List.forall_mem_cons.mpr ⟨cw_160, List.forall_mem_cons.mpr ⟨cw_161, List.forall_mem_cons.mpr ⟨cw_162, List.forall_mem_cons.mpr ⟨cw_163, List.forall_mem_cons.mpr ⟨cw_164, List.forall_mem_cons.mpr ⟨cw_165, List.forall_mem_cons.mpr ⟨cw_166, List.forall_mem_cons.mpr ⟨cw_167, fun _ h => absurd h List.not_mem_nil⟩⟩⟩⟩⟩⟩⟩⟩⟩⟩⟩⟩⟩⟩⟩⟩⟩⟩⟩⟩⟩⟩⟩⟩
def coL_7 : List Nat := [168, 169, 170, 171, 172, 173, 174, 175, 176, 177, 178, 179, 180, 181, 182, 183, 184, 185, 186, 187, 188, 189, 190, 191]
theorem coK_7 : ∀ j ∈ coL_7, fCO j ∈ gT := List.forall_mem_cons.mpr ⟨cw_168, List.forall_mem_cons.mpr ⟨cw_169, List.forall_mem_cons.mpr ⟨cw_170, List.forall_mem_cons.mpr ⟨cw_171, List.forall_mem_cons.mpr ⟨cw_172, List.forall_mem_cons.mpr ⟨cw_173, List.forall_mem_cons.mpr ⟨cw_174, List.forall_mem_cons.mpr ⟨cw_175, List.forall_mem_cons.mpr ⟨cw_176, List.forall_mem_cons.mpr ⟨cw_177, List.forall_mem_cons.mpr ⟨cw_178, List.forall_mem_cons.mpr ⟨cw_179, List.forall_mem_cons.mpr ⟨cw_180, List.forall_mem_cons.mpr ⟨cw_181, List.forall_mem_cons.mpr ⟨cw_182, List.forall_mem_cons.mpr ⟨cw_183, List.forall_mem_cons.mpr ⟨cw_184, List.forall_mem_cons.mpr ⟨cw_185, List.forall_mem_cons.mpr ⟨cw_186, List.forall_mem_cons.mpr ⟨cw_187, List.forall_mem_cons.mpr ⟨cw_188, List.forall_mem_cons.mpr ⟨cw_189, List.forall_mem_cons.mpr ⟨cw_190, List.forall_mem_cons.mpr ⟨cw_191, fun _ h => absurd h List.not_mem_nil⟩⟩⟩⟩⟩⟩⟩⟩⟩⟩⟩⟩⟩⟩⟩⟩⟩⟩⟩⟩⟩⟩⟩⟩
def coL_8 : List Nat := [192, 193, 194, 195, 196, 197, 198, 199, 200, 201, 202, 203, 204, 205, 206, 207, 208, 209, 210, 211, 212, 213, 214, 215]
theorem coK_8 : ∀ j ∈ coL_8, fCO j ∈ gT := List.forall_mem_cons.mpr ⟨cw_192, List.forall_mem_cons.mpr ⟨cw_193, List.forall_mem_cons.mpr ⟨cw_194, List.forall_mem_cons.mpr ⟨cw_195, List.forall_mem_cons.mpr ⟨cw_196, List.forall_mem_cons.mpr ⟨cw_197, List.forall_mem_cons.mpr ⟨cw_198, List.forall_mem_cons.mpr ⟨cw_199, List.forall_mem_cons.mpr ⟨cw_200, List.forall_mem_cons.mpr ⟨cw_201, List.forall_mem_cons.mpr ⟨cw_202, List.forall_mem_cons.mpr ⟨cw_203, List.forall_mem_cons.mpr ⟨cw_204, List.forall_mem_cons.mpr ⟨cw_205, List.forall_mem_cons.mpr ⟨cw_206, List.forall_mem_cons.mpr ⟨cw_207, List.forall_mem_cons.mpr ⟨cw_208, List.forall_mem_cons.mpr ⟨cw_209, List.forall_mem_cons.mpr ⟨cw_210, List.forall_mem_cons.mpr ⟨cw_211, List.forall_mem_cons.mpr ⟨cw_212, List.forall_mem_cons.mpr ⟨cw_213, List.forall_mem_cons.mpr ⟨cw_214, List.forall_mem_cons.mpr ⟨cw_215, fun _ h => absurd h List.not_mem_nil⟩⟩⟩⟩⟩⟩⟩⟩⟩⟩⟩⟩⟩⟩⟩⟩⟩⟩⟩⟩⟩⟩⟩⟩
def coL_9 : List Nat := [216, 217, 218, 219, 220, 221, 222, 223, 224, 225, 226, 227, 228, 229, 230, 231, 232, 233, 234, 235, 236, 237, 238, 239]
theorem coK_9 : ∀ j ∈ coL_9, fCO j ∈ gT := List.forall_mem_cons.mpr ⟨cw_216, List.forall_mem_cons.mpr ⟨cw_217, List.forall_mem_cons.mpr ⟨cw_218, List.forall_mem_cons.mpr ⟨cw_219, List.forall_mem_cons.mpr ⟨cw_220, List.forall_mem_cons.mpr ⟨cw_221, List.forall_mem_cons.mpr ⟨cw_222, List.forall_mem_cons.mpr ⟨cw_223, List.forall_mem_cons.mpr ⟨cw_224, List.forall_mem_cons.mpr ⟨cw_225, List.forall_mem_cons.mpr ⟨cw_226, List.forall_mem_cons.mpr ⟨cw_227, List.forall_mem_cons.mpr ⟨cw_228, List.forall_mem_cons.mpr ⟨cw_229, List.forall_mem_cons.mpr ⟨cw_230, List.forall_mem_cons.mpr ⟨cw_231, List.forall_mem_cons.mpr ⟨cw_232, List.forall_mem_cons.mpr ⟨cw_233, List.forall_mem_cons.mpr ⟨cw_234, List.forall_mem_cons.mpr ⟨cw_235, List.forall_mem_cons.mpr ⟨cw_236, List.forall_mem_cons.mpr ⟨cw_237, List.forall_mem_cons.mpr ⟨cw_238, List.forall_mem_cons.mpr ⟨cw_239, fun _ h => absurd h List.not_mem_nil⟩⟩⟩⟩⟩⟩⟩⟩⟩⟩⟩⟩⟩⟩⟩⟩⟩⟩⟩⟩⟩⟩⟩⟩
def coL_10 : List Nat := [240, 241, 242, 243, 244, 245, 246, 247, 248, 249, 250, 251, 252, 253, 254, 255, 256, 257, 258, 259, 260, 261, 262, 263]
theorem coK_10 : ∀ j ∈ coL_10, fCO j ∈ gT := List.forall_mem_cons.mpr ⟨cw_240, List.forall_mem_cons.mpr ⟨cw_241, List.forall_mem_cons.mpr ⟨cw_242, List.forall_mem_cons.mpr ⟨cw_243, List.forall_mem_cons.mpr ⟨cw_244, List.forall_mem_cons.mpr ⟨cw_245, List.forall_mem_cons.mpr ⟨cw_246, List.forall_mem_cons.mpr ⟨cw_247, List.forall_mem_cons.mpr ⟨cw_248, List.forall_mem_cons.mpr ⟨cw_249, List.forall_mem_cons.mpr ⟨cw_250, List.forall_mem_cons.mpr ⟨cw_251, List.forall_mem_cons.mpr ⟨cw_252, List.forall_mem_cons.mpr ⟨cw_253, List.forall_mem_cons.mpr ⟨cw_254, List.forall_mem_cons.mpr ⟨cw_255, List.forall_mem_cons.mpr ⟨cw_256, List.forall_mem_cons.mpr ⟨cw_257, List.forall_mem_cons.mpr ⟨cw_258, List.forall_mem_cons.mpr ⟨cw_259, List.forall_mem_cons.mpr ⟨cw_260, List.forall_mem_cons.mpr ⟨cw_261, List.forall_mem_cons.mpr ⟨cw_262, List.forall_mem_cons.mpr ⟨cw_263, fun _ h => absurd h List.not_mem_nil⟩⟩⟩⟩⟩⟩⟩⟩⟩⟩⟩⟩⟩⟩⟩⟩⟩⟩⟩⟩⟩⟩⟩⟩
def coL_11 : List Nat := [264, 265, 266, 267, 268, 269, 270, 271, 272, 273, 274, 275, 276, 277, 278, 279, 280, 281, 282, 283, 284, 285, 286, 287]
theorem coK_11 : ∀ j ∈ coL_11, fCO j ∈ gT := List.forall_mem_cons.mpr ⟨cw_264, List.forall_mem_cons.mpr ⟨cw_265, List.forall_mem_cons.mpr ⟨cw_266, List.forall_mem_cons.mpr ⟨cw_267, List.forall_mem_cons.mpr ⟨cw_268, List.forall_mem_cons.mpr ⟨cw_269, List.forall_mem_cons.mpr ⟨cw_270, List.forall_mem_cons.mpr ⟨cw_271, List.forall_mem_cons.mpr ⟨cw_272, List.forall_mem_cons.mpr ⟨cw_273, List.forall_mem_cons.mpr ⟨cw_274, List.forall_mem_cons.mpr ⟨cw_275, List.forall_mem_cons.mpr ⟨cw_276, List.forall_mem_cons.mpr ⟨cw_277, List.forall_mem_cons.mpr ⟨cw_278, List.forall_mem_cons.mpr ⟨cw_279, List.forall_mem_cons.mpr ⟨cw_280, List.forall_mem_cons.mpr ⟨cw_281, List.forall_mem_cons.mpr ⟨cw_282, List.forall_mem_cons.mpr ⟨cw_283, List.forall_mem_cons.mpr ⟨cw_284, List.forall_mem_cons.mpr ⟨cw_285, List.forall_mem_cons.mpr ⟨cw_286, List.forall_mem_cons.mpr ⟨cw_287, fun _ h => absurd h List.not_mem_nil⟩⟩⟩⟩⟩⟩⟩⟩⟩⟩⟩⟩⟩⟩⟩⟩⟩⟩⟩⟩⟩⟩⟩⟩
def coL_12 : List Nat := [288, 289]
theorem coK_12 : ∀ j ∈ coL_12, fCO j ∈ gT := List.forall_mem_cons.mpr ⟨cw_288, List.forall_mem_cons.mpr ⟨cw_289, fun _ h => absurd h List.not_mem_nil⟩⟩
def coL : List Nat := coL_0 ++ (coL_1 ++ (coL_2 ++ (coL_3 ++ (coL_4 ++ (coL_5 ++ (coL_6 ++ (coL_7 ++ (coL_8 ++ (coL_9 ++ (coL_10 ++ (coL_11 ++ (coL_12))))))))))))
theorem CO_ok : ∀ j ∈ coL, fCO j ∈ gT := List.forall_mem_append.mpr ⟨coK_0, List.forall_mem_append.mpr ⟨coK_1, List.forall_mem_append.mpr ⟨coK_2, List.forall_mem_append.mpr ⟨coK_3, List.forall_mem_append.mpr ⟨coK_4, List.forall_mem_append.mpr ⟨coK_5, List.forall_mem_append.mpr ⟨coK_6, List.forall_mem_append.mpr ⟨coK_7, List.forall_mem_append.mpr ⟨coK_8, List.forall_mem_append.mpr ⟨coK_9, List.forall_mem_append.mpr ⟨coK_10, List.forall_mem_append.mpr ⟨coK_11, coK_12⟩⟩⟩⟩⟩⟩⟩⟩⟩⟩⟩⟩
