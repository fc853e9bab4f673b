theorem w_2_14 : Cond.code ⟨"PipeWorks", "node", "(II)I"⟩ prog_1_method_2_code 3 (some .int) ∈ GW := GW_2 (List.mem_of_getElem? (i := 14) (by decide +kernel)) (by decide +kernel)
theorem w_2_11 : Cond.methodLink "PipeWorksLaw" 13 ⟨"PipeWorks", "node", "(II)I"⟩ ∈ GW := GW_2 (List.mem_of_getElem? (i := 11) (by decide +kernel)) (by decide +kernel)
theorem w_2_12 : Cond.instanceMethod ⟨"PipeWorks", "node", "(II)I"⟩ ∈ GW := GW_2 (List.mem_of_getElem? (i := 12) (by decide +kernel)) (by decide +kernel)
theorem w_2_13 : Cond.selects "PipeWorks" ⟨"PipeWorks", "node", "(II)I"⟩ ⟨"PipeWorks", "node", "(II)I"⟩ ∈ GW := GW_2 (List.mem_of_getElem? (i := 13) (by decide +kernel)) (by decide +kernel)
theorem w_6_19 : Cond.code ⟨"PipeWorksModel", "node", "(II)I"⟩ prog_14_method_6_code 3 (some .int) ∈ GW := GW_6 (List.mem_of_getElem? (i := 19) (by decide +kernel)) (by decide +kernel)
theorem w_6_16 : Cond.methodLink "PipeWorksLaw" 17 ⟨"PipeWorksModel", "node", "(II)I"⟩ ∈ GW := GW_6 (List.mem_of_getElem? (i := 16) (by decide +kernel)) (by decide +kernel)
theorem w_6_17 : Cond.instanceMethod ⟨"PipeWorksModel", "node", "(II)I"⟩ ∈ GW := GW_6 (List.mem_of_getElem? (i := 17) (by decide +kernel)) (by decide +kernel)
theorem w_6_18 : Cond.selects "PipeWorksModel" ⟨"PipeWorksModel", "node", "(II)I"⟩ ⟨"PipeWorksModel", "node", "(II)I"⟩ ∈ GW := GW_6 (List.mem_of_getElem? (i := 18) (by decide +kernel)) (by decide +kernel)
theorem w_2_25 : Cond.code ⟨"PipeWorks", "main", "(III)I"⟩ prog_1_method_3_code 4 (some .int) ∈ GW := GW_2 (List.mem_of_getElem? (i := 25) (by decide +kernel)) (by decide +kernel)
theorem w_2_22 : Cond.methodLink "PipeWorksLaw" 18 ⟨"PipeWorks", "main", "(III)I"⟩ ∈ GW := GW_2 (List.mem_of_getElem? (i := 22) (by decide +kernel)) (by decide +kernel)
theorem w_2_23 : Cond.instanceMethod ⟨"PipeWorks", "main", "(III)I"⟩ ∈ GW := GW_2 (List.mem_of_getElem? (i := 23) (by decide +kernel)) (by decide +kernel)
theorem w_2_24 : Cond.selects "PipeWorks" ⟨"PipeWorks", "main", "(III)I"⟩ ⟨"PipeWorks", "main", "(III)I"⟩ ∈ GW := GW_2 (List.mem_of_getElem? (i := 24) (by decide +kernel)) (by decide +kernel)
theorem w_6_26 : Cond.code ⟨"PipeWorksModel", "main", "(III)I"⟩ prog_14_method_7_code 5 (some .int) ∈ GW := GW_6 (List.mem_of_getElem? (i := 26) (by decide +kernel)) (by decide +kernel)
theorem w_6_23 : Cond.methodLink "PipeWorksLaw" 22 ⟨"PipeWorksModel", "main", "(III)I"⟩ ∈ GW := GW_6 (List.mem_of_getElem? (i := 23) (by decide +kernel)) (by decide +kernel)
theorem w_6_24 : Cond.instanceMethod ⟨"PipeWorksModel", "main", "(III)I"⟩ ∈ GW := GW_6 (List.mem_of_getElem? (i := 24) (by decide +kernel)) (by decide +kernel)
theorem w_6_25 : Cond.selects "PipeWorksModel" ⟨"PipeWorksModel", "main", "(III)I"⟩ ⟨"PipeWorksModel", "main", "(III)I"⟩ ∈ GW := GW_6 (List.mem_of_getElem? (i := 25) (by decide +kernel)) (by decide +kernel)
theorem w_2_37 : Cond.code ⟨"PipeWorks", "valve", "(II)I"⟩ prog_1_method_4_code 3 (some .int) ∈ GW := GW_2 (List.mem_of_getElem? (i := 37) (by decide +kernel)) (by decide +kernel)
theorem w_2_34 : Cond.methodLink "PipeWorksLaw" 23 ⟨"PipeWorks", "valve", "(II)I"⟩ ∈ GW := GW_2 (List.mem_of_getElem? (i := 34) (by decide +kernel)) (by decide +kernel)
theorem w_2_35 : Cond.instanceMethod ⟨"PipeWorks", "valve", "(II)I"⟩ ∈ GW := GW_2 (List.mem_of_getElem? (i := 35) (by decide +kernel)) (by decide +kernel)
theorem w_2_36 : Cond.selects "PipeWorks" ⟨"PipeWorks", "valve", "(II)I"⟩ ⟨"PipeWorks", "valve", "(II)I"⟩ ∈ GW := GW_2 (List.mem_of_getElem? (i := 36) (by decide +kernel)) (by decide +kernel)
theorem w_6_34 : Cond.code ⟨"PipeWorksModel", "valve", "(II)I"⟩ prog_14_method_10_code 3 (some .int) ∈ GW := GW_6 (List.mem_of_getElem? (i := 34) (by decide +kernel)) (by decide +kernel)
theorem w_6_31 : Cond.methodLink "PipeWorksLaw" 26 ⟨"PipeWorksModel", "valve", "(II)I"⟩ ∈ GW := GW_6 (List.mem_of_getElem? (i := 31) (by decide +kernel)) (by decide +kernel)
theorem w_6_32 : Cond.instanceMethod ⟨"PipeWorksModel", "valve", "(II)I"⟩ ∈ GW := GW_6 (List.mem_of_getElem? (i := 32) (by decide +kernel)) (by decide +kernel)
theorem w_6_33 : Cond.selects "PipeWorksModel" ⟨"PipeWorksModel", "valve", "(II)I"⟩ ⟨"PipeWorksModel", "valve", "(II)I"⟩ ∈ GW := GW_6 (List.mem_of_getElem? (i := 33) (by decide +kernel)) (by decide +kernel)
theorem w_2_61 : Cond.code ⟨"PipeWorks", "turn", "(I)I"⟩ prog_1_method_5_code 2 (some .int) ∈ GW := GW_2 (List.mem_of_getElem? (i := 61) (by decide +kernel)) (by decide +kernel)
theorem w_2_58 : Cond.methodLink "PipeWorksLaw" 27 ⟨"PipeWorks", "turn", "(I)I"⟩ ∈ GW := GW_2 (List.mem_of_getElem? (i := 58) (by decide +kernel)) (by decide +kernel)
theorem w_2_59 : Cond.instanceMethod ⟨"PipeWorks", "turn", "(I)I"⟩ ∈ GW := GW_2 (List.mem_of_getElem? (i := 59) (by decide +kernel)) (by decide +kernel)
theorem w_2_60 : Cond.selects "PipeWorks" ⟨"PipeWorks", "turn", "(I)I"⟩ ⟨"PipeWorks", "turn", "(I)I"⟩ ∈ GW := GW_2 (List.mem_of_getElem? (i := 60) (by decide +kernel)) (by decide +kernel)
theorem w_6_50 : Cond.code ⟨"PipeWorksModel", "turn", "(I)I"⟩ prog_14_method_11_code 2 (some .int) ∈ GW := GW_6 (List.mem_of_getElem? (i := 50) (by decide +kernel)) (by decide +kernel)
theorem w_6_47 : Cond.methodLink "PipeWorksLaw" 31 ⟨"PipeWorksModel", "turn", "(I)I"⟩ ∈ GW := GW_6 (List.mem_of_getElem? (i := 47) (by decide +kernel)) (by decide +kernel)
theorem w_6_48 : Cond.instanceMethod ⟨"PipeWorksModel", "turn", "(I)I"⟩ ∈ GW := GW_6 (List.mem_of_getElem? (i := 48) (by decide +kernel)) (by decide +kernel)
theorem w_6_49 : Cond.selects "PipeWorksModel" ⟨"PipeWorksModel", "turn", "(I)I"⟩ ⟨"PipeWorksModel", "turn", "(I)I"⟩ ∈ GW := GW_6 (List.mem_of_getElem? (i := 49) (by decide +kernel)) (by decide +kernel)
theorem w_2_83 : Cond.code ⟨"PipeWorks", "ofMain", "(II)I"⟩ prog_1_method_6_code 3 (some .int) ∈ GW := GW_2 (List.mem_of_getElem? (i := 83) (by decide +kernel)) (by decide +kernel)
theorem w_2_80 : Cond.methodLink "PipeWorksLaw" 32 ⟨"PipeWorks", "ofMain", "(II)I"⟩ ∈ GW := GW_2 (List.mem_of_getElem? (i := 80) (by decide +kernel)) (by decide +kernel)
theorem w_2_81 : Cond.instanceMethod ⟨"PipeWorks", "ofMain", "(II)I"⟩ ∈ GW := GW_2 (List.mem_of_getElem? (i := 81) (by decide +kernel)) (by decide +kernel)
theorem w_2_82 : Cond.selects "PipeWorks" ⟨"PipeWorks", "ofMain", "(II)I"⟩ ⟨"PipeWorks", "ofMain", "(II)I"⟩ ∈ GW := GW_2 (List.mem_of_getElem? (i := 82) (by decide +kernel)) (by decide +kernel)
theorem w_6_58 : Cond.code ⟨"PipeWorksModel", "ofMain", "(II)I"⟩ prog_14_method_13_code 4 (some .int) ∈ GW := GW_6 (List.mem_of_getElem? (i := 58) (by decide +kernel)) (by decide +kernel)
theorem w_6_55 : Cond.methodLink "PipeWorksLaw" 35 ⟨"PipeWorksModel", "ofMain", "(II)I"⟩ ∈ GW := GW_6 (List.mem_of_getElem? (i := 55) (by decide +kernel)) (by decide +kernel)
theorem w_6_56 : Cond.instanceMethod ⟨"PipeWorksModel", "ofMain", "(II)I"⟩ ∈ GW := GW_6 (List.mem_of_getElem? (i := 56) (by decide +kernel)) (by decide +kernel)
theorem w_6_57 : Cond.selects "PipeWorksModel" ⟨"PipeWorksModel", "ofMain", "(II)I"⟩ ⟨"PipeWorksModel", "ofMain", "(II)I"⟩ ∈ GW := GW_6 (List.mem_of_getElem? (i := 57) (by decide +kernel)) (by decide +kernel)
theorem w_2_97 : Cond.code ⟨"PipeWorks", "wrong", "(I)I"⟩ prog_1_method_7_code 2 (some .int) ∈ GW := GW_2 (List.mem_of_getElem? (i := 97) (by decide +kernel)) (by decide +kernel)
theorem w_2_94 : Cond.methodLink "PipeWorksLaw" 36 ⟨"PipeWorks", "wrong", "(I)I"⟩ ∈ GW := GW_2 (List.mem_of_getElem? (i := 94) (by decide +kernel)) (by decide +kernel)
theorem w_2_95 : Cond.instanceMethod ⟨"PipeWorks", "wrong", "(I)I"⟩ ∈ GW := GW_2 (List.mem_of_getElem? (i := 95) (by decide +kernel)) (by decide +kernel)
theorem w_2_96 : Cond.selects "PipeWorks" ⟨"PipeWorks", "wrong", "(I)I"⟩ ⟨"PipeWorks", "wrong", "(I)I"⟩ ∈ GW := GW_2 (List.mem_of_getElem? (i := 96) (by decide +kernel)) (by decide +kernel)
theorem w_6_66 : Cond.code ⟨"PipeWorksModel", "wrong", "(I)I"⟩ prog_14_method_14_code 4 (some .int) ∈ GW := GW_6 (List.mem_of_getElem? (i := 66) (by decide +kernel)) (by decide +kernel)
theorem w_6_63 : Cond.methodLink "PipeWorksLaw" 39 ⟨"PipeWorksModel", "wrong", "(I)I"⟩ ∈ GW := GW_6 (List.mem_of_getElem? (i := 63) (by decide +kernel)) (by decide +kernel)
theorem w_6_64 : Cond.instanceMethod ⟨"PipeWorksModel", "wrong", "(I)I"⟩ ∈ GW := GW_6 (List.mem_of_getElem? (i := 64) (by decide +kernel)) (by decide +kernel)
theorem w_6_65 : Cond.selects "PipeWorksModel" ⟨"PipeWorksModel", "wrong", "(I)I"⟩ ⟨"PipeWorksModel", "wrong", "(I)I"⟩ ∈ GW := GW_6 (List.mem_of_getElem? (i := 65) (by decide +kernel)) (by decide +kernel)
theorem w_2_105 : Cond.code ⟨"PipeWorks", "mend", "(I)I"⟩ prog_1_method_8_code 2 (some .int) ∈ GW := GW_2 (List.mem_of_getElem? (i := 105) (by decide +kernel)) (by decide +kernel)
theorem w_2_102 : Cond.methodLink "PipeWorksLaw" 40 ⟨"PipeWorks", "mend", "(I)I"⟩ ∈ GW := GW_2 (List.mem_of_getElem? (i := 102) (by decide +kernel)) (by decide +kernel)
theorem w_2_103 : Cond.instanceMethod ⟨"PipeWorks", "mend", "(I)I"⟩ ∈ GW := GW_2 (List.mem_of_getElem? (i := 103) (by decide +kernel)) (by decide +kernel)
theorem w_2_104 : Cond.selects "PipeWorks" ⟨"PipeWorks", "mend", "(I)I"⟩ ⟨"PipeWorks", "mend", "(I)I"⟩ ∈ GW := GW_2 (List.mem_of_getElem? (i := 104) (by decide +kernel)) (by decide +kernel)
theorem w_6_70 : Cond.code ⟨"PipeWorksModel", "mend", "(I)I"⟩ prog_14_method_15_code 4 (some .int) ∈ GW := GW_6 (List.mem_of_getElem? (i := 70) (by decide +kernel)) (by decide +kernel)
theorem w_6_67 : Cond.methodLink "PipeWorksLaw" 43 ⟨"PipeWorksModel", "mend", "(I)I"⟩ ∈ GW := GW_6 (List.mem_of_getElem? (i := 67) (by decide +kernel)) (by decide +kernel)
theorem w_6_68 : Cond.instanceMethod ⟨"PipeWorksModel", "mend", "(I)I"⟩ ∈ GW := GW_6 (List.mem_of_getElem? (i := 68) (by decide +kernel)) (by decide +kernel)
theorem w_6_69 : Cond.selects "PipeWorksModel" ⟨"PipeWorksModel", "mend", "(I)I"⟩ ⟨"PipeWorksModel", "mend", "(I)I"⟩ ∈ GW := GW_6 (List.mem_of_getElem? (i := 69) (by decide +kernel)) (by decide +kernel)
theorem w_2_113 : Cond.code ⟨"PipeWorks", "draw", "(IIII)I"⟩ prog_1_method_9_code 7 (some .int) ∈ GW := GW_2 (List.mem_of_getElem? (i := 113) (by decide +kernel)) (by decide +kernel)
theorem w_2_110 : Cond.methodLink "PipeWorksLaw" 44 ⟨"PipeWorks", "draw", "(IIII)I"⟩ ∈ GW := GW_2 (List.mem_of_getElem? (i := 110) (by decide +kernel)) (by decide +kernel)
theorem w_2_111 : Cond.instanceMethod ⟨"PipeWorks", "draw", "(IIII)I"⟩ ∈ GW := GW_2 (List.mem_of_getElem? (i := 111) (by decide +kernel)) (by decide +kernel)
theorem w_2_112 : Cond.selects "PipeWorks" ⟨"PipeWorks", "draw", "(IIII)I"⟩ ⟨"PipeWorks", "draw", "(IIII)I"⟩ ∈ GW := GW_2 (List.mem_of_getElem? (i := 112) (by decide +kernel)) (by decide +kernel)
theorem w_6_74 : Cond.code ⟨"PipeWorksModel", "draw", "(IIII)I"⟩ prog_14_method_18_code 5 (some .int) ∈ GW := GW_6 (List.mem_of_getElem? (i := 74) (by decide +kernel)) (by decide +kernel)
theorem w_6_71 : Cond.methodLink "PipeWorksLaw" 48 ⟨"PipeWorksModel", "draw", "(IIII)I"⟩ ∈ GW := GW_6 (List.mem_of_getElem? (i := 71) (by decide +kernel)) (by decide +kernel)
theorem w_6_72 : Cond.instanceMethod ⟨"PipeWorksModel", "draw", "(IIII)I"⟩ ∈ GW := GW_6 (List.mem_of_getElem? (i := 72) (by decide +kernel)) (by decide +kernel)
theorem w_6_73 : Cond.selects "PipeWorksModel" ⟨"PipeWorksModel", "draw", "(IIII)I"⟩ ⟨"PipeWorksModel", "draw", "(IIII)I"⟩ ∈ GW := GW_6 (List.mem_of_getElem? (i := 73) (by decide +kernel)) (by decide +kernel)
theorem w_2_151 : Cond.code ⟨"PipeWorks", "lift", "(IIIII)I"⟩ prog_1_method_10_code 8 (some .int) ∈ GW := GW_2 (List.mem_of_getElem? (i := 151) (by decide +kernel)) (by decide +kernel)
theorem w_2_148 : Cond.methodLink "PipeWorksLaw" 49 ⟨"PipeWorks", "lift", "(IIIII)I"⟩ ∈ GW := GW_2 (List.mem_of_getElem? (i := 148) (by decide +kernel)) (by decide +kernel)
theorem w_2_149 : Cond.instanceMethod ⟨"PipeWorks", "lift", "(IIIII)I"⟩ ∈ GW := GW_2 (List.mem_of_getElem? (i := 149) (by decide +kernel)) (by decide +kernel)
theorem w_2_150 : Cond.selects "PipeWorks" ⟨"PipeWorks", "lift", "(IIIII)I"⟩ ⟨"PipeWorks", "lift", "(IIIII)I"⟩ ∈ GW := GW_2 (List.mem_of_getElem? (i := 150) (by decide +kernel)) (by decide +kernel)
theorem w_6_85 : Cond.code ⟨"PipeWorksModel", "lift", "(IIIII)I"⟩ prog_14_method_19_code 6 (some .int) ∈ GW := GW_6 (List.mem_of_getElem? (i := 85) (by decide +kernel)) (by decide +kernel)
theorem w_6_82 : Cond.methodLink "PipeWorksLaw" 53 ⟨"PipeWorksModel", "lift", "(IIIII)I"⟩ ∈ GW := GW_6 (List.mem_of_getElem? (i := 82) (by decide +kernel)) (by decide +kernel)
theorem w_6_83 : Cond.instanceMethod ⟨"PipeWorksModel", "lift", "(IIIII)I"⟩ ∈ GW := GW_6 (List.mem_of_getElem? (i := 83) (by decide +kernel)) (by decide +kernel)
theorem w_6_84 : Cond.selects "PipeWorksModel" ⟨"PipeWorksModel", "lift", "(IIIII)I"⟩ ⟨"PipeWorksModel", "lift", "(IIIII)I"⟩ ∈ GW := GW_6 (List.mem_of_getElem? (i := 84) (by decide +kernel)) (by decide +kernel)
theorem w_2_168 : Cond.code ⟨"PipeWorks", "bridge", "(IIIII)I"⟩ prog_1_method_11_code 8 (some .int) ∈ GW := GW_2 (List.mem_of_getElem? (i := 168) (by decide +kernel)) (by decide +kernel)
theorem w_2_165 : Cond.methodLink "PipeWorksLaw" 54 ⟨"PipeWorks", "bridge", "(IIIII)I"⟩ ∈ GW := GW_2 (List.mem_of_getElem? (i := 165) (by decide +kernel)) (by decide +kernel)
theorem w_2_166 : Cond.instanceMethod ⟨"PipeWorks", "bridge", "(IIIII)I"⟩ ∈ GW := GW_2 (List.mem_of_getElem? (i := 166) (by decide +kernel)) (by decide +kernel)
theorem w_2_167 : Cond.selects "PipeWorks" ⟨"PipeWorks", "bridge", "(IIIII)I"⟩ ⟨"PipeWorks", "bridge", "(IIIII)I"⟩ ∈ GW := GW_2 (List.mem_of_getElem? (i := 167) (by decide +kernel)) (by decide +kernel)
theorem w_6_89 : Cond.code ⟨"PipeWorksModel", "bridge", "(IIIII)I"⟩ prog_14_method_20_code 7 (some .int) ∈ GW := GW_6 (List.mem_of_getElem? (i := 89) (by decide +kernel)) (by decide +kernel)
theorem w_6_86 : Cond.methodLink "PipeWorksLaw" 57 ⟨"PipeWorksModel", "bridge", "(IIIII)I"⟩ ∈ GW := GW_6 (List.mem_of_getElem? (i := 86) (by decide +kernel)) (by decide +kernel)
theorem w_6_87 : Cond.instanceMethod ⟨"PipeWorksModel", "bridge", "(IIIII)I"⟩ ∈ GW := GW_6 (List.mem_of_getElem? (i := 87) (by decide +kernel)) (by decide +kernel)
theorem w_6_88 : Cond.selects "PipeWorksModel" ⟨"PipeWorksModel", "bridge", "(IIIII)I"⟩ ⟨"PipeWorksModel", "bridge", "(IIIII)I"⟩ ∈ GW := GW_6 (List.mem_of_getElem? (i := 88) (by decide +kernel)) (by decide +kernel)
theorem w_2_191 : Cond.code ⟨"PipeWorks", "tower", "(IIII)I"⟩ prog_1_method_12_code 7 (some .int) ∈ GW := GW_2 (List.mem_of_getElem? (i := 191) (by decide +kernel)) (by decide +kernel)
theorem w_2_188 : Cond.methodLink "PipeWorksLaw" 58 ⟨"PipeWorks", "tower", "(IIII)I"⟩ ∈ GW := GW_2 (List.mem_of_getElem? (i := 188) (by decide +kernel)) (by decide +kernel)
theorem w_2_189 : Cond.instanceMethod ⟨"PipeWorks", "tower", "(IIII)I"⟩ ∈ GW := GW_2 (List.mem_of_getElem? (i := 189) (by decide +kernel)) (by decide +kernel)
theorem w_2_190 : Cond.selects "PipeWorks" ⟨"PipeWorks", "tower", "(IIII)I"⟩ ⟨"PipeWorks", "tower", "(IIII)I"⟩ ∈ GW := GW_2 (List.mem_of_getElem? (i := 190) (by decide +kernel)) (by decide +kernel)
theorem w_6_93 : Cond.code ⟨"PipeWorksModel", "tower", "(IIII)I"⟩ prog_14_method_21_code 6 (some .int) ∈ GW := GW_6 (List.mem_of_getElem? (i := 93) (by decide +kernel)) (by decide +kernel)
theorem w_6_90 : Cond.methodLink "PipeWorksLaw" 61 ⟨"PipeWorksModel", "tower", "(IIII)I"⟩ ∈ GW := GW_6 (List.mem_of_getElem? (i := 90) (by decide +kernel)) (by decide +kernel)
theorem w_6_91 : Cond.instanceMethod ⟨"PipeWorksModel", "tower", "(IIII)I"⟩ ∈ GW := GW_6 (List.mem_of_getElem? (i := 91) (by decide +kernel)) (by decide +kernel)
theorem w_6_92 : Cond.selects "PipeWorksModel" ⟨"PipeWorksModel", "tower", "(IIII)I"⟩ ⟨"PipeWorksModel", "tower", "(IIII)I"⟩ ∈ GW := GW_6 (List.mem_of_getElem? (i := 92) (by decide +kernel)) (by decide +kernel)
theorem w_2_212 : Cond.code ⟨"PipeWorks", "house", "(IIII)I"⟩ prog_1_method_13_code 7 (some .int) ∈ GW := GW_2 (List.mem_of_getElem? (i := 212) (by decide +kernel)) (by decide +kernel)
theorem w_2_209 : Cond.methodLink "PipeWorksLaw" 62 ⟨"PipeWorks", "house", "(IIII)I"⟩ ∈ GW := GW_2 (List.mem_of_getElem? (i := 209) (by decide +kernel)) (by decide +kernel)
theorem w_2_210 : Cond.instanceMethod ⟨"PipeWorks", "house", "(IIII)I"⟩ ∈ GW := GW_2 (List.mem_of_getElem? (i := 210) (by decide +kernel)) (by decide +kernel)
theorem w_2_211 : Cond.selects "PipeWorks" ⟨"PipeWorks", "house", "(IIII)I"⟩ ⟨"PipeWorks", "house", "(IIII)I"⟩ ∈ GW := GW_2 (List.mem_of_getElem? (i := 211) (by decide +kernel)) (by decide +kernel)
theorem w_6_98 : Cond.code ⟨"PipeWorksModel", "house", "(IIII)I"⟩ prog_14_method_22_code 5 (some .int) ∈ GW := GW_6 (List.mem_of_getElem? (i := 98) (by decide +kernel)) (by decide +kernel)
theorem w_6_95 : Cond.methodLink "PipeWorksLaw" 65 ⟨"PipeWorksModel", "house", "(IIII)I"⟩ ∈ GW := GW_6 (List.mem_of_getElem? (i := 95) (by decide +kernel)) (by decide +kernel)
theorem w_6_96 : Cond.instanceMethod ⟨"PipeWorksModel", "house", "(IIII)I"⟩ ∈ GW := GW_6 (List.mem_of_getElem? (i := 96) (by decide +kernel)) (by decide +kernel)
theorem w_6_97 : Cond.selects "PipeWorksModel" ⟨"PipeWorksModel", "house", "(IIII)I"⟩ ⟨"PipeWorksModel", "house", "(IIII)I"⟩ ∈ GW := GW_6 (List.mem_of_getElem? (i := 97) (by decide +kernel)) (by decide +kernel)
theorem w_2_238 : Cond.code ⟨"PipeWorks", "leak", "(IIZ)I"⟩ prog_1_method_14_code 5 (some .int) ∈ GW := GW_2 (List.mem_of_getElem? (i := 238) (by decide +kernel)) (by decide +kernel)
theorem w_2_235 : Cond.methodLink "PipeWorksLaw" 66 ⟨"PipeWorks", "leak", "(IIZ)I"⟩ ∈ GW := GW_2 (List.mem_of_getElem? (i := 235) (by decide +kernel)) (by decide +kernel)
theorem w_2_236 : Cond.instanceMethod ⟨"PipeWorks", "leak", "(IIZ)I"⟩ ∈ GW := GW_2 (List.mem_of_getElem? (i := 236) (by decide +kernel)) (by decide +kernel)
theorem w_2_237 : Cond.selects "PipeWorks" ⟨"PipeWorks", "leak", "(IIZ)I"⟩ ⟨"PipeWorks", "leak", "(IIZ)I"⟩ ∈ GW := GW_2 (List.mem_of_getElem? (i := 237) (by decide +kernel)) (by decide +kernel)
theorem w_6_102 : Cond.code ⟨"PipeWorksModel", "leak", "(IIZ)I"⟩ prog_14_method_23_code 4 (some .int) ∈ GW := GW_6 (List.mem_of_getElem? (i := 102) (by decide +kernel)) (by decide +kernel)
theorem w_6_99 : Cond.methodLink "PipeWorksLaw" 70 ⟨"PipeWorksModel", "leak", "(IIZ)I"⟩ ∈ GW := GW_6 (List.mem_of_getElem? (i := 99) (by decide +kernel)) (by decide +kernel)
theorem w_6_100 : Cond.instanceMethod ⟨"PipeWorksModel", "leak", "(IIZ)I"⟩ ∈ GW := GW_6 (List.mem_of_getElem? (i := 100) (by decide +kernel)) (by decide +kernel)
theorem w_6_101 : Cond.selects "PipeWorksModel" ⟨"PipeWorksModel", "leak", "(IIZ)I"⟩ ⟨"PipeWorksModel", "leak", "(IIZ)I"⟩ ∈ GW := GW_6 (List.mem_of_getElem? (i := 101) (by decide +kernel)) (by decide +kernel)
theorem w_3_20 : Cond.code ⟨"PipeWorks", "clear", "(I)I"⟩ prog_1_method_15_code 2 (some .int) ∈ GW := GW_3 (List.mem_of_getElem? (i := 20) (by decide +kernel)) (by decide +kernel)
theorem w_3_17 : Cond.methodLink "PipeWorksLaw" 71 ⟨"PipeWorks", "clear", "(I)I"⟩ ∈ GW := GW_3 (List.mem_of_getElem? (i := 17) (by decide +kernel)) (by decide +kernel)
theorem w_3_18 : Cond.instanceMethod ⟨"PipeWorks", "clear", "(I)I"⟩ ∈ GW := GW_3 (List.mem_of_getElem? (i := 18) (by decide +kernel)) (by decide +kernel)
theorem w_3_19 : Cond.selects "PipeWorks" ⟨"PipeWorks", "clear", "(I)I"⟩ ⟨"PipeWorks", "clear", "(I)I"⟩ ∈ GW := GW_3 (List.mem_of_getElem? (i := 19) (by decide +kernel)) (by decide +kernel)
theorem w_6_106 : Cond.code ⟨"PipeWorksModel", "clear", "(I)I"⟩ prog_14_method_24_code 3 (some .int) ∈ GW := GW_6 (List.mem_of_getElem? (i := 106) (by decide +kernel)) (by decide +kernel)
theorem w_6_103 : Cond.methodLink "PipeWorksLaw" 74 ⟨"PipeWorksModel", "clear", "(I)I"⟩ ∈ GW := GW_6 (List.mem_of_getElem? (i := 103) (by decide +kernel)) (by decide +kernel)
theorem w_6_104 : Cond.instanceMethod ⟨"PipeWorksModel", "clear", "(I)I"⟩ ∈ GW := GW_6 (List.mem_of_getElem? (i := 104) (by decide +kernel)) (by decide +kernel)
theorem w_6_105 : Cond.selects "PipeWorksModel" ⟨"PipeWorksModel", "clear", "(I)I"⟩ ⟨"PipeWorksModel", "clear", "(I)I"⟩ ∈ GW := GW_6 (List.mem_of_getElem? (i := 105) (by decide +kernel)) (by decide +kernel)
theorem w_3_49 : Cond.code ⟨"PipeWorks", "ofNode", "(II)I"⟩ prog_1_method_16_code 4 (some .int) ∈ GW := GW_3 (List.mem_of_getElem? (i := 49) (by decide +kernel)) (by decide +kernel)
theorem w_3_46 : Cond.methodLink "PipeWorksLaw" 75 ⟨"PipeWorks", "ofNode", "(II)I"⟩ ∈ GW := GW_3 (List.mem_of_getElem? (i := 46) (by decide +kernel)) (by decide +kernel)
theorem w_3_47 : Cond.instanceMethod ⟨"PipeWorks", "ofNode", "(II)I"⟩ ∈ GW := GW_3 (List.mem_of_getElem? (i := 47) (by decide +kernel)) (by decide +kernel)
theorem w_3_48 : Cond.selects "PipeWorks" ⟨"PipeWorks", "ofNode", "(II)I"⟩ ⟨"PipeWorks", "ofNode", "(II)I"⟩ ∈ GW := GW_3 (List.mem_of_getElem? (i := 48) (by decide +kernel)) (by decide +kernel)
theorem w_6_110 : Cond.code ⟨"PipeWorksModel", "ofNode", "(II)I"⟩ prog_14_method_28_code 3 (some .int) ∈ GW := GW_6 (List.mem_of_getElem? (i := 110) (by decide +kernel)) (by decide +kernel)
theorem w_6_107 : Cond.methodLink "PipeWorksLaw" 78 ⟨"PipeWorksModel", "ofNode", "(II)I"⟩ ∈ GW := GW_6 (List.mem_of_getElem? (i := 107) (by decide +kernel)) (by decide +kernel)
theorem w_6_108 : Cond.instanceMethod ⟨"PipeWorksModel", "ofNode", "(II)I"⟩ ∈ GW := GW_6 (List.mem_of_getElem? (i := 108) (by decide +kernel)) (by decide +kernel)
theorem w_6_109 : Cond.selects "PipeWorksModel" ⟨"PipeWorksModel", "ofNode", "(II)I"⟩ ⟨"PipeWorksModel", "ofNode", "(II)I"⟩ ∈ GW := GW_6 (List.mem_of_getElem? (i := 109) (by decide +kernel)) (by decide +kernel)
theorem w_3_135 : Cond.code ⟨"PipeWorks", "light", "(IZ)I"⟩ prog_1_method_17_code 5 (some .int) ∈ GW := GW_3 (List.mem_of_getElem? (i := 135) (by decide +kernel)) (by decide +kernel)
theorem w_3_132 : Cond.methodLink "PipeWorksLaw" 79 ⟨"PipeWorks", "light", "(IZ)I"⟩ ∈ GW := GW_3 (List.mem_of_getElem? (i := 132) (by decide +kernel)) (by decide +kernel)
theorem w_3_133 : Cond.instanceMethod ⟨"PipeWorks", "light", "(IZ)I"⟩ ∈ GW := GW_3 (List.mem_of_getElem? (i := 133) (by decide +kernel)) (by decide +kernel)
theorem w_3_134 : Cond.selects "PipeWorks" ⟨"PipeWorks", "light", "(IZ)I"⟩ ⟨"PipeWorks", "light", "(IZ)I"⟩ ∈ GW := GW_3 (List.mem_of_getElem? (i := 134) (by decide +kernel)) (by decide +kernel)
theorem w_6_126 : Cond.code ⟨"PipeWorksModel", "light", "(IZ)I"⟩ prog_14_method_30_code 3 (some .int) ∈ GW := GW_6 (List.mem_of_getElem? (i := 126) (by decide +kernel)) (by decide +kernel)
theorem w_6_123 : Cond.methodLink "PipeWorksLaw" 83 ⟨"PipeWorksModel", "light", "(IZ)I"⟩ ∈ GW := GW_6 (List.mem_of_getElem? (i := 123) (by decide +kernel)) (by decide +kernel)
theorem w_6_124 : Cond.instanceMethod ⟨"PipeWorksModel", "light", "(IZ)I"⟩ ∈ GW := GW_6 (List.mem_of_getElem? (i := 124) (by decide +kernel)) (by decide +kernel)
theorem w_6_125 : Cond.selects "PipeWorksModel" ⟨"PipeWorksModel", "light", "(IZ)I"⟩ ⟨"PipeWorksModel", "light", "(IZ)I"⟩ ∈ GW := GW_6 (List.mem_of_getElem? (i := 125) (by decide +kernel)) (by decide +kernel)
theorem w_3_143 : Cond.code ⟨"PipeWorks", "found", "(I)I"⟩ prog_1_method_18_code 4 (some .int) ∈ GW := GW_3 (List.mem_of_getElem? (i := 143) (by decide +kernel)) (by decide +kernel)
theorem w_3_140 : Cond.methodLink "PipeWorksLaw" 84 ⟨"PipeWorks", "found", "(I)I"⟩ ∈ GW := GW_3 (List.mem_of_getElem? (i := 140) (by decide +kernel)) (by decide +kernel)
theorem w_3_141 : Cond.instanceMethod ⟨"PipeWorks", "found", "(I)I"⟩ ∈ GW := GW_3 (List.mem_of_getElem? (i := 141) (by decide +kernel)) (by decide +kernel)
theorem w_3_142 : Cond.selects "PipeWorks" ⟨"PipeWorks", "found", "(I)I"⟩ ⟨"PipeWorks", "found", "(I)I"⟩ ∈ GW := GW_3 (List.mem_of_getElem? (i := 142) (by decide +kernel)) (by decide +kernel)
theorem w_6_134 : Cond.code ⟨"PipeWorksModel", "found", "(I)I"⟩ prog_14_method_31_code 3 (some .int) ∈ GW := GW_6 (List.mem_of_getElem? (i := 134) (by decide +kernel)) (by decide +kernel)
theorem w_6_131 : Cond.methodLink "PipeWorksLaw" 87 ⟨"PipeWorksModel", "found", "(I)I"⟩ ∈ GW := GW_6 (List.mem_of_getElem? (i := 131) (by decide +kernel)) (by decide +kernel)
theorem w_6_132 : Cond.instanceMethod ⟨"PipeWorksModel", "found", "(I)I"⟩ ∈ GW := GW_6 (List.mem_of_getElem? (i := 132) (by decide +kernel)) (by decide +kernel)
theorem w_6_133 : Cond.selects "PipeWorksModel" ⟨"PipeWorksModel", "found", "(I)I"⟩ ⟨"PipeWorksModel", "found", "(I)I"⟩ ∈ GW := GW_6 (List.mem_of_getElem? (i := 133) (by decide +kernel)) (by decide +kernel)
theorem w_3_147 : Cond.code ⟨"PipeWorks", "work", "()I"⟩ prog_1_method_19_code 1 (some .int) ∈ GW := GW_3 (List.mem_of_getElem? (i := 147) (by decide +kernel)) (by decide +kernel)
theorem w_3_144 : Cond.methodLink "PipeWorksLaw" 88 ⟨"PipeWorks", "work", "()I"⟩ ∈ GW := GW_3 (List.mem_of_getElem? (i := 144) (by decide +kernel)) (by decide +kernel)
theorem w_3_145 : Cond.instanceMethod ⟨"PipeWorks", "work", "()I"⟩ ∈ GW := GW_3 (List.mem_of_getElem? (i := 145) (by decide +kernel)) (by decide +kernel)
theorem w_3_146 : Cond.selects "PipeWorks" ⟨"PipeWorks", "work", "()I"⟩ ⟨"PipeWorks", "work", "()I"⟩ ∈ GW := GW_3 (List.mem_of_getElem? (i := 146) (by decide +kernel)) (by decide +kernel)
theorem w_6_138 : Cond.code ⟨"PipeWorksModel", "work", "()I"⟩ prog_14_method_34_code 1 (some .int) ∈ GW := GW_6 (List.mem_of_getElem? (i := 138) (by decide +kernel)) (by decide +kernel)
theorem w_6_135 : Cond.methodLink "PipeWorksLaw" 92 ⟨"PipeWorksModel", "work", "()I"⟩ ∈ GW := GW_6 (List.mem_of_getElem? (i := 135) (by decide +kernel)) (by decide +kernel)
theorem w_6_136 : Cond.instanceMethod ⟨"PipeWorksModel", "work", "()I"⟩ ∈ GW := GW_6 (List.mem_of_getElem? (i := 136) (by decide +kernel)) (by decide +kernel)
theorem w_6_137 : Cond.selects "PipeWorksModel" ⟨"PipeWorksModel", "work", "()I"⟩ ⟨"PipeWorksModel", "work", "()I"⟩ ∈ GW := GW_6 (List.mem_of_getElem? (i := 137) (by decide +kernel)) (by decide +kernel)
theorem w_3_223 : Cond.code ⟨"PipeWorks", "near", "(I)I"⟩ prog_1_method_20_code 3 (some .int) ∈ GW := GW_3 (List.mem_of_getElem? (i := 223) (by decide +kernel)) (by decide +kernel)
theorem w_3_220 : Cond.methodLink "PipeWorksLaw" 93 ⟨"PipeWorks", "near", "(I)I"⟩ ∈ GW := GW_3 (List.mem_of_getElem? (i := 220) (by decide +kernel)) (by decide +kernel)
theorem w_3_221 : Cond.instanceMethod ⟨"PipeWorks", "near", "(I)I"⟩ ∈ GW := GW_3 (List.mem_of_getElem? (i := 221) (by decide +kernel)) (by decide +kernel)
theorem w_3_222 : Cond.selects "PipeWorks" ⟨"PipeWorks", "near", "(I)I"⟩ ⟨"PipeWorks", "near", "(I)I"⟩ ∈ GW := GW_3 (List.mem_of_getElem? (i := 222) (by decide +kernel)) (by decide +kernel)
theorem w_6_150 : Cond.code ⟨"PipeWorksModel", "near", "(I)I"⟩ prog_14_method_35_code 3 (some .int) ∈ GW := GW_6 (List.mem_of_getElem? (i := 150) (by decide +kernel)) (by decide +kernel)
theorem w_6_147 : Cond.methodLink "PipeWorksLaw" 96 ⟨"PipeWorksModel", "near", "(I)I"⟩ ∈ GW := GW_6 (List.mem_of_getElem? (i := 147) (by decide +kernel)) (by decide +kernel)
theorem w_6_148 : Cond.instanceMethod ⟨"PipeWorksModel", "near", "(I)I"⟩ ∈ GW := GW_6 (List.mem_of_getElem? (i := 148) (by decide +kernel)) (by decide +kernel)
theorem w_6_149 : Cond.selects "PipeWorksModel" ⟨"PipeWorksModel", "near", "(I)I"⟩ ⟨"PipeWorksModel", "near", "(I)I"⟩ ∈ GW := GW_6 (List.mem_of_getElem? (i := 149) (by decide +kernel)) (by decide +kernel)
theorem w_3_227 : Cond.code ⟨"PipeWorks", "press", "(II)I"⟩ prog_1_method_21_code 3 (some .int) ∈ GW := GW_3 (List.mem_of_getElem? (i := 227) (by decide +kernel)) (by decide +kernel)
theorem w_3_224 : Cond.methodLink "PipeWorksLaw" 97 ⟨"PipeWorks", "press", "(II)I"⟩ ∈ GW := GW_3 (List.mem_of_getElem? (i := 224) (by decide +kernel)) (by decide +kernel)
theorem w_3_225 : Cond.instanceMethod ⟨"PipeWorks", "press", "(II)I"⟩ ∈ GW := GW_3 (List.mem_of_getElem? (i := 225) (by decide +kernel)) (by decide +kernel)
theorem w_3_226 : Cond.selects "PipeWorks" ⟨"PipeWorks", "press", "(II)I"⟩ ⟨"PipeWorks", "press", "(II)I"⟩ ∈ GW := GW_3 (List.mem_of_getElem? (i := 226) (by decide +kernel)) (by decide +kernel)
theorem w_6_154 : Cond.code ⟨"PipeWorksModel", "press", "(II)I"⟩ prog_14_method_36_code 3 (some .int) ∈ GW := GW_6 (List.mem_of_getElem? (i := 154) (by decide +kernel)) (by decide +kernel)
theorem w_6_151 : Cond.methodLink "PipeWorksLaw" 100 ⟨"PipeWorksModel", "press", "(II)I"⟩ ∈ GW := GW_6 (List.mem_of_getElem? (i := 151) (by decide +kernel)) (by decide +kernel)
theorem w_6_152 : Cond.instanceMethod ⟨"PipeWorksModel", "press", "(II)I"⟩ ∈ GW := GW_6 (List.mem_of_getElem? (i := 152) (by decide +kernel)) (by decide +kernel)
theorem w_6_153 : Cond.selects "PipeWorksModel" ⟨"PipeWorksModel", "press", "(II)I"⟩ ⟨"PipeWorksModel", "press", "(II)I"⟩ ∈ GW := GW_6 (List.mem_of_getElem? (i := 153) (by decide +kernel)) (by decide +kernel)
theorem w_3_234 : Cond.code ⟨"PipeWorks", "flow", "(I)I"⟩ prog_1_method_22_code 2 (some .int) ∈ GW := GW_3 (List.mem_of_getElem? (i := 234) (by decide +kernel)) (by decide +kernel)
theorem w_3_231 : Cond.methodLink "PipeWorksLaw" 101 ⟨"PipeWorks", "flow", "(I)I"⟩ ∈ GW := GW_3 (List.mem_of_getElem? (i := 231) (by decide +kernel)) (by decide +kernel)
theorem w_3_232 : Cond.instanceMethod ⟨"PipeWorks", "flow", "(I)I"⟩ ∈ GW := GW_3 (List.mem_of_getElem? (i := 232) (by decide +kernel)) (by decide +kernel)
theorem w_3_233 : Cond.selects "PipeWorks" ⟨"PipeWorks", "flow", "(I)I"⟩ ⟨"PipeWorks", "flow", "(I)I"⟩ ∈ GW := GW_3 (List.mem_of_getElem? (i := 233) (by decide +kernel)) (by decide +kernel)
theorem w_6_160 : Cond.code ⟨"PipeWorksModel", "flow", "(I)I"⟩ prog_14_method_38_code 2 (some .int) ∈ GW := GW_6 (List.mem_of_getElem? (i := 160) (by decide +kernel)) (by decide +kernel)
theorem w_6_157 : Cond.methodLink "PipeWorksLaw" 104 ⟨"PipeWorksModel", "flow", "(I)I"⟩ ∈ GW := GW_6 (List.mem_of_getElem? (i := 157) (by decide +kernel)) (by decide +kernel)
theorem w_6_158 : Cond.instanceMethod ⟨"PipeWorksModel", "flow", "(I)I"⟩ ∈ GW := GW_6 (List.mem_of_getElem? (i := 158) (by decide +kernel)) (by decide +kernel)
theorem w_6_159 : Cond.selects "PipeWorksModel" ⟨"PipeWorksModel", "flow", "(I)I"⟩ ⟨"PipeWorksModel", "flow", "(I)I"⟩ ∈ GW := GW_6 (List.mem_of_getElem? (i := 159) (by decide +kernel)) (by decide +kernel)
theorem w_4_2 : Cond.code ⟨"PipeWorks", "step", "(I)I"⟩ prog_1_method_23_code 4 (some .int) ∈ GW := GW_4 (List.mem_of_getElem? (i := 2) (by decide +kernel)) (by decide +kernel)
theorem w_3_239 : Cond.methodLink "PipeWorksLaw" 105 ⟨"PipeWorks", "step", "(I)I"⟩ ∈ GW := GW_3 (List.mem_of_getElem? (i := 239) (by decide +kernel)) (by decide +kernel)
theorem w_4_0 : Cond.instanceMethod ⟨"PipeWorks", "step", "(I)I"⟩ ∈ GW := GW_4 (List.mem_of_getElem? (i := 0) (by decide +kernel)) (by decide +kernel)
theorem w_4_1 : Cond.selects "PipeWorks" ⟨"PipeWorks", "step", "(I)I"⟩ ⟨"PipeWorks", "step", "(I)I"⟩ ∈ GW := GW_4 (List.mem_of_getElem? (i := 1) (by decide +kernel)) (by decide +kernel)
theorem w_6_168 : Cond.code ⟨"PipeWorksModel", "step", "(I)I"⟩ prog_14_method_40_code 4 (some .int) ∈ GW := GW_6 (List.mem_of_getElem? (i := 168) (by decide +kernel)) (by decide +kernel)
theorem w_6_165 : Cond.methodLink "PipeWorksLaw" 108 ⟨"PipeWorksModel", "step", "(I)I"⟩ ∈ GW := GW_6 (List.mem_of_getElem? (i := 165) (by decide +kernel)) (by decide +kernel)
theorem w_6_166 : Cond.instanceMethod ⟨"PipeWorksModel", "step", "(I)I"⟩ ∈ GW := GW_6 (List.mem_of_getElem? (i := 166) (by decide +kernel)) (by decide +kernel)
theorem w_6_167 : Cond.selects "PipeWorksModel" ⟨"PipeWorksModel", "step", "(I)I"⟩ ⟨"PipeWorksModel", "step", "(I)I"⟩ ∈ GW := GW_6 (List.mem_of_getElem? (i := 167) (by decide +kernel)) (by decide +kernel)
theorem w_4_70 : Cond.code ⟨"PipeWorks", "told", "(I)I"⟩ prog_1_method_24_code 2 (some .int) ∈ GW := GW_4 (List.mem_of_getElem? (i := 70) (by decide +kernel)) (by decide +kernel)
theorem w_4_67 : Cond.methodLink "PipeWorksLaw" 109 ⟨"PipeWorks", "told", "(I)I"⟩ ∈ GW := GW_4 (List.mem_of_getElem? (i := 67) (by decide +kernel)) (by decide +kernel)
theorem w_4_68 : Cond.instanceMethod ⟨"PipeWorks", "told", "(I)I"⟩ ∈ GW := GW_4 (List.mem_of_getElem? (i := 68) (by decide +kernel)) (by decide +kernel)
theorem w_4_69 : Cond.selects "PipeWorks" ⟨"PipeWorks", "told", "(I)I"⟩ ⟨"PipeWorks", "told", "(I)I"⟩ ∈ GW := GW_4 (List.mem_of_getElem? (i := 69) (by decide +kernel)) (by decide +kernel)
theorem w_6_176 : Cond.code ⟨"PipeWorksModel", "told", "(I)I"⟩ prog_14_method_41_code 2 (some .int) ∈ GW := GW_6 (List.mem_of_getElem? (i := 176) (by decide +kernel)) (by decide +kernel)
theorem w_6_173 : Cond.methodLink "PipeWorksLaw" 112 ⟨"PipeWorksModel", "told", "(I)I"⟩ ∈ GW := GW_6 (List.mem_of_getElem? (i := 173) (by decide +kernel)) (by decide +kernel)
theorem w_6_174 : Cond.instanceMethod ⟨"PipeWorksModel", "told", "(I)I"⟩ ∈ GW := GW_6 (List.mem_of_getElem? (i := 174) (by decide +kernel)) (by decide +kernel)
theorem w_6_175 : Cond.selects "PipeWorksModel" ⟨"PipeWorksModel", "told", "(I)I"⟩ ⟨"PipeWorksModel", "told", "(I)I"⟩ ∈ GW := GW_6 (List.mem_of_getElem? (i := 175) (by decide +kernel)) (by decide +kernel)
theorem w_4_74 : Cond.code ⟨"PipeWorks", "row", "(II)I"⟩ prog_1_method_25_code 4 (some .int) ∈ GW := GW_4 (List.mem_of_getElem? (i := 74) (by decide +kernel)) (by decide +kernel)
theorem w_4_71 : Cond.methodLink "PipeWorksLaw" 113 ⟨"PipeWorks", "row", "(II)I"⟩ ∈ GW := GW_4 (List.mem_of_getElem? (i := 71) (by decide +kernel)) (by decide +kernel)
theorem w_4_72 : Cond.instanceMethod ⟨"PipeWorks", "row", "(II)I"⟩ ∈ GW := GW_4 (List.mem_of_getElem? (i := 72) (by decide +kernel)) (by decide +kernel)
theorem w_4_73 : Cond.selects "PipeWorks" ⟨"PipeWorks", "row", "(II)I"⟩ ⟨"PipeWorks", "row", "(II)I"⟩ ∈ GW := GW_4 (List.mem_of_getElem? (i := 73) (by decide +kernel)) (by decide +kernel)
theorem w_6_180 : Cond.code ⟨"PipeWorksModel", "row", "(II)I"⟩ prog_14_method_43_code 5 (some .int) ∈ GW := GW_6 (List.mem_of_getElem? (i := 180) (by decide +kernel)) (by decide +kernel)
theorem w_6_177 : Cond.methodLink "PipeWorksLaw" 116 ⟨"PipeWorksModel", "row", "(II)I"⟩ ∈ GW := GW_6 (List.mem_of_getElem? (i := 177) (by decide +kernel)) (by decide +kernel)
theorem w_6_178 : Cond.instanceMethod ⟨"PipeWorksModel", "row", "(II)I"⟩ ∈ GW := GW_6 (List.mem_of_getElem? (i := 178) (by decide +kernel)) (by decide +kernel)
theorem w_6_179 : Cond.selects "PipeWorksModel" ⟨"PipeWorksModel", "row", "(II)I"⟩ ⟨"PipeWorksModel", "row", "(II)I"⟩ ∈ GW := GW_6 (List.mem_of_getElem? (i := 179) (by decide +kernel)) (by decide +kernel)
theorem w_4_78 : Cond.code ⟨"PipeWorks", "put", "(III)I"⟩ prog_1_method_26_code 4 (some .int) ∈ GW := GW_4 (List.mem_of_getElem? (i := 78) (by decide +kernel)) (by decide +kernel)
theorem w_4_75 : Cond.methodLink "PipeWorksLaw" 117 ⟨"PipeWorks", "put", "(III)I"⟩ ∈ GW := GW_4 (List.mem_of_getElem? (i := 75) (by decide +kernel)) (by decide +kernel)
theorem w_4_76 : Cond.instanceMethod ⟨"PipeWorks", "put", "(III)I"⟩ ∈ GW := GW_4 (List.mem_of_getElem? (i := 76) (by decide +kernel)) (by decide +kernel)
theorem w_4_77 : Cond.selects "PipeWorks" ⟨"PipeWorks", "put", "(III)I"⟩ ⟨"PipeWorks", "put", "(III)I"⟩ ∈ GW := GW_4 (List.mem_of_getElem? (i := 77) (by decide +kernel)) (by decide +kernel)
theorem w_6_187 : Cond.code ⟨"PipeWorksModel", "put", "(III)I"⟩ prog_14_method_45_code 4 (some .int) ∈ GW := GW_6 (List.mem_of_getElem? (i := 187) (by decide +kernel)) (by decide +kernel)
theorem w_6_184 : Cond.methodLink "PipeWorksLaw" 120 ⟨"PipeWorksModel", "put", "(III)I"⟩ ∈ GW := GW_6 (List.mem_of_getElem? (i := 184) (by decide +kernel)) (by decide +kernel)
theorem w_6_185 : Cond.instanceMethod ⟨"PipeWorksModel", "put", "(III)I"⟩ ∈ GW := GW_6 (List.mem_of_getElem? (i := 185) (by decide +kernel)) (by decide +kernel)
theorem w_6_186 : Cond.selects "PipeWorksModel" ⟨"PipeWorksModel", "put", "(III)I"⟩ ⟨"PipeWorksModel", "put", "(III)I"⟩ ∈ GW := GW_6 (List.mem_of_getElem? (i := 186) (by decide +kernel)) (by decide +kernel)
theorem w_4_88 : Cond.code ⟨"PipeWorks", "none", "(II)I"⟩ prog_1_method_27_code 3 (some .int) ∈ GW := GW_4 (List.mem_of_getElem? (i := 88) (by decide +kernel)) (by decide +kernel)
theorem w_4_85 : Cond.methodLink "PipeWorksLaw" 121 ⟨"PipeWorks", "none", "(II)I"⟩ ∈ GW := GW_4 (List.mem_of_getElem? (i := 85) (by decide +kernel)) (by decide +kernel)
theorem w_4_86 : Cond.instanceMethod ⟨"PipeWorks", "none", "(II)I"⟩ ∈ GW := GW_4 (List.mem_of_getElem? (i := 86) (by decide +kernel)) (by decide +kernel)
theorem w_4_87 : Cond.selects "PipeWorks" ⟨"PipeWorks", "none", "(II)I"⟩ ⟨"PipeWorks", "none", "(II)I"⟩ ∈ GW := GW_4 (List.mem_of_getElem? (i := 87) (by decide +kernel)) (by decide +kernel)
theorem w_6_197 : Cond.code ⟨"PipeWorksModel", "none", "(II)I"⟩ prog_14_method_46_code 3 (some .int) ∈ GW := GW_6 (List.mem_of_getElem? (i := 197) (by decide +kernel)) (by decide +kernel)
theorem w_6_194 : Cond.methodLink "PipeWorksLaw" 124 ⟨"PipeWorksModel", "none", "(II)I"⟩ ∈ GW := GW_6 (List.mem_of_getElem? (i := 194) (by decide +kernel)) (by decide +kernel)
theorem w_6_195 : Cond.instanceMethod ⟨"PipeWorksModel", "none", "(II)I"⟩ ∈ GW := GW_6 (List.mem_of_getElem? (i := 195) (by decide +kernel)) (by decide +kernel)
theorem w_6_196 : Cond.selects "PipeWorksModel" ⟨"PipeWorksModel", "none", "(II)I"⟩ ⟨"PipeWorksModel", "none", "(II)I"⟩ ∈ GW := GW_6 (List.mem_of_getElem? (i := 196) (by decide +kernel)) (by decide +kernel)
theorem w_4_92 : Cond.code ⟨"PipeWorks", "read", "(II)I"⟩ prog_1_method_28_code 3 (some .int) ∈ GW := GW_4 (List.mem_of_getElem? (i := 92) (by decide +kernel)) (by decide +kernel)
theorem w_4_89 : Cond.methodLink "PipeWorksLaw" 125 ⟨"PipeWorks", "read", "(II)I"⟩ ∈ GW := GW_4 (List.mem_of_getElem? (i := 89) (by decide +kernel)) (by decide +kernel)
theorem w_4_90 : Cond.instanceMethod ⟨"PipeWorks", "read", "(II)I"⟩ ∈ GW := GW_4 (List.mem_of_getElem? (i := 90) (by decide +kernel)) (by decide +kernel)
theorem w_4_91 : Cond.selects "PipeWorks" ⟨"PipeWorks", "read", "(II)I"⟩ ⟨"PipeWorks", "read", "(II)I"⟩ ∈ GW := GW_4 (List.mem_of_getElem? (i := 91) (by decide +kernel)) (by decide +kernel)
theorem w_6_201 : Cond.code ⟨"PipeWorksModel", "read", "(II)I"⟩ prog_14_method_47_code 3 (some .int) ∈ GW := GW_6 (List.mem_of_getElem? (i := 201) (by decide +kernel)) (by decide +kernel)
theorem w_6_198 : Cond.methodLink "PipeWorksLaw" 128 ⟨"PipeWorksModel", "read", "(II)I"⟩ ∈ GW := GW_6 (List.mem_of_getElem? (i := 198) (by decide +kernel)) (by decide +kernel)
theorem w_6_199 : Cond.instanceMethod ⟨"PipeWorksModel", "read", "(II)I"⟩ ∈ GW := GW_6 (List.mem_of_getElem? (i := 199) (by decide +kernel)) (by decide +kernel)
theorem w_6_200 : Cond.selects "PipeWorksModel" ⟨"PipeWorksModel", "read", "(II)I"⟩ ⟨"PipeWorksModel", "read", "(II)I"⟩ ∈ GW := GW_6 (List.mem_of_getElem? (i := 200) (by decide +kernel)) (by decide +kernel)
theorem w_4_99 : Cond.code ⟨"PipeWorks", "say", "(I)I"⟩ prog_1_method_29_code 2 (some .int) ∈ GW := GW_4 (List.mem_of_getElem? (i := 99) (by decide +kernel)) (by decide +kernel)
theorem w_4_96 : Cond.methodLink "PipeWorksLaw" 129 ⟨"PipeWorks", "say", "(I)I"⟩ ∈ GW := GW_4 (List.mem_of_getElem? (i := 96) (by decide +kernel)) (by decide +kernel)
theorem w_4_97 : Cond.instanceMethod ⟨"PipeWorks", "say", "(I)I"⟩ ∈ GW := GW_4 (List.mem_of_getElem? (i := 97) (by decide +kernel)) (by decide +kernel)
theorem w_4_98 : Cond.selects "PipeWorks" ⟨"PipeWorks", "say", "(I)I"⟩ ⟨"PipeWorks", "say", "(I)I"⟩ ∈ GW := GW_4 (List.mem_of_getElem? (i := 98) (by decide +kernel)) (by decide +kernel)
theorem w_6_208 : Cond.code ⟨"PipeWorksModel", "say", "(I)I"⟩ prog_14_method_48_code 2 (some .int) ∈ GW := GW_6 (List.mem_of_getElem? (i := 208) (by decide +kernel)) (by decide +kernel)
theorem w_6_205 : Cond.methodLink "PipeWorksLaw" 132 ⟨"PipeWorksModel", "say", "(I)I"⟩ ∈ GW := GW_6 (List.mem_of_getElem? (i := 205) (by decide +kernel)) (by decide +kernel)
theorem w_6_206 : Cond.instanceMethod ⟨"PipeWorksModel", "say", "(I)I"⟩ ∈ GW := GW_6 (List.mem_of_getElem? (i := 206) (by decide +kernel)) (by decide +kernel)
theorem w_6_207 : Cond.selects "PipeWorksModel" ⟨"PipeWorksModel", "say", "(I)I"⟩ ⟨"PipeWorksModel", "say", "(I)I"⟩ ∈ GW := GW_6 (List.mem_of_getElem? (i := 207) (by decide +kernel)) (by decide +kernel)
theorem w_4_107 : Cond.code ⟨"PipeWorks", "wipe", "()I"⟩ prog_1_method_30_code 1 (some .int) ∈ GW := GW_4 (List.mem_of_getElem? (i := 107) (by decide +kernel)) (by decide +kernel)
theorem w_4_104 : Cond.methodLink "PipeWorksLaw" 133 ⟨"PipeWorks", "wipe", "()I"⟩ ∈ GW := GW_4 (List.mem_of_getElem? (i := 104) (by decide +kernel)) (by decide +kernel)
theorem w_4_105 : Cond.instanceMethod ⟨"PipeWorks", "wipe", "()I"⟩ ∈ GW := GW_4 (List.mem_of_getElem? (i := 105) (by decide +kernel)) (by decide +kernel)
theorem w_4_106 : Cond.selects "PipeWorks" ⟨"PipeWorks", "wipe", "()I"⟩ ⟨"PipeWorks", "wipe", "()I"⟩ ∈ GW := GW_4 (List.mem_of_getElem? (i := 106) (by decide +kernel)) (by decide +kernel)
theorem w_6_212 : Cond.code ⟨"PipeWorksModel", "wipe", "()I"⟩ prog_14_method_49_code 2 (some .int) ∈ GW := GW_6 (List.mem_of_getElem? (i := 212) (by decide +kernel)) (by decide +kernel)
theorem w_6_209 : Cond.methodLink "PipeWorksLaw" 136 ⟨"PipeWorksModel", "wipe", "()I"⟩ ∈ GW := GW_6 (List.mem_of_getElem? (i := 209) (by decide +kernel)) (by decide +kernel)
theorem w_6_210 : Cond.instanceMethod ⟨"PipeWorksModel", "wipe", "()I"⟩ ∈ GW := GW_6 (List.mem_of_getElem? (i := 210) (by decide +kernel)) (by decide +kernel)
theorem w_6_211 : Cond.selects "PipeWorksModel" ⟨"PipeWorksModel", "wipe", "()I"⟩ ⟨"PipeWorksModel", "wipe", "()I"⟩ ∈ GW := GW_6 (List.mem_of_getElem? (i := 211) (by decide +kernel)) (by decide +kernel)
theorem w_4_115 : Cond.code ⟨"PipeWorks", "fault", "()I"⟩ prog_1_method_31_code 1 (some .int) ∈ GW := GW_4 (List.mem_of_getElem? (i := 115) (by decide +kernel)) (by decide +kernel)
theorem w_4_112 : Cond.methodLink "PipeWorksLaw" 137 ⟨"PipeWorks", "fault", "()I"⟩ ∈ GW := GW_4 (List.mem_of_getElem? (i := 112) (by decide +kernel)) (by decide +kernel)
theorem w_4_113 : Cond.instanceMethod ⟨"PipeWorks", "fault", "()I"⟩ ∈ GW := GW_4 (List.mem_of_getElem? (i := 113) (by decide +kernel)) (by decide +kernel)
theorem w_4_114 : Cond.selects "PipeWorks" ⟨"PipeWorks", "fault", "()I"⟩ ⟨"PipeWorks", "fault", "()I"⟩ ∈ GW := GW_4 (List.mem_of_getElem? (i := 114) (by decide +kernel)) (by decide +kernel)
theorem w_6_216 : Cond.code ⟨"PipeWorksModel", "fault", "()I"⟩ prog_14_method_51_code 1 (some .int) ∈ GW := GW_6 (List.mem_of_getElem? (i := 216) (by decide +kernel)) (by decide +kernel)
theorem w_6_213 : Cond.methodLink "PipeWorksLaw" 140 ⟨"PipeWorksModel", "fault", "()I"⟩ ∈ GW := GW_6 (List.mem_of_getElem? (i := 213) (by decide +kernel)) (by decide +kernel)
theorem w_6_214 : Cond.instanceMethod ⟨"PipeWorksModel", "fault", "()I"⟩ ∈ GW := GW_6 (List.mem_of_getElem? (i := 214) (by decide +kernel)) (by decide +kernel)
theorem w_6_215 : Cond.selects "PipeWorksModel" ⟨"PipeWorksModel", "fault", "()I"⟩ ⟨"PipeWorksModel", "fault", "()I"⟩ ∈ GW := GW_6 (List.mem_of_getElem? (i := 215) (by decide +kernel)) (by decide +kernel)
theorem w_4_133 : Cond.code ⟨"PipeWorks", "order", "(I)I"⟩ prog_1_method_32_code 2 (some .int) ∈ GW := GW_4 (List.mem_of_getElem? (i := 133) (by decide +kernel)) (by decide +kernel)
theorem w_4_130 : Cond.methodLink "PipeWorksLaw" 141 ⟨"PipeWorks", "order", "(I)I"⟩ ∈ GW := GW_4 (List.mem_of_getElem? (i := 130) (by decide +kernel)) (by decide +kernel)
theorem w_4_131 : Cond.instanceMethod ⟨"PipeWorks", "order", "(I)I"⟩ ∈ GW := GW_4 (List.mem_of_getElem? (i := 131) (by decide +kernel)) (by decide +kernel)
theorem w_4_132 : Cond.selects "PipeWorks" ⟨"PipeWorks", "order", "(I)I"⟩ ⟨"PipeWorks", "order", "(I)I"⟩ ∈ GW := GW_4 (List.mem_of_getElem? (i := 132) (by decide +kernel)) (by decide +kernel)
theorem w_6_224 : Cond.code ⟨"PipeWorksModel", "order", "(I)I"⟩ prog_14_method_52_code 3 (some .int) ∈ GW := GW_6 (List.mem_of_getElem? (i := 224) (by decide +kernel)) (by decide +kernel)
theorem w_6_221 : Cond.methodLink "PipeWorksLaw" 144 ⟨"PipeWorksModel", "order", "(I)I"⟩ ∈ GW := GW_6 (List.mem_of_getElem? (i := 221) (by decide +kernel)) (by decide +kernel)
theorem w_6_222 : Cond.instanceMethod ⟨"PipeWorksModel", "order", "(I)I"⟩ ∈ GW := GW_6 (List.mem_of_getElem? (i := 222) (by decide +kernel)) (by decide +kernel)
theorem w_6_223 : Cond.selects "PipeWorksModel" ⟨"PipeWorksModel", "order", "(I)I"⟩ ⟨"PipeWorksModel", "order", "(I)I"⟩ ∈ GW := GW_6 (List.mem_of_getElem? (i := 223) (by decide +kernel)) (by decide +kernel)
theorem w_4_144 : Cond.code ⟨"PipeWorks", "does", "()I"⟩ prog_1_method_33_code 6 (some .int) ∈ GW := GW_4 (List.mem_of_getElem? (i := 144) (by decide +kernel)) (by decide +kernel)
theorem w_4_141 : Cond.methodLink "PipeWorksLaw" 145 ⟨"PipeWorks", "does", "()I"⟩ ∈ GW := GW_4 (List.mem_of_getElem? (i := 141) (by decide +kernel)) (by decide +kernel)
theorem w_4_142 : Cond.instanceMethod ⟨"PipeWorks", "does", "()I"⟩ ∈ GW := GW_4 (List.mem_of_getElem? (i := 142) (by decide +kernel)) (by decide +kernel)
theorem w_4_143 : Cond.selects "PipeWorks" ⟨"PipeWorks", "does", "()I"⟩ ⟨"PipeWorks", "does", "()I"⟩ ∈ GW := GW_4 (List.mem_of_getElem? (i := 143) (by decide +kernel)) (by decide +kernel)
theorem w_6_228 : Cond.code ⟨"PipeWorksModel", "does", "()I"⟩ prog_14_method_55_code 3 (some .int) ∈ GW := GW_6 (List.mem_of_getElem? (i := 228) (by decide +kernel)) (by decide +kernel)
theorem w_6_225 : Cond.methodLink "PipeWorksLaw" 148 ⟨"PipeWorksModel", "does", "()I"⟩ ∈ GW := GW_6 (List.mem_of_getElem? (i := 225) (by decide +kernel)) (by decide +kernel)
theorem w_6_226 : Cond.instanceMethod ⟨"PipeWorksModel", "does", "()I"⟩ ∈ GW := GW_6 (List.mem_of_getElem? (i := 226) (by decide +kernel)) (by decide +kernel)
theorem w_6_227 : Cond.selects "PipeWorksModel" ⟨"PipeWorksModel", "does", "()I"⟩ ⟨"PipeWorksModel", "does", "()I"⟩ ∈ GW := GW_6 (List.mem_of_getElem? (i := 227) (by decide +kernel)) (by decide +kernel)
theorem w_4_196 : Cond.code ⟨"PipeWorks", "why", "(I)I"⟩ prog_1_method_34_code 2 (some .int) ∈ GW := GW_4 (List.mem_of_getElem? (i := 196) (by decide +kernel)) (by decide +kernel)
theorem w_4_193 : Cond.methodLink "PipeWorksLaw" 149 ⟨"PipeWorks", "why", "(I)I"⟩ ∈ GW := GW_4 (List.mem_of_getElem? (i := 193) (by decide +kernel)) (by decide +kernel)
theorem w_4_194 : Cond.instanceMethod ⟨"PipeWorks", "why", "(I)I"⟩ ∈ GW := GW_4 (List.mem_of_getElem? (i := 194) (by decide +kernel)) (by decide +kernel)
theorem w_4_195 : Cond.selects "PipeWorks" ⟨"PipeWorks", "why", "(I)I"⟩ ⟨"PipeWorks", "why", "(I)I"⟩ ∈ GW := GW_4 (List.mem_of_getElem? (i := 195) (by decide +kernel)) (by decide +kernel)
theorem w_7_0 : Cond.code ⟨"PipeWorksModel", "why", "(I)I"⟩ prog_14_method_56_code 2 (some .int) ∈ GW := GW_7 (List.mem_of_getElem? (i := 0) (by decide +kernel)) (by decide +kernel)
theorem w_6_237 : Cond.methodLink "PipeWorksLaw" 152 ⟨"PipeWorksModel", "why", "(I)I"⟩ ∈ GW := GW_6 (List.mem_of_getElem? (i := 237) (by decide +kernel)) (by decide +kernel)
theorem w_6_238 : Cond.instanceMethod ⟨"PipeWorksModel", "why", "(I)I"⟩ ∈ GW := GW_6 (List.mem_of_getElem? (i := 238) (by decide +kernel)) (by decide +kernel)
theorem w_6_239 : Cond.selects "PipeWorksModel" ⟨"PipeWorksModel", "why", "(I)I"⟩ ⟨"PipeWorksModel", "why", "(I)I"⟩ ∈ GW := GW_6 (List.mem_of_getElem? (i := 239) (by decide +kernel)) (by decide +kernel)
theorem w_4_201 : Cond.code ⟨"PipeWorks", "cut", "(I)I"⟩ prog_1_method_35_code 2 (some .int) ∈ GW := GW_4 (List.mem_of_getElem? (i := 201) (by decide +kernel)) (by decide +kernel)
theorem w_4_198 : Cond.methodLink "PipeWorksLaw" 153 ⟨"PipeWorks", "cut", "(I)I"⟩ ∈ GW := GW_4 (List.mem_of_getElem? (i := 198) (by decide +kernel)) (by decide +kernel)
theorem w_4_199 : Cond.instanceMethod ⟨"PipeWorks", "cut", "(I)I"⟩ ∈ GW := GW_4 (List.mem_of_getElem? (i := 199) (by decide +kernel)) (by decide +kernel)
theorem w_4_200 : Cond.selects "PipeWorks" ⟨"PipeWorks", "cut", "(I)I"⟩ ⟨"PipeWorks", "cut", "(I)I"⟩ ∈ GW := GW_4 (List.mem_of_getElem? (i := 200) (by decide +kernel)) (by decide +kernel)
theorem w_7_4 : Cond.code ⟨"PipeWorksModel", "cut", "(I)I"⟩ prog_14_method_60_code 2 (some .int) ∈ GW := GW_7 (List.mem_of_getElem? (i := 4) (by decide +kernel)) (by decide +kernel)
theorem w_7_1 : Cond.methodLink "PipeWorksLaw" 156 ⟨"PipeWorksModel", "cut", "(I)I"⟩ ∈ GW := GW_7 (List.mem_of_getElem? (i := 1) (by decide +kernel)) (by decide +kernel)
theorem w_7_2 : Cond.instanceMethod ⟨"PipeWorksModel", "cut", "(I)I"⟩ ∈ GW := GW_7 (List.mem_of_getElem? (i := 2) (by decide +kernel)) (by decide +kernel)
theorem w_7_3 : Cond.selects "PipeWorksModel" ⟨"PipeWorksModel", "cut", "(I)I"⟩ ⟨"PipeWorksModel", "cut", "(I)I"⟩ ∈ GW := GW_7 (List.mem_of_getElem? (i := 3) (by decide +kernel)) (by decide +kernel)
theorem w_4_224 : Cond.code ⟨"PipeWorks", "dry", "(I)I"⟩ prog_1_method_36_code 4 (some .int) ∈ GW := GW_4 (List.mem_of_getElem? (i := 224) (by decide +kernel)) (by decide +kernel)
theorem w_4_221 : Cond.methodLink "PipeWorksLaw" 157 ⟨"PipeWorks", "dry", "(I)I"⟩ ∈ GW := GW_4 (List.mem_of_getElem? (i := 221) (by decide +kernel)) (by decide +kernel)
theorem w_4_222 : Cond.instanceMethod ⟨"PipeWorks", "dry", "(I)I"⟩ ∈ GW := GW_4 (List.mem_of_getElem? (i := 222) (by decide +kernel)) (by decide +kernel)
theorem w_4_223 : Cond.selects "PipeWorks" ⟨"PipeWorks", "dry", "(I)I"⟩ ⟨"PipeWorks", "dry", "(I)I"⟩ ∈ GW := GW_4 (List.mem_of_getElem? (i := 223) (by decide +kernel)) (by decide +kernel)
theorem w_7_19 : Cond.code ⟨"PipeWorksModel", "dry", "(I)I"⟩ prog_14_method_61_code 3 (some .int) ∈ GW := GW_7 (List.mem_of_getElem? (i := 19) (by decide +kernel)) (by decide +kernel)
theorem w_7_16 : Cond.methodLink "PipeWorksLaw" 160 ⟨"PipeWorksModel", "dry", "(I)I"⟩ ∈ GW := GW_7 (List.mem_of_getElem? (i := 16) (by decide +kernel)) (by decide +kernel)
theorem w_7_17 : Cond.instanceMethod ⟨"PipeWorksModel", "dry", "(I)I"⟩ ∈ GW := GW_7 (List.mem_of_getElem? (i := 17) (by decide +kernel)) (by decide +kernel)
theorem w_7_18 : Cond.selects "PipeWorksModel" ⟨"PipeWorksModel", "dry", "(I)I"⟩ ⟨"PipeWorksModel", "dry", "(I)I"⟩ ∈ GW := GW_7 (List.mem_of_getElem? (i := 18) (by decide +kernel)) (by decide +kernel)
theorem w_4_229 : Cond.code ⟨"PipeWorks", "seek", "(III)I"⟩ prog_1_method_37_code 5 (some .int) ∈ GW := GW_4 (List.mem_of_getElem? (i := 229) (by decide +kernel)) (by decide +kernel)
theorem w_4_226 : Cond.methodLink "PipeWorksLaw" 161 ⟨"PipeWorks", "seek", "(III)I"⟩ ∈ GW := GW_4 (List.mem_of_getElem? (i := 226) (by decide +kernel)) (by decide +kernel)
theorem w_4_227 : Cond.instanceMethod ⟨"PipeWorks", "seek", "(III)I"⟩ ∈ GW := GW_4 (List.mem_of_getElem? (i := 227) (by decide +kernel)) (by decide +kernel)
theorem w_4_228 : Cond.selects "PipeWorks" ⟨"PipeWorks", "seek", "(III)I"⟩ ⟨"PipeWorks", "seek", "(III)I"⟩ ∈ GW := GW_4 (List.mem_of_getElem? (i := 228) (by decide +kernel)) (by decide +kernel)
theorem w_7_23 : Cond.code ⟨"PipeWorksModel", "seek", "(III)I"⟩ prog_14_method_62_code 10 (some .int) ∈ GW := GW_7 (List.mem_of_getElem? (i := 23) (by decide +kernel)) (by decide +kernel)
theorem w_7_20 : Cond.methodLink "PipeWorksLaw" 164 ⟨"PipeWorksModel", "seek", "(III)I"⟩ ∈ GW := GW_7 (List.mem_of_getElem? (i := 20) (by decide +kernel)) (by decide +kernel)
theorem w_7_21 : Cond.instanceMethod ⟨"PipeWorksModel", "seek", "(III)I"⟩ ∈ GW := GW_7 (List.mem_of_getElem? (i := 21) (by decide +kernel)) (by decide +kernel)
theorem w_7_22 : Cond.selects "PipeWorksModel" ⟨"PipeWorksModel", "seek", "(III)I"⟩ ⟨"PipeWorksModel", "seek", "(III)I"⟩ ∈ GW := GW_7 (List.mem_of_getElem? (i := 22) (by decide +kernel)) (by decide +kernel)
theorem w_5_19 : Cond.code ⟨"PipeWorks", "block", "(I)I"⟩ prog_1_method_38_code 2 (some .int) ∈ GW := GW_5 (List.mem_of_getElem? (i := 19) (by decide +kernel)) (by decide +kernel)
theorem w_5_16 : Cond.methodLink "PipeWorksLaw" 165 ⟨"PipeWorks", "block", "(I)I"⟩ ∈ GW := GW_5 (List.mem_of_getElem? (i := 16) (by decide +kernel)) (by decide +kernel)
theorem w_5_17 : Cond.instanceMethod ⟨"PipeWorks", "block", "(I)I"⟩ ∈ GW := GW_5 (List.mem_of_getElem? (i := 17) (by decide +kernel)) (by decide +kernel)
theorem w_5_18 : Cond.selects "PipeWorks" ⟨"PipeWorks", "block", "(I)I"⟩ ⟨"PipeWorks", "block", "(I)I"⟩ ∈ GW := GW_5 (List.mem_of_getElem? (i := 18) (by decide +kernel)) (by decide +kernel)
theorem w_7_27 : Cond.code ⟨"PipeWorksModel", "block", "(I)I"⟩ prog_14_method_63_code 2 (some .int) ∈ GW := GW_7 (List.mem_of_getElem? (i := 27) (by decide +kernel)) (by decide +kernel)
theorem w_7_24 : Cond.methodLink "PipeWorksLaw" 168 ⟨"PipeWorksModel", "block", "(I)I"⟩ ∈ GW := GW_7 (List.mem_of_getElem? (i := 24) (by decide +kernel)) (by decide +kernel)
theorem w_7_25 : Cond.instanceMethod ⟨"PipeWorksModel", "block", "(I)I"⟩ ∈ GW := GW_7 (List.mem_of_getElem? (i := 25) (by decide +kernel)) (by decide +kernel)
theorem w_7_26 : Cond.selects "PipeWorksModel" ⟨"PipeWorksModel", "block", "(I)I"⟩ ⟨"PipeWorksModel", "block", "(I)I"⟩ ∈ GW := GW_7 (List.mem_of_getElem? (i := 26) (by decide +kernel)) (by decide +kernel)
theorem w_5_27 : Cond.code ⟨"PipeWorks", "rest", "()I"⟩ prog_1_method_39_code 1 (some .int) ∈ GW := GW_5 (List.mem_of_getElem? (i := 27) (by decide +kernel)) (by decide +kernel)
theorem w_5_24 : Cond.methodLink "PipeWorksLaw" 169 ⟨"PipeWorks", "rest", "()I"⟩ ∈ GW := GW_5 (List.mem_of_getElem? (i := 24) (by decide +kernel)) (by decide +kernel)
theorem w_5_25 : Cond.instanceMethod ⟨"PipeWorks", "rest", "()I"⟩ ∈ GW := GW_5 (List.mem_of_getElem? (i := 25) (by decide +kernel)) (by decide +kernel)
theorem w_5_26 : Cond.selects "PipeWorks" ⟨"PipeWorks", "rest", "()I"⟩ ⟨"PipeWorks", "rest", "()I"⟩ ∈ GW := GW_5 (List.mem_of_getElem? (i := 26) (by decide +kernel)) (by decide +kernel)
theorem w_7_31 : Cond.code ⟨"PipeWorksModel", "rest", "()I"⟩ prog_14_method_64_code 2 (some .int) ∈ GW := GW_7 (List.mem_of_getElem? (i := 31) (by decide +kernel)) (by decide +kernel)
theorem w_7_28 : Cond.methodLink "PipeWorksLaw" 172 ⟨"PipeWorksModel", "rest", "()I"⟩ ∈ GW := GW_7 (List.mem_of_getElem? (i := 28) (by decide +kernel)) (by decide +kernel)
theorem w_7_29 : Cond.instanceMethod ⟨"PipeWorksModel", "rest", "()I"⟩ ∈ GW := GW_7 (List.mem_of_getElem? (i := 29) (by decide +kernel)) (by decide +kernel)
theorem w_7_30 : Cond.selects "PipeWorksModel" ⟨"PipeWorksModel", "rest", "()I"⟩ ⟨"PipeWorksModel", "rest", "()I"⟩ ∈ GW := GW_7 (List.mem_of_getElem? (i := 30) (by decide +kernel)) (by decide +kernel)
theorem w_5_35 : Cond.code ⟨"PipeWorks", "plan", "(III)I"⟩ prog_1_method_40_code 4 (some .int) ∈ GW := GW_5 (List.mem_of_getElem? (i := 35) (by decide +kernel)) (by decide +kernel)
theorem w_5_32 : Cond.methodLink "PipeWorksLaw" 173 ⟨"PipeWorks", "plan", "(III)I"⟩ ∈ GW := GW_5 (List.mem_of_getElem? (i := 32) (by decide +kernel)) (by decide +kernel)
theorem w_5_33 : Cond.instanceMethod ⟨"PipeWorks", "plan", "(III)I"⟩ ∈ GW := GW_5 (List.mem_of_getElem? (i := 33) (by decide +kernel)) (by decide +kernel)
theorem w_5_34 : Cond.selects "PipeWorks" ⟨"PipeWorks", "plan", "(III)I"⟩ ⟨"PipeWorks", "plan", "(III)I"⟩ ∈ GW := GW_5 (List.mem_of_getElem? (i := 34) (by decide +kernel)) (by decide +kernel)
theorem w_7_35 : Cond.code ⟨"PipeWorksModel", "plan", "(III)I"⟩ prog_14_method_65_code 4 (some .int) ∈ GW := GW_7 (List.mem_of_getElem? (i := 35) (by decide +kernel)) (by decide +kernel)
theorem w_7_32 : Cond.methodLink "PipeWorksLaw" 176 ⟨"PipeWorksModel", "plan", "(III)I"⟩ ∈ GW := GW_7 (List.mem_of_getElem? (i := 32) (by decide +kernel)) (by decide +kernel)
theorem w_7_33 : Cond.instanceMethod ⟨"PipeWorksModel", "plan", "(III)I"⟩ ∈ GW := GW_7 (List.mem_of_getElem? (i := 33) (by decide +kernel)) (by decide +kernel)
theorem w_7_34 : Cond.selects "PipeWorksModel" ⟨"PipeWorksModel", "plan", "(III)I"⟩ ⟨"PipeWorksModel", "plan", "(III)I"⟩ ∈ GW := GW_7 (List.mem_of_getElem? (i := 34) (by decide +kernel)) (by decide +kernel)
theorem w_5_43 : Cond.code ⟨"PipeWorks", "best", "(II)I"⟩ prog_1_method_41_code 4 (some .int) ∈ GW := GW_5 (List.mem_of_getElem? (i := 43) (by decide +kernel)) (by decide +kernel)
theorem w_5_40 : Cond.methodLink "PipeWorksLaw" 177 ⟨"PipeWorks", "best", "(II)I"⟩ ∈ GW := GW_5 (List.mem_of_getElem? (i := 40) (by decide +kernel)) (by decide +kernel)
theorem w_5_41 : Cond.instanceMethod ⟨"PipeWorks", "best", "(II)I"⟩ ∈ GW := GW_5 (List.mem_of_getElem? (i := 41) (by decide +kernel)) (by decide +kernel)
theorem w_5_42 : Cond.selects "PipeWorks" ⟨"PipeWorks", "best", "(II)I"⟩ ⟨"PipeWorks", "best", "(II)I"⟩ ∈ GW := GW_5 (List.mem_of_getElem? (i := 42) (by decide +kernel)) (by decide +kernel)
theorem w_7_39 : Cond.code ⟨"PipeWorksModel", "best", "(II)I"⟩ prog_14_method_70_code 9 (some .int) ∈ GW := GW_7 (List.mem_of_getElem? (i := 39) (by decide +kernel)) (by decide +kernel)
theorem w_7_36 : Cond.methodLink "PipeWorksLaw" 180 ⟨"PipeWorksModel", "best", "(II)I"⟩ ∈ GW := GW_7 (List.mem_of_getElem? (i := 36) (by decide +kernel)) (by decide +kernel)
theorem w_7_37 : Cond.instanceMethod ⟨"PipeWorksModel", "best", "(II)I"⟩ ∈ GW := GW_7 (List.mem_of_getElem? (i := 37) (by decide +kernel)) (by decide +kernel)
theorem w_7_38 : Cond.selects "PipeWorksModel" ⟨"PipeWorksModel", "best", "(II)I"⟩ ⟨"PipeWorksModel", "best", "(II)I"⟩ ∈ GW := GW_7 (List.mem_of_getElem? (i := 38) (by decide +kernel)) (by decide +kernel)
theorem w_5_82 : Cond.code ⟨"PipeWorks", "fails", "(I)I"⟩ prog_1_method_42_code 2 (some .int) ∈ GW := GW_5 (List.mem_of_getElem? (i := 82) (by decide +kernel)) (by decide +kernel)
theorem w_5_79 : Cond.methodLink "PipeWorksLaw" 181 ⟨"PipeWorks", "fails", "(I)I"⟩ ∈ GW := GW_5 (List.mem_of_getElem? (i := 79) (by decide +kernel)) (by decide +kernel)
theorem w_5_80 : Cond.instanceMethod ⟨"PipeWorks", "fails", "(I)I"⟩ ∈ GW := GW_5 (List.mem_of_getElem? (i := 80) (by decide +kernel)) (by decide +kernel)
theorem w_5_81 : Cond.selects "PipeWorks" ⟨"PipeWorks", "fails", "(I)I"⟩ ⟨"PipeWorks", "fails", "(I)I"⟩ ∈ GW := GW_5 (List.mem_of_getElem? (i := 81) (by decide +kernel)) (by decide +kernel)
theorem w_7_58 : Cond.code ⟨"PipeWorksModel", "fails", "(I)I"⟩ prog_14_method_71_code 5 (some .int) ∈ GW := GW_7 (List.mem_of_getElem? (i := 58) (by decide +kernel)) (by decide +kernel)
theorem w_7_55 : Cond.methodLink "PipeWorksLaw" 184 ⟨"PipeWorksModel", "fails", "(I)I"⟩ ∈ GW := GW_7 (List.mem_of_getElem? (i := 55) (by decide +kernel)) (by decide +kernel)
theorem w_7_56 : Cond.instanceMethod ⟨"PipeWorksModel", "fails", "(I)I"⟩ ∈ GW := GW_7 (List.mem_of_getElem? (i := 56) (by decide +kernel)) (by decide +kernel)
theorem w_7_57 : Cond.selects "PipeWorksModel" ⟨"PipeWorksModel", "fails", "(I)I"⟩ ⟨"PipeWorksModel", "fails", "(I)I"⟩ ∈ GW := GW_7 (List.mem_of_getElem? (i := 57) (by decide +kernel)) (by decide +kernel)
theorem w_5_90 : Cond.code ⟨"PipeWorks", "term", "(II)I"⟩ prog_1_method_43_code 4 (some .int) ∈ GW := GW_5 (List.mem_of_getElem? (i := 90) (by decide +kernel)) (by decide +kernel)
theorem w_5_87 : Cond.methodLink "PipeWorksLaw" 185 ⟨"PipeWorks", "term", "(II)I"⟩ ∈ GW := GW_5 (List.mem_of_getElem? (i := 87) (by decide +kernel)) (by decide +kernel)
theorem w_5_88 : Cond.instanceMethod ⟨"PipeWorks", "term", "(II)I"⟩ ∈ GW := GW_5 (List.mem_of_getElem? (i := 88) (by decide +kernel)) (by decide +kernel)
theorem w_5_89 : Cond.selects "PipeWorks" ⟨"PipeWorks", "term", "(II)I"⟩ ⟨"PipeWorks", "term", "(II)I"⟩ ∈ GW := GW_5 (List.mem_of_getElem? (i := 89) (by decide +kernel)) (by decide +kernel)
theorem w_7_62 : Cond.code ⟨"PipeWorksModel", "term", "(II)I"⟩ prog_14_method_72_code 4 (some .int) ∈ GW := GW_7 (List.mem_of_getElem? (i := 62) (by decide +kernel)) (by decide +kernel)
theorem w_7_59 : Cond.methodLink "PipeWorksLaw" 188 ⟨"PipeWorksModel", "term", "(II)I"⟩ ∈ GW := GW_7 (List.mem_of_getElem? (i := 59) (by decide +kernel)) (by decide +kernel)
theorem w_7_60 : Cond.instanceMethod ⟨"PipeWorksModel", "term", "(II)I"⟩ ∈ GW := GW_7 (List.mem_of_getElem? (i := 60) (by decide +kernel)) (by decide +kernel)
theorem w_7_61 : Cond.selects "PipeWorksModel" ⟨"PipeWorksModel", "term", "(II)I"⟩ ⟨"PipeWorksModel", "term", "(II)I"⟩ ∈ GW := GW_7 (List.mem_of_getElem? (i := 61) (by decide +kernel)) (by decide +kernel)
theorem w_5_94 : Cond.code ⟨"PipeWorks", "meter", "(IZ)I"⟩ prog_1_method_44_code 4 (some .int) ∈ GW := GW_5 (List.mem_of_getElem? (i := 94) (by decide +kernel)) (by decide +kernel)
theorem w_5_91 : Cond.methodLink "PipeWorksLaw" 189 ⟨"PipeWorks", "meter", "(IZ)I"⟩ ∈ GW := GW_5 (List.mem_of_getElem? (i := 91) (by decide +kernel)) (by decide +kernel)
theorem w_5_92 : Cond.instanceMethod ⟨"PipeWorks", "meter", "(IZ)I"⟩ ∈ GW := GW_5 (List.mem_of_getElem? (i := 92) (by decide +kernel)) (by decide +kernel)
theorem w_5_93 : Cond.selects "PipeWorks" ⟨"PipeWorks", "meter", "(IZ)I"⟩ ⟨"PipeWorks", "meter", "(IZ)I"⟩ ∈ GW := GW_5 (List.mem_of_getElem? (i := 93) (by decide +kernel)) (by decide +kernel)
theorem w_7_66 : Cond.code ⟨"PipeWorksModel", "meter", "(IZ)I"⟩ prog_14_method_73_code 4 (some .int) ∈ GW := GW_7 (List.mem_of_getElem? (i := 66) (by decide +kernel)) (by decide +kernel)
theorem w_7_63 : Cond.methodLink "PipeWorksLaw" 192 ⟨"PipeWorksModel", "meter", "(IZ)I"⟩ ∈ GW := GW_7 (List.mem_of_getElem? (i := 63) (by decide +kernel)) (by decide +kernel)
theorem w_7_64 : Cond.instanceMethod ⟨"PipeWorksModel", "meter", "(IZ)I"⟩ ∈ GW := GW_7 (List.mem_of_getElem? (i := 64) (by decide +kernel)) (by decide +kernel)
theorem w_7_65 : Cond.selects "PipeWorksModel" ⟨"PipeWorksModel", "meter", "(IZ)I"⟩ ⟨"PipeWorksModel", "meter", "(IZ)I"⟩ ∈ GW := GW_7 (List.mem_of_getElem? (i := 65) (by decide +kernel)) (by decide +kernel)
theorem w_5_98 : Cond.code ⟨"PipeWorks", "pay", "(I)I"⟩ prog_1_method_45_code 2 (some .int) ∈ GW := GW_5 (List.mem_of_getElem? (i := 98) (by decide +kernel)) (by decide +kernel)
theorem w_5_95 : Cond.methodLink "PipeWorksLaw" 193 ⟨"PipeWorks", "pay", "(I)I"⟩ ∈ GW := GW_5 (List.mem_of_getElem? (i := 95) (by decide +kernel)) (by decide +kernel)
theorem w_5_96 : Cond.instanceMethod ⟨"PipeWorks", "pay", "(I)I"⟩ ∈ GW := GW_5 (List.mem_of_getElem? (i := 96) (by decide +kernel)) (by decide +kernel)
theorem w_5_97 : Cond.selects "PipeWorks" ⟨"PipeWorks", "pay", "(I)I"⟩ ⟨"PipeWorks", "pay", "(I)I"⟩ ∈ GW := GW_5 (List.mem_of_getElem? (i := 97) (by decide +kernel)) (by decide +kernel)
theorem w_7_70 : Cond.code ⟨"PipeWorksModel", "pay", "(I)I"⟩ prog_14_method_74_code 2 (some .int) ∈ GW := GW_7 (List.mem_of_getElem? (i := 70) (by decide +kernel)) (by decide +kernel)
theorem w_7_67 : Cond.methodLink "PipeWorksLaw" 196 ⟨"PipeWorksModel", "pay", "(I)I"⟩ ∈ GW := GW_7 (List.mem_of_getElem? (i := 67) (by decide +kernel)) (by decide +kernel)
theorem w_7_68 : Cond.instanceMethod ⟨"PipeWorksModel", "pay", "(I)I"⟩ ∈ GW := GW_7 (List.mem_of_getElem? (i := 68) (by decide +kernel)) (by decide +kernel)
theorem w_7_69 : Cond.selects "PipeWorksModel" ⟨"PipeWorksModel", "pay", "(I)I"⟩ ⟨"PipeWorksModel", "pay", "(I)I"⟩ ∈ GW := GW_7 (List.mem_of_getElem? (i := 69) (by decide +kernel)) (by decide +kernel)
theorem w_1_18 : Cond.classLink "PipeWorksLaw" 7 "PipeWorks" ∈ GW := GW_1 (List.mem_of_getElem? (i := 18) (by decide +kernel)) (by decide +kernel)
theorem w_1_19 : Cond.instantiable "PipeWorks" 16 ∈ GW := GW_1 (List.mem_of_getElem? (i := 19) (by decide +kernel)) (by decide +kernel)
theorem w_1_22 : Cond.code ⟨"PipeWorks", "<init>", "()V"⟩ prog_1_method_1_code 1 none ∈ GW := GW_1 (List.mem_of_getElem? (i := 22) (by decide +kernel)) (by decide +kernel)
theorem w_1_20 : Cond.methodLink "PipeWorksLaw" 9 ⟨"PipeWorks", "<init>", "()V"⟩ ∈ GW := GW_1 (List.mem_of_getElem? (i := 20) (by decide +kernel)) (by decide +kernel)
theorem w_1_21 : Cond.instanceMethod ⟨"PipeWorks", "<init>", "()V"⟩ ∈ GW := GW_1 (List.mem_of_getElem? (i := 21) (by decide +kernel)) (by decide +kernel)
theorem w_5_99 : Cond.classLink "PipeWorksLaw" 10 "PipeWorksModel" ∈ GW := GW_5 (List.mem_of_getElem? (i := 99) (by decide +kernel)) (by decide +kernel)
theorem w_5_100 : Cond.instantiable "PipeWorksModel" 50 ∈ GW := GW_5 (List.mem_of_getElem? (i := 100) (by decide +kernel)) (by decide +kernel)
theorem w_5_103 : Cond.code ⟨"PipeWorksModel", "<init>", "()V"⟩ prog_14_method_1_code 2 none ∈ GW := GW_5 (List.mem_of_getElem? (i := 103) (by decide +kernel)) (by decide +kernel)
theorem w_5_101 : Cond.methodLink "PipeWorksLaw" 12 ⟨"PipeWorksModel", "<init>", "()V"⟩ ∈ GW := GW_5 (List.mem_of_getElem? (i := 101) (by decide +kernel)) (by decide +kernel)
theorem w_5_102 : Cond.instanceMethod ⟨"PipeWorksModel", "<init>", "()V"⟩ ∈ GW := GW_5 (List.mem_of_getElem? (i := 102) (by decide +kernel)) (by decide +kernel)
theorem kV_La_13 {R : Room} {s : State} {args : Array Value} (hR : 1 + 1 ≤ R.frames ∧ 8 + (3 + 11) + 22 ≤ R.locals) (ht : ∀ w ∈ GW, w.before args s = true) : CallW R s args R_La R_Pw 13 y_Pw_node c_Pw_node 3 (some .int) (WL y_Pw_node c_Pw_node 3 (some .int)) { frames := 1, cells := 0, slots := 0, locals := 22 } 0 0 2 := cwV 2 ht (GW_v w_2_11 w_2_12 w_2_13 w_1_1 (GW_wl w_2_14)) rfl rfl rfl (by decide +kernel) hR
theorem kV_La_17 {R : Room} {s : State} {args : Array Value} (hR : 1 + 1 ≤ R.frames ∧ 8 + (3 + 11) + 22 ≤ R.locals) (ht : ∀ w ∈ GW, w.before args s = true) : CallW R s args R_La R_Mo 17 y_Mo_node c_Mo_node 3 (some .int) (WL y_Mo_node c_Mo_node 3 (some .int)) { frames := 1, cells := 0, slots := 0, locals := 22 } 0 0 2 := cwV 2 ht (GW_v w_6_16 w_6_17 w_6_18 w_1_7 (GW_wl w_6_19)) rfl rfl rfl (by decide +kernel) hR
theorem kV_La_18 {R : Room} {s : State} {args : Array Value} (hR : 1 + 1 ≤ R.frames ∧ 8 + (4 + 11) + 24 ≤ R.locals) (ht : ∀ w ∈ GW, w.before args s = true) : CallW R s args R_La R_Pw 18 y_Pw_main c_Pw_main 4 (some .int) (WL y_Pw_main c_Pw_main 4 (some .int)) { frames := 1, cells := 0, slots := 0, locals := 24 } 0 0 3 := cwV 3 ht (GW_v w_2_22 w_2_23 w_2_24 w_1_1 (GW_wl w_2_25)) rfl rfl rfl (by decide +kernel) hR
theorem kV_La_22 {R : Room} {s : State} {args : Array Value} (hR : 2 + 1 ≤ R.frames ∧ 8 + (5 + 11) + 43 ≤ R.locals) (ht : ∀ w ∈ GW, w.before args s = true) : CallW R s args R_La R_Mo 22 y_Mo_main c_Mo_main 5 (some .int) (WL y_Mo_main c_Mo_main 5 (some .int)) { frames := 2, cells := 0, slots := 0, locals := 43 } 0 0 3 := cwV 3 ht (GW_v w_6_23 w_6_24 w_6_25 w_1_7 (GW_wl w_6_26)) rfl rfl rfl (by decide +kernel) hR
theorem kV_La_23 {R : Room} {s : State} {args : Array Value} (hR : 3 + 1 ≤ R.frames ∧ 8 + (3 + 11) + 66 ≤ R.locals) (ht : ∀ w ∈ GW, w.before args s = true) : CallW R s args R_La R_Pw 23 y_Pw_valve c_Pw_valve 3 (some .int) (WL y_Pw_valve c_Pw_valve 3 (some .int)) { frames := 3, cells := 0, slots := 0, locals := 66 } 0 0 2 := cwV 2 ht (GW_v w_2_34 w_2_35 w_2_36 w_1_1 (GW_wl w_2_37)) rfl rfl rfl (by decide +kernel) hR
theorem kV_La_26 {R : Room} {s : State} {args : Array Value} (hR : 2 + 1 ≤ R.frames ∧ 8 + (3 + 11) + 43 ≤ R.locals) (ht : ∀ w ∈ GW, w.before args s = true) : CallW R s args R_La R_Mo 26 y_Mo_valve c_Mo_valve 3 (some .int) (WL y_Mo_valve c_Mo_valve 3 (some .int)) { frames := 2, cells := 0, slots := 0, locals := 43 } 0 0 2 := cwV 2 ht (GW_v w_6_31 w_6_32 w_6_33 w_1_7 (GW_wl w_6_34)) rfl rfl rfl (by decide +kernel) hR
theorem kV_La_27 {R : Room} {s : State} {args : Array Value} (hR : 3 + 1 ≤ R.frames ∧ 8 + (2 + 11) + 63 ≤ R.locals) (ht : ∀ w ∈ GW, w.before args s = true) : CallW R s args R_La R_Pw 27 y_Pw_turn c_Pw_turn 2 (some .int) (WL y_Pw_turn c_Pw_turn 2 (some .int)) { frames := 3, cells := 0, slots := 0, locals := 63 } 0 0 1 := cwV 1 ht (GW_v w_2_58 w_2_59 w_2_60 w_1_1 (GW_wl w_2_61)) rfl rfl rfl (by decide +kernel) hR
theorem kV_La_31 {R : Room} {s : State} {args : Array Value} (hR : 2 + 1 ≤ R.frames ∧ 8 + (2 + 11) + 43 ≤ R.locals) (ht : ∀ w ∈ GW, w.before args s = true) : CallW R s args R_La R_Mo 31 y_Mo_turn c_Mo_turn 2 (some .int) (WL y_Mo_turn c_Mo_turn 2 (some .int)) { frames := 2, cells := 0, slots := 0, locals := 43 } 0 0 1 := cwV 1 ht (GW_v w_6_47 w_6_48 w_6_49 w_1_7 (GW_wl w_6_50)) rfl rfl rfl (by decide +kernel) hR
theorem kV_La_32 {R : Room} {s : State} {args : Array Value} (hR : 3 + 1 ≤ R.frames ∧ 8 + (3 + 11) + 66 ≤ R.locals) (ht : ∀ w ∈ GW, w.before args s = true) : CallW R s args R_La R_Pw 32 y_Pw_ofMain c_Pw_ofMain 3 (some .int) (WL y_Pw_ofMain c_Pw_ofMain 3 (some .int)) { frames := 3, cells := 0, slots := 0, locals := 66 } 0 0 2 := cwV 2 ht (GW_v w_2_80 w_2_81 w_2_82 w_1_1 (GW_wl w_2_83)) rfl rfl rfl (by decide +kernel) hR
theorem kV_La_35 {R : Room} {s : State} {args : Array Value} (hR : 2 + 1 ≤ R.frames ∧ 8 + (4 + 11) + 44 ≤ R.locals) (ht : ∀ w ∈ GW, w.before args s = true) : CallW R s args R_La R_Mo 35 y_Mo_ofMain c_Mo_ofMain 4 (some .int) (WL y_Mo_ofMain c_Mo_ofMain 4 (some .int)) { frames := 2, cells := 0, slots := 0, locals := 44 } 0 0 2 := cwV 2 ht (GW_v w_6_55 w_6_56 w_6_57 w_1_7 (GW_wl w_6_58)) rfl rfl rfl (by decide +kernel) hR
theorem kV_La_36 {R : Room} {s : State} {args : Array Value} (hR : 1 + 1 ≤ R.frames ∧ 8 + (2 + 11) + 23 ≤ R.locals) (ht : ∀ w ∈ GW, w.before args s = true) : CallW R s args R_La R_Pw 36 y_Pw_wrong c_Pw_wrong 2 (some .int) (WL y_Pw_wrong c_Pw_wrong 2 (some .int)) { frames := 1, cells := 0, slots := 0, locals := 23 } 0 0 1 := cwV 1 ht (GW_v w_2_94 w_2_95 w_2_96 w_1_1 (GW_wl w_2_97)) rfl rfl rfl (by decide +kernel) hR
theorem kV_La_39 {R : Room} {s : State} {args : Array Value} (hR : 0 + 1 ≤ R.frames ∧ 8 + (4 + 11) + 0 ≤ R.locals) (ht : ∀ w ∈ GW, w.before args s = true) : CallW R s args R_La R_Mo 39 y_Mo_wrong c_Mo_wrong 4 (some .int) (WL y_Mo_wrong c_Mo_wrong 4 (some .int)) { frames := 0, cells := 0, slots := 0, locals := 0 } 0 0 1 := cwV 1 ht (GW_v w_6_63 w_6_64 w_6_65 w_1_7 (GW_wl w_6_66)) rfl rfl rfl (by decide +kernel) hR
theorem kV_La_40 {R : Room} {s : State} {args : Array Value} (hR : 3 + 1 ≤ R.frames ∧ 8 + (2 + 11) + 67 ≤ R.locals) (ht : ∀ w ∈ GW, w.before args s = true) : CallW R s args R_La R_Pw 40 y_Pw_mend c_Pw_mend 2 (some .int) (WL y_Pw_mend c_Pw_mend 2 (some .int)) { frames := 3, cells := 0, slots := 0, locals := 67 } 0 0 1 := cwV 1 ht (GW_v w_2_102 w_2_103 w_2_104 w_1_1 (GW_wl w_2_105)) rfl rfl rfl (by decide +kernel) hR
theorem kV_La_43 {R : Room} {s : State} {args : Array Value} (hR : 2 + 1 ≤ R.frames ∧ 8 + (4 + 11) + 43 ≤ R.locals) (ht : ∀ w ∈ GW, w.before args s = true) : CallW R s args R_La R_Mo 43 y_Mo_mend c_Mo_mend 4 (some .int) (WL y_Mo_mend c_Mo_mend 4 (some .int)) { frames := 2, cells := 0, slots := 0, locals := 43 } 0 0 1 := cwV 1 ht (GW_v w_6_67 w_6_68 w_6_69 w_1_7 (GW_wl w_6_70)) rfl rfl rfl (by decide +kernel) hR
theorem kV_La_44 {R : Room} {s : State} {args : Array Value} (hR : 3 + 1 ≤ R.frames ∧ 8 + (7 + 11) + 63 ≤ R.locals) (ht : ∀ w ∈ GW, w.before args s = true) : CallW R s args R_La R_Pw 44 y_Pw_draw c_Pw_draw 7 (some .int) (WL y_Pw_draw c_Pw_draw 7 (some .int)) { frames := 3, cells := 1, slots := 3, locals := 63 } 1 3 4 := cwV 4 ht (GW_v w_2_110 w_2_111 w_2_112 w_1_1 (GW_wl w_2_113)) rfl rfl rfl (by decide +kernel) hR
theorem kV_La_48 {R : Room} {s : State} {args : Array Value} (hR : 2 + 1 ≤ R.frames ∧ 8 + (5 + 11) + 43 ≤ R.locals) (ht : ∀ w ∈ GW, w.before args s = true) : CallW R s args R_La R_Mo 48 y_Mo_draw c_Mo_draw 5 (some .int) (WL y_Mo_draw c_Mo_draw 5 (some .int)) { frames := 2, cells := 0, slots := 0, locals := 43 } 0 0 4 := cwV 4 ht (GW_v w_6_71 w_6_72 w_6_73 w_1_7 (GW_wl w_6_74)) rfl rfl rfl (by decide +kernel) hR
theorem kV_La_49 {R : Room} {s : State} {args : Array Value} (hR : 4 + 1 ≤ R.frames ∧ 8 + (8 + 11) + 87 ≤ R.locals) (ht : ∀ w ∈ GW, w.before args s = true) : CallW R s args R_La R_Pw 49 y_Pw_lift c_Pw_lift 8 (some .int) (WL y_Pw_lift c_Pw_lift 8 (some .int)) { frames := 4, cells := 1, slots := 4, locals := 87 } 1 4 5 := cwV 5 ht (GW_v w_2_148 w_2_149 w_2_150 w_1_1 (GW_wl w_2_151)) rfl rfl rfl (by decide +kernel) hR
theorem kV_La_53 {R : Room} {s : State} {args : Array Value} (hR : 2 + 1 ≤ R.frames ∧ 8 + (6 + 11) + 43 ≤ R.locals) (ht : ∀ w ∈ GW, w.before args s = true) : CallW R s args R_La R_Mo 53 y_Mo_lift c_Mo_lift 6 (some .int) (WL y_Mo_lift c_Mo_lift 6 (some .int)) { frames := 2, cells := 0, slots := 0, locals := 43 } 0 0 5 := cwV 5 ht (GW_v w_6_82 w_6_83 w_6_84 w_1_7 (GW_wl w_6_85)) rfl rfl rfl (by decide +kernel) hR
theorem kV_La_54 {R : Room} {s : State} {args : Array Value} (hR : 4 + 1 ≤ R.frames ∧ 8 + (8 + 11) + 87 ≤ R.locals) (ht : ∀ w ∈ GW, w.before args s = true) : CallW R s args R_La R_Pw 54 y_Pw_bridge c_Pw_bridge 8 (some .int) (WL y_Pw_bridge c_Pw_bridge 8 (some .int)) { frames := 4, cells := 1, slots := 6, locals := 87 } 1 6 5 := cwV 5 ht (GW_v w_2_165 w_2_166 w_2_167 w_1_1 (GW_wl w_2_168)) rfl rfl rfl (by decide +kernel) hR
theorem kV_La_57 {R : Room} {s : State} {args : Array Value} (hR : 2 + 1 ≤ R.frames ∧ 8 + (7 + 11) + 43 ≤ R.locals) (ht : ∀ w ∈ GW, w.before args s = true) : CallW R s args R_La R_Mo 57 y_Mo_bridge c_Mo_bridge 7 (some .int) (WL y_Mo_bridge c_Mo_bridge 7 (some .int)) { frames := 2, cells := 0, slots := 0, locals := 43 } 0 0 5 := cwV 5 ht (GW_v w_6_86 w_6_87 w_6_88 w_1_7 (GW_wl w_6_89)) rfl rfl rfl (by decide +kernel) hR
theorem kV_La_58 {R : Room} {s : State} {args : Array Value} (hR : 3 + 1 ≤ R.frames ∧ 8 + (7 + 11) + 63 ≤ R.locals) (ht : ∀ w ∈ GW, w.before args s = true) : CallW R s args R_La R_Pw 58 y_Pw_tower c_Pw_tower 7 (some .int) (WL y_Pw_tower c_Pw_tower 7 (some .int)) { frames := 3, cells := 1, slots := 3, locals := 63 } 1 3 4 := cwV 4 ht (GW_v w_2_188 w_2_189 w_2_190 w_1_1 (GW_wl w_2_191)) rfl rfl rfl (by decide +kernel) hR
theorem kV_La_61 {R : Room} {s : State} {args : Array Value} (hR : 2 + 1 ≤ R.frames ∧ 8 + (6 + 11) + 43 ≤ R.locals) (ht : ∀ w ∈ GW, w.before args s = true) : CallW R s args R_La R_Mo 61 y_Mo_tower c_Mo_tower 6 (some .int) (WL y_Mo_tower c_Mo_tower 6 (some .int)) { frames := 2, cells := 0, slots := 0, locals := 43 } 0 0 4 := cwV 4 ht (GW_v w_6_90 w_6_91 w_6_92 w_1_7 (GW_wl w_6_93)) rfl rfl rfl (by decide +kernel) hR
theorem kV_La_62 {R : Room} {s : State} {args : Array Value} (hR : 4 + 1 ≤ R.frames ∧ 8 + (7 + 11) + 86 ≤ R.locals) (ht : ∀ w ∈ GW, w.before args s = true) : CallW R s args R_La R_Pw 62 y_Pw_house c_Pw_house 7 (some .int) (WL y_Pw_house c_Pw_house 7 (some .int)) { frames := 4, cells := 1, slots := 7, locals := 86 } 1 7 4 := cwV 4 ht (GW_v w_2_209 w_2_210 w_2_211 w_1_1 (GW_wl w_2_212)) rfl rfl rfl (by decide +kernel) hR
theorem kV_La_65 {R : Room} {s : State} {args : Array Value} (hR : 2 + 1 ≤ R.frames ∧ 8 + (5 + 11) + 43 ≤ R.locals) (ht : ∀ w ∈ GW, w.before args s = true) : CallW R s args R_La R_Mo 65 y_Mo_house c_Mo_house 5 (some .int) (WL y_Mo_house c_Mo_house 5 (some .int)) { frames := 2, cells := 0, slots := 0, locals := 43 } 0 0 4 := cwV 4 ht (GW_v w_6_95 w_6_96 w_6_97 w_1_7 (GW_wl w_6_98)) rfl rfl rfl (by decide +kernel) hR
theorem kV_La_66 {R : Room} {s : State} {args : Array Value} (hR : 3 + 1 ≤ R.frames ∧ 8 + (5 + 11) + 62 ≤ R.locals) (ht : ∀ w ∈ GW, w.before args s = true) : CallW R s args R_La R_Pw 66 y_Pw_leak c_Pw_leak 5 (some .int) (WL y_Pw_leak c_Pw_leak 5 (some .int)) { frames := 3, cells := 1, slots := 3, locals := 62 } 1 3 3 := cwV 3 ht (GW_v w_2_235 w_2_236 w_2_237 w_1_1 (GW_wl w_2_238)) rfl rfl rfl (by decide +kernel) hR
theorem kV_La_70 {R : Room} {s : State} {args : Array Value} (hR : 2 + 1 ≤ R.frames ∧ 8 + (4 + 11) + 43 ≤ R.locals) (ht : ∀ w ∈ GW, w.before args s = true) : CallW R s args R_La R_Mo 70 y_Mo_leak c_Mo_leak 4 (some .int) (WL y_Mo_leak c_Mo_leak 4 (some .int)) { frames := 2, cells := 0, slots := 0, locals := 43 } 0 0 3 := cwV 3 ht (GW_v w_6_99 w_6_100 w_6_101 w_1_7 (GW_wl w_6_102)) rfl rfl rfl (by decide +kernel) hR
theorem kV_La_71 {R : Room} {s : State} {args : Array Value} (hR : 2 + 1 ≤ R.frames ∧ 8 + (2 + 11) + 42 ≤ R.locals) (ht : ∀ w ∈ GW, w.before args s = true) : CallW R s args R_La R_Pw 71 y_Pw_clear c_Pw_clear 2 (some .int) (WL y_Pw_clear c_Pw_clear 2 (some .int)) { frames := 2, cells := 0, slots := 0, locals := 42 } 0 0 1 := cwV 1 ht (GW_v w_3_17 w_3_18 w_3_19 w_1_1 (GW_wl w_3_20)) rfl rfl rfl (by decide +kernel) hR
theorem kV_La_74 {R : Room} {s : State} {args : Array Value} (hR : 2 + 1 ≤ R.frames ∧ 8 + (3 + 11) + 43 ≤ R.locals) (ht : ∀ w ∈ GW, w.before args s = true) : CallW R s args R_La R_Mo 74 y_Mo_clear c_Mo_clear 3 (some .int) (WL y_Mo_clear c_Mo_clear 3 (some .int)) { frames := 2, cells := 0, slots := 0, locals := 43 } 0 0 1 := cwV 1 ht (GW_v w_6_103 w_6_104 w_6_105 w_1_7 (GW_wl w_6_106)) rfl rfl rfl (by decide +kernel) hR
theorem kV_La_75 {R : Room} {s : State} {args : Array Value} (hR : 3 + 1 ≤ R.frames ∧ 8 + (4 + 11) + 68 ≤ R.locals) (ht : ∀ w ∈ GW, w.before args s = true) : CallW R s args R_La R_Pw 75 y_Pw_ofNode c_Pw_ofNode 4 (some .int) (WL y_Pw_ofNode c_Pw_ofNode 4 (some .int)) { frames := 3, cells := 0, slots := 0, locals := 68 } 0 0 2 := cwV 2 ht (GW_v w_3_46 w_3_47 w_3_48 w_1_1 (GW_wl w_3_49)) rfl rfl rfl (by decide +kernel) hR
theorem kV_La_78 {R : Room} {s : State} {args : Array Value} (hR : 2 + 1 ≤ R.frames ∧ 8 + (3 + 11) + 46 ≤ R.locals) (ht : ∀ w ∈ GW, w.before args s = true) : CallW R s args R_La R_Mo 78 y_Mo_ofNode c_Mo_ofNode 3 (some .int) (WL y_Mo_ofNode c_Mo_ofNode 3 (some .int)) { frames := 2, cells := 0, slots := 0, locals := 46 } 0 0 2 := cwV 2 ht (GW_v w_6_107 w_6_108 w_6_109 w_1_7 (GW_wl w_6_110)) rfl rfl rfl (by decide +kernel) hR
theorem kV_La_79 {R : Room} {s : State} {args : Array Value} (hR : 1 + 1 ≤ R.frames ∧ 8 + (5 + 11) + 23 ≤ R.locals) (ht : ∀ w ∈ GW, w.before args s = true) : CallW R s args R_La R_Pw 79 y_Pw_light c_Pw_light 5 (some .int) (WL y_Pw_light c_Pw_light 5 (some .int)) { frames := 1, cells := 0, slots := 0, locals := 23 } 0 0 2 := cwV 2 ht (GW_v w_3_132 w_3_133 w_3_134 w_1_1 (GW_wl w_3_135)) rfl rfl rfl (by decide +kernel) hR
theorem kV_La_83 {R : Room} {s : State} {args : Array Value} (hR : 2 + 1 ≤ R.frames ∧ 8 + (3 + 11) + 43 ≤ R.locals) (ht : ∀ w ∈ GW, w.before args s = true) : CallW R s args R_La R_Mo 83 y_Mo_light c_Mo_light 3 (some .int) (WL y_Mo_light c_Mo_light 3 (some .int)) { frames := 2, cells := 0, slots := 0, locals := 43 } 0 0 2 := cwV 2 ht (GW_v w_6_123 w_6_124 w_6_125 w_1_7 (GW_wl w_6_126)) rfl rfl rfl (by decide +kernel) hR
theorem kV_La_84 {R : Room} {s : State} {args : Array Value} (hR : 1 + 1 ≤ R.frames ∧ 8 + (4 + 11) + 21 ≤ R.locals) (ht : ∀ w ∈ GW, w.before args s = true) : CallW R s args R_La R_Pw 84 y_Pw_found c_Pw_found 4 (some .int) (WL y_Pw_found c_Pw_found 4 (some .int)) { frames := 1, cells := 0, slots := 0, locals := 21 } 0 0 1 := cwV 1 ht (GW_v w_3_140 w_3_141 w_3_142 w_1_1 (GW_wl w_3_143)) rfl rfl rfl (by decide +kernel) hR
theorem kV_La_87 {R : Room} {s : State} {args : Array Value} (hR : 2 + 1 ≤ R.frames ∧ 8 + (3 + 11) + 43 ≤ R.locals) (ht : ∀ w ∈ GW, w.before args s = true) : CallW R s args R_La R_Mo 87 y_Mo_found c_Mo_found 3 (some .int) (WL y_Mo_found c_Mo_found 3 (some .int)) { frames := 2, cells := 0, slots := 0, locals := 43 } 0 0 1 := cwV 1 ht (GW_v w_6_131 w_6_132 w_6_133 w_1_7 (GW_wl w_6_134)) rfl rfl rfl (by decide +kernel) hR
theorem kV_La_88 {R : Room} {s : State} {args : Array Value} (hR : 6 + 1 ≤ R.frames ∧ 8 + (1 + 11) + 139 ≤ R.locals) (ht : ∀ w ∈ GW, w.before args s = true) : CallW R s args R_La R_Pw 88 y_Pw_work c_Pw_work 1 (some .int) (WL y_Pw_work c_Pw_work 1 (some .int)) { frames := 6, cells := 0, slots := 0, locals := 139 } 0 0 0 := cwV 0 ht (GW_v w_3_144 w_3_145 w_3_146 w_1_1 (GW_wl w_3_147)) rfl rfl rfl (by decide +kernel) hR
theorem kV_La_92 {R : Room} {s : State} {args : Array Value} (hR : 4 + 1 ≤ R.frames ∧ 8 + (1 + 11) + 95 ≤ R.locals) (ht : ∀ w ∈ GW, w.before args s = true) : CallW R s args R_La R_Mo 92 y_Mo_work c_Mo_work 1 (some .int) (WL y_Mo_work c_Mo_work 1 (some .int)) { frames := 4, cells := 0, slots := 0, locals := 95 } 0 0 0 := cwV 0 ht (GW_v w_6_135 w_6_136 w_6_137 w_1_7 (GW_wl w_6_138)) rfl rfl rfl (by decide +kernel) hR
theorem kV_La_93 {R : Room} {s : State} {args : Array Value} (hR : 1 + 1 ≤ R.frames ∧ 8 + (3 + 11) + 22 ≤ R.locals) (ht : ∀ w ∈ GW, w.before args s = true) : CallW R s args R_La R_Pw 93 y_Pw_near c_Pw_near 3 (some .int) (WL y_Pw_near c_Pw_near 3 (some .int)) { frames := 1, cells := 0, slots := 0, locals := 22 } 0 0 1 := cwV 1 ht (GW_v w_3_220 w_3_221 w_3_222 w_1_1 (GW_wl w_3_223)) rfl rfl rfl (by decide +kernel) hR
theorem kV_La_96 {R : Room} {s : State} {args : Array Value} (hR : 1 + 1 ≤ R.frames ∧ 8 + (3 + 11) + 22 ≤ R.locals) (ht : ∀ w ∈ GW, w.before args s = true) : CallW R s args R_La R_Mo 96 y_Mo_near c_Mo_near 3 (some .int) (WL y_Mo_near c_Mo_near 3 (some .int)) { frames := 1, cells := 0, slots := 0, locals := 22 } 0 0 1 := cwV 1 ht (GW_v w_6_147 w_6_148 w_6_149 w_1_7 (GW_wl w_6_150)) rfl rfl rfl (by decide +kernel) hR
theorem kV_La_97 {R : Room} {s : State} {args : Array Value} (hR : 1 + 1 ≤ R.frames ∧ 8 + (3 + 11) + 22 ≤ R.locals) (ht : ∀ w ∈ GW, w.before args s = true) : CallW R s args R_La R_Pw 97 y_Pw_press c_Pw_press 3 (some .int) (WL y_Pw_press c_Pw_press 3 (some .int)) { frames := 1, cells := 0, slots := 0, locals := 22 } 0 0 2 := cwV 2 ht (GW_v w_3_224 w_3_225 w_3_226 w_1_1 (GW_wl w_3_227)) rfl rfl rfl (by decide +kernel) hR
theorem kV_La_100 {R : Room} {s : State} {args : Array Value} (hR : 2 + 1 ≤ R.frames ∧ 8 + (3 + 11) + 43 ≤ R.locals) (ht : ∀ w ∈ GW, w.before args s = true) : CallW R s args R_La R_Mo 100 y_Mo_press c_Mo_press 3 (some .int) (WL y_Mo_press c_Mo_press 3 (some .int)) { frames := 2, cells := 0, slots := 0, locals := 43 } 0 0 2 := cwV 2 ht (GW_v w_6_151 w_6_152 w_6_153 w_1_7 (GW_wl w_6_154)) rfl rfl rfl (by decide +kernel) hR
theorem kV_La_101 {R : Room} {s : State} {args : Array Value} (hR : 3 + 1 ≤ R.frames ∧ 8 + (2 + 11) + 66 ≤ R.locals) (ht : ∀ w ∈ GW, w.before args s = true) : CallW R s args R_La R_Pw 101 y_Pw_flow c_Pw_flow 2 (some .int) (WL y_Pw_flow c_Pw_flow 2 (some .int)) { frames := 3, cells := 0, slots := 0, locals := 66 } 0 0 1 := cwV 1 ht (GW_v w_3_231 w_3_232 w_3_233 w_1_1 (GW_wl w_3_234)) rfl rfl rfl (by decide +kernel) hR
theorem kV_La_104 {R : Room} {s : State} {args : Array Value} (hR : 3 + 1 ≤ R.frames ∧ 8 + (2 + 11) + 65 ≤ R.locals) (ht : ∀ w ∈ GW, w.before args s = true) : CallW R s args R_La R_Mo 104 y_Mo_flow c_Mo_flow 2 (some .int) (WL y_Mo_flow c_Mo_flow 2 (some .int)) { frames := 3, cells := 0, slots := 0, locals := 65 } 0 0 1 := cwV 1 ht (GW_v w_6_157 w_6_158 w_6_159 w_1_7 (GW_wl w_6_160)) rfl rfl rfl (by decide +kernel) hR
theorem kV_La_105 {R : Room} {s : State} {args : Array Value} (hR : 6 + 1 ≤ R.frames ∧ 8 + (4 + 11) + 139 ≤ R.locals) (ht : ∀ w ∈ GW, w.before args s = true) : CallW R s args R_La R_Pw 105 y_Pw_step c_Pw_step 4 (some .int) (WL y_Pw_step c_Pw_step 4 (some .int)) { frames := 6, cells := 0, slots := 0, locals := 139 } 0 0 1 := cwV 1 ht (GW_v w_3_239 w_4_0 w_4_1 w_1_1 (GW_wl w_4_2)) rfl rfl rfl (by decide +kernel) hR
theorem kV_La_108 {R : Room} {s : State} {args : Array Value} (hR : 5 + 1 ≤ R.frames ∧ 8 + (4 + 11) + 119 ≤ R.locals) (ht : ∀ w ∈ GW, w.before args s = true) : CallW R s args R_La R_Mo 108 y_Mo_step c_Mo_step 4 (some .int) (WL y_Mo_step c_Mo_step 4 (some .int)) { frames := 5, cells := 0, slots := 0, locals := 119 } 0 0 1 := cwV 1 ht (GW_v w_6_165 w_6_166 w_6_167 w_1_7 (GW_wl w_6_168)) rfl rfl rfl (by decide +kernel) hR
theorem kV_La_109 {R : Room} {s : State} {args : Array Value} (hR : 0 + 1 ≤ R.frames ∧ 8 + (2 + 11) + 0 ≤ R.locals) (ht : ∀ w ∈ GW, w.before args s = true) : CallW R s args R_La R_Pw 109 y_Pw_told c_Pw_told 2 (some .int) (WL y_Pw_told c_Pw_told 2 (some .int)) { frames := 0, cells := 0, slots := 0, locals := 0 } 0 0 1 := cwV 1 ht (GW_v w_4_67 w_4_68 w_4_69 w_1_1 (GW_wl w_4_70)) rfl rfl rfl (by decide +kernel) hR
theorem kV_La_112 {R : Room} {s : State} {args : Array Value} (hR : 0 + 1 ≤ R.frames ∧ 8 + (2 + 11) + 0 ≤ R.locals) (ht : ∀ w ∈ GW, w.before args s = true) : CallW R s args R_La R_Mo 112 y_Mo_told c_Mo_told 2 (some .int) (WL y_Mo_told c_Mo_told 2 (some .int)) { frames := 0, cells := 0, slots := 0, locals := 0 } 0 0 1 := cwV 1 ht (GW_v w_6_173 w_6_174 w_6_175 w_1_7 (GW_wl w_6_176)) rfl rfl rfl (by decide +kernel) hR
theorem kV_La_113 {R : Room} {s : State} {args : Array Value} (hR : 1 + 1 ≤ R.frames ∧ 8 + (4 + 11) + 23 ≤ R.locals) (ht : ∀ w ∈ GW, w.before args s = true) : CallW R s args R_La R_Pw 113 y_Pw_row c_Pw_row 4 (some .int) (WL y_Pw_row c_Pw_row 4 (some .int)) { frames := 1, cells := 0, slots := 0, locals := 23 } 0 0 2 := cwV 2 ht (GW_v w_4_71 w_4_72 w_4_73 w_1_1 (GW_wl w_4_74)) rfl rfl rfl (by decide +kernel) hR
theorem kV_La_116 {R : Room} {s : State} {args : Array Value} (hR : 2 + 1 ≤ R.frames ∧ 8 + (5 + 11) + 42 ≤ R.locals) (ht : ∀ w ∈ GW, w.before args s = true) : CallW R s args R_La R_Mo 116 y_Mo_row c_Mo_row 5 (some .int) (WL y_Mo_row c_Mo_row 5 (some .int)) { frames := 2, cells := 0, slots := 0, locals := 42 } 0 0 2 := cwV 2 ht (GW_v w_6_177 w_6_178 w_6_179 w_1_7 (GW_wl w_6_180)) rfl rfl rfl (by decide +kernel) hR
theorem kV_La_117 {R : Room} {s : State} {args : Array Value} (hR : 2 + 1 ≤ R.frames ∧ 8 + (4 + 11) + 44 ≤ R.locals) (ht : ∀ w ∈ GW, w.before args s = true) : CallW R s args R_La R_Pw 117 y_Pw_put c_Pw_put 4 (some .int) (WL y_Pw_put c_Pw_put 4 (some .int)) { frames := 2, cells := 0, slots := 0, locals := 44 } 0 0 3 := cwV 3 ht (GW_v w_4_75 w_4_76 w_4_77 w_1_1 (GW_wl w_4_78)) rfl rfl rfl (by decide +kernel) hR
theorem kV_La_120 {R : Room} {s : State} {args : Array Value} (hR : 3 + 1 ≤ R.frames ∧ 8 + (4 + 11) + 64 ≤ R.locals) (ht : ∀ w ∈ GW, w.before args s = true) : CallW R s args R_La R_Mo 120 y_Mo_put c_Mo_put 4 (some .int) (WL y_Mo_put c_Mo_put 4 (some .int)) { frames := 3, cells := 0, slots := 0, locals := 64 } 0 0 3 := cwV 3 ht (GW_v w_6_184 w_6_185 w_6_186 w_1_7 (GW_wl w_6_187)) rfl rfl rfl (by decide +kernel) hR
theorem kV_La_121 {R : Room} {s : State} {args : Array Value} (hR : 2 + 1 ≤ R.frames ∧ 8 + (3 + 11) + 44 ≤ R.locals) (ht : ∀ w ∈ GW, w.before args s = true) : CallW R s args R_La R_Pw 121 y_Pw_none c_Pw_none 3 (some .int) (WL y_Pw_none c_Pw_none 3 (some .int)) { frames := 2, cells := 0, slots := 0, locals := 44 } 0 0 2 := cwV 2 ht (GW_v w_4_85 w_4_86 w_4_87 w_1_1 (GW_wl w_4_88)) rfl rfl rfl (by decide +kernel) hR
theorem kV_La_124 {R : Room} {s : State} {args : Array Value} (hR : 3 + 1 ≤ R.frames ∧ 8 + (3 + 11) + 64 ≤ R.locals) (ht : ∀ w ∈ GW, w.before args s = true) : CallW R s args R_La R_Mo 124 y_Mo_none c_Mo_none 3 (some .int) (WL y_Mo_none c_Mo_none 3 (some .int)) { frames := 3, cells := 0, slots := 0, locals := 64 } 0 0 2 := cwV 2 ht (GW_v w_6_194 w_6_195 w_6_196 w_1_7 (GW_wl w_6_197)) rfl rfl rfl (by decide +kernel) hR
theorem kV_La_125 {R : Room} {s : State} {args : Array Value} (hR : 2 + 1 ≤ R.frames ∧ 8 + (3 + 11) + 44 ≤ R.locals) (ht : ∀ w ∈ GW, w.before args s = true) : CallW R s args R_La R_Pw 125 y_Pw_read c_Pw_read 3 (some .int) (WL y_Pw_read c_Pw_read 3 (some .int)) { frames := 2, cells := 0, slots := 0, locals := 44 } 0 0 2 := cwV 2 ht (GW_v w_4_89 w_4_90 w_4_91 w_1_1 (GW_wl w_4_92)) rfl rfl rfl (by decide +kernel) hR
theorem kV_La_128 {R : Room} {s : State} {args : Array Value} (hR : 3 + 1 ≤ R.frames ∧ 8 + (3 + 11) + 64 ≤ R.locals) (ht : ∀ w ∈ GW, w.before args s = true) : CallW R s args R_La R_Mo 128 y_Mo_read c_Mo_read 3 (some .int) (WL y_Mo_read c_Mo_read 3 (some .int)) { frames := 3, cells := 0, slots := 0, locals := 64 } 0 0 2 := cwV 2 ht (GW_v w_6_198 w_6_199 w_6_200 w_1_7 (GW_wl w_6_201)) rfl rfl rfl (by decide +kernel) hR
theorem kV_La_129 {R : Room} {s : State} {args : Array Value} (hR : 1 + 1 ≤ R.frames ∧ 8 + (2 + 11) + 22 ≤ R.locals) (ht : ∀ w ∈ GW, w.before args s = true) : CallW R s args R_La R_Pw 129 y_Pw_say c_Pw_say 2 (some .int) (WL y_Pw_say c_Pw_say 2 (some .int)) { frames := 1, cells := 0, slots := 0, locals := 22 } 0 0 1 := cwV 1 ht (GW_v w_4_96 w_4_97 w_4_98 w_1_1 (GW_wl w_4_99)) rfl rfl rfl (by decide +kernel) hR
theorem kV_La_132 {R : Room} {s : State} {args : Array Value} (hR : 1 + 1 ≤ R.frames ∧ 8 + (2 + 11) + 22 ≤ R.locals) (ht : ∀ w ∈ GW, w.before args s = true) : CallW R s args R_La R_Mo 132 y_Mo_say c_Mo_say 2 (some .int) (WL y_Mo_say c_Mo_say 2 (some .int)) { frames := 1, cells := 0, slots := 0, locals := 22 } 0 0 1 := cwV 1 ht (GW_v w_6_205 w_6_206 w_6_207 w_1_7 (GW_wl w_6_208)) rfl rfl rfl (by decide +kernel) hR
theorem kV_La_133 {R : Room} {s : State} {args : Array Value} (hR : 1 + 1 ≤ R.frames ∧ 8 + (1 + 11) + 21 ≤ R.locals) (ht : ∀ w ∈ GW, w.before args s = true) : CallW R s args R_La R_Pw 133 y_Pw_wipe c_Pw_wipe 1 (some .int) (WL y_Pw_wipe c_Pw_wipe 1 (some .int)) { frames := 1, cells := 0, slots := 0, locals := 21 } 0 0 0 := cwV 0 ht (GW_v w_4_104 w_4_105 w_4_106 w_1_1 (GW_wl w_4_107)) rfl rfl rfl (by decide +kernel) hR
theorem kV_La_136 {R : Room} {s : State} {args : Array Value} (hR : 0 + 1 ≤ R.frames ∧ 8 + (2 + 11) + 0 ≤ R.locals) (ht : ∀ w ∈ GW, w.before args s = true) : CallW R s args R_La R_Mo 136 y_Mo_wipe c_Mo_wipe 2 (some .int) (WL y_Mo_wipe c_Mo_wipe 2 (some .int)) { frames := 0, cells := 0, slots := 0, locals := 0 } 0 0 0 := cwV 0 ht (GW_v w_6_209 w_6_210 w_6_211 w_1_7 (GW_wl w_6_212)) rfl rfl rfl (by decide +kernel) hR
theorem kV_La_137 {R : Room} {s : State} {args : Array Value} (hR : 5 + 1 ≤ R.frames ∧ 8 + (1 + 11) + 106 ≤ R.locals) (ht : ∀ w ∈ GW, w.before args s = true) : CallW R s args R_La R_Pw 137 y_Pw_fault c_Pw_fault 1 (some .int) (WL y_Pw_fault c_Pw_fault 1 (some .int)) { frames := 5, cells := 0, slots := 0, locals := 106 } 0 0 0 := cwV 0 ht (GW_v w_4_112 w_4_113 w_4_114 w_1_1 (GW_wl w_4_115)) rfl rfl rfl (by decide +kernel) hR
theorem kV_La_140 {R : Room} {s : State} {args : Array Value} (hR : 2 + 1 ≤ R.frames ∧ 8 + (1 + 11) + 46 ≤ R.locals) (ht : ∀ w ∈ GW, w.before args s = true) : CallW R s args R_La R_Mo 140 y_Mo_fault c_Mo_fault 1 (some .int) (WL y_Mo_fault c_Mo_fault 1 (some .int)) { frames := 2, cells := 0, slots := 0, locals := 46 } 0 0 0 := cwV 0 ht (GW_v w_6_213 w_6_214 w_6_215 w_1_7 (GW_wl w_6_216)) rfl rfl rfl (by decide +kernel) hR
theorem kV_La_141 {R : Room} {s : State} {args : Array Value} (hR : 6 + 1 ≤ R.frames ∧ 8 + (2 + 11) + 127 ≤ R.locals) (ht : ∀ w ∈ GW, w.before args s = true) : CallW R s args R_La R_Pw 141 y_Pw_order c_Pw_order 2 (some .int) (WL y_Pw_order c_Pw_order 2 (some .int)) { frames := 6, cells := 0, slots := 0, locals := 127 } 0 0 1 := cwV 1 ht (GW_v w_4_130 w_4_131 w_4_132 w_1_1 (GW_wl w_4_133)) rfl rfl rfl (by decide +kernel) hR
theorem kV_La_144 {R : Room} {s : State} {args : Array Value} (hR : 2 + 1 ≤ R.frames ∧ 8 + (3 + 11) + 46 ≤ R.locals) (ht : ∀ w ∈ GW, w.before args s = true) : CallW R s args R_La R_Mo 144 y_Mo_order c_Mo_order 3 (some .int) (WL y_Mo_order c_Mo_order 3 (some .int)) { frames := 2, cells := 0, slots := 0, locals := 46 } 0 0 1 := cwV 1 ht (GW_v w_6_221 w_6_222 w_6_223 w_1_7 (GW_wl w_6_224)) rfl rfl rfl (by decide +kernel) hR
theorem kV_La_145 {R : Room} {s : State} {args : Array Value} (hR : 5 + 1 ≤ R.frames ∧ 8 + (6 + 11) + 124 ≤ R.locals) (ht : ∀ w ∈ GW, w.before args s = true) : CallW R s args R_La R_Pw 145 y_Pw_does c_Pw_does 6 (some .int) (WL y_Pw_does c_Pw_does 6 (some .int)) { frames := 5, cells := 0, slots := 0, locals := 124 } 0 0 0 := cwV 0 ht (GW_v w_4_141 w_4_142 w_4_143 w_1_1 (GW_wl w_4_144)) rfl rfl rfl (by decide +kernel) hR
theorem kV_La_148 {R : Room} {s : State} {args : Array Value} (hR : 3 + 1 ≤ R.frames ∧ 8 + (3 + 11) + 78 ≤ R.locals) (ht : ∀ w ∈ GW, w.before args s = true) : CallW R s args R_La R_Mo 148 y_Mo_does c_Mo_does 3 (some .int) (WL y_Mo_does c_Mo_does 3 (some .int)) { frames := 3, cells := 0, slots := 0, locals := 78 } 0 0 0 := cwV 0 ht (GW_v w_6_225 w_6_226 w_6_227 w_1_7 (GW_wl w_6_228)) rfl rfl rfl (by decide +kernel) hR
theorem kV_La_149 {R : Room} {s : State} {args : Array Value} (hR : 5 + 1 ≤ R.frames ∧ 8 + (2 + 11) + 124 ≤ R.locals) (ht : ∀ w ∈ GW, w.before args s = true) : CallW R s args R_La R_Pw 149 y_Pw_why c_Pw_why 2 (some .int) (WL y_Pw_why c_Pw_why 2 (some .int)) { frames := 5, cells := 0, slots := 0, locals := 124 } 0 0 1 := cwV 1 ht (GW_v w_4_193 w_4_194 w_4_195 w_1_1 (GW_wl w_4_196)) rfl rfl rfl (by decide +kernel) hR
theorem kV_La_152 {R : Room} {s : State} {args : Array Value} (hR : 3 + 1 ≤ R.frames ∧ 8 + (2 + 11) + 78 ≤ R.locals) (ht : ∀ w ∈ GW, w.before args s = true) : CallW R s args R_La R_Mo 152 y_Mo_why c_Mo_why 2 (some .int) (WL y_Mo_why c_Mo_why 2 (some .int)) { frames := 3, cells := 0, slots := 0, locals := 78 } 0 0 1 := cwV 1 ht (GW_v w_6_237 w_6_238 w_6_239 w_1_7 (GW_wl w_7_0)) rfl rfl rfl (by decide +kernel) hR
theorem kV_La_153 {R : Room} {s : State} {args : Array Value} (hR : 4 + 1 ≤ R.frames ∧ 8 + (2 + 11) + 98 ≤ R.locals) (ht : ∀ w ∈ GW, w.before args s = true) : CallW R s args R_La R_Pw 153 y_Pw_cut c_Pw_cut 2 (some .int) (WL y_Pw_cut c_Pw_cut 2 (some .int)) { frames := 4, cells := 0, slots := 0, locals := 98 } 0 0 1 := cwV 1 ht (GW_v w_4_198 w_4_199 w_4_200 w_1_1 (GW_wl w_4_201)) rfl rfl rfl (by decide +kernel) hR
theorem kV_La_156 {R : Room} {s : State} {args : Array Value} (hR : 4 + 1 ≤ R.frames ∧ 8 + (2 + 11) + 97 ≤ R.locals) (ht : ∀ w ∈ GW, w.before args s = true) : CallW R s args R_La R_Mo 156 y_Mo_cut c_Mo_cut 2 (some .int) (WL y_Mo_cut c_Mo_cut 2 (some .int)) { frames := 4, cells := 0, slots := 0, locals := 97 } 0 0 1 := cwV 1 ht (GW_v w_7_1 w_7_2 w_7_3 w_1_7 (GW_wl w_7_4)) rfl rfl rfl (by decide +kernel) hR
theorem kV_La_157 {R : Room} {s : State} {args : Array Value} (hR : 4 + 1 ≤ R.frames ∧ 8 + (4 + 11) + 98 ≤ R.locals) (ht : ∀ w ∈ GW, w.before args s = true) : CallW R s args R_La R_Pw 157 y_Pw_dry c_Pw_dry 4 (some .int) (WL y_Pw_dry c_Pw_dry 4 (some .int)) { frames := 4, cells := 0, slots := 0, locals := 98 } 0 0 1 := cwV 1 ht (GW_v w_4_221 w_4_222 w_4_223 w_1_1 (GW_wl w_4_224)) rfl rfl rfl (by decide +kernel) hR
theorem kV_La_160 {R : Room} {s : State} {args : Array Value} (hR : 4 + 1 ≤ R.frames ∧ 8 + (3 + 11) + 97 ≤ R.locals) (ht : ∀ w ∈ GW, w.before args s = true) : CallW R s args R_La R_Mo 160 y_Mo_dry c_Mo_dry 3 (some .int) (WL y_Mo_dry c_Mo_dry 3 (some .int)) { frames := 4, cells := 0, slots := 0, locals := 97 } 0 0 1 := cwV 1 ht (GW_v w_7_16 w_7_17 w_7_18 w_1_7 (GW_wl w_7_19)) rfl rfl rfl (by decide +kernel) hR
theorem kV_La_161 {R : Room} {s : State} {args : Array Value} (hR : 6 + 1 ≤ R.frames ∧ 8 + (5 + 11) + 138 ≤ R.locals) (ht : ∀ w ∈ GW, w.before args s = true) : CallW R s args R_La R_Pw 161 y_Pw_seek c_Pw_seek 5 (some .int) (WL y_Pw_seek c_Pw_seek 5 (some .int)) { frames := 6, cells := 1, slots := 3, locals := 138 } 1 3 3 := cwV 3 ht (GW_v w_4_226 w_4_227 w_4_228 w_1_1 (GW_wl w_4_229)) rfl rfl rfl (by decide +kernel) hR
theorem kV_La_164 {R : Room} {s : State} {args : Array Value} (hR : 4 + 1 ≤ R.frames ∧ 8 + (10 + 11) + 95 ≤ R.locals) (ht : ∀ w ∈ GW, w.before args s = true) : CallW R s args R_La R_Mo 164 y_Mo_seek c_Mo_seek 10 (some .int) (WL y_Mo_seek c_Mo_seek 10 (some .int)) { frames := 4, cells := 0, slots := 0, locals := 95 } 0 0 3 := cwV 3 ht (GW_v w_7_20 w_7_21 w_7_22 w_1_7 (GW_wl w_7_23)) rfl rfl rfl (by decide +kernel) hR
theorem kV_La_165 {R : Room} {s : State} {args : Array Value} (hR : 1 + 1 ≤ R.frames ∧ 8 + (2 + 11) + 22 ≤ R.locals) (ht : ∀ w ∈ GW, w.before args s = true) : CallW R s args R_La R_Pw 165 y_Pw_block c_Pw_block 2 (some .int) (WL y_Pw_block c_Pw_block 2 (some .int)) { frames := 1, cells := 0, slots := 0, locals := 22 } 0 0 1 := cwV 1 ht (GW_v w_5_16 w_5_17 w_5_18 w_1_1 (GW_wl w_5_19)) rfl rfl rfl (by decide +kernel) hR
theorem kV_La_168 {R : Room} {s : State} {args : Array Value} (hR : 1 + 1 ≤ R.frames ∧ 8 + (2 + 11) + 22 ≤ R.locals) (ht : ∀ w ∈ GW, w.before args s = true) : CallW R s args R_La R_Mo 168 y_Mo_block c_Mo_block 2 (some .int) (WL y_Mo_block c_Mo_block 2 (some .int)) { frames := 1, cells := 0, slots := 0, locals := 22 } 0 0 1 := cwV 1 ht (GW_v w_7_24 w_7_25 w_7_26 w_1_7 (GW_wl w_7_27)) rfl rfl rfl (by decide +kernel) hR
theorem kV_La_169 {R : Room} {s : State} {args : Array Value} (hR : 1 + 1 ≤ R.frames ∧ 8 + (1 + 11) + 21 ≤ R.locals) (ht : ∀ w ∈ GW, w.before args s = true) : CallW R s args R_La R_Pw 169 y_Pw_rest c_Pw_rest 1 (some .int) (WL y_Pw_rest c_Pw_rest 1 (some .int)) { frames := 1, cells := 0, slots := 0, locals := 21 } 0 0 0 := cwV 0 ht (GW_v w_5_24 w_5_25 w_5_26 w_1_1 (GW_wl w_5_27)) rfl rfl rfl (by decide +kernel) hR
theorem kV_La_172 {R : Room} {s : State} {args : Array Value} (hR : 0 + 1 ≤ R.frames ∧ 8 + (2 + 11) + 0 ≤ R.locals) (ht : ∀ w ∈ GW, w.before args s = true) : CallW R s args R_La R_Mo 172 y_Mo_rest c_Mo_rest 2 (some .int) (WL y_Mo_rest c_Mo_rest 2 (some .int)) { frames := 0, cells := 0, slots := 0, locals := 0 } 0 0 0 := cwV 0 ht (GW_v w_7_28 w_7_29 w_7_30 w_1_7 (GW_wl w_7_31)) rfl rfl rfl (by decide +kernel) hR
theorem kV_La_173 {R : Room} {s : State} {args : Array Value} (hR : 1 + 1 ≤ R.frames ∧ 8 + (4 + 11) + 23 ≤ R.locals) (ht : ∀ w ∈ GW, w.before args s = true) : CallW R s args R_La R_Pw 173 y_Pw_plan c_Pw_plan 4 (some .int) (WL y_Pw_plan c_Pw_plan 4 (some .int)) { frames := 1, cells := 0, slots := 0, locals := 23 } 0 0 3 := cwV 3 ht (GW_v w_5_32 w_5_33 w_5_34 w_1_1 (GW_wl w_5_35)) rfl rfl rfl (by decide +kernel) hR
theorem kV_La_176 {R : Room} {s : State} {args : Array Value} (hR : 1 + 1 ≤ R.frames ∧ 8 + (4 + 11) + 22 ≤ R.locals) (ht : ∀ w ∈ GW, w.before args s = true) : CallW R s args R_La R_Mo 176 y_Mo_plan c_Mo_plan 4 (some .int) (WL y_Mo_plan c_Mo_plan 4 (some .int)) { frames := 1, cells := 0, slots := 0, locals := 22 } 0 0 3 := cwV 3 ht (GW_v w_7_32 w_7_33 w_7_34 w_1_7 (GW_wl w_7_35)) rfl rfl rfl (by decide +kernel) hR
theorem kV_La_177 {R : Room} {s : State} {args : Array Value} (hR : 26 + 1 ≤ R.frames ∧ 8 + (4 + 11) + 1225 ≤ R.locals) (ht : ∀ w ∈ GW, w.before args s = true) : CallW R s args R_La R_Pw 177 y_Pw_best c_Pw_best 4 (some .int) (WL y_Pw_best c_Pw_best 4 (some .int)) { frames := 26, cells := 0, slots := 0, locals := 1225 } 0 0 2 := cwV 2 ht (GW_v w_5_40 w_5_41 w_5_42 w_1_1 (GW_wl w_5_43)) rfl rfl rfl (by decide +kernel) hR
theorem kV_La_180 {R : Room} {s : State} {args : Array Value} (hR : 2 + 1 ≤ R.frames ∧ 8 + (9 + 11) + 52 ≤ R.locals) (ht : ∀ w ∈ GW, w.before args s = true) : CallW R s args R_La R_Mo 180 y_Mo_best c_Mo_best 9 (some .int) (WL y_Mo_best c_Mo_best 9 (some .int)) { frames := 2, cells := 0, slots := 0, locals := 52 } 0 0 2 := cwV 2 ht (GW_v w_7_36 w_7_37 w_7_38 w_1_7 (GW_wl w_7_39)) rfl rfl rfl (by decide +kernel) hR
theorem kV_La_181 {R : Room} {s : State} {args : Array Value} (hR : 4 + 1 ≤ R.frames ∧ 8 + (2 + 11) + 88 ≤ R.locals) (ht : ∀ w ∈ GW, w.before args s = true) : CallW R s args R_La R_Pw 181 y_Pw_fails c_Pw_fails 2 (some .int) (WL y_Pw_fails c_Pw_fails 2 (some .int)) { frames := 4, cells := 0, slots := 0, locals := 88 } 0 0 1 := cwV 1 ht (GW_v w_5_79 w_5_80 w_5_81 w_1_1 (GW_wl w_5_82)) rfl rfl rfl (by decide +kernel) hR
theorem kV_La_184 {R : Room} {s : State} {args : Array Value} (hR : 2 + 1 ≤ R.frames ∧ 8 + (5 + 11) + 52 ≤ R.locals) (ht : ∀ w ∈ GW, w.before args s = true) : CallW R s args R_La R_Mo 184 y_Mo_fails c_Mo_fails 5 (some .int) (WL y_Mo_fails c_Mo_fails 5 (some .int)) { frames := 2, cells := 0, slots := 0, locals := 52 } 0 0 1 := cwV 1 ht (GW_v w_7_55 w_7_56 w_7_57 w_1_7 (GW_wl w_7_58)) rfl rfl rfl (by decide +kernel) hR
theorem kV_La_185 {R : Room} {s : State} {args : Array Value} (hR : 1 + 1 ≤ R.frames ∧ 8 + (4 + 11) + 22 ≤ R.locals) (ht : ∀ w ∈ GW, w.before args s = true) : CallW R s args R_La R_Pw 185 y_Pw_term c_Pw_term 4 (some .int) (WL y_Pw_term c_Pw_term 4 (some .int)) { frames := 1, cells := 0, slots := 0, locals := 22 } 0 0 2 := cwV 2 ht (GW_v w_5_87 w_5_88 w_5_89 w_1_1 (GW_wl w_5_90)) rfl rfl rfl (by decide +kernel) hR
theorem kV_La_188 {R : Room} {s : State} {args : Array Value} (hR : 1 + 1 ≤ R.frames ∧ 8 + (4 + 11) + 22 ≤ R.locals) (ht : ∀ w ∈ GW, w.before args s = true) : CallW R s args R_La R_Mo 188 y_Mo_term c_Mo_term 4 (some .int) (WL y_Mo_term c_Mo_term 4 (some .int)) { frames := 1, cells := 0, slots := 0, locals := 22 } 0 0 2 := cwV 2 ht (GW_v w_7_59 w_7_60 w_7_61 w_1_7 (GW_wl w_7_62)) rfl rfl rfl (by decide +kernel) hR
theorem kV_La_189 {R : Room} {s : State} {args : Array Value} (hR : 1 + 1 ≤ R.frames ∧ 8 + (4 + 11) + 21 ≤ R.locals) (ht : ∀ w ∈ GW, w.before args s = true) : CallW R s args R_La R_Pw 189 y_Pw_meter c_Pw_meter 4 (some .int) (WL y_Pw_meter c_Pw_meter 4 (some .int)) { frames := 1, cells := 0, slots := 0, locals := 21 } 0 0 2 := cwV 2 ht (GW_v w_5_91 w_5_92 w_5_93 w_1_1 (GW_wl w_5_94)) rfl rfl rfl (by decide +kernel) hR
theorem kV_La_192 {R : Room} {s : State} {args : Array Value} (hR : 2 + 1 ≤ R.frames ∧ 8 + (4 + 11) + 43 ≤ R.locals) (ht : ∀ w ∈ GW, w.before args s = true) : CallW R s args R_La R_Mo 192 y_Mo_meter c_Mo_meter 4 (some .int) (WL y_Mo_meter c_Mo_meter 4 (some .int)) { frames := 2, cells := 0, slots := 0, locals := 43 } 0 0 2 := cwV 2 ht (GW_v w_7_63 w_7_64 w_7_65 w_1_7 (GW_wl w_7_66)) rfl rfl rfl (by decide +kernel) hR
theorem kV_La_193 {R : Room} {s : State} {args : Array Value} (hR : 1 + 1 ≤ R.frames ∧ 8 + (2 + 11) + 21 ≤ R.locals) (ht : ∀ w ∈ GW, w.before args s = true) : CallW R s args R_La R_Pw 193 y_Pw_pay c_Pw_pay 2 (some .int) (WL y_Pw_pay c_Pw_pay 2 (some .int)) { frames := 1, cells := 0, slots := 0, locals := 21 } 0 0 1 := cwV 1 ht (GW_v w_5_95 w_5_96 w_5_97 w_1_1 (GW_wl w_5_98)) rfl rfl rfl (by decide +kernel) hR
theorem kV_La_196 {R : Room} {s : State} {args : Array Value} (hR : 2 + 1 ≤ R.frames ∧ 8 + (2 + 11) + 43 ≤ R.locals) (ht : ∀ w ∈ GW, w.before args s = true) : CallW R s args R_La R_Mo 196 y_Mo_pay c_Mo_pay 2 (some .int) (WL y_Mo_pay c_Mo_pay 2 (some .int)) { frames := 2, cells := 0, slots := 0, locals := 43 } 0 0 1 := cwV 1 ht (GW_v w_7_67 w_7_68 w_7_69 w_1_7 (GW_wl w_7_70)) rfl rfl rfl (by decide +kernel) hR
theorem kI_La_9 {R : Room} {s : State} {args : Array Value} (hR : 3 + 1 ≤ R.frames ∧ 8 + (1 + 11) + 60 ≤ R.locals) (ht : ∀ w ∈ GW, w.before args s = true) : CallB R s args R_La 9 y_Pw_init c_Pw_init 1 none (WL y_Pw_init c_Pw_init 1 none) { frames := 3, cells := 48, slots := 13645, locals := 60 } 48 13645 0 ∧ y_Pw_init.name = "<init>" ∧ (Cond.instanceMethod y_Pw_init).before args s = true := cwI 0 ht (GW_in (GW_wl w_1_22)) rfl rfl rfl (ht _ w_1_1) (ht _ w_1_20) (ht _ w_1_21) rfl (by decide +kernel) hR
theorem kI_La_12 {R : Room} {s : State} {args : Array Value} (hR : 1 + 1 ≤ R.frames ∧ 8 + (2 + 11) + 20 ≤ R.locals) (ht : ∀ w ∈ GW, w.before args s = true) : CallB R s args R_La 12 y_Mo_init c_Mo_init 2 none (WL y_Mo_init c_Mo_init 2 none) { frames := 1, cells := 37, slots := 15264, locals := 20 } 37 15264 0 ∧ y_Mo_init.name = "<init>" ∧ (Cond.instanceMethod y_Mo_init).before args s = true := cwI 0 ht (GW_in (GW_wl w_5_103)) rfl rfl rfl (ht _ w_1_7) (ht _ w_5_101) (ht _ w_5_102) rfl (by decide +kernel) hR
/-! ===== THE LAW, open in Rel and in its 44 ops ===== -/
section LAWR
variable {p : Program} {l : Launch} {e : Env} {R : Room} {s : State} {m : MethodId} {args : Array Value} {below : List Frame} {meth : Method} {c : Code} {H : Heap} {locs : List Loc} {cells slots : Nat} {Q : State → Prop}
variable {cc : ByteArray} {pc n nL : Nat} {ls : Array Slot} {rest : List Value} {D : va_G} {cy : Nat → ClassId} {Z : Nat → Prop} {ad : Nat → Nat} {tb : List (Nat × Instr × Nat)} {lv : List (Nat × Value)} {own : String} {w : va_W}
theorem i_sld {b N : Nat} {xs : Nat → Int32} {i : Int32} (C : CX D cy own cc tb nL p s m args c Z) (k : Nat) (hk : tb[k]? = some (pc, .iaload, 1)) (hn : pc + 1 = n) (h : HXw D Z s.heap H locs w) (hX : va_X b N xs s s.heap) (hbl : b < s.heap.size) (hbA : ¬ Z b) (hin : vp_in i N) (kk : W p l e R s m args below meth c H locs cells slots Q (F0 m n ls (.int (xs i.toNatClampNeg) :: rest))) : W p l e R s m args below meth c H locs cells slots Q (F0 m pc ls (.int i :: .ref b :: rest)) := by
  subst hn
  exact va_sld C.hx C.hb hX hbl hbA h.2.2 hin (C.dg hk) kk
theorem i_slen {b N : Nat} {xs : Nat → Int32} (C : CX D cy own cc tb nL p s m args c Z) (k : Nat) (hk : tb[k]? = some (pc, .arraylength, 1)) (hn : pc + 1 = n) (h : HXw D Z s.heap H locs w) (hX : va_X b N xs s s.heap) (hbl : b < s.heap.size) (hbA : ¬ Z b) (kk : W p l e R s m args below meth c H locs cells slots Q (F0 m n ls (.int (Int32.ofNat N) :: rest))) : W p l e R s m args below meth c H locs cells slots Q (F0 m pc ls (.ref b :: rest)) := by
  subst hn
  exact va_slen C.hx C.hb hX hbl hbA h.2.2 (C.dg hk) kk
theorem CX.retb {tb2 : List (Nat × Instr × Nat)} (C : CX D cy own cc tb nL p s m args c Z) (h : tb2.all (fun q => decide (decode cc q.1 = .ok q.2)) = true) : CX D cy own cc tb2 nL p s m args c Z := ⟨C.1, C.2.1, C.2.2.1, C.2.2.2.1, h⟩
end LAWR
theorem wCM_c {cy : Nat → ClassId} {ad : Nat → Nat} {I : Nat → Int32} {A : Nat → Nat → Int32} {T : Nat → Option Nat} {L : List Nat} {K : Nat → Nat} {F : Nat → Nat → Int32} {w2 : va_W} : (wC cy ad I A T L K F ++ w2)[0]? = some (ad 0, EC cy ad I A T 0) := by
  have h := wC_get (cy := cy) (ad := ad) (I := I) (A := A) (T := T) (L := L) (K := K) (F := F) (h := 0) (by decide)
  rw [List.getElem?_append_left (List.getElem?_eq_some_iff.mp h).1]
  exact h
theorem wCM_m {cy : Nat → ClassId} {am : Nat → Nat} {J : Nat → Int32} {B : Nat → Nat → Int32} {w1 : va_W} : (w1 ++ wM cy am J B)[w1.length]? = some (am 0, EM cy am J B 0) := by
  rw [List.getElem?_append_right (Nat.le_refl _), Nat.sub_self]
  exact wM_get (by decide)
theorem law_ix {L k : Nat} (hL : L ≤ 3072) (c : ¬ Int32.ofNat L - 6 < nI (6 * k)) (hk : 6 * k ≤ L) : 6 * k + 6 ≤ L := by
  rcases Nat.lt_or_ge L (6 * k + 6) with h | h
  · refine absurd ?_ c
    rw [Int32.lt_iff_toInt_lt, nI_toInt (by omega)]
    have : (nI L - nI 6).toInt = (L : Int) - 6 := pk_sub_toInt (by omega) (by omega)
    show (nI L - nI 6).toInt < _
    rw [this]
    omega
  · exact h
theorem law_in {L k j : Nat} (hL : L ≤ 3072) (hj : j < 6) (h : 6 * k + 6 ≤ L) : vp_in (nI (6 * k) + nI j) L := by
  rw [nI_add]
  exact vp_in_nI (by omega) (by omega)
theorem law_in0 {L k : Nat} (hL : L ≤ 3072) (h : 6 * k + 6 ≤ L) : vp_in (nI (6 * k)) L := vp_in_nI (by omega) (by omega)
set_option maxHeartbeats 4000000 in
set_option maxRecDepth 100000 in
theorem law_0 {Rel : Nat → (Nat → Int32) → (Nat → Nat → Int32) → (Nat → Option Nat) → List Nat → (Nat → Nat) → (Nat → Nat → Int32) → (Nat → Int32) → (Nat → Nat → Int32) → Prop} {p : Program} {l : Launch} {e : Env} {s : State} {m : MethodId} {below : List Frame} {meth : Method} {c : Code} {D : va_G} {cy ad am : Nat → Nat} {b N : Nat} {xs : Nat → Int32} (C : CX D cy R_La code tb_La_0 4 p s m #[Value.ref b] c (fun q => s.heap.size ≤ q)) (hX : va_X b N xs s s.heap) (hbl : b < s.heap.size) (hN : N ≤ 3072)
    (ho0 : ∀ (k : Nat) (a1 a2 : Int32) (I : Nat → Int32) (A : Nat → Nat → Int32) (T : Nat → Option Nat) (L : List Nat) (K : Nat → Nat) (F : Nat → Nat → Int32) (J : Nat → Int32) (B : Nat → Nat → Int32), k < 512 → Rel k I A T L K F J B → g_Pw_node I A a1 a2 (fun r u => g_Mo_node J B a1 a2 (fun r2 v => r = r2 ∧ Rel (k + 1) u.1 u.2 T L K F v.1 v.2)))
    (k : Nat) (I : Nat → Int32) (A : Nat → Nat → Int32) (T : Nat → Option Nat) (L : List Nat) (K : Nat → Nat) (F : Nat → Nat → Int32) (J : Nat → Int32) (B : Nat → Nat → Int32) (h6 : 6 * k + 6 ≤ N) (ih : ∀ (I : Nat → Int32) (A : Nat → Nat → Int32) (T : Nat → Option Nat) (L : List Nat) (K : Nat → Nat) (F : Nat → Nat → Int32) (J : Nat → Int32) (B : Nat → Nat → Int32) (H : Heap) (locs : List Loc) (ls : Array Slot), 6 * (k + 1) ≤ N → Rel (k + 1) I A T L K F J B → HXw D (fun q => s.heap.size ≤ q) s.heap H locs (wC cy ad I A T L K F ++ wM cy am J B) → lv_has ls 4 [(0, .ref b), (1, .ref (ad 0)), (2, .ref (am 0)), (3, .int (nI (6 * (k + 1))))] → W p l e room_1 s m #[Value.ref b] below meth c H locs (87 + (k + 1)) (28975 + 7 * (k + 1)) (lw_Z below #[Value.ref b] s) (F0 m 18 ls [])) (H : Heap) (locs : List Loc) (ls : Array Slot) (hR : Rel k I A T L K F J B) (h : HXw D (fun q => s.heap.size ≤ q) s.heap H locs (wC cy ad I A T L K F ++ wM cy am J B)) (hl : lv_has ls 4 [(0, .ref b), (1, .ref (ad 0)), (2, .ref (am 0)), (3, .int (nI (6 * k)))]) : W p l e room_1 s m #[Value.ref b] below meth c H locs (87 + k) (28975 + 7 * k) (lw_Z below #[Value.ref b] s) (F0 m 224 ls []) := by
  have hbA : ¬ (fun q => s.heap.size ≤ q) b := Nat.not_le.mpr hbl
  refine i_aload_n (n := 225) C 0 rfl rfl rfl hl 1 rfl ?_
  refine i_aload_n (n := 226) C 1 rfl rfl rfl hl 0 rfl ?_
  refine i_iload_n (n := 227) C 2 rfl rfl rfl hl 3 rfl ?_
  refine i_iconst (v := (1 : Int32)) (n := 228) C 3 rfl rfl rfl ?_
  refine i_iadd (n := 229) C 4 rfl rfl ?_
  refine i_sld (n := 230) C 5 rfl rfl h hX hbl hbA (law_in (j := 1) hN (by decide) h6) ?_
  refine i_aload_n (n := 231) C 6 rfl rfl rfl hl 0 rfl ?_
  refine i_iload_n (n := 232) C 7 rfl rfl rfl hl 3 rfl ?_
  refine i_iconst (v := (2 : Int32)) (n := 233) C 8 rfl rfl rfl ?_
  refine i_iadd (n := 234) C 9 rfl rfl ?_
  refine i_sld (n := 235) C 10 rfl rfl h hX hbl hbA (law_in (j := 2) hN (by decide) h6) ?_
  have hw := ho0 k (xs ((nI (6 * k)) + (1 : Int32)).toNatClampNeg) (xs ((nI (6 * k)) + (2 : Int32)).toNatClampNeg) I A T L K F J B (by omega) hR
  refine i_callVi (rest := []) (ci := 10) (qc := (R_Pw, T_Pw, 16)) (n := 238) C 11 rfl rfl hl h rfl wCM_c (kV_La_13 ⟨by decide, by decide⟩) (fr_iR (wM cy am J B) (m_Pw_node hw)) rfl rfl (Nat.le_of_ble_eq_true rfl) ⟨by show 87 + k + 0 ≤ 600000; omega, by show 28975 + 7 * k + 0 ≤ 7302250; omega⟩ (fun r u H locs hw h => ?_)
  have h : HXw D (fun q => s.heap.size ≤ q) s.heap H locs (wC cy ad u.1 u.2 T L K F ++ wM cy am J B) := h
  refine i_aload_n (n := 239) C 12 rfl rfl rfl hl 2 rfl ?_
  refine i_aload_n (n := 240) C 13 rfl rfl rfl hl 0 rfl ?_
  refine i_iload_n (n := 241) C 14 rfl rfl rfl hl 3 rfl ?_
  refine i_iconst (v := (1 : Int32)) (n := 242) C 15 rfl rfl rfl ?_
  refine i_iadd (n := 243) C 16 rfl rfl ?_
  refine i_sld (n := 244) C 17 rfl rfl h hX hbl hbA (law_in (j := 1) hN (by decide) h6) ?_
  refine i_aload_n (n := 245) C 18 rfl rfl rfl hl 0 rfl ?_
  refine i_iload_n (n := 246) C 19 rfl rfl rfl hl 3 rfl ?_
  refine i_iconst (v := (2 : Int32)) (n := 247) C 20 rfl rfl rfl ?_
  refine i_iadd (n := 248) C 21 rfl rfl ?_
  refine i_sld (n := 249) C 22 rfl rfl h hX hbl hbA (law_in (j := 2) hN (by decide) h6) ?_
  refine i_callVi (rest := [.int r]) (ci := 11) (qc := (R_Mo, T_Mo, 50)) (n := 252) C 23 rfl rfl hl h rfl wCM_m (kV_La_17 ⟨by decide, by decide⟩) (fr_iL (wC cy ad u.1 u.2 T L K F) (m_Mo_node hw)) rfl rfl (Nat.le_of_ble_eq_true rfl) ⟨by show 87 + k + 0 + 0 ≤ 600000; omega, by show 28975 + 7 * k + 0 + 0 ≤ 7302250; omega⟩ (fun r2 v H locs hw h => ?_)
  have h : HXw D (fun q => s.heap.size ≤ q) s.heap H locs (wC cy ad u.1 u.2 T L K F ++ wM cy am v.1 v.2) := h
  obtain ⟨hrr, hR2⟩ := hw
  refine i_icmp_eq (tgt := 1624) (n := 255) C 24 rfl rfl rfl (fun _ => ?_) (fun z => absurd hrr z)
  refine i_iinc (v := nI (6 * (k + 1))) (lv' := [(3, .int (nI (6 * (k + 1)))), (0, .ref b), (1, .ref (ad 0)), (2, .ref (am 0))]) (n := 1627) C 27 rfl rfl hl 3 rfl (nI_add (6 * k) 6) (by decide) rfl (fun ls hl => ?_)
  refine i_goto (tgt := 18) C 28 rfl rfl ?_
  refine W.widen (k := 87 + (k + 1)) (n := 28975 + 7 * (k + 1)) (by omega) (by omega) ?_
  exact ih _ _ _ _ _ _ _ _ _ _ ls (by omega) hR2 h (lv_sub hl [1, 2, 3, 0] rfl)
set_option maxHeartbeats 4000000 in
set_option maxRecDepth 100000 in
theorem law_1 {Rel : Nat → (Nat → Int32) → (Nat → Nat → Int32) → (Nat → Option Nat) → List Nat → (Nat → Nat) → (Nat → Nat → Int32) → (Nat → Int32) → (Nat → Nat → Int32) → Prop} {p : Program} {l : Launch} {e : Env} {s : State} {m : MethodId} {below : List Frame} {meth : Method} {c : Code} {D : va_G} {cy ad am : Nat → Nat} {b N : Nat} {xs : Nat → Int32} (C : CX D cy R_La code tb_La_1 4 p s m #[Value.ref b] c (fun q => s.heap.size ≤ q)) (hX : va_X b N xs s s.heap) (hbl : b < s.heap.size) (hN : N ≤ 3072)
    (ho1 : ∀ (k : Nat) (a1 a2 a3 : Int32) (I : Nat → Int32) (A : Nat → Nat → Int32) (T : Nat → Option Nat) (L : List Nat) (K : Nat → Nat) (F : Nat → Nat → Int32) (J : Nat → Int32) (B : Nat → Nat → Int32), k < 512 → Rel k I A T L K F J B → g_Pw_main I A a1 a2 a3 (fun r u => g_Mo_main J B a1 a2 a3 (fun r2 v => r = r2 ∧ Rel (k + 1) u.1 u.2 T L K F v.1 v.2)))
    (k : Nat) (I : Nat → Int32) (A : Nat → Nat → Int32) (T : Nat → Option Nat) (L : List Nat) (K : Nat → Nat) (F : Nat → Nat → Int32) (J : Nat → Int32) (B : Nat → Nat → Int32) (h6 : 6 * k + 6 ≤ N) (ih : ∀ (I : Nat → Int32) (A : Nat → Nat → Int32) (T : Nat → Option Nat) (L : List Nat) (K : Nat → Nat) (F : Nat → Nat → Int32) (J : Nat → Int32) (B : Nat → Nat → Int32) (H : Heap) (locs : List Loc) (ls : Array Slot), 6 * (k + 1) ≤ N → Rel (k + 1) I A T L K F J B → HXw D (fun q => s.heap.size ≤ q) s.heap H locs (wC cy ad I A T L K F ++ wM cy am J B) → lv_has ls 4 [(0, .ref b), (1, .ref (ad 0)), (2, .ref (am 0)), (3, .int (nI (6 * (k + 1))))] → W p l e room_1 s m #[Value.ref b] below meth c H locs (87 + (k + 1)) (28975 + 7 * (k + 1)) (lw_Z below #[Value.ref b] s) (F0 m 18 ls [])) (H : Heap) (locs : List Loc) (ls : Array Slot) (hR : Rel k I A T L K F J B) (h : HXw D (fun q => s.heap.size ≤ q) s.heap H locs (wC cy ad I A T L K F ++ wM cy am J B)) (hl : lv_has ls 4 [(0, .ref b), (1, .ref (ad 0)), (2, .ref (am 0)), (3, .int (nI (6 * k)))]) : W p l e room_1 s m #[Value.ref b] below meth c H locs (87 + k) (28975 + 7 * k) (lw_Z below #[Value.ref b] s) (F0 m 257 ls []) := by
  have hbA : ¬ (fun q => s.heap.size ≤ q) b := Nat.not_le.mpr hbl
  refine i_aload_n (n := 258) C 0 rfl rfl rfl hl 1 rfl ?_
  refine i_aload_n (n := 259) C 1 rfl rfl rfl hl 0 rfl ?_
  refine i_iload_n (n := 260) C 2 rfl rfl rfl hl 3 rfl ?_
  refine i_iconst (v := (1 : Int32)) (n := 261) C 3 rfl rfl rfl ?_
  refine i_iadd (n := 262) C 4 rfl rfl ?_
  refine i_sld (n := 263) C 5 rfl rfl h hX hbl hbA (law_in (j := 1) hN (by decide) h6) ?_
  refine i_aload_n (n := 264) C 6 rfl rfl rfl hl 0 rfl ?_
  refine i_iload_n (n := 265) C 7 rfl rfl rfl hl 3 rfl ?_
  refine i_iconst (v := (2 : Int32)) (n := 266) C 8 rfl rfl rfl ?_
  refine i_iadd (n := 267) C 9 rfl rfl ?_
  refine i_sld (n := 268) C 10 rfl rfl h hX hbl hbA (law_in (j := 2) hN (by decide) h6) ?_
  refine i_aload_n (n := 269) C 11 rfl rfl rfl hl 0 rfl ?_
  refine i_iload_n (n := 270) C 12 rfl rfl rfl hl 3 rfl ?_
  refine i_iconst (v := (3 : Int32)) (n := 271) C 13 rfl rfl rfl ?_
  refine i_iadd (n := 272) C 14 rfl rfl ?_
  refine i_sld (n := 273) C 15 rfl rfl h hX hbl hbA (law_in (j := 3) hN (by decide) h6) ?_
  have hw := ho1 k (xs ((nI (6 * k)) + (1 : Int32)).toNatClampNeg) (xs ((nI (6 * k)) + (2 : Int32)).toNatClampNeg) (xs ((nI (6 * k)) + (3 : Int32)).toNatClampNeg) I A T L K F J B (by omega) hR
  refine i_callVi (rest := []) (ci := 10) (qc := (R_Pw, T_Pw, 16)) (n := 276) C 16 rfl rfl hl h rfl wCM_c (kV_La_18 ⟨by decide, by decide⟩) (fr_iR (wM cy am J B) (m_Pw_main hw)) rfl rfl (Nat.le_of_ble_eq_true rfl) ⟨by show 87 + k + 0 ≤ 600000; omega, by show 28975 + 7 * k + 0 ≤ 7302250; omega⟩ (fun r u H locs hw h => ?_)
  have h : HXw D (fun q => s.heap.size ≤ q) s.heap H locs (wC cy ad u.1 u.2 T L K F ++ wM cy am J B) := h
  refine i_aload_n (n := 277) C 17 rfl rfl rfl hl 2 rfl ?_
  refine i_aload_n (n := 278) C 18 rfl rfl rfl hl 0 rfl ?_
  refine i_iload_n (n := 279) C 19 rfl rfl rfl hl 3 rfl ?_
  refine i_iconst (v := (1 : Int32)) (n := 280) C 20 rfl rfl rfl ?_
  refine i_iadd (n := 281) C 21 rfl rfl ?_
  refine i_sld (n := 282) C 22 rfl rfl h hX hbl hbA (law_in (j := 1) hN (by decide) h6) ?_
  refine i_aload_n (n := 283) C 23 rfl rfl rfl hl 0 rfl ?_
  refine i_iload_n (n := 284) C 24 rfl rfl rfl hl 3 rfl ?_
  refine i_iconst (v := (2 : Int32)) (n := 285) C 25 rfl rfl rfl ?_
  refine i_iadd (n := 286) C 26 rfl rfl ?_
  refine i_sld (n := 287) C 27 rfl rfl h hX hbl hbA (law_in (j := 2) hN (by decide) h6) ?_
  refine i_aload_n (n := 288) C 28 rfl rfl rfl hl 0 rfl ?_
  refine i_iload_n (n := 289) C 29 rfl rfl rfl hl 3 rfl ?_
  refine i_iconst (v := (3 : Int32)) (n := 290) C 30 rfl rfl rfl ?_
  refine i_iadd (n := 291) C 31 rfl rfl ?_
  refine i_sld (n := 292) C 32 rfl rfl h hX hbl hbA (law_in (j := 3) hN (by decide) h6) ?_
  refine i_callVi (rest := [.int r]) (ci := 11) (qc := (R_Mo, T_Mo, 50)) (n := 295) C 33 rfl rfl hl h rfl wCM_m (kV_La_22 ⟨by decide, by decide⟩) (fr_iL (wC cy ad u.1 u.2 T L K F) (m_Mo_main hw)) rfl rfl (Nat.le_of_ble_eq_true rfl) ⟨by show 87 + k + 0 + 0 ≤ 600000; omega, by show 28975 + 7 * k + 0 + 0 ≤ 7302250; omega⟩ (fun r2 v H locs hw h => ?_)
  have h : HXw D (fun q => s.heap.size ≤ q) s.heap H locs (wC cy ad u.1 u.2 T L K F ++ wM cy am v.1 v.2) := h
  obtain ⟨hrr, hR2⟩ := hw
  refine i_icmp_eq (tgt := 1624) (n := 298) C 34 rfl rfl rfl (fun _ => ?_) (fun z => absurd hrr z)
  refine i_iinc (v := nI (6 * (k + 1))) (lv' := [(3, .int (nI (6 * (k + 1)))), (0, .ref b), (1, .ref (ad 0)), (2, .ref (am 0))]) (n := 1627) C 37 rfl rfl hl 3 rfl (nI_add (6 * k) 6) (by decide) rfl (fun ls hl => ?_)
  refine i_goto (tgt := 18) C 38 rfl rfl ?_
  refine W.widen (k := 87 + (k + 1)) (n := 28975 + 7 * (k + 1)) (by omega) (by omega) ?_
  exact ih _ _ _ _ _ _ _ _ _ _ ls (by omega) hR2 h (lv_sub hl [1, 2, 3, 0] rfl)
set_option maxHeartbeats 4000000 in
set_option maxRecDepth 100000 in
theorem law_2 {Rel : Nat → (Nat → Int32) → (Nat → Nat → Int32) → (Nat → Option Nat) → List Nat → (Nat → Nat) → (Nat → Nat → Int32) → (Nat → Int32) → (Nat → Nat → Int32) → Prop} {p : Program} {l : Launch} {e : Env} {s : State} {m : MethodId} {below : List Frame} {meth : Method} {c : Code} {D : va_G} {cy ad am : Nat → Nat} {b N : Nat} {xs : Nat → Int32} (C : CX D cy R_La code tb_La_2 4 p s m #[Value.ref b] c (fun q => s.heap.size ≤ q)) (hX : va_X b N xs s s.heap) (hbl : b < s.heap.size) (hN : N ≤ 3072)
    (ho2 : ∀ (k : Nat) (a1 a2 : Int32) (I : Nat → Int32) (A : Nat → Nat → Int32) (T : Nat → Option Nat) (L : List Nat) (K : Nat → Nat) (F : Nat → Nat → Int32) (J : Nat → Int32) (B : Nat → Nat → Int32), k < 512 → Rel k I A T L K F J B → g_Pw_valve I A a1 a2 (fun r u => g_Mo_valve J B a1 a2 (fun r2 v => r = r2 ∧ Rel (k + 1) u.1 u.2 T L K F v.1 v.2)))
    (k : Nat) (I : Nat → Int32) (A : Nat → Nat → Int32) (T : Nat → Option Nat) (L : List Nat) (K : Nat → Nat) (F : Nat → Nat → Int32) (J : Nat → Int32) (B : Nat → Nat → Int32) (h6 : 6 * k + 6 ≤ N) (ih : ∀ (I : Nat → Int32) (A : Nat → Nat → Int32) (T : Nat → Option Nat) (L : List Nat) (K : Nat → Nat) (F : Nat → Nat → Int32) (J : Nat → Int32) (B : Nat → Nat → Int32) (H : Heap) (locs : List Loc) (ls : Array Slot), 6 * (k + 1) ≤ N → Rel (k + 1) I A T L K F J B → HXw D (fun q => s.heap.size ≤ q) s.heap H locs (wC cy ad I A T L K F ++ wM cy am J B) → lv_has ls 4 [(0, .ref b), (1, .ref (ad 0)), (2, .ref (am 0)), (3, .int (nI (6 * (k + 1))))] → W p l e room_1 s m #[Value.ref b] below meth c H locs (87 + (k + 1)) (28975 + 7 * (k + 1)) (lw_Z below #[Value.ref b] s) (F0 m 18 ls [])) (H : Heap) (locs : List Loc) (ls : Array Slot) (hR : Rel k I A T L K F J B) (h : HXw D (fun q => s.heap.size ≤ q) s.heap H locs (wC cy ad I A T L K F ++ wM cy am J B)) (hl : lv_has ls 4 [(0, .ref b), (1, .ref (ad 0)), (2, .ref (am 0)), (3, .int (nI (6 * k)))]) : W p l e room_1 s m #[Value.ref b] below meth c H locs (87 + k) (28975 + 7 * k) (lw_Z below #[Value.ref b] s) (F0 m 300 ls []) := by
  have hbA : ¬ (fun q => s.heap.size ≤ q) b := Nat.not_le.mpr hbl
  refine i_aload_n (n := 301) C 0 rfl rfl rfl hl 1 rfl ?_
  refine i_aload_n (n := 302) C 1 rfl rfl rfl hl 0 rfl ?_
  refine i_iload_n (n := 303) C 2 rfl rfl rfl hl 3 rfl ?_
  refine i_iconst (v := (1 : Int32)) (n := 304) C 3 rfl rfl rfl ?_
  refine i_iadd (n := 305) C 4 rfl rfl ?_
  refine i_sld (n := 306) C 5 rfl rfl h hX hbl hbA (law_in (j := 1) hN (by decide) h6) ?_
  refine i_aload_n (n := 307) C 6 rfl rfl rfl hl 0 rfl ?_
  refine i_iload_n (n := 308) C 7 rfl rfl rfl hl 3 rfl ?_
  refine i_iconst (v := (2 : Int32)) (n := 309) C 8 rfl rfl rfl ?_
  refine i_iadd (n := 310) C 9 rfl rfl ?_
  refine i_sld (n := 311) C 10 rfl rfl h hX hbl hbA (law_in (j := 2) hN (by decide) h6) ?_
  have hw := ho2 k (xs ((nI (6 * k)) + (1 : Int32)).toNatClampNeg) (xs ((nI (6 * k)) + (2 : Int32)).toNatClampNeg) I A T L K F J B (by omega) hR
  refine i_callVi (rest := []) (ci := 10) (qc := (R_Pw, T_Pw, 16)) (n := 314) C 11 rfl rfl hl h rfl wCM_c (kV_La_23 ⟨by decide, by decide⟩) (fr_iR (wM cy am J B) (m_Pw_valve hw)) rfl rfl (Nat.le_of_ble_eq_true rfl) ⟨by show 87 + k + 0 ≤ 600000; omega, by show 28975 + 7 * k + 0 ≤ 7302250; omega⟩ (fun r u H locs hw h => ?_)
  have h : HXw D (fun q => s.heap.size ≤ q) s.heap H locs (wC cy ad u.1 u.2 T L K F ++ wM cy am J B) := h
  refine i_aload_n (n := 315) C 12 rfl rfl rfl hl 2 rfl ?_
  refine i_aload_n (n := 316) C 13 rfl rfl rfl hl 0 rfl ?_
  refine i_iload_n (n := 317) C 14 rfl rfl rfl hl 3 rfl ?_
  refine i_iconst (v := (1 : Int32)) (n := 318) C 15 rfl rfl rfl ?_
  refine i_iadd (n := 319) C 16 rfl rfl ?_
  refine i_sld (n := 320) C 17 rfl rfl h hX hbl hbA (law_in (j := 1) hN (by decide) h6) ?_
  refine i_aload_n (n := 321) C 18 rfl rfl rfl hl 0 rfl ?_
  refine i_iload_n (n := 322) C 19 rfl rfl rfl hl 3 rfl ?_
  refine i_iconst (v := (2 : Int32)) (n := 323) C 20 rfl rfl rfl ?_
  refine i_iadd (n := 324) C 21 rfl rfl ?_
  refine i_sld (n := 325) C 22 rfl rfl h hX hbl hbA (law_in (j := 2) hN (by decide) h6) ?_
  refine i_callVi (rest := [.int r]) (ci := 11) (qc := (R_Mo, T_Mo, 50)) (n := 328) C 23 rfl rfl hl h rfl wCM_m (kV_La_26 ⟨by decide, by decide⟩) (fr_iL (wC cy ad u.1 u.2 T L K F) (m_Mo_valve hw)) rfl rfl (Nat.le_of_ble_eq_true rfl) ⟨by show 87 + k + 0 + 0 ≤ 600000; omega, by show 28975 + 7 * k + 0 + 0 ≤ 7302250; omega⟩ (fun r2 v H locs hw h => ?_)
  have h : HXw D (fun q => s.heap.size ≤ q) s.heap H locs (wC cy ad u.1 u.2 T L K F ++ wM cy am v.1 v.2) := h
  obtain ⟨hrr, hR2⟩ := hw
  refine i_icmp_eq (tgt := 1624) (n := 331) C 24 rfl rfl rfl (fun _ => ?_) (fun z => absurd hrr z)
  refine i_iinc (v := nI (6 * (k + 1))) (lv' := [(3, .int (nI (6 * (k + 1)))), (0, .ref b), (1, .ref (ad 0)), (2, .ref (am 0))]) (n := 1627) C 27 rfl rfl hl 3 rfl (nI_add (6 * k) 6) (by decide) rfl (fun ls hl => ?_)
  refine i_goto (tgt := 18) C 28 rfl rfl ?_
  refine W.widen (k := 87 + (k + 1)) (n := 28975 + 7 * (k + 1)) (by omega) (by omega) ?_
  exact ih _ _ _ _ _ _ _ _ _ _ ls (by omega) hR2 h (lv_sub hl [1, 2, 3, 0] rfl)
set_option maxHeartbeats 4000000 in
set_option maxRecDepth 100000 in
theorem law_3 {Rel : Nat → (Nat → Int32) → (Nat → Nat → Int32) → (Nat → Option Nat) → List Nat → (Nat → Nat) → (Nat → Nat → Int32) → (Nat → Int32) → (Nat → Nat → Int32) → Prop} {p : Program} {l : Launch} {e : Env} {s : State} {m : MethodId} {below : List Frame} {meth : Method} {c : Code} {D : va_G} {cy ad am : Nat → Nat} {b N : Nat} {xs : Nat → Int32} (C : CX D cy R_La code tb_La_3 4 p s m #[Value.ref b] c (fun q => s.heap.size ≤ q)) (hX : va_X b N xs s s.heap) (hbl : b < s.heap.size) (hN : N ≤ 3072)
    (ho3 : ∀ (k : Nat) (a1 : Int32) (I : Nat → Int32) (A : Nat → Nat → Int32) (T : Nat → Option Nat) (L : List Nat) (K : Nat → Nat) (F : Nat → Nat → Int32) (J : Nat → Int32) (B : Nat → Nat → Int32), k < 512 → Rel k I A T L K F J B → g_Pw_turn I a1 (fun r u => g_Mo_turn J B a1 (fun r2 v => r = r2 ∧ Rel (k + 1) u A T L K F J v)))
    (k : Nat) (I : Nat → Int32) (A : Nat → Nat → Int32) (T : Nat → Option Nat) (L : List Nat) (K : Nat → Nat) (F : Nat → Nat → Int32) (J : Nat → Int32) (B : Nat → Nat → Int32) (h6 : 6 * k + 6 ≤ N) (ih : ∀ (I : Nat → Int32) (A : Nat → Nat → Int32) (T : Nat → Option Nat) (L : List Nat) (K : Nat → Nat) (F : Nat → Nat → Int32) (J : Nat → Int32) (B : Nat → Nat → Int32) (H : Heap) (locs : List Loc) (ls : Array Slot), 6 * (k + 1) ≤ N → Rel (k + 1) I A T L K F J B → HXw D (fun q => s.heap.size ≤ q) s.heap H locs (wC cy ad I A T L K F ++ wM cy am J B) → lv_has ls 4 [(0, .ref b), (1, .ref (ad 0)), (2, .ref (am 0)), (3, .int (nI (6 * (k + 1))))] → W p l e room_1 s m #[Value.ref b] below meth c H locs (87 + (k + 1)) (28975 + 7 * (k + 1)) (lw_Z below #[Value.ref b] s) (F0 m 18 ls [])) (H : Heap) (locs : List Loc) (ls : Array Slot) (hR : Rel k I A T L K F J B) (h : HXw D (fun q => s.heap.size ≤ q) s.heap H locs (wC cy ad I A T L K F ++ wM cy am J B)) (hl : lv_has ls 4 [(0, .ref b), (1, .ref (ad 0)), (2, .ref (am 0)), (3, .int (nI (6 * k)))]) : W p l e room_1 s m #[Value.ref b] below meth c H locs (87 + k) (28975 + 7 * k) (lw_Z below #[Value.ref b] s) (F0 m 333 ls []) := by
  have hbA : ¬ (fun q => s.heap.size ≤ q) b := Nat.not_le.mpr hbl
  refine i_aload_n (n := 334) C 0 rfl rfl rfl hl 1 rfl ?_
  refine i_aload_n (n := 335) C 1 rfl rfl rfl hl 0 rfl ?_
  refine i_iload_n (n := 336) C 2 rfl rfl rfl hl 3 rfl ?_
  refine i_iconst (v := (1 : Int32)) (n := 337) C 3 rfl rfl rfl ?_
  refine i_iadd (n := 338) C 4 rfl rfl ?_
  refine i_sld (n := 339) C 5 rfl rfl h hX hbl hbA (law_in (j := 1) hN (by decide) h6) ?_
  have hw := ho3 k (xs ((nI (6 * k)) + (1 : Int32)).toNatClampNeg) I A T L K F J B (by omega) hR
  refine i_callVi (rest := []) (ci := 10) (qc := (R_Pw, T_Pw, 16)) (n := 342) C 6 rfl rfl hl h rfl wCM_c (kV_La_27 ⟨by decide, by decide⟩) (fr_iR (wM cy am J B) (m_Pw_turn hw)) rfl rfl (Nat.le_of_ble_eq_true rfl) ⟨by show 87 + k + 0 ≤ 600000; omega, by show 28975 + 7 * k + 0 ≤ 7302250; omega⟩ (fun r u H locs hw h => ?_)
  have h : HXw D (fun q => s.heap.size ≤ q) s.heap H locs (wC cy ad u A T L K F ++ wM cy am J B) := h
  refine i_aload_n (n := 343) C 7 rfl rfl rfl hl 2 rfl ?_
  refine i_aload_n (n := 344) C 8 rfl rfl rfl hl 0 rfl ?_
  refine i_iload_n (n := 345) C 9 rfl rfl rfl hl 3 rfl ?_
  refine i_iconst (v := (1 : Int32)) (n := 346) C 10 rfl rfl rfl ?_
  refine i_iadd (n := 347) C 11 rfl rfl ?_
  refine i_sld (n := 348) C 12 rfl rfl h hX hbl hbA (law_in (j := 1) hN (by decide) h6) ?_
  refine i_callVi (rest := [.int r]) (ci := 11) (qc := (R_Mo, T_Mo, 50)) (n := 351) C 13 rfl rfl hl h rfl wCM_m (kV_La_31 ⟨by decide, by decide⟩) (fr_iL (wC cy ad u A T L K F) (m_Mo_turn hw)) rfl rfl (Nat.le_of_ble_eq_true rfl) ⟨by show 87 + k + 0 + 0 ≤ 600000; omega, by show 28975 + 7 * k + 0 + 0 ≤ 7302250; omega⟩ (fun r2 v H locs hw h => ?_)
  have h : HXw D (fun q => s.heap.size ≤ q) s.heap H locs (wC cy ad u A T L K F ++ wM cy am J v) := h
  obtain ⟨hrr, hR2⟩ := hw
  refine i_icmp_eq (tgt := 1624) (n := 354) C 14 rfl rfl rfl (fun _ => ?_) (fun z => absurd hrr z)
  refine i_iinc (v := nI (6 * (k + 1))) (lv' := [(3, .int (nI (6 * (k + 1)))), (0, .ref b), (1, .ref (ad 0)), (2, .ref (am 0))]) (n := 1627) C 17 rfl rfl hl 3 rfl (nI_add (6 * k) 6) (by decide) rfl (fun ls hl => ?_)
  refine i_goto (tgt := 18) C 18 rfl rfl ?_
  refine W.widen (k := 87 + (k + 1)) (n := 28975 + 7 * (k + 1)) (by omega) (by omega) ?_
  exact ih _ _ _ _ _ _ _ _ _ _ ls (by omega) hR2 h (lv_sub hl [1, 2, 3, 0] rfl)
set_option maxHeartbeats 4000000 in
set_option maxRecDepth 100000 in
theorem law_4 {Rel : Nat → (Nat → Int32) → (Nat → Nat → Int32) → (Nat → Option Nat) → List Nat → (Nat → Nat) → (Nat → Nat → Int32) → (Nat → Int32) → (Nat → Nat → Int32) → Prop} {p : Program} {l : Launch} {e : Env} {s : State} {m : MethodId} {below : List Frame} {meth : Method} {c : Code} {D : va_G} {cy ad am : Nat → Nat} {b N : Nat} {xs : Nat → Int32} (C : CX D cy R_La code tb_La_4 4 p s m #[Value.ref b] c (fun q => s.heap.size ≤ q)) (hX : va_X b N xs s s.heap) (hbl : b < s.heap.size) (hN : N ≤ 3072)
    (ho4 : ∀ (k : Nat) (a1 a2 : Int32) (I : Nat → Int32) (A : Nat → Nat → Int32) (T : Nat → Option Nat) (L : List Nat) (K : Nat → Nat) (F : Nat → Nat → Int32) (J : Nat → Int32) (B : Nat → Nat → Int32), k < 512 → Rel k I A T L K F J B → g_Pw_ofMain I A a1 a2 (fun r => g_Mo_ofMain J B a1 a2 (fun r2 => r = r2 ∧ Rel (k + 1) I A T L K F J B)))
    (k : Nat) (I : Nat → Int32) (A : Nat → Nat → Int32) (T : Nat → Option Nat) (L : List Nat) (K : Nat → Nat) (F : Nat → Nat → Int32) (J : Nat → Int32) (B : Nat → Nat → Int32) (h6 : 6 * k + 6 ≤ N) (ih : ∀ (I : Nat → Int32) (A : Nat → Nat → Int32) (T : Nat → Option Nat) (L : List Nat) (K : Nat → Nat) (F : Nat → Nat → Int32) (J : Nat → Int32) (B : Nat → Nat → Int32) (H : Heap) (locs : List Loc) (ls : Array Slot), 6 * (k + 1) ≤ N → Rel (k + 1) I A T L K F J B → HXw D (fun q => s.heap.size ≤ q) s.heap H locs (wC cy ad I A T L K F ++ wM cy am J B) → lv_has ls 4 [(0, .ref b), (1, .ref (ad 0)), (2, .ref (am 0)), (3, .int (nI (6 * (k + 1))))] → W p l e room_1 s m #[Value.ref b] below meth c H locs (87 + (k + 1)) (28975 + 7 * (k + 1)) (lw_Z below #[Value.ref b] s) (F0 m 18 ls [])) (H : Heap) (locs : List Loc) (ls : Array Slot) (hR : Rel k I A T L K F J B) (h : HXw D (fun q => s.heap.size ≤ q) s.heap H locs (wC cy ad I A T L K F ++ wM cy am J B)) (hl : lv_has ls 4 [(0, .ref b), (1, .ref (ad 0)), (2, .ref (am 0)), (3, .int (nI (6 * k)))]) : W p l e room_1 s m #[Value.ref b] below meth c H locs (87 + k) (28975 + 7 * k) (lw_Z below #[Value.ref b] s) (F0 m 356 ls []) := by
  have hbA : ¬ (fun q => s.heap.size ≤ q) b := Nat.not_le.mpr hbl
  refine i_aload_n (n := 357) C 0 rfl rfl rfl hl 1 rfl ?_
  refine i_aload_n (n := 358) C 1 rfl rfl rfl hl 0 rfl ?_
  refine i_iload_n (n := 359) C 2 rfl rfl rfl hl 3 rfl ?_
  refine i_iconst (v := (1 : Int32)) (n := 360) C 3 rfl rfl rfl ?_
  refine i_iadd (n := 361) C 4 rfl rfl ?_
  refine i_sld (n := 362) C 5 rfl rfl h hX hbl hbA (law_in (j := 1) hN (by decide) h6) ?_
  refine i_aload_n (n := 363) C 6 rfl rfl rfl hl 0 rfl ?_
  refine i_iload_n (n := 364) C 7 rfl rfl rfl hl 3 rfl ?_
  refine i_iconst (v := (2 : Int32)) (n := 365) C 8 rfl rfl rfl ?_
  refine i_iadd (n := 366) C 9 rfl rfl ?_
  refine i_sld (n := 367) C 10 rfl rfl h hX hbl hbA (law_in (j := 2) hN (by decide) h6) ?_
  have hw := ho4 k (xs ((nI (6 * k)) + (1 : Int32)).toNatClampNeg) (xs ((nI (6 * k)) + (2 : Int32)).toNatClampNeg) I A T L K F J B (by omega) hR
  refine i_callVp (rest := []) (ci := 10) (qc := (R_Pw, T_Pw, 16)) (n := 370) C 11 rfl rfl hl h rfl wCM_c (kV_La_32 ⟨by decide, by decide⟩) (fr_pR (wM cy am J B) (m_Pw_ofMain hw)) rfl rfl (Nat.le_of_ble_eq_true rfl) ⟨by show 87 + k ≤ 600000; omega, by show 28975 + 7 * k ≤ 7302250; omega⟩ (fun r hw => ?_)
  refine i_aload_n (n := 371) C 12 rfl rfl rfl hl 2 rfl ?_
  refine i_aload_n (n := 372) C 13 rfl rfl rfl hl 0 rfl ?_
  refine i_iload_n (n := 373) C 14 rfl rfl rfl hl 3 rfl ?_
  refine i_iconst (v := (1 : Int32)) (n := 374) C 15 rfl rfl rfl ?_
  refine i_iadd (n := 375) C 16 rfl rfl ?_
  refine i_sld (n := 376) C 17 rfl rfl h hX hbl hbA (law_in (j := 1) hN (by decide) h6) ?_
  refine i_aload_n (n := 377) C 18 rfl rfl rfl hl 0 rfl ?_
  refine i_iload_n (n := 378) C 19 rfl rfl rfl hl 3 rfl ?_
  refine i_iconst (v := (2 : Int32)) (n := 379) C 20 rfl rfl rfl ?_
  refine i_iadd (n := 380) C 21 rfl rfl ?_
  refine i_sld (n := 381) C 22 rfl rfl h hX hbl hbA (law_in (j := 2) hN (by decide) h6) ?_
  refine i_callVp (rest := [.int r]) (ci := 11) (qc := (R_Mo, T_Mo, 50)) (n := 384) C 23 rfl rfl hl h rfl wCM_m (kV_La_35 ⟨by decide, by decide⟩) (fr_pL (wC cy ad I A T L K F) (m_Mo_ofMain hw)) rfl rfl (Nat.le_of_ble_eq_true rfl) ⟨by show 87 + k ≤ 600000; omega, by show 28975 + 7 * k ≤ 7302250; omega⟩ (fun r2 hw => ?_)
  obtain ⟨hrr, hR2⟩ := hw
  refine i_icmp_eq (tgt := 1624) (n := 387) C 24 rfl rfl rfl (fun _ => ?_) (fun z => absurd hrr z)
  refine i_iinc (v := nI (6 * (k + 1))) (lv' := [(3, .int (nI (6 * (k + 1)))), (0, .ref b), (1, .ref (ad 0)), (2, .ref (am 0))]) (n := 1627) C 27 rfl rfl hl 3 rfl (nI_add (6 * k) 6) (by decide) rfl (fun ls hl => ?_)
  refine i_goto (tgt := 18) C 28 rfl rfl ?_
  refine W.widen (k := 87 + (k + 1)) (n := 28975 + 7 * (k + 1)) (by omega) (by omega) ?_
  exact ih _ _ _ _ _ _ _ _ _ _ ls (by omega) hR2 h (lv_sub hl [1, 2, 3, 0] rfl)
set_option maxHeartbeats 4000000 in
set_option maxRecDepth 100000 in
theorem law_5 {Rel : Nat → (Nat → Int32) → (Nat → Nat → Int32) → (Nat → Option Nat) → List Nat → (Nat → Nat) → (Nat → Nat → Int32) → (Nat → Int32) → (Nat → Nat → Int32) → Prop} {p : Program} {l : Launch} {e : Env} {s : State} {m : MethodId} {below : List Frame} {meth : Method} {c : Code} {D : va_G} {cy ad am : Nat → Nat} {b N : Nat} {xs : Nat → Int32} (C : CX D cy R_La code tb_La_5 4 p s m #[Value.ref b] c (fun q => s.heap.size ≤ q)) (hX : va_X b N xs s s.heap) (hbl : b < s.heap.size) (hN : N ≤ 3072)
    (ho5 : ∀ (k : Nat) (a1 : Int32) (I : Nat → Int32) (A : Nat → Nat → Int32) (T : Nat → Option Nat) (L : List Nat) (K : Nat → Nat) (F : Nat → Nat → Int32) (J : Nat → Int32) (B : Nat → Nat → Int32), k < 512 → Rel k I A T L K F J B → g_Pw_wrong I A a1 (fun r => g_Mo_wrong J B a1 (fun r2 => r = r2 ∧ Rel (k + 1) I A T L K F J B)))
    (k : Nat) (I : Nat → Int32) (A : Nat → Nat → Int32) (T : Nat → Option Nat) (L : List Nat) (K : Nat → Nat) (F : Nat → Nat → Int32) (J : Nat → Int32) (B : Nat → Nat → Int32) (h6 : 6 * k + 6 ≤ N) (ih : ∀ (I : Nat → Int32) (A : Nat → Nat → Int32) (T : Nat → Option Nat) (L : List Nat) (K : Nat → Nat) (F : Nat → Nat → Int32) (J : Nat → Int32) (B : Nat → Nat → Int32) (H : Heap) (locs : List Loc) (ls : Array Slot), 6 * (k + 1) ≤ N → Rel (k + 1) I A T L K F J B → HXw D (fun q => s.heap.size ≤ q) s.heap H locs (wC cy ad I A T L K F ++ wM cy am J B) → lv_has ls 4 [(0, .ref b), (1, .ref (ad 0)), (2, .ref (am 0)), (3, .int (nI (6 * (k + 1))))] → W p l e room_1 s m #[Value.ref b] below meth c H locs (87 + (k + 1)) (28975 + 7 * (k + 1)) (lw_Z below #[Value.ref b] s) (F0 m 18 ls [])) (H : Heap) (locs : List Loc) (ls : Array Slot) (hR : Rel k I A T L K F J B) (h : HXw D (fun q => s.heap.size ≤ q) s.heap H locs (wC cy ad I A T L K F ++ wM cy am J B)) (hl : lv_has ls 4 [(0, .ref b), (1, .ref (ad 0)), (2, .ref (am 0)), (3, .int (nI (6 * k)))]) : W p l e room_1 s m #[Value.ref b] below meth c H locs (87 + k) (28975 + 7 * k) (lw_Z below #[Value.ref b] s) (F0 m 389 ls []) := by
  have hbA : ¬ (fun q => s.heap.size ≤ q) b := Nat.not_le.mpr hbl
  refine i_aload_n (n := 390) C 0 rfl rfl rfl hl 1 rfl ?_
  refine i_aload_n (n := 391) C 1 rfl rfl rfl hl 0 rfl ?_
  refine i_iload_n (n := 392) C 2 rfl rfl rfl hl 3 rfl ?_
  refine i_iconst (v := (1 : Int32)) (n := 393) C 3 rfl rfl rfl ?_
  refine i_iadd (n := 394) C 4 rfl rfl ?_
  refine i_sld (n := 395) C 5 rfl rfl h hX hbl hbA (law_in (j := 1) hN (by decide) h6) ?_
  have hw := ho5 k (xs ((nI (6 * k)) + (1 : Int32)).toNatClampNeg) I A T L K F J B (by omega) hR
  refine i_callVp (rest := []) (ci := 10) (qc := (R_Pw, T_Pw, 16)) (n := 398) C 6 rfl rfl hl h rfl wCM_c (kV_La_36 ⟨by decide, by decide⟩) (fr_pR (wM cy am J B) (m_Pw_wrong hw)) rfl rfl (Nat.le_of_ble_eq_true rfl) ⟨by show 87 + k ≤ 600000; omega, by show 28975 + 7 * k ≤ 7302250; omega⟩ (fun r hw => ?_)
  refine i_aload_n (n := 399) C 7 rfl rfl rfl hl 2 rfl ?_
  refine i_aload_n (n := 400) C 8 rfl rfl rfl hl 0 rfl ?_
  refine i_iload_n (n := 401) C 9 rfl rfl rfl hl 3 rfl ?_
  refine i_iconst (v := (1 : Int32)) (n := 402) C 10 rfl rfl rfl ?_
  refine i_iadd (n := 403) C 11 rfl rfl ?_
  refine i_sld (n := 404) C 12 rfl rfl h hX hbl hbA (law_in (j := 1) hN (by decide) h6) ?_
  refine i_callVp (rest := [.int r]) (ci := 11) (qc := (R_Mo, T_Mo, 50)) (n := 407) C 13 rfl rfl hl h rfl wCM_m (kV_La_39 ⟨by decide, by decide⟩) (fr_pL (wC cy ad I A T L K F) (m_Mo_wrong hw)) rfl rfl (Nat.le_of_ble_eq_true rfl) ⟨by show 87 + k ≤ 600000; omega, by show 28975 + 7 * k ≤ 7302250; omega⟩ (fun r2 hw => ?_)
  obtain ⟨hrr, hR2⟩ := hw
  refine i_icmp_eq (tgt := 1624) (n := 410) C 14 rfl rfl rfl (fun _ => ?_) (fun z => absurd hrr z)
  refine i_iinc (v := nI (6 * (k + 1))) (lv' := [(3, .int (nI (6 * (k + 1)))), (0, .ref b), (1, .ref (ad 0)), (2, .ref (am 0))]) (n := 1627) C 17 rfl rfl hl 3 rfl (nI_add (6 * k) 6) (by decide) rfl (fun ls hl => ?_)
  refine i_goto (tgt := 18) C 18 rfl rfl ?_
  refine W.widen (k := 87 + (k + 1)) (n := 28975 + 7 * (k + 1)) (by omega) (by omega) ?_
  exact ih _ _ _ _ _ _ _ _ _ _ ls (by omega) hR2 h (lv_sub hl [1, 2, 3, 0] rfl)
set_option maxHeartbeats 4000000 in
set_option maxRecDepth 100000 in
theorem law_6 {Rel : Nat → (Nat → Int32) → (Nat → Nat → Int32) → (Nat → Option Nat) → List Nat → (Nat → Nat) → (Nat → Nat → Int32) → (Nat → Int32) → (Nat → Nat → Int32) → Prop} {p : Program} {l : Launch} {e : Env} {s : State} {m : MethodId} {below : List Frame} {meth : Method} {c : Code} {D : va_G} {cy ad am : Nat → Nat} {b N : Nat} {xs : Nat → Int32} (C : CX D cy R_La code tb_La_6 4 p s m #[Value.ref b] c (fun q => s.heap.size ≤ q)) (hX : va_X b N xs s s.heap) (hbl : b < s.heap.size) (hN : N ≤ 3072)
    (ho6 : ∀ (k : Nat) (a1 : Int32) (I : Nat → Int32) (A : Nat → Nat → Int32) (T : Nat → Option Nat) (L : List Nat) (K : Nat → Nat) (F : Nat → Nat → Int32) (J : Nat → Int32) (B : Nat → Nat → Int32), k < 512 → Rel k I A T L K F J B → g_Pw_mend I A a1 (fun r u => g_Mo_mend J B a1 (fun r2 v => r = r2 ∧ Rel (k + 1) I u T L K F J v)))
    (k : Nat) (I : Nat → Int32) (A : Nat → Nat → Int32) (T : Nat → Option Nat) (L : List Nat) (K : Nat → Nat) (F : Nat → Nat → Int32) (J : Nat → Int32) (B : Nat → Nat → Int32) (h6 : 6 * k + 6 ≤ N) (ih : ∀ (I : Nat → Int32) (A : Nat → Nat → Int32) (T : Nat → Option Nat) (L : List Nat) (K : Nat → Nat) (F : Nat → Nat → Int32) (J : Nat → Int32) (B : Nat → Nat → Int32) (H : Heap) (locs : List Loc) (ls : Array Slot), 6 * (k + 1) ≤ N → Rel (k + 1) I A T L K F J B → HXw D (fun q => s.heap.size ≤ q) s.heap H locs (wC cy ad I A T L K F ++ wM cy am J B) → lv_has ls 4 [(0, .ref b), (1, .ref (ad 0)), (2, .ref (am 0)), (3, .int (nI (6 * (k + 1))))] → W p l e room_1 s m #[Value.ref b] below meth c H locs (87 + (k + 1)) (28975 + 7 * (k + 1)) (lw_Z below #[Value.ref b] s) (F0 m 18 ls [])) (H : Heap) (locs : List Loc) (ls : Array Slot) (hR : Rel k I A T L K F J B) (h : HXw D (fun q => s.heap.size ≤ q) s.heap H locs (wC cy ad I A T L K F ++ wM cy am J B)) (hl : lv_has ls 4 [(0, .ref b), (1, .ref (ad 0)), (2, .ref (am 0)), (3, .int (nI (6 * k)))]) : W p l e room_1 s m #[Value.ref b] below meth c H locs (87 + k) (28975 + 7 * k) (lw_Z below #[Value.ref b] s) (F0 m 412 ls []) := by
  have hbA : ¬ (fun q => s.heap.size ≤ q) b := Nat.not_le.mpr hbl
  refine i_aload_n (n := 413) C 0 rfl rfl rfl hl 1 rfl ?_
  refine i_aload_n (n := 414) C 1 rfl rfl rfl hl 0 rfl ?_
  refine i_iload_n (n := 415) C 2 rfl rfl rfl hl 3 rfl ?_
  refine i_iconst (v := (1 : Int32)) (n := 416) C 3 rfl rfl rfl ?_
  refine i_iadd (n := 417) C 4 rfl rfl ?_
  refine i_sld (n := 418) C 5 rfl rfl h hX hbl hbA (law_in (j := 1) hN (by decide) h6) ?_
  have hw := ho6 k (xs ((nI (6 * k)) + (1 : Int32)).toNatClampNeg) I A T L K F J B (by omega) hR
  refine i_callVi (rest := []) (ci := 10) (qc := (R_Pw, T_Pw, 16)) (n := 421) C 6 rfl rfl hl h rfl wCM_c (kV_La_40 ⟨by decide, by decide⟩) (fr_iR (wM cy am J B) (m_Pw_mend hw)) rfl rfl (Nat.le_of_ble_eq_true rfl) ⟨by show 87 + k + 0 ≤ 600000; omega, by show 28975 + 7 * k + 0 ≤ 7302250; omega⟩ (fun r u H locs hw h => ?_)
  have h : HXw D (fun q => s.heap.size ≤ q) s.heap H locs (wC cy ad I u T L K F ++ wM cy am J B) := h
  refine i_aload_n (n := 422) C 7 rfl rfl rfl hl 2 rfl ?_
  refine i_aload_n (n := 423) C 8 rfl rfl rfl hl 0 rfl ?_
  refine i_iload_n (n := 424) C 9 rfl rfl rfl hl 3 rfl ?_
  refine i_iconst (v := (1 : Int32)) (n := 425) C 10 rfl rfl rfl ?_
  refine i_iadd (n := 426) C 11 rfl rfl ?_
  refine i_sld (n := 427) C 12 rfl rfl h hX hbl hbA (law_in (j := 1) hN (by decide) h6) ?_
  refine i_callVi (rest := [.int r]) (ci := 11) (qc := (R_Mo, T_Mo, 50)) (n := 430) C 13 rfl rfl hl h rfl wCM_m (kV_La_43 ⟨by decide, by decide⟩) (fr_iL (wC cy ad I u T L K F) (m_Mo_mend hw)) rfl rfl (Nat.le_of_ble_eq_true rfl) ⟨by show 87 + k + 0 + 0 ≤ 600000; omega, by show 28975 + 7 * k + 0 + 0 ≤ 7302250; omega⟩ (fun r2 v H locs hw h => ?_)
  have h : HXw D (fun q => s.heap.size ≤ q) s.heap H locs (wC cy ad I u T L K F ++ wM cy am J v) := h
  obtain ⟨hrr, hR2⟩ := hw
  refine i_icmp_eq (tgt := 1624) (n := 433) C 14 rfl rfl rfl (fun _ => ?_) (fun z => absurd hrr z)
  refine i_iinc (v := nI (6 * (k + 1))) (lv' := [(3, .int (nI (6 * (k + 1)))), (0, .ref b), (1, .ref (ad 0)), (2, .ref (am 0))]) (n := 1627) C 17 rfl rfl hl 3 rfl (nI_add (6 * k) 6) (by decide) rfl (fun ls hl => ?_)
  refine i_goto (tgt := 18) C 18 rfl rfl ?_
  refine W.widen (k := 87 + (k + 1)) (n := 28975 + 7 * (k + 1)) (by omega) (by omega) ?_
  exact ih _ _ _ _ _ _ _ _ _ _ ls (by omega) hR2 h (lv_sub hl [1, 2, 3, 0] rfl)
set_option maxHeartbeats 4000000 in
set_option maxRecDepth 100000 in
theorem law_7 {Rel : Nat → (Nat → Int32) → (Nat → Nat → Int32) → (Nat → Option Nat) → List Nat → (Nat → Nat) → (Nat → Nat → Int32) → (Nat → Int32) → (Nat → Nat → Int32) → Prop} {p : Program} {l : Launch} {e : Env} {s : State} {m : MethodId} {below : List Frame} {meth : Method} {c : Code} {D : va_G} {cy ad am : Nat → Nat} {b N : Nat} {xs : Nat → Int32} (C : CX D cy R_La code tb_La_7 4 p s m #[Value.ref b] c (fun q => s.heap.size ≤ q)) (hX : va_X b N xs s s.heap) (hbl : b < s.heap.size) (hN : N ≤ 3072)
    (ho7 : ∀ (k : Nat) (a1 a2 a3 a4 : Int32) (I : Nat → Int32) (A : Nat → Nat → Int32) (T : Nat → Option Nat) (L : List Nat) (K : Nat → Nat) (F : Nat → Nat → Int32) (J : Nat → Int32) (B : Nat → Nat → Int32), k < 512 → Rel k I A T L K F J B → g_Pw_draw I T L K F a1 a2 a3 a4 (fun r u => g_Mo_draw J B a1 a2 a3 a4 (fun r2 v => r = r2 ∧ Rel (k + 1) I A u.1 u.2.1 u.2.2.1 u.2.2.2 J v)))
    (k : Nat) (I : Nat → Int32) (A : Nat → Nat → Int32) (T : Nat → Option Nat) (L : List Nat) (K : Nat → Nat) (F : Nat → Nat → Int32) (J : Nat → Int32) (B : Nat → Nat → Int32) (h6 : 6 * k + 6 ≤ N) (ih : ∀ (I : Nat → Int32) (A : Nat → Nat → Int32) (T : Nat → Option Nat) (L : List Nat) (K : Nat → Nat) (F : Nat → Nat → Int32) (J : Nat → Int32) (B : Nat → Nat → Int32) (H : Heap) (locs : List Loc) (ls : Array Slot), 6 * (k + 1) ≤ N → Rel (k + 1) I A T L K F J B → HXw D (fun q => s.heap.size ≤ q) s.heap H locs (wC cy ad I A T L K F ++ wM cy am J B) → lv_has ls 4 [(0, .ref b), (1, .ref (ad 0)), (2, .ref (am 0)), (3, .int (nI (6 * (k + 1))))] → W p l e room_1 s m #[Value.ref b] below meth c H locs (87 + (k + 1)) (28975 + 7 * (k + 1)) (lw_Z below #[Value.ref b] s) (F0 m 18 ls [])) (H : Heap) (locs : List Loc) (ls : Array Slot) (hR : Rel k I A T L K F J B) (h : HXw D (fun q => s.heap.size ≤ q) s.heap H locs (wC cy ad I A T L K F ++ wM cy am J B)) (hl : lv_has ls 4 [(0, .ref b), (1, .ref (ad 0)), (2, .ref (am 0)), (3, .int (nI (6 * k)))]) : W p l e room_1 s m #[Value.ref b] below meth c H locs (87 + k) (28975 + 7 * k) (lw_Z below #[Value.ref b] s) (F0 m 435 ls []) := by
  have hbA : ¬ (fun q => s.heap.size ≤ q) b := Nat.not_le.mpr hbl
  refine i_aload_n (n := 436) C 0 rfl rfl rfl hl 1 rfl ?_
  refine i_aload_n (n := 437) C 1 rfl rfl rfl hl 0 rfl ?_
  refine i_iload_n (n := 438) C 2 rfl rfl rfl hl 3 rfl ?_
  refine i_iconst (v := (1 : Int32)) (n := 439) C 3 rfl rfl rfl ?_
  refine i_iadd (n := 440) C 4 rfl rfl ?_
  refine i_sld (n := 441) C 5 rfl rfl h hX hbl hbA (law_in (j := 1) hN (by decide) h6) ?_
  refine i_aload_n (n := 442) C 6 rfl rfl rfl hl 0 rfl ?_
  refine i_iload_n (n := 443) C 7 rfl rfl rfl hl 3 rfl ?_
  refine i_iconst (v := (2 : Int32)) (n := 444) C 8 rfl rfl rfl ?_
  refine i_iadd (n := 445) C 9 rfl rfl ?_
  refine i_sld (n := 446) C 10 rfl rfl h hX hbl hbA (law_in (j := 2) hN (by decide) h6) ?_
  refine i_aload_n (n := 447) C 11 rfl rfl rfl hl 0 rfl ?_
  refine i_iload_n (n := 448) C 12 rfl rfl rfl hl 3 rfl ?_
  refine i_iconst (v := (3 : Int32)) (n := 449) C 13 rfl rfl rfl ?_
  refine i_iadd (n := 450) C 14 rfl rfl ?_
  refine i_sld (n := 451) C 15 rfl rfl h hX hbl hbA (law_in (j := 3) hN (by decide) h6) ?_
  refine i_aload_n (n := 452) C 16 rfl rfl rfl hl 0 rfl ?_
  refine i_iload_n (n := 453) C 17 rfl rfl rfl hl 3 rfl ?_
  refine i_iconst (v := (4 : Int32)) (n := 454) C 18 rfl rfl rfl ?_
  refine i_iadd (n := 455) C 19 rfl rfl ?_
  refine i_sld (n := 456) C 20 rfl rfl h hX hbl hbA (law_in (j := 4) hN (by decide) h6) ?_
  have hw := ho7 k (xs ((nI (6 * k)) + (1 : Int32)).toNatClampNeg) (xs ((nI (6 * k)) + (2 : Int32)).toNatClampNeg) (xs ((nI (6 * k)) + (3 : Int32)).toNatClampNeg) (xs ((nI (6 * k)) + (4 : Int32)).toNatClampNeg) I A T L K F J B (by omega) hR
  refine i_callVi (rest := []) (ci := 10) (qc := (R_Pw, T_Pw, 16)) (n := 459) C 21 rfl rfl hl h rfl wCM_c (kV_La_44 ⟨by decide, by decide⟩) (fr_iR (wM cy am J B) (m_Pw_draw hw)) rfl rfl (Nat.le_of_ble_eq_true rfl) ⟨by show 87 + k + 1 ≤ 600000; omega, by show 28975 + 7 * k + 3 ≤ 7302250; omega⟩ (fun r u H locs hw h => ?_)
  have h : HXw D (fun q => s.heap.size ≤ q) s.heap H locs (wC cy ad I A u.1 u.2.1 u.2.2.1 u.2.2.2 ++ wM cy am J B) := h
  refine i_aload_n (n := 460) C 22 rfl rfl rfl hl 2 rfl ?_
  refine i_aload_n (n := 461) C 23 rfl rfl rfl hl 0 rfl ?_
  refine i_iload_n (n := 462) C 24 rfl rfl rfl hl 3 rfl ?_
  refine i_iconst (v := (1 : Int32)) (n := 463) C 25 rfl rfl rfl ?_
  refine i_iadd (n := 464) C 26 rfl rfl ?_
  refine i_sld (n := 465) C 27 rfl rfl h hX hbl hbA (law_in (j := 1) hN (by decide) h6) ?_
  refine i_aload_n (n := 466) C 28 rfl rfl rfl hl 0 rfl ?_
  refine i_iload_n (n := 467) C 29 rfl rfl rfl hl 3 rfl ?_
  refine i_iconst (v := (2 : Int32)) (n := 468) C 30 rfl rfl rfl ?_
  refine i_iadd (n := 469) C 31 rfl rfl ?_
  refine i_sld (n := 470) C 32 rfl rfl h hX hbl hbA (law_in (j := 2) hN (by decide) h6) ?_
  refine i_aload_n (n := 471) C 33 rfl rfl rfl hl 0 rfl ?_
  refine i_iload_n (n := 472) C 34 rfl rfl rfl hl 3 rfl ?_
  refine i_iconst (v := (3 : Int32)) (n := 473) C 35 rfl rfl rfl ?_
  refine i_iadd (n := 474) C 36 rfl rfl ?_
  refine i_sld (n := 475) C 37 rfl rfl h hX hbl hbA (law_in (j := 3) hN (by decide) h6) ?_
  refine i_aload_n (n := 476) C 38 rfl rfl rfl hl 0 rfl ?_
  refine i_iload_n (n := 477) C 39 rfl rfl rfl hl 3 rfl ?_
  refine i_iconst (v := (4 : Int32)) (n := 478) C 40 rfl rfl rfl ?_
  refine i_iadd (n := 479) C 41 rfl rfl ?_
  refine i_sld (n := 480) C 42 rfl rfl h hX hbl hbA (law_in (j := 4) hN (by decide) h6) ?_
  refine i_callVi (rest := [.int r]) (ci := 11) (qc := (R_Mo, T_Mo, 50)) (n := 483) C 43 rfl rfl hl h rfl wCM_m (kV_La_48 ⟨by decide, by decide⟩) (fr_iL (wC cy ad I A u.1 u.2.1 u.2.2.1 u.2.2.2) (m_Mo_draw hw)) rfl rfl (Nat.le_of_ble_eq_true rfl) ⟨by show 87 + k + 1 + 0 ≤ 600000; omega, by show 28975 + 7 * k + 3 + 0 ≤ 7302250; omega⟩ (fun r2 v H locs hw h => ?_)
  have h : HXw D (fun q => s.heap.size ≤ q) s.heap H locs (wC cy ad I A u.1 u.2.1 u.2.2.1 u.2.2.2 ++ wM cy am J v) := h
  obtain ⟨hrr, hR2⟩ := hw
  refine i_icmp_eq (tgt := 1624) (n := 486) C 44 rfl rfl rfl (fun _ => ?_) (fun z => absurd hrr z)
  refine i_iinc (v := nI (6 * (k + 1))) (lv' := [(3, .int (nI (6 * (k + 1)))), (0, .ref b), (1, .ref (ad 0)), (2, .ref (am 0))]) (n := 1627) C 47 rfl rfl hl 3 rfl (nI_add (6 * k) 6) (by decide) rfl (fun ls hl => ?_)
  refine i_goto (tgt := 18) C 48 rfl rfl ?_
  refine W.widen (k := 87 + (k + 1)) (n := 28975 + 7 * (k + 1)) (by omega) (by omega) ?_
  exact ih _ _ _ _ _ _ _ _ _ _ ls (by omega) hR2 h (lv_sub hl [1, 2, 3, 0] rfl)
set_option maxHeartbeats 4000000 in
set_option maxRecDepth 100000 in
theorem law_8 {Rel : Nat → (Nat → Int32) → (Nat → Nat → Int32) → (Nat → Option Nat) → List Nat → (Nat → Nat) → (Nat → Nat → Int32) → (Nat → Int32) → (Nat → Nat → Int32) → Prop} {p : Program} {l : Launch} {e : Env} {s : State} {m : MethodId} {below : List Frame} {meth : Method} {c : Code} {D : va_G} {cy ad am : Nat → Nat} {b N : Nat} {xs : Nat → Int32} (C : CX D cy R_La code tb_La_8 4 p s m #[Value.ref b] c (fun q => s.heap.size ≤ q)) (hX : va_X b N xs s s.heap) (hbl : b < s.heap.size) (hN : N ≤ 3072)
    (ho8 : ∀ (k : Nat) (a1 a2 a3 a4 a5 : Int32) (I : Nat → Int32) (A : Nat → Nat → Int32) (T : Nat → Option Nat) (L : List Nat) (K : Nat → Nat) (F : Nat → Nat → Int32) (J : Nat → Int32) (B : Nat → Nat → Int32), k < 512 → Rel k I A T L K F J B → g_Pw_lift I T L K F a1 a2 a3 a4 a5 (fun r u => g_Mo_lift J B a1 a2 a3 a4 a5 (fun r2 v => r = r2 ∧ Rel (k + 1) I A u.1 u.2.1 u.2.2.1 u.2.2.2 J v)))
    (k : Nat) (I : Nat → Int32) (A : Nat → Nat → Int32) (T : Nat → Option Nat) (L : List Nat) (K : Nat → Nat) (F : Nat → Nat → Int32) (J : Nat → Int32) (B : Nat → Nat → Int32) (h6 : 6 * k + 6 ≤ N) (ih : ∀ (I : Nat → Int32) (A : Nat → Nat → Int32) (T : Nat → Option Nat) (L : List Nat) (K : Nat → Nat) (F : Nat → Nat → Int32) (J : Nat → Int32) (B : Nat → Nat → Int32) (H : Heap) (locs : List Loc) (ls : Array Slot), 6 * (k + 1) ≤ N → Rel (k + 1) I A T L K F J B → HXw D (fun q => s.heap.size ≤ q) s.heap H locs (wC cy ad I A T L K F ++ wM cy am J B) → lv_has ls 4 [(0, .ref b), (1, .ref (ad 0)), (2, .ref (am 0)), (3, .int (nI (6 * (k + 1))))] → W p l e room_1 s m #[Value.ref b] below meth c H locs (87 + (k + 1)) (28975 + 7 * (k + 1)) (lw_Z below #[Value.ref b] s) (F0 m 18 ls [])) (H : Heap) (locs : List Loc) (ls : Array Slot) (hR : Rel k I A T L K F J B) (h : HXw D (fun q => s.heap.size ≤ q) s.heap H locs (wC cy ad I A T L K F ++ wM cy am J B)) (hl : lv_has ls 4 [(0, .ref b), (1, .ref (ad 0)), (2, .ref (am 0)), (3, .int (nI (6 * k)))]) : W p l e room_1 s m #[Value.ref b] below meth c H locs (87 + k) (28975 + 7 * k) (lw_Z below #[Value.ref b] s) (F0 m 488 ls []) := by
  have hbA : ¬ (fun q => s.heap.size ≤ q) b := Nat.not_le.mpr hbl
  refine i_aload_n (n := 489) C 0 rfl rfl rfl hl 1 rfl ?_
  refine i_aload_n (n := 490) C 1 rfl rfl rfl hl 0 rfl ?_
  refine i_iload_n (n := 491) C 2 rfl rfl rfl hl 3 rfl ?_
  refine i_iconst (v := (1 : Int32)) (n := 492) C 3 rfl rfl rfl ?_
  refine i_iadd (n := 493) C 4 rfl rfl ?_
  refine i_sld (n := 494) C 5 rfl rfl h hX hbl hbA (law_in (j := 1) hN (by decide) h6) ?_
  refine i_aload_n (n := 495) C 6 rfl rfl rfl hl 0 rfl ?_
  refine i_iload_n (n := 496) C 7 rfl rfl rfl hl 3 rfl ?_
  refine i_iconst (v := (2 : Int32)) (n := 497) C 8 rfl rfl rfl ?_
  refine i_iadd (n := 498) C 9 rfl rfl ?_
  refine i_sld (n := 499) C 10 rfl rfl h hX hbl hbA (law_in (j := 2) hN (by decide) h6) ?_
  refine i_aload_n (n := 500) C 11 rfl rfl rfl hl 0 rfl ?_
  refine i_iload_n (n := 501) C 12 rfl rfl rfl hl 3 rfl ?_
  refine i_iconst (v := (3 : Int32)) (n := 502) C 13 rfl rfl rfl ?_
  refine i_iadd (n := 503) C 14 rfl rfl ?_
  refine i_sld (n := 504) C 15 rfl rfl h hX hbl hbA (law_in (j := 3) hN (by decide) h6) ?_
  refine i_aload_n (n := 505) C 16 rfl rfl rfl hl 0 rfl ?_
  refine i_iload_n (n := 506) C 17 rfl rfl rfl hl 3 rfl ?_
  refine i_iconst (v := (4 : Int32)) (n := 507) C 18 rfl rfl rfl ?_
  refine i_iadd (n := 508) C 19 rfl rfl ?_
  refine i_sld (n := 509) C 20 rfl rfl h hX hbl hbA (law_in (j := 4) hN (by decide) h6) ?_
  refine i_aload_n (n := 510) C 21 rfl rfl rfl hl 0 rfl ?_
  refine i_iload_n (n := 511) C 22 rfl rfl rfl hl 3 rfl ?_
  refine i_iconst (v := (5 : Int32)) (n := 512) C 23 rfl rfl rfl ?_
  refine i_iadd (n := 513) C 24 rfl rfl ?_
  refine i_sld (n := 514) C 25 rfl rfl h hX hbl hbA (law_in (j := 5) hN (by decide) h6) ?_
  have hw := ho8 k (xs ((nI (6 * k)) + (1 : Int32)).toNatClampNeg) (xs ((nI (6 * k)) + (2 : Int32)).toNatClampNeg) (xs ((nI (6 * k)) + (3 : Int32)).toNatClampNeg) (xs ((nI (6 * k)) + (4 : Int32)).toNatClampNeg) (xs ((nI (6 * k)) + (5 : Int32)).toNatClampNeg) I A T L K F J B (by omega) hR
  refine i_callVi (rest := []) (ci := 10) (qc := (R_Pw, T_Pw, 16)) (n := 517) C 26 rfl rfl hl h rfl wCM_c (kV_La_49 ⟨by decide, by decide⟩) (fr_iR (wM cy am J B) (m_Pw_lift hw)) rfl rfl (Nat.le_of_ble_eq_true rfl) ⟨by show 87 + k + 1 ≤ 600000; omega, by show 28975 + 7 * k + 4 ≤ 7302250; omega⟩ (fun r u H locs hw h => ?_)
  have h : HXw D (fun q => s.heap.size ≤ q) s.heap H locs (wC cy ad I A u.1 u.2.1 u.2.2.1 u.2.2.2 ++ wM cy am J B) := h
  refine i_aload_n (n := 518) C 27 rfl rfl rfl hl 2 rfl ?_
  refine i_aload_n (n := 519) C 28 rfl rfl rfl hl 0 rfl ?_
  refine i_iload_n (n := 520) C 29 rfl rfl rfl hl 3 rfl ?_
  refine i_iconst (v := (1 : Int32)) (n := 521) C 30 rfl rfl rfl ?_
  refine i_iadd (n := 522) C 31 rfl rfl ?_
  refine i_sld (n := 523) C 32 rfl rfl h hX hbl hbA (law_in (j := 1) hN (by decide) h6) ?_
  refine i_aload_n (n := 524) C 33 rfl rfl rfl hl 0 rfl ?_
  refine i_iload_n (n := 525) C 34 rfl rfl rfl hl 3 rfl ?_
  refine i_iconst (v := (2 : Int32)) (n := 526) C 35 rfl rfl rfl ?_
  refine i_iadd (n := 527) C 36 rfl rfl ?_
  refine i_sld (n := 528) C 37 rfl rfl h hX hbl hbA (law_in (j := 2) hN (by decide) h6) ?_
  refine i_aload_n (n := 529) C 38 rfl rfl rfl hl 0 rfl ?_
  refine i_iload_n (n := 530) C 39 rfl rfl rfl hl 3 rfl ?_
  refine i_iconst (v := (3 : Int32)) (n := 531) C 40 rfl rfl rfl ?_
  refine i_iadd (n := 532) C 41 rfl rfl ?_
  refine i_sld (n := 533) C 42 rfl rfl h hX hbl hbA (law_in (j := 3) hN (by decide) h6) ?_
  refine i_aload_n (n := 534) C 43 rfl rfl rfl hl 0 rfl ?_
  refine i_iload_n (n := 535) C 44 rfl rfl rfl hl 3 rfl ?_
  refine i_iconst (v := (4 : Int32)) (n := 536) C 45 rfl rfl rfl ?_
  refine i_iadd (n := 537) C 46 rfl rfl ?_
  refine i_sld (n := 538) C 47 rfl rfl h hX hbl hbA (law_in (j := 4) hN (by decide) h6) ?_
  refine i_aload_n (n := 539) C 48 rfl rfl rfl hl 0 rfl ?_
  refine i_iload_n (n := 540) C 49 rfl rfl rfl hl 3 rfl ?_
  refine i_iconst (v := (5 : Int32)) (n := 541) C 50 rfl rfl rfl ?_
  refine i_iadd (n := 542) C 51 rfl rfl ?_
  refine i_sld (n := 543) C 52 rfl rfl h hX hbl hbA (law_in (j := 5) hN (by decide) h6) ?_
  refine i_callVi (rest := [.int r]) (ci := 11) (qc := (R_Mo, T_Mo, 50)) (n := 546) C 53 rfl rfl hl h rfl wCM_m (kV_La_53 ⟨by decide, by decide⟩) (fr_iL (wC cy ad I A u.1 u.2.1 u.2.2.1 u.2.2.2) (m_Mo_lift hw)) rfl rfl (Nat.le_of_ble_eq_true rfl) ⟨by show 87 + k + 1 + 0 ≤ 600000; omega, by show 28975 + 7 * k + 4 + 0 ≤ 7302250; omega⟩ (fun r2 v H locs hw h => ?_)
  have h : HXw D (fun q => s.heap.size ≤ q) s.heap H locs (wC cy ad I A u.1 u.2.1 u.2.2.1 u.2.2.2 ++ wM cy am J v) := h
  obtain ⟨hrr, hR2⟩ := hw
  refine i_icmp_eq (tgt := 1624) (n := 549) C 54 rfl rfl rfl (fun _ => ?_) (fun z => absurd hrr z)
  refine i_iinc (v := nI (6 * (k + 1))) (lv' := [(3, .int (nI (6 * (k + 1)))), (0, .ref b), (1, .ref (ad 0)), (2, .ref (am 0))]) (n := 1627) C 57 rfl rfl hl 3 rfl (nI_add (6 * k) 6) (by decide) rfl (fun ls hl => ?_)
  refine i_goto (tgt := 18) C 58 rfl rfl ?_
  refine W.widen (k := 87 + (k + 1)) (n := 28975 + 7 * (k + 1)) (by omega) (by omega) ?_
  exact ih _ _ _ _ _ _ _ _ _ _ ls (by omega) hR2 h (lv_sub hl [1, 2, 3, 0] rfl)
set_option maxHeartbeats 4000000 in
set_option maxRecDepth 100000 in
theorem law_9 {Rel : Nat → (Nat → Int32) → (Nat → Nat → Int32) → (Nat → Option Nat) → List Nat → (Nat → Nat) → (Nat → Nat → Int32) → (Nat → Int32) → (Nat → Nat → Int32) → Prop} {p : Program} {l : Launch} {e : Env} {s : State} {m : MethodId} {below : List Frame} {meth : Method} {c : Code} {D : va_G} {cy ad am : Nat → Nat} {b N : Nat} {xs : Nat → Int32} (C : CX D cy R_La code tb_La_9 4 p s m #[Value.ref b] c (fun q => s.heap.size ≤ q)) (hX : va_X b N xs s s.heap) (hbl : b < s.heap.size) (hN : N ≤ 3072)
    (ho9 : ∀ (k : Nat) (a1 a2 a3 a4 a5 : Int32) (I : Nat → Int32) (A : Nat → Nat → Int32) (T : Nat → Option Nat) (L : List Nat) (K : Nat → Nat) (F : Nat → Nat → Int32) (J : Nat → Int32) (B : Nat → Nat → Int32), k < 512 → Rel k I A T L K F J B → g_Pw_bridge I T L K F a1 a2 a3 a4 a5 (fun r u => g_Mo_bridge J B a1 a2 a3 a4 a5 (fun r2 v => r = r2 ∧ Rel (k + 1) I A u.1 u.2.1 u.2.2.1 u.2.2.2 J v)))
    (k : Nat) (I : Nat → Int32) (A : Nat → Nat → Int32) (T : Nat → Option Nat) (L : List Nat) (K : Nat → Nat) (F : Nat → Nat → Int32) (J : Nat → Int32) (B : Nat → Nat → Int32) (h6 : 6 * k + 6 ≤ N) (ih : ∀ (I : Nat → Int32) (A : Nat → Nat → Int32) (T : Nat → Option Nat) (L : List Nat) (K : Nat → Nat) (F : Nat → Nat → Int32) (J : Nat → Int32) (B : Nat → Nat → Int32) (H : Heap) (locs : List Loc) (ls : Array Slot), 6 * (k + 1) ≤ N → Rel (k + 1) I A T L K F J B → HXw D (fun q => s.heap.size ≤ q) s.heap H locs (wC cy ad I A T L K F ++ wM cy am J B) → lv_has ls 4 [(0, .ref b), (1, .ref (ad 0)), (2, .ref (am 0)), (3, .int (nI (6 * (k + 1))))] → W p l e room_1 s m #[Value.ref b] below meth c H locs (87 + (k + 1)) (28975 + 7 * (k + 1)) (lw_Z below #[Value.ref b] s) (F0 m 18 ls [])) (H : Heap) (locs : List Loc) (ls : Array Slot) (hR : Rel k I A T L K F J B) (h : HXw D (fun q => s.heap.size ≤ q) s.heap H locs (wC cy ad I A T L K F ++ wM cy am J B)) (hl : lv_has ls 4 [(0, .ref b), (1, .ref (ad 0)), (2, .ref (am 0)), (3, .int (nI (6 * k)))]) : W p l e room_1 s m #[Value.ref b] below meth c H locs (87 + k) (28975 + 7 * k) (lw_Z below #[Value.ref b] s) (F0 m 551 ls []) := by
  have hbA : ¬ (fun q => s.heap.size ≤ q) b := Nat.not_le.mpr hbl
  refine i_aload_n (n := 552) C 0 rfl rfl rfl hl 1 rfl ?_
  refine i_aload_n (n := 553) C 1 rfl rfl rfl hl 0 rfl ?_
  refine i_iload_n (n := 554) C 2 rfl rfl rfl hl 3 rfl ?_
  refine i_iconst (v := (1 : Int32)) (n := 555) C 3 rfl rfl rfl ?_
  refine i_iadd (n := 556) C 4 rfl rfl ?_
  refine i_sld (n := 557) C 5 rfl rfl h hX hbl hbA (law_in (j := 1) hN (by decide) h6) ?_
  refine i_aload_n (n := 558) C 6 rfl rfl rfl hl 0 rfl ?_
  refine i_iload_n (n := 559) C 7 rfl rfl rfl hl 3 rfl ?_
  refine i_iconst (v := (2 : Int32)) (n := 560) C 8 rfl rfl rfl ?_
  refine i_iadd (n := 561) C 9 rfl rfl ?_
  refine i_sld (n := 562) C 10 rfl rfl h hX hbl hbA (law_in (j := 2) hN (by decide) h6) ?_
  refine i_aload_n (n := 563) C 11 rfl rfl rfl hl 0 rfl ?_
  refine i_iload_n (n := 564) C 12 rfl rfl rfl hl 3 rfl ?_
  refine i_iconst (v := (3 : Int32)) (n := 565) C 13 rfl rfl rfl ?_
  refine i_iadd (n := 566) C 14 rfl rfl ?_
  refine i_sld (n := 567) C 15 rfl rfl h hX hbl hbA (law_in (j := 3) hN (by decide) h6) ?_
  refine i_aload_n (n := 568) C 16 rfl rfl rfl hl 0 rfl ?_
  refine i_iload_n (n := 569) C 17 rfl rfl rfl hl 3 rfl ?_
  refine i_iconst (v := (4 : Int32)) (n := 570) C 18 rfl rfl rfl ?_
  refine i_iadd (n := 571) C 19 rfl rfl ?_
  refine i_sld (n := 572) C 20 rfl rfl h hX hbl hbA (law_in (j := 4) hN (by decide) h6) ?_
  refine i_aload_n (n := 573) C 21 rfl rfl rfl hl 0 rfl ?_
  refine i_iload_n (n := 574) C 22 rfl rfl rfl hl 3 rfl ?_
  refine i_iconst (v := (5 : Int32)) (n := 575) C 23 rfl rfl rfl ?_
  refine i_iadd (n := 576) C 24 rfl rfl ?_
  refine i_sld (n := 577) C 25 rfl rfl h hX hbl hbA (law_in (j := 5) hN (by decide) h6) ?_
  have hw := ho9 k (xs ((nI (6 * k)) + (1 : Int32)).toNatClampNeg) (xs ((nI (6 * k)) + (2 : Int32)).toNatClampNeg) (xs ((nI (6 * k)) + (3 : Int32)).toNatClampNeg) (xs ((nI (6 * k)) + (4 : Int32)).toNatClampNeg) (xs ((nI (6 * k)) + (5 : Int32)).toNatClampNeg) I A T L K F J B (by omega) hR
  refine i_callVi (rest := []) (ci := 10) (qc := (R_Pw, T_Pw, 16)) (n := 580) C 26 rfl rfl hl h rfl wCM_c (kV_La_54 ⟨by decide, by decide⟩) (fr_iR (wM cy am J B) (m_Pw_bridge hw)) rfl rfl (Nat.le_of_ble_eq_true rfl) ⟨by show 87 + k + 1 ≤ 600000; omega, by show 28975 + 7 * k + 6 ≤ 7302250; omega⟩ (fun r u H locs hw h => ?_)
  have h : HXw D (fun q => s.heap.size ≤ q) s.heap H locs (wC cy ad I A u.1 u.2.1 u.2.2.1 u.2.2.2 ++ wM cy am J B) := h
  refine i_aload_n (n := 581) C 27 rfl rfl rfl hl 2 rfl ?_
  refine i_aload_n (n := 582) C 28 rfl rfl rfl hl 0 rfl ?_
  refine i_iload_n (n := 583) C 29 rfl rfl rfl hl 3 rfl ?_
  refine i_iconst (v := (1 : Int32)) (n := 584) C 30 rfl rfl rfl ?_
  refine i_iadd (n := 585) C 31 rfl rfl ?_
  refine i_sld (n := 586) C 32 rfl rfl h hX hbl hbA (law_in (j := 1) hN (by decide) h6) ?_
  refine i_aload_n (n := 587) C 33 rfl rfl rfl hl 0 rfl ?_
  refine i_iload_n (n := 588) C 34 rfl rfl rfl hl 3 rfl ?_
  refine i_iconst (v := (2 : Int32)) (n := 589) C 35 rfl rfl rfl ?_
  refine i_iadd (n := 590) C 36 rfl rfl ?_
  refine i_sld (n := 591) C 37 rfl rfl h hX hbl hbA (law_in (j := 2) hN (by decide) h6) ?_
  refine i_aload_n (n := 592) C 38 rfl rfl rfl hl 0 rfl ?_
  refine i_iload_n (n := 593) C 39 rfl rfl rfl hl 3 rfl ?_
  refine i_iconst (v := (3 : Int32)) (n := 594) C 40 rfl rfl rfl ?_
  refine i_iadd (n := 595) C 41 rfl rfl ?_
  refine i_sld (n := 596) C 42 rfl rfl h hX hbl hbA (law_in (j := 3) hN (by decide) h6) ?_
  refine i_aload_n (n := 597) C 43 rfl rfl rfl hl 0 rfl ?_
  refine i_iload_n (n := 598) C 44 rfl rfl rfl hl 3 rfl ?_
  refine i_iconst (v := (4 : Int32)) (n := 599) C 45 rfl rfl rfl ?_
  refine i_iadd (n := 600) C 46 rfl rfl ?_
  refine i_sld (n := 601) C 47 rfl rfl h hX hbl hbA (law_in (j := 4) hN (by decide) h6) ?_
  refine i_aload_n (n := 602) C 48 rfl rfl rfl hl 0 rfl ?_
  refine i_iload_n (n := 603) C 49 rfl rfl rfl hl 3 rfl ?_
  refine i_iconst (v := (5 : Int32)) (n := 604) C 50 rfl rfl rfl ?_
  refine i_iadd (n := 605) C 51 rfl rfl ?_
  refine i_sld (n := 606) C 52 rfl rfl h hX hbl hbA (law_in (j := 5) hN (by decide) h6) ?_
  refine i_callVi (rest := [.int r]) (ci := 11) (qc := (R_Mo, T_Mo, 50)) (n := 609) C 53 rfl rfl hl h rfl wCM_m (kV_La_57 ⟨by decide, by decide⟩) (fr_iL (wC cy ad I A u.1 u.2.1 u.2.2.1 u.2.2.2) (m_Mo_bridge hw)) rfl rfl (Nat.le_of_ble_eq_true rfl) ⟨by show 87 + k + 1 + 0 ≤ 600000; omega, by show 28975 + 7 * k + 6 + 0 ≤ 7302250; omega⟩ (fun r2 v H locs hw h => ?_)
  have h : HXw D (fun q => s.heap.size ≤ q) s.heap H locs (wC cy ad I A u.1 u.2.1 u.2.2.1 u.2.2.2 ++ wM cy am J v) := h
  obtain ⟨hrr, hR2⟩ := hw
  refine i_icmp_eq (tgt := 1624) (n := 612) C 54 rfl rfl rfl (fun _ => ?_) (fun z => absurd hrr z)
  refine i_iinc (v := nI (6 * (k + 1))) (lv' := [(3, .int (nI (6 * (k + 1)))), (0, .ref b), (1, .ref (ad 0)), (2, .ref (am 0))]) (n := 1627) C 57 rfl rfl hl 3 rfl (nI_add (6 * k) 6) (by decide) rfl (fun ls hl => ?_)
  refine i_goto (tgt := 18) C 58 rfl rfl ?_
  refine W.widen (k := 87 + (k + 1)) (n := 28975 + 7 * (k + 1)) (by omega) (by omega) ?_
  exact ih _ _ _ _ _ _ _ _ _ _ ls (by omega) hR2 h (lv_sub hl [1, 2, 3, 0] rfl)
set_option maxHeartbeats 4000000 in
set_option maxRecDepth 100000 in
theorem law_10 {Rel : Nat → (Nat → Int32) → (Nat → Nat → Int32) → (Nat → Option Nat) → List Nat → (Nat → Nat) → (Nat → Nat → Int32) → (Nat → Int32) → (Nat → Nat → Int32) → Prop} {p : Program} {l : Launch} {e : Env} {s : State} {m : MethodId} {below : List Frame} {meth : Method} {c : Code} {D : va_G} {cy ad am : Nat → Nat} {b N : Nat} {xs : Nat → Int32} (C : CX D cy R_La code tb_La_10 4 p s m #[Value.ref b] c (fun q => s.heap.size ≤ q)) (hX : va_X b N xs s s.heap) (hbl : b < s.heap.size) (hN : N ≤ 3072)
    (ho10 : ∀ (k : Nat) (a1 a2 a3 a4 : Int32) (I : Nat → Int32) (A : Nat → Nat → Int32) (T : Nat → Option Nat) (L : List Nat) (K : Nat → Nat) (F : Nat → Nat → Int32) (J : Nat → Int32) (B : Nat → Nat → Int32), k < 512 → Rel k I A T L K F J B → g_Pw_tower I T L K F a1 a2 a3 a4 (fun r u => g_Mo_tower J B a1 a2 a3 a4 (fun r2 v => r = r2 ∧ Rel (k + 1) I A u.1 u.2.1 u.2.2.1 u.2.2.2 J v)))
    (k : Nat) (I : Nat → Int32) (A : Nat → Nat → Int32) (T : Nat → Option Nat) (L : List Nat) (K : Nat → Nat) (F : Nat → Nat → Int32) (J : Nat → Int32) (B : Nat → Nat → Int32) (h6 : 6 * k + 6 ≤ N) (ih : ∀ (I : Nat → Int32) (A : Nat → Nat → Int32) (T : Nat → Option Nat) (L : List Nat) (K : Nat → Nat) (F : Nat → Nat → Int32) (J : Nat → Int32) (B : Nat → Nat → Int32) (H : Heap) (locs : List Loc) (ls : Array Slot), 6 * (k + 1) ≤ N → Rel (k + 1) I A T L K F J B → HXw D (fun q => s.heap.size ≤ q) s.heap H locs (wC cy ad I A T L K F ++ wM cy am J B) → lv_has ls 4 [(0, .ref b), (1, .ref (ad 0)), (2, .ref (am 0)), (3, .int (nI (6 * (k + 1))))] → W p l e room_1 s m #[Value.ref b] below meth c H locs (87 + (k + 1)) (28975 + 7 * (k + 1)) (lw_Z below #[Value.ref b] s) (F0 m 18 ls [])) (H : Heap) (locs : List Loc) (ls : Array Slot) (hR : Rel k I A T L K F J B) (h : HXw D (fun q => s.heap.size ≤ q) s.heap H locs (wC cy ad I A T L K F ++ wM cy am J B)) (hl : lv_has ls 4 [(0, .ref b), (1, .ref (ad 0)), (2, .ref (am 0)), (3, .int (nI (6 * k)))]) : W p l e room_1 s m #[Value.ref b] below meth c H locs (87 + k) (28975 + 7 * k) (lw_Z below #[Value.ref b] s) (F0 m 614 ls []) := by
  have hbA : ¬ (fun q => s.heap.size ≤ q) b := Nat.not_le.mpr hbl
  refine i_aload_n (n := 615) C 0 rfl rfl rfl hl 1 rfl ?_
  refine i_aload_n (n := 616) C 1 rfl rfl rfl hl 0 rfl ?_
  refine i_iload_n (n := 617) C 2 rfl rfl rfl hl 3 rfl ?_
  refine i_iconst (v := (1 : Int32)) (n := 618) C 3 rfl rfl rfl ?_
  refine i_iadd (n := 619) C 4 rfl rfl ?_
  refine i_sld (n := 620) C 5 rfl rfl h hX hbl hbA (law_in (j := 1) hN (by decide) h6) ?_
  refine i_aload_n (n := 621) C 6 rfl rfl rfl hl 0 rfl ?_
  refine i_iload_n (n := 622) C 7 rfl rfl rfl hl 3 rfl ?_
  refine i_iconst (v := (2 : Int32)) (n := 623) C 8 rfl rfl rfl ?_
  refine i_iadd (n := 624) C 9 rfl rfl ?_
  refine i_sld (n := 625) C 10 rfl rfl h hX hbl hbA (law_in (j := 2) hN (by decide) h6) ?_
  refine i_aload_n (n := 626) C 11 rfl rfl rfl hl 0 rfl ?_
  refine i_iload_n (n := 627) C 12 rfl rfl rfl hl 3 rfl ?_
  refine i_iconst (v := (3 : Int32)) (n := 628) C 13 rfl rfl rfl ?_
  refine i_iadd (n := 629) C 14 rfl rfl ?_
  refine i_sld (n := 630) C 15 rfl rfl h hX hbl hbA (law_in (j := 3) hN (by decide) h6) ?_
  refine i_aload_n (n := 631) C 16 rfl rfl rfl hl 0 rfl ?_
  refine i_iload_n (n := 632) C 17 rfl rfl rfl hl 3 rfl ?_
  refine i_iconst (v := (4 : Int32)) (n := 633) C 18 rfl rfl rfl ?_
  refine i_iadd (n := 634) C 19 rfl rfl ?_
  refine i_sld (n := 635) C 20 rfl rfl h hX hbl hbA (law_in (j := 4) hN (by decide) h6) ?_
  have hw := ho10 k (xs ((nI (6 * k)) + (1 : Int32)).toNatClampNeg) (xs ((nI (6 * k)) + (2 : Int32)).toNatClampNeg) (xs ((nI (6 * k)) + (3 : Int32)).toNatClampNeg) (xs ((nI (6 * k)) + (4 : Int32)).toNatClampNeg) I A T L K F J B (by omega) hR
  refine i_callVi (rest := []) (ci := 10) (qc := (R_Pw, T_Pw, 16)) (n := 638) C 21 rfl rfl hl h rfl wCM_c (kV_La_58 ⟨by decide, by decide⟩) (fr_iR (wM cy am J B) (m_Pw_tower hw)) rfl rfl (Nat.le_of_ble_eq_true rfl) ⟨by show 87 + k + 1 ≤ 600000; omega, by show 28975 + 7 * k + 3 ≤ 7302250; omega⟩ (fun r u H locs hw h => ?_)
  have h : HXw D (fun q => s.heap.size ≤ q) s.heap H locs (wC cy ad I A u.1 u.2.1 u.2.2.1 u.2.2.2 ++ wM cy am J B) := h
  refine i_aload_n (n := 639) C 22 rfl rfl rfl hl 2 rfl ?_
  refine i_aload_n (n := 640) C 23 rfl rfl rfl hl 0 rfl ?_
  refine i_iload_n (n := 641) C 24 rfl rfl rfl hl 3 rfl ?_
  refine i_iconst (v := (1 : Int32)) (n := 642) C 25 rfl rfl rfl ?_
  refine i_iadd (n := 643) C 26 rfl rfl ?_
  refine i_sld (n := 644) C 27 rfl rfl h hX hbl hbA (law_in (j := 1) hN (by decide) h6) ?_
  refine i_aload_n (n := 645) C 28 rfl rfl rfl hl 0 rfl ?_
  refine i_iload_n (n := 646) C 29 rfl rfl rfl hl 3 rfl ?_
  refine i_iconst (v := (2 : Int32)) (n := 647) C 30 rfl rfl rfl ?_
  refine i_iadd (n := 648) C 31 rfl rfl ?_
  refine i_sld (n := 649) C 32 rfl rfl h hX hbl hbA (law_in (j := 2) hN (by decide) h6) ?_
  refine i_aload_n (n := 650) C 33 rfl rfl rfl hl 0 rfl ?_
  refine i_iload_n (n := 651) C 34 rfl rfl rfl hl 3 rfl ?_
  refine i_iconst (v := (3 : Int32)) (n := 652) C 35 rfl rfl rfl ?_
  refine i_iadd (n := 653) C 36 rfl rfl ?_
  refine i_sld (n := 654) C 37 rfl rfl h hX hbl hbA (law_in (j := 3) hN (by decide) h6) ?_
  refine i_aload_n (n := 655) C 38 rfl rfl rfl hl 0 rfl ?_
  refine i_iload_n (n := 656) C 39 rfl rfl rfl hl 3 rfl ?_
  refine i_iconst (v := (4 : Int32)) (n := 657) C 40 rfl rfl rfl ?_
  refine i_iadd (n := 658) C 41 rfl rfl ?_
  refine i_sld (n := 659) C 42 rfl rfl h hX hbl hbA (law_in (j := 4) hN (by decide) h6) ?_
  refine i_callVi (rest := [.int r]) (ci := 11) (qc := (R_Mo, T_Mo, 50)) (n := 662) C 43 rfl rfl hl h rfl wCM_m (kV_La_61 ⟨by decide, by decide⟩) (fr_iL (wC cy ad I A u.1 u.2.1 u.2.2.1 u.2.2.2) (m_Mo_tower hw)) rfl rfl (Nat.le_of_ble_eq_true rfl) ⟨by show 87 + k + 1 + 0 ≤ 600000; omega, by show 28975 + 7 * k + 3 + 0 ≤ 7302250; omega⟩ (fun r2 v H locs hw h => ?_)
  have h : HXw D (fun q => s.heap.size ≤ q) s.heap H locs (wC cy ad I A u.1 u.2.1 u.2.2.1 u.2.2.2 ++ wM cy am J v) := h
  obtain ⟨hrr, hR2⟩ := hw
  refine i_icmp_eq (tgt := 1624) (n := 665) C 44 rfl rfl rfl (fun _ => ?_) (fun z => absurd hrr z)
  refine i_iinc (v := nI (6 * (k + 1))) (lv' := [(3, .int (nI (6 * (k + 1)))), (0, .ref b), (1, .ref (ad 0)), (2, .ref (am 0))]) (n := 1627) C 47 rfl rfl hl 3 rfl (nI_add (6 * k) 6) (by decide) rfl (fun ls hl => ?_)
  refine i_goto (tgt := 18) C 48 rfl rfl ?_
  refine W.widen (k := 87 + (k + 1)) (n := 28975 + 7 * (k + 1)) (by omega) (by omega) ?_
  exact ih _ _ _ _ _ _ _ _ _ _ ls (by omega) hR2 h (lv_sub hl [1, 2, 3, 0] rfl)
set_option maxHeartbeats 4000000 in
set_option maxRecDepth 100000 in
theorem law_11 {Rel : Nat → (Nat → Int32) → (Nat → Nat → Int32) → (Nat → Option Nat) → List Nat → (Nat → Nat) → (Nat → Nat → Int32) → (Nat → Int32) → (Nat → Nat → Int32) → Prop} {p : Program} {l : Launch} {e : Env} {s : State} {m : MethodId} {below : List Frame} {meth : Method} {c : Code} {D : va_G} {cy ad am : Nat → Nat} {b N : Nat} {xs : Nat → Int32} (C : CX D cy R_La code tb_La_11 4 p s m #[Value.ref b] c (fun q => s.heap.size ≤ q)) (hX : va_X b N xs s s.heap) (hbl : b < s.heap.size) (hN : N ≤ 3072)
    (ho11 : ∀ (k : Nat) (a1 a2 a3 a4 : Int32) (I : Nat → Int32) (A : Nat → Nat → Int32) (T : Nat → Option Nat) (L : List Nat) (K : Nat → Nat) (F : Nat → Nat → Int32) (J : Nat → Int32) (B : Nat → Nat → Int32), k < 512 → Rel k I A T L K F J B → g_Pw_house I T L K F a1 a2 a3 a4 (fun r u => g_Mo_house J B a1 a2 a3 a4 (fun r2 v => r = r2 ∧ Rel (k + 1) I A u.1 u.2.1 u.2.2.1 u.2.2.2 J v)))
    (k : Nat) (I : Nat → Int32) (A : Nat → Nat → Int32) (T : Nat → Option Nat) (L : List Nat) (K : Nat → Nat) (F : Nat → Nat → Int32) (J : Nat → Int32) (B : Nat → Nat → Int32) (h6 : 6 * k + 6 ≤ N) (ih : ∀ (I : Nat → Int32) (A : Nat → Nat → Int32) (T : Nat → Option Nat) (L : List Nat) (K : Nat → Nat) (F : Nat → Nat → Int32) (J : Nat → Int32) (B : Nat → Nat → Int32) (H : Heap) (locs : List Loc) (ls : Array Slot), 6 * (k + 1) ≤ N → Rel (k + 1) I A T L K F J B → HXw D (fun q => s.heap.size ≤ q) s.heap H locs (wC cy ad I A T L K F ++ wM cy am J B) → lv_has ls 4 [(0, .ref b), (1, .ref (ad 0)), (2, .ref (am 0)), (3, .int (nI (6 * (k + 1))))] → W p l e room_1 s m #[Value.ref b] below meth c H locs (87 + (k + 1)) (28975 + 7 * (k + 1)) (lw_Z below #[Value.ref b] s) (F0 m 18 ls [])) (H : Heap) (locs : List Loc) (ls : Array Slot) (hR : Rel k I A T L K F J B) (h : HXw D (fun q => s.heap.size ≤ q) s.heap H locs (wC cy ad I A T L K F ++ wM cy am J B)) (hl : lv_has ls 4 [(0, .ref b), (1, .ref (ad 0)), (2, .ref (am 0)), (3, .int (nI (6 * k)))]) : W p l e room_1 s m #[Value.ref b] below meth c H locs (87 + k) (28975 + 7 * k) (lw_Z below #[Value.ref b] s) (F0 m 667 ls []) := by
  have hbA : ¬ (fun q => s.heap.size ≤ q) b := Nat.not_le.mpr hbl
  refine i_aload_n (n := 668) C 0 rfl rfl rfl hl 1 rfl ?_
  refine i_aload_n (n := 669) C 1 rfl rfl rfl hl 0 rfl ?_
  refine i_iload_n (n := 670) C 2 rfl rfl rfl hl 3 rfl ?_
  refine i_iconst (v := (1 : Int32)) (n := 671) C 3 rfl rfl rfl ?_
  refine i_iadd (n := 672) C 4 rfl rfl ?_
  refine i_sld (n := 673) C 5 rfl rfl h hX hbl hbA (law_in (j := 1) hN (by decide) h6) ?_
  refine i_aload_n (n := 674) C 6 rfl rfl rfl hl 0 rfl ?_
  refine i_iload_n (n := 675) C 7 rfl rfl rfl hl 3 rfl ?_
  refine i_iconst (v := (2 : Int32)) (n := 676) C 8 rfl rfl rfl ?_
  refine i_iadd (n := 677) C 9 rfl rfl ?_
  refine i_sld (n := 678) C 10 rfl rfl h hX hbl hbA (law_in (j := 2) hN (by decide) h6) ?_
  refine i_aload_n (n := 679) C 11 rfl rfl rfl hl 0 rfl ?_
  refine i_iload_n (n := 680) C 12 rfl rfl rfl hl 3 rfl ?_
  refine i_iconst (v := (3 : Int32)) (n := 681) C 13 rfl rfl rfl ?_
  refine i_iadd (n := 682) C 14 rfl rfl ?_
  refine i_sld (n := 683) C 15 rfl rfl h hX hbl hbA (law_in (j := 3) hN (by decide) h6) ?_
  refine i_aload_n (n := 684) C 16 rfl rfl rfl hl 0 rfl ?_
  refine i_iload_n (n := 685) C 17 rfl rfl rfl hl 3 rfl ?_
  refine i_iconst (v := (4 : Int32)) (n := 686) C 18 rfl rfl rfl ?_
  refine i_iadd (n := 687) C 19 rfl rfl ?_
  refine i_sld (n := 688) C 20 rfl rfl h hX hbl hbA (law_in (j := 4) hN (by decide) h6) ?_
  have hw := ho11 k (xs ((nI (6 * k)) + (1 : Int32)).toNatClampNeg) (xs ((nI (6 * k)) + (2 : Int32)).toNatClampNeg) (xs ((nI (6 * k)) + (3 : Int32)).toNatClampNeg) (xs ((nI (6 * k)) + (4 : Int32)).toNatClampNeg) I A T L K F J B (by omega) hR
  refine i_callVi (rest := []) (ci := 10) (qc := (R_Pw, T_Pw, 16)) (n := 691) C 21 rfl rfl hl h rfl wCM_c (kV_La_62 ⟨by decide, by decide⟩) (fr_iR (wM cy am J B) (m_Pw_house hw)) rfl rfl (Nat.le_of_ble_eq_true rfl) ⟨by show 87 + k + 1 ≤ 600000; omega, by show 28975 + 7 * k + 7 ≤ 7302250; omega⟩ (fun r u H locs hw h => ?_)
  have h : HXw D (fun q => s.heap.size ≤ q) s.heap H locs (wC cy ad I A u.1 u.2.1 u.2.2.1 u.2.2.2 ++ wM cy am J B) := h
  refine i_aload_n (n := 692) C 22 rfl rfl rfl hl 2 rfl ?_
  refine i_aload_n (n := 693) C 23 rfl rfl rfl hl 0 rfl ?_
  refine i_iload_n (n := 694) C 24 rfl rfl rfl hl 3 rfl ?_
  refine i_iconst (v := (1 : Int32)) (n := 695) C 25 rfl rfl rfl ?_
  refine i_iadd (n := 696) C 26 rfl rfl ?_
  refine i_sld (n := 697) C 27 rfl rfl h hX hbl hbA (law_in (j := 1) hN (by decide) h6) ?_
  refine i_aload_n (n := 698) C 28 rfl rfl rfl hl 0 rfl ?_
  refine i_iload_n (n := 699) C 29 rfl rfl rfl hl 3 rfl ?_
  refine i_iconst (v := (2 : Int32)) (n := 700) C 30 rfl rfl rfl ?_
  refine i_iadd (n := 701) C 31 rfl rfl ?_
  refine i_sld (n := 702) C 32 rfl rfl h hX hbl hbA (law_in (j := 2) hN (by decide) h6) ?_
  refine i_aload_n (n := 703) C 33 rfl rfl rfl hl 0 rfl ?_
  refine i_iload_n (n := 704) C 34 rfl rfl rfl hl 3 rfl ?_
  refine i_iconst (v := (3 : Int32)) (n := 705) C 35 rfl rfl rfl ?_
  refine i_iadd (n := 706) C 36 rfl rfl ?_
  refine i_sld (n := 707) C 37 rfl rfl h hX hbl hbA (law_in (j := 3) hN (by decide) h6) ?_
  refine i_aload_n (n := 708) C 38 rfl rfl rfl hl 0 rfl ?_
  refine i_iload_n (n := 709) C 39 rfl rfl rfl hl 3 rfl ?_
  refine i_iconst (v := (4 : Int32)) (n := 710) C 40 rfl rfl rfl ?_
  refine i_iadd (n := 711) C 41 rfl rfl ?_
  refine i_sld (n := 712) C 42 rfl rfl h hX hbl hbA (law_in (j := 4) hN (by decide) h6) ?_
  refine i_callVi (rest := [.int r]) (ci := 11) (qc := (R_Mo, T_Mo, 50)) (n := 715) C 43 rfl rfl hl h rfl wCM_m (kV_La_65 ⟨by decide, by decide⟩) (fr_iL (wC cy ad I A u.1 u.2.1 u.2.2.1 u.2.2.2) (m_Mo_house hw)) rfl rfl (Nat.le_of_ble_eq_true rfl) ⟨by show 87 + k + 1 + 0 ≤ 600000; omega, by show 28975 + 7 * k + 7 + 0 ≤ 7302250; omega⟩ (fun r2 v H locs hw h => ?_)
  have h : HXw D (fun q => s.heap.size ≤ q) s.heap H locs (wC cy ad I A u.1 u.2.1 u.2.2.1 u.2.2.2 ++ wM cy am J v) := h
  obtain ⟨hrr, hR2⟩ := hw
  refine i_icmp_eq (tgt := 1624) (n := 718) C 44 rfl rfl rfl (fun _ => ?_) (fun z => absurd hrr z)
  refine i_iinc (v := nI (6 * (k + 1))) (lv' := [(3, .int (nI (6 * (k + 1)))), (0, .ref b), (1, .ref (ad 0)), (2, .ref (am 0))]) (n := 1627) C 47 rfl rfl hl 3 rfl (nI_add (6 * k) 6) (by decide) rfl (fun ls hl => ?_)
  refine i_goto (tgt := 18) C 48 rfl rfl ?_
  refine W.widen (k := 87 + (k + 1)) (n := 28975 + 7 * (k + 1)) (by omega) (by omega) ?_
  exact ih _ _ _ _ _ _ _ _ _ _ ls (by omega) hR2 h (lv_sub hl [1, 2, 3, 0] rfl)
set_option maxHeartbeats 4000000 in
set_option maxRecDepth 100000 in
theorem law_12 {Rel : Nat → (Nat → Int32) → (Nat → Nat → Int32) → (Nat → Option Nat) → List Nat → (Nat → Nat) → (Nat → Nat → Int32) → (Nat → Int32) → (Nat → Nat → Int32) → Prop} {p : Program} {l : Launch} {e : Env} {s : State} {m : MethodId} {below : List Frame} {meth : Method} {c : Code} {D : va_G} {cy ad am : Nat → Nat} {b N : Nat} {xs : Nat → Int32} (C : CX D cy R_La code tb_La_12 4 p s m #[Value.ref b] c (fun q => s.heap.size ≤ q)) (hX : va_X b N xs s s.heap) (hbl : b < s.heap.size) (hN : N ≤ 3072)
    (ho12 : ∀ (k : Nat) (a1 a2 a3 : Int32) (I : Nat → Int32) (A : Nat → Nat → Int32) (T : Nat → Option Nat) (L : List Nat) (K : Nat → Nat) (F : Nat → Nat → Int32) (J : Nat → Int32) (B : Nat → Nat → Int32), k < 512 → isB a3 → Rel k I A T L K F J B → g_Pw_leak I T L K F a1 a2 a3 (fun r u => g_Mo_leak J B a1 a2 a3 (fun r2 v => r = r2 ∧ Rel (k + 1) I A u.1 u.2.1 u.2.2.1 u.2.2.2 J v)))
    (k : Nat) (I : Nat → Int32) (A : Nat → Nat → Int32) (T : Nat → Option Nat) (L : List Nat) (K : Nat → Nat) (F : Nat → Nat → Int32) (J : Nat → Int32) (B : Nat → Nat → Int32) (h6 : 6 * k + 6 ≤ N) (ih : ∀ (I : Nat → Int32) (A : Nat → Nat → Int32) (T : Nat → Option Nat) (L : List Nat) (K : Nat → Nat) (F : Nat → Nat → Int32) (J : Nat → Int32) (B : Nat → Nat → Int32) (H : Heap) (locs : List Loc) (ls : Array Slot), 6 * (k + 1) ≤ N → Rel (k + 1) I A T L K F J B → HXw D (fun q => s.heap.size ≤ q) s.heap H locs (wC cy ad I A T L K F ++ wM cy am J B) → lv_has ls 4 [(0, .ref b), (1, .ref (ad 0)), (2, .ref (am 0)), (3, .int (nI (6 * (k + 1))))] → W p l e room_1 s m #[Value.ref b] below meth c H locs (87 + (k + 1)) (28975 + 7 * (k + 1)) (lw_Z below #[Value.ref b] s) (F0 m 18 ls [])) (H : Heap) (locs : List Loc) (ls : Array Slot) (hR : Rel k I A T L K F J B) (h : HXw D (fun q => s.heap.size ≤ q) s.heap H locs (wC cy ad I A T L K F ++ wM cy am J B)) (hl : lv_has ls 4 [(0, .ref b), (1, .ref (ad 0)), (2, .ref (am 0)), (3, .int (nI (6 * k)))]) : W p l e room_1 s m #[Value.ref b] below meth c H locs (87 + k) (28975 + 7 * k) (lw_Z below #[Value.ref b] s) (F0 m 720 ls []) := by
  have hbA : ¬ (fun q => s.heap.size ≤ q) b := Nat.not_le.mpr hbl
  refine i_aload_n (n := 721) C 0 rfl rfl rfl hl 1 rfl ?_
  refine i_aload_n (n := 722) C 1 rfl rfl rfl hl 0 rfl ?_
  refine i_iload_n (n := 723) C 2 rfl rfl rfl hl 3 rfl ?_
  refine i_iconst (v := (1 : Int32)) (n := 724) C 3 rfl rfl rfl ?_
  refine i_iadd (n := 725) C 4 rfl rfl ?_
  refine i_sld (n := 726) C 5 rfl rfl h hX hbl hbA (law_in (j := 1) hN (by decide) h6) ?_
  refine i_aload_n (n := 727) C 6 rfl rfl rfl hl 0 rfl ?_
  refine i_iload_n (n := 728) C 7 rfl rfl rfl hl 3 rfl ?_
  refine i_iconst (v := (2 : Int32)) (n := 729) C 8 rfl rfl rfl ?_
  refine i_iadd (n := 730) C 9 rfl rfl ?_
  refine i_sld (n := 731) C 10 rfl rfl h hX hbl hbA (law_in (j := 2) hN (by decide) h6) ?_
  refine i_aload_n (n := 732) C 11 rfl rfl rfl hl 0 rfl ?_
  refine i_iload_n (n := 733) C 12 rfl rfl rfl hl 3 rfl ?_
  refine i_iconst (v := (3 : Int32)) (n := 734) C 13 rfl rfl rfl ?_
  refine i_iadd (n := 735) C 14 rfl rfl ?_
  refine i_sld (n := 736) C 15 rfl rfl h hX hbl hbA (law_in (j := 3) hN (by decide) h6) ?_
  refine i_if_eq (tgt := 743) (n := 739) C 16 rfl rfl rfl (fun cb0 => ?_) (fun cb0 => ?_)
  · refine i_iconst (v := (0 : Int32)) (n := 744) C 19 rfl rfl rfl ?_
    have hw := ho12 k (xs ((nI (6 * k)) + (1 : Int32)).toNatClampNeg) (xs ((nI (6 * k)) + (2 : Int32)).toNatClampNeg) (0 : Int32) I A T L K F J B (by omega) (by first | exact Or.inl rfl | exact Or.inr rfl) hR
    refine i_callVi (rest := []) (ci := 10) (qc := (R_Pw, T_Pw, 16)) (n := 747) C 20 rfl rfl hl h rfl wCM_c (kV_La_66 ⟨by decide, by decide⟩) (fr_iR (wM cy am J B) (m_Pw_leak hw)) rfl rfl (Nat.le_of_ble_eq_true rfl) ⟨by show 87 + k + 1 ≤ 600000; omega, by show 28975 + 7 * k + 3 ≤ 7302250; omega⟩ (fun r u H locs hw h => ?_)
    have h : HXw D (fun q => s.heap.size ≤ q) s.heap H locs (wC cy ad I A u.1 u.2.1 u.2.2.1 u.2.2.2 ++ wM cy am J B) := h
    refine i_aload_n (n := 748) C 21 rfl rfl rfl hl 2 rfl ?_
    refine i_aload_n (n := 749) C 22 rfl rfl rfl hl 0 rfl ?_
    refine i_iload_n (n := 750) C 23 rfl rfl rfl hl 3 rfl ?_
    refine i_iconst (v := (1 : Int32)) (n := 751) C 24 rfl rfl rfl ?_
    refine i_iadd (n := 752) C 25 rfl rfl ?_
    refine i_sld (n := 753) C 26 rfl rfl h hX hbl hbA (law_in (j := 1) hN (by decide) h6) ?_
    refine i_aload_n (n := 754) C 27 rfl rfl rfl hl 0 rfl ?_
    refine i_iload_n (n := 755) C 28 rfl rfl rfl hl 3 rfl ?_
    refine i_iconst (v := (2 : Int32)) (n := 756) C 29 rfl rfl rfl ?_
    refine i_iadd (n := 757) C 30 rfl rfl ?_
    refine i_sld (n := 758) C 31 rfl rfl h hX hbl hbA (law_in (j := 2) hN (by decide) h6) ?_
    refine i_aload_n (n := 759) C 32 rfl rfl rfl hl 0 rfl ?_
    refine i_iload_n (n := 760) C 33 rfl rfl rfl hl 3 rfl ?_
    refine i_iconst (v := (3 : Int32)) (n := 761) C 34 rfl rfl rfl ?_
    refine i_iadd (n := 762) C 35 rfl rfl ?_
    refine i_sld (n := 763) C 36 rfl rfl h hX hbl hbA (law_in (j := 3) hN (by decide) h6) ?_
    refine i_if_eq (tgt := 770) (n := 766) C 37 rfl rfl rfl (fun _ => ?_) (fun z => absurd cb0 z)
    refine i_iconst (v := (0 : Int32)) (n := 771) C 40 rfl rfl rfl ?_
    refine i_callVi (rest := [.int r]) (ci := 11) (qc := (R_Mo, T_Mo, 50)) (n := 774) C 41 rfl rfl hl h rfl wCM_m (kV_La_70 ⟨by decide, by decide⟩) (fr_iL (wC cy ad I A u.1 u.2.1 u.2.2.1 u.2.2.2) (m_Mo_leak hw)) rfl rfl (Nat.le_of_ble_eq_true rfl) ⟨by show 87 + k + 1 + 0 ≤ 600000; omega, by show 28975 + 7 * k + 3 + 0 ≤ 7302250; omega⟩ (fun r2 v H locs hw h => ?_)
    have h : HXw D (fun q => s.heap.size ≤ q) s.heap H locs (wC cy ad I A u.1 u.2.1 u.2.2.1 u.2.2.2 ++ wM cy am J v) := h
    obtain ⟨hrr, hR2⟩ := hw
    refine i_icmp_eq (tgt := 1624) (n := 777) C 42 rfl rfl rfl (fun _ => ?_) (fun z => absurd hrr z)
    refine i_iinc (v := nI (6 * (k + 1))) (lv' := [(3, .int (nI (6 * (k + 1)))), (0, .ref b), (1, .ref (ad 0)), (2, .ref (am 0))]) (n := 1627) C 45 rfl rfl hl 3 rfl (nI_add (6 * k) 6) (by decide) rfl (fun ls hl => ?_)
    refine i_goto (tgt := 18) C 46 rfl rfl ?_
    refine W.widen (k := 87 + (k + 1)) (n := 28975 + 7 * (k + 1)) (by omega) (by omega) ?_
    exact ih _ _ _ _ _ _ _ _ _ _ ls (by omega) hR2 h (lv_sub hl [1, 2, 3, 0] rfl)
  · refine i_iconst (v := (1 : Int32)) (n := 740) C 17 rfl rfl rfl ?_
    refine i_goto (tgt := 744) C 18 rfl rfl ?_
    have hw := ho12 k (xs ((nI (6 * k)) + (1 : Int32)).toNatClampNeg) (xs ((nI (6 * k)) + (2 : Int32)).toNatClampNeg) (1 : Int32) I A T L K F J B (by omega) (by first | exact Or.inl rfl | exact Or.inr rfl) hR
    refine i_callVi (rest := []) (ci := 10) (qc := (R_Pw, T_Pw, 16)) (n := 747) C 20 rfl rfl hl h rfl wCM_c (kV_La_66 ⟨by decide, by decide⟩) (fr_iR (wM cy am J B) (m_Pw_leak hw)) rfl rfl (Nat.le_of_ble_eq_true rfl) ⟨by show 87 + k + 1 ≤ 600000; omega, by show 28975 + 7 * k + 3 ≤ 7302250; omega⟩ (fun r u H locs hw h => ?_)
    have h : HXw D (fun q => s.heap.size ≤ q) s.heap H locs (wC cy ad I A u.1 u.2.1 u.2.2.1 u.2.2.2 ++ wM cy am J B) := h
    refine i_aload_n (n := 748) C 21 rfl rfl rfl hl 2 rfl ?_
    refine i_aload_n (n := 749) C 22 rfl rfl rfl hl 0 rfl ?_
    refine i_iload_n (n := 750) C 23 rfl rfl rfl hl 3 rfl ?_
    refine i_iconst (v := (1 : Int32)) (n := 751) C 24 rfl rfl rfl ?_
    refine i_iadd (n := 752) C 25 rfl rfl ?_
    refine i_sld (n := 753) C 26 rfl rfl h hX hbl hbA (law_in (j := 1) hN (by decide) h6) ?_
    refine i_aload_n (n := 754) C 27 rfl rfl rfl hl 0 rfl ?_
    refine i_iload_n (n := 755) C 28 rfl rfl rfl hl 3 rfl ?_
    refine i_iconst (v := (2 : Int32)) (n := 756) C 29 rfl rfl rfl ?_
    refine i_iadd (n := 757) C 30 rfl rfl ?_
    refine i_sld (n := 758) C 31 rfl rfl h hX hbl hbA (law_in (j := 2) hN (by decide) h6) ?_
    refine i_aload_n (n := 759) C 32 rfl rfl rfl hl 0 rfl ?_
    refine i_iload_n (n := 760) C 33 rfl rfl rfl hl 3 rfl ?_
    refine i_iconst (v := (3 : Int32)) (n := 761) C 34 rfl rfl rfl ?_
    refine i_iadd (n := 762) C 35 rfl rfl ?_
    refine i_sld (n := 763) C 36 rfl rfl h hX hbl hbA (law_in (j := 3) hN (by decide) h6) ?_
    refine i_if_eq (tgt := 770) (n := 766) C 37 rfl rfl rfl (fun z => absurd z cb0) (fun _ => ?_)
    refine i_iconst (v := (1 : Int32)) (n := 767) C 38 rfl rfl rfl ?_
    refine i_goto (tgt := 771) C 39 rfl rfl ?_
    refine i_callVi (rest := [.int r]) (ci := 11) (qc := (R_Mo, T_Mo, 50)) (n := 774) C 41 rfl rfl hl h rfl wCM_m (kV_La_70 ⟨by decide, by decide⟩) (fr_iL (wC cy ad I A u.1 u.2.1 u.2.2.1 u.2.2.2) (m_Mo_leak hw)) rfl rfl (Nat.le_of_ble_eq_true rfl) ⟨by show 87 + k + 1 + 0 ≤ 600000; omega, by show 28975 + 7 * k + 3 + 0 ≤ 7302250; omega⟩ (fun r2 v H locs hw h => ?_)
    have h : HXw D (fun q => s.heap.size ≤ q) s.heap H locs (wC cy ad I A u.1 u.2.1 u.2.2.1 u.2.2.2 ++ wM cy am J v) := h
    obtain ⟨hrr, hR2⟩ := hw
    refine i_icmp_eq (tgt := 1624) (n := 777) C 42 rfl rfl rfl (fun _ => ?_) (fun z => absurd hrr z)
    refine i_iinc (v := nI (6 * (k + 1))) (lv' := [(3, .int (nI (6 * (k + 1)))), (0, .ref b), (1, .ref (ad 0)), (2, .ref (am 0))]) (n := 1627) C 45 rfl rfl hl 3 rfl (nI_add (6 * k) 6) (by decide) rfl (fun ls hl => ?_)
    refine i_goto (tgt := 18) C 46 rfl rfl ?_
    refine W.widen (k := 87 + (k + 1)) (n := 28975 + 7 * (k + 1)) (by omega) (by omega) ?_
    exact ih _ _ _ _ _ _ _ _ _ _ ls (by omega) hR2 h (lv_sub hl [1, 2, 3, 0] rfl)
set_option maxHeartbeats 4000000 in
set_option maxRecDepth 100000 in
theorem law_13 {Rel : Nat → (Nat → Int32) → (Nat → Nat → Int32) → (Nat → Option Nat) → List Nat → (Nat → Nat) → (Nat → Nat → Int32) → (Nat → Int32) → (Nat → Nat → Int32) → Prop} {p : Program} {l : Launch} {e : Env} {s : State} {m : MethodId} {below : List Frame} {meth : Method} {c : Code} {D : va_G} {cy ad am : Nat → Nat} {b N : Nat} {xs : Nat → Int32} (C : CX D cy R_La code tb_La_13 4 p s m #[Value.ref b] c (fun q => s.heap.size ≤ q)) (hX : va_X b N xs s s.heap) (hbl : b < s.heap.size) (hN : N ≤ 3072)
    (ho13 : ∀ (k : Nat) (a1 : Int32) (I : Nat → Int32) (A : Nat → Nat → Int32) (T : Nat → Option Nat) (L : List Nat) (K : Nat → Nat) (F : Nat → Nat → Int32) (J : Nat → Int32) (B : Nat → Nat → Int32), k < 512 → Rel k I A T L K F J B → g_Pw_clear I T L K F a1 (fun r u => g_Mo_clear J B a1 (fun r2 v => r = r2 ∧ Rel (k + 1) I A u L K F J v)))
    (k : Nat) (I : Nat → Int32) (A : Nat → Nat → Int32) (T : Nat → Option Nat) (L : List Nat) (K : Nat → Nat) (F : Nat → Nat → Int32) (J : Nat → Int32) (B : Nat → Nat → Int32) (h6 : 6 * k + 6 ≤ N) (ih : ∀ (I : Nat → Int32) (A : Nat → Nat → Int32) (T : Nat → Option Nat) (L : List Nat) (K : Nat → Nat) (F : Nat → Nat → Int32) (J : Nat → Int32) (B : Nat → Nat → Int32) (H : Heap) (locs : List Loc) (ls : Array Slot), 6 * (k + 1) ≤ N → Rel (k + 1) I A T L K F J B → HXw D (fun q => s.heap.size ≤ q) s.heap H locs (wC cy ad I A T L K F ++ wM cy am J B) → lv_has ls 4 [(0, .ref b), (1, .ref (ad 0)), (2, .ref (am 0)), (3, .int (nI (6 * (k + 1))))] → W p l e room_1 s m #[Value.ref b] below meth c H locs (87 + (k + 1)) (28975 + 7 * (k + 1)) (lw_Z below #[Value.ref b] s) (F0 m 18 ls [])) (H : Heap) (locs : List Loc) (ls : Array Slot) (hR : Rel k I A T L K F J B) (h : HXw D (fun q => s.heap.size ≤ q) s.heap H locs (wC cy ad I A T L K F ++ wM cy am J B)) (hl : lv_has ls 4 [(0, .ref b), (1, .ref (ad 0)), (2, .ref (am 0)), (3, .int (nI (6 * k)))]) : W p l e room_1 s m #[Value.ref b] below meth c H locs (87 + k) (28975 + 7 * k) (lw_Z below #[Value.ref b] s) (F0 m 779 ls []) := by
  have hbA : ¬ (fun q => s.heap.size ≤ q) b := Nat.not_le.mpr hbl
  refine i_aload_n (n := 780) C 0 rfl rfl rfl hl 1 rfl ?_
  refine i_aload_n (n := 781) C 1 rfl rfl rfl hl 0 rfl ?_
  refine i_iload_n (n := 782) C 2 rfl rfl rfl hl 3 rfl ?_
  refine i_iconst (v := (1 : Int32)) (n := 783) C 3 rfl rfl rfl ?_
  refine i_iadd (n := 784) C 4 rfl rfl ?_
  refine i_sld (n := 785) C 5 rfl rfl h hX hbl hbA (law_in (j := 1) hN (by decide) h6) ?_
  have hw := ho13 k (xs ((nI (6 * k)) + (1 : Int32)).toNatClampNeg) I A T L K F J B (by omega) hR
  refine i_callVi (rest := []) (ci := 10) (qc := (R_Pw, T_Pw, 16)) (n := 788) C 6 rfl rfl hl h rfl wCM_c (kV_La_71 ⟨by decide, by decide⟩) (fr_iR (wM cy am J B) (m_Pw_clear hw)) rfl rfl (Nat.le_of_ble_eq_true rfl) ⟨by show 87 + k + 0 ≤ 600000; omega, by show 28975 + 7 * k + 0 ≤ 7302250; omega⟩ (fun r u H locs hw h => ?_)
  have h : HXw D (fun q => s.heap.size ≤ q) s.heap H locs (wC cy ad I A u L K F ++ wM cy am J B) := h
  refine i_aload_n (n := 789) C 7 rfl rfl rfl hl 2 rfl ?_
  refine i_aload_n (n := 790) C 8 rfl rfl rfl hl 0 rfl ?_
  refine i_iload_n (n := 791) C 9 rfl rfl rfl hl 3 rfl ?_
  refine i_iconst (v := (1 : Int32)) (n := 792) C 10 rfl rfl rfl ?_
  refine i_iadd (n := 793) C 11 rfl rfl ?_
  refine i_sld (n := 794) C 12 rfl rfl h hX hbl hbA (law_in (j := 1) hN (by decide) h6) ?_
  refine i_callVi (rest := [.int r]) (ci := 11) (qc := (R_Mo, T_Mo, 50)) (n := 797) C 13 rfl rfl hl h rfl wCM_m (kV_La_74 ⟨by decide, by decide⟩) (fr_iL (wC cy ad I A u L K F) (m_Mo_clear hw)) rfl rfl (Nat.le_of_ble_eq_true rfl) ⟨by show 87 + k + 0 + 0 ≤ 600000; omega, by show 28975 + 7 * k + 0 + 0 ≤ 7302250; omega⟩ (fun r2 v H locs hw h => ?_)
  have h : HXw D (fun q => s.heap.size ≤ q) s.heap H locs (wC cy ad I A u L K F ++ wM cy am J v) := h
  obtain ⟨hrr, hR2⟩ := hw
  refine i_icmp_eq (tgt := 1624) (n := 800) C 14 rfl rfl rfl (fun _ => ?_) (fun z => absurd hrr z)
  refine i_iinc (v := nI (6 * (k + 1))) (lv' := [(3, .int (nI (6 * (k + 1)))), (0, .ref b), (1, .ref (ad 0)), (2, .ref (am 0))]) (n := 1627) C 17 rfl rfl hl 3 rfl (nI_add (6 * k) 6) (by decide) rfl (fun ls hl => ?_)
  refine i_goto (tgt := 18) C 18 rfl rfl ?_
  refine W.widen (k := 87 + (k + 1)) (n := 28975 + 7 * (k + 1)) (by omega) (by omega) ?_
  exact ih _ _ _ _ _ _ _ _ _ _ ls (by omega) hR2 h (lv_sub hl [1, 2, 3, 0] rfl)
set_option maxHeartbeats 4000000 in
set_option maxRecDepth 100000 in
theorem law_14 {Rel : Nat → (Nat → Int32) → (Nat → Nat → Int32) → (Nat → Option Nat) → List Nat → (Nat → Nat) → (Nat → Nat → Int32) → (Nat → Int32) → (Nat → Nat → Int32) → Prop} {p : Program} {l : Launch} {e : Env} {s : State} {m : MethodId} {below : List Frame} {meth : Method} {c : Code} {D : va_G} {cy ad am : Nat → Nat} {b N : Nat} {xs : Nat → Int32} (C : CX D cy R_La code tb_La_14 4 p s m #[Value.ref b] c (fun q => s.heap.size ≤ q)) (hX : va_X b N xs s s.heap) (hbl : b < s.heap.size) (hN : N ≤ 3072)
    (ho14 : ∀ (k : Nat) (a1 a2 : Int32) (I : Nat → Int32) (A : Nat → Nat → Int32) (T : Nat → Option Nat) (L : List Nat) (K : Nat → Nat) (F : Nat → Nat → Int32) (J : Nat → Int32) (B : Nat → Nat → Int32), k < 512 → Rel k I A T L K F J B → g_Pw_ofNode I A T L K F a1 a2 (fun r => g_Mo_ofNode J B a1 a2 (fun r2 => r = r2 ∧ Rel (k + 1) I A T L K F J B)))
    (k : Nat) (I : Nat → Int32) (A : Nat → Nat → Int32) (T : Nat → Option Nat) (L : List Nat) (K : Nat → Nat) (F : Nat → Nat → Int32) (J : Nat → Int32) (B : Nat → Nat → Int32) (h6 : 6 * k + 6 ≤ N) (ih : ∀ (I : Nat → Int32) (A : Nat → Nat → Int32) (T : Nat → Option Nat) (L : List Nat) (K : Nat → Nat) (F : Nat → Nat → Int32) (J : Nat → Int32) (B : Nat → Nat → Int32) (H : Heap) (locs : List Loc) (ls : Array Slot), 6 * (k + 1) ≤ N → Rel (k + 1) I A T L K F J B → HXw D (fun q => s.heap.size ≤ q) s.heap H locs (wC cy ad I A T L K F ++ wM cy am J B) → lv_has ls 4 [(0, .ref b), (1, .ref (ad 0)), (2, .ref (am 0)), (3, .int (nI (6 * (k + 1))))] → W p l e room_1 s m #[Value.ref b] below meth c H locs (87 + (k + 1)) (28975 + 7 * (k + 1)) (lw_Z below #[Value.ref b] s) (F0 m 18 ls [])) (H : Heap) (locs : List Loc) (ls : Array Slot) (hR : Rel k I A T L K F J B) (h : HXw D (fun q => s.heap.size ≤ q) s.heap H locs (wC cy ad I A T L K F ++ wM cy am J B)) (hl : lv_has ls 4 [(0, .ref b), (1, .ref (ad 0)), (2, .ref (am 0)), (3, .int (nI (6 * k)))]) : W p l e room_1 s m #[Value.ref b] below meth c H locs (87 + k) (28975 + 7 * k) (lw_Z below #[Value.ref b] s) (F0 m 802 ls []) := by
  have hbA : ¬ (fun q => s.heap.size ≤ q) b := Nat.not_le.mpr hbl
  refine i_aload_n (n := 803) C 0 rfl rfl rfl hl 1 rfl ?_
  refine i_aload_n (n := 804) C 1 rfl rfl rfl hl 0 rfl ?_
  refine i_iload_n (n := 805) C 2 rfl rfl rfl hl 3 rfl ?_
  refine i_iconst (v := (1 : Int32)) (n := 806) C 3 rfl rfl rfl ?_
  refine i_iadd (n := 807) C 4 rfl rfl ?_
  refine i_sld (n := 808) C 5 rfl rfl h hX hbl hbA (law_in (j := 1) hN (by decide) h6) ?_
  refine i_aload_n (n := 809) C 6 rfl rfl rfl hl 0 rfl ?_
  refine i_iload_n (n := 810) C 7 rfl rfl rfl hl 3 rfl ?_
  refine i_iconst (v := (2 : Int32)) (n := 811) C 8 rfl rfl rfl ?_
  refine i_iadd (n := 812) C 9 rfl rfl ?_
  refine i_sld (n := 813) C 10 rfl rfl h hX hbl hbA (law_in (j := 2) hN (by decide) h6) ?_
  have hw := ho14 k (xs ((nI (6 * k)) + (1 : Int32)).toNatClampNeg) (xs ((nI (6 * k)) + (2 : Int32)).toNatClampNeg) I A T L K F J B (by omega) hR
  refine i_callVp (rest := []) (ci := 10) (qc := (R_Pw, T_Pw, 16)) (n := 816) C 11 rfl rfl hl h rfl wCM_c (kV_La_75 ⟨by decide, by decide⟩) (fr_pR (wM cy am J B) (m_Pw_ofNode hw)) rfl rfl (Nat.le_of_ble_eq_true rfl) ⟨by show 87 + k ≤ 600000; omega, by show 28975 + 7 * k ≤ 7302250; omega⟩ (fun r hw => ?_)
  refine i_aload_n (n := 817) C 12 rfl rfl rfl hl 2 rfl ?_
  refine i_aload_n (n := 818) C 13 rfl rfl rfl hl 0 rfl ?_
  refine i_iload_n (n := 819) C 14 rfl rfl rfl hl 3 rfl ?_
  refine i_iconst (v := (1 : Int32)) (n := 820) C 15 rfl rfl rfl ?_
  refine i_iadd (n := 821) C 16 rfl rfl ?_
  refine i_sld (n := 822) C 17 rfl rfl h hX hbl hbA (law_in (j := 1) hN (by decide) h6) ?_
  refine i_aload_n (n := 823) C 18 rfl rfl rfl hl 0 rfl ?_
  refine i_iload_n (n := 824) C 19 rfl rfl rfl hl 3 rfl ?_
  refine i_iconst (v := (2 : Int32)) (n := 825) C 20 rfl rfl rfl ?_
  refine i_iadd (n := 826) C 21 rfl rfl ?_
  refine i_sld (n := 827) C 22 rfl rfl h hX hbl hbA (law_in (j := 2) hN (by decide) h6) ?_
  refine i_callVp (rest := [.int r]) (ci := 11) (qc := (R_Mo, T_Mo, 50)) (n := 830) C 23 rfl rfl hl h rfl wCM_m (kV_La_78 ⟨by decide, by decide⟩) (fr_pL (wC cy ad I A T L K F) (m_Mo_ofNode hw)) rfl rfl (Nat.le_of_ble_eq_true rfl) ⟨by show 87 + k ≤ 600000; omega, by show 28975 + 7 * k ≤ 7302250; omega⟩ (fun r2 hw => ?_)
  obtain ⟨hrr, hR2⟩ := hw
  refine i_icmp_eq (tgt := 1624) (n := 833) C 24 rfl rfl rfl (fun _ => ?_) (fun z => absurd hrr z)
  refine i_iinc (v := nI (6 * (k + 1))) (lv' := [(3, .int (nI (6 * (k + 1)))), (0, .ref b), (1, .ref (ad 0)), (2, .ref (am 0))]) (n := 1627) C 27 rfl rfl hl 3 rfl (nI_add (6 * k) 6) (by decide) rfl (fun ls hl => ?_)
  refine i_goto (tgt := 18) C 28 rfl rfl ?_
  refine W.widen (k := 87 + (k + 1)) (n := 28975 + 7 * (k + 1)) (by omega) (by omega) ?_
  exact ih _ _ _ _ _ _ _ _ _ _ ls (by omega) hR2 h (lv_sub hl [1, 2, 3, 0] rfl)
set_option maxHeartbeats 4000000 in
set_option maxRecDepth 100000 in
theorem law_15 {Rel : Nat → (Nat → Int32) → (Nat → Nat → Int32) → (Nat → Option Nat) → List Nat → (Nat → Nat) → (Nat → Nat → Int32) → (Nat → Int32) → (Nat → Nat → Int32) → Prop} {p : Program} {l : Launch} {e : Env} {s : State} {m : MethodId} {below : List Frame} {meth : Method} {c : Code} {D : va_G} {cy ad am : Nat → Nat} {b N : Nat} {xs : Nat → Int32} (C : CX D cy R_La code tb_La_15 4 p s m #[Value.ref b] c (fun q => s.heap.size ≤ q)) (hX : va_X b N xs s s.heap) (hbl : b < s.heap.size) (hN : N ≤ 3072)
    (ho15 : ∀ (k : Nat) (a1 a2 : Int32) (I : Nat → Int32) (A : Nat → Nat → Int32) (T : Nat → Option Nat) (L : List Nat) (K : Nat → Nat) (F : Nat → Nat → Int32) (J : Nat → Int32) (B : Nat → Nat → Int32), k < 512 → isB a2 → Rel k I A T L K F J B → g_Pw_light I T L K F a1 a2 (fun r u => g_Mo_light J B a1 a2 (fun r2 v => r = r2 ∧ Rel (k + 1) I A T L K u J v)))
    (k : Nat) (I : Nat → Int32) (A : Nat → Nat → Int32) (T : Nat → Option Nat) (L : List Nat) (K : Nat → Nat) (F : Nat → Nat → Int32) (J : Nat → Int32) (B : Nat → Nat → Int32) (h6 : 6 * k + 6 ≤ N) (ih : ∀ (I : Nat → Int32) (A : Nat → Nat → Int32) (T : Nat → Option Nat) (L : List Nat) (K : Nat → Nat) (F : Nat → Nat → Int32) (J : Nat → Int32) (B : Nat → Nat → Int32) (H : Heap) (locs : List Loc) (ls : Array Slot), 6 * (k + 1) ≤ N → Rel (k + 1) I A T L K F J B → HXw D (fun q => s.heap.size ≤ q) s.heap H locs (wC cy ad I A T L K F ++ wM cy am J B) → lv_has ls 4 [(0, .ref b), (1, .ref (ad 0)), (2, .ref (am 0)), (3, .int (nI (6 * (k + 1))))] → W p l e room_1 s m #[Value.ref b] below meth c H locs (87 + (k + 1)) (28975 + 7 * (k + 1)) (lw_Z below #[Value.ref b] s) (F0 m 18 ls [])) (H : Heap) (locs : List Loc) (ls : Array Slot) (hR : Rel k I A T L K F J B) (h : HXw D (fun q => s.heap.size ≤ q) s.heap H locs (wC cy ad I A T L K F ++ wM cy am J B)) (hl : lv_has ls 4 [(0, .ref b), (1, .ref (ad 0)), (2, .ref (am 0)), (3, .int (nI (6 * k)))]) : W p l e room_1 s m #[Value.ref b] below meth c H locs (87 + k) (28975 + 7 * k) (lw_Z below #[Value.ref b] s) (F0 m 835 ls []) := by
  have hbA : ¬ (fun q => s.heap.size ≤ q) b := Nat.not_le.mpr hbl
  refine i_aload_n (n := 836) C 0 rfl rfl rfl hl 1 rfl ?_
  refine i_aload_n (n := 837) C 1 rfl rfl rfl hl 0 rfl ?_
  refine i_iload_n (n := 838) C 2 rfl rfl rfl hl 3 rfl ?_
  refine i_iconst (v := (1 : Int32)) (n := 839) C 3 rfl rfl rfl ?_
  refine i_iadd (n := 840) C 4 rfl rfl ?_
  refine i_sld (n := 841) C 5 rfl rfl h hX hbl hbA (law_in (j := 1) hN (by decide) h6) ?_
  refine i_aload_n (n := 842) C 6 rfl rfl rfl hl 0 rfl ?_
  refine i_iload_n (n := 843) C 7 rfl rfl rfl hl 3 rfl ?_
  refine i_iconst (v := (2 : Int32)) (n := 844) C 8 rfl rfl rfl ?_
  refine i_iadd (n := 845) C 9 rfl rfl ?_
  refine i_sld (n := 846) C 10 rfl rfl h hX hbl hbA (law_in (j := 2) hN (by decide) h6) ?_
  refine i_if_eq (tgt := 853) (n := 849) C 11 rfl rfl rfl (fun cb0 => ?_) (fun cb0 => ?_)
  · refine i_iconst (v := (0 : Int32)) (n := 854) C 14 rfl rfl rfl ?_
    have hw := ho15 k (xs ((nI (6 * k)) + (1 : Int32)).toNatClampNeg) (0 : Int32) I A T L K F J B (by omega) (by first | exact Or.inl rfl | exact Or.inr rfl) hR
    refine i_callVi (rest := []) (ci := 10) (qc := (R_Pw, T_Pw, 16)) (n := 857) C 15 rfl rfl hl h rfl wCM_c (kV_La_79 ⟨by decide, by decide⟩) (fr_iR (wM cy am J B) (m_Pw_light hw)) rfl rfl (Nat.le_of_ble_eq_true rfl) ⟨by show 87 + k + 0 ≤ 600000; omega, by show 28975 + 7 * k + 0 ≤ 7302250; omega⟩ (fun r u H locs hw h => ?_)
    have h : HXw D (fun q => s.heap.size ≤ q) s.heap H locs (wC cy ad I A T L K u ++ wM cy am J B) := h
    refine i_aload_n (n := 858) C 16 rfl rfl rfl hl 2 rfl ?_
    refine i_aload_n (n := 859) C 17 rfl rfl rfl hl 0 rfl ?_
    refine i_iload_n (n := 860) C 18 rfl rfl rfl hl 3 rfl ?_
    refine i_iconst (v := (1 : Int32)) (n := 861) C 19 rfl rfl rfl ?_
    refine i_iadd (n := 862) C 20 rfl rfl ?_
    refine i_sld (n := 863) C 21 rfl rfl h hX hbl hbA (law_in (j := 1) hN (by decide) h6) ?_
    refine i_aload_n (n := 864) C 22 rfl rfl rfl hl 0 rfl ?_
    refine i_iload_n (n := 865) C 23 rfl rfl rfl hl 3 rfl ?_
    refine i_iconst (v := (2 : Int32)) (n := 866) C 24 rfl rfl rfl ?_
    refine i_iadd (n := 867) C 25 rfl rfl ?_
    refine i_sld (n := 868) C 26 rfl rfl h hX hbl hbA (law_in (j := 2) hN (by decide) h6) ?_
    refine i_if_eq (tgt := 875) (n := 871) C 27 rfl rfl rfl (fun _ => ?_) (fun z => absurd cb0 z)
    refine i_iconst (v := (0 : Int32)) (n := 876) C 30 rfl rfl rfl ?_
    refine i_callVi (rest := [.int r]) (ci := 11) (qc := (R_Mo, T_Mo, 50)) (n := 879) C 31 rfl rfl hl h rfl wCM_m (kV_La_83 ⟨by decide, by decide⟩) (fr_iL (wC cy ad I A T L K u) (m_Mo_light hw)) rfl rfl (Nat.le_of_ble_eq_true rfl) ⟨by show 87 + k + 0 + 0 ≤ 600000; omega, by show 28975 + 7 * k + 0 + 0 ≤ 7302250; omega⟩ (fun r2 v H locs hw h => ?_)
    have h : HXw D (fun q => s.heap.size ≤ q) s.heap H locs (wC cy ad I A T L K u ++ wM cy am J v) := h
    obtain ⟨hrr, hR2⟩ := hw
    refine i_icmp_eq (tgt := 1624) (n := 882) C 32 rfl rfl rfl (fun _ => ?_) (fun z => absurd hrr z)
    refine i_iinc (v := nI (6 * (k + 1))) (lv' := [(3, .int (nI (6 * (k + 1)))), (0, .ref b), (1, .ref (ad 0)), (2, .ref (am 0))]) (n := 1627) C 35 rfl rfl hl 3 rfl (nI_add (6 * k) 6) (by decide) rfl (fun ls hl => ?_)
    refine i_goto (tgt := 18) C 36 rfl rfl ?_
    refine W.widen (k := 87 + (k + 1)) (n := 28975 + 7 * (k + 1)) (by omega) (by omega) ?_
    exact ih _ _ _ _ _ _ _ _ _ _ ls (by omega) hR2 h (lv_sub hl [1, 2, 3, 0] rfl)
  · refine i_iconst (v := (1 : Int32)) (n := 850) C 12 rfl rfl rfl ?_
    refine i_goto (tgt := 854) C 13 rfl rfl ?_
    have hw := ho15 k (xs ((nI (6 * k)) + (1 : Int32)).toNatClampNeg) (1 : Int32) I A T L K F J B (by omega) (by first | exact Or.inl rfl | exact Or.inr rfl) hR
    refine i_callVi (rest := []) (ci := 10) (qc := (R_Pw, T_Pw, 16)) (n := 857) C 15 rfl rfl hl h rfl wCM_c (kV_La_79 ⟨by decide, by decide⟩) (fr_iR (wM cy am J B) (m_Pw_light hw)) rfl rfl (Nat.le_of_ble_eq_true rfl) ⟨by show 87 + k + 0 ≤ 600000; omega, by show 28975 + 7 * k + 0 ≤ 7302250; omega⟩ (fun r u H locs hw h => ?_)
    have h : HXw D (fun q => s.heap.size ≤ q) s.heap H locs (wC cy ad I A T L K u ++ wM cy am J B) := h
    refine i_aload_n (n := 858) C 16 rfl rfl rfl hl 2 rfl ?_
    refine i_aload_n (n := 859) C 17 rfl rfl rfl hl 0 rfl ?_
    refine i_iload_n (n := 860) C 18 rfl rfl rfl hl 3 rfl ?_
    refine i_iconst (v := (1 : Int32)) (n := 861) C 19 rfl rfl rfl ?_
    refine i_iadd (n := 862) C 20 rfl rfl ?_
    refine i_sld (n := 863) C 21 rfl rfl h hX hbl hbA (law_in (j := 1) hN (by decide) h6) ?_
    refine i_aload_n (n := 864) C 22 rfl rfl rfl hl 0 rfl ?_
    refine i_iload_n (n := 865) C 23 rfl rfl rfl hl 3 rfl ?_
    refine i_iconst (v := (2 : Int32)) (n := 866) C 24 rfl rfl rfl ?_
    refine i_iadd (n := 867) C 25 rfl rfl ?_
    refine i_sld (n := 868) C 26 rfl rfl h hX hbl hbA (law_in (j := 2) hN (by decide) h6) ?_
    refine i_if_eq (tgt := 875) (n := 871) C 27 rfl rfl rfl (fun z => absurd z cb0) (fun _ => ?_)
    refine i_iconst (v := (1 : Int32)) (n := 872) C 28 rfl rfl rfl ?_
    refine i_goto (tgt := 876) C 29 rfl rfl ?_
    refine i_callVi (rest := [.int r]) (ci := 11) (qc := (R_Mo, T_Mo, 50)) (n := 879) C 31 rfl rfl hl h rfl wCM_m (kV_La_83 ⟨by decide, by decide⟩) (fr_iL (wC cy ad I A T L K u) (m_Mo_light hw)) rfl rfl (Nat.le_of_ble_eq_true rfl) ⟨by show 87 + k + 0 + 0 ≤ 600000; omega, by show 28975 + 7 * k + 0 + 0 ≤ 7302250; omega⟩ (fun r2 v H locs hw h => ?_)
    have h : HXw D (fun q => s.heap.size ≤ q) s.heap H locs (wC cy ad I A T L K u ++ wM cy am J v) := h
    obtain ⟨hrr, hR2⟩ := hw
    refine i_icmp_eq (tgt := 1624) (n := 882) C 32 rfl rfl rfl (fun _ => ?_) (fun z => absurd hrr z)
    refine i_iinc (v := nI (6 * (k + 1))) (lv' := [(3, .int (nI (6 * (k + 1)))), (0, .ref b), (1, .ref (ad 0)), (2, .ref (am 0))]) (n := 1627) C 35 rfl rfl hl 3 rfl (nI_add (6 * k) 6) (by decide) rfl (fun ls hl => ?_)
    refine i_goto (tgt := 18) C 36 rfl rfl ?_
    refine W.widen (k := 87 + (k + 1)) (n := 28975 + 7 * (k + 1)) (by omega) (by omega) ?_
    exact ih _ _ _ _ _ _ _ _ _ _ ls (by omega) hR2 h (lv_sub hl [1, 2, 3, 0] rfl)
set_option maxHeartbeats 4000000 in
set_option maxRecDepth 100000 in
theorem law_16 {Rel : Nat → (Nat → Int32) → (Nat → Nat → Int32) → (Nat → Option Nat) → List Nat → (Nat → Nat) → (Nat → Nat → Int32) → (Nat → Int32) → (Nat → Nat → Int32) → Prop} {p : Program} {l : Launch} {e : Env} {s : State} {m : MethodId} {below : List Frame} {meth : Method} {c : Code} {D : va_G} {cy ad am : Nat → Nat} {b N : Nat} {xs : Nat → Int32} (C : CX D cy R_La code tb_La_16 4 p s m #[Value.ref b] c (fun q => s.heap.size ≤ q)) (hX : va_X b N xs s s.heap) (hbl : b < s.heap.size) (hN : N ≤ 3072)
    (ho16 : ∀ (k : Nat) (a1 : Int32) (I : Nat → Int32) (A : Nat → Nat → Int32) (T : Nat → Option Nat) (L : List Nat) (K : Nat → Nat) (F : Nat → Nat → Int32) (J : Nat → Int32) (B : Nat → Nat → Int32), k < 512 → Rel k I A T L K F J B → g_Pw_found I T L K F a1 (fun r u => g_Mo_found J B a1 (fun r2 v => r = r2 ∧ Rel (k + 1) I A T L K u J v)))
    (k : Nat) (I : Nat → Int32) (A : Nat → Nat → Int32) (T : Nat → Option Nat) (L : List Nat) (K : Nat → Nat) (F : Nat → Nat → Int32) (J : Nat → Int32) (B : Nat → Nat → Int32) (h6 : 6 * k + 6 ≤ N) (ih : ∀ (I : Nat → Int32) (A : Nat → Nat → Int32) (T : Nat → Option Nat) (L : List Nat) (K : Nat → Nat) (F : Nat → Nat → Int32) (J : Nat → Int32) (B : Nat → Nat → Int32) (H : Heap) (locs : List Loc) (ls : Array Slot), 6 * (k + 1) ≤ N → Rel (k + 1) I A T L K F J B → HXw D (fun q => s.heap.size ≤ q) s.heap H locs (wC cy ad I A T L K F ++ wM cy am J B) → lv_has ls 4 [(0, .ref b), (1, .ref (ad 0)), (2, .ref (am 0)), (3, .int (nI (6 * (k + 1))))] → W p l e room_1 s m #[Value.ref b] below meth c H locs (87 + (k + 1)) (28975 + 7 * (k + 1)) (lw_Z below #[Value.ref b] s) (F0 m 18 ls [])) (H : Heap) (locs : List Loc) (ls : Array Slot) (hR : Rel k I A T L K F J B) (h : HXw D (fun q => s.heap.size ≤ q) s.heap H locs (wC cy ad I A T L K F ++ wM cy am J B)) (hl : lv_has ls 4 [(0, .ref b), (1, .ref (ad 0)), (2, .ref (am 0)), (3, .int (nI (6 * k)))]) : W p l e room_1 s m #[Value.ref b] below meth c H locs (87 + k) (28975 + 7 * k) (lw_Z below #[Value.ref b] s) (F0 m 884 ls []) := by
  have hbA : ¬ (fun q => s.heap.size ≤ q) b := Nat.not_le.mpr hbl
  refine i_aload_n (n := 885) C 0 rfl rfl rfl hl 1 rfl ?_
  refine i_aload_n (n := 886) C 1 rfl rfl rfl hl 0 rfl ?_
  refine i_iload_n (n := 887) C 2 rfl rfl rfl hl 3 rfl ?_
  refine i_iconst (v := (1 : Int32)) (n := 888) C 3 rfl rfl rfl ?_
  refine i_iadd (n := 889) C 4 rfl rfl ?_
  refine i_sld (n := 890) C 5 rfl rfl h hX hbl hbA (law_in (j := 1) hN (by decide) h6) ?_
  have hw := ho16 k (xs ((nI (6 * k)) + (1 : Int32)).toNatClampNeg) I A T L K F J B (by omega) hR
  refine i_callVi (rest := []) (ci := 10) (qc := (R_Pw, T_Pw, 16)) (n := 893) C 6 rfl rfl hl h rfl wCM_c (kV_La_84 ⟨by decide, by decide⟩) (fr_iR (wM cy am J B) (m_Pw_found hw)) rfl rfl (Nat.le_of_ble_eq_true rfl) ⟨by show 87 + k + 0 ≤ 600000; omega, by show 28975 + 7 * k + 0 ≤ 7302250; omega⟩ (fun r u H locs hw h => ?_)
  have h : HXw D (fun q => s.heap.size ≤ q) s.heap H locs (wC cy ad I A T L K u ++ wM cy am J B) := h
  refine i_aload_n (n := 894) C 7 rfl rfl rfl hl 2 rfl ?_
  refine i_aload_n (n := 895) C 8 rfl rfl rfl hl 0 rfl ?_
  refine i_iload_n (n := 896) C 9 rfl rfl rfl hl 3 rfl ?_
  refine i_iconst (v := (1 : Int32)) (n := 897) C 10 rfl rfl rfl ?_
  refine i_iadd (n := 898) C 11 rfl rfl ?_
  refine i_sld (n := 899) C 12 rfl rfl h hX hbl hbA (law_in (j := 1) hN (by decide) h6) ?_
  refine i_callVi (rest := [.int r]) (ci := 11) (qc := (R_Mo, T_Mo, 50)) (n := 902) C 13 rfl rfl hl h rfl wCM_m (kV_La_87 ⟨by decide, by decide⟩) (fr_iL (wC cy ad I A T L K u) (m_Mo_found hw)) rfl rfl (Nat.le_of_ble_eq_true rfl) ⟨by show 87 + k + 0 + 0 ≤ 600000; omega, by show 28975 + 7 * k + 0 + 0 ≤ 7302250; omega⟩ (fun r2 v H locs hw h => ?_)
  have h : HXw D (fun q => s.heap.size ≤ q) s.heap H locs (wC cy ad I A T L K u ++ wM cy am J v) := h
  obtain ⟨hrr, hR2⟩ := hw
  refine i_icmp_eq (tgt := 1624) (n := 905) C 14 rfl rfl rfl (fun _ => ?_) (fun z => absurd hrr z)
  refine i_iinc (v := nI (6 * (k + 1))) (lv' := [(3, .int (nI (6 * (k + 1)))), (0, .ref b), (1, .ref (ad 0)), (2, .ref (am 0))]) (n := 1627) C 17 rfl rfl hl 3 rfl (nI_add (6 * k) 6) (by decide) rfl (fun ls hl => ?_)
  refine i_goto (tgt := 18) C 18 rfl rfl ?_
  refine W.widen (k := 87 + (k + 1)) (n := 28975 + 7 * (k + 1)) (by omega) (by omega) ?_
  exact ih _ _ _ _ _ _ _ _ _ _ ls (by omega) hR2 h (lv_sub hl [1, 2, 3, 0] rfl)
set_option maxHeartbeats 4000000 in
set_option maxRecDepth 100000 in
theorem law_17 {Rel : Nat → (Nat → Int32) → (Nat → Nat → Int32) → (Nat → Option Nat) → List Nat → (Nat → Nat) → (Nat → Nat → Int32) → (Nat → Int32) → (Nat → Nat → Int32) → Prop} {p : Program} {l : Launch} {e : Env} {s : State} {m : MethodId} {below : List Frame} {meth : Method} {c : Code} {D : va_G} {cy ad am : Nat → Nat} {b N : Nat} {xs : Nat → Int32} (C : CX D cy R_La code tb_La_17 4 p s m #[Value.ref b] c (fun q => s.heap.size ≤ q)) (hX : va_X b N xs s s.heap) (hbl : b < s.heap.size) (hN : N ≤ 3072)
    (ho17 : ∀ (k : Nat) (I : Nat → Int32) (A : Nat → Nat → Int32) (T : Nat → Option Nat) (L : List Nat) (K : Nat → Nat) (F : Nat → Nat → Int32) (J : Nat → Int32) (B : Nat → Nat → Int32), k < 512 → Rel k I A T L K F J B → g_Pw_work I A T L K F (fun r u => g_Mo_work J B (fun r2 v => r = r2 ∧ Rel (k + 1) u.1 u.2 T L K F v.1 v.2)))
    (k : Nat) (I : Nat → Int32) (A : Nat → Nat → Int32) (T : Nat → Option Nat) (L : List Nat) (K : Nat → Nat) (F : Nat → Nat → Int32) (J : Nat → Int32) (B : Nat → Nat → Int32) (h6 : 6 * k + 6 ≤ N) (ih : ∀ (I : Nat → Int32) (A : Nat → Nat → Int32) (T : Nat → Option Nat) (L : List Nat) (K : Nat → Nat) (F : Nat → Nat → Int32) (J : Nat → Int32) (B : Nat → Nat → Int32) (H : Heap) (locs : List Loc) (ls : Array Slot), 6 * (k + 1) ≤ N → Rel (k + 1) I A T L K F J B → HXw D (fun q => s.heap.size ≤ q) s.heap H locs (wC cy ad I A T L K F ++ wM cy am J B) → lv_has ls 4 [(0, .ref b), (1, .ref (ad 0)), (2, .ref (am 0)), (3, .int (nI (6 * (k + 1))))] → W p l e room_1 s m #[Value.ref b] below meth c H locs (87 + (k + 1)) (28975 + 7 * (k + 1)) (lw_Z below #[Value.ref b] s) (F0 m 18 ls [])) (H : Heap) (locs : List Loc) (ls : Array Slot) (hR : Rel k I A T L K F J B) (h : HXw D (fun q => s.heap.size ≤ q) s.heap H locs (wC cy ad I A T L K F ++ wM cy am J B)) (hl : lv_has ls 4 [(0, .ref b), (1, .ref (ad 0)), (2, .ref (am 0)), (3, .int (nI (6 * k)))]) : W p l e room_1 s m #[Value.ref b] below meth c H locs (87 + k) (28975 + 7 * k) (lw_Z below #[Value.ref b] s) (F0 m 907 ls []) := by
  have hbA : ¬ (fun q => s.heap.size ≤ q) b := Nat.not_le.mpr hbl
  refine i_aload_n (n := 908) C 0 rfl rfl rfl hl 1 rfl ?_
  have hw := ho17 k  I A T L K F J B (by omega) hR
  refine i_callVi (rest := []) (ci := 10) (qc := (R_Pw, T_Pw, 16)) (n := 911) C 1 rfl rfl hl h rfl wCM_c (kV_La_88 ⟨by decide, by decide⟩) (fr_iR (wM cy am J B) (m_Pw_work hw)) rfl rfl (Nat.le_of_ble_eq_true rfl) ⟨by show 87 + k + 0 ≤ 600000; omega, by show 28975 + 7 * k + 0 ≤ 7302250; omega⟩ (fun r u H locs hw h => ?_)
  have h : HXw D (fun q => s.heap.size ≤ q) s.heap H locs (wC cy ad u.1 u.2 T L K F ++ wM cy am J B) := h
  refine i_aload_n (n := 912) C 2 rfl rfl rfl hl 2 rfl ?_
  refine i_callVi (rest := [.int r]) (ci := 11) (qc := (R_Mo, T_Mo, 50)) (n := 915) C 3 rfl rfl hl h rfl wCM_m (kV_La_92 ⟨by decide, by decide⟩) (fr_iL (wC cy ad u.1 u.2 T L K F) (m_Mo_work hw)) rfl rfl (Nat.le_of_ble_eq_true rfl) ⟨by show 87 + k + 0 + 0 ≤ 600000; omega, by show 28975 + 7 * k + 0 + 0 ≤ 7302250; omega⟩ (fun r2 v H locs hw h => ?_)
  have h : HXw D (fun q => s.heap.size ≤ q) s.heap H locs (wC cy ad u.1 u.2 T L K F ++ wM cy am v.1 v.2) := h
  obtain ⟨hrr, hR2⟩ := hw
  refine i_icmp_eq (tgt := 1624) (n := 918) C 4 rfl rfl rfl (fun _ => ?_) (fun z => absurd hrr z)
  refine i_iinc (v := nI (6 * (k + 1))) (lv' := [(3, .int (nI (6 * (k + 1)))), (0, .ref b), (1, .ref (ad 0)), (2, .ref (am 0))]) (n := 1627) C 7 rfl rfl hl 3 rfl (nI_add (6 * k) 6) (by decide) rfl (fun ls hl => ?_)
  refine i_goto (tgt := 18) C 8 rfl rfl ?_
  refine W.widen (k := 87 + (k + 1)) (n := 28975 + 7 * (k + 1)) (by omega) (by omega) ?_
  exact ih _ _ _ _ _ _ _ _ _ _ ls (by omega) hR2 h (lv_sub hl [1, 2, 3, 0] rfl)
set_option maxHeartbeats 4000000 in
set_option maxRecDepth 100000 in
theorem law_18 {Rel : Nat → (Nat → Int32) → (Nat → Nat → Int32) → (Nat → Option Nat) → List Nat → (Nat → Nat) → (Nat → Nat → Int32) → (Nat → Int32) → (Nat → Nat → Int32) → Prop} {p : Program} {l : Launch} {e : Env} {s : State} {m : MethodId} {below : List Frame} {meth : Method} {c : Code} {D : va_G} {cy ad am : Nat → Nat} {b N : Nat} {xs : Nat → Int32} (C : CX D cy R_La code tb_La_18 4 p s m #[Value.ref b] c (fun q => s.heap.size ≤ q)) (hX : va_X b N xs s s.heap) (hbl : b < s.heap.size) (hN : N ≤ 3072)
    (ho18 : ∀ (k : Nat) (a1 : Int32) (I : Nat → Int32) (A : Nat → Nat → Int32) (T : Nat → Option Nat) (L : List Nat) (K : Nat → Nat) (F : Nat → Nat → Int32) (J : Nat → Int32) (B : Nat → Nat → Int32), k < 512 → Rel k I A T L K F J B → g_Pw_near I a1 (fun r u => g_Mo_near J a1 (fun r2 v => r = r2 ∧ Rel (k + 1) u A T L K F v B)))
    (k : Nat) (I : Nat → Int32) (A : Nat → Nat → Int32) (T : Nat → Option Nat) (L : List Nat) (K : Nat → Nat) (F : Nat → Nat → Int32) (J : Nat → Int32) (B : Nat → Nat → Int32) (h6 : 6 * k + 6 ≤ N) (ih : ∀ (I : Nat → Int32) (A : Nat → Nat → Int32) (T : Nat → Option Nat) (L : List Nat) (K : Nat → Nat) (F : Nat → Nat → Int32) (J : Nat → Int32) (B : Nat → Nat → Int32) (H : Heap) (locs : List Loc) (ls : Array Slot), 6 * (k + 1) ≤ N → Rel (k + 1) I A T L K F J B → HXw D (fun q => s.heap.size ≤ q) s.heap H locs (wC cy ad I A T L K F ++ wM cy am J B) → lv_has ls 4 [(0, .ref b), (1, .ref (ad 0)), (2, .ref (am 0)), (3, .int (nI (6 * (k + 1))))] → W p l e room_1 s m #[Value.ref b] below meth c H locs (87 + (k + 1)) (28975 + 7 * (k + 1)) (lw_Z below #[Value.ref b] s) (F0 m 18 ls [])) (H : Heap) (locs : List Loc) (ls : Array Slot) (hR : Rel k I A T L K F J B) (h : HXw D (fun q => s.heap.size ≤ q) s.heap H locs (wC cy ad I A T L K F ++ wM cy am J B)) (hl : lv_has ls 4 [(0, .ref b), (1, .ref (ad 0)), (2, .ref (am 0)), (3, .int (nI (6 * k)))]) : W p l e room_1 s m #[Value.ref b] below meth c H locs (87 + k) (28975 + 7 * k) (lw_Z below #[Value.ref b] s) (F0 m 920 ls []) := by
  have hbA : ¬ (fun q => s.heap.size ≤ q) b := Nat.not_le.mpr hbl
  refine i_aload_n (n := 921) C 0 rfl rfl rfl hl 1 rfl ?_
  refine i_aload_n (n := 922) C 1 rfl rfl rfl hl 0 rfl ?_
  refine i_iload_n (n := 923) C 2 rfl rfl rfl hl 3 rfl ?_
  refine i_iconst (v := (1 : Int32)) (n := 924) C 3 rfl rfl rfl ?_
  refine i_iadd (n := 925) C 4 rfl rfl ?_
  refine i_sld (n := 926) C 5 rfl rfl h hX hbl hbA (law_in (j := 1) hN (by decide) h6) ?_
  have hw := ho18 k (xs ((nI (6 * k)) + (1 : Int32)).toNatClampNeg) I A T L K F J B (by omega) hR
  refine i_callVi (rest := []) (ci := 10) (qc := (R_Pw, T_Pw, 16)) (n := 929) C 6 rfl rfl hl h rfl wCM_c (kV_La_93 ⟨by decide, by decide⟩) (fr_iR (wM cy am J B) (m_Pw_near hw)) rfl rfl (Nat.le_of_ble_eq_true rfl) ⟨by show 87 + k + 0 ≤ 600000; omega, by show 28975 + 7 * k + 0 ≤ 7302250; omega⟩ (fun r u H locs hw h => ?_)
  have h : HXw D (fun q => s.heap.size ≤ q) s.heap H locs (wC cy ad u A T L K F ++ wM cy am J B) := h
  refine i_aload_n (n := 930) C 7 rfl rfl rfl hl 2 rfl ?_
  refine i_aload_n (n := 931) C 8 rfl rfl rfl hl 0 rfl ?_
  refine i_iload_n (n := 932) C 9 rfl rfl rfl hl 3 rfl ?_
  refine i_iconst (v := (1 : Int32)) (n := 933) C 10 rfl rfl rfl ?_
  refine i_iadd (n := 934) C 11 rfl rfl ?_
  refine i_sld (n := 935) C 12 rfl rfl h hX hbl hbA (law_in (j := 1) hN (by decide) h6) ?_
  refine i_callVi (rest := [.int r]) (ci := 11) (qc := (R_Mo, T_Mo, 50)) (n := 938) C 13 rfl rfl hl h rfl wCM_m (kV_La_96 ⟨by decide, by decide⟩) (fr_iL (wC cy ad u A T L K F) (m_Mo_near hw)) rfl rfl (Nat.le_of_ble_eq_true rfl) ⟨by show 87 + k + 0 + 0 ≤ 600000; omega, by show 28975 + 7 * k + 0 + 0 ≤ 7302250; omega⟩ (fun r2 v H locs hw h => ?_)
  have h : HXw D (fun q => s.heap.size ≤ q) s.heap H locs (wC cy ad u A T L K F ++ wM cy am v B) := h
  obtain ⟨hrr, hR2⟩ := hw
  refine i_icmp_eq (tgt := 1624) (n := 941) C 14 rfl rfl rfl (fun _ => ?_) (fun z => absurd hrr z)
  refine i_iinc (v := nI (6 * (k + 1))) (lv' := [(3, .int (nI (6 * (k + 1)))), (0, .ref b), (1, .ref (ad 0)), (2, .ref (am 0))]) (n := 1627) C 17 rfl rfl hl 3 rfl (nI_add (6 * k) 6) (by decide) rfl (fun ls hl => ?_)
  refine i_goto (tgt := 18) C 18 rfl rfl ?_
  refine W.widen (k := 87 + (k + 1)) (n := 28975 + 7 * (k + 1)) (by omega) (by omega) ?_
  exact ih _ _ _ _ _ _ _ _ _ _ ls (by omega) hR2 h (lv_sub hl [1, 2, 3, 0] rfl)
set_option maxHeartbeats 4000000 in
set_option maxRecDepth 100000 in
theorem law_19 {Rel : Nat → (Nat → Int32) → (Nat → Nat → Int32) → (Nat → Option Nat) → List Nat → (Nat → Nat) → (Nat → Nat → Int32) → (Nat → Int32) → (Nat → Nat → Int32) → Prop} {p : Program} {l : Launch} {e : Env} {s : State} {m : MethodId} {below : List Frame} {meth : Method} {c : Code} {D : va_G} {cy ad am : Nat → Nat} {b N : Nat} {xs : Nat → Int32} (C : CX D cy R_La code tb_La_19 4 p s m #[Value.ref b] c (fun q => s.heap.size ≤ q)) (hX : va_X b N xs s s.heap) (hbl : b < s.heap.size) (hN : N ≤ 3072)
    (ho19 : ∀ (k : Nat) (a1 a2 : Int32) (I : Nat → Int32) (A : Nat → Nat → Int32) (T : Nat → Option Nat) (L : List Nat) (K : Nat → Nat) (F : Nat → Nat → Int32) (J : Nat → Int32) (B : Nat → Nat → Int32), k < 512 → Rel k I A T L K F J B → g_Pw_press I A a1 a2 (fun r => g_Mo_press J B a1 a2 (fun r2 => r = r2 ∧ Rel (k + 1) I A T L K F J B)))
    (k : Nat) (I : Nat → Int32) (A : Nat → Nat → Int32) (T : Nat → Option Nat) (L : List Nat) (K : Nat → Nat) (F : Nat → Nat → Int32) (J : Nat → Int32) (B : Nat → Nat → Int32) (h6 : 6 * k + 6 ≤ N) (ih : ∀ (I : Nat → Int32) (A : Nat → Nat → Int32) (T : Nat → Option Nat) (L : List Nat) (K : Nat → Nat) (F : Nat → Nat → Int32) (J : Nat → Int32) (B : Nat → Nat → Int32) (H : Heap) (locs : List Loc) (ls : Array Slot), 6 * (k + 1) ≤ N → Rel (k + 1) I A T L K F J B → HXw D (fun q => s.heap.size ≤ q) s.heap H locs (wC cy ad I A T L K F ++ wM cy am J B) → lv_has ls 4 [(0, .ref b), (1, .ref (ad 0)), (2, .ref (am 0)), (3, .int (nI (6 * (k + 1))))] → W p l e room_1 s m #[Value.ref b] below meth c H locs (87 + (k + 1)) (28975 + 7 * (k + 1)) (lw_Z below #[Value.ref b] s) (F0 m 18 ls [])) (H : Heap) (locs : List Loc) (ls : Array Slot) (hR : Rel k I A T L K F J B) (h : HXw D (fun q => s.heap.size ≤ q) s.heap H locs (wC cy ad I A T L K F ++ wM cy am J B)) (hl : lv_has ls 4 [(0, .ref b), (1, .ref (ad 0)), (2, .ref (am 0)), (3, .int (nI (6 * k)))]) : W p l e room_1 s m #[Value.ref b] below meth c H locs (87 + k) (28975 + 7 * k) (lw_Z below #[Value.ref b] s) (F0 m 943 ls []) := by
  have hbA : ¬ (fun q => s.heap.size ≤ q) b := Nat.not_le.mpr hbl
  refine i_aload_n (n := 944) C 0 rfl rfl rfl hl 1 rfl ?_
  refine i_aload_n (n := 945) C 1 rfl rfl rfl hl 0 rfl ?_
  refine i_iload_n (n := 946) C 2 rfl rfl rfl hl 3 rfl ?_
  refine i_iconst (v := (1 : Int32)) (n := 947) C 3 rfl rfl rfl ?_
  refine i_iadd (n := 948) C 4 rfl rfl ?_
  refine i_sld (n := 949) C 5 rfl rfl h hX hbl hbA (law_in (j := 1) hN (by decide) h6) ?_
  refine i_aload_n (n := 950) C 6 rfl rfl rfl hl 0 rfl ?_
  refine i_iload_n (n := 951) C 7 rfl rfl rfl hl 3 rfl ?_
  refine i_iconst (v := (2 : Int32)) (n := 952) C 8 rfl rfl rfl ?_
  refine i_iadd (n := 953) C 9 rfl rfl ?_
  refine i_sld (n := 954) C 10 rfl rfl h hX hbl hbA (law_in (j := 2) hN (by decide) h6) ?_
  have hw := ho19 k (xs ((nI (6 * k)) + (1 : Int32)).toNatClampNeg) (xs ((nI (6 * k)) + (2 : Int32)).toNatClampNeg) I A T L K F J B (by omega) hR
  refine i_callVp (rest := []) (ci := 10) (qc := (R_Pw, T_Pw, 16)) (n := 957) C 11 rfl rfl hl h rfl wCM_c (kV_La_97 ⟨by decide, by decide⟩) (fr_pR (wM cy am J B) (m_Pw_press hw)) rfl rfl (Nat.le_of_ble_eq_true rfl) ⟨by show 87 + k ≤ 600000; omega, by show 28975 + 7 * k ≤ 7302250; omega⟩ (fun r hw => ?_)
  refine i_aload_n (n := 958) C 12 rfl rfl rfl hl 2 rfl ?_
  refine i_aload_n (n := 959) C 13 rfl rfl rfl hl 0 rfl ?_
  refine i_iload_n (n := 960) C 14 rfl rfl rfl hl 3 rfl ?_
  refine i_iconst (v := (1 : Int32)) (n := 961) C 15 rfl rfl rfl ?_
  refine i_iadd (n := 962) C 16 rfl rfl ?_
  refine i_sld (n := 963) C 17 rfl rfl h hX hbl hbA (law_in (j := 1) hN (by decide) h6) ?_
  refine i_aload_n (n := 964) C 18 rfl rfl rfl hl 0 rfl ?_
  refine i_iload_n (n := 965) C 19 rfl rfl rfl hl 3 rfl ?_
  refine i_iconst (v := (2 : Int32)) (n := 966) C 20 rfl rfl rfl ?_
  refine i_iadd (n := 967) C 21 rfl rfl ?_
  refine i_sld (n := 968) C 22 rfl rfl h hX hbl hbA (law_in (j := 2) hN (by decide) h6) ?_
  refine i_callVp (rest := [.int r]) (ci := 11) (qc := (R_Mo, T_Mo, 50)) (n := 971) C 23 rfl rfl hl h rfl wCM_m (kV_La_100 ⟨by decide, by decide⟩) (fr_pL (wC cy ad I A T L K F) (m_Mo_press hw)) rfl rfl (Nat.le_of_ble_eq_true rfl) ⟨by show 87 + k ≤ 600000; omega, by show 28975 + 7 * k ≤ 7302250; omega⟩ (fun r2 hw => ?_)
  obtain ⟨hrr, hR2⟩ := hw
  refine i_icmp_eq (tgt := 1624) (n := 974) C 24 rfl rfl rfl (fun _ => ?_) (fun z => absurd hrr z)
  refine i_iinc (v := nI (6 * (k + 1))) (lv' := [(3, .int (nI (6 * (k + 1)))), (0, .ref b), (1, .ref (ad 0)), (2, .ref (am 0))]) (n := 1627) C 27 rfl rfl hl 3 rfl (nI_add (6 * k) 6) (by decide) rfl (fun ls hl => ?_)
  refine i_goto (tgt := 18) C 28 rfl rfl ?_
  refine W.widen (k := 87 + (k + 1)) (n := 28975 + 7 * (k + 1)) (by omega) (by omega) ?_
  exact ih _ _ _ _ _ _ _ _ _ _ ls (by omega) hR2 h (lv_sub hl [1, 2, 3, 0] rfl)
set_option maxHeartbeats 4000000 in
set_option maxRecDepth 100000 in
theorem law_20 {Rel : Nat → (Nat → Int32) → (Nat → Nat → Int32) → (Nat → Option Nat) → List Nat → (Nat → Nat) → (Nat → Nat → Int32) → (Nat → Int32) → (Nat → Nat → Int32) → Prop} {p : Program} {l : Launch} {e : Env} {s : State} {m : MethodId} {below : List Frame} {meth : Method} {c : Code} {D : va_G} {cy ad am : Nat → Nat} {b N : Nat} {xs : Nat → Int32} (C : CX D cy R_La code tb_La_20 4 p s m #[Value.ref b] c (fun q => s.heap.size ≤ q)) (hX : va_X b N xs s s.heap) (hbl : b < s.heap.size) (hN : N ≤ 3072)
    (ho20 : ∀ (k : Nat) (a1 : Int32) (I : Nat → Int32) (A : Nat → Nat → Int32) (T : Nat → Option Nat) (L : List Nat) (K : Nat → Nat) (F : Nat → Nat → Int32) (J : Nat → Int32) (B : Nat → Nat → Int32), k < 512 → Rel k I A T L K F J B → g_Pw_flow I A a1 (fun r => g_Mo_flow J B a1 (fun r2 => r = r2 ∧ Rel (k + 1) I A T L K F J B)))
    (k : Nat) (I : Nat → Int32) (A : Nat → Nat → Int32) (T : Nat → Option Nat) (L : List Nat) (K : Nat → Nat) (F : Nat → Nat → Int32) (J : Nat → Int32) (B : Nat → Nat → Int32) (h6 : 6 * k + 6 ≤ N) (ih : ∀ (I : Nat → Int32) (A : Nat → Nat → Int32) (T : Nat → Option Nat) (L : List Nat) (K : Nat → Nat) (F : Nat → Nat → Int32) (J : Nat → Int32) (B : Nat → Nat → Int32) (H : Heap) (locs : List Loc) (ls : Array Slot), 6 * (k + 1) ≤ N → Rel (k + 1) I A T L K F J B → HXw D (fun q => s.heap.size ≤ q) s.heap H locs (wC cy ad I A T L K F ++ wM cy am J B) → lv_has ls 4 [(0, .ref b), (1, .ref (ad 0)), (2, .ref (am 0)), (3, .int (nI (6 * (k + 1))))] → W p l e room_1 s m #[Value.ref b] below meth c H locs (87 + (k + 1)) (28975 + 7 * (k + 1)) (lw_Z below #[Value.ref b] s) (F0 m 18 ls [])) (H : Heap) (locs : List Loc) (ls : Array Slot) (hR : Rel k I A T L K F J B) (h : HXw D (fun q => s.heap.size ≤ q) s.heap H locs (wC cy ad I A T L K F ++ wM cy am J B)) (hl : lv_has ls 4 [(0, .ref b), (1, .ref (ad 0)), (2, .ref (am 0)), (3, .int (nI (6 * k)))]) : W p l e room_1 s m #[Value.ref b] below meth c H locs (87 + k) (28975 + 7 * k) (lw_Z below #[Value.ref b] s) (F0 m 976 ls []) := by
  have hbA : ¬ (fun q => s.heap.size ≤ q) b := Nat.not_le.mpr hbl
  refine i_aload_n (n := 977) C 0 rfl rfl rfl hl 1 rfl ?_
  refine i_aload_n (n := 978) C 1 rfl rfl rfl hl 0 rfl ?_
  refine i_iload_n (n := 979) C 2 rfl rfl rfl hl 3 rfl ?_
  refine i_iconst (v := (1 : Int32)) (n := 980) C 3 rfl rfl rfl ?_
  refine i_iadd (n := 981) C 4 rfl rfl ?_
  refine i_sld (n := 982) C 5 rfl rfl h hX hbl hbA (law_in (j := 1) hN (by decide) h6) ?_
  have hw := ho20 k (xs ((nI (6 * k)) + (1 : Int32)).toNatClampNeg) I A T L K F J B (by omega) hR
  refine i_callVp (rest := []) (ci := 10) (qc := (R_Pw, T_Pw, 16)) (n := 985) C 6 rfl rfl hl h rfl wCM_c (kV_La_101 ⟨by decide, by decide⟩) (fr_pR (wM cy am J B) (m_Pw_flow hw)) rfl rfl (Nat.le_of_ble_eq_true rfl) ⟨by show 87 + k ≤ 600000; omega, by show 28975 + 7 * k ≤ 7302250; omega⟩ (fun r hw => ?_)
  refine i_aload_n (n := 986) C 7 rfl rfl rfl hl 2 rfl ?_
  refine i_aload_n (n := 987) C 8 rfl rfl rfl hl 0 rfl ?_
  refine i_iload_n (n := 988) C 9 rfl rfl rfl hl 3 rfl ?_
  refine i_iconst (v := (1 : Int32)) (n := 989) C 10 rfl rfl rfl ?_
  refine i_iadd (n := 990) C 11 rfl rfl ?_
  refine i_sld (n := 991) C 12 rfl rfl h hX hbl hbA (law_in (j := 1) hN (by decide) h6) ?_
  refine i_callVp (rest := [.int r]) (ci := 11) (qc := (R_Mo, T_Mo, 50)) (n := 994) C 13 rfl rfl hl h rfl wCM_m (kV_La_104 ⟨by decide, by decide⟩) (fr_pL (wC cy ad I A T L K F) (m_Mo_flow hw)) rfl rfl (Nat.le_of_ble_eq_true rfl) ⟨by show 87 + k ≤ 600000; omega, by show 28975 + 7 * k ≤ 7302250; omega⟩ (fun r2 hw => ?_)
  obtain ⟨hrr, hR2⟩ := hw
  refine i_icmp_eq (tgt := 1624) (n := 997) C 14 rfl rfl rfl (fun _ => ?_) (fun z => absurd hrr z)
  refine i_iinc (v := nI (6 * (k + 1))) (lv' := [(3, .int (nI (6 * (k + 1)))), (0, .ref b), (1, .ref (ad 0)), (2, .ref (am 0))]) (n := 1627) C 17 rfl rfl hl 3 rfl (nI_add (6 * k) 6) (by decide) rfl (fun ls hl => ?_)
  refine i_goto (tgt := 18) C 18 rfl rfl ?_
  refine W.widen (k := 87 + (k + 1)) (n := 28975 + 7 * (k + 1)) (by omega) (by omega) ?_
  exact ih _ _ _ _ _ _ _ _ _ _ ls (by omega) hR2 h (lv_sub hl [1, 2, 3, 0] rfl)
set_option maxHeartbeats 4000000 in
set_option maxRecDepth 100000 in
theorem law_21 {Rel : Nat → (Nat → Int32) → (Nat → Nat → Int32) → (Nat → Option Nat) → List Nat → (Nat → Nat) → (Nat → Nat → Int32) → (Nat → Int32) → (Nat → Nat → Int32) → Prop} {p : Program} {l : Launch} {e : Env} {s : State} {m : MethodId} {below : List Frame} {meth : Method} {c : Code} {D : va_G} {cy ad am : Nat → Nat} {b N : Nat} {xs : Nat → Int32} (C : CX D cy R_La code tb_La_21 4 p s m #[Value.ref b] c (fun q => s.heap.size ≤ q)) (hX : va_X b N xs s s.heap) (hbl : b < s.heap.size) (hN : N ≤ 3072)
    (ho21 : ∀ (k : Nat) (a1 : Int32) (I : Nat → Int32) (A : Nat → Nat → Int32) (T : Nat → Option Nat) (L : List Nat) (K : Nat → Nat) (F : Nat → Nat → Int32) (J : Nat → Int32) (B : Nat → Nat → Int32), k < 512 → Rel k I A T L K F J B → g_Pw_step I A T L K F a1 (fun r u => g_Mo_step J B a1 (fun r2 v => r = r2 ∧ Rel (k + 1) u.1 u.2.1 T L K u.2.2 v.1 v.2)))
    (k : Nat) (I : Nat → Int32) (A : Nat → Nat → Int32) (T : Nat → Option Nat) (L : List Nat) (K : Nat → Nat) (F : Nat → Nat → Int32) (J : Nat → Int32) (B : Nat → Nat → Int32) (h6 : 6 * k + 6 ≤ N) (ih : ∀ (I : Nat → Int32) (A : Nat → Nat → Int32) (T : Nat → Option Nat) (L : List Nat) (K : Nat → Nat) (F : Nat → Nat → Int32) (J : Nat → Int32) (B : Nat → Nat → Int32) (H : Heap) (locs : List Loc) (ls : Array Slot), 6 * (k + 1) ≤ N → Rel (k + 1) I A T L K F J B → HXw D (fun q => s.heap.size ≤ q) s.heap H locs (wC cy ad I A T L K F ++ wM cy am J B) → lv_has ls 4 [(0, .ref b), (1, .ref (ad 0)), (2, .ref (am 0)), (3, .int (nI (6 * (k + 1))))] → W p l e room_1 s m #[Value.ref b] below meth c H locs (87 + (k + 1)) (28975 + 7 * (k + 1)) (lw_Z below #[Value.ref b] s) (F0 m 18 ls [])) (H : Heap) (locs : List Loc) (ls : Array Slot) (hR : Rel k I A T L K F J B) (h : HXw D (fun q => s.heap.size ≤ q) s.heap H locs (wC cy ad I A T L K F ++ wM cy am J B)) (hl : lv_has ls 4 [(0, .ref b), (1, .ref (ad 0)), (2, .ref (am 0)), (3, .int (nI (6 * k)))]) : W p l e room_1 s m #[Value.ref b] below meth c H locs (87 + k) (28975 + 7 * k) (lw_Z below #[Value.ref b] s) (F0 m 999 ls []) := by
  have hbA : ¬ (fun q => s.heap.size ≤ q) b := Nat.not_le.mpr hbl
  refine i_aload_n (n := 1000) C 0 rfl rfl rfl hl 1 rfl ?_
  refine i_aload_n (n := 1001) C 1 rfl rfl rfl hl 0 rfl ?_
  refine i_iload_n (n := 1002) C 2 rfl rfl rfl hl 3 rfl ?_
  refine i_iconst (v := (1 : Int32)) (n := 1003) C 3 rfl rfl rfl ?_
  refine i_iadd (n := 1004) C 4 rfl rfl ?_
  refine i_sld (n := 1005) C 5 rfl rfl h hX hbl hbA (law_in (j := 1) hN (by decide) h6) ?_
  have hw := ho21 k (xs ((nI (6 * k)) + (1 : Int32)).toNatClampNeg) I A T L K F J B (by omega) hR
  refine i_callVi (rest := []) (ci := 10) (qc := (R_Pw, T_Pw, 16)) (n := 1008) C 6 rfl rfl hl h rfl wCM_c (kV_La_105 ⟨by decide, by decide⟩) (fr_iR (wM cy am J B) (m_Pw_step hw)) rfl rfl (Nat.le_of_ble_eq_true rfl) ⟨by show 87 + k + 0 ≤ 600000; omega, by show 28975 + 7 * k + 0 ≤ 7302250; omega⟩ (fun r u H locs hw h => ?_)
  have h : HXw D (fun q => s.heap.size ≤ q) s.heap H locs (wC cy ad u.1 u.2.1 T L K u.2.2 ++ wM cy am J B) := h
  refine i_aload_n (n := 1009) C 7 rfl rfl rfl hl 2 rfl ?_
  refine i_aload_n (n := 1010) C 8 rfl rfl rfl hl 0 rfl ?_
  refine i_iload_n (n := 1011) C 9 rfl rfl rfl hl 3 rfl ?_
  refine i_iconst (v := (1 : Int32)) (n := 1012) C 10 rfl rfl rfl ?_
  refine i_iadd (n := 1013) C 11 rfl rfl ?_
  refine i_sld (n := 1014) C 12 rfl rfl h hX hbl hbA (law_in (j := 1) hN (by decide) h6) ?_
  refine i_callVi (rest := [.int r]) (ci := 11) (qc := (R_Mo, T_Mo, 50)) (n := 1017) C 13 rfl rfl hl h rfl wCM_m (kV_La_108 ⟨by decide, by decide⟩) (fr_iL (wC cy ad u.1 u.2.1 T L K u.2.2) (m_Mo_step hw)) rfl rfl (Nat.le_of_ble_eq_true rfl) ⟨by show 87 + k + 0 + 0 ≤ 600000; omega, by show 28975 + 7 * k + 0 + 0 ≤ 7302250; omega⟩ (fun r2 v H locs hw h => ?_)
  have h : HXw D (fun q => s.heap.size ≤ q) s.heap H locs (wC cy ad u.1 u.2.1 T L K u.2.2 ++ wM cy am v.1 v.2) := h
  obtain ⟨hrr, hR2⟩ := hw
  refine i_icmp_eq (tgt := 1624) (n := 1020) C 14 rfl rfl rfl (fun _ => ?_) (fun z => absurd hrr z)
  refine i_iinc (v := nI (6 * (k + 1))) (lv' := [(3, .int (nI (6 * (k + 1)))), (0, .ref b), (1, .ref (ad 0)), (2, .ref (am 0))]) (n := 1627) C 17 rfl rfl hl 3 rfl (nI_add (6 * k) 6) (by decide) rfl (fun ls hl => ?_)
  refine i_goto (tgt := 18) C 18 rfl rfl ?_
  refine W.widen (k := 87 + (k + 1)) (n := 28975 + 7 * (k + 1)) (by omega) (by omega) ?_
  exact ih _ _ _ _ _ _ _ _ _ _ ls (by omega) hR2 h (lv_sub hl [1, 2, 3, 0] rfl)
set_option maxHeartbeats 4000000 in
set_option maxRecDepth 100000 in
theorem law_22 {Rel : Nat → (Nat → Int32) → (Nat → Nat → Int32) → (Nat → Option Nat) → List Nat → (Nat → Nat) → (Nat → Nat → Int32) → (Nat → Int32) → (Nat → Nat → Int32) → Prop} {p : Program} {l : Launch} {e : Env} {s : State} {m : MethodId} {below : List Frame} {meth : Method} {c : Code} {D : va_G} {cy ad am : Nat → Nat} {b N : Nat} {xs : Nat → Int32} (C : CX D cy R_La code tb_La_22 4 p s m #[Value.ref b] c (fun q => s.heap.size ≤ q)) (hX : va_X b N xs s s.heap) (hbl : b < s.heap.size) (hN : N ≤ 3072)
    (ho22 : ∀ (k : Nat) (a1 : Int32) (I : Nat → Int32) (A : Nat → Nat → Int32) (T : Nat → Option Nat) (L : List Nat) (K : Nat → Nat) (F : Nat → Nat → Int32) (J : Nat → Int32) (B : Nat → Nat → Int32), k < 512 → Rel k I A T L K F J B → g_Pw_told I a1 (fun r => g_Mo_told J a1 (fun r2 => r = r2 ∧ Rel (k + 1) I A T L K F J B)))
    (k : Nat) (I : Nat → Int32) (A : Nat → Nat → Int32) (T : Nat → Option Nat) (L : List Nat) (K : Nat → Nat) (F : Nat → Nat → Int32) (J : Nat → Int32) (B : Nat → Nat → Int32) (h6 : 6 * k + 6 ≤ N) (ih : ∀ (I : Nat → Int32) (A : Nat → Nat → Int32) (T : Nat → Option Nat) (L : List Nat) (K : Nat → Nat) (F : Nat → Nat → Int32) (J : Nat → Int32) (B : Nat → Nat → Int32) (H : Heap) (locs : List Loc) (ls : Array Slot), 6 * (k + 1) ≤ N → Rel (k + 1) I A T L K F J B → HXw D (fun q => s.heap.size ≤ q) s.heap H locs (wC cy ad I A T L K F ++ wM cy am J B) → lv_has ls 4 [(0, .ref b), (1, .ref (ad 0)), (2, .ref (am 0)), (3, .int (nI (6 * (k + 1))))] → W p l e room_1 s m #[Value.ref b] below meth c H locs (87 + (k + 1)) (28975 + 7 * (k + 1)) (lw_Z below #[Value.ref b] s) (F0 m 18 ls [])) (H : Heap) (locs : List Loc) (ls : Array Slot) (hR : Rel k I A T L K F J B) (h : HXw D (fun q => s.heap.size ≤ q) s.heap H locs (wC cy ad I A T L K F ++ wM cy am J B)) (hl : lv_has ls 4 [(0, .ref b), (1, .ref (ad 0)), (2, .ref (am 0)), (3, .int (nI (6 * k)))]) : W p l e room_1 s m #[Value.ref b] below meth c H locs (87 + k) (28975 + 7 * k) (lw_Z below #[Value.ref b] s) (F0 m 1022 ls []) := by
  have hbA : ¬ (fun q => s.heap.size ≤ q) b := Nat.not_le.mpr hbl
  refine i_aload_n (n := 1023) C 0 rfl rfl rfl hl 1 rfl ?_
  refine i_aload_n (n := 1024) C 1 rfl rfl rfl hl 0 rfl ?_
  refine i_iload_n (n := 1025) C 2 rfl rfl rfl hl 3 rfl ?_
  refine i_iconst (v := (1 : Int32)) (n := 1026) C 3 rfl rfl rfl ?_
  refine i_iadd (n := 1027) C 4 rfl rfl ?_
  refine i_sld (n := 1028) C 5 rfl rfl h hX hbl hbA (law_in (j := 1) hN (by decide) h6) ?_
  have hw := ho22 k (xs ((nI (6 * k)) + (1 : Int32)).toNatClampNeg) I A T L K F J B (by omega) hR
  refine i_callVp (rest := []) (ci := 10) (qc := (R_Pw, T_Pw, 16)) (n := 1031) C 6 rfl rfl hl h rfl wCM_c (kV_La_109 ⟨by decide, by decide⟩) (fr_pR (wM cy am J B) (m_Pw_told hw)) rfl rfl (Nat.le_of_ble_eq_true rfl) ⟨by show 87 + k ≤ 600000; omega, by show 28975 + 7 * k ≤ 7302250; omega⟩ (fun r hw => ?_)
  refine i_aload_n (n := 1032) C 7 rfl rfl rfl hl 2 rfl ?_
  refine i_aload_n (n := 1033) C 8 rfl rfl rfl hl 0 rfl ?_
  refine i_iload_n (n := 1034) C 9 rfl rfl rfl hl 3 rfl ?_
  refine i_iconst (v := (1 : Int32)) (n := 1035) C 10 rfl rfl rfl ?_
  refine i_iadd (n := 1036) C 11 rfl rfl ?_
  refine i_sld (n := 1037) C 12 rfl rfl h hX hbl hbA (law_in (j := 1) hN (by decide) h6) ?_
  refine i_callVp (rest := [.int r]) (ci := 11) (qc := (R_Mo, T_Mo, 50)) (n := 1040) C 13 rfl rfl hl h rfl wCM_m (kV_La_112 ⟨by decide, by decide⟩) (fr_pL (wC cy ad I A T L K F) (m_Mo_told hw)) rfl rfl (Nat.le_of_ble_eq_true rfl) ⟨by show 87 + k ≤ 600000; omega, by show 28975 + 7 * k ≤ 7302250; omega⟩ (fun r2 hw => ?_)
  obtain ⟨hrr, hR2⟩ := hw
  refine i_icmp_eq (tgt := 1624) (n := 1043) C 14 rfl rfl rfl (fun _ => ?_) (fun z => absurd hrr z)
  refine i_iinc (v := nI (6 * (k + 1))) (lv' := [(3, .int (nI (6 * (k + 1)))), (0, .ref b), (1, .ref (ad 0)), (2, .ref (am 0))]) (n := 1627) C 17 rfl rfl hl 3 rfl (nI_add (6 * k) 6) (by decide) rfl (fun ls hl => ?_)
  refine i_goto (tgt := 18) C 18 rfl rfl ?_
  refine W.widen (k := 87 + (k + 1)) (n := 28975 + 7 * (k + 1)) (by omega) (by omega) ?_
  exact ih _ _ _ _ _ _ _ _ _ _ ls (by omega) hR2 h (lv_sub hl [1, 2, 3, 0] rfl)
set_option maxHeartbeats 4000000 in
set_option maxRecDepth 100000 in
theorem law_23 {Rel : Nat → (Nat → Int32) → (Nat → Nat → Int32) → (Nat → Option Nat) → List Nat → (Nat → Nat) → (Nat → Nat → Int32) → (Nat → Int32) → (Nat → Nat → Int32) → Prop} {p : Program} {l : Launch} {e : Env} {s : State} {m : MethodId} {below : List Frame} {meth : Method} {c : Code} {D : va_G} {cy ad am : Nat → Nat} {b N : Nat} {xs : Nat → Int32} (C : CX D cy R_La code tb_La_23 4 p s m #[Value.ref b] c (fun q => s.heap.size ≤ q)) (hX : va_X b N xs s s.heap) (hbl : b < s.heap.size) (hN : N ≤ 3072)
    (ho23 : ∀ (k : Nat) (a1 a2 : Int32) (I : Nat → Int32) (A : Nat → Nat → Int32) (T : Nat → Option Nat) (L : List Nat) (K : Nat → Nat) (F : Nat → Nat → Int32) (J : Nat → Int32) (B : Nat → Nat → Int32), k < 512 → Rel k I A T L K F J B → g_Pw_row A a1 a2 (fun r u => g_Mo_row B a1 a2 (fun r2 v => r = r2 ∧ Rel (k + 1) I u T L K F J v)))
    (k : Nat) (I : Nat → Int32) (A : Nat → Nat → Int32) (T : Nat → Option Nat) (L : List Nat) (K : Nat → Nat) (F : Nat → Nat → Int32) (J : Nat → Int32) (B : Nat → Nat → Int32) (h6 : 6 * k + 6 ≤ N) (ih : ∀ (I : Nat → Int32) (A : Nat → Nat → Int32) (T : Nat → Option Nat) (L : List Nat) (K : Nat → Nat) (F : Nat → Nat → Int32) (J : Nat → Int32) (B : Nat → Nat → Int32) (H : Heap) (locs : List Loc) (ls : Array Slot), 6 * (k + 1) ≤ N → Rel (k + 1) I A T L K F J B → HXw D (fun q => s.heap.size ≤ q) s.heap H locs (wC cy ad I A T L K F ++ wM cy am J B) → lv_has ls 4 [(0, .ref b), (1, .ref (ad 0)), (2, .ref (am 0)), (3, .int (nI (6 * (k + 1))))] → W p l e room_1 s m #[Value.ref b] below meth c H locs (87 + (k + 1)) (28975 + 7 * (k + 1)) (lw_Z below #[Value.ref b] s) (F0 m 18 ls [])) (H : Heap) (locs : List Loc) (ls : Array Slot) (hR : Rel k I A T L K F J B) (h : HXw D (fun q => s.heap.size ≤ q) s.heap H locs (wC cy ad I A T L K F ++ wM cy am J B)) (hl : lv_has ls 4 [(0, .ref b), (1, .ref (ad 0)), (2, .ref (am 0)), (3, .int (nI (6 * k)))]) : W p l e room_1 s m #[Value.ref b] below meth c H locs (87 + k) (28975 + 7 * k) (lw_Z below #[Value.ref b] s) (F0 m 1045 ls []) := by
  have hbA : ¬ (fun q => s.heap.size ≤ q) b := Nat.not_le.mpr hbl
  refine i_aload_n (n := 1046) C 0 rfl rfl rfl hl 1 rfl ?_
  refine i_aload_n (n := 1047) C 1 rfl rfl rfl hl 0 rfl ?_
  refine i_iload_n (n := 1048) C 2 rfl rfl rfl hl 3 rfl ?_
  refine i_iconst (v := (1 : Int32)) (n := 1049) C 3 rfl rfl rfl ?_
  refine i_iadd (n := 1050) C 4 rfl rfl ?_
  refine i_sld (n := 1051) C 5 rfl rfl h hX hbl hbA (law_in (j := 1) hN (by decide) h6) ?_
  refine i_aload_n (n := 1052) C 6 rfl rfl rfl hl 0 rfl ?_
  refine i_iload_n (n := 1053) C 7 rfl rfl rfl hl 3 rfl ?_
  refine i_iconst (v := (2 : Int32)) (n := 1054) C 8 rfl rfl rfl ?_
  refine i_iadd (n := 1055) C 9 rfl rfl ?_
  refine i_sld (n := 1056) C 10 rfl rfl h hX hbl hbA (law_in (j := 2) hN (by decide) h6) ?_
  have hw := ho23 k (xs ((nI (6 * k)) + (1 : Int32)).toNatClampNeg) (xs ((nI (6 * k)) + (2 : Int32)).toNatClampNeg) I A T L K F J B (by omega) hR
  refine i_callVi (rest := []) (ci := 10) (qc := (R_Pw, T_Pw, 16)) (n := 1059) C 11 rfl rfl hl h rfl wCM_c (kV_La_113 ⟨by decide, by decide⟩) (fr_iR (wM cy am J B) (m_Pw_row hw)) rfl rfl (Nat.le_of_ble_eq_true rfl) ⟨by show 87 + k + 0 ≤ 600000; omega, by show 28975 + 7 * k + 0 ≤ 7302250; omega⟩ (fun r u H locs hw h => ?_)
  have h : HXw D (fun q => s.heap.size ≤ q) s.heap H locs (wC cy ad I u T L K F ++ wM cy am J B) := h
  refine i_aload_n (n := 1060) C 12 rfl rfl rfl hl 2 rfl ?_
  refine i_aload_n (n := 1061) C 13 rfl rfl rfl hl 0 rfl ?_
  refine i_iload_n (n := 1062) C 14 rfl rfl rfl hl 3 rfl ?_
  refine i_iconst (v := (1 : Int32)) (n := 1063) C 15 rfl rfl rfl ?_
  refine i_iadd (n := 1064) C 16 rfl rfl ?_
  refine i_sld (n := 1065) C 17 rfl rfl h hX hbl hbA (law_in (j := 1) hN (by decide) h6) ?_
  refine i_aload_n (n := 1066) C 18 rfl rfl rfl hl 0 rfl ?_
  refine i_iload_n (n := 1067) C 19 rfl rfl rfl hl 3 rfl ?_
  refine i_iconst (v := (2 : Int32)) (n := 1068) C 20 rfl rfl rfl ?_
  refine i_iadd (n := 1069) C 21 rfl rfl ?_
  refine i_sld (n := 1070) C 22 rfl rfl h hX hbl hbA (law_in (j := 2) hN (by decide) h6) ?_
  refine i_callVi (rest := [.int r]) (ci := 11) (qc := (R_Mo, T_Mo, 50)) (n := 1073) C 23 rfl rfl hl h rfl wCM_m (kV_La_116 ⟨by decide, by decide⟩) (fr_iL (wC cy ad I u T L K F) (m_Mo_row hw)) rfl rfl (Nat.le_of_ble_eq_true rfl) ⟨by show 87 + k + 0 + 0 ≤ 600000; omega, by show 28975 + 7 * k + 0 + 0 ≤ 7302250; omega⟩ (fun r2 v H locs hw h => ?_)
  have h : HXw D (fun q => s.heap.size ≤ q) s.heap H locs (wC cy ad I u T L K F ++ wM cy am J v) := h
  obtain ⟨hrr, hR2⟩ := hw
  refine i_icmp_eq (tgt := 1624) (n := 1076) C 24 rfl rfl rfl (fun _ => ?_) (fun z => absurd hrr z)
  refine i_iinc (v := nI (6 * (k + 1))) (lv' := [(3, .int (nI (6 * (k + 1)))), (0, .ref b), (1, .ref (ad 0)), (2, .ref (am 0))]) (n := 1627) C 27 rfl rfl hl 3 rfl (nI_add (6 * k) 6) (by decide) rfl (fun ls hl => ?_)
  refine i_goto (tgt := 18) C 28 rfl rfl ?_
  refine W.widen (k := 87 + (k + 1)) (n := 28975 + 7 * (k + 1)) (by omega) (by omega) ?_
  exact ih _ _ _ _ _ _ _ _ _ _ ls (by omega) hR2 h (lv_sub hl [1, 2, 3, 0] rfl)
set_option maxHeartbeats 4000000 in
set_option maxRecDepth 100000 in
theorem law_24 {Rel : Nat → (Nat → Int32) → (Nat → Nat → Int32) → (Nat → Option Nat) → List Nat → (Nat → Nat) → (Nat → Nat → Int32) → (Nat → Int32) → (Nat → Nat → Int32) → Prop} {p : Program} {l : Launch} {e : Env} {s : State} {m : MethodId} {below : List Frame} {meth : Method} {c : Code} {D : va_G} {cy ad am : Nat → Nat} {b N : Nat} {xs : Nat → Int32} (C : CX D cy R_La code tb_La_24 4 p s m #[Value.ref b] c (fun q => s.heap.size ≤ q)) (hX : va_X b N xs s s.heap) (hbl : b < s.heap.size) (hN : N ≤ 3072)
    (ho24 : ∀ (k : Nat) (a1 a2 a3 : Int32) (I : Nat → Int32) (A : Nat → Nat → Int32) (T : Nat → Option Nat) (L : List Nat) (K : Nat → Nat) (F : Nat → Nat → Int32) (J : Nat → Int32) (B : Nat → Nat → Int32), k < 512 → Rel k I A T L K F J B → g_Pw_put A a1 a2 a3 (fun r u => g_Mo_put B a1 a2 a3 (fun r2 v => r = r2 ∧ Rel (k + 1) I u T L K F J v)))
    (k : Nat) (I : Nat → Int32) (A : Nat → Nat → Int32) (T : Nat → Option Nat) (L : List Nat) (K : Nat → Nat) (F : Nat → Nat → Int32) (J : Nat → Int32) (B : Nat → Nat → Int32) (h6 : 6 * k + 6 ≤ N) (ih : ∀ (I : Nat → Int32) (A : Nat → Nat → Int32) (T : Nat → Option Nat) (L : List Nat) (K : Nat → Nat) (F : Nat → Nat → Int32) (J : Nat → Int32) (B : Nat → Nat → Int32) (H : Heap) (locs : List Loc) (ls : Array Slot), 6 * (k + 1) ≤ N → Rel (k + 1) I A T L K F J B → HXw D (fun q => s.heap.size ≤ q) s.heap H locs (wC cy ad I A T L K F ++ wM cy am J B) → lv_has ls 4 [(0, .ref b), (1, .ref (ad 0)), (2, .ref (am 0)), (3, .int (nI (6 * (k + 1))))] → W p l e room_1 s m #[Value.ref b] below meth c H locs (87 + (k + 1)) (28975 + 7 * (k + 1)) (lw_Z below #[Value.ref b] s) (F0 m 18 ls [])) (H : Heap) (locs : List Loc) (ls : Array Slot) (hR : Rel k I A T L K F J B) (h : HXw D (fun q => s.heap.size ≤ q) s.heap H locs (wC cy ad I A T L K F ++ wM cy am J B)) (hl : lv_has ls 4 [(0, .ref b), (1, .ref (ad 0)), (2, .ref (am 0)), (3, .int (nI (6 * k)))]) : W p l e room_1 s m #[Value.ref b] below meth c H locs (87 + k) (28975 + 7 * k) (lw_Z below #[Value.ref b] s) (F0 m 1078 ls []) := by
  have hbA : ¬ (fun q => s.heap.size ≤ q) b := Nat.not_le.mpr hbl
  refine i_aload_n (n := 1079) C 0 rfl rfl rfl hl 1 rfl ?_
  refine i_aload_n (n := 1080) C 1 rfl rfl rfl hl 0 rfl ?_
  refine i_iload_n (n := 1081) C 2 rfl rfl rfl hl 3 rfl ?_
  refine i_iconst (v := (1 : Int32)) (n := 1082) C 3 rfl rfl rfl ?_
  refine i_iadd (n := 1083) C 4 rfl rfl ?_
  refine i_sld (n := 1084) C 5 rfl rfl h hX hbl hbA (law_in (j := 1) hN (by decide) h6) ?_
  refine i_aload_n (n := 1085) C 6 rfl rfl rfl hl 0 rfl ?_
  refine i_iload_n (n := 1086) C 7 rfl rfl rfl hl 3 rfl ?_
  refine i_iconst (v := (2 : Int32)) (n := 1087) C 8 rfl rfl rfl ?_
  refine i_iadd (n := 1088) C 9 rfl rfl ?_
  refine i_sld (n := 1089) C 10 rfl rfl h hX hbl hbA (law_in (j := 2) hN (by decide) h6) ?_
  refine i_aload_n (n := 1090) C 11 rfl rfl rfl hl 0 rfl ?_
  refine i_iload_n (n := 1091) C 12 rfl rfl rfl hl 3 rfl ?_
  refine i_iconst (v := (3 : Int32)) (n := 1092) C 13 rfl rfl rfl ?_
  refine i_iadd (n := 1093) C 14 rfl rfl ?_
  refine i_sld (n := 1094) C 15 rfl rfl h hX hbl hbA (law_in (j := 3) hN (by decide) h6) ?_
  have hw := ho24 k (xs ((nI (6 * k)) + (1 : Int32)).toNatClampNeg) (xs ((nI (6 * k)) + (2 : Int32)).toNatClampNeg) (xs ((nI (6 * k)) + (3 : Int32)).toNatClampNeg) I A T L K F J B (by omega) hR
  refine i_callVi (rest := []) (ci := 10) (qc := (R_Pw, T_Pw, 16)) (n := 1097) C 16 rfl rfl hl h rfl wCM_c (kV_La_117 ⟨by decide, by decide⟩) (fr_iR (wM cy am J B) (m_Pw_put hw)) rfl rfl (Nat.le_of_ble_eq_true rfl) ⟨by show 87 + k + 0 ≤ 600000; omega, by show 28975 + 7 * k + 0 ≤ 7302250; omega⟩ (fun r u H locs hw h => ?_)
  have h : HXw D (fun q => s.heap.size ≤ q) s.heap H locs (wC cy ad I u T L K F ++ wM cy am J B) := h
  refine i_aload_n (n := 1098) C 17 rfl rfl rfl hl 2 rfl ?_
  refine i_aload_n (n := 1099) C 18 rfl rfl rfl hl 0 rfl ?_
  refine i_iload_n (n := 1100) C 19 rfl rfl rfl hl 3 rfl ?_
  refine i_iconst (v := (1 : Int32)) (n := 1101) C 20 rfl rfl rfl ?_
  refine i_iadd (n := 1102) C 21 rfl rfl ?_
  refine i_sld (n := 1103) C 22 rfl rfl h hX hbl hbA (law_in (j := 1) hN (by decide) h6) ?_
  refine i_aload_n (n := 1104) C 23 rfl rfl rfl hl 0 rfl ?_
  refine i_iload_n (n := 1105) C 24 rfl rfl rfl hl 3 rfl ?_
  refine i_iconst (v := (2 : Int32)) (n := 1106) C 25 rfl rfl rfl ?_
  refine i_iadd (n := 1107) C 26 rfl rfl ?_
  refine i_sld (n := 1108) C 27 rfl rfl h hX hbl hbA (law_in (j := 2) hN (by decide) h6) ?_
  refine i_aload_n (n := 1109) C 28 rfl rfl rfl hl 0 rfl ?_
  refine i_iload_n (n := 1110) C 29 rfl rfl rfl hl 3 rfl ?_
  refine i_iconst (v := (3 : Int32)) (n := 1111) C 30 rfl rfl rfl ?_
  refine i_iadd (n := 1112) C 31 rfl rfl ?_
  refine i_sld (n := 1113) C 32 rfl rfl h hX hbl hbA (law_in (j := 3) hN (by decide) h6) ?_
  refine i_callVi (rest := [.int r]) (ci := 11) (qc := (R_Mo, T_Mo, 50)) (n := 1116) C 33 rfl rfl hl h rfl wCM_m (kV_La_120 ⟨by decide, by decide⟩) (fr_iL (wC cy ad I u T L K F) (m_Mo_put hw)) rfl rfl (Nat.le_of_ble_eq_true rfl) ⟨by show 87 + k + 0 + 0 ≤ 600000; omega, by show 28975 + 7 * k + 0 + 0 ≤ 7302250; omega⟩ (fun r2 v H locs hw h => ?_)
  have h : HXw D (fun q => s.heap.size ≤ q) s.heap H locs (wC cy ad I u T L K F ++ wM cy am J v) := h
  obtain ⟨hrr, hR2⟩ := hw
  refine i_icmp_eq (tgt := 1624) (n := 1119) C 34 rfl rfl rfl (fun _ => ?_) (fun z => absurd hrr z)
  refine i_iinc (v := nI (6 * (k + 1))) (lv' := [(3, .int (nI (6 * (k + 1)))), (0, .ref b), (1, .ref (ad 0)), (2, .ref (am 0))]) (n := 1627) C 37 rfl rfl hl 3 rfl (nI_add (6 * k) 6) (by decide) rfl (fun ls hl => ?_)
  refine i_goto (tgt := 18) C 38 rfl rfl ?_
  refine W.widen (k := 87 + (k + 1)) (n := 28975 + 7 * (k + 1)) (by omega) (by omega) ?_
  exact ih _ _ _ _ _ _ _ _ _ _ ls (by omega) hR2 h (lv_sub hl [1, 2, 3, 0] rfl)
set_option maxHeartbeats 4000000 in
set_option maxRecDepth 100000 in
theorem law_25 {Rel : Nat → (Nat → Int32) → (Nat → Nat → Int32) → (Nat → Option Nat) → List Nat → (Nat → Nat) → (Nat → Nat → Int32) → (Nat → Int32) → (Nat → Nat → Int32) → Prop} {p : Program} {l : Launch} {e : Env} {s : State} {m : MethodId} {below : List Frame} {meth : Method} {c : Code} {D : va_G} {cy ad am : Nat → Nat} {b N : Nat} {xs : Nat → Int32} (C : CX D cy R_La code tb_La_25 4 p s m #[Value.ref b] c (fun q => s.heap.size ≤ q)) (hX : va_X b N xs s s.heap) (hbl : b < s.heap.size) (hN : N ≤ 3072)
    (ho25 : ∀ (k : Nat) (a1 a2 : Int32) (I : Nat → Int32) (A : Nat → Nat → Int32) (T : Nat → Option Nat) (L : List Nat) (K : Nat → Nat) (F : Nat → Nat → Int32) (J : Nat → Int32) (B : Nat → Nat → Int32), k < 512 → Rel k I A T L K F J B → g_Pw_none A a1 a2 (fun r u => g_Mo_none B a1 a2 (fun r2 v => r = r2 ∧ Rel (k + 1) I u T L K F J v)))
    (k : Nat) (I : Nat → Int32) (A : Nat → Nat → Int32) (T : Nat → Option Nat) (L : List Nat) (K : Nat → Nat) (F : Nat → Nat → Int32) (J : Nat → Int32) (B : Nat → Nat → Int32) (h6 : 6 * k + 6 ≤ N) (ih : ∀ (I : Nat → Int32) (A : Nat → Nat → Int32) (T : Nat → Option Nat) (L : List Nat) (K : Nat → Nat) (F : Nat → Nat → Int32) (J : Nat → Int32) (B : Nat → Nat → Int32) (H : Heap) (locs : List Loc) (ls : Array Slot), 6 * (k + 1) ≤ N → Rel (k + 1) I A T L K F J B → HXw D (fun q => s.heap.size ≤ q) s.heap H locs (wC cy ad I A T L K F ++ wM cy am J B) → lv_has ls 4 [(0, .ref b), (1, .ref (ad 0)), (2, .ref (am 0)), (3, .int (nI (6 * (k + 1))))] → W p l e room_1 s m #[Value.ref b] below meth c H locs (87 + (k + 1)) (28975 + 7 * (k + 1)) (lw_Z below #[Value.ref b] s) (F0 m 18 ls [])) (H : Heap) (locs : List Loc) (ls : Array Slot) (hR : Rel k I A T L K F J B) (h : HXw D (fun q => s.heap.size ≤ q) s.heap H locs (wC cy ad I A T L K F ++ wM cy am J B)) (hl : lv_has ls 4 [(0, .ref b), (1, .ref (ad 0)), (2, .ref (am 0)), (3, .int (nI (6 * k)))]) : W p l e room_1 s m #[Value.ref b] below meth c H locs (87 + k) (28975 + 7 * k) (lw_Z below #[Value.ref b] s) (F0 m 1121 ls []) := by
  have hbA : ¬ (fun q => s.heap.size ≤ q) b := Nat.not_le.mpr hbl
  refine i_aload_n (n := 1122) C 0 rfl rfl rfl hl 1 rfl ?_
  refine i_aload_n (n := 1123) C 1 rfl rfl rfl hl 0 rfl ?_
  refine i_iload_n (n := 1124) C 2 rfl rfl rfl hl 3 rfl ?_
  refine i_iconst (v := (1 : Int32)) (n := 1125) C 3 rfl rfl rfl ?_
  refine i_iadd (n := 1126) C 4 rfl rfl ?_
  refine i_sld (n := 1127) C 5 rfl rfl h hX hbl hbA (law_in (j := 1) hN (by decide) h6) ?_
  refine i_aload_n (n := 1128) C 6 rfl rfl rfl hl 0 rfl ?_
  refine i_iload_n (n := 1129) C 7 rfl rfl rfl hl 3 rfl ?_
  refine i_iconst (v := (2 : Int32)) (n := 1130) C 8 rfl rfl rfl ?_
  refine i_iadd (n := 1131) C 9 rfl rfl ?_
  refine i_sld (n := 1132) C 10 rfl rfl h hX hbl hbA (law_in (j := 2) hN (by decide) h6) ?_
  have hw := ho25 k (xs ((nI (6 * k)) + (1 : Int32)).toNatClampNeg) (xs ((nI (6 * k)) + (2 : Int32)).toNatClampNeg) I A T L K F J B (by omega) hR
  refine i_callVi (rest := []) (ci := 10) (qc := (R_Pw, T_Pw, 16)) (n := 1135) C 11 rfl rfl hl h rfl wCM_c (kV_La_121 ⟨by decide, by decide⟩) (fr_iR (wM cy am J B) (m_Pw_none hw)) rfl rfl (Nat.le_of_ble_eq_true rfl) ⟨by show 87 + k + 0 ≤ 600000; omega, by show 28975 + 7 * k + 0 ≤ 7302250; omega⟩ (fun r u H locs hw h => ?_)
  have h : HXw D (fun q => s.heap.size ≤ q) s.heap H locs (wC cy ad I u T L K F ++ wM cy am J B) := h
  refine i_aload_n (n := 1136) C 12 rfl rfl rfl hl 2 rfl ?_
  refine i_aload_n (n := 1137) C 13 rfl rfl rfl hl 0 rfl ?_
  refine i_iload_n (n := 1138) C 14 rfl rfl rfl hl 3 rfl ?_
  refine i_iconst (v := (1 : Int32)) (n := 1139) C 15 rfl rfl rfl ?_
  refine i_iadd (n := 1140) C 16 rfl rfl ?_
  refine i_sld (n := 1141) C 17 rfl rfl h hX hbl hbA (law_in (j := 1) hN (by decide) h6) ?_
  refine i_aload_n (n := 1142) C 18 rfl rfl rfl hl 0 rfl ?_
  refine i_iload_n (n := 1143) C 19 rfl rfl rfl hl 3 rfl ?_
  refine i_iconst (v := (2 : Int32)) (n := 1144) C 20 rfl rfl rfl ?_
  refine i_iadd (n := 1145) C 21 rfl rfl ?_
  refine i_sld (n := 1146) C 22 rfl rfl h hX hbl hbA (law_in (j := 2) hN (by decide) h6) ?_
  refine i_callVi (rest := [.int r]) (ci := 11) (qc := (R_Mo, T_Mo, 50)) (n := 1149) C 23 rfl rfl hl h rfl wCM_m (kV_La_124 ⟨by decide, by decide⟩) (fr_iL (wC cy ad I u T L K F) (m_Mo_none hw)) rfl rfl (Nat.le_of_ble_eq_true rfl) ⟨by show 87 + k + 0 + 0 ≤ 600000; omega, by show 28975 + 7 * k + 0 + 0 ≤ 7302250; omega⟩ (fun r2 v H locs hw h => ?_)
  have h : HXw D (fun q => s.heap.size ≤ q) s.heap H locs (wC cy ad I u T L K F ++ wM cy am J v) := h
  obtain ⟨hrr, hR2⟩ := hw
  refine i_icmp_eq (tgt := 1624) (n := 1152) C 24 rfl rfl rfl (fun _ => ?_) (fun z => absurd hrr z)
  refine i_iinc (v := nI (6 * (k + 1))) (lv' := [(3, .int (nI (6 * (k + 1)))), (0, .ref b), (1, .ref (ad 0)), (2, .ref (am 0))]) (n := 1627) C 27 rfl rfl hl 3 rfl (nI_add (6 * k) 6) (by decide) rfl (fun ls hl => ?_)
  refine i_goto (tgt := 18) C 28 rfl rfl ?_
  refine W.widen (k := 87 + (k + 1)) (n := 28975 + 7 * (k + 1)) (by omega) (by omega) ?_
  exact ih _ _ _ _ _ _ _ _ _ _ ls (by omega) hR2 h (lv_sub hl [1, 2, 3, 0] rfl)
set_option maxHeartbeats 4000000 in
set_option maxRecDepth 100000 in
theorem law_26 {Rel : Nat → (Nat → Int32) → (Nat → Nat → Int32) → (Nat → Option Nat) → List Nat → (Nat → Nat) → (Nat → Nat → Int32) → (Nat → Int32) → (Nat → Nat → Int32) → Prop} {p : Program} {l : Launch} {e : Env} {s : State} {m : MethodId} {below : List Frame} {meth : Method} {c : Code} {D : va_G} {cy ad am : Nat → Nat} {b N : Nat} {xs : Nat → Int32} (C : CX D cy R_La code tb_La_26 4 p s m #[Value.ref b] c (fun q => s.heap.size ≤ q)) (hX : va_X b N xs s s.heap) (hbl : b < s.heap.size) (hN : N ≤ 3072)
    (ho26 : ∀ (k : Nat) (a1 a2 : Int32) (I : Nat → Int32) (A : Nat → Nat → Int32) (T : Nat → Option Nat) (L : List Nat) (K : Nat → Nat) (F : Nat → Nat → Int32) (J : Nat → Int32) (B : Nat → Nat → Int32), k < 512 → Rel k I A T L K F J B → g_Pw_read I A a1 a2 (fun r u => g_Mo_read J B a1 a2 (fun r2 v => r = r2 ∧ Rel (k + 1) I u T L K F J v)))
    (k : Nat) (I : Nat → Int32) (A : Nat → Nat → Int32) (T : Nat → Option Nat) (L : List Nat) (K : Nat → Nat) (F : Nat → Nat → Int32) (J : Nat → Int32) (B : Nat → Nat → Int32) (h6 : 6 * k + 6 ≤ N) (ih : ∀ (I : Nat → Int32) (A : Nat → Nat → Int32) (T : Nat → Option Nat) (L : List Nat) (K : Nat → Nat) (F : Nat → Nat → Int32) (J : Nat → Int32) (B : Nat → Nat → Int32) (H : Heap) (locs : List Loc) (ls : Array Slot), 6 * (k + 1) ≤ N → Rel (k + 1) I A T L K F J B → HXw D (fun q => s.heap.size ≤ q) s.heap H locs (wC cy ad I A T L K F ++ wM cy am J B) → lv_has ls 4 [(0, .ref b), (1, .ref (ad 0)), (2, .ref (am 0)), (3, .int (nI (6 * (k + 1))))] → W p l e room_1 s m #[Value.ref b] below meth c H locs (87 + (k + 1)) (28975 + 7 * (k + 1)) (lw_Z below #[Value.ref b] s) (F0 m 18 ls [])) (H : Heap) (locs : List Loc) (ls : Array Slot) (hR : Rel k I A T L K F J B) (h : HXw D (fun q => s.heap.size ≤ q) s.heap H locs (wC cy ad I A T L K F ++ wM cy am J B)) (hl : lv_has ls 4 [(0, .ref b), (1, .ref (ad 0)), (2, .ref (am 0)), (3, .int (nI (6 * k)))]) : W p l e room_1 s m #[Value.ref b] below meth c H locs (87 + k) (28975 + 7 * k) (lw_Z below #[Value.ref b] s) (F0 m 1154 ls []) := by
  have hbA : ¬ (fun q => s.heap.size ≤ q) b := Nat.not_le.mpr hbl
  refine i_aload_n (n := 1155) C 0 rfl rfl rfl hl 1 rfl ?_
  refine i_aload_n (n := 1156) C 1 rfl rfl rfl hl 0 rfl ?_
  refine i_iload_n (n := 1157) C 2 rfl rfl rfl hl 3 rfl ?_
  refine i_iconst (v := (1 : Int32)) (n := 1158) C 3 rfl rfl rfl ?_
  refine i_iadd (n := 1159) C 4 rfl rfl ?_
  refine i_sld (n := 1160) C 5 rfl rfl h hX hbl hbA (law_in (j := 1) hN (by decide) h6) ?_
  refine i_aload_n (n := 1161) C 6 rfl rfl rfl hl 0 rfl ?_
  refine i_iload_n (n := 1162) C 7 rfl rfl rfl hl 3 rfl ?_
  refine i_iconst (v := (2 : Int32)) (n := 1163) C 8 rfl rfl rfl ?_
  refine i_iadd (n := 1164) C 9 rfl rfl ?_
  refine i_sld (n := 1165) C 10 rfl rfl h hX hbl hbA (law_in (j := 2) hN (by decide) h6) ?_
  have hw := ho26 k (xs ((nI (6 * k)) + (1 : Int32)).toNatClampNeg) (xs ((nI (6 * k)) + (2 : Int32)).toNatClampNeg) I A T L K F J B (by omega) hR
  refine i_callVi (rest := []) (ci := 10) (qc := (R_Pw, T_Pw, 16)) (n := 1168) C 11 rfl rfl hl h rfl wCM_c (kV_La_125 ⟨by decide, by decide⟩) (fr_iR (wM cy am J B) (m_Pw_read hw)) rfl rfl (Nat.le_of_ble_eq_true rfl) ⟨by show 87 + k + 0 ≤ 600000; omega, by show 28975 + 7 * k + 0 ≤ 7302250; omega⟩ (fun r u H locs hw h => ?_)
  have h : HXw D (fun q => s.heap.size ≤ q) s.heap H locs (wC cy ad I u T L K F ++ wM cy am J B) := h
  refine i_aload_n (n := 1169) C 12 rfl rfl rfl hl 2 rfl ?_
  refine i_aload_n (n := 1170) C 13 rfl rfl rfl hl 0 rfl ?_
  refine i_iload_n (n := 1171) C 14 rfl rfl rfl hl 3 rfl ?_
  refine i_iconst (v := (1 : Int32)) (n := 1172) C 15 rfl rfl rfl ?_
  refine i_iadd (n := 1173) C 16 rfl rfl ?_
  refine i_sld (n := 1174) C 17 rfl rfl h hX hbl hbA (law_in (j := 1) hN (by decide) h6) ?_
  refine i_aload_n (n := 1175) C 18 rfl rfl rfl hl 0 rfl ?_
  refine i_iload_n (n := 1176) C 19 rfl rfl rfl hl 3 rfl ?_
  refine i_iconst (v := (2 : Int32)) (n := 1177) C 20 rfl rfl rfl ?_
  refine i_iadd (n := 1178) C 21 rfl rfl ?_
  refine i_sld (n := 1179) C 22 rfl rfl h hX hbl hbA (law_in (j := 2) hN (by decide) h6) ?_
  refine i_callVi (rest := [.int r]) (ci := 11) (qc := (R_Mo, T_Mo, 50)) (n := 1182) C 23 rfl rfl hl h rfl wCM_m (kV_La_128 ⟨by decide, by decide⟩) (fr_iL (wC cy ad I u T L K F) (m_Mo_read hw)) rfl rfl (Nat.le_of_ble_eq_true rfl) ⟨by show 87 + k + 0 + 0 ≤ 600000; omega, by show 28975 + 7 * k + 0 + 0 ≤ 7302250; omega⟩ (fun r2 v H locs hw h => ?_)
  have h : HXw D (fun q => s.heap.size ≤ q) s.heap H locs (wC cy ad I u T L K F ++ wM cy am J v) := h
  obtain ⟨hrr, hR2⟩ := hw
  refine i_icmp_eq (tgt := 1624) (n := 1185) C 24 rfl rfl rfl (fun _ => ?_) (fun z => absurd hrr z)
  refine i_iinc (v := nI (6 * (k + 1))) (lv' := [(3, .int (nI (6 * (k + 1)))), (0, .ref b), (1, .ref (ad 0)), (2, .ref (am 0))]) (n := 1627) C 27 rfl rfl hl 3 rfl (nI_add (6 * k) 6) (by decide) rfl (fun ls hl => ?_)
  refine i_goto (tgt := 18) C 28 rfl rfl ?_
  refine W.widen (k := 87 + (k + 1)) (n := 28975 + 7 * (k + 1)) (by omega) (by omega) ?_
  exact ih _ _ _ _ _ _ _ _ _ _ ls (by omega) hR2 h (lv_sub hl [1, 2, 3, 0] rfl)
set_option maxHeartbeats 4000000 in
set_option maxRecDepth 100000 in
theorem law_27 {Rel : Nat → (Nat → Int32) → (Nat → Nat → Int32) → (Nat → Option Nat) → List Nat → (Nat → Nat) → (Nat → Nat → Int32) → (Nat → Int32) → (Nat → Nat → Int32) → Prop} {p : Program} {l : Launch} {e : Env} {s : State} {m : MethodId} {below : List Frame} {meth : Method} {c : Code} {D : va_G} {cy ad am : Nat → Nat} {b N : Nat} {xs : Nat → Int32} (C : CX D cy R_La code tb_La_27 4 p s m #[Value.ref b] c (fun q => s.heap.size ≤ q)) (hX : va_X b N xs s s.heap) (hbl : b < s.heap.size) (hN : N ≤ 3072)
    (ho27 : ∀ (k : Nat) (a1 : Int32) (I : Nat → Int32) (A : Nat → Nat → Int32) (T : Nat → Option Nat) (L : List Nat) (K : Nat → Nat) (F : Nat → Nat → Int32) (J : Nat → Int32) (B : Nat → Nat → Int32), k < 512 → Rel k I A T L K F J B → g_Pw_say I A a1 (fun r u => g_Mo_say J B a1 (fun r2 v => r = r2 ∧ Rel (k + 1) u.1 u.2 T L K F v.1 v.2)))
    (k : Nat) (I : Nat → Int32) (A : Nat → Nat → Int32) (T : Nat → Option Nat) (L : List Nat) (K : Nat → Nat) (F : Nat → Nat → Int32) (J : Nat → Int32) (B : Nat → Nat → Int32) (h6 : 6 * k + 6 ≤ N) (ih : ∀ (I : Nat → Int32) (A : Nat → Nat → Int32) (T : Nat → Option Nat) (L : List Nat) (K : Nat → Nat) (F : Nat → Nat → Int32) (J : Nat → Int32) (B : Nat → Nat → Int32) (H : Heap) (locs : List Loc) (ls : Array Slot), 6 * (k + 1) ≤ N → Rel (k + 1) I A T L K F J B → HXw D (fun q => s.heap.size ≤ q) s.heap H locs (wC cy ad I A T L K F ++ wM cy am J B) → lv_has ls 4 [(0, .ref b), (1, .ref (ad 0)), (2, .ref (am 0)), (3, .int (nI (6 * (k + 1))))] → W p l e room_1 s m #[Value.ref b] below meth c H locs (87 + (k + 1)) (28975 + 7 * (k + 1)) (lw_Z below #[Value.ref b] s) (F0 m 18 ls [])) (H : Heap) (locs : List Loc) (ls : Array Slot) (hR : Rel k I A T L K F J B) (h : HXw D (fun q => s.heap.size ≤ q) s.heap H locs (wC cy ad I A T L K F ++ wM cy am J B)) (hl : lv_has ls 4 [(0, .ref b), (1, .ref (ad 0)), (2, .ref (am 0)), (3, .int (nI (6 * k)))]) : W p l e room_1 s m #[Value.ref b] below meth c H locs (87 + k) (28975 + 7 * k) (lw_Z below #[Value.ref b] s) (F0 m 1187 ls []) := by
  have hbA : ¬ (fun q => s.heap.size ≤ q) b := Nat.not_le.mpr hbl
  refine i_aload_n (n := 1188) C 0 rfl rfl rfl hl 1 rfl ?_
  refine i_aload_n (n := 1189) C 1 rfl rfl rfl hl 0 rfl ?_
  refine i_iload_n (n := 1190) C 2 rfl rfl rfl hl 3 rfl ?_
  refine i_iconst (v := (1 : Int32)) (n := 1191) C 3 rfl rfl rfl ?_
  refine i_iadd (n := 1192) C 4 rfl rfl ?_
  refine i_sld (n := 1193) C 5 rfl rfl h hX hbl hbA (law_in (j := 1) hN (by decide) h6) ?_
  have hw := ho27 k (xs ((nI (6 * k)) + (1 : Int32)).toNatClampNeg) I A T L K F J B (by omega) hR
  refine i_callVi (rest := []) (ci := 10) (qc := (R_Pw, T_Pw, 16)) (n := 1196) C 6 rfl rfl hl h rfl wCM_c (kV_La_129 ⟨by decide, by decide⟩) (fr_iR (wM cy am J B) (m_Pw_say hw)) rfl rfl (Nat.le_of_ble_eq_true rfl) ⟨by show 87 + k + 0 ≤ 600000; omega, by show 28975 + 7 * k + 0 ≤ 7302250; omega⟩ (fun r u H locs hw h => ?_)
  have h : HXw D (fun q => s.heap.size ≤ q) s.heap H locs (wC cy ad u.1 u.2 T L K F ++ wM cy am J B) := h
  refine i_aload_n (n := 1197) C 7 rfl rfl rfl hl 2 rfl ?_
  refine i_aload_n (n := 1198) C 8 rfl rfl rfl hl 0 rfl ?_
  refine i_iload_n (n := 1199) C 9 rfl rfl rfl hl 3 rfl ?_
  refine i_iconst (v := (1 : Int32)) (n := 1200) C 10 rfl rfl rfl ?_
  refine i_iadd (n := 1201) C 11 rfl rfl ?_
  refine i_sld (n := 1202) C 12 rfl rfl h hX hbl hbA (law_in (j := 1) hN (by decide) h6) ?_
  refine i_callVi (rest := [.int r]) (ci := 11) (qc := (R_Mo, T_Mo, 50)) (n := 1205) C 13 rfl rfl hl h rfl wCM_m (kV_La_132 ⟨by decide, by decide⟩) (fr_iL (wC cy ad u.1 u.2 T L K F) (m_Mo_say hw)) rfl rfl (Nat.le_of_ble_eq_true rfl) ⟨by show 87 + k + 0 + 0 ≤ 600000; omega, by show 28975 + 7 * k + 0 + 0 ≤ 7302250; omega⟩ (fun r2 v H locs hw h => ?_)
  have h : HXw D (fun q => s.heap.size ≤ q) s.heap H locs (wC cy ad u.1 u.2 T L K F ++ wM cy am v.1 v.2) := h
  obtain ⟨hrr, hR2⟩ := hw
  refine i_icmp_eq (tgt := 1624) (n := 1208) C 14 rfl rfl rfl (fun _ => ?_) (fun z => absurd hrr z)
  refine i_iinc (v := nI (6 * (k + 1))) (lv' := [(3, .int (nI (6 * (k + 1)))), (0, .ref b), (1, .ref (ad 0)), (2, .ref (am 0))]) (n := 1627) C 17 rfl rfl hl 3 rfl (nI_add (6 * k) 6) (by decide) rfl (fun ls hl => ?_)
  refine i_goto (tgt := 18) C 18 rfl rfl ?_
  refine W.widen (k := 87 + (k + 1)) (n := 28975 + 7 * (k + 1)) (by omega) (by omega) ?_
  exact ih _ _ _ _ _ _ _ _ _ _ ls (by omega) hR2 h (lv_sub hl [1, 2, 3, 0] rfl)
set_option maxHeartbeats 4000000 in
set_option maxRecDepth 100000 in
theorem law_28 {Rel : Nat → (Nat → Int32) → (Nat → Nat → Int32) → (Nat → Option Nat) → List Nat → (Nat → Nat) → (Nat → Nat → Int32) → (Nat → Int32) → (Nat → Nat → Int32) → Prop} {p : Program} {l : Launch} {e : Env} {s : State} {m : MethodId} {below : List Frame} {meth : Method} {c : Code} {D : va_G} {cy ad am : Nat → Nat} {b N : Nat} {xs : Nat → Int32} (C : CX D cy R_La code tb_La_28 4 p s m #[Value.ref b] c (fun q => s.heap.size ≤ q)) (hX : va_X b N xs s s.heap) (hbl : b < s.heap.size) (hN : N ≤ 3072)
    (ho28 : ∀ (k : Nat) (I : Nat → Int32) (A : Nat → Nat → Int32) (T : Nat → Option Nat) (L : List Nat) (K : Nat → Nat) (F : Nat → Nat → Int32) (J : Nat → Int32) (B : Nat → Nat → Int32), k < 512 → Rel k I A T L K F J B → g_Pw_wipe I (fun r u => g_Mo_wipe J (fun r2 v => r = r2 ∧ Rel (k + 1) u A T L K F v B)))
    (k : Nat) (I : Nat → Int32) (A : Nat → Nat → Int32) (T : Nat → Option Nat) (L : List Nat) (K : Nat → Nat) (F : Nat → Nat → Int32) (J : Nat → Int32) (B : Nat → Nat → Int32) (h6 : 6 * k + 6 ≤ N) (ih : ∀ (I : Nat → Int32) (A : Nat → Nat → Int32) (T : Nat → Option Nat) (L : List Nat) (K : Nat → Nat) (F : Nat → Nat → Int32) (J : Nat → Int32) (B : Nat → Nat → Int32) (H : Heap) (locs : List Loc) (ls : Array Slot), 6 * (k + 1) ≤ N → Rel (k + 1) I A T L K F J B → HXw D (fun q => s.heap.size ≤ q) s.heap H locs (wC cy ad I A T L K F ++ wM cy am J B) → lv_has ls 4 [(0, .ref b), (1, .ref (ad 0)), (2, .ref (am 0)), (3, .int (nI (6 * (k + 1))))] → W p l e room_1 s m #[Value.ref b] below meth c H locs (87 + (k + 1)) (28975 + 7 * (k + 1)) (lw_Z below #[Value.ref b] s) (F0 m 18 ls [])) (H : Heap) (locs : List Loc) (ls : Array Slot) (hR : Rel k I A T L K F J B) (h : HXw D (fun q => s.heap.size ≤ q) s.heap H locs (wC cy ad I A T L K F ++ wM cy am J B)) (hl : lv_has ls 4 [(0, .ref b), (1, .ref (ad 0)), (2, .ref (am 0)), (3, .int (nI (6 * k)))]) : W p l e room_1 s m #[Value.ref b] below meth c H locs (87 + k) (28975 + 7 * k) (lw_Z below #[Value.ref b] s) (F0 m 1210 ls []) := by
  have hbA : ¬ (fun q => s.heap.size ≤ q) b := Nat.not_le.mpr hbl
  refine i_aload_n (n := 1211) C 0 rfl rfl rfl hl 1 rfl ?_
  have hw := ho28 k  I A T L K F J B (by omega) hR
  refine i_callVi (rest := []) (ci := 10) (qc := (R_Pw, T_Pw, 16)) (n := 1214) C 1 rfl rfl hl h rfl wCM_c (kV_La_133 ⟨by decide, by decide⟩) (fr_iR (wM cy am J B) (m_Pw_wipe hw)) rfl rfl (Nat.le_of_ble_eq_true rfl) ⟨by show 87 + k + 0 ≤ 600000; omega, by show 28975 + 7 * k + 0 ≤ 7302250; omega⟩ (fun r u H locs hw h => ?_)
  have h : HXw D (fun q => s.heap.size ≤ q) s.heap H locs (wC cy ad u A T L K F ++ wM cy am J B) := h
  refine i_aload_n (n := 1215) C 2 rfl rfl rfl hl 2 rfl ?_
  refine i_callVi (rest := [.int r]) (ci := 11) (qc := (R_Mo, T_Mo, 50)) (n := 1218) C 3 rfl rfl hl h rfl wCM_m (kV_La_136 ⟨by decide, by decide⟩) (fr_iL (wC cy ad u A T L K F) (m_Mo_wipe hw)) rfl rfl (Nat.le_of_ble_eq_true rfl) ⟨by show 87 + k + 0 + 0 ≤ 600000; omega, by show 28975 + 7 * k + 0 + 0 ≤ 7302250; omega⟩ (fun r2 v H locs hw h => ?_)
  have h : HXw D (fun q => s.heap.size ≤ q) s.heap H locs (wC cy ad u A T L K F ++ wM cy am v B) := h
  obtain ⟨hrr, hR2⟩ := hw
  refine i_icmp_eq (tgt := 1624) (n := 1221) C 4 rfl rfl rfl (fun _ => ?_) (fun z => absurd hrr z)
  refine i_iinc (v := nI (6 * (k + 1))) (lv' := [(3, .int (nI (6 * (k + 1)))), (0, .ref b), (1, .ref (ad 0)), (2, .ref (am 0))]) (n := 1627) C 7 rfl rfl hl 3 rfl (nI_add (6 * k) 6) (by decide) rfl (fun ls hl => ?_)
  refine i_goto (tgt := 18) C 8 rfl rfl ?_
  refine W.widen (k := 87 + (k + 1)) (n := 28975 + 7 * (k + 1)) (by omega) (by omega) ?_
  exact ih _ _ _ _ _ _ _ _ _ _ ls (by omega) hR2 h (lv_sub hl [1, 2, 3, 0] rfl)
set_option maxHeartbeats 4000000 in
set_option maxRecDepth 100000 in
theorem law_29 {Rel : Nat → (Nat → Int32) → (Nat → Nat → Int32) → (Nat → Option Nat) → List Nat → (Nat → Nat) → (Nat → Nat → Int32) → (Nat → Int32) → (Nat → Nat → Int32) → Prop} {p : Program} {l : Launch} {e : Env} {s : State} {m : MethodId} {below : List Frame} {meth : Method} {c : Code} {D : va_G} {cy ad am : Nat → Nat} {b N : Nat} {xs : Nat → Int32} (C : CX D cy R_La code tb_La_29 4 p s m #[Value.ref b] c (fun q => s.heap.size ≤ q)) (hX : va_X b N xs s s.heap) (hbl : b < s.heap.size) (hN : N ≤ 3072)
    (ho29 : ∀ (k : Nat) (I : Nat → Int32) (A : Nat → Nat → Int32) (T : Nat → Option Nat) (L : List Nat) (K : Nat → Nat) (F : Nat → Nat → Int32) (J : Nat → Int32) (B : Nat → Nat → Int32), k < 512 → Rel k I A T L K F J B → g_Pw_fault I A (fun r => g_Mo_fault J B (fun r2 => r = r2 ∧ Rel (k + 1) I A T L K F J B)))
    (k : Nat) (I : Nat → Int32) (A : Nat → Nat → Int32) (T : Nat → Option Nat) (L : List Nat) (K : Nat → Nat) (F : Nat → Nat → Int32) (J : Nat → Int32) (B : Nat → Nat → Int32) (h6 : 6 * k + 6 ≤ N) (ih : ∀ (I : Nat → Int32) (A : Nat → Nat → Int32) (T : Nat → Option Nat) (L : List Nat) (K : Nat → Nat) (F : Nat → Nat → Int32) (J : Nat → Int32) (B : Nat → Nat → Int32) (H : Heap) (locs : List Loc) (ls : Array Slot), 6 * (k + 1) ≤ N → Rel (k + 1) I A T L K F J B → HXw D (fun q => s.heap.size ≤ q) s.heap H locs (wC cy ad I A T L K F ++ wM cy am J B) → lv_has ls 4 [(0, .ref b), (1, .ref (ad 0)), (2, .ref (am 0)), (3, .int (nI (6 * (k + 1))))] → W p l e room_1 s m #[Value.ref b] below meth c H locs (87 + (k + 1)) (28975 + 7 * (k + 1)) (lw_Z below #[Value.ref b] s) (F0 m 18 ls [])) (H : Heap) (locs : List Loc) (ls : Array Slot) (hR : Rel k I A T L K F J B) (h : HXw D (fun q => s.heap.size ≤ q) s.heap H locs (wC cy ad I A T L K F ++ wM cy am J B)) (hl : lv_has ls 4 [(0, .ref b), (1, .ref (ad 0)), (2, .ref (am 0)), (3, .int (nI (6 * k)))]) : W p l e room_1 s m #[Value.ref b] below meth c H locs (87 + k) (28975 + 7 * k) (lw_Z below #[Value.ref b] s) (F0 m 1223 ls []) := by
  have hbA : ¬ (fun q => s.heap.size ≤ q) b := Nat.not_le.mpr hbl
  refine i_aload_n (n := 1224) C 0 rfl rfl rfl hl 1 rfl ?_
  have hw := ho29 k  I A T L K F J B (by omega) hR
  refine i_callVp (rest := []) (ci := 10) (qc := (R_Pw, T_Pw, 16)) (n := 1227) C 1 rfl rfl hl h rfl wCM_c (kV_La_137 ⟨by decide, by decide⟩) (fr_pR (wM cy am J B) (m_Pw_fault hw)) rfl rfl (Nat.le_of_ble_eq_true rfl) ⟨by show 87 + k ≤ 600000; omega, by show 28975 + 7 * k ≤ 7302250; omega⟩ (fun r hw => ?_)
  refine i_aload_n (n := 1228) C 2 rfl rfl rfl hl 2 rfl ?_
  refine i_callVp (rest := [.int r]) (ci := 11) (qc := (R_Mo, T_Mo, 50)) (n := 1231) C 3 rfl rfl hl h rfl wCM_m (kV_La_140 ⟨by decide, by decide⟩) (fr_pL (wC cy ad I A T L K F) (m_Mo_fault hw)) rfl rfl (Nat.le_of_ble_eq_true rfl) ⟨by show 87 + k ≤ 600000; omega, by show 28975 + 7 * k ≤ 7302250; omega⟩ (fun r2 hw => ?_)
  obtain ⟨hrr, hR2⟩ := hw
  refine i_icmp_eq (tgt := 1624) (n := 1234) C 4 rfl rfl rfl (fun _ => ?_) (fun z => absurd hrr z)
  refine i_iinc (v := nI (6 * (k + 1))) (lv' := [(3, .int (nI (6 * (k + 1)))), (0, .ref b), (1, .ref (ad 0)), (2, .ref (am 0))]) (n := 1627) C 7 rfl rfl hl 3 rfl (nI_add (6 * k) 6) (by decide) rfl (fun ls hl => ?_)
  refine i_goto (tgt := 18) C 8 rfl rfl ?_
  refine W.widen (k := 87 + (k + 1)) (n := 28975 + 7 * (k + 1)) (by omega) (by omega) ?_
  exact ih _ _ _ _ _ _ _ _ _ _ ls (by omega) hR2 h (lv_sub hl [1, 2, 3, 0] rfl)
set_option maxHeartbeats 4000000 in
set_option maxRecDepth 100000 in
theorem law_30 {Rel : Nat → (Nat → Int32) → (Nat → Nat → Int32) → (Nat → Option Nat) → List Nat → (Nat → Nat) → (Nat → Nat → Int32) → (Nat → Int32) → (Nat → Nat → Int32) → Prop} {p : Program} {l : Launch} {e : Env} {s : State} {m : MethodId} {below : List Frame} {meth : Method} {c : Code} {D : va_G} {cy ad am : Nat → Nat} {b N : Nat} {xs : Nat → Int32} (C : CX D cy R_La code tb_La_30 4 p s m #[Value.ref b] c (fun q => s.heap.size ≤ q)) (hX : va_X b N xs s s.heap) (hbl : b < s.heap.size) (hN : N ≤ 3072)
    (ho30 : ∀ (k : Nat) (a1 : Int32) (I : Nat → Int32) (A : Nat → Nat → Int32) (T : Nat → Option Nat) (L : List Nat) (K : Nat → Nat) (F : Nat → Nat → Int32) (J : Nat → Int32) (B : Nat → Nat → Int32), k < 512 → Rel k I A T L K F J B → g_Pw_order I A a1 (fun r u => g_Mo_order J B a1 (fun r2 v => r = r2 ∧ Rel (k + 1) u.1 u.2 T L K F v.1 v.2)))
    (k : Nat) (I : Nat → Int32) (A : Nat → Nat → Int32) (T : Nat → Option Nat) (L : List Nat) (K : Nat → Nat) (F : Nat → Nat → Int32) (J : Nat → Int32) (B : Nat → Nat → Int32) (h6 : 6 * k + 6 ≤ N) (ih : ∀ (I : Nat → Int32) (A : Nat → Nat → Int32) (T : Nat → Option Nat) (L : List Nat) (K : Nat → Nat) (F : Nat → Nat → Int32) (J : Nat → Int32) (B : Nat → Nat → Int32) (H : Heap) (locs : List Loc) (ls : Array Slot), 6 * (k + 1) ≤ N → Rel (k + 1) I A T L K F J B → HXw D (fun q => s.heap.size ≤ q) s.heap H locs (wC cy ad I A T L K F ++ wM cy am J B) → lv_has ls 4 [(0, .ref b), (1, .ref (ad 0)), (2, .ref (am 0)), (3, .int (nI (6 * (k + 1))))] → W p l e room_1 s m #[Value.ref b] below meth c H locs (87 + (k + 1)) (28975 + 7 * (k + 1)) (lw_Z below #[Value.ref b] s) (F0 m 18 ls [])) (H : Heap) (locs : List Loc) (ls : Array Slot) (hR : Rel k I A T L K F J B) (h : HXw D (fun q => s.heap.size ≤ q) s.heap H locs (wC cy ad I A T L K F ++ wM cy am J B)) (hl : lv_has ls 4 [(0, .ref b), (1, .ref (ad 0)), (2, .ref (am 0)), (3, .int (nI (6 * k)))]) : W p l e room_1 s m #[Value.ref b] below meth c H locs (87 + k) (28975 + 7 * k) (lw_Z below #[Value.ref b] s) (F0 m 1236 ls []) := by
  have hbA : ¬ (fun q => s.heap.size ≤ q) b := Nat.not_le.mpr hbl
  refine i_aload_n (n := 1237) C 0 rfl rfl rfl hl 1 rfl ?_
  refine i_aload_n (n := 1238) C 1 rfl rfl rfl hl 0 rfl ?_
  refine i_iload_n (n := 1239) C 2 rfl rfl rfl hl 3 rfl ?_
  refine i_iconst (v := (1 : Int32)) (n := 1240) C 3 rfl rfl rfl ?_
  refine i_iadd (n := 1241) C 4 rfl rfl ?_
  refine i_sld (n := 1242) C 5 rfl rfl h hX hbl hbA (law_in (j := 1) hN (by decide) h6) ?_
  have hw := ho30 k (xs ((nI (6 * k)) + (1 : Int32)).toNatClampNeg) I A T L K F J B (by omega) hR
  refine i_callVi (rest := []) (ci := 10) (qc := (R_Pw, T_Pw, 16)) (n := 1245) C 6 rfl rfl hl h rfl wCM_c (kV_La_141 ⟨by decide, by decide⟩) (fr_iR (wM cy am J B) (m_Pw_order hw)) rfl rfl (Nat.le_of_ble_eq_true rfl) ⟨by show 87 + k + 0 ≤ 600000; omega, by show 28975 + 7 * k + 0 ≤ 7302250; omega⟩ (fun r u H locs hw h => ?_)
  have h : HXw D (fun q => s.heap.size ≤ q) s.heap H locs (wC cy ad u.1 u.2 T L K F ++ wM cy am J B) := h
  refine i_aload_n (n := 1246) C 7 rfl rfl rfl hl 2 rfl ?_
  refine i_aload_n (n := 1247) C 8 rfl rfl rfl hl 0 rfl ?_
  refine i_iload_n (n := 1248) C 9 rfl rfl rfl hl 3 rfl ?_
  refine i_iconst (v := (1 : Int32)) (n := 1249) C 10 rfl rfl rfl ?_
  refine i_iadd (n := 1250) C 11 rfl rfl ?_
  refine i_sld (n := 1251) C 12 rfl rfl h hX hbl hbA (law_in (j := 1) hN (by decide) h6) ?_
  refine i_callVi (rest := [.int r]) (ci := 11) (qc := (R_Mo, T_Mo, 50)) (n := 1254) C 13 rfl rfl hl h rfl wCM_m (kV_La_144 ⟨by decide, by decide⟩) (fr_iL (wC cy ad u.1 u.2 T L K F) (m_Mo_order hw)) rfl rfl (Nat.le_of_ble_eq_true rfl) ⟨by show 87 + k + 0 + 0 ≤ 600000; omega, by show 28975 + 7 * k + 0 + 0 ≤ 7302250; omega⟩ (fun r2 v H locs hw h => ?_)
  have h : HXw D (fun q => s.heap.size ≤ q) s.heap H locs (wC cy ad u.1 u.2 T L K F ++ wM cy am v.1 v.2) := h
  obtain ⟨hrr, hR2⟩ := hw
  refine i_icmp_eq (tgt := 1624) (n := 1257) C 14 rfl rfl rfl (fun _ => ?_) (fun z => absurd hrr z)
  refine i_iinc (v := nI (6 * (k + 1))) (lv' := [(3, .int (nI (6 * (k + 1)))), (0, .ref b), (1, .ref (ad 0)), (2, .ref (am 0))]) (n := 1627) C 17 rfl rfl hl 3 rfl (nI_add (6 * k) 6) (by decide) rfl (fun ls hl => ?_)
  refine i_goto (tgt := 18) C 18 rfl rfl ?_
  refine W.widen (k := 87 + (k + 1)) (n := 28975 + 7 * (k + 1)) (by omega) (by omega) ?_
  exact ih _ _ _ _ _ _ _ _ _ _ ls (by omega) hR2 h (lv_sub hl [1, 2, 3, 0] rfl)
set_option maxHeartbeats 4000000 in
set_option maxRecDepth 100000 in
theorem law_31 {Rel : Nat → (Nat → Int32) → (Nat → Nat → Int32) → (Nat → Option Nat) → List Nat → (Nat → Nat) → (Nat → Nat → Int32) → (Nat → Int32) → (Nat → Nat → Int32) → Prop} {p : Program} {l : Launch} {e : Env} {s : State} {m : MethodId} {below : List Frame} {meth : Method} {c : Code} {D : va_G} {cy ad am : Nat → Nat} {b N : Nat} {xs : Nat → Int32} (C : CX D cy R_La code tb_La_31 4 p s m #[Value.ref b] c (fun q => s.heap.size ≤ q)) (hX : va_X b N xs s s.heap) (hbl : b < s.heap.size) (hN : N ≤ 3072)
    (ho31 : ∀ (k : Nat) (I : Nat → Int32) (A : Nat → Nat → Int32) (T : Nat → Option Nat) (L : List Nat) (K : Nat → Nat) (F : Nat → Nat → Int32) (J : Nat → Int32) (B : Nat → Nat → Int32), k < 512 → Rel k I A T L K F J B → g_Pw_does I A T L K F (fun r u => g_Mo_does J B (fun r2 v => r = r2 ∧ Rel (k + 1) u.1 u.2.1 T L K u.2.2 v.1 v.2)))
    (k : Nat) (I : Nat → Int32) (A : Nat → Nat → Int32) (T : Nat → Option Nat) (L : List Nat) (K : Nat → Nat) (F : Nat → Nat → Int32) (J : Nat → Int32) (B : Nat → Nat → Int32) (h6 : 6 * k + 6 ≤ N) (ih : ∀ (I : Nat → Int32) (A : Nat → Nat → Int32) (T : Nat → Option Nat) (L : List Nat) (K : Nat → Nat) (F : Nat → Nat → Int32) (J : Nat → Int32) (B : Nat → Nat → Int32) (H : Heap) (locs : List Loc) (ls : Array Slot), 6 * (k + 1) ≤ N → Rel (k + 1) I A T L K F J B → HXw D (fun q => s.heap.size ≤ q) s.heap H locs (wC cy ad I A T L K F ++ wM cy am J B) → lv_has ls 4 [(0, .ref b), (1, .ref (ad 0)), (2, .ref (am 0)), (3, .int (nI (6 * (k + 1))))] → W p l e room_1 s m #[Value.ref b] below meth c H locs (87 + (k + 1)) (28975 + 7 * (k + 1)) (lw_Z below #[Value.ref b] s) (F0 m 18 ls [])) (H : Heap) (locs : List Loc) (ls : Array Slot) (hR : Rel k I A T L K F J B) (h : HXw D (fun q => s.heap.size ≤ q) s.heap H locs (wC cy ad I A T L K F ++ wM cy am J B)) (hl : lv_has ls 4 [(0, .ref b), (1, .ref (ad 0)), (2, .ref (am 0)), (3, .int (nI (6 * k)))]) : W p l e room_1 s m #[Value.ref b] below meth c H locs (87 + k) (28975 + 7 * k) (lw_Z below #[Value.ref b] s) (F0 m 1259 ls []) := by
  have hbA : ¬ (fun q => s.heap.size ≤ q) b := Nat.not_le.mpr hbl
  refine i_aload_n (n := 1260) C 0 rfl rfl rfl hl 1 rfl ?_
  have hw := ho31 k  I A T L K F J B (by omega) hR
  refine i_callVi (rest := []) (ci := 10) (qc := (R_Pw, T_Pw, 16)) (n := 1263) C 1 rfl rfl hl h rfl wCM_c (kV_La_145 ⟨by decide, by decide⟩) (fr_iR (wM cy am J B) (m_Pw_does hw)) rfl rfl (Nat.le_of_ble_eq_true rfl) ⟨by show 87 + k + 0 ≤ 600000; omega, by show 28975 + 7 * k + 0 ≤ 7302250; omega⟩ (fun r u H locs hw h => ?_)
  have h : HXw D (fun q => s.heap.size ≤ q) s.heap H locs (wC cy ad u.1 u.2.1 T L K u.2.2 ++ wM cy am J B) := h
  refine i_aload_n (n := 1264) C 2 rfl rfl rfl hl 2 rfl ?_
  refine i_callVi (rest := [.int r]) (ci := 11) (qc := (R_Mo, T_Mo, 50)) (n := 1267) C 3 rfl rfl hl h rfl wCM_m (kV_La_148 ⟨by decide, by decide⟩) (fr_iL (wC cy ad u.1 u.2.1 T L K u.2.2) (m_Mo_does hw)) rfl rfl (Nat.le_of_ble_eq_true rfl) ⟨by show 87 + k + 0 + 0 ≤ 600000; omega, by show 28975 + 7 * k + 0 + 0 ≤ 7302250; omega⟩ (fun r2 v H locs hw h => ?_)
  have h : HXw D (fun q => s.heap.size ≤ q) s.heap H locs (wC cy ad u.1 u.2.1 T L K u.2.2 ++ wM cy am v.1 v.2) := h
  obtain ⟨hrr, hR2⟩ := hw
  refine i_icmp_eq (tgt := 1624) (n := 1270) C 4 rfl rfl rfl (fun _ => ?_) (fun z => absurd hrr z)
  refine i_iinc (v := nI (6 * (k + 1))) (lv' := [(3, .int (nI (6 * (k + 1)))), (0, .ref b), (1, .ref (ad 0)), (2, .ref (am 0))]) (n := 1627) C 7 rfl rfl hl 3 rfl (nI_add (6 * k) 6) (by decide) rfl (fun ls hl => ?_)
  refine i_goto (tgt := 18) C 8 rfl rfl ?_
  refine W.widen (k := 87 + (k + 1)) (n := 28975 + 7 * (k + 1)) (by omega) (by omega) ?_
  exact ih _ _ _ _ _ _ _ _ _ _ ls (by omega) hR2 h (lv_sub hl [1, 2, 3, 0] rfl)
set_option maxHeartbeats 4000000 in
set_option maxRecDepth 100000 in
theorem law_32 {Rel : Nat → (Nat → Int32) → (Nat → Nat → Int32) → (Nat → Option Nat) → List Nat → (Nat → Nat) → (Nat → Nat → Int32) → (Nat → Int32) → (Nat → Nat → Int32) → Prop} {p : Program} {l : Launch} {e : Env} {s : State} {m : MethodId} {below : List Frame} {meth : Method} {c : Code} {D : va_G} {cy ad am : Nat → Nat} {b N : Nat} {xs : Nat → Int32} (C : CX D cy R_La code tb_La_32 4 p s m #[Value.ref b] c (fun q => s.heap.size ≤ q)) (hX : va_X b N xs s s.heap) (hbl : b < s.heap.size) (hN : N ≤ 3072)
    (ho32 : ∀ (k : Nat) (a1 : Int32) (I : Nat → Int32) (A : Nat → Nat → Int32) (T : Nat → Option Nat) (L : List Nat) (K : Nat → Nat) (F : Nat → Nat → Int32) (J : Nat → Int32) (B : Nat → Nat → Int32), k < 512 → Rel k I A T L K F J B → g_Pw_why I A T L K F a1 (fun r u => g_Mo_why J B a1 (fun r2 v => r = r2 ∧ Rel (k + 1) I u T L K F v.1 v.2)))
    (k : Nat) (I : Nat → Int32) (A : Nat → Nat → Int32) (T : Nat → Option Nat) (L : List Nat) (K : Nat → Nat) (F : Nat → Nat → Int32) (J : Nat → Int32) (B : Nat → Nat → Int32) (h6 : 6 * k + 6 ≤ N) (ih : ∀ (I : Nat → Int32) (A : Nat → Nat → Int32) (T : Nat → Option Nat) (L : List Nat) (K : Nat → Nat) (F : Nat → Nat → Int32) (J : Nat → Int32) (B : Nat → Nat → Int32) (H : Heap) (locs : List Loc) (ls : Array Slot), 6 * (k + 1) ≤ N → Rel (k + 1) I A T L K F J B → HXw D (fun q => s.heap.size ≤ q) s.heap H locs (wC cy ad I A T L K F ++ wM cy am J B) → lv_has ls 4 [(0, .ref b), (1, .ref (ad 0)), (2, .ref (am 0)), (3, .int (nI (6 * (k + 1))))] → W p l e room_1 s m #[Value.ref b] below meth c H locs (87 + (k + 1)) (28975 + 7 * (k + 1)) (lw_Z below #[Value.ref b] s) (F0 m 18 ls [])) (H : Heap) (locs : List Loc) (ls : Array Slot) (hR : Rel k I A T L K F J B) (h : HXw D (fun q => s.heap.size ≤ q) s.heap H locs (wC cy ad I A T L K F ++ wM cy am J B)) (hl : lv_has ls 4 [(0, .ref b), (1, .ref (ad 0)), (2, .ref (am 0)), (3, .int (nI (6 * k)))]) : W p l e room_1 s m #[Value.ref b] below meth c H locs (87 + k) (28975 + 7 * k) (lw_Z below #[Value.ref b] s) (F0 m 1272 ls []) := by
  have hbA : ¬ (fun q => s.heap.size ≤ q) b := Nat.not_le.mpr hbl
  refine i_aload_n (n := 1273) C 0 rfl rfl rfl hl 1 rfl ?_
  refine i_aload_n (n := 1274) C 1 rfl rfl rfl hl 0 rfl ?_
  refine i_iload_n (n := 1275) C 2 rfl rfl rfl hl 3 rfl ?_
  refine i_iconst (v := (1 : Int32)) (n := 1276) C 3 rfl rfl rfl ?_
  refine i_iadd (n := 1277) C 4 rfl rfl ?_
  refine i_sld (n := 1278) C 5 rfl rfl h hX hbl hbA (law_in (j := 1) hN (by decide) h6) ?_
  have hw := ho32 k (xs ((nI (6 * k)) + (1 : Int32)).toNatClampNeg) I A T L K F J B (by omega) hR
  refine i_callVi (rest := []) (ci := 10) (qc := (R_Pw, T_Pw, 16)) (n := 1281) C 6 rfl rfl hl h rfl wCM_c (kV_La_149 ⟨by decide, by decide⟩) (fr_iR (wM cy am J B) (m_Pw_why hw)) rfl rfl (Nat.le_of_ble_eq_true rfl) ⟨by show 87 + k + 0 ≤ 600000; omega, by show 28975 + 7 * k + 0 ≤ 7302250; omega⟩ (fun r u H locs hw h => ?_)
  have h : HXw D (fun q => s.heap.size ≤ q) s.heap H locs (wC cy ad I u T L K F ++ wM cy am J B) := h
  refine i_aload_n (n := 1282) C 7 rfl rfl rfl hl 2 rfl ?_
  refine i_aload_n (n := 1283) C 8 rfl rfl rfl hl 0 rfl ?_
  refine i_iload_n (n := 1284) C 9 rfl rfl rfl hl 3 rfl ?_
  refine i_iconst (v := (1 : Int32)) (n := 1285) C 10 rfl rfl rfl ?_
  refine i_iadd (n := 1286) C 11 rfl rfl ?_
  refine i_sld (n := 1287) C 12 rfl rfl h hX hbl hbA (law_in (j := 1) hN (by decide) h6) ?_
  refine i_callVi (rest := [.int r]) (ci := 11) (qc := (R_Mo, T_Mo, 50)) (n := 1290) C 13 rfl rfl hl h rfl wCM_m (kV_La_152 ⟨by decide, by decide⟩) (fr_iL (wC cy ad I u T L K F) (m_Mo_why hw)) rfl rfl (Nat.le_of_ble_eq_true rfl) ⟨by show 87 + k + 0 + 0 ≤ 600000; omega, by show 28975 + 7 * k + 0 + 0 ≤ 7302250; omega⟩ (fun r2 v H locs hw h => ?_)
  have h : HXw D (fun q => s.heap.size ≤ q) s.heap H locs (wC cy ad I u T L K F ++ wM cy am v.1 v.2) := h
  obtain ⟨hrr, hR2⟩ := hw
  refine i_icmp_eq (tgt := 1624) (n := 1293) C 14 rfl rfl rfl (fun _ => ?_) (fun z => absurd hrr z)
  refine i_iinc (v := nI (6 * (k + 1))) (lv' := [(3, .int (nI (6 * (k + 1)))), (0, .ref b), (1, .ref (ad 0)), (2, .ref (am 0))]) (n := 1627) C 17 rfl rfl hl 3 rfl (nI_add (6 * k) 6) (by decide) rfl (fun ls hl => ?_)
  refine i_goto (tgt := 18) C 18 rfl rfl ?_
  refine W.widen (k := 87 + (k + 1)) (n := 28975 + 7 * (k + 1)) (by omega) (by omega) ?_
  exact ih _ _ _ _ _ _ _ _ _ _ ls (by omega) hR2 h (lv_sub hl [1, 2, 3, 0] rfl)
set_option maxHeartbeats 4000000 in
set_option maxRecDepth 100000 in
theorem law_33 {Rel : Nat → (Nat → Int32) → (Nat → Nat → Int32) → (Nat → Option Nat) → List Nat → (Nat → Nat) → (Nat → Nat → Int32) → (Nat → Int32) → (Nat → Nat → Int32) → Prop} {p : Program} {l : Launch} {e : Env} {s : State} {m : MethodId} {below : List Frame} {meth : Method} {c : Code} {D : va_G} {cy ad am : Nat → Nat} {b N : Nat} {xs : Nat → Int32} (C : CX D cy R_La code tb_La_33 4 p s m #[Value.ref b] c (fun q => s.heap.size ≤ q)) (hX : va_X b N xs s s.heap) (hbl : b < s.heap.size) (hN : N ≤ 3072)
    (ho33 : ∀ (k : Nat) (a1 : Int32) (I : Nat → Int32) (A : Nat → Nat → Int32) (T : Nat → Option Nat) (L : List Nat) (K : Nat → Nat) (F : Nat → Nat → Int32) (J : Nat → Int32) (B : Nat → Nat → Int32), k < 512 → Rel k I A T L K F J B → g_Pw_cut I A T L K F a1 (fun r => g_Mo_cut J B a1 (fun r2 => r = r2 ∧ Rel (k + 1) I A T L K F J B)))
    (k : Nat) (I : Nat → Int32) (A : Nat → Nat → Int32) (T : Nat → Option Nat) (L : List Nat) (K : Nat → Nat) (F : Nat → Nat → Int32) (J : Nat → Int32) (B : Nat → Nat → Int32) (h6 : 6 * k + 6 ≤ N) (ih : ∀ (I : Nat → Int32) (A : Nat → Nat → Int32) (T : Nat → Option Nat) (L : List Nat) (K : Nat → Nat) (F : Nat → Nat → Int32) (J : Nat → Int32) (B : Nat → Nat → Int32) (H : Heap) (locs : List Loc) (ls : Array Slot), 6 * (k + 1) ≤ N → Rel (k + 1) I A T L K F J B → HXw D (fun q => s.heap.size ≤ q) s.heap H locs (wC cy ad I A T L K F ++ wM cy am J B) → lv_has ls 4 [(0, .ref b), (1, .ref (ad 0)), (2, .ref (am 0)), (3, .int (nI (6 * (k + 1))))] → W p l e room_1 s m #[Value.ref b] below meth c H locs (87 + (k + 1)) (28975 + 7 * (k + 1)) (lw_Z below #[Value.ref b] s) (F0 m 18 ls [])) (H : Heap) (locs : List Loc) (ls : Array Slot) (hR : Rel k I A T L K F J B) (h : HXw D (fun q => s.heap.size ≤ q) s.heap H locs (wC cy ad I A T L K F ++ wM cy am J B)) (hl : lv_has ls 4 [(0, .ref b), (1, .ref (ad 0)), (2, .ref (am 0)), (3, .int (nI (6 * k)))]) : W p l e room_1 s m #[Value.ref b] below meth c H locs (87 + k) (28975 + 7 * k) (lw_Z below #[Value.ref b] s) (F0 m 1295 ls []) := by
  have hbA : ¬ (fun q => s.heap.size ≤ q) b := Nat.not_le.mpr hbl
  refine i_aload_n (n := 1296) C 0 rfl rfl rfl hl 1 rfl ?_
  refine i_aload_n (n := 1297) C 1 rfl rfl rfl hl 0 rfl ?_
  refine i_iload_n (n := 1298) C 2 rfl rfl rfl hl 3 rfl ?_
  refine i_iconst (v := (1 : Int32)) (n := 1299) C 3 rfl rfl rfl ?_
  refine i_iadd (n := 1300) C 4 rfl rfl ?_
  refine i_sld (n := 1301) C 5 rfl rfl h hX hbl hbA (law_in (j := 1) hN (by decide) h6) ?_
  have hw := ho33 k (xs ((nI (6 * k)) + (1 : Int32)).toNatClampNeg) I A T L K F J B (by omega) hR
  refine i_callVp (rest := []) (ci := 10) (qc := (R_Pw, T_Pw, 16)) (n := 1304) C 6 rfl rfl hl h rfl wCM_c (kV_La_153 ⟨by decide, by decide⟩) (fr_pR (wM cy am J B) (m_Pw_cut hw)) rfl rfl (Nat.le_of_ble_eq_true rfl) ⟨by show 87 + k ≤ 600000; omega, by show 28975 + 7 * k ≤ 7302250; omega⟩ (fun r hw => ?_)
  refine i_aload_n (n := 1305) C 7 rfl rfl rfl hl 2 rfl ?_
  refine i_aload_n (n := 1306) C 8 rfl rfl rfl hl 0 rfl ?_
  refine i_iload_n (n := 1307) C 9 rfl rfl rfl hl 3 rfl ?_
  refine i_iconst (v := (1 : Int32)) (n := 1308) C 10 rfl rfl rfl ?_
  refine i_iadd (n := 1309) C 11 rfl rfl ?_
  refine i_sld (n := 1310) C 12 rfl rfl h hX hbl hbA (law_in (j := 1) hN (by decide) h6) ?_
  refine i_callVp (rest := [.int r]) (ci := 11) (qc := (R_Mo, T_Mo, 50)) (n := 1313) C 13 rfl rfl hl h rfl wCM_m (kV_La_156 ⟨by decide, by decide⟩) (fr_pL (wC cy ad I A T L K F) (m_Mo_cut hw)) rfl rfl (Nat.le_of_ble_eq_true rfl) ⟨by show 87 + k ≤ 600000; omega, by show 28975 + 7 * k ≤ 7302250; omega⟩ (fun r2 hw => ?_)
  obtain ⟨hrr, hR2⟩ := hw
  refine i_icmp_eq (tgt := 1624) (n := 1316) C 14 rfl rfl rfl (fun _ => ?_) (fun z => absurd hrr z)
  refine i_iinc (v := nI (6 * (k + 1))) (lv' := [(3, .int (nI (6 * (k + 1)))), (0, .ref b), (1, .ref (ad 0)), (2, .ref (am 0))]) (n := 1627) C 17 rfl rfl hl 3 rfl (nI_add (6 * k) 6) (by decide) rfl (fun ls hl => ?_)
  refine i_goto (tgt := 18) C 18 rfl rfl ?_
  refine W.widen (k := 87 + (k + 1)) (n := 28975 + 7 * (k + 1)) (by omega) (by omega) ?_
  exact ih _ _ _ _ _ _ _ _ _ _ ls (by omega) hR2 h (lv_sub hl [1, 2, 3, 0] rfl)
set_option maxHeartbeats 4000000 in
set_option maxRecDepth 100000 in
theorem law_34 {Rel : Nat → (Nat → Int32) → (Nat → Nat → Int32) → (Nat → Option Nat) → List Nat → (Nat → Nat) → (Nat → Nat → Int32) → (Nat → Int32) → (Nat → Nat → Int32) → Prop} {p : Program} {l : Launch} {e : Env} {s : State} {m : MethodId} {below : List Frame} {meth : Method} {c : Code} {D : va_G} {cy ad am : Nat → Nat} {b N : Nat} {xs : Nat → Int32} (C : CX D cy R_La code tb_La_34 4 p s m #[Value.ref b] c (fun q => s.heap.size ≤ q)) (hX : va_X b N xs s s.heap) (hbl : b < s.heap.size) (hN : N ≤ 3072)
    (ho34 : ∀ (k : Nat) (a1 : Int32) (I : Nat → Int32) (A : Nat → Nat → Int32) (T : Nat → Option Nat) (L : List Nat) (K : Nat → Nat) (F : Nat → Nat → Int32) (J : Nat → Int32) (B : Nat → Nat → Int32), k < 512 → Rel k I A T L K F J B → g_Pw_dry I A T L K F a1 (fun r => g_Mo_dry J B a1 (fun r2 => r = r2 ∧ Rel (k + 1) I A T L K F J B)))
    (k : Nat) (I : Nat → Int32) (A : Nat → Nat → Int32) (T : Nat → Option Nat) (L : List Nat) (K : Nat → Nat) (F : Nat → Nat → Int32) (J : Nat → Int32) (B : Nat → Nat → Int32) (h6 : 6 * k + 6 ≤ N) (ih : ∀ (I : Nat → Int32) (A : Nat → Nat → Int32) (T : Nat → Option Nat) (L : List Nat) (K : Nat → Nat) (F : Nat → Nat → Int32) (J : Nat → Int32) (B : Nat → Nat → Int32) (H : Heap) (locs : List Loc) (ls : Array Slot), 6 * (k + 1) ≤ N → Rel (k + 1) I A T L K F J B → HXw D (fun q => s.heap.size ≤ q) s.heap H locs (wC cy ad I A T L K F ++ wM cy am J B) → lv_has ls 4 [(0, .ref b), (1, .ref (ad 0)), (2, .ref (am 0)), (3, .int (nI (6 * (k + 1))))] → W p l e room_1 s m #[Value.ref b] below meth c H locs (87 + (k + 1)) (28975 + 7 * (k + 1)) (lw_Z below #[Value.ref b] s) (F0 m 18 ls [])) (H : Heap) (locs : List Loc) (ls : Array Slot) (hR : Rel k I A T L K F J B) (h : HXw D (fun q => s.heap.size ≤ q) s.heap H locs (wC cy ad I A T L K F ++ wM cy am J B)) (hl : lv_has ls 4 [(0, .ref b), (1, .ref (ad 0)), (2, .ref (am 0)), (3, .int (nI (6 * k)))]) : W p l e room_1 s m #[Value.ref b] below meth c H locs (87 + k) (28975 + 7 * k) (lw_Z below #[Value.ref b] s) (F0 m 1318 ls []) := by
  have hbA : ¬ (fun q => s.heap.size ≤ q) b := Nat.not_le.mpr hbl
  refine i_aload_n (n := 1319) C 0 rfl rfl rfl hl 1 rfl ?_
  refine i_aload_n (n := 1320) C 1 rfl rfl rfl hl 0 rfl ?_
  refine i_iload_n (n := 1321) C 2 rfl rfl rfl hl 3 rfl ?_
  refine i_iconst (v := (1 : Int32)) (n := 1322) C 3 rfl rfl rfl ?_
  refine i_iadd (n := 1323) C 4 rfl rfl ?_
  refine i_sld (n := 1324) C 5 rfl rfl h hX hbl hbA (law_in (j := 1) hN (by decide) h6) ?_
  have hw := ho34 k (xs ((nI (6 * k)) + (1 : Int32)).toNatClampNeg) I A T L K F J B (by omega) hR
  refine i_callVp (rest := []) (ci := 10) (qc := (R_Pw, T_Pw, 16)) (n := 1327) C 6 rfl rfl hl h rfl wCM_c (kV_La_157 ⟨by decide, by decide⟩) (fr_pR (wM cy am J B) (m_Pw_dry hw)) rfl rfl (Nat.le_of_ble_eq_true rfl) ⟨by show 87 + k ≤ 600000; omega, by show 28975 + 7 * k ≤ 7302250; omega⟩ (fun r hw => ?_)
  refine i_aload_n (n := 1328) C 7 rfl rfl rfl hl 2 rfl ?_
  refine i_aload_n (n := 1329) C 8 rfl rfl rfl hl 0 rfl ?_
  refine i_iload_n (n := 1330) C 9 rfl rfl rfl hl 3 rfl ?_
  refine i_iconst (v := (1 : Int32)) (n := 1331) C 10 rfl rfl rfl ?_
  refine i_iadd (n := 1332) C 11 rfl rfl ?_
  refine i_sld (n := 1333) C 12 rfl rfl h hX hbl hbA (law_in (j := 1) hN (by decide) h6) ?_
  refine i_callVp (rest := [.int r]) (ci := 11) (qc := (R_Mo, T_Mo, 50)) (n := 1336) C 13 rfl rfl hl h rfl wCM_m (kV_La_160 ⟨by decide, by decide⟩) (fr_pL (wC cy ad I A T L K F) (m_Mo_dry hw)) rfl rfl (Nat.le_of_ble_eq_true rfl) ⟨by show 87 + k ≤ 600000; omega, by show 28975 + 7 * k ≤ 7302250; omega⟩ (fun r2 hw => ?_)
  obtain ⟨hrr, hR2⟩ := hw
  refine i_icmp_eq (tgt := 1624) (n := 1339) C 14 rfl rfl rfl (fun _ => ?_) (fun z => absurd hrr z)
  refine i_iinc (v := nI (6 * (k + 1))) (lv' := [(3, .int (nI (6 * (k + 1)))), (0, .ref b), (1, .ref (ad 0)), (2, .ref (am 0))]) (n := 1627) C 17 rfl rfl hl 3 rfl (nI_add (6 * k) 6) (by decide) rfl (fun ls hl => ?_)
  refine i_goto (tgt := 18) C 18 rfl rfl ?_
  refine W.widen (k := 87 + (k + 1)) (n := 28975 + 7 * (k + 1)) (by omega) (by omega) ?_
  exact ih _ _ _ _ _ _ _ _ _ _ ls (by omega) hR2 h (lv_sub hl [1, 2, 3, 0] rfl)
set_option maxHeartbeats 4000000 in
set_option maxRecDepth 100000 in
theorem law_35 {Rel : Nat → (Nat → Int32) → (Nat → Nat → Int32) → (Nat → Option Nat) → List Nat → (Nat → Nat) → (Nat → Nat → Int32) → (Nat → Int32) → (Nat → Nat → Int32) → Prop} {p : Program} {l : Launch} {e : Env} {s : State} {m : MethodId} {below : List Frame} {meth : Method} {c : Code} {D : va_G} {cy ad am : Nat → Nat} {b N : Nat} {xs : Nat → Int32} (C : CX D cy R_La code tb_La_35 4 p s m #[Value.ref b] c (fun q => s.heap.size ≤ q)) (hX : va_X b N xs s s.heap) (hbl : b < s.heap.size) (hN : N ≤ 3072)
    (ho35 : ∀ (k : Nat) (a1 a2 a3 : Int32) (I : Nat → Int32) (A : Nat → Nat → Int32) (T : Nat → Option Nat) (L : List Nat) (K : Nat → Nat) (F : Nat → Nat → Int32) (J : Nat → Int32) (B : Nat → Nat → Int32), k < 512 → Rel k I A T L K F J B → g_Pw_seek I A T L K F a1 a2 a3 (fun r u => g_Mo_seek J B a1 a2 a3 (fun r2 v => r = r2 ∧ Rel (k + 1) I u.1 u.2.1 u.2.2.1 u.2.2.2.1 u.2.2.2.2 v.1 v.2)))
    (k : Nat) (I : Nat → Int32) (A : Nat → Nat → Int32) (T : Nat → Option Nat) (L : List Nat) (K : Nat → Nat) (F : Nat → Nat → Int32) (J : Nat → Int32) (B : Nat → Nat → Int32) (h6 : 6 * k + 6 ≤ N) (ih : ∀ (I : Nat → Int32) (A : Nat → Nat → Int32) (T : Nat → Option Nat) (L : List Nat) (K : Nat → Nat) (F : Nat → Nat → Int32) (J : Nat → Int32) (B : Nat → Nat → Int32) (H : Heap) (locs : List Loc) (ls : Array Slot), 6 * (k + 1) ≤ N → Rel (k + 1) I A T L K F J B → HXw D (fun q => s.heap.size ≤ q) s.heap H locs (wC cy ad I A T L K F ++ wM cy am J B) → lv_has ls 4 [(0, .ref b), (1, .ref (ad 0)), (2, .ref (am 0)), (3, .int (nI (6 * (k + 1))))] → W p l e room_1 s m #[Value.ref b] below meth c H locs (87 + (k + 1)) (28975 + 7 * (k + 1)) (lw_Z below #[Value.ref b] s) (F0 m 18 ls [])) (H : Heap) (locs : List Loc) (ls : Array Slot) (hR : Rel k I A T L K F J B) (h : HXw D (fun q => s.heap.size ≤ q) s.heap H locs (wC cy ad I A T L K F ++ wM cy am J B)) (hl : lv_has ls 4 [(0, .ref b), (1, .ref (ad 0)), (2, .ref (am 0)), (3, .int (nI (6 * k)))]) : W p l e room_1 s m #[Value.ref b] below meth c H locs (87 + k) (28975 + 7 * k) (lw_Z below #[Value.ref b] s) (F0 m 1341 ls []) := by
  have hbA : ¬ (fun q => s.heap.size ≤ q) b := Nat.not_le.mpr hbl
  refine i_aload_n (n := 1342) C 0 rfl rfl rfl hl 1 rfl ?_
  refine i_aload_n (n := 1343) C 1 rfl rfl rfl hl 0 rfl ?_
  refine i_iload_n (n := 1344) C 2 rfl rfl rfl hl 3 rfl ?_
  refine i_iconst (v := (1 : Int32)) (n := 1345) C 3 rfl rfl rfl ?_
  refine i_iadd (n := 1346) C 4 rfl rfl ?_
  refine i_sld (n := 1347) C 5 rfl rfl h hX hbl hbA (law_in (j := 1) hN (by decide) h6) ?_
  refine i_aload_n (n := 1348) C 6 rfl rfl rfl hl 0 rfl ?_
  refine i_iload_n (n := 1349) C 7 rfl rfl rfl hl 3 rfl ?_
  refine i_iconst (v := (2 : Int32)) (n := 1350) C 8 rfl rfl rfl ?_
  refine i_iadd (n := 1351) C 9 rfl rfl ?_
  refine i_sld (n := 1352) C 10 rfl rfl h hX hbl hbA (law_in (j := 2) hN (by decide) h6) ?_
  refine i_aload_n (n := 1353) C 11 rfl rfl rfl hl 0 rfl ?_
  refine i_iload_n (n := 1354) C 12 rfl rfl rfl hl 3 rfl ?_
  refine i_iconst (v := (3 : Int32)) (n := 1355) C 13 rfl rfl rfl ?_
  refine i_iadd (n := 1356) C 14 rfl rfl ?_
  refine i_sld (n := 1357) C 15 rfl rfl h hX hbl hbA (law_in (j := 3) hN (by decide) h6) ?_
  have hw := ho35 k (xs ((nI (6 * k)) + (1 : Int32)).toNatClampNeg) (xs ((nI (6 * k)) + (2 : Int32)).toNatClampNeg) (xs ((nI (6 * k)) + (3 : Int32)).toNatClampNeg) I A T L K F J B (by omega) hR
  refine i_callVi (rest := []) (ci := 10) (qc := (R_Pw, T_Pw, 16)) (n := 1360) C 16 rfl rfl hl h rfl wCM_c (kV_La_161 ⟨by decide, by decide⟩) (fr_iR (wM cy am J B) (m_Pw_seek hw)) rfl rfl (Nat.le_of_ble_eq_true rfl) ⟨by show 87 + k + 1 ≤ 600000; omega, by show 28975 + 7 * k + 3 ≤ 7302250; omega⟩ (fun r u H locs hw h => ?_)
  have h : HXw D (fun q => s.heap.size ≤ q) s.heap H locs (wC cy ad I u.1 u.2.1 u.2.2.1 u.2.2.2.1 u.2.2.2.2 ++ wM cy am J B) := h
  refine i_aload_n (n := 1361) C 17 rfl rfl rfl hl 2 rfl ?_
  refine i_aload_n (n := 1362) C 18 rfl rfl rfl hl 0 rfl ?_
  refine i_iload_n (n := 1363) C 19 rfl rfl rfl hl 3 rfl ?_
  refine i_iconst (v := (1 : Int32)) (n := 1364) C 20 rfl rfl rfl ?_
  refine i_iadd (n := 1365) C 21 rfl rfl ?_
  refine i_sld (n := 1366) C 22 rfl rfl h hX hbl hbA (law_in (j := 1) hN (by decide) h6) ?_
  refine i_aload_n (n := 1367) C 23 rfl rfl rfl hl 0 rfl ?_
  refine i_iload_n (n := 1368) C 24 rfl rfl rfl hl 3 rfl ?_
  refine i_iconst (v := (2 : Int32)) (n := 1369) C 25 rfl rfl rfl ?_
  refine i_iadd (n := 1370) C 26 rfl rfl ?_
  refine i_sld (n := 1371) C 27 rfl rfl h hX hbl hbA (law_in (j := 2) hN (by decide) h6) ?_
  refine i_aload_n (n := 1372) C 28 rfl rfl rfl hl 0 rfl ?_
  refine i_iload_n (n := 1373) C 29 rfl rfl rfl hl 3 rfl ?_
  refine i_iconst (v := (3 : Int32)) (n := 1374) C 30 rfl rfl rfl ?_
  refine i_iadd (n := 1375) C 31 rfl rfl ?_
  refine i_sld (n := 1376) C 32 rfl rfl h hX hbl hbA (law_in (j := 3) hN (by decide) h6) ?_
  refine i_callVi (rest := [.int r]) (ci := 11) (qc := (R_Mo, T_Mo, 50)) (n := 1379) C 33 rfl rfl hl h rfl wCM_m (kV_La_164 ⟨by decide, by decide⟩) (fr_iL (wC cy ad I u.1 u.2.1 u.2.2.1 u.2.2.2.1 u.2.2.2.2) (m_Mo_seek hw)) rfl rfl (Nat.le_of_ble_eq_true rfl) ⟨by show 87 + k + 1 + 0 ≤ 600000; omega, by show 28975 + 7 * k + 3 + 0 ≤ 7302250; omega⟩ (fun r2 v H locs hw h => ?_)
  have h : HXw D (fun q => s.heap.size ≤ q) s.heap H locs (wC cy ad I u.1 u.2.1 u.2.2.1 u.2.2.2.1 u.2.2.2.2 ++ wM cy am v.1 v.2) := h
  obtain ⟨hrr, hR2⟩ := hw
  refine i_icmp_eq (tgt := 1624) (n := 1382) C 34 rfl rfl rfl (fun _ => ?_) (fun z => absurd hrr z)
  refine i_iinc (v := nI (6 * (k + 1))) (lv' := [(3, .int (nI (6 * (k + 1)))), (0, .ref b), (1, .ref (ad 0)), (2, .ref (am 0))]) (n := 1627) C 37 rfl rfl hl 3 rfl (nI_add (6 * k) 6) (by decide) rfl (fun ls hl => ?_)
  refine i_goto (tgt := 18) C 38 rfl rfl ?_
  refine W.widen (k := 87 + (k + 1)) (n := 28975 + 7 * (k + 1)) (by omega) (by omega) ?_
  exact ih _ _ _ _ _ _ _ _ _ _ ls (by omega) hR2 h (lv_sub hl [1, 2, 3, 0] rfl)
set_option maxHeartbeats 4000000 in
set_option maxRecDepth 100000 in
theorem law_36 {Rel : Nat → (Nat → Int32) → (Nat → Nat → Int32) → (Nat → Option Nat) → List Nat → (Nat → Nat) → (Nat → Nat → Int32) → (Nat → Int32) → (Nat → Nat → Int32) → Prop} {p : Program} {l : Launch} {e : Env} {s : State} {m : MethodId} {below : List Frame} {meth : Method} {c : Code} {D : va_G} {cy ad am : Nat → Nat} {b N : Nat} {xs : Nat → Int32} (C : CX D cy R_La code tb_La_36 4 p s m #[Value.ref b] c (fun q => s.heap.size ≤ q)) (hX : va_X b N xs s s.heap) (hbl : b < s.heap.size) (hN : N ≤ 3072)
    (ho36 : ∀ (k : Nat) (a1 : Int32) (I : Nat → Int32) (A : Nat → Nat → Int32) (T : Nat → Option Nat) (L : List Nat) (K : Nat → Nat) (F : Nat → Nat → Int32) (J : Nat → Int32) (B : Nat → Nat → Int32), k < 512 → Rel k I A T L K F J B → g_Pw_block I A a1 (fun r u => g_Mo_block J B a1 (fun r2 v => r = r2 ∧ Rel (k + 1) u.1 u.2 T L K F v.1 v.2)))
    (k : Nat) (I : Nat → Int32) (A : Nat → Nat → Int32) (T : Nat → Option Nat) (L : List Nat) (K : Nat → Nat) (F : Nat → Nat → Int32) (J : Nat → Int32) (B : Nat → Nat → Int32) (h6 : 6 * k + 6 ≤ N) (ih : ∀ (I : Nat → Int32) (A : Nat → Nat → Int32) (T : Nat → Option Nat) (L : List Nat) (K : Nat → Nat) (F : Nat → Nat → Int32) (J : Nat → Int32) (B : Nat → Nat → Int32) (H : Heap) (locs : List Loc) (ls : Array Slot), 6 * (k + 1) ≤ N → Rel (k + 1) I A T L K F J B → HXw D (fun q => s.heap.size ≤ q) s.heap H locs (wC cy ad I A T L K F ++ wM cy am J B) → lv_has ls 4 [(0, .ref b), (1, .ref (ad 0)), (2, .ref (am 0)), (3, .int (nI (6 * (k + 1))))] → W p l e room_1 s m #[Value.ref b] below meth c H locs (87 + (k + 1)) (28975 + 7 * (k + 1)) (lw_Z below #[Value.ref b] s) (F0 m 18 ls [])) (H : Heap) (locs : List Loc) (ls : Array Slot) (hR : Rel k I A T L K F J B) (h : HXw D (fun q => s.heap.size ≤ q) s.heap H locs (wC cy ad I A T L K F ++ wM cy am J B)) (hl : lv_has ls 4 [(0, .ref b), (1, .ref (ad 0)), (2, .ref (am 0)), (3, .int (nI (6 * k)))]) : W p l e room_1 s m #[Value.ref b] below meth c H locs (87 + k) (28975 + 7 * k) (lw_Z below #[Value.ref b] s) (F0 m 1384 ls []) := by
  have hbA : ¬ (fun q => s.heap.size ≤ q) b := Nat.not_le.mpr hbl
  refine i_aload_n (n := 1385) C 0 rfl rfl rfl hl 1 rfl ?_
  refine i_aload_n (n := 1386) C 1 rfl rfl rfl hl 0 rfl ?_
  refine i_iload_n (n := 1387) C 2 rfl rfl rfl hl 3 rfl ?_
  refine i_iconst (v := (1 : Int32)) (n := 1388) C 3 rfl rfl rfl ?_
  refine i_iadd (n := 1389) C 4 rfl rfl ?_
  refine i_sld (n := 1390) C 5 rfl rfl h hX hbl hbA (law_in (j := 1) hN (by decide) h6) ?_
  have hw := ho36 k (xs ((nI (6 * k)) + (1 : Int32)).toNatClampNeg) I A T L K F J B (by omega) hR
  refine i_callVi (rest := []) (ci := 10) (qc := (R_Pw, T_Pw, 16)) (n := 1393) C 6 rfl rfl hl h rfl wCM_c (kV_La_165 ⟨by decide, by decide⟩) (fr_iR (wM cy am J B) (m_Pw_block hw)) rfl rfl (Nat.le_of_ble_eq_true rfl) ⟨by show 87 + k + 0 ≤ 600000; omega, by show 28975 + 7 * k + 0 ≤ 7302250; omega⟩ (fun r u H locs hw h => ?_)
  have h : HXw D (fun q => s.heap.size ≤ q) s.heap H locs (wC cy ad u.1 u.2 T L K F ++ wM cy am J B) := h
  refine i_aload_n (n := 1394) C 7 rfl rfl rfl hl 2 rfl ?_
  refine i_aload_n (n := 1395) C 8 rfl rfl rfl hl 0 rfl ?_
  refine i_iload_n (n := 1396) C 9 rfl rfl rfl hl 3 rfl ?_
  refine i_iconst (v := (1 : Int32)) (n := 1397) C 10 rfl rfl rfl ?_
  refine i_iadd (n := 1398) C 11 rfl rfl ?_
  refine i_sld (n := 1399) C 12 rfl rfl h hX hbl hbA (law_in (j := 1) hN (by decide) h6) ?_
  refine i_callVi (rest := [.int r]) (ci := 11) (qc := (R_Mo, T_Mo, 50)) (n := 1402) C 13 rfl rfl hl h rfl wCM_m (kV_La_168 ⟨by decide, by decide⟩) (fr_iL (wC cy ad u.1 u.2 T L K F) (m_Mo_block hw)) rfl rfl (Nat.le_of_ble_eq_true rfl) ⟨by show 87 + k + 0 + 0 ≤ 600000; omega, by show 28975 + 7 * k + 0 + 0 ≤ 7302250; omega⟩ (fun r2 v H locs hw h => ?_)
  have h : HXw D (fun q => s.heap.size ≤ q) s.heap H locs (wC cy ad u.1 u.2 T L K F ++ wM cy am v.1 v.2) := h
  obtain ⟨hrr, hR2⟩ := hw
  refine i_icmp_eq (tgt := 1624) (n := 1405) C 14 rfl rfl rfl (fun _ => ?_) (fun z => absurd hrr z)
  refine i_iinc (v := nI (6 * (k + 1))) (lv' := [(3, .int (nI (6 * (k + 1)))), (0, .ref b), (1, .ref (ad 0)), (2, .ref (am 0))]) (n := 1627) C 17 rfl rfl hl 3 rfl (nI_add (6 * k) 6) (by decide) rfl (fun ls hl => ?_)
  refine i_goto (tgt := 18) C 18 rfl rfl ?_
  refine W.widen (k := 87 + (k + 1)) (n := 28975 + 7 * (k + 1)) (by omega) (by omega) ?_
  exact ih _ _ _ _ _ _ _ _ _ _ ls (by omega) hR2 h (lv_sub hl [1, 2, 3, 0] rfl)
set_option maxHeartbeats 4000000 in
set_option maxRecDepth 100000 in
theorem law_37 {Rel : Nat → (Nat → Int32) → (Nat → Nat → Int32) → (Nat → Option Nat) → List Nat → (Nat → Nat) → (Nat → Nat → Int32) → (Nat → Int32) → (Nat → Nat → Int32) → Prop} {p : Program} {l : Launch} {e : Env} {s : State} {m : MethodId} {below : List Frame} {meth : Method} {c : Code} {D : va_G} {cy ad am : Nat → Nat} {b N : Nat} {xs : Nat → Int32} (C : CX D cy R_La code tb_La_37 4 p s m #[Value.ref b] c (fun q => s.heap.size ≤ q)) (hX : va_X b N xs s s.heap) (hbl : b < s.heap.size) (hN : N ≤ 3072)
    (ho37 : ∀ (k : Nat) (I : Nat → Int32) (A : Nat → Nat → Int32) (T : Nat → Option Nat) (L : List Nat) (K : Nat → Nat) (F : Nat → Nat → Int32) (J : Nat → Int32) (B : Nat → Nat → Int32), k < 512 → Rel k I A T L K F J B → g_Pw_rest I (fun r u => g_Mo_rest J (fun r2 v => r = r2 ∧ Rel (k + 1) u A T L K F v B)))
    (k : Nat) (I : Nat → Int32) (A : Nat → Nat → Int32) (T : Nat → Option Nat) (L : List Nat) (K : Nat → Nat) (F : Nat → Nat → Int32) (J : Nat → Int32) (B : Nat → Nat → Int32) (h6 : 6 * k + 6 ≤ N) (ih : ∀ (I : Nat → Int32) (A : Nat → Nat → Int32) (T : Nat → Option Nat) (L : List Nat) (K : Nat → Nat) (F : Nat → Nat → Int32) (J : Nat → Int32) (B : Nat → Nat → Int32) (H : Heap) (locs : List Loc) (ls : Array Slot), 6 * (k + 1) ≤ N → Rel (k + 1) I A T L K F J B → HXw D (fun q => s.heap.size ≤ q) s.heap H locs (wC cy ad I A T L K F ++ wM cy am J B) → lv_has ls 4 [(0, .ref b), (1, .ref (ad 0)), (2, .ref (am 0)), (3, .int (nI (6 * (k + 1))))] → W p l e room_1 s m #[Value.ref b] below meth c H locs (87 + (k + 1)) (28975 + 7 * (k + 1)) (lw_Z below #[Value.ref b] s) (F0 m 18 ls [])) (H : Heap) (locs : List Loc) (ls : Array Slot) (hR : Rel k I A T L K F J B) (h : HXw D (fun q => s.heap.size ≤ q) s.heap H locs (wC cy ad I A T L K F ++ wM cy am J B)) (hl : lv_has ls 4 [(0, .ref b), (1, .ref (ad 0)), (2, .ref (am 0)), (3, .int (nI (6 * k)))]) : W p l e room_1 s m #[Value.ref b] below meth c H locs (87 + k) (28975 + 7 * k) (lw_Z below #[Value.ref b] s) (F0 m 1407 ls []) := by
  have hbA : ¬ (fun q => s.heap.size ≤ q) b := Nat.not_le.mpr hbl
  refine i_aload_n (n := 1408) C 0 rfl rfl rfl hl 1 rfl ?_
  have hw := ho37 k  I A T L K F J B (by omega) hR
  refine i_callVi (rest := []) (ci := 10) (qc := (R_Pw, T_Pw, 16)) (n := 1411) C 1 rfl rfl hl h rfl wCM_c (kV_La_169 ⟨by decide, by decide⟩) (fr_iR (wM cy am J B) (m_Pw_rest hw)) rfl rfl (Nat.le_of_ble_eq_true rfl) ⟨by show 87 + k + 0 ≤ 600000; omega, by show 28975 + 7 * k + 0 ≤ 7302250; omega⟩ (fun r u H locs hw h => ?_)
  have h : HXw D (fun q => s.heap.size ≤ q) s.heap H locs (wC cy ad u A T L K F ++ wM cy am J B) := h
  refine i_aload_n (n := 1412) C 2 rfl rfl rfl hl 2 rfl ?_
  refine i_callVi (rest := [.int r]) (ci := 11) (qc := (R_Mo, T_Mo, 50)) (n := 1415) C 3 rfl rfl hl h rfl wCM_m (kV_La_172 ⟨by decide, by decide⟩) (fr_iL (wC cy ad u A T L K F) (m_Mo_rest hw)) rfl rfl (Nat.le_of_ble_eq_true rfl) ⟨by show 87 + k + 0 + 0 ≤ 600000; omega, by show 28975 + 7 * k + 0 + 0 ≤ 7302250; omega⟩ (fun r2 v H locs hw h => ?_)
  have h : HXw D (fun q => s.heap.size ≤ q) s.heap H locs (wC cy ad u A T L K F ++ wM cy am v B) := h
  obtain ⟨hrr, hR2⟩ := hw
  refine i_icmp_eq (tgt := 1624) (n := 1418) C 4 rfl rfl rfl (fun _ => ?_) (fun z => absurd hrr z)
  refine i_iinc (v := nI (6 * (k + 1))) (lv' := [(3, .int (nI (6 * (k + 1)))), (0, .ref b), (1, .ref (ad 0)), (2, .ref (am 0))]) (n := 1627) C 7 rfl rfl hl 3 rfl (nI_add (6 * k) 6) (by decide) rfl (fun ls hl => ?_)
  refine i_goto (tgt := 18) C 8 rfl rfl ?_
  refine W.widen (k := 87 + (k + 1)) (n := 28975 + 7 * (k + 1)) (by omega) (by omega) ?_
  exact ih _ _ _ _ _ _ _ _ _ _ ls (by omega) hR2 h (lv_sub hl [1, 2, 3, 0] rfl)
set_option maxHeartbeats 4000000 in
set_option maxRecDepth 100000 in
theorem law_38 {Rel : Nat → (Nat → Int32) → (Nat → Nat → Int32) → (Nat → Option Nat) → List Nat → (Nat → Nat) → (Nat → Nat → Int32) → (Nat → Int32) → (Nat → Nat → Int32) → Prop} {p : Program} {l : Launch} {e : Env} {s : State} {m : MethodId} {below : List Frame} {meth : Method} {c : Code} {D : va_G} {cy ad am : Nat → Nat} {b N : Nat} {xs : Nat → Int32} (C : CX D cy R_La code tb_La_38 4 p s m #[Value.ref b] c (fun q => s.heap.size ≤ q)) (hX : va_X b N xs s s.heap) (hbl : b < s.heap.size) (hN : N ≤ 3072)
    (ho38 : ∀ (k : Nat) (a1 a2 a3 : Int32) (I : Nat → Int32) (A : Nat → Nat → Int32) (T : Nat → Option Nat) (L : List Nat) (K : Nat → Nat) (F : Nat → Nat → Int32) (J : Nat → Int32) (B : Nat → Nat → Int32), k < 512 → Rel k I A T L K F J B → g_Pw_plan I A a1 a2 a3 (fun r u => g_Mo_plan B a1 a2 a3 (fun r2 v => r = r2 ∧ Rel (k + 1) u.1 u.2 T L K F J v)))
    (k : Nat) (I : Nat → Int32) (A : Nat → Nat → Int32) (T : Nat → Option Nat) (L : List Nat) (K : Nat → Nat) (F : Nat → Nat → Int32) (J : Nat → Int32) (B : Nat → Nat → Int32) (h6 : 6 * k + 6 ≤ N) (ih : ∀ (I : Nat → Int32) (A : Nat → Nat → Int32) (T : Nat → Option Nat) (L : List Nat) (K : Nat → Nat) (F : Nat → Nat → Int32) (J : Nat → Int32) (B : Nat → Nat → Int32) (H : Heap) (locs : List Loc) (ls : Array Slot), 6 * (k + 1) ≤ N → Rel (k + 1) I A T L K F J B → HXw D (fun q => s.heap.size ≤ q) s.heap H locs (wC cy ad I A T L K F ++ wM cy am J B) → lv_has ls 4 [(0, .ref b), (1, .ref (ad 0)), (2, .ref (am 0)), (3, .int (nI (6 * (k + 1))))] → W p l e room_1 s m #[Value.ref b] below meth c H locs (87 + (k + 1)) (28975 + 7 * (k + 1)) (lw_Z below #[Value.ref b] s) (F0 m 18 ls [])) (H : Heap) (locs : List Loc) (ls : Array Slot) (hR : Rel k I A T L K F J B) (h : HXw D (fun q => s.heap.size ≤ q) s.heap H locs (wC cy ad I A T L K F ++ wM cy am J B)) (hl : lv_has ls 4 [(0, .ref b), (1, .ref (ad 0)), (2, .ref (am 0)), (3, .int (nI (6 * k)))]) : W p l e room_1 s m #[Value.ref b] below meth c H locs (87 + k) (28975 + 7 * k) (lw_Z below #[Value.ref b] s) (F0 m 1420 ls []) := by
  have hbA : ¬ (fun q => s.heap.size ≤ q) b := Nat.not_le.mpr hbl
  refine i_aload_n (n := 1421) C 0 rfl rfl rfl hl 1 rfl ?_
  refine i_aload_n (n := 1422) C 1 rfl rfl rfl hl 0 rfl ?_
  refine i_iload_n (n := 1423) C 2 rfl rfl rfl hl 3 rfl ?_
  refine i_iconst (v := (1 : Int32)) (n := 1424) C 3 rfl rfl rfl ?_
  refine i_iadd (n := 1425) C 4 rfl rfl ?_
  refine i_sld (n := 1426) C 5 rfl rfl h hX hbl hbA (law_in (j := 1) hN (by decide) h6) ?_
  refine i_aload_n (n := 1427) C 6 rfl rfl rfl hl 0 rfl ?_
  refine i_iload_n (n := 1428) C 7 rfl rfl rfl hl 3 rfl ?_
  refine i_iconst (v := (2 : Int32)) (n := 1429) C 8 rfl rfl rfl ?_
  refine i_iadd (n := 1430) C 9 rfl rfl ?_
  refine i_sld (n := 1431) C 10 rfl rfl h hX hbl hbA (law_in (j := 2) hN (by decide) h6) ?_
  refine i_aload_n (n := 1432) C 11 rfl rfl rfl hl 0 rfl ?_
  refine i_iload_n (n := 1433) C 12 rfl rfl rfl hl 3 rfl ?_
  refine i_iconst (v := (3 : Int32)) (n := 1434) C 13 rfl rfl rfl ?_
  refine i_iadd (n := 1435) C 14 rfl rfl ?_
  refine i_sld (n := 1436) C 15 rfl rfl h hX hbl hbA (law_in (j := 3) hN (by decide) h6) ?_
  have hw := ho38 k (xs ((nI (6 * k)) + (1 : Int32)).toNatClampNeg) (xs ((nI (6 * k)) + (2 : Int32)).toNatClampNeg) (xs ((nI (6 * k)) + (3 : Int32)).toNatClampNeg) I A T L K F J B (by omega) hR
  refine i_callVi (rest := []) (ci := 10) (qc := (R_Pw, T_Pw, 16)) (n := 1439) C 16 rfl rfl hl h rfl wCM_c (kV_La_173 ⟨by decide, by decide⟩) (fr_iR (wM cy am J B) (m_Pw_plan hw)) rfl rfl (Nat.le_of_ble_eq_true rfl) ⟨by show 87 + k + 0 ≤ 600000; omega, by show 28975 + 7 * k + 0 ≤ 7302250; omega⟩ (fun r u H locs hw h => ?_)
  have h : HXw D (fun q => s.heap.size ≤ q) s.heap H locs (wC cy ad u.1 u.2 T L K F ++ wM cy am J B) := h
  refine i_aload_n (n := 1440) C 17 rfl rfl rfl hl 2 rfl ?_
  refine i_aload_n (n := 1441) C 18 rfl rfl rfl hl 0 rfl ?_
  refine i_iload_n (n := 1442) C 19 rfl rfl rfl hl 3 rfl ?_
  refine i_iconst (v := (1 : Int32)) (n := 1443) C 20 rfl rfl rfl ?_
  refine i_iadd (n := 1444) C 21 rfl rfl ?_
  refine i_sld (n := 1445) C 22 rfl rfl h hX hbl hbA (law_in (j := 1) hN (by decide) h6) ?_
  refine i_aload_n (n := 1446) C 23 rfl rfl rfl hl 0 rfl ?_
  refine i_iload_n (n := 1447) C 24 rfl rfl rfl hl 3 rfl ?_
  refine i_iconst (v := (2 : Int32)) (n := 1448) C 25 rfl rfl rfl ?_
  refine i_iadd (n := 1449) C 26 rfl rfl ?_
  refine i_sld (n := 1450) C 27 rfl rfl h hX hbl hbA (law_in (j := 2) hN (by decide) h6) ?_
  refine i_aload_n (n := 1451) C 28 rfl rfl rfl hl 0 rfl ?_
  refine i_iload_n (n := 1452) C 29 rfl rfl rfl hl 3 rfl ?_
  refine i_iconst (v := (3 : Int32)) (n := 1453) C 30 rfl rfl rfl ?_
  refine i_iadd (n := 1454) C 31 rfl rfl ?_
  refine i_sld (n := 1455) C 32 rfl rfl h hX hbl hbA (law_in (j := 3) hN (by decide) h6) ?_
  refine i_callVi (rest := [.int r]) (ci := 11) (qc := (R_Mo, T_Mo, 50)) (n := 1458) C 33 rfl rfl hl h rfl wCM_m (kV_La_176 ⟨by decide, by decide⟩) (fr_iL (wC cy ad u.1 u.2 T L K F) (m_Mo_plan hw)) rfl rfl (Nat.le_of_ble_eq_true rfl) ⟨by show 87 + k + 0 + 0 ≤ 600000; omega, by show 28975 + 7 * k + 0 + 0 ≤ 7302250; omega⟩ (fun r2 v H locs hw h => ?_)
  have h : HXw D (fun q => s.heap.size ≤ q) s.heap H locs (wC cy ad u.1 u.2 T L K F ++ wM cy am J v) := h
  obtain ⟨hrr, hR2⟩ := hw
  refine i_icmp_eq (tgt := 1624) (n := 1461) C 34 rfl rfl rfl (fun _ => ?_) (fun z => absurd hrr z)
  refine i_iinc (v := nI (6 * (k + 1))) (lv' := [(3, .int (nI (6 * (k + 1)))), (0, .ref b), (1, .ref (ad 0)), (2, .ref (am 0))]) (n := 1627) C 37 rfl rfl hl 3 rfl (nI_add (6 * k) 6) (by decide) rfl (fun ls hl => ?_)
  refine i_goto (tgt := 18) C 38 rfl rfl ?_
  refine W.widen (k := 87 + (k + 1)) (n := 28975 + 7 * (k + 1)) (by omega) (by omega) ?_
  exact ih _ _ _ _ _ _ _ _ _ _ ls (by omega) hR2 h (lv_sub hl [1, 2, 3, 0] rfl)
set_option maxHeartbeats 4000000 in
set_option maxRecDepth 100000 in
theorem law_39 {Rel : Nat → (Nat → Int32) → (Nat → Nat → Int32) → (Nat → Option Nat) → List Nat → (Nat → Nat) → (Nat → Nat → Int32) → (Nat → Int32) → (Nat → Nat → Int32) → Prop} {p : Program} {l : Launch} {e : Env} {s : State} {m : MethodId} {below : List Frame} {meth : Method} {c : Code} {D : va_G} {cy ad am : Nat → Nat} {b N : Nat} {xs : Nat → Int32} (C : CX D cy R_La code tb_La_39 4 p s m #[Value.ref b] c (fun q => s.heap.size ≤ q)) (hX : va_X b N xs s s.heap) (hbl : b < s.heap.size) (hN : N ≤ 3072)
    (ho39 : ∀ (k : Nat) (a1 a2 : Int32) (I : Nat → Int32) (A : Nat → Nat → Int32) (T : Nat → Option Nat) (L : List Nat) (K : Nat → Nat) (F : Nat → Nat → Int32) (J : Nat → Int32) (B : Nat → Nat → Int32), k < 512 → Rel k I A T L K F J B → g_Pw_best I A a1 a2 (fun r u => g_Mo_best J B a1 a2 (fun r2 v => r = r2 ∧ Rel (k + 1) u.1 u.2 T L K F J v)))
    (k : Nat) (I : Nat → Int32) (A : Nat → Nat → Int32) (T : Nat → Option Nat) (L : List Nat) (K : Nat → Nat) (F : Nat → Nat → Int32) (J : Nat → Int32) (B : Nat → Nat → Int32) (h6 : 6 * k + 6 ≤ N) (ih : ∀ (I : Nat → Int32) (A : Nat → Nat → Int32) (T : Nat → Option Nat) (L : List Nat) (K : Nat → Nat) (F : Nat → Nat → Int32) (J : Nat → Int32) (B : Nat → Nat → Int32) (H : Heap) (locs : List Loc) (ls : Array Slot), 6 * (k + 1) ≤ N → Rel (k + 1) I A T L K F J B → HXw D (fun q => s.heap.size ≤ q) s.heap H locs (wC cy ad I A T L K F ++ wM cy am J B) → lv_has ls 4 [(0, .ref b), (1, .ref (ad 0)), (2, .ref (am 0)), (3, .int (nI (6 * (k + 1))))] → W p l e room_1 s m #[Value.ref b] below meth c H locs (87 + (k + 1)) (28975 + 7 * (k + 1)) (lw_Z below #[Value.ref b] s) (F0 m 18 ls [])) (H : Heap) (locs : List Loc) (ls : Array Slot) (hR : Rel k I A T L K F J B) (h : HXw D (fun q => s.heap.size ≤ q) s.heap H locs (wC cy ad I A T L K F ++ wM cy am J B)) (hl : lv_has ls 4 [(0, .ref b), (1, .ref (ad 0)), (2, .ref (am 0)), (3, .int (nI (6 * k)))]) : W p l e room_1 s m #[Value.ref b] below meth c H locs (87 + k) (28975 + 7 * k) (lw_Z below #[Value.ref b] s) (F0 m 1463 ls []) := by
  have hbA : ¬ (fun q => s.heap.size ≤ q) b := Nat.not_le.mpr hbl
  refine i_aload_n (n := 1464) C 0 rfl rfl rfl hl 1 rfl ?_
  refine i_aload_n (n := 1465) C 1 rfl rfl rfl hl 0 rfl ?_
  refine i_iload_n (n := 1466) C 2 rfl rfl rfl hl 3 rfl ?_
  refine i_iconst (v := (1 : Int32)) (n := 1467) C 3 rfl rfl rfl ?_
  refine i_iadd (n := 1468) C 4 rfl rfl ?_
  refine i_sld (n := 1469) C 5 rfl rfl h hX hbl hbA (law_in (j := 1) hN (by decide) h6) ?_
  refine i_aload_n (n := 1470) C 6 rfl rfl rfl hl 0 rfl ?_
  refine i_iload_n (n := 1471) C 7 rfl rfl rfl hl 3 rfl ?_
  refine i_iconst (v := (2 : Int32)) (n := 1472) C 8 rfl rfl rfl ?_
  refine i_iadd (n := 1473) C 9 rfl rfl ?_
  refine i_sld (n := 1474) C 10 rfl rfl h hX hbl hbA (law_in (j := 2) hN (by decide) h6) ?_
  have hw := ho39 k (xs ((nI (6 * k)) + (1 : Int32)).toNatClampNeg) (xs ((nI (6 * k)) + (2 : Int32)).toNatClampNeg) I A T L K F J B (by omega) hR
  refine i_callVi (rest := []) (ci := 10) (qc := (R_Pw, T_Pw, 16)) (n := 1477) C 11 rfl rfl hl h rfl wCM_c (kV_La_177 ⟨by decide, by decide⟩) (fr_iR (wM cy am J B) (m_Pw_best hw)) rfl rfl (Nat.le_of_ble_eq_true rfl) ⟨by show 87 + k + 0 ≤ 600000; omega, by show 28975 + 7 * k + 0 ≤ 7302250; omega⟩ (fun r u H locs hw h => ?_)
  have h : HXw D (fun q => s.heap.size ≤ q) s.heap H locs (wC cy ad u.1 u.2 T L K F ++ wM cy am J B) := h
  refine i_aload_n (n := 1478) C 12 rfl rfl rfl hl 2 rfl ?_
  refine i_aload_n (n := 1479) C 13 rfl rfl rfl hl 0 rfl ?_
  refine i_iload_n (n := 1480) C 14 rfl rfl rfl hl 3 rfl ?_
  refine i_iconst (v := (1 : Int32)) (n := 1481) C 15 rfl rfl rfl ?_
  refine i_iadd (n := 1482) C 16 rfl rfl ?_
  refine i_sld (n := 1483) C 17 rfl rfl h hX hbl hbA (law_in (j := 1) hN (by decide) h6) ?_
  refine i_aload_n (n := 1484) C 18 rfl rfl rfl hl 0 rfl ?_
  refine i_iload_n (n := 1485) C 19 rfl rfl rfl hl 3 rfl ?_
  refine i_iconst (v := (2 : Int32)) (n := 1486) C 20 rfl rfl rfl ?_
  refine i_iadd (n := 1487) C 21 rfl rfl ?_
  refine i_sld (n := 1488) C 22 rfl rfl h hX hbl hbA (law_in (j := 2) hN (by decide) h6) ?_
  refine i_callVi (rest := [.int r]) (ci := 11) (qc := (R_Mo, T_Mo, 50)) (n := 1491) C 23 rfl rfl hl h rfl wCM_m (kV_La_180 ⟨by decide, by decide⟩) (fr_iL (wC cy ad u.1 u.2 T L K F) (m_Mo_best hw)) rfl rfl (Nat.le_of_ble_eq_true rfl) ⟨by show 87 + k + 0 + 0 ≤ 600000; omega, by show 28975 + 7 * k + 0 + 0 ≤ 7302250; omega⟩ (fun r2 v H locs hw h => ?_)
  have h : HXw D (fun q => s.heap.size ≤ q) s.heap H locs (wC cy ad u.1 u.2 T L K F ++ wM cy am J v) := h
  obtain ⟨hrr, hR2⟩ := hw
  refine i_icmp_eq (tgt := 1624) (n := 1494) C 24 rfl rfl rfl (fun _ => ?_) (fun z => absurd hrr z)
  refine i_iinc (v := nI (6 * (k + 1))) (lv' := [(3, .int (nI (6 * (k + 1)))), (0, .ref b), (1, .ref (ad 0)), (2, .ref (am 0))]) (n := 1627) C 27 rfl rfl hl 3 rfl (nI_add (6 * k) 6) (by decide) rfl (fun ls hl => ?_)
  refine i_goto (tgt := 18) C 28 rfl rfl ?_
  refine W.widen (k := 87 + (k + 1)) (n := 28975 + 7 * (k + 1)) (by omega) (by omega) ?_
  exact ih _ _ _ _ _ _ _ _ _ _ ls (by omega) hR2 h (lv_sub hl [1, 2, 3, 0] rfl)
set_option maxHeartbeats 4000000 in
set_option maxRecDepth 100000 in
theorem law_40 {Rel : Nat → (Nat → Int32) → (Nat → Nat → Int32) → (Nat → Option Nat) → List Nat → (Nat → Nat) → (Nat → Nat → Int32) → (Nat → Int32) → (Nat → Nat → Int32) → Prop} {p : Program} {l : Launch} {e : Env} {s : State} {m : MethodId} {below : List Frame} {meth : Method} {c : Code} {D : va_G} {cy ad am : Nat → Nat} {b N : Nat} {xs : Nat → Int32} (C : CX D cy R_La code tb_La_40 4 p s m #[Value.ref b] c (fun q => s.heap.size ≤ q)) (hX : va_X b N xs s s.heap) (hbl : b < s.heap.size) (hN : N ≤ 3072)
    (ho40 : ∀ (k : Nat) (a1 : Int32) (I : Nat → Int32) (A : Nat → Nat → Int32) (T : Nat → Option Nat) (L : List Nat) (K : Nat → Nat) (F : Nat → Nat → Int32) (J : Nat → Int32) (B : Nat → Nat → Int32), k < 512 → Rel k I A T L K F J B → g_Pw_fails I A a1 (fun r u => g_Mo_fails J B a1 (fun r2 v => r = r2 ∧ Rel (k + 1) u.1 u.2 T L K F v.1 v.2)))
    (k : Nat) (I : Nat → Int32) (A : Nat → Nat → Int32) (T : Nat → Option Nat) (L : List Nat) (K : Nat → Nat) (F : Nat → Nat → Int32) (J : Nat → Int32) (B : Nat → Nat → Int32) (h6 : 6 * k + 6 ≤ N) (ih : ∀ (I : Nat → Int32) (A : Nat → Nat → Int32) (T : Nat → Option Nat) (L : List Nat) (K : Nat → Nat) (F : Nat → Nat → Int32) (J : Nat → Int32) (B : Nat → Nat → Int32) (H : Heap) (locs : List Loc) (ls : Array Slot), 6 * (k + 1) ≤ N → Rel (k + 1) I A T L K F J B → HXw D (fun q => s.heap.size ≤ q) s.heap H locs (wC cy ad I A T L K F ++ wM cy am J B) → lv_has ls 4 [(0, .ref b), (1, .ref (ad 0)), (2, .ref (am 0)), (3, .int (nI (6 * (k + 1))))] → W p l e room_1 s m #[Value.ref b] below meth c H locs (87 + (k + 1)) (28975 + 7 * (k + 1)) (lw_Z below #[Value.ref b] s) (F0 m 18 ls [])) (H : Heap) (locs : List Loc) (ls : Array Slot) (hR : Rel k I A T L K F J B) (h : HXw D (fun q => s.heap.size ≤ q) s.heap H locs (wC cy ad I A T L K F ++ wM cy am J B)) (hl : lv_has ls 4 [(0, .ref b), (1, .ref (ad 0)), (2, .ref (am 0)), (3, .int (nI (6 * k)))]) : W p l e room_1 s m #[Value.ref b] below meth c H locs (87 + k) (28975 + 7 * k) (lw_Z below #[Value.ref b] s) (F0 m 1496 ls []) := by
  have hbA : ¬ (fun q => s.heap.size ≤ q) b := Nat.not_le.mpr hbl
  refine i_aload_n (n := 1497) C 0 rfl rfl rfl hl 1 rfl ?_
  refine i_aload_n (n := 1498) C 1 rfl rfl rfl hl 0 rfl ?_
  refine i_iload_n (n := 1499) C 2 rfl rfl rfl hl 3 rfl ?_
  refine i_iconst (v := (1 : Int32)) (n := 1500) C 3 rfl rfl rfl ?_
  refine i_iadd (n := 1501) C 4 rfl rfl ?_
  refine i_sld (n := 1502) C 5 rfl rfl h hX hbl hbA (law_in (j := 1) hN (by decide) h6) ?_
  have hw := ho40 k (xs ((nI (6 * k)) + (1 : Int32)).toNatClampNeg) I A T L K F J B (by omega) hR
  refine i_callVi (rest := []) (ci := 10) (qc := (R_Pw, T_Pw, 16)) (n := 1505) C 6 rfl rfl hl h rfl wCM_c (kV_La_181 ⟨by decide, by decide⟩) (fr_iR (wM cy am J B) (m_Pw_fails hw)) rfl rfl (Nat.le_of_ble_eq_true rfl) ⟨by show 87 + k + 0 ≤ 600000; omega, by show 28975 + 7 * k + 0 ≤ 7302250; omega⟩ (fun r u H locs hw h => ?_)
  have h : HXw D (fun q => s.heap.size ≤ q) s.heap H locs (wC cy ad u.1 u.2 T L K F ++ wM cy am J B) := h
  refine i_aload_n (n := 1506) C 7 rfl rfl rfl hl 2 rfl ?_
  refine i_aload_n (n := 1507) C 8 rfl rfl rfl hl 0 rfl ?_
  refine i_iload_n (n := 1508) C 9 rfl rfl rfl hl 3 rfl ?_
  refine i_iconst (v := (1 : Int32)) (n := 1509) C 10 rfl rfl rfl ?_
  refine i_iadd (n := 1510) C 11 rfl rfl ?_
  refine i_sld (n := 1511) C 12 rfl rfl h hX hbl hbA (law_in (j := 1) hN (by decide) h6) ?_
  refine i_callVi (rest := [.int r]) (ci := 11) (qc := (R_Mo, T_Mo, 50)) (n := 1514) C 13 rfl rfl hl h rfl wCM_m (kV_La_184 ⟨by decide, by decide⟩) (fr_iL (wC cy ad u.1 u.2 T L K F) (m_Mo_fails hw)) rfl rfl (Nat.le_of_ble_eq_true rfl) ⟨by show 87 + k + 0 + 0 ≤ 600000; omega, by show 28975 + 7 * k + 0 + 0 ≤ 7302250; omega⟩ (fun r2 v H locs hw h => ?_)
  have h : HXw D (fun q => s.heap.size ≤ q) s.heap H locs (wC cy ad u.1 u.2 T L K F ++ wM cy am v.1 v.2) := h
  obtain ⟨hrr, hR2⟩ := hw
  refine i_icmp_eq (tgt := 1624) (n := 1517) C 14 rfl rfl rfl (fun _ => ?_) (fun z => absurd hrr z)
  refine i_iinc (v := nI (6 * (k + 1))) (lv' := [(3, .int (nI (6 * (k + 1)))), (0, .ref b), (1, .ref (ad 0)), (2, .ref (am 0))]) (n := 1627) C 17 rfl rfl hl 3 rfl (nI_add (6 * k) 6) (by decide) rfl (fun ls hl => ?_)
  refine i_goto (tgt := 18) C 18 rfl rfl ?_
  refine W.widen (k := 87 + (k + 1)) (n := 28975 + 7 * (k + 1)) (by omega) (by omega) ?_
  exact ih _ _ _ _ _ _ _ _ _ _ ls (by omega) hR2 h (lv_sub hl [1, 2, 3, 0] rfl)
set_option maxHeartbeats 4000000 in
set_option maxRecDepth 100000 in
theorem law_41 {Rel : Nat → (Nat → Int32) → (Nat → Nat → Int32) → (Nat → Option Nat) → List Nat → (Nat → Nat) → (Nat → Nat → Int32) → (Nat → Int32) → (Nat → Nat → Int32) → Prop} {p : Program} {l : Launch} {e : Env} {s : State} {m : MethodId} {below : List Frame} {meth : Method} {c : Code} {D : va_G} {cy ad am : Nat → Nat} {b N : Nat} {xs : Nat → Int32} (C : CX D cy R_La code tb_La_41 4 p s m #[Value.ref b] c (fun q => s.heap.size ≤ q)) (hX : va_X b N xs s s.heap) (hbl : b < s.heap.size) (hN : N ≤ 3072)
    (ho41 : ∀ (k : Nat) (a1 a2 : Int32) (I : Nat → Int32) (A : Nat → Nat → Int32) (T : Nat → Option Nat) (L : List Nat) (K : Nat → Nat) (F : Nat → Nat → Int32) (J : Nat → Int32) (B : Nat → Nat → Int32), k < 512 → Rel k I A T L K F J B → g_Pw_term A a1 a2 (fun r u => g_Mo_term B a1 a2 (fun r2 v => r = r2 ∧ Rel (k + 1) I u T L K F J v)))
    (k : Nat) (I : Nat → Int32) (A : Nat → Nat → Int32) (T : Nat → Option Nat) (L : List Nat) (K : Nat → Nat) (F : Nat → Nat → Int32) (J : Nat → Int32) (B : Nat → Nat → Int32) (h6 : 6 * k + 6 ≤ N) (ih : ∀ (I : Nat → Int32) (A : Nat → Nat → Int32) (T : Nat → Option Nat) (L : List Nat) (K : Nat → Nat) (F : Nat → Nat → Int32) (J : Nat → Int32) (B : Nat → Nat → Int32) (H : Heap) (locs : List Loc) (ls : Array Slot), 6 * (k + 1) ≤ N → Rel (k + 1) I A T L K F J B → HXw D (fun q => s.heap.size ≤ q) s.heap H locs (wC cy ad I A T L K F ++ wM cy am J B) → lv_has ls 4 [(0, .ref b), (1, .ref (ad 0)), (2, .ref (am 0)), (3, .int (nI (6 * (k + 1))))] → W p l e room_1 s m #[Value.ref b] below meth c H locs (87 + (k + 1)) (28975 + 7 * (k + 1)) (lw_Z below #[Value.ref b] s) (F0 m 18 ls [])) (H : Heap) (locs : List Loc) (ls : Array Slot) (hR : Rel k I A T L K F J B) (h : HXw D (fun q => s.heap.size ≤ q) s.heap H locs (wC cy ad I A T L K F ++ wM cy am J B)) (hl : lv_has ls 4 [(0, .ref b), (1, .ref (ad 0)), (2, .ref (am 0)), (3, .int (nI (6 * k)))]) : W p l e room_1 s m #[Value.ref b] below meth c H locs (87 + k) (28975 + 7 * k) (lw_Z below #[Value.ref b] s) (F0 m 1519 ls []) := by
  have hbA : ¬ (fun q => s.heap.size ≤ q) b := Nat.not_le.mpr hbl
  refine i_aload_n (n := 1520) C 0 rfl rfl rfl hl 1 rfl ?_
  refine i_aload_n (n := 1521) C 1 rfl rfl rfl hl 0 rfl ?_
  refine i_iload_n (n := 1522) C 2 rfl rfl rfl hl 3 rfl ?_
  refine i_iconst (v := (1 : Int32)) (n := 1523) C 3 rfl rfl rfl ?_
  refine i_iadd (n := 1524) C 4 rfl rfl ?_
  refine i_sld (n := 1525) C 5 rfl rfl h hX hbl hbA (law_in (j := 1) hN (by decide) h6) ?_
  refine i_aload_n (n := 1526) C 6 rfl rfl rfl hl 0 rfl ?_
  refine i_iload_n (n := 1527) C 7 rfl rfl rfl hl 3 rfl ?_
  refine i_iconst (v := (2 : Int32)) (n := 1528) C 8 rfl rfl rfl ?_
  refine i_iadd (n := 1529) C 9 rfl rfl ?_
  refine i_sld (n := 1530) C 10 rfl rfl h hX hbl hbA (law_in (j := 2) hN (by decide) h6) ?_
  have hw := ho41 k (xs ((nI (6 * k)) + (1 : Int32)).toNatClampNeg) (xs ((nI (6 * k)) + (2 : Int32)).toNatClampNeg) I A T L K F J B (by omega) hR
  refine i_callVi (rest := []) (ci := 10) (qc := (R_Pw, T_Pw, 16)) (n := 1533) C 11 rfl rfl hl h rfl wCM_c (kV_La_185 ⟨by decide, by decide⟩) (fr_iR (wM cy am J B) (m_Pw_term hw)) rfl rfl (Nat.le_of_ble_eq_true rfl) ⟨by show 87 + k + 0 ≤ 600000; omega, by show 28975 + 7 * k + 0 ≤ 7302250; omega⟩ (fun r u H locs hw h => ?_)
  have h : HXw D (fun q => s.heap.size ≤ q) s.heap H locs (wC cy ad I u T L K F ++ wM cy am J B) := h
  refine i_aload_n (n := 1534) C 12 rfl rfl rfl hl 2 rfl ?_
  refine i_aload_n (n := 1535) C 13 rfl rfl rfl hl 0 rfl ?_
  refine i_iload_n (n := 1536) C 14 rfl rfl rfl hl 3 rfl ?_
  refine i_iconst (v := (1 : Int32)) (n := 1537) C 15 rfl rfl rfl ?_
  refine i_iadd (n := 1538) C 16 rfl rfl ?_
  refine i_sld (n := 1539) C 17 rfl rfl h hX hbl hbA (law_in (j := 1) hN (by decide) h6) ?_
  refine i_aload_n (n := 1540) C 18 rfl rfl rfl hl 0 rfl ?_
  refine i_iload_n (n := 1541) C 19 rfl rfl rfl hl 3 rfl ?_
  refine i_iconst (v := (2 : Int32)) (n := 1542) C 20 rfl rfl rfl ?_
  refine i_iadd (n := 1543) C 21 rfl rfl ?_
  refine i_sld (n := 1544) C 22 rfl rfl h hX hbl hbA (law_in (j := 2) hN (by decide) h6) ?_
  refine i_callVi (rest := [.int r]) (ci := 11) (qc := (R_Mo, T_Mo, 50)) (n := 1547) C 23 rfl rfl hl h rfl wCM_m (kV_La_188 ⟨by decide, by decide⟩) (fr_iL (wC cy ad I u T L K F) (m_Mo_term hw)) rfl rfl (Nat.le_of_ble_eq_true rfl) ⟨by show 87 + k + 0 + 0 ≤ 600000; omega, by show 28975 + 7 * k + 0 + 0 ≤ 7302250; omega⟩ (fun r2 v H locs hw h => ?_)
  have h : HXw D (fun q => s.heap.size ≤ q) s.heap H locs (wC cy ad I u T L K F ++ wM cy am J v) := h
  obtain ⟨hrr, hR2⟩ := hw
  refine i_icmp_eq (tgt := 1624) (n := 1550) C 24 rfl rfl rfl (fun _ => ?_) (fun z => absurd hrr z)
  refine i_iinc (v := nI (6 * (k + 1))) (lv' := [(3, .int (nI (6 * (k + 1)))), (0, .ref b), (1, .ref (ad 0)), (2, .ref (am 0))]) (n := 1627) C 27 rfl rfl hl 3 rfl (nI_add (6 * k) 6) (by decide) rfl (fun ls hl => ?_)
  refine i_goto (tgt := 18) C 28 rfl rfl ?_
  refine W.widen (k := 87 + (k + 1)) (n := 28975 + 7 * (k + 1)) (by omega) (by omega) ?_
  exact ih _ _ _ _ _ _ _ _ _ _ ls (by omega) hR2 h (lv_sub hl [1, 2, 3, 0] rfl)
set_option maxHeartbeats 4000000 in
set_option maxRecDepth 100000 in
theorem law_42 {Rel : Nat → (Nat → Int32) → (Nat → Nat → Int32) → (Nat → Option Nat) → List Nat → (Nat → Nat) → (Nat → Nat → Int32) → (Nat → Int32) → (Nat → Nat → Int32) → Prop} {p : Program} {l : Launch} {e : Env} {s : State} {m : MethodId} {below : List Frame} {meth : Method} {c : Code} {D : va_G} {cy ad am : Nat → Nat} {b N : Nat} {xs : Nat → Int32} (C : CX D cy R_La code tb_La_42 4 p s m #[Value.ref b] c (fun q => s.heap.size ≤ q)) (hX : va_X b N xs s s.heap) (hbl : b < s.heap.size) (hN : N ≤ 3072)
    (ho42 : ∀ (k : Nat) (a1 a2 : Int32) (I : Nat → Int32) (A : Nat → Nat → Int32) (T : Nat → Option Nat) (L : List Nat) (K : Nat → Nat) (F : Nat → Nat → Int32) (J : Nat → Int32) (B : Nat → Nat → Int32), k < 512 → isB a2 → Rel k I A T L K F J B → g_Pw_meter I A a1 a2 (fun r u => g_Mo_meter J B a1 a2 (fun r2 v => r = r2 ∧ Rel (k + 1) I u T L K F J v)))
    (k : Nat) (I : Nat → Int32) (A : Nat → Nat → Int32) (T : Nat → Option Nat) (L : List Nat) (K : Nat → Nat) (F : Nat → Nat → Int32) (J : Nat → Int32) (B : Nat → Nat → Int32) (h6 : 6 * k + 6 ≤ N) (ih : ∀ (I : Nat → Int32) (A : Nat → Nat → Int32) (T : Nat → Option Nat) (L : List Nat) (K : Nat → Nat) (F : Nat → Nat → Int32) (J : Nat → Int32) (B : Nat → Nat → Int32) (H : Heap) (locs : List Loc) (ls : Array Slot), 6 * (k + 1) ≤ N → Rel (k + 1) I A T L K F J B → HXw D (fun q => s.heap.size ≤ q) s.heap H locs (wC cy ad I A T L K F ++ wM cy am J B) → lv_has ls 4 [(0, .ref b), (1, .ref (ad 0)), (2, .ref (am 0)), (3, .int (nI (6 * (k + 1))))] → W p l e room_1 s m #[Value.ref b] below meth c H locs (87 + (k + 1)) (28975 + 7 * (k + 1)) (lw_Z below #[Value.ref b] s) (F0 m 18 ls [])) (H : Heap) (locs : List Loc) (ls : Array Slot) (hR : Rel k I A T L K F J B) (h : HXw D (fun q => s.heap.size ≤ q) s.heap H locs (wC cy ad I A T L K F ++ wM cy am J B)) (hl : lv_has ls 4 [(0, .ref b), (1, .ref (ad 0)), (2, .ref (am 0)), (3, .int (nI (6 * k)))]) : W p l e room_1 s m #[Value.ref b] below meth c H locs (87 + k) (28975 + 7 * k) (lw_Z below #[Value.ref b] s) (F0 m 1552 ls []) := by
  have hbA : ¬ (fun q => s.heap.size ≤ q) b := Nat.not_le.mpr hbl
  refine i_aload_n (n := 1553) C 0 rfl rfl rfl hl 1 rfl ?_
  refine i_aload_n (n := 1554) C 1 rfl rfl rfl hl 0 rfl ?_
  refine i_iload_n (n := 1555) C 2 rfl rfl rfl hl 3 rfl ?_
  refine i_iconst (v := (1 : Int32)) (n := 1556) C 3 rfl rfl rfl ?_
  refine i_iadd (n := 1557) C 4 rfl rfl ?_
  refine i_sld (n := 1558) C 5 rfl rfl h hX hbl hbA (law_in (j := 1) hN (by decide) h6) ?_
  refine i_aload_n (n := 1559) C 6 rfl rfl rfl hl 0 rfl ?_
  refine i_iload_n (n := 1560) C 7 rfl rfl rfl hl 3 rfl ?_
  refine i_iconst (v := (2 : Int32)) (n := 1561) C 8 rfl rfl rfl ?_
  refine i_iadd (n := 1562) C 9 rfl rfl ?_
  refine i_sld (n := 1563) C 10 rfl rfl h hX hbl hbA (law_in (j := 2) hN (by decide) h6) ?_
  refine i_if_eq (tgt := 1570) (n := 1566) C 11 rfl rfl rfl (fun cb0 => ?_) (fun cb0 => ?_)
  · refine i_iconst (v := (0 : Int32)) (n := 1571) C 14 rfl rfl rfl ?_
    have hw := ho42 k (xs ((nI (6 * k)) + (1 : Int32)).toNatClampNeg) (0 : Int32) I A T L K F J B (by omega) (by first | exact Or.inl rfl | exact Or.inr rfl) hR
    refine i_callVi (rest := []) (ci := 10) (qc := (R_Pw, T_Pw, 16)) (n := 1574) C 15 rfl rfl hl h rfl wCM_c (kV_La_189 ⟨by decide, by decide⟩) (fr_iR (wM cy am J B) (m_Pw_meter hw)) rfl rfl (Nat.le_of_ble_eq_true rfl) ⟨by show 87 + k + 0 ≤ 600000; omega, by show 28975 + 7 * k + 0 ≤ 7302250; omega⟩ (fun r u H locs hw h => ?_)
    have h : HXw D (fun q => s.heap.size ≤ q) s.heap H locs (wC cy ad I u T L K F ++ wM cy am J B) := h
    refine i_aload_n (n := 1575) C 16 rfl rfl rfl hl 2 rfl ?_
    refine i_aload_n (n := 1576) C 17 rfl rfl rfl hl 0 rfl ?_
    refine i_iload_n (n := 1577) C 18 rfl rfl rfl hl 3 rfl ?_
    refine i_iconst (v := (1 : Int32)) (n := 1578) C 19 rfl rfl rfl ?_
    refine i_iadd (n := 1579) C 20 rfl rfl ?_
    refine i_sld (n := 1580) C 21 rfl rfl h hX hbl hbA (law_in (j := 1) hN (by decide) h6) ?_
    refine i_aload_n (n := 1581) C 22 rfl rfl rfl hl 0 rfl ?_
    refine i_iload_n (n := 1582) C 23 rfl rfl rfl hl 3 rfl ?_
    refine i_iconst (v := (2 : Int32)) (n := 1583) C 24 rfl rfl rfl ?_
    refine i_iadd (n := 1584) C 25 rfl rfl ?_
    refine i_sld (n := 1585) C 26 rfl rfl h hX hbl hbA (law_in (j := 2) hN (by decide) h6) ?_
    refine i_if_eq (tgt := 1592) (n := 1588) C 27 rfl rfl rfl (fun _ => ?_) (fun z => absurd cb0 z)
    refine i_iconst (v := (0 : Int32)) (n := 1593) C 30 rfl rfl rfl ?_
    refine i_callVi (rest := [.int r]) (ci := 11) (qc := (R_Mo, T_Mo, 50)) (n := 1596) C 31 rfl rfl hl h rfl wCM_m (kV_La_192 ⟨by decide, by decide⟩) (fr_iL (wC cy ad I u T L K F) (m_Mo_meter hw)) rfl rfl (Nat.le_of_ble_eq_true rfl) ⟨by show 87 + k + 0 + 0 ≤ 600000; omega, by show 28975 + 7 * k + 0 + 0 ≤ 7302250; omega⟩ (fun r2 v H locs hw h => ?_)
    have h : HXw D (fun q => s.heap.size ≤ q) s.heap H locs (wC cy ad I u T L K F ++ wM cy am J v) := h
    obtain ⟨hrr, hR2⟩ := hw
    refine i_icmp_eq (tgt := 1624) (n := 1599) C 32 rfl rfl rfl (fun _ => ?_) (fun z => absurd hrr z)
    refine i_iinc (v := nI (6 * (k + 1))) (lv' := [(3, .int (nI (6 * (k + 1)))), (0, .ref b), (1, .ref (ad 0)), (2, .ref (am 0))]) (n := 1627) C 35 rfl rfl hl 3 rfl (nI_add (6 * k) 6) (by decide) rfl (fun ls hl => ?_)
    refine i_goto (tgt := 18) C 36 rfl rfl ?_
    refine W.widen (k := 87 + (k + 1)) (n := 28975 + 7 * (k + 1)) (by omega) (by omega) ?_
    exact ih _ _ _ _ _ _ _ _ _ _ ls (by omega) hR2 h (lv_sub hl [1, 2, 3, 0] rfl)
  · refine i_iconst (v := (1 : Int32)) (n := 1567) C 12 rfl rfl rfl ?_
    refine i_goto (tgt := 1571) C 13 rfl rfl ?_
    have hw := ho42 k (xs ((nI (6 * k)) + (1 : Int32)).toNatClampNeg) (1 : Int32) I A T L K F J B (by omega) (by first | exact Or.inl rfl | exact Or.inr rfl) hR
    refine i_callVi (rest := []) (ci := 10) (qc := (R_Pw, T_Pw, 16)) (n := 1574) C 15 rfl rfl hl h rfl wCM_c (kV_La_189 ⟨by decide, by decide⟩) (fr_iR (wM cy am J B) (m_Pw_meter hw)) rfl rfl (Nat.le_of_ble_eq_true rfl) ⟨by show 87 + k + 0 ≤ 600000; omega, by show 28975 + 7 * k + 0 ≤ 7302250; omega⟩ (fun r u H locs hw h => ?_)
    have h : HXw D (fun q => s.heap.size ≤ q) s.heap H locs (wC cy ad I u T L K F ++ wM cy am J B) := h
    refine i_aload_n (n := 1575) C 16 rfl rfl rfl hl 2 rfl ?_
    refine i_aload_n (n := 1576) C 17 rfl rfl rfl hl 0 rfl ?_
    refine i_iload_n (n := 1577) C 18 rfl rfl rfl hl 3 rfl ?_
    refine i_iconst (v := (1 : Int32)) (n := 1578) C 19 rfl rfl rfl ?_
    refine i_iadd (n := 1579) C 20 rfl rfl ?_
    refine i_sld (n := 1580) C 21 rfl rfl h hX hbl hbA (law_in (j := 1) hN (by decide) h6) ?_
    refine i_aload_n (n := 1581) C 22 rfl rfl rfl hl 0 rfl ?_
    refine i_iload_n (n := 1582) C 23 rfl rfl rfl hl 3 rfl ?_
    refine i_iconst (v := (2 : Int32)) (n := 1583) C 24 rfl rfl rfl ?_
    refine i_iadd (n := 1584) C 25 rfl rfl ?_
    refine i_sld (n := 1585) C 26 rfl rfl h hX hbl hbA (law_in (j := 2) hN (by decide) h6) ?_
    refine i_if_eq (tgt := 1592) (n := 1588) C 27 rfl rfl rfl (fun z => absurd z cb0) (fun _ => ?_)
    refine i_iconst (v := (1 : Int32)) (n := 1589) C 28 rfl rfl rfl ?_
    refine i_goto (tgt := 1593) C 29 rfl rfl ?_
    refine i_callVi (rest := [.int r]) (ci := 11) (qc := (R_Mo, T_Mo, 50)) (n := 1596) C 31 rfl rfl hl h rfl wCM_m (kV_La_192 ⟨by decide, by decide⟩) (fr_iL (wC cy ad I u T L K F) (m_Mo_meter hw)) rfl rfl (Nat.le_of_ble_eq_true rfl) ⟨by show 87 + k + 0 + 0 ≤ 600000; omega, by show 28975 + 7 * k + 0 + 0 ≤ 7302250; omega⟩ (fun r2 v H locs hw h => ?_)
    have h : HXw D (fun q => s.heap.size ≤ q) s.heap H locs (wC cy ad I u T L K F ++ wM cy am J v) := h
    obtain ⟨hrr, hR2⟩ := hw
    refine i_icmp_eq (tgt := 1624) (n := 1599) C 32 rfl rfl rfl (fun _ => ?_) (fun z => absurd hrr z)
    refine i_iinc (v := nI (6 * (k + 1))) (lv' := [(3, .int (nI (6 * (k + 1)))), (0, .ref b), (1, .ref (ad 0)), (2, .ref (am 0))]) (n := 1627) C 35 rfl rfl hl 3 rfl (nI_add (6 * k) 6) (by decide) rfl (fun ls hl => ?_)
    refine i_goto (tgt := 18) C 36 rfl rfl ?_
    refine W.widen (k := 87 + (k + 1)) (n := 28975 + 7 * (k + 1)) (by omega) (by omega) ?_
    exact ih _ _ _ _ _ _ _ _ _ _ ls (by omega) hR2 h (lv_sub hl [1, 2, 3, 0] rfl)
set_option maxHeartbeats 4000000 in
set_option maxRecDepth 100000 in
theorem law_43 {Rel : Nat → (Nat → Int32) → (Nat → Nat → Int32) → (Nat → Option Nat) → List Nat → (Nat → Nat) → (Nat → Nat → Int32) → (Nat → Int32) → (Nat → Nat → Int32) → Prop} {p : Program} {l : Launch} {e : Env} {s : State} {m : MethodId} {below : List Frame} {meth : Method} {c : Code} {D : va_G} {cy ad am : Nat → Nat} {b N : Nat} {xs : Nat → Int32} (C : CX D cy R_La code tb_La_43 4 p s m #[Value.ref b] c (fun q => s.heap.size ≤ q)) (hX : va_X b N xs s s.heap) (hbl : b < s.heap.size) (hN : N ≤ 3072)
    (ho43 : ∀ (k : Nat) (a1 : Int32) (I : Nat → Int32) (A : Nat → Nat → Int32) (T : Nat → Option Nat) (L : List Nat) (K : Nat → Nat) (F : Nat → Nat → Int32) (J : Nat → Int32) (B : Nat → Nat → Int32), k < 512 → Rel k I A T L K F J B → g_Pw_pay I A a1 (fun r => g_Mo_pay J B a1 (fun r2 => r = r2 ∧ Rel (k + 1) I A T L K F J B)))
    (k : Nat) (I : Nat → Int32) (A : Nat → Nat → Int32) (T : Nat → Option Nat) (L : List Nat) (K : Nat → Nat) (F : Nat → Nat → Int32) (J : Nat → Int32) (B : Nat → Nat → Int32) (h6 : 6 * k + 6 ≤ N) (ih : ∀ (I : Nat → Int32) (A : Nat → Nat → Int32) (T : Nat → Option Nat) (L : List Nat) (K : Nat → Nat) (F : Nat → Nat → Int32) (J : Nat → Int32) (B : Nat → Nat → Int32) (H : Heap) (locs : List Loc) (ls : Array Slot), 6 * (k + 1) ≤ N → Rel (k + 1) I A T L K F J B → HXw D (fun q => s.heap.size ≤ q) s.heap H locs (wC cy ad I A T L K F ++ wM cy am J B) → lv_has ls 4 [(0, .ref b), (1, .ref (ad 0)), (2, .ref (am 0)), (3, .int (nI (6 * (k + 1))))] → W p l e room_1 s m #[Value.ref b] below meth c H locs (87 + (k + 1)) (28975 + 7 * (k + 1)) (lw_Z below #[Value.ref b] s) (F0 m 18 ls [])) (H : Heap) (locs : List Loc) (ls : Array Slot) (hR : Rel k I A T L K F J B) (h : HXw D (fun q => s.heap.size ≤ q) s.heap H locs (wC cy ad I A T L K F ++ wM cy am J B)) (hl : lv_has ls 4 [(0, .ref b), (1, .ref (ad 0)), (2, .ref (am 0)), (3, .int (nI (6 * k)))]) : W p l e room_1 s m #[Value.ref b] below meth c H locs (87 + k) (28975 + 7 * k) (lw_Z below #[Value.ref b] s) (F0 m 1601 ls []) := by
  have hbA : ¬ (fun q => s.heap.size ≤ q) b := Nat.not_le.mpr hbl
  refine i_aload_n (n := 1602) C 0 rfl rfl rfl hl 1 rfl ?_
  refine i_aload_n (n := 1603) C 1 rfl rfl rfl hl 0 rfl ?_
  refine i_iload_n (n := 1604) C 2 rfl rfl rfl hl 3 rfl ?_
  refine i_iconst (v := (1 : Int32)) (n := 1605) C 3 rfl rfl rfl ?_
  refine i_iadd (n := 1606) C 4 rfl rfl ?_
  refine i_sld (n := 1607) C 5 rfl rfl h hX hbl hbA (law_in (j := 1) hN (by decide) h6) ?_
  have hw := ho43 k (xs ((nI (6 * k)) + (1 : Int32)).toNatClampNeg) I A T L K F J B (by omega) hR
  refine i_callVp (rest := []) (ci := 10) (qc := (R_Pw, T_Pw, 16)) (n := 1610) C 6 rfl rfl hl h rfl wCM_c (kV_La_193 ⟨by decide, by decide⟩) (fr_pR (wM cy am J B) (m_Pw_pay hw)) rfl rfl (Nat.le_of_ble_eq_true rfl) ⟨by show 87 + k ≤ 600000; omega, by show 28975 + 7 * k ≤ 7302250; omega⟩ (fun r hw => ?_)
  refine i_aload_n (n := 1611) C 7 rfl rfl rfl hl 2 rfl ?_
  refine i_aload_n (n := 1612) C 8 rfl rfl rfl hl 0 rfl ?_
  refine i_iload_n (n := 1613) C 9 rfl rfl rfl hl 3 rfl ?_
  refine i_iconst (v := (1 : Int32)) (n := 1614) C 10 rfl rfl rfl ?_
  refine i_iadd (n := 1615) C 11 rfl rfl ?_
  refine i_sld (n := 1616) C 12 rfl rfl h hX hbl hbA (law_in (j := 1) hN (by decide) h6) ?_
  refine i_callVp (rest := [.int r]) (ci := 11) (qc := (R_Mo, T_Mo, 50)) (n := 1619) C 13 rfl rfl hl h rfl wCM_m (kV_La_196 ⟨by decide, by decide⟩) (fr_pL (wC cy ad I A T L K F) (m_Mo_pay hw)) rfl rfl (Nat.le_of_ble_eq_true rfl) ⟨by show 87 + k ≤ 600000; omega, by show 28975 + 7 * k ≤ 7302250; omega⟩ (fun r2 hw => ?_)
  obtain ⟨hrr, hR2⟩ := hw
  refine i_icmp_eq (tgt := 1624) (n := 1622) C 14 rfl rfl rfl (fun _ => ?_) (fun z => absurd hrr z)
  refine i_iinc (v := nI (6 * (k + 1))) (lv' := [(3, .int (nI (6 * (k + 1)))), (0, .ref b), (1, .ref (ad 0)), (2, .ref (am 0))]) (n := 1627) C 17 rfl rfl hl 3 rfl (nI_add (6 * k) 6) (by decide) rfl (fun ls hl => ?_)
  refine i_goto (tgt := 18) C 18 rfl rfl ?_
  refine W.widen (k := 87 + (k + 1)) (n := 28975 + 7 * (k + 1)) (by omega) (by omega) ?_
  exact ih _ _ _ _ _ _ _ _ _ _ ls (by omega) hR2 h (lv_sub hl [1, 2, 3, 0] rfl)
set_option maxHeartbeats 16000000 in
set_option maxRecDepth 100000 in
theorem law_loop {Rel : Nat → (Nat → Int32) → (Nat → Nat → Int32) → (Nat → Option Nat) → List Nat → (Nat → Nat) → (Nat → Nat → Int32) → (Nat → Int32) → (Nat → Nat → Int32) → Prop} {p : Program} {l : Launch} {e : Env} {s : State} {m : MethodId} {below : List Frame} {meth : Method} {c : Code} {D : va_G} {cy ad am : Nat → Nat} {b N : Nat} {xs : Nat → Int32} (C : CX D cy R_La code tb_La_h 4 p s m #[Value.ref b] c (fun q => s.heap.size ≤ q)) (hX : va_X b N xs s s.heap) (hbl : b < s.heap.size) (hN : N ≤ 3072) (hr : meth.sig.returnType = ret) (hlocks : meth.locks = false)
    (hskip : ∀ (k : Nat) I A T L K F J B, Rel k I A T L K F J B → Rel (k + 1) I A T L K F J B)
    (ho0 : ∀ (k : Nat) (a1 a2 : Int32) (I : Nat → Int32) (A : Nat → Nat → Int32) (T : Nat → Option Nat) (L : List Nat) (K : Nat → Nat) (F : Nat → Nat → Int32) (J : Nat → Int32) (B : Nat → Nat → Int32), k < 512 → Rel k I A T L K F J B → g_Pw_node I A a1 a2 (fun r u => g_Mo_node J B a1 a2 (fun r2 v => r = r2 ∧ Rel (k + 1) u.1 u.2 T L K F v.1 v.2)))
    (ho1 : ∀ (k : Nat) (a1 a2 a3 : Int32) (I : Nat → Int32) (A : Nat → Nat → Int32) (T : Nat → Option Nat) (L : List Nat) (K : Nat → Nat) (F : Nat → Nat → Int32) (J : Nat → Int32) (B : Nat → Nat → Int32), k < 512 → Rel k I A T L K F J B → g_Pw_main I A a1 a2 a3 (fun r u => g_Mo_main J B a1 a2 a3 (fun r2 v => r = r2 ∧ Rel (k + 1) u.1 u.2 T L K F v.1 v.2)))
    (ho2 : ∀ (k : Nat) (a1 a2 : Int32) (I : Nat → Int32) (A : Nat → Nat → Int32) (T : Nat → Option Nat) (L : List Nat) (K : Nat → Nat) (F : Nat → Nat → Int32) (J : Nat → Int32) (B : Nat → Nat → Int32), k < 512 → Rel k I A T L K F J B → g_Pw_valve I A a1 a2 (fun r u => g_Mo_valve J B a1 a2 (fun r2 v => r = r2 ∧ Rel (k + 1) u.1 u.2 T L K F v.1 v.2)))
    (ho3 : ∀ (k : Nat) (a1 : Int32) (I : Nat → Int32) (A : Nat → Nat → Int32) (T : Nat → Option Nat) (L : List Nat) (K : Nat → Nat) (F : Nat → Nat → Int32) (J : Nat → Int32) (B : Nat → Nat → Int32), k < 512 → Rel k I A T L K F J B → g_Pw_turn I a1 (fun r u => g_Mo_turn J B a1 (fun r2 v => r = r2 ∧ Rel (k + 1) u A T L K F J v)))
    (ho4 : ∀ (k : Nat) (a1 a2 : Int32) (I : Nat → Int32) (A : Nat → Nat → Int32) (T : Nat → Option Nat) (L : List Nat) (K : Nat → Nat) (F : Nat → Nat → Int32) (J : Nat → Int32) (B : Nat → Nat → Int32), k < 512 → Rel k I A T L K F J B → g_Pw_ofMain I A a1 a2 (fun r => g_Mo_ofMain J B a1 a2 (fun r2 => r = r2 ∧ Rel (k + 1) I A T L K F J B)))
    (ho5 : ∀ (k : Nat) (a1 : Int32) (I : Nat → Int32) (A : Nat → Nat → Int32) (T : Nat → Option Nat) (L : List Nat) (K : Nat → Nat) (F : Nat → Nat → Int32) (J : Nat → Int32) (B : Nat → Nat → Int32), k < 512 → Rel k I A T L K F J B → g_Pw_wrong I A a1 (fun r => g_Mo_wrong J B a1 (fun r2 => r = r2 ∧ Rel (k + 1) I A T L K F J B)))
    (ho6 : ∀ (k : Nat) (a1 : Int32) (I : Nat → Int32) (A : Nat → Nat → Int32) (T : Nat → Option Nat) (L : List Nat) (K : Nat → Nat) (F : Nat → Nat → Int32) (J : Nat → Int32) (B : Nat → Nat → Int32), k < 512 → Rel k I A T L K F J B → g_Pw_mend I A a1 (fun r u => g_Mo_mend J B a1 (fun r2 v => r = r2 ∧ Rel (k + 1) I u T L K F J v)))
    (ho7 : ∀ (k : Nat) (a1 a2 a3 a4 : Int32) (I : Nat → Int32) (A : Nat → Nat → Int32) (T : Nat → Option Nat) (L : List Nat) (K : Nat → Nat) (F : Nat → Nat → Int32) (J : Nat → Int32) (B : Nat → Nat → Int32), k < 512 → Rel k I A T L K F J B → g_Pw_draw I T L K F a1 a2 a3 a4 (fun r u => g_Mo_draw J B a1 a2 a3 a4 (fun r2 v => r = r2 ∧ Rel (k + 1) I A u.1 u.2.1 u.2.2.1 u.2.2.2 J v)))
    (ho8 : ∀ (k : Nat) (a1 a2 a3 a4 a5 : Int32) (I : Nat → Int32) (A : Nat → Nat → Int32) (T : Nat → Option Nat) (L : List Nat) (K : Nat → Nat) (F : Nat → Nat → Int32) (J : Nat → Int32) (B : Nat → Nat → Int32), k < 512 → Rel k I A T L K F J B → g_Pw_lift I T L K F a1 a2 a3 a4 a5 (fun r u => g_Mo_lift J B a1 a2 a3 a4 a5 (fun r2 v => r = r2 ∧ Rel (k + 1) I A u.1 u.2.1 u.2.2.1 u.2.2.2 J v)))
    (ho9 : ∀ (k : Nat) (a1 a2 a3 a4 a5 : Int32) (I : Nat → Int32) (A : Nat → Nat → Int32) (T : Nat → Option Nat) (L : List Nat) (K : Nat → Nat) (F : Nat → Nat → Int32) (J : Nat → Int32) (B : Nat → Nat → Int32), k < 512 → Rel k I A T L K F J B → g_Pw_bridge I T L K F a1 a2 a3 a4 a5 (fun r u => g_Mo_bridge J B a1 a2 a3 a4 a5 (fun r2 v => r = r2 ∧ Rel (k + 1) I A u.1 u.2.1 u.2.2.1 u.2.2.2 J v)))
    (ho10 : ∀ (k : Nat) (a1 a2 a3 a4 : Int32) (I : Nat → Int32) (A : Nat → Nat → Int32) (T : Nat → Option Nat) (L : List Nat) (K : Nat → Nat) (F : Nat → Nat → Int32) (J : Nat → Int32) (B : Nat → Nat → Int32), k < 512 → Rel k I A T L K F J B → g_Pw_tower I T L K F a1 a2 a3 a4 (fun r u => g_Mo_tower J B a1 a2 a3 a4 (fun r2 v => r = r2 ∧ Rel (k + 1) I A u.1 u.2.1 u.2.2.1 u.2.2.2 J v)))
    (ho11 : ∀ (k : Nat) (a1 a2 a3 a4 : Int32) (I : Nat → Int32) (A : Nat → Nat → Int32) (T : Nat → Option Nat) (L : List Nat) (K : Nat → Nat) (F : Nat → Nat → Int32) (J : Nat → Int32) (B : Nat → Nat → Int32), k < 512 → Rel k I A T L K F J B → g_Pw_house I T L K F a1 a2 a3 a4 (fun r u => g_Mo_house J B a1 a2 a3 a4 (fun r2 v => r = r2 ∧ Rel (k + 1) I A u.1 u.2.1 u.2.2.1 u.2.2.2 J v)))
    (ho12 : ∀ (k : Nat) (a1 a2 a3 : Int32) (I : Nat → Int32) (A : Nat → Nat → Int32) (T : Nat → Option Nat) (L : List Nat) (K : Nat → Nat) (F : Nat → Nat → Int32) (J : Nat → Int32) (B : Nat → Nat → Int32), k < 512 → isB a3 → Rel k I A T L K F J B → g_Pw_leak I T L K F a1 a2 a3 (fun r u => g_Mo_leak J B a1 a2 a3 (fun r2 v => r = r2 ∧ Rel (k + 1) I A u.1 u.2.1 u.2.2.1 u.2.2.2 J v)))
    (ho13 : ∀ (k : Nat) (a1 : Int32) (I : Nat → Int32) (A : Nat → Nat → Int32) (T : Nat → Option Nat) (L : List Nat) (K : Nat → Nat) (F : Nat → Nat → Int32) (J : Nat → Int32) (B : Nat → Nat → Int32), k < 512 → Rel k I A T L K F J B → g_Pw_clear I T L K F a1 (fun r u => g_Mo_clear J B a1 (fun r2 v => r = r2 ∧ Rel (k + 1) I A u L K F J v)))
    (ho14 : ∀ (k : Nat) (a1 a2 : Int32) (I : Nat → Int32) (A : Nat → Nat → Int32) (T : Nat → Option Nat) (L : List Nat) (K : Nat → Nat) (F : Nat → Nat → Int32) (J : Nat → Int32) (B : Nat → Nat → Int32), k < 512 → Rel k I A T L K F J B → g_Pw_ofNode I A T L K F a1 a2 (fun r => g_Mo_ofNode J B a1 a2 (fun r2 => r = r2 ∧ Rel (k + 1) I A T L K F J B)))
    (ho15 : ∀ (k : Nat) (a1 a2 : Int32) (I : Nat → Int32) (A : Nat → Nat → Int32) (T : Nat → Option Nat) (L : List Nat) (K : Nat → Nat) (F : Nat → Nat → Int32) (J : Nat → Int32) (B : Nat → Nat → Int32), k < 512 → isB a2 → Rel k I A T L K F J B → g_Pw_light I T L K F a1 a2 (fun r u => g_Mo_light J B a1 a2 (fun r2 v => r = r2 ∧ Rel (k + 1) I A T L K u J v)))
    (ho16 : ∀ (k : Nat) (a1 : Int32) (I : Nat → Int32) (A : Nat → Nat → Int32) (T : Nat → Option Nat) (L : List Nat) (K : Nat → Nat) (F : Nat → Nat → Int32) (J : Nat → Int32) (B : Nat → Nat → Int32), k < 512 → Rel k I A T L K F J B → g_Pw_found I T L K F a1 (fun r u => g_Mo_found J B a1 (fun r2 v => r = r2 ∧ Rel (k + 1) I A T L K u J v)))
    (ho17 : ∀ (k : Nat) (I : Nat → Int32) (A : Nat → Nat → Int32) (T : Nat → Option Nat) (L : List Nat) (K : Nat → Nat) (F : Nat → Nat → Int32) (J : Nat → Int32) (B : Nat → Nat → Int32), k < 512 → Rel k I A T L K F J B → g_Pw_work I A T L K F (fun r u => g_Mo_work J B (fun r2 v => r = r2 ∧ Rel (k + 1) u.1 u.2 T L K F v.1 v.2)))
    (ho18 : ∀ (k : Nat) (a1 : Int32) (I : Nat → Int32) (A : Nat → Nat → Int32) (T : Nat → Option Nat) (L : List Nat) (K : Nat → Nat) (F : Nat → Nat → Int32) (J : Nat → Int32) (B : Nat → Nat → Int32), k < 512 → Rel k I A T L K F J B → g_Pw_near I a1 (fun r u => g_Mo_near J a1 (fun r2 v => r = r2 ∧ Rel (k + 1) u A T L K F v B)))
    (ho19 : ∀ (k : Nat) (a1 a2 : Int32) (I : Nat → Int32) (A : Nat → Nat → Int32) (T : Nat → Option Nat) (L : List Nat) (K : Nat → Nat) (F : Nat → Nat → Int32) (J : Nat → Int32) (B : Nat → Nat → Int32), k < 512 → Rel k I A T L K F J B → g_Pw_press I A a1 a2 (fun r => g_Mo_press J B a1 a2 (fun r2 => r = r2 ∧ Rel (k + 1) I A T L K F J B)))
    (ho20 : ∀ (k : Nat) (a1 : Int32) (I : Nat → Int32) (A : Nat → Nat → Int32) (T : Nat → Option Nat) (L : List Nat) (K : Nat → Nat) (F : Nat → Nat → Int32) (J : Nat → Int32) (B : Nat → Nat → Int32), k < 512 → Rel k I A T L K F J B → g_Pw_flow I A a1 (fun r => g_Mo_flow J B a1 (fun r2 => r = r2 ∧ Rel (k + 1) I A T L K F J B)))
    (ho21 : ∀ (k : Nat) (a1 : Int32) (I : Nat → Int32) (A : Nat → Nat → Int32) (T : Nat → Option Nat) (L : List Nat) (K : Nat → Nat) (F : Nat → Nat → Int32) (J : Nat → Int32) (B : Nat → Nat → Int32), k < 512 → Rel k I A T L K F J B → g_Pw_step I A T L K F a1 (fun r u => g_Mo_step J B a1 (fun r2 v => r = r2 ∧ Rel (k + 1) u.1 u.2.1 T L K u.2.2 v.1 v.2)))
    (ho22 : ∀ (k : Nat) (a1 : Int32) (I : Nat → Int32) (A : Nat → Nat → Int32) (T : Nat → Option Nat) (L : List Nat) (K : Nat → Nat) (F : Nat → Nat → Int32) (J : Nat → Int32) (B : Nat → Nat → Int32), k < 512 → Rel k I A T L K F J B → g_Pw_told I a1 (fun r => g_Mo_told J a1 (fun r2 => r = r2 ∧ Rel (k + 1) I A T L K F J B)))
    (ho23 : ∀ (k : Nat) (a1 a2 : Int32) (I : Nat → Int32) (A : Nat → Nat → Int32) (T : Nat → Option Nat) (L : List Nat) (K : Nat → Nat) (F : Nat → Nat → Int32) (J : Nat → Int32) (B : Nat → Nat → Int32), k < 512 → Rel k I A T L K F J B → g_Pw_row A a1 a2 (fun r u => g_Mo_row B a1 a2 (fun r2 v => r = r2 ∧ Rel (k + 1) I u T L K F J v)))
    (ho24 : ∀ (k : Nat) (a1 a2 a3 : Int32) (I : Nat → Int32) (A : Nat → Nat → Int32) (T : Nat → Option Nat) (L : List Nat) (K : Nat → Nat) (F : Nat → Nat → Int32) (J : Nat → Int32) (B : Nat → Nat → Int32), k < 512 → Rel k I A T L K F J B → g_Pw_put A a1 a2 a3 (fun r u => g_Mo_put B a1 a2 a3 (fun r2 v => r = r2 ∧ Rel (k + 1) I u T L K F J v)))
    (ho25 : ∀ (k : Nat) (a1 a2 : Int32) (I : Nat → Int32) (A : Nat → Nat → Int32) (T : Nat → Option Nat) (L : List Nat) (K : Nat → Nat) (F : Nat → Nat → Int32) (J : Nat → Int32) (B : Nat → Nat → Int32), k < 512 → Rel k I A T L K F J B → g_Pw_none A a1 a2 (fun r u => g_Mo_none B a1 a2 (fun r2 v => r = r2 ∧ Rel (k + 1) I u T L K F J v)))
    (ho26 : ∀ (k : Nat) (a1 a2 : Int32) (I : Nat → Int32) (A : Nat → Nat → Int32) (T : Nat → Option Nat) (L : List Nat) (K : Nat → Nat) (F : Nat → Nat → Int32) (J : Nat → Int32) (B : Nat → Nat → Int32), k < 512 → Rel k I A T L K F J B → g_Pw_read I A a1 a2 (fun r u => g_Mo_read J B a1 a2 (fun r2 v => r = r2 ∧ Rel (k + 1) I u T L K F J v)))
    (ho27 : ∀ (k : Nat) (a1 : Int32) (I : Nat → Int32) (A : Nat → Nat → Int32) (T : Nat → Option Nat) (L : List Nat) (K : Nat → Nat) (F : Nat → Nat → Int32) (J : Nat → Int32) (B : Nat → Nat → Int32), k < 512 → Rel k I A T L K F J B → g_Pw_say I A a1 (fun r u => g_Mo_say J B a1 (fun r2 v => r = r2 ∧ Rel (k + 1) u.1 u.2 T L K F v.1 v.2)))
    (ho28 : ∀ (k : Nat) (I : Nat → Int32) (A : Nat → Nat → Int32) (T : Nat → Option Nat) (L : List Nat) (K : Nat → Nat) (F : Nat → Nat → Int32) (J : Nat → Int32) (B : Nat → Nat → Int32), k < 512 → Rel k I A T L K F J B → g_Pw_wipe I (fun r u => g_Mo_wipe J (fun r2 v => r = r2 ∧ Rel (k + 1) u A T L K F v B)))
    (ho29 : ∀ (k : Nat) (I : Nat → Int32) (A : Nat → Nat → Int32) (T : Nat → Option Nat) (L : List Nat) (K : Nat → Nat) (F : Nat → Nat → Int32) (J : Nat → Int32) (B : Nat → Nat → Int32), k < 512 → Rel k I A T L K F J B → g_Pw_fault I A (fun r => g_Mo_fault J B (fun r2 => r = r2 ∧ Rel (k + 1) I A T L K F J B)))
    (ho30 : ∀ (k : Nat) (a1 : Int32) (I : Nat → Int32) (A : Nat → Nat → Int32) (T : Nat → Option Nat) (L : List Nat) (K : Nat → Nat) (F : Nat → Nat → Int32) (J : Nat → Int32) (B : Nat → Nat → Int32), k < 512 → Rel k I A T L K F J B → g_Pw_order I A a1 (fun r u => g_Mo_order J B a1 (fun r2 v => r = r2 ∧ Rel (k + 1) u.1 u.2 T L K F v.1 v.2)))
    (ho31 : ∀ (k : Nat) (I : Nat → Int32) (A : Nat → Nat → Int32) (T : Nat → Option Nat) (L : List Nat) (K : Nat → Nat) (F : Nat → Nat → Int32) (J : Nat → Int32) (B : Nat → Nat → Int32), k < 512 → Rel k I A T L K F J B → g_Pw_does I A T L K F (fun r u => g_Mo_does J B (fun r2 v => r = r2 ∧ Rel (k + 1) u.1 u.2.1 T L K u.2.2 v.1 v.2)))
    (ho32 : ∀ (k : Nat) (a1 : Int32) (I : Nat → Int32) (A : Nat → Nat → Int32) (T : Nat → Option Nat) (L : List Nat) (K : Nat → Nat) (F : Nat → Nat → Int32) (J : Nat → Int32) (B : Nat → Nat → Int32), k < 512 → Rel k I A T L K F J B → g_Pw_why I A T L K F a1 (fun r u => g_Mo_why J B a1 (fun r2 v => r = r2 ∧ Rel (k + 1) I u T L K F v.1 v.2)))
    (ho33 : ∀ (k : Nat) (a1 : Int32) (I : Nat → Int32) (A : Nat → Nat → Int32) (T : Nat → Option Nat) (L : List Nat) (K : Nat → Nat) (F : Nat → Nat → Int32) (J : Nat → Int32) (B : Nat → Nat → Int32), k < 512 → Rel k I A T L K F J B → g_Pw_cut I A T L K F a1 (fun r => g_Mo_cut J B a1 (fun r2 => r = r2 ∧ Rel (k + 1) I A T L K F J B)))
    (ho34 : ∀ (k : Nat) (a1 : Int32) (I : Nat → Int32) (A : Nat → Nat → Int32) (T : Nat → Option Nat) (L : List Nat) (K : Nat → Nat) (F : Nat → Nat → Int32) (J : Nat → Int32) (B : Nat → Nat → Int32), k < 512 → Rel k I A T L K F J B → g_Pw_dry I A T L K F a1 (fun r => g_Mo_dry J B a1 (fun r2 => r = r2 ∧ Rel (k + 1) I A T L K F J B)))
    (ho35 : ∀ (k : Nat) (a1 a2 a3 : Int32) (I : Nat → Int32) (A : Nat → Nat → Int32) (T : Nat → Option Nat) (L : List Nat) (K : Nat → Nat) (F : Nat → Nat → Int32) (J : Nat → Int32) (B : Nat → Nat → Int32), k < 512 → Rel k I A T L K F J B → g_Pw_seek I A T L K F a1 a2 a3 (fun r u => g_Mo_seek J B a1 a2 a3 (fun r2 v => r = r2 ∧ Rel (k + 1) I u.1 u.2.1 u.2.2.1 u.2.2.2.1 u.2.2.2.2 v.1 v.2)))
    (ho36 : ∀ (k : Nat) (a1 : Int32) (I : Nat → Int32) (A : Nat → Nat → Int32) (T : Nat → Option Nat) (L : List Nat) (K : Nat → Nat) (F : Nat → Nat → Int32) (J : Nat → Int32) (B : Nat → Nat → Int32), k < 512 → Rel k I A T L K F J B → g_Pw_block I A a1 (fun r u => g_Mo_block J B a1 (fun r2 v => r = r2 ∧ Rel (k + 1) u.1 u.2 T L K F v.1 v.2)))
    (ho37 : ∀ (k : Nat) (I : Nat → Int32) (A : Nat → Nat → Int32) (T : Nat → Option Nat) (L : List Nat) (K : Nat → Nat) (F : Nat → Nat → Int32) (J : Nat → Int32) (B : Nat → Nat → Int32), k < 512 → Rel k I A T L K F J B → g_Pw_rest I (fun r u => g_Mo_rest J (fun r2 v => r = r2 ∧ Rel (k + 1) u A T L K F v B)))
    (ho38 : ∀ (k : Nat) (a1 a2 a3 : Int32) (I : Nat → Int32) (A : Nat → Nat → Int32) (T : Nat → Option Nat) (L : List Nat) (K : Nat → Nat) (F : Nat → Nat → Int32) (J : Nat → Int32) (B : Nat → Nat → Int32), k < 512 → Rel k I A T L K F J B → g_Pw_plan I A a1 a2 a3 (fun r u => g_Mo_plan B a1 a2 a3 (fun r2 v => r = r2 ∧ Rel (k + 1) u.1 u.2 T L K F J v)))
    (ho39 : ∀ (k : Nat) (a1 a2 : Int32) (I : Nat → Int32) (A : Nat → Nat → Int32) (T : Nat → Option Nat) (L : List Nat) (K : Nat → Nat) (F : Nat → Nat → Int32) (J : Nat → Int32) (B : Nat → Nat → Int32), k < 512 → Rel k I A T L K F J B → g_Pw_best I A a1 a2 (fun r u => g_Mo_best J B a1 a2 (fun r2 v => r = r2 ∧ Rel (k + 1) u.1 u.2 T L K F J v)))
    (ho40 : ∀ (k : Nat) (a1 : Int32) (I : Nat → Int32) (A : Nat → Nat → Int32) (T : Nat → Option Nat) (L : List Nat) (K : Nat → Nat) (F : Nat → Nat → Int32) (J : Nat → Int32) (B : Nat → Nat → Int32), k < 512 → Rel k I A T L K F J B → g_Pw_fails I A a1 (fun r u => g_Mo_fails J B a1 (fun r2 v => r = r2 ∧ Rel (k + 1) u.1 u.2 T L K F v.1 v.2)))
    (ho41 : ∀ (k : Nat) (a1 a2 : Int32) (I : Nat → Int32) (A : Nat → Nat → Int32) (T : Nat → Option Nat) (L : List Nat) (K : Nat → Nat) (F : Nat → Nat → Int32) (J : Nat → Int32) (B : Nat → Nat → Int32), k < 512 → Rel k I A T L K F J B → g_Pw_term A a1 a2 (fun r u => g_Mo_term B a1 a2 (fun r2 v => r = r2 ∧ Rel (k + 1) I u T L K F J v)))
    (ho42 : ∀ (k : Nat) (a1 a2 : Int32) (I : Nat → Int32) (A : Nat → Nat → Int32) (T : Nat → Option Nat) (L : List Nat) (K : Nat → Nat) (F : Nat → Nat → Int32) (J : Nat → Int32) (B : Nat → Nat → Int32), k < 512 → isB a2 → Rel k I A T L K F J B → g_Pw_meter I A a1 a2 (fun r u => g_Mo_meter J B a1 a2 (fun r2 v => r = r2 ∧ Rel (k + 1) I u T L K F J v)))
    (ho43 : ∀ (k : Nat) (a1 : Int32) (I : Nat → Int32) (A : Nat → Nat → Int32) (T : Nat → Option Nat) (L : List Nat) (K : Nat → Nat) (F : Nat → Nat → Int32) (J : Nat → Int32) (B : Nat → Nat → Int32), k < 512 → Rel k I A T L K F J B → g_Pw_pay I A a1 (fun r => g_Mo_pay J B a1 (fun r2 => r = r2 ∧ Rel (k + 1) I A T L K F J B))) :
    ∀ (d k : Nat), N < 6 * k + 6 * d → ∀ (I : Nat → Int32) (A : Nat → Nat → Int32) (T : Nat → Option Nat) (L : List Nat) (K : Nat → Nat) (F : Nat → Nat → Int32) (J : Nat → Int32) (B : Nat → Nat → Int32) (H : Heap) (locs : List Loc) (ls : Array Slot), 6 * k ≤ N → Rel k I A T L K F J B → HXw D (fun q => s.heap.size ≤ q) s.heap H locs (wC cy ad I A T L K F ++ wM cy am J B) → lv_has ls 4 [(0, .ref b), (1, .ref (ad 0)), (2, .ref (am 0)), (3, .int (nI (6 * k)))] → W p l e room_1 s m #[Value.ref b] below meth c H locs (87 + k) (28975 + 7 * k) (lw_Z below #[Value.ref b] s) (F0 m 18 ls []) := by
  have hbA : ¬ (fun q => s.heap.size ≤ q) b := Nat.not_le.mpr hbl
  intro d
  induction d with
  | zero => intro k hd I A T L K F J B H locs ls hk; omega
  | succ d ih =>
    intro k hd I A T L K F J B H locs ls hk hR h hl
    refine i_iload_n (n := 19) C 10 rfl rfl rfl hl 3 rfl ?_
    refine i_aload_n (n := 20) C 11 rfl rfl rfl hl 0 rfl ?_
    refine i_slen (n := 21) C 12 rfl rfl h hX hbl hbA ?_
    refine i_bipush (v := (6 : Int32)) (n := 23) C 13 rfl rfl rfl ?_
    refine i_isub (n := 24) C 14 rfl rfl ?_
    refine i_icmp_gt (tgt := 1630) (n := 27) C 15 rfl rfl rfl (fun _ => ?_) (fun cg => ?_)
    · refine i_iconst (v := (1 : Int32)) (n := 1631) C 24 rfl rfl rfl ?_
      refine va_forget (fun q hq => h.2.2.2.2 q hq) ?_
      refine W.widen (k := 600000) (n := 7302250) (by omega) (by omega) ?_
      exact lw_ret C.hx C.hb hr hlocks (C.dg (k := 25) rfl)
    have h6 := law_ix hN cg hk
    have hnx := ih (k + 1) (by omega)
    refine i_aload_n (n := 28) C 16 rfl rfl rfl hl 0 rfl ?_
    refine i_iload_n (n := 29) C 17 rfl rfl rfl hl 3 rfl ?_
    refine i_sld (n := 30) C 18 rfl rfl h hX hbl hbA (law_in0 hN h6) ?_
    refine i_bipush (v := (63 : Int32)) (n := 32) C 19 rfl rfl rfl ?_
    refine i_iand (n := 33) C 20 rfl rfl ?_
    refine lv_topi (fun op eop => ?_)
    by_cases c0 : op = (0 : Int32)
    · refine i_tsw (tgt := 224) C 21 rfl c0 (by decide) (by decide) rfl rfl ?_
      exact law_0 (C.retb db_La_0) hX hbl hN ho0 k I A T L K F J B h6 hnx H locs ls hR h hl
    by_cases c1 : op = (1 : Int32)
    · refine i_tsw (tgt := 257) C 21 rfl c1 (by decide) (by decide) rfl rfl ?_
      exact law_1 (C.retb db_La_1) hX hbl hN ho1 k I A T L K F J B h6 hnx H locs ls hR h hl
    by_cases c2 : op = (2 : Int32)
    · refine i_tsw (tgt := 300) C 21 rfl c2 (by decide) (by decide) rfl rfl ?_
      exact law_2 (C.retb db_La_2) hX hbl hN ho2 k I A T L K F J B h6 hnx H locs ls hR h hl
    by_cases c3 : op = (3 : Int32)
    · refine i_tsw (tgt := 333) C 21 rfl c3 (by decide) (by decide) rfl rfl ?_
      exact law_3 (C.retb db_La_3) hX hbl hN ho3 k I A T L K F J B h6 hnx H locs ls hR h hl
    by_cases c4 : op = (4 : Int32)
    · refine i_tsw (tgt := 356) C 21 rfl c4 (by decide) (by decide) rfl rfl ?_
      exact law_4 (C.retb db_La_4) hX hbl hN ho4 k I A T L K F J B h6 hnx H locs ls hR h hl
    by_cases c5 : op = (5 : Int32)
    · refine i_tsw (tgt := 389) C 21 rfl c5 (by decide) (by decide) rfl rfl ?_
      exact law_5 (C.retb db_La_5) hX hbl hN ho5 k I A T L K F J B h6 hnx H locs ls hR h hl
    by_cases c6 : op = (6 : Int32)
    · refine i_tsw (tgt := 412) C 21 rfl c6 (by decide) (by decide) rfl rfl ?_
      exact law_6 (C.retb db_La_6) hX hbl hN ho6 k I A T L K F J B h6 hnx H locs ls hR h hl
    by_cases c7 : op = (7 : Int32)
    · refine i_tsw (tgt := 435) C 21 rfl c7 (by decide) (by decide) rfl rfl ?_
      exact law_7 (C.retb db_La_7) hX hbl hN ho7 k I A T L K F J B h6 hnx H locs ls hR h hl
    by_cases c8 : op = (8 : Int32)
    · refine i_tsw (tgt := 488) C 21 rfl c8 (by decide) (by decide) rfl rfl ?_
      exact law_8 (C.retb db_La_8) hX hbl hN ho8 k I A T L K F J B h6 hnx H locs ls hR h hl
    by_cases c9 : op = (9 : Int32)
    · refine i_tsw (tgt := 551) C 21 rfl c9 (by decide) (by decide) rfl rfl ?_
      exact law_9 (C.retb db_La_9) hX hbl hN ho9 k I A T L K F J B h6 hnx H locs ls hR h hl
    by_cases c10 : op = (10 : Int32)
    · refine i_tsw (tgt := 614) C 21 rfl c10 (by decide) (by decide) rfl rfl ?_
      exact law_10 (C.retb db_La_10) hX hbl hN ho10 k I A T L K F J B h6 hnx H locs ls hR h hl
    by_cases c11 : op = (11 : Int32)
    · refine i_tsw (tgt := 667) C 21 rfl c11 (by decide) (by decide) rfl rfl ?_
      exact law_11 (C.retb db_La_11) hX hbl hN ho11 k I A T L K F J B h6 hnx H locs ls hR h hl
    by_cases c12 : op = (12 : Int32)
    · refine i_tsw (tgt := 720) C 21 rfl c12 (by decide) (by decide) rfl rfl ?_
      exact law_12 (C.retb db_La_12) hX hbl hN ho12 k I A T L K F J B h6 hnx H locs ls hR h hl
    by_cases c13 : op = (13 : Int32)
    · refine i_tsw (tgt := 779) C 21 rfl c13 (by decide) (by decide) rfl rfl ?_
      exact law_13 (C.retb db_La_13) hX hbl hN ho13 k I A T L K F J B h6 hnx H locs ls hR h hl
    by_cases c14 : op = (14 : Int32)
    · refine i_tsw (tgt := 802) C 21 rfl c14 (by decide) (by decide) rfl rfl ?_
      exact law_14 (C.retb db_La_14) hX hbl hN ho14 k I A T L K F J B h6 hnx H locs ls hR h hl
    by_cases c15 : op = (15 : Int32)
    · refine i_tsw (tgt := 835) C 21 rfl c15 (by decide) (by decide) rfl rfl ?_
      exact law_15 (C.retb db_La_15) hX hbl hN ho15 k I A T L K F J B h6 hnx H locs ls hR h hl
    by_cases c16 : op = (16 : Int32)
    · refine i_tsw (tgt := 884) C 21 rfl c16 (by decide) (by decide) rfl rfl ?_
      exact law_16 (C.retb db_La_16) hX hbl hN ho16 k I A T L K F J B h6 hnx H locs ls hR h hl
    by_cases c17 : op = (17 : Int32)
    · refine i_tsw (tgt := 907) C 21 rfl c17 (by decide) (by decide) rfl rfl ?_
      exact law_17 (C.retb db_La_17) hX hbl hN ho17 k I A T L K F J B h6 hnx H locs ls hR h hl
    by_cases c18 : op = (18 : Int32)
    · refine i_tsw (tgt := 920) C 21 rfl c18 (by decide) (by decide) rfl rfl ?_
      exact law_18 (C.retb db_La_18) hX hbl hN ho18 k I A T L K F J B h6 hnx H locs ls hR h hl
    by_cases c19 : op = (19 : Int32)
    · refine i_tsw (tgt := 943) C 21 rfl c19 (by decide) (by decide) rfl rfl ?_
      exact law_19 (C.retb db_La_19) hX hbl hN ho19 k I A T L K F J B h6 hnx H locs ls hR h hl
    by_cases c20 : op = (20 : Int32)
    · refine i_tsw (tgt := 976) C 21 rfl c20 (by decide) (by decide) rfl rfl ?_
      exact law_20 (C.retb db_La_20) hX hbl hN ho20 k I A T L K F J B h6 hnx H locs ls hR h hl
    by_cases c21 : op = (21 : Int32)
    · refine i_tsw (tgt := 999) C 21 rfl c21 (by decide) (by decide) rfl rfl ?_
      exact law_21 (C.retb db_La_21) hX hbl hN ho21 k I A T L K F J B h6 hnx H locs ls hR h hl
    by_cases c22 : op = (22 : Int32)
    · refine i_tsw (tgt := 1022) C 21 rfl c22 (by decide) (by decide) rfl rfl ?_
      exact law_22 (C.retb db_La_22) hX hbl hN ho22 k I A T L K F J B h6 hnx H locs ls hR h hl
    by_cases c23 : op = (23 : Int32)
    · refine i_tsw (tgt := 1045) C 21 rfl c23 (by decide) (by decide) rfl rfl ?_
      exact law_23 (C.retb db_La_23) hX hbl hN ho23 k I A T L K F J B h6 hnx H locs ls hR h hl
    by_cases c24 : op = (24 : Int32)
    · refine i_tsw (tgt := 1078) C 21 rfl c24 (by decide) (by decide) rfl rfl ?_
      exact law_24 (C.retb db_La_24) hX hbl hN ho24 k I A T L K F J B h6 hnx H locs ls hR h hl
    by_cases c25 : op = (25 : Int32)
    · refine i_tsw (tgt := 1121) C 21 rfl c25 (by decide) (by decide) rfl rfl ?_
      exact law_25 (C.retb db_La_25) hX hbl hN ho25 k I A T L K F J B h6 hnx H locs ls hR h hl
    by_cases c26 : op = (26 : Int32)
    · refine i_tsw (tgt := 1154) C 21 rfl c26 (by decide) (by decide) rfl rfl ?_
      exact law_26 (C.retb db_La_26) hX hbl hN ho26 k I A T L K F J B h6 hnx H locs ls hR h hl
    by_cases c27 : op = (27 : Int32)
    · refine i_tsw (tgt := 1187) C 21 rfl c27 (by decide) (by decide) rfl rfl ?_
      exact law_27 (C.retb db_La_27) hX hbl hN ho27 k I A T L K F J B h6 hnx H locs ls hR h hl
    by_cases c28 : op = (28 : Int32)
    · refine i_tsw (tgt := 1210) C 21 rfl c28 (by decide) (by decide) rfl rfl ?_
      exact law_28 (C.retb db_La_28) hX hbl hN ho28 k I A T L K F J B h6 hnx H locs ls hR h hl
    by_cases c29 : op = (29 : Int32)
    · refine i_tsw (tgt := 1223) C 21 rfl c29 (by decide) (by decide) rfl rfl ?_
      exact law_29 (C.retb db_La_29) hX hbl hN ho29 k I A T L K F J B h6 hnx H locs ls hR h hl
    by_cases c30 : op = (30 : Int32)
    · refine i_tsw (tgt := 1236) C 21 rfl c30 (by decide) (by decide) rfl rfl ?_
      exact law_30 (C.retb db_La_30) hX hbl hN ho30 k I A T L K F J B h6 hnx H locs ls hR h hl
    by_cases c31 : op = (31 : Int32)
    · refine i_tsw (tgt := 1259) C 21 rfl c31 (by decide) (by decide) rfl rfl ?_
      exact law_31 (C.retb db_La_31) hX hbl hN ho31 k I A T L K F J B h6 hnx H locs ls hR h hl
    by_cases c32 : op = (32 : Int32)
    · refine i_tsw (tgt := 1272) C 21 rfl c32 (by decide) (by decide) rfl rfl ?_
      exact law_32 (C.retb db_La_32) hX hbl hN ho32 k I A T L K F J B h6 hnx H locs ls hR h hl
    by_cases c33 : op = (33 : Int32)
    · refine i_tsw (tgt := 1295) C 21 rfl c33 (by decide) (by decide) rfl rfl ?_
      exact law_33 (C.retb db_La_33) hX hbl hN ho33 k I A T L K F J B h6 hnx H locs ls hR h hl
    by_cases c34 : op = (34 : Int32)
    · refine i_tsw (tgt := 1318) C 21 rfl c34 (by decide) (by decide) rfl rfl ?_
      exact law_34 (C.retb db_La_34) hX hbl hN ho34 k I A T L K F J B h6 hnx H locs ls hR h hl
    by_cases c35 : op = (35 : Int32)
    · refine i_tsw (tgt := 1341) C 21 rfl c35 (by decide) (by decide) rfl rfl ?_
      exact law_35 (C.retb db_La_35) hX hbl hN ho35 k I A T L K F J B h6 hnx H locs ls hR h hl
    by_cases c36 : op = (36 : Int32)
    · refine i_tsw (tgt := 1384) C 21 rfl c36 (by decide) (by decide) rfl rfl ?_
      exact law_36 (C.retb db_La_36) hX hbl hN ho36 k I A T L K F J B h6 hnx H locs ls hR h hl
    by_cases c37 : op = (37 : Int32)
    · refine i_tsw (tgt := 1407) C 21 rfl c37 (by decide) (by decide) rfl rfl ?_
      exact law_37 (C.retb db_La_37) hX hbl hN ho37 k I A T L K F J B h6 hnx H locs ls hR h hl
    by_cases c38 : op = (38 : Int32)
    · refine i_tsw (tgt := 1420) C 21 rfl c38 (by decide) (by decide) rfl rfl ?_
      exact law_38 (C.retb db_La_38) hX hbl hN ho38 k I A T L K F J B h6 hnx H locs ls hR h hl
    by_cases c39 : op = (39 : Int32)
    · refine i_tsw (tgt := 1463) C 21 rfl c39 (by decide) (by decide) rfl rfl ?_
      exact law_39 (C.retb db_La_39) hX hbl hN ho39 k I A T L K F J B h6 hnx H locs ls hR h hl
    by_cases c40 : op = (40 : Int32)
    · refine i_tsw (tgt := 1496) C 21 rfl c40 (by decide) (by decide) rfl rfl ?_
      exact law_40 (C.retb db_La_40) hX hbl hN ho40 k I A T L K F J B h6 hnx H locs ls hR h hl
    by_cases c41 : op = (41 : Int32)
    · refine i_tsw (tgt := 1519) C 21 rfl c41 (by decide) (by decide) rfl rfl ?_
      exact law_41 (C.retb db_La_41) hX hbl hN ho41 k I A T L K F J B h6 hnx H locs ls hR h hl
    by_cases c42 : op = (42 : Int32)
    · refine i_tsw (tgt := 1552) C 21 rfl c42 (by decide) (by decide) rfl rfl ?_
      exact law_42 (C.retb db_La_42) hX hbl hN ho42 k I A T L K F J B h6 hnx H locs ls hR h hl
    by_cases c43 : op = (43 : Int32)
    · refine i_tsw (tgt := 1601) C 21 rfl c43 (by decide) (by decide) rfl rfl ?_
      exact law_43 (C.retb db_La_43) hX hbl hN ho43 k I A T L K F J B h6 hnx H locs ls hR h hl
    refine i_tswd (tgt := 1624) C 21 rfl (fun j hj => match j, hj with | 0, _ => lv_neT c0 rfl | 1, _ => lv_neT c1 rfl | 2, _ => lv_neT c2 rfl | 3, _ => lv_neT c3 rfl | 4, _ => lv_neT c4 rfl | 5, _ => lv_neT c5 rfl | 6, _ => lv_neT c6 rfl | 7, _ => lv_neT c7 rfl | 8, _ => lv_neT c8 rfl | 9, _ => lv_neT c9 rfl | 10, _ => lv_neT c10 rfl | 11, _ => lv_neT c11 rfl | 12, _ => lv_neT c12 rfl | 13, _ => lv_neT c13 rfl | 14, _ => lv_neT c14 rfl | 15, _ => lv_neT c15 rfl | 16, _ => lv_neT c16 rfl | 17, _ => lv_neT c17 rfl | 18, _ => lv_neT c18 rfl | 19, _ => lv_neT c19 rfl | 20, _ => lv_neT c20 rfl | 21, _ => lv_neT c21 rfl | 22, _ => lv_neT c22 rfl | 23, _ => lv_neT c23 rfl | 24, _ => lv_neT c24 rfl | 25, _ => lv_neT c25 rfl | 26, _ => lv_neT c26 rfl | 27, _ => lv_neT c27 rfl | 28, _ => lv_neT c28 rfl | 29, _ => lv_neT c29 rfl | 30, _ => lv_neT c30 rfl | 31, _ => lv_neT c31 rfl | 32, _ => lv_neT c32 rfl | 33, _ => lv_neT c33 rfl | 34, _ => lv_neT c34 rfl | 35, _ => lv_neT c35 rfl | 36, _ => lv_neT c36 rfl | 37, _ => lv_neT c37 rfl | 38, _ => lv_neT c38 rfl | 39, _ => lv_neT c39 rfl | 40, _ => lv_neT c40 rfl | 41, _ => lv_neT c41 rfl | 42, _ => lv_neT c42 rfl | 43, _ => lv_neT c43 rfl | j + 44, hj => absurd hj (by omega)) rfl ?_
    refine i_iinc (v := nI (6 * (k + 1))) (lv' := [(3, .int (nI (6 * (k + 1)))), (0, .ref b), (1, .ref (ad 0)), (2, .ref (am 0))]) (n := 1627) C 22 rfl rfl hl 3 rfl (nI_add (6 * k) 6) (by decide) rfl (fun ls hl => ?_)
    refine i_goto (tgt := 18) C 23 rfl rfl ?_
    refine W.widen (k := 87 + (k + 1)) (n := 28975 + 7 * (k + 1)) (by omega) (by omega) ?_
    exact hnx _ _ _ _ _ _ _ _ _ _ ls (by omega) (hskip k _ _ _ _ _ _ _ _ hR) h (lv_sub hl [1, 2, 3, 0] rfl)
set_option maxHeartbeats 16000000 in
set_option maxRecDepth 100000 in
theorem law_start {Rel : Nat → (Nat → Int32) → (Nat → Nat → Int32) → (Nat → Option Nat) → List Nat → (Nat → Nat) → (Nat → Nat → Int32) → (Nat → Int32) → (Nat → Nat → Int32) → Prop} {p : Program} {l : Launch} {e : Env} {s : State} {m : MethodId} {below : List Frame} {meth : Method} {c : Code} {D : va_G} {cy : Nat → Nat} {b N : Nat} {xs : Nat → Int32} (C : CX D cy R_La code tb_La_h 4 p s m #[Value.ref b] c (fun q => s.heap.size ≤ q)) (hX : va_X b N xs s s.heap) (hbl : b < s.heap.size) (hN : N ≤ 3072) (hr : meth.sig.returnType = ret) (hlocks : meth.locks = false) (hinit : g_Pw_init_113 (fun A => g_Mo_init_298 (fun B => Rel 0 (fun _ => 0) A (fun _ => none) [] (fun _ => 0) (fun _ _ => 0) (fun _ => 0) B) (fun _ _ => 0)) (fun _ _ => 0))
    (hskip : ∀ (k : Nat) I A T L K F J B, Rel k I A T L K F J B → Rel (k + 1) I A T L K F J B)
    (ho0 : ∀ (k : Nat) (a1 a2 : Int32) (I : Nat → Int32) (A : Nat → Nat → Int32) (T : Nat → Option Nat) (L : List Nat) (K : Nat → Nat) (F : Nat → Nat → Int32) (J : Nat → Int32) (B : Nat → Nat → Int32), k < 512 → Rel k I A T L K F J B → g_Pw_node I A a1 a2 (fun r u => g_Mo_node J B a1 a2 (fun r2 v => r = r2 ∧ Rel (k + 1) u.1 u.2 T L K F v.1 v.2)))
    (ho1 : ∀ (k : Nat) (a1 a2 a3 : Int32) (I : Nat → Int32) (A : Nat → Nat → Int32) (T : Nat → Option Nat) (L : List Nat) (K : Nat → Nat) (F : Nat → Nat → Int32) (J : Nat → Int32) (B : Nat → Nat → Int32), k < 512 → Rel k I A T L K F J B → g_Pw_main I A a1 a2 a3 (fun r u => g_Mo_main J B a1 a2 a3 (fun r2 v => r = r2 ∧ Rel (k + 1) u.1 u.2 T L K F v.1 v.2)))
    (ho2 : ∀ (k : Nat) (a1 a2 : Int32) (I : Nat → Int32) (A : Nat → Nat → Int32) (T : Nat → Option Nat) (L : List Nat) (K : Nat → Nat) (F : Nat → Nat → Int32) (J : Nat → Int32) (B : Nat → Nat → Int32), k < 512 → Rel k I A T L K F J B → g_Pw_valve I A a1 a2 (fun r u => g_Mo_valve J B a1 a2 (fun r2 v => r = r2 ∧ Rel (k + 1) u.1 u.2 T L K F v.1 v.2)))
    (ho3 : ∀ (k : Nat) (a1 : Int32) (I : Nat → Int32) (A : Nat → Nat → Int32) (T : Nat → Option Nat) (L : List Nat) (K : Nat → Nat) (F : Nat → Nat → Int32) (J : Nat → Int32) (B : Nat → Nat → Int32), k < 512 → Rel k I A T L K F J B → g_Pw_turn I a1 (fun r u => g_Mo_turn J B a1 (fun r2 v => r = r2 ∧ Rel (k + 1) u A T L K F J v)))
    (ho4 : ∀ (k : Nat) (a1 a2 : Int32) (I : Nat → Int32) (A : Nat → Nat → Int32) (T : Nat → Option Nat) (L : List Nat) (K : Nat → Nat) (F : Nat → Nat → Int32) (J : Nat → Int32) (B : Nat → Nat → Int32), k < 512 → Rel k I A T L K F J B → g_Pw_ofMain I A a1 a2 (fun r => g_Mo_ofMain J B a1 a2 (fun r2 => r = r2 ∧ Rel (k + 1) I A T L K F J B)))
    (ho5 : ∀ (k : Nat) (a1 : Int32) (I : Nat → Int32) (A : Nat → Nat → Int32) (T : Nat → Option Nat) (L : List Nat) (K : Nat → Nat) (F : Nat → Nat → Int32) (J : Nat → Int32) (B : Nat → Nat → Int32), k < 512 → Rel k I A T L K F J B → g_Pw_wrong I A a1 (fun r => g_Mo_wrong J B a1 (fun r2 => r = r2 ∧ Rel (k + 1) I A T L K F J B)))
    (ho6 : ∀ (k : Nat) (a1 : Int32) (I : Nat → Int32) (A : Nat → Nat → Int32) (T : Nat → Option Nat) (L : List Nat) (K : Nat → Nat) (F : Nat → Nat → Int32) (J : Nat → Int32) (B : Nat → Nat → Int32), k < 512 → Rel k I A T L K F J B → g_Pw_mend I A a1 (fun r u => g_Mo_mend J B a1 (fun r2 v => r = r2 ∧ Rel (k + 1) I u T L K F J v)))
    (ho7 : ∀ (k : Nat) (a1 a2 a3 a4 : Int32) (I : Nat → Int32) (A : Nat → Nat → Int32) (T : Nat → Option Nat) (L : List Nat) (K : Nat → Nat) (F : Nat → Nat → Int32) (J : Nat → Int32) (B : Nat → Nat → Int32), k < 512 → Rel k I A T L K F J B → g_Pw_draw I T L K F a1 a2 a3 a4 (fun r u => g_Mo_draw J B a1 a2 a3 a4 (fun r2 v => r = r2 ∧ Rel (k + 1) I A u.1 u.2.1 u.2.2.1 u.2.2.2 J v)))
    (ho8 : ∀ (k : Nat) (a1 a2 a3 a4 a5 : Int32) (I : Nat → Int32) (A : Nat → Nat → Int32) (T : Nat → Option Nat) (L : List Nat) (K : Nat → Nat) (F : Nat → Nat → Int32) (J : Nat → Int32) (B : Nat → Nat → Int32), k < 512 → Rel k I A T L K F J B → g_Pw_lift I T L K F a1 a2 a3 a4 a5 (fun r u => g_Mo_lift J B a1 a2 a3 a4 a5 (fun r2 v => r = r2 ∧ Rel (k + 1) I A u.1 u.2.1 u.2.2.1 u.2.2.2 J v)))
    (ho9 : ∀ (k : Nat) (a1 a2 a3 a4 a5 : Int32) (I : Nat → Int32) (A : Nat → Nat → Int32) (T : Nat → Option Nat) (L : List Nat) (K : Nat → Nat) (F : Nat → Nat → Int32) (J : Nat → Int32) (B : Nat → Nat → Int32), k < 512 → Rel k I A T L K F J B → g_Pw_bridge I T L K F a1 a2 a3 a4 a5 (fun r u => g_Mo_bridge J B a1 a2 a3 a4 a5 (fun r2 v => r = r2 ∧ Rel (k + 1) I A u.1 u.2.1 u.2.2.1 u.2.2.2 J v)))
    (ho10 : ∀ (k : Nat) (a1 a2 a3 a4 : Int32) (I : Nat → Int32) (A : Nat → Nat → Int32) (T : Nat → Option Nat) (L : List Nat) (K : Nat → Nat) (F : Nat → Nat → Int32) (J : Nat → Int32) (B : Nat → Nat → Int32), k < 512 → Rel k I A T L K F J B → g_Pw_tower I T L K F a1 a2 a3 a4 (fun r u => g_Mo_tower J B a1 a2 a3 a4 (fun r2 v => r = r2 ∧ Rel (k + 1) I A u.1 u.2.1 u.2.2.1 u.2.2.2 J v)))
    (ho11 : ∀ (k : Nat) (a1 a2 a3 a4 : Int32) (I : Nat → Int32) (A : Nat → Nat → Int32) (T : Nat → Option Nat) (L : List Nat) (K : Nat → Nat) (F : Nat → Nat → Int32) (J : Nat → Int32) (B : Nat → Nat → Int32), k < 512 → Rel k I A T L K F J B → g_Pw_house I T L K F a1 a2 a3 a4 (fun r u => g_Mo_house J B a1 a2 a3 a4 (fun r2 v => r = r2 ∧ Rel (k + 1) I A u.1 u.2.1 u.2.2.1 u.2.2.2 J v)))
    (ho12 : ∀ (k : Nat) (a1 a2 a3 : Int32) (I : Nat → Int32) (A : Nat → Nat → Int32) (T : Nat → Option Nat) (L : List Nat) (K : Nat → Nat) (F : Nat → Nat → Int32) (J : Nat → Int32) (B : Nat → Nat → Int32), k < 512 → isB a3 → Rel k I A T L K F J B → g_Pw_leak I T L K F a1 a2 a3 (fun r u => g_Mo_leak J B a1 a2 a3 (fun r2 v => r = r2 ∧ Rel (k + 1) I A u.1 u.2.1 u.2.2.1 u.2.2.2 J v)))
    (ho13 : ∀ (k : Nat) (a1 : Int32) (I : Nat → Int32) (A : Nat → Nat → Int32) (T : Nat → Option Nat) (L : List Nat) (K : Nat → Nat) (F : Nat → Nat → Int32) (J : Nat → Int32) (B : Nat → Nat → Int32), k < 512 → Rel k I A T L K F J B → g_Pw_clear I T L K F a1 (fun r u => g_Mo_clear J B a1 (fun r2 v => r = r2 ∧ Rel (k + 1) I A u L K F J v)))
    (ho14 : ∀ (k : Nat) (a1 a2 : Int32) (I : Nat → Int32) (A : Nat → Nat → Int32) (T : Nat → Option Nat) (L : List Nat) (K : Nat → Nat) (F : Nat → Nat → Int32) (J : Nat → Int32) (B : Nat → Nat → Int32), k < 512 → Rel k I A T L K F J B → g_Pw_ofNode I A T L K F a1 a2 (fun r => g_Mo_ofNode J B a1 a2 (fun r2 => r = r2 ∧ Rel (k + 1) I A T L K F J B)))
    (ho15 : ∀ (k : Nat) (a1 a2 : Int32) (I : Nat → Int32) (A : Nat → Nat → Int32) (T : Nat → Option Nat) (L : List Nat) (K : Nat → Nat) (F : Nat → Nat → Int32) (J : Nat → Int32) (B : Nat → Nat → Int32), k < 512 → isB a2 → Rel k I A T L K F J B → g_Pw_light I T L K F a1 a2 (fun r u => g_Mo_light J B a1 a2 (fun r2 v => r = r2 ∧ Rel (k + 1) I A T L K u J v)))
    (ho16 : ∀ (k : Nat) (a1 : Int32) (I : Nat → Int32) (A : Nat → Nat → Int32) (T : Nat → Option Nat) (L : List Nat) (K : Nat → Nat) (F : Nat → Nat → Int32) (J : Nat → Int32) (B : Nat → Nat → Int32), k < 512 → Rel k I A T L K F J B → g_Pw_found I T L K F a1 (fun r u => g_Mo_found J B a1 (fun r2 v => r = r2 ∧ Rel (k + 1) I A T L K u J v)))
    (ho17 : ∀ (k : Nat) (I : Nat → Int32) (A : Nat → Nat → Int32) (T : Nat → Option Nat) (L : List Nat) (K : Nat → Nat) (F : Nat → Nat → Int32) (J : Nat → Int32) (B : Nat → Nat → Int32), k < 512 → Rel k I A T L K F J B → g_Pw_work I A T L K F (fun r u => g_Mo_work J B (fun r2 v => r = r2 ∧ Rel (k + 1) u.1 u.2 T L K F v.1 v.2)))
    (ho18 : ∀ (k : Nat) (a1 : Int32) (I : Nat → Int32) (A : Nat → Nat → Int32) (T : Nat → Option Nat) (L : List Nat) (K : Nat → Nat) (F : Nat → Nat → Int32) (J : Nat → Int32) (B : Nat → Nat → Int32), k < 512 → Rel k I A T L K F J B → g_Pw_near I a1 (fun r u => g_Mo_near J a1 (fun r2 v => r = r2 ∧ Rel (k + 1) u A T L K F v B)))
    (ho19 : ∀ (k : Nat) (a1 a2 : Int32) (I : Nat → Int32) (A : Nat → Nat → Int32) (T : Nat → Option Nat) (L : List Nat) (K : Nat → Nat) (F : Nat → Nat → Int32) (J : Nat → Int32) (B : Nat → Nat → Int32), k < 512 → Rel k I A T L K F J B → g_Pw_press I A a1 a2 (fun r => g_Mo_press J B a1 a2 (fun r2 => r = r2 ∧ Rel (k + 1) I A T L K F J B)))
    (ho20 : ∀ (k : Nat) (a1 : Int32) (I : Nat → Int32) (A : Nat → Nat → Int32) (T : Nat → Option Nat) (L : List Nat) (K : Nat → Nat) (F : Nat → Nat → Int32) (J : Nat → Int32) (B : Nat → Nat → Int32), k < 512 → Rel k I A T L K F J B → g_Pw_flow I A a1 (fun r => g_Mo_flow J B a1 (fun r2 => r = r2 ∧ Rel (k + 1) I A T L K F J B)))
    (ho21 : ∀ (k : Nat) (a1 : Int32) (I : Nat → Int32) (A : Nat → Nat → Int32) (T : Nat → Option Nat) (L : List Nat) (K : Nat → Nat) (F : Nat → Nat → Int32) (J : Nat → Int32) (B : Nat → Nat → Int32), k < 512 → Rel k I A T L K F J B → g_Pw_step I A T L K F a1 (fun r u => g_Mo_step J B a1 (fun r2 v => r = r2 ∧ Rel (k + 1) u.1 u.2.1 T L K u.2.2 v.1 v.2)))
    (ho22 : ∀ (k : Nat) (a1 : Int32) (I : Nat → Int32) (A : Nat → Nat → Int32) (T : Nat → Option Nat) (L : List Nat) (K : Nat → Nat) (F : Nat → Nat → Int32) (J : Nat → Int32) (B : Nat → Nat → Int32), k < 512 → Rel k I A T L K F J B → g_Pw_told I a1 (fun r => g_Mo_told J a1 (fun r2 => r = r2 ∧ Rel (k + 1) I A T L K F J B)))
    (ho23 : ∀ (k : Nat) (a1 a2 : Int32) (I : Nat → Int32) (A : Nat → Nat → Int32) (T : Nat → Option Nat) (L : List Nat) (K : Nat → Nat) (F : Nat → Nat → Int32) (J : Nat → Int32) (B : Nat → Nat → Int32), k < 512 → Rel k I A T L K F J B → g_Pw_row A a1 a2 (fun r u => g_Mo_row B a1 a2 (fun r2 v => r = r2 ∧ Rel (k + 1) I u T L K F J v)))
    (ho24 : ∀ (k : Nat) (a1 a2 a3 : Int32) (I : Nat → Int32) (A : Nat → Nat → Int32) (T : Nat → Option Nat) (L : List Nat) (K : Nat → Nat) (F : Nat → Nat → Int32) (J : Nat → Int32) (B : Nat → Nat → Int32), k < 512 → Rel k I A T L K F J B → g_Pw_put A a1 a2 a3 (fun r u => g_Mo_put B a1 a2 a3 (fun r2 v => r = r2 ∧ Rel (k + 1) I u T L K F J v)))
    (ho25 : ∀ (k : Nat) (a1 a2 : Int32) (I : Nat → Int32) (A : Nat → Nat → Int32) (T : Nat → Option Nat) (L : List Nat) (K : Nat → Nat) (F : Nat → Nat → Int32) (J : Nat → Int32) (B : Nat → Nat → Int32), k < 512 → Rel k I A T L K F J B → g_Pw_none A a1 a2 (fun r u => g_Mo_none B a1 a2 (fun r2 v => r = r2 ∧ Rel (k + 1) I u T L K F J v)))
    (ho26 : ∀ (k : Nat) (a1 a2 : Int32) (I : Nat → Int32) (A : Nat → Nat → Int32) (T : Nat → Option Nat) (L : List Nat) (K : Nat → Nat) (F : Nat → Nat → Int32) (J : Nat → Int32) (B : Nat → Nat → Int32), k < 512 → Rel k I A T L K F J B → g_Pw_read I A a1 a2 (fun r u => g_Mo_read J B a1 a2 (fun r2 v => r = r2 ∧ Rel (k + 1) I u T L K F J v)))
    (ho27 : ∀ (k : Nat) (a1 : Int32) (I : Nat → Int32) (A : Nat → Nat → Int32) (T : Nat → Option Nat) (L : List Nat) (K : Nat → Nat) (F : Nat → Nat → Int32) (J : Nat → Int32) (B : Nat → Nat → Int32), k < 512 → Rel k I A T L K F J B → g_Pw_say I A a1 (fun r u => g_Mo_say J B a1 (fun r2 v => r = r2 ∧ Rel (k + 1) u.1 u.2 T L K F v.1 v.2)))
    (ho28 : ∀ (k : Nat) (I : Nat → Int32) (A : Nat → Nat → Int32) (T : Nat → Option Nat) (L : List Nat) (K : Nat → Nat) (F : Nat → Nat → Int32) (J : Nat → Int32) (B : Nat → Nat → Int32), k < 512 → Rel k I A T L K F J B → g_Pw_wipe I (fun r u => g_Mo_wipe J (fun r2 v => r = r2 ∧ Rel (k + 1) u A T L K F v B)))
    (ho29 : ∀ (k : Nat) (I : Nat → Int32) (A : Nat → Nat → Int32) (T : Nat → Option Nat) (L : List Nat) (K : Nat → Nat) (F : Nat → Nat → Int32) (J : Nat → Int32) (B : Nat → Nat → Int32), k < 512 → Rel k I A T L K F J B → g_Pw_fault I A (fun r => g_Mo_fault J B (fun r2 => r = r2 ∧ Rel (k + 1) I A T L K F J B)))
    (ho30 : ∀ (k : Nat) (a1 : Int32) (I : Nat → Int32) (A : Nat → Nat → Int32) (T : Nat → Option Nat) (L : List Nat) (K : Nat → Nat) (F : Nat → Nat → Int32) (J : Nat → Int32) (B : Nat → Nat → Int32), k < 512 → Rel k I A T L K F J B → g_Pw_order I A a1 (fun r u => g_Mo_order J B a1 (fun r2 v => r = r2 ∧ Rel (k + 1) u.1 u.2 T L K F v.1 v.2)))
    (ho31 : ∀ (k : Nat) (I : Nat → Int32) (A : Nat → Nat → Int32) (T : Nat → Option Nat) (L : List Nat) (K : Nat → Nat) (F : Nat → Nat → Int32) (J : Nat → Int32) (B : Nat → Nat → Int32), k < 512 → Rel k I A T L K F J B → g_Pw_does I A T L K F (fun r u => g_Mo_does J B (fun r2 v => r = r2 ∧ Rel (k + 1) u.1 u.2.1 T L K u.2.2 v.1 v.2)))
    (ho32 : ∀ (k : Nat) (a1 : Int32) (I : Nat → Int32) (A : Nat → Nat → Int32) (T : Nat → Option Nat) (L : List Nat) (K : Nat → Nat) (F : Nat → Nat → Int32) (J : Nat → Int32) (B : Nat → Nat → Int32), k < 512 → Rel k I A T L K F J B → g_Pw_why I A T L K F a1 (fun r u => g_Mo_why J B a1 (fun r2 v => r = r2 ∧ Rel (k + 1) I u T L K F v.1 v.2)))
    (ho33 : ∀ (k : Nat) (a1 : Int32) (I : Nat → Int32) (A : Nat → Nat → Int32) (T : Nat → Option Nat) (L : List Nat) (K : Nat → Nat) (F : Nat → Nat → Int32) (J : Nat → Int32) (B : Nat → Nat → Int32), k < 512 → Rel k I A T L K F J B → g_Pw_cut I A T L K F a1 (fun r => g_Mo_cut J B a1 (fun r2 => r = r2 ∧ Rel (k + 1) I A T L K F J B)))
    (ho34 : ∀ (k : Nat) (a1 : Int32) (I : Nat → Int32) (A : Nat → Nat → Int32) (T : Nat → Option Nat) (L : List Nat) (K : Nat → Nat) (F : Nat → Nat → Int32) (J : Nat → Int32) (B : Nat → Nat → Int32), k < 512 → Rel k I A T L K F J B → g_Pw_dry I A T L K F a1 (fun r => g_Mo_dry J B a1 (fun r2 => r = r2 ∧ Rel (k + 1) I A T L K F J B)))
    (ho35 : ∀ (k : Nat) (a1 a2 a3 : Int32) (I : Nat → Int32) (A : Nat → Nat → Int32) (T : Nat → Option Nat) (L : List Nat) (K : Nat → Nat) (F : Nat → Nat → Int32) (J : Nat → Int32) (B : Nat → Nat → Int32), k < 512 → Rel k I A T L K F J B → g_Pw_seek I A T L K F a1 a2 a3 (fun r u => g_Mo_seek J B a1 a2 a3 (fun r2 v => r = r2 ∧ Rel (k + 1) I u.1 u.2.1 u.2.2.1 u.2.2.2.1 u.2.2.2.2 v.1 v.2)))
    (ho36 : ∀ (k : Nat) (a1 : Int32) (I : Nat → Int32) (A : Nat → Nat → Int32) (T : Nat → Option Nat) (L : List Nat) (K : Nat → Nat) (F : Nat → Nat → Int32) (J : Nat → Int32) (B : Nat → Nat → Int32), k < 512 → Rel k I A T L K F J B → g_Pw_block I A a1 (fun r u => g_Mo_block J B a1 (fun r2 v => r = r2 ∧ Rel (k + 1) u.1 u.2 T L K F v.1 v.2)))
    (ho37 : ∀ (k : Nat) (I : Nat → Int32) (A : Nat → Nat → Int32) (T : Nat → Option Nat) (L : List Nat) (K : Nat → Nat) (F : Nat → Nat → Int32) (J : Nat → Int32) (B : Nat → Nat → Int32), k < 512 → Rel k I A T L K F J B → g_Pw_rest I (fun r u => g_Mo_rest J (fun r2 v => r = r2 ∧ Rel (k + 1) u A T L K F v B)))
    (ho38 : ∀ (k : Nat) (a1 a2 a3 : Int32) (I : Nat → Int32) (A : Nat → Nat → Int32) (T : Nat → Option Nat) (L : List Nat) (K : Nat → Nat) (F : Nat → Nat → Int32) (J : Nat → Int32) (B : Nat → Nat → Int32), k < 512 → Rel k I A T L K F J B → g_Pw_plan I A a1 a2 a3 (fun r u => g_Mo_plan B a1 a2 a3 (fun r2 v => r = r2 ∧ Rel (k + 1) u.1 u.2 T L K F J v)))
    (ho39 : ∀ (k : Nat) (a1 a2 : Int32) (I : Nat → Int32) (A : Nat → Nat → Int32) (T : Nat → Option Nat) (L : List Nat) (K : Nat → Nat) (F : Nat → Nat → Int32) (J : Nat → Int32) (B : Nat → Nat → Int32), k < 512 → Rel k I A T L K F J B → g_Pw_best I A a1 a2 (fun r u => g_Mo_best J B a1 a2 (fun r2 v => r = r2 ∧ Rel (k + 1) u.1 u.2 T L K F J v)))
    (ho40 : ∀ (k : Nat) (a1 : Int32) (I : Nat → Int32) (A : Nat → Nat → Int32) (T : Nat → Option Nat) (L : List Nat) (K : Nat → Nat) (F : Nat → Nat → Int32) (J : Nat → Int32) (B : Nat → Nat → Int32), k < 512 → Rel k I A T L K F J B → g_Pw_fails I A a1 (fun r u => g_Mo_fails J B a1 (fun r2 v => r = r2 ∧ Rel (k + 1) u.1 u.2 T L K F v.1 v.2)))
    (ho41 : ∀ (k : Nat) (a1 a2 : Int32) (I : Nat → Int32) (A : Nat → Nat → Int32) (T : Nat → Option Nat) (L : List Nat) (K : Nat → Nat) (F : Nat → Nat → Int32) (J : Nat → Int32) (B : Nat → Nat → Int32), k < 512 → Rel k I A T L K F J B → g_Pw_term A a1 a2 (fun r u => g_Mo_term B a1 a2 (fun r2 v => r = r2 ∧ Rel (k + 1) I u T L K F J v)))
    (ho42 : ∀ (k : Nat) (a1 a2 : Int32) (I : Nat → Int32) (A : Nat → Nat → Int32) (T : Nat → Option Nat) (L : List Nat) (K : Nat → Nat) (F : Nat → Nat → Int32) (J : Nat → Int32) (B : Nat → Nat → Int32), k < 512 → isB a2 → Rel k I A T L K F J B → g_Pw_meter I A a1 a2 (fun r u => g_Mo_meter J B a1 a2 (fun r2 v => r = r2 ∧ Rel (k + 1) I u T L K F J v)))
    (ho43 : ∀ (k : Nat) (a1 : Int32) (I : Nat → Int32) (A : Nat → Nat → Int32) (T : Nat → Option Nat) (L : List Nat) (K : Nat → Nat) (F : Nat → Nat → Int32) (J : Nat → Int32) (B : Nat → Nat → Int32), k < 512 → Rel k I A T L K F J B → g_Pw_pay I A a1 (fun r => g_Mo_pay J B a1 (fun r2 => r = r2 ∧ Rel (k + 1) I A T L K F J B))) (ls : Array Slot) (hl : lv_has ls 4 [(0, .ref b)]) :
    W p l e room_1 s m #[Value.ref b] below meth c s.heap [] 0 0 (lw_Z below #[Value.ref b] s) (F0 m 0 ls []) := by
  have h : HXw D (fun q => s.heap.size ≤ q) s.heap s.heap [] [] := ⟨fun k q h => by simp at h, ⟨fun i j p q h => by simp at h, fun k q h => by simp at h⟩, va_S.rf⟩
  refine va_new (ci := 10) (fs := [.null, .null, .null, .null, .null, .null, .null, .null, .null, .null, .null, .null, .int 0, .int 0, .int 0, .int 0]) (C := R_Pw) (T := T_Pw) (N := 16) C.hx C.hb C.hts in_Pw t_Pw t_Pw_ok C.hown (C.hts _ w_1_18) (C.hts _ w_1_19) (C.hts _ w_1_1) C.hK h.1 h.2.1 h.2.2 C.hA rfl (fun j hj => by rcases (show j = 0 ∨ j = 1 ∨ j = 2 ∨ j = 3 ∨ j = 4 ∨ j = 5 ∨ j = 6 ∨ j = 7 ∨ j = 8 ∨ j = 9 ∨ j = 10 ∨ j = 11 ∨ j = 12 ∨ j = 13 ∨ j = 14 ∨ j = 15 by omega) with rfl | rfl | rfl | rfl | rfl | rfl | rfl | rfl | rfl | rfl | rfl | rfl | rfl | rfl | rfl | rfl <;> rfl) (by show _ ≤ 600000; omega) (by show _ ≤ 7302250; omega) (C.dg (k := 0) rfl) (fun qPw H hP hD hS => ?_)
  have h : HXw D (fun q => s.heap.size ≤ q) s.heap H _ [(qPw, .inr (10, [.null, .null, .null, .null, .null, .null, .null, .null, .null, .null, .null, .null, .int 0, .int 0, .int 0, .int 0]))] := ⟨hP, hD, hS⟩
  refine W.eq (g2 := F0 m 3 ls [.ref qPw]) rfl ?_
  refine i_dup (n := 4) C 1 rfl rfl rfl ?_
  refine i_callIv (rest := [.ref qPw]) (n := 7) C 2 rfl rfl hl h (kI_La_9 ⟨by decide, by decide⟩) (mi_Pw (b := qPw) hinit) rfl rfl (Nat.le_of_ble_eq_true rfl) ⟨by show _ ≤ 600000; omega, by show _ ≤ 7302250; omega⟩ (fun u H locs hu hC => ?_)
  clear h hP hD hS
  obtain ⟨hu0, hw⟩ := hu
  subst hu0
  have h := hC
  clear hC
  refine i_astore_n (lv' := [(1, .ref (u.1 0)), (0, .ref b)]) (n := 8) C 3 rfl rfl rfl hl (by decide) rfl (fun ls hl => ?_)
  refine va_new (ci := 11) (fs := [.int 0, .null, .null, .null, .null, .null, .null, .null, .null, .null, .null, .null, .null, .null, .null, .int 0, .null, .null, .null, .int 0, .null, .null, .null, .int 0, .int 0, .int 0, .int 0, .int 0, .int 0, .null, .null, .null, .int 0, .null, .int 0, .null, .null, .null, .int 0, .null, .null, .null, .null, .null, .null, .int 0, .null, .null, .null, .null]) (C := R_Mo) (T := T_Mo) (N := 50) C.hx C.hb C.hts in_Mo t_Mo t_Mo_ok C.hown (C.hts _ w_5_99) (C.hts _ w_5_100) (C.hts _ w_1_7) C.hK h.1 h.2.1 h.2.2 C.hA rfl (fun j hj => by rcases (show j = 0 ∨ j = 1 ∨ j = 2 ∨ j = 3 ∨ j = 4 ∨ j = 5 ∨ j = 6 ∨ j = 7 ∨ j = 8 ∨ j = 9 ∨ j = 10 ∨ j = 11 ∨ j = 12 ∨ j = 13 ∨ j = 14 ∨ j = 15 ∨ j = 16 ∨ j = 17 ∨ j = 18 ∨ j = 19 ∨ j = 20 ∨ j = 21 ∨ j = 22 ∨ j = 23 ∨ j = 24 ∨ j = 25 ∨ j = 26 ∨ j = 27 ∨ j = 28 ∨ j = 29 ∨ j = 30 ∨ j = 31 ∨ j = 32 ∨ j = 33 ∨ j = 34 ∨ j = 35 ∨ j = 36 ∨ j = 37 ∨ j = 38 ∨ j = 39 ∨ j = 40 ∨ j = 41 ∨ j = 42 ∨ j = 43 ∨ j = 44 ∨ j = 45 ∨ j = 46 ∨ j = 47 ∨ j = 48 ∨ j = 49 by omega) with rfl | rfl | rfl | rfl | rfl | rfl | rfl | rfl | rfl | rfl | rfl | rfl | rfl | rfl | rfl | rfl | rfl | rfl | rfl | rfl | rfl | rfl | rfl | rfl | rfl | rfl | rfl | rfl | rfl | rfl | rfl | rfl | rfl | rfl | rfl | rfl | rfl | rfl | rfl | rfl | rfl | rfl | rfl | rfl | rfl | rfl | rfl | rfl | rfl | rfl <;> rfl) (by show _ ≤ 600000; omega) (by show _ ≤ 7302250; omega) (C.dg (k := 4) rfl) (fun qMo H hP hD hS => ?_)
  have h : HXw D (fun q => s.heap.size ≤ q) s.heap H _ (wC cy u.1 (fun _ => 0) u.2 (fun _ => none) [] (fun _ => 0) (fun _ _ => 0) ++ [(qMo, .inr (11, [.int 0, .null, .null, .null, .null, .null, .null, .null, .null, .null, .null, .null, .null, .null, .null, .int 0, .null, .null, .null, .int 0, .null, .null, .null, .int 0, .int 0, .int 0, .int 0, .int 0, .int 0, .null, .null, .null, .int 0, .null, .int 0, .null, .null, .null, .int 0, .null, .null, .null, .null, .null, .null, .int 0, .null, .null, .null, .null]))]) := ⟨hP, hD, hS⟩
  refine W.eq (g2 := F0 m 11 ls [.ref qMo]) rfl ?_
  refine i_dup (n := 12) C 5 rfl rfl rfl ?_
  refine i_callIv (rest := [.ref qMo]) (n := 15) C 6 rfl rfl hl h (kI_La_12 ⟨by decide, by decide⟩) (fr_vL (wC cy u.1 (fun _ => 0) u.2 (fun _ => none) [] (fun _ => 0) (fun _ _ => 0)) (mi_Mo (b := qMo) hw)) rfl rfl (Nat.le_of_ble_eq_true rfl) ⟨by show _ ≤ 600000; omega, by show _ ≤ 7302250; omega⟩ (fun v H locs hv hC => ?_)
  clear h hP hD hS
  obtain ⟨hv0, hR⟩ := hv
  subst hv0
  have h := hC
  clear hC
  refine i_astore_n (lv' := [(2, .ref (v.1 0)), (1, .ref (u.1 0)), (0, .ref b)]) (n := 16) C 7 rfl rfl rfl hl (by decide) rfl (fun ls hl => ?_)
  refine i_iconst (v := (0 : Int32)) (n := 17) C 8 rfl rfl rfl ?_
  refine i_istore_n (lv' := [(3, .int (0 : Int32)), (2, .ref (v.1 0)), (1, .ref (u.1 0)), (0, .ref b)]) (n := 18) C 9 rfl rfl rfl hl (by decide) rfl (fun ls hl => ?_)
  refine W.widen (k := 87 + 0) (n := 28975 + 7 * 0) (by omega) (by omega) ?_
  exact law_loop C hX hbl hN hr hlocks hskip ho0 ho1 ho2 ho3 ho4 ho5 ho6 ho7 ho8 ho9 ho10 ho11 ho12 ho13 ho14 ho15 ho16 ho17 ho18 ho19 ho20 ho21 ho22 ho23 ho24 ho25 ho26 ho27 ho28 ho29 ho30 ho31 ho32 ho33 ho34 ho35 ho36 ho37 ho38 ho39 ho40 ho41 ho42 ho43 (N + 1) 0 (by omega) _ _ _ _ _ _ _ _ _ _ ls (Nat.zero_le _) hR h (lv_sub hl [3, 2, 1, 0] rfl)

