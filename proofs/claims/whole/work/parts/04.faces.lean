theorem k_0 : Cond.classLink "DistanceLabels" 187 "[[I" ∈ hm_big := hm_inT 25 (by decide +kernel) (by decide +kernel)
theorem k_1 : Cond.methodLink "DistanceLabels$Net" 3 objectInit ∈ hm_big := hm_inT 21 (by decide +kernel) (by decide +kernel)
theorem k_2 : Cond.instanceMethod objectInit ∈ hm_big := hm_inT 14 (by decide +kernel) (by decide +kernel)
theorem k_3 : Cond.code objectInit ⟨#[0xb1]⟩ 1 none ∈ hm_big := hm_inT 15 (by decide +kernel) (by decide +kernel)
theorem k_4 : Cond.fieldLink "DistanceLabels$Net" 9 "DistanceLabels$Net" "nodes" "I" ∈ hm_big := hm_inT 27 (by decide +kernel) (by decide +kernel)
theorem k_5 : Cond.fieldLink "DistanceLabels$Net" 15 "DistanceLabels$Net" "arcs" "I" ∈ hm_big := hm_inT 31 (by decide +kernel) (by decide +kernel)
theorem k_6 : Cond.static y_D_emptyTable ∈ hm_big := hm_inT 23 (by decide +kernel) (by decide +kernel)
theorem k_7 : Cond.fieldLink "DistanceLabels$Net" 22 "DistanceLabels$Net" "lengths" "[[I" ∈ hm_big := hm_inT 33 (by decide +kernel) (by decide +kernel)
theorem k_8 : Cond.fieldLink "DistanceLabels$Net" 26 "DistanceLabels$Net" "row" "[I" ∈ hm_big := hm_inT 36 (by decide +kernel) (by decide +kernel)
theorem k_9 : Cond.fieldLink "DistanceLabels$Net" 30 "DistanceLabels$Net" "ranks" "[I" ∈ hm_big := hm_inT 40 (by decide +kernel) (by decide +kernel)
theorem k_10 : Cond.methodLink "DistanceLabels$Labels" 3 objectInit ∈ hm_big := hm_inT 60 (by decide +kernel) (by decide +kernel)
theorem k_11 : Cond.fieldLink "DistanceLabels$Labels" 13 "DistanceLabels$Labels" "laid" "[[I" ∈ hm_big := hm_inT 62 (by decide +kernel) (by decide +kernel)
theorem k_12 : Cond.fieldLink "DistanceLabels$Labels" 19 "DistanceLabels$Labels" "told" "[[I" ∈ hm_big := hm_inT 63 (by decide +kernel) (by decide +kernel)
theorem k_13 : Cond.methodLink "DistanceLabels$Contraction" 3 objectInit ∈ hm_big := hm_inT 75 (by decide +kernel) (by decide +kernel)
theorem k_14 : Cond.fieldLink "DistanceLabels$Contraction" 13 "DistanceLabels$Contraction" "lengths" "[[I" ∈ hm_big := hm_inT 77 (by decide +kernel) (by decide +kernel)
theorem k_15 : Cond.fieldLink "DistanceLabels$Contraction" 19 "DistanceLabels$Contraction" "around" "[[I" ∈ hm_big := hm_inT 78 (by decide +kernel) (by decide +kernel)
theorem k_16 : Cond.fieldLink "DistanceLabels$Contraction" 22 "DistanceLabels$Contraction" "ends" "[I" ∈ hm_big := hm_inT 79 (by decide +kernel) (by decide +kernel)
theorem k_17 : Cond.fieldLink "DistanceLabels$Contraction" 26 "DistanceLabels$Contraction" "sums" "[I" ∈ hm_big := hm_inT 80 (by decide +kernel) (by decide +kernel)
theorem k_18 : Cond.fieldLink "DistanceLabels$Contraction" 29 "DistanceLabels$Contraction" "came" "I" ∈ hm_big := hm_inT 82 (by decide +kernel) (by decide +kernel)
theorem k_19 : Cond.fieldLink "DistanceLabels$Contraction" 33 "DistanceLabels$Contraction" "fromStart" "[I" ∈ hm_big := hm_inT 84 (by decide +kernel) (by decide +kernel)
theorem k_20 : Cond.fieldLink "DistanceLabels$Contraction" 36 "DistanceLabels$Contraction" "toEnd" "[I" ∈ hm_big := hm_inT 85 (by decide +kernel) (by decide +kernel)
theorem k_21 : Cond.methodLink "DistanceLabels" 1 objectInit ∈ hm_big := hm_inT 13 (by decide +kernel) (by decide +kernel)
theorem k_22 : Cond.classLink "DistanceLabels" 7 "DistanceLabels$Net" ∈ hm_big := hm_inT 16 (by decide +kernel) (by decide +kernel)
theorem k_23 : Cond.instantiable "DistanceLabels$Net" 5 ∈ hm_big := hm_inT 17 (by decide +kernel) (by decide +kernel)
theorem k_24 : Cond.initialized "DistanceLabels$Net" ∈ hm_big := hm_inT 2 (by decide +kernel) (by decide +kernel)
theorem k_25 : Cond.instanceMethod y_N_init ∈ hm_big := hm_inT 19 (by decide +kernel) (by decide +kernel)
theorem k_26 : Cond.fieldLink "DistanceLabels" 10 "DistanceLabels" "net" "LDistanceLabels$Net;" ∈ hm_big := hm_inT 101 (by decide +kernel) (by decide +kernel)
theorem k_27 : Cond.methodLink "DistanceLabels" 16 y_D_emptyTable ∈ hm_big := hm_inT 54 (by decide +kernel) (by decide +kernel)
theorem k_28 : Cond.fieldLink "DistanceLabels" 20 "DistanceLabels" "distances" "[[I" ∈ hm_big := hm_inT 102 (by decide +kernel) (by decide +kernel)
theorem k_29 : Cond.classLink "DistanceLabels" 24 "DistanceLabels$Labels" ∈ hm_big := hm_inT 55 (by decide +kernel) (by decide +kernel)
theorem k_30 : Cond.instantiable "DistanceLabels$Labels" 2 ∈ hm_big := hm_inT 56 (by decide +kernel) (by decide +kernel)
theorem k_31 : Cond.initialized "DistanceLabels$Labels" ∈ hm_big := hm_inT 3 (by decide +kernel) (by decide +kernel)
theorem k_32 : Cond.instanceMethod y_L_init ∈ hm_big := hm_inT 58 (by decide +kernel) (by decide +kernel)
theorem k_33 : Cond.fieldLink "DistanceLabels" 27 "DistanceLabels" "outs" "LDistanceLabels$Labels;" ∈ hm_big := hm_inT 103 (by decide +kernel) (by decide +kernel)
theorem k_34 : Cond.fieldLink "DistanceLabels" 31 "DistanceLabels" "ins" "LDistanceLabels$Labels;" ∈ hm_big := hm_inT 104 (by decide +kernel) (by decide +kernel)
theorem k_35 : Cond.classLink "DistanceLabels" 34 "DistanceLabels$Contraction" ∈ hm_big := hm_inT 70 (by decide +kernel) (by decide +kernel)
theorem k_36 : Cond.instantiable "DistanceLabels$Contraction" 7 ∈ hm_big := hm_inT 71 (by decide +kernel) (by decide +kernel)
theorem k_37 : Cond.initialized "DistanceLabels$Contraction" ∈ hm_big := hm_inT 4 (by decide +kernel) (by decide +kernel)
theorem k_38 : Cond.instanceMethod y_K_init ∈ hm_big := hm_inT 73 (by decide +kernel) (by decide +kernel)
theorem k_39 : Cond.fieldLink "DistanceLabels" 37 "DistanceLabels" "contraction" "LDistanceLabels$Contraction;" ∈ hm_big := hm_inT 105 (by decide +kernel) (by decide +kernel)
theorem k_40 : Cond.fieldLink "DistanceLabels" 41 "DistanceLabels" "isLandmark" "[Z" ∈ hm_big := hm_inT 106 (by decide +kernel) (by decide +kernel)
theorem k_41 : Cond.fieldLink "DistanceLabels" 45 "DistanceLabels" "landmarks" "I" ∈ hm_big := hm_inT 107 (by decide +kernel) (by decide +kernel)
theorem k_42 : Cond.fieldLink "DistanceLabels" 49 "DistanceLabels" "holds" "Z" ∈ hm_big := hm_inT 108 (by decide +kernel) (by decide +kernel)
theorem k_43 : Cond.fieldLink "DistanceLabels" 53 "DistanceLabels" "changes" "I" ∈ hm_big := hm_inT 109 (by decide +kernel) (by decide +kernel)
theorem k_44 : Cond.methodLink "DistanceLabels$Net" 37 y_N_place ∈ hm_big := hm_inT 138 (by decide +kernel) (by decide +kernel)
theorem k_45 : Cond.instanceMethod y_N_place ∈ hm_big := hm_inT 140 (by decide +kernel) (by decide +kernel)
theorem k_46 : Cond.selects "DistanceLabels$Net" y_N_place y_N_place ∈ hm_big := hm_inS 1 (by decide +kernel) (by decide +kernel)
theorem k_47 : Cond.instanceMethod y_N_addNode ∈ hm_big := hm_inT 136 (by decide +kernel) (by decide +kernel)
theorem k_48 : Cond.selects "DistanceLabels$Net" y_N_addNode y_N_addNode ∈ hm_big := hm_inS 0 (by decide +kernel) (by decide +kernel)
theorem k_49 : Cond.methodLink "DistanceLabels$Net" 33 y_N_has ∈ hm_big := hm_inT 150 (by decide +kernel) (by decide +kernel)
theorem k_50 : Cond.instanceMethod y_N_has ∈ hm_big := hm_inT 152 (by decide +kernel) (by decide +kernel)
theorem k_51 : Cond.selects "DistanceLabels$Net" y_N_has y_N_has ∈ hm_big := hm_inS 3 (by decide +kernel) (by decide +kernel)
theorem k_52 : Cond.instanceMethod y_N_hasTwo ∈ hm_big := hm_inT 148 (by decide +kernel) (by decide +kernel)
theorem k_53 : Cond.selects "DistanceLabels$Net" y_N_hasTwo y_N_hasTwo ∈ hm_big := hm_inS 2 (by decide +kernel) (by decide +kernel)
theorem k_54 : Cond.instanceMethod y_N_putArc ∈ hm_big := hm_inT 156 (by decide +kernel) (by decide +kernel)
theorem k_55 : Cond.selects "DistanceLabels$Net" y_N_putArc y_N_putArc ∈ hm_big := hm_inS 4 (by decide +kernel) (by decide +kernel)
theorem k_56 : Cond.instanceMethod y_N_dropArc ∈ hm_big := hm_inT 164 (by decide +kernel) (by decide +kernel)
theorem k_57 : Cond.selects "DistanceLabels$Net" y_N_dropArc y_N_dropArc ∈ hm_big := hm_inS 5 (by decide +kernel) (by decide +kernel)
theorem k_58 : Cond.instanceMethod y_N_moveTo ∈ hm_big := hm_inT 173 (by decide +kernel) (by decide +kernel)
theorem k_59 : Cond.selects "DistanceLabels$Net" y_N_moveTo y_N_moveTo ∈ hm_big := hm_inS 6 (by decide +kernel) (by decide +kernel)
theorem k_60 : Cond.methodLink "DistanceLabels" 184 y_D_isLess ∈ hm_big := hm_inT 200 (by decide +kernel) (by decide +kernel)
theorem k_61 : Cond.static y_D_isLess ∈ hm_big := hm_inT 201 (by decide +kernel) (by decide +kernel)
theorem k_62 : Cond.methodLink "DistanceLabels" 188 y_D_shortenRow ∈ hm_big := hm_inT 197 (by decide +kernel) (by decide +kernel)
theorem k_63 : Cond.static y_D_shortenRow ∈ hm_big := hm_inT 198 (by decide +kernel) (by decide +kernel)
theorem k_64 : Cond.methodLink "DistanceLabels" 174 y_D_shortenAmong ∈ hm_big := hm_inT 194 (by decide +kernel) (by decide +kernel)
theorem k_65 : Cond.static y_D_shortenAmong ∈ hm_big := hm_inT 195 (by decide +kernel) (by decide +kernel)
theorem k_66 : Cond.methodLink "DistanceLabels" 170 y_D_copyAmong ∈ hm_big := hm_inT 191 (by decide +kernel) (by decide +kernel)
theorem k_67 : Cond.static y_D_copyAmong ∈ hm_big := hm_inT 192 (by decide +kernel) (by decide +kernel)
theorem k_68 : Cond.methodLink "DistanceLabels" 158 y_D_sum ∈ hm_big := hm_inT 211 (by decide +kernel) (by decide +kernel)
theorem k_69 : Cond.static y_D_sum ∈ hm_big := hm_inT 212 (by decide +kernel) (by decide +kernel)
theorem k_70 : Cond.instanceMethod y_L_lay ∈ hm_big := hm_inT 216 (by decide +kernel) (by decide +kernel)
theorem k_71 : Cond.selects "DistanceLabels$Labels" y_L_lay y_L_lay ∈ hm_big := hm_inS 10 (by decide +kernel) (by decide +kernel)
theorem k_72 : Cond.methodLink "DistanceLabels" 178 y_D_firstOnLeastWays ∈ hm_big := hm_inT 207 (by decide +kernel) (by decide +kernel)
theorem k_73 : Cond.instanceMethod y_D_firstOnLeastWays ∈ hm_big := hm_inT 209 (by decide +kernel) (by decide +kernel)
theorem k_74 : Cond.selects "DistanceLabels" y_D_firstOnLeastWays y_D_firstOnLeastWays ∈ hm_big := hm_inS 9 (by decide +kernel) (by decide +kernel)
theorem k_75 : Cond.methodLink "DistanceLabels$Contraction" 71 y_K_bring ∈ hm_big := hm_inT 230 (by decide +kernel) (by decide +kernel)
theorem k_76 : Cond.instanceMethod y_K_bring ∈ hm_big := hm_inT 232 (by decide +kernel) (by decide +kernel)
theorem k_77 : Cond.selects "DistanceLabels$Contraction" y_K_bring y_K_bring ∈ hm_big := hm_inS 13 (by decide +kernel) (by decide +kernel)
theorem k_78 : Cond.methodLink "DistanceLabels$Contraction" 52 y_K_letGo ∈ hm_big := hm_inT 223 (by decide +kernel) (by decide +kernel)
theorem k_79 : Cond.instanceMethod y_K_letGo ∈ hm_big := hm_inT 225 (by decide +kernel) (by decide +kernel)
theorem k_80 : Cond.selects "DistanceLabels$Contraction" y_K_letGo y_K_letGo ∈ hm_big := hm_inS 12 (by decide +kernel) (by decide +kernel)
theorem k_81 : Cond.instanceMethod y_K_layAll ∈ hm_big := hm_inT 220 (by decide +kernel) (by decide +kernel)
theorem k_82 : Cond.selects "DistanceLabels$Contraction" y_K_layAll y_K_layAll ∈ hm_big := hm_inS 11 (by decide +kernel) (by decide +kernel)
theorem k_83 : Cond.methodLink "DistanceLabels" 89 y_D_layPair ∈ hm_big := hm_inT 203 (by decide +kernel) (by decide +kernel)
theorem k_84 : Cond.instanceMethod y_D_layPair ∈ hm_big := hm_inT 205 (by decide +kernel) (by decide +kernel)
theorem k_85 : Cond.selects "DistanceLabels" y_D_layPair y_D_layPair ∈ hm_big := hm_inS 8 (by decide +kernel) (by decide +kernel)
theorem k_86 : Cond.methodLink "DistanceLabels" 86 y_D_layDistances ∈ hm_big := hm_inT 187 (by decide +kernel) (by decide +kernel)
theorem k_87 : Cond.instanceMethod y_D_layDistances ∈ hm_big := hm_inT 189 (by decide +kernel) (by decide +kernel)
theorem k_88 : Cond.selects "DistanceLabels" y_D_layDistances y_D_layDistances ∈ hm_big := hm_inS 7 (by decide +kernel) (by decide +kernel)
theorem k_89 : Cond.methodLink "DistanceLabels" 96 y_D_isSide ∈ hm_big := hm_inT 238 (by decide +kernel) (by decide +kernel)
theorem k_90 : Cond.static y_D_isSide ∈ hm_big := hm_inT 239 (by decide +kernel) (by decide +kernel)
theorem k_91 : Cond.methodLink "DistanceLabels" 99 y_D_ofSide ∈ hm_big := hm_inT 241 (by decide +kernel) (by decide +kernel)
theorem k_92 : Cond.instanceMethod y_D_ofSide ∈ hm_big := hm_inT 243 (by decide +kernel) (by decide +kernel)
theorem k_93 : Cond.selects "DistanceLabels" y_D_ofSide y_D_ofSide ∈ hm_big := hm_inS 14 (by decide +kernel) (by decide +kernel)
theorem k_94 : Cond.instanceMethod y_L_stationAt ∈ hm_big := hm_inT 251 (by decide +kernel) (by decide +kernel)
theorem k_95 : Cond.selects "DistanceLabels$Labels" y_L_stationAt y_L_stationAt ∈ hm_big := hm_inS 16 (by decide +kernel) (by decide +kernel)
theorem k_96 : Cond.instanceMethod y_L_sizeOf ∈ hm_big := hm_inT 247 (by decide +kernel) (by decide +kernel)
theorem k_97 : Cond.selects "DistanceLabels$Labels" y_L_sizeOf y_L_sizeOf ∈ hm_big := hm_inS 15 (by decide +kernel) (by decide +kernel)
theorem k_98 : Cond.methodLink "DistanceLabels" 120 y_D_meetingOf ∈ hm_big := hm_inT 265 (by decide +kernel) (by decide +kernel)
theorem k_99 : Cond.instanceMethod y_D_meetingOf ∈ hm_big := hm_inT 267 (by decide +kernel) (by decide +kernel)
theorem k_100 : Cond.selects "DistanceLabels" y_D_meetingOf y_D_meetingOf ∈ hm_big := hm_inS 19 (by decide +kernel) (by decide +kernel)
theorem k_101 : Cond.methodLink "DistanceLabels" 114 y_D_refusalOf ∈ hm_big := hm_inT 257 (by decide +kernel) (by decide +kernel)
theorem k_102 : Cond.instanceMethod y_D_refusalOf ∈ hm_big := hm_inT 259 (by decide +kernel) (by decide +kernel)
theorem k_103 : Cond.selects "DistanceLabels" y_D_refusalOf y_D_refusalOf ∈ hm_big := hm_inS 17 (by decide +kernel) (by decide +kernel)
theorem k_104 : Cond.methodLink "DistanceLabels" 117 y_D_askedOf ∈ hm_big := hm_inT 261 (by decide +kernel) (by decide +kernel)
theorem k_105 : Cond.instanceMethod y_D_askedOf ∈ hm_big := hm_inT 263 (by decide +kernel) (by decide +kernel)
theorem k_106 : Cond.selects "DistanceLabels" y_D_askedOf y_D_askedOf ∈ hm_big := hm_inS 18 (by decide +kernel) (by decide +kernel)
theorem k_107 : Cond.constant "DistanceLabels" 123 90000 ∈ hm_big := hm_inT 281 (by decide +kernel) (by decide +kernel)
theorem k_108 : Cond.instanceMethod y_K_fromOf ∈ hm_big := hm_inT 292 (by decide +kernel) (by decide +kernel)
theorem k_109 : Cond.selects "DistanceLabels$Contraction" y_K_fromOf y_K_fromOf ∈ hm_big := hm_inS 20 (by decide +kernel) (by decide +kernel)
theorem k_110 : Cond.instanceMethod y_K_toOf ∈ hm_big := hm_inT 296 (by decide +kernel) (by decide +kernel)
theorem k_111 : Cond.selects "DistanceLabels$Contraction" y_K_toOf y_K_toOf ∈ hm_big := hm_inS 21 (by decide +kernel) (by decide +kernel)
theorem k_112 : Cond.instanceMethod y_K_byOf ∈ hm_big := hm_inT 300 (by decide +kernel) (by decide +kernel)
theorem k_113 : Cond.selects "DistanceLabels$Contraction" y_K_byOf y_K_byOf ∈ hm_big := hm_inS 22 (by decide +kernel) (by decide +kernel)
theorem k_114 : Cond.static y_D_lesser ∈ hm_big := hm_inT 318 (by decide +kernel) (by decide +kernel)
theorem k_115 : Cond.methodLink "DistanceLabels$Contraction" 84 y_J_fill ∈ hm_big := hm_inT 314 (by decide +kernel) (by decide +kernel)
theorem k_116 : Cond.static y_J_fill ∈ hm_big := hm_inT 315 (by decide +kernel) (by decide +kernel)
theorem k_117 : Cond.methodLink "DistanceLabels$Contraction" 75 y_K_climbFrom ∈ hm_big := hm_inT 310 (by decide +kernel) (by decide +kernel)
theorem k_118 : Cond.instanceMethod y_K_climbFrom ∈ hm_big := hm_inT 312 (by decide +kernel) (by decide +kernel)
theorem k_119 : Cond.selects "DistanceLabels$Contraction" y_K_climbFrom y_K_climbFrom ∈ hm_big := hm_inS 24 (by decide +kernel) (by decide +kernel)
theorem k_120 : Cond.methodLink "DistanceLabels$Contraction" 78 y_K_climbBackFrom ∈ hm_big := hm_inT 320 (by decide +kernel) (by decide +kernel)
theorem k_121 : Cond.instanceMethod y_K_climbBackFrom ∈ hm_big := hm_inT 322 (by decide +kernel) (by decide +kernel)
theorem k_122 : Cond.selects "DistanceLabels$Contraction" y_K_climbBackFrom y_K_climbBackFrom ∈ hm_big := hm_inS 25 (by decide +kernel) (by decide +kernel)
theorem k_123 : Cond.instanceMethod y_K_climbed ∈ hm_big := hm_inT 308 (by decide +kernel) (by decide +kernel)
theorem k_124 : Cond.selects "DistanceLabels$Contraction" y_K_climbed y_K_climbed ∈ hm_big := hm_inS 23 (by decide +kernel) (by decide +kernel)
theorem k_125 : Cond.methodLink "DistanceLabels" 143 y_D_nextOnWay ∈ hm_big := hm_inT 328 (by decide +kernel) (by decide +kernel)
theorem k_126 : Cond.instanceMethod y_D_nextOnWay ∈ hm_big := hm_inT 330 (by decide +kernel) (by decide +kernel)
theorem k_127 : Cond.selects "DistanceLabels" y_D_nextOnWay y_D_nextOnWay ∈ hm_big := hm_inS 26 (by decide +kernel) (by decide +kernel)
theorem k_128 : Cond.methodLink "DistanceLabels" 146 y_D_isSureBy ∈ hm_big := hm_inT 336 (by decide +kernel) (by decide +kernel)
theorem k_129 : Cond.instanceMethod y_D_isSureBy ∈ hm_big := hm_inT 338 (by decide +kernel) (by decide +kernel)
theorem k_130 : Cond.selects "DistanceLabels" y_D_isSureBy y_D_isSureBy ∈ hm_big := hm_inS 27 (by decide +kernel) (by decide +kernel)
theorem k_131 : Cond.methodLink "DistanceLabels" 150 y_D_lead ∈ hm_big := hm_inT 340 (by decide +kernel) (by decide +kernel)
theorem k_132 : Cond.static y_D_lead ∈ hm_big := hm_inT 341 (by decide +kernel) (by decide +kernel)
theorem k_133 : Cond.methodLink "DistanceLabels" 153 Lib.Math.max.name ∈ hm_big := hm_inT 343 (by decide +kernel) (by decide +kernel)
theorem k_134 : Cond.static Lib.Math.max.name ∈ hm_big := hm_inT 344 (by decide +kernel) (by decide +kernel)
theorem k_135 : Cond.initialized "java/lang/Math" ∈ hm_big := hm_inT 7 (by decide +kernel) (by decide +kernel)
theorem k_136 : Cond.code Lib.Math.max.name prog_7_method_65_code 2 (some .int) ∈ hm_big := hm_inT 345 (by decide +kernel) (by decide +kernel)
theorem k_137 : Cond.methodLink "DistanceLabels" 161 y_D_lesser ∈ hm_big := hm_inT 350 (by decide +kernel) (by decide +kernel)
theorem k_138 : Cond.fieldLink "DistanceLabelsModel" 13 "DistanceLabelsModel" "arc" "[I" ∈ hm_big := hm_inT 364 (by decide +kernel) (by decide +kernel)
theorem k_139 : Cond.constant "DistanceLabelsModel" 69 1000000 ∈ hm_big := hm_inT 361 (by decide +kernel) (by decide +kernel)
theorem k_140 : Cond.methodLink "DistanceLabelsModel" 7 objectInit ∈ hm_big := hm_inT 360 (by decide +kernel) (by decide +kernel)
theorem k_141 : Cond.fieldLink "DistanceLabelsModel" 17 "DistanceLabelsModel" "row" "[I" ∈ hm_big := hm_inT 365 (by decide +kernel) (by decide +kernel)
theorem k_142 : Cond.fieldLink "DistanceLabelsModel" 20 "DistanceLabelsModel" "isMark" "[Z" ∈ hm_big := hm_inT 366 (by decide +kernel) (by decide +kernel)
theorem k_143 : Cond.fieldLink "DistanceLabelsModel" 24 "DistanceLabelsModel" "far" "[I" ∈ hm_big := hm_inT 368 (by decide +kernel) (by decide +kernel)
theorem k_144 : Cond.fieldLink "DistanceLabelsModel" 27 "DistanceLabelsModel" "station" "[I" ∈ hm_big := hm_inT 369 (by decide +kernel) (by decide +kernel)
theorem k_145 : Cond.fieldLink "DistanceLabelsModel" 30 "DistanceLabelsModel" "before" "[I" ∈ hm_big := hm_inT 370 (by decide +kernel) (by decide +kernel)
theorem k_146 : Cond.fieldLink "DistanceLabelsModel" 33 "DistanceLabelsModel" "damaged" "[I" ∈ hm_big := hm_inT 371 (by decide +kernel) (by decide +kernel)
theorem k_147 : Cond.fieldLink "DistanceLabelsModel" 36 "DistanceLabelsModel" "gone" "[Z" ∈ hm_big := hm_inT 373 (by decide +kernel) (by decide +kernel)
theorem k_148 : Cond.fieldLink "DistanceLabelsModel" 39 "DistanceLabelsModel" "now" "[I" ∈ hm_big := hm_inT 374 (by decide +kernel) (by decide +kernel)
theorem k_149 : Cond.fieldLink "DistanceLabelsModel" 42 "DistanceLabelsModel" "beside" "[I" ∈ hm_big := hm_inT 375 (by decide +kernel) (by decide +kernel)
theorem k_150 : Cond.fieldLink "DistanceLabelsModel" 45 "DistanceLabelsModel" "kept" "[I" ∈ hm_big := hm_inT 376 (by decide +kernel) (by decide +kernel)
theorem k_151 : Cond.fieldLink "DistanceLabelsModel" 48 "DistanceLabelsModel" "climbed" "[I" ∈ hm_big := hm_inT 377 (by decide +kernel) (by decide +kernel)
theorem k_152 : Cond.fieldLink "DistanceLabelsModel" 51 "DistanceLabelsModel" "shortFrom" "[I" ∈ hm_big := hm_inT 379 (by decide +kernel) (by decide +kernel)
theorem k_153 : Cond.fieldLink "DistanceLabelsModel" 54 "DistanceLabelsModel" "shortTo" "[I" ∈ hm_big := hm_inT 380 (by decide +kernel) (by decide +kernel)
theorem k_154 : Cond.fieldLink "DistanceLabelsModel" 57 "DistanceLabelsModel" "shortLength" "[I" ∈ hm_big := hm_inT 381 (by decide +kernel) (by decide +kernel)
theorem k_155 : Cond.fieldLink "DistanceLabelsModel" 60 "DistanceLabelsModel" "shortBy" "[I" ∈ hm_big := hm_inT 382 (by decide +kernel) (by decide +kernel)
theorem k_156 : Cond.fieldLink "DistanceLabelsModel" 63 "DistanceLabelsModel" "up" "[I" ∈ hm_big := hm_inT 383 (by decide +kernel) (by decide +kernel)
theorem k_157 : Cond.fieldLink "DistanceLabelsModel" 66 "DistanceLabelsModel" "down" "[I" ∈ hm_big := hm_inT 384 (by decide +kernel) (by decide +kernel)
theorem k_158 : Cond.fieldLink "DistanceLabelsModel" 1 "DistanceLabelsModel" "thrown" "I" ∈ hm_big := hm_inT 362 (by decide +kernel) (by decide +kernel)
theorem k_159 : Cond.fieldLink "DistanceLabelsModel" 70 "DistanceLabelsModel" "nodes" "I" ∈ hm_big := hm_inT 363 (by decide +kernel) (by decide +kernel)
theorem k_160 : Cond.methodLink "DistanceLabelsModel" 73 y_R_in ∈ hm_big := hm_inT 454 (by decide +kernel) (by decide +kernel)
theorem k_161 : Cond.static y_R_in ∈ hm_big := hm_inT 455 (by decide +kernel) (by decide +kernel)
theorem k_162 : Cond.methodLink "DistanceLabelsModel" 77 y_R_noNode ∈ hm_big := hm_inT 450 (by decide +kernel) (by decide +kernel)
theorem k_163 : Cond.instanceMethod y_R_noNode ∈ hm_big := hm_inT 452 (by decide +kernel) (by decide +kernel)
theorem k_164 : Cond.selects "DistanceLabelsModel" y_R_noNode y_R_noNode ∈ hm_big := hm_inS 29 (by decide +kernel) (by decide +kernel)
theorem k_165 : Cond.fieldLink "DistanceLabelsModel" 81 "DistanceLabelsModel" "isLaid" "Z" ∈ hm_big := hm_inT 367 (by decide +kernel) (by decide +kernel)
theorem k_166 : Cond.methodLink "DistanceLabelsModel" 85 y_R_noPair ∈ hm_big := hm_inT 446 (by decide +kernel) (by decide +kernel)
theorem k_167 : Cond.instanceMethod y_R_noPair ∈ hm_big := hm_inT 448 (by decide +kernel) (by decide +kernel)
theorem k_168 : Cond.selects "DistanceLabelsModel" y_R_noPair y_R_noPair ∈ hm_big := hm_inS 28 (by decide +kernel) (by decide +kernel)
theorem k_169 : Cond.methodLink "DistanceLabelsModel" 89 y_R_rankOf ∈ hm_big := hm_inT 465 (by decide +kernel) (by decide +kernel)
theorem k_170 : Cond.instanceMethod y_R_rankOf ∈ hm_big := hm_inT 467 (by decide +kernel) (by decide +kernel)
theorem k_171 : Cond.selects "DistanceLabelsModel" y_R_rankOf y_R_rankOf ∈ hm_big := hm_inS 30 (by decide +kernel) (by decide +kernel)
theorem k_172 : Cond.methodLink "DistanceLabelsModel" 93 y_R_marks ∈ hm_big := hm_inT 477 (by decide +kernel) (by decide +kernel)
theorem k_173 : Cond.instanceMethod y_R_marks ∈ hm_big := hm_inT 479 (by decide +kernel) (by decide +kernel)
theorem k_174 : Cond.selects "DistanceLabelsModel" y_R_marks y_R_marks ∈ hm_big := hm_inS 31 (by decide +kernel) (by decide +kernel)
theorem k_175 : Cond.methodLink "DistanceLabelsModel" 113 y_R_climbAll ∈ hm_big := hm_inT 497 (by decide +kernel) (by decide +kernel)
theorem k_176 : Cond.instanceMethod y_R_climbAll ∈ hm_big := hm_inT 499 (by decide +kernel) (by decide +kernel)
theorem k_177 : Cond.selects "DistanceLabelsModel" y_R_climbAll y_R_climbAll ∈ hm_big := hm_inS 35 (by decide +kernel) (by decide +kernel)
theorem k_178 : Cond.fieldLink "DistanceLabelsModel" 110 "DistanceLabelsModel" "shortcuts" "I" ∈ hm_big := hm_inT 378 (by decide +kernel) (by decide +kernel)
theorem k_179 : Cond.methodLink "DistanceLabelsModel" 97 y_R_fill ∈ hm_big := hm_inT 485 (by decide +kernel) (by decide +kernel)
theorem k_180 : Cond.instanceMethod y_R_fill ∈ hm_big := hm_inT 487 (by decide +kernel) (by decide +kernel)
theorem k_181 : Cond.selects "DistanceLabelsModel" y_R_fill y_R_fill ∈ hm_big := hm_inS 32 (by decide +kernel) (by decide +kernel)
theorem k_182 : Cond.methodLink "DistanceLabelsModel" 107 y_R_contract ∈ hm_big := hm_inT 493 (by decide +kernel) (by decide +kernel)
theorem k_183 : Cond.instanceMethod y_R_contract ∈ hm_big := hm_inT 495 (by decide +kernel) (by decide +kernel)
theorem k_184 : Cond.selects "DistanceLabelsModel" y_R_contract y_R_contract ∈ hm_big := hm_inS 34 (by decide +kernel) (by decide +kernel)
theorem k_185 : Cond.fieldLink "DistanceLabelsModel" 101 "DistanceLabelsModel" "redone" "I" ∈ hm_big := hm_inT 372 (by decide +kernel) (by decide +kernel)
theorem k_186 : Cond.methodLink "DistanceLabelsModel" 104 y_R_isStation ∈ hm_big := hm_inT 489 (by decide +kernel) (by decide +kernel)
theorem k_187 : Cond.instanceMethod y_R_isStation ∈ hm_big := hm_inT 491 (by decide +kernel) (by decide +kernel)
theorem k_188 : Cond.selects "DistanceLabelsModel" y_R_isStation y_R_isStation ∈ hm_big := hm_inS 33 (by decide +kernel) (by decide +kernel)
theorem k_189 : Cond.fieldLink "DistanceLabelsModel" 116 "DistanceLabelsModel" "found" "I" ∈ hm_big := hm_inT 385 (by decide +kernel) (by decide +kernel)
theorem k_190 : Cond.methodLink "DistanceLabelsModel" 119 y_R_nth ∈ hm_big := hm_inT 505 (by decide +kernel) (by decide +kernel)
theorem k_191 : Cond.instanceMethod y_R_nth ∈ hm_big := hm_inT 507 (by decide +kernel) (by decide +kernel)
theorem k_192 : Cond.selects "DistanceLabelsModel" y_R_nth y_R_nth ∈ hm_big := hm_inS 36 (by decide +kernel) (by decide +kernel)
theorem k_193 : Cond.fieldLink "DistanceLabelsModel" 123 "DistanceLabelsModel" "best" "I" ∈ hm_big := hm_inT 386 (by decide +kernel) (by decide +kernel)
theorem k_194 : Cond.methodLink "DistanceLabelsModel" 126 y_R_meet ∈ hm_big := hm_inT 513 (by decide +kernel) (by decide +kernel)
theorem k_195 : Cond.instanceMethod y_R_meet ∈ hm_big := hm_inT 515 (by decide +kernel) (by decide +kernel)
theorem k_196 : Cond.selects "DistanceLabelsModel" y_R_meet y_R_meet ∈ hm_big := hm_inS 37 (by decide +kernel) (by decide +kernel)
theorem k_197 : Cond.constant "DistanceLabelsModel" 130 90000 ∈ hm_big := hm_inT 529 (by decide +kernel) (by decide +kernel)
theorem k_198 : Cond.methodLink "DistanceLabelsModel" 131 y_R_next ∈ hm_big := hm_inT 546 (by decide +kernel) (by decide +kernel)
theorem k_199 : Cond.instanceMethod y_R_next ∈ hm_big := hm_inT 548 (by decide +kernel) (by decide +kernel)
theorem k_200 : Cond.selects "DistanceLabelsModel" y_R_next y_R_next ∈ hm_big := hm_inS 38 (by decide +kernel) (by decide +kernel)
theorem k_201 : Cond.methodLink "DistanceLabelsModel" 134 y_R_isWay ∈ hm_big := hm_inT 554 (by decide +kernel) (by decide +kernel)
theorem k_202 : Cond.instanceMethod y_R_isWay ∈ hm_big := hm_inT 556 (by decide +kernel) (by decide +kernel)
theorem k_203 : Cond.selects "DistanceLabelsModel" y_R_isWay y_R_isWay ∈ hm_big := hm_inS 39 (by decide +kernel) (by decide +kernel)
theorem kF_0 : ("DistanceLabels", 56, "DistanceLabels$Net", "nodes", "I", "DistanceLabels") ∈ hm_nF := List.mem_of_getElem? (i := 0) rfl
theorem kF_1 : ("DistanceLabels", 82, "DistanceLabels$Net", "row", "[I", "DistanceLabels") ∈ hm_nF := List.mem_of_getElem? (i := 1) rfl
theorem kF_2 : ("DistanceLabels", 167, "DistanceLabels$Net", "lengths", "[[I", "DistanceLabels") ∈ hm_nF := List.mem_of_getElem? (i := 2) rfl
theorem kF_3 : ("DistanceLabels$Contraction", 44, "DistanceLabels$Net", "nodes", "I", "DistanceLabels") ∈ hm_nF := List.mem_of_getElem? (i := 3) rfl
theorem kF_4 : ("DistanceLabels$Contraction", 60, "DistanceLabels$Net", "ranks", "[I", "DistanceLabels") ∈ hm_nF := List.mem_of_getElem? (i := 4) rfl
theorem kF_5 : ("DistanceLabels$Contraction", 39, "DistanceLabels$Net", "row", "[I", "DistanceLabels") ∈ hm_nF := List.mem_of_getElem? (i := 5) rfl
theorem kF_6 : ("DistanceLabels$Contraction", 47, "DistanceLabels$Net", "lengths", "[[I", "DistanceLabels") ∈ hm_nF := List.mem_of_getElem? (i := 6) rfl
theorem kF_7 : ("DistanceLabels$Labels", 22, "DistanceLabels$Net", "nodes", "I", "DistanceLabels") ∈ hm_nF := List.mem_of_getElem? (i := 7) rfl
theorem kF_8 : ("DistanceLabels$Labels", 28, "DistanceLabels$Net", "row", "[I", "DistanceLabels") ∈ hm_nF := List.mem_of_getElem? (i := 8) rfl
theorem kF_9 : ("DistanceLabels", 111, "DistanceLabels$Labels", "told", "[[I", "DistanceLabels") ∈ hm_nF := List.mem_of_getElem? (i := 9) rfl
theorem kF_10 : ("DistanceLabels", 124, "DistanceLabels$Contraction", "came", "I", "DistanceLabels") ∈ hm_nF := List.mem_of_getElem? (i := 10) rfl
theorem kF_11 : ("DistanceLabels", 134, "DistanceLabels$Contraction", "sums", "[I", "DistanceLabels") ∈ hm_nF := List.mem_of_getElem? (i := 11) rfl
theorem kF_12 : ("DistanceLabels", 164, "DistanceLabels$Net", "arcs", "I", "DistanceLabels") ∈ hm_nF := List.mem_of_getElem? (i := 12) rfl
theorem kM_0 : ("DistanceLabels$Net", 18, y_D_emptyTable, "DistanceLabels") ∈ hm_nM := List.mem_of_getElem? (i := 0) rfl
theorem kM_1 : ("DistanceLabels$Labels", 9, y_D_emptyTable, "DistanceLabels") ∈ hm_nM := List.mem_of_getElem? (i := 1) rfl
theorem kM_2 : ("DistanceLabels$Contraction", 9, y_D_emptyTable, "DistanceLabels") ∈ hm_nM := List.mem_of_getElem? (i := 2) rfl
theorem kM_3 : ("DistanceLabels", 9, y_N_init, "DistanceLabels") ∈ hm_nM := List.mem_of_getElem? (i := 3) rfl
theorem kM_4 : ("DistanceLabels", 26, y_L_init, "DistanceLabels") ∈ hm_nM := List.mem_of_getElem? (i := 4) rfl
theorem kM_5 : ("DistanceLabels", 36, y_K_init, "DistanceLabels") ∈ hm_nM := List.mem_of_getElem? (i := 5) rfl
theorem kM_6 : ("DistanceLabels", 59, y_N_addNode, "DistanceLabels") ∈ hm_nM := List.mem_of_getElem? (i := 6) rfl
theorem kM_7 : ("DistanceLabels", 63, y_N_hasTwo, "DistanceLabels") ∈ hm_nM := List.mem_of_getElem? (i := 7) rfl
theorem kM_8 : ("DistanceLabels", 67, y_N_putArc, "DistanceLabels") ∈ hm_nM := List.mem_of_getElem? (i := 8) rfl
theorem kM_9 : ("DistanceLabels", 71, y_N_dropArc, "DistanceLabels") ∈ hm_nM := List.mem_of_getElem? (i := 9) rfl
theorem kM_10 : ("DistanceLabels", 75, y_N_has, "DistanceLabels") ∈ hm_nM := List.mem_of_getElem? (i := 10) rfl
theorem kM_11 : ("DistanceLabels", 79, y_N_moveTo, "DistanceLabels") ∈ hm_nM := List.mem_of_getElem? (i := 11) rfl
theorem kM_12 : ("DistanceLabels", 181, y_L_lay, "DistanceLabels") ∈ hm_nM := List.mem_of_getElem? (i := 12) rfl
theorem kM_13 : ("DistanceLabels$Contraction", 63, y_D_sum, "DistanceLabels") ∈ hm_nM := List.mem_of_getElem? (i := 13) rfl
theorem kM_14 : ("DistanceLabels$Contraction", 67, y_D_isLess, "DistanceLabels") ∈ hm_nM := List.mem_of_getElem? (i := 14) rfl
theorem kM_15 : ("DistanceLabels$Contraction", 48, y_D_copyAmong, "DistanceLabels") ∈ hm_nM := List.mem_of_getElem? (i := 15) rfl
theorem kM_16 : ("DistanceLabels$Contraction", 56, y_D_shortenAmong, "DistanceLabels") ∈ hm_nM := List.mem_of_getElem? (i := 16) rfl
theorem kM_17 : ("DistanceLabels", 92, y_K_layAll, "DistanceLabels") ∈ hm_nM := List.mem_of_getElem? (i := 17) rfl
theorem kM_18 : ("DistanceLabels", 107, y_L_stationAt, "DistanceLabels") ∈ hm_nM := List.mem_of_getElem? (i := 18) rfl
theorem kM_19 : ("DistanceLabels", 103, y_L_sizeOf, "DistanceLabels") ∈ hm_nM := List.mem_of_getElem? (i := 19) rfl
theorem kM_20 : ("DistanceLabels", 127, y_K_fromOf, "DistanceLabels") ∈ hm_nM := List.mem_of_getElem? (i := 20) rfl
theorem kM_21 : ("DistanceLabels", 131, y_K_toOf, "DistanceLabels") ∈ hm_nM := List.mem_of_getElem? (i := 21) rfl
theorem kM_22 : ("DistanceLabels", 137, y_K_byOf, "DistanceLabels") ∈ hm_nM := List.mem_of_getElem? (i := 22) rfl
theorem kM_23 : ("DistanceLabels$Contraction", 81, y_D_lesser, "DistanceLabels") ∈ hm_nM := List.mem_of_getElem? (i := 23) rfl
theorem kM_24 : ("DistanceLabels", 140, y_K_climbed, "DistanceLabels") ∈ hm_nM := List.mem_of_getElem? (i := 24) rfl
theorem lay_0 : ∀ w ∈ u_ws "DistanceLabels$Contraction" T_0 7, w ∈ hm_big := by
  intro w hw
  obtain ⟨k, hk, rfl⟩ := List.mem_map.mp hw
  have hk := List.mem_range.mp hk
  match k, hk with
  | 0, _ => exact hm_inT 86 (by decide +kernel) (by decide +kernel)
  | 1, _ => exact hm_inT 88 (by decide +kernel) (by decide +kernel)
  | 2, _ => exact hm_inT 90 (by decide +kernel) (by decide +kernel)
  | 3, _ => exact hm_inT 92 (by decide +kernel) (by decide +kernel)
  | 4, _ => exact hm_inT 94 (by decide +kernel) (by decide +kernel)
  | 5, _ => exact hm_inT 96 (by decide +kernel) (by decide +kernel)
  | 6, _ => exact hm_inT 98 (by decide +kernel) (by decide +kernel)
  | k + 7, h => exact absurd h (by omega)
theorem F_0 : hm_Cl 0 "DistanceLabels$Contraction" T_0 7 t_0 := ⟨rfl, lay_0, by decide +kernel, by decide +kernel⟩
theorem D_0 : ∀ j, j < 7 → defaultValue (t_0 j) = if hm_isr 0 j = true then .null else .int 0 := by
  intro j hj
  match j, hj with
  | 0, _ => rfl
  | 1, _ => rfl
  | 2, _ => rfl
  | 3, _ => rfl
  | 4, _ => rfl
  | 5, _ => rfl
  | 6, _ => rfl
  | k + 7, h => exact absurd h (by omega)
theorem lay_1 : ∀ w ∈ u_ws "DistanceLabels$Labels" T_1 2, w ∈ hm_big := by
  intro w hw
  obtain ⟨k, hk, rfl⟩ := List.mem_map.mp hw
  have hk := List.mem_range.mp hk
  match k, hk with
  | 0, _ => exact hm_inT 65 (by decide +kernel) (by decide +kernel)
  | 1, _ => exact hm_inT 67 (by decide +kernel) (by decide +kernel)
  | k + 2, h => exact absurd h (by omega)
theorem F_1 : hm_Cl 1 "DistanceLabels$Labels" T_1 2 t_1 := ⟨rfl, lay_1, by decide +kernel, by decide +kernel⟩
theorem D_1 : ∀ j, j < 2 → defaultValue (t_1 j) = if hm_isr 1 j = true then .null else .int 0 := by
  intro j hj
  match j, hj with
  | 0, _ => rfl
  | 1, _ => rfl
  | k + 2, h => exact absurd h (by omega)
theorem lay_2 : ∀ w ∈ u_ws "DistanceLabels$Net" T_2 5, w ∈ hm_big := by
  intro w hw
  obtain ⟨k, hk, rfl⟩ := List.mem_map.mp hw
  have hk := List.mem_range.mp hk
  match k, hk with
  | 0, _ => exact hm_inT 42 (by decide +kernel) (by decide +kernel)
  | 1, _ => exact hm_inT 44 (by decide +kernel) (by decide +kernel)
  | 2, _ => exact hm_inT 46 (by decide +kernel) (by decide +kernel)
  | 3, _ => exact hm_inT 48 (by decide +kernel) (by decide +kernel)
  | 4, _ => exact hm_inT 50 (by decide +kernel) (by decide +kernel)
  | k + 5, h => exact absurd h (by omega)
theorem F_2 : hm_Cl 2 "DistanceLabels$Net" T_2 5 t_2 := ⟨rfl, lay_2, by decide +kernel, by decide +kernel⟩
theorem D_2 : ∀ j, j < 5 → defaultValue (t_2 j) = if hm_isr 2 j = true then .null else .int 0 := by
  intro j hj
  match j, hj with
  | 0, _ => rfl
  | 1, _ => rfl
  | 2, _ => rfl
  | 3, _ => rfl
  | 4, _ => rfl
  | k + 5, h => exact absurd h (by omega)
theorem lay_3 : ∀ w ∈ u_ws "DistanceLabels" T_3 9, w ∈ hm_big := by
  intro w hw
  obtain ⟨k, hk, rfl⟩ := List.mem_map.mp hw
  have hk := List.mem_range.mp hk
  match k, hk with
  | 0, _ => exact hm_inT 110 (by decide +kernel) (by decide +kernel)
  | 1, _ => exact hm_inT 112 (by decide +kernel) (by decide +kernel)
  | 2, _ => exact hm_inT 114 (by decide +kernel) (by decide +kernel)
  | 3, _ => exact hm_inT 116 (by decide +kernel) (by decide +kernel)
  | 4, _ => exact hm_inT 118 (by decide +kernel) (by decide +kernel)
  | 5, _ => exact hm_inT 120 (by decide +kernel) (by decide +kernel)
  | 6, _ => exact hm_inT 122 (by decide +kernel) (by decide +kernel)
  | 7, _ => exact hm_inT 124 (by decide +kernel) (by decide +kernel)
  | 8, _ => exact hm_inT 126 (by decide +kernel) (by decide +kernel)
  | k + 9, h => exact absurd h (by omega)
theorem F_3 : hm_Cl 3 "DistanceLabels" T_3 9 t_3 := ⟨rfl, lay_3, by decide +kernel, by decide +kernel⟩
theorem D_3 : ∀ j, j < 9 → defaultValue (t_3 j) = if hm_isr 3 j = true then .null else .int 0 := by
  intro j hj
  match j, hj with
  | 0, _ => rfl
  | 1, _ => rfl
  | 2, _ => rfl
  | 3, _ => rfl
  | 4, _ => rfl
  | 5, _ => rfl
  | 6, _ => rfl
  | 7, _ => rfl
  | 8, _ => rfl
  | k + 9, h => exact absurd h (by omega)
theorem lay_4 : ∀ w ∈ u_ws "DistanceLabelsModel" T_4 25, w ∈ hm_big := by
  intro w hw
  obtain ⟨k, hk, rfl⟩ := List.mem_map.mp hw
  have hk := List.mem_range.mp hk
  match k, hk with
  | 0, _ => exact hm_inT 387 (by decide +kernel) (by decide +kernel)
  | 1, _ => exact hm_inT 389 (by decide +kernel) (by decide +kernel)
  | 2, _ => exact hm_inT 391 (by decide +kernel) (by decide +kernel)
  | 3, _ => exact hm_inT 393 (by decide +kernel) (by decide +kernel)
  | 4, _ => exact hm_inT 395 (by decide +kernel) (by decide +kernel)
  | 5, _ => exact hm_inT 397 (by decide +kernel) (by decide +kernel)
  | 6, _ => exact hm_inT 399 (by decide +kernel) (by decide +kernel)
  | 7, _ => exact hm_inT 401 (by decide +kernel) (by decide +kernel)
  | 8, _ => exact hm_inT 403 (by decide +kernel) (by decide +kernel)
  | 9, _ => exact hm_inT 405 (by decide +kernel) (by decide +kernel)
  | 10, _ => exact hm_inT 407 (by decide +kernel) (by decide +kernel)
  | 11, _ => exact hm_inT 409 (by decide +kernel) (by decide +kernel)
  | 12, _ => exact hm_inT 411 (by decide +kernel) (by decide +kernel)
  | 13, _ => exact hm_inT 413 (by decide +kernel) (by decide +kernel)
  | 14, _ => exact hm_inT 415 (by decide +kernel) (by decide +kernel)
  | 15, _ => exact hm_inT 417 (by decide +kernel) (by decide +kernel)
  | 16, _ => exact hm_inT 419 (by decide +kernel) (by decide +kernel)
  | 17, _ => exact hm_inT 421 (by decide +kernel) (by decide +kernel)
  | 18, _ => exact hm_inT 423 (by decide +kernel) (by decide +kernel)
  | 19, _ => exact hm_inT 425 (by decide +kernel) (by decide +kernel)
  | 20, _ => exact hm_inT 427 (by decide +kernel) (by decide +kernel)
  | 21, _ => exact hm_inT 429 (by decide +kernel) (by decide +kernel)
  | 22, _ => exact hm_inT 431 (by decide +kernel) (by decide +kernel)
  | 23, _ => exact hm_inT 433 (by decide +kernel) (by decide +kernel)
  | 24, _ => exact hm_inT 435 (by decide +kernel) (by decide +kernel)
  | k + 25, h => exact absurd h (by omega)
theorem F_4 : hm_Cl 4 "DistanceLabelsModel" T_4 25 t_4 := ⟨rfl, lay_4, by decide +kernel, by decide +kernel⟩
theorem D_4 : ∀ j, j < 25 → defaultValue (t_4 j) = if hm_isr 4 j = true then .null else .int 0 := by
  intro j hj
  match j, hj with
  | 0, _ => rfl
  | 1, _ => rfl
  | 2, _ => rfl
  | 3, _ => rfl
  | 4, _ => rfl
  | 5, _ => rfl
  | 6, _ => rfl
  | 7, _ => rfl
  | 8, _ => rfl
  | 9, _ => rfl
  | 10, _ => rfl
  | 11, _ => rfl
  | 12, _ => rfl
  | 13, _ => rfl
  | 14, _ => rfl
  | 15, _ => rfl
  | 16, _ => rfl
  | 17, _ => rfl
  | 18, _ => rfl
  | 19, _ => rfl
  | 20, _ => rfl
  | 21, _ => rfl
  | 22, _ => rfl
  | 23, _ => rfl
  | 24, _ => rfl
  | k + 25, h => exact absurd h (by omega)
theorem Y_D_emptyTable : hm_Y y_D_emptyTable prog_1_method_35_code 3 (some (.array (.array .int))) 0 := ⟨hm_inT 24 (by decide +kernel) (by decide +kernel), hm_inT 1 (by decide +kernel) (by decide +kernel), by decide +kernel⟩
theorem Y_N_init : hm_Y y_N_init prog_4_method_1_code 1 none 0 := ⟨hm_inT 20 (by decide +kernel) (by decide +kernel), hm_inT 2 (by decide +kernel) (by decide +kernel), by decide +kernel⟩
theorem Y_L_init : hm_Y y_L_init prog_3_method_1_code 1 none 0 := ⟨hm_inT 59 (by decide +kernel) (by decide +kernel), hm_inT 3 (by decide +kernel) (by decide +kernel), by decide +kernel⟩
theorem Y_K_init : hm_Y y_K_init prog_2_method_1_code 1 none 0 := ⟨hm_inT 74 (by decide +kernel) (by decide +kernel), hm_inT 4 (by decide +kernel) (by decide +kernel), by decide +kernel⟩
theorem Y_D_init : hm_Y y_D_init prog_1_method_1_code 1 none 0 := ⟨hm_inT 12 (by decide +kernel) (by decide +kernel), hm_inT 1 (by decide +kernel) (by decide +kernel), by decide +kernel⟩
theorem Y_N_place : hm_Y y_N_place prog_4_method_8_code 3 none 2 := ⟨hm_inT 141 (by decide +kernel) (by decide +kernel), hm_inT 2 (by decide +kernel) (by decide +kernel), by decide +kernel⟩
theorem Y_N_addNode : hm_Y y_N_addNode prog_4_method_4_code 2 (some .int) 0 := ⟨hm_inT 137 (by decide +kernel) (by decide +kernel), hm_inT 2 (by decide +kernel) (by decide +kernel), by decide +kernel⟩
theorem Y_D_node : hm_Y y_D_node prog_1_method_2_code 1 (some .int) 0 := ⟨hm_inT 133 (by decide +kernel) (by decide +kernel), hm_inT 1 (by decide +kernel) (by decide +kernel), by decide +kernel⟩
theorem Y_N_has : hm_Y y_N_has prog_4_method_2_code 2 (some .boolean) 1 := ⟨hm_inT 153 (by decide +kernel) (by decide +kernel), hm_inT 2 (by decide +kernel) (by decide +kernel), by decide +kernel⟩
theorem Y_N_hasTwo : hm_Y y_N_hasTwo prog_4_method_3_code 3 (some .boolean) 2 := ⟨hm_inT 149 (by decide +kernel) (by decide +kernel), hm_inT 2 (by decide +kernel) (by decide +kernel), by decide +kernel⟩
theorem Y_N_putArc : hm_Y y_N_putArc prog_4_method_5_code 5 (some .int) 3 := ⟨hm_inT 157 (by decide +kernel) (by decide +kernel), hm_inT 2 (by decide +kernel) (by decide +kernel), by decide +kernel⟩
theorem Y_D_arc : hm_Y y_D_arc prog_1_method_3_code 4 (some .int) 3 := ⟨hm_inT 145 (by decide +kernel) (by decide +kernel), hm_inT 1 (by decide +kernel) (by decide +kernel), by decide +kernel⟩
theorem Y_N_dropArc : hm_Y y_N_dropArc prog_4_method_6_code 4 (some .int) 2 := ⟨hm_inT 165 (by decide +kernel) (by decide +kernel), hm_inT 2 (by decide +kernel) (by decide +kernel), by decide +kernel⟩
theorem Y_D_lose : hm_Y y_D_lose prog_1_method_4_code 4 (some .int) 2 := ⟨hm_inT 161 (by decide +kernel) (by decide +kernel), hm_inT 1 (by decide +kernel) (by decide +kernel), by decide +kernel⟩
theorem Y_N_moveTo : hm_Y y_N_moveTo prog_4_method_7_code 5 (some .int) 2 := ⟨hm_inT 174 (by decide +kernel) (by decide +kernel), hm_inT 2 (by decide +kernel) (by decide +kernel), by decide +kernel⟩
theorem Y_D_rank : hm_Y y_D_rank prog_1_method_5_code 3 (some .int) 2 := ⟨hm_inT 169 (by decide +kernel) (by decide +kernel), hm_inT 1 (by decide +kernel) (by decide +kernel), by decide +kernel⟩
theorem Y_D_ranked : hm_Y y_D_ranked prog_1_method_6_code 2 (some .int) 1 := ⟨hm_inT 178 (by decide +kernel) (by decide +kernel), hm_inT 1 (by decide +kernel) (by decide +kernel), by decide +kernel⟩
theorem Y_D_landmark : hm_Y y_D_landmark prog_1_method_7_code 4 (some .int) 2 := ⟨hm_inT 182 (by decide +kernel) (by decide +kernel), hm_inT 1 (by decide +kernel) (by decide +kernel), by decide +kernel⟩
theorem Y_D_copyAmong : hm_Y y_D_copyAmong prog_1_method_36_code 6 none 4 := ⟨hm_inT 193 (by decide +kernel) (by decide +kernel), hm_inT 1 (by decide +kernel) (by decide +kernel), by decide +kernel⟩
theorem Y_D_isLess : hm_Y y_D_isLess prog_1_method_32_code 2 (some .boolean) 2 := ⟨hm_inT 202 (by decide +kernel) (by decide +kernel), hm_inT 1 (by decide +kernel) (by decide +kernel), by decide +kernel⟩
theorem Y_D_shortenRow : hm_Y y_D_shortenRow prog_1_method_38_code 8 none 5 := ⟨hm_inT 199 (by decide +kernel) (by decide +kernel), hm_inT 1 (by decide +kernel) (by decide +kernel), by decide +kernel⟩
theorem Y_D_shortenAmong : hm_Y y_D_shortenAmong prog_1_method_37_code 7 none 3 := ⟨hm_inT 196 (by decide +kernel) (by decide +kernel), hm_inT 1 (by decide +kernel) (by decide +kernel), by decide +kernel⟩
theorem Y_D_layDistances : hm_Y y_D_layDistances prog_1_method_24_code 2 none 0 := ⟨hm_inT 190 (by decide +kernel) (by decide +kernel), hm_inT 1 (by decide +kernel) (by decide +kernel), by decide +kernel⟩
theorem Y_D_sum : hm_Y y_D_sum prog_1_method_31_code 2 (some .int) 2 := ⟨hm_inT 213 (by decide +kernel) (by decide +kernel), hm_inT 1 (by decide +kernel) (by decide +kernel), by decide +kernel⟩
theorem Y_D_firstOnLeastWays : hm_Y y_D_firstOnLeastWays prog_1_method_26_code 5 (some .int) 2 := ⟨hm_inT 210 (by decide +kernel) (by decide +kernel), hm_inT 1 (by decide +kernel) (by decide +kernel), by decide +kernel⟩
theorem Y_L_lay : hm_Y y_L_lay prog_3_method_2_code 5 (some .int) 3 := ⟨hm_inT 217 (by decide +kernel) (by decide +kernel), hm_inT 3 (by decide +kernel) (by decide +kernel), by decide +kernel⟩
theorem Y_D_layPair : hm_Y y_D_layPair prog_1_method_25_code 6 (some .int) 2 := ⟨hm_inT 206 (by decide +kernel) (by decide +kernel), hm_inT 1 (by decide +kernel) (by decide +kernel), by decide +kernel⟩
theorem Y_K_bring : hm_Y y_K_bring prog_2_method_4_code 5 none 4 := ⟨hm_inT 233 (by decide +kernel) (by decide +kernel), hm_inT 4 (by decide +kernel) (by decide +kernel), by decide +kernel⟩
theorem Y_K_letGo : hm_Y y_K_letGo prog_2_method_3_code 7 none 2 := ⟨hm_inT 226 (by decide +kernel) (by decide +kernel), hm_inT 4 (by decide +kernel) (by decide +kernel), by decide +kernel⟩
theorem Y_K_layAll : hm_Y y_K_layAll prog_2_method_2_code 3 none 1 := ⟨hm_inT 221 (by decide +kernel) (by decide +kernel), hm_inT 4 (by decide +kernel) (by decide +kernel), by decide +kernel⟩
theorem Y_D_make : hm_Y y_D_make prog_1_method_8_code 4 (some .int) 0 := ⟨hm_inT 186 (by decide +kernel) (by decide +kernel), hm_inT 1 (by decide +kernel) (by decide +kernel), by decide +kernel⟩
theorem Y_D_isSide : hm_Y y_D_isSide prog_1_method_22_code 1 (some .boolean) 1 := ⟨hm_inT 240 (by decide +kernel) (by decide +kernel), hm_inT 1 (by decide +kernel) (by decide +kernel), by decide +kernel⟩
theorem Y_D_ofSide : hm_Y y_D_ofSide prog_1_method_23_code 2 (some (.object "DistanceLabels$Labels")) 1 := ⟨hm_inT 244 (by decide +kernel) (by decide +kernel), hm_inT 1 (by decide +kernel) (by decide +kernel), by decide +kernel⟩
theorem Y_L_sizeOf : hm_Y y_L_sizeOf prog_3_method_3_code 5 (some .int) 2 := ⟨hm_inT 248 (by decide +kernel) (by decide +kernel), hm_inT 3 (by decide +kernel) (by decide +kernel), by decide +kernel⟩
theorem Y_L_stationAt : hm_Y y_L_stationAt prog_3_method_4_code 7 (some .int) 3 := ⟨hm_inT 252 (by decide +kernel) (by decide +kernel), hm_inT 3 (by decide +kernel) (by decide +kernel), by decide +kernel⟩
theorem Y_D_label : hm_Y y_D_label prog_1_method_9_code 7 (some .int) 4 := ⟨hm_inT 237 (by decide +kernel) (by decide +kernel), hm_inT 1 (by decide +kernel) (by decide +kernel), by decide +kernel⟩
theorem Y_D_refusalOf : hm_Y y_D_refusalOf prog_1_method_21_code 3 (some .int) 2 := ⟨hm_inT 260 (by decide +kernel) (by decide +kernel), hm_inT 1 (by decide +kernel) (by decide +kernel), by decide +kernel⟩
theorem Y_D_meetingOf : hm_Y y_D_meetingOf prog_1_method_27_code 8 (some .int) 2 := ⟨hm_inT 268 (by decide +kernel) (by decide +kernel), hm_inT 1 (by decide +kernel) (by decide +kernel), by decide +kernel⟩
theorem Y_D_askedOf : hm_Y y_D_askedOf prog_1_method_28_code 4 (some .int) 2 := ⟨hm_inT 264 (by decide +kernel) (by decide +kernel), hm_inT 1 (by decide +kernel) (by decide +kernel), by decide +kernel⟩
theorem Y_D_ask : hm_Y y_D_ask prog_1_method_10_code 4 (some .int) 2 := ⟨hm_inT 256 (by decide +kernel) (by decide +kernel), hm_inT 1 (by decide +kernel) (by decide +kernel), by decide +kernel⟩
theorem Y_D_meeting : hm_Y y_D_meeting prog_1_method_11_code 4 (some .int) 2 := ⟨hm_inT 272 (by decide +kernel) (by decide +kernel), hm_inT 1 (by decide +kernel) (by decide +kernel), by decide +kernel⟩
theorem Y_D_redone : hm_Y y_D_redone prog_1_method_12_code 1 (some .int) 0 := ⟨hm_inT 276 (by decide +kernel) (by decide +kernel), hm_inT 1 (by decide +kernel) (by decide +kernel), by decide +kernel⟩
theorem Y_D_damage : hm_Y y_D_damage prog_1_method_13_code 8 (some .int) 4 := ⟨hm_inT 280 (by decide +kernel) (by decide +kernel), hm_inT 1 (by decide +kernel) (by decide +kernel), by decide +kernel⟩
theorem Y_D_check : hm_Y y_D_check prog_1_method_14_code 3 (some .int) 0 := ⟨hm_inT 285 (by decide +kernel) (by decide +kernel), hm_inT 1 (by decide +kernel) (by decide +kernel), by decide +kernel⟩
theorem Y_K_fromOf : hm_Y y_K_fromOf prog_2_method_5_code 2 (some .int) 1 := ⟨hm_inT 293 (by decide +kernel) (by decide +kernel), hm_inT 4 (by decide +kernel) (by decide +kernel), by decide +kernel⟩
theorem Y_K_toOf : hm_Y y_K_toOf prog_2_method_6_code 2 (some .int) 1 := ⟨hm_inT 297 (by decide +kernel) (by decide +kernel), hm_inT 4 (by decide +kernel) (by decide +kernel), by decide +kernel⟩
theorem Y_K_byOf : hm_Y y_K_byOf prog_2_method_7_code 2 (some .int) 1 := ⟨hm_inT 301 (by decide +kernel) (by decide +kernel), hm_inT 4 (by decide +kernel) (by decide +kernel), by decide +kernel⟩
theorem Y_D_shortcut : hm_Y y_D_shortcut prog_1_method_15_code 3 (some .int) 2 := ⟨hm_inT 289 (by decide +kernel) (by decide +kernel), hm_inT 1 (by decide +kernel) (by decide +kernel), by decide +kernel⟩
theorem Y_J_fill : hm_Y y_J_fill prog_8_method_103_code 4 none 2 := ⟨hm_inT 316 (by decide +kernel) (by decide +kernel), hm_inT 6 (by decide +kernel) (by decide +kernel), by decide +kernel⟩
theorem Y_D_lesser : hm_Y y_D_lesser prog_1_method_33_code 2 (some .int) 2 := ⟨hm_inT 319 (by decide +kernel) (by decide +kernel), hm_inT 1 (by decide +kernel) (by decide +kernel), by decide +kernel⟩
theorem Y_K_climbFrom : hm_Y y_K_climbFrom prog_2_method_9_code 7 none 2 := ⟨hm_inT 313 (by decide +kernel) (by decide +kernel), hm_inT 4 (by decide +kernel) (by decide +kernel), by decide +kernel⟩
theorem Y_K_climbBackFrom : hm_Y y_K_climbBackFrom prog_2_method_10_code 7 none 2 := ⟨hm_inT 323 (by decide +kernel) (by decide +kernel), hm_inT 4 (by decide +kernel) (by decide +kernel), by decide +kernel⟩
theorem Y_K_climbed : hm_Y y_K_climbed prog_2_method_8_code 6 (some .int) 3 := ⟨hm_inT 309 (by decide +kernel) (by decide +kernel), hm_inT 4 (by decide +kernel) (by decide +kernel), by decide +kernel⟩
theorem Y_D_climb : hm_Y y_D_climb prog_1_method_16_code 4 (some .int) 2 := ⟨hm_inT 305 (by decide +kernel) (by decide +kernel), hm_inT 1 (by decide +kernel) (by decide +kernel), by decide +kernel⟩
theorem Y_D_nextOnWay : hm_Y y_D_nextOnWay prog_1_method_29_code 5 (some .int) 2 := ⟨hm_inT 331 (by decide +kernel) (by decide +kernel), hm_inT 1 (by decide +kernel) (by decide +kernel), by decide +kernel⟩
theorem Y_D_way : hm_Y y_D_way prog_1_method_17_code 7 (some .int) 3 := ⟨hm_inT 327 (by decide +kernel) (by decide +kernel), hm_inT 1 (by decide +kernel) (by decide +kernel), by decide +kernel⟩
theorem Y_D_isSureBy : hm_Y y_D_isSureBy prog_1_method_30_code 4 (some .boolean) 3 := ⟨hm_inT 339 (by decide +kernel) (by decide +kernel), hm_inT 1 (by decide +kernel) (by decide +kernel), by decide +kernel⟩
theorem Y_D_lead : hm_Y y_D_lead prog_1_method_34_code 2 (some .int) 2 := ⟨hm_inT 342 (by decide +kernel) (by decide +kernel), hm_inT 1 (by decide +kernel) (by decide +kernel), by decide +kernel⟩
theorem Y_D_least : hm_Y y_D_least prog_1_method_18_code 6 (some .int) 2 := ⟨hm_inT 335 (by decide +kernel) (by decide +kernel), hm_inT 1 (by decide +kernel) (by decide +kernel), by decide +kernel⟩
theorem Y_D_most : hm_Y y_D_most prog_1_method_19_code 6 (some .int) 2 := ⟨hm_inT 349 (by decide +kernel) (by decide +kernel), hm_inT 1 (by decide +kernel) (by decide +kernel), by decide +kernel⟩
theorem Y_D_count : hm_Y y_D_count prog_1_method_20_code 2 (some .int) 1 := ⟨hm_inT 354 (by decide +kernel) (by decide +kernel), hm_inT 1 (by decide +kernel) (by decide +kernel), by decide +kernel⟩
theorem Y_R_in : hm_Y y_R_in prog_6_method_2_code 3 (some .boolean) 3 := ⟨hm_inT 456 (by decide +kernel) (by decide +kernel), hm_inT 5 (by decide +kernel) (by decide +kernel), by decide +kernel⟩
theorem Y_R_init : hm_Y y_R_init prog_6_method_3_code 2 none 0 := ⟨hm_inT 359 (by decide +kernel) (by decide +kernel), hm_inT 5 (by decide +kernel) (by decide +kernel), by decide +kernel⟩
theorem Y_R_noNode : hm_Y y_R_noNode prog_6_method_4_code 2 (some .boolean) 1 := ⟨hm_inT 453 (by decide +kernel) (by decide +kernel), hm_inT 5 (by decide +kernel) (by decide +kernel), by decide +kernel⟩
theorem Y_R_noPair : hm_Y y_R_noPair prog_6_method_5_code 3 (some .boolean) 2 := ⟨hm_inT 449 (by decide +kernel) (by decide +kernel), hm_inT 5 (by decide +kernel) (by decide +kernel), by decide +kernel⟩
theorem Y_R_node : hm_Y y_R_node prog_6_method_6_code 1 (some .int) 0 := ⟨hm_inT 441 (by decide +kernel) (by decide +kernel), hm_inT 5 (by decide +kernel) (by decide +kernel), by decide +kernel⟩
theorem Y_R_arc : hm_Y y_R_arc prog_6_method_7_code 5 (some .int) 3 := ⟨hm_inT 445 (by decide +kernel) (by decide +kernel), hm_inT 5 (by decide +kernel) (by decide +kernel), by decide +kernel⟩
theorem Y_R_lose : hm_Y y_R_lose prog_6_method_8_code 4 (some .int) 2 := ⟨hm_inT 460 (by decide +kernel) (by decide +kernel), hm_inT 5 (by decide +kernel) (by decide +kernel), by decide +kernel⟩
theorem Y_R_rankOf : hm_Y y_R_rankOf prog_6_method_9_code 3 (some .int) 1 := ⟨hm_inT 468 (by decide +kernel) (by decide +kernel), hm_inT 5 (by decide +kernel) (by decide +kernel), by decide +kernel⟩
theorem Y_R_rank : hm_Y y_R_rank prog_6_method_10_code 5 (some .int) 2 := ⟨hm_inT 464 (by decide +kernel) (by decide +kernel), hm_inT 5 (by decide +kernel) (by decide +kernel), by decide +kernel⟩
theorem Y_R_ranked : hm_Y y_R_ranked prog_6_method_11_code 2 (some .int) 1 := ⟨hm_inT 472 (by decide +kernel) (by decide +kernel), hm_inT 5 (by decide +kernel) (by decide +kernel), by decide +kernel⟩
theorem Y_R_marks : hm_Y y_R_marks prog_6_method_13_code 3 (some .int) 0 := ⟨hm_inT 480 (by decide +kernel) (by decide +kernel), hm_inT 5 (by decide +kernel) (by decide +kernel), by decide +kernel⟩
theorem Y_R_landmark : hm_Y y_R_landmark prog_6_method_12_code 4 (some .int) 2 := ⟨hm_inT 476 (by decide +kernel) (by decide +kernel), hm_inT 5 (by decide +kernel) (by decide +kernel), by decide +kernel⟩
theorem Y_R_fill : hm_Y y_R_fill prog_6_method_14_code 9 none 4 := ⟨hm_inT 488 (by decide +kernel) (by decide +kernel), hm_inT 5 (by decide +kernel) (by decide +kernel), by decide +kernel⟩
theorem Y_R_isStation : hm_Y y_R_isStation prog_6_method_15_code 9 (some .boolean) 3 := ⟨hm_inT 492 (by decide +kernel) (by decide +kernel), hm_inT 5 (by decide +kernel) (by decide +kernel), by decide +kernel⟩
theorem Y_R_climbAll : hm_Y y_R_climbAll prog_6_method_18_code 8 none 0 := ⟨hm_inT 500 (by decide +kernel) (by decide +kernel), hm_inT 5 (by decide +kernel) (by decide +kernel), by decide +kernel⟩
theorem Y_R_contract : hm_Y y_R_contract prog_6_method_17_code 8 none 0 := ⟨hm_inT 496 (by decide +kernel) (by decide +kernel), hm_inT 5 (by decide +kernel) (by decide +kernel), by decide +kernel⟩
theorem Y_R_make : hm_Y y_R_make prog_6_method_16_code 8 (some .int) 0 := ⟨hm_inT 484 (by decide +kernel) (by decide +kernel), hm_inT 5 (by decide +kernel) (by decide +kernel), by decide +kernel⟩
theorem Y_R_nth : hm_Y y_R_nth prog_6_method_19_code 7 (some .int) 3 := ⟨hm_inT 508 (by decide +kernel) (by decide +kernel), hm_inT 5 (by decide +kernel) (by decide +kernel), by decide +kernel⟩
theorem Y_R_label : hm_Y y_R_label prog_6_method_20_code 6 (some .int) 4 := ⟨hm_inT 504 (by decide +kernel) (by decide +kernel), hm_inT 5 (by decide +kernel) (by decide +kernel), by decide +kernel⟩
theorem Y_R_meet : hm_Y y_R_meet prog_6_method_21_code 8 (some .int) 2 := ⟨hm_inT 516 (by decide +kernel) (by decide +kernel), hm_inT 5 (by decide +kernel) (by decide +kernel), by decide +kernel⟩
theorem Y_R_ask : hm_Y y_R_ask prog_6_method_22_code 3 (some .int) 2 := ⟨hm_inT 512 (by decide +kernel) (by decide +kernel), hm_inT 5 (by decide +kernel) (by decide +kernel), by decide +kernel⟩
theorem Y_R_meeting : hm_Y y_R_meeting prog_6_method_23_code 3 (some .int) 2 := ⟨hm_inT 520 (by decide +kernel) (by decide +kernel), hm_inT 5 (by decide +kernel) (by decide +kernel), by decide +kernel⟩
theorem Y_R_redone : hm_Y y_R_redone prog_6_method_24_code 1 (some .int) 0 := ⟨hm_inT 524 (by decide +kernel) (by decide +kernel), hm_inT 5 (by decide +kernel) (by decide +kernel), by decide +kernel⟩
theorem Y_R_damage : hm_Y y_R_damage prog_6_method_25_code 8 (some .int) 4 := ⟨hm_inT 528 (by decide +kernel) (by decide +kernel), hm_inT 5 (by decide +kernel) (by decide +kernel), by decide +kernel⟩
theorem Y_R_check : hm_Y y_R_check prog_6_method_26_code 5 (some .int) 0 := ⟨hm_inT 533 (by decide +kernel) (by decide +kernel), hm_inT 5 (by decide +kernel) (by decide +kernel), by decide +kernel⟩
theorem Y_R_shortcut : hm_Y y_R_shortcut prog_6_method_27_code 3 (some .int) 2 := ⟨hm_inT 537 (by decide +kernel) (by decide +kernel), hm_inT 5 (by decide +kernel) (by decide +kernel), by decide +kernel⟩
theorem Y_R_climb : hm_Y y_R_climb prog_6_method_28_code 3 (some .int) 2 := ⟨hm_inT 541 (by decide +kernel) (by decide +kernel), hm_inT 5 (by decide +kernel) (by decide +kernel), by decide +kernel⟩
theorem Y_R_next : hm_Y y_R_next prog_6_method_29_code 4 (some .int) 2 := ⟨hm_inT 549 (by decide +kernel) (by decide +kernel), hm_inT 5 (by decide +kernel) (by decide +kernel), by decide +kernel⟩
theorem Y_R_way : hm_Y y_R_way prog_6_method_30_code 6 (some .int) 3 := ⟨hm_inT 545 (by decide +kernel) (by decide +kernel), hm_inT 5 (by decide +kernel) (by decide +kernel), by decide +kernel⟩
theorem Y_R_isWay : hm_Y y_R_isWay prog_6_method_31_code 3 (some .boolean) 2 := ⟨hm_inT 557 (by decide +kernel) (by decide +kernel), hm_inT 5 (by decide +kernel) (by decide +kernel), by decide +kernel⟩
theorem Y_R_least : hm_Y y_R_least prog_6_method_32_code 7 (some .int) 2 := ⟨hm_inT 553 (by decide +kernel) (by decide +kernel), hm_inT 5 (by decide +kernel) (by decide +kernel), by decide +kernel⟩
theorem Y_R_most : hm_Y y_R_most prog_6_method_33_code 6 (some .int) 2 := ⟨hm_inT 561 (by decide +kernel) (by decide +kernel), hm_inT 5 (by decide +kernel) (by decide +kernel), by decide +kernel⟩
theorem Y_R_count : hm_Y y_R_count prog_6_method_34_code 4 (some .int) 1 := ⟨hm_inT 565 (by decide +kernel) (by decide +kernel), hm_inT 5 (by decide +kernel) (by decide +kernel), by decide +kernel⟩
theorem kA_int : Cond.arrayClass .int ∈ hm_big := hm_inT 53 (by decide +kernel) (by decide +kernel)
theorem kA_bool : Cond.arrayClass .boolean ∈ hm_big := hm_inT 129 (by decide +kernel) (by decide +kernel)
theorem kO_int : Cond.arrayOver (.array .int) ∈ lw_tbl := List.mem_append_right _ (List.mem_of_getElem? (i := 26) (by decide +kernel))
