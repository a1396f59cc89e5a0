theorem mw_0 : Cond.selects RX6 yX6_found yX6_found ∈ wAll := wAll_at 0 (by decide +kernel) (by decide +kernel)
theorem mw_1 : Cond.selects RX6 yX6_unfound yX6_unfound ∈ wAll := wAll_at 1 (by decide +kernel) (by decide +kernel)
theorem mw_2 : Cond.selects RX4 yX4_readLaw yX4_readLaw ∈ wAll := wAll_at 2 (by decide +kernel) (by decide +kernel)
theorem mw_3 : Cond.selects RX4 yX4_readSign yX4_readSign ∈ wAll := wAll_at 3 (by decide +kernel) (by decide +kernel)
theorem mw_4 : Cond.selects RX4 yX4_next yX4_next ∈ wAll := wAll_at 4 (by decide +kernel) (by decide +kernel)
theorem mw_5 : Cond.selects RX4 yX4_fail yX4_fail ∈ wAll := wAll_at 5 (by decide +kernel) (by decide +kernel)
theorem mw_6 : Cond.selects RX4 yX4_readNumberAndSign yX4_readNumberAndSign ∈ wAll := wAll_at 6 (by decide +kernel) (by decide +kernel)
theorem mw_7 : Cond.selects RX4 yX4_readNumber yX4_readNumber ∈ wAll := wAll_at 7 (by decide +kernel) (by decide +kernel)
theorem mw_8 : Cond.selects RX4 yX4_isFigure yX4_isFigure ∈ wAll := wAll_at 8 (by decide +kernel) (by decide +kernel)
theorem mw_9 : Cond.selects RX4 yX4_readHands yX4_readHands ∈ wAll := wAll_at 9 (by decide +kernel) (by decide +kernel)
theorem mw_10 : Cond.selects RX4 yX4_readHand yX4_readHand ∈ wAll := wAll_at 10 (by decide +kernel) (by decide +kernel)
theorem mw_11 : Cond.selects RX4 yX4_readCopies yX4_readCopies ∈ wAll := wAll_at 11 (by decide +kernel) (by decide +kernel)
theorem mw_12 : Cond.selects RX4 yX4_readCopy yX4_readCopy ∈ wAll := wAll_at 12 (by decide +kernel) (by decide +kernel)
theorem mw_13 : Cond.selects RX4 yX4_readDeeds yX4_readDeeds ∈ wAll := wAll_at 13 (by decide +kernel) (by decide +kernel)
theorem mw_14 : Cond.selects RX4 yX4_readDeed yX4_readDeed ∈ wAll := wAll_at 14 (by decide +kernel) (by decide +kernel)
theorem mw_15 : Cond.selects RX6 yX6_isHand yX6_isHand ∈ wAll := wAll_at 15 (by decide +kernel) (by decide +kernel)
theorem mw_16 : Cond.selects RX6 yX6_isCopy yX6_isCopy ∈ wAll := wAll_at 16 (by decide +kernel) (by decide +kernel)
theorem mw_17 : Cond.selects RX6 yX6_isDeed yX6_isDeed ∈ wAll := wAll_at 17 (by decide +kernel) (by decide +kernel)
theorem mw_18 : Cond.selects RX6 yX6_isHandSet yX6_isHandSet ∈ wAll := wAll_at 18 (by decide +kernel) (by decide +kernel)
theorem mw_19 : Cond.selects RX3 yX3_fewestPlaces yX3_fewestPlaces ∈ wAll := wAll_at 19 (by decide +kernel) (by decide +kernel)
theorem mw_20 : Cond.selects RX3 yX3_cheapestBeside yX3_cheapestBeside ∈ wAll := wAll_at 20 (by decide +kernel) (by decide +kernel)
theorem mw_21 : Cond.selects RX3 yX3_widenBy yX3_widenBy ∈ wAll := wAll_at 21 (by decide +kernel) (by decide +kernel)
theorem mw_22 : Cond.selects RX3 yX3_couldWhiten yX3_couldWhiten ∈ wAll := wAll_at 22 (by decide +kernel) (by decide +kernel)
theorem mw_23 : Cond.selects RX6 yX6_imageOf yX6_imageOf ∈ wAll := wAll_at 23 (by decide +kernel) (by decide +kernel)
theorem mw_24 : Cond.selects RX2 yX2_askAnew yX2_askAnew ∈ wAll := wAll_at 24 (by decide +kernel) (by decide +kernel)
theorem mw_25 : Cond.selects RX2 yX2_runBody yX2_runBody ∈ wAll := wAll_at 25 (by decide +kernel) (by decide +kernel)
theorem mw_26 : Cond.selects RX2 yX2_leave yX2_leave ∈ wAll := wAll_at 26 (by decide +kernel) (by decide +kernel)
theorem mw_27 : Cond.selects RX7 yX7_found yX7_found ∈ wAll := wAll_at 27 (by decide +kernel) (by decide +kernel)
theorem mw_28 : Cond.selects RX7 yX7_well yX7_well ∈ wAll := wAll_at 28 (by decide +kernel) (by decide +kernel)
theorem mw_29 : Cond.selects RX7 yX7_reads yX7_reads ∈ wAll := wAll_at 29 (by decide +kernel) (by decide +kernel)
theorem mw_30 : Cond.selects RX7 yX7_readsLaw yX7_readsLaw ∈ wAll := wAll_at 30 (by decide +kernel) (by decide +kernel)
theorem mw_31 : Cond.selects RX7 yX7_next yX7_next ∈ wAll := wAll_at 31 (by decide +kernel) (by decide +kernel)
theorem mw_32 : Cond.selects RX7 yX7_isLetter yX7_isLetter ∈ wAll := wAll_at 32 (by decide +kernel) (by decide +kernel)
theorem mw_33 : Cond.selects RX7 yX7_fails yX7_fails ∈ wAll := wAll_at 33 (by decide +kernel) (by decide +kernel)
theorem mw_34 : Cond.selects RX7 yX7_number yX7_number ∈ wAll := wAll_at 34 (by decide +kernel) (by decide +kernel)
theorem mw_35 : Cond.selects RX7 yX7_sign yX7_sign ∈ wAll := wAll_at 35 (by decide +kernel) (by decide +kernel)
theorem mw_36 : Cond.selects RX7 yX7_readsOne yX7_readsOne ∈ wAll := wAll_at 36 (by decide +kernel) (by decide +kernel)
theorem mw_37 : Cond.selects RX7 yX7_readsHand yX7_readsHand ∈ wAll := wAll_at 37 (by decide +kernel) (by decide +kernel)
theorem mw_38 : Cond.selects RX7 yX7_readsCopy yX7_readsCopy ∈ wAll := wAll_at 38 (by decide +kernel) (by decide +kernel)
theorem mw_39 : Cond.selects RX7 yX7_readsDeed yX7_readsDeed ∈ wAll := wAll_at 39 (by decide +kernel) (by decide +kernel)
theorem mw_40 : Cond.selects RX7 yX7_isHand yX7_isHand ∈ wAll := wAll_at 40 (by decide +kernel) (by decide +kernel)
theorem mw_41 : Cond.selects RX7 yX7_remember yX7_remember ∈ wAll := wAll_at 41 (by decide +kernel) (by decide +kernel)
theorem mw_42 : Cond.selects RX7 yX7_isCopy yX7_isCopy ∈ wAll := wAll_at 42 (by decide +kernel) (by decide +kernel)
theorem mw_43 : Cond.selects RX7 yX7_copiesOf yX7_copiesOf ∈ wAll := wAll_at 43 (by decide +kernel) (by decide +kernel)
theorem mw_44 : Cond.selects RX7 yX7_isDeed yX7_isDeed ∈ wAll := wAll_at 44 (by decide +kernel) (by decide +kernel)
theorem mw_45 : Cond.selects RX7 yX7_areHands yX7_areHands ∈ wAll := wAll_at 45 (by decide +kernel) (by decide +kernel)
theorem mw_46 : Cond.selects RX7 yX7_fallsBy yX7_fallsBy ∈ wAll := wAll_at 46 (by decide +kernel) (by decide +kernel)
theorem mw_47 : Cond.selects RX7 yX7_layAside yX7_layAside ∈ wAll := wAll_at 47 (by decide +kernel) (by decide +kernel)
theorem mw_48 : Cond.selects RX7 yX7_lossBy yX7_lossBy ∈ wAll := wAll_at 48 (by decide +kernel) (by decide +kernel)
theorem mw_49 : Cond.selects RX7 yX7_isOrder yX7_isOrder ∈ wAll := wAll_at 49 (by decide +kernel) (by decide +kernel)
theorem mw_50 : Cond.selects RX7 yX7_handAt yX7_handAt ∈ wAll := wAll_at 50 (by decide +kernel) (by decide +kernel)
theorem mw_51 : Cond.selects RX7 yX7_canBe yX7_canBe ∈ wAll := wAll_at 51 (by decide +kernel) (by decide +kernel)
theorem mw_52 : Cond.selects RX7 yX7_mark yX7_mark ∈ wAll := wAll_at 52 (by decide +kernel) (by decide +kernel)
theorem mw_53 : Cond.selects RX7 yX7_blackOf yX7_blackOf ∈ wAll := wAll_at 53 (by decide +kernel) (by decide +kernel)
theorem mw_54 : Cond.selects RX7 yX7_leave yX7_leave ∈ wAll := wAll_at 54 (by decide +kernel) (by decide +kernel)
theorem mw_55 : Cond.selects RX7 yX7_sizeOf yX7_sizeOf ∈ wAll := wAll_at 55 (by decide +kernel) (by decide +kernel)
theorem mw_57 : Cond.initialized RX6 ∈ wAll := wAll_at 57 (by decide +kernel) (by decide +kernel)
theorem mw_58 : Cond.initialized RX5 ∈ wAll := wAll_at 58 (by decide +kernel) (by decide +kernel)
theorem mw_59 : Cond.initialized RX1 ∈ wAll := wAll_at 59 (by decide +kernel) (by decide +kernel)
theorem mw_60 : Cond.initialized RX4 ∈ wAll := wAll_at 60 (by decide +kernel) (by decide +kernel)
theorem mw_61 : Cond.initialized RX0 ∈ wAll := wAll_at 61 (by decide +kernel) (by decide +kernel)
theorem mw_62 : Cond.initialized RX3 ∈ wAll := wAll_at 62 (by decide +kernel) (by decide +kernel)
theorem mw_63 : Cond.initialized RX2 ∈ wAll := wAll_at 63 (by decide +kernel) (by decide +kernel)
theorem mw_64 : Cond.initialized RX7 ∈ wAll := wAll_at 64 (by decide +kernel) (by decide +kernel)
theorem mw_65 : Cond.initialized RJ7 ∈ wAll := wAll_at 65 (by decide +kernel) (by decide +kernel)
theorem mw_66 : Cond.initialized RJ10 ∈ wAll := wAll_at 66 (by decide +kernel) (by decide +kernel)
theorem mw_67 : Cond.initialized RJ9 ∈ wAll := wAll_at 67 (by decide +kernel) (by decide +kernel)
theorem mw_68 : Cond.initialized RJ6 ∈ wAll := wAll_at 68 (by decide +kernel) (by decide +kernel)
theorem mw_85 : Cond.fieldLink RX5 9 "InkTaken$Rows" "lanes" "[I" ∈ wAll := wAll_at 85 (by decide +kernel) (by decide +kernel)
theorem mw_86 : Cond.fieldLink RX6 88 "InkTaken$Rows" "lanes" "[I" ∈ wAll := wAll_at 86 (by decide +kernel) (by decide +kernel)
theorem mw_87 : Cond.fieldLink RX5 15 "InkTaken$Rows" "sizes" "[I" ∈ wAll := wAll_at 87 (by decide +kernel) (by decide +kernel)
theorem mw_88 : Cond.fieldLink RX6 102 "InkTaken$Rows" "sizes" "[I" ∈ wAll := wAll_at 88 (by decide +kernel) (by decide +kernel)
theorem mw_89 : Cond.fieldLink RX5 20 "InkTaken$Rows" "items" "[[I" ∈ wAll := wAll_at 89 (by decide +kernel) (by decide +kernel)
theorem mw_90 : Cond.fieldLink RX6 92 "InkTaken$Rows" "items" "[[I" ∈ wAll := wAll_at 90 (by decide +kernel) (by decide +kernel)
theorem mw_105 : Cond.fieldLink RX1 42 "InkTaken$Archive" "told" "Z" ∈ wAll := wAll_at 105 (by decide +kernel) (by decide +kernel)
theorem mw_106 : Cond.fieldLink RX6 183 "InkTaken$Archive" "told" "Z" ∈ wAll := wAll_at 106 (by decide +kernel) (by decide +kernel)
theorem mw_107 : Cond.fieldLink RX3 21 "InkTaken$Archive" "year" "I" ∈ wAll := wAll_at 107 (by decide +kernel) (by decide +kernel)
theorem mw_108 : Cond.fieldLink RX1 65 "InkTaken$Archive" "year" "I" ∈ wAll := wAll_at 108 (by decide +kernel) (by decide +kernel)
theorem mw_109 : Cond.fieldLink RX4 70 "InkTaken$Archive" "year" "I" ∈ wAll := wAll_at 109 (by decide +kernel) (by decide +kernel)
theorem mw_110 : Cond.fieldLink RX6 205 "InkTaken$Archive" "year" "I" ∈ wAll := wAll_at 110 (by decide +kernel) (by decide +kernel)
theorem mw_111 : Cond.fieldLink RX1 68 "InkTaken$Archive" "repent" "I" ∈ wAll := wAll_at 111 (by decide +kernel) (by decide +kernel)
theorem mw_112 : Cond.fieldLink RX4 73 "InkTaken$Archive" "repent" "I" ∈ wAll := wAll_at 112 (by decide +kernel) (by decide +kernel)
theorem mw_113 : Cond.fieldLink RX3 139 "InkTaken$Archive" "repent" "I" ∈ wAll := wAll_at 113 (by decide +kernel) (by decide +kernel)
theorem mw_114 : Cond.fieldLink RX1 46 "InkTaken$Archive" "day" "I" ∈ wAll := wAll_at 114 (by decide +kernel) (by decide +kernel)
theorem mw_115 : Cond.fieldLink RX0 33 "InkTaken$Archive" "day" "I" ∈ wAll := wAll_at 115 (by decide +kernel) (by decide +kernel)
theorem mw_116 : Cond.fieldLink RX3 61 "InkTaken$Archive" "day" "I" ∈ wAll := wAll_at 116 (by decide +kernel) (by decide +kernel)
theorem mw_117 : Cond.fieldLink RX6 187 "InkTaken$Archive" "day" "I" ∈ wAll := wAll_at 117 (by decide +kernel) (by decide +kernel)
theorem mw_118 : Cond.fieldLink RX1 50 "InkTaken$Archive" "spent" "I" ∈ wAll := wAll_at 118 (by decide +kernel) (by decide +kernel)
theorem mw_119 : Cond.fieldLink RX0 39 "InkTaken$Archive" "spent" "I" ∈ wAll := wAll_at 119 (by decide +kernel) (by decide +kernel)
theorem mw_120 : Cond.fieldLink RX6 161 "InkTaken$Archive" "spent" "I" ∈ wAll := wAll_at 120 (by decide +kernel) (by decide +kernel)
theorem mw_121 : Cond.fieldLink RX3 35 "InkTaken$Archive" "white" "I" ∈ wAll := wAll_at 121 (by decide +kernel) (by decide +kernel)
theorem mw_122 : Cond.fieldLink RX1 53 "InkTaken$Archive" "white" "I" ∈ wAll := wAll_at 122 (by decide +kernel) (by decide +kernel)
theorem mw_123 : Cond.fieldLink RX0 28 "InkTaken$Archive" "white" "I" ∈ wAll := wAll_at 123 (by decide +kernel) (by decide +kernel)
theorem mw_124 : Cond.fieldLink RX6 151 "InkTaken$Archive" "white" "I" ∈ wAll := wAll_at 124 (by decide +kernel) (by decide +kernel)
theorem mw_125 : Cond.fieldLink RX1 56 "InkTaken$Archive" "hands" "I" ∈ wAll := wAll_at 125 (by decide +kernel) (by decide +kernel)
theorem mw_126 : Cond.fieldLink RX3 51 "InkTaken$Archive" "hands" "I" ∈ wAll := wAll_at 126 (by decide +kernel) (by decide +kernel)
theorem mw_127 : Cond.fieldLink RX6 137 "InkTaken$Archive" "hands" "I" ∈ wAll := wAll_at 127 (by decide +kernel) (by decide +kernel)
theorem mw_128 : Cond.fieldLink RX4 83 "InkTaken$Archive" "hands" "I" ∈ wAll := wAll_at 128 (by decide +kernel) (by decide +kernel)
theorem mw_129 : Cond.fieldLink RX1 59 "InkTaken$Archive" "copies" "I" ∈ wAll := wAll_at 129 (by decide +kernel) (by decide +kernel)
theorem mw_130 : Cond.fieldLink RX0 36 "InkTaken$Archive" "copies" "I" ∈ wAll := wAll_at 130 (by decide +kernel) (by decide +kernel)
theorem mw_131 : Cond.fieldLink RX6 148 "InkTaken$Archive" "copies" "I" ∈ wAll := wAll_at 131 (by decide +kernel) (by decide +kernel)
theorem mw_132 : Cond.fieldLink RX4 93 "InkTaken$Archive" "copies" "I" ∈ wAll := wAll_at 132 (by decide +kernel) (by decide +kernel)
theorem mw_133 : Cond.fieldLink RX3 121 "InkTaken$Archive" "copies" "I" ∈ wAll := wAll_at 133 (by decide +kernel) (by decide +kernel)
theorem mw_134 : Cond.fieldLink RX1 62 "InkTaken$Archive" "deeds" "I" ∈ wAll := wAll_at 134 (by decide +kernel) (by decide +kernel)
theorem mw_135 : Cond.fieldLink RX3 42 "InkTaken$Archive" "deeds" "I" ∈ wAll := wAll_at 135 (by decide +kernel) (by decide +kernel)
theorem mw_136 : Cond.fieldLink RX4 103 "InkTaken$Archive" "deeds" "I" ∈ wAll := wAll_at 136 (by decide +kernel) (by decide +kernel)
theorem mw_137 : Cond.fieldLink RX6 316 "InkTaken$Archive" "deeds" "I" ∈ wAll := wAll_at 137 (by decide +kernel) (by decide +kernel)
theorem mw_138 : Cond.fieldLink RX1 9 "InkTaken$Archive" "kinds" "[I" ∈ wAll := wAll_at 138 (by decide +kernel) (by decide +kernel)
theorem mw_139 : Cond.fieldLink RX2 32 "InkTaken$Archive" "kinds" "[I" ∈ wAll := wAll_at 139 (by decide +kernel) (by decide +kernel)
theorem mw_140 : Cond.fieldLink RX6 297 "InkTaken$Archive" "kinds" "[I" ∈ wAll := wAll_at 140 (by decide +kernel) (by decide +kernel)
theorem mw_141 : Cond.fieldLink RX1 15 "InkTaken$Archive" "coins" "[I" ∈ wAll := wAll_at 141 (by decide +kernel) (by decide +kernel)
theorem mw_142 : Cond.fieldLink RX0 42 "InkTaken$Archive" "coins" "[I" ∈ wAll := wAll_at 142 (by decide +kernel) (by decide +kernel)
theorem mw_143 : Cond.fieldLink RX2 48 "InkTaken$Archive" "coins" "[I" ∈ wAll := wAll_at 143 (by decide +kernel) (by decide +kernel)
theorem mw_144 : Cond.fieldLink RX6 164 "InkTaken$Archive" "coins" "[I" ∈ wAll := wAll_at 144 (by decide +kernel) (by decide +kernel)
theorem mw_145 : Cond.fieldLink RX3 103 "InkTaken$Archive" "coins" "[I" ∈ wAll := wAll_at 145 (by decide +kernel) (by decide +kernel)
theorem mw_146 : Cond.fieldLink RX1 18 "InkTaken$Archive" "placeOf" "[I" ∈ wAll := wAll_at 146 (by decide +kernel) (by decide +kernel)
theorem mw_147 : Cond.fieldLink RX6 176 "InkTaken$Archive" "placeOf" "[I" ∈ wAll := wAll_at 147 (by decide +kernel) (by decide +kernel)
theorem mw_148 : Cond.fieldLink RX1 21 "InkTaken$Archive" "handOf" "[I" ∈ wAll := wAll_at 148 (by decide +kernel) (by decide +kernel)
theorem mw_149 : Cond.fieldLink RX0 45 "InkTaken$Archive" "handOf" "[I" ∈ wAll := wAll_at 149 (by decide +kernel) (by decide +kernel)
theorem mw_150 : Cond.fieldLink RX3 67 "InkTaken$Archive" "handOf" "[I" ∈ wAll := wAll_at 150 (by decide +kernel) (by decide +kernel)
theorem mw_151 : Cond.fieldLink RX6 196 "InkTaken$Archive" "handOf" "[I" ∈ wAll := wAll_at 151 (by decide +kernel) (by decide +kernel)
theorem mw_152 : Cond.fieldLink RX1 24 "InkTaken$Archive" "widthOf" "[I" ∈ wAll := wAll_at 152 (by decide +kernel) (by decide +kernel)
theorem mw_153 : Cond.fieldLink RX6 199 "InkTaken$Archive" "widthOf" "[I" ∈ wAll := wAll_at 153 (by decide +kernel) (by decide +kernel)
theorem mw_154 : Cond.fieldLink RX3 128 "InkTaken$Archive" "widthOf" "[I" ∈ wAll := wAll_at 154 (by decide +kernel) (by decide +kernel)
theorem mw_155 : Cond.fieldLink RX1 27 "InkTaken$Archive" "dayOf" "[I" ∈ wAll := wAll_at 155 (by decide +kernel) (by decide +kernel)
theorem mw_156 : Cond.fieldLink RX3 74 "InkTaken$Archive" "dayOf" "[I" ∈ wAll := wAll_at 156 (by decide +kernel) (by decide +kernel)
theorem mw_157 : Cond.fieldLink RX6 202 "InkTaken$Archive" "dayOf" "[I" ∈ wAll := wAll_at 157 (by decide +kernel) (by decide +kernel)
theorem mw_158 : Cond.fieldLink RX1 30 "InkTaken$Archive" "setOf" "[I" ∈ wAll := wAll_at 158 (by decide +kernel) (by decide +kernel)
theorem mw_159 : Cond.fieldLink RX6 217 "InkTaken$Archive" "setOf" "[I" ∈ wAll := wAll_at 159 (by decide +kernel) (by decide +kernel)
theorem mw_160 : Cond.fieldLink RX1 33 "InkTaken$Archive" "needsAll" "[I" ∈ wAll := wAll_at 160 (by decide +kernel) (by decide +kernel)
theorem mw_161 : Cond.fieldLink RX6 220 "InkTaken$Archive" "needsAll" "[I" ∈ wAll := wAll_at 161 (by decide +kernel) (by decide +kernel)
theorem mw_162 : Cond.fieldLink RX1 36 "InkTaken$Archive" "onOf" "[I" ∈ wAll := wAll_at 162 (by decide +kernel) (by decide +kernel)
theorem mw_163 : Cond.fieldLink RX6 223 "InkTaken$Archive" "onOf" "[I" ∈ wAll := wAll_at 163 (by decide +kernel) (by decide +kernel)
theorem mw_164 : Cond.fieldLink RX1 39 "InkTaken$Archive" "worthOf" "[I" ∈ wAll := wAll_at 164 (by decide +kernel) (by decide +kernel)
theorem mw_165 : Cond.fieldLink RX3 48 "InkTaken$Archive" "worthOf" "[I" ∈ wAll := wAll_at 165 (by decide +kernel) (by decide +kernel)
theorem mw_166 : Cond.fieldLink RX6 227 "InkTaken$Archive" "worthOf" "[I" ∈ wAll := wAll_at 166 (by decide +kernel) (by decide +kernel)
theorem mw_214 : Cond.fieldLink RX4 9 "InkTaken$Reader" "tape" "[I" ∈ wAll := wAll_at 214 (by decide +kernel) (by decide +kernel)
theorem mw_215 : Cond.fieldLink RX4 18 "InkTaken$Reader" "draft" "LInkTaken$Archive;" ∈ wAll := wAll_at 215 (by decide +kernel) (by decide +kernel)
theorem mw_216 : Cond.fieldLink RX6 127 "InkTaken$Reader" "draft" "LInkTaken$Archive;" ∈ wAll := wAll_at 216 (by decide +kernel) (by decide +kernel)
theorem mw_217 : Cond.fieldLink RX4 22 "InkTaken$Reader" "size" "I" ∈ wAll := wAll_at 217 (by decide +kernel) (by decide +kernel)
theorem mw_218 : Cond.fieldLink RX6 105 "InkTaken$Reader" "size" "I" ∈ wAll := wAll_at 218 (by decide +kernel) (by decide +kernel)
theorem mw_219 : Cond.fieldLink RX4 26 "InkTaken$Reader" "at" "I" ∈ wAll := wAll_at 219 (by decide +kernel) (by decide +kernel)
theorem mw_220 : Cond.fieldLink RX6 124 "InkTaken$Reader" "at" "I" ∈ wAll := wAll_at 220 (by decide +kernel) (by decide +kernel)
theorem mw_221 : Cond.fieldLink RX4 29 "InkTaken$Reader" "faultNumber" "I" ∈ wAll := wAll_at 221 (by decide +kernel) (by decide +kernel)
theorem mw_222 : Cond.fieldLink RX6 117 "InkTaken$Reader" "faultNumber" "I" ∈ wAll := wAll_at 222 (by decide +kernel) (by decide +kernel)
theorem mw_240 : Cond.fieldLink RX0 9 "InkTaken$Acts" "sorts" "[I" ∈ wAll := wAll_at 240 (by decide +kernel) (by decide +kernel)
theorem mw_241 : Cond.fieldLink RX0 15 "InkTaken$Acts" "whites" "[I" ∈ wAll := wAll_at 241 (by decide +kernel) (by decide +kernel)
theorem mw_242 : Cond.fieldLink RX0 18 "InkTaken$Acts" "size" "I" ∈ wAll := wAll_at 242 (by decide +kernel) (by decide +kernel)
theorem mw_243 : Cond.fieldLink RX6 140 "InkTaken$Acts" "size" "I" ∈ wAll := wAll_at 243 (by decide +kernel) (by decide +kernel)
theorem mw_257 : Cond.fieldLink RX3 9 "InkTaken$Foretold" "losses" "[I" ∈ wAll := wAll_at 257 (by decide +kernel) (by decide +kernel)
theorem mw_258 : Cond.fieldLink RX3 15 "InkTaken$Foretold" "ways" "[I" ∈ wAll := wAll_at 258 (by decide +kernel) (by decide +kernel)
theorem mw_259 : Cond.fieldLink RX3 18 "InkTaken$Foretold" "leastSets" "[I" ∈ wAll := wAll_at 259 (by decide +kernel) (by decide +kernel)
theorem mw_273 : Cond.fieldLink RX2 11 "InkTaken$Asks" "trace" "[I" ∈ wAll := wAll_at 273 (by decide +kernel) (by decide +kernel)
theorem mw_274 : Cond.fieldLink RX6 309 "InkTaken$Asks" "trace" "[I" ∈ wAll := wAll_at 274 (by decide +kernel) (by decide +kernel)
theorem mw_275 : Cond.fieldLink RX2 18 "InkTaken$Asks" "left" "I" ∈ wAll := wAll_at 275 (by decide +kernel) (by decide +kernel)
theorem mw_276 : Cond.fieldLink RX6 306 "InkTaken$Asks" "left" "I" ∈ wAll := wAll_at 276 (by decide +kernel) (by decide +kernel)
theorem mw_282 : Cond.fieldLink RX6 10 "InkTaken" "rows" "LInkTaken$Rows;" ∈ wAll := wAll_at 282 (by decide +kernel) (by decide +kernel)
theorem mw_283 : Cond.fieldLink RX6 19 "InkTaken" "now" "LInkTaken$Archive;" ∈ wAll := wAll_at 283 (by decide +kernel) (by decide +kernel)
theorem mw_284 : Cond.fieldLink RX6 23 "InkTaken" "firstImage" "LInkTaken$Archive;" ∈ wAll := wAll_at 284 (by decide +kernel) (by decide +kernel)
theorem mw_285 : Cond.fieldLink RX6 26 "InkTaken" "secondImage" "LInkTaken$Archive;" ∈ wAll := wAll_at 285 (by decide +kernel) (by decide +kernel)
theorem mw_286 : Cond.fieldLink RX6 32 "InkTaken" "reader" "LInkTaken$Reader;" ∈ wAll := wAll_at 286 (by decide +kernel) (by decide +kernel)
theorem mw_287 : Cond.fieldLink RX6 39 "InkTaken" "acts" "LInkTaken$Acts;" ∈ wAll := wAll_at 287 (by decide +kernel) (by decide +kernel)
theorem mw_288 : Cond.fieldLink RX6 46 "InkTaken" "foretold" "LInkTaken$Foretold;" ∈ wAll := wAll_at 288 (by decide +kernel) (by decide +kernel)
theorem mw_289 : Cond.fieldLink RX6 53 "InkTaken" "asks" "LInkTaken$Asks;" ∈ wAll := wAll_at 289 (by decide +kernel) (by decide +kernel)
theorem mw_290 : Cond.fieldLink RX6 120 "InkTaken" "latestFault" "I" ∈ wAll := wAll_at 290 (by decide +kernel) (by decide +kernel)
theorem mw_291 : Cond.fieldLink RX6 324 "InkTaken" "latestFinding" "I" ∈ wAll := wAll_at 291 (by decide +kernel) (by decide +kernel)
theorem mw_317 : Cond.methodLink RX6 57 yX6_isRow ∈ wAll := wAll_at 317 (by decide +kernel) (by decide +kernel)
theorem mw_318 : Cond.static yX6_isRow ∈ wAll := wAll_at 318 (by decide +kernel) (by decide +kernel)
set_option maxRecDepth 100000 in
theorem mw_319 : Cond.code yX6_isRow cX6_isRow 1 (some .boolean) ∈ wAll := wAll_at 319 rfl (by decide +kernel)
theorem mw_320 : Cond.methodLink RX6 61 yX6_isBelow ∈ wAll := wAll_at 320 (by decide +kernel) (by decide +kernel)
theorem mw_321 : Cond.static yX6_isBelow ∈ wAll := wAll_at 321 (by decide +kernel) (by decide +kernel)
set_option maxRecDepth 100000 in
theorem mw_322 : Cond.code yX6_isBelow cX6_isBelow 2 (some .boolean) ∈ wAll := wAll_at 322 rfl (by decide +kernel)
theorem mw_323 : Cond.constant RX6 65 (-1000001) ∈ wAll := wAll_at 323 (by decide +kernel) (by decide +kernel)
theorem mw_324 : Cond.methodLink RX6 66 yX6_found ∈ wAll := wAll_at 324 (by decide +kernel) (by decide +kernel)
theorem mw_326 : Cond.instanceMethod yX6_found ∈ wAll := wAll_at 326 (by decide +kernel) (by decide +kernel)
set_option maxRecDepth 100000 in
theorem mw_327 : Cond.code yX6_found cX6_found 2 (some .int) ∈ wAll := wAll_at 327 rfl (by decide +kernel)
theorem mw_328 : Cond.constant RX6 327 (-1000010) ∈ wAll := wAll_at 328 (by decide +kernel) (by decide +kernel)
theorem mw_329 : Cond.methodLink RX6 70 yX5_lay ∈ wAll := wAll_at 329 (by decide +kernel) (by decide +kernel)
theorem mw_330 : Cond.instanceMethod yX5_lay ∈ wAll := wAll_at 330 (by decide +kernel) (by decide +kernel)
theorem mw_331 : Cond.selects RX5 yX5_lay yX5_lay ∈ wAll := wAll_at 331 (by decide +kernel) (by decide +kernel)
set_option maxRecDepth 100000 in
theorem mw_332 : Cond.code yX5_lay cX5_lay 4 none ∈ wAll := wAll_at 332 rfl (by decide +kernel)
theorem mw_333 : Cond.methodLink RX5 23 yJ7_fill_53178 ∈ wAll := wAll_at 333 (by decide +kernel) (by decide +kernel)
theorem mw_334 : Cond.static yJ7_fill_53178 ∈ wAll := wAll_at 334 (by decide +kernel) (by decide +kernel)
set_option maxRecDepth 100000 in
theorem mw_335 : Cond.code yJ7_fill_53178 cJ7_fill_53178 4 none ∈ wAll := wAll_at 335 rfl (by decide +kernel)
theorem mw_336 : Cond.methodLink RX6 74 yX6_unfound ∈ wAll := wAll_at 336 (by decide +kernel) (by decide +kernel)
theorem mw_338 : Cond.instanceMethod yX6_unfound ∈ wAll := wAll_at 338 (by decide +kernel) (by decide +kernel)
set_option maxRecDepth 100000 in
theorem mw_339 : Cond.code yX6_unfound cX6_unfound 2 (some .int) ∈ wAll := wAll_at 339 rfl (by decide +kernel)
theorem mw_344 : Cond.methodLink RX6 77 yX5_isMissing ∈ wAll := wAll_at 344 (by decide +kernel) (by decide +kernel)
theorem mw_345 : Cond.instanceMethod yX5_isMissing ∈ wAll := wAll_at 345 (by decide +kernel) (by decide +kernel)
theorem mw_346 : Cond.selects RX5 yX5_isMissing yX5_isMissing ∈ wAll := wAll_at 346 (by decide +kernel) (by decide +kernel)
set_option maxRecDepth 100000 in
theorem mw_347 : Cond.code yX5_isMissing cX5_isMissing 2 (some .boolean) ∈ wAll := wAll_at 347 rfl (by decide +kernel)
theorem mw_348 : Cond.methodLink RX6 80 yX5_hasPlaces ∈ wAll := wAll_at 348 (by decide +kernel) (by decide +kernel)
theorem mw_349 : Cond.instanceMethod yX5_hasPlaces ∈ wAll := wAll_at 349 (by decide +kernel) (by decide +kernel)
theorem mw_350 : Cond.selects RX5 yX5_hasPlaces yX5_hasPlaces ∈ wAll := wAll_at 350 (by decide +kernel) (by decide +kernel)
set_option maxRecDepth 100000 in
theorem mw_351 : Cond.code yX5_hasPlaces cX5_hasPlaces 4 (some .boolean) ∈ wAll := wAll_at 351 rfl (by decide +kernel)
theorem mw_352 : Cond.methodLink RX6 84 yX5_put ∈ wAll := wAll_at 352 (by decide +kernel) (by decide +kernel)
theorem mw_353 : Cond.instanceMethod yX5_put ∈ wAll := wAll_at 353 (by decide +kernel) (by decide +kernel)
theorem mw_354 : Cond.selects RX5 yX5_put yX5_put ∈ wAll := wAll_at 354 (by decide +kernel) (by decide +kernel)
set_option maxRecDepth 100000 in
theorem mw_355 : Cond.code yX5_put cX5_put 4 (some .int) ∈ wAll := wAll_at 355 rfl (by decide +kernel)
theorem mw_360 : Cond.methodLink RX6 96 arraycopyName ∈ wAll := wAll_at 360 (by decide +kernel) (by decide +kernel)
theorem mw_361 : Cond.static arraycopyName ∈ wAll := wAll_at 361 (by decide +kernel) (by decide +kernel)
theorem mw_362 : Cond.native arraycopyName ∈ wAll := wAll_at 362 (by decide +kernel) (by decide +kernel)
theorem mw_371 : Cond.constant RX6 109 (-1000003) ∈ wAll := wAll_at 371 (by decide +kernel) (by decide +kernel)
theorem mw_372 : Cond.methodLink RX6 110 yX4_append ∈ wAll := wAll_at 372 (by decide +kernel) (by decide +kernel)
theorem mw_373 : Cond.instanceMethod yX4_append ∈ wAll := wAll_at 373 (by decide +kernel) (by decide +kernel)
theorem mw_374 : Cond.selects RX4 yX4_append yX4_append ∈ wAll := wAll_at 374 (by decide +kernel) (by decide +kernel)
set_option maxRecDepth 100000 in
theorem mw_375 : Cond.code yX4_append cX4_append 2 (some .int) ∈ wAll := wAll_at 375 rfl (by decide +kernel)
theorem mw_380 : Cond.methodLink RX6 113 yX4_readTape ∈ wAll := wAll_at 380 (by decide +kernel) (by decide +kernel)
theorem mw_381 : Cond.instanceMethod yX4_readTape ∈ wAll := wAll_at 381 (by decide +kernel) (by decide +kernel)
theorem mw_382 : Cond.selects RX4 yX4_readTape yX4_readTape ∈ wAll := wAll_at 382 (by decide +kernel) (by decide +kernel)
set_option maxRecDepth 100000 in
theorem mw_383 : Cond.code yX4_readTape cX4_readTape 1 (some .boolean) ∈ wAll := wAll_at 383 rfl (by decide +kernel)
theorem mw_384 : Cond.methodLink RX4 32 yX1_begin ∈ wAll := wAll_at 384 (by decide +kernel) (by decide +kernel)
theorem mw_385 : Cond.instanceMethod yX1_begin ∈ wAll := wAll_at 385 (by decide +kernel) (by decide +kernel)
theorem mw_386 : Cond.selects RX1 yX1_begin yX1_begin ∈ wAll := wAll_at 386 (by decide +kernel) (by decide +kernel)
set_option maxRecDepth 100000 in
theorem mw_387 : Cond.code yX1_begin cX1_begin 1 none ∈ wAll := wAll_at 387 rfl (by decide +kernel)
theorem mw_388 : Cond.methodLink RX4 35 yX4_readLaw ∈ wAll := wAll_at 388 (by decide +kernel) (by decide +kernel)
theorem mw_390 : Cond.instanceMethod yX4_readLaw ∈ wAll := wAll_at 390 (by decide +kernel) (by decide +kernel)
set_option maxRecDepth 100000 in
theorem mw_391 : Cond.code yX4_readLaw cX4_readLaw 1 (some .boolean) ∈ wAll := wAll_at 391 rfl (by decide +kernel)
theorem mw_392 : Cond.methodLink RX4 63 yX4_readSign ∈ wAll := wAll_at 392 (by decide +kernel) (by decide +kernel)
theorem mw_394 : Cond.instanceMethod yX4_readSign ∈ wAll := wAll_at 394 (by decide +kernel) (by decide +kernel)
set_option maxRecDepth 100000 in
theorem mw_395 : Cond.code yX4_readSign cX4_readSign 2 (some .boolean) ∈ wAll := wAll_at 395 rfl (by decide +kernel)
theorem mw_396 : Cond.methodLink RX4 52 yX4_next ∈ wAll := wAll_at 396 (by decide +kernel) (by decide +kernel)
theorem mw_398 : Cond.instanceMethod yX4_next ∈ wAll := wAll_at 398 (by decide +kernel) (by decide +kernel)
set_option maxRecDepth 100000 in
theorem mw_399 : Cond.code yX4_next cX4_next 1 (some .int) ∈ wAll := wAll_at 399 rfl (by decide +kernel)
theorem mw_400 : Cond.methodLink RX4 48 yX4_fail ∈ wAll := wAll_at 400 (by decide +kernel) (by decide +kernel)
theorem mw_402 : Cond.instanceMethod yX4_fail ∈ wAll := wAll_at 402 (by decide +kernel) (by decide +kernel)
set_option maxRecDepth 100000 in
theorem mw_403 : Cond.code yX4_fail cX4_fail 2 (some .boolean) ∈ wAll := wAll_at 403 rfl (by decide +kernel)
theorem mw_404 : Cond.methodLink RX4 66 yX4_readNumberAndSign ∈ wAll := wAll_at 404 (by decide +kernel) (by decide +kernel)
theorem mw_406 : Cond.instanceMethod yX4_readNumberAndSign ∈ wAll := wAll_at 406 (by decide +kernel) (by decide +kernel)
set_option maxRecDepth 100000 in
theorem mw_407 : Cond.code yX4_readNumberAndSign cX4_readNumberAndSign 5 (some .int) ∈ wAll := wAll_at 407 rfl (by decide +kernel)
theorem mw_408 : Cond.methodLink RX4 59 yX4_readNumber ∈ wAll := wAll_at 408 (by decide +kernel) (by decide +kernel)
theorem mw_410 : Cond.instanceMethod yX4_readNumber ∈ wAll := wAll_at 410 (by decide +kernel) (by decide +kernel)
set_option maxRecDepth 100000 in
theorem mw_411 : Cond.code yX4_readNumber cX4_readNumber 5 (some .int) ∈ wAll := wAll_at 411 rfl (by decide +kernel)
theorem mw_412 : Cond.methodLink RX4 56 yX4_isFigure ∈ wAll := wAll_at 412 (by decide +kernel) (by decide +kernel)
theorem mw_414 : Cond.instanceMethod yX4_isFigure ∈ wAll := wAll_at 414 (by decide +kernel) (by decide +kernel)
set_option maxRecDepth 100000 in
theorem mw_415 : Cond.code yX4_isFigure cX4_isFigure 2 (some .boolean) ∈ wAll := wAll_at 415 rfl (by decide +kernel)
theorem mw_416 : Cond.methodLink RX4 39 yX4_readHands ∈ wAll := wAll_at 416 (by decide +kernel) (by decide +kernel)
theorem mw_418 : Cond.instanceMethod yX4_readHands ∈ wAll := wAll_at 418 (by decide +kernel) (by decide +kernel)
set_option maxRecDepth 100000 in
theorem mw_419 : Cond.code yX4_readHands cX4_readHands 2 (some .boolean) ∈ wAll := wAll_at 419 rfl (by decide +kernel)
theorem mw_420 : Cond.methodLink RX4 76 yX4_kindOfSort ∈ wAll := wAll_at 420 (by decide +kernel) (by decide +kernel)
theorem mw_421 : Cond.static yX4_kindOfSort ∈ wAll := wAll_at 421 (by decide +kernel) (by decide +kernel)
set_option maxRecDepth 100000 in
theorem mw_422 : Cond.code yX4_kindOfSort cX4_kindOfSort 1 (some .int) ∈ wAll := wAll_at 422 rfl (by decide +kernel)
theorem mw_423 : Cond.methodLink RX4 80 yX4_readHand ∈ wAll := wAll_at 423 (by decide +kernel) (by decide +kernel)
theorem mw_425 : Cond.instanceMethod yX4_readHand ∈ wAll := wAll_at 425 (by decide +kernel) (by decide +kernel)
set_option maxRecDepth 100000 in
theorem mw_426 : Cond.code yX4_readHand cX4_readHand 3 (some .boolean) ∈ wAll := wAll_at 426 rfl (by decide +kernel)
theorem mw_427 : Cond.methodLink RX4 86 yX1_addHand ∈ wAll := wAll_at 427 (by decide +kernel) (by decide +kernel)
theorem mw_428 : Cond.instanceMethod yX1_addHand ∈ wAll := wAll_at 428 (by decide +kernel) (by decide +kernel)
theorem mw_429 : Cond.selects RX1 yX1_addHand yX1_addHand ∈ wAll := wAll_at 429 (by decide +kernel) (by decide +kernel)
set_option maxRecDepth 100000 in
theorem mw_430 : Cond.code yX1_addHand cX1_addHand 3 none ∈ wAll := wAll_at 430 rfl (by decide +kernel)
theorem mw_431 : Cond.methodLink RX4 42 yX4_readCopies ∈ wAll := wAll_at 431 (by decide +kernel) (by decide +kernel)
theorem mw_433 : Cond.instanceMethod yX4_readCopies ∈ wAll := wAll_at 433 (by decide +kernel) (by decide +kernel)
set_option maxRecDepth 100000 in
theorem mw_434 : Cond.code yX4_readCopies cX4_readCopies 2 (some .boolean) ∈ wAll := wAll_at 434 rfl (by decide +kernel)
theorem mw_435 : Cond.methodLink RX4 90 yX4_readCopy ∈ wAll := wAll_at 435 (by decide +kernel) (by decide +kernel)
theorem mw_437 : Cond.instanceMethod yX4_readCopy ∈ wAll := wAll_at 437 (by decide +kernel) (by decide +kernel)
set_option maxRecDepth 100000 in
theorem mw_438 : Cond.code yX4_readCopy cX4_readCopy 4 (some .boolean) ∈ wAll := wAll_at 438 rfl (by decide +kernel)
theorem mw_439 : Cond.methodLink RX4 96 yX1_addCopy ∈ wAll := wAll_at 439 (by decide +kernel) (by decide +kernel)
theorem mw_440 : Cond.instanceMethod yX1_addCopy ∈ wAll := wAll_at 440 (by decide +kernel) (by decide +kernel)
theorem mw_441 : Cond.selects RX1 yX1_addCopy yX1_addCopy ∈ wAll := wAll_at 441 (by decide +kernel) (by decide +kernel)
set_option maxRecDepth 100000 in
theorem mw_442 : Cond.code yX1_addCopy cX1_addCopy 4 none ∈ wAll := wAll_at 442 rfl (by decide +kernel)
theorem mw_443 : Cond.methodLink RX4 45 yX4_readDeeds ∈ wAll := wAll_at 443 (by decide +kernel) (by decide +kernel)
theorem mw_445 : Cond.instanceMethod yX4_readDeeds ∈ wAll := wAll_at 445 (by decide +kernel) (by decide +kernel)
set_option maxRecDepth 100000 in
theorem mw_446 : Cond.code yX4_readDeeds cX4_readDeeds 2 (some .boolean) ∈ wAll := wAll_at 446 rfl (by decide +kernel)
theorem mw_447 : Cond.methodLink RX4 100 yX4_readDeed ∈ wAll := wAll_at 447 (by decide +kernel) (by decide +kernel)
theorem mw_449 : Cond.instanceMethod yX4_readDeed ∈ wAll := wAll_at 449 (by decide +kernel) (by decide +kernel)
set_option maxRecDepth 100000 in
theorem mw_450 : Cond.code yX4_readDeed cX4_readDeed 5 (some .boolean) ∈ wAll := wAll_at 450 rfl (by decide +kernel)
theorem mw_451 : Cond.methodLink RX4 106 yX1_addDeed ∈ wAll := wAll_at 451 (by decide +kernel) (by decide +kernel)
theorem mw_452 : Cond.instanceMethod yX1_addDeed ∈ wAll := wAll_at 452 (by decide +kernel) (by decide +kernel)
theorem mw_453 : Cond.selects RX1 yX1_addDeed yX1_addDeed ∈ wAll := wAll_at 453 (by decide +kernel) (by decide +kernel)
set_option maxRecDepth 100000 in
theorem mw_454 : Cond.code yX1_addDeed cX1_addDeed 5 none ∈ wAll := wAll_at 454 rfl (by decide +kernel)
theorem mw_455 : Cond.constant RX6 123 (-1000100) ∈ wAll := wAll_at 455 (by decide +kernel) (by decide +kernel)
theorem mw_456 : Cond.methodLink RX6 130 yX1_become ∈ wAll := wAll_at 456 (by decide +kernel) (by decide +kernel)
theorem mw_457 : Cond.instanceMethod yX1_become ∈ wAll := wAll_at 457 (by decide +kernel) (by decide +kernel)
theorem mw_458 : Cond.selects RX1 yX1_become yX1_become ∈ wAll := wAll_at 458 (by decide +kernel) (by decide +kernel)
set_option maxRecDepth 100000 in
theorem mw_459 : Cond.code yX1_become cX1_become 2 none ∈ wAll := wAll_at 459 rfl (by decide +kernel)
theorem mw_460 : Cond.methodLink RX1 71 arraycopyName ∈ wAll := wAll_at 460 (by decide +kernel) (by decide +kernel)
theorem mw_461 : Cond.methodLink RX6 134 yX0_forget ∈ wAll := wAll_at 461 (by decide +kernel) (by decide +kernel)
theorem mw_462 : Cond.instanceMethod yX0_forget ∈ wAll := wAll_at 462 (by decide +kernel) (by decide +kernel)
theorem mw_463 : Cond.selects RX0 yX0_forget yX0_forget ∈ wAll := wAll_at 463 (by decide +kernel) (by decide +kernel)
set_option maxRecDepth 100000 in
theorem mw_464 : Cond.code yX0_forget cX0_forget 1 none ∈ wAll := wAll_at 464 rfl (by decide +kernel)
theorem mw_473 : Cond.constant RX6 141 (-1000002) ∈ wAll := wAll_at 473 (by decide +kernel) (by decide +kernel)
theorem mw_474 : Cond.methodLink RX6 142 yX0_undoLatest ∈ wAll := wAll_at 474 (by decide +kernel) (by decide +kernel)
theorem mw_475 : Cond.instanceMethod yX0_undoLatest ∈ wAll := wAll_at 475 (by decide +kernel) (by decide +kernel)
theorem mw_476 : Cond.selects RX0 yX0_undoLatest yX0_undoLatest ∈ wAll := wAll_at 476 (by decide +kernel) (by decide +kernel)
set_option maxRecDepth 100000 in
theorem mw_477 : Cond.code yX0_undoLatest cX0_undoLatest 2 none ∈ wAll := wAll_at 477 rfl (by decide +kernel)
theorem mw_482 : Cond.methodLink RX6 145 yX6_isHand ∈ wAll := wAll_at 482 (by decide +kernel) (by decide +kernel)
theorem mw_484 : Cond.instanceMethod yX6_isHand ∈ wAll := wAll_at 484 (by decide +kernel) (by decide +kernel)
set_option maxRecDepth 100000 in
theorem mw_485 : Cond.code yX6_isHand cX6_isHand 2 (some .boolean) ∈ wAll := wAll_at 485 rfl (by decide +kernel)
theorem mw_486 : Cond.methodLink RX6 154 yX0_keep ∈ wAll := wAll_at 486 (by decide +kernel) (by decide +kernel)
theorem mw_487 : Cond.instanceMethod yX0_keep ∈ wAll := wAll_at 487 (by decide +kernel) (by decide +kernel)
theorem mw_488 : Cond.selects RX0 yX0_keep yX0_keep ∈ wAll := wAll_at 488 (by decide +kernel) (by decide +kernel)
set_option maxRecDepth 100000 in
theorem mw_489 : Cond.code yX0_keep cX0_keep 3 none ∈ wAll := wAll_at 489 rfl (by decide +kernel)
theorem mw_490 : Cond.methodLink RX0 22 arraycopyName ∈ wAll := wAll_at 490 (by decide +kernel) (by decide +kernel)
theorem mw_491 : Cond.methodLink RX6 158 yX1_addCopy ∈ wAll := wAll_at 491 (by decide +kernel) (by decide +kernel)
theorem mw_496 : Cond.methodLink RX6 167 yX6_isCopy ∈ wAll := wAll_at 496 (by decide +kernel) (by decide +kernel)
theorem mw_498 : Cond.instanceMethod yX6_isCopy ∈ wAll := wAll_at 498 (by decide +kernel) (by decide +kernel)
set_option maxRecDepth 100000 in
theorem mw_499 : Cond.code yX6_isCopy cX6_isCopy 2 (some .boolean) ∈ wAll := wAll_at 499 rfl (by decide +kernel)
theorem mw_500 : Cond.methodLink RX6 170 yX1_mayRecallNow ∈ wAll := wAll_at 500 (by decide +kernel) (by decide +kernel)
theorem mw_501 : Cond.instanceMethod yX1_mayRecallNow ∈ wAll := wAll_at 501 (by decide +kernel) (by decide +kernel)
theorem mw_502 : Cond.selects RX1 yX1_mayRecallNow yX1_mayRecallNow ∈ wAll := wAll_at 502 (by decide +kernel) (by decide +kernel)
set_option maxRecDepth 100000 in
theorem mw_503 : Cond.code yX1_mayRecallNow cX1_mayRecallNow 2 (some .boolean) ∈ wAll := wAll_at 503 rfl (by decide +kernel)
theorem mw_504 : Cond.methodLink RX1 88 yX1_mayRecall ∈ wAll := wAll_at 504 (by decide +kernel) (by decide +kernel)
theorem mw_505 : Cond.instanceMethod yX1_mayRecall ∈ wAll := wAll_at 505 (by decide +kernel) (by decide +kernel)
theorem mw_506 : Cond.selects RX1 yX1_mayRecall yX1_mayRecall ∈ wAll := wAll_at 506 (by decide +kernel) (by decide +kernel)
set_option maxRecDepth 100000 in
theorem mw_507 : Cond.code yX1_mayRecall cX1_mayRecall 4 (some .boolean) ∈ wAll := wAll_at 507 rfl (by decide +kernel)
theorem mw_509 : Cond.static yX6_bitOf ∈ wAll := wAll_at 509 (by decide +kernel) (by decide +kernel)
set_option maxRecDepth 100000 in
theorem mw_510 : Cond.code yX6_bitOf cX6_bitOf 2 (some .int) ∈ wAll := wAll_at 510 rfl (by decide +kernel)
theorem mw_511 : Cond.methodLink RX1 84 yX1_isInLimit ∈ wAll := wAll_at 511 (by decide +kernel) (by decide +kernel)
theorem mw_512 : Cond.instanceMethod yX1_isInLimit ∈ wAll := wAll_at 512 (by decide +kernel) (by decide +kernel)
theorem mw_513 : Cond.selects RX1 yX1_isInLimit yX1_isInLimit ∈ wAll := wAll_at 513 (by decide +kernel) (by decide +kernel)
set_option maxRecDepth 100000 in
theorem mw_514 : Cond.code yX1_isInLimit cX1_isInLimit 3 (some .boolean) ∈ wAll := wAll_at 514 rfl (by decide +kernel)
theorem mw_515 : Cond.methodLink RX1 77 yX1_limitOf ∈ wAll := wAll_at 515 (by decide +kernel) (by decide +kernel)
theorem mw_516 : Cond.instanceMethod yX1_limitOf ∈ wAll := wAll_at 516 (by decide +kernel) (by decide +kernel)
theorem mw_517 : Cond.selects RX1 yX1_limitOf yX1_limitOf ∈ wAll := wAll_at 517 (by decide +kernel) (by decide +kernel)
set_option maxRecDepth 100000 in
theorem mw_518 : Cond.code yX1_limitOf cX1_limitOf 3 (some .int) ∈ wAll := wAll_at 518 rfl (by decide +kernel)
theorem mw_519 : Cond.methodLink RX6 173 yX1_blackBy ∈ wAll := wAll_at 519 (by decide +kernel) (by decide +kernel)
theorem mw_520 : Cond.instanceMethod yX1_blackBy ∈ wAll := wAll_at 520 (by decide +kernel) (by decide +kernel)
theorem mw_521 : Cond.selects RX1 yX1_blackBy yX1_blackBy ∈ wAll := wAll_at 521 (by decide +kernel) (by decide +kernel)
set_option maxRecDepth 100000 in
theorem mw_522 : Cond.code yX1_blackBy cX1_blackBy 4 (some .int) ∈ wAll := wAll_at 522 rfl (by decide +kernel)
theorem mw_523 : Cond.methodLink RX6 179 yX6_bitOf ∈ wAll := wAll_at 523 (by decide +kernel) (by decide +kernel)
theorem mw_528 : Cond.methodLink RX6 190 yX1_passDay ∈ wAll := wAll_at 528 (by decide +kernel) (by decide +kernel)
theorem mw_529 : Cond.instanceMethod yX1_passDay ∈ wAll := wAll_at 529 (by decide +kernel) (by decide +kernel)
theorem mw_530 : Cond.selects RX1 yX1_passDay yX1_passDay ∈ wAll := wAll_at 530 (by decide +kernel) (by decide +kernel)
set_option maxRecDepth 100000 in
theorem mw_531 : Cond.code yX1_passDay cX1_passDay 1 none ∈ wAll := wAll_at 531 rfl (by decide +kernel)
theorem mw_532 : Cond.methodLink RX1 114 yX1_whiteOn ∈ wAll := wAll_at 532 (by decide +kernel) (by decide +kernel)
theorem mw_533 : Cond.instanceMethod yX1_whiteOn ∈ wAll := wAll_at 533 (by decide +kernel) (by decide +kernel)
theorem mw_534 : Cond.selects RX1 yX1_whiteOn yX1_whiteOn ∈ wAll := wAll_at 534 (by decide +kernel) (by decide +kernel)
set_option maxRecDepth 100000 in
theorem mw_535 : Cond.code yX1_whiteOn cX1_whiteOn 5 (some .int) ∈ wAll := wAll_at 535 rfl (by decide +kernel)
theorem mw_536 : Cond.methodLink RX1 110 yX1_isDrunk ∈ wAll := wAll_at 536 (by decide +kernel) (by decide +kernel)
theorem mw_537 : Cond.instanceMethod yX1_isDrunk ∈ wAll := wAll_at 537 (by decide +kernel) (by decide +kernel)
theorem mw_538 : Cond.selects RX1 yX1_isDrunk yX1_isDrunk ∈ wAll := wAll_at 538 (by decide +kernel) (by decide +kernel)
set_option maxRecDepth 100000 in
theorem mw_539 : Cond.code yX1_isDrunk cX1_isDrunk 2 (some .boolean) ∈ wAll := wAll_at 539 rfl (by decide +kernel)
theorem mw_540 : Cond.methodLink RX6 193 yX1_standingBy ∈ wAll := wAll_at 540 (by decide +kernel) (by decide +kernel)
theorem mw_541 : Cond.instanceMethod yX1_standingBy ∈ wAll := wAll_at 541 (by decide +kernel) (by decide +kernel)
theorem mw_542 : Cond.selects RX1 yX1_standingBy yX1_standingBy ∈ wAll := wAll_at 542 (by decide +kernel) (by decide +kernel)
set_option maxRecDepth 100000 in
theorem mw_543 : Cond.code yX1_standingBy cX1_standingBy 2 (some .int) ∈ wAll := wAll_at 543 rfl (by decide +kernel)
theorem mw_544 : Cond.methodLink RX1 104 yX1_blackBy ∈ wAll := wAll_at 544 (by decide +kernel) (by decide +kernel)
theorem mw_545 : Cond.methodLink RX1 107 yX1_standingOn ∈ wAll := wAll_at 545 (by decide +kernel) (by decide +kernel)
theorem mw_546 : Cond.instanceMethod yX1_standingOn ∈ wAll := wAll_at 546 (by decide +kernel) (by decide +kernel)
theorem mw_547 : Cond.selects RX1 yX1_standingOn yX1_standingOn ∈ wAll := wAll_at 547 (by decide +kernel) (by decide +kernel)
set_option maxRecDepth 100000 in
theorem mw_548 : Cond.code yX1_standingOn cX1_standingOn 6 (some .int) ∈ wAll := wAll_at 548 rfl (by decide +kernel)
theorem mw_557 : Cond.methodLink RX6 208 yX1_limitOf ∈ wAll := wAll_at 557 (by decide +kernel) (by decide +kernel)
theorem mw_558 : Cond.methodLink RX6 211 yX1_copiesBy ∈ wAll := wAll_at 558 (by decide +kernel) (by decide +kernel)
theorem mw_559 : Cond.instanceMethod yX1_copiesBy ∈ wAll := wAll_at 559 (by decide +kernel) (by decide +kernel)
theorem mw_560 : Cond.selects RX1 yX1_copiesBy yX1_copiesBy ∈ wAll := wAll_at 560 (by decide +kernel) (by decide +kernel)
set_option maxRecDepth 100000 in
theorem mw_561 : Cond.code yX1_copiesBy cX1_copiesBy 4 (some .int) ∈ wAll := wAll_at 561 rfl (by decide +kernel)
theorem mw_566 : Cond.methodLink RX6 214 yX6_isDeed ∈ wAll := wAll_at 566 (by decide +kernel) (by decide +kernel)
theorem mw_568 : Cond.instanceMethod yX6_isDeed ∈ wAll := wAll_at 568 (by decide +kernel) (by decide +kernel)
set_option maxRecDepth 100000 in
theorem mw_569 : Cond.code yX6_isDeed cX6_isDeed 2 (some .boolean) ∈ wAll := wAll_at 569 rfl (by decide +kernel)
theorem mw_570 : Cond.constant RX6 226 (-1000000) ∈ wAll := wAll_at 570 (by decide +kernel) (by decide +kernel)
theorem mw_575 : Cond.methodLink RX6 230 yX1_copiesAt ∈ wAll := wAll_at 575 (by decide +kernel) (by decide +kernel)
theorem mw_576 : Cond.instanceMethod yX1_copiesAt ∈ wAll := wAll_at 576 (by decide +kernel) (by decide +kernel)
theorem mw_577 : Cond.selects RX1 yX1_copiesAt yX1_copiesAt ∈ wAll := wAll_at 577 (by decide +kernel) (by decide +kernel)
set_option maxRecDepth 100000 in
theorem mw_578 : Cond.code yX1_copiesAt cX1_copiesAt 4 (some .int) ∈ wAll := wAll_at 578 rfl (by decide +kernel)
theorem mw_583 : Cond.methodLink RX6 233 yX6_isHandSet ∈ wAll := wAll_at 583 (by decide +kernel) (by decide +kernel)
theorem mw_585 : Cond.instanceMethod yX6_isHandSet ∈ wAll := wAll_at 585 (by decide +kernel) (by decide +kernel)
set_option maxRecDepth 100000 in
theorem mw_586 : Cond.code yX6_isHandSet cX6_isHandSet 2 (some .boolean) ∈ wAll := wAll_at 586 rfl (by decide +kernel)
theorem mw_587 : Cond.methodLink RX6 236 yX3_fallenBy ∈ wAll := wAll_at 587 (by decide +kernel) (by decide +kernel)
theorem mw_588 : Cond.instanceMethod yX3_fallenBy ∈ wAll := wAll_at 588 (by decide +kernel) (by decide +kernel)
theorem mw_589 : Cond.selects RX3 yX3_fallenBy yX3_fallenBy ∈ wAll := wAll_at 589 (by decide +kernel) (by decide +kernel)
set_option maxRecDepth 100000 in
theorem mw_590 : Cond.code yX3_fallenBy cX3_fallenBy 4 (some .int) ∈ wAll := wAll_at 590 rfl (by decide +kernel)
theorem mw_591 : Cond.methodLink RX3 27 yX1_whiteAfter ∈ wAll := wAll_at 591 (by decide +kernel) (by decide +kernel)
theorem mw_592 : Cond.instanceMethod yX1_whiteAfter ∈ wAll := wAll_at 592 (by decide +kernel) (by decide +kernel)
theorem mw_593 : Cond.selects RX1 yX1_whiteAfter yX1_whiteAfter ∈ wAll := wAll_at 593 (by decide +kernel) (by decide +kernel)
set_option maxRecDepth 100000 in
theorem mw_594 : Cond.code yX1_whiteAfter cX1_whiteAfter 3 (some .int) ∈ wAll := wAll_at 594 rfl (by decide +kernel)
theorem mw_595 : Cond.methodLink RX1 92 yX1_recallableBy ∈ wAll := wAll_at 595 (by decide +kernel) (by decide +kernel)
theorem mw_596 : Cond.instanceMethod yX1_recallableBy ∈ wAll := wAll_at 596 (by decide +kernel) (by decide +kernel)
theorem mw_597 : Cond.selects RX1 yX1_recallableBy yX1_recallableBy ∈ wAll := wAll_at 597 (by decide +kernel) (by decide +kernel)
set_option maxRecDepth 100000 in
theorem mw_598 : Cond.code yX1_recallableBy cX1_recallableBy 7 (some .int) ∈ wAll := wAll_at 598 rfl (by decide +kernel)
theorem mw_599 : Cond.methodLink RX3 31 yX1_standingBy ∈ wAll := wAll_at 599 (by decide +kernel) (by decide +kernel)
theorem mw_600 : Cond.methodLink RX6 240 yX3_lossBy ∈ wAll := wAll_at 600 (by decide +kernel) (by decide +kernel)
theorem mw_601 : Cond.instanceMethod yX3_lossBy ∈ wAll := wAll_at 601 (by decide +kernel) (by decide +kernel)
theorem mw_602 : Cond.selects RX3 yX3_lossBy yX3_lossBy ∈ wAll := wAll_at 602 (by decide +kernel) (by decide +kernel)
set_option maxRecDepth 100000 in
theorem mw_603 : Cond.code yX3_lossBy cX3_lossBy 6 (some .int) ∈ wAll := wAll_at 603 rfl (by decide +kernel)
theorem mw_604 : Cond.methodLink RX3 38 yX3_fallenBy ∈ wAll := wAll_at 604 (by decide +kernel) (by decide +kernel)
theorem mw_614 : Cond.methodLink RX6 243 yX3_weighAll ∈ wAll := wAll_at 614 (by decide +kernel) (by decide +kernel)
theorem mw_615 : Cond.instanceMethod yX3_weighAll ∈ wAll := wAll_at 615 (by decide +kernel) (by decide +kernel)
theorem mw_616 : Cond.selects RX3 yX3_weighAll yX3_weighAll ∈ wAll := wAll_at 616 (by decide +kernel) (by decide +kernel)
set_option maxRecDepth 100000 in
theorem mw_617 : Cond.code yX3_weighAll cX3_weighAll 3 none ∈ wAll := wAll_at 617 rfl (by decide +kernel)
theorem mw_618 : Cond.methodLink RX3 54 yX3_lossBy ∈ wAll := wAll_at 618 (by decide +kernel) (by decide +kernel)
theorem mw_619 : Cond.methodLink RX6 246 yX3_bestPair ∈ wAll := wAll_at 619 (by decide +kernel) (by decide +kernel)
theorem mw_620 : Cond.instanceMethod yX3_bestPair ∈ wAll := wAll_at 620 (by decide +kernel) (by decide +kernel)
theorem mw_621 : Cond.selects RX3 yX3_bestPair yX3_bestPair ∈ wAll := wAll_at 621 (by decide +kernel) (by decide +kernel)
set_option maxRecDepth 100000 in
theorem mw_622 : Cond.code yX3_bestPair cX3_bestPair 7 (some .int) ∈ wAll := wAll_at 622 rfl (by decide +kernel)
theorem mw_623 : Cond.constant RX3 57 (-1000000) ∈ wAll := wAll_at 623 (by decide +kernel) (by decide +kernel)
theorem mw_624 : Cond.methodLink RX3 58 yX3_gainOf ∈ wAll := wAll_at 624 (by decide +kernel) (by decide +kernel)
theorem mw_625 : Cond.instanceMethod yX3_gainOf ∈ wAll := wAll_at 625 (by decide +kernel) (by decide +kernel)
theorem mw_626 : Cond.selects RX3 yX3_gainOf yX3_gainOf ∈ wAll := wAll_at 626 (by decide +kernel) (by decide +kernel)
set_option maxRecDepth 100000 in
theorem mw_627 : Cond.code yX3_gainOf cX3_gainOf 3 (some .int) ∈ wAll := wAll_at 627 rfl (by decide +kernel)
theorem mw_628 : Cond.methodLink RX6 250 yX3_gainOf ∈ wAll := wAll_at 628 (by decide +kernel) (by decide +kernel)
theorem mw_633 : Cond.methodLink RX6 253 yX1_whiteOn ∈ wAll := wAll_at 633 (by decide +kernel) (by decide +kernel)
theorem mw_638 : Cond.methodLink RX6 256 yX3_firstFall ∈ wAll := wAll_at 638 (by decide +kernel) (by decide +kernel)
theorem mw_639 : Cond.instanceMethod yX3_firstFall ∈ wAll := wAll_at 639 (by decide +kernel) (by decide +kernel)
theorem mw_640 : Cond.selects RX3 yX3_firstFall yX3_firstFall ∈ wAll := wAll_at 640 (by decide +kernel) (by decide +kernel)
set_option maxRecDepth 100000 in
theorem mw_641 : Cond.code yX3_firstFall cX3_firstFall 6 (some .int) ∈ wAll := wAll_at 641 rfl (by decide +kernel)
theorem mw_642 : Cond.methodLink RX3 64 yX1_whiteOn ∈ wAll := wAll_at 642 (by decide +kernel) (by decide +kernel)
theorem mw_647 : Cond.methodLink RX6 260 yX3_safeFrom ∈ wAll := wAll_at 647 (by decide +kernel) (by decide +kernel)
theorem mw_648 : Cond.instanceMethod yX3_safeFrom ∈ wAll := wAll_at 648 (by decide +kernel) (by decide +kernel)
theorem mw_649 : Cond.selects RX3 yX3_safeFrom yX3_safeFrom ∈ wAll := wAll_at 649 (by decide +kernel) (by decide +kernel)
set_option maxRecDepth 100000 in
theorem mw_650 : Cond.code yX3_safeFrom cX3_safeFrom 4 (some .int) ∈ wAll := wAll_at 650 rfl (by decide +kernel)
theorem mw_651 : Cond.methodLink RX3 70 yX1_isDrunk ∈ wAll := wAll_at 651 (by decide +kernel) (by decide +kernel)
theorem mw_652 : Cond.methodLink RX3 77 yX1_limitOf ∈ wAll := wAll_at 652 (by decide +kernel) (by decide +kernel)
theorem mw_653 : Cond.methodLink RX3 80 Lib.Math.max.name ∈ wAll := wAll_at 653 (by decide +kernel) (by decide +kernel)
theorem mw_654 : Cond.static Lib.Math.max.name ∈ wAll := wAll_at 654 (by decide +kernel) (by decide +kernel)
set_option maxRecDepth 100000 in
theorem mw_655 : Cond.code Lib.Math.max.name Lib.Math.max.code 2 (some .int) ∈ wAll := wAll_at 655 rfl (by decide +kernel)
theorem mw_660 : Cond.methodLink RX6 263 yX3_doublesFor ∈ wAll := wAll_at 660 (by decide +kernel) (by decide +kernel)
theorem mw_661 : Cond.instanceMethod yX3_doublesFor ∈ wAll := wAll_at 661 (by decide +kernel) (by decide +kernel)
theorem mw_662 : Cond.selects RX3 yX3_doublesFor yX3_doublesFor ∈ wAll := wAll_at 662 (by decide +kernel) (by decide +kernel)
set_option maxRecDepth 100000 in
theorem mw_663 : Cond.code yX3_doublesFor cX3_doublesFor 7 (some .int) ∈ wAll := wAll_at 663 rfl (by decide +kernel)
theorem mw_664 : Cond.methodLink RX3 85 yX1_blackBy ∈ wAll := wAll_at 664 (by decide +kernel) (by decide +kernel)
theorem mw_665 : Cond.methodLink RX3 88 yX3_fewestPlaces ∈ wAll := wAll_at 665 (by decide +kernel) (by decide +kernel)
theorem mw_667 : Cond.instanceMethod yX3_fewestPlaces ∈ wAll := wAll_at 667 (by decide +kernel) (by decide +kernel)
set_option maxRecDepth 100000 in
theorem mw_668 : Cond.code yX3_fewestPlaces cX3_fewestPlaces 7 (some .int) ∈ wAll := wAll_at 668 rfl (by decide +kernel)
theorem mw_669 : Cond.methodLink RX3 95 yJ6_bitCount_0f7a4 ∈ wAll := wAll_at 669 (by decide +kernel) (by decide +kernel)
theorem mw_670 : Cond.static yJ6_bitCount_0f7a4 ∈ wAll := wAll_at 670 (by decide +kernel) (by decide +kernel)
set_option maxRecDepth 100000 in
theorem mw_671 : Cond.code yJ6_bitCount_0f7a4 cJ6_bitCount_0f7a4 1 (some .int) ∈ wAll := wAll_at 671 rfl (by decide +kernel)
theorem mw_672 : Cond.constant RJ6 265 (1431655765) ∈ wAll := wAll_at 672 (by decide +kernel) (by decide +kernel)
theorem mw_673 : Cond.constant RJ6 266 (858993459) ∈ wAll := wAll_at 673 (by decide +kernel) (by decide +kernel)
theorem mw_674 : Cond.constant RJ6 267 (252645135) ∈ wAll := wAll_at 674 (by decide +kernel) (by decide +kernel)
theorem mw_675 : Cond.methodLink RX3 100 yX1_standingOn ∈ wAll := wAll_at 675 (by decide +kernel) (by decide +kernel)
theorem mw_676 : Cond.methodLink RX3 92 yX3_cheapestBeside ∈ wAll := wAll_at 676 (by decide +kernel) (by decide +kernel)
theorem mw_678 : Cond.instanceMethod yX3_cheapestBeside ∈ wAll := wAll_at 678 (by decide +kernel) (by decide +kernel)
set_option maxRecDepth 100000 in
theorem mw_679 : Cond.code yX3_cheapestBeside cX3_cheapestBeside 6 (some .int) ∈ wAll := wAll_at 679 rfl (by decide +kernel)
theorem mw_684 : Cond.methodLink RX6 267 yX3_leastYear ∈ wAll := wAll_at 684 (by decide +kernel) (by decide +kernel)
theorem mw_685 : Cond.instanceMethod yX3_leastYear ∈ wAll := wAll_at 685 (by decide +kernel) (by decide +kernel)
theorem mw_686 : Cond.selects RX3 yX3_leastYear yX3_leastYear ∈ wAll := wAll_at 686 (by decide +kernel) (by decide +kernel)
set_option maxRecDepth 100000 in
theorem mw_687 : Cond.code yX3_leastYear cX3_leastYear 5 (some .int) ∈ wAll := wAll_at 687 rfl (by decide +kernel)
theorem mw_692 : Cond.methodLink RX6 270 yX3_bestOrder ∈ wAll := wAll_at 692 (by decide +kernel) (by decide +kernel)
theorem mw_693 : Cond.instanceMethod yX3_bestOrder ∈ wAll := wAll_at 693 (by decide +kernel) (by decide +kernel)
theorem mw_694 : Cond.selects RX3 yX3_bestOrder yX3_bestOrder ∈ wAll := wAll_at 694 (by decide +kernel) (by decide +kernel)
set_option maxRecDepth 100000 in
theorem mw_695 : Cond.code yX3_bestOrder cX3_bestOrder 6 (some .int) ∈ wAll := wAll_at 695 rfl (by decide +kernel)
theorem mw_696 : Cond.methodLink RX3 106 yX3_sumOfOrder ∈ wAll := wAll_at 696 (by decide +kernel) (by decide +kernel)
theorem mw_697 : Cond.instanceMethod yX3_sumOfOrder ∈ wAll := wAll_at 697 (by decide +kernel) (by decide +kernel)
theorem mw_698 : Cond.selects RX3 yX3_sumOfOrder yX3_sumOfOrder ∈ wAll := wAll_at 698 (by decide +kernel) (by decide +kernel)
set_option maxRecDepth 100000 in
theorem mw_699 : Cond.code yX3_sumOfOrder cX3_sumOfOrder 7 (some .int) ∈ wAll := wAll_at 699 rfl (by decide +kernel)
theorem mw_700 : Cond.methodLink RX3 109 yX3_handInOrder ∈ wAll := wAll_at 700 (by decide +kernel) (by decide +kernel)
theorem mw_701 : Cond.instanceMethod yX3_handInOrder ∈ wAll := wAll_at 701 (by decide +kernel) (by decide +kernel)
theorem mw_702 : Cond.selects RX3 yX3_handInOrder yX3_handInOrder ∈ wAll := wAll_at 702 (by decide +kernel) (by decide +kernel)
set_option maxRecDepth 100000 in
theorem mw_703 : Cond.code yX3_handInOrder cX3_handInOrder 4 (some .int) ∈ wAll := wAll_at 703 rfl (by decide +kernel)
theorem mw_704 : Cond.methodLink RX6 273 yX3_sumOfOrder ∈ wAll := wAll_at 704 (by decide +kernel) (by decide +kernel)
theorem mw_705 : Cond.methodLink RX6 276 yX3_handInOrder ∈ wAll := wAll_at 705 (by decide +kernel) (by decide +kernel)
theorem mw_710 : Cond.methodLink RX6 279 yX3_blanksOf ∈ wAll := wAll_at 710 (by decide +kernel) (by decide +kernel)
theorem mw_711 : Cond.instanceMethod yX3_blanksOf ∈ wAll := wAll_at 711 (by decide +kernel) (by decide +kernel)
theorem mw_712 : Cond.selects RX3 yX3_blanksOf yX3_blanksOf ∈ wAll := wAll_at 712 (by decide +kernel) (by decide +kernel)
set_option maxRecDepth 100000 in
theorem mw_713 : Cond.code yX3_blanksOf cX3_blanksOf 6 (some .int) ∈ wAll := wAll_at 713 rfl (by decide +kernel)
theorem mw_714 : Cond.methodLink RX3 112 yJ7_fill_53178 ∈ wAll := wAll_at 714 (by decide +kernel) (by decide +kernel)
theorem mw_715 : Cond.methodLink RX3 118 yX1_recallableBy ∈ wAll := wAll_at 715 (by decide +kernel) (by decide +kernel)
theorem mw_716 : Cond.methodLink RX3 124 yX3_widenBy ∈ wAll := wAll_at 716 (by decide +kernel) (by decide +kernel)
theorem mw_718 : Cond.instanceMethod yX3_widenBy ∈ wAll := wAll_at 718 (by decide +kernel) (by decide +kernel)
set_option maxRecDepth 100000 in
theorem mw_719 : Cond.code yX3_widenBy cX3_widenBy 6 none ∈ wAll := wAll_at 719 rfl (by decide +kernel)
theorem mw_724 : Cond.methodLink RX6 282 yX3_forgedBy ∈ wAll := wAll_at 724 (by decide +kernel) (by decide +kernel)
theorem mw_725 : Cond.instanceMethod yX3_forgedBy ∈ wAll := wAll_at 725 (by decide +kernel) (by decide +kernel)
theorem mw_726 : Cond.selects RX3 yX3_forgedBy yX3_forgedBy ∈ wAll := wAll_at 726 (by decide +kernel) (by decide +kernel)
set_option maxRecDepth 100000 in
theorem mw_727 : Cond.code yX3_forgedBy cX3_forgedBy 7 (some .int) ∈ wAll := wAll_at 727 rfl (by decide +kernel)
theorem mw_728 : Cond.methodLink RX3 131 yX3_couldWhiten ∈ wAll := wAll_at 728 (by decide +kernel) (by decide +kernel)
theorem mw_730 : Cond.instanceMethod yX3_couldWhiten ∈ wAll := wAll_at 730 (by decide +kernel) (by decide +kernel)
set_option maxRecDepth 100000 in
theorem mw_731 : Cond.code yX3_couldWhiten cX3_couldWhiten 6 (some .boolean) ∈ wAll := wAll_at 731 rfl (by decide +kernel)
theorem mw_732 : Cond.methodLink RX3 135 yX1_isInLimit ∈ wAll := wAll_at 732 (by decide +kernel) (by decide +kernel)
theorem mw_737 : Cond.methodLink RX6 286 yX3_selfOf ∈ wAll := wAll_at 737 (by decide +kernel) (by decide +kernel)
theorem mw_738 : Cond.instanceMethod yX3_selfOf ∈ wAll := wAll_at 738 (by decide +kernel) (by decide +kernel)
theorem mw_739 : Cond.selects RX3 yX3_selfOf yX3_selfOf ∈ wAll := wAll_at 739 (by decide +kernel) (by decide +kernel)
set_option maxRecDepth 100000 in
theorem mw_740 : Cond.code yX3_selfOf cX3_selfOf 8 (some .int) ∈ wAll := wAll_at 740 rfl (by decide +kernel)
theorem mw_745 : Cond.constant RX6 289 (999999) ∈ wAll := wAll_at 745 (by decide +kernel) (by decide +kernel)
theorem mw_746 : Cond.methodLink RX6 290 yX3_byDraws ∈ wAll := wAll_at 746 (by decide +kernel) (by decide +kernel)
theorem mw_747 : Cond.instanceMethod yX3_byDraws ∈ wAll := wAll_at 747 (by decide +kernel) (by decide +kernel)
theorem mw_748 : Cond.selects RX3 yX3_byDraws yX3_byDraws ∈ wAll := wAll_at 748 (by decide +kernel) (by decide +kernel)
set_option maxRecDepth 100000 in
theorem mw_749 : Cond.code yX3_byDraws cX3_byDraws 11 (some .int) ∈ wAll := wAll_at 749 rfl (by decide +kernel)
theorem mw_750 : Cond.constantLong RX3 142 (16807) ∈ wAll := wAll_at 750 (by decide +kernel) (by decide +kernel)
theorem mw_751 : Cond.constantLong RX3 144 (2147483647) ∈ wAll := wAll_at 751 (by decide +kernel) (by decide +kernel)
theorem mw_752 : Cond.constantLong RX3 146 (7) ∈ wAll := wAll_at 752 (by decide +kernel) (by decide +kernel)
theorem mw_753 : Cond.methodLink RX3 148 yX1_mayRecall ∈ wAll := wAll_at 753 (by decide +kernel) (by decide +kernel)
theorem mw_758 : Cond.methodLink RX6 293 yX6_imageOf ∈ wAll := wAll_at 758 (by decide +kernel) (by decide +kernel)
theorem mw_760 : Cond.instanceMethod yX6_imageOf ∈ wAll := wAll_at 760 (by decide +kernel) (by decide +kernel)
set_option maxRecDepth 100000 in
theorem mw_761 : Cond.code yX6_imageOf cX6_imageOf 2 (some (.object "InkTaken$Archive")) ∈ wAll := wAll_at 761 rfl (by decide +kernel)
theorem mw_774 : Cond.methodLink RX6 300 yX2_isKindOf ∈ wAll := wAll_at 774 (by decide +kernel) (by decide +kernel)
theorem mw_775 : Cond.static yX2_isKindOf ∈ wAll := wAll_at 775 (by decide +kernel) (by decide +kernel)
set_option maxRecDepth 100000 in
theorem mw_776 : Cond.code yX2_isKindOf cX2_isKindOf 4 (some .boolean) ∈ wAll := wAll_at 776 rfl (by decide +kernel)
theorem mw_777 : Cond.fieldLink RX2 15 "InkTaken$Asks" "ABOVE" "[I" ∈ wAll := wAll_at 777 (by decide +kernel) (by decide +kernel)
theorem mw_783 : Cond.methodLink RX6 303 yX2_answerOf ∈ wAll := wAll_at 783 (by decide +kernel) (by decide +kernel)
theorem mw_784 : Cond.instanceMethod yX2_answerOf ∈ wAll := wAll_at 784 (by decide +kernel) (by decide +kernel)
theorem mw_785 : Cond.selects RX2 yX2_answerOf yX2_answerOf ∈ wAll := wAll_at 785 (by decide +kernel) (by decide +kernel)
set_option maxRecDepth 100000 in
theorem mw_786 : Cond.code yX2_answerOf cX2_answerOf 4 (some .int) ∈ wAll := wAll_at 786 rfl (by decide +kernel)
theorem mw_787 : Cond.methodLink RX2 22 yX2_askAnew ∈ wAll := wAll_at 787 (by decide +kernel) (by decide +kernel)
theorem mw_789 : Cond.instanceMethod yX2_askAnew ∈ wAll := wAll_at 789 (by decide +kernel) (by decide +kernel)
set_option maxRecDepth 100000 in
theorem mw_790 : Cond.code yX2_askAnew cX2_askAnew 6 (some .int) ∈ wAll := wAll_at 790 rfl (by decide +kernel)
theorem mw_791 : Cond.fieldLink RX2 26 "InkTaken$Asks" "SIZE_BODIES" "[I" ∈ wAll := wAll_at 791 (by decide +kernel) (by decide +kernel)
theorem mw_793 : Cond.fieldLink RX2 29 "InkTaken$Asks" "MARK_BODIES" "[I" ∈ wAll := wAll_at 793 (by decide +kernel) (by decide +kernel)
theorem mw_795 : Cond.methodLink RX2 37 yX2_nearest ∈ wAll := wAll_at 795 (by decide +kernel) (by decide +kernel)
theorem mw_796 : Cond.static yX2_nearest ∈ wAll := wAll_at 796 (by decide +kernel) (by decide +kernel)
set_option maxRecDepth 100000 in
theorem mw_797 : Cond.code yX2_nearest cX2_nearest 4 (some .int) ∈ wAll := wAll_at 797 rfl (by decide +kernel)
theorem mw_798 : Cond.methodLink RX2 41 yX2_runBody ∈ wAll := wAll_at 798 (by decide +kernel) (by decide +kernel)
theorem mw_800 : Cond.instanceMethod yX2_runBody ∈ wAll := wAll_at 800 (by decide +kernel) (by decide +kernel)
set_option maxRecDepth 100000 in
theorem mw_801 : Cond.code yX2_runBody cX2_runBody 6 (some .int) ∈ wAll := wAll_at 801 rfl (by decide +kernel)
theorem mw_802 : Cond.methodLink RX2 44 yX2_leave ∈ wAll := wAll_at 802 (by decide +kernel) (by decide +kernel)
theorem mw_804 : Cond.instanceMethod yX2_leave ∈ wAll := wAll_at 804 (by decide +kernel) (by decide +kernel)
set_option maxRecDepth 100000 in
theorem mw_805 : Cond.code yX2_leave cX2_leave 2 none ∈ wAll := wAll_at 805 rfl (by decide +kernel)
theorem mw_806 : Cond.methodLink RX2 51 yX1_unwhiteBy ∈ wAll := wAll_at 806 (by decide +kernel) (by decide +kernel)
theorem mw_807 : Cond.instanceMethod yX1_unwhiteBy ∈ wAll := wAll_at 807 (by decide +kernel) (by decide +kernel)
theorem mw_808 : Cond.selects RX1 yX1_unwhiteBy yX1_unwhiteBy ∈ wAll := wAll_at 808 (by decide +kernel) (by decide +kernel)
set_option maxRecDepth 100000 in
theorem mw_809 : Cond.code yX1_unwhiteBy cX1_unwhiteBy 2 (some .int) ∈ wAll := wAll_at 809 rfl (by decide +kernel)
theorem mw_810 : Cond.methodLink RX1 95 yX1_copiesBy ∈ wAll := wAll_at 810 (by decide +kernel) (by decide +kernel)
theorem mw_811 : Cond.methodLink RX1 99 yJ6_bitCount_0f7a4 ∈ wAll := wAll_at 811 (by decide +kernel) (by decide +kernel)
theorem mw_820 : Cond.methodLink RX6 312 yX5_present ∈ wAll := wAll_at 820 (by decide +kernel) (by decide +kernel)
theorem mw_821 : Cond.instanceMethod yX5_present ∈ wAll := wAll_at 821 (by decide +kernel) (by decide +kernel)
theorem mw_822 : Cond.selects RX5 yX5_present yX5_present ∈ wAll := wAll_at 822 (by decide +kernel) (by decide +kernel)
set_option maxRecDepth 100000 in
theorem mw_823 : Cond.code yX5_present cX5_present 3 (some .int) ∈ wAll := wAll_at 823 rfl (by decide +kernel)
theorem mw_824 : Cond.methodLink RX5 29 yX5_isMissing ∈ wAll := wAll_at 824 (by decide +kernel) (by decide +kernel)
theorem mw_825 : Cond.methodLink RX6 319 yJ6_bitCount_0f7a4 ∈ wAll := wAll_at 825 (by decide +kernel) (by decide +kernel)
theorem mw_836 : Cond.fieldLink RX7 7 "InkTakenModel" "lanes" "[I" ∈ wAll := wAll_at 836 (by decide +kernel) (by decide +kernel)
theorem mw_837 : Cond.fieldLink RX7 13 "InkTakenModel" "sizes" "[I" ∈ wAll := wAll_at 837 (by decide +kernel) (by decide +kernel)
theorem mw_838 : Cond.fieldLink RX7 16 "InkTakenModel" "items" "[I" ∈ wAll := wAll_at 838 (by decide +kernel) (by decide +kernel)
theorem mw_839 : Cond.fieldLink RX7 44 "InkTakenModel" "status" "I" ∈ wAll := wAll_at 839 (by decide +kernel) (by decide +kernel)
theorem mw_840 : Cond.fieldLink RX7 19 "InkTakenModel" "tape" "[I" ∈ wAll := wAll_at 840 (by decide +kernel) (by decide +kernel)
theorem mw_841 : Cond.fieldLink RX7 71 "InkTakenModel" "taped" "I" ∈ wAll := wAll_at 841 (by decide +kernel) (by decide +kernel)
theorem mw_842 : Cond.fieldLink RX7 101 "InkTakenModel" "fault" "I" ∈ wAll := wAll_at 842 (by decide +kernel) (by decide +kernel)
theorem mw_843 : Cond.fieldLink RX7 143 "InkTakenModel" "isArchive" "Z" ∈ wAll := wAll_at 843 (by decide +kernel) (by decide +kernel)
theorem mw_844 : Cond.fieldLink RX7 22 "InkTakenModel" "now" "[I" ∈ wAll := wAll_at 844 (by decide +kernel) (by decide +kernel)
theorem mw_845 : Cond.fieldLink RX7 147 "InkTakenModel" "acts" "I" ∈ wAll := wAll_at 845 (by decide +kernel) (by decide +kernel)
theorem mw_846 : Cond.fieldLink RX7 25 "InkTakenModel" "before" "[I" ∈ wAll := wAll_at 846 (by decide +kernel) (by decide +kernel)
theorem mw_847 : Cond.fieldLink RX7 28 "InkTakenModel" "images" "[I" ∈ wAll := wAll_at 847 (by decide +kernel) (by decide +kernel)
theorem mw_848 : Cond.fieldLink RX7 31 "InkTakenModel" "kept" "[Z" ∈ wAll := wAll_at 848 (by decide +kernel) (by decide +kernel)
theorem mw_849 : Cond.fieldLink RX7 257 "InkTakenModel" "traced" "I" ∈ wAll := wAll_at 849 (by decide +kernel) (by decide +kernel)
theorem mw_850 : Cond.fieldLink RX7 35 "InkTakenModel" "trace" "[I" ∈ wAll := wAll_at 850 (by decide +kernel) (by decide +kernel)
theorem mw_851 : Cond.fieldLink RX7 79 "InkTakenModel" "at" "I" ∈ wAll := wAll_at 851 (by decide +kernel) (by decide +kernel)
theorem mw_852 : Cond.fieldLink RX7 82 "InkTakenModel" "begin" "I" ∈ wAll := wAll_at 852 (by decide +kernel) (by decide +kernel)
theorem mw_853 : Cond.fieldLink RX7 95 "InkTakenModel" "token" "I" ∈ wAll := wAll_at 853 (by decide +kernel) (by decide +kernel)
theorem mw_854 : Cond.fieldLink RX7 98 "InkTakenModel" "value" "I" ∈ wAll := wAll_at 854 (by decide +kernel) (by decide +kernel)
theorem mw_855 : Cond.fieldLink RX7 85 "InkTakenModel" "size" "I" ∈ wAll := wAll_at 855 (by decide +kernel) (by decide +kernel)
theorem mw_856 : Cond.fieldLink RX7 38 "InkTakenModel" "read" "[I" ∈ wAll := wAll_at 856 (by decide +kernel) (by decide +kernel)
theorem mw_857 : Cond.fieldLink RX7 41 "InkTakenModel" "aside" "[I" ∈ wAll := wAll_at 857 (by decide +kernel) (by decide +kernel)
theorem mw_908 : Cond.methodLink RX7 55 yX7_isRow ∈ wAll := wAll_at 908 (by decide +kernel) (by decide +kernel)
theorem mw_909 : Cond.static yX7_isRow ∈ wAll := wAll_at 909 (by decide +kernel) (by decide +kernel)
set_option maxRecDepth 100000 in
theorem mw_910 : Cond.code yX7_isRow cX7_isRow 1 (some .boolean) ∈ wAll := wAll_at 910 rfl (by decide +kernel)
theorem mw_911 : Cond.constantLong RX7 49 (7) ∈ wAll := wAll_at 911 (by decide +kernel) (by decide +kernel)
theorem mw_912 : Cond.methodLink RX7 51 yX7_in ∈ wAll := wAll_at 912 (by decide +kernel) (by decide +kernel)
theorem mw_913 : Cond.static yX7_in ∈ wAll := wAll_at 913 (by decide +kernel) (by decide +kernel)
set_option maxRecDepth 100000 in
theorem mw_914 : Cond.code yX7_in cX7_in 6 (some .boolean) ∈ wAll := wAll_at 914 rfl (by decide +kernel)
theorem mw_915 : Cond.constantLong RX7 59 (2) ∈ wAll := wAll_at 915 (by decide +kernel) (by decide +kernel)
theorem mw_916 : Cond.constant RX7 61 (-1000001) ∈ wAll := wAll_at 916 (by decide +kernel) (by decide +kernel)
theorem mw_917 : Cond.methodLink RX7 62 yX7_found ∈ wAll := wAll_at 917 (by decide +kernel) (by decide +kernel)
theorem mw_919 : Cond.instanceMethod yX7_found ∈ wAll := wAll_at 919 (by decide +kernel) (by decide +kernel)
set_option maxRecDepth 100000 in
theorem mw_920 : Cond.code yX7_found cX7_found 2 (some .int) ∈ wAll := wAll_at 920 rfl (by decide +kernel)
theorem mw_921 : Cond.constant RX7 48 (-1000010) ∈ wAll := wAll_at 921 (by decide +kernel) (by decide +kernel)
theorem mw_922 : Cond.methodLink RX7 66 yX7_well ∈ wAll := wAll_at 922 (by decide +kernel) (by decide +kernel)
theorem mw_924 : Cond.instanceMethod yX7_well ∈ wAll := wAll_at 924 (by decide +kernel) (by decide +kernel)
set_option maxRecDepth 100000 in
theorem mw_925 : Cond.code yX7_well cX7_well 2 (some .int) ∈ wAll := wAll_at 925 rfl (by decide +kernel)
theorem mw_942 : Cond.constantLong RX7 69 (255) ∈ wAll := wAll_at 942 (by decide +kernel) (by decide +kernel)
theorem mw_943 : Cond.constant RX7 74 (-1000003) ∈ wAll := wAll_at 943 (by decide +kernel) (by decide +kernel)
theorem mw_948 : Cond.methodLink RX7 139 yX7_reads ∈ wAll := wAll_at 948 (by decide +kernel) (by decide +kernel)
theorem mw_950 : Cond.instanceMethod yX7_reads ∈ wAll := wAll_at 950 (by decide +kernel) (by decide +kernel)
set_option maxRecDepth 100000 in
theorem mw_951 : Cond.code yX7_reads cX7_reads 2 (some .boolean) ∈ wAll := wAll_at 951 rfl (by decide +kernel)
theorem mw_952 : Cond.methodLink RX7 133 yX7_readsLaw ∈ wAll := wAll_at 952 (by decide +kernel) (by decide +kernel)
theorem mw_954 : Cond.instanceMethod yX7_readsLaw ∈ wAll := wAll_at 954 (by decide +kernel) (by decide +kernel)
set_option maxRecDepth 100000 in
theorem mw_955 : Cond.code yX7_readsLaw cX7_readsLaw 1 (some .boolean) ∈ wAll := wAll_at 955 rfl (by decide +kernel)
theorem mw_956 : Cond.methodLink RX7 104 yX7_next ∈ wAll := wAll_at 956 (by decide +kernel) (by decide +kernel)
theorem mw_958 : Cond.instanceMethod yX7_next ∈ wAll := wAll_at 958 (by decide +kernel) (by decide +kernel)
set_option maxRecDepth 100000 in
theorem mw_959 : Cond.code yX7_next cX7_next 2 none ∈ wAll := wAll_at 959 rfl (by decide +kernel)
theorem mw_960 : Cond.constantLong RX7 88 (97) ∈ wAll := wAll_at 960 (by decide +kernel) (by decide +kernel)
theorem mw_961 : Cond.constantLong RX7 90 (122) ∈ wAll := wAll_at 961 (by decide +kernel) (by decide +kernel)
theorem mw_962 : Cond.methodLink RX7 92 yX7_isFigure ∈ wAll := wAll_at 962 (by decide +kernel) (by decide +kernel)
theorem mw_963 : Cond.static yX7_isFigure ∈ wAll := wAll_at 963 (by decide +kernel) (by decide +kernel)
set_option maxRecDepth 100000 in
theorem mw_964 : Cond.code yX7_isFigure cX7_isFigure 1 (some .boolean) ∈ wAll := wAll_at 964 rfl (by decide +kernel)
theorem mw_965 : Cond.constantLong RX7 75 (48) ∈ wAll := wAll_at 965 (by decide +kernel) (by decide +kernel)
theorem mw_966 : Cond.constantLong RX7 77 (57) ∈ wAll := wAll_at 966 (by decide +kernel) (by decide +kernel)
theorem mw_967 : Cond.methodLink RX7 110 yX7_isLetter ∈ wAll := wAll_at 967 (by decide +kernel) (by decide +kernel)
theorem mw_969 : Cond.instanceMethod yX7_isLetter ∈ wAll := wAll_at 969 (by decide +kernel) (by decide +kernel)
set_option maxRecDepth 100000 in
theorem mw_970 : Cond.code yX7_isLetter cX7_isLetter 2 (some .boolean) ∈ wAll := wAll_at 970 rfl (by decide +kernel)
theorem mw_971 : Cond.methodLink RX7 107 yX7_fails ∈ wAll := wAll_at 971 (by decide +kernel) (by decide +kernel)
theorem mw_973 : Cond.instanceMethod yX7_fails ∈ wAll := wAll_at 973 (by decide +kernel) (by decide +kernel)
set_option maxRecDepth 100000 in
theorem mw_974 : Cond.code yX7_fails cX7_fails 2 (some .boolean) ∈ wAll := wAll_at 974 rfl (by decide +kernel)
theorem mw_975 : Cond.methodLink RX7 113 yX7_number ∈ wAll := wAll_at 975 (by decide +kernel) (by decide +kernel)
theorem mw_977 : Cond.instanceMethod yX7_number ∈ wAll := wAll_at 977 (by decide +kernel) (by decide +kernel)
set_option maxRecDepth 100000 in
theorem mw_978 : Cond.code yX7_number cX7_number 4 (some .boolean) ∈ wAll := wAll_at 978 rfl (by decide +kernel)
theorem mw_979 : Cond.methodLink RX7 117 yX7_sign ∈ wAll := wAll_at 979 (by decide +kernel) (by decide +kernel)
theorem mw_981 : Cond.instanceMethod yX7_sign ∈ wAll := wAll_at 981 (by decide +kernel) (by decide +kernel)
set_option maxRecDepth 100000 in
theorem mw_982 : Cond.code yX7_sign cX7_sign 2 (some .boolean) ∈ wAll := wAll_at 982 rfl (by decide +kernel)
theorem mw_983 : Cond.methodLink RX7 136 yX7_readsOne ∈ wAll := wAll_at 983 (by decide +kernel) (by decide +kernel)
theorem mw_985 : Cond.instanceMethod yX7_readsOne ∈ wAll := wAll_at 985 (by decide +kernel) (by decide +kernel)
set_option maxRecDepth 100000 in
theorem mw_986 : Cond.code yX7_readsOne cX7_readsOne 2 (some .boolean) ∈ wAll := wAll_at 986 rfl (by decide +kernel)
theorem mw_987 : Cond.methodLink RX7 120 yX7_sortOf ∈ wAll := wAll_at 987 (by decide +kernel) (by decide +kernel)
theorem mw_988 : Cond.static yX7_sortOf ∈ wAll := wAll_at 988 (by decide +kernel) (by decide +kernel)
set_option maxRecDepth 100000 in
theorem mw_989 : Cond.code yX7_sortOf cX7_sortOf 1 (some .int) ∈ wAll := wAll_at 989 rfl (by decide +kernel)
theorem mw_990 : Cond.methodLink RX7 123 yX7_readsHand ∈ wAll := wAll_at 990 (by decide +kernel) (by decide +kernel)
theorem mw_992 : Cond.instanceMethod yX7_readsHand ∈ wAll := wAll_at 992 (by decide +kernel) (by decide +kernel)
set_option maxRecDepth 100000 in
theorem mw_993 : Cond.code yX7_readsHand cX7_readsHand 3 (some .boolean) ∈ wAll := wAll_at 993 rfl (by decide +kernel)
theorem mw_994 : Cond.methodLink RX7 126 yX7_readsCopy ∈ wAll := wAll_at 994 (by decide +kernel) (by decide +kernel)
theorem mw_996 : Cond.instanceMethod yX7_readsCopy ∈ wAll := wAll_at 996 (by decide +kernel) (by decide +kernel)
set_option maxRecDepth 100000 in
theorem mw_997 : Cond.code yX7_readsCopy cX7_readsCopy 2 (some .boolean) ∈ wAll := wAll_at 997 rfl (by decide +kernel)
theorem mw_998 : Cond.methodLink RX7 130 yX7_readsDeed ∈ wAll := wAll_at 998 (by decide +kernel) (by decide +kernel)
theorem mw_1000 : Cond.instanceMethod yX7_readsDeed ∈ wAll := wAll_at 1000 (by decide +kernel) (by decide +kernel)
set_option maxRecDepth 100000 in
theorem mw_1001 : Cond.code yX7_readsDeed cX7_readsDeed 2 (some .boolean) ∈ wAll := wAll_at 1001 rfl (by decide +kernel)
theorem mw_1002 : Cond.constant RX7 142 (-1000100) ∈ wAll := wAll_at 1002 (by decide +kernel) (by decide +kernel)
theorem mw_1003 : Cond.methodLink RX7 150 yX7_copies ∈ wAll := wAll_at 1003 (by decide +kernel) (by decide +kernel)
theorem mw_1004 : Cond.static yX7_copies ∈ wAll := wAll_at 1004 (by decide +kernel) (by decide +kernel)
set_option maxRecDepth 100000 in
theorem mw_1005 : Cond.code yX7_copies cX7_copies 5 none ∈ wAll := wAll_at 1005 rfl (by decide +kernel)
theorem mw_1014 : Cond.constant RX7 169 (-1000002) ∈ wAll := wAll_at 1014 (by decide +kernel) (by decide +kernel)
theorem mw_1019 : Cond.constantLong RX7 170 (5) ∈ wAll := wAll_at 1019 (by decide +kernel) (by decide +kernel)
theorem mw_1020 : Cond.methodLink RX7 172 yX7_isHand ∈ wAll := wAll_at 1020 (by decide +kernel) (by decide +kernel)
theorem mw_1022 : Cond.instanceMethod yX7_isHand ∈ wAll := wAll_at 1022 (by decide +kernel) (by decide +kernel)
set_option maxRecDepth 100000 in
theorem mw_1023 : Cond.code yX7_isHand cX7_isHand 2 (some .boolean) ∈ wAll := wAll_at 1023 rfl (by decide +kernel)
theorem mw_1024 : Cond.constantLong RX7 175 (9) ∈ wAll := wAll_at 1024 (by decide +kernel) (by decide +kernel)
theorem mw_1025 : Cond.methodLink RX7 177 yX7_remember ∈ wAll := wAll_at 1025 (by decide +kernel) (by decide +kernel)
theorem mw_1027 : Cond.instanceMethod yX7_remember ∈ wAll := wAll_at 1027 (by decide +kernel) (by decide +kernel)
set_option maxRecDepth 100000 in
theorem mw_1028 : Cond.code yX7_remember cX7_remember 2 none ∈ wAll := wAll_at 1028 rfl (by decide +kernel)
theorem mw_1033 : Cond.methodLink RX7 180 yX7_isCopy ∈ wAll := wAll_at 1033 (by decide +kernel) (by decide +kernel)
theorem mw_1035 : Cond.instanceMethod yX7_isCopy ∈ wAll := wAll_at 1035 (by decide +kernel) (by decide +kernel)
set_option maxRecDepth 100000 in
theorem mw_1036 : Cond.code yX7_isCopy cX7_isCopy 2 (some .boolean) ∈ wAll := wAll_at 1036 rfl (by decide +kernel)
theorem mw_1037 : Cond.methodLink RX7 158 yX7_mayRecall ∈ wAll := wAll_at 1037 (by decide +kernel) (by decide +kernel)
theorem mw_1038 : Cond.static yX7_mayRecall ∈ wAll := wAll_at 1038 (by decide +kernel) (by decide +kernel)
set_option maxRecDepth 100000 in
theorem mw_1039 : Cond.code yX7_mayRecall cX7_mayRecall 2 (some .boolean) ∈ wAll := wAll_at 1039 rfl (by decide +kernel)
theorem mw_1040 : Cond.methodLink RX7 154 yX7_limit ∈ wAll := wAll_at 1040 (by decide +kernel) (by decide +kernel)
theorem mw_1041 : Cond.static yX7_limit ∈ wAll := wAll_at 1041 (by decide +kernel) (by decide +kernel)
set_option maxRecDepth 100000 in
theorem mw_1042 : Cond.code yX7_limit cX7_limit 2 (some .int) ∈ wAll := wAll_at 1042 rfl (by decide +kernel)
theorem mw_1043 : Cond.methodLink RX7 162 yX7_black ∈ wAll := wAll_at 1043 (by decide +kernel) (by decide +kernel)
theorem mw_1044 : Cond.static yX7_black ∈ wAll := wAll_at 1044 (by decide +kernel) (by decide +kernel)
set_option maxRecDepth 100000 in
theorem mw_1045 : Cond.code yX7_black cX7_black 3 (some .int) ∈ wAll := wAll_at 1045 rfl (by decide +kernel)
theorem mw_1050 : Cond.constantLong RX7 183 (24) ∈ wAll := wAll_at 1050 (by decide +kernel) (by decide +kernel)
theorem mw_1051 : Cond.methodLink RX7 185 yX7_dayGoes ∈ wAll := wAll_at 1051 (by decide +kernel) (by decide +kernel)
theorem mw_1052 : Cond.static yX7_dayGoes ∈ wAll := wAll_at 1052 (by decide +kernel) (by decide +kernel)
set_option maxRecDepth 100000 in
theorem mw_1053 : Cond.code yX7_dayGoes cX7_dayGoes 3 none ∈ wAll := wAll_at 1053 rfl (by decide +kernel)
theorem mw_1054 : Cond.methodLink RX7 189 yX7_stand ∈ wAll := wAll_at 1054 (by decide +kernel) (by decide +kernel)
theorem mw_1055 : Cond.static yX7_stand ∈ wAll := wAll_at 1055 (by decide +kernel) (by decide +kernel)
set_option maxRecDepth 100000 in
theorem mw_1056 : Cond.code yX7_stand cX7_stand 1 (some .int) ∈ wAll := wAll_at 1056 rfl (by decide +kernel)
theorem mw_1057 : Cond.methodLink RX7 166 yX7_standBy ∈ wAll := wAll_at 1057 (by decide +kernel) (by decide +kernel)
theorem mw_1058 : Cond.static yX7_standBy ∈ wAll := wAll_at 1058 (by decide +kernel) (by decide +kernel)
set_option maxRecDepth 100000 in
theorem mw_1059 : Cond.code yX7_standBy cX7_standBy 7 (some .int) ∈ wAll := wAll_at 1059 rfl (by decide +kernel)
theorem mw_1068 : Cond.methodLink RX7 192 yX7_copiesOf ∈ wAll := wAll_at 1068 (by decide +kernel) (by decide +kernel)
theorem mw_1070 : Cond.instanceMethod yX7_copiesOf ∈ wAll := wAll_at 1070 (by decide +kernel) (by decide +kernel)
set_option maxRecDepth 100000 in
theorem mw_1071 : Cond.code yX7_copiesOf cX7_copiesOf 5 (some .int) ∈ wAll := wAll_at 1071 rfl (by decide +kernel)
theorem mw_1076 : Cond.methodLink RX7 196 yX7_isDeed ∈ wAll := wAll_at 1076 (by decide +kernel) (by decide +kernel)
theorem mw_1078 : Cond.instanceMethod yX7_isDeed ∈ wAll := wAll_at 1078 (by decide +kernel) (by decide +kernel)
set_option maxRecDepth 100000 in
theorem mw_1079 : Cond.code yX7_isDeed cX7_isDeed 2 (some .boolean) ∈ wAll := wAll_at 1079 rfl (by decide +kernel)
theorem mw_1080 : Cond.constantLong RX7 199 (4) ∈ wAll := wAll_at 1080 (by decide +kernel) (by decide +kernel)
theorem mw_1081 : Cond.constant RX7 201 (-1000000) ∈ wAll := wAll_at 1081 (by decide +kernel) (by decide +kernel)
theorem mw_1086 : Cond.methodLink RX7 202 yX7_isTwo ∈ wAll := wAll_at 1086 (by decide +kernel) (by decide +kernel)
theorem mw_1087 : Cond.static yX7_isTwo ∈ wAll := wAll_at 1087 (by decide +kernel) (by decide +kernel)
set_option maxRecDepth 100000 in
theorem mw_1088 : Cond.code yX7_isTwo cX7_isTwo 1 (some .boolean) ∈ wAll := wAll_at 1088 rfl (by decide +kernel)
theorem mw_1093 : Cond.methodLink RX7 215 yX7_areHands ∈ wAll := wAll_at 1093 (by decide +kernel) (by decide +kernel)
theorem mw_1095 : Cond.instanceMethod yX7_areHands ∈ wAll := wAll_at 1095 (by decide +kernel) (by decide +kernel)
set_option maxRecDepth 100000 in
theorem mw_1096 : Cond.code yX7_areHands cX7_areHands 2 (some .boolean) ∈ wAll := wAll_at 1096 rfl (by decide +kernel)
theorem mw_1097 : Cond.methodLink RX7 212 yX7_fallsBy ∈ wAll := wAll_at 1097 (by decide +kernel) (by decide +kernel)
theorem mw_1099 : Cond.instanceMethod yX7_fallsBy ∈ wAll := wAll_at 1099 (by decide +kernel) (by decide +kernel)
set_option maxRecDepth 100000 in
theorem mw_1100 : Cond.code yX7_fallsBy cX7_fallsBy 2 (some .int) ∈ wAll := wAll_at 1100 rfl (by decide +kernel)
theorem mw_1101 : Cond.methodLink RX7 205 yX7_layAside ∈ wAll := wAll_at 1101 (by decide +kernel) (by decide +kernel)
theorem mw_1103 : Cond.instanceMethod yX7_layAside ∈ wAll := wAll_at 1103 (by decide +kernel) (by decide +kernel)
set_option maxRecDepth 100000 in
theorem mw_1104 : Cond.code yX7_layAside cX7_layAside 1 none ∈ wAll := wAll_at 1104 rfl (by decide +kernel)
theorem mw_1105 : Cond.methodLink RX7 208 yX7_recalls ∈ wAll := wAll_at 1105 (by decide +kernel) (by decide +kernel)
theorem mw_1106 : Cond.static yX7_recalls ∈ wAll := wAll_at 1106 (by decide +kernel) (by decide +kernel)
set_option maxRecDepth 100000 in
theorem mw_1107 : Cond.code yX7_recalls cX7_recalls 4 none ∈ wAll := wAll_at 1107 rfl (by decide +kernel)
theorem mw_1108 : Cond.methodLink RX7 218 yX7_lossBy ∈ wAll := wAll_at 1108 (by decide +kernel) (by decide +kernel)
theorem mw_1110 : Cond.instanceMethod yX7_lossBy ∈ wAll := wAll_at 1110 (by decide +kernel) (by decide +kernel)
set_option maxRecDepth 100000 in
theorem mw_1111 : Cond.code yX7_lossBy cX7_lossBy 5 (some .int) ∈ wAll := wAll_at 1111 rfl (by decide +kernel)
theorem mw_1124 : Cond.constantLong RX7 221 (200) ∈ wAll := wAll_at 1124 (by decide +kernel) (by decide +kernel)
theorem mw_1125 : Cond.methodLink RX7 223 yX7_whiteSet ∈ wAll := wAll_at 1125 (by decide +kernel) (by decide +kernel)
theorem mw_1126 : Cond.static yX7_whiteSet ∈ wAll := wAll_at 1126 (by decide +kernel) (by decide +kernel)
set_option maxRecDepth 100000 in
theorem mw_1127 : Cond.code yX7_whiteSet cX7_whiteSet 3 (some .int) ∈ wAll := wAll_at 1127 rfl (by decide +kernel)
theorem mw_1140 : Cond.methodLink RX7 226 yX7_bits ∈ wAll := wAll_at 1140 (by decide +kernel) (by decide +kernel)
theorem mw_1141 : Cond.static yX7_bits ∈ wAll := wAll_at 1141 (by decide +kernel) (by decide +kernel)
set_option maxRecDepth 100000 in
theorem mw_1142 : Cond.code yX7_bits cX7_bits 3 (some .int) ∈ wAll := wAll_at 1142 rfl (by decide +kernel)
theorem mw_1143 : Cond.constant RX7 229 (1000000) ∈ wAll := wAll_at 1143 (by decide +kernel) (by decide +kernel)
theorem mw_1152 : Cond.constantLong RX7 233 (-1) ∈ wAll := wAll_at 1152 (by decide +kernel) (by decide +kernel)
theorem mw_1153 : Cond.constantLong RX7 235 (3) ∈ wAll := wAll_at 1153 (by decide +kernel) (by decide +kernel)
theorem mw_1154 : Cond.methodLink RX7 237 yX7_isOrder ∈ wAll := wAll_at 1154 (by decide +kernel) (by decide +kernel)
theorem mw_1156 : Cond.instanceMethod yX7_isOrder ∈ wAll := wAll_at 1156 (by decide +kernel) (by decide +kernel)
set_option maxRecDepth 100000 in
theorem mw_1157 : Cond.code yX7_isOrder cX7_isOrder 4 (some .boolean) ∈ wAll := wAll_at 1157 rfl (by decide +kernel)
theorem mw_1158 : Cond.methodLink RX7 230 yX7_handAt ∈ wAll := wAll_at 1158 (by decide +kernel) (by decide +kernel)
theorem mw_1160 : Cond.instanceMethod yX7_handAt ∈ wAll := wAll_at 1160 (by decide +kernel) (by decide +kernel)
set_option maxRecDepth 100000 in
theorem mw_1161 : Cond.code yX7_handAt cX7_handAt 3 (some .int) ∈ wAll := wAll_at 1161 rfl (by decide +kernel)
theorem mw_1166 : Cond.constantLong RX7 240 (90) ∈ wAll := wAll_at 1166 (by decide +kernel) (by decide +kernel)
theorem mw_1171 : Cond.methodLink RX7 242 yX7_canBe ∈ wAll := wAll_at 1171 (by decide +kernel) (by decide +kernel)
theorem mw_1173 : Cond.instanceMethod yX7_canBe ∈ wAll := wAll_at 1173 (by decide +kernel) (by decide +kernel)
set_option maxRecDepth 100000 in
theorem mw_1174 : Cond.code yX7_canBe cX7_canBe 5 (some .boolean) ∈ wAll := wAll_at 1174 rfl (by decide +kernel)
theorem mw_1183 : Cond.constantLong RX7 246 (100) ∈ wAll := wAll_at 1183 (by decide +kernel) (by decide +kernel)
theorem mw_1184 : Cond.constantLong RX7 248 (999999) ∈ wAll := wAll_at 1184 (by decide +kernel) (by decide +kernel)
theorem mw_1185 : Cond.constantLong RX7 250 (16807) ∈ wAll := wAll_at 1185 (by decide +kernel) (by decide +kernel)
theorem mw_1186 : Cond.constantLong RX7 252 (2147483647) ∈ wAll := wAll_at 1186 (by decide +kernel) (by decide +kernel)
theorem mw_1203 : Cond.methodLink RX7 254 yX7_isOf ∈ wAll := wAll_at 1203 (by decide +kernel) (by decide +kernel)
theorem mw_1204 : Cond.static yX7_isOf ∈ wAll := wAll_at 1204 (by decide +kernel) (by decide +kernel)
set_option maxRecDepth 100000 in
theorem mw_1205 : Cond.code yX7_isOf cX7_isOf 2 (some .boolean) ∈ wAll := wAll_at 1205 rfl (by decide +kernel)
theorem mw_1210 : Cond.methodLink RX7 277 yX7_mark ∈ wAll := wAll_at 1210 (by decide +kernel) (by decide +kernel)
theorem mw_1212 : Cond.instanceMethod yX7_mark ∈ wAll := wAll_at 1212 (by decide +kernel) (by decide +kernel)
set_option maxRecDepth 100000 in
theorem mw_1213 : Cond.code yX7_mark cX7_mark 4 (some .int) ∈ wAll := wAll_at 1213 rfl (by decide +kernel)
theorem mw_1214 : Cond.methodLink RX7 260 yX7_blackOf ∈ wAll := wAll_at 1214 (by decide +kernel) (by decide +kernel)
theorem mw_1216 : Cond.instanceMethod yX7_blackOf ∈ wAll := wAll_at 1216 (by decide +kernel) (by decide +kernel)
set_option maxRecDepth 100000 in
theorem mw_1217 : Cond.code yX7_blackOf cX7_blackOf 4 (some .int) ∈ wAll := wAll_at 1217 rfl (by decide +kernel)
theorem mw_1218 : Cond.constantLong RX7 263 (242120) ∈ wAll := wAll_at 1218 (by decide +kernel) (by decide +kernel)
theorem mw_1219 : Cond.constantLong RX7 265 (222120) ∈ wAll := wAll_at 1219 (by decide +kernel) (by decide +kernel)
theorem mw_1220 : Cond.constantLong RX7 267 (2120) ∈ wAll := wAll_at 1220 (by decide +kernel) (by decide +kernel)
theorem mw_1221 : Cond.methodLink RX7 269 yX7_leave ∈ wAll := wAll_at 1221 (by decide +kernel) (by decide +kernel)
theorem mw_1223 : Cond.instanceMethod yX7_leave ∈ wAll := wAll_at 1223 (by decide +kernel) (by decide +kernel)
set_option maxRecDepth 100000 in
theorem mw_1224 : Cond.code yX7_leave cX7_leave 7 none ∈ wAll := wAll_at 1224 rfl (by decide +kernel)
theorem mw_1225 : Cond.constantLong RX7 280 (121110) ∈ wAll := wAll_at 1225 (by decide +kernel) (by decide +kernel)
theorem mw_1226 : Cond.constantLong RX7 282 (1110) ∈ wAll := wAll_at 1226 (by decide +kernel) (by decide +kernel)
theorem mw_1227 : Cond.methodLink RX7 284 yX7_sizeOf ∈ wAll := wAll_at 1227 (by decide +kernel) (by decide +kernel)
theorem mw_1229 : Cond.instanceMethod yX7_sizeOf ∈ wAll := wAll_at 1229 (by decide +kernel) (by decide +kernel)
set_option maxRecDepth 100000 in
theorem mw_1230 : Cond.code yX7_sizeOf cX7_sizeOf 4 (some .int) ∈ wAll := wAll_at 1230 rfl (by decide +kernel)
theorem mw_1231 : Cond.constantLong RX7 273 (141310) ∈ wAll := wAll_at 1231 (by decide +kernel) (by decide +kernel)
theorem mw_1232 : Cond.constantLong RX7 275 (1310) ∈ wAll := wAll_at 1232 (by decide +kernel) (by decide +kernel)
theorem mw_1233 : Cond.constantLong RX7 287 (2320) ∈ wAll := wAll_at 1233 (by decide +kernel) (by decide +kernel)
theorem mw_1242 : Cond.methodLink RX7 289 yX7_whites ∈ wAll := wAll_at 1242 (by decide +kernel) (by decide +kernel)
theorem mw_1243 : Cond.static yX7_whites ∈ wAll := wAll_at 1243 (by decide +kernel) (by decide +kernel)
set_option maxRecDepth 100000 in
theorem mw_1244 : Cond.code yX7_whites cX7_whites 3 (some .int) ∈ wAll := wAll_at 1244 rfl (by decide +kernel)
theorem ds_J6_bitCount_0f7a4 : yJ6_bitCount_0f7a4.cls ≠ "java/lang/invoke/MethodHandle" ∧ yJ6_bitCount_0f7a4.cls ≠ "java/lang/invoke/VarHandle" ∧ (parseMethodDescriptor yJ6_bitCount_0f7a4.desc).map (fun d => d.parameters.length) = some 1 := by decide +kernel
theorem ds_J7_fill_53178 : yJ7_fill_53178.cls ≠ "java/lang/invoke/MethodHandle" ∧ yJ7_fill_53178.cls ≠ "java/lang/invoke/VarHandle" ∧ (parseMethodDescriptor yJ7_fill_53178.desc).map (fun d => d.parameters.length) = some 2 := by decide +kernel
theorem ds_X0_forget : yX0_forget.cls ≠ "java/lang/invoke/MethodHandle" ∧ yX0_forget.cls ≠ "java/lang/invoke/VarHandle" ∧ (parseMethodDescriptor yX0_forget.desc).map (fun d => d.parameters.length) = some 0 := by decide +kernel
theorem ds_X0_keep : yX0_keep.cls ≠ "java/lang/invoke/MethodHandle" ∧ yX0_keep.cls ≠ "java/lang/invoke/VarHandle" ∧ (parseMethodDescriptor yX0_keep.desc).map (fun d => d.parameters.length) = some 2 := by decide +kernel
theorem ds_X0_undoLatest : yX0_undoLatest.cls ≠ "java/lang/invoke/MethodHandle" ∧ yX0_undoLatest.cls ≠ "java/lang/invoke/VarHandle" ∧ (parseMethodDescriptor yX0_undoLatest.desc).map (fun d => d.parameters.length) = some 1 := by decide +kernel
theorem ds_X1_addCopy : yX1_addCopy.cls ≠ "java/lang/invoke/MethodHandle" ∧ yX1_addCopy.cls ≠ "java/lang/invoke/VarHandle" ∧ (parseMethodDescriptor yX1_addCopy.desc).map (fun d => d.parameters.length) = some 3 := by decide +kernel
theorem ds_X1_addDeed : yX1_addDeed.cls ≠ "java/lang/invoke/MethodHandle" ∧ yX1_addDeed.cls ≠ "java/lang/invoke/VarHandle" ∧ (parseMethodDescriptor yX1_addDeed.desc).map (fun d => d.parameters.length) = some 4 := by decide +kernel
theorem ds_X1_addHand : yX1_addHand.cls ≠ "java/lang/invoke/MethodHandle" ∧ yX1_addHand.cls ≠ "java/lang/invoke/VarHandle" ∧ (parseMethodDescriptor yX1_addHand.desc).map (fun d => d.parameters.length) = some 2 := by decide +kernel
theorem ds_X1_become : yX1_become.cls ≠ "java/lang/invoke/MethodHandle" ∧ yX1_become.cls ≠ "java/lang/invoke/VarHandle" ∧ (parseMethodDescriptor yX1_become.desc).map (fun d => d.parameters.length) = some 1 := by decide +kernel
theorem ds_X1_begin : yX1_begin.cls ≠ "java/lang/invoke/MethodHandle" ∧ yX1_begin.cls ≠ "java/lang/invoke/VarHandle" ∧ (parseMethodDescriptor yX1_begin.desc).map (fun d => d.parameters.length) = some 0 := by decide +kernel
theorem ds_X1_blackBy : yX1_blackBy.cls ≠ "java/lang/invoke/MethodHandle" ∧ yX1_blackBy.cls ≠ "java/lang/invoke/VarHandle" ∧ (parseMethodDescriptor yX1_blackBy.desc).map (fun d => d.parameters.length) = some 1 := by decide +kernel
theorem ds_X1_copiesAt : yX1_copiesAt.cls ≠ "java/lang/invoke/MethodHandle" ∧ yX1_copiesAt.cls ≠ "java/lang/invoke/VarHandle" ∧ (parseMethodDescriptor yX1_copiesAt.desc).map (fun d => d.parameters.length) = some 1 := by decide +kernel
theorem ds_X1_copiesBy : yX1_copiesBy.cls ≠ "java/lang/invoke/MethodHandle" ∧ yX1_copiesBy.cls ≠ "java/lang/invoke/VarHandle" ∧ (parseMethodDescriptor yX1_copiesBy.desc).map (fun d => d.parameters.length) = some 1 := by decide +kernel
theorem ds_X1_isDrunk : yX1_isDrunk.cls ≠ "java/lang/invoke/MethodHandle" ∧ yX1_isDrunk.cls ≠ "java/lang/invoke/VarHandle" ∧ (parseMethodDescriptor yX1_isDrunk.desc).map (fun d => d.parameters.length) = some 1 := by decide +kernel
theorem ds_X1_isInLimit : yX1_isInLimit.cls ≠ "java/lang/invoke/MethodHandle" ∧ yX1_isInLimit.cls ≠ "java/lang/invoke/VarHandle" ∧ (parseMethodDescriptor yX1_isInLimit.desc).map (fun d => d.parameters.length) = some 2 := by decide +kernel
theorem ds_X1_limitOf : yX1_limitOf.cls ≠ "java/lang/invoke/MethodHandle" ∧ yX1_limitOf.cls ≠ "java/lang/invoke/VarHandle" ∧ (parseMethodDescriptor yX1_limitOf.desc).map (fun d => d.parameters.length) = some 2 := by decide +kernel
theorem ds_X1_mayRecall : yX1_mayRecall.cls ≠ "java/lang/invoke/MethodHandle" ∧ yX1_mayRecall.cls ≠ "java/lang/invoke/VarHandle" ∧ (parseMethodDescriptor yX1_mayRecall.desc).map (fun d => d.parameters.length) = some 3 := by decide +kernel
theorem ds_X1_mayRecallNow : yX1_mayRecallNow.cls ≠ "java/lang/invoke/MethodHandle" ∧ yX1_mayRecallNow.cls ≠ "java/lang/invoke/VarHandle" ∧ (parseMethodDescriptor yX1_mayRecallNow.desc).map (fun d => d.parameters.length) = some 1 := by decide +kernel
theorem ds_X1_passDay : yX1_passDay.cls ≠ "java/lang/invoke/MethodHandle" ∧ yX1_passDay.cls ≠ "java/lang/invoke/VarHandle" ∧ (parseMethodDescriptor yX1_passDay.desc).map (fun d => d.parameters.length) = some 0 := by decide +kernel
theorem ds_X1_recallableBy : yX1_recallableBy.cls ≠ "java/lang/invoke/MethodHandle" ∧ yX1_recallableBy.cls ≠ "java/lang/invoke/VarHandle" ∧ (parseMethodDescriptor yX1_recallableBy.desc).map (fun d => d.parameters.length) = some 2 := by decide +kernel
theorem ds_X1_standingBy : yX1_standingBy.cls ≠ "java/lang/invoke/MethodHandle" ∧ yX1_standingBy.cls ≠ "java/lang/invoke/VarHandle" ∧ (parseMethodDescriptor yX1_standingBy.desc).map (fun d => d.parameters.length) = some 1 := by decide +kernel
theorem ds_X1_standingOn : yX1_standingOn.cls ≠ "java/lang/invoke/MethodHandle" ∧ yX1_standingOn.cls ≠ "java/lang/invoke/VarHandle" ∧ (parseMethodDescriptor yX1_standingOn.desc).map (fun d => d.parameters.length) = some 1 := by decide +kernel
theorem ds_X1_unwhiteBy : yX1_unwhiteBy.cls ≠ "java/lang/invoke/MethodHandle" ∧ yX1_unwhiteBy.cls ≠ "java/lang/invoke/VarHandle" ∧ (parseMethodDescriptor yX1_unwhiteBy.desc).map (fun d => d.parameters.length) = some 1 := by decide +kernel
theorem ds_X1_whiteAfter : yX1_whiteAfter.cls ≠ "java/lang/invoke/MethodHandle" ∧ yX1_whiteAfter.cls ≠ "java/lang/invoke/VarHandle" ∧ (parseMethodDescriptor yX1_whiteAfter.desc).map (fun d => d.parameters.length) = some 2 := by decide +kernel
theorem ds_X1_whiteOn : yX1_whiteOn.cls ≠ "java/lang/invoke/MethodHandle" ∧ yX1_whiteOn.cls ≠ "java/lang/invoke/VarHandle" ∧ (parseMethodDescriptor yX1_whiteOn.desc).map (fun d => d.parameters.length) = some 2 := by decide +kernel
theorem ds_X2_answerOf : yX2_answerOf.cls ≠ "java/lang/invoke/MethodHandle" ∧ yX2_answerOf.cls ≠ "java/lang/invoke/VarHandle" ∧ (parseMethodDescriptor yX2_answerOf.desc).map (fun d => d.parameters.length) = some 3 := by decide +kernel
theorem ds_X2_askAnew : yX2_askAnew.cls ≠ "java/lang/invoke/MethodHandle" ∧ yX2_askAnew.cls ≠ "java/lang/invoke/VarHandle" ∧ (parseMethodDescriptor yX2_askAnew.desc).map (fun d => d.parameters.length) = some 4 := by decide +kernel
theorem ds_X2_isKindOf : yX2_isKindOf.cls ≠ "java/lang/invoke/MethodHandle" ∧ yX2_isKindOf.cls ≠ "java/lang/invoke/VarHandle" ∧ (parseMethodDescriptor yX2_isKindOf.desc).map (fun d => d.parameters.length) = some 2 := by decide +kernel
theorem ds_X2_leave : yX2_leave.cls ≠ "java/lang/invoke/MethodHandle" ∧ yX2_leave.cls ≠ "java/lang/invoke/VarHandle" ∧ (parseMethodDescriptor yX2_leave.desc).map (fun d => d.parameters.length) = some 1 := by decide +kernel
theorem ds_X2_nearest : yX2_nearest.cls ≠ "java/lang/invoke/MethodHandle" ∧ yX2_nearest.cls ≠ "java/lang/invoke/VarHandle" ∧ (parseMethodDescriptor yX2_nearest.desc).map (fun d => d.parameters.length) = some 2 := by decide +kernel
theorem ds_X2_runBody : yX2_runBody.cls ≠ "java/lang/invoke/MethodHandle" ∧ yX2_runBody.cls ≠ "java/lang/invoke/VarHandle" ∧ (parseMethodDescriptor yX2_runBody.desc).map (fun d => d.parameters.length) = some 4 := by decide +kernel
theorem ds_X3_bestOrder : yX3_bestOrder.cls ≠ "java/lang/invoke/MethodHandle" ∧ yX3_bestOrder.cls ≠ "java/lang/invoke/VarHandle" ∧ (parseMethodDescriptor yX3_bestOrder.desc).map (fun d => d.parameters.length) = some 1 := by decide +kernel
theorem ds_X3_bestPair : yX3_bestPair.cls ≠ "java/lang/invoke/MethodHandle" ∧ yX3_bestPair.cls ≠ "java/lang/invoke/VarHandle" ∧ (parseMethodDescriptor yX3_bestPair.desc).map (fun d => d.parameters.length) = some 1 := by decide +kernel
theorem ds_X3_blanksOf : yX3_blanksOf.cls ≠ "java/lang/invoke/MethodHandle" ∧ yX3_blanksOf.cls ≠ "java/lang/invoke/VarHandle" ∧ (parseMethodDescriptor yX3_blanksOf.desc).map (fun d => d.parameters.length) = some 3 := by decide +kernel
theorem ds_X3_byDraws : yX3_byDraws.cls ≠ "java/lang/invoke/MethodHandle" ∧ yX3_byDraws.cls ≠ "java/lang/invoke/VarHandle" ∧ (parseMethodDescriptor yX3_byDraws.desc).map (fun d => d.parameters.length) = some 4 := by decide +kernel
theorem ds_X3_cheapestBeside : yX3_cheapestBeside.cls ≠ "java/lang/invoke/MethodHandle" ∧ yX3_cheapestBeside.cls ≠ "java/lang/invoke/VarHandle" ∧ (parseMethodDescriptor yX3_cheapestBeside.desc).map (fun d => d.parameters.length) = some 2 := by decide +kernel
theorem ds_X3_couldWhiten : yX3_couldWhiten.cls ≠ "java/lang/invoke/MethodHandle" ∧ yX3_couldWhiten.cls ≠ "java/lang/invoke/VarHandle" ∧ (parseMethodDescriptor yX3_couldWhiten.desc).map (fun d => d.parameters.length) = some 3 := by decide +kernel
theorem ds_X3_doublesFor : yX3_doublesFor.cls ≠ "java/lang/invoke/MethodHandle" ∧ yX3_doublesFor.cls ≠ "java/lang/invoke/VarHandle" ∧ (parseMethodDescriptor yX3_doublesFor.desc).map (fun d => d.parameters.length) = some 4 := by decide +kernel
theorem ds_X3_fallenBy : yX3_fallenBy.cls ≠ "java/lang/invoke/MethodHandle" ∧ yX3_fallenBy.cls ≠ "java/lang/invoke/VarHandle" ∧ (parseMethodDescriptor yX3_fallenBy.desc).map (fun d => d.parameters.length) = some 2 := by decide +kernel
theorem ds_X3_fewestPlaces : yX3_fewestPlaces.cls ≠ "java/lang/invoke/MethodHandle" ∧ yX3_fewestPlaces.cls ≠ "java/lang/invoke/VarHandle" ∧ (parseMethodDescriptor yX3_fewestPlaces.desc).map (fun d => d.parameters.length) = some 3 := by decide +kernel
theorem ds_X3_firstFall : yX3_firstFall.cls ≠ "java/lang/invoke/MethodHandle" ∧ yX3_firstFall.cls ≠ "java/lang/invoke/VarHandle" ∧ (parseMethodDescriptor yX3_firstFall.desc).map (fun d => d.parameters.length) = some 3 := by decide +kernel
theorem ds_X3_forgedBy : yX3_forgedBy.cls ≠ "java/lang/invoke/MethodHandle" ∧ yX3_forgedBy.cls ≠ "java/lang/invoke/VarHandle" ∧ (parseMethodDescriptor yX3_forgedBy.desc).map (fun d => d.parameters.length) = some 3 := by decide +kernel
theorem ds_X3_gainOf : yX3_gainOf.cls ≠ "java/lang/invoke/MethodHandle" ∧ yX3_gainOf.cls ≠ "java/lang/invoke/VarHandle" ∧ (parseMethodDescriptor yX3_gainOf.desc).map (fun d => d.parameters.length) = some 2 := by decide +kernel
theorem ds_X3_handInOrder : yX3_handInOrder.cls ≠ "java/lang/invoke/MethodHandle" ∧ yX3_handInOrder.cls ≠ "java/lang/invoke/VarHandle" ∧ (parseMethodDescriptor yX3_handInOrder.desc).map (fun d => d.parameters.length) = some 3 := by decide +kernel
theorem ds_X3_leastYear : yX3_leastYear.cls ≠ "java/lang/invoke/MethodHandle" ∧ yX3_leastYear.cls ≠ "java/lang/invoke/VarHandle" ∧ (parseMethodDescriptor yX3_leastYear.desc).map (fun d => d.parameters.length) = some 3 := by decide +kernel
theorem ds_X3_lossBy : yX3_lossBy.cls ≠ "java/lang/invoke/MethodHandle" ∧ yX3_lossBy.cls ≠ "java/lang/invoke/VarHandle" ∧ (parseMethodDescriptor yX3_lossBy.desc).map (fun d => d.parameters.length) = some 2 := by decide +kernel
theorem ds_X3_safeFrom : yX3_safeFrom.cls ≠ "java/lang/invoke/MethodHandle" ∧ yX3_safeFrom.cls ≠ "java/lang/invoke/VarHandle" ∧ (parseMethodDescriptor yX3_safeFrom.desc).map (fun d => d.parameters.length) = some 2 := by decide +kernel
theorem ds_X3_selfOf : yX3_selfOf.cls ≠ "java/lang/invoke/MethodHandle" ∧ yX3_selfOf.cls ≠ "java/lang/invoke/VarHandle" ∧ (parseMethodDescriptor yX3_selfOf.desc).map (fun d => d.parameters.length) = some 4 := by decide +kernel
theorem ds_X3_sumOfOrder : yX3_sumOfOrder.cls ≠ "java/lang/invoke/MethodHandle" ∧ yX3_sumOfOrder.cls ≠ "java/lang/invoke/VarHandle" ∧ (parseMethodDescriptor yX3_sumOfOrder.desc).map (fun d => d.parameters.length) = some 2 := by decide +kernel
theorem ds_X3_weighAll : yX3_weighAll.cls ≠ "java/lang/invoke/MethodHandle" ∧ yX3_weighAll.cls ≠ "java/lang/invoke/VarHandle" ∧ (parseMethodDescriptor yX3_weighAll.desc).map (fun d => d.parameters.length) = some 1 := by decide +kernel
theorem ds_X3_widenBy : yX3_widenBy.cls ≠ "java/lang/invoke/MethodHandle" ∧ yX3_widenBy.cls ≠ "java/lang/invoke/VarHandle" ∧ (parseMethodDescriptor yX3_widenBy.desc).map (fun d => d.parameters.length) = some 3 := by decide +kernel
theorem ds_X4_append : yX4_append.cls ≠ "java/lang/invoke/MethodHandle" ∧ yX4_append.cls ≠ "java/lang/invoke/VarHandle" ∧ (parseMethodDescriptor yX4_append.desc).map (fun d => d.parameters.length) = some 1 := by decide +kernel
theorem ds_X4_fail : yX4_fail.cls ≠ "java/lang/invoke/MethodHandle" ∧ yX4_fail.cls ≠ "java/lang/invoke/VarHandle" ∧ (parseMethodDescriptor yX4_fail.desc).map (fun d => d.parameters.length) = some 1 := by decide +kernel
theorem ds_X4_isFigure : yX4_isFigure.cls ≠ "java/lang/invoke/MethodHandle" ∧ yX4_isFigure.cls ≠ "java/lang/invoke/VarHandle" ∧ (parseMethodDescriptor yX4_isFigure.desc).map (fun d => d.parameters.length) = some 1 := by decide +kernel
theorem ds_X4_kindOfSort : yX4_kindOfSort.cls ≠ "java/lang/invoke/MethodHandle" ∧ yX4_kindOfSort.cls ≠ "java/lang/invoke/VarHandle" ∧ (parseMethodDescriptor yX4_kindOfSort.desc).map (fun d => d.parameters.length) = some 1 := by decide +kernel
theorem ds_X4_next : yX4_next.cls ≠ "java/lang/invoke/MethodHandle" ∧ yX4_next.cls ≠ "java/lang/invoke/VarHandle" ∧ (parseMethodDescriptor yX4_next.desc).map (fun d => d.parameters.length) = some 0 := by decide +kernel
theorem ds_X4_readCopies : yX4_readCopies.cls ≠ "java/lang/invoke/MethodHandle" ∧ yX4_readCopies.cls ≠ "java/lang/invoke/VarHandle" ∧ (parseMethodDescriptor yX4_readCopies.desc).map (fun d => d.parameters.length) = some 0 := by decide +kernel
theorem ds_X4_readCopy : yX4_readCopy.cls ≠ "java/lang/invoke/MethodHandle" ∧ yX4_readCopy.cls ≠ "java/lang/invoke/VarHandle" ∧ (parseMethodDescriptor yX4_readCopy.desc).map (fun d => d.parameters.length) = some 0 := by decide +kernel
theorem ds_X4_readDeed : yX4_readDeed.cls ≠ "java/lang/invoke/MethodHandle" ∧ yX4_readDeed.cls ≠ "java/lang/invoke/VarHandle" ∧ (parseMethodDescriptor yX4_readDeed.desc).map (fun d => d.parameters.length) = some 0 := by decide +kernel
theorem ds_X4_readDeeds : yX4_readDeeds.cls ≠ "java/lang/invoke/MethodHandle" ∧ yX4_readDeeds.cls ≠ "java/lang/invoke/VarHandle" ∧ (parseMethodDescriptor yX4_readDeeds.desc).map (fun d => d.parameters.length) = some 0 := by decide +kernel
theorem ds_X4_readHand : yX4_readHand.cls ≠ "java/lang/invoke/MethodHandle" ∧ yX4_readHand.cls ≠ "java/lang/invoke/VarHandle" ∧ (parseMethodDescriptor yX4_readHand.desc).map (fun d => d.parameters.length) = some 0 := by decide +kernel
theorem ds_X4_readHands : yX4_readHands.cls ≠ "java/lang/invoke/MethodHandle" ∧ yX4_readHands.cls ≠ "java/lang/invoke/VarHandle" ∧ (parseMethodDescriptor yX4_readHands.desc).map (fun d => d.parameters.length) = some 0 := by decide +kernel
theorem ds_X4_readLaw : yX4_readLaw.cls ≠ "java/lang/invoke/MethodHandle" ∧ yX4_readLaw.cls ≠ "java/lang/invoke/VarHandle" ∧ (parseMethodDescriptor yX4_readLaw.desc).map (fun d => d.parameters.length) = some 0 := by decide +kernel
theorem ds_X4_readNumber : yX4_readNumber.cls ≠ "java/lang/invoke/MethodHandle" ∧ yX4_readNumber.cls ≠ "java/lang/invoke/VarHandle" ∧ (parseMethodDescriptor yX4_readNumber.desc).map (fun d => d.parameters.length) = some 2 := by decide +kernel
theorem ds_X4_readNumberAndSign : yX4_readNumberAndSign.cls ≠ "java/lang/invoke/MethodHandle" ∧ yX4_readNumberAndSign.cls ≠ "java/lang/invoke/VarHandle" ∧ (parseMethodDescriptor yX4_readNumberAndSign.desc).map (fun d => d.parameters.length) = some 3 := by decide +kernel
theorem ds_X4_readSign : yX4_readSign.cls ≠ "java/lang/invoke/MethodHandle" ∧ yX4_readSign.cls ≠ "java/lang/invoke/VarHandle" ∧ (parseMethodDescriptor yX4_readSign.desc).map (fun d => d.parameters.length) = some 1 := by decide +kernel
theorem ds_X4_readTape : yX4_readTape.cls ≠ "java/lang/invoke/MethodHandle" ∧ yX4_readTape.cls ≠ "java/lang/invoke/VarHandle" ∧ (parseMethodDescriptor yX4_readTape.desc).map (fun d => d.parameters.length) = some 0 := by decide +kernel
theorem ds_X5_hasPlaces : yX5_hasPlaces.cls ≠ "java/lang/invoke/MethodHandle" ∧ yX5_hasPlaces.cls ≠ "java/lang/invoke/VarHandle" ∧ (parseMethodDescriptor yX5_hasPlaces.desc).map (fun d => d.parameters.length) = some 3 := by decide +kernel
theorem ds_X5_isMissing : yX5_isMissing.cls ≠ "java/lang/invoke/MethodHandle" ∧ yX5_isMissing.cls ≠ "java/lang/invoke/VarHandle" ∧ (parseMethodDescriptor yX5_isMissing.desc).map (fun d => d.parameters.length) = some 1 := by decide +kernel
theorem ds_X5_lay : yX5_lay.cls ≠ "java/lang/invoke/MethodHandle" ∧ yX5_lay.cls ≠ "java/lang/invoke/VarHandle" ∧ (parseMethodDescriptor yX5_lay.desc).map (fun d => d.parameters.length) = some 3 := by decide +kernel
theorem ds_X5_present : yX5_present.cls ≠ "java/lang/invoke/MethodHandle" ∧ yX5_present.cls ≠ "java/lang/invoke/VarHandle" ∧ (parseMethodDescriptor yX5_present.desc).map (fun d => d.parameters.length) = some 0 := by decide +kernel
theorem ds_X5_put : yX5_put.cls ≠ "java/lang/invoke/MethodHandle" ∧ yX5_put.cls ≠ "java/lang/invoke/VarHandle" ∧ (parseMethodDescriptor yX5_put.desc).map (fun d => d.parameters.length) = some 3 := by decide +kernel
theorem ds_X6_bitOf : yX6_bitOf.cls ≠ "java/lang/invoke/MethodHandle" ∧ yX6_bitOf.cls ≠ "java/lang/invoke/VarHandle" ∧ (parseMethodDescriptor yX6_bitOf.desc).map (fun d => d.parameters.length) = some 2 := by decide +kernel
theorem ds_X6_found : yX6_found.cls ≠ "java/lang/invoke/MethodHandle" ∧ yX6_found.cls ≠ "java/lang/invoke/VarHandle" ∧ (parseMethodDescriptor yX6_found.desc).map (fun d => d.parameters.length) = some 1 := by decide +kernel
theorem ds_X6_imageOf : yX6_imageOf.cls ≠ "java/lang/invoke/MethodHandle" ∧ yX6_imageOf.cls ≠ "java/lang/invoke/VarHandle" ∧ (parseMethodDescriptor yX6_imageOf.desc).map (fun d => d.parameters.length) = some 1 := by decide +kernel
theorem ds_X6_isBelow : yX6_isBelow.cls ≠ "java/lang/invoke/MethodHandle" ∧ yX6_isBelow.cls ≠ "java/lang/invoke/VarHandle" ∧ (parseMethodDescriptor yX6_isBelow.desc).map (fun d => d.parameters.length) = some 2 := by decide +kernel
theorem ds_X6_isCopy : yX6_isCopy.cls ≠ "java/lang/invoke/MethodHandle" ∧ yX6_isCopy.cls ≠ "java/lang/invoke/VarHandle" ∧ (parseMethodDescriptor yX6_isCopy.desc).map (fun d => d.parameters.length) = some 1 := by decide +kernel
theorem ds_X6_isDeed : yX6_isDeed.cls ≠ "java/lang/invoke/MethodHandle" ∧ yX6_isDeed.cls ≠ "java/lang/invoke/VarHandle" ∧ (parseMethodDescriptor yX6_isDeed.desc).map (fun d => d.parameters.length) = some 1 := by decide +kernel
theorem ds_X6_isHand : yX6_isHand.cls ≠ "java/lang/invoke/MethodHandle" ∧ yX6_isHand.cls ≠ "java/lang/invoke/VarHandle" ∧ (parseMethodDescriptor yX6_isHand.desc).map (fun d => d.parameters.length) = some 1 := by decide +kernel
theorem ds_X6_isHandSet : yX6_isHandSet.cls ≠ "java/lang/invoke/MethodHandle" ∧ yX6_isHandSet.cls ≠ "java/lang/invoke/VarHandle" ∧ (parseMethodDescriptor yX6_isHandSet.desc).map (fun d => d.parameters.length) = some 1 := by decide +kernel
theorem ds_X6_isRow : yX6_isRow.cls ≠ "java/lang/invoke/MethodHandle" ∧ yX6_isRow.cls ≠ "java/lang/invoke/VarHandle" ∧ (parseMethodDescriptor yX6_isRow.desc).map (fun d => d.parameters.length) = some 1 := by decide +kernel
theorem ds_X6_unfound : yX6_unfound.cls ≠ "java/lang/invoke/MethodHandle" ∧ yX6_unfound.cls ≠ "java/lang/invoke/VarHandle" ∧ (parseMethodDescriptor yX6_unfound.desc).map (fun d => d.parameters.length) = some 1 := by decide +kernel
theorem ds_X7_areHands : yX7_areHands.cls ≠ "java/lang/invoke/MethodHandle" ∧ yX7_areHands.cls ≠ "java/lang/invoke/VarHandle" ∧ (parseMethodDescriptor yX7_areHands.desc).map (fun d => d.parameters.length) = some 1 := by decide +kernel
theorem ds_X7_bits : yX7_bits.cls ≠ "java/lang/invoke/MethodHandle" ∧ yX7_bits.cls ≠ "java/lang/invoke/VarHandle" ∧ (parseMethodDescriptor yX7_bits.desc).map (fun d => d.parameters.length) = some 1 := by decide +kernel
theorem ds_X7_black : yX7_black.cls ≠ "java/lang/invoke/MethodHandle" ∧ yX7_black.cls ≠ "java/lang/invoke/VarHandle" ∧ (parseMethodDescriptor yX7_black.desc).map (fun d => d.parameters.length) = some 1 := by decide +kernel
theorem ds_X7_blackOf : yX7_blackOf.cls ≠ "java/lang/invoke/MethodHandle" ∧ yX7_blackOf.cls ≠ "java/lang/invoke/VarHandle" ∧ (parseMethodDescriptor yX7_blackOf.desc).map (fun d => d.parameters.length) = some 1 := by decide +kernel
theorem ds_X7_canBe : yX7_canBe.cls ≠ "java/lang/invoke/MethodHandle" ∧ yX7_canBe.cls ≠ "java/lang/invoke/VarHandle" ∧ (parseMethodDescriptor yX7_canBe.desc).map (fun d => d.parameters.length) = some 2 := by decide +kernel
theorem ds_X7_copies : yX7_copies.cls ≠ "java/lang/invoke/MethodHandle" ∧ yX7_copies.cls ≠ "java/lang/invoke/VarHandle" ∧ (parseMethodDescriptor yX7_copies.desc).map (fun d => d.parameters.length) = some 4 := by decide +kernel
theorem ds_X7_copiesOf : yX7_copiesOf.cls ≠ "java/lang/invoke/MethodHandle" ∧ yX7_copiesOf.cls ≠ "java/lang/invoke/VarHandle" ∧ (parseMethodDescriptor yX7_copiesOf.desc).map (fun d => d.parameters.length) = some 2 := by decide +kernel
theorem ds_X7_dayGoes : yX7_dayGoes.cls ≠ "java/lang/invoke/MethodHandle" ∧ yX7_dayGoes.cls ≠ "java/lang/invoke/VarHandle" ∧ (parseMethodDescriptor yX7_dayGoes.desc).map (fun d => d.parameters.length) = some 1 := by decide +kernel
theorem ds_X7_fails : yX7_fails.cls ≠ "java/lang/invoke/MethodHandle" ∧ yX7_fails.cls ≠ "java/lang/invoke/VarHandle" ∧ (parseMethodDescriptor yX7_fails.desc).map (fun d => d.parameters.length) = some 1 := by decide +kernel
theorem ds_X7_fallsBy : yX7_fallsBy.cls ≠ "java/lang/invoke/MethodHandle" ∧ yX7_fallsBy.cls ≠ "java/lang/invoke/VarHandle" ∧ (parseMethodDescriptor yX7_fallsBy.desc).map (fun d => d.parameters.length) = some 1 := by decide +kernel
theorem ds_X7_found : yX7_found.cls ≠ "java/lang/invoke/MethodHandle" ∧ yX7_found.cls ≠ "java/lang/invoke/VarHandle" ∧ (parseMethodDescriptor yX7_found.desc).map (fun d => d.parameters.length) = some 1 := by decide +kernel
theorem ds_X7_handAt : yX7_handAt.cls ≠ "java/lang/invoke/MethodHandle" ∧ yX7_handAt.cls ≠ "java/lang/invoke/VarHandle" ∧ (parseMethodDescriptor yX7_handAt.desc).map (fun d => d.parameters.length) = some 2 := by decide +kernel
theorem ds_X7_in : yX7_in.cls ≠ "java/lang/invoke/MethodHandle" ∧ yX7_in.cls ≠ "java/lang/invoke/VarHandle" ∧ (parseMethodDescriptor yX7_in.desc).map (fun d => d.parameters.length) = some 3 := by decide +kernel
theorem ds_X7_isCopy : yX7_isCopy.cls ≠ "java/lang/invoke/MethodHandle" ∧ yX7_isCopy.cls ≠ "java/lang/invoke/VarHandle" ∧ (parseMethodDescriptor yX7_isCopy.desc).map (fun d => d.parameters.length) = some 1 := by decide +kernel
theorem ds_X7_isDeed : yX7_isDeed.cls ≠ "java/lang/invoke/MethodHandle" ∧ yX7_isDeed.cls ≠ "java/lang/invoke/VarHandle" ∧ (parseMethodDescriptor yX7_isDeed.desc).map (fun d => d.parameters.length) = some 1 := by decide +kernel
theorem ds_X7_isFigure : yX7_isFigure.cls ≠ "java/lang/invoke/MethodHandle" ∧ yX7_isFigure.cls ≠ "java/lang/invoke/VarHandle" ∧ (parseMethodDescriptor yX7_isFigure.desc).map (fun d => d.parameters.length) = some 1 := by decide +kernel
theorem ds_X7_isHand : yX7_isHand.cls ≠ "java/lang/invoke/MethodHandle" ∧ yX7_isHand.cls ≠ "java/lang/invoke/VarHandle" ∧ (parseMethodDescriptor yX7_isHand.desc).map (fun d => d.parameters.length) = some 1 := by decide +kernel
theorem ds_X7_isLetter : yX7_isLetter.cls ≠ "java/lang/invoke/MethodHandle" ∧ yX7_isLetter.cls ≠ "java/lang/invoke/VarHandle" ∧ (parseMethodDescriptor yX7_isLetter.desc).map (fun d => d.parameters.length) = some 1 := by decide +kernel
theorem ds_X7_isOf : yX7_isOf.cls ≠ "java/lang/invoke/MethodHandle" ∧ yX7_isOf.cls ≠ "java/lang/invoke/VarHandle" ∧ (parseMethodDescriptor yX7_isOf.desc).map (fun d => d.parameters.length) = some 2 := by decide +kernel
theorem ds_X7_isOrder : yX7_isOrder.cls ≠ "java/lang/invoke/MethodHandle" ∧ yX7_isOrder.cls ≠ "java/lang/invoke/VarHandle" ∧ (parseMethodDescriptor yX7_isOrder.desc).map (fun d => d.parameters.length) = some 1 := by decide +kernel
theorem ds_X7_isRow : yX7_isRow.cls ≠ "java/lang/invoke/MethodHandle" ∧ yX7_isRow.cls ≠ "java/lang/invoke/VarHandle" ∧ (parseMethodDescriptor yX7_isRow.desc).map (fun d => d.parameters.length) = some 1 := by decide +kernel
theorem ds_X7_isTwo : yX7_isTwo.cls ≠ "java/lang/invoke/MethodHandle" ∧ yX7_isTwo.cls ≠ "java/lang/invoke/VarHandle" ∧ (parseMethodDescriptor yX7_isTwo.desc).map (fun d => d.parameters.length) = some 1 := by decide +kernel
theorem ds_X7_layAside : yX7_layAside.cls ≠ "java/lang/invoke/MethodHandle" ∧ yX7_layAside.cls ≠ "java/lang/invoke/VarHandle" ∧ (parseMethodDescriptor yX7_layAside.desc).map (fun d => d.parameters.length) = some 0 := by decide +kernel
theorem ds_X7_leave : yX7_leave.cls ≠ "java/lang/invoke/MethodHandle" ∧ yX7_leave.cls ≠ "java/lang/invoke/VarHandle" ∧ (parseMethodDescriptor yX7_leave.desc).map (fun d => d.parameters.length) = some 1 := by decide +kernel
theorem ds_X7_limit : yX7_limit.cls ≠ "java/lang/invoke/MethodHandle" ∧ yX7_limit.cls ≠ "java/lang/invoke/VarHandle" ∧ (parseMethodDescriptor yX7_limit.desc).map (fun d => d.parameters.length) = some 2 := by decide +kernel
theorem ds_X7_lossBy : yX7_lossBy.cls ≠ "java/lang/invoke/MethodHandle" ∧ yX7_lossBy.cls ≠ "java/lang/invoke/VarHandle" ∧ (parseMethodDescriptor yX7_lossBy.desc).map (fun d => d.parameters.length) = some 1 := by decide +kernel
theorem ds_X7_mark : yX7_mark.cls ≠ "java/lang/invoke/MethodHandle" ∧ yX7_mark.cls ≠ "java/lang/invoke/VarHandle" ∧ (parseMethodDescriptor yX7_mark.desc).map (fun d => d.parameters.length) = some 1 := by decide +kernel
theorem ds_X7_mayRecall : yX7_mayRecall.cls ≠ "java/lang/invoke/MethodHandle" ∧ yX7_mayRecall.cls ≠ "java/lang/invoke/VarHandle" ∧ (parseMethodDescriptor yX7_mayRecall.desc).map (fun d => d.parameters.length) = some 2 := by decide +kernel
theorem ds_X7_next : yX7_next.cls ≠ "java/lang/invoke/MethodHandle" ∧ yX7_next.cls ≠ "java/lang/invoke/VarHandle" ∧ (parseMethodDescriptor yX7_next.desc).map (fun d => d.parameters.length) = some 0 := by decide +kernel
theorem ds_X7_number : yX7_number.cls ≠ "java/lang/invoke/MethodHandle" ∧ yX7_number.cls ≠ "java/lang/invoke/VarHandle" ∧ (parseMethodDescriptor yX7_number.desc).map (fun d => d.parameters.length) = some 3 := by decide +kernel
theorem ds_X7_reads : yX7_reads.cls ≠ "java/lang/invoke/MethodHandle" ∧ yX7_reads.cls ≠ "java/lang/invoke/VarHandle" ∧ (parseMethodDescriptor yX7_reads.desc).map (fun d => d.parameters.length) = some 0 := by decide +kernel
theorem ds_X7_readsCopy : yX7_readsCopy.cls ≠ "java/lang/invoke/MethodHandle" ∧ yX7_readsCopy.cls ≠ "java/lang/invoke/VarHandle" ∧ (parseMethodDescriptor yX7_readsCopy.desc).map (fun d => d.parameters.length) = some 0 := by decide +kernel
theorem ds_X7_readsDeed : yX7_readsDeed.cls ≠ "java/lang/invoke/MethodHandle" ∧ yX7_readsDeed.cls ≠ "java/lang/invoke/VarHandle" ∧ (parseMethodDescriptor yX7_readsDeed.desc).map (fun d => d.parameters.length) = some 0 := by decide +kernel
theorem ds_X7_readsHand : yX7_readsHand.cls ≠ "java/lang/invoke/MethodHandle" ∧ yX7_readsHand.cls ≠ "java/lang/invoke/VarHandle" ∧ (parseMethodDescriptor yX7_readsHand.desc).map (fun d => d.parameters.length) = some 1 := by decide +kernel
theorem ds_X7_readsLaw : yX7_readsLaw.cls ≠ "java/lang/invoke/MethodHandle" ∧ yX7_readsLaw.cls ≠ "java/lang/invoke/VarHandle" ∧ (parseMethodDescriptor yX7_readsLaw.desc).map (fun d => d.parameters.length) = some 0 := by decide +kernel
theorem ds_X7_readsOne : yX7_readsOne.cls ≠ "java/lang/invoke/MethodHandle" ∧ yX7_readsOne.cls ≠ "java/lang/invoke/VarHandle" ∧ (parseMethodDescriptor yX7_readsOne.desc).map (fun d => d.parameters.length) = some 0 := by decide +kernel
theorem ds_X7_recalls : yX7_recalls.cls ≠ "java/lang/invoke/MethodHandle" ∧ yX7_recalls.cls ≠ "java/lang/invoke/VarHandle" ∧ (parseMethodDescriptor yX7_recalls.desc).map (fun d => d.parameters.length) = some 2 := by decide +kernel
theorem ds_X7_remember : yX7_remember.cls ≠ "java/lang/invoke/MethodHandle" ∧ yX7_remember.cls ≠ "java/lang/invoke/VarHandle" ∧ (parseMethodDescriptor yX7_remember.desc).map (fun d => d.parameters.length) = some 0 := by decide +kernel
theorem ds_X7_sign : yX7_sign.cls ≠ "java/lang/invoke/MethodHandle" ∧ yX7_sign.cls ≠ "java/lang/invoke/VarHandle" ∧ (parseMethodDescriptor yX7_sign.desc).map (fun d => d.parameters.length) = some 1 := by decide +kernel
theorem ds_X7_sizeOf : yX7_sizeOf.cls ≠ "java/lang/invoke/MethodHandle" ∧ yX7_sizeOf.cls ≠ "java/lang/invoke/VarHandle" ∧ (parseMethodDescriptor yX7_sizeOf.desc).map (fun d => d.parameters.length) = some 1 := by decide +kernel
theorem ds_X7_sortOf : yX7_sortOf.cls ≠ "java/lang/invoke/MethodHandle" ∧ yX7_sortOf.cls ≠ "java/lang/invoke/VarHandle" ∧ (parseMethodDescriptor yX7_sortOf.desc).map (fun d => d.parameters.length) = some 1 := by decide +kernel
theorem ds_X7_stand : yX7_stand.cls ≠ "java/lang/invoke/MethodHandle" ∧ yX7_stand.cls ≠ "java/lang/invoke/VarHandle" ∧ (parseMethodDescriptor yX7_stand.desc).map (fun d => d.parameters.length) = some 1 := by decide +kernel
theorem ds_X7_standBy : yX7_standBy.cls ≠ "java/lang/invoke/MethodHandle" ∧ yX7_standBy.cls ≠ "java/lang/invoke/VarHandle" ∧ (parseMethodDescriptor yX7_standBy.desc).map (fun d => d.parameters.length) = some 2 := by decide +kernel
theorem ds_X7_well : yX7_well.cls ≠ "java/lang/invoke/MethodHandle" ∧ yX7_well.cls ≠ "java/lang/invoke/VarHandle" ∧ (parseMethodDescriptor yX7_well.desc).map (fun d => d.parameters.length) = some 1 := by decide +kernel
theorem ds_X7_whiteSet : yX7_whiteSet.cls ≠ "java/lang/invoke/MethodHandle" ∧ yX7_whiteSet.cls ≠ "java/lang/invoke/VarHandle" ∧ (parseMethodDescriptor yX7_whiteSet.desc).map (fun d => d.parameters.length) = some 1 := by decide +kernel
theorem ds_X7_whites : yX7_whites.cls ≠ "java/lang/invoke/MethodHandle" ∧ yX7_whites.cls ≠ "java/lang/invoke/VarHandle" ∧ (parseMethodDescriptor yX7_whites.desc).map (fun d => d.parameters.length) = some 1 := by decide +kernel
theorem tn_0 : (0 : Int32).toNatClampNeg = 0 := by decide +kernel
theorem tn_1 : (1 : Int32).toNatClampNeg = 1 := by decide +kernel
theorem tn_2 : (2 : Int32).toNatClampNeg = 2 := by decide +kernel
theorem tn_3 : (3 : Int32).toNatClampNeg = 3 := by decide +kernel
theorem tn_4 : (4 : Int32).toNatClampNeg = 4 := by decide +kernel
theorem tn_5 : (5 : Int32).toNatClampNeg = 5 := by decide +kernel
theorem tn_6 : (6 : Int32).toNatClampNeg = 6 := by decide +kernel
theorem ib_0_85 : inB 0 85 = true := by decide +kernel
theorem ib_0_91 : inB 0 91 = true := by decide +kernel
theorem ib_1_85 : inB 1 85 = true := by decide +kernel
theorem ib_2_85 : inB 2 85 = true := by decide +kernel
theorem ib_3_85 : inB 3 85 = true := by decide +kernel
theorem ib_4_85 : inB 4 85 = true := by decide +kernel
theorem ib_5_85 : inB 5 85 = true := by decide +kernel
theorem ib_6_85 : inB 6 85 = true := by decide +kernel
