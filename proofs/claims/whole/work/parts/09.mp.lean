section EC2
def e_mpk (q : Nat × Nat × Nat × Nat × Nat × Nat) : Bool :=
  goodWord (e_cw q.1) && decide (lw_tbl[q.2.2.2.1]? = some (bif Nat.beq q.2.2.1 0 then .static (e_yn q.1) else .instanceMethod (e_yn q.1))) && (Nat.beq q.2.2.2.2.1 99999 || decide (lw_tbl[q.2.2.2.2.1]? = some (.selects (e_yn q.1).cls (e_yn q.1) (e_yn q.1)))) && decide (lw_tbl[q.2.2.2.2.2]? = some (.initialized (e_yn q.1).cls)) && plainFor (e_yn q.1) && decide ((e_yn q.1).cls ≠ "java/lang/invoke/MethodHandle") && decide ((e_yn q.1).cls ≠ "java/lang/invoke/VarHandle") && Nat.blt (e_own q.1) 21 && decide (e_on (e_own q.1) = (e_yn q.1).cls) && Nat.ble (e_mL q.1) 20
set_option maxRecDepth 20000 in
theorem e_cwp_0 : lw_tbl[159]? = some (e_cw 0) := by rfl
set_option maxRecDepth 20000 in
theorem e_cwp_1 : lw_tbl[980]? = some (e_cw 1) := by rfl
set_option maxRecDepth 20000 in
theorem e_cwp_2 : lw_tbl[1025]? = some (e_cw 2) := by rfl
set_option maxRecDepth 20000 in
theorem e_cwp_3 : lw_tbl[1067]? = some (e_cw 3) := by rfl
set_option maxRecDepth 20000 in
theorem e_cwp_4 : lw_tbl[1076]? = some (e_cw 4) := by rfl
set_option maxRecDepth 20000 in
theorem e_cwp_5 : lw_tbl[1090]? = some (e_cw 5) := by rfl
set_option maxRecDepth 20000 in
theorem e_cwp_6 : lw_tbl[1086]? = some (e_cw 6) := by rfl
set_option maxRecDepth 20000 in
theorem e_cwp_7 : lw_tbl[1174]? = some (e_cw 7) := by rfl
set_option maxRecDepth 20000 in
theorem e_cwp_8 : lw_tbl[1170]? = some (e_cw 8) := by rfl
set_option maxRecDepth 20000 in
theorem e_cwp_9 : lw_tbl[1469]? = some (e_cw 9) := by rfl
set_option maxRecDepth 20000 in
theorem e_cwp_10 : lw_tbl[1481]? = some (e_cw 10) := by rfl
set_option maxRecDepth 20000 in
theorem e_cwp_11 : lw_tbl[448]? = some (e_cw 11) := by rfl
set_option maxRecDepth 20000 in
theorem e_cwp_12 : lw_tbl[676]? = some (e_cw 12) := by rfl
set_option maxRecDepth 20000 in
theorem e_cwp_13 : lw_tbl[682]? = some (e_cw 13) := by rfl
set_option maxRecDepth 20000 in
theorem e_cwp_14 : lw_tbl[686]? = some (e_cw 14) := by rfl
set_option maxRecDepth 20000 in
theorem e_cwp_15 : lw_tbl[690]? = some (e_cw 15) := by rfl
set_option maxRecDepth 20000 in
theorem e_cwp_16 : lw_tbl[703]? = some (e_cw 16) := by rfl
set_option maxRecDepth 20000 in
theorem e_cwp_17 : lw_tbl[736]? = some (e_cw 17) := by rfl
set_option maxRecDepth 20000 in
theorem e_cwp_18 : lw_tbl[1320]? = some (e_cw 18) := by rfl
set_option maxRecDepth 20000 in
theorem e_cwp_19 : lw_tbl[1339]? = some (e_cw 19) := by rfl
set_option maxRecDepth 20000 in
theorem e_cwp_20 : lw_tbl[1430]? = some (e_cw 20) := by rfl
set_option maxRecDepth 20000 in
theorem e_cwp_21 : lw_tbl[513]? = some (e_cw 21) := by rfl
set_option maxRecDepth 20000 in
theorem e_cwp_22 : lw_tbl[1435]? = some (e_cw 22) := by rfl
set_option maxRecDepth 20000 in
theorem e_cwp_23 : lw_tbl[1443]? = some (e_cw 23) := by rfl
set_option maxRecDepth 20000 in
theorem e_cwp_24 : lw_tbl[1456]? = some (e_cw 24) := by rfl
set_option maxRecDepth 20000 in
theorem e_cwp_25 : lw_tbl[165]? = some (e_cw 25) := by rfl
set_option maxRecDepth 20000 in
theorem e_cwp_26 : lw_tbl[1034]? = some (e_cw 26) := by rfl
set_option maxRecDepth 20000 in
theorem e_cwp_27 : lw_tbl[1059]? = some (e_cw 27) := by rfl
set_option maxRecDepth 20000 in
theorem e_cwp_28 : lw_tbl[644]? = some (e_cw 28) := by rfl
set_option maxRecDepth 20000 in
theorem e_cwp_29 : lw_tbl[1359]? = some (e_cw 29) := by rfl
set_option maxRecDepth 20000 in
theorem e_cwp_30 : lw_tbl[1053]? = some (e_cw 30) := by rfl
set_option maxRecDepth 20000 in
theorem e_cwp_31 : lw_tbl[1265]? = some (e_cw 31) := by rfl
set_option maxRecDepth 20000 in
theorem e_cwp_32 : lw_tbl[1049]? = some (e_cw 32) := by rfl
set_option maxRecDepth 20000 in
theorem e_cwp_33 : lw_tbl[741]? = some (e_cw 33) := by rfl
set_option maxRecDepth 20000 in
theorem e_cwp_34 : lw_tbl[1354]? = some (e_cw 34) := by rfl
set_option maxRecDepth 20000 in
theorem e_cwp_35 : lw_tbl[1364]? = some (e_cw 35) := by rfl
set_option maxRecDepth 20000 in
theorem e_cwp_36 : lw_tbl[1384]? = some (e_cw 36) := by rfl
set_option maxRecDepth 20000 in
theorem e_cwp_37 : lw_tbl[1389]? = some (e_cw 37) := by rfl
set_option maxRecDepth 20000 in
theorem e_cwp_38 : lw_tbl[1393]? = some (e_cw 38) := by rfl
set_option maxRecDepth 20000 in
theorem e_cwp_39 : lw_tbl[1540]? = some (e_cw 39) := by rfl
set_option maxRecDepth 20000 in
theorem e_cwp_40 : lw_tbl[535]? = some (e_cw 40) := by rfl
set_option maxRecDepth 20000 in
theorem e_cwp_41 : lw_tbl[1499]? = some (e_cw 41) := by rfl
set_option maxRecDepth 20000 in
theorem e_cwp_42 : lw_tbl[1508]? = some (e_cw 42) := by rfl
set_option maxRecDepth 20000 in
theorem e_cwp_43 : lw_tbl[1504]? = some (e_cw 43) := by rfl
set_option maxRecDepth 20000 in
theorem e_cwp_44 : lw_tbl[1515]? = some (e_cw 44) := by rfl
set_option maxRecDepth 20000 in
theorem e_cwp_45 : lw_tbl[364]? = some (e_cw 45) := by rfl
set_option maxRecDepth 20000 in
theorem e_cwp_46 : lw_tbl[558]? = some (e_cw 46) := by rfl
set_option maxRecDepth 20000 in
theorem e_cwp_47 : lw_tbl[672]? = some (e_cw 47) := by rfl
set_option maxRecDepth 20000 in
theorem e_cwp_48 : lw_tbl[1224]? = some (e_cw 48) := by rfl
set_option maxRecDepth 20000 in
theorem e_cwp_49 : lw_tbl[637]? = some (e_cw 49) := by rfl
set_option maxRecDepth 20000 in
theorem e_cwp_50 : lw_tbl[1269]? = some (e_cw 50) := by rfl
set_option maxRecDepth 20000 in
theorem e_cwp_51 : lw_tbl[633]? = some (e_cw 51) := by rfl
set_option maxRecDepth 20000 in
theorem e_cwp_52 : lw_tbl[1207]? = some (e_cw 52) := by rfl
set_option maxRecDepth 20000 in
theorem e_cwp_53 : lw_tbl[698]? = some (e_cw 53) := by rfl
set_option maxRecDepth 20000 in
theorem e_cwp_54 : lw_tbl[1290]? = some (e_cw 54) := by rfl
set_option maxRecDepth 20000 in
theorem e_cwp_55 : lw_tbl[707]? = some (e_cw 55) := by rfl
set_option maxRecDepth 20000 in
theorem e_cwp_56 : lw_tbl[750]? = some (e_cw 56) := by rfl
set_option maxRecDepth 20000 in
theorem e_cwp_57 : lw_tbl[746]? = some (e_cw 57) := by rfl
set_option maxRecDepth 20000 in
theorem e_cwp_58 : lw_tbl[1522]? = some (e_cw 58) := by rfl
set_option maxRecDepth 20000 in
theorem e_cwp_59 : lw_tbl[298]? = some (e_cw 59) := by rfl
set_option maxRecDepth 20000 in
theorem e_cwp_60 : lw_tbl[883]? = some (e_cw 60) := by rfl
set_option maxRecDepth 20000 in
theorem e_cwp_61 : lw_tbl[996]? = some (e_cw 61) := by rfl
set_option maxRecDepth 20000 in
theorem e_cwp_62 : lw_tbl[988]? = some (e_cw 62) := by rfl
set_option maxRecDepth 20000 in
theorem e_cwp_63 : lw_tbl[1012]? = some (e_cw 63) := by rfl
set_option maxRecDepth 20000 in
theorem e_cwp_64 : lw_tbl[1149]? = some (e_cw 64) := by rfl
set_option maxRecDepth 20000 in
theorem e_cwp_65 : lw_tbl[1017]? = some (e_cw 65) := by rfl
set_option maxRecDepth 20000 in
theorem e_cwp_66 : lw_tbl[1043]? = some (e_cw 66) := by rfl
set_option maxRecDepth 20000 in
theorem e_cwp_67 : lw_tbl[1021]? = some (e_cw 67) := by rfl
set_option maxRecDepth 20000 in
theorem e_cwp_68 : lw_tbl[1008]? = some (e_cw 68) := by rfl
set_option maxRecDepth 20000 in
theorem e_cwp_69 : lw_tbl[1030]? = some (e_cw 69) := by rfl
set_option maxRecDepth 20000 in
theorem e_cwp_70 : lw_tbl[1039]? = some (e_cw 70) := by rfl
set_option maxRecDepth 20000 in
theorem e_cwp_71 : lw_tbl[1063]? = some (e_cw 71) := by rfl
set_option maxRecDepth 20000 in
theorem e_cwp_72 : lw_tbl[1071]? = some (e_cw 72) := by rfl
set_option maxRecDepth 20000 in
theorem e_cwp_73 : lw_tbl[1082]? = some (e_cw 73) := by rfl
set_option maxRecDepth 20000 in
theorem e_cwp_74 : lw_tbl[1094]? = some (e_cw 74) := by rfl
set_option maxRecDepth 20000 in
theorem e_cwp_75 : lw_tbl[1117]? = some (e_cw 75) := by rfl
set_option maxRecDepth 20000 in
theorem e_cwp_76 : lw_tbl[1153]? = some (e_cw 76) := by rfl
set_option maxRecDepth 20000 in
theorem e_cwp_77 : lw_tbl[1099]? = some (e_cw 77) := by rfl
set_option maxRecDepth 20000 in
theorem e_cwp_78 : lw_tbl[1107]? = some (e_cw 78) := by rfl
set_option maxRecDepth 20000 in
theorem e_cwp_79 : lw_tbl[1111]? = some (e_cw 79) := by rfl
set_option maxRecDepth 20000 in
theorem e_cwp_80 : lw_tbl[1121]? = some (e_cw 80) := by rfl
set_option maxRecDepth 20000 in
theorem e_cwp_81 : lw_tbl[1125]? = some (e_cw 81) := by rfl
set_option maxRecDepth 20000 in
theorem e_cwp_82 : lw_tbl[1129]? = some (e_cw 82) := by rfl
set_option maxRecDepth 20000 in
theorem e_cwp_83 : lw_tbl[1133]? = some (e_cw 83) := by rfl
set_option maxRecDepth 20000 in
theorem e_cwp_84 : lw_tbl[1145]? = some (e_cw 84) := by rfl
set_option maxRecDepth 20000 in
theorem e_cwp_85 : lw_tbl[1137]? = some (e_cw 85) := by rfl
set_option maxRecDepth 20000 in
theorem e_cwp_86 : lw_tbl[205]? = some (e_cw 86) := by rfl
set_option maxRecDepth 20000 in
theorem e_cwp_87 : lw_tbl[984]? = some (e_cw 87) := by rfl
set_option maxRecDepth 20000 in
theorem e_cwp_88 : lw_tbl[711]? = some (e_cw 88) := by rfl
set_option maxRecDepth 20000 in
theorem e_cwp_89 : lw_tbl[1141]? = some (e_cw 89) := by rfl
set_option maxRecDepth 20000 in
theorem e_cwp_90 : lw_tbl[715]? = some (e_cw 90) := by rfl
set_option maxRecDepth 20000 in
theorem e_cwp_91 : lw_tbl[727]? = some (e_cw 91) := by rfl
set_option maxRecDepth 20000 in
theorem e_cwp_92 : lw_tbl[731]? = some (e_cw 92) := by rfl
set_option maxRecDepth 20000 in
theorem e_cwp_93 : lw_tbl[358]? = some (e_cw 93) := by rfl
set_option maxRecDepth 20000 in
theorem e_cwp_94 : lw_tbl[554]? = some (e_cw 94) := by rfl
set_option maxRecDepth 20000 in
theorem e_cwp_95 : lw_tbl[775]? = some (e_cw 95) := by rfl
set_option maxRecDepth 20000 in
theorem e_cwp_96 : lw_tbl[668]? = some (e_cw 96) := by rfl
set_option maxRecDepth 20000 in
theorem e_cwp_97 : lw_tbl[661]? = some (e_cw 97) := by rfl
set_option maxRecDepth 20000 in
theorem e_cwp_98 : lw_tbl[767]? = some (e_cw 98) := by rfl
set_option maxRecDepth 20000 in
theorem e_cwp_99 : lw_tbl[1413]? = some (e_cw 99) := by rfl
set_option maxRecDepth 20000 in
theorem e_cwp_100 : lw_tbl[1425]? = some (e_cw 100) := by rfl
set_option maxRecDepth 20000 in
theorem e_cwp_101 : lw_tbl[304]? = some (e_cw 101) := by rfl
set_option maxRecDepth 20000 in
theorem e_cwp_102 : lw_tbl[887]? = some (e_cw 102) := by rfl
set_option maxRecDepth 20000 in
theorem e_cwp_103 : lw_tbl[961]? = some (e_cw 103) := by rfl
set_option maxRecDepth 20000 in
theorem e_cwp_104 : lw_tbl[896]? = some (e_cw 104) := by rfl
set_option maxRecDepth 20000 in
theorem e_cwp_105 : lw_tbl[903]? = some (e_cw 105) := by rfl
set_option maxRecDepth 20000 in
theorem e_cwp_106 : lw_tbl[909]? = some (e_cw 106) := by rfl
set_option maxRecDepth 20000 in
theorem e_cwp_107 : lw_tbl[969]? = some (e_cw 107) := by rfl
set_option maxRecDepth 20000 in
theorem e_cwp_108 : lw_tbl[892]? = some (e_cw 108) := by rfl
set_option maxRecDepth 20000 in
theorem e_cwp_109 : lw_tbl[899]? = some (e_cw 109) := by rfl
set_option maxRecDepth 20000 in
theorem e_cwp_110 : lw_tbl[965]? = some (e_cw 110) := by rfl
set_option maxRecDepth 20000 in
theorem e_cwp_111 : lw_tbl[972]? = some (e_cw 111) := by rfl
set_option maxRecDepth 20000 in
theorem e_cwp_112 : lw_tbl[976]? = some (e_cw 112) := by rfl
set_option maxRecDepth 20000 in
theorem e_cwp_113 : lw_tbl[1103]? = some (e_cw 113) := by rfl
set_option maxRecDepth 20000 in
theorem e_cwp_114 : lw_tbl[992]? = some (e_cw 114) := by rfl
set_option maxRecDepth 20000 in
theorem e_cwp_115 : lw_tbl[151]? = some (e_cw 115) := by rfl
set_option maxRecDepth 20000 in
theorem e_cwp_116 : lw_tbl[614]? = some (e_cw 116) := by rfl
set_option maxRecDepth 20000 in
theorem e_cwp_117 : lw_tbl[618]? = some (e_cw 117) := by rfl
set_option maxRecDepth 20000 in
theorem e_cwp_118 : lw_tbl[812]? = some (e_cw 118) := by rfl
set_option maxRecDepth 20000 in
theorem e_cwp_119 : lw_tbl[625]? = some (e_cw 119) := by rfl
set_option maxRecDepth 20000 in
theorem e_cwp_120 : lw_tbl[656]? = some (e_cw 120) := by rfl
set_option maxRecDepth 20000 in
theorem e_cwp_121 : lw_tbl[1165]? = some (e_cw 121) := by rfl
set_option maxRecDepth 20000 in
theorem e_cwp_122 : lw_tbl[1198]? = some (e_cw 122) := by rfl
set_option maxRecDepth 20000 in
theorem e_cwp_123 : lw_tbl[1215]? = some (e_cw 123) := by rfl
set_option maxRecDepth 20000 in
theorem e_cwp_124 : lw_tbl[1234]? = some (e_cw 124) := by rfl
set_option maxRecDepth 20000 in
theorem e_cwp_125 : lw_tbl[1248]? = some (e_cw 125) := by rfl
set_option maxRecDepth 20000 in
theorem e_cwp_126 : lw_tbl[629]? = some (e_cw 126) := by rfl
set_option maxRecDepth 20000 in
theorem e_cwp_127 : lw_tbl[652]? = some (e_cw 127) := by rfl
set_option maxRecDepth 20000 in
theorem e_cwp_128 : lw_tbl[1256]? = some (e_cw 128) := by rfl
set_option maxRecDepth 20000 in
theorem e_cwp_129 : lw_tbl[1277]? = some (e_cw 129) := by rfl
set_option maxRecDepth 20000 in
theorem e_cwp_130 : lw_tbl[1286]? = some (e_cw 130) := by rfl
set_option maxRecDepth 20000 in
theorem e_cwp_131 : lw_tbl[759]? = some (e_cw 131) := by rfl
set_option maxRecDepth 20000 in
theorem e_cwp_132 : lw_tbl[763]? = some (e_cw 132) := by rfl
set_option maxRecDepth 20000 in
theorem e_cwp_133 : lw_tbl[771]? = some (e_cw 133) := by rfl
set_option maxRecDepth 20000 in
theorem e_cwp_134 : lw_tbl[780]? = some (e_cw 134) := by rfl
set_option maxRecDepth 20000 in
theorem e_cwp_135 : lw_tbl[792]? = some (e_cw 135) := by rfl
set_option maxRecDepth 20000 in
theorem e_cwp_136 : lw_tbl[1350]? = some (e_cw 136) := by rfl
set_option maxRecDepth 20000 in
theorem e_cwp_137 : lw_tbl[1297]? = some (e_cw 137) := by rfl
set_option maxRecDepth 20000 in
theorem e_cwp_138 : lw_tbl[1308]? = some (e_cw 138) := by rfl
set_option maxRecDepth 20000 in
theorem e_cwp_139 : lw_tbl[1315]? = some (e_cw 139) := by rfl
set_option maxRecDepth 20000 in
theorem e_cwp_140 : lw_tbl[1327]? = some (e_cw 140) := by rfl
set_option maxRecDepth 20000 in
theorem e_cwp_141 : lw_tbl[1335]? = some (e_cw 141) := by rfl
set_option maxRecDepth 20000 in
theorem e_cwp_142 : lw_tbl[1401]? = some (e_cw 142) := by rfl
set_option maxRecDepth 20000 in
theorem e_cwp_143 : lw_tbl[784]? = some (e_cw 143) := by rfl
set_option maxRecDepth 20000 in
theorem e_cwp_144 : lw_tbl[788]? = some (e_cw 144) := by rfl
set_option maxRecDepth 20000 in
theorem e_cwp_145 : lw_tbl[796]? = some (e_cw 145) := by rfl
set_option maxRecDepth 20000 in
theorem e_cwp_146 : lw_tbl[1547]? = some (e_cw 146) := by rfl
set_option maxRecDepth 20000 in
theorem e_cwp_147 : lw_tbl[800]? = some (e_cw 147) := by rfl
set_option maxRecDepth 20000 in
theorem e_cwp_148 : lw_tbl[1554]? = some (e_cw 148) := by rfl
set_option maxRecDepth 20000 in
theorem e_cwp_149 : lw_tbl[1346]? = some (e_cw 149) := by rfl
set_option maxRecDepth 20000 in
theorem e_cwp_150 : lw_tbl[1372]? = some (e_cw 150) := by rfl
set_option maxRecDepth 20000 in
theorem e_cwp_151 : lw_tbl[1379]? = some (e_cw 151) := by rfl
set_option maxRecDepth 20000 in
theorem e_cwp_152 : lw_tbl[1529]? = some (e_cw 152) := by rfl
set_option maxRecDepth 20000 in
theorem e_cwp_153 : lw_tbl[1536]? = some (e_cw 153) := by rfl
set_option maxRecDepth 20000 in
theorem e_cwp_154 : lw_tbl[1409]? = some (e_cw 154) := by rfl
set_option maxRecDepth 20000 in
theorem e_cwp_155 : lw_tbl[804]? = some (e_cw 155) := by rfl
set_option maxRecDepth 20000 in
theorem e_cwp_156 : lw_tbl[1421]? = some (e_cw 156) := by rfl
set_option maxRecDepth 20000 in
theorem e_cwp_157 : lw_tbl[1452]? = some (e_cw 157) := by rfl
set_option maxRecDepth 20000 in
theorem e_cwp_158 : lw_tbl[1464]? = some (e_cw 158) := by rfl
set_option maxRecDepth 20000 in
theorem e_cwp_159 : lw_tbl[1476]? = some (e_cw 159) := by rfl
set_option maxRecDepth 20000 in
theorem e_cwp_160 : lw_tbl[1484]? = some (e_cw 160) := by rfl
set_option maxRecDepth 20000 in
theorem e_cwp_161 : lw_tbl[1487]? = some (e_cw 161) := by rfl
set_option maxRecDepth 20000 in
theorem e_cwp_162 : lw_tbl[1494]? = some (e_cw 162) := by rfl
set_option maxRecDepth 20000 in
theorem e_cwp_163 : lw_tbl[1562]? = some (e_cw 163) := by rfl
set_option maxRecDepth 20000 in
theorem e_cwp_164 : lw_tbl[1202]? = some (e_cw 164) := by rfl
set_option maxRecDepth 20000 in
theorem e_cwp_165 : lw_tbl[1219]? = some (e_cw 165) := by rfl
set_option maxRecDepth 20000 in
theorem e_cwp_166 : lw_tbl[1260]? = some (e_cw 166) := by rfl
set_option maxRecDepth 20000 in
theorem e_cwp_167 : lw_tbl[1238]? = some (e_cw 167) := by rfl
set_option maxRecDepth 20000 in
theorem e_cwp_168 : lw_tbl[1300]? = some (e_cw 168) := by rfl
set_option maxRecDepth 20000 in
theorem e_cwp_169 : lw_tbl[640]? = some (e_cw 169) := by rfl
set_option maxRecDepth 20000 in
theorem e_cwp_170 : lw_tbl[621]? = some (e_cw 170) := by rfl
set_option maxRecDepth 20000 in
theorem e_cwp_171 : lw_tbl[564]? = some (e_cw 171) := by rfl
set_option maxRecDepth 20000 in
theorem e_cwp_172 : lw_tbl[561]? = some (e_cw 172) := by rfl
set_option maxRecDepth 20000 in
theorem e_cwp_173 : lw_tbl[648]? = some (e_cw 173) := by rfl
set_option maxRecDepth 20000 in
theorem e_cwp_174 : lw_tbl[693]? = some (e_cw 174) := by rfl
set_option maxRecDepth 20000 in
theorem e_cwp_175 : lw_tbl[1568]? = some (e_cw 175) := by rfl
set_option maxRecDepth 20000 in
theorem e_cwp_176 : lw_tbl[1836]? = some (e_cw 176) := by rfl
set_option maxRecDepth 20000 in
theorem e_cwp_177 : lw_tbl[1852]? = some (e_cw 177) := by rfl
set_option maxRecDepth 20000 in
theorem e_cwp_178 : lw_tbl[1994]? = some (e_cw 178) := by rfl
set_option maxRecDepth 20000 in
theorem e_cwp_179 : lw_tbl[2049]? = some (e_cw 179) := by rfl
set_option maxRecDepth 20000 in
theorem e_cwp_180 : lw_tbl[1979]? = some (e_cw 180) := by rfl
set_option maxRecDepth 20000 in
theorem e_cwp_181 : lw_tbl[2060]? = some (e_cw 181) := by rfl
set_option maxRecDepth 20000 in
theorem e_cwp_182 : lw_tbl[1840]? = some (e_cw 182) := by rfl
set_option maxRecDepth 20000 in
theorem e_cwp_183 : lw_tbl[1844]? = some (e_cw 183) := by rfl
set_option maxRecDepth 20000 in
theorem e_cwp_184 : lw_tbl[1860]? = some (e_cw 184) := by rfl
set_option maxRecDepth 20000 in
theorem e_cwp_185 : lw_tbl[1863]? = some (e_cw 185) := by rfl
set_option maxRecDepth 20000 in
theorem e_cwp_186 : lw_tbl[1866]? = some (e_cw 186) := by rfl
set_option maxRecDepth 20000 in
theorem e_cwp_187 : lw_tbl[1856]? = some (e_cw 187) := by rfl
set_option maxRecDepth 20000 in
theorem e_cwp_188 : lw_tbl[1884]? = some (e_cw 188) := by rfl
set_option maxRecDepth 20000 in
theorem e_cwp_189 : lw_tbl[1881]? = some (e_cw 189) := by rfl
set_option maxRecDepth 20000 in
theorem e_cwp_190 : lw_tbl[1878]? = some (e_cw 190) := by rfl
set_option maxRecDepth 20000 in
theorem e_cwp_191 : lw_tbl[1889]? = some (e_cw 191) := by rfl
set_option maxRecDepth 20000 in
theorem e_cwp_192 : lw_tbl[1870]? = some (e_cw 192) := by rfl
set_option maxRecDepth 20000 in
theorem e_cwp_193 : lw_tbl[1937]? = some (e_cw 193) := by rfl
set_option maxRecDepth 20000 in
theorem e_cwp_194 : lw_tbl[1975]? = some (e_cw 194) := by rfl
set_option maxRecDepth 20000 in
theorem e_cwp_195 : lw_tbl[1893]? = some (e_cw 195) := by rfl
set_option maxRecDepth 20000 in
theorem e_cwp_196 : lw_tbl[1909]? = some (e_cw 196) := by rfl
set_option maxRecDepth 20000 in
theorem e_cwp_197 : lw_tbl[1905]? = some (e_cw 197) := by rfl
set_option maxRecDepth 20000 in
theorem e_cwp_198 : lw_tbl[1953]? = some (e_cw 198) := by rfl
set_option maxRecDepth 20000 in
theorem e_cwp_199 : lw_tbl[1960]? = some (e_cw 199) := by rfl
set_option maxRecDepth 20000 in
theorem e_cwp_200 : lw_tbl[1963]? = some (e_cw 200) := by rfl
set_option maxRecDepth 20000 in
theorem e_cwp_201 : lw_tbl[1957]? = some (e_cw 201) := by rfl
set_option maxRecDepth 20000 in
theorem e_cwp_202 : lw_tbl[1945]? = some (e_cw 202) := by rfl
set_option maxRecDepth 20000 in
theorem e_cwp_203 : lw_tbl[1949]? = some (e_cw 203) := by rfl
set_option maxRecDepth 20000 in
theorem e_cwp_204 : lw_tbl[1933]? = some (e_cw 204) := by rfl
set_option maxRecDepth 20000 in
theorem e_cwp_205 : lw_tbl[1941]? = some (e_cw 205) := by rfl
set_option maxRecDepth 20000 in
theorem e_cwp_206 : lw_tbl[1967]? = some (e_cw 206) := by rfl
set_option maxRecDepth 20000 in
theorem e_cwp_207 : lw_tbl[1971]? = some (e_cw 207) := by rfl
set_option maxRecDepth 20000 in
theorem e_cwp_208 : lw_tbl[1929]? = some (e_cw 208) := by rfl
set_option maxRecDepth 20000 in
theorem e_cwp_209 : lw_tbl[1897]? = some (e_cw 209) := by rfl
set_option maxRecDepth 20000 in
theorem e_cwp_210 : lw_tbl[1913]? = some (e_cw 210) := by rfl
set_option maxRecDepth 20000 in
theorem e_cwp_211 : lw_tbl[1901]? = some (e_cw 211) := by rfl
set_option maxRecDepth 20000 in
theorem e_cwp_212 : lw_tbl[1917]? = some (e_cw 212) := by rfl
set_option maxRecDepth 20000 in
theorem e_cwp_213 : lw_tbl[1921]? = some (e_cw 213) := by rfl
set_option maxRecDepth 20000 in
theorem e_cwp_214 : lw_tbl[1925]? = some (e_cw 214) := by rfl
set_option maxRecDepth 20000 in
theorem e_cwp_215 : lw_tbl[1874]? = some (e_cw 215) := by rfl
set_option maxRecDepth 20000 in
theorem e_cwp_216 : lw_tbl[1848]? = some (e_cw 216) := by rfl
set_option maxRecDepth 20000 in
theorem e_cwp_217 : lw_tbl[1983]? = some (e_cw 217) := by rfl
set_option maxRecDepth 20000 in
theorem e_cwp_218 : lw_tbl[2079]? = some (e_cw 218) := by rfl
set_option maxRecDepth 20000 in
theorem e_cwp_219 : lw_tbl[2075]? = some (e_cw 219) := by rfl
set_option maxRecDepth 20000 in
theorem e_cwp_220 : lw_tbl[1987]? = some (e_cw 220) := by rfl
set_option maxRecDepth 20000 in
theorem e_cwp_221 : lw_tbl[2067]? = some (e_cw 221) := by rfl
set_option maxRecDepth 20000 in
theorem e_cwp_222 : lw_tbl[2064]? = some (e_cw 222) := by rfl
set_option maxRecDepth 20000 in
theorem e_cwp_223 : lw_tbl[1998]? = some (e_cw 223) := by rfl
set_option maxRecDepth 20000 in
theorem e_cwp_224 : lw_tbl[2106]? = some (e_cw 224) := by rfl
set_option maxRecDepth 20000 in
theorem e_cwp_225 : lw_tbl[2006]? = some (e_cw 225) := by rfl
set_option maxRecDepth 20000 in
theorem e_cwp_226 : lw_tbl[2026]? = some (e_cw 226) := by rfl
set_option maxRecDepth 20000 in
theorem e_cwp_227 : lw_tbl[2057]? = some (e_cw 227) := by rfl
set_option maxRecDepth 20000 in
theorem e_cwp_228 : lw_tbl[2095]? = some (e_cw 228) := by rfl
set_option maxRecDepth 20000 in
theorem e_cwp_229 : lw_tbl[2046]? = some (e_cw 229) := by rfl
set_option maxRecDepth 20000 in
theorem e_cwp_230 : lw_tbl[2110]? = some (e_cw 230) := by rfl
set_option maxRecDepth 20000 in
theorem e_cwp_231 : lw_tbl[2103]? = some (e_cw 231) := by rfl
set_option maxRecDepth 20000 in
theorem e_cwp_232 : lw_tbl[2091]? = some (e_cw 232) := by rfl
set_option maxRecDepth 20000 in
theorem e_cwp_233 : lw_tbl[2087]? = some (e_cw 233) := by rfl
set_option maxRecDepth 20000 in
theorem e_cwp_234 : lw_tbl[2099]? = some (e_cw 234) := by rfl
set_option maxRecDepth 20000 in
theorem e_cwp_235 : lw_tbl[2146]? = some (e_cw 235) := by rfl
set_option maxRecDepth 20000 in
theorem e_cwp_236 : lw_tbl[2150]? = some (e_cw 236) := by rfl
set_option maxRecDepth 20000 in
theorem e_cwp_237 : lw_tbl[2083]? = some (e_cw 237) := by rfl
set_option maxRecDepth 20000 in
theorem e_cwp_238 : lw_tbl[2142]? = some (e_cw 238) := by rfl
set_option maxRecDepth 20000 in
theorem e_cwp_239 : lw_tbl[2242]? = some (e_cw 239) := by rfl
set_option maxRecDepth 20000 in
theorem e_cwp_240 : lw_tbl[2002]? = some (e_cw 240) := by rfl
set_option maxRecDepth 20000 in
theorem e_cwp_241 : lw_tbl[2010]? = some (e_cw 241) := by rfl
set_option maxRecDepth 20000 in
theorem e_cwp_242 : lw_tbl[1991]? = some (e_cw 242) := by rfl
set_option maxRecDepth 20000 in
theorem e_cwp_243 : lw_tbl[2018]? = some (e_cw 243) := by rfl
set_option maxRecDepth 20000 in
theorem e_cwp_244 : lw_tbl[2034]? = some (e_cw 244) := by rfl
set_option maxRecDepth 20000 in
theorem e_cwp_245 : lw_tbl[2042]? = some (e_cw 245) := by rfl
set_option maxRecDepth 20000 in
theorem e_cwp_246 : lw_tbl[2022]? = some (e_cw 246) := by rfl
set_option maxRecDepth 20000 in
theorem e_cwp_247 : lw_tbl[2014]? = some (e_cw 247) := by rfl
set_option maxRecDepth 20000 in
theorem e_cwp_248 : lw_tbl[2030]? = some (e_cw 248) := by rfl
set_option maxRecDepth 20000 in
theorem e_cwp_249 : lw_tbl[2038]? = some (e_cw 249) := by rfl
set_option maxRecDepth 20000 in
theorem e_cwp_250 : lw_tbl[2053]? = some (e_cw 250) := by rfl
set_option maxRecDepth 20000 in
theorem e_cwp_251 : lw_tbl[2071]? = some (e_cw 251) := by rfl
set_option maxRecDepth 20000 in
theorem e_cwp_252 : lw_tbl[2118]? = some (e_cw 252) := by rfl
set_option maxRecDepth 20000 in
theorem e_cwp_253 : lw_tbl[2122]? = some (e_cw 253) := by rfl
set_option maxRecDepth 20000 in
theorem e_cwp_254 : lw_tbl[2114]? = some (e_cw 254) := by rfl
set_option maxRecDepth 20000 in
theorem e_cwp_255 : lw_tbl[2126]? = some (e_cw 255) := by rfl
set_option maxRecDepth 20000 in
theorem e_cwp_256 : lw_tbl[2130]? = some (e_cw 256) := by rfl
set_option maxRecDepth 20000 in
theorem e_cwp_257 : lw_tbl[2134]? = some (e_cw 257) := by rfl
set_option maxRecDepth 20000 in
theorem e_cwp_258 : lw_tbl[2138]? = some (e_cw 258) := by rfl
set_option maxRecDepth 20000 in
theorem e_cwp_259 : lw_tbl[2154]? = some (e_cw 259) := by rfl
set_option maxRecDepth 20000 in
theorem e_cwp_260 : lw_tbl[2158]? = some (e_cw 260) := by rfl
set_option maxRecDepth 20000 in
theorem e_cwp_261 : lw_tbl[2162]? = some (e_cw 261) := by rfl
set_option maxRecDepth 20000 in
theorem e_cwp_262 : lw_tbl[2166]? = some (e_cw 262) := by rfl
set_option maxRecDepth 20000 in
theorem e_cwp_263 : lw_tbl[2170]? = some (e_cw 263) := by rfl
set_option maxRecDepth 20000 in
theorem e_cwp_264 : lw_tbl[2174]? = some (e_cw 264) := by rfl
set_option maxRecDepth 20000 in
theorem e_cwp_265 : lw_tbl[2178]? = some (e_cw 265) := by rfl
set_option maxRecDepth 20000 in
theorem e_cwp_266 : lw_tbl[2182]? = some (e_cw 266) := by rfl
set_option maxRecDepth 20000 in
theorem e_cwp_267 : lw_tbl[2186]? = some (e_cw 267) := by rfl
set_option maxRecDepth 20000 in
theorem e_cwp_268 : lw_tbl[2198]? = some (e_cw 268) := by rfl
set_option maxRecDepth 20000 in
theorem e_cwp_269 : lw_tbl[2194]? = some (e_cw 269) := by rfl
set_option maxRecDepth 20000 in
theorem e_cwp_270 : lw_tbl[2190]? = some (e_cw 270) := by rfl
set_option maxRecDepth 20000 in
theorem e_cwp_271 : lw_tbl[2202]? = some (e_cw 271) := by rfl
set_option maxRecDepth 20000 in
theorem e_cwp_272 : lw_tbl[2210]? = some (e_cw 272) := by rfl
set_option maxRecDepth 20000 in
theorem e_cwp_273 : lw_tbl[2206]? = some (e_cw 273) := by rfl
set_option maxRecDepth 20000 in
theorem e_cwp_274 : lw_tbl[2218]? = some (e_cw 274) := by rfl
set_option maxRecDepth 20000 in
theorem e_cwp_275 : lw_tbl[2214]? = some (e_cw 275) := by rfl
set_option maxRecDepth 20000 in
theorem e_cwp_276 : lw_tbl[2222]? = some (e_cw 276) := by rfl
set_option maxRecDepth 20000 in
theorem e_cwp_277 : lw_tbl[2226]? = some (e_cw 277) := by rfl
set_option maxRecDepth 20000 in
theorem e_cwp_278 : lw_tbl[2230]? = some (e_cw 278) := by rfl
set_option maxRecDepth 20000 in
theorem e_cwp_279 : lw_tbl[2238]? = some (e_cw 279) := by rfl
set_option maxRecDepth 20000 in
theorem e_cwp_280 : lw_tbl[2246]? = some (e_cw 280) := by rfl
set_option maxRecDepth 20000 in
theorem e_cwp_281 : lw_tbl[2234]? = some (e_cw 281) := by rfl
set_option maxRecDepth 20000 in
theorem e_cwp_282 : lw_tbl[2250]? = some (e_cw 282) := by rfl
set_option maxRecDepth 20000 in
theorem e_cwp_283 : lw_tbl[2254]? = some (e_cw 283) := by rfl
set_option maxRecDepth 20000 in
theorem e_cwp_284 : lw_tbl[2262]? = some (e_cw 284) := by rfl
set_option maxRecDepth 20000 in
theorem e_cwp_285 : lw_tbl[2266]? = some (e_cw 285) := by rfl
set_option maxRecDepth 20000 in
theorem e_cwp_286 : lw_tbl[2258]? = some (e_cw 286) := by rfl
set_option maxRecDepth 20000 in
theorem e_cwp_287 : lw_tbl[2278]? = some (e_cw 287) := by rfl
set_option maxRecDepth 20000 in
theorem e_cwp_288 : lw_tbl[2274]? = some (e_cw 288) := by rfl
set_option maxRecDepth 20000 in
theorem e_cwp_289 : lw_tbl[2270]? = some (e_cw 289) := by rfl
set_option maxRecDepth 20000 in
theorem e_cwp_290 : lw_tbl[2283]? = some (e_cw 290) := by rfl
set_option maxRecDepth 20000 in
theorem e_cwp_291 : lw_tbl[2287]? = some (e_cw 291) := by rfl
set_option maxRecDepth 20000 in
theorem e_cwp_292 : lw_tbl[2291]? = some (e_cw 292) := by rfl
set_option maxRecDepth 20000 in
theorem e_cwp_293 : lw_tbl[2295]? = some (e_cw 293) := by rfl
set_option maxRecDepth 20000 in
theorem e_cwp_294 : lw_tbl[2299]? = some (e_cw 294) := by rfl
set_option maxRecDepth 20000 in
theorem e_cwp_295 : lw_tbl[2303]? = some (e_cw 295) := by rfl
set_option maxRecDepth 20000 in
theorem e_cwp_296 : lw_tbl[807]? = some (e_cw 296) := by rfl
set_option maxRecDepth 20000 in
theorem e_cwp_297 : lw_tbl[1160]? = some (e_cw 297) := by rfl
set_option maxRecDepth 20000 in
theorem e_cwp_298 : lw_tbl[1194]? = some (e_cw 298) := by rfl
set_option maxRecDepth 20000 in
theorem e_cwp_299 : lw_tbl[1211]? = some (e_cw 299) := by rfl
set_option maxRecDepth 20000 in
theorem e_cwp_300 : lw_tbl[1230]? = some (e_cw 300) := by rfl
set_option maxRecDepth 20000 in
theorem e_cwp_301 : lw_tbl[1244]? = some (e_cw 301) := by rfl
set_option maxRecDepth 20000 in
theorem e_cwp_302 : lw_tbl[1252]? = some (e_cw 302) := by rfl
set_option maxRecDepth 20000 in
theorem e_cwp_303 : lw_tbl[1273]? = some (e_cw 303) := by rfl
set_option maxRecDepth 20000 in
theorem e_cwp_304 : lw_tbl[1282]? = some (e_cw 304) := by rfl
set_option maxRecDepth 20000 in
theorem e_cwp_305 : lw_tbl[1293]? = some (e_cw 305) := by rfl
set_option maxRecDepth 20000 in
theorem e_cwp_306 : lw_tbl[1304]? = some (e_cw 306) := by rfl
set_option maxRecDepth 20000 in
theorem e_cwp_307 : lw_tbl[1311]? = some (e_cw 307) := by rfl
set_option maxRecDepth 20000 in
theorem e_cwp_308 : lw_tbl[1323]? = some (e_cw 308) := by rfl
set_option maxRecDepth 20000 in
theorem e_cwp_309 : lw_tbl[1331]? = some (e_cw 309) := by rfl
set_option maxRecDepth 20000 in
theorem e_cwp_310 : lw_tbl[1342]? = some (e_cw 310) := by rfl
set_option maxRecDepth 20000 in
theorem e_cwp_311 : lw_tbl[1368]? = some (e_cw 311) := by rfl
set_option maxRecDepth 20000 in
theorem e_cwp_312 : lw_tbl[1375]? = some (e_cw 312) := by rfl
set_option maxRecDepth 20000 in
theorem e_cwp_313 : lw_tbl[1397]? = some (e_cw 313) := by rfl
set_option maxRecDepth 20000 in
theorem e_cwp_314 : lw_tbl[1405]? = some (e_cw 314) := by rfl
set_option maxRecDepth 20000 in
theorem e_cwp_315 : lw_tbl[1417]? = some (e_cw 315) := by rfl
set_option maxRecDepth 20000 in
theorem e_cwp_316 : lw_tbl[1448]? = some (e_cw 316) := by rfl
set_option maxRecDepth 20000 in
theorem e_cwp_317 : lw_tbl[1460]? = some (e_cw 317) := by rfl
set_option maxRecDepth 20000 in
theorem e_cwp_318 : lw_tbl[1472]? = some (e_cw 318) := by rfl
set_option maxRecDepth 20000 in
theorem e_cwp_319 : lw_tbl[1490]? = some (e_cw 319) := by rfl
set_option maxRecDepth 20000 in
theorem e_cwp_320 : lw_tbl[1525]? = some (e_cw 320) := by rfl
set_option maxRecDepth 20000 in
theorem e_cwp_321 : lw_tbl[1532]? = some (e_cw 321) := by rfl
set_option maxRecDepth 20000 in
theorem e_cwp_322 : lw_tbl[1543]? = some (e_cw 322) := by rfl
set_option maxRecDepth 20000 in
theorem e_cwp_323 : lw_tbl[1550]? = some (e_cw 323) := by rfl
set_option maxRecDepth 20000 in
theorem e_cwp_324 : lw_tbl[1558]? = some (e_cw 324) := by rfl
set_option maxRecDepth 20000 in
theorem e_cwp_326 : lw_tbl[664]? = some (e_cw 326) := by rfl
set_option maxRecDepth 20000 in
theorem e_cwp_329 : lw_tbl[720]? = some (e_cw 329) := by rfl
set_option maxRecDepth 20000 in
theorem e_cwp_330 : lw_tbl[913]? = some (e_cw 330) := by rfl
set_option maxRecDepth 20000 in
theorem e_cwp_331 : lw_tbl[923]? = some (e_cw 331) := by rfl
set_option maxRecDepth 20000 in
theorem e_cwp_332 : lw_tbl[917]? = some (e_cw 332) := by rfl
set_option maxRecDepth 20000 in
theorem e_cwp_333 : lw_tbl[927]? = some (e_cw 333) := by rfl
set_option maxRecDepth 20000 in
theorem e_cwp_334 : lw_tbl[933]? = some (e_cw 334) := by rfl
set_option maxRecDepth 20000 in
theorem e_cwp_335 : lw_tbl[930]? = some (e_cw 335) := by rfl
set_option maxRecDepth 20000 in
theorem e_cwp_336 : lw_tbl[938]? = some (e_cw 336) := by rfl
theorem e_mpk_0 : ((e_mps.drop 0).take 16).all e_mpk = true := by decide +kernel
theorem e_mpk_1 : ((e_mps.drop 16).take 16).all e_mpk = true := by decide +kernel
theorem e_mpk_2 : ((e_mps.drop 32).take 16).all e_mpk = true := by decide +kernel
theorem e_mpk_3 : ((e_mps.drop 48).take 16).all e_mpk = true := by decide +kernel
theorem e_mpk_4 : ((e_mps.drop 64).take 16).all e_mpk = true := by decide +kernel
theorem e_mpk_5 : ((e_mps.drop 80).take 16).all e_mpk = true := by decide +kernel
theorem e_mpk_6 : ((e_mps.drop 96).take 16).all e_mpk = true := by decide +kernel
theorem e_mpk_7 : ((e_mps.drop 112).take 16).all e_mpk = true := by decide +kernel
theorem e_mpk_8 : ((e_mps.drop 128).take 16).all e_mpk = true := by decide +kernel
theorem e_mpk_9 : ((e_mps.drop 144).take 16).all e_mpk = true := by decide +kernel
theorem e_mpk_10 : ((e_mps.drop 160).take 16).all e_mpk = true := by decide +kernel
theorem e_mpk_11 : ((e_mps.drop 176).take 16).all e_mpk = true := by decide +kernel
theorem e_mpk_12 : ((e_mps.drop 192).take 16).all e_mpk = true := by decide +kernel
theorem e_mpk_13 : ((e_mps.drop 208).take 16).all e_mpk = true := by decide +kernel
theorem e_mpk_14 : ((e_mps.drop 224).take 16).all e_mpk = true := by decide +kernel
theorem e_mpk_15 : ((e_mps.drop 240).take 16).all e_mpk = true := by decide +kernel
theorem e_mpk_16 : ((e_mps.drop 256).take 16).all e_mpk = true := by decide +kernel
theorem e_mpk_17 : ((e_mps.drop 272).take 16).all e_mpk = true := by decide +kernel
theorem e_mpk_18 : ((e_mps.drop 288).take 16).all e_mpk = true := by decide +kernel
theorem e_mpk_19 : ((e_mps.drop 304).take 16).all e_mpk = true := by decide +kernel
theorem e_mpk_20 : ((e_mps.drop 320).take 16).all e_mpk = true := by decide +kernel
theorem e_mps_len : e_mps.length = 334 := by decide +kernel
theorem e_chunk {α : Type} {f : α → Bool} {l : List α} {k : Nat} (h : ∀ j, j < k → ((l.drop (16 * j)).take 16).all f = true) (hl : l.length ≤ 16 * k) : ∀ x ∈ l, f x = true := by
  intro x hx
  obtain ⟨i, hi⟩ := List.getElem?_of_mem hx
  have hlt := (List.getElem?_eq_some_iff.mp hi).1
  have h1 := h (i / 16) (by omega)
  have h2 : x ∈ (l.drop (16 * (i / 16))).take 16 := by
    apply List.mem_of_getElem? (i := i % 16)
    rw [List.getElem?_take_of_lt (by omega), List.getElem?_drop, show 16 * (i / 16) + i % 16 = i by omega]
    exact hi
  exact List.all_eq_true.mp h1 x h2
theorem e_mpk_ok : ∀ q ∈ e_mps, e_mpk q = true := e_chunk (k := 21) (fun j hj => by
  match j, hj with
  | 0, _ => exact e_mpk_0
  | 1, _ => exact e_mpk_1
  | 2, _ => exact e_mpk_2
  | 3, _ => exact e_mpk_3
  | 4, _ => exact e_mpk_4
  | 5, _ => exact e_mpk_5
  | 6, _ => exact e_mpk_6
  | 7, _ => exact e_mpk_7
  | 8, _ => exact e_mpk_8
  | 9, _ => exact e_mpk_9
  | 10, _ => exact e_mpk_10
  | 11, _ => exact e_mpk_11
  | 12, _ => exact e_mpk_12
  | 13, _ => exact e_mpk_13
  | 14, _ => exact e_mpk_14
  | 15, _ => exact e_mpk_15
  | 16, _ => exact e_mpk_16
  | 17, _ => exact e_mpk_17
  | 18, _ => exact e_mpk_18
  | 19, _ => exact e_mpk_19
  | 20, _ => exact e_mpk_20
  | j + 21, h => exact absurd h (by omega)) (by rw [e_mps_len]; omega)
/-- methods that nobody calls so: the law, and three of which the kit has rows -/
def e_not : List Nat := [325, 327, 328, 337]
theorem e_cw_U (m : Nat) (h : m < 338) (hl : ∀ k, k ∈ e_not → m ≠ k) : e_cw m ∈ e_U := by
  rcases Nat.lt_or_ge m 169 with h169 | h169
  · rcases Nat.lt_or_ge m 84 with h84 | h84
    · rcases Nat.lt_or_ge m 42 with h42 | h42
      · rcases Nat.lt_or_ge m 21 with h21 | h21
        · rcases Nat.lt_or_ge m 10 with h10 | h10
          · rcases Nat.lt_or_ge m 5 with h5 | h5
            · rcases Nat.lt_or_ge m 2 with h2 | h2
              · rcases Nat.lt_or_ge m 1 with h1 | h1
                · exact (show m = 0 by omega) ▸ e_U_at e_cwp_0 (by rfl)
                · exact (show m = 1 by omega) ▸ e_U_at e_cwp_1 (by rfl)
              · rcases Nat.lt_or_ge m 3 with h3 | h3
                · exact (show m = 2 by omega) ▸ e_U_at e_cwp_2 (by rfl)
                · rcases Nat.lt_or_ge m 4 with h4 | h4
                  · exact (show m = 3 by omega) ▸ e_U_at e_cwp_3 (by rfl)
                  · exact (show m = 4 by omega) ▸ e_U_at e_cwp_4 (by rfl)
            · rcases Nat.lt_or_ge m 7 with h7 | h7
              · rcases Nat.lt_or_ge m 6 with h6 | h6
                · exact (show m = 5 by omega) ▸ e_U_at e_cwp_5 (by rfl)
                · exact (show m = 6 by omega) ▸ e_U_at e_cwp_6 (by rfl)
              · rcases Nat.lt_or_ge m 8 with h8 | h8
                · exact (show m = 7 by omega) ▸ e_U_at e_cwp_7 (by rfl)
                · rcases Nat.lt_or_ge m 9 with h9 | h9
                  · exact (show m = 8 by omega) ▸ e_U_at e_cwp_8 (by rfl)
                  · exact (show m = 9 by omega) ▸ e_U_at e_cwp_9 (by rfl)
          · rcases Nat.lt_or_ge m 15 with h15 | h15
            · rcases Nat.lt_or_ge m 12 with h12 | h12
              · rcases Nat.lt_or_ge m 11 with h11 | h11
                · exact (show m = 10 by omega) ▸ e_U_at e_cwp_10 (by rfl)
                · exact (show m = 11 by omega) ▸ e_U_at e_cwp_11 (by rfl)
              · rcases Nat.lt_or_ge m 13 with h13 | h13
                · exact (show m = 12 by omega) ▸ e_U_at e_cwp_12 (by rfl)
                · rcases Nat.lt_or_ge m 14 with h14 | h14
                  · exact (show m = 13 by omega) ▸ e_U_at e_cwp_13 (by rfl)
                  · exact (show m = 14 by omega) ▸ e_U_at e_cwp_14 (by rfl)
            · rcases Nat.lt_or_ge m 18 with h18 | h18
              · rcases Nat.lt_or_ge m 16 with h16 | h16
                · exact (show m = 15 by omega) ▸ e_U_at e_cwp_15 (by rfl)
                · rcases Nat.lt_or_ge m 17 with h17 | h17
                  · exact (show m = 16 by omega) ▸ e_U_at e_cwp_16 (by rfl)
                  · exact (show m = 17 by omega) ▸ e_U_at e_cwp_17 (by rfl)
              · rcases Nat.lt_or_ge m 19 with h19 | h19
                · exact (show m = 18 by omega) ▸ e_U_at e_cwp_18 (by rfl)
                · rcases Nat.lt_or_ge m 20 with h20 | h20
                  · exact (show m = 19 by omega) ▸ e_U_at e_cwp_19 (by rfl)
                  · exact (show m = 20 by omega) ▸ e_U_at e_cwp_20 (by rfl)
        · rcases Nat.lt_or_ge m 31 with h31 | h31
          · rcases Nat.lt_or_ge m 26 with h26 | h26
            · rcases Nat.lt_or_ge m 23 with h23 | h23
              · rcases Nat.lt_or_ge m 22 with h22 | h22
                · exact (show m = 21 by omega) ▸ e_U_at e_cwp_21 (by rfl)
                · exact (show m = 22 by omega) ▸ e_U_at e_cwp_22 (by rfl)
              · rcases Nat.lt_or_ge m 24 with h24 | h24
                · exact (show m = 23 by omega) ▸ e_U_at e_cwp_23 (by rfl)
                · rcases Nat.lt_or_ge m 25 with h25 | h25
                  · exact (show m = 24 by omega) ▸ e_U_at e_cwp_24 (by rfl)
                  · exact (show m = 25 by omega) ▸ e_U_at e_cwp_25 (by rfl)
            · rcases Nat.lt_or_ge m 28 with h28 | h28
              · rcases Nat.lt_or_ge m 27 with h27 | h27
                · exact (show m = 26 by omega) ▸ e_U_at e_cwp_26 (by rfl)
                · exact (show m = 27 by omega) ▸ e_U_at e_cwp_27 (by rfl)
              · rcases Nat.lt_or_ge m 29 with h29 | h29
                · exact (show m = 28 by omega) ▸ e_U_at e_cwp_28 (by rfl)
                · rcases Nat.lt_or_ge m 30 with h30 | h30
                  · exact (show m = 29 by omega) ▸ e_U_at e_cwp_29 (by rfl)
                  · exact (show m = 30 by omega) ▸ e_U_at e_cwp_30 (by rfl)
          · rcases Nat.lt_or_ge m 36 with h36 | h36
            · rcases Nat.lt_or_ge m 33 with h33 | h33
              · rcases Nat.lt_or_ge m 32 with h32 | h32
                · exact (show m = 31 by omega) ▸ e_U_at e_cwp_31 (by rfl)
                · exact (show m = 32 by omega) ▸ e_U_at e_cwp_32 (by rfl)
              · rcases Nat.lt_or_ge m 34 with h34 | h34
                · exact (show m = 33 by omega) ▸ e_U_at e_cwp_33 (by rfl)
                · rcases Nat.lt_or_ge m 35 with h35 | h35
                  · exact (show m = 34 by omega) ▸ e_U_at e_cwp_34 (by rfl)
                  · exact (show m = 35 by omega) ▸ e_U_at e_cwp_35 (by rfl)
            · rcases Nat.lt_or_ge m 39 with h39 | h39
              · rcases Nat.lt_or_ge m 37 with h37 | h37
                · exact (show m = 36 by omega) ▸ e_U_at e_cwp_36 (by rfl)
                · rcases Nat.lt_or_ge m 38 with h38 | h38
                  · exact (show m = 37 by omega) ▸ e_U_at e_cwp_37 (by rfl)
                  · exact (show m = 38 by omega) ▸ e_U_at e_cwp_38 (by rfl)
              · rcases Nat.lt_or_ge m 40 with h40 | h40
                · exact (show m = 39 by omega) ▸ e_U_at e_cwp_39 (by rfl)
                · rcases Nat.lt_or_ge m 41 with h41 | h41
                  · exact (show m = 40 by omega) ▸ e_U_at e_cwp_40 (by rfl)
                  · exact (show m = 41 by omega) ▸ e_U_at e_cwp_41 (by rfl)
      · rcases Nat.lt_or_ge m 63 with h63 | h63
        · rcases Nat.lt_or_ge m 52 with h52 | h52
          · rcases Nat.lt_or_ge m 47 with h47 | h47
            · rcases Nat.lt_or_ge m 44 with h44 | h44
              · rcases Nat.lt_or_ge m 43 with h43 | h43
                · exact (show m = 42 by omega) ▸ e_U_at e_cwp_42 (by rfl)
                · exact (show m = 43 by omega) ▸ e_U_at e_cwp_43 (by rfl)
              · rcases Nat.lt_or_ge m 45 with h45 | h45
                · exact (show m = 44 by omega) ▸ e_U_at e_cwp_44 (by rfl)
                · rcases Nat.lt_or_ge m 46 with h46 | h46
                  · exact (show m = 45 by omega) ▸ e_U_at e_cwp_45 (by rfl)
                  · exact (show m = 46 by omega) ▸ e_U_at e_cwp_46 (by rfl)
            · rcases Nat.lt_or_ge m 49 with h49 | h49
              · rcases Nat.lt_or_ge m 48 with h48 | h48
                · exact (show m = 47 by omega) ▸ e_U_at e_cwp_47 (by rfl)
                · exact (show m = 48 by omega) ▸ e_U_at e_cwp_48 (by rfl)
              · rcases Nat.lt_or_ge m 50 with h50 | h50
                · exact (show m = 49 by omega) ▸ e_U_at e_cwp_49 (by rfl)
                · rcases Nat.lt_or_ge m 51 with h51 | h51
                  · exact (show m = 50 by omega) ▸ e_U_at e_cwp_50 (by rfl)
                  · exact (show m = 51 by omega) ▸ e_U_at e_cwp_51 (by rfl)
          · rcases Nat.lt_or_ge m 57 with h57 | h57
            · rcases Nat.lt_or_ge m 54 with h54 | h54
              · rcases Nat.lt_or_ge m 53 with h53 | h53
                · exact (show m = 52 by omega) ▸ e_U_at e_cwp_52 (by rfl)
                · exact (show m = 53 by omega) ▸ e_U_at e_cwp_53 (by rfl)
              · rcases Nat.lt_or_ge m 55 with h55 | h55
                · exact (show m = 54 by omega) ▸ e_U_at e_cwp_54 (by rfl)
                · rcases Nat.lt_or_ge m 56 with h56 | h56
                  · exact (show m = 55 by omega) ▸ e_U_at e_cwp_55 (by rfl)
                  · exact (show m = 56 by omega) ▸ e_U_at e_cwp_56 (by rfl)
            · rcases Nat.lt_or_ge m 60 with h60 | h60
              · rcases Nat.lt_or_ge m 58 with h58 | h58
                · exact (show m = 57 by omega) ▸ e_U_at e_cwp_57 (by rfl)
                · rcases Nat.lt_or_ge m 59 with h59 | h59
                  · exact (show m = 58 by omega) ▸ e_U_at e_cwp_58 (by rfl)
                  · exact (show m = 59 by omega) ▸ e_U_at e_cwp_59 (by rfl)
              · rcases Nat.lt_or_ge m 61 with h61 | h61
                · exact (show m = 60 by omega) ▸ e_U_at e_cwp_60 (by rfl)
                · rcases Nat.lt_or_ge m 62 with h62 | h62
                  · exact (show m = 61 by omega) ▸ e_U_at e_cwp_61 (by rfl)
                  · exact (show m = 62 by omega) ▸ e_U_at e_cwp_62 (by rfl)
        · rcases Nat.lt_or_ge m 73 with h73 | h73
          · rcases Nat.lt_or_ge m 68 with h68 | h68
            · rcases Nat.lt_or_ge m 65 with h65 | h65
              · rcases Nat.lt_or_ge m 64 with h64 | h64
                · exact (show m = 63 by omega) ▸ e_U_at e_cwp_63 (by rfl)
                · exact (show m = 64 by omega) ▸ e_U_at e_cwp_64 (by rfl)
              · rcases Nat.lt_or_ge m 66 with h66 | h66
                · exact (show m = 65 by omega) ▸ e_U_at e_cwp_65 (by rfl)
                · rcases Nat.lt_or_ge m 67 with h67 | h67
                  · exact (show m = 66 by omega) ▸ e_U_at e_cwp_66 (by rfl)
                  · exact (show m = 67 by omega) ▸ e_U_at e_cwp_67 (by rfl)
            · rcases Nat.lt_or_ge m 70 with h70 | h70
              · rcases Nat.lt_or_ge m 69 with h69 | h69
                · exact (show m = 68 by omega) ▸ e_U_at e_cwp_68 (by rfl)
                · exact (show m = 69 by omega) ▸ e_U_at e_cwp_69 (by rfl)
              · rcases Nat.lt_or_ge m 71 with h71 | h71
                · exact (show m = 70 by omega) ▸ e_U_at e_cwp_70 (by rfl)
                · rcases Nat.lt_or_ge m 72 with h72 | h72
                  · exact (show m = 71 by omega) ▸ e_U_at e_cwp_71 (by rfl)
                  · exact (show m = 72 by omega) ▸ e_U_at e_cwp_72 (by rfl)
          · rcases Nat.lt_or_ge m 78 with h78 | h78
            · rcases Nat.lt_or_ge m 75 with h75 | h75
              · rcases Nat.lt_or_ge m 74 with h74 | h74
                · exact (show m = 73 by omega) ▸ e_U_at e_cwp_73 (by rfl)
                · exact (show m = 74 by omega) ▸ e_U_at e_cwp_74 (by rfl)
              · rcases Nat.lt_or_ge m 76 with h76 | h76
                · exact (show m = 75 by omega) ▸ e_U_at e_cwp_75 (by rfl)
                · rcases Nat.lt_or_ge m 77 with h77 | h77
                  · exact (show m = 76 by omega) ▸ e_U_at e_cwp_76 (by rfl)
                  · exact (show m = 77 by omega) ▸ e_U_at e_cwp_77 (by rfl)
            · rcases Nat.lt_or_ge m 81 with h81 | h81
              · rcases Nat.lt_or_ge m 79 with h79 | h79
                · exact (show m = 78 by omega) ▸ e_U_at e_cwp_78 (by rfl)
                · rcases Nat.lt_or_ge m 80 with h80 | h80
                  · exact (show m = 79 by omega) ▸ e_U_at e_cwp_79 (by rfl)
                  · exact (show m = 80 by omega) ▸ e_U_at e_cwp_80 (by rfl)
              · rcases Nat.lt_or_ge m 82 with h82 | h82
                · exact (show m = 81 by omega) ▸ e_U_at e_cwp_81 (by rfl)
                · rcases Nat.lt_or_ge m 83 with h83 | h83
                  · exact (show m = 82 by omega) ▸ e_U_at e_cwp_82 (by rfl)
                  · exact (show m = 83 by omega) ▸ e_U_at e_cwp_83 (by rfl)
    · rcases Nat.lt_or_ge m 126 with h126 | h126
      · rcases Nat.lt_or_ge m 105 with h105 | h105
        · rcases Nat.lt_or_ge m 94 with h94 | h94
          · rcases Nat.lt_or_ge m 89 with h89 | h89
            · rcases Nat.lt_or_ge m 86 with h86 | h86
              · rcases Nat.lt_or_ge m 85 with h85 | h85
                · exact (show m = 84 by omega) ▸ e_U_at e_cwp_84 (by rfl)
                · exact (show m = 85 by omega) ▸ e_U_at e_cwp_85 (by rfl)
              · rcases Nat.lt_or_ge m 87 with h87 | h87
                · exact (show m = 86 by omega) ▸ e_U_at e_cwp_86 (by rfl)
                · rcases Nat.lt_or_ge m 88 with h88 | h88
                  · exact (show m = 87 by omega) ▸ e_U_at e_cwp_87 (by rfl)
                  · exact (show m = 88 by omega) ▸ e_U_at e_cwp_88 (by rfl)
            · rcases Nat.lt_or_ge m 91 with h91 | h91
              · rcases Nat.lt_or_ge m 90 with h90 | h90
                · exact (show m = 89 by omega) ▸ e_U_at e_cwp_89 (by rfl)
                · exact (show m = 90 by omega) ▸ e_U_at e_cwp_90 (by rfl)
              · rcases Nat.lt_or_ge m 92 with h92 | h92
                · exact (show m = 91 by omega) ▸ e_U_at e_cwp_91 (by rfl)
                · rcases Nat.lt_or_ge m 93 with h93 | h93
                  · exact (show m = 92 by omega) ▸ e_U_at e_cwp_92 (by rfl)
                  · exact (show m = 93 by omega) ▸ e_U_at e_cwp_93 (by rfl)
          · rcases Nat.lt_or_ge m 99 with h99 | h99
            · rcases Nat.lt_or_ge m 96 with h96 | h96
              · rcases Nat.lt_or_ge m 95 with h95 | h95
                · exact (show m = 94 by omega) ▸ e_U_at e_cwp_94 (by rfl)
                · exact (show m = 95 by omega) ▸ e_U_at e_cwp_95 (by rfl)
              · rcases Nat.lt_or_ge m 97 with h97 | h97
                · exact (show m = 96 by omega) ▸ e_U_at e_cwp_96 (by rfl)
                · rcases Nat.lt_or_ge m 98 with h98 | h98
                  · exact (show m = 97 by omega) ▸ e_U_at e_cwp_97 (by rfl)
                  · exact (show m = 98 by omega) ▸ e_U_at e_cwp_98 (by rfl)
            · rcases Nat.lt_or_ge m 102 with h102 | h102
              · rcases Nat.lt_or_ge m 100 with h100 | h100
                · exact (show m = 99 by omega) ▸ e_U_at e_cwp_99 (by rfl)
                · rcases Nat.lt_or_ge m 101 with h101 | h101
                  · exact (show m = 100 by omega) ▸ e_U_at e_cwp_100 (by rfl)
                  · exact (show m = 101 by omega) ▸ e_U_at e_cwp_101 (by rfl)
              · rcases Nat.lt_or_ge m 103 with h103 | h103
                · exact (show m = 102 by omega) ▸ e_U_at e_cwp_102 (by rfl)
                · rcases Nat.lt_or_ge m 104 with h104 | h104
                  · exact (show m = 103 by omega) ▸ e_U_at e_cwp_103 (by rfl)
                  · exact (show m = 104 by omega) ▸ e_U_at e_cwp_104 (by rfl)
        · rcases Nat.lt_or_ge m 115 with h115 | h115
          · rcases Nat.lt_or_ge m 110 with h110 | h110
            · rcases Nat.lt_or_ge m 107 with h107 | h107
              · rcases Nat.lt_or_ge m 106 with h106 | h106
                · exact (show m = 105 by omega) ▸ e_U_at e_cwp_105 (by rfl)
                · exact (show m = 106 by omega) ▸ e_U_at e_cwp_106 (by rfl)
              · rcases Nat.lt_or_ge m 108 with h108 | h108
                · exact (show m = 107 by omega) ▸ e_U_at e_cwp_107 (by rfl)
                · rcases Nat.lt_or_ge m 109 with h109 | h109
                  · exact (show m = 108 by omega) ▸ e_U_at e_cwp_108 (by rfl)
                  · exact (show m = 109 by omega) ▸ e_U_at e_cwp_109 (by rfl)
            · rcases Nat.lt_or_ge m 112 with h112 | h112
              · rcases Nat.lt_or_ge m 111 with h111 | h111
                · exact (show m = 110 by omega) ▸ e_U_at e_cwp_110 (by rfl)
                · exact (show m = 111 by omega) ▸ e_U_at e_cwp_111 (by rfl)
              · rcases Nat.lt_or_ge m 113 with h113 | h113
                · exact (show m = 112 by omega) ▸ e_U_at e_cwp_112 (by rfl)
                · rcases Nat.lt_or_ge m 114 with h114 | h114
                  · exact (show m = 113 by omega) ▸ e_U_at e_cwp_113 (by rfl)
                  · exact (show m = 114 by omega) ▸ e_U_at e_cwp_114 (by rfl)
          · rcases Nat.lt_or_ge m 120 with h120 | h120
            · rcases Nat.lt_or_ge m 117 with h117 | h117
              · rcases Nat.lt_or_ge m 116 with h116 | h116
                · exact (show m = 115 by omega) ▸ e_U_at e_cwp_115 (by rfl)
                · exact (show m = 116 by omega) ▸ e_U_at e_cwp_116 (by rfl)
              · rcases Nat.lt_or_ge m 118 with h118 | h118
                · exact (show m = 117 by omega) ▸ e_U_at e_cwp_117 (by rfl)
                · rcases Nat.lt_or_ge m 119 with h119 | h119
                  · exact (show m = 118 by omega) ▸ e_U_at e_cwp_118 (by rfl)
                  · exact (show m = 119 by omega) ▸ e_U_at e_cwp_119 (by rfl)
            · rcases Nat.lt_or_ge m 123 with h123 | h123
              · rcases Nat.lt_or_ge m 121 with h121 | h121
                · exact (show m = 120 by omega) ▸ e_U_at e_cwp_120 (by rfl)
                · rcases Nat.lt_or_ge m 122 with h122 | h122
                  · exact (show m = 121 by omega) ▸ e_U_at e_cwp_121 (by rfl)
                  · exact (show m = 122 by omega) ▸ e_U_at e_cwp_122 (by rfl)
              · rcases Nat.lt_or_ge m 124 with h124 | h124
                · exact (show m = 123 by omega) ▸ e_U_at e_cwp_123 (by rfl)
                · rcases Nat.lt_or_ge m 125 with h125 | h125
                  · exact (show m = 124 by omega) ▸ e_U_at e_cwp_124 (by rfl)
                  · exact (show m = 125 by omega) ▸ e_U_at e_cwp_125 (by rfl)
      · rcases Nat.lt_or_ge m 147 with h147 | h147
        · rcases Nat.lt_or_ge m 136 with h136 | h136
          · rcases Nat.lt_or_ge m 131 with h131 | h131
            · rcases Nat.lt_or_ge m 128 with h128 | h128
              · rcases Nat.lt_or_ge m 127 with h127 | h127
                · exact (show m = 126 by omega) ▸ e_U_at e_cwp_126 (by rfl)
                · exact (show m = 127 by omega) ▸ e_U_at e_cwp_127 (by rfl)
              · rcases Nat.lt_or_ge m 129 with h129 | h129
                · exact (show m = 128 by omega) ▸ e_U_at e_cwp_128 (by rfl)
                · rcases Nat.lt_or_ge m 130 with h130 | h130
                  · exact (show m = 129 by omega) ▸ e_U_at e_cwp_129 (by rfl)
                  · exact (show m = 130 by omega) ▸ e_U_at e_cwp_130 (by rfl)
            · rcases Nat.lt_or_ge m 133 with h133 | h133
              · rcases Nat.lt_or_ge m 132 with h132 | h132
                · exact (show m = 131 by omega) ▸ e_U_at e_cwp_131 (by rfl)
                · exact (show m = 132 by omega) ▸ e_U_at e_cwp_132 (by rfl)
              · rcases Nat.lt_or_ge m 134 with h134 | h134
                · exact (show m = 133 by omega) ▸ e_U_at e_cwp_133 (by rfl)
                · rcases Nat.lt_or_ge m 135 with h135 | h135
                  · exact (show m = 134 by omega) ▸ e_U_at e_cwp_134 (by rfl)
                  · exact (show m = 135 by omega) ▸ e_U_at e_cwp_135 (by rfl)
          · rcases Nat.lt_or_ge m 141 with h141 | h141
            · rcases Nat.lt_or_ge m 138 with h138 | h138
              · rcases Nat.lt_or_ge m 137 with h137 | h137
                · exact (show m = 136 by omega) ▸ e_U_at e_cwp_136 (by rfl)
                · exact (show m = 137 by omega) ▸ e_U_at e_cwp_137 (by rfl)
              · rcases Nat.lt_or_ge m 139 with h139 | h139
                · exact (show m = 138 by omega) ▸ e_U_at e_cwp_138 (by rfl)
                · rcases Nat.lt_or_ge m 140 with h140 | h140
                  · exact (show m = 139 by omega) ▸ e_U_at e_cwp_139 (by rfl)
                  · exact (show m = 140 by omega) ▸ e_U_at e_cwp_140 (by rfl)
            · rcases Nat.lt_or_ge m 144 with h144 | h144
              · rcases Nat.lt_or_ge m 142 with h142 | h142
                · exact (show m = 141 by omega) ▸ e_U_at e_cwp_141 (by rfl)
                · rcases Nat.lt_or_ge m 143 with h143 | h143
                  · exact (show m = 142 by omega) ▸ e_U_at e_cwp_142 (by rfl)
                  · exact (show m = 143 by omega) ▸ e_U_at e_cwp_143 (by rfl)
              · rcases Nat.lt_or_ge m 145 with h145 | h145
                · exact (show m = 144 by omega) ▸ e_U_at e_cwp_144 (by rfl)
                · rcases Nat.lt_or_ge m 146 with h146 | h146
                  · exact (show m = 145 by omega) ▸ e_U_at e_cwp_145 (by rfl)
                  · exact (show m = 146 by omega) ▸ e_U_at e_cwp_146 (by rfl)
        · rcases Nat.lt_or_ge m 158 with h158 | h158
          · rcases Nat.lt_or_ge m 152 with h152 | h152
            · rcases Nat.lt_or_ge m 149 with h149 | h149
              · rcases Nat.lt_or_ge m 148 with h148 | h148
                · exact (show m = 147 by omega) ▸ e_U_at e_cwp_147 (by rfl)
                · exact (show m = 148 by omega) ▸ e_U_at e_cwp_148 (by rfl)
              · rcases Nat.lt_or_ge m 150 with h150 | h150
                · exact (show m = 149 by omega) ▸ e_U_at e_cwp_149 (by rfl)
                · rcases Nat.lt_or_ge m 151 with h151 | h151
                  · exact (show m = 150 by omega) ▸ e_U_at e_cwp_150 (by rfl)
                  · exact (show m = 151 by omega) ▸ e_U_at e_cwp_151 (by rfl)
            · rcases Nat.lt_or_ge m 155 with h155 | h155
              · rcases Nat.lt_or_ge m 153 with h153 | h153
                · exact (show m = 152 by omega) ▸ e_U_at e_cwp_152 (by rfl)
                · rcases Nat.lt_or_ge m 154 with h154 | h154
                  · exact (show m = 153 by omega) ▸ e_U_at e_cwp_153 (by rfl)
                  · exact (show m = 154 by omega) ▸ e_U_at e_cwp_154 (by rfl)
              · rcases Nat.lt_or_ge m 156 with h156 | h156
                · exact (show m = 155 by omega) ▸ e_U_at e_cwp_155 (by rfl)
                · rcases Nat.lt_or_ge m 157 with h157 | h157
                  · exact (show m = 156 by omega) ▸ e_U_at e_cwp_156 (by rfl)
                  · exact (show m = 157 by omega) ▸ e_U_at e_cwp_157 (by rfl)
          · rcases Nat.lt_or_ge m 163 with h163 | h163
            · rcases Nat.lt_or_ge m 160 with h160 | h160
              · rcases Nat.lt_or_ge m 159 with h159 | h159
                · exact (show m = 158 by omega) ▸ e_U_at e_cwp_158 (by rfl)
                · exact (show m = 159 by omega) ▸ e_U_at e_cwp_159 (by rfl)
              · rcases Nat.lt_or_ge m 161 with h161 | h161
                · exact (show m = 160 by omega) ▸ e_U_at e_cwp_160 (by rfl)
                · rcases Nat.lt_or_ge m 162 with h162 | h162
                  · exact (show m = 161 by omega) ▸ e_U_at e_cwp_161 (by rfl)
                  · exact (show m = 162 by omega) ▸ e_U_at e_cwp_162 (by rfl)
            · rcases Nat.lt_or_ge m 166 with h166 | h166
              · rcases Nat.lt_or_ge m 164 with h164 | h164
                · exact (show m = 163 by omega) ▸ e_U_at e_cwp_163 (by rfl)
                · rcases Nat.lt_or_ge m 165 with h165 | h165
                  · exact (show m = 164 by omega) ▸ e_U_at e_cwp_164 (by rfl)
                  · exact (show m = 165 by omega) ▸ e_U_at e_cwp_165 (by rfl)
              · rcases Nat.lt_or_ge m 167 with h167 | h167
                · exact (show m = 166 by omega) ▸ e_U_at e_cwp_166 (by rfl)
                · rcases Nat.lt_or_ge m 168 with h168 | h168
                  · exact (show m = 167 by omega) ▸ e_U_at e_cwp_167 (by rfl)
                  · exact (show m = 168 by omega) ▸ e_U_at e_cwp_168 (by rfl)
  · rcases Nat.lt_or_ge m 253 with h253 | h253
    · rcases Nat.lt_or_ge m 211 with h211 | h211
      · rcases Nat.lt_or_ge m 190 with h190 | h190
        · rcases Nat.lt_or_ge m 179 with h179 | h179
          · rcases Nat.lt_or_ge m 174 with h174 | h174
            · rcases Nat.lt_or_ge m 171 with h171 | h171
              · rcases Nat.lt_or_ge m 170 with h170 | h170
                · exact (show m = 169 by omega) ▸ e_U_at e_cwp_169 (by rfl)
                · exact (show m = 170 by omega) ▸ e_U_at e_cwp_170 (by rfl)
              · rcases Nat.lt_or_ge m 172 with h172 | h172
                · exact (show m = 171 by omega) ▸ e_U_at e_cwp_171 (by rfl)
                · rcases Nat.lt_or_ge m 173 with h173 | h173
                  · exact (show m = 172 by omega) ▸ e_U_at e_cwp_172 (by rfl)
                  · exact (show m = 173 by omega) ▸ e_U_at e_cwp_173 (by rfl)
            · rcases Nat.lt_or_ge m 176 with h176 | h176
              · rcases Nat.lt_or_ge m 175 with h175 | h175
                · exact (show m = 174 by omega) ▸ e_U_at e_cwp_174 (by rfl)
                · exact (show m = 175 by omega) ▸ e_U_at e_cwp_175 (by rfl)
              · rcases Nat.lt_or_ge m 177 with h177 | h177
                · exact (show m = 176 by omega) ▸ e_U_at e_cwp_176 (by rfl)
                · rcases Nat.lt_or_ge m 178 with h178 | h178
                  · exact (show m = 177 by omega) ▸ e_U_at e_cwp_177 (by rfl)
                  · exact (show m = 178 by omega) ▸ e_U_at e_cwp_178 (by rfl)
          · rcases Nat.lt_or_ge m 184 with h184 | h184
            · rcases Nat.lt_or_ge m 181 with h181 | h181
              · rcases Nat.lt_or_ge m 180 with h180 | h180
                · exact (show m = 179 by omega) ▸ e_U_at e_cwp_179 (by rfl)
                · exact (show m = 180 by omega) ▸ e_U_at e_cwp_180 (by rfl)
              · rcases Nat.lt_or_ge m 182 with h182 | h182
                · exact (show m = 181 by omega) ▸ e_U_at e_cwp_181 (by rfl)
                · rcases Nat.lt_or_ge m 183 with h183 | h183
                  · exact (show m = 182 by omega) ▸ e_U_at e_cwp_182 (by rfl)
                  · exact (show m = 183 by omega) ▸ e_U_at e_cwp_183 (by rfl)
            · rcases Nat.lt_or_ge m 187 with h187 | h187
              · rcases Nat.lt_or_ge m 185 with h185 | h185
                · exact (show m = 184 by omega) ▸ e_U_at e_cwp_184 (by rfl)
                · rcases Nat.lt_or_ge m 186 with h186 | h186
                  · exact (show m = 185 by omega) ▸ e_U_at e_cwp_185 (by rfl)
                  · exact (show m = 186 by omega) ▸ e_U_at e_cwp_186 (by rfl)
              · rcases Nat.lt_or_ge m 188 with h188 | h188
                · exact (show m = 187 by omega) ▸ e_U_at e_cwp_187 (by rfl)
                · rcases Nat.lt_or_ge m 189 with h189 | h189
                  · exact (show m = 188 by omega) ▸ e_U_at e_cwp_188 (by rfl)
                  · exact (show m = 189 by omega) ▸ e_U_at e_cwp_189 (by rfl)
        · rcases Nat.lt_or_ge m 200 with h200 | h200
          · rcases Nat.lt_or_ge m 195 with h195 | h195
            · rcases Nat.lt_or_ge m 192 with h192 | h192
              · rcases Nat.lt_or_ge m 191 with h191 | h191
                · exact (show m = 190 by omega) ▸ e_U_at e_cwp_190 (by rfl)
                · exact (show m = 191 by omega) ▸ e_U_at e_cwp_191 (by rfl)
              · rcases Nat.lt_or_ge m 193 with h193 | h193
                · exact (show m = 192 by omega) ▸ e_U_at e_cwp_192 (by rfl)
                · rcases Nat.lt_or_ge m 194 with h194 | h194
                  · exact (show m = 193 by omega) ▸ e_U_at e_cwp_193 (by rfl)
                  · exact (show m = 194 by omega) ▸ e_U_at e_cwp_194 (by rfl)
            · rcases Nat.lt_or_ge m 197 with h197 | h197
              · rcases Nat.lt_or_ge m 196 with h196 | h196
                · exact (show m = 195 by omega) ▸ e_U_at e_cwp_195 (by rfl)
                · exact (show m = 196 by omega) ▸ e_U_at e_cwp_196 (by rfl)
              · rcases Nat.lt_or_ge m 198 with h198 | h198
                · exact (show m = 197 by omega) ▸ e_U_at e_cwp_197 (by rfl)
                · rcases Nat.lt_or_ge m 199 with h199 | h199
                  · exact (show m = 198 by omega) ▸ e_U_at e_cwp_198 (by rfl)
                  · exact (show m = 199 by omega) ▸ e_U_at e_cwp_199 (by rfl)
          · rcases Nat.lt_or_ge m 205 with h205 | h205
            · rcases Nat.lt_or_ge m 202 with h202 | h202
              · rcases Nat.lt_or_ge m 201 with h201 | h201
                · exact (show m = 200 by omega) ▸ e_U_at e_cwp_200 (by rfl)
                · exact (show m = 201 by omega) ▸ e_U_at e_cwp_201 (by rfl)
              · rcases Nat.lt_or_ge m 203 with h203 | h203
                · exact (show m = 202 by omega) ▸ e_U_at e_cwp_202 (by rfl)
                · rcases Nat.lt_or_ge m 204 with h204 | h204
                  · exact (show m = 203 by omega) ▸ e_U_at e_cwp_203 (by rfl)
                  · exact (show m = 204 by omega) ▸ e_U_at e_cwp_204 (by rfl)
            · rcases Nat.lt_or_ge m 208 with h208 | h208
              · rcases Nat.lt_or_ge m 206 with h206 | h206
                · exact (show m = 205 by omega) ▸ e_U_at e_cwp_205 (by rfl)
                · rcases Nat.lt_or_ge m 207 with h207 | h207
                  · exact (show m = 206 by omega) ▸ e_U_at e_cwp_206 (by rfl)
                  · exact (show m = 207 by omega) ▸ e_U_at e_cwp_207 (by rfl)
              · rcases Nat.lt_or_ge m 209 with h209 | h209
                · exact (show m = 208 by omega) ▸ e_U_at e_cwp_208 (by rfl)
                · rcases Nat.lt_or_ge m 210 with h210 | h210
                  · exact (show m = 209 by omega) ▸ e_U_at e_cwp_209 (by rfl)
                  · exact (show m = 210 by omega) ▸ e_U_at e_cwp_210 (by rfl)
      · rcases Nat.lt_or_ge m 232 with h232 | h232
        · rcases Nat.lt_or_ge m 221 with h221 | h221
          · rcases Nat.lt_or_ge m 216 with h216 | h216
            · rcases Nat.lt_or_ge m 213 with h213 | h213
              · rcases Nat.lt_or_ge m 212 with h212 | h212
                · exact (show m = 211 by omega) ▸ e_U_at e_cwp_211 (by rfl)
                · exact (show m = 212 by omega) ▸ e_U_at e_cwp_212 (by rfl)
              · rcases Nat.lt_or_ge m 214 with h214 | h214
                · exact (show m = 213 by omega) ▸ e_U_at e_cwp_213 (by rfl)
                · rcases Nat.lt_or_ge m 215 with h215 | h215
                  · exact (show m = 214 by omega) ▸ e_U_at e_cwp_214 (by rfl)
                  · exact (show m = 215 by omega) ▸ e_U_at e_cwp_215 (by rfl)
            · rcases Nat.lt_or_ge m 218 with h218 | h218
              · rcases Nat.lt_or_ge m 217 with h217 | h217
                · exact (show m = 216 by omega) ▸ e_U_at e_cwp_216 (by rfl)
                · exact (show m = 217 by omega) ▸ e_U_at e_cwp_217 (by rfl)
              · rcases Nat.lt_or_ge m 219 with h219 | h219
                · exact (show m = 218 by omega) ▸ e_U_at e_cwp_218 (by rfl)
                · rcases Nat.lt_or_ge m 220 with h220 | h220
                  · exact (show m = 219 by omega) ▸ e_U_at e_cwp_219 (by rfl)
                  · exact (show m = 220 by omega) ▸ e_U_at e_cwp_220 (by rfl)
          · rcases Nat.lt_or_ge m 226 with h226 | h226
            · rcases Nat.lt_or_ge m 223 with h223 | h223
              · rcases Nat.lt_or_ge m 222 with h222 | h222
                · exact (show m = 221 by omega) ▸ e_U_at e_cwp_221 (by rfl)
                · exact (show m = 222 by omega) ▸ e_U_at e_cwp_222 (by rfl)
              · rcases Nat.lt_or_ge m 224 with h224 | h224
                · exact (show m = 223 by omega) ▸ e_U_at e_cwp_223 (by rfl)
                · rcases Nat.lt_or_ge m 225 with h225 | h225
                  · exact (show m = 224 by omega) ▸ e_U_at e_cwp_224 (by rfl)
                  · exact (show m = 225 by omega) ▸ e_U_at e_cwp_225 (by rfl)
            · rcases Nat.lt_or_ge m 229 with h229 | h229
              · rcases Nat.lt_or_ge m 227 with h227 | h227
                · exact (show m = 226 by omega) ▸ e_U_at e_cwp_226 (by rfl)
                · rcases Nat.lt_or_ge m 228 with h228 | h228
                  · exact (show m = 227 by omega) ▸ e_U_at e_cwp_227 (by rfl)
                  · exact (show m = 228 by omega) ▸ e_U_at e_cwp_228 (by rfl)
              · rcases Nat.lt_or_ge m 230 with h230 | h230
                · exact (show m = 229 by omega) ▸ e_U_at e_cwp_229 (by rfl)
                · rcases Nat.lt_or_ge m 231 with h231 | h231
                  · exact (show m = 230 by omega) ▸ e_U_at e_cwp_230 (by rfl)
                  · exact (show m = 231 by omega) ▸ e_U_at e_cwp_231 (by rfl)
        · rcases Nat.lt_or_ge m 242 with h242 | h242
          · rcases Nat.lt_or_ge m 237 with h237 | h237
            · rcases Nat.lt_or_ge m 234 with h234 | h234
              · rcases Nat.lt_or_ge m 233 with h233 | h233
                · exact (show m = 232 by omega) ▸ e_U_at e_cwp_232 (by rfl)
                · exact (show m = 233 by omega) ▸ e_U_at e_cwp_233 (by rfl)
              · rcases Nat.lt_or_ge m 235 with h235 | h235
                · exact (show m = 234 by omega) ▸ e_U_at e_cwp_234 (by rfl)
                · rcases Nat.lt_or_ge m 236 with h236 | h236
                  · exact (show m = 235 by omega) ▸ e_U_at e_cwp_235 (by rfl)
                  · exact (show m = 236 by omega) ▸ e_U_at e_cwp_236 (by rfl)
            · rcases Nat.lt_or_ge m 239 with h239 | h239
              · rcases Nat.lt_or_ge m 238 with h238 | h238
                · exact (show m = 237 by omega) ▸ e_U_at e_cwp_237 (by rfl)
                · exact (show m = 238 by omega) ▸ e_U_at e_cwp_238 (by rfl)
              · rcases Nat.lt_or_ge m 240 with h240 | h240
                · exact (show m = 239 by omega) ▸ e_U_at e_cwp_239 (by rfl)
                · rcases Nat.lt_or_ge m 241 with h241 | h241
                  · exact (show m = 240 by omega) ▸ e_U_at e_cwp_240 (by rfl)
                  · exact (show m = 241 by omega) ▸ e_U_at e_cwp_241 (by rfl)
          · rcases Nat.lt_or_ge m 247 with h247 | h247
            · rcases Nat.lt_or_ge m 244 with h244 | h244
              · rcases Nat.lt_or_ge m 243 with h243 | h243
                · exact (show m = 242 by omega) ▸ e_U_at e_cwp_242 (by rfl)
                · exact (show m = 243 by omega) ▸ e_U_at e_cwp_243 (by rfl)
              · rcases Nat.lt_or_ge m 245 with h245 | h245
                · exact (show m = 244 by omega) ▸ e_U_at e_cwp_244 (by rfl)
                · rcases Nat.lt_or_ge m 246 with h246 | h246
                  · exact (show m = 245 by omega) ▸ e_U_at e_cwp_245 (by rfl)
                  · exact (show m = 246 by omega) ▸ e_U_at e_cwp_246 (by rfl)
            · rcases Nat.lt_or_ge m 250 with h250 | h250
              · rcases Nat.lt_or_ge m 248 with h248 | h248
                · exact (show m = 247 by omega) ▸ e_U_at e_cwp_247 (by rfl)
                · rcases Nat.lt_or_ge m 249 with h249 | h249
                  · exact (show m = 248 by omega) ▸ e_U_at e_cwp_248 (by rfl)
                  · exact (show m = 249 by omega) ▸ e_U_at e_cwp_249 (by rfl)
              · rcases Nat.lt_or_ge m 251 with h251 | h251
                · exact (show m = 250 by omega) ▸ e_U_at e_cwp_250 (by rfl)
                · rcases Nat.lt_or_ge m 252 with h252 | h252
                  · exact (show m = 251 by omega) ▸ e_U_at e_cwp_251 (by rfl)
                  · exact (show m = 252 by omega) ▸ e_U_at e_cwp_252 (by rfl)
    · rcases Nat.lt_or_ge m 295 with h295 | h295
      · rcases Nat.lt_or_ge m 274 with h274 | h274
        · rcases Nat.lt_or_ge m 263 with h263 | h263
          · rcases Nat.lt_or_ge m 258 with h258 | h258
            · rcases Nat.lt_or_ge m 255 with h255 | h255
              · rcases Nat.lt_or_ge m 254 with h254 | h254
                · exact (show m = 253 by omega) ▸ e_U_at e_cwp_253 (by rfl)
                · exact (show m = 254 by omega) ▸ e_U_at e_cwp_254 (by rfl)
              · rcases Nat.lt_or_ge m 256 with h256 | h256
                · exact (show m = 255 by omega) ▸ e_U_at e_cwp_255 (by rfl)
                · rcases Nat.lt_or_ge m 257 with h257 | h257
                  · exact (show m = 256 by omega) ▸ e_U_at e_cwp_256 (by rfl)
                  · exact (show m = 257 by omega) ▸ e_U_at e_cwp_257 (by rfl)
            · rcases Nat.lt_or_ge m 260 with h260 | h260
              · rcases Nat.lt_or_ge m 259 with h259 | h259
                · exact (show m = 258 by omega) ▸ e_U_at e_cwp_258 (by rfl)
                · exact (show m = 259 by omega) ▸ e_U_at e_cwp_259 (by rfl)
              · rcases Nat.lt_or_ge m 261 with h261 | h261
                · exact (show m = 260 by omega) ▸ e_U_at e_cwp_260 (by rfl)
                · rcases Nat.lt_or_ge m 262 with h262 | h262
                  · exact (show m = 261 by omega) ▸ e_U_at e_cwp_261 (by rfl)
                  · exact (show m = 262 by omega) ▸ e_U_at e_cwp_262 (by rfl)
          · rcases Nat.lt_or_ge m 268 with h268 | h268
            · rcases Nat.lt_or_ge m 265 with h265 | h265
              · rcases Nat.lt_or_ge m 264 with h264 | h264
                · exact (show m = 263 by omega) ▸ e_U_at e_cwp_263 (by rfl)
                · exact (show m = 264 by omega) ▸ e_U_at e_cwp_264 (by rfl)
              · rcases Nat.lt_or_ge m 266 with h266 | h266
                · exact (show m = 265 by omega) ▸ e_U_at e_cwp_265 (by rfl)
                · rcases Nat.lt_or_ge m 267 with h267 | h267
                  · exact (show m = 266 by omega) ▸ e_U_at e_cwp_266 (by rfl)
                  · exact (show m = 267 by omega) ▸ e_U_at e_cwp_267 (by rfl)
            · rcases Nat.lt_or_ge m 271 with h271 | h271
              · rcases Nat.lt_or_ge m 269 with h269 | h269
                · exact (show m = 268 by omega) ▸ e_U_at e_cwp_268 (by rfl)
                · rcases Nat.lt_or_ge m 270 with h270 | h270
                  · exact (show m = 269 by omega) ▸ e_U_at e_cwp_269 (by rfl)
                  · exact (show m = 270 by omega) ▸ e_U_at e_cwp_270 (by rfl)
              · rcases Nat.lt_or_ge m 272 with h272 | h272
                · exact (show m = 271 by omega) ▸ e_U_at e_cwp_271 (by rfl)
                · rcases Nat.lt_or_ge m 273 with h273 | h273
                  · exact (show m = 272 by omega) ▸ e_U_at e_cwp_272 (by rfl)
                  · exact (show m = 273 by omega) ▸ e_U_at e_cwp_273 (by rfl)
        · rcases Nat.lt_or_ge m 284 with h284 | h284
          · rcases Nat.lt_or_ge m 279 with h279 | h279
            · rcases Nat.lt_or_ge m 276 with h276 | h276
              · rcases Nat.lt_or_ge m 275 with h275 | h275
                · exact (show m = 274 by omega) ▸ e_U_at e_cwp_274 (by rfl)
                · exact (show m = 275 by omega) ▸ e_U_at e_cwp_275 (by rfl)
              · rcases Nat.lt_or_ge m 277 with h277 | h277
                · exact (show m = 276 by omega) ▸ e_U_at e_cwp_276 (by rfl)
                · rcases Nat.lt_or_ge m 278 with h278 | h278
                  · exact (show m = 277 by omega) ▸ e_U_at e_cwp_277 (by rfl)
                  · exact (show m = 278 by omega) ▸ e_U_at e_cwp_278 (by rfl)
            · rcases Nat.lt_or_ge m 281 with h281 | h281
              · rcases Nat.lt_or_ge m 280 with h280 | h280
                · exact (show m = 279 by omega) ▸ e_U_at e_cwp_279 (by rfl)
                · exact (show m = 280 by omega) ▸ e_U_at e_cwp_280 (by rfl)
              · rcases Nat.lt_or_ge m 282 with h282 | h282
                · exact (show m = 281 by omega) ▸ e_U_at e_cwp_281 (by rfl)
                · rcases Nat.lt_or_ge m 283 with h283 | h283
                  · exact (show m = 282 by omega) ▸ e_U_at e_cwp_282 (by rfl)
                  · exact (show m = 283 by omega) ▸ e_U_at e_cwp_283 (by rfl)
          · rcases Nat.lt_or_ge m 289 with h289 | h289
            · rcases Nat.lt_or_ge m 286 with h286 | h286
              · rcases Nat.lt_or_ge m 285 with h285 | h285
                · exact (show m = 284 by omega) ▸ e_U_at e_cwp_284 (by rfl)
                · exact (show m = 285 by omega) ▸ e_U_at e_cwp_285 (by rfl)
              · rcases Nat.lt_or_ge m 287 with h287 | h287
                · exact (show m = 286 by omega) ▸ e_U_at e_cwp_286 (by rfl)
                · rcases Nat.lt_or_ge m 288 with h288 | h288
                  · exact (show m = 287 by omega) ▸ e_U_at e_cwp_287 (by rfl)
                  · exact (show m = 288 by omega) ▸ e_U_at e_cwp_288 (by rfl)
            · rcases Nat.lt_or_ge m 292 with h292 | h292
              · rcases Nat.lt_or_ge m 290 with h290 | h290
                · exact (show m = 289 by omega) ▸ e_U_at e_cwp_289 (by rfl)
                · rcases Nat.lt_or_ge m 291 with h291 | h291
                  · exact (show m = 290 by omega) ▸ e_U_at e_cwp_290 (by rfl)
                  · exact (show m = 291 by omega) ▸ e_U_at e_cwp_291 (by rfl)
              · rcases Nat.lt_or_ge m 293 with h293 | h293
                · exact (show m = 292 by omega) ▸ e_U_at e_cwp_292 (by rfl)
                · rcases Nat.lt_or_ge m 294 with h294 | h294
                  · exact (show m = 293 by omega) ▸ e_U_at e_cwp_293 (by rfl)
                  · exact (show m = 294 by omega) ▸ e_U_at e_cwp_294 (by rfl)
      · rcases Nat.lt_or_ge m 316 with h316 | h316
        · rcases Nat.lt_or_ge m 305 with h305 | h305
          · rcases Nat.lt_or_ge m 300 with h300 | h300
            · rcases Nat.lt_or_ge m 297 with h297 | h297
              · rcases Nat.lt_or_ge m 296 with h296 | h296
                · exact (show m = 295 by omega) ▸ e_U_at e_cwp_295 (by rfl)
                · exact (show m = 296 by omega) ▸ e_U_at e_cwp_296 (by rfl)
              · rcases Nat.lt_or_ge m 298 with h298 | h298
                · exact (show m = 297 by omega) ▸ e_U_at e_cwp_297 (by rfl)
                · rcases Nat.lt_or_ge m 299 with h299 | h299
                  · exact (show m = 298 by omega) ▸ e_U_at e_cwp_298 (by rfl)
                  · exact (show m = 299 by omega) ▸ e_U_at e_cwp_299 (by rfl)
            · rcases Nat.lt_or_ge m 302 with h302 | h302
              · rcases Nat.lt_or_ge m 301 with h301 | h301
                · exact (show m = 300 by omega) ▸ e_U_at e_cwp_300 (by rfl)
                · exact (show m = 301 by omega) ▸ e_U_at e_cwp_301 (by rfl)
              · rcases Nat.lt_or_ge m 303 with h303 | h303
                · exact (show m = 302 by omega) ▸ e_U_at e_cwp_302 (by rfl)
                · rcases Nat.lt_or_ge m 304 with h304 | h304
                  · exact (show m = 303 by omega) ▸ e_U_at e_cwp_303 (by rfl)
                  · exact (show m = 304 by omega) ▸ e_U_at e_cwp_304 (by rfl)
          · rcases Nat.lt_or_ge m 310 with h310 | h310
            · rcases Nat.lt_or_ge m 307 with h307 | h307
              · rcases Nat.lt_or_ge m 306 with h306 | h306
                · exact (show m = 305 by omega) ▸ e_U_at e_cwp_305 (by rfl)
                · exact (show m = 306 by omega) ▸ e_U_at e_cwp_306 (by rfl)
              · rcases Nat.lt_or_ge m 308 with h308 | h308
                · exact (show m = 307 by omega) ▸ e_U_at e_cwp_307 (by rfl)
                · rcases Nat.lt_or_ge m 309 with h309 | h309
                  · exact (show m = 308 by omega) ▸ e_U_at e_cwp_308 (by rfl)
                  · exact (show m = 309 by omega) ▸ e_U_at e_cwp_309 (by rfl)
            · rcases Nat.lt_or_ge m 313 with h313 | h313
              · rcases Nat.lt_or_ge m 311 with h311 | h311
                · exact (show m = 310 by omega) ▸ e_U_at e_cwp_310 (by rfl)
                · rcases Nat.lt_or_ge m 312 with h312 | h312
                  · exact (show m = 311 by omega) ▸ e_U_at e_cwp_311 (by rfl)
                  · exact (show m = 312 by omega) ▸ e_U_at e_cwp_312 (by rfl)
              · rcases Nat.lt_or_ge m 314 with h314 | h314
                · exact (show m = 313 by omega) ▸ e_U_at e_cwp_313 (by rfl)
                · rcases Nat.lt_or_ge m 315 with h315 | h315
                  · exact (show m = 314 by omega) ▸ e_U_at e_cwp_314 (by rfl)
                  · exact (show m = 315 by omega) ▸ e_U_at e_cwp_315 (by rfl)
        · rcases Nat.lt_or_ge m 327 with h327 | h327
          · rcases Nat.lt_or_ge m 321 with h321 | h321
            · rcases Nat.lt_or_ge m 318 with h318 | h318
              · rcases Nat.lt_or_ge m 317 with h317 | h317
                · exact (show m = 316 by omega) ▸ e_U_at e_cwp_316 (by rfl)
                · exact (show m = 317 by omega) ▸ e_U_at e_cwp_317 (by rfl)
              · rcases Nat.lt_or_ge m 319 with h319 | h319
                · exact (show m = 318 by omega) ▸ e_U_at e_cwp_318 (by rfl)
                · rcases Nat.lt_or_ge m 320 with h320 | h320
                  · exact (show m = 319 by omega) ▸ e_U_at e_cwp_319 (by rfl)
                  · exact (show m = 320 by omega) ▸ e_U_at e_cwp_320 (by rfl)
            · rcases Nat.lt_or_ge m 324 with h324 | h324
              · rcases Nat.lt_or_ge m 322 with h322 | h322
                · exact (show m = 321 by omega) ▸ e_U_at e_cwp_321 (by rfl)
                · rcases Nat.lt_or_ge m 323 with h323 | h323
                  · exact (show m = 322 by omega) ▸ e_U_at e_cwp_322 (by rfl)
                  · exact (show m = 323 by omega) ▸ e_U_at e_cwp_323 (by rfl)
              · rcases Nat.lt_or_ge m 325 with h325 | h325
                · exact (show m = 324 by omega) ▸ e_U_at e_cwp_324 (by rfl)
                · rcases Nat.lt_or_ge m 326 with h326 | h326
                  · exact absurd (show m = 325 by omega) (hl 325 (by decide))
                  · exact (show m = 326 by omega) ▸ e_U_at e_cwp_326 (by rfl)
          · rcases Nat.lt_or_ge m 332 with h332 | h332
            · rcases Nat.lt_or_ge m 329 with h329 | h329
              · rcases Nat.lt_or_ge m 328 with h328 | h328
                · exact absurd (show m = 327 by omega) (hl 327 (by decide))
                · exact absurd (show m = 328 by omega) (hl 328 (by decide))
              · rcases Nat.lt_or_ge m 330 with h330 | h330
                · exact (show m = 329 by omega) ▸ e_U_at e_cwp_329 (by rfl)
                · rcases Nat.lt_or_ge m 331 with h331 | h331
                  · exact (show m = 330 by omega) ▸ e_U_at e_cwp_330 (by rfl)
                  · exact (show m = 331 by omega) ▸ e_U_at e_cwp_331 (by rfl)
            · rcases Nat.lt_or_ge m 335 with h335 | h335
              · rcases Nat.lt_or_ge m 333 with h333 | h333
                · exact (show m = 332 by omega) ▸ e_U_at e_cwp_332 (by rfl)
                · rcases Nat.lt_or_ge m 334 with h334 | h334
                  · exact (show m = 333 by omega) ▸ e_U_at e_cwp_333 (by rfl)
                  · exact (show m = 334 by omega) ▸ e_U_at e_cwp_334 (by rfl)
              · rcases Nat.lt_or_ge m 336 with h336 | h336
                · exact (show m = 335 by omega) ▸ e_U_at e_cwp_335 (by rfl)
                · rcases Nat.lt_or_ge m 337 with h337 | h337
                  · exact (show m = 336 by omega) ▸ e_U_at e_cwp_336 (by rfl)
                  · exact absurd (show m = 337 by omega) (hl 337 (by decide))
def e_mp (y : Nat) : Option (Nat × Nat × Nat × Nat × Nat) := e_look e_mps y
end EC2
