/-! ===== the facts of the methods 60 .. 121, decided ===== -/
set_option maxRecDepth 100000 in
theorem mv_ok_60 : (mv_okm 60 && mv_okc 60) = true := by decide +kernel
set_option maxRecDepth 100000 in
theorem mv_ok_61 : (mv_okm 61 && mv_okc 61) = true := by decide +kernel
set_option maxRecDepth 100000 in
theorem mv_ok_62 : (mv_okm 62 && mv_okc 62) = true := by decide +kernel
set_option maxRecDepth 100000 in
theorem mv_ok_63 : (mv_okm 63 && mv_okc 63) = true := by decide +kernel
set_option maxRecDepth 100000 in
theorem mv_ok_64 : (mv_okm 64 && mv_okc 64) = true := by decide +kernel
set_option maxRecDepth 100000 in
theorem mv_ok_65 : (mv_okm 65 && mv_okc 65) = true := by decide +kernel
set_option maxRecDepth 100000 in
theorem mv_ok_66 : (mv_okm 66 && mv_okc 66) = true := by decide +kernel
set_option maxRecDepth 100000 in
theorem mv_ok_67 : (mv_okm 67 && mv_okc 67) = true := by decide +kernel
set_option maxRecDepth 100000 in
theorem mv_ok_68 : (mv_okm 68 && mv_okc 68) = true := by decide +kernel
set_option maxRecDepth 100000 in
theorem mv_ok_69 : (mv_okm 69 && mv_okc 69) = true := by decide +kernel
set_option maxRecDepth 100000 in
theorem mv_ok_70 : (mv_okm 70 && mv_okc 70) = true := by decide +kernel
set_option maxRecDepth 100000 in
theorem mv_ok_71 : (mv_okm 71 && mv_okc 71) = true := by decide +kernel
set_option maxRecDepth 100000 in
theorem mv_ok_72 : (mv_okm 72 && mv_okc 72) = true := by decide +kernel
set_option maxRecDepth 100000 in
theorem mv_ok_73 : (mv_okm 73 && mv_okc 73) = true := by decide +kernel
set_option maxRecDepth 100000 in
theorem mv_ok_74 : (mv_okm 74 && mv_okc 74) = true := by decide +kernel
set_option maxRecDepth 100000 in
theorem mv_ok_75 : (mv_okm 75 && mv_okc 75) = true := by decide +kernel
set_option maxRecDepth 100000 in
theorem mv_ok_76 : (mv_okm 76 && mv_okc 76) = true := by decide +kernel
set_option maxRecDepth 100000 in
theorem mv_ok_77 : (mv_okm 77 && mv_okc 77) = true := by decide +kernel
set_option maxRecDepth 100000 in
theorem mv_ok_78 : (mv_okm 78 && mv_okc 78) = true := by decide +kernel
set_option maxRecDepth 100000 in
theorem mv_ok_79 : (mv_okm 79 && mv_okc 79) = true := by decide +kernel
set_option maxRecDepth 100000 in
theorem mv_ok_80 : (mv_okm 80 && mv_okc 80) = true := by decide +kernel
set_option maxRecDepth 100000 in
theorem mv_ok_81 : (mv_okm 81 && mv_okc 81) = true := by decide +kernel
set_option maxRecDepth 100000 in
theorem mv_ok_82 : (mv_okm 82 && mv_okc 82) = true := by decide +kernel
set_option maxRecDepth 100000 in
theorem mv_ok_83 : (mv_okm 83 && mv_okc 83) = true := by decide +kernel
set_option maxRecDepth 100000 in
theorem mv_ok_84 : (mv_okm 84 && mv_okc 84) = true := by decide +kernel
set_option maxRecDepth 100000 in
theorem mv_ok_85 : (mv_okm 85 && mv_okc 85) = true := by decide +kernel
set_option maxRecDepth 100000 in
theorem mv_ok_86 : (mv_okm 86 && mv_okc 86) = true := by decide +kernel
set_option maxRecDepth 100000 in
theorem mv_ok_87 : (mv_okm 87 && mv_okc 87) = true := by decide +kernel
set_option maxRecDepth 100000 in
theorem mv_ok_88 : (mv_okm 88 && mv_okc 88) = true := by decide +kernel
set_option maxRecDepth 100000 in
theorem mv_ok_89 : (mv_okm 89 && mv_okc 89) = true := by decide +kernel
set_option maxRecDepth 100000 in
theorem mv_ok_90 : (mv_okm 90 && mv_okc 90) = true := by decide +kernel
set_option maxRecDepth 100000 in
theorem mv_ok_91 : (mv_okm 91 && mv_okc 91) = true := by decide +kernel
set_option maxRecDepth 100000 in
theorem mv_ok_92 : (mv_okm 92 && mv_okc 92) = true := by decide +kernel
set_option maxRecDepth 100000 in
theorem mv_ok_93 : (mv_okm 93 && mv_okc 93) = true := by decide +kernel
set_option maxRecDepth 100000 in
theorem mv_ok_94 : (mv_okm 94 && mv_okc 94) = true := by decide +kernel
set_option maxRecDepth 100000 in
theorem mv_ok_95 : (mv_okm 95 && mv_okc 95) = true := by decide +kernel
set_option maxRecDepth 100000 in
theorem mv_ok_96 : (mv_okm 96 && mv_okc 96) = true := by decide +kernel
set_option maxRecDepth 100000 in
theorem mv_ok_97 : (mv_okm 97 && mv_okc 97) = true := by decide +kernel
set_option maxRecDepth 100000 in
theorem mv_ok_98 : (mv_okm 98 && mv_okc 98) = true := by decide +kernel
set_option maxRecDepth 100000 in
theorem mv_ok_99 : (mv_okm 99 && mv_okc 99) = true := by decide +kernel
set_option maxRecDepth 100000 in
theorem mv_ok_100 : (mv_okm 100 && mv_okc 100) = true := by decide +kernel
set_option maxRecDepth 100000 in
theorem mv_ok_101 : (mv_okm 101 && mv_okc 101) = true := by decide +kernel
set_option maxRecDepth 100000 in
theorem mv_ok_102 : (mv_okm 102 && mv_okc 102) = true := by decide +kernel
set_option maxRecDepth 100000 in
theorem mv_ok_103 : (mv_okm 103 && mv_okc 103) = true := by decide +kernel
set_option maxRecDepth 100000 in
theorem mv_ok_104 : (mv_okm 104 && mv_okc 104) = true := by decide +kernel
set_option maxRecDepth 100000 in
theorem mv_ok_105 : (mv_okm 105 && mv_okc 105) = true := by decide +kernel
set_option maxRecDepth 100000 in
theorem mv_ok_106 : (mv_okm 106 && mv_okc 106) = true := by decide +kernel
set_option maxRecDepth 100000 in
theorem mv_ok_107 : (mv_okm 107 && mv_okc 107) = true := by decide +kernel
set_option maxRecDepth 100000 in
theorem mv_ok_108 : (mv_okm 108 && mv_okc 108) = true := by decide +kernel
set_option maxRecDepth 100000 in
theorem mv_ok_109 : (mv_okm 109 && mv_okc 109) = true := by decide +kernel
set_option maxRecDepth 100000 in
theorem mv_ok_110 : (mv_okm 110 && mv_okc 110) = true := by decide +kernel
set_option maxRecDepth 100000 in
theorem mv_ok_111 : (mv_okm 111 && mv_okc 111) = true := by decide +kernel
set_option maxRecDepth 100000 in
theorem mv_ok_112 : (mv_okm 112 && mv_okc 112) = true := by decide +kernel
set_option maxRecDepth 100000 in
theorem mv_ok_113 : (mv_okm 113 && mv_okc 113) = true := by decide +kernel
set_option maxRecDepth 100000 in
theorem mv_ok_114 : (mv_okm 114 && mv_okc 114) = true := by decide +kernel
set_option maxRecDepth 100000 in
theorem mv_ok_115 : (mv_okm 115 && mv_okc 115) = true := by decide +kernel
set_option maxRecDepth 100000 in
theorem mv_ok_116 : (mv_okm 116 && mv_okc 116) = true := by decide +kernel
set_option maxRecDepth 100000 in
theorem mv_ok_117 : (mv_okm 117 && mv_okc 117) = true := by decide +kernel
set_option maxRecDepth 100000 in
theorem mv_ok_118 : (mv_okm 118 && mv_okc 118) = true := by decide +kernel
set_option maxRecDepth 100000 in
theorem mv_ok_119 : (mv_okm 119 && mv_okc 119) = true := by decide +kernel
set_option maxRecDepth 100000 in
theorem mv_ok_120 : (mv_okm 120 && mv_okc 120) = true := by decide +kernel
set_option maxRecDepth 100000 in
theorem mv_ok_121 : (mv_okm 121 && mv_okc 121) = true := by decide +kernel
