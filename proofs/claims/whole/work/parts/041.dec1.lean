/-! ===== the facts of the methods 0 .. 59, decided ===== -/
set_option maxRecDepth 100000 in
theorem mv_ok_0 : (mv_okm 0 && mv_okc 0) = true := by decide +kernel
set_option maxRecDepth 100000 in
theorem mv_ok_1 : (mv_okm 1 && mv_okc 1) = true := by decide +kernel
set_option maxRecDepth 100000 in
theorem mv_ok_2 : (mv_okm 2 && mv_okc 2) = true := by decide +kernel
set_option maxRecDepth 100000 in
theorem mv_ok_3 : (mv_okm 3 && mv_okc 3) = true := by decide +kernel
set_option maxRecDepth 100000 in
theorem mv_ok_4 : (mv_okm 4 && mv_okc 4) = true := by decide +kernel
set_option maxRecDepth 100000 in
theorem mv_ok_5 : (mv_okm 5 && mv_okc 5) = true := by decide +kernel
set_option maxRecDepth 100000 in
theorem mv_ok_6 : (mv_okm 6 && mv_okc 6) = true := by decide +kernel
set_option maxRecDepth 100000 in
theorem mv_ok_7 : (mv_okm 7 && mv_okc 7) = true := by decide +kernel
set_option maxRecDepth 100000 in
theorem mv_ok_8 : (mv_okm 8 && mv_okc 8) = true := by decide +kernel
set_option maxRecDepth 100000 in
theorem mv_ok_9 : (mv_okm 9 && mv_okc 9) = true := by decide +kernel
set_option maxRecDepth 100000 in
theorem mv_ok_10 : (mv_okm 10 && mv_okc 10) = true := by decide +kernel
set_option maxRecDepth 100000 in
theorem mv_ok_11 : (mv_okm 11 && mv_okc 11) = true := by decide +kernel
set_option maxRecDepth 100000 in
theorem mv_ok_12 : (mv_okm 12 && mv_okc 12) = true := by decide +kernel
set_option maxRecDepth 100000 in
theorem mv_ok_13 : (mv_okm 13 && mv_okc 13) = true := by decide +kernel
set_option maxRecDepth 100000 in
theorem mv_ok_14 : (mv_okm 14 && mv_okc 14) = true := by decide +kernel
set_option maxRecDepth 100000 in
theorem mv_ok_15 : (mv_okm 15 && mv_okc 15) = true := by decide +kernel
set_option maxRecDepth 100000 in
theorem mv_ok_16 : (mv_okm 16 && mv_okc 16) = true := by decide +kernel
set_option maxRecDepth 100000 in
theorem mv_ok_17 : (mv_okm 17 && mv_okc 17) = true := by decide +kernel
set_option maxRecDepth 100000 in
theorem mv_ok_18 : (mv_okm 18 && mv_okc 18) = true := by decide +kernel
set_option maxRecDepth 100000 in
theorem mv_ok_19 : (mv_okm 19 && mv_okc 19) = true := by decide +kernel
set_option maxRecDepth 100000 in
theorem mv_ok_20 : (mv_okm 20 && mv_okc 20) = true := by decide +kernel
set_option maxRecDepth 100000 in
theorem mv_ok_21 : (mv_okm 21 && mv_okc 21) = true := by decide +kernel
set_option maxRecDepth 100000 in
theorem mv_ok_22 : (mv_okm 22 && mv_okc 22) = true := by decide +kernel
set_option maxRecDepth 100000 in
theorem mv_ok_23 : (mv_okm 23 && mv_okc 23) = true := by decide +kernel
set_option maxRecDepth 100000 in
theorem mv_ok_24 : (mv_okm 24 && mv_okc 24) = true := by decide +kernel
set_option maxRecDepth 100000 in
theorem mv_ok_25 : (mv_okm 25 && mv_okc 25) = true := by decide +kernel
set_option maxRecDepth 100000 in
theorem mv_ok_26 : (mv_okm 26 && mv_okc 26) = true := by decide +kernel
set_option maxRecDepth 100000 in
theorem mv_ok_27 : (mv_okm 27 && mv_okc 27) = true := by decide +kernel
set_option maxRecDepth 100000 in
theorem mv_ok_28 : (mv_okm 28 && mv_okc 28) = true := by decide +kernel
set_option maxRecDepth 100000 in
theorem mv_ok_29 : (mv_okm 29 && mv_okc 29) = true := by decide +kernel
set_option maxRecDepth 100000 in
theorem mv_ok_30 : (mv_okm 30 && mv_okc 30) = true := by decide +kernel
set_option maxRecDepth 100000 in
theorem mv_ok_31 : (mv_okm 31 && mv_okc 31) = true := by decide +kernel
set_option maxRecDepth 100000 in
theorem mv_ok_32 : (mv_okm 32 && mv_okc 32) = true := by decide +kernel
set_option maxRecDepth 100000 in
theorem mv_ok_33 : (mv_okm 33 && mv_okc 33) = true := by decide +kernel
set_option maxRecDepth 100000 in
theorem mv_ok_34 : (mv_okm 34 && mv_okc 34) = true := by decide +kernel
set_option maxRecDepth 100000 in
theorem mv_ok_35 : (mv_okm 35 && mv_okc 35) = true := by decide +kernel
set_option maxRecDepth 100000 in
theorem mv_ok_36 : (mv_okm 36 && mv_okc 36) = true := by decide +kernel
set_option maxRecDepth 100000 in
theorem mv_ok_37 : (mv_okm 37 && mv_okc 37) = true := by decide +kernel
set_option maxRecDepth 100000 in
theorem mv_ok_38 : (mv_okm 38 && mv_okc 38) = true := by decide +kernel
set_option maxRecDepth 100000 in
theorem mv_ok_39 : (mv_okm 39 && mv_okc 39) = true := by decide +kernel
set_option maxRecDepth 100000 in
theorem mv_ok_40 : (mv_okm 40 && mv_okc 40) = true := by decide +kernel
set_option maxRecDepth 100000 in
theorem mv_ok_41 : (mv_okm 41 && mv_okc 41) = true := by decide +kernel
set_option maxRecDepth 100000 in
theorem mv_ok_42 : (mv_okm 42 && mv_okc 42) = true := by decide +kernel
set_option maxRecDepth 100000 in
theorem mv_ok_43 : (mv_okm 43 && mv_okc 43) = true := by decide +kernel
set_option maxRecDepth 100000 in
theorem mv_ok_44 : (mv_okm 44 && mv_okc 44) = true := by decide +kernel
set_option maxRecDepth 100000 in
theorem mv_ok_45 : (mv_okm 45 && mv_okc 45) = true := by decide +kernel
set_option maxRecDepth 100000 in
theorem mv_ok_46 : (mv_okm 46 && mv_okc 46) = true := by decide +kernel
set_option maxRecDepth 100000 in
theorem mv_ok_47 : (mv_okm 47 && mv_okc 47) = true := by decide +kernel
set_option maxRecDepth 100000 in
theorem mv_ok_48 : (mv_okm 48 && mv_okc 48) = true := by decide +kernel
set_option maxRecDepth 100000 in
theorem mv_ok_49 : (mv_okm 49 && mv_okc 49) = true := by decide +kernel
set_option maxRecDepth 100000 in
theorem mv_ok_50 : (mv_okm 50 && mv_okc 50) = true := by decide +kernel
set_option maxRecDepth 100000 in
theorem mv_ok_51 : (mv_okm 51 && mv_okc 51) = true := by decide +kernel
set_option maxRecDepth 100000 in
theorem mv_ok_52 : (mv_okm 52 && mv_okc 52) = true := by decide +kernel
set_option maxRecDepth 100000 in
theorem mv_ok_53 : (mv_okm 53 && mv_okc 53) = true := by decide +kernel
set_option maxRecDepth 100000 in
theorem mv_ok_54 : (mv_okm 54 && mv_okc 54) = true := by decide +kernel
set_option maxRecDepth 100000 in
theorem mv_ok_55 : (mv_okm 55 && mv_okc 55) = true := by decide +kernel
set_option maxRecDepth 100000 in
theorem mv_ok_56 : (mv_okm 56 && mv_okc 56) = true := by decide +kernel
set_option maxRecDepth 100000 in
theorem mv_ok_57 : (mv_okm 57 && mv_okc 57) = true := by decide +kernel
set_option maxRecDepth 100000 in
theorem mv_ok_58 : (mv_okm 58 && mv_okc 58) = true := by decide +kernel
set_option maxRecDepth 100000 in
theorem mv_ok_59 : (mv_okm 59 && mv_okc 59) = true := by decide +kernel
