set_option maxRecDepth 100000 in
theorem zc_46_0 : zok (zE (ztab (zcodes 7 15 23 31) 4 46 (ziv [(1, 0, 2147483647)]) [] [] []) 1000000 30 0 [2] [] 0 0) = true := by decide +kernel
set_option maxRecDepth 100000 in
theorem zc_46_1 : zok (zE (ztab (zcodes 7 15 23 31) 4 46 (ziv [(1, 2147483648, 2147483658)]) [] [] []) 1000000 30 0 [2] [] 0 0) = true := by decide +kernel
set_option maxRecDepth 100000 in
theorem zc_46_2 : zok (zE (ztab (zcodes 7 15 23 31) 4 46 (ziv [(1, 2147483659, 4294967295)]) [] [] []) 1000000 30 0 [2] [] 0 0) = true := by decide +kernel
set_option maxRecDepth 100000 in
theorem zc_47_3 : zok (zE (ztab (zcodes 7 15 23 31) 4 47 (ziv [(1, 0, 2147483647)]) [] [] []) 1000000 30 0 [2] [] 0 0) = true := by decide +kernel
set_option maxRecDepth 100000 in
theorem zc_47_4 : zok (zE (ztab (zcodes 7 0 23 31) 4 47 (ziv []) [] [] []) 1000000 30 0 [2] [] 0 0) = true := by decide +kernel
set_option maxRecDepth 100000 in
theorem zc_47_5 : zok (zE (ztab (zcodes 7 15 23 31) 4 47 (ziv [(1, 2147483649, 4294967295)]) [] [] []) 1000000 30 0 [2] [] 0 0) = true := by decide +kernel
set_option maxRecDepth 100000 in
theorem zc_50_6 : zok (zE (ztab (zcodes 7 15 23 31) 4 50 (ziv []) [] [] []) 1000000 30 0 [2] [] 0 0) = true := by decide +kernel
set_option maxRecDepth 100000 in
theorem zc_51_7 : zok (zE (ztab (zcodes 7 15 23 31) 4 51 (ziv [(1, 0, 2147483647)]) [] [] []) 1000000 30 0 [2] [] 0 0) = true := by decide +kernel
set_option maxRecDepth 100000 in
theorem zc_51_8 : zok (zE (ztab (zcodes 7 15 23 31) 4 51 (ziv [(1, 2147483648, 2147483657)]) [] [] []) 1000000 30 0 [2] [] 0 0) = true := by decide +kernel
set_option maxRecDepth 100000 in
theorem zc_51_9 : zok (zE (ztab (zcodes 7 15 23 31) 4 51 (ziv [(1, 2147483658, 4294967295)]) [] [] []) 1000000 30 0 [2] [] 0 0) = true := by decide +kernel
set_option maxRecDepth 100000 in
theorem zc_59_10 : zok (zE (ztab (zcodes 7 15 23 31) 4 59 (ziv []) [] [] []) 1000000 30 0 [2] [] 0 0) = true := by decide +kernel
set_option maxRecDepth 100000 in
theorem zc_60_11 : zok (zE (ztab (zcodes 7 15 23 31) 4 60 (ziv []) [] [] []) 1000000 30 0 [2] [] 0 0) = true := by decide +kernel
set_option maxRecDepth 100000 in
theorem zc_61_12 : zok (zE (ztab (zcodes 7 15 23 31) 4 61 (ziv []) [] [] []) 1000000 30 0 [2] [] 0 0) = true := by decide +kernel
set_option maxRecDepth 100000 in
theorem zc_62_13 : zok (zE (ztab (zcodes 7 15 23 31) 4 62 (ziv []) [] [] []) 1000000 30 0 [2] [] 0 0) = true := by decide +kernel
set_option maxRecDepth 100000 in
theorem zc_63_14 : zok (zE (ztab (zcodes 7 15 23 31) 4 63 (ziv []) [] [] []) 1000000 30 0 [2] [] 0 0) = true := by decide +kernel
