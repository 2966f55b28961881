noncomputable def zcodes (a b c d : Nat) : Nat := Nat.add a (Nat.add (Nat.shiftLeft b 72) (Nat.add (Nat.shiftLeft c 144) (Nat.shiftLeft d 216)))
noncomputable def zok (r : zR) : Bool := Option.rec (motive := fun _ => Bool) false (fun o => cond (Nat.beq o.1 1) (Nat.beq o.2.1 8) false) r
noncomputable def ziv (l : List (Nat × Nat × Nat)) : Nat → Nat × Nat := fun j => List.rec (motive := fun _ => Nat × Nat) (0, 4294967295) (fun q _ ih => cond (Nat.beq q.1 j) q.2 ih) l
set_option maxRecDepth 100000 in
theorem zc_1_0 : zok (zE (ztab (zcodes 7 15 23 31) 4 1 (ziv [(1, 0, 2147483647), (3, 0, 2147483647)]) [] [] []) 1000000 30 0 [2] [] 0 0) = true := by decide +kernel
set_option maxRecDepth 100000 in
theorem zc_1_1 : zok (zE (ztab (zcodes 7 15 23 0) 4 1 (ziv [(1, 0, 2147483647)]) [] [] []) 1000000 30 0 [2] [] 0 0) = true := by decide +kernel
set_option maxRecDepth 100000 in
theorem zc_1_2 : zok (zE (ztab (zcodes 7 15 23 31) 4 1 (ziv [(1, 0, 2147483647), (3, 2147483649, 4294967295)]) [] [] []) 1000000 30 0 [2] [] 0 0) = true := by decide +kernel
set_option maxRecDepth 100000 in
theorem zc_1_3 : zok (zE (ztab (zcodes 7 15 23 31) 4 1 (ziv [(1, 2147483648, 2147483657), (3, 0, 2147483647)]) [] [] []) 1000000 30 0 [2] [] 0 0) = true := by decide +kernel
set_option maxRecDepth 100000 in
theorem zc_1_4 : zok (zE (ztab (zcodes 7 15 23 0) 4 1 (ziv [(1, 2147483648, 2147483657)]) [] [] []) 1000000 30 0 [2] [] 0 0) = true := by decide +kernel
set_option maxRecDepth 100000 in
theorem zc_1_5 : zok (zE (ztab (zcodes 7 15 23 31) 4 1 (ziv [(1, 2147483648, 2147483657), (3, 2147483649, 4294967295)]) [] [] []) 1000000 30 0 [2] [] 0 0) = true := by decide +kernel
set_option maxRecDepth 100000 in
theorem zc_1_6 : zok (zE (ztab (zcodes 7 15 23 31) 4 1 (ziv [(1, 2147483658, 4294967295), (3, 0, 2147483647)]) [] [] []) 1000000 30 0 [2] [] 0 0) = true := by decide +kernel
set_option maxRecDepth 100000 in
theorem zc_1_7 : zok (zE (ztab (zcodes 7 15 23 0) 4 1 (ziv [(1, 2147483658, 4294967295)]) [] [] []) 1000000 30 0 [2] [] 0 0) = true := by decide +kernel
set_option maxRecDepth 100000 in
theorem zc_1_8 : zok (zE (ztab (zcodes 7 15 23 31) 4 1 (ziv [(1, 2147483658, 4294967295), (3, 2147483649, 4294967295)]) [] [] []) 1000000 30 0 [2] [] 0 0) = true := by decide +kernel
set_option maxRecDepth 100000 in
theorem zc_2_9 : zok (zE (ztab (zcodes 7 15 23 31) 4 2 (ziv [(1, 0, 2147483647)]) [] [] []) 1000000 30 0 [2] [] 0 0) = true := by decide +kernel
set_option maxRecDepth 100000 in
theorem zc_2_10 : zok (zE (ztab (zcodes 7 15 23 31) 4 2 (ziv [(1, 2147483648, 2147483657)]) [] [] []) 1000000 30 0 [2] [] 0 0) = true := by decide +kernel
set_option maxRecDepth 100000 in
theorem zc_2_11 : zok (zE (ztab (zcodes 7 15 23 31) 4 2 (ziv [(1, 2147483658, 4294967295)]) [] [] []) 1000000 30 0 [2] [] 0 0) = true := by decide +kernel
set_option maxRecDepth 100000 in
theorem zc_3_12 : zok (zE (ztab (zcodes 7 15 23 31) 4 3 (ziv [(1, 0, 2147483647)]) [] [] []) 1000000 30 0 [2] [] 0 0) = true := by decide +kernel
set_option maxRecDepth 100000 in
theorem zc_3_13 : zok (zE (ztab (zcodes 7 15 23 31) 4 3 (ziv [(1, 2147483648, 2147483657)]) [] [] []) 1000000 30 0 [2] [] 0 0) = true := by decide +kernel
set_option maxRecDepth 100000 in
theorem zc_3_14 : zok (zE (ztab (zcodes 7 15 23 31) 4 3 (ziv [(1, 2147483658, 4294967295)]) [] [] []) 1000000 30 0 [2] [] 0 0) = true := by decide +kernel
set_option maxRecDepth 100000 in
theorem zc_4_15 : zok (zE (ztab (zcodes 7 15 23 31) 4 4 (ziv []) [] [] []) 1000000 30 0 [2] [] 0 0) = true := by decide +kernel
set_option maxRecDepth 100000 in
theorem zc_5_16 : zok (zE (ztab (zcodes 7 15 23 31) 4 5 (ziv []) [] [] []) 1000000 30 0 [2] [] 0 0) = true := by decide +kernel
set_option maxRecDepth 100000 in
theorem zc_6_17 : zok (zE (ztab (zcodes 7 15 23 31) 4 6 (ziv [(1, 0, 2147483647)]) [] [] []) 1000000 30 0 [2] [] 0 0) = true := by decide +kernel
set_option maxRecDepth 100000 in
theorem zc_6_18 : zok (zE (ztab (zcodes 7 15 23 31) 4 6 (ziv [(1, 2147483648, 2147483657)]) [] [] []) 1000000 30 0 [2] [] 0 0) = true := by decide +kernel
set_option maxRecDepth 100000 in
theorem zc_6_19 : zok (zE (ztab (zcodes 7 15 23 31) 4 6 (ziv [(1, 2147483658, 4294967295)]) [] [] []) 1000000 30 0 [2] [] 0 0) = true := by decide +kernel
set_option maxRecDepth 100000 in
theorem zc_7_20 : zok (zE (ztab (zcodes 7 15 23 31) 4 7 (ziv []) [] [] []) 1000000 30 0 [2] [] 0 0) = true := by decide +kernel
set_option maxRecDepth 100000 in
theorem zc_8_21 : zok (zE (ztab (zcodes 7 15 23 31) 4 8 (ziv [(1, 0, 2147483647)]) [] [] []) 1000000 30 0 [2] [] 0 0) = true := by decide +kernel
set_option maxRecDepth 100000 in
theorem zc_8_22 : zok (zE (ztab (zcodes 7 15 23 31) 4 8 (ziv [(1, 2147483648, 2147483657)]) [] [] []) 1000000 30 0 [2] [] 0 0) = true := by decide +kernel
set_option maxRecDepth 100000 in
theorem zc_8_23 : zok (zE (ztab (zcodes 7 15 23 31) 4 8 (ziv [(1, 2147483658, 4294967295)]) [] [] []) 1000000 30 0 [2] [] 0 0) = true := by decide +kernel
set_option maxRecDepth 100000 in
theorem zc_11_24 : zok (zE (ztab (zcodes 7 15 23 31) 4 11 (ziv [(1, 0, 2147483647)]) [] [] []) 1000000 30 0 [2] [] 0 0) = true := by decide +kernel
set_option maxRecDepth 100000 in
theorem zc_11_25 : zok (zE (ztab (zcodes 7 15 23 31) 4 11 (ziv [(1, 2147483648, 2147483657)]) [] [] []) 1000000 30 0 [2] [] 0 0) = true := by decide +kernel
set_option maxRecDepth 100000 in
theorem zc_11_26 : zok (zE (ztab (zcodes 7 15 23 31) 4 11 (ziv [(1, 2147483658, 4294967295)]) [] [] []) 1000000 30 0 [2] [] 0 0) = true := by decide +kernel
set_option maxRecDepth 100000 in
theorem zc_12_27 : zok (zE (ztab (zcodes 7 15 23 31) 4 12 (ziv []) [] [] []) 1000000 30 0 [2] [] 0 0) = true := by decide +kernel
set_option maxRecDepth 100000 in
theorem zc_17_28 : zok (zE (ztab (zcodes 7 15 23 31) 4 17 (ziv []) [] [] []) 1000000 30 0 [2] [] 0 0) = true := by decide +kernel
set_option maxRecDepth 100000 in
theorem zc_19_29 : zok (zE (ztab (zcodes 7 15 23 31) 4 19 (ziv []) [] [] []) 1000000 30 0 [2] [] 0 0) = true := by decide +kernel
set_option maxRecDepth 100000 in
theorem zc_20_30 : zok (zE (ztab (zcodes 7 15 23 31) 4 20 (ziv []) [] [] []) 1000000 30 0 [2] [] 0 0) = true := by decide +kernel
set_option maxRecDepth 100000 in
theorem zc_21_31 : zok (zE (ztab (zcodes 7 15 23 31) 4 21 (ziv [(1, 0, 2147483647)]) [] [] []) 1000000 30 0 [2] [] 0 0) = true := by decide +kernel
set_option maxRecDepth 100000 in
theorem zc_21_32 : zok (zE (ztab (zcodes 7 15 23 31) 4 21 (ziv [(1, 2147483648, 4294967295)]) [] [] []) 1000000 30 0 [2] [] 0 0) = true := by decide +kernel
set_option maxRecDepth 100000 in
theorem zc_22_33 : zok (zE (ztab (zcodes 7 15 23 31) 4 22 (ziv [(1, 0, 2147483647)]) [] [] []) 1000000 30 0 [2] [] 0 0) = true := by decide +kernel
set_option maxRecDepth 100000 in
theorem zc_22_34 : zok (zE (ztab (zcodes 7 15 23 31) 4 22 (ziv [(1, 2147483648, 4294967295)]) [] [] []) 1000000 30 0 [2] [] 0 0) = true := by decide +kernel
set_option maxRecDepth 100000 in
theorem zc_23_35 : zok (zE (ztab (zcodes 7 15 23 31) 4 23 (ziv []) [] [] []) 1000000 30 0 [2] [] 0 0) = true := by decide +kernel
set_option maxRecDepth 100000 in
theorem zc_24_36 : zok (zE (ztab (zcodes 7 15 23 31) 4 24 (ziv [(1, 0, 2147483647)]) [] [] []) 1000000 30 0 [2] [] 0 0) = true := by decide +kernel
set_option maxRecDepth 100000 in
theorem zc_24_37 : zok (zE (ztab (zcodes 7 15 23 31) 4 24 (ziv [(1, 2147483648, 2147483658)]) [] [] []) 1000000 30 0 [2] [] 0 0) = true := by decide +kernel
set_option maxRecDepth 100000 in
theorem zc_24_38 : zok (zE (ztab (zcodes 7 15 23 31) 4 24 (ziv [(1, 2147483659, 4294967295)]) [] [] []) 1000000 30 0 [2] [] 0 0) = true := by decide +kernel
set_option maxRecDepth 100000 in
theorem zc_25_39 : zok (zE (ztab (zcodes 7 15 23 31) 4 25 (ziv []) [] [] []) 1000000 30 0 [2] [] 0 0) = true := by decide +kernel
set_option maxRecDepth 100000 in
theorem zc_28_40 : zok (zE (ztab (zcodes 7 15 23 31) 4 28 (ziv []) [] [] []) 1000000 30 0 [2] [] 0 0) = true := by decide +kernel
set_option maxRecDepth 100000 in
theorem zc_29_41 : zok (zE (ztab (zcodes 7 15 23 31) 4 29 (ziv []) [] [] []) 1000000 30 0 [2] [] 0 0) = true := by decide +kernel
set_option maxRecDepth 100000 in
theorem zc_41_42 : zok (zE (ztab (zcodes 7 15 23 31) 4 41 (ziv []) [] [] []) 1000000 30 0 [2] [] 0 0) = true := by decide +kernel
set_option maxRecDepth 100000 in
theorem zc_42_43 : zok (zE (ztab (zcodes 7 15 23 31) 4 42 (ziv []) [] [] []) 1000000 30 0 [2] [] 0 0) = true := by decide +kernel
set_option maxRecDepth 100000 in
theorem zc_53_44 : zok (zE (ztab (zcodes 7 15 23 31) 4 53 (ziv []) [] [] []) 1000000 30 0 [2] [] 0 0) = true := by decide +kernel
set_option maxRecDepth 100000 in
theorem zc_55_45 : zok (zE (ztab (zcodes 7 15 23 31) 4 55 (ziv []) [] [] []) 1000000 30 0 [2] [] 0 0) = true := by decide +kernel
set_option maxRecDepth 100000 in
theorem zc_56_46 : zok (zE (ztab (zcodes 7 15 23 31) 4 56 (ziv []) [] [] []) 1000000 30 0 [2] [] 0 0) = true := by decide +kernel
set_option maxRecDepth 100000 in
theorem zc_57_47 : zok (zE (ztab (zcodes 7 15 23 31) 4 57 (ziv []) [] [] []) 1000000 30 0 [2] [] 0 0) = true := by decide +kernel
set_option maxRecDepth 100000 in
theorem zc_58_48 : zok (zE (ztab (zcodes 7 15 23 31) 4 58 (ziv []) [] [] []) 1000000 30 0 [2] [] 0 0) = true := by decide +kernel
