set_option maxRecDepth 100000 in
theorem zk_0 : zck1 0 zm_0 = true := by decide +kernel
set_option maxRecDepth 100000 in
theorem zk_1 : zck1 1 zm_1 = true := by decide +kernel
set_option maxRecDepth 100000 in
theorem zk_2 : zck1 2 zm_2 = true := by decide +kernel
set_option maxRecDepth 100000 in
theorem zk_3 : zck1 3 zm_3 = true := by decide +kernel
set_option maxRecDepth 100000 in
theorem zk_4 : zck1 4 zm_4 = true := by decide +kernel
set_option maxRecDepth 100000 in
theorem zk_5 : zck1 5 zm_5 = true := by decide +kernel
set_option maxRecDepth 100000 in
theorem zk_6 : zck1 6 zm_6 = true := by decide +kernel
set_option maxRecDepth 100000 in
theorem zk_7 : zck1 7 zm_7 = true := by decide +kernel
set_option maxRecDepth 100000 in
theorem zk_8 : zck1 8 zm_8 = true := by decide +kernel
set_option maxRecDepth 100000 in
theorem zk_9 : zck1 9 zm_9 = true := by decide +kernel
set_option maxRecDepth 100000 in
theorem zk_10 : zck1 10 zm_10 = true := by decide +kernel
set_option maxRecDepth 100000 in
theorem zk_11 : zck1 11 zm_11 = true := by decide +kernel
set_option maxRecDepth 100000 in
theorem zk_12 : zck1 12 zm_12 = true := by decide +kernel
set_option maxRecDepth 100000 in
theorem zk_13 : zck1 13 zm_13 = true := by decide +kernel
set_option maxRecDepth 100000 in
theorem zk_14 : zck1 14 zm_14 = true := by decide +kernel
set_option maxRecDepth 100000 in
theorem zk_15 : zck1 15 zm_15 = true := by decide +kernel
set_option maxRecDepth 100000 in
theorem zk_16 : zck1 16 zm_16 = true := by decide +kernel
set_option maxRecDepth 100000 in
theorem zk_17 : zck1 17 zm_17 = true := by decide +kernel
set_option maxRecDepth 100000 in
theorem zk_18 : zck1 18 zm_18 = true := by decide +kernel
set_option maxRecDepth 100000 in
theorem zk_19 : zck1 19 zm_19 = true := by decide +kernel
set_option maxRecDepth 100000 in
theorem zk_20 : zck1 20 zm_20 = true := by decide +kernel
set_option maxRecDepth 100000 in
theorem zk_21 : zck1 21 zm_21 = true := by decide +kernel
set_option maxRecDepth 100000 in
theorem zk_22 : zck1 22 zm_22 = true := by decide +kernel
set_option maxRecDepth 100000 in
theorem zk_23 : zck1 23 zm_23 = true := by decide +kernel
set_option maxRecDepth 100000 in
theorem zk_24 : zck1 24 zm_24 = true := by decide +kernel
set_option maxRecDepth 100000 in
theorem zk_25 : zck1 25 zm_25 = true := by decide +kernel
set_option maxRecDepth 100000 in
theorem zk_26 : zck1 26 zm_26 = true := by decide +kernel
set_option maxRecDepth 100000 in
theorem zk_27 : zck1 27 zm_27 = true := by decide +kernel
set_option maxRecDepth 100000 in
theorem zk_28 : zck1 28 zm_28 = true := by decide +kernel
set_option maxRecDepth 100000 in
theorem zk_29 : zck1 29 zm_29 = true := by decide +kernel
set_option maxRecDepth 100000 in
theorem zk_30 : zck1 30 zm_30 = true := by decide +kernel
set_option maxRecDepth 100000 in
theorem zk_31 : zck1 31 zm_31 = true := by decide +kernel
set_option maxRecDepth 100000 in
theorem zk_32 : zck1 32 zm_32 = true := by decide +kernel
set_option maxRecDepth 100000 in
theorem zk_33 : zck1 33 zm_33 = true := by decide +kernel
set_option maxRecDepth 100000 in
theorem zk_34 : zck1 34 zm_34 = true := by decide +kernel
set_option maxRecDepth 100000 in
theorem zk_35 : zck1 35 zm_35 = true := by decide +kernel
set_option maxRecDepth 100000 in
theorem zk_36 : zck1 36 zm_36 = true := by decide +kernel
set_option maxRecDepth 100000 in
theorem zk_37 : zck1 37 zm_37 = true := by decide +kernel
set_option maxRecDepth 100000 in
theorem zk_38 : zck1 38 zm_38 = true := by decide +kernel
set_option maxRecDepth 100000 in
theorem zk_39 : zck1 39 zm_39 = true := by decide +kernel
set_option maxRecDepth 100000 in
theorem zk_40 : zck1 40 zm_40 = true := by decide +kernel
set_option maxRecDepth 100000 in
theorem zk_41 : zck1 41 zm_41 = true := by decide +kernel
set_option maxRecDepth 100000 in
theorem zk_42 : zck1 42 zm_42 = true := by decide +kernel
