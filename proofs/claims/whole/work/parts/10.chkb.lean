set_option maxRecDepth 100000 in
theorem zk_43 : zck1 43 zm_43 = true := by decide +kernel
set_option maxRecDepth 100000 in
theorem zk_44 : zck1 44 zm_44 = true := by decide +kernel
set_option maxRecDepth 100000 in
theorem zk_45 : zck1 45 zm_45 = true := by decide +kernel
set_option maxRecDepth 100000 in
theorem zk_46 : zck1 46 zm_46 = true := by decide +kernel
set_option maxRecDepth 100000 in
theorem zk_47 : zck1 47 zm_47 = true := by decide +kernel
set_option maxRecDepth 100000 in
theorem zk_48 : zck1 48 zm_48 = true := by decide +kernel
set_option maxRecDepth 100000 in
theorem zk_49 : zck1 49 zm_49 = true := by decide +kernel
set_option maxRecDepth 100000 in
theorem zk_50 : zck1 50 zm_50 = true := by decide +kernel
set_option maxRecDepth 100000 in
theorem zk_51 : zck1 51 zm_51 = true := by decide +kernel
set_option maxRecDepth 100000 in
theorem zk_52 : zck1 52 zm_52 = true := by decide +kernel
set_option maxRecDepth 100000 in
theorem zk_53 : zck1 53 zm_53 = true := by decide +kernel
set_option maxRecDepth 100000 in
theorem zk_54 : zck1 54 zm_54 = true := by decide +kernel
set_option maxRecDepth 100000 in
theorem zk_55 : zck1 55 zm_55 = true := by decide +kernel
set_option maxRecDepth 100000 in
theorem zk_56 : zck1 56 zm_56 = true := by decide +kernel
set_option maxRecDepth 100000 in
theorem zk_57 : zck1 57 zm_57 = true := by decide +kernel
set_option maxRecDepth 100000 in
theorem zk_58 : zck1 58 zm_58 = true := by decide +kernel
set_option maxRecDepth 100000 in
theorem zk_59 : zck1 59 zm_59 = true := by decide +kernel
set_option maxRecDepth 100000 in
theorem zk_60 : zck1 60 zm_60 = true := by decide +kernel
set_option maxRecDepth 100000 in
theorem zk_61 : zck1 61 zm_61 = true := by decide +kernel
set_option maxRecDepth 100000 in
theorem zk_62 : zck1 62 zm_62 = true := by decide +kernel
set_option maxRecDepth 100000 in
theorem zk_63 : zck1 63 zm_63 = true := by decide +kernel
set_option maxRecDepth 100000 in
theorem zk_64 : zck1 64 zm_64 = true := by decide +kernel
set_option maxRecDepth 100000 in
theorem zk_65 : zck1 65 zm_65 = true := by decide +kernel
set_option maxRecDepth 100000 in
theorem zk_66 : zck1 66 zm_66 = true := by decide +kernel
set_option maxRecDepth 100000 in
theorem zk_67 : zck1 67 zm_67 = true := by decide +kernel
set_option maxRecDepth 100000 in
theorem zk_68 : zck1 68 zm_68 = true := by decide +kernel
set_option maxRecDepth 100000 in
theorem zk_69 : zck1 69 zm_69 = true := by decide +kernel
set_option maxRecDepth 100000 in
theorem zk_70 : zck1 70 zm_70 = true := by decide +kernel
set_option maxRecDepth 100000 in
theorem zk_71 : zck1 71 zm_71 = true := by decide +kernel
set_option maxRecDepth 100000 in
theorem zk_72 : zck1 72 zm_72 = true := by decide +kernel
set_option maxRecDepth 100000 in
theorem zk_73 : zck1 73 zm_73 = true := by decide +kernel
