set_option maxRecDepth 100000 in
theorem zk_74 : zck1 74 zm_74 = true := by decide +kernel
set_option maxRecDepth 100000 in
theorem zk_75 : zck1 75 zm_75 = true := by decide +kernel
set_option maxRecDepth 100000 in
theorem zk_76 : zck1 76 zm_76 = true := by decide +kernel
set_option maxRecDepth 100000 in
theorem zk_77 : zck1 77 zm_77 = true := by decide +kernel
set_option maxRecDepth 100000 in
theorem zk_78 : zck1 78 zm_78 = true := by decide +kernel
set_option maxRecDepth 100000 in
theorem zk_79 : zck1 79 zm_79 = true := by decide +kernel
set_option maxRecDepth 100000 in
theorem zk_80 : zck1 80 zm_80 = true := by decide +kernel
set_option maxRecDepth 100000 in
theorem zk_81 : zck1 81 zm_81 = true := by decide +kernel
set_option maxRecDepth 100000 in
theorem zk_82 : zck1 82 zm_82 = true := by decide +kernel
set_option maxRecDepth 100000 in
theorem zk_83 : zck1 83 zm_83 = true := by decide +kernel
set_option maxRecDepth 100000 in
theorem zk_84 : zck1 84 zm_84 = true := by decide +kernel
set_option maxRecDepth 100000 in
theorem zk_85 : zck1 85 zm_85 = true := by decide +kernel
set_option maxRecDepth 100000 in
theorem zk_86 : zck1 86 zm_86 = true := by decide +kernel
set_option maxRecDepth 100000 in
theorem zk_87 : zck1 87 zm_87 = true := by decide +kernel
set_option maxRecDepth 100000 in
theorem zk_88 : zck1 88 zm_88 = true := by decide +kernel
set_option maxRecDepth 100000 in
theorem zk_89 : zck1 89 zm_89 = true := by decide +kernel
set_option maxRecDepth 100000 in
theorem zk_90 : zck1 90 zm_90 = true := by decide +kernel
set_option maxRecDepth 100000 in
theorem zk_91 : zck1 91 zm_91 = true := by decide +kernel
set_option maxRecDepth 100000 in
theorem zk_92 : zck1 92 zm_92 = true := by decide +kernel
set_option maxRecDepth 100000 in
theorem zk_93 : zck1 93 zm_93 = true := by decide +kernel
set_option maxRecDepth 100000 in
theorem zk_94 : zck1 94 zm_94 = true := by decide +kernel
set_option maxRecDepth 100000 in
theorem zk_95 : zck1 95 zm_95 = true := by decide +kernel
set_option maxRecDepth 100000 in
theorem zk_96 : zck1 96 zm_96 = true := by decide +kernel
set_option maxRecDepth 100000 in
theorem zk_97 : zck1 97 zm_97 = true := by decide +kernel
set_option maxRecDepth 100000 in
theorem zk_98 : zck1 98 zm_98 = true := by decide +kernel
set_option maxRecDepth 100000 in
theorem zk_99 : zck1 99 zm_99 = true := by decide +kernel
set_option maxRecDepth 100000 in
theorem zk_100 : zck1 100 zm_100 = true := by decide +kernel
set_option maxRecDepth 100000 in
theorem zk_101 : zck1 101 zm_101 = true := by decide +kernel
set_option maxRecDepth 100000 in
theorem zk_102 : zck1 102 zm_102 = true := by decide +kernel
set_option maxRecDepth 100000 in
theorem zk_103 : zck1 103 zm_103 = true := by decide +kernel
set_option maxRecDepth 100000 in
theorem zk_104 : zck1 104 zm_104 = true := by decide +kernel
set_option maxRecDepth 100000 in
theorem zk_105 : zck1 105 zm_105 = true := by decide +kernel
set_option maxRecDepth 100000 in
theorem zk_106 : zck1 106 zm_106 = true := by decide +kernel
set_option maxRecDepth 100000 in
theorem zk_107 : zck1 107 zm_107 = true := by decide +kernel
set_option maxRecDepth 100000 in
theorem zk_108 : zck1 108 zm_108 = true := by decide +kernel
set_option maxRecDepth 100000 in
theorem zk_109 : zck1 109 zm_109 = true := by decide +kernel
set_option maxRecDepth 100000 in
theorem zk_110 : zck1 110 zm_110 = true := by decide +kernel
set_option maxRecDepth 100000 in
theorem zk_111 : zck1 111 zm_111 = true := by decide +kernel
set_option maxRecDepth 100000 in
theorem zk_112 : zck1 112 zm_112 = true := by decide +kernel
