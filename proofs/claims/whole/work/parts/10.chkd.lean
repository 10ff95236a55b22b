set_option maxRecDepth 100000 in
theorem zk_113 : zck1 113 zm_113 = true := by decide +kernel
set_option maxRecDepth 100000 in
theorem zk_114 : zck1 114 zm_114 = true := by decide +kernel
set_option maxRecDepth 100000 in
theorem zk_115 : zck1 115 zm_115 = true := by decide +kernel
set_option maxRecDepth 100000 in
theorem zk_116 : zck1 116 zm_116 = true := by decide +kernel
set_option maxRecDepth 100000 in
theorem zk_117 : zck1 117 zm_117 = true := by decide +kernel
set_option maxRecDepth 100000 in
theorem zk_118 : zck1 118 zm_118 = true := by decide +kernel
set_option maxRecDepth 100000 in
theorem zk_119 : zck1 119 zm_119 = true := by decide +kernel
set_option maxRecDepth 100000 in
theorem zk_120 : zck1 120 zm_120 = true := by decide +kernel
set_option maxRecDepth 100000 in
theorem zk_121 : zck1 121 zm_121 = true := by decide +kernel
set_option maxRecDepth 100000 in
theorem zk_122 : zck1 122 zm_122 = true := by decide +kernel
set_option maxRecDepth 100000 in
theorem zk_123 : zck1 123 zm_123 = true := by decide +kernel
set_option maxRecDepth 100000 in
theorem zk_124 : zck1 124 zm_124 = true := by decide +kernel
set_option maxRecDepth 100000 in
theorem zk_125 : zck1 125 zm_125 = true := by decide +kernel
set_option maxRecDepth 100000 in
theorem zk_126 : zck1 126 zm_126 = true := by decide +kernel
set_option maxRecDepth 100000 in
theorem zk_127 : zck1 127 zm_127 = true := by decide +kernel
set_option maxRecDepth 100000 in
theorem zk_128 : zck1 128 zm_128 = true := by decide +kernel
set_option maxRecDepth 100000 in
theorem zk_129 : zck1 129 zm_129 = true := by decide +kernel
set_option maxRecDepth 100000 in
theorem zk_130 : zck1 130 zm_130 = true := by decide +kernel
set_option maxRecDepth 100000 in
theorem zk_131 : zck1 131 zm_131 = true := by decide +kernel
set_option maxRecDepth 100000 in
theorem zk_132 : zck1 132 zm_132 = true := by decide +kernel
set_option maxRecDepth 100000 in
theorem zk_133 : zck1 133 zm_133 = true := by decide +kernel
set_option maxRecDepth 100000 in
theorem zk_134 : zck1 134 zm_134 = true := by decide +kernel
set_option maxRecDepth 100000 in
theorem zk_135 : zck1 135 zm_135 = true := by decide +kernel
set_option maxRecDepth 100000 in
theorem zk_136 : zck1 136 zm_136 = true := by decide +kernel
set_option maxRecDepth 100000 in
theorem zk_137 : zck1 137 zm_137 = true := by decide +kernel
set_option maxRecDepth 100000 in
theorem zk_138 : zck1 138 zm_138 = true := by decide +kernel
set_option maxRecDepth 100000 in
theorem zk_139 : zck1 139 zm_139 = true := by decide +kernel
set_option maxRecDepth 100000 in
theorem zk_140 : zck1 140 zm_140 = true := by decide +kernel
set_option maxRecDepth 100000 in
theorem zk_141 : zck1 141 zm_141 = true := by decide +kernel
set_option maxRecDepth 100000 in
theorem zk_142 : zck1 142 zm_142 = true := by decide +kernel
set_option maxRecDepth 100000 in
theorem zk_143 : zck1 143 zm_143 = true := by decide +kernel
set_option maxRecDepth 100000 in
theorem zk_144 : zck1 144 zm_144 = true := by decide +kernel
set_option maxRecDepth 100000 in
theorem zk_145 : zck1 145 zm_145 = true := by decide +kernel
set_option maxRecDepth 100000 in
theorem zk_146 : zck1 146 zm_146 = true := by decide +kernel
set_option maxRecDepth 100000 in
theorem zk_147 : zck1 147 zm_147 = true := by decide +kernel
set_option maxRecDepth 100000 in
theorem zk_148 : zck1 148 zm_148 = true := by decide +kernel
set_option maxRecDepth 100000 in
theorem zk_149 : zck1 149 zm_149 = true := by decide +kernel
