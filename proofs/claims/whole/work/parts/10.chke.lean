set_option maxRecDepth 100000 in
theorem zk_150 : zck1 150 zm_150 = true := by decide +kernel
set_option maxRecDepth 100000 in
theorem zk_151 : zck1 151 zm_151 = true := by decide +kernel
set_option maxRecDepth 100000 in
theorem zk_152 : zck1 152 zm_152 = true := by decide +kernel
set_option maxRecDepth 100000 in
theorem zk_153 : zck1 153 zm_153 = true := by decide +kernel
set_option maxRecDepth 100000 in
theorem zk_154 : zck1 154 zm_154 = true := by decide +kernel
set_option maxRecDepth 100000 in
theorem zk_155 : zck1 155 zm_155 = true := by decide +kernel
set_option maxRecDepth 100000 in
theorem zk_156 : zck1 156 zm_156 = true := by decide +kernel
set_option maxRecDepth 100000 in
theorem zk_157 : zck1 157 zm_157 = true := by decide +kernel
set_option maxRecDepth 100000 in
theorem zk_158 : zck1 158 zm_158 = true := by decide +kernel
set_option maxRecDepth 100000 in
theorem zk_159 : zck1 159 zm_159 = true := by decide +kernel
set_option maxRecDepth 100000 in
theorem zk_160 : zck1 160 zm_160 = true := by decide +kernel
set_option maxRecDepth 100000 in
theorem zk_161 : zck1 161 zm_161 = true := by decide +kernel
set_option maxRecDepth 100000 in
theorem zk_162 : zck1 162 zm_162 = true := by decide +kernel
set_option maxRecDepth 100000 in
theorem zk_163 : zck1 163 zm_163 = true := by decide +kernel
set_option maxRecDepth 100000 in
theorem zk_164 : zck1 164 zm_164 = true := by decide +kernel
set_option maxRecDepth 100000 in
theorem zk_165 : zck1 165 zm_165 = true := by decide +kernel
set_option maxRecDepth 100000 in
theorem zk_166 : zck1 166 zm_166 = true := by decide +kernel
set_option maxRecDepth 100000 in
theorem zk_167 : zck1 167 zm_167 = true := by decide +kernel
set_option maxRecDepth 100000 in
theorem zk_168 : zck1 168 zm_168 = true := by decide +kernel
set_option maxRecDepth 100000 in
theorem zk_169 : zck1 169 zm_169 = true := by decide +kernel
set_option maxRecDepth 100000 in
theorem zk_170 : zck1 170 zm_170 = true := by decide +kernel
set_option maxRecDepth 100000 in
theorem zk_171 : zck1 171 zm_171 = true := by decide +kernel
set_option maxRecDepth 100000 in
theorem zk_172 : zck1 172 zm_172 = true := by decide +kernel
set_option maxRecDepth 100000 in
theorem zk_173 : zck1 173 zm_173 = true := by decide +kernel
set_option maxRecDepth 100000 in
theorem zk_174 : zck1 174 zm_174 = true := by decide +kernel
set_option maxRecDepth 100000 in
theorem zk_175 : zck1 175 zm_175 = true := by decide +kernel
set_option maxRecDepth 100000 in
theorem zk_176 : zck1 176 zm_176 = true := by decide +kernel
set_option maxRecDepth 100000 in
theorem zk_177 : zck1 177 zm_177 = true := by decide +kernel
set_option maxRecDepth 100000 in
theorem zk_178 : zck1 178 zm_178 = true := by decide +kernel
set_option maxRecDepth 100000 in
theorem zk_179 : zck1 179 zm_179 = true := by decide +kernel
set_option maxRecDepth 100000 in
theorem zk_180 : zck1 180 zm_180 = true := by decide +kernel
set_option maxRecDepth 100000 in
theorem zk_181 : zck1 181 zm_181 = true := by decide +kernel
