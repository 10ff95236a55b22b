set_option maxRecDepth 100000 in
theorem zk_182 : zck1 182 zm_182 = true := by decide +kernel
set_option maxRecDepth 100000 in
theorem zk_183 : zck1 183 zm_183 = true := by decide +kernel
set_option maxRecDepth 100000 in
theorem zk_184 : zck1 184 zm_184 = true := by decide +kernel
set_option maxRecDepth 100000 in
theorem zk_185 : zck1 185 zm_185 = true := by decide +kernel
set_option maxRecDepth 100000 in
theorem zk_186 : zck1 186 zm_186 = true := by decide +kernel
set_option maxRecDepth 100000 in
theorem zk_187 : zck1 187 zm_187 = true := by decide +kernel
set_option maxRecDepth 100000 in
theorem zk_188 : zck1 188 zm_188 = true := by decide +kernel
set_option maxRecDepth 100000 in
theorem zk_189 : zck1 189 zm_189 = true := by decide +kernel
set_option maxRecDepth 100000 in
theorem zk_190 : zck1 190 zm_190 = true := by decide +kernel
set_option maxRecDepth 100000 in
theorem zk_191 : zck1 191 zm_191 = true := by decide +kernel
set_option maxRecDepth 100000 in
theorem zk_192 : zck1 192 zm_192 = true := by decide +kernel
set_option maxRecDepth 100000 in
theorem zk_193 : zck1 193 zm_193 = true := by decide +kernel
set_option maxRecDepth 100000 in
theorem zk_194 : zck1 194 zm_194 = true := by decide +kernel
set_option maxRecDepth 100000 in
theorem zk_195 : zck1 195 zm_195 = true := by decide +kernel
set_option maxRecDepth 100000 in
theorem zk_196 : zck1 196 zm_196 = true := by decide +kernel
set_option maxRecDepth 100000 in
theorem zk_197 : zck1 197 zm_197 = true := by decide +kernel
set_option maxRecDepth 100000 in
theorem zk_198 : zck1 198 zm_198 = true := by decide +kernel
set_option maxRecDepth 100000 in
theorem zk_199 : zck1 199 zm_199 = true := by decide +kernel
set_option maxRecDepth 100000 in
theorem zk_200 : zck1 200 zm_200 = true := by decide +kernel
set_option maxRecDepth 100000 in
theorem zk_201 : zck1 201 zm_201 = true := by decide +kernel
set_option maxRecDepth 100000 in
theorem zk_202 : zck1 202 zm_202 = true := by decide +kernel
set_option maxRecDepth 100000 in
theorem zk_203 : zck1 203 zm_203 = true := by decide +kernel
set_option maxRecDepth 100000 in
theorem zk_204 : zck1 204 zm_204 = true := by decide +kernel
set_option maxRecDepth 100000 in
theorem zk_205 : zck1 205 zm_205 = true := by decide +kernel
set_option maxRecDepth 100000 in
theorem zk_206 : zck1 206 zm_206 = true := by decide +kernel
set_option maxRecDepth 100000 in
theorem zk_207 : zck1 207 zm_207 = true := by decide +kernel
set_option maxRecDepth 100000 in
theorem zk_208 : zck1 208 zm_208 = true := by decide +kernel
set_option maxRecDepth 100000 in
theorem zk_209 : zck1 209 zm_209 = true := by decide +kernel
set_option maxRecDepth 100000 in
theorem zk_210 : zck1 210 zm_210 = true := by decide +kernel
set_option maxRecDepth 100000 in
theorem zk_211 : zck1 211 zm_211 = true := by decide +kernel
set_option maxRecDepth 100000 in
theorem zk_212 : zck1 212 zm_212 = true := by decide +kernel
set_option maxRecDepth 100000 in
theorem zk_213 : zck1 213 zm_213 = true := by decide +kernel
set_option maxRecDepth 100000 in
theorem zk_214 : zck1 214 zm_214 = true := by decide +kernel
set_option maxRecDepth 100000 in
theorem zk_215 : zck1 215 zm_215 = true := by decide +kernel
set_option maxRecDepth 100000 in
theorem zk_216 : zck1 216 zm_216 = true := by decide +kernel
set_option maxRecDepth 100000 in
theorem zk_217 : zck1 217 zm_217 = true := by decide +kernel
set_option maxRecDepth 100000 in
theorem zk_218 : zck1 218 zm_218 = true := by decide +kernel
