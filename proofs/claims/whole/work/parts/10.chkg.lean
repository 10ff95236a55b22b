set_option maxRecDepth 100000 in
theorem zk_219 : zck1 219 zm_219 = true := by decide +kernel
set_option maxRecDepth 100000 in
theorem zk_220 : zck1 220 zm_220 = true := by decide +kernel
set_option maxRecDepth 100000 in
theorem zk_221 : zck1 221 zm_221 = true := by decide +kernel
set_option maxRecDepth 100000 in
theorem zk_222 : zck1 222 zm_222 = true := by decide +kernel
set_option maxRecDepth 100000 in
theorem zk_223 : zck1 223 zm_223 = true := by decide +kernel
set_option maxRecDepth 100000 in
theorem zk_224 : zck1 224 zm_224 = true := by decide +kernel
set_option maxRecDepth 100000 in
theorem zk_225 : zck1 225 zm_225 = true := by decide +kernel
set_option maxRecDepth 100000 in
theorem zk_226 : zck1 226 zm_226 = true := by decide +kernel
set_option maxRecDepth 100000 in
theorem zk_227 : zck1 227 zm_227 = true := by decide +kernel
set_option maxRecDepth 100000 in
theorem zk_228 : zck1 228 zm_228 = true := by decide +kernel
set_option maxRecDepth 100000 in
theorem zk_229 : zck1 229 zm_229 = true := by decide +kernel
set_option maxRecDepth 100000 in
theorem zk_230 : zck1 230 zm_230 = true := by decide +kernel
set_option maxRecDepth 100000 in
theorem zk_231 : zck1 231 zm_231 = true := by decide +kernel
set_option maxRecDepth 100000 in
theorem zk_232 : zck1 232 zm_232 = true := by decide +kernel
set_option maxRecDepth 100000 in
theorem zk_233 : zck1 233 zm_233 = true := by decide +kernel
set_option maxRecDepth 100000 in
theorem zk_234 : zck1 234 zm_234 = true := by decide +kernel
set_option maxRecDepth 100000 in
theorem zk_235 : zck1 235 zm_235 = true := by decide +kernel
set_option maxRecDepth 100000 in
theorem zk_236 : zck1 236 zm_236 = true := by decide +kernel
set_option maxRecDepth 100000 in
theorem zk_237 : zck1 237 zm_237 = true := by decide +kernel
set_option maxRecDepth 100000 in
theorem zk_238 : zck1 238 zm_238 = true := by decide +kernel
set_option maxRecDepth 100000 in
theorem zk_239 : zck1 239 zm_239 = true := by decide +kernel
set_option maxRecDepth 100000 in
theorem zk_240 : zck1 240 zm_240 = true := by decide +kernel
set_option maxRecDepth 100000 in
theorem zk_241 : zck1 241 zm_241 = true := by decide +kernel
set_option maxRecDepth 100000 in
theorem zk_242 : zck1 242 zm_242 = true := by decide +kernel
set_option maxRecDepth 100000 in
theorem zk_243 : zck1 243 zm_243 = true := by decide +kernel
set_option maxRecDepth 100000 in
theorem zk_244 : zck1 244 zm_244 = true := by decide +kernel
set_option maxRecDepth 100000 in
theorem zk_245 : zck1 245 zm_245 = true := by decide +kernel
set_option maxRecDepth 100000 in
theorem zk_246 : zck1 246 zm_246 = true := by decide +kernel
set_option maxRecDepth 100000 in
theorem zk_247 : zck1 247 zm_247 = true := by decide +kernel
set_option maxRecDepth 100000 in
theorem zk_248 : zck1 248 zm_248 = true := by decide +kernel
