set_option maxRecDepth 100000 in
theorem zk_249 : zck1 249 zm_249 = true := by decide +kernel
set_option maxRecDepth 100000 in
theorem zk_250 : zck1 250 zm_250 = true := by decide +kernel
set_option maxRecDepth 100000 in
theorem zk_251 : zck1 251 zm_251 = true := by decide +kernel
set_option maxRecDepth 100000 in
theorem zk_252 : zck1 252 zm_252 = true := by decide +kernel
set_option maxRecDepth 100000 in
theorem zk_253 : zck1 253 zm_253 = true := by decide +kernel
set_option maxRecDepth 100000 in
theorem zk_254 : zck1 254 zm_254 = true := by decide +kernel
set_option maxRecDepth 100000 in
theorem zk_255 : zck1 255 zm_255 = true := by decide +kernel
set_option maxRecDepth 100000 in
theorem zk_256 : zck1 256 zm_256 = true := by decide +kernel
set_option maxRecDepth 100000 in
theorem zk_257 : zck1 257 zm_257 = true := by decide +kernel
set_option maxRecDepth 100000 in
theorem zk_258 : zck1 258 zm_258 = true := by decide +kernel
set_option maxRecDepth 100000 in
theorem zk_259 : zck1 259 zm_259 = true := by decide +kernel
set_option maxRecDepth 100000 in
theorem zk_260 : zck1 260 zm_260 = true := by decide +kernel
set_option maxRecDepth 100000 in
theorem zk_261 : zck1 261 zm_261 = true := by decide +kernel
set_option maxRecDepth 100000 in
theorem zk_262 : zck1 262 zm_262 = true := by decide +kernel
set_option maxRecDepth 100000 in
theorem zk_263 : zck1 263 zm_263 = true := by decide +kernel
set_option maxRecDepth 100000 in
theorem zk_264 : zck1 264 zm_264 = true := by decide +kernel
set_option maxRecDepth 100000 in
theorem zk_265 : zck1 265 zm_265 = true := by decide +kernel
set_option maxRecDepth 100000 in
theorem zk_266 : zck1 266 zm_266 = true := by decide +kernel
set_option maxRecDepth 100000 in
theorem zk_267 : zck1 267 zm_267 = true := by decide +kernel
set_option maxRecDepth 100000 in
theorem zk_268 : zck1 268 zm_268 = true := by decide +kernel
set_option maxRecDepth 100000 in
theorem zk_269 : zck1 269 zm_269 = true := by decide +kernel
set_option maxRecDepth 100000 in
theorem zk_270 : zck1 270 zm_270 = true := by decide +kernel
set_option maxRecDepth 100000 in
theorem zk_271 : zck1 271 zm_271 = true := by decide +kernel
set_option maxRecDepth 100000 in
theorem zk_272 : zck1 272 zm_272 = true := by decide +kernel
set_option maxRecDepth 100000 in
theorem zk_273 : zck1 273 zm_273 = true := by decide +kernel
set_option maxRecDepth 100000 in
theorem zk_274 : zck1 274 zm_274 = true := by decide +kernel
set_option maxRecDepth 100000 in
theorem zk_275 : zck1 275 zm_275 = true := by decide +kernel
set_option maxRecDepth 100000 in
theorem zk_276 : zck1 276 zm_276 = true := by decide +kernel
set_option maxRecDepth 100000 in
theorem zk_277 : zck1 277 zm_277 = true := by decide +kernel
set_option maxRecDepth 100000 in
theorem zk_278 : zck1 278 zm_278 = true := by decide +kernel
set_option maxRecDepth 100000 in
theorem zk_279 : zck1 279 zm_279 = true := by decide +kernel
set_option maxRecDepth 100000 in
theorem zk_280 : zck1 280 zm_280 = true := by decide +kernel
set_option maxRecDepth 100000 in
theorem zk_281 : zck1 281 zm_281 = true := by decide +kernel
set_option maxRecDepth 100000 in
theorem zk_282 : zck1 282 zm_282 = true := by decide +kernel
set_option maxRecDepth 100000 in
theorem zk_283 : zck1 283 zm_283 = true := by decide +kernel
