set_option maxRecDepth 100000 in
theorem zk_284 : zck1 284 zm_284 = true := by decide +kernel
set_option maxRecDepth 100000 in
theorem zk_285 : zck1 285 zm_285 = true := by decide +kernel
set_option maxRecDepth 100000 in
theorem zk_287 : zck1 287 zm_287 = true := by decide +kernel
