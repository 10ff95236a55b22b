set_option maxRecDepth 100000 in
theorem zk_283 : zck1 283 zm_283 = true := by decide +kernel
set_option maxRecDepth 100000 in
theorem zk_284 : zck1 284 zm_284 = true := by decide +kernel
set_option maxRecDepth 100000 in
theorem zk_286 : zck1 286 zm_286 = true := by decide +kernel
