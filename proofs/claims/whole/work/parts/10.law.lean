theorem zchg_cut {M : zM} : ∀ (k : Nat) {b : Nat} {l : List (Option zO)}, zchg M b (l.take k) = true → zchg M (b + k) (l.drop k) = true → zchg M b l = true := by
  intro k
  induction k with
  | zero => intro b l _ h2; simpa using h2
  | succ k ih =>
    intro b l h1 h2
    cases l with
    | nil => rfl
    | cons o l =>
      cases o with
      | none => exact ih (b := b + 1) (by simpa [zchg] using h1) (by rw [show b + 1 + k = b + (k + 1) by omega]; simpa using h2)
      | some o =>
        simp only [List.take_succ_cons, zchg, Bool.and_eq_true] at h1 ⊢
        exact ⟨h1.1, ih (b := b + 1) h1.2 (by rw [show b + 1 + k = b + (k + 1) by omega]; simpa using h2)⟩
set_option maxRecDepth 100000 in
theorem zlw_0 : zchg zm_286 0 ((zo_286.drop 0).take 70) = true := by decide +kernel
set_option maxRecDepth 100000 in
theorem zlw_70 : zchg zm_286 70 ((zo_286.drop 70).take 70) = true := by decide +kernel
set_option maxRecDepth 100000 in
theorem zlw_140 : zchg zm_286 140 ((zo_286.drop 140).take 70) = true := by decide +kernel
set_option maxRecDepth 100000 in
theorem zlw_210 : zchg zm_286 210 ((zo_286.drop 210).take 70) = true := by decide +kernel
set_option maxRecDepth 100000 in
theorem zlw_280 : zchg zm_286 280 ((zo_286.drop 280).take 70) = true := by decide +kernel
set_option maxRecDepth 100000 in
theorem zlw_350 : zchg zm_286 350 ((zo_286.drop 350).take 70) = true := by decide +kernel
set_option maxRecDepth 100000 in
theorem zlw_420 : zchg zm_286 420 ((zo_286.drop 420).take 70) = true := by decide +kernel
set_option maxRecDepth 100000 in
theorem zlw_490 : zchg zm_286 490 ((zo_286.drop 490).take 70) = true := by decide +kernel
set_option maxRecDepth 100000 in
theorem zlw_560 : zchg zm_286 560 ((zo_286.drop 560).take 70) = true := by decide +kernel
set_option maxRecDepth 100000 in
theorem zlw_630 : zchg zm_286 630 ((zo_286.drop 630).take 70) = true := by decide +kernel
set_option maxRecDepth 100000 in
theorem zlw_700 : zchg zm_286 700 ((zo_286.drop 700).take 70) = true := by decide +kernel
set_option maxRecDepth 100000 in
theorem zlw_770 : zchg zm_286 770 ((zo_286.drop 770).take 70) = true := by decide +kernel
set_option maxRecDepth 100000 in
theorem zlw_840 : zchg zm_286 840 ((zo_286.drop 840).take 70) = true := by decide +kernel
set_option maxRecDepth 100000 in
theorem zlw_910 : zchg zm_286 910 ((zo_286.drop 910).take 70) = true := by decide +kernel
set_option maxRecDepth 100000 in
theorem zlw_980 : zchg zm_286 980 ((zo_286.drop 980).take 70) = true := by decide +kernel
set_option maxRecDepth 100000 in
theorem zlw_1050 : zchg zm_286 1050 ((zo_286.drop 1050).take 70) = true := by decide +kernel
set_option maxRecDepth 100000 in
theorem zlw_1120 : zchg zm_286 1120 ((zo_286.drop 1120).take 70) = true := by decide +kernel
set_option maxRecDepth 100000 in
theorem zlw_1190 : zchg zm_286 1190 ((zo_286.drop 1190).take 70) = true := by decide +kernel
set_option maxRecDepth 100000 in
theorem zlw_1260 : zchg zm_286 1260 ((zo_286.drop 1260).take 70) = true := by decide +kernel
set_option maxRecDepth 100000 in
theorem zlw_1330 : zchg zm_286 1330 ((zo_286.drop 1330).take 70) = true := by decide +kernel
set_option maxRecDepth 100000 in
theorem zlw_1400 : zchg zm_286 1400 ((zo_286.drop 1400).take 70) = true := by decide +kernel
theorem zlw_end : zchg zm_286 1470 (zo_286.drop 1470) = true := by
  have : zo_286.drop 1470 = [] := List.drop_eq_nil_of_le (by decide +kernel)
  rw [this]; rfl
theorem zlx_1400 : zchg zm_286 1400 (zo_286.drop 1400) = true := zchg_cut 70 zlw_1400 (by rw [List.drop_drop]; exact zlw_end)
theorem zlx_1330 : zchg zm_286 1330 (zo_286.drop 1330) = true := zchg_cut 70 zlw_1330 (by rw [List.drop_drop]; exact zlx_1400)
theorem zlx_1260 : zchg zm_286 1260 (zo_286.drop 1260) = true := zchg_cut 70 zlw_1260 (by rw [List.drop_drop]; exact zlx_1330)
theorem zlx_1190 : zchg zm_286 1190 (zo_286.drop 1190) = true := zchg_cut 70 zlw_1190 (by rw [List.drop_drop]; exact zlx_1260)
theorem zlx_1120 : zchg zm_286 1120 (zo_286.drop 1120) = true := zchg_cut 70 zlw_1120 (by rw [List.drop_drop]; exact zlx_1190)
theorem zlx_1050 : zchg zm_286 1050 (zo_286.drop 1050) = true := zchg_cut 70 zlw_1050 (by rw [List.drop_drop]; exact zlx_1120)
theorem zlx_980 : zchg zm_286 980 (zo_286.drop 980) = true := zchg_cut 70 zlw_980 (by rw [List.drop_drop]; exact zlx_1050)
theorem zlx_910 : zchg zm_286 910 (zo_286.drop 910) = true := zchg_cut 70 zlw_910 (by rw [List.drop_drop]; exact zlx_980)
theorem zlx_840 : zchg zm_286 840 (zo_286.drop 840) = true := zchg_cut 70 zlw_840 (by rw [List.drop_drop]; exact zlx_910)
theorem zlx_770 : zchg zm_286 770 (zo_286.drop 770) = true := zchg_cut 70 zlw_770 (by rw [List.drop_drop]; exact zlx_840)
theorem zlx_700 : zchg zm_286 700 (zo_286.drop 700) = true := zchg_cut 70 zlw_700 (by rw [List.drop_drop]; exact zlx_770)
theorem zlx_630 : zchg zm_286 630 (zo_286.drop 630) = true := zchg_cut 70 zlw_630 (by rw [List.drop_drop]; exact zlx_700)
theorem zlx_560 : zchg zm_286 560 (zo_286.drop 560) = true := zchg_cut 70 zlw_560 (by rw [List.drop_drop]; exact zlx_630)
theorem zlx_490 : zchg zm_286 490 (zo_286.drop 490) = true := zchg_cut 70 zlw_490 (by rw [List.drop_drop]; exact zlx_560)
theorem zlx_420 : zchg zm_286 420 (zo_286.drop 420) = true := zchg_cut 70 zlw_420 (by rw [List.drop_drop]; exact zlx_490)
theorem zlx_350 : zchg zm_286 350 (zo_286.drop 350) = true := zchg_cut 70 zlw_350 (by rw [List.drop_drop]; exact zlx_420)
theorem zlx_280 : zchg zm_286 280 (zo_286.drop 280) = true := zchg_cut 70 zlw_280 (by rw [List.drop_drop]; exact zlx_350)
theorem zlx_210 : zchg zm_286 210 (zo_286.drop 210) = true := zchg_cut 70 zlw_210 (by rw [List.drop_drop]; exact zlx_280)
theorem zlx_140 : zchg zm_286 140 (zo_286.drop 140) = true := zchg_cut 70 zlw_140 (by rw [List.drop_drop]; exact zlx_210)
theorem zlx_70 : zchg zm_286 70 (zo_286.drop 70) = true := zchg_cut 70 zlw_70 (by rw [List.drop_drop]; exact zlx_140)
theorem zlx_0 : zchg zm_286 0 (zo_286.drop 0) = true := zchg_cut 70 zlw_0 (by rw [List.drop_drop]; exact zlx_70)
theorem zck_law : zchg zm_286 0 zo_286 = true := zlx_0
