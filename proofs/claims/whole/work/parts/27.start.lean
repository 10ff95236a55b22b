/-! THE START: what the Statement gives, in the words of the abstract machine -/
def zA_SORT_OF : List Int32 := [0, 0, 0, 0, 1, 1, 1, 1, 1, 2]
def zA_NUMBERS : List Int32 := [1, 1, 6, 2, 0, 1, 1, 1, 2, 2]
def zA_LOW : List Int32 := [0, 0, 0, 0, 0, 0, 0, 0, 0, 0, 0, 0, 0, 0, 0, 0, 1, 0, 0, 0, 0, 0, 0, 0, 0, 0, 0, 0, 0, 0, 0, 0, 0, 0, 0, 0, 0, 0, 0, 0, 0, 0, 0, 0, 0, 0, 0, 0, 0, 0, 0, 0, 0, 0, 1, 0, 0, 0, 0, 0]
def zA_HIGH : List Int32 := [9, 0, 0, 0, 0, 0, 9, 0, 0, 0, 0, 0, 30, 5, 30, 5, 40, 20, 6, 6, 0, 0, 0, 0, 0, 0, 0, 0, 0, 0, 6, 0, 0, 0, 0, 0, 6, 0, 0, 0, 0, 0, 6, 0, 0, 0, 0, 0, 6, 20, 0, 0, 0, 0, 20, 7, 0, 0, 0, 0]
def zXs (L : Nat) (xs : Nat → Int32) : zX := fun r => match r with
  | 0 => some (L, xs)
  | 1 => some (10, fun j => zA_SORT_OF.getD j 0)
  | 2 => some (10, fun j => zA_NUMBERS.getD j 0)
  | 3 => some (60, fun j => zA_LOW.getD j 0)
  | 4 => some (60, fun j => zA_HIGH.getD j 0)
  | _ => none
def zstm (i : Nat) : Term := Term.string "CorkedTalk$Reader" (zspool.getD i 0)
set_option maxRecDepth 100000 in
theorem zf_str : ∀ i, i < 11 → Cond.exactly (zstm i) "java/lang/String" ∈ flatC narrow_1 ∧ Cond.eq (.field (zstm i) "java/lang/String" "coder" "B") (.int 0) ∈ flatC narrow_1 ∧ Cond.arrayOf (.field (zstm i) "java/lang/String" "value" "[B") .byte ∈ flatC narrow_1 ∧ Cond.eq (.length (.field (zstm i) "java/lang/String" "value" "[B")) (.int (Int32.ofNat (zlens.getD i 0))) ∈ flatC narrow_1 := by decide +kernel
set_option maxRecDepth 100000 in
theorem zf_chr : ∀ i, i < 11 → ∀ j, j < zlens.getD i 0 → Cond.eq (.elem (.field (zstm i) "java/lang/String" "value" "[B") (.int (Int32.ofNat j))) (.int ((zwords.getD i []).getD j 0)) ∈ flatC narrow_1 := by decide +kernel
set_option maxRecDepth 100000 in
theorem zf_ne : ∀ i, i < 11 → ∀ j, j < 11 → i ≠ j → Cond.not (Cond.eq (zstm i) (zstm j)) ∈ flatC narrow_1 ∨ Cond.not (Cond.eq (zstm j) (zstm i)) ∈ flatC narrow_1 := by decide +kernel
set_option maxRecDepth 100000 in
theorem zf_cs : Cond.eq (.static "java/lang/String" "COMPACT_STRINGS" "Z") (.int 1) ∈ flatC narrow_1 ∧ Cond.laysStatic "java/lang/String" "COMPACT_STRINGS" "Z" ∈ lw_tbl ∧ Cond.initialized "java/lang/String" ∈ lw_tbl ∧ Cond.initialized "CorkedTalk$Reader" ∈ lw_tbl := by decide +kernel
def zstxt : List String := ["shock", "reach", "saying", "answers", "year", "open", "wire", "taint", "move", "heard", ""]
set_option maxRecDepth 100000 in
theorem zf_ref : ∀ i, i < 11 → Cond.stringRef "CorkedTalk$Reader" (zspool.getD i 0) (zstxt.getD i "") ∈ lw_tbl := by decide +kernel
def zsta (r : Nat) : List Int32 := match r with
  | 0 => zA_SORT_OF
  | 1 => zA_NUMBERS
  | 2 => zA_LOW
  | _ => zA_HIGH
def zstt (r : Nat) : Term := match zstat[r + 1]? with
  | some q => Term.static q.1 q.2.1 q.2.2
  | none => Term.int 0
set_option maxRecDepth 100000 in
theorem zf_sta : ∀ r, r < 4 → Cond.arrayOf (zstt r) .int ∈ flatC narrow_1 ∧ Cond.eq (.length (zstt r)) (.int (Int32.ofNat (zsta r).length)) ∈ flatC narrow_1 ∧ ∀ j, j < (zsta r).length → Cond.eq (.elem (zstt r) (.int (Int32.ofNat j))) (.int ((zsta r).getD j 0)) ∈ flatC narrow_1 := by decide +kernel
set_option maxRecDepth 100000 in
theorem zf_lay : ∀ r, r < 4 → ∀ q, zstat[r + 1]? = some q → Cond.laysStatic q.1 q.2.1 q.2.2 ∈ lw_tbl ∧ q.1 = "CorkedTalk$Reader" := by decide +kernel
set_option maxRecDepth 100000 in
theorem zf_over : ∀ C ∈ zover, Cond.arrayOver (.object C) ∈ lw_tbl := by decide +kernel
theorem zf_nest (a : String) (i : Nat) (y : MethodName) (h : String) (e : (a, i, y, h) ∈ znest) : Cond.methodLinkNest a i y h ∈ lw_tbl := by
  unfold znest at e
  obtain ⟨w, hw, e2⟩ := List.mem_filterMap.mp e
  split at e2
  · cases e2; exact hw
  · cases e2
