/-! THE LAYOUT behind the constructors (a concrete run gives it; the kernel checks it) -/
def zS0 : zS := [.inr 10, .inr 8, .inl (.byte, 600), .inl (.int, 3), .inl (.object "CorkedTalk$Cellar", 2), .inl (.object "CorkedTalk$Deeds", 2), .inl (.object "CorkedTalk$Log", 2), .inr 0, .inl (.int, 7), .inl (.int, 7), .inl (.int, 7), .inl (.int, 7), .inl (.int, 7), .inl (.int, 7), .inl (.int, 7), .inr 1, .inl (.int, 40), .inl (.int, 40), .inl (.int, 40), .inr 4, .inl (.int, 8), .inl (.int, 8), .inr 0, .inl (.int, 7), .inl (.int, 7), .inl (.int, 7), .inl (.int, 7), .inl (.int, 7), .inl (.int, 7), .inl (.int, 7), .inr 1, .inl (.int, 40), .inl (.int, 40), .inl (.int, 40), .inr 4, .inl (.int, 8), .inl (.int, 8), .inl (.object "CorkedTalk$Told", 3), .inr 8, .inl (.byte, 600), .inl (.int, 3), .inl (.object "CorkedTalk$Cellar", 2), .inl (.object "CorkedTalk$Deeds", 2), .inl (.object "CorkedTalk$Log", 2), .inr 0, .inl (.int, 7), .inl (.int, 7), .inl (.int, 7), .inl (.int, 7), .inl (.int, 7), .inl (.int, 7), .inl (.int, 7), .inr 1, .inl (.int, 40), .inl (.int, 40), .inl (.int, 40), .inr 4, .inl (.int, 8), .inl (.int, 8), .inr 0, .inl (.int, 7), .inl (.int, 7), .inl (.int, 7), .inl (.int, 7), .inl (.int, 7), .inl (.int, 7), .inl (.int, 7), .inr 1, .inl (.int, 40), .inl (.int, 40), .inl (.int, 40), .inr 4, .inl (.int, 8), .inl (.int, 8), .inr 8, .inl (.byte, 600), .inl (.int, 3), .inl (.object "CorkedTalk$Cellar", 2), .inl (.object "CorkedTalk$Deeds", 2), .inl (.object "CorkedTalk$Log", 2), .inr 0, .inl (.int, 7), .inl (.int, 7), .inl (.int, 7), .inl (.int, 7), .inl (.int, 7), .inl (.int, 7), .inl (.int, 7), .inr 1, .inl (.int, 40), .inl (.int, 40), .inl (.int, 40), .inr 4, .inl (.int, 8), .inl (.int, 8), .inr 0, .inl (.int, 7), .inl (.int, 7), .inl (.int, 7), .inl (.int, 7), .inl (.int, 7), .inl (.int, 7), .inl (.int, 7), .inr 1, .inl (.int, 40), .inl (.int, 40), .inl (.int, 40), .inr 4, .inl (.int, 8), .inl (.int, 8), .inr 8, .inl (.byte, 600), .inl (.int, 3), .inl (.object "CorkedTalk$Cellar", 2), .inl (.object "CorkedTalk$Deeds", 2), .inl (.object "CorkedTalk$Log", 2), .inr 0, .inl (.int, 7), .inl (.int, 7), .inl (.int, 7), .inl (.int, 7), .inl (.int, 7), .inl (.int, 7), .inl (.int, 7), .inr 1, .inl (.int, 40), .inl (.int, 40), .inl (.int, 40), .inr 4, .inl (.int, 8), .inl (.int, 8), .inr 0, .inl (.int, 7), .inl (.int, 7), .inl (.int, 7), .inl (.int, 7), .inl (.int, 7), .inl (.int, 7), .inl (.int, 7), .inr 1, .inl (.int, 40), .inl (.int, 40), .inl (.int, 40), .inr 4, .inl (.int, 8), .inl (.int, 8), .inl (.boolean, 3), .inr 6, .inr 0, .inl (.int, 7), .inl (.int, 7), .inl (.int, 7), .inl (.int, 7), .inl (.int, 7), .inl (.int, 7), .inl (.int, 7), .inr 1, .inl (.int, 40), .inl (.int, 40), .inl (.int, 40), .inr 4, .inl (.int, 8), .inl (.int, 8), .inl (.byte, 600), .inl (.int, 6), .inl (.int, 6), .inr 7, .inl (.int, 51), .inr 0, .inl (.int, 7), .inl (.int, 7), .inl (.int, 7), .inl (.int, 7), .inl (.int, 7), .inl (.int, 7), .inl (.int, 7), .inl (.int, 7), .inl (.int, 7), .inl (.int, 7), .inl (.int, 7), .inr 9, .inl (.int, 7), .inl (.int, 7), .inl (.int, 7), .inr 3, .inl (.int, 7), .inr 9, .inl (.int, 7), .inl (.int, 7), .inl (.int, 7), .inl (.int, 7), .inl (.int, 7), .inr 5, .inl (.int, 10), .inl (.int, 1408), .inl (.int, 7), .inr 2, .inl (.int, 100), .inr 7, .inl (.int, 51), .inr 0, .inl (.int, 7), .inl (.int, 7), .inl (.int, 7), .inl (.int, 7), .inl (.int, 7), .inl (.int, 7), .inl (.int, 7), .inl (.int, 7), .inl (.int, 7), .inl (.int, 7), .inl (.int, 7), .inl (.long, 200), .inl (.boolean, 2), .inl (.int, 8), .inr 11, .inl (.byte, 2400), .inl (.int, 4), .inl (.int, 4), .inl (.int, 4), .inl (.int, 12), .inl (.int, 416), .inl (.int, 968), .inl (.int, 136), .inl (.int, 121), .inl (.int, 6), .inl (.int, 7), .inl (.int, 7), .inl (.int, 7), .inl (.int, 7), .inl (.int, 7), .inl (.int, 1408), .inl (.int, 1024), .inl (.int, 6144), .inl (.int, 100), .inl (.int, 2100), .inl (.boolean, 3)]
def zR0l : List (List (Option Nat)) := [[some 1, some 37, some 146, some 147, some 166, some 180, some 184, some 192, some 196], [some 2, none, none, none, some 3, some 4, some 5, some 6], [], [], [some 7, some 22], [some 15, some 30], [some 19, some 34], [none, none, none, some 8, some 9, some 10, some 11, some 12, some 13, some 14], [], [], [], [], [], [], [], [none, some 16, some 17, some 18], [], [], [], [none, some 20, some 21], [], [], [none, none, none, some 23, some 24, some 25, some 26, some 27, some 28, some 29], [], [], [], [], [], [], [], [none, some 31, some 32, some 33], [], [], [], [none, some 35, some 36], [], [], [some 38, some 74, some 110], [some 39, none, none, none, some 40, some 41, some 42, some 43], [], [], [some 44, some 59], [some 52, some 67], [some 56, some 71], [none, none, none, some 45, some 46, some 47, some 48, some 49, some 50, some 51], [], [], [], [], [], [], [], [none, some 53, some 54, some 55], [], [], [], [none, some 57, some 58], [], [], [none, none, none, some 60, some 61, some 62, some 63, some 64, some 65, some 66], [], [], [], [], [], [], [], [none, some 68, some 69, some 70], [], [], [], [none, some 72, some 73], [], [], [some 75, none, none, none, some 76, some 77, some 78, some 79], [], [], [some 80, some 95], [some 88, some 103], [some 92, some 107], [none, none, none, some 81, some 82, some 83, some 84, some 85, some 86, some 87], [], [], [], [], [], [], [], [none, some 89, some 90, some 91], [], [], [], [none, some 93, some 94], [], [], [none, none, none, some 96, some 97, some 98, some 99, some 100, some 101, some 102], [], [], [], [], [], [], [], [none, some 104, some 105, some 106], [], [], [], [none, some 108, some 109], [], [], [some 111, none, none, none, some 112, some 113, some 114, some 115], [], [], [some 116, some 131], [some 124, some 139], [some 128, some 143], [none, none, none, some 117, some 118, some 119, some 120, some 121, some 122, some 123], [], [], [], [], [], [], [], [none, some 125, some 126, some 127], [], [], [], [none, some 129, some 130], [], [], [none, none, none, some 132, some 133, some 134, some 135, some 136, some 137, some 138], [], [], [], [], [], [], [], [none, some 140, some 141, some 142], [], [], [], [none, some 144, some 145], [], [], [], [some 148, some 156, some 160, none, none, some 163, some 164, some 165], [none, none, none, some 149, some 150, some 151, some 152, some 153, some 154, some 155], [], [], [], [], [], [], [], [none, some 157, some 158, some 159], [], [], [], [none, some 161, some 162], [], [], [], [], [], [none, none, none, none, none, some 167, none, none, none, none, none, none, none, none, none, none, some 176, some 177, some 178, some 179], [], [none, none, none, some 169, some 170, some 171, some 172, some 173, some 174, some 175], [], [], [], [], [], [], [], [], [], [], [], [none, some 181, none, some 182, some 183], [], [], [], [none, some 185, some 186, some 190, some 191], [], [none, some 187, none, some 188, some 189], [], [], [], [], [], [none, none, some 193, none, some 194, some 195], [], [], [], [none, some 197, some 198, some 212, some 213, some 214], [], [none, none, none, none, none, some 199, none, none, none, none, none, none, none, none, none, none, some 208, some 209, some 210, some 211], [], [none, none, none, some 201, some 202, some 203, some 204, some 205, some 206, some 207], [], [], [], [], [], [], [], [], [], [], [], [], [], [], [none, some 216, some 217, some 218, some 219, some 220, some 221, some 222, some 223, none, none, none, none, none, none, none, none, none, some 224, some 225, none, none, none, none, none, none, none, none, none, none, none, none, none, some 226, some 227, some 228, some 229, none, some 230, some 231, some 232, some 233, none, none, some 234, some 235, none, none, some 236], [], [], [], [], [], [], [], [], [], [], [], [], [], [], [], [], [], [], [], [], []]
def zR0 (a k : Nat) : Option Nat := match zR0l[a]? with
  | some r => match r[k]? with
    | some v => v
    | none => none
  | none => none
/-- the references that never change -/
def zRok (R : zR) : Prop := ∀ a k b, zR0 a k = some b → R a k = some b
def zI0l : List (Nat × Nat × Int32) := [(1, 3, -1), (7, 0, 3), (7, 1, 1), (22, 0, 3), (22, 1, 1), (38, 3, -1), (44, 0, 3), (44, 1, 1), (59, 0, 3), (59, 1, 1), (74, 3, -1), (80, 0, 3), (80, 1, 1), (95, 0, 3), (95, 1, 1), (110, 3, -1), (116, 0, 3), (116, 1, 1), (131, 0, 3), (131, 1, 1), (148, 0, 3), (148, 1, 1), (168, 0, 3), (168, 1, 1), (184, 8, -1), (200, 0, 3), (200, 1, 1), (219, 0, -1)]
def zI0 (a k : Nat) : Int32 := match zI0l.find? (fun q => q.1 == a && q.2.1 == k) with
  | some q => q.2.2
  | none => 0
def zprt (X : zX) (d n : Nat) (M : zM) : Nat → zF → Option zF
  | 0, f => some f
  | k + 1, f => match zstep X zP (zcal X zP d n) M f with
    | some (.inl f') => zprt X d n M k f'
    | _ => none
theorem zcal_mono {X X' : zX} (hx : zxle X X') {d n n' : Nat} (h : n ≤ n') : zcals (zcal X zP d n) (zcal X' zP d n') := by
  intro mid args h1 r e
  unfold zcal at e ⊢
  split at e
  · cases e
  · split at e
    · cases e
    · exact zrun_mono hx _ _ _ _ _ _ _ h (Nat.le_refl _) e
theorem zEv_p {X X' : zX} (hx : zxle X X') {d n : Nat} {M : zM} {r : zA} : ∀ (k : Nat) {f f' : zF}, zprt X d n M k f = some f' → zEv X' d M f' r → zEv X' d M f r := by
  intro k
  induction k with
  | zero => intro f f' h e; cases h; exact e
  | succ k ih =>
    intro f f' h e
    unfold zprt at h
    split at h
    · rename_i f2 h2
      obtain ⟨n2, hn⟩ := ih h e
      refine ⟨max n n2 + 1, ?_⟩
      rw [zrun_s, zstep_mono hx (zcal_mono hx (Nat.le_max_left n n2)) _ h2]
      exact zrun_mono (fun _ _ h => h) _ _ _ _ _ _ _ (Nat.le_max_right n n2) (Nat.le_refl _) hn
    · cases h
def zf0 : zF := (0, [some (.ref zro), none, none, none], [], zh0)
def zf1 : Option zF := zprt (fun _ => none) 10 300 zm_286 10 zf0
def zheap (o : Option zF) : zH := match o with
  | some f => f.2.2.2
  | none => zh0
def zsc : zH := zheap zf1
def zfok (o : Option zF) : Bool := match o with
  | some f => decide (f.1 = 18) && decide (f.2.1 = [some (.ref zro), some (.ref 0), some (.ref 215), some (.int 0)]) && decide (f.2.2.1 = [])
  | none => false
set_option maxRecDepth 100000 in
theorem zsc_ok : zfok zf1 = true := by decide +kernel
set_option maxRecDepth 100000 in
theorem zsc_S : zsc.1 = zS0 := by decide +kernel
