/-! ===== 07 the law: 24 calls, each to the class (op8) and to the reference (op9) ===== -/
def op8 (k : Nat) (G : Mem) (a b c : Int32) : Option (Int32 × Mem) := match k with
  | 0 => m_X8_type G a
  | 1 => some (m_X8_clear G)
  | 2 => m_X8_reads G
  | 3 => (m_X8_clause G a b).map (fun r => (r, G))
  | 4 => (m_X8_statement G a b).map (fun r => (r, G))
  | 5 => m_X8_says G a b c
  | 6 => m_X8_takes G a
  | 7 => m_X8_tenses G a b
  | 8 => m_X8_links G a b
  | 9 => m_X8_undo G
  | 10 => m_X8_sound G
  | 11 => m_X8_clash G a
  | 12 => m_X8_known G a b
  | 13 => m_X8_line G a
  | 14 => m_X8_would G a b c
  | 15 => m_X8_orders G
  | 16 => m_X8_left G a b c
  | 17 => m_X8_best G a
  | 18 => m_X8_sees G a b c
  | 19 => some (m_X8_forget G)
  | 20 => m_X8_unseen G
  | 21 => m_X8_keep G a
  | 22 => m_X8_back G a
  | 23 => (m_X8_count G a).map (fun r => (r, G))
  | _ => none
theorem cm_X8_type (l : Launch) (w : WP) (G : Mem) (a b c : Int32) {r : Int32} {G1 : Mem} (h : op8 0 G a b c = some (r, G1)) : CMi l yX8_type cX8_type 2 (some .int) 1 21 w [.ref (w.1 0), .int a] G (r, G1) := by
  exact c_X8_type l w G a h
theorem cm_X8_clear (l : Launch) (w : WP) (G : Mem) (a b c : Int32) {r : Int32} {G1 : Mem} (h : op8 1 G a b c = some (r, G1)) : CMi l yX8_clear cX8_clear 2 (some .int) 1 20 w [.ref (w.1 0)] G (r, G1) := by
  have h2 := Option.some.inj h
  rw [← h2]
  exact c_X8_clear l w G 
theorem cm_X8_reads (l : Launch) (w : WP) (G : Mem) (a b c : Int32) {r : Int32} {G1 : Mem} (h : op8 2 G a b c = some (r, G1)) : CMi l yX8_reads cX8_reads 2 (some .int) 8 178 w [.ref (w.1 0)] G (r, G1) := by
  exact c_X8_reads l w G  h
theorem cm_X8_clause (l : Launch) (w : WP) (G : Mem) (a b c : Int32) {r : Int32} {G1 : Mem} (h : op8 3 G a b c = some (r, G1)) : CMi l yX8_clause cX8_clause 3 (some .int) 3 65 w [.ref (w.1 0), .int a, .int b] G (r, G1) := by
  obtain ⟨r1, h1, h2⟩ := Option.map_eq_some_iff.mp h
  rw [← h2]
  exact c_X8_clause l w G a b h1
theorem cm_X8_statement (l : Launch) (w : WP) (G : Mem) (a b c : Int32) {r : Int32} {G1 : Mem} (h : op8 4 G a b c = some (r, G1)) : CMi l yX8_statement cX8_statement 3 (some .int) 2 43 w [.ref (w.1 0), .int a, .int b] G (r, G1) := by
  obtain ⟨r1, h1, h2⟩ := Option.map_eq_some_iff.mp h
  rw [← h2]
  exact c_X8_statement l w G a b h1
theorem cm_X8_says (l : Launch) (w : WP) (G : Mem) (a b c : Int32) {r : Int32} {G1 : Mem} (h : op8 5 G a b c = some (r, G1)) : CMi l yX8_says cX8_says 4 (some .int) 4 85 w [.ref (w.1 0), .int a, .int b, .int c] G (r, G1) := by
  exact c_X8_says l w G a b c h
theorem cm_X8_takes (l : Launch) (w : WP) (G : Mem) (a b c : Int32) {r : Int32} {G1 : Mem} (h : op8 6 G a b c = some (r, G1)) : CMi l yX8_takes cX8_takes 2 (some .int) 3 64 w [.ref (w.1 0), .int a] G (r, G1) := by
  exact c_X8_takes l w G a h
theorem cm_X8_tenses (l : Launch) (w : WP) (G : Mem) (a b c : Int32) {r : Int32} {G1 : Mem} (h : op8 7 G a b c = some (r, G1)) : CMi l yX8_tenses cX8_tenses 4 (some .int) 3 64 w [.ref (w.1 0), .int a, .int b] G (r, G1) := by
  exact c_X8_tenses l w G a b h
theorem cm_X8_links (l : Launch) (w : WP) (G : Mem) (a b c : Int32) {r : Int32} {G1 : Mem} (h : op8 8 G a b c = some (r, G1)) : CMi l yX8_links cX8_links 4 (some .int) 3 64 w [.ref (w.1 0), .int a, .int b] G (r, G1) := by
  exact c_X8_links l w G a b h
theorem cm_X8_undo (l : Launch) (w : WP) (G : Mem) (a b c : Int32) {r : Int32} {G1 : Mem} (h : op8 9 G a b c = some (r, G1)) : CMi l yX8_undo cX8_undo 1 (some .int) 3 65 w [.ref (w.1 0)] G (r, G1) := by
  exact c_X8_undo l w G  h
theorem cm_X8_sound (l : Launch) (w : WP) (G : Mem) (a b c : Int32) {r : Int32} {G1 : Mem} (h : op8 10 G a b c = some (r, G1)) : CMi l yX8_sound cX8_sound 1 (some .int) 6 135 w [.ref (w.1 0)] G (r, G1) := by
  exact c_X8_sound l w G  h
theorem cm_X8_clash (l : Launch) (w : WP) (G : Mem) (a b c : Int32) {r : Int32} {G1 : Mem} (h : op8 11 G a b c = some (r, G1)) : CMi l yX8_clash cX8_clash 3 (some .int) 6 143 w [.ref (w.1 0), .int a] G (r, G1) := by
  exact c_X8_clash l w G a h
theorem cm_X8_known (l : Launch) (w : WP) (G : Mem) (a b c : Int32) {r : Int32} {G1 : Mem} (h : op8 12 G a b c = some (r, G1)) : CMi l yX8_known cX8_known 3 (some .int) 6 135 w [.ref (w.1 0), .int a, .int b] G (r, G1) := by
  exact c_X8_known l w G a b h
theorem cm_X8_line (l : Launch) (w : WP) (G : Mem) (a b c : Int32) {r : Int32} {G1 : Mem} (h : op8 13 G a b c = some (r, G1)) : CMi l yX8_line cX8_line 2 (some .int) 6 135 w [.ref (w.1 0), .int a] G (r, G1) := by
  exact c_X8_line l w G a h
theorem cm_X8_would (l : Launch) (w : WP) (G : Mem) (a b c : Int32) {r : Int32} {G1 : Mem} (h : op8 14 G a b c = some (r, G1)) : CMi l yX8_would cX8_would 6 (some .int) 6 135 w [.ref (w.1 0), .int a, .int b, .int c] G (r, G1) := by
  exact c_X8_would l w G a b c h
theorem cm_X8_orders (l : Launch) (w : WP) (G : Mem) (a b c : Int32) {r : Int32} {G1 : Mem} (h : op8 15 G a b c = some (r, G1)) : CMi l yX8_orders cX8_orders 1 (some .int) 6 135 w [.ref (w.1 0)] G (r, G1) := by
  exact c_X8_orders l w G  h
theorem cm_X8_left (l : Launch) (w : WP) (G : Mem) (a b c : Int32) {r : Int32} {G1 : Mem} (h : op8 16 G a b c = some (r, G1)) : CMi l yX8_left cX8_left 4 (some .int) 6 135 w [.ref (w.1 0), .int a, .int b, .int c] G (r, G1) := by
  exact c_X8_left l w G a b c h
theorem cm_X8_best (l : Launch) (w : WP) (G : Mem) (a b c : Int32) {r : Int32} {G1 : Mem} (h : op8 17 G a b c = some (r, G1)) : CMi l yX8_best cX8_best 8 (some .int) 6 135 w [.ref (w.1 0), .int a] G (r, G1) := by
  exact c_X8_best l w G a h
theorem cm_X8_sees (l : Launch) (w : WP) (G : Mem) (a b c : Int32) {r : Int32} {G1 : Mem} (h : op8 18 G a b c = some (r, G1)) : CMi l yX8_sees cX8_sees 4 (some .int) 2 41 w [.ref (w.1 0), .int a, .int b, .int c] G (r, G1) := by
  exact c_X8_sees l w G a b c h
theorem cm_X8_forget (l : Launch) (w : WP) (G : Mem) (a b c : Int32) {r : Int32} {G1 : Mem} (h : op8 19 G a b c = some (r, G1)) : CMi l yX8_forget cX8_forget 2 (some .int) 1 20 w [.ref (w.1 0)] G (r, G1) := by
  have h2 := Option.some.inj h
  rw [← h2]
  exact c_X8_forget l w G 
theorem cm_X8_unseen (l : Launch) (w : WP) (G : Mem) (a b c : Int32) {r : Int32} {G1 : Mem} (h : op8 20 G a b c = some (r, G1)) : CMi l yX8_unseen cX8_unseen 3 (some .int) 5 115 w [.ref (w.1 0)] G (r, G1) := by
  exact c_X8_unseen l w G  h
theorem cm_X8_keep (l : Launch) (w : WP) (G : Mem) (a b c : Int32) {r : Int32} {G1 : Mem} (h : op8 21 G a b c = some (r, G1)) : CMi l yX8_keep cX8_keep 2 (some .int) 3 65 w [.ref (w.1 0), .int a] G (r, G1) := by
  exact c_X8_keep l w G a h
theorem cm_X8_back (l : Launch) (w : WP) (G : Mem) (a b c : Int32) {r : Int32} {G1 : Mem} (h : op8 22 G a b c = some (r, G1)) : CMi l yX8_back cX8_back 2 (some .int) 3 65 w [.ref (w.1 0), .int a] G (r, G1) := by
  exact c_X8_back l w G a h
theorem cm_X8_count (l : Launch) (w : WP) (G : Mem) (a b c : Int32) {r : Int32} {G1 : Mem} (h : op8 23 G a b c = some (r, G1)) : CMi l yX8_count cX8_count 2 (some .int) 2 40 w [.ref (w.1 0), .int a] G (r, G1) := by
  obtain ⟨r1, h1, h2⟩ := Option.map_eq_some_iff.mp h
  rw [← h2]
  exact c_X8_count l w G a h1
def op9 (k : Nat) (G : Mem) (a b c : Int32) : Option (Int32 × Mem) := match k with
  | 0 => m_X9_type G a
  | 1 => some (m_X9_clear G)
  | 2 => m_X9_reads G
  | 3 => m_X9_clause G a b
  | 4 => m_X9_statement G a b
  | 5 => m_X9_says G a b c
  | 6 => m_X9_takes G a
  | 7 => m_X9_tenses G a b
  | 8 => m_X9_links G a b
  | 9 => m_X9_undo G
  | 10 => m_X9_sound G
  | 11 => m_X9_clash G a
  | 12 => m_X9_known G a b
  | 13 => m_X9_line G a
  | 14 => m_X9_would G a b c
  | 15 => m_X9_orders G
  | 16 => m_X9_left G a b c
  | 17 => m_X9_best G a
  | 18 => m_X9_sees G a b c
  | 19 => some (m_X9_forget G)
  | 20 => m_X9_unseen G
  | 21 => m_X9_keep G a
  | 22 => m_X9_back G a
  | 23 => m_X9_count G a
  | _ => none
theorem cm_X9_type (l : Launch) (w : WP) (G : Mem) (a b c : Int32) {r : Int32} {G1 : Mem} (h : op9 0 G a b c = some (r, G1)) : CMi l yX9_type cX9_type 2 (some .int) 1 22 w [.ref (w.1 81), .int a] G (r, G1) := by
  exact c_X9_type l w G a h
theorem cm_X9_clear (l : Launch) (w : WP) (G : Mem) (a b c : Int32) {r : Int32} {G1 : Mem} (h : op9 1 G a b c = some (r, G1)) : CMi l yX9_clear cX9_clear 2 (some .int) 0 0 w [.ref (w.1 81)] G (r, G1) := by
  have h2 := Option.some.inj h
  rw [← h2]
  exact c_X9_clear l w G 
theorem cm_X9_reads (l : Launch) (w : WP) (G : Mem) (a b c : Int32) {r : Int32} {G1 : Mem} (h : op9 2 G a b c = some (r, G1)) : CMi l yX9_reads cX9_reads 3 (some .int) 3 66 w [.ref (w.1 81)] G (r, G1) := by
  exact c_X9_reads l w G  h
theorem cm_X9_clause (l : Launch) (w : WP) (G : Mem) (a b c : Int32) {r : Int32} {G1 : Mem} (h : op9 3 G a b c = some (r, G1)) : CMi l yX9_clause cX9_clause 4 (some .int) 2 43 w [.ref (w.1 81), .int a, .int b] G (r, G1) := by
  exact c_X9_clause l w G a b h
theorem cm_X9_statement (l : Launch) (w : WP) (G : Mem) (a b c : Int32) {r : Int32} {G1 : Mem} (h : op9 4 G a b c = some (r, G1)) : CMi l yX9_statement cX9_statement 3 (some .int) 2 43 w [.ref (w.1 81), .int a, .int b] G (r, G1) := by
  exact c_X9_statement l w G a b h
theorem cm_X9_says (l : Launch) (w : WP) (G : Mem) (a b c : Int32) {r : Int32} {G1 : Mem} (h : op9 5 G a b c = some (r, G1)) : CMi l yX9_says cX9_says 5 (some .int) 3 64 w [.ref (w.1 81), .int a, .int b, .int c] G (r, G1) := by
  exact c_X9_says l w G a b c h
theorem cm_X9_takes (l : Launch) (w : WP) (G : Mem) (a b c : Int32) {r : Int32} {G1 : Mem} (h : op9 6 G a b c = some (r, G1)) : CMi l yX9_takes cX9_takes 3 (some .int) 2 43 w [.ref (w.1 81), .int a] G (r, G1) := by
  exact c_X9_takes l w G a h
theorem cm_X9_tenses (l : Launch) (w : WP) (G : Mem) (a b c : Int32) {r : Int32} {G1 : Mem} (h : op9 7 G a b c = some (r, G1)) : CMi l yX9_tenses cX9_tenses 3 (some .int) 2 44 w [.ref (w.1 81), .int a, .int b] G (r, G1) := by
  exact c_X9_tenses l w G a b h
theorem cm_X9_links (l : Launch) (w : WP) (G : Mem) (a b c : Int32) {r : Int32} {G1 : Mem} (h : op9 8 G a b c = some (r, G1)) : CMi l yX9_links cX9_links 3 (some .int) 2 44 w [.ref (w.1 81), .int a, .int b] G (r, G1) := by
  exact c_X9_links l w G a b h
theorem cm_X9_undo (l : Launch) (w : WP) (G : Mem) (a b c : Int32) {r : Int32} {G1 : Mem} (h : op9 9 G a b c = some (r, G1)) : CMi l yX9_undo cX9_undo 2 (some .int) 0 0 w [.ref (w.1 81)] G (r, G1) := by
  exact c_X9_undo l w G  h
theorem cm_X9_sound (l : Launch) (w : WP) (G : Mem) (a b c : Int32) {r : Int32} {G1 : Mem} (h : op9 10 G a b c = some (r, G1)) : CMi l yX9_sound cX9_sound 1 (some .int) 3 77 w [.ref (w.1 81)] G (r, G1) := by
  exact c_X9_sound l w G  h
theorem cm_X9_clash (l : Launch) (w : WP) (G : Mem) (a b c : Int32) {r : Int32} {G1 : Mem} (h : op9 11 G a b c = some (r, G1)) : CMi l yX9_clash cX9_clash 4 (some .int) 3 77 w [.ref (w.1 81), .int a] G (r, G1) := by
  exact c_X9_clash l w G a h
theorem cm_X9_known (l : Launch) (w : WP) (G : Mem) (a b c : Int32) {r : Int32} {G1 : Mem} (h : op9 12 G a b c = some (r, G1)) : CMi l yX9_known cX9_known 3 (some .int) 4 100 w [.ref (w.1 81), .int a, .int b] G (r, G1) := by
  exact c_X9_known l w G a b h
theorem cm_X9_line (l : Launch) (w : WP) (G : Mem) (a b c : Int32) {r : Int32} {G1 : Mem} (h : op9 13 G a b c = some (r, G1)) : CMi l yX9_line cX9_line 2 (some .int) 3 77 w [.ref (w.1 81), .int a] G (r, G1) := by
  exact c_X9_line l w G a h
theorem cm_X9_would (l : Launch) (w : WP) (G : Mem) (a b c : Int32) {r : Int32} {G1 : Mem} (h : op9 14 G a b c = some (r, G1)) : CMi l yX9_would cX9_would 5 (some .int) 4 100 w [.ref (w.1 81), .int a, .int b, .int c] G (r, G1) := by
  exact c_X9_would l w G a b c h
theorem cm_X9_orders (l : Launch) (w : WP) (G : Mem) (a b c : Int32) {r : Int32} {G1 : Mem} (h : op9 15 G a b c = some (r, G1)) : CMi l yX9_orders cX9_orders 1 (some .int) 4 104 w [.ref (w.1 81)] G (r, G1) := by
  exact c_X9_orders l w G  h
theorem cm_X9_left (l : Launch) (w : WP) (G : Mem) (a b c : Int32) {r : Int32} {G1 : Mem} (h : op9 16 G a b c = some (r, G1)) : CMi l yX9_left cX9_left 4 (some .int) 5 129 w [.ref (w.1 81), .int a, .int b, .int c] G (r, G1) := by
  exact c_X9_left l w G a b c h
theorem cm_X9_best (l : Launch) (w : WP) (G : Mem) (a b c : Int32) {r : Int32} {G1 : Mem} (h : op9 17 G a b c = some (r, G1)) : CMi l yX9_best cX9_best 9 (some .int) 5 129 w [.ref (w.1 81), .int a] G (r, G1) := by
  exact c_X9_best l w G a h
theorem cm_X9_sees (l : Launch) (w : WP) (G : Mem) (a b c : Int32) {r : Int32} {G1 : Mem} (h : op9 18 G a b c = some (r, G1)) : CMi l yX9_sees cX9_sees 4 (some .int) 2 43 w [.ref (w.1 81), .int a, .int b, .int c] G (r, G1) := by
  exact c_X9_sees l w G a b c h
theorem cm_X9_forget (l : Launch) (w : WP) (G : Mem) (a b c : Int32) {r : Int32} {G1 : Mem} (h : op9 19 G a b c = some (r, G1)) : CMi l yX9_forget cX9_forget 2 (some .int) 0 0 w [.ref (w.1 81)] G (r, G1) := by
  have h2 := Option.some.inj h
  rw [← h2]
  exact c_X9_forget l w G 
theorem cm_X9_unseen (l : Launch) (w : WP) (G : Mem) (a b c : Int32) {r : Int32} {G1 : Mem} (h : op9 20 G a b c = some (r, G1)) : CMi l yX9_unseen cX9_unseen 5 (some .int) 4 100 w [.ref (w.1 81)] G (r, G1) := by
  exact c_X9_unseen l w G  h
theorem cm_X9_keep (l : Launch) (w : WP) (G : Mem) (a b c : Int32) {r : Int32} {G1 : Mem} (h : op9 21 G a b c = some (r, G1)) : CMi l yX9_keep cX9_keep 3 (some .int) 1 22 w [.ref (w.1 81), .int a] G (r, G1) := by
  exact c_X9_keep l w G a h
theorem cm_X9_back (l : Launch) (w : WP) (G : Mem) (a b c : Int32) {r : Int32} {G1 : Mem} (h : op9 22 G a b c = some (r, G1)) : CMi l yX9_back cX9_back 3 (some .int) 1 22 w [.ref (w.1 81), .int a] G (r, G1) := by
  exact c_X9_back l w G a h
theorem cm_X9_count (l : Launch) (w : WP) (G : Mem) (a b c : Int32) {r : Int32} {G1 : Mem} (h : op9 23 G a b c = some (r, G1)) : CMi l yX9_count cX9_count 2 (some .int) 1 20 w [.ref (w.1 81), .int a] G (r, G1) := by
  exact c_X9_count l w G a h
def JL (p : Program) (l : Launch) (e : Env) (s : State) (m : MethodId) (args : Array Value) (below : List Frame) (meth : Method) (c : Code) (Q : State → Prop) (w : WP) (G : Mem) (pc : Nat) (lv : List (Nat × Value)) (st : List Value) : Prop :=
  ∀ (H : Heap) (locs : List Loc) (ls : Array Slot), va_P w.2.1 vwCl (fw_cells w G) H → va_S (fw_A w) s.heap H locs → lv_has ls 4 lv → W p l e room_1 s m args below meth c H locs 98 3903 Q (F0 m pc ls st)
section JLR
variable {p : Program} {l : Launch} {e : Env} {s : State} {m : MethodId} {args : Array Value} {below : List Frame} {meth : Method} {c : Code} {Q : State → Prop} {w : WP} {G : Mem} {pc : Nat} {lv : List (Nat × Value)} {st : List Value} {b L : Nat} {xs : Nat → Int32}
theorem jl_iconst (X : fw_X p s m args c code 4 RL w) {n : Int} {v : Int32} (hd : decode code pc = .ok (.iconst n, 1)) (hv : Int32.ofInt n = v) (k : JL p l e s m args below meth c Q w G (pc + 1) lv (.int v :: st)) : JL p l e s m args below meth c Q w G pc lv st :=
  fun H locs ls hP hS hl => lv_iconst X.1.1 X.1.2.1 hd hv (k H locs ls hP hS hl)
theorem jl_bipush (X : fw_X p s m args c code 4 RL w) {n : Int} {v : Int32} (hd : decode code pc = .ok (.bipush n, 2)) (hv : (Int8.ofInt n).toInt32 = v) (k : JL p l e s m args below meth c Q w G (pc + 2) lv (.int v :: st)) : JL p l e s m args below meth c Q w G pc lv st :=
  fun H locs ls hP hS hl => lv_bipush X.1.1 X.1.2.1 hd hv (k H locs ls hP hS hl)
theorem jl_iload (X : fw_X p s m args c code 4 RL w) {j : Fin 4} {i : Nat} {x : Int32} (hd : decode code pc = .ok (.iload_n j, 1)) (hi : (j : Nat) = i) (q : Nat) (hq : lv[q]? = some (i, .int x)) (k : JL p l e s m args below meth c Q w G (pc + 1) lv (.int x :: st)) : JL p l e s m args below meth c Q w G pc lv st :=
  fun H locs ls hP hS hl => lv_iload_n X.1.1 X.1.2.1 hd hi (lv_at hl q hq) (k H locs ls hP hS hl)
theorem jl_aload (X : fw_X p s m args c code 4 RL w) {j : Fin 4} {i x : Nat} (hd : decode code pc = .ok (.aload_n j, 1)) (hi : (j : Nat) = i) (q : Nat) (hq : lv[q]? = some (i, .ref x)) (k : JL p l e s m args below meth c Q w G (pc + 1) lv (.ref x :: st)) : JL p l e s m args below meth c Q w G pc lv st :=
  fun H locs ls hP hS hl => lv_aload_n X.1.1 X.1.2.1 hd hi (lv_at hl q hq) (k H locs ls hP hS hl)
theorem jl_iadd (X : fw_X p s m args c code 4 RL w) {x y : Int32} (hd : decode code pc = .ok (.iadd, 1)) (k : JL p l e s m args below meth c Q w G (pc + 1) lv (.int (x + y) :: st)) : JL p l e s m args below meth c Q w G pc lv (.int y :: .int x :: st) :=
  fun H locs ls hP hS hl => lv_iadd X.1.1 X.1.2.1 hd (k H locs ls hP hS hl)
theorem jl_isub (X : fw_X p s m args c code 4 RL w) {x y : Int32} (hd : decode code pc = .ok (.isub, 1)) (k : JL p l e s m args below meth c Q w G (pc + 1) lv (.int (x - y) :: st)) : JL p l e s m args below meth c Q w G pc lv (.int y :: .int x :: st) :=
  fun H locs ls hP hS hl => lv_isub X.1.1 X.1.2.1 hd (k H locs ls hP hS hl)
theorem jl_iand (X : fw_X p s m args c code 4 RL w) {x y : Int32} (hd : decode code pc = .ok (.iand, 1)) (k : JL p l e s m args below meth c Q w G (pc + 1) lv (.int (x &&& y) :: st)) : JL p l e s m args below meth c Q w G pc lv (.int y :: .int x :: st) :=
  fun H locs ls hP hS hl => lv_iand X.1.1 X.1.2.1 hd (k H locs ls hP hS hl)
theorem jl_icmp_eq (X : fw_X p s m args c code 4 RL w) {x y : Int32} {off : Int} (tgt : Nat) (hd : decode code pc = .ok (.if_icmp .eq off, 3)) (ht : (pc : Int) + off = (tgt : Int)) (kt : x = y → JL p l e s m args below meth c Q w G tgt lv st) (kf : ¬ x = y → JL p l e s m args below meth c Q w G (pc + 3) lv st) : JL p l e s m args below meth c Q w G pc lv (.int y :: .int x :: st) :=
  fun H locs ls hP hS hl => lv_icmp_eq X.1.1 X.1.2.1 hd ht (fun q => kt q H locs ls hP hS hl) (fun q => kf q H locs ls hP hS hl)
theorem jl_icmp_gt (X : fw_X p s m args c code 4 RL w) {x y : Int32} {off : Int} (tgt : Nat) (hd : decode code pc = .ok (.if_icmp .gt off, 3)) (ht : (pc : Int) + off = (tgt : Int)) (kt : y < x → JL p l e s m args below meth c Q w G tgt lv st) (kf : ¬ y < x → JL p l e s m args below meth c Q w G (pc + 3) lv st) : JL p l e s m args below meth c Q w G pc lv (.int y :: .int x :: st) :=
  fun H locs ls hP hS hl => lv_icmp_gt X.1.1 X.1.2.1 hd ht (fun q => kt q H locs ls hP hS hl) (fun q => kf q H locs ls hP hS hl)
theorem jl_goto (X : fw_X p s m args c code 4 RL w) {off : Int} (tgt : Nat) (hd : decode code pc = .ok (.goto off, 3)) (ht : (pc : Int) + off = (tgt : Int)) (k : JL p l e s m args below meth c Q w G tgt lv st) : JL p l e s m args below meth c Q w G pc lv st :=
  fun H locs ls hP hS hl => lv_goto X.1.1 X.1.2.1 hd ht (k H locs ls hP hS hl)
theorem jl_iinc (X : fw_X p s m args c code 4 RL w) {i : Nat} {n : Int} {x v : Int32} (lv' : List (Nat × Value)) (hd : decode code pc = .ok (.iinc i n, 3)) (q : Nat) (hq : lv[q]? = some (i, .int x)) (hv : x + Int32.ofInt n = v) (hn : i < 4) (hl : (i, Value.int v) :: lv.filter (fun q => !(q.1 == i) && !(q.1 + 1 == i && q.2.category == 2)) = lv') (k : JL p l e s m args below meth c Q w G (pc + 3) lv' st) : JL p l e s m args below meth c Q w G pc lv st :=
  fun H locs ls hP hS hh => lv_iinc X.1.1 X.1.2.1 hd hh hq hv hn hl (fun ls' hv' => k H locs ls' hP hS hv')
theorem jl_pick {lv' : List (Nat × Value)} (ks : List Nat) (hl : lv_pick lv ks = lv') (k : JL p l e s m args below meth c Q w G pc lv' st) : JL p l e s m args below meth c Q w G pc lv st :=
  fun H locs ls hP hS hh => k H locs ls hP hS (lv_sub hh ks hl)
theorem jl_tabOut (X : fw_X p s m args c code 4 RL w) {dflt lo hi : Int} {offs : Array Int} {len : Nat} {x : Int32} (tgt : Nat) (hd : decode code pc = .ok (.tableswitch dflt lo hi offs, len)) (h : x.toInt < lo ∨ hi < x.toInt) (ht : (pc : Int) + dflt = (tgt : Int)) (k : JL p l e s m args below meth c Q w G tgt lv st) : JL p l e s m args below meth c Q w G pc lv (.int x :: st) :=
  fun H locs ls hP hS hl => lv_tableOut X.1.1 X.1.2.1 hd h ht (k H locs ls hP hS hl)
theorem jl_tabAt (X : fw_X p s m args c code 4 RL w) {dflt lo hi off : Int} {offs : Array Int} {len : Nat} {x v : Int32} (tgt : Nat) (hd : decode code pc = .ok (.tableswitch dflt lo hi offs, len)) (hx : x = v) (h1 : ¬ v.toInt < lo) (h2 : ¬ hi < v.toInt) (ho : offs[(v.toInt - lo).toNat]? = some off) (ht : (pc : Int) + off = (tgt : Int)) (k : JL p l e s m args below meth c Q w G tgt lv st) : JL p l e s m args below meth c Q w G pc lv (.int x :: st) := by
  subst hx
  exact fun H locs ls hP hS hl => lv_tableIn X.1.1 X.1.2.1 hd h1 h2 ho ht (k H locs ls hP hS hl)
theorem jl_sld (X : fw_X p s m args c code 4 RL w) (hX : va_X b L xs s s.heap) (hbl : b < s.heap.size) (hbA : ¬ fw_A w b) {i : Int32} (hin : vp_in i L) (hd : decode code pc = .ok (.iaload, 1)) (k : JL p l e s m args below meth c Q w G (pc + 1) lv (.int (xs i.toNatClampNeg) :: st)) : JL p l e s m args below meth c Q w G pc lv (.int i :: .ref b :: st) :=
  fun H locs ls hP hS hl => va_sld X.1.1 X.1.2.1 hX hbl hbA hS hin hd (k H locs ls hP hS hl)
theorem jl_slen (X : fw_X p s m args c code 4 RL w) (hX : va_X b L xs s s.heap) (hbl : b < s.heap.size) (hbA : ¬ fw_A w b) (hd : decode code pc = .ok (.arraylength, 1)) (k : JL p l e s m args below meth c Q w G (pc + 1) lv (.int (Int32.ofNat L) :: st)) : JL p l e s m args below meth c Q w G pc lv (.ref b :: st) :=
  fun H locs ls hP hS hl => va_slen X.1.1 X.1.2.1 hX hbl hbA hS hd (k H locs ls hP hS hl)
theorem jl_call (X : fw_X p s m args c code 4 RL w) {y : MethodName} {bytes : ByteArray} {maxL fr lo index : Nat} {ret : Option FieldType} {As rest : List Value} {r : Int32} {G1 : Mem} {C : String} {T : u_T} {N ci : Nat} (k : Nat) {fs : List (Option Nat)} (hs : fw_lay[k]? = some (.inl (ci, fs))) (hc : vwCl[ci]? = some (C, T, N)) (hM : CMi l y bytes maxL ret fr lo w (.ref (w.1 k) :: As) G (r, G1)) (hy : y.cls = C) (hd0 : y.cls ≠ "java/lang/invoke/MethodHandle" ∧ y.cls ≠ "java/lang/invoke/VarHandle" ∧ (parseMethodDescriptor y.desc).map (fun d => d.parameters.length) = some As.length) (h1 : Cond.methodLink RL index y ∈ lw_tg) (h2 : Cond.instanceMethod y ∈ lw_tg) (h3 : Cond.selects y.cls y y ∈ lw_tg) (h4 : Cond.initialized y.cls ∈ lw_tg) (h5 : Cond.code y bytes maxL ret ∈ lw_tg) (hR : fr + 1 ≤ room_1.frames ∧ 8 + (maxL + 11) + lo ≤ room_1.locals) (hwd : (rest.map fun v => v.category).sum ≤ 8) (hst : st = As.reverse ++ .ref (w.1 k) :: rest) (hd : decode code pc = .ok (.invokevirtual index, 3)) (kk : JL p l e s m args below meth c Q w G1 (pc + 3) lv (.int r :: rest)) : JL p l e s m args below meth c Q w G pc lv st := by
  subst hy
  subst hst
  intro H locs ls hP hS hl
  exact va_calli (va_runV (As := As) (rest := rest) X.1 hM (⟨callB_of As.length X.1.2.2.2.2 (tg_good h5) rfl rfl rfl (X.1.2.2.2.2 _ h4) (X.1.2.2.2.2 _ h1) hd0 hR, X.1.2.2.2.2 _ h2, X.1.2.2.2.2 _ h3⟩) ⟨fw_W.blind w G _, va_recv X.2.1 hP hc (fw_getC w G hs), fun U hU hW => ⟨rfl, by rw [hU]; exact hP, X.2.1.moved hW.alike, X.2.2.1, by rw [hU]; exact X.2.2.2.warm hW hS.2.1⟩⟩ rfl rfl hl.1 rfl (lv_room hwd) hd ⟨Nat.le_of_ble_eq_true rfl, Nat.le_of_ble_eq_true rfl⟩) hS (fun q _ h => h) (fun q h => h) (fun r1 u t H1 locs1 ht _ hw hB _ _ hS1 => by
    obtain ⟨rfl, rfl⟩ := Prod.mk.inj hw
    exact kk H1 locs1 ls (by rw [← ht]; exact hB) hS1 hl)
end JLR
theorem y_59 : Cond.initialized RX8 ∈ lw_tg := tg 59 (by decide +kernel) (by decide +kernel)
theorem y_68 : Cond.initialized RX9 ∈ lw_tg := tg 68 (by decide +kernel) (by decide +kernel)
theorem y_275 : Cond.methodLink RL 13 yX8_type ∈ lw_tg := tg 275 (by decide +kernel) (by decide +kernel)
theorem y_276 : Cond.instanceMethod yX8_type ∈ lw_tg := tg 276 (by decide +kernel) (by decide +kernel)
theorem y_277 : Cond.selects yX8_type.cls yX8_type yX8_type ∈ lw_tg := tg 277 (by decide +kernel) (by decide +kernel)
theorem y_278 : Cond.code yX8_type cX8_type 2 (some .int) ∈ lw_tg := tg 278 (by decide +kernel) (by decide +kernel)
theorem y_287 : Cond.methodLink RL 18 yX8_clear ∈ lw_tg := tg 287 (by decide +kernel) (by decide +kernel)
theorem y_288 : Cond.instanceMethod yX8_clear ∈ lw_tg := tg 288 (by decide +kernel) (by decide +kernel)
theorem y_289 : Cond.selects yX8_clear.cls yX8_clear yX8_clear ∈ lw_tg := tg 289 (by decide +kernel) (by decide +kernel)
theorem y_290 : Cond.code yX8_clear cX8_clear 2 (some .int) ∈ lw_tg := tg 290 (by decide +kernel) (by decide +kernel)
theorem y_295 : Cond.methodLink RL 23 yX8_reads ∈ lw_tg := tg 295 (by decide +kernel) (by decide +kernel)
theorem y_296 : Cond.instanceMethod yX8_reads ∈ lw_tg := tg 296 (by decide +kernel) (by decide +kernel)
theorem y_297 : Cond.selects yX8_reads.cls yX8_reads yX8_reads ∈ lw_tg := tg 297 (by decide +kernel) (by decide +kernel)
theorem y_298 : Cond.code yX8_reads cX8_reads 2 (some .int) ∈ lw_tg := tg 298 (by decide +kernel) (by decide +kernel)
theorem y_484 : Cond.methodLink RL 27 yX8_clause ∈ lw_tg := tg 484 (by decide +kernel) (by decide +kernel)
theorem y_485 : Cond.instanceMethod yX8_clause ∈ lw_tg := tg 485 (by decide +kernel) (by decide +kernel)
theorem y_486 : Cond.selects yX8_clause.cls yX8_clause yX8_clause ∈ lw_tg := tg 486 (by decide +kernel) (by decide +kernel)
theorem y_487 : Cond.code yX8_clause cX8_clause 3 (some .int) ∈ lw_tg := tg 487 (by decide +kernel) (by decide +kernel)
theorem y_517 : Cond.methodLink RL 32 yX8_statement ∈ lw_tg := tg 517 (by decide +kernel) (by decide +kernel)
theorem y_518 : Cond.instanceMethod yX8_statement ∈ lw_tg := tg 518 (by decide +kernel) (by decide +kernel)
theorem y_519 : Cond.selects yX8_statement.cls yX8_statement yX8_statement ∈ lw_tg := tg 519 (by decide +kernel) (by decide +kernel)
theorem y_520 : Cond.code yX8_statement cX8_statement 3 (some .int) ∈ lw_tg := tg 520 (by decide +kernel) (by decide +kernel)
theorem y_538 : Cond.methodLink RL 36 yX8_says ∈ lw_tg := tg 538 (by decide +kernel) (by decide +kernel)
theorem y_539 : Cond.instanceMethod yX8_says ∈ lw_tg := tg 539 (by decide +kernel) (by decide +kernel)
theorem y_540 : Cond.selects yX8_says.cls yX8_says yX8_says ∈ lw_tg := tg 540 (by decide +kernel) (by decide +kernel)
theorem y_541 : Cond.code yX8_says cX8_says 4 (some .int) ∈ lw_tg := tg 541 (by decide +kernel) (by decide +kernel)
theorem y_565 : Cond.methodLink RL 41 yX8_takes ∈ lw_tg := tg 565 (by decide +kernel) (by decide +kernel)
theorem y_566 : Cond.instanceMethod yX8_takes ∈ lw_tg := tg 566 (by decide +kernel) (by decide +kernel)
theorem y_567 : Cond.selects yX8_takes.cls yX8_takes yX8_takes ∈ lw_tg := tg 567 (by decide +kernel) (by decide +kernel)
theorem y_568 : Cond.code yX8_takes cX8_takes 2 (some .int) ∈ lw_tg := tg 568 (by decide +kernel) (by decide +kernel)
theorem y_573 : Cond.methodLink RL 45 yX8_tenses ∈ lw_tg := tg 573 (by decide +kernel) (by decide +kernel)
theorem y_574 : Cond.instanceMethod yX8_tenses ∈ lw_tg := tg 574 (by decide +kernel) (by decide +kernel)
theorem y_575 : Cond.selects yX8_tenses.cls yX8_tenses yX8_tenses ∈ lw_tg := tg 575 (by decide +kernel) (by decide +kernel)
theorem y_576 : Cond.code yX8_tenses cX8_tenses 4 (some .int) ∈ lw_tg := tg 576 (by decide +kernel) (by decide +kernel)
theorem y_578 : Cond.methodLink RL 49 yX8_links ∈ lw_tg := tg 578 (by decide +kernel) (by decide +kernel)
theorem y_579 : Cond.instanceMethod yX8_links ∈ lw_tg := tg 579 (by decide +kernel) (by decide +kernel)
theorem y_580 : Cond.selects yX8_links.cls yX8_links yX8_links ∈ lw_tg := tg 580 (by decide +kernel) (by decide +kernel)
theorem y_581 : Cond.code yX8_links cX8_links 4 (some .int) ∈ lw_tg := tg 581 (by decide +kernel) (by decide +kernel)
theorem y_583 : Cond.methodLink RL 53 yX8_undo ∈ lw_tg := tg 583 (by decide +kernel) (by decide +kernel)
theorem y_584 : Cond.instanceMethod yX8_undo ∈ lw_tg := tg 584 (by decide +kernel) (by decide +kernel)
theorem y_585 : Cond.selects yX8_undo.cls yX8_undo yX8_undo ∈ lw_tg := tg 585 (by decide +kernel) (by decide +kernel)
theorem y_586 : Cond.code yX8_undo cX8_undo 1 (some .int) ∈ lw_tg := tg 586 (by decide +kernel) (by decide +kernel)
theorem y_599 : Cond.methodLink RL 57 yX8_sound ∈ lw_tg := tg 599 (by decide +kernel) (by decide +kernel)
theorem y_600 : Cond.instanceMethod yX8_sound ∈ lw_tg := tg 600 (by decide +kernel) (by decide +kernel)
theorem y_601 : Cond.selects yX8_sound.cls yX8_sound yX8_sound ∈ lw_tg := tg 601 (by decide +kernel) (by decide +kernel)
theorem y_602 : Cond.code yX8_sound cX8_sound 1 (some .int) ∈ lw_tg := tg 602 (by decide +kernel) (by decide +kernel)
theorem y_655 : Cond.methodLink RL 61 yX8_clash ∈ lw_tg := tg 655 (by decide +kernel) (by decide +kernel)
theorem y_656 : Cond.instanceMethod yX8_clash ∈ lw_tg := tg 656 (by decide +kernel) (by decide +kernel)
theorem y_657 : Cond.selects yX8_clash.cls yX8_clash yX8_clash ∈ lw_tg := tg 657 (by decide +kernel) (by decide +kernel)
theorem y_658 : Cond.code yX8_clash cX8_clash 3 (some .int) ∈ lw_tg := tg 658 (by decide +kernel) (by decide +kernel)
theorem y_699 : Cond.methodLink RL 65 yX8_known ∈ lw_tg := tg 699 (by decide +kernel) (by decide +kernel)
theorem y_700 : Cond.instanceMethod yX8_known ∈ lw_tg := tg 700 (by decide +kernel) (by decide +kernel)
theorem y_701 : Cond.selects yX8_known.cls yX8_known yX8_known ∈ lw_tg := tg 701 (by decide +kernel) (by decide +kernel)
theorem y_702 : Cond.code yX8_known cX8_known 3 (some .int) ∈ lw_tg := tg 702 (by decide +kernel) (by decide +kernel)
theorem y_712 : Cond.methodLink RL 69 yX8_line ∈ lw_tg := tg 712 (by decide +kernel) (by decide +kernel)
theorem y_713 : Cond.instanceMethod yX8_line ∈ lw_tg := tg 713 (by decide +kernel) (by decide +kernel)
theorem y_714 : Cond.selects yX8_line.cls yX8_line yX8_line ∈ lw_tg := tg 714 (by decide +kernel) (by decide +kernel)
theorem y_715 : Cond.code yX8_line cX8_line 2 (some .int) ∈ lw_tg := tg 715 (by decide +kernel) (by decide +kernel)
theorem y_725 : Cond.methodLink RL 73 yX8_would ∈ lw_tg := tg 725 (by decide +kernel) (by decide +kernel)
theorem y_726 : Cond.instanceMethod yX8_would ∈ lw_tg := tg 726 (by decide +kernel) (by decide +kernel)
theorem y_727 : Cond.selects yX8_would.cls yX8_would yX8_would ∈ lw_tg := tg 727 (by decide +kernel) (by decide +kernel)
theorem y_728 : Cond.code yX8_would cX8_would 6 (some .int) ∈ lw_tg := tg 728 (by decide +kernel) (by decide +kernel)
theorem y_729 : Cond.methodLink RL 77 yX8_orders ∈ lw_tg := tg 729 (by decide +kernel) (by decide +kernel)
theorem y_730 : Cond.instanceMethod yX8_orders ∈ lw_tg := tg 730 (by decide +kernel) (by decide +kernel)
theorem y_731 : Cond.selects yX8_orders.cls yX8_orders yX8_orders ∈ lw_tg := tg 731 (by decide +kernel) (by decide +kernel)
theorem y_732 : Cond.code yX8_orders cX8_orders 1 (some .int) ∈ lw_tg := tg 732 (by decide +kernel) (by decide +kernel)
theorem y_773 : Cond.methodLink RL 81 yX8_left ∈ lw_tg := tg 773 (by decide +kernel) (by decide +kernel)
theorem y_774 : Cond.instanceMethod yX8_left ∈ lw_tg := tg 774 (by decide +kernel) (by decide +kernel)
theorem y_775 : Cond.selects yX8_left.cls yX8_left yX8_left ∈ lw_tg := tg 775 (by decide +kernel) (by decide +kernel)
theorem y_776 : Cond.code yX8_left cX8_left 4 (some .int) ∈ lw_tg := tg 776 (by decide +kernel) (by decide +kernel)
theorem y_793 : Cond.methodLink RL 85 yX8_best ∈ lw_tg := tg 793 (by decide +kernel) (by decide +kernel)
theorem y_794 : Cond.instanceMethod yX8_best ∈ lw_tg := tg 794 (by decide +kernel) (by decide +kernel)
theorem y_795 : Cond.selects yX8_best.cls yX8_best yX8_best ∈ lw_tg := tg 795 (by decide +kernel) (by decide +kernel)
theorem y_796 : Cond.code yX8_best cX8_best 8 (some .int) ∈ lw_tg := tg 796 (by decide +kernel) (by decide +kernel)
theorem y_804 : Cond.methodLink RL 89 yX8_sees ∈ lw_tg := tg 804 (by decide +kernel) (by decide +kernel)
theorem y_805 : Cond.instanceMethod yX8_sees ∈ lw_tg := tg 805 (by decide +kernel) (by decide +kernel)
theorem y_806 : Cond.selects yX8_sees.cls yX8_sees yX8_sees ∈ lw_tg := tg 806 (by decide +kernel) (by decide +kernel)
theorem y_807 : Cond.code yX8_sees cX8_sees 4 (some .int) ∈ lw_tg := tg 807 (by decide +kernel) (by decide +kernel)
theorem y_816 : Cond.methodLink RL 93 yX8_forget ∈ lw_tg := tg 816 (by decide +kernel) (by decide +kernel)
theorem y_817 : Cond.instanceMethod yX8_forget ∈ lw_tg := tg 817 (by decide +kernel) (by decide +kernel)
theorem y_818 : Cond.selects yX8_forget.cls yX8_forget yX8_forget ∈ lw_tg := tg 818 (by decide +kernel) (by decide +kernel)
theorem y_819 : Cond.code yX8_forget cX8_forget 2 (some .int) ∈ lw_tg := tg 819 (by decide +kernel) (by decide +kernel)
theorem y_820 : Cond.methodLink RL 97 yX8_unseen ∈ lw_tg := tg 820 (by decide +kernel) (by decide +kernel)
theorem y_821 : Cond.instanceMethod yX8_unseen ∈ lw_tg := tg 821 (by decide +kernel) (by decide +kernel)
theorem y_822 : Cond.selects yX8_unseen.cls yX8_unseen yX8_unseen ∈ lw_tg := tg 822 (by decide +kernel) (by decide +kernel)
theorem y_823 : Cond.code yX8_unseen cX8_unseen 3 (some .int) ∈ lw_tg := tg 823 (by decide +kernel) (by decide +kernel)
theorem y_829 : Cond.methodLink RL 101 yX8_keep ∈ lw_tg := tg 829 (by decide +kernel) (by decide +kernel)
theorem y_830 : Cond.instanceMethod yX8_keep ∈ lw_tg := tg 830 (by decide +kernel) (by decide +kernel)
theorem y_831 : Cond.selects yX8_keep.cls yX8_keep yX8_keep ∈ lw_tg := tg 831 (by decide +kernel) (by decide +kernel)
theorem y_832 : Cond.code yX8_keep cX8_keep 2 (some .int) ∈ lw_tg := tg 832 (by decide +kernel) (by decide +kernel)
theorem y_838 : Cond.methodLink RL 105 yX8_back ∈ lw_tg := tg 838 (by decide +kernel) (by decide +kernel)
theorem y_839 : Cond.instanceMethod yX8_back ∈ lw_tg := tg 839 (by decide +kernel) (by decide +kernel)
theorem y_840 : Cond.selects yX8_back.cls yX8_back yX8_back ∈ lw_tg := tg 840 (by decide +kernel) (by decide +kernel)
theorem y_841 : Cond.code yX8_back cX8_back 2 (some .int) ∈ lw_tg := tg 841 (by decide +kernel) (by decide +kernel)
theorem y_852 : Cond.methodLink RL 109 yX8_count ∈ lw_tg := tg 852 (by decide +kernel) (by decide +kernel)
theorem y_853 : Cond.instanceMethod yX8_count ∈ lw_tg := tg 853 (by decide +kernel) (by decide +kernel)
theorem y_854 : Cond.selects yX8_count.cls yX8_count yX8_count ∈ lw_tg := tg 854 (by decide +kernel) (by decide +kernel)
theorem y_855 : Cond.code yX8_count cX8_count 2 (some .int) ∈ lw_tg := tg 855 (by decide +kernel) (by decide +kernel)
theorem y_930 : Cond.methodLink RL 17 yX9_type ∈ lw_tg := tg 930 (by decide +kernel) (by decide +kernel)
theorem y_931 : Cond.instanceMethod yX9_type ∈ lw_tg := tg 931 (by decide +kernel) (by decide +kernel)
theorem y_932 : Cond.selects yX9_type.cls yX9_type yX9_type ∈ lw_tg := tg 932 (by decide +kernel) (by decide +kernel)
theorem y_933 : Cond.code yX9_type cX9_type 2 (some .int) ∈ lw_tg := tg 933 (by decide +kernel) (by decide +kernel)
theorem y_937 : Cond.methodLink RL 22 yX9_clear ∈ lw_tg := tg 937 (by decide +kernel) (by decide +kernel)
theorem y_938 : Cond.instanceMethod yX9_clear ∈ lw_tg := tg 938 (by decide +kernel) (by decide +kernel)
theorem y_939 : Cond.selects yX9_clear.cls yX9_clear yX9_clear ∈ lw_tg := tg 939 (by decide +kernel) (by decide +kernel)
theorem y_940 : Cond.code yX9_clear cX9_clear 2 (some .int) ∈ lw_tg := tg 940 (by decide +kernel) (by decide +kernel)
theorem y_941 : Cond.methodLink RL 26 yX9_reads ∈ lw_tg := tg 941 (by decide +kernel) (by decide +kernel)
theorem y_942 : Cond.instanceMethod yX9_reads ∈ lw_tg := tg 942 (by decide +kernel) (by decide +kernel)
theorem y_943 : Cond.selects yX9_reads.cls yX9_reads yX9_reads ∈ lw_tg := tg 943 (by decide +kernel) (by decide +kernel)
theorem y_944 : Cond.code yX9_reads cX9_reads 3 (some .int) ∈ lw_tg := tg 944 (by decide +kernel) (by decide +kernel)
theorem y_971 : Cond.methodLink RL 31 yX9_clause ∈ lw_tg := tg 971 (by decide +kernel) (by decide +kernel)
theorem y_972 : Cond.instanceMethod yX9_clause ∈ lw_tg := tg 972 (by decide +kernel) (by decide +kernel)
theorem y_973 : Cond.selects yX9_clause.cls yX9_clause yX9_clause ∈ lw_tg := tg 973 (by decide +kernel) (by decide +kernel)
theorem y_974 : Cond.code yX9_clause cX9_clause 4 (some .int) ∈ lw_tg := tg 974 (by decide +kernel) (by decide +kernel)
theorem y_983 : Cond.methodLink RL 35 yX9_statement ∈ lw_tg := tg 983 (by decide +kernel) (by decide +kernel)
theorem y_984 : Cond.instanceMethod yX9_statement ∈ lw_tg := tg 984 (by decide +kernel) (by decide +kernel)
theorem y_985 : Cond.selects yX9_statement.cls yX9_statement yX9_statement ∈ lw_tg := tg 985 (by decide +kernel) (by decide +kernel)
theorem y_986 : Cond.code yX9_statement cX9_statement 3 (some .int) ∈ lw_tg := tg 986 (by decide +kernel) (by decide +kernel)
theorem y_991 : Cond.methodLink RL 60 yX9_sound ∈ lw_tg := tg 991 (by decide +kernel) (by decide +kernel)
theorem y_992 : Cond.instanceMethod yX9_sound ∈ lw_tg := tg 992 (by decide +kernel) (by decide +kernel)
theorem y_993 : Cond.selects yX9_sound.cls yX9_sound yX9_sound ∈ lw_tg := tg 993 (by decide +kernel) (by decide +kernel)
theorem y_994 : Cond.code yX9_sound cX9_sound 1 (some .int) ∈ lw_tg := tg 994 (by decide +kernel) (by decide +kernel)
theorem y_1031 : Cond.methodLink RL 64 yX9_clash ∈ lw_tg := tg 1031 (by decide +kernel) (by decide +kernel)
theorem y_1032 : Cond.instanceMethod yX9_clash ∈ lw_tg := tg 1032 (by decide +kernel) (by decide +kernel)
theorem y_1033 : Cond.selects yX9_clash.cls yX9_clash yX9_clash ∈ lw_tg := tg 1033 (by decide +kernel) (by decide +kernel)
theorem y_1034 : Cond.code yX9_clash cX9_clash 4 (some .int) ∈ lw_tg := tg 1034 (by decide +kernel) (by decide +kernel)
theorem y_1038 : Cond.methodLink RL 68 yX9_known ∈ lw_tg := tg 1038 (by decide +kernel) (by decide +kernel)
theorem y_1039 : Cond.instanceMethod yX9_known ∈ lw_tg := tg 1039 (by decide +kernel) (by decide +kernel)
theorem y_1040 : Cond.selects yX9_known.cls yX9_known yX9_known ∈ lw_tg := tg 1040 (by decide +kernel) (by decide +kernel)
theorem y_1041 : Cond.code yX9_known cX9_known 3 (some .int) ∈ lw_tg := tg 1041 (by decide +kernel) (by decide +kernel)
theorem y_1054 : Cond.methodLink RL 72 yX9_line ∈ lw_tg := tg 1054 (by decide +kernel) (by decide +kernel)
theorem y_1055 : Cond.instanceMethod yX9_line ∈ lw_tg := tg 1055 (by decide +kernel) (by decide +kernel)
theorem y_1056 : Cond.selects yX9_line.cls yX9_line yX9_line ∈ lw_tg := tg 1056 (by decide +kernel) (by decide +kernel)
theorem y_1057 : Cond.code yX9_line cX9_line 2 (some .int) ∈ lw_tg := tg 1057 (by decide +kernel) (by decide +kernel)
theorem y_1058 : Cond.methodLink RL 76 yX9_would ∈ lw_tg := tg 1058 (by decide +kernel) (by decide +kernel)
theorem y_1059 : Cond.instanceMethod yX9_would ∈ lw_tg := tg 1059 (by decide +kernel) (by decide +kernel)
theorem y_1060 : Cond.selects yX9_would.cls yX9_would yX9_would ∈ lw_tg := tg 1060 (by decide +kernel) (by decide +kernel)
theorem y_1061 : Cond.code yX9_would cX9_would 5 (some .int) ∈ lw_tg := tg 1061 (by decide +kernel) (by decide +kernel)
theorem y_1066 : Cond.methodLink RL 80 yX9_orders ∈ lw_tg := tg 1066 (by decide +kernel) (by decide +kernel)
theorem y_1067 : Cond.instanceMethod yX9_orders ∈ lw_tg := tg 1067 (by decide +kernel) (by decide +kernel)
theorem y_1068 : Cond.selects yX9_orders.cls yX9_orders yX9_orders ∈ lw_tg := tg 1068 (by decide +kernel) (by decide +kernel)
theorem y_1069 : Cond.code yX9_orders cX9_orders 1 (some .int) ∈ lw_tg := tg 1069 (by decide +kernel) (by decide +kernel)
theorem y_1078 : Cond.methodLink RL 84 yX9_left ∈ lw_tg := tg 1078 (by decide +kernel) (by decide +kernel)
theorem y_1079 : Cond.instanceMethod yX9_left ∈ lw_tg := tg 1079 (by decide +kernel) (by decide +kernel)
theorem y_1080 : Cond.selects yX9_left.cls yX9_left yX9_left ∈ lw_tg := tg 1080 (by decide +kernel) (by decide +kernel)
theorem y_1081 : Cond.code yX9_left cX9_left 4 (some .int) ∈ lw_tg := tg 1081 (by decide +kernel) (by decide +kernel)
theorem y_1086 : Cond.methodLink RL 88 yX9_best ∈ lw_tg := tg 1086 (by decide +kernel) (by decide +kernel)
theorem y_1087 : Cond.instanceMethod yX9_best ∈ lw_tg := tg 1087 (by decide +kernel) (by decide +kernel)
theorem y_1088 : Cond.selects yX9_best.cls yX9_best yX9_best ∈ lw_tg := tg 1088 (by decide +kernel) (by decide +kernel)
theorem y_1089 : Cond.code yX9_best cX9_best 9 (some .int) ∈ lw_tg := tg 1089 (by decide +kernel) (by decide +kernel)
theorem y_1090 : Cond.methodLink RL 40 yX9_says ∈ lw_tg := tg 1090 (by decide +kernel) (by decide +kernel)
theorem y_1091 : Cond.instanceMethod yX9_says ∈ lw_tg := tg 1091 (by decide +kernel) (by decide +kernel)
theorem y_1092 : Cond.selects yX9_says.cls yX9_says yX9_says ∈ lw_tg := tg 1092 (by decide +kernel) (by decide +kernel)
theorem y_1093 : Cond.code yX9_says cX9_says 5 (some .int) ∈ lw_tg := tg 1093 (by decide +kernel) (by decide +kernel)
theorem y_1102 : Cond.methodLink RL 44 yX9_takes ∈ lw_tg := tg 1102 (by decide +kernel) (by decide +kernel)
theorem y_1103 : Cond.instanceMethod yX9_takes ∈ lw_tg := tg 1103 (by decide +kernel) (by decide +kernel)
theorem y_1104 : Cond.selects yX9_takes.cls yX9_takes yX9_takes ∈ lw_tg := tg 1104 (by decide +kernel) (by decide +kernel)
theorem y_1105 : Cond.code yX9_takes cX9_takes 3 (some .int) ∈ lw_tg := tg 1105 (by decide +kernel) (by decide +kernel)
theorem y_1106 : Cond.methodLink RL 48 yX9_tenses ∈ lw_tg := tg 1106 (by decide +kernel) (by decide +kernel)
theorem y_1107 : Cond.instanceMethod yX9_tenses ∈ lw_tg := tg 1107 (by decide +kernel) (by decide +kernel)
theorem y_1108 : Cond.selects yX9_tenses.cls yX9_tenses yX9_tenses ∈ lw_tg := tg 1108 (by decide +kernel) (by decide +kernel)
theorem y_1109 : Cond.code yX9_tenses cX9_tenses 3 (some .int) ∈ lw_tg := tg 1109 (by decide +kernel) (by decide +kernel)
theorem y_1114 : Cond.methodLink RL 52 yX9_links ∈ lw_tg := tg 1114 (by decide +kernel) (by decide +kernel)
theorem y_1115 : Cond.instanceMethod yX9_links ∈ lw_tg := tg 1115 (by decide +kernel) (by decide +kernel)
theorem y_1116 : Cond.selects yX9_links.cls yX9_links yX9_links ∈ lw_tg := tg 1116 (by decide +kernel) (by decide +kernel)
theorem y_1117 : Cond.code yX9_links cX9_links 3 (some .int) ∈ lw_tg := tg 1117 (by decide +kernel) (by decide +kernel)
theorem y_1118 : Cond.methodLink RL 56 yX9_undo ∈ lw_tg := tg 1118 (by decide +kernel) (by decide +kernel)
theorem y_1119 : Cond.instanceMethod yX9_undo ∈ lw_tg := tg 1119 (by decide +kernel) (by decide +kernel)
theorem y_1120 : Cond.selects yX9_undo.cls yX9_undo yX9_undo ∈ lw_tg := tg 1120 (by decide +kernel) (by decide +kernel)
theorem y_1121 : Cond.code yX9_undo cX9_undo 2 (some .int) ∈ lw_tg := tg 1121 (by decide +kernel) (by decide +kernel)
theorem y_1122 : Cond.methodLink RL 92 yX9_sees ∈ lw_tg := tg 1122 (by decide +kernel) (by decide +kernel)
theorem y_1123 : Cond.instanceMethod yX9_sees ∈ lw_tg := tg 1123 (by decide +kernel) (by decide +kernel)
theorem y_1124 : Cond.selects yX9_sees.cls yX9_sees yX9_sees ∈ lw_tg := tg 1124 (by decide +kernel) (by decide +kernel)
theorem y_1125 : Cond.code yX9_sees cX9_sees 4 (some .int) ∈ lw_tg := tg 1125 (by decide +kernel) (by decide +kernel)
theorem y_1126 : Cond.methodLink RL 96 yX9_forget ∈ lw_tg := tg 1126 (by decide +kernel) (by decide +kernel)
theorem y_1127 : Cond.instanceMethod yX9_forget ∈ lw_tg := tg 1127 (by decide +kernel) (by decide +kernel)
theorem y_1128 : Cond.selects yX9_forget.cls yX9_forget yX9_forget ∈ lw_tg := tg 1128 (by decide +kernel) (by decide +kernel)
theorem y_1129 : Cond.code yX9_forget cX9_forget 2 (some .int) ∈ lw_tg := tg 1129 (by decide +kernel) (by decide +kernel)
theorem y_1130 : Cond.methodLink RL 100 yX9_unseen ∈ lw_tg := tg 1130 (by decide +kernel) (by decide +kernel)
theorem y_1131 : Cond.instanceMethod yX9_unseen ∈ lw_tg := tg 1131 (by decide +kernel) (by decide +kernel)
theorem y_1132 : Cond.selects yX9_unseen.cls yX9_unseen yX9_unseen ∈ lw_tg := tg 1132 (by decide +kernel) (by decide +kernel)
theorem y_1133 : Cond.code yX9_unseen cX9_unseen 5 (some .int) ∈ lw_tg := tg 1133 (by decide +kernel) (by decide +kernel)
theorem y_1134 : Cond.methodLink RL 104 yX9_keep ∈ lw_tg := tg 1134 (by decide +kernel) (by decide +kernel)
theorem y_1135 : Cond.instanceMethod yX9_keep ∈ lw_tg := tg 1135 (by decide +kernel) (by decide +kernel)
theorem y_1136 : Cond.selects yX9_keep.cls yX9_keep yX9_keep ∈ lw_tg := tg 1136 (by decide +kernel) (by decide +kernel)
theorem y_1137 : Cond.code yX9_keep cX9_keep 3 (some .int) ∈ lw_tg := tg 1137 (by decide +kernel) (by decide +kernel)
theorem y_1138 : Cond.methodLink RL 108 yX9_back ∈ lw_tg := tg 1138 (by decide +kernel) (by decide +kernel)
theorem y_1139 : Cond.instanceMethod yX9_back ∈ lw_tg := tg 1139 (by decide +kernel) (by decide +kernel)
theorem y_1140 : Cond.selects yX9_back.cls yX9_back yX9_back ∈ lw_tg := tg 1140 (by decide +kernel) (by decide +kernel)
theorem y_1141 : Cond.code yX9_back cX9_back 3 (some .int) ∈ lw_tg := tg 1141 (by decide +kernel) (by decide +kernel)
theorem y_1142 : Cond.methodLink RL 112 yX9_count ∈ lw_tg := tg 1142 (by decide +kernel) (by decide +kernel)
theorem y_1143 : Cond.instanceMethod yX9_count ∈ lw_tg := tg 1143 (by decide +kernel) (by decide +kernel)
theorem y_1144 : Cond.selects yX9_count.cls yX9_count yX9_count ∈ lw_tg := tg 1144 (by decide +kernel) (by decide +kernel)
theorem y_1145 : Cond.code yX9_count cX9_count 2 (some .int) ∈ lw_tg := tg 1145 (by decide +kernel) (by decide +kernel)
set_option maxRecDepth 100000 in
set_option maxHeartbeats 4000000 in
/-- THE LAW'S LOOP, over any invariant that the 24 steps keep -/
theorem law_loop {p : Program} {l : Launch} {e : Env} {s : State} {m : MethodId} {below : List Frame} {meth : Method} {c : Code} {b L : Nat} {xs : Nat → Int32} (hL : L ≤ 2048) {w : WP} (X : fw_X p s m #[Value.ref b] c code 4 RL w) (hr : meth.sig.returnType = ret) (hlocks : meth.locks = false) (hX : va_X b L xs s s.heap) (hbl : b < s.heap.size) (hnew : ∀ k, k < fw_lay.length → s.heap.size ≤ w.1 k)
    {Inv : Mem → Prop} (hst : ∀ k, k < 24 → ∀ (G : Mem) (a b c : Int32), Inv G → ∃ (r : Int32) (G1 G2 : Mem), op8 k G a b c = some (r, G1) ∧ op9 k G1 a b c = some (r, G2) ∧ Inv G2) :
    ∀ (n i : Nat) (x3 : Int32) (G : Mem), i ≤ L + 3 → L + 4 ≤ i + n → x3 = nI i → Inv G → JL p l e s m #[Value.ref b] below meth c (lw_Z below #[Value.ref b] s) w G 18 [(0, .ref b), (1, .ref (w.1 0)), (2, .ref (w.1 81)), (3, .int x3)] [] := by
  have hbA : ¬ fw_A w b := fun h => by
    obtain ⟨k, hk, e⟩ := h
    have := hnew k hk
    omega
  intro n
  induction n with
  | zero => intro i x3 G h1 h2; omega
  | succ n ih =>
    intro i x3 G h1 h2 hx3 hI
    have hLI : (Int32.ofNat L).toInt = L := nI_toInt (n := L) (by omega)
    have hXI : x3.toInt = i := by rw [hx3]; exact nI_toInt (by omega)
    have hSI : (Int32.ofNat L - 4).toInt = (L : Int) - 4 := pk_sub_toInt (a := L) (b := 4) (by omega) (by omega)
    refine jl_iload X dL_law_18 rfl 3 rfl ?_
    refine jl_aload X dL_law_19 rfl 0 rfl ?_
    refine jl_slen X hX hbl hbA dL_law_20 ?_
    refine jl_iconst (v := 4) X dL_law_21 (by decide) ?_
    refine jl_isub X dL_law_22 ?_
    refine jl_icmp_gt X 762 dL_law_23 (by decide) (fun c_e => ?_) (fun c_e => ?_)
    · refine jl_iconst (v := 1) X dL_law_762 (by decide) ?_
      intro H locs ls hP hS hl
      refine va_forget (fun q hq => ?_) ?_
      · obtain ⟨k, hk, e⟩ := hS.2.2 q hq
        rw [e]
        exact hnew k hk
      refine W.widen (k := 600000) (n := 7302249) (Nat.le_of_ble_eq_true rfl) (Nat.le_of_ble_eq_true rfl) ?_
      exact lw_ret X.1.1 X.1.2.1 hr hlocks dL_law_763
    · have hle : (i : Int) ≤ (L : Int) - 4 := by
        have := mt Int32.lt_iff_toInt_lt.mpr c_e
        rw [hSI, hXI] at this
        omega
      have hi4 : i + 4 ≤ L := by omega
      have hin_0 : vp_in x3 L := by rw [hx3]; exact vp_in_nI (by omega) (by omega)
      have hin_1 : vp_in (x3 + 1) L := by rw [hx3, show (1 : Int32) = nI 1 from rfl, nI_add]; exact vp_in_nI (by omega) (by omega)
      have hin_2 : vp_in (x3 + 2) L := by rw [hx3, show (2 : Int32) = nI 2 from rfl, nI_add]; exact vp_in_nI (by omega) (by omega)
      have hin_3 : vp_in (x3 + 3) L := by rw [hx3, show (3 : Int32) = nI 3 from rfl, nI_add]; exact vp_in_nI (by omega) (by omega)
      have next : ∀ G2 : Mem, Inv G2 → JL p l e s m #[Value.ref b] below meth c (lw_Z below #[Value.ref b] s) w G2 756 [(0, .ref b), (1, .ref (w.1 0)), (2, .ref (w.1 81)), (3, .int x3)] [] := by
        intro G2 hI2
        refine jl_iinc (v := x3 + 4) X [(3, .int (x3 + 4)), (0, .ref b), (1, .ref (w.1 0)), (2, .ref (w.1 81))] dL_law_756 3 rfl rfl (by decide) rfl ?_
        refine jl_goto X 18 dL_law_759 (by decide) ?_
        refine jl_pick [1, 2, 3, 0] rfl ?_
        exact ih (i + 4) (x3 + 4) G2 (by omega) (by omega) (by rw [hx3, show (4 : Int32) = nI 4 from rfl, nI_add]) hI2
      refine jl_aload X dL_law_26 rfl 0 rfl ?_
      refine jl_iload X dL_law_27 rfl 3 rfl ?_
      refine jl_sld X hX hbl hbA hin_0 dL_law_28 ?_
      refine jl_bipush (v := 31) X dL_law_29 (by decide) ?_
      refine jl_iand X dL_law_31 ?_
      by_cases c_0 : xs x3.toNatClampNeg &&& 31 = 0
      · obtain ⟨r, G1, G2, e1, e2, hI2⟩ := hst 0 (by decide) G (xs (x3 + 1).toNatClampNeg) 0 0 hI
        refine jl_tabAt (v := 0) X 144 dL_law_32 c_0 (by decide) (by decide) rfl (by decide) ?_
        refine jl_aload X dL_law_144 rfl 1 rfl ?_
        refine jl_aload X dL_law_145 rfl 0 rfl ?_
        refine jl_iload X dL_law_146 rfl 3 rfl ?_
        refine jl_iconst (v := 1) X dL_law_147 (by decide) ?_
        refine jl_iadd X dL_law_148 ?_
        refine jl_sld X hX hbl hbA hin_1 dL_law_149 ?_
        refine jl_call (As := [.int (xs (x3 + 1).toNatClampNeg)]) X 0 s_0 rfl (cm_X8_type l w G (xs (x3 + 1).toNatClampNeg) 0 0 e1) rfl pn_X8_type y_275 y_276 y_277 y_59 y_278 ⟨Nat.le_of_ble_eq_true rfl, Nat.le_of_ble_eq_true rfl⟩ (Nat.le_of_ble_eq_true rfl) rfl dL_law_150 ?_
        refine jl_aload X dL_law_153 rfl 2 rfl ?_
        refine jl_aload X dL_law_154 rfl 0 rfl ?_
        refine jl_iload X dL_law_155 rfl 3 rfl ?_
        refine jl_iconst (v := 1) X dL_law_156 (by decide) ?_
        refine jl_iadd X dL_law_157 ?_
        refine jl_sld X hX hbl hbA hin_1 dL_law_158 ?_
        refine jl_call (As := [.int (xs (x3 + 1).toNatClampNeg)]) X 81 s_81 rfl (cm_X9_type l w G1 (xs (x3 + 1).toNatClampNeg) 0 0 e2) rfl pn_X9_type y_930 y_931 y_932 y_68 y_933 ⟨Nat.le_of_ble_eq_true rfl, Nat.le_of_ble_eq_true rfl⟩ (Nat.le_of_ble_eq_true rfl) rfl dL_law_159 ?_
        refine jl_icmp_eq X 756 dL_law_162 (by decide) (fun _ => ?_) (fun z => absurd rfl z)
        exact next G2 hI2
      by_cases c_1 : xs x3.toNatClampNeg &&& 31 = 1
      · obtain ⟨r, G1, G2, e1, e2, hI2⟩ := hst 1 (by decide) G 0 0 0 hI
        refine jl_tabAt (v := 1) X 167 dL_law_32 c_1 (by decide) (by decide) rfl (by decide) ?_
        refine jl_aload X dL_law_167 rfl 1 rfl ?_
        refine jl_call (As := []) X 0 s_0 rfl (cm_X8_clear l w G 0 0 0 e1) rfl pn_X8_clear y_287 y_288 y_289 y_59 y_290 ⟨Nat.le_of_ble_eq_true rfl, Nat.le_of_ble_eq_true rfl⟩ (Nat.le_of_ble_eq_true rfl) rfl dL_law_168 ?_
        refine jl_aload X dL_law_171 rfl 2 rfl ?_
        refine jl_call (As := []) X 81 s_81 rfl (cm_X9_clear l w G1 0 0 0 e2) rfl pn_X9_clear y_937 y_938 y_939 y_68 y_940 ⟨Nat.le_of_ble_eq_true rfl, Nat.le_of_ble_eq_true rfl⟩ (Nat.le_of_ble_eq_true rfl) rfl dL_law_172 ?_
        refine jl_icmp_eq X 756 dL_law_175 (by decide) (fun _ => ?_) (fun z => absurd rfl z)
        exact next G2 hI2
      by_cases c_2 : xs x3.toNatClampNeg &&& 31 = 2
      · obtain ⟨r, G1, G2, e1, e2, hI2⟩ := hst 2 (by decide) G 0 0 0 hI
        refine jl_tabAt (v := 2) X 180 dL_law_32 c_2 (by decide) (by decide) rfl (by decide) ?_
        refine jl_aload X dL_law_180 rfl 1 rfl ?_
        refine jl_call (As := []) X 0 s_0 rfl (cm_X8_reads l w G 0 0 0 e1) rfl pn_X8_reads y_295 y_296 y_297 y_59 y_298 ⟨Nat.le_of_ble_eq_true rfl, Nat.le_of_ble_eq_true rfl⟩ (Nat.le_of_ble_eq_true rfl) rfl dL_law_181 ?_
        refine jl_aload X dL_law_184 rfl 2 rfl ?_
        refine jl_call (As := []) X 81 s_81 rfl (cm_X9_reads l w G1 0 0 0 e2) rfl pn_X9_reads y_941 y_942 y_943 y_68 y_944 ⟨Nat.le_of_ble_eq_true rfl, Nat.le_of_ble_eq_true rfl⟩ (Nat.le_of_ble_eq_true rfl) rfl dL_law_185 ?_
        refine jl_icmp_eq X 756 dL_law_188 (by decide) (fun _ => ?_) (fun z => absurd rfl z)
        exact next G2 hI2
      by_cases c_3 : xs x3.toNatClampNeg &&& 31 = 3
      · obtain ⟨r, G1, G2, e1, e2, hI2⟩ := hst 3 (by decide) G (xs (x3 + 1).toNatClampNeg) (xs (x3 + 2).toNatClampNeg) 0 hI
        refine jl_tabAt (v := 3) X 193 dL_law_32 c_3 (by decide) (by decide) rfl (by decide) ?_
        refine jl_aload X dL_law_193 rfl 1 rfl ?_
        refine jl_aload X dL_law_194 rfl 0 rfl ?_
        refine jl_iload X dL_law_195 rfl 3 rfl ?_
        refine jl_iconst (v := 1) X dL_law_196 (by decide) ?_
        refine jl_iadd X dL_law_197 ?_
        refine jl_sld X hX hbl hbA hin_1 dL_law_198 ?_
        refine jl_aload X dL_law_199 rfl 0 rfl ?_
        refine jl_iload X dL_law_200 rfl 3 rfl ?_
        refine jl_iconst (v := 2) X dL_law_201 (by decide) ?_
        refine jl_iadd X dL_law_202 ?_
        refine jl_sld X hX hbl hbA hin_2 dL_law_203 ?_
        refine jl_call (As := [.int (xs (x3 + 1).toNatClampNeg), .int (xs (x3 + 2).toNatClampNeg)]) X 0 s_0 rfl (cm_X8_clause l w G (xs (x3 + 1).toNatClampNeg) (xs (x3 + 2).toNatClampNeg) 0 e1) rfl pn_X8_clause y_484 y_485 y_486 y_59 y_487 ⟨Nat.le_of_ble_eq_true rfl, Nat.le_of_ble_eq_true rfl⟩ (Nat.le_of_ble_eq_true rfl) rfl dL_law_204 ?_
        refine jl_aload X dL_law_207 rfl 2 rfl ?_
        refine jl_aload X dL_law_208 rfl 0 rfl ?_
        refine jl_iload X dL_law_209 rfl 3 rfl ?_
        refine jl_iconst (v := 1) X dL_law_210 (by decide) ?_
        refine jl_iadd X dL_law_211 ?_
        refine jl_sld X hX hbl hbA hin_1 dL_law_212 ?_
        refine jl_aload X dL_law_213 rfl 0 rfl ?_
        refine jl_iload X dL_law_214 rfl 3 rfl ?_
        refine jl_iconst (v := 2) X dL_law_215 (by decide) ?_
        refine jl_iadd X dL_law_216 ?_
        refine jl_sld X hX hbl hbA hin_2 dL_law_217 ?_
        refine jl_call (As := [.int (xs (x3 + 1).toNatClampNeg), .int (xs (x3 + 2).toNatClampNeg)]) X 81 s_81 rfl (cm_X9_clause l w G1 (xs (x3 + 1).toNatClampNeg) (xs (x3 + 2).toNatClampNeg) 0 e2) rfl pn_X9_clause y_971 y_972 y_973 y_68 y_974 ⟨Nat.le_of_ble_eq_true rfl, Nat.le_of_ble_eq_true rfl⟩ (Nat.le_of_ble_eq_true rfl) rfl dL_law_218 ?_
        refine jl_icmp_eq X 756 dL_law_221 (by decide) (fun _ => ?_) (fun z => absurd rfl z)
        exact next G2 hI2
      by_cases c_4 : xs x3.toNatClampNeg &&& 31 = 4
      · obtain ⟨r, G1, G2, e1, e2, hI2⟩ := hst 4 (by decide) G (xs (x3 + 1).toNatClampNeg) (xs (x3 + 2).toNatClampNeg) 0 hI
        refine jl_tabAt (v := 4) X 226 dL_law_32 c_4 (by decide) (by decide) rfl (by decide) ?_
        refine jl_aload X dL_law_226 rfl 1 rfl ?_
        refine jl_aload X dL_law_227 rfl 0 rfl ?_
        refine jl_iload X dL_law_228 rfl 3 rfl ?_
        refine jl_iconst (v := 1) X dL_law_229 (by decide) ?_
        refine jl_iadd X dL_law_230 ?_
        refine jl_sld X hX hbl hbA hin_1 dL_law_231 ?_
        refine jl_aload X dL_law_232 rfl 0 rfl ?_
        refine jl_iload X dL_law_233 rfl 3 rfl ?_
        refine jl_iconst (v := 2) X dL_law_234 (by decide) ?_
        refine jl_iadd X dL_law_235 ?_
        refine jl_sld X hX hbl hbA hin_2 dL_law_236 ?_
        refine jl_call (As := [.int (xs (x3 + 1).toNatClampNeg), .int (xs (x3 + 2).toNatClampNeg)]) X 0 s_0 rfl (cm_X8_statement l w G (xs (x3 + 1).toNatClampNeg) (xs (x3 + 2).toNatClampNeg) 0 e1) rfl pn_X8_statement y_517 y_518 y_519 y_59 y_520 ⟨Nat.le_of_ble_eq_true rfl, Nat.le_of_ble_eq_true rfl⟩ (Nat.le_of_ble_eq_true rfl) rfl dL_law_237 ?_
        refine jl_aload X dL_law_240 rfl 2 rfl ?_
        refine jl_aload X dL_law_241 rfl 0 rfl ?_
        refine jl_iload X dL_law_242 rfl 3 rfl ?_
        refine jl_iconst (v := 1) X dL_law_243 (by decide) ?_
        refine jl_iadd X dL_law_244 ?_
        refine jl_sld X hX hbl hbA hin_1 dL_law_245 ?_
        refine jl_aload X dL_law_246 rfl 0 rfl ?_
        refine jl_iload X dL_law_247 rfl 3 rfl ?_
        refine jl_iconst (v := 2) X dL_law_248 (by decide) ?_
        refine jl_iadd X dL_law_249 ?_
        refine jl_sld X hX hbl hbA hin_2 dL_law_250 ?_
        refine jl_call (As := [.int (xs (x3 + 1).toNatClampNeg), .int (xs (x3 + 2).toNatClampNeg)]) X 81 s_81 rfl (cm_X9_statement l w G1 (xs (x3 + 1).toNatClampNeg) (xs (x3 + 2).toNatClampNeg) 0 e2) rfl pn_X9_statement y_983 y_984 y_985 y_68 y_986 ⟨Nat.le_of_ble_eq_true rfl, Nat.le_of_ble_eq_true rfl⟩ (Nat.le_of_ble_eq_true rfl) rfl dL_law_251 ?_
        refine jl_icmp_eq X 756 dL_law_254 (by decide) (fun _ => ?_) (fun z => absurd rfl z)
        exact next G2 hI2
      by_cases c_5 : xs x3.toNatClampNeg &&& 31 = 5
      · obtain ⟨r, G1, G2, e1, e2, hI2⟩ := hst 5 (by decide) G (xs (x3 + 1).toNatClampNeg) (xs (x3 + 2).toNatClampNeg) (xs (x3 + 3).toNatClampNeg) hI
        refine jl_tabAt (v := 5) X 259 dL_law_32 c_5 (by decide) (by decide) rfl (by decide) ?_
        refine jl_aload X dL_law_259 rfl 1 rfl ?_
        refine jl_aload X dL_law_260 rfl 0 rfl ?_
        refine jl_iload X dL_law_261 rfl 3 rfl ?_
        refine jl_iconst (v := 1) X dL_law_262 (by decide) ?_
        refine jl_iadd X dL_law_263 ?_
        refine jl_sld X hX hbl hbA hin_1 dL_law_264 ?_
        refine jl_aload X dL_law_265 rfl 0 rfl ?_
        refine jl_iload X dL_law_266 rfl 3 rfl ?_
        refine jl_iconst (v := 2) X dL_law_267 (by decide) ?_
        refine jl_iadd X dL_law_268 ?_
        refine jl_sld X hX hbl hbA hin_2 dL_law_269 ?_
        refine jl_aload X dL_law_270 rfl 0 rfl ?_
        refine jl_iload X dL_law_271 rfl 3 rfl ?_
        refine jl_iconst (v := 3) X dL_law_272 (by decide) ?_
        refine jl_iadd X dL_law_273 ?_
        refine jl_sld X hX hbl hbA hin_3 dL_law_274 ?_
        refine jl_call (As := [.int (xs (x3 + 1).toNatClampNeg), .int (xs (x3 + 2).toNatClampNeg), .int (xs (x3 + 3).toNatClampNeg)]) X 0 s_0 rfl (cm_X8_says l w G (xs (x3 + 1).toNatClampNeg) (xs (x3 + 2).toNatClampNeg) (xs (x3 + 3).toNatClampNeg) e1) rfl pn_X8_says y_538 y_539 y_540 y_59 y_541 ⟨Nat.le_of_ble_eq_true rfl, Nat.le_of_ble_eq_true rfl⟩ (Nat.le_of_ble_eq_true rfl) rfl dL_law_275 ?_
        refine jl_aload X dL_law_278 rfl 2 rfl ?_
        refine jl_aload X dL_law_279 rfl 0 rfl ?_
        refine jl_iload X dL_law_280 rfl 3 rfl ?_
        refine jl_iconst (v := 1) X dL_law_281 (by decide) ?_
        refine jl_iadd X dL_law_282 ?_
        refine jl_sld X hX hbl hbA hin_1 dL_law_283 ?_
        refine jl_aload X dL_law_284 rfl 0 rfl ?_
        refine jl_iload X dL_law_285 rfl 3 rfl ?_
        refine jl_iconst (v := 2) X dL_law_286 (by decide) ?_
        refine jl_iadd X dL_law_287 ?_
        refine jl_sld X hX hbl hbA hin_2 dL_law_288 ?_
        refine jl_aload X dL_law_289 rfl 0 rfl ?_
        refine jl_iload X dL_law_290 rfl 3 rfl ?_
        refine jl_iconst (v := 3) X dL_law_291 (by decide) ?_
        refine jl_iadd X dL_law_292 ?_
        refine jl_sld X hX hbl hbA hin_3 dL_law_293 ?_
        refine jl_call (As := [.int (xs (x3 + 1).toNatClampNeg), .int (xs (x3 + 2).toNatClampNeg), .int (xs (x3 + 3).toNatClampNeg)]) X 81 s_81 rfl (cm_X9_says l w G1 (xs (x3 + 1).toNatClampNeg) (xs (x3 + 2).toNatClampNeg) (xs (x3 + 3).toNatClampNeg) e2) rfl pn_X9_says y_1090 y_1091 y_1092 y_68 y_1093 ⟨Nat.le_of_ble_eq_true rfl, Nat.le_of_ble_eq_true rfl⟩ (Nat.le_of_ble_eq_true rfl) rfl dL_law_294 ?_
        refine jl_icmp_eq X 756 dL_law_297 (by decide) (fun _ => ?_) (fun z => absurd rfl z)
        exact next G2 hI2
      by_cases c_6 : xs x3.toNatClampNeg &&& 31 = 6
      · obtain ⟨r, G1, G2, e1, e2, hI2⟩ := hst 6 (by decide) G (xs (x3 + 1).toNatClampNeg) 0 0 hI
        refine jl_tabAt (v := 6) X 302 dL_law_32 c_6 (by decide) (by decide) rfl (by decide) ?_
        refine jl_aload X dL_law_302 rfl 1 rfl ?_
        refine jl_aload X dL_law_303 rfl 0 rfl ?_
        refine jl_iload X dL_law_304 rfl 3 rfl ?_
        refine jl_iconst (v := 1) X dL_law_305 (by decide) ?_
        refine jl_iadd X dL_law_306 ?_
        refine jl_sld X hX hbl hbA hin_1 dL_law_307 ?_
        refine jl_call (As := [.int (xs (x3 + 1).toNatClampNeg)]) X 0 s_0 rfl (cm_X8_takes l w G (xs (x3 + 1).toNatClampNeg) 0 0 e1) rfl pn_X8_takes y_565 y_566 y_567 y_59 y_568 ⟨Nat.le_of_ble_eq_true rfl, Nat.le_of_ble_eq_true rfl⟩ (Nat.le_of_ble_eq_true rfl) rfl dL_law_308 ?_
        refine jl_aload X dL_law_311 rfl 2 rfl ?_
        refine jl_aload X dL_law_312 rfl 0 rfl ?_
        refine jl_iload X dL_law_313 rfl 3 rfl ?_
        refine jl_iconst (v := 1) X dL_law_314 (by decide) ?_
        refine jl_iadd X dL_law_315 ?_
        refine jl_sld X hX hbl hbA hin_1 dL_law_316 ?_
        refine jl_call (As := [.int (xs (x3 + 1).toNatClampNeg)]) X 81 s_81 rfl (cm_X9_takes l w G1 (xs (x3 + 1).toNatClampNeg) 0 0 e2) rfl pn_X9_takes y_1102 y_1103 y_1104 y_68 y_1105 ⟨Nat.le_of_ble_eq_true rfl, Nat.le_of_ble_eq_true rfl⟩ (Nat.le_of_ble_eq_true rfl) rfl dL_law_317 ?_
        refine jl_icmp_eq X 756 dL_law_320 (by decide) (fun _ => ?_) (fun z => absurd rfl z)
        exact next G2 hI2
      by_cases c_7 : xs x3.toNatClampNeg &&& 31 = 7
      · obtain ⟨r, G1, G2, e1, e2, hI2⟩ := hst 7 (by decide) G (xs (x3 + 1).toNatClampNeg) (xs (x3 + 2).toNatClampNeg) 0 hI
        refine jl_tabAt (v := 7) X 325 dL_law_32 c_7 (by decide) (by decide) rfl (by decide) ?_
        refine jl_aload X dL_law_325 rfl 1 rfl ?_
        refine jl_aload X dL_law_326 rfl 0 rfl ?_
        refine jl_iload X dL_law_327 rfl 3 rfl ?_
        refine jl_iconst (v := 1) X dL_law_328 (by decide) ?_
        refine jl_iadd X dL_law_329 ?_
        refine jl_sld X hX hbl hbA hin_1 dL_law_330 ?_
        refine jl_aload X dL_law_331 rfl 0 rfl ?_
        refine jl_iload X dL_law_332 rfl 3 rfl ?_
        refine jl_iconst (v := 2) X dL_law_333 (by decide) ?_
        refine jl_iadd X dL_law_334 ?_
        refine jl_sld X hX hbl hbA hin_2 dL_law_335 ?_
        refine jl_call (As := [.int (xs (x3 + 1).toNatClampNeg), .int (xs (x3 + 2).toNatClampNeg)]) X 0 s_0 rfl (cm_X8_tenses l w G (xs (x3 + 1).toNatClampNeg) (xs (x3 + 2).toNatClampNeg) 0 e1) rfl pn_X8_tenses y_573 y_574 y_575 y_59 y_576 ⟨Nat.le_of_ble_eq_true rfl, Nat.le_of_ble_eq_true rfl⟩ (Nat.le_of_ble_eq_true rfl) rfl dL_law_336 ?_
        refine jl_aload X dL_law_339 rfl 2 rfl ?_
        refine jl_aload X dL_law_340 rfl 0 rfl ?_
        refine jl_iload X dL_law_341 rfl 3 rfl ?_
        refine jl_iconst (v := 1) X dL_law_342 (by decide) ?_
        refine jl_iadd X dL_law_343 ?_
        refine jl_sld X hX hbl hbA hin_1 dL_law_344 ?_
        refine jl_aload X dL_law_345 rfl 0 rfl ?_
        refine jl_iload X dL_law_346 rfl 3 rfl ?_
        refine jl_iconst (v := 2) X dL_law_347 (by decide) ?_
        refine jl_iadd X dL_law_348 ?_
        refine jl_sld X hX hbl hbA hin_2 dL_law_349 ?_
        refine jl_call (As := [.int (xs (x3 + 1).toNatClampNeg), .int (xs (x3 + 2).toNatClampNeg)]) X 81 s_81 rfl (cm_X9_tenses l w G1 (xs (x3 + 1).toNatClampNeg) (xs (x3 + 2).toNatClampNeg) 0 e2) rfl pn_X9_tenses y_1106 y_1107 y_1108 y_68 y_1109 ⟨Nat.le_of_ble_eq_true rfl, Nat.le_of_ble_eq_true rfl⟩ (Nat.le_of_ble_eq_true rfl) rfl dL_law_350 ?_
        refine jl_icmp_eq X 756 dL_law_353 (by decide) (fun _ => ?_) (fun z => absurd rfl z)
        exact next G2 hI2
      by_cases c_8 : xs x3.toNatClampNeg &&& 31 = 8
      · obtain ⟨r, G1, G2, e1, e2, hI2⟩ := hst 8 (by decide) G (xs (x3 + 1).toNatClampNeg) (xs (x3 + 2).toNatClampNeg) 0 hI
        refine jl_tabAt (v := 8) X 358 dL_law_32 c_8 (by decide) (by decide) rfl (by decide) ?_
        refine jl_aload X dL_law_358 rfl 1 rfl ?_
        refine jl_aload X dL_law_359 rfl 0 rfl ?_
        refine jl_iload X dL_law_360 rfl 3 rfl ?_
        refine jl_iconst (v := 1) X dL_law_361 (by decide) ?_
        refine jl_iadd X dL_law_362 ?_
        refine jl_sld X hX hbl hbA hin_1 dL_law_363 ?_
        refine jl_aload X dL_law_364 rfl 0 rfl ?_
        refine jl_iload X dL_law_365 rfl 3 rfl ?_
        refine jl_iconst (v := 2) X dL_law_366 (by decide) ?_
        refine jl_iadd X dL_law_367 ?_
        refine jl_sld X hX hbl hbA hin_2 dL_law_368 ?_
        refine jl_call (As := [.int (xs (x3 + 1).toNatClampNeg), .int (xs (x3 + 2).toNatClampNeg)]) X 0 s_0 rfl (cm_X8_links l w G (xs (x3 + 1).toNatClampNeg) (xs (x3 + 2).toNatClampNeg) 0 e1) rfl pn_X8_links y_578 y_579 y_580 y_59 y_581 ⟨Nat.le_of_ble_eq_true rfl, Nat.le_of_ble_eq_true rfl⟩ (Nat.le_of_ble_eq_true rfl) rfl dL_law_369 ?_
        refine jl_aload X dL_law_372 rfl 2 rfl ?_
        refine jl_aload X dL_law_373 rfl 0 rfl ?_
        refine jl_iload X dL_law_374 rfl 3 rfl ?_
        refine jl_iconst (v := 1) X dL_law_375 (by decide) ?_
        refine jl_iadd X dL_law_376 ?_
        refine jl_sld X hX hbl hbA hin_1 dL_law_377 ?_
        refine jl_aload X dL_law_378 rfl 0 rfl ?_
        refine jl_iload X dL_law_379 rfl 3 rfl ?_
        refine jl_iconst (v := 2) X dL_law_380 (by decide) ?_
        refine jl_iadd X dL_law_381 ?_
        refine jl_sld X hX hbl hbA hin_2 dL_law_382 ?_
        refine jl_call (As := [.int (xs (x3 + 1).toNatClampNeg), .int (xs (x3 + 2).toNatClampNeg)]) X 81 s_81 rfl (cm_X9_links l w G1 (xs (x3 + 1).toNatClampNeg) (xs (x3 + 2).toNatClampNeg) 0 e2) rfl pn_X9_links y_1114 y_1115 y_1116 y_68 y_1117 ⟨Nat.le_of_ble_eq_true rfl, Nat.le_of_ble_eq_true rfl⟩ (Nat.le_of_ble_eq_true rfl) rfl dL_law_383 ?_
        refine jl_icmp_eq X 756 dL_law_386 (by decide) (fun _ => ?_) (fun z => absurd rfl z)
        exact next G2 hI2
      by_cases c_9 : xs x3.toNatClampNeg &&& 31 = 9
      · obtain ⟨r, G1, G2, e1, e2, hI2⟩ := hst 9 (by decide) G 0 0 0 hI
        refine jl_tabAt (v := 9) X 391 dL_law_32 c_9 (by decide) (by decide) rfl (by decide) ?_
        refine jl_aload X dL_law_391 rfl 1 rfl ?_
        refine jl_call (As := []) X 0 s_0 rfl (cm_X8_undo l w G 0 0 0 e1) rfl pn_X8_undo y_583 y_584 y_585 y_59 y_586 ⟨Nat.le_of_ble_eq_true rfl, Nat.le_of_ble_eq_true rfl⟩ (Nat.le_of_ble_eq_true rfl) rfl dL_law_392 ?_
        refine jl_aload X dL_law_395 rfl 2 rfl ?_
        refine jl_call (As := []) X 81 s_81 rfl (cm_X9_undo l w G1 0 0 0 e2) rfl pn_X9_undo y_1118 y_1119 y_1120 y_68 y_1121 ⟨Nat.le_of_ble_eq_true rfl, Nat.le_of_ble_eq_true rfl⟩ (Nat.le_of_ble_eq_true rfl) rfl dL_law_396 ?_
        refine jl_icmp_eq X 756 dL_law_399 (by decide) (fun _ => ?_) (fun z => absurd rfl z)
        exact next G2 hI2
      by_cases c_10 : xs x3.toNatClampNeg &&& 31 = 10
      · obtain ⟨r, G1, G2, e1, e2, hI2⟩ := hst 10 (by decide) G 0 0 0 hI
        refine jl_tabAt (v := 10) X 404 dL_law_32 c_10 (by decide) (by decide) rfl (by decide) ?_
        refine jl_aload X dL_law_404 rfl 1 rfl ?_
        refine jl_call (As := []) X 0 s_0 rfl (cm_X8_sound l w G 0 0 0 e1) rfl pn_X8_sound y_599 y_600 y_601 y_59 y_602 ⟨Nat.le_of_ble_eq_true rfl, Nat.le_of_ble_eq_true rfl⟩ (Nat.le_of_ble_eq_true rfl) rfl dL_law_405 ?_
        refine jl_aload X dL_law_408 rfl 2 rfl ?_
        refine jl_call (As := []) X 81 s_81 rfl (cm_X9_sound l w G1 0 0 0 e2) rfl pn_X9_sound y_991 y_992 y_993 y_68 y_994 ⟨Nat.le_of_ble_eq_true rfl, Nat.le_of_ble_eq_true rfl⟩ (Nat.le_of_ble_eq_true rfl) rfl dL_law_409 ?_
        refine jl_icmp_eq X 756 dL_law_412 (by decide) (fun _ => ?_) (fun z => absurd rfl z)
        exact next G2 hI2
      by_cases c_11 : xs x3.toNatClampNeg &&& 31 = 11
      · obtain ⟨r, G1, G2, e1, e2, hI2⟩ := hst 11 (by decide) G (xs (x3 + 1).toNatClampNeg) 0 0 hI
        refine jl_tabAt (v := 11) X 417 dL_law_32 c_11 (by decide) (by decide) rfl (by decide) ?_
        refine jl_aload X dL_law_417 rfl 1 rfl ?_
        refine jl_aload X dL_law_418 rfl 0 rfl ?_
        refine jl_iload X dL_law_419 rfl 3 rfl ?_
        refine jl_iconst (v := 1) X dL_law_420 (by decide) ?_
        refine jl_iadd X dL_law_421 ?_
        refine jl_sld X hX hbl hbA hin_1 dL_law_422 ?_
        refine jl_call (As := [.int (xs (x3 + 1).toNatClampNeg)]) X 0 s_0 rfl (cm_X8_clash l w G (xs (x3 + 1).toNatClampNeg) 0 0 e1) rfl pn_X8_clash y_655 y_656 y_657 y_59 y_658 ⟨Nat.le_of_ble_eq_true rfl, Nat.le_of_ble_eq_true rfl⟩ (Nat.le_of_ble_eq_true rfl) rfl dL_law_423 ?_
        refine jl_aload X dL_law_426 rfl 2 rfl ?_
        refine jl_aload X dL_law_427 rfl 0 rfl ?_
        refine jl_iload X dL_law_428 rfl 3 rfl ?_
        refine jl_iconst (v := 1) X dL_law_429 (by decide) ?_
        refine jl_iadd X dL_law_430 ?_
        refine jl_sld X hX hbl hbA hin_1 dL_law_431 ?_
        refine jl_call (As := [.int (xs (x3 + 1).toNatClampNeg)]) X 81 s_81 rfl (cm_X9_clash l w G1 (xs (x3 + 1).toNatClampNeg) 0 0 e2) rfl pn_X9_clash y_1031 y_1032 y_1033 y_68 y_1034 ⟨Nat.le_of_ble_eq_true rfl, Nat.le_of_ble_eq_true rfl⟩ (Nat.le_of_ble_eq_true rfl) rfl dL_law_432 ?_
        refine jl_icmp_eq X 756 dL_law_435 (by decide) (fun _ => ?_) (fun z => absurd rfl z)
        exact next G2 hI2
      by_cases c_12 : xs x3.toNatClampNeg &&& 31 = 12
      · obtain ⟨r, G1, G2, e1, e2, hI2⟩ := hst 12 (by decide) G (xs (x3 + 1).toNatClampNeg) (xs (x3 + 2).toNatClampNeg) 0 hI
        refine jl_tabAt (v := 12) X 440 dL_law_32 c_12 (by decide) (by decide) rfl (by decide) ?_
        refine jl_aload X dL_law_440 rfl 1 rfl ?_
        refine jl_aload X dL_law_441 rfl 0 rfl ?_
        refine jl_iload X dL_law_442 rfl 3 rfl ?_
        refine jl_iconst (v := 1) X dL_law_443 (by decide) ?_
        refine jl_iadd X dL_law_444 ?_
        refine jl_sld X hX hbl hbA hin_1 dL_law_445 ?_
        refine jl_aload X dL_law_446 rfl 0 rfl ?_
        refine jl_iload X dL_law_447 rfl 3 rfl ?_
        refine jl_iconst (v := 2) X dL_law_448 (by decide) ?_
        refine jl_iadd X dL_law_449 ?_
        refine jl_sld X hX hbl hbA hin_2 dL_law_450 ?_
        refine jl_call (As := [.int (xs (x3 + 1).toNatClampNeg), .int (xs (x3 + 2).toNatClampNeg)]) X 0 s_0 rfl (cm_X8_known l w G (xs (x3 + 1).toNatClampNeg) (xs (x3 + 2).toNatClampNeg) 0 e1) rfl pn_X8_known y_699 y_700 y_701 y_59 y_702 ⟨Nat.le_of_ble_eq_true rfl, Nat.le_of_ble_eq_true rfl⟩ (Nat.le_of_ble_eq_true rfl) rfl dL_law_451 ?_
        refine jl_aload X dL_law_454 rfl 2 rfl ?_
        refine jl_aload X dL_law_455 rfl 0 rfl ?_
        refine jl_iload X dL_law_456 rfl 3 rfl ?_
        refine jl_iconst (v := 1) X dL_law_457 (by decide) ?_
        refine jl_iadd X dL_law_458 ?_
        refine jl_sld X hX hbl hbA hin_1 dL_law_459 ?_
        refine jl_aload X dL_law_460 rfl 0 rfl ?_
        refine jl_iload X dL_law_461 rfl 3 rfl ?_
        refine jl_iconst (v := 2) X dL_law_462 (by decide) ?_
        refine jl_iadd X dL_law_463 ?_
        refine jl_sld X hX hbl hbA hin_2 dL_law_464 ?_
        refine jl_call (As := [.int (xs (x3 + 1).toNatClampNeg), .int (xs (x3 + 2).toNatClampNeg)]) X 81 s_81 rfl (cm_X9_known l w G1 (xs (x3 + 1).toNatClampNeg) (xs (x3 + 2).toNatClampNeg) 0 e2) rfl pn_X9_known y_1038 y_1039 y_1040 y_68 y_1041 ⟨Nat.le_of_ble_eq_true rfl, Nat.le_of_ble_eq_true rfl⟩ (Nat.le_of_ble_eq_true rfl) rfl dL_law_465 ?_
        refine jl_icmp_eq X 756 dL_law_468 (by decide) (fun _ => ?_) (fun z => absurd rfl z)
        exact next G2 hI2
      by_cases c_13 : xs x3.toNatClampNeg &&& 31 = 13
      · obtain ⟨r, G1, G2, e1, e2, hI2⟩ := hst 13 (by decide) G (xs (x3 + 1).toNatClampNeg) 0 0 hI
        refine jl_tabAt (v := 13) X 473 dL_law_32 c_13 (by decide) (by decide) rfl (by decide) ?_
        refine jl_aload X dL_law_473 rfl 1 rfl ?_
        refine jl_aload X dL_law_474 rfl 0 rfl ?_
        refine jl_iload X dL_law_475 rfl 3 rfl ?_
        refine jl_iconst (v := 1) X dL_law_476 (by decide) ?_
        refine jl_iadd X dL_law_477 ?_
        refine jl_sld X hX hbl hbA hin_1 dL_law_478 ?_
        refine jl_call (As := [.int (xs (x3 + 1).toNatClampNeg)]) X 0 s_0 rfl (cm_X8_line l w G (xs (x3 + 1).toNatClampNeg) 0 0 e1) rfl pn_X8_line y_712 y_713 y_714 y_59 y_715 ⟨Nat.le_of_ble_eq_true rfl, Nat.le_of_ble_eq_true rfl⟩ (Nat.le_of_ble_eq_true rfl) rfl dL_law_479 ?_
        refine jl_aload X dL_law_482 rfl 2 rfl ?_
        refine jl_aload X dL_law_483 rfl 0 rfl ?_
        refine jl_iload X dL_law_484 rfl 3 rfl ?_
        refine jl_iconst (v := 1) X dL_law_485 (by decide) ?_
        refine jl_iadd X dL_law_486 ?_
        refine jl_sld X hX hbl hbA hin_1 dL_law_487 ?_
        refine jl_call (As := [.int (xs (x3 + 1).toNatClampNeg)]) X 81 s_81 rfl (cm_X9_line l w G1 (xs (x3 + 1).toNatClampNeg) 0 0 e2) rfl pn_X9_line y_1054 y_1055 y_1056 y_68 y_1057 ⟨Nat.le_of_ble_eq_true rfl, Nat.le_of_ble_eq_true rfl⟩ (Nat.le_of_ble_eq_true rfl) rfl dL_law_488 ?_
        refine jl_icmp_eq X 756 dL_law_491 (by decide) (fun _ => ?_) (fun z => absurd rfl z)
        exact next G2 hI2
      by_cases c_14 : xs x3.toNatClampNeg &&& 31 = 14
      · obtain ⟨r, G1, G2, e1, e2, hI2⟩ := hst 14 (by decide) G (xs (x3 + 1).toNatClampNeg) (xs (x3 + 2).toNatClampNeg) (xs (x3 + 3).toNatClampNeg) hI
        refine jl_tabAt (v := 14) X 496 dL_law_32 c_14 (by decide) (by decide) rfl (by decide) ?_
        refine jl_aload X dL_law_496 rfl 1 rfl ?_
        refine jl_aload X dL_law_497 rfl 0 rfl ?_
        refine jl_iload X dL_law_498 rfl 3 rfl ?_
        refine jl_iconst (v := 1) X dL_law_499 (by decide) ?_
        refine jl_iadd X dL_law_500 ?_
        refine jl_sld X hX hbl hbA hin_1 dL_law_501 ?_
        refine jl_aload X dL_law_502 rfl 0 rfl ?_
        refine jl_iload X dL_law_503 rfl 3 rfl ?_
        refine jl_iconst (v := 2) X dL_law_504 (by decide) ?_
        refine jl_iadd X dL_law_505 ?_
        refine jl_sld X hX hbl hbA hin_2 dL_law_506 ?_
        refine jl_aload X dL_law_507 rfl 0 rfl ?_
        refine jl_iload X dL_law_508 rfl 3 rfl ?_
        refine jl_iconst (v := 3) X dL_law_509 (by decide) ?_
        refine jl_iadd X dL_law_510 ?_
        refine jl_sld X hX hbl hbA hin_3 dL_law_511 ?_
        refine jl_call (As := [.int (xs (x3 + 1).toNatClampNeg), .int (xs (x3 + 2).toNatClampNeg), .int (xs (x3 + 3).toNatClampNeg)]) X 0 s_0 rfl (cm_X8_would l w G (xs (x3 + 1).toNatClampNeg) (xs (x3 + 2).toNatClampNeg) (xs (x3 + 3).toNatClampNeg) e1) rfl pn_X8_would y_725 y_726 y_727 y_59 y_728 ⟨Nat.le_of_ble_eq_true rfl, Nat.le_of_ble_eq_true rfl⟩ (Nat.le_of_ble_eq_true rfl) rfl dL_law_512 ?_
        refine jl_aload X dL_law_515 rfl 2 rfl ?_
        refine jl_aload X dL_law_516 rfl 0 rfl ?_
        refine jl_iload X dL_law_517 rfl 3 rfl ?_
        refine jl_iconst (v := 1) X dL_law_518 (by decide) ?_
        refine jl_iadd X dL_law_519 ?_
        refine jl_sld X hX hbl hbA hin_1 dL_law_520 ?_
        refine jl_aload X dL_law_521 rfl 0 rfl ?_
        refine jl_iload X dL_law_522 rfl 3 rfl ?_
        refine jl_iconst (v := 2) X dL_law_523 (by decide) ?_
        refine jl_iadd X dL_law_524 ?_
        refine jl_sld X hX hbl hbA hin_2 dL_law_525 ?_
        refine jl_aload X dL_law_526 rfl 0 rfl ?_
        refine jl_iload X dL_law_527 rfl 3 rfl ?_
        refine jl_iconst (v := 3) X dL_law_528 (by decide) ?_
        refine jl_iadd X dL_law_529 ?_
        refine jl_sld X hX hbl hbA hin_3 dL_law_530 ?_
        refine jl_call (As := [.int (xs (x3 + 1).toNatClampNeg), .int (xs (x3 + 2).toNatClampNeg), .int (xs (x3 + 3).toNatClampNeg)]) X 81 s_81 rfl (cm_X9_would l w G1 (xs (x3 + 1).toNatClampNeg) (xs (x3 + 2).toNatClampNeg) (xs (x3 + 3).toNatClampNeg) e2) rfl pn_X9_would y_1058 y_1059 y_1060 y_68 y_1061 ⟨Nat.le_of_ble_eq_true rfl, Nat.le_of_ble_eq_true rfl⟩ (Nat.le_of_ble_eq_true rfl) rfl dL_law_531 ?_
        refine jl_icmp_eq X 756 dL_law_534 (by decide) (fun _ => ?_) (fun z => absurd rfl z)
        exact next G2 hI2
      by_cases c_15 : xs x3.toNatClampNeg &&& 31 = 15
      · obtain ⟨r, G1, G2, e1, e2, hI2⟩ := hst 15 (by decide) G 0 0 0 hI
        refine jl_tabAt (v := 15) X 539 dL_law_32 c_15 (by decide) (by decide) rfl (by decide) ?_
        refine jl_aload X dL_law_539 rfl 1 rfl ?_
        refine jl_call (As := []) X 0 s_0 rfl (cm_X8_orders l w G 0 0 0 e1) rfl pn_X8_orders y_729 y_730 y_731 y_59 y_732 ⟨Nat.le_of_ble_eq_true rfl, Nat.le_of_ble_eq_true rfl⟩ (Nat.le_of_ble_eq_true rfl) rfl dL_law_540 ?_
        refine jl_aload X dL_law_543 rfl 2 rfl ?_
        refine jl_call (As := []) X 81 s_81 rfl (cm_X9_orders l w G1 0 0 0 e2) rfl pn_X9_orders y_1066 y_1067 y_1068 y_68 y_1069 ⟨Nat.le_of_ble_eq_true rfl, Nat.le_of_ble_eq_true rfl⟩ (Nat.le_of_ble_eq_true rfl) rfl dL_law_544 ?_
        refine jl_icmp_eq X 756 dL_law_547 (by decide) (fun _ => ?_) (fun z => absurd rfl z)
        exact next G2 hI2
      by_cases c_16 : xs x3.toNatClampNeg &&& 31 = 16
      · obtain ⟨r, G1, G2, e1, e2, hI2⟩ := hst 16 (by decide) G (xs (x3 + 1).toNatClampNeg) (xs (x3 + 2).toNatClampNeg) (xs (x3 + 3).toNatClampNeg) hI
        refine jl_tabAt (v := 16) X 552 dL_law_32 c_16 (by decide) (by decide) rfl (by decide) ?_
        refine jl_aload X dL_law_552 rfl 1 rfl ?_
        refine jl_aload X dL_law_553 rfl 0 rfl ?_
        refine jl_iload X dL_law_554 rfl 3 rfl ?_
        refine jl_iconst (v := 1) X dL_law_555 (by decide) ?_
        refine jl_iadd X dL_law_556 ?_
        refine jl_sld X hX hbl hbA hin_1 dL_law_557 ?_
        refine jl_aload X dL_law_558 rfl 0 rfl ?_
        refine jl_iload X dL_law_559 rfl 3 rfl ?_
        refine jl_iconst (v := 2) X dL_law_560 (by decide) ?_
        refine jl_iadd X dL_law_561 ?_
        refine jl_sld X hX hbl hbA hin_2 dL_law_562 ?_
        refine jl_aload X dL_law_563 rfl 0 rfl ?_
        refine jl_iload X dL_law_564 rfl 3 rfl ?_
        refine jl_iconst (v := 3) X dL_law_565 (by decide) ?_
        refine jl_iadd X dL_law_566 ?_
        refine jl_sld X hX hbl hbA hin_3 dL_law_567 ?_
        refine jl_call (As := [.int (xs (x3 + 1).toNatClampNeg), .int (xs (x3 + 2).toNatClampNeg), .int (xs (x3 + 3).toNatClampNeg)]) X 0 s_0 rfl (cm_X8_left l w G (xs (x3 + 1).toNatClampNeg) (xs (x3 + 2).toNatClampNeg) (xs (x3 + 3).toNatClampNeg) e1) rfl pn_X8_left y_773 y_774 y_775 y_59 y_776 ⟨Nat.le_of_ble_eq_true rfl, Nat.le_of_ble_eq_true rfl⟩ (Nat.le_of_ble_eq_true rfl) rfl dL_law_568 ?_
        refine jl_aload X dL_law_571 rfl 2 rfl ?_
        refine jl_aload X dL_law_572 rfl 0 rfl ?_
        refine jl_iload X dL_law_573 rfl 3 rfl ?_
        refine jl_iconst (v := 1) X dL_law_574 (by decide) ?_
        refine jl_iadd X dL_law_575 ?_
        refine jl_sld X hX hbl hbA hin_1 dL_law_576 ?_
        refine jl_aload X dL_law_577 rfl 0 rfl ?_
        refine jl_iload X dL_law_578 rfl 3 rfl ?_
        refine jl_iconst (v := 2) X dL_law_579 (by decide) ?_
        refine jl_iadd X dL_law_580 ?_
        refine jl_sld X hX hbl hbA hin_2 dL_law_581 ?_
        refine jl_aload X dL_law_582 rfl 0 rfl ?_
        refine jl_iload X dL_law_583 rfl 3 rfl ?_
        refine jl_iconst (v := 3) X dL_law_584 (by decide) ?_
        refine jl_iadd X dL_law_585 ?_
        refine jl_sld X hX hbl hbA hin_3 dL_law_586 ?_
        refine jl_call (As := [.int (xs (x3 + 1).toNatClampNeg), .int (xs (x3 + 2).toNatClampNeg), .int (xs (x3 + 3).toNatClampNeg)]) X 81 s_81 rfl (cm_X9_left l w G1 (xs (x3 + 1).toNatClampNeg) (xs (x3 + 2).toNatClampNeg) (xs (x3 + 3).toNatClampNeg) e2) rfl pn_X9_left y_1078 y_1079 y_1080 y_68 y_1081 ⟨Nat.le_of_ble_eq_true rfl, Nat.le_of_ble_eq_true rfl⟩ (Nat.le_of_ble_eq_true rfl) rfl dL_law_587 ?_
        refine jl_icmp_eq X 756 dL_law_590 (by decide) (fun _ => ?_) (fun z => absurd rfl z)
        exact next G2 hI2
      by_cases c_17 : xs x3.toNatClampNeg &&& 31 = 17
      · obtain ⟨r, G1, G2, e1, e2, hI2⟩ := hst 17 (by decide) G (xs (x3 + 1).toNatClampNeg) 0 0 hI
        refine jl_tabAt (v := 17) X 595 dL_law_32 c_17 (by decide) (by decide) rfl (by decide) ?_
        refine jl_aload X dL_law_595 rfl 1 rfl ?_
        refine jl_aload X dL_law_596 rfl 0 rfl ?_
        refine jl_iload X dL_law_597 rfl 3 rfl ?_
        refine jl_iconst (v := 1) X dL_law_598 (by decide) ?_
        refine jl_iadd X dL_law_599 ?_
        refine jl_sld X hX hbl hbA hin_1 dL_law_600 ?_
        refine jl_call (As := [.int (xs (x3 + 1).toNatClampNeg)]) X 0 s_0 rfl (cm_X8_best l w G (xs (x3 + 1).toNatClampNeg) 0 0 e1) rfl pn_X8_best y_793 y_794 y_795 y_59 y_796 ⟨Nat.le_of_ble_eq_true rfl, Nat.le_of_ble_eq_true rfl⟩ (Nat.le_of_ble_eq_true rfl) rfl dL_law_601 ?_
        refine jl_aload X dL_law_604 rfl 2 rfl ?_
        refine jl_aload X dL_law_605 rfl 0 rfl ?_
        refine jl_iload X dL_law_606 rfl 3 rfl ?_
        refine jl_iconst (v := 1) X dL_law_607 (by decide) ?_
        refine jl_iadd X dL_law_608 ?_
        refine jl_sld X hX hbl hbA hin_1 dL_law_609 ?_
        refine jl_call (As := [.int (xs (x3 + 1).toNatClampNeg)]) X 81 s_81 rfl (cm_X9_best l w G1 (xs (x3 + 1).toNatClampNeg) 0 0 e2) rfl pn_X9_best y_1086 y_1087 y_1088 y_68 y_1089 ⟨Nat.le_of_ble_eq_true rfl, Nat.le_of_ble_eq_true rfl⟩ (Nat.le_of_ble_eq_true rfl) rfl dL_law_610 ?_
        refine jl_icmp_eq X 756 dL_law_613 (by decide) (fun _ => ?_) (fun z => absurd rfl z)
        exact next G2 hI2
      by_cases c_18 : xs x3.toNatClampNeg &&& 31 = 18
      · obtain ⟨r, G1, G2, e1, e2, hI2⟩ := hst 18 (by decide) G (xs (x3 + 1).toNatClampNeg) (xs (x3 + 2).toNatClampNeg) (xs (x3 + 3).toNatClampNeg) hI
        refine jl_tabAt (v := 18) X 618 dL_law_32 c_18 (by decide) (by decide) rfl (by decide) ?_
        refine jl_aload X dL_law_618 rfl 1 rfl ?_
        refine jl_aload X dL_law_619 rfl 0 rfl ?_
        refine jl_iload X dL_law_620 rfl 3 rfl ?_
        refine jl_iconst (v := 1) X dL_law_621 (by decide) ?_
        refine jl_iadd X dL_law_622 ?_
        refine jl_sld X hX hbl hbA hin_1 dL_law_623 ?_
        refine jl_aload X dL_law_624 rfl 0 rfl ?_
        refine jl_iload X dL_law_625 rfl 3 rfl ?_
        refine jl_iconst (v := 2) X dL_law_626 (by decide) ?_
        refine jl_iadd X dL_law_627 ?_
        refine jl_sld X hX hbl hbA hin_2 dL_law_628 ?_
        refine jl_aload X dL_law_629 rfl 0 rfl ?_
        refine jl_iload X dL_law_630 rfl 3 rfl ?_
        refine jl_iconst (v := 3) X dL_law_631 (by decide) ?_
        refine jl_iadd X dL_law_632 ?_
        refine jl_sld X hX hbl hbA hin_3 dL_law_633 ?_
        refine jl_call (As := [.int (xs (x3 + 1).toNatClampNeg), .int (xs (x3 + 2).toNatClampNeg), .int (xs (x3 + 3).toNatClampNeg)]) X 0 s_0 rfl (cm_X8_sees l w G (xs (x3 + 1).toNatClampNeg) (xs (x3 + 2).toNatClampNeg) (xs (x3 + 3).toNatClampNeg) e1) rfl pn_X8_sees y_804 y_805 y_806 y_59 y_807 ⟨Nat.le_of_ble_eq_true rfl, Nat.le_of_ble_eq_true rfl⟩ (Nat.le_of_ble_eq_true rfl) rfl dL_law_634 ?_
        refine jl_aload X dL_law_637 rfl 2 rfl ?_
        refine jl_aload X dL_law_638 rfl 0 rfl ?_
        refine jl_iload X dL_law_639 rfl 3 rfl ?_
        refine jl_iconst (v := 1) X dL_law_640 (by decide) ?_
        refine jl_iadd X dL_law_641 ?_
        refine jl_sld X hX hbl hbA hin_1 dL_law_642 ?_
        refine jl_aload X dL_law_643 rfl 0 rfl ?_
        refine jl_iload X dL_law_644 rfl 3 rfl ?_
        refine jl_iconst (v := 2) X dL_law_645 (by decide) ?_
        refine jl_iadd X dL_law_646 ?_
        refine jl_sld X hX hbl hbA hin_2 dL_law_647 ?_
        refine jl_aload X dL_law_648 rfl 0 rfl ?_
        refine jl_iload X dL_law_649 rfl 3 rfl ?_
        refine jl_iconst (v := 3) X dL_law_650 (by decide) ?_
        refine jl_iadd X dL_law_651 ?_
        refine jl_sld X hX hbl hbA hin_3 dL_law_652 ?_
        refine jl_call (As := [.int (xs (x3 + 1).toNatClampNeg), .int (xs (x3 + 2).toNatClampNeg), .int (xs (x3 + 3).toNatClampNeg)]) X 81 s_81 rfl (cm_X9_sees l w G1 (xs (x3 + 1).toNatClampNeg) (xs (x3 + 2).toNatClampNeg) (xs (x3 + 3).toNatClampNeg) e2) rfl pn_X9_sees y_1122 y_1123 y_1124 y_68 y_1125 ⟨Nat.le_of_ble_eq_true rfl, Nat.le_of_ble_eq_true rfl⟩ (Nat.le_of_ble_eq_true rfl) rfl dL_law_653 ?_
        refine jl_icmp_eq X 756 dL_law_656 (by decide) (fun _ => ?_) (fun z => absurd rfl z)
        exact next G2 hI2
      by_cases c_19 : xs x3.toNatClampNeg &&& 31 = 19
      · obtain ⟨r, G1, G2, e1, e2, hI2⟩ := hst 19 (by decide) G 0 0 0 hI
        refine jl_tabAt (v := 19) X 661 dL_law_32 c_19 (by decide) (by decide) rfl (by decide) ?_
        refine jl_aload X dL_law_661 rfl 1 rfl ?_
        refine jl_call (As := []) X 0 s_0 rfl (cm_X8_forget l w G 0 0 0 e1) rfl pn_X8_forget y_816 y_817 y_818 y_59 y_819 ⟨Nat.le_of_ble_eq_true rfl, Nat.le_of_ble_eq_true rfl⟩ (Nat.le_of_ble_eq_true rfl) rfl dL_law_662 ?_
        refine jl_aload X dL_law_665 rfl 2 rfl ?_
        refine jl_call (As := []) X 81 s_81 rfl (cm_X9_forget l w G1 0 0 0 e2) rfl pn_X9_forget y_1126 y_1127 y_1128 y_68 y_1129 ⟨Nat.le_of_ble_eq_true rfl, Nat.le_of_ble_eq_true rfl⟩ (Nat.le_of_ble_eq_true rfl) rfl dL_law_666 ?_
        refine jl_icmp_eq X 756 dL_law_669 (by decide) (fun _ => ?_) (fun z => absurd rfl z)
        exact next G2 hI2
      by_cases c_20 : xs x3.toNatClampNeg &&& 31 = 20
      · obtain ⟨r, G1, G2, e1, e2, hI2⟩ := hst 20 (by decide) G 0 0 0 hI
        refine jl_tabAt (v := 20) X 674 dL_law_32 c_20 (by decide) (by decide) rfl (by decide) ?_
        refine jl_aload X dL_law_674 rfl 1 rfl ?_
        refine jl_call (As := []) X 0 s_0 rfl (cm_X8_unseen l w G 0 0 0 e1) rfl pn_X8_unseen y_820 y_821 y_822 y_59 y_823 ⟨Nat.le_of_ble_eq_true rfl, Nat.le_of_ble_eq_true rfl⟩ (Nat.le_of_ble_eq_true rfl) rfl dL_law_675 ?_
        refine jl_aload X dL_law_678 rfl 2 rfl ?_
        refine jl_call (As := []) X 81 s_81 rfl (cm_X9_unseen l w G1 0 0 0 e2) rfl pn_X9_unseen y_1130 y_1131 y_1132 y_68 y_1133 ⟨Nat.le_of_ble_eq_true rfl, Nat.le_of_ble_eq_true rfl⟩ (Nat.le_of_ble_eq_true rfl) rfl dL_law_679 ?_
        refine jl_icmp_eq X 756 dL_law_682 (by decide) (fun _ => ?_) (fun z => absurd rfl z)
        exact next G2 hI2
      by_cases c_21 : xs x3.toNatClampNeg &&& 31 = 21
      · obtain ⟨r, G1, G2, e1, e2, hI2⟩ := hst 21 (by decide) G (xs (x3 + 1).toNatClampNeg) 0 0 hI
        refine jl_tabAt (v := 21) X 687 dL_law_32 c_21 (by decide) (by decide) rfl (by decide) ?_
        refine jl_aload X dL_law_687 rfl 1 rfl ?_
        refine jl_aload X dL_law_688 rfl 0 rfl ?_
        refine jl_iload X dL_law_689 rfl 3 rfl ?_
        refine jl_iconst (v := 1) X dL_law_690 (by decide) ?_
        refine jl_iadd X dL_law_691 ?_
        refine jl_sld X hX hbl hbA hin_1 dL_law_692 ?_
        refine jl_call (As := [.int (xs (x3 + 1).toNatClampNeg)]) X 0 s_0 rfl (cm_X8_keep l w G (xs (x3 + 1).toNatClampNeg) 0 0 e1) rfl pn_X8_keep y_829 y_830 y_831 y_59 y_832 ⟨Nat.le_of_ble_eq_true rfl, Nat.le_of_ble_eq_true rfl⟩ (Nat.le_of_ble_eq_true rfl) rfl dL_law_693 ?_
        refine jl_aload X dL_law_696 rfl 2 rfl ?_
        refine jl_aload X dL_law_697 rfl 0 rfl ?_
        refine jl_iload X dL_law_698 rfl 3 rfl ?_
        refine jl_iconst (v := 1) X dL_law_699 (by decide) ?_
        refine jl_iadd X dL_law_700 ?_
        refine jl_sld X hX hbl hbA hin_1 dL_law_701 ?_
        refine jl_call (As := [.int (xs (x3 + 1).toNatClampNeg)]) X 81 s_81 rfl (cm_X9_keep l w G1 (xs (x3 + 1).toNatClampNeg) 0 0 e2) rfl pn_X9_keep y_1134 y_1135 y_1136 y_68 y_1137 ⟨Nat.le_of_ble_eq_true rfl, Nat.le_of_ble_eq_true rfl⟩ (Nat.le_of_ble_eq_true rfl) rfl dL_law_702 ?_
        refine jl_icmp_eq X 756 dL_law_705 (by decide) (fun _ => ?_) (fun z => absurd rfl z)
        exact next G2 hI2
      by_cases c_22 : xs x3.toNatClampNeg &&& 31 = 22
      · obtain ⟨r, G1, G2, e1, e2, hI2⟩ := hst 22 (by decide) G (xs (x3 + 1).toNatClampNeg) 0 0 hI
        refine jl_tabAt (v := 22) X 710 dL_law_32 c_22 (by decide) (by decide) rfl (by decide) ?_
        refine jl_aload X dL_law_710 rfl 1 rfl ?_
        refine jl_aload X dL_law_711 rfl 0 rfl ?_
        refine jl_iload X dL_law_712 rfl 3 rfl ?_
        refine jl_iconst (v := 1) X dL_law_713 (by decide) ?_
        refine jl_iadd X dL_law_714 ?_
        refine jl_sld X hX hbl hbA hin_1 dL_law_715 ?_
        refine jl_call (As := [.int (xs (x3 + 1).toNatClampNeg)]) X 0 s_0 rfl (cm_X8_back l w G (xs (x3 + 1).toNatClampNeg) 0 0 e1) rfl pn_X8_back y_838 y_839 y_840 y_59 y_841 ⟨Nat.le_of_ble_eq_true rfl, Nat.le_of_ble_eq_true rfl⟩ (Nat.le_of_ble_eq_true rfl) rfl dL_law_716 ?_
        refine jl_aload X dL_law_719 rfl 2 rfl ?_
        refine jl_aload X dL_law_720 rfl 0 rfl ?_
        refine jl_iload X dL_law_721 rfl 3 rfl ?_
        refine jl_iconst (v := 1) X dL_law_722 (by decide) ?_
        refine jl_iadd X dL_law_723 ?_
        refine jl_sld X hX hbl hbA hin_1 dL_law_724 ?_
        refine jl_call (As := [.int (xs (x3 + 1).toNatClampNeg)]) X 81 s_81 rfl (cm_X9_back l w G1 (xs (x3 + 1).toNatClampNeg) 0 0 e2) rfl pn_X9_back y_1138 y_1139 y_1140 y_68 y_1141 ⟨Nat.le_of_ble_eq_true rfl, Nat.le_of_ble_eq_true rfl⟩ (Nat.le_of_ble_eq_true rfl) rfl dL_law_725 ?_
        refine jl_icmp_eq X 756 dL_law_728 (by decide) (fun _ => ?_) (fun z => absurd rfl z)
        exact next G2 hI2
      by_cases c_23 : xs x3.toNatClampNeg &&& 31 = 23
      · obtain ⟨r, G1, G2, e1, e2, hI2⟩ := hst 23 (by decide) G (xs (x3 + 1).toNatClampNeg) 0 0 hI
        refine jl_tabAt (v := 23) X 733 dL_law_32 c_23 (by decide) (by decide) rfl (by decide) ?_
        refine jl_aload X dL_law_733 rfl 1 rfl ?_
        refine jl_aload X dL_law_734 rfl 0 rfl ?_
        refine jl_iload X dL_law_735 rfl 3 rfl ?_
        refine jl_iconst (v := 1) X dL_law_736 (by decide) ?_
        refine jl_iadd X dL_law_737 ?_
        refine jl_sld X hX hbl hbA hin_1 dL_law_738 ?_
        refine jl_call (As := [.int (xs (x3 + 1).toNatClampNeg)]) X 0 s_0 rfl (cm_X8_count l w G (xs (x3 + 1).toNatClampNeg) 0 0 e1) rfl pn_X8_count y_852 y_853 y_854 y_59 y_855 ⟨Nat.le_of_ble_eq_true rfl, Nat.le_of_ble_eq_true rfl⟩ (Nat.le_of_ble_eq_true rfl) rfl dL_law_739 ?_
        refine jl_aload X dL_law_742 rfl 2 rfl ?_
        refine jl_aload X dL_law_743 rfl 0 rfl ?_
        refine jl_iload X dL_law_744 rfl 3 rfl ?_
        refine jl_iconst (v := 1) X dL_law_745 (by decide) ?_
        refine jl_iadd X dL_law_746 ?_
        refine jl_sld X hX hbl hbA hin_1 dL_law_747 ?_
        refine jl_call (As := [.int (xs (x3 + 1).toNatClampNeg)]) X 81 s_81 rfl (cm_X9_count l w G1 (xs (x3 + 1).toNatClampNeg) 0 0 e2) rfl pn_X9_count y_1142 y_1143 y_1144 y_68 y_1145 ⟨Nat.le_of_ble_eq_true rfl, Nat.le_of_ble_eq_true rfl⟩ (Nat.le_of_ble_eq_true rfl) rfl dL_law_748 ?_
        refine jl_icmp_eq X 756 dL_law_751 (by decide) (fun _ => ?_) (fun z => absurd rfl z)
        exact next G2 hI2
      refine jl_tabOut X 756 dL_law_32 (by have z0 := lv_neT (a := 0) c_0 (by decide); have z1 := lv_neT (a := 1) c_1 (by decide); have z2 := lv_neT (a := 2) c_2 (by decide); have z3 := lv_neT (a := 3) c_3 (by decide); have z4 := lv_neT (a := 4) c_4 (by decide); have z5 := lv_neT (a := 5) c_5 (by decide); have z6 := lv_neT (a := 6) c_6 (by decide); have z7 := lv_neT (a := 7) c_7 (by decide); have z8 := lv_neT (a := 8) c_8 (by decide); have z9 := lv_neT (a := 9) c_9 (by decide); have z10 := lv_neT (a := 10) c_10 (by decide); have z11 := lv_neT (a := 11) c_11 (by decide); have z12 := lv_neT (a := 12) c_12 (by decide); have z13 := lv_neT (a := 13) c_13 (by decide); have z14 := lv_neT (a := 14) c_14 (by decide); have z15 := lv_neT (a := 15) c_15 (by decide); have z16 := lv_neT (a := 16) c_16 (by decide); have z17 := lv_neT (a := 17) c_17 (by decide); have z18 := lv_neT (a := 18) c_18 (by decide); have z19 := lv_neT (a := 19) c_19 (by decide); have z20 := lv_neT (a := 20) c_20 (by decide); have z21 := lv_neT (a := 21) c_21 (by decide); have z22 := lv_neT (a := 22) c_22 (by decide); have z23 := lv_neT (a := 23) c_23 (by decide); omega) (by decide) ?_
      exact next G hI
