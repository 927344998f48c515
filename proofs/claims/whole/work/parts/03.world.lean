/-! ===== 03 the flat world: all cells of the system and of the reference, as they stand once both are made; only ints change.
 A memory G: cell number -> place -> int (an object's int fields by their slots, an array's ints). ===== -/
abbrev Mem : Type := Nat → Nat → Int32
def upm (G : Mem) (k j : Nat) (x : Int32) : Mem := fun k' => if k' = k then upd (G k) j x else G k'
/-- a cell's shape: an object (its class's number, its fields: none an int, some k the cell k), or an array (0 ints, 1 booleans, 2 rows: its length, its first row's cell) -/
abbrev Shp : Type := (Nat × List (Option Nat)) ⊕ (Nat × Nat × Nat)
def fw_lay : List Shp := [.inl (8, [some 1, some 3, some 5, some 7, some 19, some 23, some 27, some 30, some 66]), .inl (6, [some 2]), .inr (0, 74, 0), .inl (6, [some 4]), .inr (0, 74, 0), .inl (7, [some 6, none, none, none, none, none, none, none]), .inr (0, 80, 0), .inl (2, [some 8, none, none]), .inr (2, 10, 9), .inr (0, 74, 0), .inr (0, 74, 0), .inr (0, 74, 0), .inr (0, 74, 0), .inr (0, 74, 0), .inr (0, 74, 0), .inr (0, 74, 0), .inr (0, 74, 0), .inr (0, 74, 0), .inr (0, 74, 0), .inl (0, [some 20, none]), .inr (2, 2, 21), .inr (0, 74, 0), .inr (0, 74, 0), .inl (4, [some 24, some 25, some 26, none]), .inr (0, 6, 0), .inr (0, 6, 0), .inr (0, 6, 0), .inl (1, [some 28, some 29]), .inr (0, 17, 0), .inr (0, 17, 0), .inl (3, [some 31, some 34, some 49, some 64, some 65]), .inl (1, [some 32, some 33]), .inr (0, 17, 0), .inr (0, 17, 0), .inr (2, 14, 35), .inr (0, 17, 0), .inr (0, 17, 0), .inr (0, 17, 0), .inr (0, 17, 0), .inr (0, 17, 0), .inr (0, 17, 0), .inr (0, 17, 0), .inr (0, 17, 0), .inr (0, 17, 0), .inr (0, 17, 0), .inr (0, 17, 0), .inr (0, 17, 0), .inr (0, 17, 0), .inr (0, 17, 0), .inr (2, 14, 50), .inr (0, 17, 0), .inr (0, 17, 0), .inr (0, 17, 0), .inr (0, 17, 0), .inr (0, 17, 0), .inr (0, 17, 0), .inr (0, 17, 0), .inr (0, 17, 0), .inr (0, 17, 0), .inr (0, 17, 0), .inr (0, 17, 0), .inr (0, 17, 0), .inr (0, 17, 0), .inr (0, 17, 0), .inr (0, 17, 0), .inr (0, 17, 0), .inl (5, [some 67, some 68, some 69, some 70, some 71, some 72, none, none]), .inr (0, 8, 0), .inr (0, 8, 0), .inr (0, 256, 0), .inr (0, 256, 0), .inr (0, 8, 0), .inr (2, 8, 73), .inr (0, 8, 0), .inr (0, 8, 0), .inr (0, 8, 0), .inr (0, 8, 0), .inr (0, 8, 0), .inr (0, 8, 0), .inr (0, 8, 0), .inr (0, 8, 0), .inl (9, [none, some 82, some 83, some 84, none, some 85, some 86, none, some 87, some 88, some 89, none, some 90, none, none, some 91, some 92, some 93, some 94, some 95, some 96, some 97]), .inr (0, 74, 0), .inr (0, 74, 0), .inr (0, 740, 0), .inr (0, 148, 0), .inr (1, 2, 0), .inr (0, 6, 0), .inr (0, 6, 0), .inr (0, 6, 0), .inr (0, 80, 0), .inr (0, 17, 0), .inr (0, 17, 0), .inr (0, 17, 0), .inr (0, 17, 0), .inr (0, 256, 0), .inr (0, 8, 0), .inr (0, 8, 0)]
/-- the world's names: addresses by cell number; classes' numbers and slots; the array classes of int[], boolean[], int[][]; the two static tables' addresses; String constants' and their bytes' -/
abbrev WP : Type := (Nat → Nat) × va_G × (ClassId × ClassId × ClassId) × (Nat × Nat) × (Nat → Nat) × (Nat → Nat)
def fw_fl (ad : Nat → Nat) (fs : List (Option Nat)) (r : Nat → Int32) : List Value := fs.mapIdx (fun j o => match o with | none => Value.int (r j) | some k => Value.ref (ad k))
def fw_cell (w : WP) (sh : Shp) (r : Nat → Int32) : va_E := match sh with
  | .inl (ci, fs) => .inr (ci, fw_fl w.1 fs r)
  | .inr (0, n, _) => .inl (w.2.2.1.1, n, .inl r)
  | .inr (1, n, _) => .inl (w.2.2.1.2.1, n, .inl r)
  | .inr (_, n, b) => .inl (w.2.2.1.2.2, n, .inr (.inr (.inr (.inr (fun i => if i < n then some (w.1 (b + i)) else none)))))
def fw_cells (w : WP) (G : Mem) : va_W := fw_lay.mapIdx (fun k sh => (w.1 k, fw_cell w sh (G k)))
def fw_A (w : WP) : Nat → Prop := fun q => ∃ k, k < fw_lay.length ∧ q = w.1 k
def fw_tys (w : WP) : List (ClassId × FieldType) := [(w.2.2.1.1, .int), (w.2.2.1.2.1, .boolean), (w.2.2.1.2.2, .array .int)]
def fw_K (w : WP) (U : State) : Prop := va_K w.2.1 vwCl (fw_tys w) U
def fw_inj (w : WP) : Prop := ∀ i j, i < fw_lay.length → j < fw_lay.length → w.1 i = w.1 j → i = j
def ev_tab (j : Nat) : Int32 := ([1, 0, 2, 1, 0, 2, 1, 0] : List Int32).getD j 0
def lk_tab (j : Nat) : Int32 := ([0, 0, 0, 1, 1, 1, 2, 2] : List Int32).getD j 0
def st_len : List Nat := [8, 4, 2]
def st_byt : List (List Int32) := [[100, 104, 119, 112, 118, 103, 102, 117], [43, 61, 45, 47], [60, 61]]
/-- links to a nest mate's private members -/
def fw_nm : List (String × Nat × MethodName × String) := [(RX7, 96, yX8_eventOf, RX8), (RX1, 26, yX8_has, RX8), (RX6, 66, yX8_eventOf, RX8), (RX6, 72, yX8_lookOf, RX8), (RX3, 76, yX8_has, RX8), (RX5, 72, yX8_eventOf, RX8), (RX5, 79, yX8_has, RX8), (RX0, 22, yX8_has, RX8)]
def fw_nf : List (String × Nat × String × String × String × String) := [(RX6, 69, RX8, "EVENT_TO_LOOK", "[I", RX8), (RX6, 75, RX8, "LOOK_TO_NOW", "[I", RX8)]
/-- what was there before and nobody writes: static tables, String constants, links to private members of a nest mate -/
def fw_St (w : WP) (U : State) (H : Heap) : Prop :=
  (va_Z RX8 "EVENT_TO_LOOK" "[I" (.ref w.2.2.2.1.1) (fw_A w) U H ∧ va_T .int w.2.2.2.1.1 8 (fun j => .int (ev_tab j)) (fw_A w) U H) ∧
  (va_Z RX8 "LOOK_TO_NOW" "[I" (.ref w.2.2.2.1.2) (fw_A w) U H ∧ va_T .int w.2.2.2.1.2 8 (fun j => .int (lk_tab j)) (fw_A w) U H) ∧
  va_Z "java/lang/String" "COMPACT_STRINGS" "Z" (.int 1) (fw_A w) U H ∧
  vk_S 3 st_len st_byt w.2.2.2.2.1 w.2.2.2.2.2 (fw_A w) U H ∧
  (vk_R RX7 75 "dhwpvgfu" (w.2.2.2.2.1 0) U ∧ vk_R RX7 57 "+=-/" (w.2.2.2.2.1 1) U ∧ vk_R RX7 80 "<=" (w.2.2.2.2.1 2) U) ∧
  (∀ q ∈ fw_nm, va_Nw (.methodLinkNest q.1 q.2.1 q.2.2.1 q.2.2.2) U) ∧
  (∀ q ∈ fw_nf, va_Nw (.fieldLinkNest q.1 q.2.1 q.2.2.1 q.2.2.2.1 q.2.2.2.2.1 q.2.2.2.2.2) U)
/-- the world with memory G -/
def fw_W (w : WP) (G : Mem) (U : State) : Prop := va_P w.2.1 vwCl (fw_cells w G) U.heap ∧ fw_K w U ∧ fw_inj w ∧ fw_St w U U.heap
def fw_B (w : WP) (G : Mem) (t : State) : Prop := va_P w.2.1 vwCl (fw_cells w G) t.heap
theorem fw_getC (w : WP) (G : Mem) {k : Nat} {sh : Shp} (h : fw_lay[k]? = some sh) : (fw_cells w G)[k]? = some (w.1 k, fw_cell w sh (G k)) := by
  unfold fw_cells
  rw [List.getElem?_mapIdx, h]
  rfl
theorem fw_ltC {k : Nat} {sh : Shp} (h : fw_lay[k]? = some sh) : k < fw_lay.length := (List.getElem?_eq_some_iff.mp h).1
theorem fw_setC (w : WP) (G : Mem) {k : Nat} {sh : Shp} (h : fw_lay[k]? = some sh) (r : Nat → Int32) : (fw_cells w G).set k (w.1 k, fw_cell w sh r) = fw_cells w (fun k' => if k' = k then r else G k') := by
  apply List.ext_getElem?
  intro i
  have hlt := fw_ltC h
  rw [List.getElem?_set]
  unfold fw_cells
  rw [List.getElem?_mapIdx, List.getElem?_mapIdx, List.length_mapIdx]
  by_cases hi : k = i
  · subst hi
    rw [if_pos rfl, if_pos hlt, h]
    simp
  · rw [if_neg hi]
    cases fw_lay[i]? with
    | none => rfl
    | some x =>
      have hne : ¬ i = k := fun e => hi e.symm
      simp [hne]
theorem fw_D (w : WP) (G : Mem) (hi : fw_inj w) : va_D (fw_A w) (fw_cells w G) := by
  refine ⟨fun i j p q hp hq e => ?_, fun k q hk => ?_⟩
  · unfold fw_cells at hp hq
    rw [List.getElem?_mapIdx] at hp hq
    obtain ⟨a, ha, rfl⟩ := Option.map_eq_some_iff.mp hp
    obtain ⟨b, hb, rfl⟩ := Option.map_eq_some_iff.mp hq
    exact hi i j (fw_ltC ha) (fw_ltC hb) e
  · unfold fw_cells at hk
    rw [List.getElem?_mapIdx] at hk
    obtain ⟨a, ha, rfl⟩ := Option.map_eq_some_iff.mp hk
    exact ⟨k, fw_ltC ha, rfl⟩
theorem fw_flI {ad : Nat → Nat} {fs : List (Option Nat)} {r : Nat → Int32} {j : Nat} (h : fs[j]? = some none) : (fw_fl ad fs r)[j]? = some (.int (r j)) := by
  unfold fw_fl
  rw [List.getElem?_mapIdx, h]
  rfl
theorem fw_flR {ad : Nat → Nat} {fs : List (Option Nat)} {r : Nat → Int32} {j k : Nat} (h : fs[j]? = some (some k)) : (fw_fl ad fs r)[j]? = some (.ref (ad k)) := by
  unfold fw_fl
  rw [List.getElem?_mapIdx, h]
  rfl
theorem fw_flS {ad : Nat → Nat} {fs : List (Option Nat)} {r : Nat → Int32} {j : Nat} (h : fs[j]? = some none) (v : Int32) : (fw_fl ad fs r).set j (.int v) = fw_fl ad fs (upd r j v) := by
  apply List.ext_getElem?
  intro i
  have hlt := (List.getElem?_eq_some_iff.mp h).1
  rw [List.getElem?_set]
  unfold fw_fl
  rw [List.getElem?_mapIdx, List.getElem?_mapIdx, List.length_mapIdx]
  by_cases hi : j = i
  · subst hi
    rw [if_pos rfl, if_pos hlt, h]
    simp [upd]
  · rw [if_neg hi]
    cases fs[i]? with
    | none => rfl
    | some x =>
      have hne : ¬ i = j := fun e => hi e.symm
      cases x <;> simp [upd, hne]
theorem fw_flL {ad : Nat → Nat} {fs : List (Option Nat)} {r : Nat → Int32} {j : Nat} {x : Option Nat} (h : fs[j]? = some x) : j < (fw_fl ad fs r).length := by
  unfold fw_fl
  rw [List.length_mapIdx]
  exact (List.getElem?_eq_some_iff.mp h).1
/-- the words that a callee may be given -/
def lw_tg : List Cond := lw_tbl.filter goodWord
theorem tg (i : Nat) {w : Cond} (h : lw_tbl[i]? = some w) (hg : goodWord w = true) : w ∈ lw_tg := List.mem_filter.mpr ⟨List.mem_of_getElem? h, hg⟩
theorem tg_good {y : MethodName} {b : ByteArray} {n : Nat} {r : Option FieldType} (h : Cond.code y b n r ∈ lw_tg) : GoodIn lw_tg (Cond.code y b n r :: lw_tg) := fun w hw => by
  have hm : w ∈ lw_tg := by
    rcases List.mem_cons.mp hw with e | e
    · rw [e]; exact h
    · exact e
  exact ⟨hm, good_of_word (List.mem_filter.mp hm).2⟩
theorem fw_K.moved {w : WP} {u U : State} (hvm : u.vm.Alike U.vm) (h : fw_K w u) : fw_K w U := va_K.moved hvm h
theorem fw_St.warm {w : WP} {s U : State} {H H1 : Heap} (hW : s.WarmedH U.vm) (hq : ∀ a : Nat, a < H.size → ¬ fw_A w a → H1[a]? = H[a]?) (h : fw_St w s H) : fw_St w U H1 := by
  obtain ⟨⟨a1, a2⟩, ⟨b1, b2⟩, c1, d1, ⟨e1, e2, e3⟩, f1, g1⟩ := h
  have hv := hW.alike
  exact ⟨⟨(va_Z.moved hv a1).kept hq, (va_T.moved hv a2).kept hq⟩, ⟨(va_Z.moved hv b1).kept hq, (va_T.moved hv b2).kept hq⟩, (va_Z.moved hv c1).kept hq, (vk_S.moved hv d1).kept hq, ⟨e1.warm hW, e2.warm hW, e3.warm hW⟩, fun q hm => va_Nw.warmM hW (f1 q hm), fun q hm => va_Nw.warmF hW (g1 q hm)⟩
theorem fw_St.calling {w : WP} {U : State} {H : Heap} (g : JFrame) (mk : MethodId) (a : Array Value) (h : fw_St w U H) : fw_St w (U.calling g mk a) H := by
  obtain ⟨⟨a1, a2⟩, ⟨b1, b2⟩, c1, d1, ⟨e1, e2, e3⟩, f1, g1⟩ := h
  have hv : U.vm.Alike (U.calling g mk a).vm := Vm.Alike.refl U.vm
  exact ⟨⟨va_Z.moved hv a1, va_T.moved hv a2⟩, ⟨va_Z.moved hv b1, va_T.moved hv b2⟩, va_Z.moved hv c1, vk_S.moved hv d1, ⟨vk_R.same rfl e1, vk_R.same rfl e2, vk_R.same rfl e3⟩, fun q hm => va_Nw.same rfl rfl (f1 q hm), fun q hm => va_Nw.same rfl rfl (g1 q hm)⟩
theorem fw_W.blind (w : WP) (G : Mem) (av : List Value) : FrameBlind (va_Pc av (fw_W w G)) := fun a U g mk q => by
  obtain ⟨q0, qP, qK, qD, qS⟩ := q
  exact ⟨q0, qP, fw_K.moved (u := U) (U := U.calling g mk a) (Vm.Alike.refl U.vm) qK, qD, qS.calling g mk a⟩
/-- contracts: y, called with av in the world G, answers r (nothing) and leaves the world G' -/
def CMi (l : Launch) (y : MethodName) (b : ByteArray) (n : Nat) (ret : Option FieldType) (fr lo : Nat) (w : WP) (av : List Value) (G : Mem) (res : Int32 × Mem) : Prop :=
  Met l y (Cond.code y b n ret :: lw_tg) { frames := fr, cells := 0, slots := 0, locals := lo } (va_Pc av (fw_W w G)) (va_Qi (fun r1 G1 => (r1, G1) = res) (fw_B w) (fw_A w)) 0 0 (fw_A w)
def CMv (l : Launch) (y : MethodName) (b : ByteArray) (n : Nat) (ret : Option FieldType) (fr lo : Nat) (w : WP) (av : List Value) (G : Mem) (res : Mem) : Prop :=
  Met l y (Cond.code y b n ret :: lw_tg) { frames := fr, cells := 0, slots := 0, locals := lo } (va_Pc av (fw_W w G)) (va_Qv (fun G1 => G1 = res) (fw_B w) (fw_A w)) 0 0 (fw_A w)
/-- where a method's walk ends -/
def Qint (below : List Frame) (args : Array Value) (s : State) (w : WP) (res : Int32 × Mem) : State → Prop := MQ below (va_Qi (fun r1 G1 => (r1, G1) = res) (fw_B w) (fw_A w)) args s 0 0 (fw_A w)
def Qvoid (below : List Frame) (args : Array Value) (s : State) (w : WP) (res : Mem) : State → Prop := MQ below (va_Qv (fun G1 => G1 = res) (fw_B w) (fw_A w)) args s 0 0 (fw_A w)
/-- what a walk stands on -/
def fw_X (p : Program) (s : State) (m : MethodId) (args : Array Value) (c : Code) (cc : ByteArray) (nL : Nat) (own : String) (w : WP) : Prop :=
  CallFix p m c cc nL s args lw_tg own ∧ fw_K w s ∧ fw_inj w ∧ fw_St w s s.heap
/-- THE JUDGEMENT: from any heap that holds G, at pc with the locals lv and the stack st, the machine comes to Q -/
def J (p : Program) (l : Launch) (e : Env) (R : Room) (s : State) (m : MethodId) (args : Array Value) (below : List Frame) (meth : Method) (c : Code) (Q : State → Prop) (w : WP) (nL : Nat) (G : Mem) (pc : Nat) (lv : List (Nat × Value)) (st : List Value) : Prop :=
  ∀ (H : Heap) (locs : List Loc) (ls : Array Slot), va_P w.2.1 vwCl (fw_cells w G) H → va_S (fw_A w) s.heap H locs → lv_has ls nL lv → W p l e R s m args below meth c H locs 0 0 Q (F0 m pc ls st)
/-- array reads and writes; none: outside -/
def ald (n : Nat) (G : Mem) (k : Nat) (i : Int32) : Option Int32 := if i < 0 ∨ n ≤ i.toNatClampNeg then none else some (G k i.toNatClampNeg)
def ast (n : Nat) (G : Mem) (k : Nat) (i x : Int32) : Option Mem := if i < 0 ∨ n ≤ i.toNatClampNeg then none else some (upm G k i.toNatClampNeg x)
def aal (n b : Nat) (i : Int32) : Option Nat := if i < 0 ∨ n ≤ i.toNatClampNeg then none else some (b + i.toNatClampNeg)
def tld (f : Nat → Int32) (i : Int32) : Option Int32 := if i < 0 ∨ 8 ≤ i.toNatClampNeg then none else some (f i.toNatClampNeg)
theorem ald_s {n : Nat} {G : Mem} {k : Nat} {i v : Int32} (h : ald n G k i = some v) : vp_in i n ∧ v = G k i.toNatClampNeg := by
  unfold ald at h
  split at h
  · cases h
  · exact ⟨‹_›, (Option.some.inj h).symm⟩
theorem ast_s {n : Nat} {G G' : Mem} {k : Nat} {i x : Int32} (h : ast n G k i x = some G') : vp_in i n ∧ G' = upm G k i.toNatClampNeg x := by
  unfold ast at h
  split at h
  · cases h
  · exact ⟨‹_›, (Option.some.inj h).symm⟩
theorem aal_s {n b : Nat} {i : Int32} {c : Nat} (h : aal n b i = some c) : vp_in i n ∧ c = b + i.toNatClampNeg := by
  unfold aal at h
  split at h
  · cases h
  · exact ⟨‹_›, (Option.some.inj h).symm⟩
theorem tld_s {f : Nat → Int32} {i v : Int32} (h : tld f i = some v) : vp_in i 8 ∧ v = f i.toNatClampNeg := by
  unfold tld at h
  split at h
  · cases h
  · exact ⟨‹_›, (Option.some.inj h).symm⟩
theorem bd_s {α β γ : Type} {a : Option α} {f : α → Option β} {K : β → Option γ} {r : γ} (h : (a.bind f).bind K = some r) : ∃ v, a = some v ∧ (f v).bind K = some r := by
  cases a with
  | none => cases h
  | some v => exact ⟨v, rfl, h⟩
theorem bi_t {β γ : Type} {c : Prop} {d : Decidable c} {A B : Option β} {K : β → Option γ} {r : γ} (hc : c) (h : (@ite _ c d A B).bind K = some r) : A.bind K = some r := by
  rw [if_pos hc] at h
  exact h
theorem bi_f {β γ : Type} {c : Prop} {d : Decidable c} {A B : Option β} {K : β → Option γ} {r : γ} (hc : ¬ c) (h : (@ite _ c d A B).bind K = some r) : B.bind K = some r := by
  rw [if_neg hc] at h
  exact h
theorem bb_a {α β γ : Type} {a : Option α} {f : α → Option β} {K : β → Option γ} {r : γ} (h : (a.bind f).bind K = some r) : a.bind (fun v => (f v).bind K) = some r := by
  cases a with
  | none => cases h
  | some v => exact h
/-- an answer of type boolean is cut to its last bit -/
theorem W.zretN {p : Program} {l : Launch} {e : Env} {R : Room} {s : State} {m : MethodId} {args : Array Value} {below : List Frame} {meth : Method} {c : Code} {H : Heap} {locs : List Loc} {cells slots : Nat} {cc : ByteArray} {Qc : Array Value → State → Outcome → State → Prop} {free : Addr → Prop} {v v' : Int32} {ty : FieldType} (hexec : p.tables.exec = Jvm.exec) (hb : c.code = cc) (hr : meth.sig.returnType = some ty) (hn : narrow ty (.int v) = .int v')
    (hq : ∀ t : State, t.heap = H → s.WarmedH t.vm → Qc args s (.returned (some (.int v'))) t) (hf : ∀ q ∈ locs, free q.base)
    {pc : Nat} {ls : Array Slot} (hdg : decode cc pc = .ok (.ireturn, 1)) (hlocks : meth.locks = false) : W p l e R s m args below meth c H locs cells slots (MQ below Qc args s cells slots free) (F0 m pc ls [.int v]) := by
  intro T hT X
  have hlocks : meth.locks = false := hlocks
  obtain ⟨fs, hret, hrun, hended, hW, hframe⟩ := X.leave (v := some (.int v')) (fun h => by rw [hr] at h; cases h)
  have hmeth' : T.vm.method? m = some meth := X.method'
  refine ⟨T.setFrames fs, ?_, .returned (some (.int v')), hrun, hended, hq _ hT hW, locs, ⟨⟨_, rfl⟩, hW, hframe⟩, hf⟩
  jvm_step X.here [X.here.top, hexec, hb, hdg, hmeth', hr, hn]
  (try refine ⟨rfl, ?_⟩); (try refine ⟨rfl, ?_⟩)
  first | (intro acts; rw [hret _ acts rfl rfl rfl]) | rw [hret _ _ rfl rfl rfl]
  exact Steps.refl _
section JR
variable {p : Program} {l : Launch} {e : Env} {R : Room} {s : State} {m : MethodId} {args : Array Value} {below : List Frame} {meth : Method} {c : Code} {Q : State → Prop} {w : WP} {nL : Nat} {cc : ByteArray} {own : String} {G : Mem} {pc : Nat} {lv lv' : List (Nat × Value)} {st : List Value}
theorem j_iconst (X : fw_X p s m args c cc nL own w) {n : Int} {v : Int32} (hd : decode cc pc = .ok (.iconst n, 1)) (hv : Int32.ofInt n = v) (k : J p l e R s m args below meth c Q w nL G (pc + 1) lv (.int v :: st)) : J p l e R s m args below meth c Q w nL G pc lv st :=
  fun H locs ls hP hS hl => lv_iconst X.1.1 X.1.2.1 hd hv (k H locs ls hP hS hl)
theorem j_bipush (X : fw_X p s m args c cc nL own w) {n : Int} {v : Int32} (hd : decode cc pc = .ok (.bipush n, 2)) (hv : (Int8.ofInt n).toInt32 = v) (k : J p l e R s m args below meth c Q w nL G (pc + 2) lv (.int v :: st)) : J p l e R s m args below meth c Q w nL G pc lv st :=
  fun H locs ls hP hS hl => lv_bipush X.1.1 X.1.2.1 hd hv (k H locs ls hP hS hl)
theorem j_sipush (X : fw_X p s m args c cc nL own w) {n : Int} {v : Int32} (hd : decode cc pc = .ok (.sipush n, 3)) (hv : (Int16.ofInt n).toInt32 = v) (k : J p l e R s m args below meth c Q w nL G (pc + 3) lv (.int v :: st)) : J p l e R s m args below meth c Q w nL G pc lv st :=
  fun H locs ls hP hS hl => lv_sipush X.1.1 X.1.2.1 hd hv (k H locs ls hP hS hl)
theorem j_ldc (X : fw_X p s m args c cc nL own w) {index : Nat} {v : Int32} (hd : decode cc pc = .ok (.ldc index, 2)) (hw : Cond.constant own index v ∈ lw_tg) (k : J p l e R s m args below meth c Q w nL G (pc + 2) lv (.int v :: st)) : J p l e R s m args below meth c Q w nL G pc lv st :=
  fun H locs ls hP hS hl => lv_ldc X.1.1 X.1.2.1 X.1.2.2.2.1 (X.1.2.2.2.2 _ hw) hd (k H locs ls hP hS hl)
theorem j_iload_n (X : fw_X p s m args c cc nL own w) {j : Fin 4} {i : Nat} {x : Int32} (hd : decode cc pc = .ok (.iload_n j, 1)) (hi : (j : Nat) = i) (q : Nat) (hq : lv[q]? = some (i, .int x)) (k : J p l e R s m args below meth c Q w nL G (pc + 1) lv (.int x :: st)) : J p l e R s m args below meth c Q w nL G pc lv st :=
  fun H locs ls hP hS hl => lv_iload_n X.1.1 X.1.2.1 hd hi (lv_at hl q hq) (k H locs ls hP hS hl)
theorem j_iload (X : fw_X p s m args c cc nL own w) {i : Nat} {x : Int32} (hd : decode cc pc = .ok (.iload i, 2)) (q : Nat) (hq : lv[q]? = some (i, .int x)) (k : J p l e R s m args below meth c Q w nL G (pc + 2) lv (.int x :: st)) : J p l e R s m args below meth c Q w nL G pc lv st :=
  fun H locs ls hP hS hl => lv_iload X.1.1 X.1.2.1 hd (lv_at hl q hq) (k H locs ls hP hS hl)
theorem j_aload_n (X : fw_X p s m args c cc nL own w) {j : Fin 4} {i : Nat} {x : Nat} (hd : decode cc pc = .ok (.aload_n j, 1)) (hi : (j : Nat) = i) (q : Nat) (hq : lv[q]? = some (i, .ref x)) (k : J p l e R s m args below meth c Q w nL G (pc + 1) lv (.ref x :: st)) : J p l e R s m args below meth c Q w nL G pc lv st :=
  fun H locs ls hP hS hl => lv_aload_n X.1.1 X.1.2.1 hd hi (lv_at hl q hq) (k H locs ls hP hS hl)
theorem j_aload (X : fw_X p s m args c cc nL own w) {i : Nat} {x : Nat} (hd : decode cc pc = .ok (.aload i, 2)) (q : Nat) (hq : lv[q]? = some (i, .ref x)) (k : J p l e R s m args below meth c Q w nL G (pc + 2) lv (.ref x :: st)) : J p l e R s m args below meth c Q w nL G pc lv st :=
  fun H locs ls hP hS hl => lv_aload X.1.1 X.1.2.1 hd (lv_at hl q hq) (k H locs ls hP hS hl)
theorem j_istore_n (X : fw_X p s m args c cc nL own w) {j : Fin 4} {i : Nat} {x : Int32} (lv' : List (Nat × Value)) (hd : decode cc pc = .ok (.istore_n j, 1)) (hi : (j : Nat) = i) (hn : i < nL) (hl : (i, Value.int x) :: lv.filter (fun q => !(q.1 == i) && !(q.1 + 1 == i && q.2.category == 2)) = lv') (k : J p l e R s m args below meth c Q w nL G (pc + 1) lv' st) : J p l e R s m args below meth c Q w nL G pc lv (.int x :: st) :=
  fun H locs ls hP hS hv => lv_istore_n X.1.1 X.1.2.1 hd hi hv hn hl (fun ls' hv' => k H locs ls' hP hS hv')
theorem j_istore (X : fw_X p s m args c cc nL own w) {i : Nat} {x : Int32} (lv' : List (Nat × Value)) (hd : decode cc pc = .ok (.istore i, 2)) (hn : i < nL) (hl : (i, Value.int x) :: lv.filter (fun q => !(q.1 == i) && !(q.1 + 1 == i && q.2.category == 2)) = lv') (k : J p l e R s m args below meth c Q w nL G (pc + 2) lv' st) : J p l e R s m args below meth c Q w nL G pc lv (.int x :: st) :=
  fun H locs ls hP hS hv => lv_istore X.1.1 X.1.2.1 hd hv hn hl (fun ls' hv' => k H locs ls' hP hS hv')
theorem j_astore_n (X : fw_X p s m args c cc nL own w) {j : Fin 4} {i : Nat} {x : Nat} (lv' : List (Nat × Value)) (hd : decode cc pc = .ok (.astore_n j, 1)) (hi : (j : Nat) = i) (hn : i < nL) (hl : (i, Value.ref x) :: lv.filter (fun q => !(q.1 == i) && !(q.1 + 1 == i && q.2.category == 2)) = lv') (k : J p l e R s m args below meth c Q w nL G (pc + 1) lv' st) : J p l e R s m args below meth c Q w nL G pc lv (.ref x :: st) :=
  fun H locs ls hP hS hv => lv_astore_n X.1.1 X.1.2.1 hd hi hv hn hl (fun ls' hv' => k H locs ls' hP hS hv')
theorem j_astore (X : fw_X p s m args c cc nL own w) {i : Nat} {x : Nat} (lv' : List (Nat × Value)) (hd : decode cc pc = .ok (.astore i, 2)) (hn : i < nL) (hl : (i, Value.ref x) :: lv.filter (fun q => !(q.1 == i) && !(q.1 + 1 == i && q.2.category == 2)) = lv') (k : J p l e R s m args below meth c Q w nL G (pc + 2) lv' st) : J p l e R s m args below meth c Q w nL G pc lv (.ref x :: st) :=
  fun H locs ls hP hS hv => lv_astore X.1.1 X.1.2.1 hd hv hn hl (fun ls' hv' => k H locs ls' hP hS hv')
theorem j_iinc (X : fw_X p s m args c cc nL own w) {i : Nat} {n : Int} {x v : Int32} (lv' : List (Nat × Value)) (hd : decode cc pc = .ok (.iinc i n, 3)) (q : Nat) (hq : lv[q]? = some (i, .int x)) (hv : x + Int32.ofInt n = v) (hn : i < nL) (hl : (i, Value.int v) :: lv.filter (fun q => !(q.1 == i) && !(q.1 + 1 == i && q.2.category == 2)) = lv') (k : J p l e R s m args below meth c Q w nL G (pc + 3) lv' st) : J p l e R s m args below meth c Q w nL G pc lv st :=
  fun H locs ls hP hS hh => lv_iinc X.1.1 X.1.2.1 hd hh hq hv hn hl (fun ls' hv' => k H locs ls' hP hS hv')
theorem j_pick (ks : List Nat) (hl : lv_pick lv ks = lv') (k : J p l e R s m args below meth c Q w nL G pc lv' st) : J p l e R s m args below meth c Q w nL G pc lv st :=
  fun H locs ls hP hS hh => k H locs ls hP hS (lv_sub hh ks hl)
theorem j_iadd (X : fw_X p s m args c cc nL own w) {x y : Int32} (hd : decode cc pc = .ok (.iadd, 1)) (k : J p l e R s m args below meth c Q w nL G (pc + 1) lv (.int (x + y) :: st)) : J p l e R s m args below meth c Q w nL G pc lv (.int y :: .int x :: st) :=
  fun H locs ls hP hS hl => lv_iadd X.1.1 X.1.2.1 hd (k H locs ls hP hS hl)
theorem j_isub (X : fw_X p s m args c cc nL own w) {x y : Int32} (hd : decode cc pc = .ok (.isub, 1)) (k : J p l e R s m args below meth c Q w nL G (pc + 1) lv (.int (x - y) :: st)) : J p l e R s m args below meth c Q w nL G pc lv (.int y :: .int x :: st) :=
  fun H locs ls hP hS hl => lv_isub X.1.1 X.1.2.1 hd (k H locs ls hP hS hl)
theorem j_imul (X : fw_X p s m args c cc nL own w) {x y : Int32} (hd : decode cc pc = .ok (.imul, 1)) (k : J p l e R s m args below meth c Q w nL G (pc + 1) lv (.int (x * y) :: st)) : J p l e R s m args below meth c Q w nL G pc lv (.int y :: .int x :: st) :=
  fun H locs ls hP hS hl => lv_imul X.1.1 X.1.2.1 hd (k H locs ls hP hS hl)
theorem j_iand (X : fw_X p s m args c cc nL own w) {x y : Int32} (hd : decode cc pc = .ok (.iand, 1)) (k : J p l e R s m args below meth c Q w nL G (pc + 1) lv (.int (x &&& y) :: st)) : J p l e R s m args below meth c Q w nL G pc lv (.int y :: .int x :: st) :=
  fun H locs ls hP hS hl => lv_iand X.1.1 X.1.2.1 hd (k H locs ls hP hS hl)
theorem j_ior (X : fw_X p s m args c cc nL own w) {x y : Int32} (hd : decode cc pc = .ok (.ior, 1)) (k : J p l e R s m args below meth c Q w nL G (pc + 1) lv (.int (x ||| y) :: st)) : J p l e R s m args below meth c Q w nL G pc lv (.int y :: .int x :: st) :=
  fun H locs ls hP hS hl => lv_ior X.1.1 X.1.2.1 hd (k H locs ls hP hS hl)
theorem j_ixor (X : fw_X p s m args c cc nL own w) {x y : Int32} (hd : decode cc pc = .ok (.ixor, 1)) (k : J p l e R s m args below meth c Q w nL G (pc + 1) lv (.int (x ^^^ y) :: st)) : J p l e R s m args below meth c Q w nL G pc lv (.int y :: .int x :: st) :=
  fun H locs ls hP hS hl => lv_ixor X.1.1 X.1.2.1 hd (k H locs ls hP hS hl)
theorem j_ishl (X : fw_X p s m args c cc nL own w) {x y : Int32} (hd : decode cc pc = .ok (.ishl, 1)) (k : J p l e R s m args below meth c Q w nL G (pc + 1) lv (.int (x <<< (y &&& 31)) :: st)) : J p l e R s m args below meth c Q w nL G pc lv (.int y :: .int x :: st) :=
  fun H locs ls hP hS hl => lv_ishl X.1.1 X.1.2.1 hd (k H locs ls hP hS hl)
theorem j_ishr (X : fw_X p s m args c cc nL own w) {x y : Int32} (hd : decode cc pc = .ok (.ishr, 1)) (k : J p l e R s m args below meth c Q w nL G (pc + 1) lv (.int (x >>> (y &&& 31)) :: st)) : J p l e R s m args below meth c Q w nL G pc lv (.int y :: .int x :: st) :=
  fun H locs ls hP hS hl => lv_ishr X.1.1 X.1.2.1 hd (k H locs ls hP hS hl)
theorem j_irem (X : fw_X p s m args c cc nL own w) {x y : Int32} (hd : decode cc pc = .ok (.irem, 1)) (hy : ¬ y = 0) (k : J p l e R s m args below meth c Q w nL G (pc + 1) lv (.int (x - x / y * y) :: st)) : J p l e R s m args below meth c Q w nL G pc lv (.int y :: .int x :: st) :=
  fun H locs ls hP hS hl => lv_irem X.1.1 X.1.2.1 hd hy (k H locs ls hP hS hl)
theorem j_ineg (X : fw_X p s m args c cc nL own w) {x : Int32} (hd : decode cc pc = .ok (.ineg, 1)) (k : J p l e R s m args below meth c Q w nL G (pc + 1) lv (.int (-x) :: st)) : J p l e R s m args below meth c Q w nL G pc lv (.int x :: st) :=
  fun H locs ls hP hS hl => lv_ineg X.1.1 X.1.2.1 hd (k H locs ls hP hS hl)
theorem j_i2c (X : fw_X p s m args c cc nL own w) {x v : Int32} (hd : decode cc pc = .ok (.i2c, 1)) (hv : (x.toUInt32 % 65536).toInt32 = v) (k : J p l e R s m args below meth c Q w nL G (pc + 1) lv (.int v :: st)) : J p l e R s m args below meth c Q w nL G pc lv (.int x :: st) :=
  fun H locs ls hP hS hl => lv_i2c X.1.1 X.1.2.1 hd hv (k H locs ls hP hS hl)
theorem j_iushr (X : fw_X p s m args c cc nL own w) {x y v : Int32} (hd : decode cc pc = .ok (.iushr, 1)) (hv : (x.toUInt32 >>> (y.toUInt32 &&& Int32.toUInt32 31)).toInt32 = v) (k : J p l e R s m args below meth c Q w nL G (pc + 1) lv (.int v :: st)) : J p l e R s m args below meth c Q w nL G pc lv (.int y :: .int x :: st) :=
  fun H locs ls hP hS hl => lv_iushr X.1.1 X.1.2.1 hd hv (k H locs ls hP hS hl)
theorem j_ldcS (X : fw_X p s m args c cc nL own w) {index q : Nat} {tx : String} (hd : decode cc pc = .ok (.ldc index, 2)) (hz : vk_R own index tx q s) (k : J p l e R s m args below meth c Q w nL G (pc + 2) lv (.ref q :: st)) : J p l e R s m args below meth c Q w nL G pc lv st :=
  fun H locs ls hP hS hl => va_ldcS X.1.1 X.1.2.1 X.1.2.2.2.1 hz hd (k H locs ls hP hS hl)
theorem j_dup (X : fw_X p s m args c cc nL own w) {v : Value} (hd : decode cc pc = .ok (.dup, 1)) (hv : v.category = 1) (k : J p l e R s m args below meth c Q w nL G (pc + 1) lv (v :: v :: st)) : J p l e R s m args below meth c Q w nL G pc lv (v :: st) :=
  fun H locs ls hP hS hl => lv_dup X.1.1 X.1.2.1 hd hv (k H locs ls hP hS hl)
theorem j_dup2 (X : fw_X p s m args c cc nL own w) {v u : Value} (hd : decode cc pc = .ok (.dup2, 1)) (hv : v.category = 1) (hu : u.category = 1) (k : J p l e R s m args below meth c Q w nL G (pc + 1) lv (v :: u :: v :: u :: st)) : J p l e R s m args below meth c Q w nL G pc lv (v :: u :: st) :=
  fun H locs ls hP hS hl => lv_dup2_11 X.1.1 X.1.2.1 hd hv hu (k H locs ls hP hS hl)
theorem j_pop (X : fw_X p s m args c cc nL own w) {v : Value} (hd : decode cc pc = .ok (.pop, 1)) (hv : v.category = 1) (k : J p l e R s m args below meth c Q w nL G (pc + 1) lv st) : J p l e R s m args below meth c Q w nL G pc lv (v :: st) :=
  fun H locs ls hP hS hl => lv_pop X.1.1 X.1.2.1 hd hv (k H locs ls hP hS hl)
theorem j_if_eq (X : fw_X p s m args c cc nL own w) {x : Int32} {off : Int} (tgt : Nat) (hd : decode cc pc = .ok (.ifCond .eq off, 3)) (ht : (pc : Int) + off = (tgt : Int)) (kt : x = 0 → J p l e R s m args below meth c Q w nL G tgt lv st) (kf : ¬ x = 0 → J p l e R s m args below meth c Q w nL G (pc + 3) lv st) : J p l e R s m args below meth c Q w nL G pc lv (.int x :: st) :=
  fun H locs ls hP hS hl => lv_if_eq X.1.1 X.1.2.1 hd ht (fun q => kt q H locs ls hP hS hl) (fun q => kf q H locs ls hP hS hl)
theorem j_if_ne (X : fw_X p s m args c cc nL own w) {x : Int32} {off : Int} (tgt : Nat) (hd : decode cc pc = .ok (.ifCond .ne off, 3)) (ht : (pc : Int) + off = (tgt : Int)) (kt : ¬ x = 0 → J p l e R s m args below meth c Q w nL G tgt lv st) (kf : x = 0 → J p l e R s m args below meth c Q w nL G (pc + 3) lv st) : J p l e R s m args below meth c Q w nL G pc lv (.int x :: st) :=
  fun H locs ls hP hS hl => lv_if_ne X.1.1 X.1.2.1 hd ht (fun q => kt q H locs ls hP hS hl) (fun q => kf q H locs ls hP hS hl)
theorem j_if_lt (X : fw_X p s m args c cc nL own w) {x : Int32} {off : Int} (tgt : Nat) (hd : decode cc pc = .ok (.ifCond .lt off, 3)) (ht : (pc : Int) + off = (tgt : Int)) (kt : x < 0 → J p l e R s m args below meth c Q w nL G tgt lv st) (kf : ¬ x < 0 → J p l e R s m args below meth c Q w nL G (pc + 3) lv st) : J p l e R s m args below meth c Q w nL G pc lv (.int x :: st) :=
  fun H locs ls hP hS hl => lv_if_lt X.1.1 X.1.2.1 hd ht (fun q => kt q H locs ls hP hS hl) (fun q => kf q H locs ls hP hS hl)
theorem j_if_ge (X : fw_X p s m args c cc nL own w) {x : Int32} {off : Int} (tgt : Nat) (hd : decode cc pc = .ok (.ifCond .ge off, 3)) (ht : (pc : Int) + off = (tgt : Int)) (kt : 0 ≤ x → J p l e R s m args below meth c Q w nL G tgt lv st) (kf : ¬ 0 ≤ x → J p l e R s m args below meth c Q w nL G (pc + 3) lv st) : J p l e R s m args below meth c Q w nL G pc lv (.int x :: st) :=
  fun H locs ls hP hS hl => lv_if_ge X.1.1 X.1.2.1 hd ht (fun q => kt q H locs ls hP hS hl) (fun q => kf q H locs ls hP hS hl)
theorem j_if_gt (X : fw_X p s m args c cc nL own w) {x : Int32} {off : Int} (tgt : Nat) (hd : decode cc pc = .ok (.ifCond .gt off, 3)) (ht : (pc : Int) + off = (tgt : Int)) (kt : 0 < x → J p l e R s m args below meth c Q w nL G tgt lv st) (kf : ¬ 0 < x → J p l e R s m args below meth c Q w nL G (pc + 3) lv st) : J p l e R s m args below meth c Q w nL G pc lv (.int x :: st) :=
  fun H locs ls hP hS hl => lv_if_gt X.1.1 X.1.2.1 hd ht (fun q => kt q H locs ls hP hS hl) (fun q => kf q H locs ls hP hS hl)
theorem j_if_le (X : fw_X p s m args c cc nL own w) {x : Int32} {off : Int} (tgt : Nat) (hd : decode cc pc = .ok (.ifCond .le off, 3)) (ht : (pc : Int) + off = (tgt : Int)) (kt : x ≤ 0 → J p l e R s m args below meth c Q w nL G tgt lv st) (kf : ¬ x ≤ 0 → J p l e R s m args below meth c Q w nL G (pc + 3) lv st) : J p l e R s m args below meth c Q w nL G pc lv (.int x :: st) :=
  fun H locs ls hP hS hl => lv_if_le X.1.1 X.1.2.1 hd ht (fun q => kt q H locs ls hP hS hl) (fun q => kf q H locs ls hP hS hl)
theorem j_icmp_eq (X : fw_X p s m args c cc nL own w) {x y : Int32} {off : Int} (tgt : Nat) (hd : decode cc pc = .ok (.if_icmp .eq off, 3)) (ht : (pc : Int) + off = (tgt : Int)) (kt : x = y → J p l e R s m args below meth c Q w nL G tgt lv st) (kf : ¬ x = y → J p l e R s m args below meth c Q w nL G (pc + 3) lv st) : J p l e R s m args below meth c Q w nL G pc lv (.int y :: .int x :: st) :=
  fun H locs ls hP hS hl => lv_icmp_eq X.1.1 X.1.2.1 hd ht (fun q => kt q H locs ls hP hS hl) (fun q => kf q H locs ls hP hS hl)
theorem j_icmp_ne (X : fw_X p s m args c cc nL own w) {x y : Int32} {off : Int} (tgt : Nat) (hd : decode cc pc = .ok (.if_icmp .ne off, 3)) (ht : (pc : Int) + off = (tgt : Int)) (kt : ¬ x = y → J p l e R s m args below meth c Q w nL G tgt lv st) (kf : x = y → J p l e R s m args below meth c Q w nL G (pc + 3) lv st) : J p l e R s m args below meth c Q w nL G pc lv (.int y :: .int x :: st) :=
  fun H locs ls hP hS hl => lv_icmp_ne X.1.1 X.1.2.1 hd ht (fun q => kt q H locs ls hP hS hl) (fun q => kf q H locs ls hP hS hl)
theorem j_icmp_lt (X : fw_X p s m args c cc nL own w) {x y : Int32} {off : Int} (tgt : Nat) (hd : decode cc pc = .ok (.if_icmp .lt off, 3)) (ht : (pc : Int) + off = (tgt : Int)) (kt : x < y → J p l e R s m args below meth c Q w nL G tgt lv st) (kf : ¬ x < y → J p l e R s m args below meth c Q w nL G (pc + 3) lv st) : J p l e R s m args below meth c Q w nL G pc lv (.int y :: .int x :: st) :=
  fun H locs ls hP hS hl => lv_icmp_lt X.1.1 X.1.2.1 hd ht (fun q => kt q H locs ls hP hS hl) (fun q => kf q H locs ls hP hS hl)
theorem j_icmp_ge (X : fw_X p s m args c cc nL own w) {x y : Int32} {off : Int} (tgt : Nat) (hd : decode cc pc = .ok (.if_icmp .ge off, 3)) (ht : (pc : Int) + off = (tgt : Int)) (kt : y ≤ x → J p l e R s m args below meth c Q w nL G tgt lv st) (kf : ¬ y ≤ x → J p l e R s m args below meth c Q w nL G (pc + 3) lv st) : J p l e R s m args below meth c Q w nL G pc lv (.int y :: .int x :: st) :=
  fun H locs ls hP hS hl => lv_icmp_ge X.1.1 X.1.2.1 hd ht (fun q => kt q H locs ls hP hS hl) (fun q => kf q H locs ls hP hS hl)
theorem j_icmp_gt (X : fw_X p s m args c cc nL own w) {x y : Int32} {off : Int} (tgt : Nat) (hd : decode cc pc = .ok (.if_icmp .gt off, 3)) (ht : (pc : Int) + off = (tgt : Int)) (kt : y < x → J p l e R s m args below meth c Q w nL G tgt lv st) (kf : ¬ y < x → J p l e R s m args below meth c Q w nL G (pc + 3) lv st) : J p l e R s m args below meth c Q w nL G pc lv (.int y :: .int x :: st) :=
  fun H locs ls hP hS hl => lv_icmp_gt X.1.1 X.1.2.1 hd ht (fun q => kt q H locs ls hP hS hl) (fun q => kf q H locs ls hP hS hl)
theorem j_icmp_le (X : fw_X p s m args c cc nL own w) {x y : Int32} {off : Int} (tgt : Nat) (hd : decode cc pc = .ok (.if_icmp .le off, 3)) (ht : (pc : Int) + off = (tgt : Int)) (kt : x ≤ y → J p l e R s m args below meth c Q w nL G tgt lv st) (kf : ¬ x ≤ y → J p l e R s m args below meth c Q w nL G (pc + 3) lv st) : J p l e R s m args below meth c Q w nL G pc lv (.int y :: .int x :: st) :=
  fun H locs ls hP hS hl => lv_icmp_le X.1.1 X.1.2.1 hd ht (fun q => kt q H locs ls hP hS hl) (fun q => kf q H locs ls hP hS hl)
theorem j_goto (X : fw_X p s m args c cc nL own w) {off : Int} (tgt : Nat) (hd : decode cc pc = .ok (.goto off, 3)) (ht : (pc : Int) + off = (tgt : Int)) (k : J p l e R s m args below meth c Q w nL G tgt lv st) : J p l e R s m args below meth c Q w nL G pc lv st :=
  fun H locs ls hP hS hl => lv_goto X.1.1 X.1.2.1 hd ht (k H locs ls hP hS hl)
theorem j_tabOut (X : fw_X p s m args c cc nL own w) {dflt lo hi : Int} {offs : Array Int} {len : Nat} {x : Int32} (tgt : Nat) (hd : decode cc pc = .ok (.tableswitch dflt lo hi offs, len)) (h : x.toInt < lo ∨ hi < x.toInt) (ht : (pc : Int) + dflt = (tgt : Int)) (k : J p l e R s m args below meth c Q w nL G tgt lv st) : J p l e R s m args below meth c Q w nL G pc lv (.int x :: st) :=
  fun H locs ls hP hS hl => lv_tableOut X.1.1 X.1.2.1 hd h ht (k H locs ls hP hS hl)
theorem j_tabIn (X : fw_X p s m args c cc nL own w) {dflt lo hi off : Int} {offs : Array Int} {len : Nat} {x : Int32} (tgt : Nat) (hd : decode cc pc = .ok (.tableswitch dflt lo hi offs, len)) (h1 : ¬ x.toInt < lo) (h2 : ¬ hi < x.toInt) (ho : offs[(x.toInt - lo).toNat]? = some off) (ht : (pc : Int) + off = (tgt : Int)) (k : J p l e R s m args below meth c Q w nL G tgt lv st) : J p l e R s m args below meth c Q w nL G pc lv (.int x :: st) :=
  fun H locs ls hP hS hl => lv_tableIn X.1.1 X.1.2.1 hd h1 h2 ho ht (k H locs ls hP hS hl)
theorem j_getI (X : fw_X p s m args c cc nL own w) {C : String} {T : u_T} {N ci index : Nat} (k : Nat) {fs : List (Option Nat)} (hs : fw_lay[k]? = some (.inl (ci, fs))) (hc : vwCl[ci]? = some (C, T, N)) (hin : ∀ w ∈ u_ws C T N, w ∈ lw_tg) (j : Nat) (hj : j < N) (hf : fs[j]? = some none) (hl : Cond.fieldLink own index (T j).1 (T j).2.1 (T j).2.2.1 ∈ lw_tg) (hd : decode cc pc = .ok (.getfield index, 3)) (kk : J p l e R s m args below meth c Q w nL G (pc + 3) lv (.int (G k j) :: st)) : J p l e R s m args below meth c Q w nL G pc lv (.ref (w.1 k) :: st) :=
  fun H locs ls hP hS hv => va_get X.1.1 X.1.2.1 X.1.2.2.2.2 hin X.1.2.2.2.1 X.2.1 hP k (fw_getC w G hs) hc j hj (X.1.2.2.2.2 _ hl) (fun _ h => h) (fw_flI hf) hd (kk H locs ls hP hS hv)
theorem j_getR (X : fw_X p s m args c cc nL own w) {C : String} {T : u_T} {N ci index : Nat} (k : Nat) {fs : List (Option Nat)} (hs : fw_lay[k]? = some (.inl (ci, fs))) (hc : vwCl[ci]? = some (C, T, N)) (hin : ∀ w ∈ u_ws C T N, w ∈ lw_tg) (j : Nat) (hj : j < N) (k2 : Nat) (hf : fs[j]? = some (some k2)) (hl : Cond.fieldLink own index (T j).1 (T j).2.1 (T j).2.2.1 ∈ lw_tg) (hd : decode cc pc = .ok (.getfield index, 3)) (kk : J p l e R s m args below meth c Q w nL G (pc + 3) lv (.ref (w.1 k2) :: st)) : J p l e R s m args below meth c Q w nL G pc lv (.ref (w.1 k) :: st) :=
  fun H locs ls hP hS hv => va_get X.1.1 X.1.2.1 X.1.2.2.2.2 hin X.1.2.2.2.1 X.2.1 hP k (fw_getC w G hs) hc j hj (X.1.2.2.2.2 _ hl) (fun _ h => h) (fw_flR hf) hd (kk H locs ls hP hS hv)
theorem j_putI (X : fw_X p s m args c cc nL own w) {C : String} {T : u_T} {N ci index : Nat} {v : Int32} (ty0 : Nat → FieldType) (hty : ∀ k, k < N → parseFieldDescriptor (T k).2.2.1 = some (ty0 k)) (hnm : ∀ a, a < N → ∀ b, b < N → a ≠ b → (T a).2.1 ≠ (T b).2.1) (k : Nat) {fs : List (Option Nat)} (hs : fw_lay[k]? = some (.inl (ci, fs))) (hc : vwCl[ci]? = some (C, T, N)) (hin : ∀ w ∈ u_ws C T N, w ∈ lw_tg) (j : Nat) (hj : j < N) (hf : fs[j]? = some none) (hl : Cond.fieldLink own index (T j).1 (T j).2.1 (T j).2.2.1 ∈ lw_tg) (hfin : (T j).2.2.2 = false) (hde : parseFieldDescriptor (T j).2.2.1 = some .int) (hd : decode cc pc = .ok (.putfield index, 3)) (kk : J p l e R s m args below meth c Q w nL (upm G k j v) (pc + 3) lv st) : J p l e R s m args below meth c Q w nL G pc lv (.int v :: .ref (w.1 k) :: st) :=
  fun H locs ls hP hS hv => va_put X.1.1 X.1.2.1 X.1.2.2.2.2 hin ty0 hty hnm X.1.2.2.2.1 X.2.1 hP (fw_D w G X.2.2.1) hS k (fw_getC w G hs) hc j hj (X.1.2.2.2.2 _ hl) (fun _ h => h) hfin hde rfl rfl (fw_flL hf) hd (fun H1 locs1 hP1 _ hS1 => kk H1 locs1 ls (by
    have e : (fw_cells w G).set k (w.1 k, .inr (ci, (fw_fl w.1 fs (G k)).set j (.int v))) = fw_cells w (upm G k j v) := by
      rw [fw_flS hf]
      exact fw_setC w G hs (upd (G k) j v)
    rw [← e]
    exact hP1) hS1 hv)
theorem j_iald (X : fw_X p s m args c cc nL own w) (k n : Nat) {b : Nat} {i v : Int32} (hs : fw_lay[k]? = some (.inr (0, n, b))) (h : ald n G k i = some v) (hd : decode cc pc = .ok (.iaload, 1)) (kk : J p l e R s m args below meth c Q w nL G (pc + 1) lv (.int v :: st)) : J p l e R s m args below meth c Q w nL G pc lv (.int i :: .ref (w.1 k) :: st) :=
  fun H locs ls hP hS hv => va_iald X.1.1 X.1.2.1 X.2.1 hP k 0 (fw_getC w G hs) rfl (ald_s h).1 hd (by rw [← (ald_s h).2]; exact kk H locs ls hP hS hv)
theorem j_zald (X : fw_X p s m args c cc nL own w) (k n : Nat) {b : Nat} {i v : Int32} (hs : fw_lay[k]? = some (.inr (1, n, b))) (h : ald n G k i = some v) (hd : decode cc pc = .ok (.baload, 1)) (kk : J p l e R s m args below meth c Q w nL G (pc + 1) lv (.int v :: st)) : J p l e R s m args below meth c Q w nL G pc lv (.int i :: .ref (w.1 k) :: st) :=
  fun H locs ls hP hS hv => va_zald X.1.1 X.1.2.1 X.2.1 hP k 1 (fw_getC w G hs) rfl (ald_s h).1 hd (by rw [← (ald_s h).2]; exact kk H locs ls hP hS hv)
theorem j_iast (X : fw_X p s m args c cc nL own w) (k n : Nat) {b : Nat} {i x : Int32} {G' : Mem} (hs : fw_lay[k]? = some (.inr (0, n, b))) (h : ast n G k i x = some G') (hd : decode cc pc = .ok (.iastore, 1)) (kk : J p l e R s m args below meth c Q w nL G' (pc + 1) lv st) : J p l e R s m args below meth c Q w nL G pc lv (.int x :: .int i :: .ref (w.1 k) :: st) :=
  fun H locs ls hP hS hv => va_iast X.1.1 X.1.2.1 X.2.1 hP (fw_D w G X.2.2.1) hS k 0 (fw_getC w G hs) rfl (ast_s h).1 hd (fun H1 locs1 hP1 _ hS1 => kk H1 locs1 ls (by
    rw [(ast_s h).2]
    have e := fw_setC w G hs (upd (G k) i.toNatClampNeg x)
    exact e ▸ hP1) hS1 hv)
theorem j_zast (X : fw_X p s m args c cc nL own w) (k n : Nat) {b : Nat} {i x x' : Int32} {G' : Mem} (hs : fw_lay[k]? = some (.inr (1, n, b))) (hx : vp_nar .boolean x = x') (h : ast n G k i x' = some G') (hd : decode cc pc = .ok (.bastore, 1)) (kk : J p l e R s m args below meth c Q w nL G' (pc + 1) lv st) : J p l e R s m args below meth c Q w nL G pc lv (.int x :: .int i :: .ref (w.1 k) :: st) :=
  fun H locs ls hP hS hv => va_zast X.1.1 X.1.2.1 X.2.1 hP (fw_D w G X.2.2.1) hS k 1 (fw_getC w G hs) rfl (ast_s h).1 hd (fun H1 locs1 hP1 _ hS1 => kk H1 locs1 ls (by
    rw [(ast_s h).2]
    rw [hx] at hP1
    have e := fw_setC w G hs (upd (G k) i.toNatClampNeg x')
    exact e ▸ hP1) hS1 hv)
theorem j_aald (X : fw_X p s m args c cc nL own w) (k n b : Nat) {i : Int32} {k2 : Nat} (hs : fw_lay[k]? = some (.inr (2, n, b))) (h : aal n b i = some k2) (hd : decode cc pc = .ok (.aaload, 1)) (kk : J p l e R s m args below meth c Q w nL G (pc + 1) lv (.ref (w.1 k2) :: st)) : J p l e R s m args below meth c Q w nL G pc lv (.int i :: .ref (w.1 k) :: st) :=
  fun H locs ls hP hS hv => by
    have hin := (aal_s h).1
    have hlt : i.toNatClampNeg < n := Nat.not_le.mp fun q => hin (Or.inr q)
    have ha : (fw_cells w G)[k]? = some (w.1 k, .inl (w.2.2.1.2.2, n, .inr (.inr (.inr (.inr (fun j => if j < n then some (w.1 (b + j)) else none)))))) := fw_getC w G hs
    have hT : ArrOfT s w.2.2.1.2.2 (.array .int) := (X.2.1.2 2 _ rfl).1
    refine W.aald (v := .ref (w.1 k2)) (ty := .array .int) X.1.1 X.1.2.1 (hP k _ ha) (hT n (fun j => va_rf (if j < n then some (w.1 (b + j)) else none))) rfl (fun q => by cases q) (by show ¬ (i < 0 ∨ (arrV _ _ _).slots.size ≤ _); rw [arrV_size]; exact hin) (by show (arrV _ _ _).slots[_]? = _; rw [arrV_read _ _ hlt]; show some (va_rf (if i.toNatClampNeg < n then some (w.1 (b + i.toNatClampNeg)) else none)) = _; rw [if_pos hlt, (aal_s h).2]; rfl) rfl rfl hd (kk H locs ls hP hS hv)
theorem j_alenI (X : fw_X p s m args c cc nL own w) (k n : Nat) {b : Nat} {v : Int32} (hs : fw_lay[k]? = some (.inr (0, n, b))) (hv : Int32.ofNat n = v) (hd : decode cc pc = .ok (.arraylength, 1)) (kk : J p l e R s m args below meth c Q w nL G (pc + 1) lv (.int v :: st)) : J p l e R s m args below meth c Q w nL G pc lv (.ref (w.1 k) :: st) :=
  fun H locs ls hP hS hh => va_alen X.1.1 X.1.2.1 X.2.1 hP k 0 (fw_getC w G hs) rfl hv hd (kk H locs ls hP hS hh)
theorem j_alenR (X : fw_X p s m args c cc nL own w) (k n b : Nat) {v : Int32} (hs : fw_lay[k]? = some (.inr (2, n, b))) (hv : Int32.ofNat n = v) (hd : decode cc pc = .ok (.arraylength, 1)) (kk : J p l e R s m args below meth c Q w nL G (pc + 1) lv (.int v :: st)) : J p l e R s m args below meth c Q w nL G pc lv (.ref (w.1 k) :: st) :=
  fun H locs ls hP hS hh => va_alen X.1.1 X.1.2.1 X.2.1 hP k 2 (fw_getC w G hs) rfl hv hd (kk H locs ls hP hS hh)
theorem j_getsE (X : fw_X p s m args c cc nL own w) {index : Nat} (hm : (own, index, RX8, "EVENT_TO_LOOK", "[I", RX8) ∈ fw_nf) (hd : decode cc pc = .ok (.getstatic index, 3)) (kk : J p l e R s m args below meth c Q w nL G (pc + 3) lv (.ref w.2.2.2.1.1 :: st)) : J p l e R s m args below meth c Q w nL G pc lv st :=
  fun H locs ls hP hS hh => va_getsN X.1.1 X.1.2.1 X.2.2.2.1.1 hS X.1.2.2.2.1 (va_Nw.use rfl (X.2.2.2.2.2.2.2.2.2 _ hm)) (fun _ h => h) hd (kk H locs ls hP hS hh)
theorem j_getsK (X : fw_X p s m args c cc nL own w) {index : Nat} (hm : (own, index, RX8, "LOOK_TO_NOW", "[I", RX8) ∈ fw_nf) (hd : decode cc pc = .ok (.getstatic index, 3)) (kk : J p l e R s m args below meth c Q w nL G (pc + 3) lv (.ref w.2.2.2.1.2 :: st)) : J p l e R s m args below meth c Q w nL G pc lv st :=
  fun H locs ls hP hS hh => va_getsN X.1.1 X.1.2.1 X.2.2.2.2.1.1 hS X.1.2.2.2.1 (va_Nw.use rfl (X.2.2.2.2.2.2.2.2.2 _ hm)) (fun _ h => h) hd (kk H locs ls hP hS hh)
theorem j_tabE (X : fw_X p s m args c cc nL own w) {i v : Int32} (h : tld ev_tab i = some v) (hd : decode cc pc = .ok (.iaload, 1)) (kk : J p l e R s m args below meth c Q w nL G (pc + 1) lv (.int v :: st)) : J p l e R s m args below meth c Q w nL G pc lv (.int i :: .ref w.2.2.2.1.1 :: st) :=
  fun H locs ls hP hS hh => va_ti X.1.1 X.1.2.1 X.2.2.2.1.2 hS (tld_s h).1 (by rw [(tld_s h).2]) hd (kk H locs ls hP hS hh)
theorem j_tabK (X : fw_X p s m args c cc nL own w) {i v : Int32} (h : tld lk_tab i = some v) (hd : decode cc pc = .ok (.iaload, 1)) (kk : J p l e R s m args below meth c Q w nL G (pc + 1) lv (.int v :: st)) : J p l e R s m args below meth c Q w nL G pc lv (.int i :: .ref w.2.2.2.1.2 :: st) :=
  fun H locs ls hP hS hh => va_ti X.1.1 X.1.2.1 X.2.2.2.2.1.2 hS (tld_s h).1 (by rw [(tld_s h).2]) hd (kk H locs ls hP hS hh)
theorem j_mmax (X : fw_X p s m args c cc nL own w) {index : Nat} {x y : Int32} (h1 : Cond.methodLink own index Lib.Math.max.name ∈ lw_tg) (h2 : Cond.static Lib.Math.max.name ∈ lw_tg) (h3 : Cond.initialized "java/lang/Math" ∈ lw_tg) (h4 : Cond.code Lib.Math.max.name Lib.Math.max.code 2 (some .int) ∈ lw_tg) (hf : 1 ≤ R.frames) (hlo : (st.map fun v => v.category).sum + 13 ≤ R.locals) (hd : decode cc pc = .ok (.invokestatic index, 3)) (kk : J p l e R s m args below meth c Q w nL G (pc + 3) lv (.int (if x < y then y else x) :: st)) : J p l e R s m args below meth c Q w nL G pc lv (.int y :: .int x :: st) :=
  fun H locs ls hP hS hh => va_mmax X.1.1 X.1.2.1 (by rw [X.1.2.2.1, hh.1]) X.1.2.2.2.1 (X.1.2.2.2.2 _ h1) (X.1.2.2.2.2 _ h2) (X.1.2.2.2.2 _ h3) (X.1.2.2.2.2 _ h4) hf hlo (Nat.zero_le _) (Nat.zero_le _) hd (kk H locs ls hP hS hh)
theorem j_mmin (X : fw_X p s m args c cc nL own w) {index : Nat} {x y : Int32} (h1 : Cond.methodLink own index Lib.Math.min.name ∈ lw_tg) (h2 : Cond.static Lib.Math.min.name ∈ lw_tg) (h3 : Cond.initialized "java/lang/Math" ∈ lw_tg) (h4 : Cond.code Lib.Math.min.name Lib.Math.min.code 2 (some .int) ∈ lw_tg) (hf : 1 ≤ R.frames) (hlo : (st.map fun v => v.category).sum + 13 ≤ R.locals) (hd : decode cc pc = .ok (.invokestatic index, 3)) (kk : J p l e R s m args below meth c Q w nL G (pc + 3) lv (.int (if y < x then y else x) :: st)) : J p l e R s m args below meth c Q w nL G pc lv (.int y :: .int x :: st) :=
  fun H locs ls hP hS hh => va_mmin X.1.1 X.1.2.1 (by rw [X.1.2.2.1, hh.1]) X.1.2.2.2.1 (X.1.2.2.2.2 _ h1) (X.1.2.2.2.2 _ h2) (X.1.2.2.2.2 _ h3) (X.1.2.2.2.2 _ h4) hf hlo (Nat.zero_le _) (Nat.zero_le _) hd (kk H locs ls hP hS hh)
theorem j_callVi (X : fw_X p s m args c cc nL own w) {y : MethodName} {bytes : ByteArray} {maxL fr lo index : Nat} {ret : Option FieldType} {As rest : List Value} {r : Int32} {G1 : Mem} {C : String} {T : u_T} {N ci : Nat} (k : Nat) {fs : List (Option Nat)} (hs : fw_lay[k]? = some (.inl (ci, fs))) (hc : vwCl[ci]? = some (C, T, N)) (hM : CMi l y bytes maxL ret fr lo w (.ref (w.1 k) :: As) G (r, G1)) (hy : y.cls = C) (hd0 : y.cls ≠ "java/lang/invoke/MethodHandle" ∧ y.cls ≠ "java/lang/invoke/VarHandle" ∧ (parseMethodDescriptor y.desc).map (fun d => d.parameters.length) = some As.length) (h1 : Cond.methodLink own index y ∈ lw_tg) (h2 : Cond.instanceMethod y ∈ lw_tg) (h3 : Cond.selects y.cls y y ∈ lw_tg) (h4 : Cond.initialized y.cls ∈ lw_tg) (h5 : Cond.code y bytes maxL ret ∈ lw_tg) (hR : fr + 1 ≤ R.frames ∧ 8 + (maxL + 11) + lo ≤ R.locals) (hwd : (rest.map fun v => v.category).sum ≤ 8) (hst : st = As.reverse ++ .ref (w.1 k) :: rest) (hd : decode cc pc = .ok (.invokevirtual index, 3)) (kk : J p l e R s m args below meth c Q w nL G1 (pc + 3) lv (.int r :: rest)) : J p l e R s m args below meth c Q w nL G pc lv st := by
  subst hy
  subst hst
  intro H locs ls hP hS hl
  exact va_calli (va_runV (As := As) (rest := rest) X.1 hM (⟨callB_of As.length X.1.2.2.2.2 (tg_good h5) rfl rfl rfl (X.1.2.2.2.2 _ h4) (X.1.2.2.2.2 _ h1) hd0 hR, X.1.2.2.2.2 _ h2, X.1.2.2.2.2 _ h3⟩) ⟨fw_W.blind w G _, va_recv X.2.1 hP hc (fw_getC w G hs), fun U hU hW => ⟨rfl, by rw [hU]; exact hP, X.2.1.moved hW.alike, X.2.2.1, by rw [hU]; exact X.2.2.2.warm hW hS.2.1⟩⟩ rfl rfl hl.1 rfl (lv_room hwd) hd ⟨Nat.zero_le _, Nat.zero_le _⟩) hS (fun q _ h => h) (fun q h => h) (fun r1 u t H1 locs1 ht _ hw hB _ _ hS1 => by
    obtain ⟨rfl, rfl⟩ := Prod.mk.inj hw
    exact kk H1 locs1 ls (by rw [← ht]; exact hB) hS1 hl)
theorem j_callSi (X : fw_X p s m args c cc nL own w) {y : MethodName} {bytes : ByteArray} {maxL fr lo index : Nat} {ret : Option FieldType} {As rest : List Value} {r : Int32} {G1 : Mem} (hM : CMi l y bytes maxL ret fr lo w As G (r, G1)) (hd0 : y.cls ≠ "java/lang/invoke/MethodHandle" ∧ y.cls ≠ "java/lang/invoke/VarHandle" ∧ (parseMethodDescriptor y.desc).map (fun d => d.parameters.length) = some As.length) (h1 : Cond.methodLink own index y ∈ lw_tg) (h2 : Cond.static y ∈ lw_tg) (h4 : Cond.initialized y.cls ∈ lw_tg) (h5 : Cond.code y bytes maxL ret ∈ lw_tg) (hR : fr + 1 ≤ R.frames ∧ 8 + (maxL + 11) + lo ≤ R.locals) (hwd : (rest.map fun v => v.category).sum ≤ 8) (hst : st = As.reverse ++ rest) (hd : decode cc pc = .ok (.invokestatic index, 3)) (kk : J p l e R s m args below meth c Q w nL G1 (pc + 3) lv (.int r :: rest)) : J p l e R s m args below meth c Q w nL G pc lv st := by
  subst hst
  intro H locs ls hP hS hl
  exact va_calli (va_runS (As := As) (rest := rest) X.1 hM (⟨callB_of As.length X.1.2.2.2.2 (tg_good h5) rfl rfl rfl (X.1.2.2.2.2 _ h4) (X.1.2.2.2.2 _ h1) hd0 hR, X.1.2.2.2.2 _ h2⟩) ⟨fw_W.blind w G _, fun U hU hW => ⟨rfl, by rw [hU]; exact hP, X.2.1.moved hW.alike, X.2.2.1, by rw [hU]; exact X.2.2.2.warm hW hS.2.1⟩⟩ rfl rfl hl.1 rfl (lv_room hwd) hd ⟨Nat.zero_le _, Nat.zero_le _⟩) hS (fun q _ h => h) (fun q h => h) (fun r1 u t H1 locs1 ht _ hw hB _ _ hS1 => by
    obtain ⟨rfl, rfl⟩ := Prod.mk.inj hw
    exact kk H1 locs1 ls (by rw [← ht]; exact hB) hS1 hl)
theorem j_callNi (X : fw_X p s m args c cc nL own w) {y : MethodName} {bytes : ByteArray} {maxL fr lo index : Nat} {ret : Option FieldType} {As rest : List Value} {r : Int32} {G1 : Mem} {host : String} (hM : CMi l y bytes maxL ret fr lo w As G (r, G1)) (hd0 : y.cls ≠ "java/lang/invoke/MethodHandle" ∧ y.cls ≠ "java/lang/invoke/VarHandle" ∧ (parseMethodDescriptor y.desc).map (fun d => d.parameters.length) = some As.length) (h1 : (own, index, y, host) ∈ fw_nm) (h2 : Cond.static y ∈ lw_tg) (h4 : Cond.initialized y.cls ∈ lw_tg) (h5 : Cond.code y bytes maxL ret ∈ lw_tg) (hR : fr + 1 ≤ R.frames ∧ 8 + (maxL + 11) + lo ≤ R.locals) (hwd : (rest.map fun v => v.category).sum ≤ 8) (hst : st = As.reverse ++ rest) (hd : decode cc pc = .ok (.invokestatic index, 3)) (kk : J p l e R s m args below meth c Q w nL G1 (pc + 3) lv (.int r :: rest)) : J p l e R s m args below meth c Q w nL G pc lv st := by
  subst hst
  intro H locs ls hP hS hl
  exact va_calli (va_runSN (As := As) (rest := rest) X.1 hM (⟨va_cnB As.length X.1.2.2.2.2 (tg_good h5) rfl rfl rfl (X.2.2.2.2.2.2.2.2.1 _ h1) (X.1.2.2.2.2 _ h4) hd0 hR, X.1.2.2.2.2 _ h2, trivial⟩) ⟨fw_W.blind w G _, fun U hU hW => ⟨rfl, by rw [hU]; exact hP, X.2.1.moved hW.alike, X.2.2.1, by rw [hU]; exact X.2.2.2.warm hW hS.2.1⟩⟩ rfl rfl hl.1 rfl (lv_room hwd) hd ⟨Nat.zero_le _, Nat.zero_le _⟩) hS (fun q _ h => h) (fun q h => h) (fun r1 u t H1 locs1 ht _ hw hB _ _ hS1 => by
    obtain ⟨rfl, rfl⟩ := Prod.mk.inj hw
    exact kk H1 locs1 ls (by rw [← ht]; exact hB) hS1 hl)
theorem j_callVv (X : fw_X p s m args c cc nL own w) {y : MethodName} {bytes : ByteArray} {maxL fr lo index : Nat} {ret : Option FieldType} {As rest : List Value} {G1 : Mem} {C : String} {T : u_T} {N ci : Nat} (k : Nat) {fs : List (Option Nat)} (hs : fw_lay[k]? = some (.inl (ci, fs))) (hc : vwCl[ci]? = some (C, T, N)) (hM : CMv l y bytes maxL ret fr lo w (.ref (w.1 k) :: As) G G1) (hy : y.cls = C) (hd0 : y.cls ≠ "java/lang/invoke/MethodHandle" ∧ y.cls ≠ "java/lang/invoke/VarHandle" ∧ (parseMethodDescriptor y.desc).map (fun d => d.parameters.length) = some As.length) (h1 : Cond.methodLink own index y ∈ lw_tg) (h2 : Cond.instanceMethod y ∈ lw_tg) (h3 : Cond.selects y.cls y y ∈ lw_tg) (h4 : Cond.initialized y.cls ∈ lw_tg) (h5 : Cond.code y bytes maxL ret ∈ lw_tg) (hR : fr + 1 ≤ R.frames ∧ 8 + (maxL + 11) + lo ≤ R.locals) (hwd : (rest.map fun v => v.category).sum ≤ 8) (hst : st = As.reverse ++ .ref (w.1 k) :: rest) (hd : decode cc pc = .ok (.invokevirtual index, 3)) (kk : J p l e R s m args below meth c Q w nL G1 (pc + 3) lv rest) : J p l e R s m args below meth c Q w nL G pc lv st := by
  subst hy
  subst hst
  intro H locs ls hP hS hl
  exact va_callv (va_runV (As := As) (rest := rest) X.1 hM (⟨callB_of As.length X.1.2.2.2.2 (tg_good h5) rfl rfl rfl (X.1.2.2.2.2 _ h4) (X.1.2.2.2.2 _ h1) hd0 hR, X.1.2.2.2.2 _ h2, X.1.2.2.2.2 _ h3⟩) ⟨fw_W.blind w G _, va_recv X.2.1 hP hc (fw_getC w G hs), fun U hU hW => ⟨rfl, by rw [hU]; exact hP, X.2.1.moved hW.alike, X.2.2.1, by rw [hU]; exact X.2.2.2.warm hW hS.2.1⟩⟩ rfl rfl hl.1 rfl (lv_room hwd) hd ⟨Nat.zero_le _, Nat.zero_le _⟩) hS (fun q _ h => h) (fun q h => h) (fun u t H1 locs1 ht _ hw hB _ _ hS1 => by
    subst hw
    exact kk H1 locs1 ls (by rw [← ht]; exact hB) hS1 hl)
theorem j_callSv (X : fw_X p s m args c cc nL own w) {y : MethodName} {bytes : ByteArray} {maxL fr lo index : Nat} {ret : Option FieldType} {As rest : List Value} {G1 : Mem} (hM : CMv l y bytes maxL ret fr lo w As G G1) (hd0 : y.cls ≠ "java/lang/invoke/MethodHandle" ∧ y.cls ≠ "java/lang/invoke/VarHandle" ∧ (parseMethodDescriptor y.desc).map (fun d => d.parameters.length) = some As.length) (h1 : Cond.methodLink own index y ∈ lw_tg) (h2 : Cond.static y ∈ lw_tg) (h4 : Cond.initialized y.cls ∈ lw_tg) (h5 : Cond.code y bytes maxL ret ∈ lw_tg) (hR : fr + 1 ≤ R.frames ∧ 8 + (maxL + 11) + lo ≤ R.locals) (hwd : (rest.map fun v => v.category).sum ≤ 8) (hst : st = As.reverse ++ rest) (hd : decode cc pc = .ok (.invokestatic index, 3)) (kk : J p l e R s m args below meth c Q w nL G1 (pc + 3) lv rest) : J p l e R s m args below meth c Q w nL G pc lv st := by
  subst hst
  intro H locs ls hP hS hl
  exact va_callv (va_runS (As := As) (rest := rest) X.1 hM (⟨callB_of As.length X.1.2.2.2.2 (tg_good h5) rfl rfl rfl (X.1.2.2.2.2 _ h4) (X.1.2.2.2.2 _ h1) hd0 hR, X.1.2.2.2.2 _ h2⟩) ⟨fw_W.blind w G _, fun U hU hW => ⟨rfl, by rw [hU]; exact hP, X.2.1.moved hW.alike, X.2.2.1, by rw [hU]; exact X.2.2.2.warm hW hS.2.1⟩⟩ rfl rfl hl.1 rfl (lv_room hwd) hd ⟨Nat.zero_le _, Nat.zero_le _⟩) hS (fun q _ h => h) (fun q h => h) (fun u t H1 locs1 ht _ hw hB _ _ hS1 => by
    subst hw
    exact kk H1 locs1 ls (by rw [← ht]; exact hB) hS1 hl)
theorem j_callNv (X : fw_X p s m args c cc nL own w) {y : MethodName} {bytes : ByteArray} {maxL fr lo index : Nat} {ret : Option FieldType} {As rest : List Value} {G1 : Mem} {host : String} (hM : CMv l y bytes maxL ret fr lo w As G G1) (hd0 : y.cls ≠ "java/lang/invoke/MethodHandle" ∧ y.cls ≠ "java/lang/invoke/VarHandle" ∧ (parseMethodDescriptor y.desc).map (fun d => d.parameters.length) = some As.length) (h1 : (own, index, y, host) ∈ fw_nm) (h2 : Cond.static y ∈ lw_tg) (h4 : Cond.initialized y.cls ∈ lw_tg) (h5 : Cond.code y bytes maxL ret ∈ lw_tg) (hR : fr + 1 ≤ R.frames ∧ 8 + (maxL + 11) + lo ≤ R.locals) (hwd : (rest.map fun v => v.category).sum ≤ 8) (hst : st = As.reverse ++ rest) (hd : decode cc pc = .ok (.invokestatic index, 3)) (kk : J p l e R s m args below meth c Q w nL G1 (pc + 3) lv rest) : J p l e R s m args below meth c Q w nL G pc lv st := by
  subst hst
  intro H locs ls hP hS hl
  exact va_callv (va_runSN (As := As) (rest := rest) X.1 hM (⟨va_cnB As.length X.1.2.2.2.2 (tg_good h5) rfl rfl rfl (X.2.2.2.2.2.2.2.2.1 _ h1) (X.1.2.2.2.2 _ h4) hd0 hR, X.1.2.2.2.2 _ h2, trivial⟩) ⟨fw_W.blind w G _, fun U hU hW => ⟨rfl, by rw [hU]; exact hP, X.2.1.moved hW.alike, X.2.2.1, by rw [hU]; exact X.2.2.2.warm hW hS.2.1⟩⟩ rfl rfl hl.1 rfl (lv_room hwd) hd ⟨Nat.zero_le _, Nat.zero_le _⟩) hS (fun q _ h => h) (fun q h => h) (fun u t H1 locs1 ht _ hw hB _ _ hS1 => by
    subst hw
    exact kk H1 locs1 ls (by rw [← ht]; exact hB) hS1 hl)
end JR
section JE
variable {p : Program} {l : Launch} {e : Env} {R : Room} {s : State} {m : MethodId} {args : Array Value} {below : List Frame} {meth : Method} {c : Code} {w : WP} {nL : Nat} {cc : ByteArray} {own : String} {G : Mem} {pc : Nat} {lv : List (Nat × Value)}
theorem j_iret (X : fw_X p s m args c cc nL own w) {v : Int32} {res : Int32 × Mem} (hr : meth.sig.returnType = some .int) (hk : meth.locks = false) (hd : decode cc pc = .ok (.ireturn, 1)) (h : (v, G) = res) : J p l e R s m args below meth c (Qint below args s w res) w nL G pc lv [.int v] :=
  fun H locs ls hP hS hl => W.iret X.1.1 X.1.2.1 hr (fun t ht hW => ⟨⟨v, G, rfl, h, by show va_P _ _ _ t.heap; rw [ht]; exact hP⟩, hS.F ht⟩) hS.2.2 hd hk
theorem j_zret (X : fw_X p s m args c cc nL own w) {v v' : Int32} {res : Int32 × Mem} (hr : meth.sig.returnType = some .boolean) (hk : meth.locks = false) (hn : v &&& 1 = v') (hd : decode cc pc = .ok (.ireturn, 1)) (h : (v', G) = res) : J p l e R s m args below meth c (Qint below args s w res) w nL G pc lv [.int v] :=
  fun H locs ls hP hS hl => W.zretN X.1.1 X.1.2.1 hr (by rw [← hn]; rfl) (fun t ht hW => ⟨⟨v', G, rfl, h, by show va_P _ _ _ t.heap; rw [ht]; exact hP⟩, hS.F ht⟩) hS.2.2 hd hk
theorem j_vret (X : fw_X p s m args c cc nL own w) {res : Mem} (hr : meth.sig.returnType = none) (hk : meth.locks = false) (hd : decode cc pc = .ok (.return_, 1)) (h : G = res) : J p l e R s m args below meth c (Qvoid below args s w res) w nL G pc lv [] :=
  fun H locs ls hP hS hl => W.vret X.1.1 X.1.2.1 hr (fun t ht hW => ⟨⟨G, rfl, h, by show va_P _ _ _ t.heap; rw [ht]; exact hP⟩, hS.F ht⟩) hS.2.2 hd hk
end JE
/-- a contract out of a walk -/
theorem CMi.of {l : Launch} {y : MethodName} {cc : ByteArray} {nL : Nat} {ret : Option FieldType} {fr lo : Nat} {w : WP} {av : List Value} {G : Mem} {res : Int32 × Mem} (hy : plainName y.cls = true) (hn : (lg_sl av).length ≤ nL)
    (body : ∀ (p : Program) (e : Env) (s : State) (m : MethodId) (args : Array Value) (below : List Frame) (meth : Method) (c : Code), fw_X p s m args c cc nL y.cls w → meth.sig.returnType = ret → meth.locks = false → J p l e { frames := fr, cells := 0, slots := 0, locals := lo } s m args below meth c (Qint below args s w res) w nL G 0 (lv_args 0 av) []) : CMi l y cc nL ret fr lo w av G res := by
  refine Met.ofW (cc := cc) (maxL := nL) (ret := ret) hy rfl ?_
  intro p e s m args below meth c s₁ B hml hv
  obtain ⟨rfl, hP, hK, hD, hSt⟩ := hv
  have hts := atoms_spec (ws := Cond.code y cc nL ret :: lw_tg) B.pre
  have hown : s.vm.findClass y.cls = some m.cls := findClass_of_methodNamed B.named
  have hl := lv_entry av (n := nL) hn
  rw [lg_entry_eq]
  exact body p e s m _ below meth c ⟨⟨B.exec, B.bytes, hml, hown, fun w hw => hts w (List.mem_cons_of_mem _ hw)⟩, hK, hD, hSt⟩ B.returns B.notSynchronized s.heap [] _ hP va_S.rf hl
theorem CMv.of {l : Launch} {y : MethodName} {cc : ByteArray} {nL : Nat} {ret : Option FieldType} {fr lo : Nat} {w : WP} {av : List Value} {G : Mem} {res : Mem} (hy : plainName y.cls = true) (hn : (lg_sl av).length ≤ nL)
    (body : ∀ (p : Program) (e : Env) (s : State) (m : MethodId) (args : Array Value) (below : List Frame) (meth : Method) (c : Code), fw_X p s m args c cc nL y.cls w → meth.sig.returnType = ret → meth.locks = false → J p l e { frames := fr, cells := 0, slots := 0, locals := lo } s m args below meth c (Qvoid below args s w res) w nL G 0 (lv_args 0 av) []) : CMv l y cc nL ret fr lo w av G res := by
  refine Met.ofW (cc := cc) (maxL := nL) (ret := ret) hy rfl ?_
  intro p e s m args below meth c s₁ B hml hv
  obtain ⟨rfl, hP, hK, hD, hSt⟩ := hv
  have hts := atoms_spec (ws := Cond.code y cc nL ret :: lw_tg) B.pre
  have hown : s.vm.findClass y.cls = some m.cls := findClass_of_methodNamed B.named
  have hl := lv_entry av (n := nL) hn
  rw [lg_entry_eq]
  exact body p e s m _ below meth c ⟨⟨B.exec, B.bytes, hml, hown, fun w hw => hts w (List.mem_cons_of_mem _ hw)⟩, hK, hD, hSt⟩ B.returns B.notSynchronized s.heap [] _ hP va_S.rf hl
