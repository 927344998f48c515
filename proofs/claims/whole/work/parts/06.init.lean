/-! ===== 06 constructors: JC is the judgement with a growing list of cells ===== -/
def tys3 (cs : ClassId × ClassId × ClassId) : List (ClassId × FieldType) := [(cs.1, .int), (cs.2.1, .boolean), (cs.2.2, .array .int)]
theorem va_AOA.moved {ty : FieldType} {u U : State} (hvm : u.vm.Alike U.vm) (h : va_AOA ty u) : va_AOA ty U := Jvm.Stand.arrayOver_alikeB hvm h
/-- what a constructor's start is: the new object, and what it may ask of the tables -/
def ci_B (D : va_G) (cs : ClassId × ClassId × ClassId) (wc : va_W) (sz : Nat) (U : State) : Prop := U.heap.size = sz ∧ va_P D vwCl wc U.heap ∧ va_K D vwCl (tys3 cs) U ∧ va_D (fun _ => True) wc ∧ va_AOA .int U
def CMc {S : Type} (l : Launch) (y : MethodName) (b : ByteArray) (n fr mc ms lo : Nat) (D : va_G) (cs : ClassId × ClassId × ClassId) (h0 : Nat) (e0 : va_E) (w1 : S → va_W) : Prop :=
  ∀ sz : Nat, Met l y (Cond.code y b n none :: lw_tg) { frames := fr, cells := mc, slots := ms, locals := lo } (va_Pc [.ref h0] (ci_B D cs [(h0, e0)] sz)) (va_Qv (fun _ : S => True) (fun u t => va_P D vwCl (w1 u) t.heap ∧ va_D (va_A [(h0, e0)] sz) (w1 u)) (va_A [(h0, e0)] sz)) mc ms (va_A [(h0, e0)] sz)
theorem ci_blind (D : va_G) (cs : ClassId × ClassId × ClassId) (wc : va_W) (sz : Nat) (av : List Value) : FrameBlind (va_Pc av (ci_B D cs wc sz)) := fun a U g mk q => by
  obtain ⟨q0, q1, qP, qK, qD, qA⟩ := q
  exact ⟨q0, q1, qP, va_K.moved (u := U) (U := U.calling g mk a) (Vm.Alike.refl U.vm) qK, qD, va_AOA.moved (u := U) (U := U.calling g mk a) (Vm.Alike.refl U.vm) qA⟩
/-- a constructor's walk stands on -/
def ci_X (p : Program) (s : State) (m : MethodId) (args : Array Value) (meth : Method) (c : Code) (cc : ByteArray) (nL : Nat) (own : String) (D : va_G) (cs : ClassId × ClassId × ClassId) (A : Nat → Prop) : Prop :=
  CallFix p m c cc nL s args lw_tg own ∧ va_K D vwCl (tys3 cs) s ∧ (∀ q, s.heap.size ≤ q → A q) ∧ va_AOA .int s
def JC (p : Program) (l : Launch) (e : Env) (R : Room) (s : State) (m : MethodId) (args : Array Value) (below : List Frame) (meth : Method) (c : Code) (Q : State → Prop) (D : va_G) (A : Nat → Prop) (nL : Nat) (ws : va_W) (ca sl : Nat) (pc : Nat) (lv : List (Nat × Value)) (st : List Value) : Prop :=
  ∀ (H : Heap) (locs : List Loc) (ls : Array Slot), va_P D vwCl ws H → va_D A ws → va_S A s.heap H locs → lv_has ls nL lv → W p l e R s m args below meth c H locs ca sl Q (F0 m pc ls st)
abbrev az (c : ClassId) (n : Nat) : va_E := .inl (c, n, .inl (fun _ => 0))
abbrev rz (c : ClassId) (n : Nat) (r : Nat → Nat) : va_E := .inl (c, n, .inr (.inr (.inr (.inr (fun i => if i < n then some (r i) else none)))))
theorem jn_app {A0 : Nat → Prop} {D : va_G} {cl : List vw_C} {wr wc w1 : va_W} {H H1 : Heap} (hP : va_P D cl (wr ++ wc) H) (hD : va_D A0 (wr ++ wc))
    (hk : ∀ q : Nat, q < H.size → ¬ va_A wc H.size q → H1[q]? = H[q]?) (hF : ∀ q, va_A wc H.size q → A0 q) (hP1 : va_P D cl w1 H1) (hD1 : va_D (va_A wc H.size) w1) : va_P D cl (wr ++ w1) H1 ∧ va_D A0 (wr ++ w1) := by
  have getr : ∀ (k : Nat) (q : Nat × va_E), wr[k]? = some q → (wr ++ wc)[k]? = some q := fun k q h => by
    rw [List.getElem?_append_left (List.getElem?_eq_some_iff.mp h).1]; exact h
  have apart : ∀ (k : Nat) (q : Nat × va_E), wr[k]? = some q → q.1 < H.size ∧ ¬ va_A wc H.size q.1 := by
    intro k q hq
    have hl := (hP k q (getr k q hq)).lt
    refine ⟨hl, fun h => ?_⟩
    rcases h with ⟨k2, e, h⟩ | h
    · have h2 : (wr ++ wc)[wr.length + k2]? = some (q.1, e) := by
        rw [List.getElem?_append_right (by omega)]
        rw [show wr.length + k2 - wr.length = k2 by omega]
        exact h
      have hij := hD.1 k (wr.length + k2) q (q.1, e) (getr k q hq) h2 rfl
      have := (List.getElem?_eq_some_iff.mp hq).1
      omega
    · omega
  refine ⟨va_P.app (fun k q hq => ?_) hP1, va_D.app ⟨fun i j x y hi hj e => hD.1 i j x y (getr i x hi) (getr j y hj) e, fun k q hq => hD.2 k q (getr k q hq)⟩ (hD1.weaken (fun k q _ h => hF q.1 h)) (fun i j x y hx hy hxy => ?_)⟩
  · obtain ⟨g1, g2⟩ := apart k q hq
    exact (hP k q (getr k q hq)).kept (hk q.1 g1 g2)
  · exact (apart i x hx).2 (by rw [hxy]; exact hD1.2 j y hy)
section JCR
variable {p : Program} {l : Launch} {e : Env} {R : Room} {s : State} {m : MethodId} {args : Array Value} {below : List Frame} {meth : Method} {c : Code} {Q : State → Prop} {D : va_G} {A : Nat → Prop} {nL : Nat} {cc : ByteArray} {own : String} {cs : ClassId × ClassId × ClassId} {ws : va_W} {ca sl : Nat} {pc : Nat} {lv : List (Nat × Value)} {st : List Value}
theorem jc_iconst (X : ci_X p s m args meth c cc nL own D cs A) {n : Int} {v : Int32} (hd : decode cc pc = .ok (.iconst n, 1)) (hv : Int32.ofInt n = v) (k : JC p l e R s m args below meth c Q D A nL ws ca sl (pc + 1) lv (.int v :: st)) : JC p l e R s m args below meth c Q D A nL ws ca sl pc lv st :=
  fun H locs ls hP hD hS hl => lv_iconst X.1.1 X.1.2.1 hd hv (k H locs ls hP hD hS hl)
theorem jc_bipush (X : ci_X p s m args meth c cc nL own D cs A) {n : Int} {v : Int32} (hd : decode cc pc = .ok (.bipush n, 2)) (hv : (Int8.ofInt n).toInt32 = v) (k : JC p l e R s m args below meth c Q D A nL ws ca sl (pc + 2) lv (.int v :: st)) : JC p l e R s m args below meth c Q D A nL ws ca sl pc lv st :=
  fun H locs ls hP hD hS hl => lv_bipush X.1.1 X.1.2.1 hd hv (k H locs ls hP hD hS hl)
theorem jc_sipush (X : ci_X p s m args meth c cc nL own D cs A) {n : Int} {v : Int32} (hd : decode cc pc = .ok (.sipush n, 3)) (hv : (Int16.ofInt n).toInt32 = v) (k : JC p l e R s m args below meth c Q D A nL ws ca sl (pc + 3) lv (.int v :: st)) : JC p l e R s m args below meth c Q D A nL ws ca sl pc lv st :=
  fun H locs ls hP hD hS hl => lv_sipush X.1.1 X.1.2.1 hd hv (k H locs ls hP hD hS hl)
theorem jc_aload_n (X : ci_X p s m args meth c cc nL own D cs A) {j : Fin 4} {i x : Nat} (hd : decode cc pc = .ok (.aload_n j, 1)) (hi : (j : Nat) = i) (q : Nat) (hq : lv[q]? = some (i, .ref x)) (k : JC p l e R s m args below meth c Q D A nL ws ca sl (pc + 1) lv (.ref x :: st)) : JC p l e R s m args below meth c Q D A nL ws ca sl pc lv st :=
  fun H locs ls hP hD hS hl => lv_aload_n X.1.1 X.1.2.1 hd hi (lv_at hl q hq) (k H locs ls hP hD hS hl)
theorem jc_dup (X : ci_X p s m args meth c cc nL own D cs A) {v : Value} (hd : decode cc pc = .ok (.dup, 1)) (hv : v.category = 1) (k : JC p l e R s m args below meth c Q D A nL ws ca sl (pc + 1) lv (v :: v :: st)) : JC p l e R s m args below meth c Q D A nL ws ca sl pc lv (v :: st) :=
  fun H locs ls hP hD hS hl => lv_dup X.1.1 X.1.2.1 hd hv (k H locs ls hP hD hS hl)
theorem jc_astore_n (X : ci_X p s m args meth c cc nL own D cs A) {j : Fin 4} {i x : Nat} (lv' : List (Nat × Value)) (hd : decode cc pc = .ok (.astore_n j, 1)) (hi : (j : Nat) = i) (hn : i < nL) (hl : (i, Value.ref x) :: lv.filter (fun q => !(q.1 == i) && !(q.1 + 1 == i && q.2.category == 2)) = lv') (k : JC p l e R s m args below meth c Q D A nL ws ca sl (pc + 1) lv' st) : JC p l e R s m args below meth c Q D A nL ws ca sl pc lv (.ref x :: st) :=
  fun H locs ls hP hD hS hv => lv_astore_n X.1.1 X.1.2.1 hd hi hv hn hl (fun ls' hv' => k H locs ls' hP hD hS hv')
theorem jc_istore_n (X : ci_X p s m args meth c cc nL own D cs A) {j : Fin 4} {i : Nat} {x : Int32} (lv' : List (Nat × Value)) (hd : decode cc pc = .ok (.istore_n j, 1)) (hi : (j : Nat) = i) (hn : i < nL) (hl : (i, Value.int x) :: lv.filter (fun q => !(q.1 == i) && !(q.1 + 1 == i && q.2.category == 2)) = lv') (k : JC p l e R s m args below meth c Q D A nL ws ca sl (pc + 1) lv' st) : JC p l e R s m args below meth c Q D A nL ws ca sl pc lv (.int x :: st) :=
  fun H locs ls hP hD hS hv => lv_istore_n X.1.1 X.1.2.1 hd hi hv hn hl (fun ls' hv' => k H locs ls' hP hD hS hv')
theorem jc_obj (X : ci_X p s m args meth c cc nL own D cs A) {index x : Nat} (h1 : Cond.methodLink own index Lib.objectInit ∈ lw_tg) (h2 : Cond.instanceMethod Lib.objectInit ∈ lw_tg) (h3 : Cond.code Lib.objectInit ⟨#[0xb1]⟩ 1 none ∈ lw_tg) (hf : 1 ≤ R.frames) (hlo : (st.map fun v => v.category).sum + 12 ≤ R.locals) (hd : decode cc pc = .ok (.invokespecial index, 3)) (k : JC p l e R s m args below meth c Q D A nL ws ca sl (pc + 3) lv st) : JC p l e R s m args below meth c Q D A nL ws ca sl pc lv (.ref x :: st) :=
  fun H locs ls hP hD hS hl => W.objInit X.1.1 X.1.2.1 X.1.2.2.2.1 (X.1.2.2.2.2 _ h1) (X.1.2.2.2.2 _ h2) (X.1.2.2.2.2 _ h3) rfl (by rw [X.1.2.2.1]; exact hl.1) rfl hd hf (by show 2 * 0 + _ + 12 ≤ _; omega) (k H locs ls hP hD hS hl)
theorem jc_new (X : ci_X p s m args meth c cc nL own D cs A) {C : String} {T : u_T} {N ci index : Nat} (ty : Nat → FieldType) (hty : ∀ k, k < N → parseFieldDescriptor (T k).2.2.1 = some (ty k)) (hin : ∀ w ∈ u_ws C T N, w ∈ lw_tg) (hcl : Cond.classLink own index C ∈ lw_tg) (hinst : Cond.instantiable C N ∈ lw_tg) (hini : Cond.initialized C ∈ lw_tg) (hc : vwCl[ci]? = some (C, T, N)) (fs : List Value) (hfs : ∀ j, j < N → defaultValue (ty j) = vp_V fs j) (hca : ca + 1 ≤ R.cells) (hsl : sl + N ≤ R.slots) (hd : decode cc pc = .ok (.new index, 3)) (k : ∀ q : Nat, JC p l e R s m args below meth c Q D A nL (ws ++ [(q, .inr (ci, fs))]) (ca + 1) (sl + N) (pc + 3) lv (.ref q :: st)) : JC p l e R s m args below meth c Q D A nL ws ca sl pc lv st :=
  fun H locs ls hP hD hS hl => va_new X.1.1 X.1.2.1 X.1.2.2.2.2 hin ty hty X.1.2.2.2.1 (X.1.2.2.2.2 _ hcl) (X.1.2.2.2.2 _ hinst) (X.1.2.2.2.2 _ hini) X.2.1 hP hD hS X.2.2.1 hc hfs hca hsl hd (fun q H1 hP1 hD1 hS1 => k q H1 locs ls hP1 hD1 hS1 hl)
theorem jc_newI (X : ci_X p s m args meth c cc nL own D cs A) {n : Int32} {N : Nat} (harr : Cond.arrayClass .int ∈ lw_tg) (hn : ¬ n < 0) (hN : n.toNatClampNeg = N) (hb : N * 4 ≤ 536870912) (hca : ca + 1 ≤ R.cells) (hsl : sl + N ≤ R.slots) (hd : decode cc pc = .ok (.newarray .int, 2)) (k : ∀ q : Nat, JC p l e R s m args below meth c Q D A nL (ws ++ [(q, az cs.1 N)]) (ca + 1) (sl + N) (pc + 2) lv (.ref q :: st)) : JC p l e R s m args below meth c Q D A nL ws ca sl pc lv (.int n :: st) :=
  fun H locs ls hP hD hS hl => va_newa (atype := .int) X.1.1 X.1.2.1 (X.1.2.2.2.2 _ harr) rfl X.2.1 hP hD hS X.2.2.1 (a0 := (N, .inl (fun _ => 0))) (fun _ => rfl) hn hN hb hca hsl hd (fun q cA H1 hK1 hP1 hD1 hS1 => by
    have e : cA = cs.1 := Option.some.inj ((hK1.2 3 _ rfl).2.symm.trans (X.2.1.2 0 _ rfl).2)
    subst e
    exact k q H1 locs ls hP1 hD1 hS1 hl)
theorem jc_newZ (X : ci_X p s m args meth c cc nL own D cs A) {n : Int32} {N : Nat} (harr : Cond.arrayClass .boolean ∈ lw_tg) (hn : ¬ n < 0) (hN : n.toNatClampNeg = N) (hb : N * 1 ≤ 536870912) (hca : ca + 1 ≤ R.cells) (hsl : sl + N ≤ R.slots) (hd : decode cc pc = .ok (.newarray .boolean, 2)) (k : ∀ q : Nat, JC p l e R s m args below meth c Q D A nL (ws ++ [(q, az cs.2.1 N)]) (ca + 1) (sl + N) (pc + 2) lv (.ref q :: st)) : JC p l e R s m args below meth c Q D A nL ws ca sl pc lv (.int n :: st) :=
  fun H locs ls hP hD hS hl => va_newa (atype := .boolean) X.1.1 X.1.2.1 (X.1.2.2.2.2 _ harr) rfl X.2.1 hP hD hS X.2.2.1 (a0 := (N, .inl (fun _ => 0))) (fun _ => rfl) hn hN hb hca hsl hd (fun q cA H1 hK1 hP1 hD1 hS1 => by
    have e : cA = cs.2.1 := Option.some.inj ((hK1.2 3 _ rfl).2.symm.trans (X.2.1.2 1 _ rfl).2)
    subst e
    exact k q H1 locs ls hP1 hD1 hS1 hl)
theorem jc_mna (X : ci_X p s m args meth c cc nL own D cs A) {index : Nat} {n k0 : Int32} {N K : Nat} (hcl : Cond.classLink own index "[[I" ∈ lw_tg) (harr : Cond.arrayClass .int ∈ lw_tg) (hn : ¬ n < 0) (hk : ¬ k0 < 0) (hN : n.toNatClampNeg = N) (hM : k0.toNatClampNeg = K) (hb1 : N * 4 ≤ 536870912) (hb2 : K * 4 ≤ 536870912) (hb3 : K ≤ 536870912) (hca : ca + (1 + N) ≤ R.cells) (hsl : sl + (N + N * K) ≤ R.slots) (hd : decode cc pc = .ok (.multianewarray index 2, 4)) (k : ∀ (q : Nat) (r : Nat → Nat), JC p l e R s m args below meth c Q D A nL ((ws ++ [(q, rz cs.2.2 N r)]) ++ ((List.range N).map r).map (fun a => (a, az cs.1 K))) (ca + 1 + N) (sl + N + N * K) (pc + 4) lv (.ref q :: st)) : JC p l e R s m args below meth c Q D A nL ws ca sl pc lv (.int k0 :: .int n :: st) :=
  fun H locs ls hP hD hS hl => by
    have e1 : "[" ++ (FieldType.array .int).toString = "[[I" := by decide +kernel
    refine va_mna (X := ws) (L := []) (f := fun _ => .inr (0, [])) (ty := .int) (cy := cs.1) (z := (K, .inl (fun _ => 0))) X.1.1 X.1.2.1 X.1.2.2.2.1 (by rw [e1]; exact X.1.2.2.2.2 _ hcl) X.2.2.2 (X.1.2.2.2.2 _ harr) (X.2.1.2 0 _ rfl).2 X.2.1 (by rw [show va_pl [] (fun _ => (.inr (0, []) : va_E)) = [] from rfl, List.append_nil]; exact hP) (by rw [show va_pl [] (fun _ => (.inr (0, []) : va_E)) = [] from rfl, List.append_nil]; exact hD) hS X.2.2.1 hn hk hN hM hb1 hb2 hb3 rfl rfl hca hsl (fun cz => by rw [vp_cell_i]; exact arrV_new cz K (.int 0)) hd (fun q r cA H1 _ _ hK1 hP1 hD1 hS1 => ?_)
    have e : cA = cs.2.2 := Option.some.inj ((hK1.2 3 _ rfl).2.symm.trans (X.2.1.2 2 _ rfl).2)
    subst e
    have er : va_pl ([] ++ (List.range N).map r) (vr_up (fun _ => (.inr (0, []) : va_E)) ((List.range N).map r) (az cs.1 K)) = ((List.range N).map r).map (fun a => (a, az cs.1 K)) := by
      rw [← vr_rows (L := []) (fun a _ h => by cases h)]
      rfl
    rw [er] at hP1 hD1
    exact k q r H1 locs ls hP1 hD1 hS1 hl
theorem jc_putF (X : ci_X p s m args meth c cc nL own D cs A) {C : String} {T : u_T} {N ci index a : Nat} {v : Value} {ty : FieldType} (hnm0 : meth.name = "<init>") (ty0 : Nat → FieldType) (hty : ∀ k, k < N → parseFieldDescriptor (T k).2.2.1 = some (ty0 k)) (hnm : ∀ a, a < N → ∀ b, b < N → a ≠ b → (T a).2.1 ≠ (T b).2.1) (q0 : Nat) {fs : List Value} (he : ws[q0]? = some (a, .inr (ci, fs))) (hc : vwCl[ci]? = some (C, T, N)) (hin : ∀ w ∈ u_ws C T N, w ∈ lw_tg) (j : Nat) (hj : j < N) (hl : Cond.fieldLink own index (T j).1 (T j).2.1 (T j).2.2.1 ∈ lw_tg) (hfin : (T j).2.2.2 = true) (hde : (T j).1 = own) (hty2 : parseFieldDescriptor (T j).2.2.1 = some ty) (hn : narrow ty v = v) (hfit : fits ty v = true) (hlen : j < fs.length) (hd : decode cc pc = .ok (.putfield index, 3)) (ws' : va_W) (hws : ws.set q0 (a, .inr (ci, fs.set j v)) = ws') (k : JC p l e R s m args below meth c Q D A nL ws' ca sl (pc + 3) lv st) : JC p l e R s m args below meth c Q D A nL ws ca sl pc lv (v :: .ref a :: st) :=
  fun H locs ls hP hD hS hv => va_putF X.1.1 X.1.2.1 X.1.2.2.2.2 hin ty0 hty hnm X.1.2.2.2.1 X.2.1 hP hD hS q0 he hc j hj (X.1.2.2.2.2 _ hl) (fun _ h => h) hfin hnm0 hde hty2 hn hfit hlen hd (fun H1 locs1 hP1 hD1 hS1 => k H1 locs1 ls (hws ▸ hP1) (hws ▸ hD1) hS1 hv)
theorem jc_putI (X : ci_X p s m args meth c cc nL own D cs A) {C : String} {T : u_T} {N ci index a : Nat} {v : Value} {ty : FieldType} (ty0 : Nat → FieldType) (hty : ∀ k, k < N → parseFieldDescriptor (T k).2.2.1 = some (ty0 k)) (hnm : ∀ a, a < N → ∀ b, b < N → a ≠ b → (T a).2.1 ≠ (T b).2.1) (q0 : Nat) {fs : List Value} (he : ws[q0]? = some (a, .inr (ci, fs))) (hc : vwCl[ci]? = some (C, T, N)) (hin : ∀ w ∈ u_ws C T N, w ∈ lw_tg) (j : Nat) (hj : j < N) (hl : Cond.fieldLink own index (T j).1 (T j).2.1 (T j).2.2.1 ∈ lw_tg) (hfin : (T j).2.2.2 = false) (hty2 : parseFieldDescriptor (T j).2.2.1 = some ty) (hn : narrow ty v = v) (hfit : fits ty v = true) (hlen : j < fs.length) (hd : decode cc pc = .ok (.putfield index, 3)) (ws' : va_W) (hws : ws.set q0 (a, .inr (ci, fs.set j v)) = ws') (k : JC p l e R s m args below meth c Q D A nL ws' ca sl (pc + 3) lv st) : JC p l e R s m args below meth c Q D A nL ws ca sl pc lv (v :: .ref a :: st) :=
  fun H locs ls hP hD hS hv => va_put X.1.1 X.1.2.1 X.1.2.2.2.2 hin ty0 hty hnm X.1.2.2.2.1 X.2.1 hP hD hS q0 he hc j hj (X.1.2.2.2.2 _ hl) (fun _ h => h) hfin hty2 hn hfit hlen hd (fun H1 locs1 hP1 hD1 hS1 => k H1 locs1 ls (hws ▸ hP1) (hws ▸ hD1) hS1 hv)
theorem jc_call (X : ci_X p s m args meth c cc nL own D cs A) {S : Type} {y : MethodName} {bytes : ByteArray} {maxL fr mc ms lo index a : Nat} {e0 : va_E} {w1 : S → va_W} (wr : va_W) (hM : CMc l y bytes maxL fr mc ms lo D cs a e0 w1) (hws : ws = wr ++ [(a, e0)]) (hy1 : y.name = "<init>") (hd0 : y.cls ≠ "java/lang/invoke/MethodHandle" ∧ y.cls ≠ "java/lang/invoke/VarHandle" ∧ (parseMethodDescriptor y.desc).map (fun d => d.parameters.length) = some 0) (h1 : Cond.methodLink own index y ∈ lw_tg) (h2 : Cond.instanceMethod y ∈ lw_tg) (h4 : Cond.initialized y.cls ∈ lw_tg) (h5 : Cond.code y bytes maxL none ∈ lw_tg) (hR : fr + 1 ≤ R.frames ∧ 8 + (maxL + 11) + lo ≤ R.locals) (hcs : ca + mc ≤ R.cells ∧ sl + ms ≤ R.slots) (hwd : (st.map fun v => v.category).sum ≤ 8) (hd : decode cc pc = .ok (.invokespecial index, 3)) (k : ∀ u : S, JC p l e R s m args below meth c Q D A nL (wr ++ w1 u) (ca + mc) (sl + ms) (pc + 3) lv st) : JC p l e R s m args below meth c Q D A nL ws ca sl pc lv (.ref a :: st) := by
  subst hws
  intro H locs ls hP hD hS hl
  have hlast : (wr ++ [(a, e0)])[wr.length]? = some (a, e0) := by rw [List.getElem?_append_right (Nat.le_refl _)]; simp
  have hPc : va_P D vwCl [(a, e0)] H := fun k9 q9 h9 => by
    have hz : k9 < 1 := (List.getElem?_eq_some_iff.mp h9).1
    rw [show k9 = 0 by omega] at h9
    cases h9
    exact hP _ _ hlast
  have hDc : va_D (fun _ => True) [(a, e0)] := ⟨fun i j x y' hi hj _ => by
    have hz : i < 1 := (List.getElem?_eq_some_iff.mp hi).1
    have hz2 : j < 1 := (List.getElem?_eq_some_iff.mp hj).1
    omega, fun _ _ _ => trivial⟩
  have hFc : ∀ q, va_A [(a, e0)] H.size q → A q := fun q hq => by
    rcases hq with ⟨k9, e9, h9⟩ | h9
    · have hz : k9 < 1 := (List.getElem?_eq_some_iff.mp h9).1
      rw [show k9 = 0 by omega] at h9
      cases h9
      exact hD.2 _ _ hlast
    · exact X.2.2.1 q (Nat.le_trans hS.1 h9)
  refine va_callv (va_runI (As := []) (rest := st) X.1 (hM H.size) ⟨callB_of 0 X.1.2.2.2.2 (tg_good h5) rfl rfl rfl (X.1.2.2.2.2 _ h4) (X.1.2.2.2.2 _ h1) hd0 hR, hy1, X.1.2.2.2.2 _ h2⟩ ⟨ci_blind D cs _ _ _, fun U hU hW => ⟨rfl, by rw [hU], by rw [hU]; exact hPc, va_K.moved hW.alike X.2.1, hDc, va_AOA.moved hW.alike X.2.2.2⟩⟩ rfl rfl hl.1 rfl (lv_room hwd) hd hcs) hS (fun q _ h => hFc q h) hFc (fun u t H1 locs1 ht _ _ hB _ hk1 hS1 => ?_)
  rw [ht] at hB
  obtain ⟨hP2, hD2⟩ := jn_app hP hD hk1 hFc hB.1 hB.2
  exact k u H1 locs1 ls hP2 hD2 hS1 hl
theorem jc_as (ws' : va_W) (hw : ws = ws') (k : JC p l e R s m args below meth c Q D A nL ws' ca sl pc lv st) : JC p l e R s m args below meth c Q D A nL ws ca sl pc lv st := hw ▸ k
end JCR
theorem jc_vret {p : Program} {l : Launch} {e : Env} {R : Room} {s : State} {m : MethodId} {args : Array Value} {below : List Frame} {meth : Method} {c : Code} {D : va_G} {A : Nat → Prop} {nL : Nat} {cc : ByteArray} {own : String} {cs : ClassId × ClassId × ClassId} {ws : va_W} {ca sl pc : Nat} {lv : List (Nat × Value)} {S : Type} {w1 : S → va_W} (X : ci_X p s m args meth c cc nL own D cs A) (hr : meth.sig.returnType = none) (hk : meth.locks = false) (hd : decode cc pc = .ok (.return_, 1)) (u : S) (is : List Nat) (hn : va_nd is = true) (hs : is.map (fun i => ws[i]?) = (w1 u).map some) : JC p l e R s m args below meth c (MQ below (va_Qv (fun _ : S => True) (fun u t => va_P D vwCl (w1 u) t.heap ∧ va_D A (w1 u)) A) args s ca sl A) D A nL ws ca sl pc lv [] :=
  fun H locs ls hP hD hS hl => W.vret X.1.1 X.1.2.1 hr (fun t ht hW => ⟨⟨u, rfl, trivial, by
    rw [ht]
    exact hP.sub is (by
      have e : is.filterMap (fun i => ws[i]?) = (is.map (fun i => ws[i]?)).filterMap id := by rw [List.filterMap_map]; rfl
      rw [e, hs, List.filterMap_map]
      exact List.filterMap_some), hD.sub is hn hs⟩, hS.F ht⟩) hS.2.2 hd hk
theorem CMc.of {S : Type} {l : Launch} {y : MethodName} {cc : ByteArray} {nL fr mc ms lo : Nat} {D : va_G} {cs : ClassId × ClassId × ClassId} {h0 : Nat} {e0 : va_E} {w1 : S → va_W} (hy : plainName y.cls = true) (hyn : y.name = "<init>") (hn : (lg_sl [.ref h0]).length ≤ nL)
    (body : ∀ (p : Program) (e : Env) (s : State) (m : MethodId) (args : Array Value) (below : List Frame) (meth : Method) (c : Code) (A : Nat → Prop), ci_X p s m args meth c cc nL y.cls D cs A → meth.name = "<init>" → meth.sig.returnType = none → meth.locks = false → JC p l e { frames := fr, cells := mc, slots := ms, locals := lo } s m args below meth c (MQ below (va_Qv (fun _ : S => True) (fun u t => va_P D vwCl (w1 u) t.heap ∧ va_D A (w1 u)) A) args s mc ms A) D A nL [(h0, e0)] 0 0 0 (lv_args 0 [.ref h0]) []) : CMc l y cc nL fr mc ms lo D cs h0 e0 w1 := by
  intro sz
  refine Met.ofW (cc := cc) (maxL := nL) (ret := none) hy rfl ?_
  intro p e s m args below meth c s₁ B hml hv
  obtain ⟨rfl, hsz, hP, hK, hD0, hA⟩ := hv
  have hts := atoms_spec (ws := Cond.code y cc nL none :: lw_tg) B.pre
  have hown : s.vm.findClass y.cls = some m.cls := findClass_of_methodNamed B.named
  have hin : meth.name = "<init>" := (name_of_methodNamed B.named B.method).1.trans hyn
  have hl := lv_entry [.ref h0] (n := nL) hn
  rw [lg_entry_eq]
  subst hsz
  exact body p e s m _ below meth c (va_A [(h0, e0)] s.heap.size) ⟨⟨B.exec, B.bytes, hml, hown, fun w hw => hts w (List.mem_cons_of_mem _ hw)⟩, hK, fun q h => Or.inr h, hA⟩ hin B.returns B.notSynchronized s.heap [] _ hP hD0.self va_S.rf hl
theorem z_60 : Cond.initialized RX6 ∈ lw_tg := tg 60 (by decide +kernel) (by decide +kernel)
theorem z_61 : Cond.initialized RX7 ∈ lw_tg := tg 61 (by decide +kernel) (by decide +kernel)
theorem z_62 : Cond.initialized RX2 ∈ lw_tg := tg 62 (by decide +kernel) (by decide +kernel)
theorem z_63 : Cond.initialized RX0 ∈ lw_tg := tg 63 (by decide +kernel) (by decide +kernel)
theorem z_64 : Cond.initialized RX4 ∈ lw_tg := tg 64 (by decide +kernel) (by decide +kernel)
theorem z_65 : Cond.initialized RX1 ∈ lw_tg := tg 65 (by decide +kernel) (by decide +kernel)
theorem z_66 : Cond.initialized RX3 ∈ lw_tg := tg 66 (by decide +kernel) (by decide +kernel)
theorem z_67 : Cond.initialized RX5 ∈ lw_tg := tg 67 (by decide +kernel) (by decide +kernel)
theorem z_81 : Cond.methodLink RX8 3 Lib.objectInit ∈ lw_tg := tg 81 (by decide +kernel) (by decide +kernel)
theorem z_82 : Cond.instanceMethod Lib.objectInit ∈ lw_tg := tg 82 (by decide +kernel) (by decide +kernel)
theorem z_83 : Cond.code Lib.objectInit ⟨#[0xb1]⟩ 1 none ∈ lw_tg := tg 83 (by decide +kernel) (by decide +kernel)
theorem z_84 : Cond.classLink RX8 9 RX6 ∈ lw_tg := tg 84 (by decide +kernel) (by decide +kernel)
theorem z_85 : Cond.instantiable RX6 1 ∈ lw_tg := tg 85 (by decide +kernel) (by decide +kernel)
theorem z_86 : Cond.methodLink RX8 11 yX6_init ∈ lw_tg := tg 86 (by decide +kernel) (by decide +kernel)
theorem z_87 : Cond.instanceMethod yX6_init ∈ lw_tg := tg 87 (by decide +kernel) (by decide +kernel)
theorem z_88 : Cond.code yX6_init cX6_init 1 none ∈ lw_tg := tg 88 (by decide +kernel) (by decide +kernel)
theorem z_89 : Cond.methodLink RX6 5 Lib.objectInit ∈ lw_tg := tg 89 (by decide +kernel) (by decide +kernel)
theorem z_90 : Cond.fieldLink RX6 11 "TenseLines$Telling" "cells" "[I" ∈ lw_tg := tg 90 (by decide +kernel) (by decide +kernel)
theorem z_94 : Cond.arrayClass .int ∈ lw_tg := tg 94 (by decide +kernel) (by decide +kernel)
theorem z_95 : Cond.classLink RX8 19 RX7 ∈ lw_tg := tg 95 (by decide +kernel) (by decide +kernel)
theorem z_96 : Cond.instantiable RX7 8 ∈ lw_tg := tg 96 (by decide +kernel) (by decide +kernel)
theorem z_97 : Cond.methodLink RX8 21 yX7_init ∈ lw_tg := tg 97 (by decide +kernel) (by decide +kernel)
theorem z_98 : Cond.instanceMethod yX7_init ∈ lw_tg := tg 98 (by decide +kernel) (by decide +kernel)
theorem z_99 : Cond.code yX7_init cX7_init 1 none ∈ lw_tg := tg 99 (by decide +kernel) (by decide +kernel)
theorem z_100 : Cond.methodLink RX7 3 Lib.objectInit ∈ lw_tg := tg 100 (by decide +kernel) (by decide +kernel)
theorem z_101 : Cond.fieldLink RX7 9 "TenseLines$Text" "letters" "[I" ∈ lw_tg := tg 101 (by decide +kernel) (by decide +kernel)
theorem z_126 : Cond.classLink RX8 26 RX2 ∈ lw_tg := tg 126 (by decide +kernel) (by decide +kernel)
theorem z_127 : Cond.instantiable RX2 3 ∈ lw_tg := tg 127 (by decide +kernel) (by decide +kernel)
theorem z_128 : Cond.methodLink RX8 28 yX2_init ∈ lw_tg := tg 128 (by decide +kernel) (by decide +kernel)
theorem z_129 : Cond.instanceMethod yX2_init ∈ lw_tg := tg 129 (by decide +kernel) (by decide +kernel)
theorem z_130 : Cond.code yX2_init cX2_init 1 none ∈ lw_tg := tg 130 (by decide +kernel) (by decide +kernel)
theorem z_131 : Cond.methodLink RX2 3 Lib.objectInit ∈ lw_tg := tg 131 (by decide +kernel) (by decide +kernel)
theorem z_132 : Cond.classLink RX2 11 "[[I" ∈ lw_tg := tg 132 (by decide +kernel) (by decide +kernel)
theorem z_134 : Cond.fieldLink RX2 13 "TenseLines$Past" "rows" "[[I" ∈ lw_tg := tg 134 (by decide +kernel) (by decide +kernel)
theorem z_144 : Cond.classLink RX8 33 RX0 ∈ lw_tg := tg 144 (by decide +kernel) (by decide +kernel)
theorem z_145 : Cond.instantiable RX0 2 ∈ lw_tg := tg 145 (by decide +kernel) (by decide +kernel)
theorem z_146 : Cond.methodLink RX8 35 yX0_init ∈ lw_tg := tg 146 (by decide +kernel) (by decide +kernel)
theorem z_147 : Cond.instanceMethod yX0_init ∈ lw_tg := tg 147 (by decide +kernel) (by decide +kernel)
theorem z_148 : Cond.code yX0_init cX0_init 1 none ∈ lw_tg := tg 148 (by decide +kernel) (by decide +kernel)
theorem z_149 : Cond.methodLink RX0 3 Lib.objectInit ∈ lw_tg := tg 149 (by decide +kernel) (by decide +kernel)
theorem z_150 : Cond.classLink RX0 11 "[[I" ∈ lw_tg := tg 150 (by decide +kernel) (by decide +kernel)
theorem z_151 : Cond.fieldLink RX0 13 "TenseLines$Images" "rows" "[[I" ∈ lw_tg := tg 151 (by decide +kernel) (by decide +kernel)
theorem z_158 : Cond.classLink RX8 40 RX4 ∈ lw_tg := tg 158 (by decide +kernel) (by decide +kernel)
theorem z_159 : Cond.instantiable RX4 4 ∈ lw_tg := tg 159 (by decide +kernel) (by decide +kernel)
theorem z_160 : Cond.methodLink RX8 42 yX4_init ∈ lw_tg := tg 160 (by decide +kernel) (by decide +kernel)
theorem z_161 : Cond.instanceMethod yX4_init ∈ lw_tg := tg 161 (by decide +kernel) (by decide +kernel)
theorem z_162 : Cond.code yX4_init cX4_init 1 none ∈ lw_tg := tg 162 (by decide +kernel) (by decide +kernel)
theorem z_163 : Cond.methodLink RX4 3 Lib.objectInit ∈ lw_tg := tg 163 (by decide +kernel) (by decide +kernel)
theorem z_164 : Cond.fieldLink RX4 9 "TenseLines$Seen" "first" "[I" ∈ lw_tg := tg 164 (by decide +kernel) (by decide +kernel)
theorem z_165 : Cond.fieldLink RX4 15 "TenseLines$Seen" "second" "[I" ∈ lw_tg := tg 165 (by decide +kernel) (by decide +kernel)
theorem z_166 : Cond.fieldLink RX4 18 "TenseLines$Seen" "answer" "[I" ∈ lw_tg := tg 166 (by decide +kernel) (by decide +kernel)
theorem z_177 : Cond.classLink RX8 47 RX1 ∈ lw_tg := tg 177 (by decide +kernel) (by decide +kernel)
theorem z_178 : Cond.instantiable RX1 2 ∈ lw_tg := tg 178 (by decide +kernel) (by decide +kernel)
theorem z_179 : Cond.methodLink RX8 49 yX1_init ∈ lw_tg := tg 179 (by decide +kernel) (by decide +kernel)
theorem z_180 : Cond.instanceMethod yX1_init ∈ lw_tg := tg 180 (by decide +kernel) (by decide +kernel)
theorem z_181 : Cond.code yX1_init cX1_init 1 none ∈ lw_tg := tg 181 (by decide +kernel) (by decide +kernel)
theorem z_182 : Cond.methodLink RX1 3 Lib.objectInit ∈ lw_tg := tg 182 (by decide +kernel) (by decide +kernel)
theorem z_183 : Cond.fieldLink RX1 9 "TenseLines$Order" "notBehind" "[I" ∈ lw_tg := tg 183 (by decide +kernel) (by decide +kernel)
theorem z_184 : Cond.fieldLink RX1 15 "TenseLines$Order" "ahead" "[I" ∈ lw_tg := tg 184 (by decide +kernel) (by decide +kernel)
theorem z_190 : Cond.classLink RX8 54 RX3 ∈ lw_tg := tg 190 (by decide +kernel) (by decide +kernel)
theorem z_191 : Cond.instantiable RX3 5 ∈ lw_tg := tg 191 (by decide +kernel) (by decide +kernel)
theorem z_192 : Cond.methodLink RX8 56 yX3_init ∈ lw_tg := tg 192 (by decide +kernel) (by decide +kernel)
theorem z_193 : Cond.instanceMethod yX3_init ∈ lw_tg := tg 193 (by decide +kernel) (by decide +kernel)
theorem z_194 : Cond.code yX3_init cX3_init 1 none ∈ lw_tg := tg 194 (by decide +kernel) (by decide +kernel)
theorem z_195 : Cond.methodLink RX3 3 Lib.objectInit ∈ lw_tg := tg 195 (by decide +kernel) (by decide +kernel)
theorem z_196 : Cond.classLink RX3 9 RX1 ∈ lw_tg := tg 196 (by decide +kernel) (by decide +kernel)
theorem z_197 : Cond.methodLink RX3 11 yX1_init ∈ lw_tg := tg 197 (by decide +kernel) (by decide +kernel)
theorem z_198 : Cond.classLink RX3 18 "[[I" ∈ lw_tg := tg 198 (by decide +kernel) (by decide +kernel)
theorem z_199 : Cond.fieldLink RX3 12 "TenseLines$Search" "alone" "LTenseLines$Order;" ∈ lw_tg := tg 199 (by decide +kernel) (by decide +kernel)
theorem z_200 : Cond.fieldLink RX3 20 "TenseLines$Search" "notBehindBy" "[[I" ∈ lw_tg := tg 200 (by decide +kernel) (by decide +kernel)
theorem z_201 : Cond.fieldLink RX3 23 "TenseLines$Search" "aheadBy" "[[I" ∈ lw_tg := tg 201 (by decide +kernel) (by decide +kernel)
theorem z_202 : Cond.fieldLink RX3 26 "TenseLines$Search" "notBehind" "[I" ∈ lw_tg := tg 202 (by decide +kernel) (by decide +kernel)
theorem z_203 : Cond.fieldLink RX3 30 "TenseLines$Search" "ahead" "[I" ∈ lw_tg := tg 203 (by decide +kernel) (by decide +kernel)
theorem z_215 : Cond.classLink RX8 61 RX5 ∈ lw_tg := tg 215 (by decide +kernel) (by decide +kernel)
theorem z_216 : Cond.instantiable RX5 8 ∈ lw_tg := tg 216 (by decide +kernel) (by decide +kernel)
theorem z_217 : Cond.methodLink RX8 63 yX5_init ∈ lw_tg := tg 217 (by decide +kernel) (by decide +kernel)
theorem z_218 : Cond.instanceMethod yX5_init ∈ lw_tg := tg 218 (by decide +kernel) (by decide +kernel)
theorem z_219 : Cond.code yX5_init cX5_init 1 none ∈ lw_tg := tg 219 (by decide +kernel) (by decide +kernel)
theorem z_220 : Cond.methodLink RX5 3 Lib.objectInit ∈ lw_tg := tg 220 (by decide +kernel) (by decide +kernel)
theorem z_221 : Cond.classLink RX5 27 "[[I" ∈ lw_tg := tg 221 (by decide +kernel) (by decide +kernel)
theorem z_222 : Cond.fieldLink RX5 9 "TenseLines$Tally" "lowest" "[I" ∈ lw_tg := tg 222 (by decide +kernel) (by decide +kernel)
theorem z_223 : Cond.fieldLink RX5 15 "TenseLines$Tally" "before" "[I" ∈ lw_tg := tg 223 (by decide +kernel) (by decide +kernel)
theorem z_224 : Cond.fieldLink RX5 18 "TenseLines$Tally" "waysTo" "[I" ∈ lw_tg := tg 224 (by decide +kernel) (by decide +kernel)
theorem z_225 : Cond.fieldLink RX5 21 "TenseLines$Tally" "waysOn" "[I" ∈ lw_tg := tg 225 (by decide +kernel) (by decide +kernel)
theorem z_226 : Cond.fieldLink RX5 24 "TenseLines$Tally" "joining" "[I" ∈ lw_tg := tg 226 (by decide +kernel) (by decide +kernel)
theorem z_227 : Cond.fieldLink RX5 29 "TenseLines$Tally" "ahead" "[[I" ∈ lw_tg := tg 227 (by decide +kernel) (by decide +kernel)
theorem z_247 : Cond.fieldLink RX8 12 "TenseLines" "telling" "LTenseLines$Telling;" ∈ lw_tg := tg 247 (by decide +kernel) (by decide +kernel)
theorem z_248 : Cond.fieldLink RX8 16 "TenseLines" "draft" "LTenseLines$Telling;" ∈ lw_tg := tg 248 (by decide +kernel) (by decide +kernel)
theorem z_249 : Cond.fieldLink RX8 22 "TenseLines" "text" "LTenseLines$Text;" ∈ lw_tg := tg 249 (by decide +kernel) (by decide +kernel)
theorem z_250 : Cond.fieldLink RX8 29 "TenseLines" "past" "LTenseLines$Past;" ∈ lw_tg := tg 250 (by decide +kernel) (by decide +kernel)
theorem z_251 : Cond.fieldLink RX8 36 "TenseLines" "images" "LTenseLines$Images;" ∈ lw_tg := tg 251 (by decide +kernel) (by decide +kernel)
theorem z_252 : Cond.fieldLink RX8 43 "TenseLines" "seen" "LTenseLines$Seen;" ∈ lw_tg := tg 252 (by decide +kernel) (by decide +kernel)
theorem z_253 : Cond.fieldLink RX8 50 "TenseLines" "order" "LTenseLines$Order;" ∈ lw_tg := tg 253 (by decide +kernel) (by decide +kernel)
theorem z_254 : Cond.fieldLink RX8 57 "TenseLines" "search" "LTenseLines$Search;" ∈ lw_tg := tg 254 (by decide +kernel) (by decide +kernel)
theorem z_255 : Cond.fieldLink RX8 64 "TenseLines" "tally" "LTenseLines$Tally;" ∈ lw_tg := tg 255 (by decide +kernel) (by decide +kernel)
theorem z_861 : Cond.methodLink RX9 1 Lib.objectInit ∈ lw_tg := tg 861 (by decide +kernel) (by decide +kernel)
theorem z_863 : Cond.fieldLink RX9 7 "TenseLinesModel" "s" "[I" ∈ lw_tg := tg 863 (by decide +kernel) (by decide +kernel)
theorem z_864 : Cond.fieldLink RX9 13 "TenseLinesModel" "read" "[I" ∈ lw_tg := tg 864 (by decide +kernel) (by decide +kernel)
theorem z_865 : Cond.fieldLink RX9 16 "TenseLinesModel" "past" "[I" ∈ lw_tg := tg 865 (by decide +kernel) (by decide +kernel)
theorem z_867 : Cond.fieldLink RX9 19 "TenseLinesModel" "kept" "[I" ∈ lw_tg := tg 867 (by decide +kernel) (by decide +kernel)
theorem z_868 : Cond.fieldLink RX9 22 "TenseLinesModel" "isKept" "[Z" ∈ lw_tg := tg 868 (by decide +kernel) (by decide +kernel)
theorem z_869 : Cond.fieldLink RX9 59 "TenseLinesModel" "seen" "I" ∈ lw_tg := tg 869 (by decide +kernel) (by decide +kernel)
theorem z_870 : Cond.fieldLink RX9 26 "TenseLinesModel" "seenP" "[I" ∈ lw_tg := tg 870 (by decide +kernel) (by decide +kernel)
theorem z_871 : Cond.fieldLink RX9 29 "TenseLinesModel" "seenQ" "[I" ∈ lw_tg := tg 871 (by decide +kernel) (by decide +kernel)
theorem z_872 : Cond.fieldLink RX9 32 "TenseLinesModel" "seenIs" "[I" ∈ lw_tg := tg 872 (by decide +kernel) (by decide +kernel)
theorem z_874 : Cond.fieldLink RX9 35 "TenseLinesModel" "text" "[I" ∈ lw_tg := tg 874 (by decide +kernel) (by decide +kernel)
theorem z_877 : Cond.fieldLink RX9 38 "TenseLinesModel" "same" "[I" ∈ lw_tg := tg 877 (by decide +kernel) (by decide +kernel)
theorem z_878 : Cond.fieldLink RX9 41 "TenseLinesModel" "ahead" "[I" ∈ lw_tg := tg 878 (by decide +kernel) (by decide +kernel)
theorem z_879 : Cond.fieldLink RX9 44 "TenseLinesModel" "level" "[I" ∈ lw_tg := tg 879 (by decide +kernel) (by decide +kernel)
theorem z_880 : Cond.fieldLink RX9 47 "TenseLinesModel" "below" "[I" ∈ lw_tg := tg 880 (by decide +kernel) (by decide +kernel)
theorem z_881 : Cond.fieldLink RX9 50 "TenseLinesModel" "ways" "[I" ∈ lw_tg := tg 881 (by decide +kernel) (by decide +kernel)
theorem z_882 : Cond.fieldLink RX9 53 "TenseLinesModel" "first" "[I" ∈ lw_tg := tg 882 (by decide +kernel) (by decide +kernel)
theorem z_883 : Cond.fieldLink RX9 56 "TenseLinesModel" "once" "[I" ∈ lw_tg := tg 883 (by decide +kernel) (by decide +kernel)
theorem z_929 : Cond.arrayClass .boolean ∈ lw_tg := tg 929 (by decide +kernel) (by decide +kernel)
abbrev wI_X6 (cs : ClassId × ClassId × ClassId) (h0 : Nat) (u : (Nat)) : va_W := [(h0, .inr (6, [.ref u])), (u, az cs.1 74)]
theorem pn_X6_init : yX6_init.cls ≠ "java/lang/invoke/MethodHandle" ∧ yX6_init.cls ≠ "java/lang/invoke/VarHandle" ∧ (parseMethodDescriptor yX6_init.desc).map (fun d => d.parameters.length) = some 0 := by decide +kernel
set_option maxRecDepth 100000 in
set_option maxHeartbeats 4000000 in
theorem c_X6_init (l : Launch) (D : va_G) (cs : ClassId × ClassId × ClassId) (h0 : Nat) : CMc l yX6_init cX6_init 1 1 1 74 12 D cs h0 (.inr (6, [.null])) (wI_X6 cs h0) := by
  refine CMc.of (by decide +kernel) rfl (Nat.le_of_ble_eq_true rfl) ?_
  intro p e s m args below meth c A X hnm hr hk
  refine jc_aload_n X dX6_init_0 rfl 0 rfl ?_
  refine jc_obj X z_89 z_82 z_83 (Nat.le_of_ble_eq_true rfl) (Nat.le_of_ble_eq_true rfl) dX6_init_1 ?_
  refine jc_aload_n X dX6_init_4 rfl 0 rfl ?_
  refine jc_bipush (v := 74) X dX6_init_5 (by decide) ?_
  refine jc_newI (N := 74) X z_94 (by decide) (by decide) (Nat.le_of_ble_eq_true rfl) (Nat.le_of_ble_eq_true rfl) (Nat.le_of_ble_eq_true rfl) dX6_init_7 (fun q1 => ?_)
  refine jc_putF (C := RX6) (T := TX6) (N := 1) (ci := 6) X hnm tyX6 tyX6_ok nmX6 0 rfl rfl hin_X6 0 (by decide) z_90 rfl rfl rfl rfl rfl (Nat.le_of_ble_eq_true rfl) dX6_init_9 [(h0, .inr (6, [.ref q1])), (q1, az cs.1 74)] rfl ?_
  exact jc_vret X hr hk dX6_init_12 q1 [0, 1] (by decide) rfl
abbrev wI_X7 (cs : ClassId × ClassId × ClassId) (h0 : Nat) (u : (Nat)) : va_W := [(h0, .inr (7, [.ref u, .int 0, .int 0, .int 0, .int 0, .int 0, .int 0, .int 0])), (u, az cs.1 80)]
theorem pn_X7_init : yX7_init.cls ≠ "java/lang/invoke/MethodHandle" ∧ yX7_init.cls ≠ "java/lang/invoke/VarHandle" ∧ (parseMethodDescriptor yX7_init.desc).map (fun d => d.parameters.length) = some 0 := by decide +kernel
set_option maxRecDepth 100000 in
set_option maxHeartbeats 4000000 in
theorem c_X7_init (l : Launch) (D : va_G) (cs : ClassId × ClassId × ClassId) (h0 : Nat) : CMc l yX7_init cX7_init 1 1 1 80 12 D cs h0 (.inr (7, [.null, .int 0, .int 0, .int 0, .int 0, .int 0, .int 0, .int 0])) (wI_X7 cs h0) := by
  refine CMc.of (by decide +kernel) rfl (Nat.le_of_ble_eq_true rfl) ?_
  intro p e s m args below meth c A X hnm hr hk
  refine jc_aload_n X dX7_init_0 rfl 0 rfl ?_
  refine jc_obj X z_100 z_82 z_83 (Nat.le_of_ble_eq_true rfl) (Nat.le_of_ble_eq_true rfl) dX7_init_1 ?_
  refine jc_aload_n X dX7_init_4 rfl 0 rfl ?_
  refine jc_bipush (v := 80) X dX7_init_5 (by decide) ?_
  refine jc_newI (N := 80) X z_94 (by decide) (by decide) (Nat.le_of_ble_eq_true rfl) (Nat.le_of_ble_eq_true rfl) (Nat.le_of_ble_eq_true rfl) dX7_init_7 (fun q1 => ?_)
  refine jc_putF (C := RX7) (T := TX7) (N := 8) (ci := 7) X hnm tyX7 tyX7_ok nmX7 0 rfl rfl hin_X7 0 (by decide) z_101 rfl rfl rfl rfl rfl (Nat.le_of_ble_eq_true rfl) dX7_init_9 [(h0, .inr (7, [.ref q1, .int 0, .int 0, .int 0, .int 0, .int 0, .int 0, .int 0])), (q1, az cs.1 80)] rfl ?_
  exact jc_vret X hr hk dX7_init_12 q1 [0, 1] (by decide) rfl
abbrev wI_X2 (cs : ClassId × ClassId × ClassId) (h0 : Nat) (u : (Nat) × (Nat → Nat)) : va_W := [(h0, .inr (2, [.ref u.1, .int 0, .int 0])), (u.1, rz cs.2.2 10 u.2), ((u.2 0), az cs.1 74), ((u.2 1), az cs.1 74), ((u.2 2), az cs.1 74), ((u.2 3), az cs.1 74), ((u.2 4), az cs.1 74), ((u.2 5), az cs.1 74), ((u.2 6), az cs.1 74), ((u.2 7), az cs.1 74), ((u.2 8), az cs.1 74), ((u.2 9), az cs.1 74)]
theorem pn_X2_init : yX2_init.cls ≠ "java/lang/invoke/MethodHandle" ∧ yX2_init.cls ≠ "java/lang/invoke/VarHandle" ∧ (parseMethodDescriptor yX2_init.desc).map (fun d => d.parameters.length) = some 0 := by decide +kernel
set_option maxRecDepth 100000 in
set_option maxHeartbeats 4000000 in
theorem c_X2_init (l : Launch) (D : va_G) (cs : ClassId × ClassId × ClassId) (h0 : Nat) : CMc l yX2_init cX2_init 1 1 11 750 12 D cs h0 (.inr (2, [.null, .int 0, .int 0])) (wI_X2 cs h0) := by
  refine CMc.of (by decide +kernel) rfl (Nat.le_of_ble_eq_true rfl) ?_
  intro p e s m args below meth c A X hnm hr hk
  refine jc_aload_n X dX2_init_0 rfl 0 rfl ?_
  refine jc_obj X z_131 z_82 z_83 (Nat.le_of_ble_eq_true rfl) (Nat.le_of_ble_eq_true rfl) dX2_init_1 ?_
  refine jc_aload_n X dX2_init_4 rfl 0 rfl ?_
  refine jc_bipush (v := 10) X dX2_init_5 (by decide) ?_
  refine jc_bipush (v := 74) X dX2_init_7 (by decide) ?_
  refine jc_mna (N := 10) (K := 74) X z_132 z_94 (by decide) (by decide) (by decide) (by decide) (Nat.le_of_ble_eq_true rfl) (Nat.le_of_ble_eq_true rfl) (Nat.le_of_ble_eq_true rfl) (Nat.le_of_ble_eq_true rfl) (Nat.le_of_ble_eq_true rfl) dX2_init_9 (fun q1 r1 => ?_)
  refine jc_putF (C := RX2) (T := TX2) (N := 3) (ci := 2) X hnm tyX2 tyX2_ok nmX2 0 rfl rfl hin_X2 0 (by decide) z_134 rfl rfl rfl rfl rfl (Nat.le_of_ble_eq_true rfl) dX2_init_13 [(h0, .inr (2, [.ref q1, .int 0, .int 0])), (q1, rz cs.2.2 10 r1), ((r1 0), az cs.1 74), ((r1 1), az cs.1 74), ((r1 2), az cs.1 74), ((r1 3), az cs.1 74), ((r1 4), az cs.1 74), ((r1 5), az cs.1 74), ((r1 6), az cs.1 74), ((r1 7), az cs.1 74), ((r1 8), az cs.1 74), ((r1 9), az cs.1 74)] rfl ?_
  exact jc_vret X hr hk dX2_init_16 (q1, r1) [0, 1, 2, 3, 4, 5, 6, 7, 8, 9, 10, 11] (by decide) rfl
abbrev wI_X0 (cs : ClassId × ClassId × ClassId) (h0 : Nat) (u : (Nat) × (Nat → Nat)) : va_W := [(h0, .inr (0, [.ref u.1, .int 0])), (u.1, rz cs.2.2 2 u.2), ((u.2 0), az cs.1 74), ((u.2 1), az cs.1 74)]
theorem pn_X0_init : yX0_init.cls ≠ "java/lang/invoke/MethodHandle" ∧ yX0_init.cls ≠ "java/lang/invoke/VarHandle" ∧ (parseMethodDescriptor yX0_init.desc).map (fun d => d.parameters.length) = some 0 := by decide +kernel
set_option maxRecDepth 100000 in
set_option maxHeartbeats 4000000 in
theorem c_X0_init (l : Launch) (D : va_G) (cs : ClassId × ClassId × ClassId) (h0 : Nat) : CMc l yX0_init cX0_init 1 1 3 150 12 D cs h0 (.inr (0, [.null, .int 0])) (wI_X0 cs h0) := by
  refine CMc.of (by decide +kernel) rfl (Nat.le_of_ble_eq_true rfl) ?_
  intro p e s m args below meth c A X hnm hr hk
  refine jc_aload_n X dX0_init_0 rfl 0 rfl ?_
  refine jc_obj X z_149 z_82 z_83 (Nat.le_of_ble_eq_true rfl) (Nat.le_of_ble_eq_true rfl) dX0_init_1 ?_
  refine jc_aload_n X dX0_init_4 rfl 0 rfl ?_
  refine jc_iconst (v := 2) X dX0_init_5 (by decide) ?_
  refine jc_bipush (v := 74) X dX0_init_6 (by decide) ?_
  refine jc_mna (N := 2) (K := 74) X z_150 z_94 (by decide) (by decide) (by decide) (by decide) (Nat.le_of_ble_eq_true rfl) (Nat.le_of_ble_eq_true rfl) (Nat.le_of_ble_eq_true rfl) (Nat.le_of_ble_eq_true rfl) (Nat.le_of_ble_eq_true rfl) dX0_init_8 (fun q1 r1 => ?_)
  refine jc_putF (C := RX0) (T := TX0) (N := 2) (ci := 0) X hnm tyX0 tyX0_ok nmX0 0 rfl rfl hin_X0 0 (by decide) z_151 rfl rfl rfl rfl rfl (Nat.le_of_ble_eq_true rfl) dX0_init_12 [(h0, .inr (0, [.ref q1, .int 0])), (q1, rz cs.2.2 2 r1), ((r1 0), az cs.1 74), ((r1 1), az cs.1 74)] rfl ?_
  exact jc_vret X hr hk dX0_init_15 (q1, r1) [0, 1, 2, 3] (by decide) rfl
abbrev wI_X4 (cs : ClassId × ClassId × ClassId) (h0 : Nat) (u : (Nat) × (Nat) × (Nat)) : va_W := [(h0, .inr (4, [.ref u.1, .ref u.2.1, .ref u.2.2, .int 0])), (u.1, az cs.1 6), (u.2.1, az cs.1 6), (u.2.2, az cs.1 6)]
theorem pn_X4_init : yX4_init.cls ≠ "java/lang/invoke/MethodHandle" ∧ yX4_init.cls ≠ "java/lang/invoke/VarHandle" ∧ (parseMethodDescriptor yX4_init.desc).map (fun d => d.parameters.length) = some 0 := by decide +kernel
set_option maxRecDepth 100000 in
set_option maxHeartbeats 4000000 in
theorem c_X4_init (l : Launch) (D : va_G) (cs : ClassId × ClassId × ClassId) (h0 : Nat) : CMc l yX4_init cX4_init 1 1 3 18 12 D cs h0 (.inr (4, [.null, .null, .null, .int 0])) (wI_X4 cs h0) := by
  refine CMc.of (by decide +kernel) rfl (Nat.le_of_ble_eq_true rfl) ?_
  intro p e s m args below meth c A X hnm hr hk
  refine jc_aload_n X dX4_init_0 rfl 0 rfl ?_
  refine jc_obj X z_163 z_82 z_83 (Nat.le_of_ble_eq_true rfl) (Nat.le_of_ble_eq_true rfl) dX4_init_1 ?_
  refine jc_aload_n X dX4_init_4 rfl 0 rfl ?_
  refine jc_bipush (v := 6) X dX4_init_5 (by decide) ?_
  refine jc_newI (N := 6) X z_94 (by decide) (by decide) (Nat.le_of_ble_eq_true rfl) (Nat.le_of_ble_eq_true rfl) (Nat.le_of_ble_eq_true rfl) dX4_init_7 (fun q1 => ?_)
  refine jc_putF (C := RX4) (T := TX4) (N := 4) (ci := 4) X hnm tyX4 tyX4_ok nmX4 0 rfl rfl hin_X4 0 (by decide) z_164 rfl rfl rfl rfl rfl (Nat.le_of_ble_eq_true rfl) dX4_init_9 [(h0, .inr (4, [.ref q1, .null, .null, .int 0])), (q1, az cs.1 6)] rfl ?_
  refine jc_aload_n X dX4_init_12 rfl 0 rfl ?_
  refine jc_bipush (v := 6) X dX4_init_13 (by decide) ?_
  refine jc_newI (N := 6) X z_94 (by decide) (by decide) (Nat.le_of_ble_eq_true rfl) (Nat.le_of_ble_eq_true rfl) (Nat.le_of_ble_eq_true rfl) dX4_init_15 (fun q2 => ?_)
  refine jc_putF (C := RX4) (T := TX4) (N := 4) (ci := 4) X hnm tyX4 tyX4_ok nmX4 0 rfl rfl hin_X4 1 (by decide) z_165 rfl rfl rfl rfl rfl (Nat.le_of_ble_eq_true rfl) dX4_init_17 [(h0, .inr (4, [.ref q1, .ref q2, .null, .int 0])), (q1, az cs.1 6), (q2, az cs.1 6)] rfl ?_
  refine jc_aload_n X dX4_init_20 rfl 0 rfl ?_
  refine jc_bipush (v := 6) X dX4_init_21 (by decide) ?_
  refine jc_newI (N := 6) X z_94 (by decide) (by decide) (Nat.le_of_ble_eq_true rfl) (Nat.le_of_ble_eq_true rfl) (Nat.le_of_ble_eq_true rfl) dX4_init_23 (fun q3 => ?_)
  refine jc_putF (C := RX4) (T := TX4) (N := 4) (ci := 4) X hnm tyX4 tyX4_ok nmX4 0 rfl rfl hin_X4 2 (by decide) z_166 rfl rfl rfl rfl rfl (Nat.le_of_ble_eq_true rfl) dX4_init_25 [(h0, .inr (4, [.ref q1, .ref q2, .ref q3, .int 0])), (q1, az cs.1 6), (q2, az cs.1 6), (q3, az cs.1 6)] rfl ?_
  exact jc_vret X hr hk dX4_init_28 (q1, q2, q3) [0, 1, 2, 3] (by decide) rfl
abbrev wI_X1 (cs : ClassId × ClassId × ClassId) (h0 : Nat) (u : (Nat) × (Nat)) : va_W := [(h0, .inr (1, [.ref u.1, .ref u.2])), (u.1, az cs.1 17), (u.2, az cs.1 17)]
theorem pn_X1_init : yX1_init.cls ≠ "java/lang/invoke/MethodHandle" ∧ yX1_init.cls ≠ "java/lang/invoke/VarHandle" ∧ (parseMethodDescriptor yX1_init.desc).map (fun d => d.parameters.length) = some 0 := by decide +kernel
set_option maxRecDepth 100000 in
set_option maxHeartbeats 4000000 in
theorem c_X1_init (l : Launch) (D : va_G) (cs : ClassId × ClassId × ClassId) (h0 : Nat) : CMc l yX1_init cX1_init 1 1 2 34 12 D cs h0 (.inr (1, [.null, .null])) (wI_X1 cs h0) := by
  refine CMc.of (by decide +kernel) rfl (Nat.le_of_ble_eq_true rfl) ?_
  intro p e s m args below meth c A X hnm hr hk
  refine jc_aload_n X dX1_init_0 rfl 0 rfl ?_
  refine jc_obj X z_182 z_82 z_83 (Nat.le_of_ble_eq_true rfl) (Nat.le_of_ble_eq_true rfl) dX1_init_1 ?_
  refine jc_aload_n X dX1_init_4 rfl 0 rfl ?_
  refine jc_bipush (v := 17) X dX1_init_5 (by decide) ?_
  refine jc_newI (N := 17) X z_94 (by decide) (by decide) (Nat.le_of_ble_eq_true rfl) (Nat.le_of_ble_eq_true rfl) (Nat.le_of_ble_eq_true rfl) dX1_init_7 (fun q1 => ?_)
  refine jc_putF (C := RX1) (T := TX1) (N := 2) (ci := 1) X hnm tyX1 tyX1_ok nmX1 0 rfl rfl hin_X1 0 (by decide) z_183 rfl rfl rfl rfl rfl (Nat.le_of_ble_eq_true rfl) dX1_init_9 [(h0, .inr (1, [.ref q1, .null])), (q1, az cs.1 17)] rfl ?_
  refine jc_aload_n X dX1_init_12 rfl 0 rfl ?_
  refine jc_bipush (v := 17) X dX1_init_13 (by decide) ?_
  refine jc_newI (N := 17) X z_94 (by decide) (by decide) (Nat.le_of_ble_eq_true rfl) (Nat.le_of_ble_eq_true rfl) (Nat.le_of_ble_eq_true rfl) dX1_init_15 (fun q2 => ?_)
  refine jc_putF (C := RX1) (T := TX1) (N := 2) (ci := 1) X hnm tyX1 tyX1_ok nmX1 0 rfl rfl hin_X1 1 (by decide) z_184 rfl rfl rfl rfl rfl (Nat.le_of_ble_eq_true rfl) dX1_init_17 [(h0, .inr (1, [.ref q1, .ref q2])), (q1, az cs.1 17), (q2, az cs.1 17)] rfl ?_
  exact jc_vret X hr hk dX1_init_20 (q1, q2) [0, 1, 2] (by decide) rfl
abbrev wI_X3 (cs : ClassId × ClassId × ClassId) (h0 : Nat) (u : (Nat) × ((Nat) × (Nat)) × (Nat) × (Nat → Nat) × (Nat) × (Nat → Nat) × (Nat) × (Nat)) : va_W := [(h0, .inr (3, [.ref u.1, .ref u.2.2.1, .ref u.2.2.2.2.1, .ref u.2.2.2.2.2.2.1, .ref u.2.2.2.2.2.2.2])), (u.1, .inr (1, [.ref u.2.1.1, .ref u.2.1.2])), (u.2.1.1, az cs.1 17), (u.2.1.2, az cs.1 17), (u.2.2.1, rz cs.2.2 14 u.2.2.2.1), ((u.2.2.2.1 0), az cs.1 17), ((u.2.2.2.1 1), az cs.1 17), ((u.2.2.2.1 2), az cs.1 17), ((u.2.2.2.1 3), az cs.1 17), ((u.2.2.2.1 4), az cs.1 17), ((u.2.2.2.1 5), az cs.1 17), ((u.2.2.2.1 6), az cs.1 17), ((u.2.2.2.1 7), az cs.1 17), ((u.2.2.2.1 8), az cs.1 17), ((u.2.2.2.1 9), az cs.1 17), ((u.2.2.2.1 10), az cs.1 17), ((u.2.2.2.1 11), az cs.1 17), ((u.2.2.2.1 12), az cs.1 17), ((u.2.2.2.1 13), az cs.1 17), (u.2.2.2.2.1, rz cs.2.2 14 u.2.2.2.2.2.1), ((u.2.2.2.2.2.1 0), az cs.1 17), ((u.2.2.2.2.2.1 1), az cs.1 17), ((u.2.2.2.2.2.1 2), az cs.1 17), ((u.2.2.2.2.2.1 3), az cs.1 17), ((u.2.2.2.2.2.1 4), az cs.1 17), ((u.2.2.2.2.2.1 5), az cs.1 17), ((u.2.2.2.2.2.1 6), az cs.1 17), ((u.2.2.2.2.2.1 7), az cs.1 17), ((u.2.2.2.2.2.1 8), az cs.1 17), ((u.2.2.2.2.2.1 9), az cs.1 17), ((u.2.2.2.2.2.1 10), az cs.1 17), ((u.2.2.2.2.2.1 11), az cs.1 17), ((u.2.2.2.2.2.1 12), az cs.1 17), ((u.2.2.2.2.2.1 13), az cs.1 17), (u.2.2.2.2.2.2.1, az cs.1 17), (u.2.2.2.2.2.2.2, az cs.1 17)]
theorem pn_X3_init : yX3_init.cls ≠ "java/lang/invoke/MethodHandle" ∧ yX3_init.cls ≠ "java/lang/invoke/VarHandle" ∧ (parseMethodDescriptor yX3_init.desc).map (fun d => d.parameters.length) = some 0 := by decide +kernel
set_option maxRecDepth 100000 in
set_option maxHeartbeats 4000000 in
theorem c_X3_init (l : Launch) (D : va_G) (cs : ClassId × ClassId × ClassId) (h0 : Nat) : CMc l yX3_init cX3_init 1 2 35 574 32 D cs h0 (.inr (3, [.null, .null, .null, .null, .null])) (wI_X3 cs h0) := by
  refine CMc.of (by decide +kernel) rfl (Nat.le_of_ble_eq_true rfl) ?_
  intro p e s m args below meth c A X hnm hr hk
  refine jc_aload_n X dX3_init_0 rfl 0 rfl ?_
  refine jc_obj X z_195 z_82 z_83 (Nat.le_of_ble_eq_true rfl) (Nat.le_of_ble_eq_true rfl) dX3_init_1 ?_
  refine jc_aload_n X dX3_init_4 rfl 0 rfl ?_
  refine jc_new (C := RX1) (T := TX1) (N := 2) (ci := 1) X tyX1 tyX1_ok hin_X1 z_196 z_178 z_65 rfl [.null, .null] (fun j hj => by match j, hj with | 0, _ => rfl | 1, _ => rfl | j + 2, hj => exact absurd hj (by omega)) (Nat.le_of_ble_eq_true rfl) (Nat.le_of_ble_eq_true rfl) dX3_init_5 (fun q1 => ?_)
  refine jc_dup X dX3_init_8 rfl ?_
  refine jc_call X [(h0, .inr (3, [.null, .null, .null, .null, .null]))] (c_X1_init l D cs q1) rfl rfl pn_X1_init z_197 z_180 z_65 z_181 ⟨Nat.le_of_ble_eq_true rfl, Nat.le_of_ble_eq_true rfl⟩ ⟨Nat.le_of_ble_eq_true rfl, Nat.le_of_ble_eq_true rfl⟩ (Nat.le_of_ble_eq_true rfl) dX3_init_9 (fun u1 => ?_)
  refine jc_putF (C := RX3) (T := TX3) (N := 5) (ci := 3) X hnm tyX3 tyX3_ok nmX3 0 rfl rfl hin_X3 0 (by decide) z_199 rfl rfl rfl rfl rfl (Nat.le_of_ble_eq_true rfl) dX3_init_12 [(h0, .inr (3, [.ref q1, .null, .null, .null, .null])), (q1, .inr (1, [.ref u1.1, .ref u1.2])), (u1.1, az cs.1 17), (u1.2, az cs.1 17)] rfl ?_
  refine jc_aload_n X dX3_init_15 rfl 0 rfl ?_
  refine jc_bipush (v := 14) X dX3_init_16 (by decide) ?_
  refine jc_bipush (v := 17) X dX3_init_18 (by decide) ?_
  refine jc_mna (N := 14) (K := 17) X z_198 z_94 (by decide) (by decide) (by decide) (by decide) (Nat.le_of_ble_eq_true rfl) (Nat.le_of_ble_eq_true rfl) (Nat.le_of_ble_eq_true rfl) (Nat.le_of_ble_eq_true rfl) (Nat.le_of_ble_eq_true rfl) dX3_init_20 (fun q2 r2 => ?_)
  refine jc_putF (C := RX3) (T := TX3) (N := 5) (ci := 3) X hnm tyX3 tyX3_ok nmX3 0 rfl rfl hin_X3 1 (by decide) z_200 rfl rfl rfl rfl rfl (Nat.le_of_ble_eq_true rfl) dX3_init_24 [(h0, .inr (3, [.ref q1, .ref q2, .null, .null, .null])), (q1, .inr (1, [.ref u1.1, .ref u1.2])), (u1.1, az cs.1 17), (u1.2, az cs.1 17), (q2, rz cs.2.2 14 r2), ((r2 0), az cs.1 17), ((r2 1), az cs.1 17), ((r2 2), az cs.1 17), ((r2 3), az cs.1 17), ((r2 4), az cs.1 17), ((r2 5), az cs.1 17), ((r2 6), az cs.1 17), ((r2 7), az cs.1 17), ((r2 8), az cs.1 17), ((r2 9), az cs.1 17), ((r2 10), az cs.1 17), ((r2 11), az cs.1 17), ((r2 12), az cs.1 17), ((r2 13), az cs.1 17)] rfl ?_
  refine jc_aload_n X dX3_init_27 rfl 0 rfl ?_
  refine jc_bipush (v := 14) X dX3_init_28 (by decide) ?_
  refine jc_bipush (v := 17) X dX3_init_30 (by decide) ?_
  refine jc_mna (N := 14) (K := 17) X z_198 z_94 (by decide) (by decide) (by decide) (by decide) (Nat.le_of_ble_eq_true rfl) (Nat.le_of_ble_eq_true rfl) (Nat.le_of_ble_eq_true rfl) (Nat.le_of_ble_eq_true rfl) (Nat.le_of_ble_eq_true rfl) dX3_init_32 (fun q3 r3 => ?_)
  refine jc_putF (C := RX3) (T := TX3) (N := 5) (ci := 3) X hnm tyX3 tyX3_ok nmX3 0 rfl rfl hin_X3 2 (by decide) z_201 rfl rfl rfl rfl rfl (Nat.le_of_ble_eq_true rfl) dX3_init_36 [(h0, .inr (3, [.ref q1, .ref q2, .ref q3, .null, .null])), (q1, .inr (1, [.ref u1.1, .ref u1.2])), (u1.1, az cs.1 17), (u1.2, az cs.1 17), (q2, rz cs.2.2 14 r2), ((r2 0), az cs.1 17), ((r2 1), az cs.1 17), ((r2 2), az cs.1 17), ((r2 3), az cs.1 17), ((r2 4), az cs.1 17), ((r2 5), az cs.1 17), ((r2 6), az cs.1 17), ((r2 7), az cs.1 17), ((r2 8), az cs.1 17), ((r2 9), az cs.1 17), ((r2 10), az cs.1 17), ((r2 11), az cs.1 17), ((r2 12), az cs.1 17), ((r2 13), az cs.1 17), (q3, rz cs.2.2 14 r3), ((r3 0), az cs.1 17), ((r3 1), az cs.1 17), ((r3 2), az cs.1 17), ((r3 3), az cs.1 17), ((r3 4), az cs.1 17), ((r3 5), az cs.1 17), ((r3 6), az cs.1 17), ((r3 7), az cs.1 17), ((r3 8), az cs.1 17), ((r3 9), az cs.1 17), ((r3 10), az cs.1 17), ((r3 11), az cs.1 17), ((r3 12), az cs.1 17), ((r3 13), az cs.1 17)] rfl ?_
  refine jc_aload_n X dX3_init_39 rfl 0 rfl ?_
  refine jc_bipush (v := 17) X dX3_init_40 (by decide) ?_
  refine jc_newI (N := 17) X z_94 (by decide) (by decide) (Nat.le_of_ble_eq_true rfl) (Nat.le_of_ble_eq_true rfl) (Nat.le_of_ble_eq_true rfl) dX3_init_42 (fun q4 => ?_)
  refine jc_putF (C := RX3) (T := TX3) (N := 5) (ci := 3) X hnm tyX3 tyX3_ok nmX3 0 rfl rfl hin_X3 3 (by decide) z_202 rfl rfl rfl rfl rfl (Nat.le_of_ble_eq_true rfl) dX3_init_44 [(h0, .inr (3, [.ref q1, .ref q2, .ref q3, .ref q4, .null])), (q1, .inr (1, [.ref u1.1, .ref u1.2])), (u1.1, az cs.1 17), (u1.2, az cs.1 17), (q2, rz cs.2.2 14 r2), ((r2 0), az cs.1 17), ((r2 1), az cs.1 17), ((r2 2), az cs.1 17), ((r2 3), az cs.1 17), ((r2 4), az cs.1 17), ((r2 5), az cs.1 17), ((r2 6), az cs.1 17), ((r2 7), az cs.1 17), ((r2 8), az cs.1 17), ((r2 9), az cs.1 17), ((r2 10), az cs.1 17), ((r2 11), az cs.1 17), ((r2 12), az cs.1 17), ((r2 13), az cs.1 17), (q3, rz cs.2.2 14 r3), ((r3 0), az cs.1 17), ((r3 1), az cs.1 17), ((r3 2), az cs.1 17), ((r3 3), az cs.1 17), ((r3 4), az cs.1 17), ((r3 5), az cs.1 17), ((r3 6), az cs.1 17), ((r3 7), az cs.1 17), ((r3 8), az cs.1 17), ((r3 9), az cs.1 17), ((r3 10), az cs.1 17), ((r3 11), az cs.1 17), ((r3 12), az cs.1 17), ((r3 13), az cs.1 17), (q4, az cs.1 17)] rfl ?_
  refine jc_aload_n X dX3_init_47 rfl 0 rfl ?_
  refine jc_bipush (v := 17) X dX3_init_48 (by decide) ?_
  refine jc_newI (N := 17) X z_94 (by decide) (by decide) (Nat.le_of_ble_eq_true rfl) (Nat.le_of_ble_eq_true rfl) (Nat.le_of_ble_eq_true rfl) dX3_init_50 (fun q5 => ?_)
  refine jc_putF (C := RX3) (T := TX3) (N := 5) (ci := 3) X hnm tyX3 tyX3_ok nmX3 0 rfl rfl hin_X3 4 (by decide) z_203 rfl rfl rfl rfl rfl (Nat.le_of_ble_eq_true rfl) dX3_init_52 [(h0, .inr (3, [.ref q1, .ref q2, .ref q3, .ref q4, .ref q5])), (q1, .inr (1, [.ref u1.1, .ref u1.2])), (u1.1, az cs.1 17), (u1.2, az cs.1 17), (q2, rz cs.2.2 14 r2), ((r2 0), az cs.1 17), ((r2 1), az cs.1 17), ((r2 2), az cs.1 17), ((r2 3), az cs.1 17), ((r2 4), az cs.1 17), ((r2 5), az cs.1 17), ((r2 6), az cs.1 17), ((r2 7), az cs.1 17), ((r2 8), az cs.1 17), ((r2 9), az cs.1 17), ((r2 10), az cs.1 17), ((r2 11), az cs.1 17), ((r2 12), az cs.1 17), ((r2 13), az cs.1 17), (q3, rz cs.2.2 14 r3), ((r3 0), az cs.1 17), ((r3 1), az cs.1 17), ((r3 2), az cs.1 17), ((r3 3), az cs.1 17), ((r3 4), az cs.1 17), ((r3 5), az cs.1 17), ((r3 6), az cs.1 17), ((r3 7), az cs.1 17), ((r3 8), az cs.1 17), ((r3 9), az cs.1 17), ((r3 10), az cs.1 17), ((r3 11), az cs.1 17), ((r3 12), az cs.1 17), ((r3 13), az cs.1 17), (q4, az cs.1 17), (q5, az cs.1 17)] rfl ?_
  exact jc_vret X hr hk dX3_init_55 (q1, u1, q2, r2, q3, r3, q4, q5) [0, 1, 2, 3, 4, 5, 6, 7, 8, 9, 10, 11, 12, 13, 14, 15, 16, 17, 18, 19, 20, 21, 22, 23, 24, 25, 26, 27, 28, 29, 30, 31, 32, 33, 34, 35] (by decide) rfl
abbrev wI_X5 (cs : ClassId × ClassId × ClassId) (h0 : Nat) (u : (Nat) × (Nat) × (Nat) × (Nat) × (Nat) × (Nat) × (Nat → Nat)) : va_W := [(h0, .inr (5, [.ref u.1, .ref u.2.1, .ref u.2.2.1, .ref u.2.2.2.1, .ref u.2.2.2.2.1, .ref u.2.2.2.2.2.1, .int 0, .int 0])), (u.1, az cs.1 8), (u.2.1, az cs.1 8), (u.2.2.1, az cs.1 256), (u.2.2.2.1, az cs.1 256), (u.2.2.2.2.1, az cs.1 8), (u.2.2.2.2.2.1, rz cs.2.2 8 u.2.2.2.2.2.2), ((u.2.2.2.2.2.2 0), az cs.1 8), ((u.2.2.2.2.2.2 1), az cs.1 8), ((u.2.2.2.2.2.2 2), az cs.1 8), ((u.2.2.2.2.2.2 3), az cs.1 8), ((u.2.2.2.2.2.2 4), az cs.1 8), ((u.2.2.2.2.2.2 5), az cs.1 8), ((u.2.2.2.2.2.2 6), az cs.1 8), ((u.2.2.2.2.2.2 7), az cs.1 8)]
theorem pn_X5_init : yX5_init.cls ≠ "java/lang/invoke/MethodHandle" ∧ yX5_init.cls ≠ "java/lang/invoke/VarHandle" ∧ (parseMethodDescriptor yX5_init.desc).map (fun d => d.parameters.length) = some 0 := by decide +kernel
set_option maxRecDepth 100000 in
set_option maxHeartbeats 4000000 in
theorem c_X5_init (l : Launch) (D : va_G) (cs : ClassId × ClassId × ClassId) (h0 : Nat) : CMc l yX5_init cX5_init 1 1 14 608 12 D cs h0 (.inr (5, [.null, .null, .null, .null, .null, .null, .int 0, .int 0])) (wI_X5 cs h0) := by
  refine CMc.of (by decide +kernel) rfl (Nat.le_of_ble_eq_true rfl) ?_
  intro p e s m args below meth c A X hnm hr hk
  refine jc_aload_n X dX5_init_0 rfl 0 rfl ?_
  refine jc_obj X z_220 z_82 z_83 (Nat.le_of_ble_eq_true rfl) (Nat.le_of_ble_eq_true rfl) dX5_init_1 ?_
  refine jc_aload_n X dX5_init_4 rfl 0 rfl ?_
  refine jc_bipush (v := 8) X dX5_init_5 (by decide) ?_
  refine jc_newI (N := 8) X z_94 (by decide) (by decide) (Nat.le_of_ble_eq_true rfl) (Nat.le_of_ble_eq_true rfl) (Nat.le_of_ble_eq_true rfl) dX5_init_7 (fun q1 => ?_)
  refine jc_putF (C := RX5) (T := TX5) (N := 8) (ci := 5) X hnm tyX5 tyX5_ok nmX5 0 rfl rfl hin_X5 0 (by decide) z_222 rfl rfl rfl rfl rfl (Nat.le_of_ble_eq_true rfl) dX5_init_9 [(h0, .inr (5, [.ref q1, .null, .null, .null, .null, .null, .int 0, .int 0])), (q1, az cs.1 8)] rfl ?_
  refine jc_aload_n X dX5_init_12 rfl 0 rfl ?_
  refine jc_bipush (v := 8) X dX5_init_13 (by decide) ?_
  refine jc_newI (N := 8) X z_94 (by decide) (by decide) (Nat.le_of_ble_eq_true rfl) (Nat.le_of_ble_eq_true rfl) (Nat.le_of_ble_eq_true rfl) dX5_init_15 (fun q2 => ?_)
  refine jc_putF (C := RX5) (T := TX5) (N := 8) (ci := 5) X hnm tyX5 tyX5_ok nmX5 0 rfl rfl hin_X5 1 (by decide) z_223 rfl rfl rfl rfl rfl (Nat.le_of_ble_eq_true rfl) dX5_init_17 [(h0, .inr (5, [.ref q1, .ref q2, .null, .null, .null, .null, .int 0, .int 0])), (q1, az cs.1 8), (q2, az cs.1 8)] rfl ?_
  refine jc_aload_n X dX5_init_20 rfl 0 rfl ?_
  refine jc_sipush (v := 256) X dX5_init_21 (by decide) ?_
  refine jc_newI (N := 256) X z_94 (by decide) (by decide) (Nat.le_of_ble_eq_true rfl) (Nat.le_of_ble_eq_true rfl) (Nat.le_of_ble_eq_true rfl) dX5_init_24 (fun q3 => ?_)
  refine jc_putF (C := RX5) (T := TX5) (N := 8) (ci := 5) X hnm tyX5 tyX5_ok nmX5 0 rfl rfl hin_X5 2 (by decide) z_224 rfl rfl rfl rfl rfl (Nat.le_of_ble_eq_true rfl) dX5_init_26 [(h0, .inr (5, [.ref q1, .ref q2, .ref q3, .null, .null, .null, .int 0, .int 0])), (q1, az cs.1 8), (q2, az cs.1 8), (q3, az cs.1 256)] rfl ?_
  refine jc_aload_n X dX5_init_29 rfl 0 rfl ?_
  refine jc_sipush (v := 256) X dX5_init_30 (by decide) ?_
  refine jc_newI (N := 256) X z_94 (by decide) (by decide) (Nat.le_of_ble_eq_true rfl) (Nat.le_of_ble_eq_true rfl) (Nat.le_of_ble_eq_true rfl) dX5_init_33 (fun q4 => ?_)
  refine jc_putF (C := RX5) (T := TX5) (N := 8) (ci := 5) X hnm tyX5 tyX5_ok nmX5 0 rfl rfl hin_X5 3 (by decide) z_225 rfl rfl rfl rfl rfl (Nat.le_of_ble_eq_true rfl) dX5_init_35 [(h0, .inr (5, [.ref q1, .ref q2, .ref q3, .ref q4, .null, .null, .int 0, .int 0])), (q1, az cs.1 8), (q2, az cs.1 8), (q3, az cs.1 256), (q4, az cs.1 256)] rfl ?_
  refine jc_aload_n X dX5_init_38 rfl 0 rfl ?_
  refine jc_bipush (v := 8) X dX5_init_39 (by decide) ?_
  refine jc_newI (N := 8) X z_94 (by decide) (by decide) (Nat.le_of_ble_eq_true rfl) (Nat.le_of_ble_eq_true rfl) (Nat.le_of_ble_eq_true rfl) dX5_init_41 (fun q5 => ?_)
  refine jc_putF (C := RX5) (T := TX5) (N := 8) (ci := 5) X hnm tyX5 tyX5_ok nmX5 0 rfl rfl hin_X5 4 (by decide) z_226 rfl rfl rfl rfl rfl (Nat.le_of_ble_eq_true rfl) dX5_init_43 [(h0, .inr (5, [.ref q1, .ref q2, .ref q3, .ref q4, .ref q5, .null, .int 0, .int 0])), (q1, az cs.1 8), (q2, az cs.1 8), (q3, az cs.1 256), (q4, az cs.1 256), (q5, az cs.1 8)] rfl ?_
  refine jc_aload_n X dX5_init_46 rfl 0 rfl ?_
  refine jc_bipush (v := 8) X dX5_init_47 (by decide) ?_
  refine jc_bipush (v := 8) X dX5_init_49 (by decide) ?_
  refine jc_mna (N := 8) (K := 8) X z_221 z_94 (by decide) (by decide) (by decide) (by decide) (Nat.le_of_ble_eq_true rfl) (Nat.le_of_ble_eq_true rfl) (Nat.le_of_ble_eq_true rfl) (Nat.le_of_ble_eq_true rfl) (Nat.le_of_ble_eq_true rfl) dX5_init_51 (fun q6 r6 => ?_)
  refine jc_putF (C := RX5) (T := TX5) (N := 8) (ci := 5) X hnm tyX5 tyX5_ok nmX5 0 rfl rfl hin_X5 5 (by decide) z_227 rfl rfl rfl rfl rfl (Nat.le_of_ble_eq_true rfl) dX5_init_55 [(h0, .inr (5, [.ref q1, .ref q2, .ref q3, .ref q4, .ref q5, .ref q6, .int 0, .int 0])), (q1, az cs.1 8), (q2, az cs.1 8), (q3, az cs.1 256), (q4, az cs.1 256), (q5, az cs.1 8), (q6, rz cs.2.2 8 r6), ((r6 0), az cs.1 8), ((r6 1), az cs.1 8), ((r6 2), az cs.1 8), ((r6 3), az cs.1 8), ((r6 4), az cs.1 8), ((r6 5), az cs.1 8), ((r6 6), az cs.1 8), ((r6 7), az cs.1 8)] rfl ?_
  exact jc_vret X hr hk dX5_init_58 (q1, q2, q3, q4, q5, q6, r6) [0, 1, 2, 3, 4, 5, 6, 7, 8, 9, 10, 11, 12, 13, 14] (by decide) rfl
abbrev wI_X8 (cs : ClassId × ClassId × ClassId) (h0 : Nat) (u : (Nat) × ((Nat)) × (Nat) × ((Nat)) × (Nat) × ((Nat)) × (Nat) × ((Nat) × (Nat → Nat)) × (Nat) × ((Nat) × (Nat → Nat)) × (Nat) × ((Nat) × (Nat) × (Nat)) × (Nat) × ((Nat) × (Nat)) × (Nat) × ((Nat) × ((Nat) × (Nat)) × (Nat) × (Nat → Nat) × (Nat) × (Nat → Nat) × (Nat) × (Nat)) × (Nat) × ((Nat) × (Nat) × (Nat) × (Nat) × (Nat) × (Nat) × (Nat → Nat))) : va_W := [(h0, .inr (8, [.ref u.1, .ref u.2.2.1, .ref u.2.2.2.2.1, .ref u.2.2.2.2.2.2.1, .ref u.2.2.2.2.2.2.2.2.1, .ref u.2.2.2.2.2.2.2.2.2.2.1, .ref u.2.2.2.2.2.2.2.2.2.2.2.2.1, .ref u.2.2.2.2.2.2.2.2.2.2.2.2.2.2.1, .ref u.2.2.2.2.2.2.2.2.2.2.2.2.2.2.2.2.1])), (u.1, .inr (6, [.ref u.2.1])), (u.2.1, az cs.1 74), (u.2.2.1, .inr (6, [.ref u.2.2.2.1])), (u.2.2.2.1, az cs.1 74), (u.2.2.2.2.1, .inr (7, [.ref u.2.2.2.2.2.1, .int 0, .int 0, .int 0, .int 0, .int 0, .int 0, .int 0])), (u.2.2.2.2.2.1, az cs.1 80), (u.2.2.2.2.2.2.1, .inr (2, [.ref u.2.2.2.2.2.2.2.1.1, .int 0, .int 0])), (u.2.2.2.2.2.2.2.1.1, rz cs.2.2 10 u.2.2.2.2.2.2.2.1.2), ((u.2.2.2.2.2.2.2.1.2 0), az cs.1 74), ((u.2.2.2.2.2.2.2.1.2 1), az cs.1 74), ((u.2.2.2.2.2.2.2.1.2 2), az cs.1 74), ((u.2.2.2.2.2.2.2.1.2 3), az cs.1 74), ((u.2.2.2.2.2.2.2.1.2 4), az cs.1 74), ((u.2.2.2.2.2.2.2.1.2 5), az cs.1 74), ((u.2.2.2.2.2.2.2.1.2 6), az cs.1 74), ((u.2.2.2.2.2.2.2.1.2 7), az cs.1 74), ((u.2.2.2.2.2.2.2.1.2 8), az cs.1 74), ((u.2.2.2.2.2.2.2.1.2 9), az cs.1 74), (u.2.2.2.2.2.2.2.2.1, .inr (0, [.ref u.2.2.2.2.2.2.2.2.2.1.1, .int 0])), (u.2.2.2.2.2.2.2.2.2.1.1, rz cs.2.2 2 u.2.2.2.2.2.2.2.2.2.1.2), ((u.2.2.2.2.2.2.2.2.2.1.2 0), az cs.1 74), ((u.2.2.2.2.2.2.2.2.2.1.2 1), az cs.1 74), (u.2.2.2.2.2.2.2.2.2.2.1, .inr (4, [.ref u.2.2.2.2.2.2.2.2.2.2.2.1.1, .ref u.2.2.2.2.2.2.2.2.2.2.2.1.2.1, .ref u.2.2.2.2.2.2.2.2.2.2.2.1.2.2, .int 0])), (u.2.2.2.2.2.2.2.2.2.2.2.1.1, az cs.1 6), (u.2.2.2.2.2.2.2.2.2.2.2.1.2.1, az cs.1 6), (u.2.2.2.2.2.2.2.2.2.2.2.1.2.2, az cs.1 6), (u.2.2.2.2.2.2.2.2.2.2.2.2.1, .inr (1, [.ref u.2.2.2.2.2.2.2.2.2.2.2.2.2.1.1, .ref u.2.2.2.2.2.2.2.2.2.2.2.2.2.1.2])), (u.2.2.2.2.2.2.2.2.2.2.2.2.2.1.1, az cs.1 17), (u.2.2.2.2.2.2.2.2.2.2.2.2.2.1.2, az cs.1 17), (u.2.2.2.2.2.2.2.2.2.2.2.2.2.2.1, .inr (3, [.ref u.2.2.2.2.2.2.2.2.2.2.2.2.2.2.2.1.1, .ref u.2.2.2.2.2.2.2.2.2.2.2.2.2.2.2.1.2.2.1, .ref u.2.2.2.2.2.2.2.2.2.2.2.2.2.2.2.1.2.2.2.2.1, .ref u.2.2.2.2.2.2.2.2.2.2.2.2.2.2.2.1.2.2.2.2.2.2.1, .ref u.2.2.2.2.2.2.2.2.2.2.2.2.2.2.2.1.2.2.2.2.2.2.2])), (u.2.2.2.2.2.2.2.2.2.2.2.2.2.2.2.1.1, .inr (1, [.ref u.2.2.2.2.2.2.2.2.2.2.2.2.2.2.2.1.2.1.1, .ref u.2.2.2.2.2.2.2.2.2.2.2.2.2.2.2.1.2.1.2])), (u.2.2.2.2.2.2.2.2.2.2.2.2.2.2.2.1.2.1.1, az cs.1 17), (u.2.2.2.2.2.2.2.2.2.2.2.2.2.2.2.1.2.1.2, az cs.1 17), (u.2.2.2.2.2.2.2.2.2.2.2.2.2.2.2.1.2.2.1, rz cs.2.2 14 u.2.2.2.2.2.2.2.2.2.2.2.2.2.2.2.1.2.2.2.1), ((u.2.2.2.2.2.2.2.2.2.2.2.2.2.2.2.1.2.2.2.1 0), az cs.1 17), ((u.2.2.2.2.2.2.2.2.2.2.2.2.2.2.2.1.2.2.2.1 1), az cs.1 17), ((u.2.2.2.2.2.2.2.2.2.2.2.2.2.2.2.1.2.2.2.1 2), az cs.1 17), ((u.2.2.2.2.2.2.2.2.2.2.2.2.2.2.2.1.2.2.2.1 3), az cs.1 17), ((u.2.2.2.2.2.2.2.2.2.2.2.2.2.2.2.1.2.2.2.1 4), az cs.1 17), ((u.2.2.2.2.2.2.2.2.2.2.2.2.2.2.2.1.2.2.2.1 5), az cs.1 17), ((u.2.2.2.2.2.2.2.2.2.2.2.2.2.2.2.1.2.2.2.1 6), az cs.1 17), ((u.2.2.2.2.2.2.2.2.2.2.2.2.2.2.2.1.2.2.2.1 7), az cs.1 17), ((u.2.2.2.2.2.2.2.2.2.2.2.2.2.2.2.1.2.2.2.1 8), az cs.1 17), ((u.2.2.2.2.2.2.2.2.2.2.2.2.2.2.2.1.2.2.2.1 9), az cs.1 17), ((u.2.2.2.2.2.2.2.2.2.2.2.2.2.2.2.1.2.2.2.1 10), az cs.1 17), ((u.2.2.2.2.2.2.2.2.2.2.2.2.2.2.2.1.2.2.2.1 11), az cs.1 17), ((u.2.2.2.2.2.2.2.2.2.2.2.2.2.2.2.1.2.2.2.1 12), az cs.1 17), ((u.2.2.2.2.2.2.2.2.2.2.2.2.2.2.2.1.2.2.2.1 13), az cs.1 17), (u.2.2.2.2.2.2.2.2.2.2.2.2.2.2.2.1.2.2.2.2.1, rz cs.2.2 14 u.2.2.2.2.2.2.2.2.2.2.2.2.2.2.2.1.2.2.2.2.2.1), ((u.2.2.2.2.2.2.2.2.2.2.2.2.2.2.2.1.2.2.2.2.2.1 0), az cs.1 17), ((u.2.2.2.2.2.2.2.2.2.2.2.2.2.2.2.1.2.2.2.2.2.1 1), az cs.1 17), ((u.2.2.2.2.2.2.2.2.2.2.2.2.2.2.2.1.2.2.2.2.2.1 2), az cs.1 17), ((u.2.2.2.2.2.2.2.2.2.2.2.2.2.2.2.1.2.2.2.2.2.1 3), az cs.1 17), ((u.2.2.2.2.2.2.2.2.2.2.2.2.2.2.2.1.2.2.2.2.2.1 4), az cs.1 17), ((u.2.2.2.2.2.2.2.2.2.2.2.2.2.2.2.1.2.2.2.2.2.1 5), az cs.1 17), ((u.2.2.2.2.2.2.2.2.2.2.2.2.2.2.2.1.2.2.2.2.2.1 6), az cs.1 17), ((u.2.2.2.2.2.2.2.2.2.2.2.2.2.2.2.1.2.2.2.2.2.1 7), az cs.1 17), ((u.2.2.2.2.2.2.2.2.2.2.2.2.2.2.2.1.2.2.2.2.2.1 8), az cs.1 17), ((u.2.2.2.2.2.2.2.2.2.2.2.2.2.2.2.1.2.2.2.2.2.1 9), az cs.1 17), ((u.2.2.2.2.2.2.2.2.2.2.2.2.2.2.2.1.2.2.2.2.2.1 10), az cs.1 17), ((u.2.2.2.2.2.2.2.2.2.2.2.2.2.2.2.1.2.2.2.2.2.1 11), az cs.1 17), ((u.2.2.2.2.2.2.2.2.2.2.2.2.2.2.2.1.2.2.2.2.2.1 12), az cs.1 17), ((u.2.2.2.2.2.2.2.2.2.2.2.2.2.2.2.1.2.2.2.2.2.1 13), az cs.1 17), (u.2.2.2.2.2.2.2.2.2.2.2.2.2.2.2.1.2.2.2.2.2.2.1, az cs.1 17), (u.2.2.2.2.2.2.2.2.2.2.2.2.2.2.2.1.2.2.2.2.2.2.2, az cs.1 17), (u.2.2.2.2.2.2.2.2.2.2.2.2.2.2.2.2.1, .inr (5, [.ref u.2.2.2.2.2.2.2.2.2.2.2.2.2.2.2.2.2.1, .ref u.2.2.2.2.2.2.2.2.2.2.2.2.2.2.2.2.2.2.1, .ref u.2.2.2.2.2.2.2.2.2.2.2.2.2.2.2.2.2.2.2.1, .ref u.2.2.2.2.2.2.2.2.2.2.2.2.2.2.2.2.2.2.2.2.1, .ref u.2.2.2.2.2.2.2.2.2.2.2.2.2.2.2.2.2.2.2.2.2.1, .ref u.2.2.2.2.2.2.2.2.2.2.2.2.2.2.2.2.2.2.2.2.2.2.1, .int 0, .int 0])), (u.2.2.2.2.2.2.2.2.2.2.2.2.2.2.2.2.2.1, az cs.1 8), (u.2.2.2.2.2.2.2.2.2.2.2.2.2.2.2.2.2.2.1, az cs.1 8), (u.2.2.2.2.2.2.2.2.2.2.2.2.2.2.2.2.2.2.2.1, az cs.1 256), (u.2.2.2.2.2.2.2.2.2.2.2.2.2.2.2.2.2.2.2.2.1, az cs.1 256), (u.2.2.2.2.2.2.2.2.2.2.2.2.2.2.2.2.2.2.2.2.2.1, az cs.1 8), (u.2.2.2.2.2.2.2.2.2.2.2.2.2.2.2.2.2.2.2.2.2.2.1, rz cs.2.2 8 u.2.2.2.2.2.2.2.2.2.2.2.2.2.2.2.2.2.2.2.2.2.2.2), ((u.2.2.2.2.2.2.2.2.2.2.2.2.2.2.2.2.2.2.2.2.2.2.2 0), az cs.1 8), ((u.2.2.2.2.2.2.2.2.2.2.2.2.2.2.2.2.2.2.2.2.2.2.2 1), az cs.1 8), ((u.2.2.2.2.2.2.2.2.2.2.2.2.2.2.2.2.2.2.2.2.2.2.2 2), az cs.1 8), ((u.2.2.2.2.2.2.2.2.2.2.2.2.2.2.2.2.2.2.2.2.2.2.2 3), az cs.1 8), ((u.2.2.2.2.2.2.2.2.2.2.2.2.2.2.2.2.2.2.2.2.2.2.2 4), az cs.1 8), ((u.2.2.2.2.2.2.2.2.2.2.2.2.2.2.2.2.2.2.2.2.2.2.2 5), az cs.1 8), ((u.2.2.2.2.2.2.2.2.2.2.2.2.2.2.2.2.2.2.2.2.2.2.2 6), az cs.1 8), ((u.2.2.2.2.2.2.2.2.2.2.2.2.2.2.2.2.2.2.2.2.2.2.2 7), az cs.1 8)]
theorem pn_X8_init : yX8_init.cls ≠ "java/lang/invoke/MethodHandle" ∧ yX8_init.cls ≠ "java/lang/invoke/VarHandle" ∧ (parseMethodDescriptor yX8_init.desc).map (fun d => d.parameters.length) = some 0 := by decide +kernel
set_option maxRecDepth 100000 in
set_option maxHeartbeats 4000000 in
theorem c_X8_init (l : Launch) (D : va_G) (cs : ClassId × ClassId × ClassId) (h0 : Nat) : CMc l yX8_init cX8_init 1 3 80 2396 52 D cs h0 (.inr (8, [.null, .null, .null, .null, .null, .null, .null, .null, .null])) (wI_X8 cs h0) := by
  refine CMc.of (by decide +kernel) rfl (Nat.le_of_ble_eq_true rfl) ?_
  intro p e s m args below meth c A X hnm hr hk
  refine jc_aload_n X dX8_init_0 rfl 0 rfl ?_
  refine jc_obj X z_81 z_82 z_83 (Nat.le_of_ble_eq_true rfl) (Nat.le_of_ble_eq_true rfl) dX8_init_1 ?_
  refine jc_aload_n X dX8_init_4 rfl 0 rfl ?_
  refine jc_new (C := RX6) (T := TX6) (N := 1) (ci := 6) X tyX6 tyX6_ok hin_X6 z_84 z_85 z_60 rfl [.null] (fun j hj => by match j, hj with | 0, _ => rfl | j + 1, hj => exact absurd hj (by omega)) (Nat.le_of_ble_eq_true rfl) (Nat.le_of_ble_eq_true rfl) dX8_init_5 (fun q1 => ?_)
  refine jc_dup X dX8_init_8 rfl ?_
  refine jc_call X [(h0, .inr (8, [.null, .null, .null, .null, .null, .null, .null, .null, .null]))] (c_X6_init l D cs q1) rfl rfl pn_X6_init z_86 z_87 z_60 z_88 ⟨Nat.le_of_ble_eq_true rfl, Nat.le_of_ble_eq_true rfl⟩ ⟨Nat.le_of_ble_eq_true rfl, Nat.le_of_ble_eq_true rfl⟩ (Nat.le_of_ble_eq_true rfl) dX8_init_9 (fun u1 => ?_)
  refine jc_putF (C := RX8) (T := TX8) (N := 9) (ci := 8) X hnm tyX8 tyX8_ok nmX8 0 rfl rfl hin_X8 0 (by decide) z_247 rfl rfl rfl rfl rfl (Nat.le_of_ble_eq_true rfl) dX8_init_12 [(h0, .inr (8, [.ref q1, .null, .null, .null, .null, .null, .null, .null, .null])), (q1, .inr (6, [.ref u1])), (u1, az cs.1 74)] rfl ?_
  refine jc_aload_n X dX8_init_15 rfl 0 rfl ?_
  refine jc_new (C := RX6) (T := TX6) (N := 1) (ci := 6) X tyX6 tyX6_ok hin_X6 z_84 z_85 z_60 rfl [.null] (fun j hj => by match j, hj with | 0, _ => rfl | j + 1, hj => exact absurd hj (by omega)) (Nat.le_of_ble_eq_true rfl) (Nat.le_of_ble_eq_true rfl) dX8_init_16 (fun q2 => ?_)
  refine jc_dup X dX8_init_19 rfl ?_
  refine jc_call X [(h0, .inr (8, [.ref q1, .null, .null, .null, .null, .null, .null, .null, .null])), (q1, .inr (6, [.ref u1])), (u1, az cs.1 74)] (c_X6_init l D cs q2) rfl rfl pn_X6_init z_86 z_87 z_60 z_88 ⟨Nat.le_of_ble_eq_true rfl, Nat.le_of_ble_eq_true rfl⟩ ⟨Nat.le_of_ble_eq_true rfl, Nat.le_of_ble_eq_true rfl⟩ (Nat.le_of_ble_eq_true rfl) dX8_init_20 (fun u2 => ?_)
  refine jc_putF (C := RX8) (T := TX8) (N := 9) (ci := 8) X hnm tyX8 tyX8_ok nmX8 0 rfl rfl hin_X8 1 (by decide) z_248 rfl rfl rfl rfl rfl (Nat.le_of_ble_eq_true rfl) dX8_init_23 [(h0, .inr (8, [.ref q1, .ref q2, .null, .null, .null, .null, .null, .null, .null])), (q1, .inr (6, [.ref u1])), (u1, az cs.1 74), (q2, .inr (6, [.ref u2])), (u2, az cs.1 74)] rfl ?_
  refine jc_aload_n X dX8_init_26 rfl 0 rfl ?_
  refine jc_new (C := RX7) (T := TX7) (N := 8) (ci := 7) X tyX7 tyX7_ok hin_X7 z_95 z_96 z_61 rfl [.null, .int 0, .int 0, .int 0, .int 0, .int 0, .int 0, .int 0] (fun j hj => by match j, hj with | 0, _ => rfl | 1, _ => rfl | 2, _ => rfl | 3, _ => rfl | 4, _ => rfl | 5, _ => rfl | 6, _ => rfl | 7, _ => rfl | j + 8, hj => exact absurd hj (by omega)) (Nat.le_of_ble_eq_true rfl) (Nat.le_of_ble_eq_true rfl) dX8_init_27 (fun q3 => ?_)
  refine jc_dup X dX8_init_30 rfl ?_
  refine jc_call X [(h0, .inr (8, [.ref q1, .ref q2, .null, .null, .null, .null, .null, .null, .null])), (q1, .inr (6, [.ref u1])), (u1, az cs.1 74), (q2, .inr (6, [.ref u2])), (u2, az cs.1 74)] (c_X7_init l D cs q3) rfl rfl pn_X7_init z_97 z_98 z_61 z_99 ⟨Nat.le_of_ble_eq_true rfl, Nat.le_of_ble_eq_true rfl⟩ ⟨Nat.le_of_ble_eq_true rfl, Nat.le_of_ble_eq_true rfl⟩ (Nat.le_of_ble_eq_true rfl) dX8_init_31 (fun u3 => ?_)
  refine jc_putF (C := RX8) (T := TX8) (N := 9) (ci := 8) X hnm tyX8 tyX8_ok nmX8 0 rfl rfl hin_X8 2 (by decide) z_249 rfl rfl rfl rfl rfl (Nat.le_of_ble_eq_true rfl) dX8_init_34 [(h0, .inr (8, [.ref q1, .ref q2, .ref q3, .null, .null, .null, .null, .null, .null])), (q1, .inr (6, [.ref u1])), (u1, az cs.1 74), (q2, .inr (6, [.ref u2])), (u2, az cs.1 74), (q3, .inr (7, [.ref u3, .int 0, .int 0, .int 0, .int 0, .int 0, .int 0, .int 0])), (u3, az cs.1 80)] rfl ?_
  refine jc_aload_n X dX8_init_37 rfl 0 rfl ?_
  refine jc_new (C := RX2) (T := TX2) (N := 3) (ci := 2) X tyX2 tyX2_ok hin_X2 z_126 z_127 z_62 rfl [.null, .int 0, .int 0] (fun j hj => by match j, hj with | 0, _ => rfl | 1, _ => rfl | 2, _ => rfl | j + 3, hj => exact absurd hj (by omega)) (Nat.le_of_ble_eq_true rfl) (Nat.le_of_ble_eq_true rfl) dX8_init_38 (fun q4 => ?_)
  refine jc_dup X dX8_init_41 rfl ?_
  refine jc_call X [(h0, .inr (8, [.ref q1, .ref q2, .ref q3, .null, .null, .null, .null, .null, .null])), (q1, .inr (6, [.ref u1])), (u1, az cs.1 74), (q2, .inr (6, [.ref u2])), (u2, az cs.1 74), (q3, .inr (7, [.ref u3, .int 0, .int 0, .int 0, .int 0, .int 0, .int 0, .int 0])), (u3, az cs.1 80)] (c_X2_init l D cs q4) rfl rfl pn_X2_init z_128 z_129 z_62 z_130 ⟨Nat.le_of_ble_eq_true rfl, Nat.le_of_ble_eq_true rfl⟩ ⟨Nat.le_of_ble_eq_true rfl, Nat.le_of_ble_eq_true rfl⟩ (Nat.le_of_ble_eq_true rfl) dX8_init_42 (fun u4 => ?_)
  refine jc_putF (C := RX8) (T := TX8) (N := 9) (ci := 8) X hnm tyX8 tyX8_ok nmX8 0 rfl rfl hin_X8 3 (by decide) z_250 rfl rfl rfl rfl rfl (Nat.le_of_ble_eq_true rfl) dX8_init_45 [(h0, .inr (8, [.ref q1, .ref q2, .ref q3, .ref q4, .null, .null, .null, .null, .null])), (q1, .inr (6, [.ref u1])), (u1, az cs.1 74), (q2, .inr (6, [.ref u2])), (u2, az cs.1 74), (q3, .inr (7, [.ref u3, .int 0, .int 0, .int 0, .int 0, .int 0, .int 0, .int 0])), (u3, az cs.1 80), (q4, .inr (2, [.ref u4.1, .int 0, .int 0])), (u4.1, rz cs.2.2 10 u4.2), ((u4.2 0), az cs.1 74), ((u4.2 1), az cs.1 74), ((u4.2 2), az cs.1 74), ((u4.2 3), az cs.1 74), ((u4.2 4), az cs.1 74), ((u4.2 5), az cs.1 74), ((u4.2 6), az cs.1 74), ((u4.2 7), az cs.1 74), ((u4.2 8), az cs.1 74), ((u4.2 9), az cs.1 74)] rfl ?_
  refine jc_aload_n X dX8_init_48 rfl 0 rfl ?_
  refine jc_new (C := RX0) (T := TX0) (N := 2) (ci := 0) X tyX0 tyX0_ok hin_X0 z_144 z_145 z_63 rfl [.null, .int 0] (fun j hj => by match j, hj with | 0, _ => rfl | 1, _ => rfl | j + 2, hj => exact absurd hj (by omega)) (Nat.le_of_ble_eq_true rfl) (Nat.le_of_ble_eq_true rfl) dX8_init_49 (fun q5 => ?_)
  refine jc_dup X dX8_init_52 rfl ?_
  refine jc_call X [(h0, .inr (8, [.ref q1, .ref q2, .ref q3, .ref q4, .null, .null, .null, .null, .null])), (q1, .inr (6, [.ref u1])), (u1, az cs.1 74), (q2, .inr (6, [.ref u2])), (u2, az cs.1 74), (q3, .inr (7, [.ref u3, .int 0, .int 0, .int 0, .int 0, .int 0, .int 0, .int 0])), (u3, az cs.1 80), (q4, .inr (2, [.ref u4.1, .int 0, .int 0])), (u4.1, rz cs.2.2 10 u4.2), ((u4.2 0), az cs.1 74), ((u4.2 1), az cs.1 74), ((u4.2 2), az cs.1 74), ((u4.2 3), az cs.1 74), ((u4.2 4), az cs.1 74), ((u4.2 5), az cs.1 74), ((u4.2 6), az cs.1 74), ((u4.2 7), az cs.1 74), ((u4.2 8), az cs.1 74), ((u4.2 9), az cs.1 74)] (c_X0_init l D cs q5) rfl rfl pn_X0_init z_146 z_147 z_63 z_148 ⟨Nat.le_of_ble_eq_true rfl, Nat.le_of_ble_eq_true rfl⟩ ⟨Nat.le_of_ble_eq_true rfl, Nat.le_of_ble_eq_true rfl⟩ (Nat.le_of_ble_eq_true rfl) dX8_init_53 (fun u5 => ?_)
  refine jc_putF (C := RX8) (T := TX8) (N := 9) (ci := 8) X hnm tyX8 tyX8_ok nmX8 0 rfl rfl hin_X8 4 (by decide) z_251 rfl rfl rfl rfl rfl (Nat.le_of_ble_eq_true rfl) dX8_init_56 [(h0, .inr (8, [.ref q1, .ref q2, .ref q3, .ref q4, .ref q5, .null, .null, .null, .null])), (q1, .inr (6, [.ref u1])), (u1, az cs.1 74), (q2, .inr (6, [.ref u2])), (u2, az cs.1 74), (q3, .inr (7, [.ref u3, .int 0, .int 0, .int 0, .int 0, .int 0, .int 0, .int 0])), (u3, az cs.1 80), (q4, .inr (2, [.ref u4.1, .int 0, .int 0])), (u4.1, rz cs.2.2 10 u4.2), ((u4.2 0), az cs.1 74), ((u4.2 1), az cs.1 74), ((u4.2 2), az cs.1 74), ((u4.2 3), az cs.1 74), ((u4.2 4), az cs.1 74), ((u4.2 5), az cs.1 74), ((u4.2 6), az cs.1 74), ((u4.2 7), az cs.1 74), ((u4.2 8), az cs.1 74), ((u4.2 9), az cs.1 74), (q5, .inr (0, [.ref u5.1, .int 0])), (u5.1, rz cs.2.2 2 u5.2), ((u5.2 0), az cs.1 74), ((u5.2 1), az cs.1 74)] rfl ?_
  refine jc_aload_n X dX8_init_59 rfl 0 rfl ?_
  refine jc_new (C := RX4) (T := TX4) (N := 4) (ci := 4) X tyX4 tyX4_ok hin_X4 z_158 z_159 z_64 rfl [.null, .null, .null, .int 0] (fun j hj => by match j, hj with | 0, _ => rfl | 1, _ => rfl | 2, _ => rfl | 3, _ => rfl | j + 4, hj => exact absurd hj (by omega)) (Nat.le_of_ble_eq_true rfl) (Nat.le_of_ble_eq_true rfl) dX8_init_60 (fun q6 => ?_)
  refine jc_dup X dX8_init_63 rfl ?_
  refine jc_call X [(h0, .inr (8, [.ref q1, .ref q2, .ref q3, .ref q4, .ref q5, .null, .null, .null, .null])), (q1, .inr (6, [.ref u1])), (u1, az cs.1 74), (q2, .inr (6, [.ref u2])), (u2, az cs.1 74), (q3, .inr (7, [.ref u3, .int 0, .int 0, .int 0, .int 0, .int 0, .int 0, .int 0])), (u3, az cs.1 80), (q4, .inr (2, [.ref u4.1, .int 0, .int 0])), (u4.1, rz cs.2.2 10 u4.2), ((u4.2 0), az cs.1 74), ((u4.2 1), az cs.1 74), ((u4.2 2), az cs.1 74), ((u4.2 3), az cs.1 74), ((u4.2 4), az cs.1 74), ((u4.2 5), az cs.1 74), ((u4.2 6), az cs.1 74), ((u4.2 7), az cs.1 74), ((u4.2 8), az cs.1 74), ((u4.2 9), az cs.1 74), (q5, .inr (0, [.ref u5.1, .int 0])), (u5.1, rz cs.2.2 2 u5.2), ((u5.2 0), az cs.1 74), ((u5.2 1), az cs.1 74)] (c_X4_init l D cs q6) rfl rfl pn_X4_init z_160 z_161 z_64 z_162 ⟨Nat.le_of_ble_eq_true rfl, Nat.le_of_ble_eq_true rfl⟩ ⟨Nat.le_of_ble_eq_true rfl, Nat.le_of_ble_eq_true rfl⟩ (Nat.le_of_ble_eq_true rfl) dX8_init_64 (fun u6 => ?_)
  refine jc_putF (C := RX8) (T := TX8) (N := 9) (ci := 8) X hnm tyX8 tyX8_ok nmX8 0 rfl rfl hin_X8 5 (by decide) z_252 rfl rfl rfl rfl rfl (Nat.le_of_ble_eq_true rfl) dX8_init_67 [(h0, .inr (8, [.ref q1, .ref q2, .ref q3, .ref q4, .ref q5, .ref q6, .null, .null, .null])), (q1, .inr (6, [.ref u1])), (u1, az cs.1 74), (q2, .inr (6, [.ref u2])), (u2, az cs.1 74), (q3, .inr (7, [.ref u3, .int 0, .int 0, .int 0, .int 0, .int 0, .int 0, .int 0])), (u3, az cs.1 80), (q4, .inr (2, [.ref u4.1, .int 0, .int 0])), (u4.1, rz cs.2.2 10 u4.2), ((u4.2 0), az cs.1 74), ((u4.2 1), az cs.1 74), ((u4.2 2), az cs.1 74), ((u4.2 3), az cs.1 74), ((u4.2 4), az cs.1 74), ((u4.2 5), az cs.1 74), ((u4.2 6), az cs.1 74), ((u4.2 7), az cs.1 74), ((u4.2 8), az cs.1 74), ((u4.2 9), az cs.1 74), (q5, .inr (0, [.ref u5.1, .int 0])), (u5.1, rz cs.2.2 2 u5.2), ((u5.2 0), az cs.1 74), ((u5.2 1), az cs.1 74), (q6, .inr (4, [.ref u6.1, .ref u6.2.1, .ref u6.2.2, .int 0])), (u6.1, az cs.1 6), (u6.2.1, az cs.1 6), (u6.2.2, az cs.1 6)] rfl ?_
  refine jc_aload_n X dX8_init_70 rfl 0 rfl ?_
  refine jc_new (C := RX1) (T := TX1) (N := 2) (ci := 1) X tyX1 tyX1_ok hin_X1 z_177 z_178 z_65 rfl [.null, .null] (fun j hj => by match j, hj with | 0, _ => rfl | 1, _ => rfl | j + 2, hj => exact absurd hj (by omega)) (Nat.le_of_ble_eq_true rfl) (Nat.le_of_ble_eq_true rfl) dX8_init_71 (fun q7 => ?_)
  refine jc_dup X dX8_init_74 rfl ?_
  refine jc_call X [(h0, .inr (8, [.ref q1, .ref q2, .ref q3, .ref q4, .ref q5, .ref q6, .null, .null, .null])), (q1, .inr (6, [.ref u1])), (u1, az cs.1 74), (q2, .inr (6, [.ref u2])), (u2, az cs.1 74), (q3, .inr (7, [.ref u3, .int 0, .int 0, .int 0, .int 0, .int 0, .int 0, .int 0])), (u3, az cs.1 80), (q4, .inr (2, [.ref u4.1, .int 0, .int 0])), (u4.1, rz cs.2.2 10 u4.2), ((u4.2 0), az cs.1 74), ((u4.2 1), az cs.1 74), ((u4.2 2), az cs.1 74), ((u4.2 3), az cs.1 74), ((u4.2 4), az cs.1 74), ((u4.2 5), az cs.1 74), ((u4.2 6), az cs.1 74), ((u4.2 7), az cs.1 74), ((u4.2 8), az cs.1 74), ((u4.2 9), az cs.1 74), (q5, .inr (0, [.ref u5.1, .int 0])), (u5.1, rz cs.2.2 2 u5.2), ((u5.2 0), az cs.1 74), ((u5.2 1), az cs.1 74), (q6, .inr (4, [.ref u6.1, .ref u6.2.1, .ref u6.2.2, .int 0])), (u6.1, az cs.1 6), (u6.2.1, az cs.1 6), (u6.2.2, az cs.1 6)] (c_X1_init l D cs q7) rfl rfl pn_X1_init z_179 z_180 z_65 z_181 ⟨Nat.le_of_ble_eq_true rfl, Nat.le_of_ble_eq_true rfl⟩ ⟨Nat.le_of_ble_eq_true rfl, Nat.le_of_ble_eq_true rfl⟩ (Nat.le_of_ble_eq_true rfl) dX8_init_75 (fun u7 => ?_)
  refine jc_putF (C := RX8) (T := TX8) (N := 9) (ci := 8) X hnm tyX8 tyX8_ok nmX8 0 rfl rfl hin_X8 6 (by decide) z_253 rfl rfl rfl rfl rfl (Nat.le_of_ble_eq_true rfl) dX8_init_78 [(h0, .inr (8, [.ref q1, .ref q2, .ref q3, .ref q4, .ref q5, .ref q6, .ref q7, .null, .null])), (q1, .inr (6, [.ref u1])), (u1, az cs.1 74), (q2, .inr (6, [.ref u2])), (u2, az cs.1 74), (q3, .inr (7, [.ref u3, .int 0, .int 0, .int 0, .int 0, .int 0, .int 0, .int 0])), (u3, az cs.1 80), (q4, .inr (2, [.ref u4.1, .int 0, .int 0])), (u4.1, rz cs.2.2 10 u4.2), ((u4.2 0), az cs.1 74), ((u4.2 1), az cs.1 74), ((u4.2 2), az cs.1 74), ((u4.2 3), az cs.1 74), ((u4.2 4), az cs.1 74), ((u4.2 5), az cs.1 74), ((u4.2 6), az cs.1 74), ((u4.2 7), az cs.1 74), ((u4.2 8), az cs.1 74), ((u4.2 9), az cs.1 74), (q5, .inr (0, [.ref u5.1, .int 0])), (u5.1, rz cs.2.2 2 u5.2), ((u5.2 0), az cs.1 74), ((u5.2 1), az cs.1 74), (q6, .inr (4, [.ref u6.1, .ref u6.2.1, .ref u6.2.2, .int 0])), (u6.1, az cs.1 6), (u6.2.1, az cs.1 6), (u6.2.2, az cs.1 6), (q7, .inr (1, [.ref u7.1, .ref u7.2])), (u7.1, az cs.1 17), (u7.2, az cs.1 17)] rfl ?_
  refine jc_aload_n X dX8_init_81 rfl 0 rfl ?_
  refine jc_new (C := RX3) (T := TX3) (N := 5) (ci := 3) X tyX3 tyX3_ok hin_X3 z_190 z_191 z_66 rfl [.null, .null, .null, .null, .null] (fun j hj => by match j, hj with | 0, _ => rfl | 1, _ => rfl | 2, _ => rfl | 3, _ => rfl | 4, _ => rfl | j + 5, hj => exact absurd hj (by omega)) (Nat.le_of_ble_eq_true rfl) (Nat.le_of_ble_eq_true rfl) dX8_init_82 (fun q8 => ?_)
  refine jc_dup X dX8_init_85 rfl ?_
  refine jc_call X [(h0, .inr (8, [.ref q1, .ref q2, .ref q3, .ref q4, .ref q5, .ref q6, .ref q7, .null, .null])), (q1, .inr (6, [.ref u1])), (u1, az cs.1 74), (q2, .inr (6, [.ref u2])), (u2, az cs.1 74), (q3, .inr (7, [.ref u3, .int 0, .int 0, .int 0, .int 0, .int 0, .int 0, .int 0])), (u3, az cs.1 80), (q4, .inr (2, [.ref u4.1, .int 0, .int 0])), (u4.1, rz cs.2.2 10 u4.2), ((u4.2 0), az cs.1 74), ((u4.2 1), az cs.1 74), ((u4.2 2), az cs.1 74), ((u4.2 3), az cs.1 74), ((u4.2 4), az cs.1 74), ((u4.2 5), az cs.1 74), ((u4.2 6), az cs.1 74), ((u4.2 7), az cs.1 74), ((u4.2 8), az cs.1 74), ((u4.2 9), az cs.1 74), (q5, .inr (0, [.ref u5.1, .int 0])), (u5.1, rz cs.2.2 2 u5.2), ((u5.2 0), az cs.1 74), ((u5.2 1), az cs.1 74), (q6, .inr (4, [.ref u6.1, .ref u6.2.1, .ref u6.2.2, .int 0])), (u6.1, az cs.1 6), (u6.2.1, az cs.1 6), (u6.2.2, az cs.1 6), (q7, .inr (1, [.ref u7.1, .ref u7.2])), (u7.1, az cs.1 17), (u7.2, az cs.1 17)] (c_X3_init l D cs q8) rfl rfl pn_X3_init z_192 z_193 z_66 z_194 ⟨Nat.le_of_ble_eq_true rfl, Nat.le_of_ble_eq_true rfl⟩ ⟨Nat.le_of_ble_eq_true rfl, Nat.le_of_ble_eq_true rfl⟩ (Nat.le_of_ble_eq_true rfl) dX8_init_86 (fun u8 => ?_)
  refine jc_putF (C := RX8) (T := TX8) (N := 9) (ci := 8) X hnm tyX8 tyX8_ok nmX8 0 rfl rfl hin_X8 7 (by decide) z_254 rfl rfl rfl rfl rfl (Nat.le_of_ble_eq_true rfl) dX8_init_89 [(h0, .inr (8, [.ref q1, .ref q2, .ref q3, .ref q4, .ref q5, .ref q6, .ref q7, .ref q8, .null])), (q1, .inr (6, [.ref u1])), (u1, az cs.1 74), (q2, .inr (6, [.ref u2])), (u2, az cs.1 74), (q3, .inr (7, [.ref u3, .int 0, .int 0, .int 0, .int 0, .int 0, .int 0, .int 0])), (u3, az cs.1 80), (q4, .inr (2, [.ref u4.1, .int 0, .int 0])), (u4.1, rz cs.2.2 10 u4.2), ((u4.2 0), az cs.1 74), ((u4.2 1), az cs.1 74), ((u4.2 2), az cs.1 74), ((u4.2 3), az cs.1 74), ((u4.2 4), az cs.1 74), ((u4.2 5), az cs.1 74), ((u4.2 6), az cs.1 74), ((u4.2 7), az cs.1 74), ((u4.2 8), az cs.1 74), ((u4.2 9), az cs.1 74), (q5, .inr (0, [.ref u5.1, .int 0])), (u5.1, rz cs.2.2 2 u5.2), ((u5.2 0), az cs.1 74), ((u5.2 1), az cs.1 74), (q6, .inr (4, [.ref u6.1, .ref u6.2.1, .ref u6.2.2, .int 0])), (u6.1, az cs.1 6), (u6.2.1, az cs.1 6), (u6.2.2, az cs.1 6), (q7, .inr (1, [.ref u7.1, .ref u7.2])), (u7.1, az cs.1 17), (u7.2, az cs.1 17), (q8, .inr (3, [.ref u8.1, .ref u8.2.2.1, .ref u8.2.2.2.2.1, .ref u8.2.2.2.2.2.2.1, .ref u8.2.2.2.2.2.2.2])), (u8.1, .inr (1, [.ref u8.2.1.1, .ref u8.2.1.2])), (u8.2.1.1, az cs.1 17), (u8.2.1.2, az cs.1 17), (u8.2.2.1, rz cs.2.2 14 u8.2.2.2.1), ((u8.2.2.2.1 0), az cs.1 17), ((u8.2.2.2.1 1), az cs.1 17), ((u8.2.2.2.1 2), az cs.1 17), ((u8.2.2.2.1 3), az cs.1 17), ((u8.2.2.2.1 4), az cs.1 17), ((u8.2.2.2.1 5), az cs.1 17), ((u8.2.2.2.1 6), az cs.1 17), ((u8.2.2.2.1 7), az cs.1 17), ((u8.2.2.2.1 8), az cs.1 17), ((u8.2.2.2.1 9), az cs.1 17), ((u8.2.2.2.1 10), az cs.1 17), ((u8.2.2.2.1 11), az cs.1 17), ((u8.2.2.2.1 12), az cs.1 17), ((u8.2.2.2.1 13), az cs.1 17), (u8.2.2.2.2.1, rz cs.2.2 14 u8.2.2.2.2.2.1), ((u8.2.2.2.2.2.1 0), az cs.1 17), ((u8.2.2.2.2.2.1 1), az cs.1 17), ((u8.2.2.2.2.2.1 2), az cs.1 17), ((u8.2.2.2.2.2.1 3), az cs.1 17), ((u8.2.2.2.2.2.1 4), az cs.1 17), ((u8.2.2.2.2.2.1 5), az cs.1 17), ((u8.2.2.2.2.2.1 6), az cs.1 17), ((u8.2.2.2.2.2.1 7), az cs.1 17), ((u8.2.2.2.2.2.1 8), az cs.1 17), ((u8.2.2.2.2.2.1 9), az cs.1 17), ((u8.2.2.2.2.2.1 10), az cs.1 17), ((u8.2.2.2.2.2.1 11), az cs.1 17), ((u8.2.2.2.2.2.1 12), az cs.1 17), ((u8.2.2.2.2.2.1 13), az cs.1 17), (u8.2.2.2.2.2.2.1, az cs.1 17), (u8.2.2.2.2.2.2.2, az cs.1 17)] rfl ?_
  refine jc_aload_n X dX8_init_92 rfl 0 rfl ?_
  refine jc_new (C := RX5) (T := TX5) (N := 8) (ci := 5) X tyX5 tyX5_ok hin_X5 z_215 z_216 z_67 rfl [.null, .null, .null, .null, .null, .null, .int 0, .int 0] (fun j hj => by match j, hj with | 0, _ => rfl | 1, _ => rfl | 2, _ => rfl | 3, _ => rfl | 4, _ => rfl | 5, _ => rfl | 6, _ => rfl | 7, _ => rfl | j + 8, hj => exact absurd hj (by omega)) (Nat.le_of_ble_eq_true rfl) (Nat.le_of_ble_eq_true rfl) dX8_init_93 (fun q9 => ?_)
  refine jc_dup X dX8_init_96 rfl ?_
  refine jc_call X [(h0, .inr (8, [.ref q1, .ref q2, .ref q3, .ref q4, .ref q5, .ref q6, .ref q7, .ref q8, .null])), (q1, .inr (6, [.ref u1])), (u1, az cs.1 74), (q2, .inr (6, [.ref u2])), (u2, az cs.1 74), (q3, .inr (7, [.ref u3, .int 0, .int 0, .int 0, .int 0, .int 0, .int 0, .int 0])), (u3, az cs.1 80), (q4, .inr (2, [.ref u4.1, .int 0, .int 0])), (u4.1, rz cs.2.2 10 u4.2), ((u4.2 0), az cs.1 74), ((u4.2 1), az cs.1 74), ((u4.2 2), az cs.1 74), ((u4.2 3), az cs.1 74), ((u4.2 4), az cs.1 74), ((u4.2 5), az cs.1 74), ((u4.2 6), az cs.1 74), ((u4.2 7), az cs.1 74), ((u4.2 8), az cs.1 74), ((u4.2 9), az cs.1 74), (q5, .inr (0, [.ref u5.1, .int 0])), (u5.1, rz cs.2.2 2 u5.2), ((u5.2 0), az cs.1 74), ((u5.2 1), az cs.1 74), (q6, .inr (4, [.ref u6.1, .ref u6.2.1, .ref u6.2.2, .int 0])), (u6.1, az cs.1 6), (u6.2.1, az cs.1 6), (u6.2.2, az cs.1 6), (q7, .inr (1, [.ref u7.1, .ref u7.2])), (u7.1, az cs.1 17), (u7.2, az cs.1 17), (q8, .inr (3, [.ref u8.1, .ref u8.2.2.1, .ref u8.2.2.2.2.1, .ref u8.2.2.2.2.2.2.1, .ref u8.2.2.2.2.2.2.2])), (u8.1, .inr (1, [.ref u8.2.1.1, .ref u8.2.1.2])), (u8.2.1.1, az cs.1 17), (u8.2.1.2, az cs.1 17), (u8.2.2.1, rz cs.2.2 14 u8.2.2.2.1), ((u8.2.2.2.1 0), az cs.1 17), ((u8.2.2.2.1 1), az cs.1 17), ((u8.2.2.2.1 2), az cs.1 17), ((u8.2.2.2.1 3), az cs.1 17), ((u8.2.2.2.1 4), az cs.1 17), ((u8.2.2.2.1 5), az cs.1 17), ((u8.2.2.2.1 6), az cs.1 17), ((u8.2.2.2.1 7), az cs.1 17), ((u8.2.2.2.1 8), az cs.1 17), ((u8.2.2.2.1 9), az cs.1 17), ((u8.2.2.2.1 10), az cs.1 17), ((u8.2.2.2.1 11), az cs.1 17), ((u8.2.2.2.1 12), az cs.1 17), ((u8.2.2.2.1 13), az cs.1 17), (u8.2.2.2.2.1, rz cs.2.2 14 u8.2.2.2.2.2.1), ((u8.2.2.2.2.2.1 0), az cs.1 17), ((u8.2.2.2.2.2.1 1), az cs.1 17), ((u8.2.2.2.2.2.1 2), az cs.1 17), ((u8.2.2.2.2.2.1 3), az cs.1 17), ((u8.2.2.2.2.2.1 4), az cs.1 17), ((u8.2.2.2.2.2.1 5), az cs.1 17), ((u8.2.2.2.2.2.1 6), az cs.1 17), ((u8.2.2.2.2.2.1 7), az cs.1 17), ((u8.2.2.2.2.2.1 8), az cs.1 17), ((u8.2.2.2.2.2.1 9), az cs.1 17), ((u8.2.2.2.2.2.1 10), az cs.1 17), ((u8.2.2.2.2.2.1 11), az cs.1 17), ((u8.2.2.2.2.2.1 12), az cs.1 17), ((u8.2.2.2.2.2.1 13), az cs.1 17), (u8.2.2.2.2.2.2.1, az cs.1 17), (u8.2.2.2.2.2.2.2, az cs.1 17)] (c_X5_init l D cs q9) rfl rfl pn_X5_init z_217 z_218 z_67 z_219 ⟨Nat.le_of_ble_eq_true rfl, Nat.le_of_ble_eq_true rfl⟩ ⟨Nat.le_of_ble_eq_true rfl, Nat.le_of_ble_eq_true rfl⟩ (Nat.le_of_ble_eq_true rfl) dX8_init_97 (fun u9 => ?_)
  refine jc_putF (C := RX8) (T := TX8) (N := 9) (ci := 8) X hnm tyX8 tyX8_ok nmX8 0 rfl rfl hin_X8 8 (by decide) z_255 rfl rfl rfl rfl rfl (Nat.le_of_ble_eq_true rfl) dX8_init_100 [(h0, .inr (8, [.ref q1, .ref q2, .ref q3, .ref q4, .ref q5, .ref q6, .ref q7, .ref q8, .ref q9])), (q1, .inr (6, [.ref u1])), (u1, az cs.1 74), (q2, .inr (6, [.ref u2])), (u2, az cs.1 74), (q3, .inr (7, [.ref u3, .int 0, .int 0, .int 0, .int 0, .int 0, .int 0, .int 0])), (u3, az cs.1 80), (q4, .inr (2, [.ref u4.1, .int 0, .int 0])), (u4.1, rz cs.2.2 10 u4.2), ((u4.2 0), az cs.1 74), ((u4.2 1), az cs.1 74), ((u4.2 2), az cs.1 74), ((u4.2 3), az cs.1 74), ((u4.2 4), az cs.1 74), ((u4.2 5), az cs.1 74), ((u4.2 6), az cs.1 74), ((u4.2 7), az cs.1 74), ((u4.2 8), az cs.1 74), ((u4.2 9), az cs.1 74), (q5, .inr (0, [.ref u5.1, .int 0])), (u5.1, rz cs.2.2 2 u5.2), ((u5.2 0), az cs.1 74), ((u5.2 1), az cs.1 74), (q6, .inr (4, [.ref u6.1, .ref u6.2.1, .ref u6.2.2, .int 0])), (u6.1, az cs.1 6), (u6.2.1, az cs.1 6), (u6.2.2, az cs.1 6), (q7, .inr (1, [.ref u7.1, .ref u7.2])), (u7.1, az cs.1 17), (u7.2, az cs.1 17), (q8, .inr (3, [.ref u8.1, .ref u8.2.2.1, .ref u8.2.2.2.2.1, .ref u8.2.2.2.2.2.2.1, .ref u8.2.2.2.2.2.2.2])), (u8.1, .inr (1, [.ref u8.2.1.1, .ref u8.2.1.2])), (u8.2.1.1, az cs.1 17), (u8.2.1.2, az cs.1 17), (u8.2.2.1, rz cs.2.2 14 u8.2.2.2.1), ((u8.2.2.2.1 0), az cs.1 17), ((u8.2.2.2.1 1), az cs.1 17), ((u8.2.2.2.1 2), az cs.1 17), ((u8.2.2.2.1 3), az cs.1 17), ((u8.2.2.2.1 4), az cs.1 17), ((u8.2.2.2.1 5), az cs.1 17), ((u8.2.2.2.1 6), az cs.1 17), ((u8.2.2.2.1 7), az cs.1 17), ((u8.2.2.2.1 8), az cs.1 17), ((u8.2.2.2.1 9), az cs.1 17), ((u8.2.2.2.1 10), az cs.1 17), ((u8.2.2.2.1 11), az cs.1 17), ((u8.2.2.2.1 12), az cs.1 17), ((u8.2.2.2.1 13), az cs.1 17), (u8.2.2.2.2.1, rz cs.2.2 14 u8.2.2.2.2.2.1), ((u8.2.2.2.2.2.1 0), az cs.1 17), ((u8.2.2.2.2.2.1 1), az cs.1 17), ((u8.2.2.2.2.2.1 2), az cs.1 17), ((u8.2.2.2.2.2.1 3), az cs.1 17), ((u8.2.2.2.2.2.1 4), az cs.1 17), ((u8.2.2.2.2.2.1 5), az cs.1 17), ((u8.2.2.2.2.2.1 6), az cs.1 17), ((u8.2.2.2.2.2.1 7), az cs.1 17), ((u8.2.2.2.2.2.1 8), az cs.1 17), ((u8.2.2.2.2.2.1 9), az cs.1 17), ((u8.2.2.2.2.2.1 10), az cs.1 17), ((u8.2.2.2.2.2.1 11), az cs.1 17), ((u8.2.2.2.2.2.1 12), az cs.1 17), ((u8.2.2.2.2.2.1 13), az cs.1 17), (u8.2.2.2.2.2.2.1, az cs.1 17), (u8.2.2.2.2.2.2.2, az cs.1 17), (q9, .inr (5, [.ref u9.1, .ref u9.2.1, .ref u9.2.2.1, .ref u9.2.2.2.1, .ref u9.2.2.2.2.1, .ref u9.2.2.2.2.2.1, .int 0, .int 0])), (u9.1, az cs.1 8), (u9.2.1, az cs.1 8), (u9.2.2.1, az cs.1 256), (u9.2.2.2.1, az cs.1 256), (u9.2.2.2.2.1, az cs.1 8), (u9.2.2.2.2.2.1, rz cs.2.2 8 u9.2.2.2.2.2.2), ((u9.2.2.2.2.2.2 0), az cs.1 8), ((u9.2.2.2.2.2.2 1), az cs.1 8), ((u9.2.2.2.2.2.2 2), az cs.1 8), ((u9.2.2.2.2.2.2 3), az cs.1 8), ((u9.2.2.2.2.2.2 4), az cs.1 8), ((u9.2.2.2.2.2.2 5), az cs.1 8), ((u9.2.2.2.2.2.2 6), az cs.1 8), ((u9.2.2.2.2.2.2 7), az cs.1 8)] rfl ?_
  exact jc_vret X hr hk dX8_init_103 (q1, u1, q2, u2, q3, u3, q4, u4, q5, u5, q6, u6, q7, u7, q8, u8, q9, u9) [0, 1, 2, 3, 4, 5, 6, 7, 8, 9, 10, 11, 12, 13, 14, 15, 16, 17, 18, 19, 20, 21, 22, 23, 24, 25, 26, 27, 28, 29, 30, 31, 32, 33, 34, 35, 36, 37, 38, 39, 40, 41, 42, 43, 44, 45, 46, 47, 48, 49, 50, 51, 52, 53, 54, 55, 56, 57, 58, 59, 60, 61, 62, 63, 64, 65, 66, 67, 68, 69, 70, 71, 72, 73, 74, 75, 76, 77, 78, 79, 80] (by decide) rfl
abbrev wI_X9 (cs : ClassId × ClassId × ClassId) (h0 : Nat) (u : (Nat) × (Nat) × (Nat) × (Nat) × (Nat) × (Nat) × (Nat) × (Nat) × (Nat) × (Nat) × (Nat) × (Nat) × (Nat) × (Nat) × (Nat) × (Nat)) : va_W := [(h0, .inr (9, [.int 0, .ref u.1, .ref u.2.1, .ref u.2.2.1, .int 0, .ref u.2.2.2.1, .ref u.2.2.2.2.1, .int 0, .ref u.2.2.2.2.2.1, .ref u.2.2.2.2.2.2.1, .ref u.2.2.2.2.2.2.2.1, .int 0, .ref u.2.2.2.2.2.2.2.2.1, .int 0, .int 0, .ref u.2.2.2.2.2.2.2.2.2.1, .ref u.2.2.2.2.2.2.2.2.2.2.1, .ref u.2.2.2.2.2.2.2.2.2.2.2.1, .ref u.2.2.2.2.2.2.2.2.2.2.2.2.1, .ref u.2.2.2.2.2.2.2.2.2.2.2.2.2.1, .ref u.2.2.2.2.2.2.2.2.2.2.2.2.2.2.1, .ref u.2.2.2.2.2.2.2.2.2.2.2.2.2.2.2])), (u.1, az cs.1 74), (u.2.1, az cs.1 74), (u.2.2.1, az cs.1 740), (u.2.2.2.1, az cs.1 148), (u.2.2.2.2.1, az cs.2.1 2), (u.2.2.2.2.2.1, az cs.1 6), (u.2.2.2.2.2.2.1, az cs.1 6), (u.2.2.2.2.2.2.2.1, az cs.1 6), (u.2.2.2.2.2.2.2.2.1, az cs.1 80), (u.2.2.2.2.2.2.2.2.2.1, az cs.1 17), (u.2.2.2.2.2.2.2.2.2.2.1, az cs.1 17), (u.2.2.2.2.2.2.2.2.2.2.2.1, az cs.1 17), (u.2.2.2.2.2.2.2.2.2.2.2.2.1, az cs.1 17), (u.2.2.2.2.2.2.2.2.2.2.2.2.2.1, az cs.1 256), (u.2.2.2.2.2.2.2.2.2.2.2.2.2.2.1, az cs.1 8), (u.2.2.2.2.2.2.2.2.2.2.2.2.2.2.2, az cs.1 8)]
theorem pn_X9_init : yX9_init.cls ≠ "java/lang/invoke/MethodHandle" ∧ yX9_init.cls ≠ "java/lang/invoke/VarHandle" ∧ (parseMethodDescriptor yX9_init.desc).map (fun d => d.parameters.length) = some 0 := by decide +kernel
set_option maxRecDepth 100000 in
set_option maxHeartbeats 4000000 in
theorem c_X9_init (l : Launch) (D : va_G) (cs : ClassId × ClassId × ClassId) (h0 : Nat) : CMc l yX9_init cX9_init 1 1 16 1476 12 D cs h0 (.inr (9, [.int 0, .null, .null, .null, .int 0, .null, .null, .int 0, .null, .null, .null, .int 0, .null, .int 0, .int 0, .null, .null, .null, .null, .null, .null, .null])) (wI_X9 cs h0) := by
  refine CMc.of (by decide +kernel) rfl (Nat.le_of_ble_eq_true rfl) ?_
  intro p e s m args below meth c A X hnm hr hk
  refine jc_aload_n X dX9_init_0 rfl 0 rfl ?_
  refine jc_obj X z_861 z_82 z_83 (Nat.le_of_ble_eq_true rfl) (Nat.le_of_ble_eq_true rfl) dX9_init_1 ?_
  refine jc_aload_n X dX9_init_4 rfl 0 rfl ?_
  refine jc_bipush (v := 74) X dX9_init_5 (by decide) ?_
  refine jc_newI (N := 74) X z_94 (by decide) (by decide) (Nat.le_of_ble_eq_true rfl) (Nat.le_of_ble_eq_true rfl) (Nat.le_of_ble_eq_true rfl) dX9_init_7 (fun q1 => ?_)
  refine jc_putF (C := RX9) (T := TX9) (N := 22) (ci := 9) X hnm tyX9 tyX9_ok nmX9 0 rfl rfl hin_X9 1 (by decide) z_863 rfl rfl rfl rfl rfl (Nat.le_of_ble_eq_true rfl) dX9_init_9 [(h0, .inr (9, [.int 0, .ref q1, .null, .null, .int 0, .null, .null, .int 0, .null, .null, .null, .int 0, .null, .int 0, .int 0, .null, .null, .null, .null, .null, .null, .null])), (q1, az cs.1 74)] rfl ?_
  refine jc_aload_n X dX9_init_12 rfl 0 rfl ?_
  refine jc_bipush (v := 74) X dX9_init_13 (by decide) ?_
  refine jc_newI (N := 74) X z_94 (by decide) (by decide) (Nat.le_of_ble_eq_true rfl) (Nat.le_of_ble_eq_true rfl) (Nat.le_of_ble_eq_true rfl) dX9_init_15 (fun q2 => ?_)
  refine jc_putF (C := RX9) (T := TX9) (N := 22) (ci := 9) X hnm tyX9 tyX9_ok nmX9 0 rfl rfl hin_X9 2 (by decide) z_864 rfl rfl rfl rfl rfl (Nat.le_of_ble_eq_true rfl) dX9_init_17 [(h0, .inr (9, [.int 0, .ref q1, .ref q2, .null, .int 0, .null, .null, .int 0, .null, .null, .null, .int 0, .null, .int 0, .int 0, .null, .null, .null, .null, .null, .null, .null])), (q1, az cs.1 74), (q2, az cs.1 74)] rfl ?_
  refine jc_aload_n X dX9_init_20 rfl 0 rfl ?_
  refine jc_sipush (v := 740) X dX9_init_21 (by decide) ?_
  refine jc_newI (N := 740) X z_94 (by decide) (by decide) (Nat.le_of_ble_eq_true rfl) (Nat.le_of_ble_eq_true rfl) (Nat.le_of_ble_eq_true rfl) dX9_init_24 (fun q3 => ?_)
  refine jc_putF (C := RX9) (T := TX9) (N := 22) (ci := 9) X hnm tyX9 tyX9_ok nmX9 0 rfl rfl hin_X9 3 (by decide) z_865 rfl rfl rfl rfl rfl (Nat.le_of_ble_eq_true rfl) dX9_init_26 [(h0, .inr (9, [.int 0, .ref q1, .ref q2, .ref q3, .int 0, .null, .null, .int 0, .null, .null, .null, .int 0, .null, .int 0, .int 0, .null, .null, .null, .null, .null, .null, .null])), (q1, az cs.1 74), (q2, az cs.1 74), (q3, az cs.1 740)] rfl ?_
  refine jc_aload_n X dX9_init_29 rfl 0 rfl ?_
  refine jc_sipush (v := 148) X dX9_init_30 (by decide) ?_
  refine jc_newI (N := 148) X z_94 (by decide) (by decide) (Nat.le_of_ble_eq_true rfl) (Nat.le_of_ble_eq_true rfl) (Nat.le_of_ble_eq_true rfl) dX9_init_33 (fun q4 => ?_)
  refine jc_putF (C := RX9) (T := TX9) (N := 22) (ci := 9) X hnm tyX9 tyX9_ok nmX9 0 rfl rfl hin_X9 5 (by decide) z_867 rfl rfl rfl rfl rfl (Nat.le_of_ble_eq_true rfl) dX9_init_35 [(h0, .inr (9, [.int 0, .ref q1, .ref q2, .ref q3, .int 0, .ref q4, .null, .int 0, .null, .null, .null, .int 0, .null, .int 0, .int 0, .null, .null, .null, .null, .null, .null, .null])), (q1, az cs.1 74), (q2, az cs.1 74), (q3, az cs.1 740), (q4, az cs.1 148)] rfl ?_
  refine jc_aload_n X dX9_init_38 rfl 0 rfl ?_
  refine jc_iconst (v := 2) X dX9_init_39 (by decide) ?_
  refine jc_newZ (N := 2) X z_929 (by decide) (by decide) (Nat.le_of_ble_eq_true rfl) (Nat.le_of_ble_eq_true rfl) (Nat.le_of_ble_eq_true rfl) dX9_init_40 (fun q5 => ?_)
  refine jc_putF (C := RX9) (T := TX9) (N := 22) (ci := 9) X hnm tyX9 tyX9_ok nmX9 0 rfl rfl hin_X9 6 (by decide) z_868 rfl rfl rfl rfl rfl (Nat.le_of_ble_eq_true rfl) dX9_init_42 [(h0, .inr (9, [.int 0, .ref q1, .ref q2, .ref q3, .int 0, .ref q4, .ref q5, .int 0, .null, .null, .null, .int 0, .null, .int 0, .int 0, .null, .null, .null, .null, .null, .null, .null])), (q1, az cs.1 74), (q2, az cs.1 74), (q3, az cs.1 740), (q4, az cs.1 148), (q5, az cs.2.1 2)] rfl ?_
  refine jc_aload_n X dX9_init_45 rfl 0 rfl ?_
  refine jc_bipush (v := 6) X dX9_init_46 (by decide) ?_
  refine jc_newI (N := 6) X z_94 (by decide) (by decide) (Nat.le_of_ble_eq_true rfl) (Nat.le_of_ble_eq_true rfl) (Nat.le_of_ble_eq_true rfl) dX9_init_48 (fun q6 => ?_)
  refine jc_putF (C := RX9) (T := TX9) (N := 22) (ci := 9) X hnm tyX9 tyX9_ok nmX9 0 rfl rfl hin_X9 8 (by decide) z_870 rfl rfl rfl rfl rfl (Nat.le_of_ble_eq_true rfl) dX9_init_50 [(h0, .inr (9, [.int 0, .ref q1, .ref q2, .ref q3, .int 0, .ref q4, .ref q5, .int 0, .ref q6, .null, .null, .int 0, .null, .int 0, .int 0, .null, .null, .null, .null, .null, .null, .null])), (q1, az cs.1 74), (q2, az cs.1 74), (q3, az cs.1 740), (q4, az cs.1 148), (q5, az cs.2.1 2), (q6, az cs.1 6)] rfl ?_
  refine jc_aload_n X dX9_init_53 rfl 0 rfl ?_
  refine jc_bipush (v := 6) X dX9_init_54 (by decide) ?_
  refine jc_newI (N := 6) X z_94 (by decide) (by decide) (Nat.le_of_ble_eq_true rfl) (Nat.le_of_ble_eq_true rfl) (Nat.le_of_ble_eq_true rfl) dX9_init_56 (fun q7 => ?_)
  refine jc_putF (C := RX9) (T := TX9) (N := 22) (ci := 9) X hnm tyX9 tyX9_ok nmX9 0 rfl rfl hin_X9 9 (by decide) z_871 rfl rfl rfl rfl rfl (Nat.le_of_ble_eq_true rfl) dX9_init_58 [(h0, .inr (9, [.int 0, .ref q1, .ref q2, .ref q3, .int 0, .ref q4, .ref q5, .int 0, .ref q6, .ref q7, .null, .int 0, .null, .int 0, .int 0, .null, .null, .null, .null, .null, .null, .null])), (q1, az cs.1 74), (q2, az cs.1 74), (q3, az cs.1 740), (q4, az cs.1 148), (q5, az cs.2.1 2), (q6, az cs.1 6), (q7, az cs.1 6)] rfl ?_
  refine jc_aload_n X dX9_init_61 rfl 0 rfl ?_
  refine jc_bipush (v := 6) X dX9_init_62 (by decide) ?_
  refine jc_newI (N := 6) X z_94 (by decide) (by decide) (Nat.le_of_ble_eq_true rfl) (Nat.le_of_ble_eq_true rfl) (Nat.le_of_ble_eq_true rfl) dX9_init_64 (fun q8 => ?_)
  refine jc_putF (C := RX9) (T := TX9) (N := 22) (ci := 9) X hnm tyX9 tyX9_ok nmX9 0 rfl rfl hin_X9 10 (by decide) z_872 rfl rfl rfl rfl rfl (Nat.le_of_ble_eq_true rfl) dX9_init_66 [(h0, .inr (9, [.int 0, .ref q1, .ref q2, .ref q3, .int 0, .ref q4, .ref q5, .int 0, .ref q6, .ref q7, .ref q8, .int 0, .null, .int 0, .int 0, .null, .null, .null, .null, .null, .null, .null])), (q1, az cs.1 74), (q2, az cs.1 74), (q3, az cs.1 740), (q4, az cs.1 148), (q5, az cs.2.1 2), (q6, az cs.1 6), (q7, az cs.1 6), (q8, az cs.1 6)] rfl ?_
  refine jc_aload_n X dX9_init_69 rfl 0 rfl ?_
  refine jc_bipush (v := 80) X dX9_init_70 (by decide) ?_
  refine jc_newI (N := 80) X z_94 (by decide) (by decide) (Nat.le_of_ble_eq_true rfl) (Nat.le_of_ble_eq_true rfl) (Nat.le_of_ble_eq_true rfl) dX9_init_72 (fun q9 => ?_)
  refine jc_putF (C := RX9) (T := TX9) (N := 22) (ci := 9) X hnm tyX9 tyX9_ok nmX9 0 rfl rfl hin_X9 12 (by decide) z_874 rfl rfl rfl rfl rfl (Nat.le_of_ble_eq_true rfl) dX9_init_74 [(h0, .inr (9, [.int 0, .ref q1, .ref q2, .ref q3, .int 0, .ref q4, .ref q5, .int 0, .ref q6, .ref q7, .ref q8, .int 0, .ref q9, .int 0, .int 0, .null, .null, .null, .null, .null, .null, .null])), (q1, az cs.1 74), (q2, az cs.1 74), (q3, az cs.1 740), (q4, az cs.1 148), (q5, az cs.2.1 2), (q6, az cs.1 6), (q7, az cs.1 6), (q8, az cs.1 6), (q9, az cs.1 80)] rfl ?_
  refine jc_aload_n X dX9_init_77 rfl 0 rfl ?_
  refine jc_bipush (v := 17) X dX9_init_78 (by decide) ?_
  refine jc_newI (N := 17) X z_94 (by decide) (by decide) (Nat.le_of_ble_eq_true rfl) (Nat.le_of_ble_eq_true rfl) (Nat.le_of_ble_eq_true rfl) dX9_init_80 (fun q10 => ?_)
  refine jc_putF (C := RX9) (T := TX9) (N := 22) (ci := 9) X hnm tyX9 tyX9_ok nmX9 0 rfl rfl hin_X9 15 (by decide) z_877 rfl rfl rfl rfl rfl (Nat.le_of_ble_eq_true rfl) dX9_init_82 [(h0, .inr (9, [.int 0, .ref q1, .ref q2, .ref q3, .int 0, .ref q4, .ref q5, .int 0, .ref q6, .ref q7, .ref q8, .int 0, .ref q9, .int 0, .int 0, .ref q10, .null, .null, .null, .null, .null, .null])), (q1, az cs.1 74), (q2, az cs.1 74), (q3, az cs.1 740), (q4, az cs.1 148), (q5, az cs.2.1 2), (q6, az cs.1 6), (q7, az cs.1 6), (q8, az cs.1 6), (q9, az cs.1 80), (q10, az cs.1 17)] rfl ?_
  refine jc_aload_n X dX9_init_85 rfl 0 rfl ?_
  refine jc_bipush (v := 17) X dX9_init_86 (by decide) ?_
  refine jc_newI (N := 17) X z_94 (by decide) (by decide) (Nat.le_of_ble_eq_true rfl) (Nat.le_of_ble_eq_true rfl) (Nat.le_of_ble_eq_true rfl) dX9_init_88 (fun q11 => ?_)
  refine jc_putF (C := RX9) (T := TX9) (N := 22) (ci := 9) X hnm tyX9 tyX9_ok nmX9 0 rfl rfl hin_X9 16 (by decide) z_878 rfl rfl rfl rfl rfl (Nat.le_of_ble_eq_true rfl) dX9_init_90 [(h0, .inr (9, [.int 0, .ref q1, .ref q2, .ref q3, .int 0, .ref q4, .ref q5, .int 0, .ref q6, .ref q7, .ref q8, .int 0, .ref q9, .int 0, .int 0, .ref q10, .ref q11, .null, .null, .null, .null, .null])), (q1, az cs.1 74), (q2, az cs.1 74), (q3, az cs.1 740), (q4, az cs.1 148), (q5, az cs.2.1 2), (q6, az cs.1 6), (q7, az cs.1 6), (q8, az cs.1 6), (q9, az cs.1 80), (q10, az cs.1 17), (q11, az cs.1 17)] rfl ?_
  refine jc_aload_n X dX9_init_93 rfl 0 rfl ?_
  refine jc_bipush (v := 17) X dX9_init_94 (by decide) ?_
  refine jc_newI (N := 17) X z_94 (by decide) (by decide) (Nat.le_of_ble_eq_true rfl) (Nat.le_of_ble_eq_true rfl) (Nat.le_of_ble_eq_true rfl) dX9_init_96 (fun q12 => ?_)
  refine jc_putF (C := RX9) (T := TX9) (N := 22) (ci := 9) X hnm tyX9 tyX9_ok nmX9 0 rfl rfl hin_X9 17 (by decide) z_879 rfl rfl rfl rfl rfl (Nat.le_of_ble_eq_true rfl) dX9_init_98 [(h0, .inr (9, [.int 0, .ref q1, .ref q2, .ref q3, .int 0, .ref q4, .ref q5, .int 0, .ref q6, .ref q7, .ref q8, .int 0, .ref q9, .int 0, .int 0, .ref q10, .ref q11, .ref q12, .null, .null, .null, .null])), (q1, az cs.1 74), (q2, az cs.1 74), (q3, az cs.1 740), (q4, az cs.1 148), (q5, az cs.2.1 2), (q6, az cs.1 6), (q7, az cs.1 6), (q8, az cs.1 6), (q9, az cs.1 80), (q10, az cs.1 17), (q11, az cs.1 17), (q12, az cs.1 17)] rfl ?_
  refine jc_aload_n X dX9_init_101 rfl 0 rfl ?_
  refine jc_bipush (v := 17) X dX9_init_102 (by decide) ?_
  refine jc_newI (N := 17) X z_94 (by decide) (by decide) (Nat.le_of_ble_eq_true rfl) (Nat.le_of_ble_eq_true rfl) (Nat.le_of_ble_eq_true rfl) dX9_init_104 (fun q13 => ?_)
  refine jc_putF (C := RX9) (T := TX9) (N := 22) (ci := 9) X hnm tyX9 tyX9_ok nmX9 0 rfl rfl hin_X9 18 (by decide) z_880 rfl rfl rfl rfl rfl (Nat.le_of_ble_eq_true rfl) dX9_init_106 [(h0, .inr (9, [.int 0, .ref q1, .ref q2, .ref q3, .int 0, .ref q4, .ref q5, .int 0, .ref q6, .ref q7, .ref q8, .int 0, .ref q9, .int 0, .int 0, .ref q10, .ref q11, .ref q12, .ref q13, .null, .null, .null])), (q1, az cs.1 74), (q2, az cs.1 74), (q3, az cs.1 740), (q4, az cs.1 148), (q5, az cs.2.1 2), (q6, az cs.1 6), (q7, az cs.1 6), (q8, az cs.1 6), (q9, az cs.1 80), (q10, az cs.1 17), (q11, az cs.1 17), (q12, az cs.1 17), (q13, az cs.1 17)] rfl ?_
  refine jc_aload_n X dX9_init_109 rfl 0 rfl ?_
  refine jc_sipush (v := 256) X dX9_init_110 (by decide) ?_
  refine jc_newI (N := 256) X z_94 (by decide) (by decide) (Nat.le_of_ble_eq_true rfl) (Nat.le_of_ble_eq_true rfl) (Nat.le_of_ble_eq_true rfl) dX9_init_113 (fun q14 => ?_)
  refine jc_putF (C := RX9) (T := TX9) (N := 22) (ci := 9) X hnm tyX9 tyX9_ok nmX9 0 rfl rfl hin_X9 19 (by decide) z_881 rfl rfl rfl rfl rfl (Nat.le_of_ble_eq_true rfl) dX9_init_115 [(h0, .inr (9, [.int 0, .ref q1, .ref q2, .ref q3, .int 0, .ref q4, .ref q5, .int 0, .ref q6, .ref q7, .ref q8, .int 0, .ref q9, .int 0, .int 0, .ref q10, .ref q11, .ref q12, .ref q13, .ref q14, .null, .null])), (q1, az cs.1 74), (q2, az cs.1 74), (q3, az cs.1 740), (q4, az cs.1 148), (q5, az cs.2.1 2), (q6, az cs.1 6), (q7, az cs.1 6), (q8, az cs.1 6), (q9, az cs.1 80), (q10, az cs.1 17), (q11, az cs.1 17), (q12, az cs.1 17), (q13, az cs.1 17), (q14, az cs.1 256)] rfl ?_
  refine jc_aload_n X dX9_init_118 rfl 0 rfl ?_
  refine jc_bipush (v := 8) X dX9_init_119 (by decide) ?_
  refine jc_newI (N := 8) X z_94 (by decide) (by decide) (Nat.le_of_ble_eq_true rfl) (Nat.le_of_ble_eq_true rfl) (Nat.le_of_ble_eq_true rfl) dX9_init_121 (fun q15 => ?_)
  refine jc_putF (C := RX9) (T := TX9) (N := 22) (ci := 9) X hnm tyX9 tyX9_ok nmX9 0 rfl rfl hin_X9 20 (by decide) z_882 rfl rfl rfl rfl rfl (Nat.le_of_ble_eq_true rfl) dX9_init_123 [(h0, .inr (9, [.int 0, .ref q1, .ref q2, .ref q3, .int 0, .ref q4, .ref q5, .int 0, .ref q6, .ref q7, .ref q8, .int 0, .ref q9, .int 0, .int 0, .ref q10, .ref q11, .ref q12, .ref q13, .ref q14, .ref q15, .null])), (q1, az cs.1 74), (q2, az cs.1 74), (q3, az cs.1 740), (q4, az cs.1 148), (q5, az cs.2.1 2), (q6, az cs.1 6), (q7, az cs.1 6), (q8, az cs.1 6), (q9, az cs.1 80), (q10, az cs.1 17), (q11, az cs.1 17), (q12, az cs.1 17), (q13, az cs.1 17), (q14, az cs.1 256), (q15, az cs.1 8)] rfl ?_
  refine jc_aload_n X dX9_init_126 rfl 0 rfl ?_
  refine jc_bipush (v := 8) X dX9_init_127 (by decide) ?_
  refine jc_newI (N := 8) X z_94 (by decide) (by decide) (Nat.le_of_ble_eq_true rfl) (Nat.le_of_ble_eq_true rfl) (Nat.le_of_ble_eq_true rfl) dX9_init_129 (fun q16 => ?_)
  refine jc_putF (C := RX9) (T := TX9) (N := 22) (ci := 9) X hnm tyX9 tyX9_ok nmX9 0 rfl rfl hin_X9 21 (by decide) z_883 rfl rfl rfl rfl rfl (Nat.le_of_ble_eq_true rfl) dX9_init_131 [(h0, .inr (9, [.int 0, .ref q1, .ref q2, .ref q3, .int 0, .ref q4, .ref q5, .int 0, .ref q6, .ref q7, .ref q8, .int 0, .ref q9, .int 0, .int 0, .ref q10, .ref q11, .ref q12, .ref q13, .ref q14, .ref q15, .ref q16])), (q1, az cs.1 74), (q2, az cs.1 74), (q3, az cs.1 740), (q4, az cs.1 148), (q5, az cs.2.1 2), (q6, az cs.1 6), (q7, az cs.1 6), (q8, az cs.1 6), (q9, az cs.1 80), (q10, az cs.1 17), (q11, az cs.1 17), (q12, az cs.1 17), (q13, az cs.1 17), (q14, az cs.1 256), (q15, az cs.1 8), (q16, az cs.1 8)] rfl ?_
  refine jc_aload_n X dX9_init_134 rfl 0 rfl ?_
  refine jc_iconst (v := 0) X dX9_init_135 (by decide) ?_
  refine jc_putI (C := RX9) (T := TX9) (N := 22) (ci := 9) X tyX9 tyX9_ok nmX9 0 rfl rfl hin_X9 7 (by decide) z_869 rfl rfl rfl rfl (Nat.le_of_ble_eq_true rfl) dX9_init_136 [(h0, .inr (9, [.int 0, .ref q1, .ref q2, .ref q3, .int 0, .ref q4, .ref q5, .int 0, .ref q6, .ref q7, .ref q8, .int 0, .ref q9, .int 0, .int 0, .ref q10, .ref q11, .ref q12, .ref q13, .ref q14, .ref q15, .ref q16])), (q1, az cs.1 74), (q2, az cs.1 74), (q3, az cs.1 740), (q4, az cs.1 148), (q5, az cs.2.1 2), (q6, az cs.1 6), (q7, az cs.1 6), (q8, az cs.1 6), (q9, az cs.1 80), (q10, az cs.1 17), (q11, az cs.1 17), (q12, az cs.1 17), (q13, az cs.1 17), (q14, az cs.1 256), (q15, az cs.1 8), (q16, az cs.1 8)] rfl ?_
  exact jc_vret X hr hk dX9_init_139 (q1, q2, q3, q4, q5, q6, q7, q8, q9, q10, q11, q12, q13, q14, q15, q16) [0, 1, 2, 3, 4, 5, 6, 7, 8, 9, 10, 11, 12, 13, 14, 15, 16] (by decide) rfl
