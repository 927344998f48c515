/-! ===== 04b shapes of the cells, rows beside those of part 03 (by program) ===== -/
theorem s_0 : fw_lay[0]? = some (.inl (8, [some 1, some 3, some 5, some 7, some 19, some 23, some 27, some 30, some 66])) := rfl
theorem s_1 : fw_lay[1]? = some (.inl (6, [some 2])) := rfl
theorem s_2 : fw_lay[2]? = some (.inr (0, 74, 0)) := rfl
theorem s_3 : fw_lay[3]? = some (.inl (6, [some 4])) := rfl
theorem s_4 : fw_lay[4]? = some (.inr (0, 74, 0)) := rfl
theorem s_5 : fw_lay[5]? = some (.inl (7, [some 6, none, none, none, none, none, none, none])) := rfl
theorem s_6 : fw_lay[6]? = some (.inr (0, 80, 0)) := rfl
theorem s_7 : fw_lay[7]? = some (.inl (2, [some 8, none, none])) := rfl
theorem s_8 : fw_lay[8]? = some (.inr (2, 10, 9)) := rfl
theorem s_9 : fw_lay[9]? = some (.inr (0, 74, 0)) := rfl
theorem s_10 : fw_lay[10]? = some (.inr (0, 74, 0)) := rfl
theorem s_11 : fw_lay[11]? = some (.inr (0, 74, 0)) := rfl
theorem s_12 : fw_lay[12]? = some (.inr (0, 74, 0)) := rfl
theorem s_13 : fw_lay[13]? = some (.inr (0, 74, 0)) := rfl
theorem s_14 : fw_lay[14]? = some (.inr (0, 74, 0)) := rfl
theorem s_15 : fw_lay[15]? = some (.inr (0, 74, 0)) := rfl
theorem s_16 : fw_lay[16]? = some (.inr (0, 74, 0)) := rfl
theorem s_17 : fw_lay[17]? = some (.inr (0, 74, 0)) := rfl
theorem s_18 : fw_lay[18]? = some (.inr (0, 74, 0)) := rfl
theorem s_19 : fw_lay[19]? = some (.inl (0, [some 20, none])) := rfl
theorem s_20 : fw_lay[20]? = some (.inr (2, 2, 21)) := rfl
theorem s_21 : fw_lay[21]? = some (.inr (0, 74, 0)) := rfl
theorem s_22 : fw_lay[22]? = some (.inr (0, 74, 0)) := rfl
theorem s_23 : fw_lay[23]? = some (.inl (4, [some 24, some 25, some 26, none])) := rfl
theorem s_24 : fw_lay[24]? = some (.inr (0, 6, 0)) := rfl
theorem s_25 : fw_lay[25]? = some (.inr (0, 6, 0)) := rfl
theorem s_26 : fw_lay[26]? = some (.inr (0, 6, 0)) := rfl
theorem s_27 : fw_lay[27]? = some (.inl (1, [some 28, some 29])) := rfl
theorem s_28 : fw_lay[28]? = some (.inr (0, 17, 0)) := rfl
theorem s_29 : fw_lay[29]? = some (.inr (0, 17, 0)) := rfl
theorem s_30 : fw_lay[30]? = some (.inl (3, [some 31, some 34, some 49, some 64, some 65])) := rfl
theorem s_31 : fw_lay[31]? = some (.inl (1, [some 32, some 33])) := rfl
theorem s_32 : fw_lay[32]? = some (.inr (0, 17, 0)) := rfl
theorem s_33 : fw_lay[33]? = some (.inr (0, 17, 0)) := rfl
theorem s_34 : fw_lay[34]? = some (.inr (2, 14, 35)) := rfl
theorem s_35 : fw_lay[35]? = some (.inr (0, 17, 0)) := rfl
theorem s_36 : fw_lay[36]? = some (.inr (0, 17, 0)) := rfl
theorem s_37 : fw_lay[37]? = some (.inr (0, 17, 0)) := rfl
theorem s_38 : fw_lay[38]? = some (.inr (0, 17, 0)) := rfl
theorem s_39 : fw_lay[39]? = some (.inr (0, 17, 0)) := rfl
theorem s_40 : fw_lay[40]? = some (.inr (0, 17, 0)) := rfl
theorem s_41 : fw_lay[41]? = some (.inr (0, 17, 0)) := rfl
theorem s_42 : fw_lay[42]? = some (.inr (0, 17, 0)) := rfl
theorem s_43 : fw_lay[43]? = some (.inr (0, 17, 0)) := rfl
theorem s_44 : fw_lay[44]? = some (.inr (0, 17, 0)) := rfl
theorem s_45 : fw_lay[45]? = some (.inr (0, 17, 0)) := rfl
theorem s_46 : fw_lay[46]? = some (.inr (0, 17, 0)) := rfl
theorem s_47 : fw_lay[47]? = some (.inr (0, 17, 0)) := rfl
theorem s_48 : fw_lay[48]? = some (.inr (0, 17, 0)) := rfl
theorem s_49 : fw_lay[49]? = some (.inr (2, 14, 50)) := rfl
theorem s_50 : fw_lay[50]? = some (.inr (0, 17, 0)) := rfl
theorem s_51 : fw_lay[51]? = some (.inr (0, 17, 0)) := rfl
theorem s_52 : fw_lay[52]? = some (.inr (0, 17, 0)) := rfl
theorem s_53 : fw_lay[53]? = some (.inr (0, 17, 0)) := rfl
theorem s_54 : fw_lay[54]? = some (.inr (0, 17, 0)) := rfl
theorem s_55 : fw_lay[55]? = some (.inr (0, 17, 0)) := rfl
theorem s_56 : fw_lay[56]? = some (.inr (0, 17, 0)) := rfl
theorem s_57 : fw_lay[57]? = some (.inr (0, 17, 0)) := rfl
theorem s_58 : fw_lay[58]? = some (.inr (0, 17, 0)) := rfl
theorem s_59 : fw_lay[59]? = some (.inr (0, 17, 0)) := rfl
theorem s_60 : fw_lay[60]? = some (.inr (0, 17, 0)) := rfl
theorem s_61 : fw_lay[61]? = some (.inr (0, 17, 0)) := rfl
theorem s_62 : fw_lay[62]? = some (.inr (0, 17, 0)) := rfl
theorem s_63 : fw_lay[63]? = some (.inr (0, 17, 0)) := rfl
theorem s_64 : fw_lay[64]? = some (.inr (0, 17, 0)) := rfl
theorem s_65 : fw_lay[65]? = some (.inr (0, 17, 0)) := rfl
theorem s_66 : fw_lay[66]? = some (.inl (5, [some 67, some 68, some 69, some 70, some 71, some 72, none, none])) := rfl
theorem s_67 : fw_lay[67]? = some (.inr (0, 8, 0)) := rfl
theorem s_68 : fw_lay[68]? = some (.inr (0, 8, 0)) := rfl
theorem s_69 : fw_lay[69]? = some (.inr (0, 256, 0)) := rfl
theorem s_70 : fw_lay[70]? = some (.inr (0, 256, 0)) := rfl
theorem s_71 : fw_lay[71]? = some (.inr (0, 8, 0)) := rfl
theorem s_72 : fw_lay[72]? = some (.inr (2, 8, 73)) := rfl
theorem s_73 : fw_lay[73]? = some (.inr (0, 8, 0)) := rfl
theorem s_74 : fw_lay[74]? = some (.inr (0, 8, 0)) := rfl
theorem s_75 : fw_lay[75]? = some (.inr (0, 8, 0)) := rfl
theorem s_76 : fw_lay[76]? = some (.inr (0, 8, 0)) := rfl
theorem s_77 : fw_lay[77]? = some (.inr (0, 8, 0)) := rfl
theorem s_78 : fw_lay[78]? = some (.inr (0, 8, 0)) := rfl
theorem s_79 : fw_lay[79]? = some (.inr (0, 8, 0)) := rfl
theorem s_80 : fw_lay[80]? = some (.inr (0, 8, 0)) := rfl
theorem s_81 : fw_lay[81]? = some (.inl (9, [none, some 82, some 83, some 84, none, some 85, some 86, none, some 87, some 88, some 89, none, some 90, none, none, some 91, some 92, some 93, some 94, some 95, some 96, some 97])) := rfl
theorem s_82 : fw_lay[82]? = some (.inr (0, 74, 0)) := rfl
theorem s_83 : fw_lay[83]? = some (.inr (0, 74, 0)) := rfl
theorem s_84 : fw_lay[84]? = some (.inr (0, 740, 0)) := rfl
theorem s_85 : fw_lay[85]? = some (.inr (0, 148, 0)) := rfl
theorem s_86 : fw_lay[86]? = some (.inr (1, 2, 0)) := rfl
theorem s_87 : fw_lay[87]? = some (.inr (0, 6, 0)) := rfl
theorem s_88 : fw_lay[88]? = some (.inr (0, 6, 0)) := rfl
theorem s_89 : fw_lay[89]? = some (.inr (0, 6, 0)) := rfl
theorem s_90 : fw_lay[90]? = some (.inr (0, 80, 0)) := rfl
theorem s_91 : fw_lay[91]? = some (.inr (0, 17, 0)) := rfl
theorem s_92 : fw_lay[92]? = some (.inr (0, 17, 0)) := rfl
theorem s_93 : fw_lay[93]? = some (.inr (0, 17, 0)) := rfl
theorem s_94 : fw_lay[94]? = some (.inr (0, 17, 0)) := rfl
theorem s_95 : fw_lay[95]? = some (.inr (0, 256, 0)) := rfl
theorem s_96 : fw_lay[96]? = some (.inr (0, 8, 0)) := rfl
theorem s_97 : fw_lay[97]? = some (.inr (0, 8, 0)) := rfl
theorem s_rw9 : ∀ j, j < 10 → fw_lay[9 + j]? = some (.inr (0, 74, 0))
  | 0, _ => rfl
  | 1, _ => rfl
  | 2, _ => rfl
  | 3, _ => rfl
  | 4, _ => rfl
  | 5, _ => rfl
  | 6, _ => rfl
  | 7, _ => rfl
  | 8, _ => rfl
  | 9, _ => rfl
  | j + 10, h => absurd h (by omega)
theorem s_row9 {i : Int32} {k : Nat} (h : aal 10 9 i = some k) : fw_lay[k]? = some (.inr (0, 74, 0)) := by
  obtain ⟨h1, rfl⟩ := aal_s h
  exact s_rw9 _ (Nat.not_le.mp fun z => h1 (Or.inr z))
theorem s_rw21 : ∀ j, j < 2 → fw_lay[21 + j]? = some (.inr (0, 74, 0))
  | 0, _ => rfl
  | 1, _ => rfl
  | j + 2, h => absurd h (by omega)
theorem s_row21 {i : Int32} {k : Nat} (h : aal 2 21 i = some k) : fw_lay[k]? = some (.inr (0, 74, 0)) := by
  obtain ⟨h1, rfl⟩ := aal_s h
  exact s_rw21 _ (Nat.not_le.mp fun z => h1 (Or.inr z))
theorem s_rw35 : ∀ j, j < 14 → fw_lay[35 + j]? = some (.inr (0, 17, 0))
  | 0, _ => rfl
  | 1, _ => rfl
  | 2, _ => rfl
  | 3, _ => rfl
  | 4, _ => rfl
  | 5, _ => rfl
  | 6, _ => rfl
  | 7, _ => rfl
  | 8, _ => rfl
  | 9, _ => rfl
  | 10, _ => rfl
  | 11, _ => rfl
  | 12, _ => rfl
  | 13, _ => rfl
  | j + 14, h => absurd h (by omega)
theorem s_row35 {i : Int32} {k : Nat} (h : aal 14 35 i = some k) : fw_lay[k]? = some (.inr (0, 17, 0)) := by
  obtain ⟨h1, rfl⟩ := aal_s h
  exact s_rw35 _ (Nat.not_le.mp fun z => h1 (Or.inr z))
theorem s_rw50 : ∀ j, j < 14 → fw_lay[50 + j]? = some (.inr (0, 17, 0))
  | 0, _ => rfl
  | 1, _ => rfl
  | 2, _ => rfl
  | 3, _ => rfl
  | 4, _ => rfl
  | 5, _ => rfl
  | 6, _ => rfl
  | 7, _ => rfl
  | 8, _ => rfl
  | 9, _ => rfl
  | 10, _ => rfl
  | 11, _ => rfl
  | 12, _ => rfl
  | 13, _ => rfl
  | j + 14, h => absurd h (by omega)
theorem s_row50 {i : Int32} {k : Nat} (h : aal 14 50 i = some k) : fw_lay[k]? = some (.inr (0, 17, 0)) := by
  obtain ⟨h1, rfl⟩ := aal_s h
  exact s_rw50 _ (Nat.not_le.mp fun z => h1 (Or.inr z))
theorem s_rw73 : ∀ j, j < 8 → fw_lay[73 + j]? = some (.inr (0, 8, 0))
  | 0, _ => rfl
  | 1, _ => rfl
  | 2, _ => rfl
  | 3, _ => rfl
  | 4, _ => rfl
  | 5, _ => rfl
  | 6, _ => rfl
  | 7, _ => rfl
  | j + 8, h => absurd h (by omega)
theorem s_row73 {i : Int32} {k : Nat} (h : aal 8 73 i = some k) : fw_lay[k]? = some (.inr (0, 8, 0)) := by
  obtain ⟨h1, rfl⟩ := aal_s h
  exact s_rw73 _ (Nat.not_le.mp fun z => h1 (Or.inr z))
theorem nm_0 : (RX7, 96, yX8_eventOf, RX8) ∈ fw_nm := List.mem_of_getElem? (i := 0) rfl
theorem nm_1 : (RX1, 26, yX8_has, RX8) ∈ fw_nm := List.mem_of_getElem? (i := 1) rfl
theorem nm_2 : (RX6, 66, yX8_eventOf, RX8) ∈ fw_nm := List.mem_of_getElem? (i := 2) rfl
theorem nm_3 : (RX6, 72, yX8_lookOf, RX8) ∈ fw_nm := List.mem_of_getElem? (i := 3) rfl
theorem nm_4 : (RX3, 76, yX8_has, RX8) ∈ fw_nm := List.mem_of_getElem? (i := 4) rfl
theorem nm_5 : (RX5, 72, yX8_eventOf, RX8) ∈ fw_nm := List.mem_of_getElem? (i := 5) rfl
theorem nm_6 : (RX5, 79, yX8_has, RX8) ∈ fw_nm := List.mem_of_getElem? (i := 6) rfl
theorem nm_7 : (RX0, 22, yX8_has, RX8) ∈ fw_nm := List.mem_of_getElem? (i := 7) rfl
theorem nf_0 : (RX6, 69, RX8, "EVENT_TO_LOOK", "[I", RX8) ∈ fw_nf := List.mem_of_getElem? (i := 0) rfl
theorem nf_1 : (RX6, 75, RX8, "LOOK_TO_NOW", "[I", RX8) ∈ fw_nf := List.mem_of_getElem? (i := 1) rfl
/-- the fuel of every loop: more than any of them turns -/
def NF : Nat := 100000
theorem bs_i {α : Type} {a : Option α} {r : α} (h : a = some r) : a.bind some = some r := by rw [h]; rfl
theorem pi_t {β : Type} {c : Prop} {d : Decidable c} {A B r : β} (hc : c) (h : (@ite _ c d A B) = r) : A = r := by
  rw [if_pos hc] at h
  exact h
theorem pi_f {β : Type} {c : Prop} {d : Decidable c} {A B r : β} (hc : ¬ c) (h : (@ite _ c d A B) = r) : B = r := by
  rw [if_neg hc] at h
  exact h
section JR2
variable {p : Program} {l : Launch} {e : Env} {R : Room} {s : State} {m : MethodId} {args : Array Value} {below : List Frame} {meth : Method} {c : Code} {Q : State → Prop} {w : WP} {nL : Nat} {cc : ByteArray} {own : String} {G : Mem} {pc : Nat} {lv lv' : List (Nat × Value)} {st : List Value}
theorem j_ldcw (X : fw_X p s m args c cc nL own w) {index : Nat} {v : Int32} (hd : decode cc pc = .ok (.ldc_w index, 3)) (hw : Cond.constant own index v ∈ lw_tg) (k : J p l e R s m args below meth c Q w nL G (pc + 3) lv (.int v :: st)) : J p l e R s m args below meth c Q w nL G pc lv st :=
  fun H locs ls hP hS hl => lv_ldcw X.1.1 X.1.2.1 X.1.2.2.2.1 (X.1.2.2.2.2 _ hw) hd (k H locs ls hP hS hl)
theorem j_tabAt (X : fw_X p s m args c cc nL own w) {dflt lo hi off : Int} {offs : Array Int} {len : Nat} {x v : Int32} (tgt : Nat) (hd : decode cc pc = .ok (.tableswitch dflt lo hi offs, len)) (hx : x = v) (h1 : ¬ v.toInt < lo) (h2 : ¬ hi < v.toInt) (ho : offs[(v.toInt - lo).toNat]? = some off) (ht : (pc : Int) + off = (tgt : Int)) (k : J p l e R s m args below meth c Q w nL G tgt lv st) : J p l e R s m args below meth c Q w nL G pc lv (.int x :: st) := by
  subst hx
  exact j_tabIn X tgt hd h1 h2 ho ht k
theorem j_i2b (X : fw_X p s m args c cc nL own w) {x v : Int32} (hd : decode cc pc = .ok (.i2b, 1)) (hv : x.toInt8.toInt32 = v) (k : J p l e R s m args below meth c Q w nL G (pc + 1) lv (.int v :: st)) : J p l e R s m args below meth c Q w nL G pc lv (.int x :: st) :=
  fun H locs ls hP hS hl => lv_i2b X.1.1 X.1.2.1 hd hv (k H locs ls hP hS hl)
theorem j_getsC (X : fw_X p s m args c cc nL own w) {index : Nat} (hl : Cond.fieldLink own index "java/lang/String" "COMPACT_STRINGS" "Z" ∈ lw_tg) (hd : decode cc pc = .ok (.getstatic index, 3)) (kk : J p l e R s m args below meth c Q w nL G (pc + 3) lv (.int 1 :: st)) : J p l e R s m args below meth c Q w nL G pc lv st :=
  fun H locs ls hP hS hh => va_gets X.1.1 X.1.2.1 X.2.2.2.2.2.1 hS X.1.2.2.2.1 (X.1.2.2.2.2 _ hl) (fun _ h => h) hd (kk H locs ls hP hS hh)
theorem j_sgetC (X : fw_X p s m args c cc nL own w) {index : Nat} (i : Nat) (hi : i < 3) (hl : Cond.fieldLink own index "java/lang/String" "coder" "B" ∈ lw_tg) (hd : decode cc pc = .ok (.getfield index, 3)) (kk : J p l e R s m args below meth c Q w nL G (pc + 3) lv (.int 0 :: st)) : J p l e R s m args below meth c Q w nL G pc lv (.ref (w.2.2.2.2.1 i) :: st) :=
  fun H locs ls hP hS hh => vk_getf X.1.1 X.1.2.1 (X.2.2.2.2.2.2.1.1 i hi).2.1 hS X.1.2.2.2.1 (X.1.2.2.2.2 _ hl) (fun _ h => h) hd (kk H locs ls hP hS hh)
theorem j_sgetV (X : fw_X p s m args c cc nL own w) {index : Nat} (i : Nat) (hi : i < 3) (hl : Cond.fieldLink own index "java/lang/String" "value" "[B" ∈ lw_tg) (hd : decode cc pc = .ok (.getfield index, 3)) (kk : J p l e R s m args below meth c Q w nL G (pc + 3) lv (.ref (w.2.2.2.2.2 i) :: st)) : J p l e R s m args below meth c Q w nL G pc lv (.ref (w.2.2.2.2.1 i) :: st) :=
  fun H locs ls hP hS hh => vk_getf X.1.1 X.1.2.1 (X.2.2.2.2.2.2.1.1 i hi).2.2.1 hS X.1.2.2.2.1 (X.1.2.2.2.2 _ hl) (fun _ h => h) hd (kk H locs ls hP hS hh)
/-- a String constant's length and its bytes -/
def blen (i : Nat) : Int32 := Int32.ofNat (st_len.getD i 0)
def bld (i : Nat) (j : Int32) : Option Int32 := if j < 0 ∨ st_len.getD i 0 ≤ j.toNatClampNeg then none else some ((st_byt.getD i []).getD j.toNatClampNeg 0)
theorem bld_s {i : Nat} {j v : Int32} (h : bld i j = some v) : vp_in j (st_len.getD i 0) ∧ v = (st_byt.getD i []).getD j.toNatClampNeg 0 := by
  unfold bld at h
  split at h
  · cases h
  · exact ⟨‹_›, (Option.some.inj h).symm⟩
theorem j_blen (X : fw_X p s m args c cc nL own w) (i : Nat) (hi : i < 3) (hd : decode cc pc = .ok (.arraylength, 1)) (kk : J p l e R s m args below meth c Q w nL G (pc + 1) lv (.int (blen i) :: st)) : J p l e R s m args below meth c Q w nL G pc lv (.ref (w.2.2.2.2.2 i) :: st) :=
  fun H locs ls hP hS hh => by
    obtain ⟨cell, h1, h2, h3, h4, h5, h6, h7⟩ := (X.2.2.2.2.2.2.1.1 i hi).2.2.2.kept hS.2.1
    exact W.alen X.1.1 X.1.2.1 h1 h2 h5 rfl rfl hd (kk H locs ls hP hS hh)
theorem j_bald (X : fw_X p s m args c cc nL own w) (i : Nat) (hi : i < 3) {j v : Int32} (h : bld i j = some v) (hd : decode cc pc = .ok (.baload, 1)) (kk : J p l e R s m args below meth c Q w nL G (pc + 1) lv (.int v :: st)) : J p l e R s m args below meth c Q w nL G pc lv (.int j :: .ref (w.2.2.2.2.2 i) :: st) :=
  fun H locs ls hP hS hh => va_tb X.1.1 X.1.2.1 (X.2.2.2.2.2.2.1.1 i hi).2.2.2 hS (bld_s h).1 (by rw [(bld_s h).2]) hd (kk H locs ls hP hS hh)
theorem j_callTi (X : fw_X p s m args c cc nL own w) {y : MethodName} {bytes : ByteArray} {maxL fr lo index : Nat} {ret : Option FieldType} {As rest : List Value} {r : Int32} {G1 : Mem} (i : Nat) (hi : i < 3) (hM : CMi l y bytes maxL ret fr lo w (.ref (w.2.2.2.2.1 i) :: As) G (r, G1)) (hy : y.cls = "java/lang/String") (hd0 : y.cls ≠ "java/lang/invoke/MethodHandle" ∧ y.cls ≠ "java/lang/invoke/VarHandle" ∧ (parseMethodDescriptor y.desc).map (fun d => d.parameters.length) = some As.length) (h1 : Cond.methodLink own index y ∈ lw_tg) (h2 : Cond.instanceMethod y ∈ lw_tg) (h3 : Cond.selects y.cls y y ∈ lw_tg) (h4 : Cond.initialized y.cls ∈ lw_tg) (h5 : Cond.code y bytes maxL ret ∈ lw_tg) (hR : fr + 1 ≤ R.frames ∧ 8 + (maxL + 11) + lo ≤ R.locals) (hwd : (rest.map fun v => v.category).sum ≤ 8) (hst : st = As.reverse ++ .ref (w.2.2.2.2.1 i) :: rest) (hd : decode cc pc = .ok (.invokevirtual index, 3)) (kk : J p l e R s m args below meth c Q w nL G1 (pc + 3) lv (.int r :: rest)) : J p l e R s m args below meth c Q w nL G pc lv st := by
  subst hst
  intro H locs ls hP hS hl
  exact va_calli (va_runV (As := As) (rest := rest) X.1 hM (⟨callB_of As.length X.1.2.2.2.2 (tg_good h5) rfl rfl rfl (X.1.2.2.2.2 _ h4) (X.1.2.2.2.2 _ h1) hd0 hR, X.1.2.2.2.2 _ h2, X.1.2.2.2.2 _ h3⟩) ⟨fw_W.blind w G _, (by rw [hy]; exact vk_recv X.2.2.2.2.2.2.1 hi hS), fun U hU hW => ⟨rfl, by rw [hU]; exact hP, X.2.1.moved hW.alike, X.2.2.1, by rw [hU]; exact X.2.2.2.warm hW hS.2.1⟩⟩ rfl rfl hl.1 rfl (lv_room hwd) hd ⟨Nat.zero_le _, Nat.zero_le _⟩) hS (fun q _ h => h) (fun q h => h) (fun r1 u t H1 locs1 ht _ hw hB _ _ hS1 => by
    obtain ⟨rfl, rfl⟩ := Prod.mk.inj hw
    exact kk H1 locs1 ls (by rw [← ht]; exact hB) hS1 hl)
theorem j_bret (X : fw_X p s m args c cc nL own w) {v v' : Int32} {res : Int32 × Mem} (hr : meth.sig.returnType = some .byte) (hk : meth.locks = false) (hn : v.toInt8.toInt32 = v') (hd : decode cc pc = .ok (.ireturn, 1)) (h : (v', G) = res) : J p l e R s m args below meth c (Qint below args s w res) w nL G pc lv [.int v] :=
  fun H locs ls hP hS hl => W.zretN X.1.1 X.1.2.1 hr (by rw [← hn]; rfl) (fun t ht hW => ⟨⟨v', G, rfl, h, by show va_P _ _ _ t.heap; rw [ht]; exact hP⟩, hS.F ht⟩) hS.2.2 hd hk
end JR2
