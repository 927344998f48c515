abbrev rm_X9_adds : Room := { frames := 0, cells := 0, slots := 0, locals := 0 }
theorem pn_X9_adds : yX9_adds.cls ≠ "java/lang/invoke/MethodHandle" ∧ yX9_adds.cls ≠ "java/lang/invoke/VarHandle" ∧ (parseMethodDescriptor yX9_adds.desc).map (fun d => d.parameters.length) = some 4 := by decide +kernel
def m_X9_adds (G : Mem) (p1 : Int32) (p2 : Int32) (p3 : Int32) (p4 : Int32) : Option (Mem) := (ald 74 G 83 1).bind (fun r_1 => (ast 74 G 83 (18 + (4 * r_1)) p1).bind (fun q_2 => (ast 74 q_2 83 ((18 + (4 * r_1)) + 1) p2).bind (fun q_3 => (ast 74 q_3 83 ((18 + (4 * r_1)) + 2) p3).bind (fun q_4 => (ast 74 q_4 83 ((18 + (4 * r_1)) + 3) p4).bind (fun q_5 => (ald 74 q_5 83 1).bind (fun r_6 => (ast 74 q_5 83 1 (r_6 + 1)).bind (fun q_7 => some q_7)))))))
set_option maxRecDepth 100000 in
set_option maxHeartbeats 4000000 in
theorem c_X9_adds (l : Launch) (w : WP) (G : Mem) (p1 : Int32) (p2 : Int32) (p3 : Int32) (p4 : Int32) {res : Mem} (h0 : m_X9_adds G p1 p2 p3 p4 = some res) : CMv l yX9_adds cX9_adds 6 none 0 0 w [.ref (w.1 81), .int p1, .int p2, .int p3, .int p4] G res := by
  refine CMv.of (by decide +kernel) (Nat.le_of_ble_eq_true rfl) ?_
  intro p e s m args below meth c X hr hk
  have h := bs_i h0
  unfold m_X9_adds at h
  show J p l e rm_X9_adds s m args below meth c (Qvoid below args s w res) w 6 G 0 [(0, .ref (w.1 81)), (1, .int p1), (2, .int p2), (3, .int p3), (4, .int p4)] []
  refine j_bipush (v := 18) X dX9_adds_0 (by decide) ?_
  refine j_iconst (v := 4) X dX9_adds_2 (by decide) ?_
  refine j_aload_n X dX9_adds_3 rfl 0 rfl ?_
  refine j_getR (C := RX9) (T := TX9) (N := 22) X 81 s_81 rfl hin_X9 2 (by decide) 83 rfl q_864 dX9_adds_4 ?_
  refine j_iconst (v := 1) X dX9_adds_7 (by decide) ?_
  obtain ⟨r_1, hr_1, h⟩ := bd_s h
  refine j_iald X 83 74 s_83 hr_1 dX9_adds_8 ?_
  refine j_imul X dX9_adds_9 ?_
  refine j_iadd X dX9_adds_10 ?_
  refine j_istore X [(5, .int (18 + (4 * r_1))), (0, .ref (w.1 81)), (1, .int p1), (2, .int p2), (3, .int p3), (4, .int p4)] dX9_adds_11 (by decide) rfl ?_
  refine j_aload_n X dX9_adds_13 rfl 1 rfl ?_
  refine j_getR (C := RX9) (T := TX9) (N := 22) X 81 s_81 rfl hin_X9 2 (by decide) 83 rfl q_864 dX9_adds_14 ?_
  refine j_iload X dX9_adds_17 0 rfl ?_
  refine j_iload_n X dX9_adds_19 rfl 2 rfl ?_
  obtain ⟨q_2, hq_2, h⟩ := bd_s h
  refine j_iast X 83 74 s_83 hq_2 dX9_adds_20 ?_
  refine j_aload_n X dX9_adds_21 rfl 1 rfl ?_
  refine j_getR (C := RX9) (T := TX9) (N := 22) X 81 s_81 rfl hin_X9 2 (by decide) 83 rfl q_864 dX9_adds_22 ?_
  refine j_iload X dX9_adds_25 0 rfl ?_
  refine j_iconst (v := 1) X dX9_adds_27 (by decide) ?_
  refine j_iadd X dX9_adds_28 ?_
  refine j_iload_n X dX9_adds_29 rfl 3 rfl ?_
  obtain ⟨q_3, hq_3, h⟩ := bd_s h
  refine j_iast X 83 74 s_83 hq_3 dX9_adds_30 ?_
  refine j_aload_n X dX9_adds_31 rfl 1 rfl ?_
  refine j_getR (C := RX9) (T := TX9) (N := 22) X 81 s_81 rfl hin_X9 2 (by decide) 83 rfl q_864 dX9_adds_32 ?_
  refine j_iload X dX9_adds_35 0 rfl ?_
  refine j_iconst (v := 2) X dX9_adds_37 (by decide) ?_
  refine j_iadd X dX9_adds_38 ?_
  refine j_iload_n X dX9_adds_39 rfl 4 rfl ?_
  obtain ⟨q_4, hq_4, h⟩ := bd_s h
  refine j_iast X 83 74 s_83 hq_4 dX9_adds_40 ?_
  refine j_aload_n X dX9_adds_41 rfl 1 rfl ?_
  refine j_getR (C := RX9) (T := TX9) (N := 22) X 81 s_81 rfl hin_X9 2 (by decide) 83 rfl q_864 dX9_adds_42 ?_
  refine j_iload X dX9_adds_45 0 rfl ?_
  refine j_iconst (v := 3) X dX9_adds_47 (by decide) ?_
  refine j_iadd X dX9_adds_48 ?_
  refine j_iload X dX9_adds_49 5 rfl ?_
  obtain ⟨q_5, hq_5, h⟩ := bd_s h
  refine j_iast X 83 74 s_83 hq_5 dX9_adds_51 ?_
  refine j_aload_n X dX9_adds_52 rfl 1 rfl ?_
  refine j_getR (C := RX9) (T := TX9) (N := 22) X 81 s_81 rfl hin_X9 2 (by decide) 83 rfl q_864 dX9_adds_53 ?_
  refine j_iconst (v := 1) X dX9_adds_56 (by decide) ?_
  refine j_dup2 X dX9_adds_57 rfl rfl ?_
  obtain ⟨r_6, hr_6, h⟩ := bd_s h
  refine j_iald X 83 74 s_83 hr_6 dX9_adds_58 ?_
  refine j_iconst (v := 1) X dX9_adds_59 (by decide) ?_
  refine j_iadd X dX9_adds_60 ?_
  obtain ⟨q_7, hq_7, h⟩ := bd_s h
  refine j_iast X 83 74 s_83 hq_7 dX9_adds_61 ?_
  exact j_vret X hr hk dX9_adds_62 (Option.some.inj h)
abbrev rm_X9_all : Room := { frames := 0, cells := 0, slots := 0, locals := 0 }
theorem pn_X9_all : yX9_all.cls ≠ "java/lang/invoke/MethodHandle" ∧ yX9_all.cls ≠ "java/lang/invoke/VarHandle" ∧ (parseMethodDescriptor yX9_all.desc).map (fun d => d.parameters.length) = some 0 := by decide +kernel
def m_X9_all (G : Mem) : Option (Int32) := (ald 74 G 82 1).bind (fun r_1 => some ((1 <<< (r_1 &&& 31)) - 1))
set_option maxRecDepth 100000 in
set_option maxHeartbeats 4000000 in
theorem c_X9_all (l : Launch) (w : WP) (G : Mem) {res : Int32} (h0 : m_X9_all G = some res) : CMi l yX9_all cX9_all 1 (some .int) 0 0 w [.ref (w.1 81)] G (res, G) := by
  refine CMi.of (by decide +kernel) (Nat.le_of_ble_eq_true rfl) ?_
  intro p e s m args below meth c X hr hk
  have h := bs_i h0
  unfold m_X9_all at h
  show J p l e rm_X9_all s m args below meth c (Qint below args s w (res, G)) w 1 G 0 [(0, .ref (w.1 81))] []
  refine j_iconst (v := 1) X dX9_all_0 (by decide) ?_
  refine j_aload_n X dX9_all_1 rfl 0 rfl ?_
  refine j_getR (C := RX9) (T := TX9) (N := 22) X 81 s_81 rfl hin_X9 1 (by decide) 82 rfl q_863 dX9_all_2 ?_
  refine j_iconst (v := 1) X dX9_all_5 (by decide) ?_
  obtain ⟨r_1, hr_1, h⟩ := bd_s h
  refine j_iald X 82 74 s_82 hr_1 dX9_all_6 ?_
  refine j_ishl X dX9_all_7 ?_
  refine j_iconst (v := 1) X dX9_all_8 (by decide) ?_
  refine j_isub X dX9_all_9 ?_
  exact j_iret X hr hk dX9_all_10 (congrArg (fun z => (z, G)) (Option.some.inj h))
abbrev rm_X9_areSame : Room := { frames := 0, cells := 0, slots := 0, locals := 0 }
theorem pn_X9_areSame : yX9_areSame.cls ≠ "java/lang/invoke/MethodHandle" ∧ yX9_areSame.cls ≠ "java/lang/invoke/VarHandle" ∧ (parseMethodDescriptor yX9_areSame.desc).map (fun d => d.parameters.length) = some 2 := by decide +kernel
def L_X9_areSame_18 (x3 : Int32) (x4 : Int32) : Nat → Int32 → Mem → Option (Mem)
  | 0, _, _ => none
  | n + 1, x5, G => (if (G 81 14) ≤ x5 then some G else (ald 17 G 91 x5).bind (fun r_4 => ((if r_4 = x3 then some x4 else (ald 17 G 91 x5).bind (fun r_8 => some r_8)) : Option (Int32)).bind (fun (v_5 : Int32) => (ast 17 G 91 x5 v_5).bind (fun q_6 => L_X9_areSame_18 x3 x4 n (x5 + 1) q_6))))
def m_X9_areSame (G : Mem) (p1 : Int32) (p2 : Int32) : Option (Mem) := (ald 17 G 91 p1).bind (fun r_1 => (ald 17 G 91 p2).bind (fun r_2 => (L_X9_areSame_18 r_1 r_2 NF 0 G).bind (fun v_9 => some v_9)))
set_option maxRecDepth 100000 in
set_option maxHeartbeats 4000000 in
theorem jL_X9_areSame_18 {p : Program} {l : Launch} {e : Env} {s : State} {m : MethodId} {args : Array Value} {below : List Frame} {meth : Method} {c : Code} {w : WP} (X : fw_X p s m args c cX9_areSame 6 RX9 w) (hr : meth.sig.returnType = none) (hk : meth.locks = false) {x3 : Int32} {x4 : Int32} {res : Mem} {K : Mem → Option (Mem)} (HK : ∀ v : Mem, K v = some res → J p l e rm_X9_areSame s m args below meth c (Qvoid below args s w res) w 6 v 63 [] []) : ∀ (n : Nat) (x5 : Int32) (G : Mem), (L_X9_areSame_18 x3 x4 n x5 G).bind K = some res → J p l e rm_X9_areSame s m args below meth c (Qvoid below args s w res) w 6 G 18 [(0, .ref (w.1 81)), (3, .int x3), (4, .int x4), (5, .int x5)] [] := by
  intro n
  induction n with
  | zero =>
    intro x5 G h
    rw [L_X9_areSame_18] at h
    cases h
  | succ n ih =>
    intro x5 G h
    rw [L_X9_areSame_18] at h
    refine j_iload X dX9_areSame_18 3 rfl ?_
    refine j_aload_n X dX9_areSame_20 rfl 0 rfl ?_
    refine j_getI (C := RX9) (T := TX9) (N := 22) X 81 s_81 rfl hin_X9 14 (by decide) rfl q_876 dX9_areSame_21 ?_
    refine j_icmp_ge X 63 dX9_areSame_24 (by decide) (fun c_3 => ?_) (fun c_3 => ?_)
    · have h := bi_t c_3 h
      refine j_pick [] rfl ?_
      exact HK G h
    · have h := bi_f c_3 h
      refine j_aload_n X dX9_areSame_27 rfl 0 rfl ?_
      refine j_getR (C := RX9) (T := TX9) (N := 22) X 81 s_81 rfl hin_X9 15 (by decide) 91 rfl q_877 dX9_areSame_28 ?_
      refine j_iload X dX9_areSame_31 3 rfl ?_
      refine j_aload_n X dX9_areSame_33 rfl 0 rfl ?_
      refine j_getR (C := RX9) (T := TX9) (N := 22) X 81 s_81 rfl hin_X9 15 (by decide) 91 rfl q_877 dX9_areSame_34 ?_
      refine j_iload X dX9_areSame_37 3 rfl ?_
      obtain ⟨r_4, hr_4, h⟩ := bd_s h
      refine j_iald X 91 17 s_91 hr_4 dX9_areSame_39 ?_
      refine j_iload_n X dX9_areSame_40 rfl 1 rfl ?_
      have h := bb_a h
      have Hv_5 : ∀ v_5 : Int32, ((ast 17 G 91 x5 v_5).bind (fun q_6 => L_X9_areSame_18 x3 x4 n (x5 + 1) q_6)).bind K = some res → J p l e rm_X9_areSame s m args below meth c (Qvoid below args s w res) w 6 G 56 [(0, .ref (w.1 81)), (3, .int x3), (4, .int x4), (5, .int x5)] [.int v_5, .int x5, .ref (w.1 91)] := by
        intro v_5 h
        obtain ⟨q_6, hq_6, h⟩ := bd_s h
        refine j_iast X 91 17 s_91 hq_6 dX9_areSame_56 ?_
        refine j_iinc (v := x5 + 1) X [(5, .int (x5 + 1)), (0, .ref (w.1 81)), (3, .int x3), (4, .int x4)] dX9_areSame_57 3 rfl rfl (by decide) rfl ?_
        refine j_goto X 18 dX9_areSame_60 (by decide) ?_
        refine j_pick [1, 2, 3, 0] rfl ?_
        exact ih (x5 + 1) q_6 h
      refine j_icmp_ne X 49 dX9_areSame_41 (by decide) (fun c_7 => ?_) (fun c_7 => ?_)
      · have h := bi_f c_7 h
        refine j_aload_n X dX9_areSame_49 rfl 0 rfl ?_
        refine j_getR (C := RX9) (T := TX9) (N := 22) X 81 s_81 rfl hin_X9 15 (by decide) 91 rfl q_877 dX9_areSame_50 ?_
        refine j_iload X dX9_areSame_53 3 rfl ?_
        obtain ⟨r_8, hr_8, h⟩ := bd_s h
        refine j_iald X 91 17 s_91 hr_8 dX9_areSame_55 ?_
        refine j_pick [0, 1, 2, 3] rfl ?_
        exact Hv_5 r_8 h
      · have h := bi_t c_7 h
        refine j_iload X dX9_areSame_44 2 rfl ?_
        refine j_goto X 56 dX9_areSame_46 (by decide) ?_
        refine j_pick [0, 1, 2, 3] rfl ?_
        exact Hv_5 x4 h
set_option maxRecDepth 100000 in
set_option maxHeartbeats 4000000 in
theorem c_X9_areSame (l : Launch) (w : WP) (G : Mem) (p1 : Int32) (p2 : Int32) {res : Mem} (h0 : m_X9_areSame G p1 p2 = some res) : CMv l yX9_areSame cX9_areSame 6 none 0 0 w [.ref (w.1 81), .int p1, .int p2] G res := by
  refine CMv.of (by decide +kernel) (Nat.le_of_ble_eq_true rfl) ?_
  intro p e s m args below meth c X hr hk
  have h := bs_i h0
  unfold m_X9_areSame at h
  show J p l e rm_X9_areSame s m args below meth c (Qvoid below args s w res) w 6 G 0 [(0, .ref (w.1 81)), (1, .int p1), (2, .int p2)] []
  refine j_aload_n X dX9_areSame_0 rfl 0 rfl ?_
  refine j_getR (C := RX9) (T := TX9) (N := 22) X 81 s_81 rfl hin_X9 15 (by decide) 91 rfl q_877 dX9_areSame_1 ?_
  refine j_iload_n X dX9_areSame_4 rfl 1 rfl ?_
  obtain ⟨r_1, hr_1, h⟩ := bd_s h
  refine j_iald X 91 17 s_91 hr_1 dX9_areSame_5 ?_
  refine j_istore_n X [(3, .int r_1), (0, .ref (w.1 81)), (1, .int p1), (2, .int p2)] dX9_areSame_6 rfl (by decide) rfl ?_
  refine j_aload_n X dX9_areSame_7 rfl 1 rfl ?_
  refine j_getR (C := RX9) (T := TX9) (N := 22) X 81 s_81 rfl hin_X9 15 (by decide) 91 rfl q_877 dX9_areSame_8 ?_
  refine j_iload_n X dX9_areSame_11 rfl 3 rfl ?_
  obtain ⟨r_2, hr_2, h⟩ := bd_s h
  refine j_iald X 91 17 s_91 hr_2 dX9_areSame_12 ?_
  refine j_istore X [(4, .int r_2), (3, .int r_1), (0, .ref (w.1 81)), (1, .int p1), (2, .int p2)] dX9_areSame_13 (by decide) rfl ?_
  refine j_iconst (v := 0) X dX9_areSame_15 (by decide) ?_
  refine j_istore X [(5, .int 0), (4, .int r_2), (3, .int r_1), (0, .ref (w.1 81)), (1, .int p1), (2, .int p2)] dX9_areSame_16 (by decide) rfl ?_
  have h := bb_a h
  have Hv_9 : ∀ v_9 : Mem, (some v_9).bind some = some res → J p l e rm_X9_areSame s m args below meth c (Qvoid below args s w res) w 6 v_9 63 [] [] := by
    intro v_9 h
    exact j_vret X hr hk dX9_areSame_63 (Option.some.inj h)
  refine j_pick [3, 2, 1, 0] rfl ?_
  exact jL_X9_areSame_18 X hr hk Hv_9 NF 0 G h
abbrev rm_X9_in : Room := { frames := 0, cells := 0, slots := 0, locals := 0 }
theorem pn_X9_in : yX9_in.cls ≠ "java/lang/invoke/MethodHandle" ∧ yX9_in.cls ≠ "java/lang/invoke/VarHandle" ∧ (parseMethodDescriptor yX9_in.desc).map (fun d => d.parameters.length) = some 3 := by decide +kernel
def m_X9_in (p1 : Int32) (p2 : Int32) (p3 : Int32) : Int32 := (if p1 < p2 then 0 else (if p3 < p1 then 0 else 1))
set_option maxRecDepth 100000 in
set_option maxHeartbeats 4000000 in
theorem c_X9_in (l : Launch) (w : WP) (G : Mem) (p1 : Int32) (p2 : Int32) (p3 : Int32) : CMi l yX9_in cX9_in 3 (some .boolean) 0 0 w [.int p1, .int p2, .int p3] G (m_X9_in p1 p2 p3, G) := by
  refine CMi.of (by decide +kernel) (Nat.le_of_ble_eq_true rfl) ?_
  intro p e s m args below meth c X hr hk
  obtain ⟨res, h⟩ : ∃ z, m_X9_in p1 p2 p3 = z := ⟨_, rfl⟩
  rw [h]
  unfold m_X9_in at h
  show J p l e rm_X9_in s m args below meth c (Qint below args s w (res, G)) w 3 G 0 [(0, .int p1), (1, .int p2), (2, .int p3)] []
  refine j_iload_n X dX9_in_0 rfl 0 rfl ?_
  refine j_iload_n X dX9_in_1 rfl 1 rfl ?_
  refine j_icmp_lt X 14 dX9_in_2 (by decide) (fun c_1 => ?_) (fun c_1 => ?_)
  · have h := pi_t c_1 h
    refine j_iconst (v := 0) X dX9_in_14 (by decide) ?_
    exact j_zret X hr hk (by decide) dX9_in_15 (congrArg (fun z => (z, G)) (h))
  · have h := pi_f c_1 h
    refine j_iload_n X dX9_in_5 rfl 0 rfl ?_
    refine j_iload_n X dX9_in_6 rfl 2 rfl ?_
    refine j_icmp_gt X 14 dX9_in_7 (by decide) (fun c_2 => ?_) (fun c_2 => ?_)
    · have h := pi_t c_2 h
      refine j_iconst (v := 0) X dX9_in_14 (by decide) ?_
      exact j_zret X hr hk (by decide) dX9_in_15 (congrArg (fun z => (z, G)) (h))
    · have h := pi_f c_2 h
      refine j_iconst (v := 1) X dX9_in_10 (by decide) ?_
      refine j_goto X 15 dX9_in_11 (by decide) ?_
      exact j_zret X hr hk (by decide) dX9_in_15 (congrArg (fun z => (z, G)) (h))
abbrev rm_X9_back : Room := { frames := 1, cells := 0, slots := 0, locals := 22 }
theorem pn_X9_back : yX9_back.cls ≠ "java/lang/invoke/MethodHandle" ∧ yX9_back.cls ≠ "java/lang/invoke/VarHandle" ∧ (parseMethodDescriptor yX9_back.desc).map (fun d => d.parameters.length) = some 1 := by decide +kernel
def L_X9_back_30 (x1 : Int32) : Nat → Int32 → Mem → Option (Mem)
  | 0, _, _ => none
  | n + 1, x2, G => (if 74 ≤ x2 then some G else (ald 148 G 85 ((74 * x1) + x2)).bind (fun r_5 => (ast 74 G 82 x2 r_5).bind (fun q_6 => L_X9_back_30 x1 n (x2 + 1) q_6)))
def m_X9_back (G : Mem) (p1 : Int32) : Option (Int32 × Mem) := (if (m_X9_in p1 0 1) = 0 then some ((-1), upm G 81 0 0) else (ald 2 (upm G 81 0 0) 86 p1).bind (fun r_2 => (if r_2 = 0 then some ((-2), upm G 81 0 0) else (L_X9_back_30 p1 NF 0 (upm G 81 0 0)).bind (fun v_7 => (ald 74 (upm v_7 81 4 0) 82 1).bind (fun r_8 => some (r_8, upm v_7 81 4 0))))))
set_option maxRecDepth 100000 in
set_option maxHeartbeats 4000000 in
theorem jL_X9_back_30 {p : Program} {l : Launch} {e : Env} {s : State} {m : MethodId} {args : Array Value} {below : List Frame} {meth : Method} {c : Code} {w : WP} (X : fw_X p s m args c cX9_back 3 RX9 w) (hr : meth.sig.returnType = (some .int)) (hk : meth.locks = false) {x1 : Int32} {res : Int32 × Mem} {K : Mem → Option (Int32 × Mem)} (HK : ∀ v : Mem, K v = some res → J p l e rm_X9_back s m args below meth c (Qint below args s w res) w 3 v 59 [(0, .ref (w.1 81))] []) : ∀ (n : Nat) (x2 : Int32) (G : Mem), (L_X9_back_30 x1 n x2 G).bind K = some res → J p l e rm_X9_back s m args below meth c (Qint below args s w res) w 3 G 30 [(0, .ref (w.1 81)), (1, .int x1), (2, .int x2)] [] := by
  intro n
  induction n with
  | zero =>
    intro x2 G h
    rw [L_X9_back_30] at h
    cases h
  | succ n ih =>
    intro x2 G h
    rw [L_X9_back_30] at h
    refine j_iload_n X dX9_back_30 rfl 2 rfl ?_
    refine j_bipush (v := 74) X dX9_back_31 (by decide) ?_
    refine j_icmp_ge X 59 dX9_back_33 (by decide) (fun c_4 => ?_) (fun c_4 => ?_)
    · have h := bi_t c_4 h
      refine j_pick [0] rfl ?_
      exact HK G h
    · have h := bi_f c_4 h
      refine j_aload_n X dX9_back_36 rfl 0 rfl ?_
      refine j_getR (C := RX9) (T := TX9) (N := 22) X 81 s_81 rfl hin_X9 1 (by decide) 82 rfl q_863 dX9_back_37 ?_
      refine j_iload_n X dX9_back_40 rfl 2 rfl ?_
      refine j_aload_n X dX9_back_41 rfl 0 rfl ?_
      refine j_getR (C := RX9) (T := TX9) (N := 22) X 81 s_81 rfl hin_X9 5 (by decide) 85 rfl q_867 dX9_back_42 ?_
      refine j_bipush (v := 74) X dX9_back_45 (by decide) ?_
      refine j_iload_n X dX9_back_47 rfl 1 rfl ?_
      refine j_imul X dX9_back_48 ?_
      refine j_iload_n X dX9_back_49 rfl 2 rfl ?_
      refine j_iadd X dX9_back_50 ?_
      obtain ⟨r_5, hr_5, h⟩ := bd_s h
      refine j_iald X 85 148 s_85 hr_5 dX9_back_51 ?_
      obtain ⟨q_6, hq_6, h⟩ := bd_s h
      refine j_iast X 82 74 s_82 hq_6 dX9_back_52 ?_
      refine j_iinc (v := x2 + 1) X [(2, .int (x2 + 1)), (0, .ref (w.1 81)), (1, .int x1)] dX9_back_53 2 rfl rfl (by decide) rfl ?_
      refine j_goto X 30 dX9_back_56 (by decide) ?_
      refine j_pick [1, 2, 0] rfl ?_
      exact ih (x2 + 1) q_6 h
set_option maxRecDepth 100000 in
set_option maxHeartbeats 4000000 in
theorem c_X9_back (l : Launch) (w : WP) (G : Mem) (p1 : Int32) {res : Int32 × Mem} (h0 : m_X9_back G p1 = some res) : CMi l yX9_back cX9_back 3 (some .int) 1 22 w [.ref (w.1 81), .int p1] G res := by
  refine CMi.of (by decide +kernel) (Nat.le_of_ble_eq_true rfl) ?_
  intro p e s m args below meth c X hr hk
  have h := bs_i h0
  unfold m_X9_back at h
  show J p l e rm_X9_back s m args below meth c (Qint below args s w res) w 3 G 0 [(0, .ref (w.1 81)), (1, .int p1)] []
  refine j_aload_n X dX9_back_0 rfl 0 rfl ?_
  refine j_iconst (v := 0) X dX9_back_1 (by decide) ?_
  refine j_putI (C := RX9) (T := TX9) (N := 22) X tyX9 tyX9_ok nmX9 81 s_81 rfl hin_X9 0 (by decide) rfl q_862 rfl rfl dX9_back_2 ?_
  refine j_iload_n X dX9_back_5 rfl 1 rfl ?_
  refine j_iconst (v := 0) X dX9_back_6 (by decide) ?_
  refine j_iconst (v := 1) X dX9_back_7 (by decide) ?_
  refine j_callSi (As := [.int p1, .int 0, .int 1]) X (c_X9_in l w (upm G 81 0 0)  p1 0 1) pn_X9_in q_934 q_935 q_68 q_936 ⟨Nat.le_of_ble_eq_true rfl, Nat.le_of_ble_eq_true rfl⟩ (Nat.le_of_ble_eq_true rfl) rfl dX9_back_8 ?_
  refine j_if_ne X 16 dX9_back_11 (by decide) (fun c_1 => ?_) (fun c_1 => ?_)
  · have h := bi_f c_1 h
    refine j_aload_n X dX9_back_16 rfl 0 rfl ?_
    refine j_getR (C := RX9) (T := TX9) (N := 22) X 81 s_81 rfl hin_X9 6 (by decide) 86 rfl q_868 dX9_back_17 ?_
    refine j_iload_n X dX9_back_20 rfl 1 rfl ?_
    obtain ⟨r_2, hr_2, h⟩ := bd_s h
    refine j_zald X 86 2 s_86 hr_2 dX9_back_21 ?_
    refine j_if_ne X 28 dX9_back_22 (by decide) (fun c_3 => ?_) (fun c_3 => ?_)
    · have h := bi_f c_3 h
      refine j_iconst (v := 0) X dX9_back_28 (by decide) ?_
      refine j_istore_n X [(2, .int 0), (0, .ref (w.1 81)), (1, .int p1)] dX9_back_29 rfl (by decide) rfl ?_
      have h := bb_a h
      have Hv_7 : ∀ v_7 : Mem, ((ald 74 (upm v_7 81 4 0) 82 1).bind (fun r_8 => some (r_8, upm v_7 81 4 0))).bind some = some res → J p l e rm_X9_back s m args below meth c (Qint below args s w res) w 3 v_7 59 [(0, .ref (w.1 81))] [] := by
        intro v_7 h
        refine j_aload_n X dX9_back_59 rfl 0 rfl ?_
        refine j_iconst (v := 0) X dX9_back_60 (by decide) ?_
        refine j_putI (C := RX9) (T := TX9) (N := 22) X tyX9 tyX9_ok nmX9 81 s_81 rfl hin_X9 4 (by decide) rfl q_866 rfl rfl dX9_back_61 ?_
        refine j_aload_n X dX9_back_64 rfl 0 rfl ?_
        refine j_getR (C := RX9) (T := TX9) (N := 22) X 81 s_81 rfl hin_X9 1 (by decide) 82 rfl q_863 dX9_back_65 ?_
        refine j_iconst (v := 1) X dX9_back_68 (by decide) ?_
        obtain ⟨r_8, hr_8, h⟩ := bd_s h
        refine j_iald X 82 74 s_82 hr_8 dX9_back_69 ?_
        exact j_iret X hr hk dX9_back_70 (Option.some.inj h)
      refine j_pick [1, 2, 0] rfl ?_
      exact jL_X9_back_30 X hr hk Hv_7 NF 0 (upm G 81 0 0) h
    · have h := bi_t c_3 h
      refine j_bipush (v := (-2)) X dX9_back_25 (by decide) ?_
      exact j_iret X hr hk dX9_back_27 (Option.some.inj h)
  · have h := bi_t c_1 h
    refine j_iconst (v := (-1)) X dX9_back_14 (by decide) ?_
    exact j_iret X hr hk dX9_back_15 (Option.some.inj h)
abbrev rm_X9_notes : Room := { frames := 0, cells := 0, slots := 0, locals := 0 }
theorem pn_X9_notes : yX9_notes.cls ≠ "java/lang/invoke/MethodHandle" ∧ yX9_notes.cls ≠ "java/lang/invoke/VarHandle" ∧ (parseMethodDescriptor yX9_notes.desc).map (fun d => d.parameters.length) = some 0 := by decide +kernel
def L_X9_notes_51 : Nat → Int32 → Mem → Option (Mem)
  | 0, _, _ => none
  | n + 1, x1, G => (if 74 ≤ x1 then some G else (ald 74 G 82 x1).bind (fun r_3 => (ast 740 G 84 ((74 * (G 81 4)) + x1) r_3).bind (fun q_4 => L_X9_notes_51  n (x1 + 1) q_4)))
def L_X9_notes_11 : Nat → Int32 → Mem → Option (Mem)
  | 0, _, _ => none
  | n + 1, x1, G => (if 666 ≤ x1 then some G else (ald 740 G 84 (x1 + 74)).bind (fun r_8 => (ast 740 G 84 x1 r_8).bind (fun q_9 => L_X9_notes_11  n (x1 + 1) q_9)))
def m_X9_notes (G : Mem) : Option (Mem) := ((if (G 81 4) = 10 then (L_X9_notes_11  NF 0 G).bind (fun v_10 => some (upm v_10 81 4 ((v_10 81 4) - 1))) else some G) : Option (Mem)).bind (fun (v_1 : Mem) => (L_X9_notes_51  NF 0 v_1).bind (fun v_5 => some (upm v_5 81 4 ((v_5 81 4) + 1))))
set_option maxRecDepth 100000 in
set_option maxHeartbeats 4000000 in
theorem jL_X9_notes_51 {p : Program} {l : Launch} {e : Env} {s : State} {m : MethodId} {args : Array Value} {below : List Frame} {meth : Method} {c : Code} {w : WP} (X : fw_X p s m args c cX9_notes 2 RX9 w) (hr : meth.sig.returnType = none) (hk : meth.locks = false) {res : Mem} {K : Mem → Option (Mem)} (HK : ∀ v : Mem, K v = some res → J p l e rm_X9_notes s m args below meth c (Qvoid below args s w res) w 2 v 83 [(0, .ref (w.1 81))] []) : ∀ (n : Nat) (x1 : Int32) (G : Mem), (L_X9_notes_51  n x1 G).bind K = some res → J p l e rm_X9_notes s m args below meth c (Qvoid below args s w res) w 2 G 51 [(0, .ref (w.1 81)), (1, .int x1)] [] := by
  intro n
  induction n with
  | zero =>
    intro x1 G h
    rw [L_X9_notes_51] at h
    cases h
  | succ n ih =>
    intro x1 G h
    rw [L_X9_notes_51] at h
    refine j_iload_n X dX9_notes_51 rfl 1 rfl ?_
    refine j_bipush (v := 74) X dX9_notes_52 (by decide) ?_
    refine j_icmp_ge X 83 dX9_notes_54 (by decide) (fun c_2 => ?_) (fun c_2 => ?_)
    · have h := bi_t c_2 h
      refine j_pick [0] rfl ?_
      exact HK G h
    · have h := bi_f c_2 h
      refine j_aload_n X dX9_notes_57 rfl 0 rfl ?_
      refine j_getR (C := RX9) (T := TX9) (N := 22) X 81 s_81 rfl hin_X9 3 (by decide) 84 rfl q_865 dX9_notes_58 ?_
      refine j_bipush (v := 74) X dX9_notes_61 (by decide) ?_
      refine j_aload_n X dX9_notes_63 rfl 0 rfl ?_
      refine j_getI (C := RX9) (T := TX9) (N := 22) X 81 s_81 rfl hin_X9 4 (by decide) rfl q_866 dX9_notes_64 ?_
      refine j_imul X dX9_notes_67 ?_
      refine j_iload_n X dX9_notes_68 rfl 1 rfl ?_
      refine j_iadd X dX9_notes_69 ?_
      refine j_aload_n X dX9_notes_70 rfl 0 rfl ?_
      refine j_getR (C := RX9) (T := TX9) (N := 22) X 81 s_81 rfl hin_X9 1 (by decide) 82 rfl q_863 dX9_notes_71 ?_
      refine j_iload_n X dX9_notes_74 rfl 1 rfl ?_
      obtain ⟨r_3, hr_3, h⟩ := bd_s h
      refine j_iald X 82 74 s_82 hr_3 dX9_notes_75 ?_
      obtain ⟨q_4, hq_4, h⟩ := bd_s h
      refine j_iast X 84 740 s_84 hq_4 dX9_notes_76 ?_
      refine j_iinc (v := x1 + 1) X [(1, .int (x1 + 1)), (0, .ref (w.1 81))] dX9_notes_77 1 rfl rfl (by decide) rfl ?_
      refine j_goto X 51 dX9_notes_80 (by decide) ?_
      refine j_pick [1, 0] rfl ?_
      exact ih (x1 + 1) q_4 h
set_option maxRecDepth 100000 in
set_option maxHeartbeats 4000000 in
theorem jL_X9_notes_11 {p : Program} {l : Launch} {e : Env} {s : State} {m : MethodId} {args : Array Value} {below : List Frame} {meth : Method} {c : Code} {w : WP} (X : fw_X p s m args c cX9_notes 2 RX9 w) (hr : meth.sig.returnType = none) (hk : meth.locks = false) {res : Mem} {K : Mem → Option (Mem)} (HK : ∀ v : Mem, K v = some res → J p l e rm_X9_notes s m args below meth c (Qvoid below args s w res) w 2 v 39 [(0, .ref (w.1 81))] []) : ∀ (n : Nat) (x1 : Int32) (G : Mem), (L_X9_notes_11  n x1 G).bind K = some res → J p l e rm_X9_notes s m args below meth c (Qvoid below args s w res) w 2 G 11 [(0, .ref (w.1 81)), (1, .int x1)] [] := by
  intro n
  induction n with
  | zero =>
    intro x1 G h
    rw [L_X9_notes_11] at h
    cases h
  | succ n ih =>
    intro x1 G h
    rw [L_X9_notes_11] at h
    refine j_iload_n X dX9_notes_11 rfl 1 rfl ?_
    refine j_sipush (v := 666) X dX9_notes_12 (by decide) ?_
    refine j_icmp_ge X 39 dX9_notes_15 (by decide) (fun c_7 => ?_) (fun c_7 => ?_)
    · have h := bi_t c_7 h
      refine j_pick [0] rfl ?_
      exact HK G h
    · have h := bi_f c_7 h
      refine j_aload_n X dX9_notes_18 rfl 0 rfl ?_
      refine j_getR (C := RX9) (T := TX9) (N := 22) X 81 s_81 rfl hin_X9 3 (by decide) 84 rfl q_865 dX9_notes_19 ?_
      refine j_iload_n X dX9_notes_22 rfl 1 rfl ?_
      refine j_aload_n X dX9_notes_23 rfl 0 rfl ?_
      refine j_getR (C := RX9) (T := TX9) (N := 22) X 81 s_81 rfl hin_X9 3 (by decide) 84 rfl q_865 dX9_notes_24 ?_
      refine j_iload_n X dX9_notes_27 rfl 1 rfl ?_
      refine j_bipush (v := 74) X dX9_notes_28 (by decide) ?_
      refine j_iadd X dX9_notes_30 ?_
      obtain ⟨r_8, hr_8, h⟩ := bd_s h
      refine j_iald X 84 740 s_84 hr_8 dX9_notes_31 ?_
      obtain ⟨q_9, hq_9, h⟩ := bd_s h
      refine j_iast X 84 740 s_84 hq_9 dX9_notes_32 ?_
      refine j_iinc (v := x1 + 1) X [(1, .int (x1 + 1)), (0, .ref (w.1 81))] dX9_notes_33 1 rfl rfl (by decide) rfl ?_
      refine j_goto X 11 dX9_notes_36 (by decide) ?_
      refine j_pick [1, 0] rfl ?_
      exact ih (x1 + 1) q_9 h
set_option maxRecDepth 100000 in
set_option maxHeartbeats 4000000 in
theorem c_X9_notes (l : Launch) (w : WP) (G : Mem) {res : Mem} (h0 : m_X9_notes G = some res) : CMv l yX9_notes cX9_notes 2 none 0 0 w [.ref (w.1 81)] G res := by
  refine CMv.of (by decide +kernel) (Nat.le_of_ble_eq_true rfl) ?_
  intro p e s m args below meth c X hr hk
  have h := bs_i h0
  unfold m_X9_notes at h
  show J p l e rm_X9_notes s m args below meth c (Qvoid below args s w res) w 2 G 0 [(0, .ref (w.1 81))] []
  refine j_aload_n X dX9_notes_0 rfl 0 rfl ?_
  refine j_getI (C := RX9) (T := TX9) (N := 22) X 81 s_81 rfl hin_X9 4 (by decide) rfl q_866 dX9_notes_1 ?_
  refine j_bipush (v := 10) X dX9_notes_4 (by decide) ?_
  have h := bb_a h
  have Hv_1 : ∀ v_1 : Mem, ((L_X9_notes_51  NF 0 v_1).bind (fun v_5 => some (upm v_5 81 4 ((v_5 81 4) + 1)))).bind some = some res → J p l e rm_X9_notes s m args below meth c (Qvoid below args s w res) w 2 v_1 49 [(0, .ref (w.1 81))] [] := by
    intro v_1 h
    refine j_iconst (v := 0) X dX9_notes_49 (by decide) ?_
    refine j_istore_n X [(1, .int 0), (0, .ref (w.1 81))] dX9_notes_50 rfl (by decide) rfl ?_
    have h := bb_a h
    have Hv_5 : ∀ v_5 : Mem, (some (upm v_5 81 4 ((v_5 81 4) + 1))).bind some = some res → J p l e rm_X9_notes s m args below meth c (Qvoid below args s w res) w 2 v_5 83 [(0, .ref (w.1 81))] [] := by
      intro v_5 h
      refine j_aload_n X dX9_notes_83 rfl 0 rfl ?_
      refine j_dup X dX9_notes_84 rfl ?_
      refine j_getI (C := RX9) (T := TX9) (N := 22) X 81 s_81 rfl hin_X9 4 (by decide) rfl q_866 dX9_notes_85 ?_
      refine j_iconst (v := 1) X dX9_notes_88 (by decide) ?_
      refine j_iadd X dX9_notes_89 ?_
      refine j_putI (C := RX9) (T := TX9) (N := 22) X tyX9 tyX9_ok nmX9 81 s_81 rfl hin_X9 4 (by decide) rfl q_866 rfl rfl dX9_notes_90 ?_
      exact j_vret X hr hk dX9_notes_93 (Option.some.inj h)
    refine j_pick [1, 0] rfl ?_
    exact jL_X9_notes_51 X hr hk Hv_5 NF 0 v_1 h
  refine j_icmp_ne X 49 dX9_notes_6 (by decide) (fun c_6 => ?_) (fun c_6 => ?_)
  · have h := bi_f c_6 h
    refine j_pick [0] rfl ?_
    exact Hv_1 G h
  · have h := bi_t c_6 h
    refine j_iconst (v := 0) X dX9_notes_9 (by decide) ?_
    refine j_istore_n X [(1, .int 0), (0, .ref (w.1 81))] dX9_notes_10 rfl (by decide) rfl ?_
    have h := bb_a h
    have Hv_10 : ∀ v_10 : Mem, (some (upm v_10 81 4 ((v_10 81 4) - 1))).bind (fun (v_1 : Mem) => ((L_X9_notes_51  NF 0 v_1).bind (fun v_5 => some (upm v_5 81 4 ((v_5 81 4) + 1)))).bind some) = some res → J p l e rm_X9_notes s m args below meth c (Qvoid below args s w res) w 2 v_10 39 [(0, .ref (w.1 81))] [] := by
      intro v_10 h
      refine j_aload_n X dX9_notes_39 rfl 0 rfl ?_
      refine j_dup X dX9_notes_40 rfl ?_
      refine j_getI (C := RX9) (T := TX9) (N := 22) X 81 s_81 rfl hin_X9 4 (by decide) rfl q_866 dX9_notes_41 ?_
      refine j_iconst (v := 1) X dX9_notes_44 (by decide) ?_
      refine j_isub X dX9_notes_45 ?_
      refine j_putI (C := RX9) (T := TX9) (N := 22) X tyX9 tyX9_ok nmX9 81 s_81 rfl hin_X9 4 (by decide) rfl q_866 rfl rfl dX9_notes_46 ?_
      refine j_pick [0] rfl ?_
      exact Hv_1 (upm v_10 81 4 ((v_10 81 4) - 1)) h
    refine j_pick [1, 0] rfl ?_
    exact jL_X9_notes_11 X hr hk Hv_10 NF 0 G h
abbrev rm_X9_becomes : Room := { frames := 1, cells := 0, slots := 0, locals := 21 }
theorem pn_X9_becomes : yX9_becomes.cls ≠ "java/lang/invoke/MethodHandle" ∧ yX9_becomes.cls ≠ "java/lang/invoke/VarHandle" ∧ (parseMethodDescriptor yX9_becomes.desc).map (fun d => d.parameters.length) = some 2 := by decide +kernel
def m_X9_becomes (G : Mem) (p1 : Int32) (p2 : Int32) : Option (Int32 × Mem) := (ald 74 G 82 p1).bind (fun r_1 => (if r_1 = p2 then some ((-2), G) else (m_X9_notes G).bind (fun q_3 => (ast 74 q_3 82 p1 p2).bind (fun q_4 => some (r_1, q_4)))))
set_option maxRecDepth 100000 in
set_option maxHeartbeats 4000000 in
theorem c_X9_becomes (l : Launch) (w : WP) (G : Mem) (p1 : Int32) (p2 : Int32) {res : Int32 × Mem} (h0 : m_X9_becomes G p1 p2 = some res) : CMi l yX9_becomes cX9_becomes 4 (some .int) 1 21 w [.ref (w.1 81), .int p1, .int p2] G res := by
  refine CMi.of (by decide +kernel) (Nat.le_of_ble_eq_true rfl) ?_
  intro p e s m args below meth c X hr hk
  have h := bs_i h0
  unfold m_X9_becomes at h
  show J p l e rm_X9_becomes s m args below meth c (Qint below args s w res) w 4 G 0 [(0, .ref (w.1 81)), (1, .int p1), (2, .int p2)] []
  refine j_aload_n X dX9_becomes_0 rfl 0 rfl ?_
  refine j_getR (C := RX9) (T := TX9) (N := 22) X 81 s_81 rfl hin_X9 1 (by decide) 82 rfl q_863 dX9_becomes_1 ?_
  refine j_iload_n X dX9_becomes_4 rfl 1 rfl ?_
  obtain ⟨r_1, hr_1, h⟩ := bd_s h
  refine j_iald X 82 74 s_82 hr_1 dX9_becomes_5 ?_
  refine j_istore_n X [(3, .int r_1), (0, .ref (w.1 81)), (1, .int p1), (2, .int p2)] dX9_becomes_6 rfl (by decide) rfl ?_
  refine j_iload_n X dX9_becomes_7 rfl 0 rfl ?_
  refine j_iload_n X dX9_becomes_8 rfl 3 rfl ?_
  refine j_icmp_ne X 15 dX9_becomes_9 (by decide) (fun c_2 => ?_) (fun c_2 => ?_)
  · have h := bi_f c_2 h
    refine j_aload_n X dX9_becomes_15 rfl 1 rfl ?_
    obtain ⟨q_3, hq_3, h⟩ := bd_s h
    refine j_callVv (As := []) X 81 s_81 rfl (c_X9_notes l w G   hq_3) rfl pn_X9_notes q_1098 q_1100 q_56 q_68 q_1101 ⟨Nat.le_of_ble_eq_true rfl, Nat.le_of_ble_eq_true rfl⟩ (Nat.le_of_ble_eq_true rfl) rfl dX9_becomes_16 ?_
    refine j_aload_n X dX9_becomes_19 rfl 1 rfl ?_
    refine j_getR (C := RX9) (T := TX9) (N := 22) X 81 s_81 rfl hin_X9 1 (by decide) 82 rfl q_863 dX9_becomes_20 ?_
    refine j_iload_n X dX9_becomes_23 rfl 2 rfl ?_
    refine j_iload_n X dX9_becomes_24 rfl 3 rfl ?_
    obtain ⟨q_4, hq_4, h⟩ := bd_s h
    refine j_iast X 82 74 s_82 hq_4 dX9_becomes_25 ?_
    refine j_iload_n X dX9_becomes_26 rfl 0 rfl ?_
    exact j_iret X hr hk dX9_becomes_27 (Option.some.inj h)
  · have h := bi_t c_2 h
    refine j_bipush (v := (-2)) X dX9_becomes_12 (by decide) ?_
    exact j_iret X hr hk dX9_becomes_14 (Option.some.inj h)
abbrev rm_X9_ofStatement : Room := { frames := 0, cells := 0, slots := 0, locals := 0 }
theorem pn_X9_ofStatement : yX9_ofStatement.cls ≠ "java/lang/invoke/MethodHandle" ∧ yX9_ofStatement.cls ≠ "java/lang/invoke/VarHandle" ∧ (parseMethodDescriptor yX9_ofStatement.desc).map (fun d => d.parameters.length) = some 2 := by decide +kernel
def m_X9_ofStatement (G : Mem) (p1 : Int32) (p2 : Int32) : Option (Int32) := (ald 74 G 82 ((18 + (4 * p1)) + p2)).bind (fun r_1 => some r_1)
set_option maxRecDepth 100000 in
set_option maxHeartbeats 4000000 in
theorem c_X9_ofStatement (l : Launch) (w : WP) (G : Mem) (p1 : Int32) (p2 : Int32) {res : Int32} (h0 : m_X9_ofStatement G p1 p2 = some res) : CMi l yX9_ofStatement cX9_ofStatement 3 (some .int) 0 0 w [.ref (w.1 81), .int p1, .int p2] G (res, G) := by
  refine CMi.of (by decide +kernel) (Nat.le_of_ble_eq_true rfl) ?_
  intro p e s m args below meth c X hr hk
  have h := bs_i h0
  unfold m_X9_ofStatement at h
  show J p l e rm_X9_ofStatement s m args below meth c (Qint below args s w (res, G)) w 3 G 0 [(0, .ref (w.1 81)), (1, .int p1), (2, .int p2)] []
  refine j_aload_n X dX9_ofStatement_0 rfl 0 rfl ?_
  refine j_getR (C := RX9) (T := TX9) (N := 22) X 81 s_81 rfl hin_X9 1 (by decide) 82 rfl q_863 dX9_ofStatement_1 ?_
  refine j_bipush (v := 18) X dX9_ofStatement_4 (by decide) ?_
  refine j_iconst (v := 4) X dX9_ofStatement_6 (by decide) ?_
  refine j_iload_n X dX9_ofStatement_7 rfl 1 rfl ?_
  refine j_imul X dX9_ofStatement_8 ?_
  refine j_iadd X dX9_ofStatement_9 ?_
  refine j_iload_n X dX9_ofStatement_10 rfl 2 rfl ?_
  refine j_iadd X dX9_ofStatement_11 ?_
  obtain ⟨r_1, hr_1, h⟩ := bd_s h
  refine j_iald X 82 74 s_82 hr_1 dX9_ofStatement_12 ?_
  exact j_iret X hr hk dX9_ofStatement_13 (congrArg (fun z => (z, G)) (Option.some.inj h))
abbrev rm_X9_isAhead : Room := { frames := 0, cells := 0, slots := 0, locals := 0 }
theorem pn_X9_isAhead : yX9_isAhead.cls ≠ "java/lang/invoke/MethodHandle" ∧ yX9_isAhead.cls ≠ "java/lang/invoke/VarHandle" ∧ (parseMethodDescriptor yX9_isAhead.desc).map (fun d => d.parameters.length) = some 2 := by decide +kernel
def m_X9_isAhead (G : Mem) (p1 : Int32) (p2 : Int32) : Option (Mem) := (ald 17 G 92 p2).bind (fun r_1 => (ast 17 G 92 p2 (r_1 ||| (1 <<< (p1 &&& 31)))).bind (fun q_2 => some q_2))
set_option maxRecDepth 100000 in
set_option maxHeartbeats 4000000 in
theorem c_X9_isAhead (l : Launch) (w : WP) (G : Mem) (p1 : Int32) (p2 : Int32) {res : Mem} (h0 : m_X9_isAhead G p1 p2 = some res) : CMv l yX9_isAhead cX9_isAhead 3 none 0 0 w [.ref (w.1 81), .int p1, .int p2] G res := by
  refine CMv.of (by decide +kernel) (Nat.le_of_ble_eq_true rfl) ?_
  intro p e s m args below meth c X hr hk
  have h := bs_i h0
  unfold m_X9_isAhead at h
  show J p l e rm_X9_isAhead s m args below meth c (Qvoid below args s w res) w 3 G 0 [(0, .ref (w.1 81)), (1, .int p1), (2, .int p2)] []
  refine j_aload_n X dX9_isAhead_0 rfl 0 rfl ?_
  refine j_getR (C := RX9) (T := TX9) (N := 22) X 81 s_81 rfl hin_X9 16 (by decide) 92 rfl q_878 dX9_isAhead_1 ?_
  refine j_iload_n X dX9_isAhead_4 rfl 2 rfl ?_
  refine j_dup2 X dX9_isAhead_5 rfl rfl ?_
  obtain ⟨r_1, hr_1, h⟩ := bd_s h
  refine j_iald X 92 17 s_92 hr_1 dX9_isAhead_6 ?_
  refine j_iconst (v := 1) X dX9_isAhead_7 (by decide) ?_
  refine j_iload_n X dX9_isAhead_8 rfl 1 rfl ?_
  refine j_ishl X dX9_isAhead_9 ?_
  refine j_ior X dX9_isAhead_10 ?_
  obtain ⟨q_2, hq_2, h⟩ := bd_s h
  refine j_iast X 92 17 s_92 hq_2 dX9_isAhead_11 ?_
  exact j_vret X hr hk dX9_isAhead_12 (Option.some.inj h)
abbrev rm_X9_lays : Room := { frames := 1, cells := 0, slots := 0, locals := 25 }
theorem pn_X9_lays : yX9_lays.cls ≠ "java/lang/invoke/MethodHandle" ∧ yX9_lays.cls ≠ "java/lang/invoke/VarHandle" ∧ (parseMethodDescriptor yX9_lays.desc).map (fun d => d.parameters.length) = some 3 := by decide +kernel
def m_X9_lays (G : Mem) (p1 : Int32) (p2 : Int32) (p3 : Int32) : Option (Mem) := (if p2 = 0 then (m_X9_isAhead G p1 p3).bind (fun q_3 => some q_3) else (m_X9_areSame G p1 p3).bind (fun q_2 => some q_2))
set_option maxRecDepth 100000 in
set_option maxHeartbeats 4000000 in
theorem c_X9_lays (l : Launch) (w : WP) (G : Mem) (p1 : Int32) (p2 : Int32) (p3 : Int32) {res : Mem} (h0 : m_X9_lays G p1 p2 p3 = some res) : CMv l yX9_lays cX9_lays 4 none 1 25 w [.ref (w.1 81), .int p1, .int p2, .int p3] G res := by
  refine CMv.of (by decide +kernel) (Nat.le_of_ble_eq_true rfl) ?_
  intro p e s m args below meth c X hr hk
  have h := bs_i h0
  unfold m_X9_lays at h
  show J p l e rm_X9_lays s m args below meth c (Qvoid below args s w res) w 4 G 0 [(0, .ref (w.1 81)), (1, .int p1), (2, .int p2), (3, .int p3)] []
  refine j_iload_n X dX9_lays_0 rfl 2 rfl ?_
  refine j_if_ne X 13 dX9_lays_1 (by decide) (fun c_1 => ?_) (fun c_1 => ?_)
  · have h := bi_f c_1 h
    refine j_aload_n X dX9_lays_13 rfl 0 rfl ?_
    refine j_iload_n X dX9_lays_14 rfl 1 rfl ?_
    refine j_iload_n X dX9_lays_15 rfl 3 rfl ?_
    obtain ⟨q_2, hq_2, h⟩ := bd_s h
    refine j_callVv (As := [.int p1, .int p3]) X 81 s_81 rfl (c_X9_areSame l w G  p1 p3 hq_2) rfl pn_X9_areSame q_1011 q_1013 q_43 q_68 q_1014 ⟨Nat.le_of_ble_eq_true rfl, Nat.le_of_ble_eq_true rfl⟩ (Nat.le_of_ble_eq_true rfl) rfl dX9_lays_16 ?_
    exact j_vret X hr hk dX9_lays_19 (Option.some.inj h)
  · have h := bi_t c_1 h
    refine j_aload_n X dX9_lays_4 rfl 0 rfl ?_
    refine j_iload_n X dX9_lays_5 rfl 1 rfl ?_
    refine j_iload_n X dX9_lays_6 rfl 3 rfl ?_
    obtain ⟨q_3, hq_3, h⟩ := bd_s h
    refine j_callVv (As := [.int p1, .int p3]) X 81 s_81 rfl (c_X9_isAhead l w G  p1 p3 hq_3) rfl pn_X9_isAhead q_1007 q_1009 q_42 q_68 q_1010 ⟨Nat.le_of_ble_eq_true rfl, Nat.le_of_ble_eq_true rfl⟩ (Nat.le_of_ble_eq_true rfl) rfl dX9_lays_7 ?_
    refine j_goto X 19 dX9_lays_10 (by decide) ?_
    exact j_vret X hr hk dX9_lays_19 (Option.some.inj h)
abbrev rm_X9_laysTense : Room := { frames := 1, cells := 0, slots := 0, locals := 25 }
theorem pn_X9_laysTense : yX9_laysTense.cls ≠ "java/lang/invoke/MethodHandle" ∧ yX9_laysTense.cls ≠ "java/lang/invoke/VarHandle" ∧ (parseMethodDescriptor yX9_laysTense.desc).map (fun d => d.parameters.length) = some 1 := by decide +kernel
def m_X9_laysTense (G : Mem) (p1 : Int32) : Option (Mem) := (ald 74 G 82 (2 + (2 * p1))).bind (fun r_1 => ((if r_1 = 0 then some (r_1, 1) else (if r_1 = 3 then some (r_1, 1) else (if r_1 = 6 then some (r_1, 1) else some (r_1, 0)))) : Option (Int32 × Int32)).bind (fun (v_2 : Int32 × Int32) => ((if v_2.1 = 1 then some 1 else (if v_2.1 = 4 then some 1 else (if v_2.1 = 7 then some 1 else some 0))) : Option (Int32)).bind (fun (v_3 : Int32) => ((if v_2.2 = 0 then (if v_3 = 0 then (m_X9_isAhead G (1 + (2 * p1)) (2 + (2 * p1))).bind (fun q_12 => some q_12) else (m_X9_isAhead G (2 + (2 * p1)) (1 + (2 * p1))).bind (fun q_13 => some q_13)) else (m_X9_areSame G (2 + (2 * p1)) (1 + (2 * p1))).bind (fun q_14 => some q_14)) : Option (Mem)).bind (fun (v_4 : Mem) => (if 3 ≤ v_2.1 then (if 6 ≤ v_2.1 then (m_X9_isAhead v_4 0 (1 + (2 * p1))).bind (fun q_7 => some q_7) else (m_X9_areSame v_4 (1 + (2 * p1)) 0).bind (fun q_8 => some q_8)) else (m_X9_isAhead v_4 (1 + (2 * p1)) 0).bind (fun q_9 => some q_9))))))
set_option maxRecDepth 100000 in
set_option maxHeartbeats 4000000 in
theorem c_X9_laysTense (l : Launch) (w : WP) (G : Mem) (p1 : Int32) {res : Mem} (h0 : m_X9_laysTense G p1 = some res) : CMv l yX9_laysTense cX9_laysTense 7 none 1 25 w [.ref (w.1 81), .int p1] G res := by
  refine CMv.of (by decide +kernel) (Nat.le_of_ble_eq_true rfl) ?_
  intro p e s m args below meth c X hr hk
  have h := bs_i h0
  unfold m_X9_laysTense at h
  show J p l e rm_X9_laysTense s m args below meth c (Qvoid below args s w res) w 7 G 0 [(0, .ref (w.1 81)), (1, .int p1)] []
  refine j_iconst (v := 1) X dX9_laysTense_0 (by decide) ?_
  refine j_iconst (v := 2) X dX9_laysTense_1 (by decide) ?_
  refine j_iload_n X dX9_laysTense_2 rfl 1 rfl ?_
  refine j_imul X dX9_laysTense_3 ?_
  refine j_iadd X dX9_laysTense_4 ?_
  refine j_istore_n X [(2, .int (1 + (2 * p1))), (0, .ref (w.1 81)), (1, .int p1)] dX9_laysTense_5 rfl (by decide) rfl ?_
  refine j_iconst (v := 2) X dX9_laysTense_6 (by decide) ?_
  refine j_iconst (v := 2) X dX9_laysTense_7 (by decide) ?_
  refine j_iload_n X dX9_laysTense_8 rfl 2 rfl ?_
  refine j_imul X dX9_laysTense_9 ?_
  refine j_iadd X dX9_laysTense_10 ?_
  refine j_istore_n X [(3, .int (2 + (2 * p1))), (2, .int (1 + (2 * p1))), (0, .ref (w.1 81)), (1, .int p1)] dX9_laysTense_11 rfl (by decide) rfl ?_
  refine j_aload_n X dX9_laysTense_12 rfl 2 rfl ?_
  refine j_getR (C := RX9) (T := TX9) (N := 22) X 81 s_81 rfl hin_X9 1 (by decide) 82 rfl q_863 dX9_laysTense_13 ?_
  refine j_iconst (v := 2) X dX9_laysTense_16 (by decide) ?_
  refine j_iconst (v := 2) X dX9_laysTense_17 (by decide) ?_
  refine j_iload_n X dX9_laysTense_18 rfl 3 rfl ?_
  refine j_imul X dX9_laysTense_19 ?_
  refine j_iadd X dX9_laysTense_20 ?_
  obtain ⟨r_1, hr_1, h⟩ := bd_s h
  refine j_iald X 82 74 s_82 hr_1 dX9_laysTense_21 ?_
  refine j_istore X [(4, .int r_1), (3, .int (2 + (2 * p1))), (2, .int (1 + (2 * p1))), (0, .ref (w.1 81)), (1, .int p1)] dX9_laysTense_22 (by decide) rfl ?_
  refine j_iload X dX9_laysTense_24 0 rfl ?_
  have h := bb_a h
  have Hv_2 : ∀ v_2 : Int32 × Int32, (((if v_2.1 = 1 then some 1 else (if v_2.1 = 4 then some 1 else (if v_2.1 = 7 then some 1 else some 0))) : Option (Int32)).bind (fun (v_3 : Int32) => ((if v_2.2 = 0 then (if v_3 = 0 then (m_X9_isAhead G (1 + (2 * p1)) (2 + (2 * p1))).bind (fun q_12 => some q_12) else (m_X9_isAhead G (2 + (2 * p1)) (1 + (2 * p1))).bind (fun q_13 => some q_13)) else (m_X9_areSame G (2 + (2 * p1)) (1 + (2 * p1))).bind (fun q_14 => some q_14)) : Option (Mem)).bind (fun (v_4 : Mem) => (if 3 ≤ v_2.1 then (if 6 ≤ v_2.1 then (m_X9_isAhead v_4 0 (1 + (2 * p1))).bind (fun q_7 => some q_7) else (m_X9_areSame v_4 (1 + (2 * p1)) 0).bind (fun q_8 => some q_8)) else (m_X9_isAhead v_4 (1 + (2 * p1)) 0).bind (fun q_9 => some q_9))))).bind some = some res → J p l e rm_X9_laysTense s m args below meth c (Qvoid below args s w res) w 7 G 47 [(0, .ref (w.1 81)), (2, .int (1 + (2 * p1))), (3, .int (2 + (2 * p1))), (4, .int v_2.1)] [.int v_2.2] := by
    intro v_2 h
    refine j_istore X [(5, .int v_2.2), (0, .ref (w.1 81)), (2, .int (1 + (2 * p1))), (3, .int (2 + (2 * p1))), (4, .int v_2.1)] dX9_laysTense_47 (by decide) rfl ?_
    refine j_iload X dX9_laysTense_49 4 rfl ?_
    refine j_iconst (v := 1) X dX9_laysTense_51 (by decide) ?_
    have h := bb_a h
    have Hv_3 : ∀ v_3 : Int32, (((if v_2.2 = 0 then (if v_3 = 0 then (m_X9_isAhead G (1 + (2 * p1)) (2 + (2 * p1))).bind (fun q_12 => some q_12) else (m_X9_isAhead G (2 + (2 * p1)) (1 + (2 * p1))).bind (fun q_13 => some q_13)) else (m_X9_areSame G (2 + (2 * p1)) (1 + (2 * p1))).bind (fun q_14 => some q_14)) : Option (Mem)).bind (fun (v_4 : Mem) => (if 3 ≤ v_2.1 then (if 6 ≤ v_2.1 then (m_X9_isAhead v_4 0 (1 + (2 * p1))).bind (fun q_7 => some q_7) else (m_X9_areSame v_4 (1 + (2 * p1)) 0).bind (fun q_8 => some q_8)) else (m_X9_isAhead v_4 (1 + (2 * p1)) 0).bind (fun q_9 => some q_9)))).bind some = some res → J p l e rm_X9_laysTense s m args below meth c (Qvoid below args s w res) w 7 G 73 [(0, .ref (w.1 81)), (2, .int (1 + (2 * p1))), (3, .int (2 + (2 * p1))), (4, .int v_2.1), (5, .int v_2.2)] [.int v_3] := by
      intro v_3 h
      refine j_istore X [(6, .int v_3), (0, .ref (w.1 81)), (2, .int (1 + (2 * p1))), (3, .int (2 + (2 * p1))), (4, .int v_2.1), (5, .int v_2.2)] dX9_laysTense_73 (by decide) rfl ?_
      refine j_iload X dX9_laysTense_75 5 rfl ?_
      have h := bb_a h
      have Hv_4 : ∀ v_4 : Mem, ((if 3 ≤ v_2.1 then (if 6 ≤ v_2.1 then (m_X9_isAhead v_4 0 (1 + (2 * p1))).bind (fun q_7 => some q_7) else (m_X9_areSame v_4 (1 + (2 * p1)) 0).bind (fun q_8 => some q_8)) else (m_X9_isAhead v_4 (1 + (2 * p1)) 0).bind (fun q_9 => some q_9))).bind some = some res → J p l e rm_X9_laysTense s m args below meth c (Qvoid below args s w res) w 7 v_4 109 [(0, .ref (w.1 81)), (2, .int (1 + (2 * p1))), (4, .int v_2.1)] [] := by
        intro v_4 h
        refine j_iload X dX9_laysTense_109 2 rfl ?_
        refine j_iconst (v := 3) X dX9_laysTense_111 (by decide) ?_
        refine j_icmp_ge X 124 dX9_laysTense_112 (by decide) (fun c_5 => ?_) (fun c_5 => ?_)
        · have h := bi_t c_5 h
          refine j_iload X dX9_laysTense_124 2 rfl ?_
          refine j_bipush (v := 6) X dX9_laysTense_126 (by decide) ?_
          refine j_icmp_ge X 140 dX9_laysTense_128 (by decide) (fun c_6 => ?_) (fun c_6 => ?_)
          · have h := bi_t c_6 h
            refine j_aload_n X dX9_laysTense_140 rfl 0 rfl ?_
            refine j_iconst (v := 0) X dX9_laysTense_141 (by decide) ?_
            refine j_iload_n X dX9_laysTense_142 rfl 1 rfl ?_
            obtain ⟨q_7, hq_7, h⟩ := bd_s h
            refine j_callVv (As := [.int 0, .int (1 + (2 * p1))]) X 81 s_81 rfl (c_X9_isAhead l w v_4  0 (1 + (2 * p1)) hq_7) rfl pn_X9_isAhead q_1007 q_1009 q_42 q_68 q_1010 ⟨Nat.le_of_ble_eq_true rfl, Nat.le_of_ble_eq_true rfl⟩ (Nat.le_of_ble_eq_true rfl) rfl dX9_laysTense_143 ?_
            exact j_vret X hr hk dX9_laysTense_146 (Option.some.inj h)
          · have h := bi_f c_6 h
            refine j_aload_n X dX9_laysTense_131 rfl 0 rfl ?_
            refine j_iload_n X dX9_laysTense_132 rfl 1 rfl ?_
            refine j_iconst (v := 0) X dX9_laysTense_133 (by decide) ?_
            obtain ⟨q_8, hq_8, h⟩ := bd_s h
            refine j_callVv (As := [.int (1 + (2 * p1)), .int 0]) X 81 s_81 rfl (c_X9_areSame l w v_4  (1 + (2 * p1)) 0 hq_8) rfl pn_X9_areSame q_1011 q_1013 q_43 q_68 q_1014 ⟨Nat.le_of_ble_eq_true rfl, Nat.le_of_ble_eq_true rfl⟩ (Nat.le_of_ble_eq_true rfl) rfl dX9_laysTense_134 ?_
            refine j_goto X 146 dX9_laysTense_137 (by decide) ?_
            exact j_vret X hr hk dX9_laysTense_146 (Option.some.inj h)
        · have h := bi_f c_5 h
          refine j_aload_n X dX9_laysTense_115 rfl 0 rfl ?_
          refine j_iload_n X dX9_laysTense_116 rfl 1 rfl ?_
          refine j_iconst (v := 0) X dX9_laysTense_117 (by decide) ?_
          obtain ⟨q_9, hq_9, h⟩ := bd_s h
          refine j_callVv (As := [.int (1 + (2 * p1)), .int 0]) X 81 s_81 rfl (c_X9_isAhead l w v_4  (1 + (2 * p1)) 0 hq_9) rfl pn_X9_isAhead q_1007 q_1009 q_42 q_68 q_1010 ⟨Nat.le_of_ble_eq_true rfl, Nat.le_of_ble_eq_true rfl⟩ (Nat.le_of_ble_eq_true rfl) rfl dX9_laysTense_118 ?_
          refine j_goto X 146 dX9_laysTense_121 (by decide) ?_
          exact j_vret X hr hk dX9_laysTense_146 (Option.some.inj h)
      refine j_if_eq X 89 dX9_laysTense_77 (by decide) (fun c_10 => ?_) (fun c_10 => ?_)
      · have h := bi_t c_10 h
        refine j_iload X dX9_laysTense_89 0 rfl ?_
        refine j_if_eq X 103 dX9_laysTense_91 (by decide) (fun c_11 => ?_) (fun c_11 => ?_)
        · have h := bi_t c_11 h
          refine j_aload_n X dX9_laysTense_103 rfl 1 rfl ?_
          refine j_iload_n X dX9_laysTense_104 rfl 2 rfl ?_
          refine j_iload_n X dX9_laysTense_105 rfl 3 rfl ?_
          obtain ⟨q_12, hq_12, h⟩ := bd_s h
          refine j_callVv (As := [.int (1 + (2 * p1)), .int (2 + (2 * p1))]) X 81 s_81 rfl (c_X9_isAhead l w G  (1 + (2 * p1)) (2 + (2 * p1)) hq_12) rfl pn_X9_isAhead q_1007 q_1009 q_42 q_68 q_1010 ⟨Nat.le_of_ble_eq_true rfl, Nat.le_of_ble_eq_true rfl⟩ (Nat.le_of_ble_eq_true rfl) rfl dX9_laysTense_106 ?_
          refine j_pick [1, 2, 4] rfl ?_
          exact Hv_4 q_12 h
        · have h := bi_f c_11 h
          refine j_aload_n X dX9_laysTense_94 rfl 1 rfl ?_
          refine j_iload_n X dX9_laysTense_95 rfl 3 rfl ?_
          refine j_iload_n X dX9_laysTense_96 rfl 2 rfl ?_
          obtain ⟨q_13, hq_13, h⟩ := bd_s h
          refine j_callVv (As := [.int (2 + (2 * p1)), .int (1 + (2 * p1))]) X 81 s_81 rfl (c_X9_isAhead l w G  (2 + (2 * p1)) (1 + (2 * p1)) hq_13) rfl pn_X9_isAhead q_1007 q_1009 q_42 q_68 q_1010 ⟨Nat.le_of_ble_eq_true rfl, Nat.le_of_ble_eq_true rfl⟩ (Nat.le_of_ble_eq_true rfl) rfl dX9_laysTense_97 ?_
          refine j_goto X 109 dX9_laysTense_100 (by decide) ?_
          refine j_pick [1, 2, 4] rfl ?_
          exact Hv_4 q_13 h
      · have h := bi_f c_10 h
        refine j_aload_n X dX9_laysTense_80 rfl 1 rfl ?_
        refine j_iload_n X dX9_laysTense_81 rfl 3 rfl ?_
        refine j_iload_n X dX9_laysTense_82 rfl 2 rfl ?_
        obtain ⟨q_14, hq_14, h⟩ := bd_s h
        refine j_callVv (As := [.int (2 + (2 * p1)), .int (1 + (2 * p1))]) X 81 s_81 rfl (c_X9_areSame l w G  (2 + (2 * p1)) (1 + (2 * p1)) hq_14) rfl pn_X9_areSame q_1011 q_1013 q_43 q_68 q_1014 ⟨Nat.le_of_ble_eq_true rfl, Nat.le_of_ble_eq_true rfl⟩ (Nat.le_of_ble_eq_true rfl) rfl dX9_laysTense_83 ?_
        refine j_goto X 109 dX9_laysTense_86 (by decide) ?_
        refine j_pick [1, 2, 4] rfl ?_
        exact Hv_4 q_14 h
    refine j_icmp_eq X 68 dX9_laysTense_52 (by decide) (fun c_15 => ?_) (fun c_15 => ?_)
    · have h := bi_t c_15 h
      refine j_iconst (v := 1) X dX9_laysTense_68 (by decide) ?_
      refine j_goto X 73 dX9_laysTense_69 (by decide) ?_
      refine j_pick [1, 2, 3, 4, 0] rfl ?_
      exact Hv_3 1 h
    · have h := bi_f c_15 h
      refine j_iload X dX9_laysTense_55 4 rfl ?_
      refine j_iconst (v := 4) X dX9_laysTense_57 (by decide) ?_
      refine j_icmp_eq X 68 dX9_laysTense_58 (by decide) (fun c_16 => ?_) (fun c_16 => ?_)
      · have h := bi_t c_16 h
        refine j_iconst (v := 1) X dX9_laysTense_68 (by decide) ?_
        refine j_goto X 73 dX9_laysTense_69 (by decide) ?_
        refine j_pick [1, 2, 3, 4, 0] rfl ?_
        exact Hv_3 1 h
      · have h := bi_f c_16 h
        refine j_iload X dX9_laysTense_61 4 rfl ?_
        refine j_bipush (v := 7) X dX9_laysTense_63 (by decide) ?_
        refine j_icmp_ne X 72 dX9_laysTense_65 (by decide) (fun c_17 => ?_) (fun c_17 => ?_)
        · have h := bi_f c_17 h
          refine j_iconst (v := 0) X dX9_laysTense_72 (by decide) ?_
          refine j_pick [1, 2, 3, 4, 0] rfl ?_
          exact Hv_3 0 h
        · have h := bi_t c_17 h
          refine j_iconst (v := 1) X dX9_laysTense_68 (by decide) ?_
          refine j_goto X 73 dX9_laysTense_69 (by decide) ?_
          refine j_pick [1, 2, 3, 4, 0] rfl ?_
          exact Hv_3 1 h
  refine j_if_eq X 42 dX9_laysTense_26 (by decide) (fun c_18 => ?_) (fun c_18 => ?_)
  · have h := bi_t c_18 h
    refine j_iconst (v := 1) X dX9_laysTense_42 (by decide) ?_
    refine j_goto X 47 dX9_laysTense_43 (by decide) ?_
    refine j_pick [3, 2, 1, 0] rfl ?_
    exact Hv_2 (r_1, 1) h
  · have h := bi_f c_18 h
    refine j_iload X dX9_laysTense_29 0 rfl ?_
    refine j_iconst (v := 3) X dX9_laysTense_31 (by decide) ?_
    refine j_icmp_eq X 42 dX9_laysTense_32 (by decide) (fun c_19 => ?_) (fun c_19 => ?_)
    · have h := bi_t c_19 h
      refine j_iconst (v := 1) X dX9_laysTense_42 (by decide) ?_
      refine j_goto X 47 dX9_laysTense_43 (by decide) ?_
      refine j_pick [3, 2, 1, 0] rfl ?_
      exact Hv_2 (r_1, 1) h
    · have h := bi_f c_19 h
      refine j_iload X dX9_laysTense_35 0 rfl ?_
      refine j_bipush (v := 6) X dX9_laysTense_37 (by decide) ?_
      refine j_icmp_ne X 46 dX9_laysTense_39 (by decide) (fun c_20 => ?_) (fun c_20 => ?_)
      · have h := bi_f c_20 h
        refine j_iconst (v := 0) X dX9_laysTense_46 (by decide) ?_
        refine j_pick [3, 2, 1, 0] rfl ?_
        exact Hv_2 (r_1, 0) h
      · have h := bi_t c_20 h
        refine j_iconst (v := 1) X dX9_laysTense_42 (by decide) ?_
        refine j_goto X 47 dX9_laysTense_43 (by decide) ?_
        refine j_pick [3, 2, 1, 0] rfl ?_
        exact Hv_2 (r_1, 1) h
abbrev rm_X9_laysLink : Room := { frames := 1, cells := 0, slots := 0, locals := 25 }
theorem pn_X9_laysLink : yX9_laysLink.cls ≠ "java/lang/invoke/MethodHandle" ∧ yX9_laysLink.cls ≠ "java/lang/invoke/VarHandle" ∧ (parseMethodDescriptor yX9_laysLink.desc).map (fun d => d.parameters.length) = some 1 := by decide +kernel
def m_X9_laysLink (G : Mem) (p1 : Int32) : Option (Mem) := (ald 74 G 82 ((2 + (2 * p1)) + 1)).bind (fun r_1 => (if r_1 = 0 then (m_X9_isAhead G ((1 + (2 * p1)) - 2) (1 + (2 * p1))).bind (fun q_7 => some q_7) else (if r_1 = 1 then (m_X9_areSame G ((1 + (2 * p1)) - 2) (1 + (2 * p1))).bind (fun q_6 => some q_6) else (if r_1 = 2 then (m_X9_isAhead G (1 + (2 * p1)) ((1 + (2 * p1)) - 2)).bind (fun q_5 => some q_5) else some G))))
set_option maxRecDepth 100000 in
set_option maxHeartbeats 4000000 in
theorem c_X9_laysLink (l : Launch) (w : WP) (G : Mem) (p1 : Int32) {res : Mem} (h0 : m_X9_laysLink G p1 = some res) : CMv l yX9_laysLink cX9_laysLink 4 none 1 25 w [.ref (w.1 81), .int p1] G res := by
  refine CMv.of (by decide +kernel) (Nat.le_of_ble_eq_true rfl) ?_
  intro p e s m args below meth c X hr hk
  have h := bs_i h0
  unfold m_X9_laysLink at h
  show J p l e rm_X9_laysLink s m args below meth c (Qvoid below args s w res) w 4 G 0 [(0, .ref (w.1 81)), (1, .int p1)] []
  refine j_aload_n X dX9_laysLink_0 rfl 0 rfl ?_
  refine j_getR (C := RX9) (T := TX9) (N := 22) X 81 s_81 rfl hin_X9 1 (by decide) 82 rfl q_863 dX9_laysLink_1 ?_
  refine j_iconst (v := 2) X dX9_laysLink_4 (by decide) ?_
  refine j_iconst (v := 2) X dX9_laysLink_5 (by decide) ?_
  refine j_iload_n X dX9_laysLink_6 rfl 1 rfl ?_
  refine j_imul X dX9_laysLink_7 ?_
  refine j_iadd X dX9_laysLink_8 ?_
  refine j_iconst (v := 1) X dX9_laysLink_9 (by decide) ?_
  refine j_iadd X dX9_laysLink_10 ?_
  obtain ⟨r_1, hr_1, h⟩ := bd_s h
  refine j_iald X 82 74 s_82 hr_1 dX9_laysLink_11 ?_
  refine j_istore_n X [(2, .int r_1), (0, .ref (w.1 81)), (1, .int p1)] dX9_laysLink_12 rfl (by decide) rfl ?_
  refine j_iconst (v := 1) X dX9_laysLink_13 (by decide) ?_
  refine j_iconst (v := 2) X dX9_laysLink_14 (by decide) ?_
  refine j_iload_n X dX9_laysLink_15 rfl 2 rfl ?_
  refine j_imul X dX9_laysLink_16 ?_
  refine j_iadd X dX9_laysLink_17 ?_
  refine j_istore_n X [(3, .int (1 + (2 * p1))), (2, .int r_1), (0, .ref (w.1 81)), (1, .int p1)] dX9_laysLink_18 rfl (by decide) rfl ?_
  refine j_iload_n X dX9_laysLink_19 rfl 1 rfl ?_
  refine j_if_ne X 34 dX9_laysLink_20 (by decide) (fun c_2 => ?_) (fun c_2 => ?_)
  · have h := bi_f c_2 h
    refine j_iload_n X dX9_laysLink_34 rfl 1 rfl ?_
    refine j_iconst (v := 1) X dX9_laysLink_35 (by decide) ?_
    refine j_icmp_ne X 50 dX9_laysLink_36 (by decide) (fun c_3 => ?_) (fun c_3 => ?_)
    · have h := bi_f c_3 h
      refine j_iload_n X dX9_laysLink_50 rfl 1 rfl ?_
      refine j_iconst (v := 2) X dX9_laysLink_51 (by decide) ?_
      refine j_icmp_ne X 63 dX9_laysLink_52 (by decide) (fun c_4 => ?_) (fun c_4 => ?_)
      · have h := bi_f c_4 h
        exact j_vret X hr hk dX9_laysLink_63 (Option.some.inj h)
      · have h := bi_t c_4 h
        refine j_aload_n X dX9_laysLink_55 rfl 2 rfl ?_
        refine j_iload_n X dX9_laysLink_56 rfl 0 rfl ?_
        refine j_iload_n X dX9_laysLink_57 rfl 0 rfl ?_
        refine j_iconst (v := 2) X dX9_laysLink_58 (by decide) ?_
        refine j_isub X dX9_laysLink_59 ?_
        obtain ⟨q_5, hq_5, h⟩ := bd_s h
        refine j_callVv (As := [.int (1 + (2 * p1)), .int ((1 + (2 * p1)) - 2)]) X 81 s_81 rfl (c_X9_isAhead l w G  (1 + (2 * p1)) ((1 + (2 * p1)) - 2) hq_5) rfl pn_X9_isAhead q_1007 q_1009 q_42 q_68 q_1010 ⟨Nat.le_of_ble_eq_true rfl, Nat.le_of_ble_eq_true rfl⟩ (Nat.le_of_ble_eq_true rfl) rfl dX9_laysLink_60 ?_
        exact j_vret X hr hk dX9_laysLink_63 (Option.some.inj h)
    · have h := bi_t c_3 h
      refine j_aload_n X dX9_laysLink_39 rfl 2 rfl ?_
      refine j_iload_n X dX9_laysLink_40 rfl 0 rfl ?_
      refine j_iconst (v := 2) X dX9_laysLink_41 (by decide) ?_
      refine j_isub X dX9_laysLink_42 ?_
      refine j_iload_n X dX9_laysLink_43 rfl 0 rfl ?_
      obtain ⟨q_6, hq_6, h⟩ := bd_s h
      refine j_callVv (As := [.int ((1 + (2 * p1)) - 2), .int (1 + (2 * p1))]) X 81 s_81 rfl (c_X9_areSame l w G  ((1 + (2 * p1)) - 2) (1 + (2 * p1)) hq_6) rfl pn_X9_areSame q_1011 q_1013 q_43 q_68 q_1014 ⟨Nat.le_of_ble_eq_true rfl, Nat.le_of_ble_eq_true rfl⟩ (Nat.le_of_ble_eq_true rfl) rfl dX9_laysLink_44 ?_
      refine j_goto X 63 dX9_laysLink_47 (by decide) ?_
      exact j_vret X hr hk dX9_laysLink_63 (Option.some.inj h)
  · have h := bi_t c_2 h
    refine j_aload_n X dX9_laysLink_23 rfl 2 rfl ?_
    refine j_iload_n X dX9_laysLink_24 rfl 0 rfl ?_
    refine j_iconst (v := 2) X dX9_laysLink_25 (by decide) ?_
    refine j_isub X dX9_laysLink_26 ?_
    refine j_iload_n X dX9_laysLink_27 rfl 0 rfl ?_
    obtain ⟨q_7, hq_7, h⟩ := bd_s h
    refine j_callVv (As := [.int ((1 + (2 * p1)) - 2), .int (1 + (2 * p1))]) X 81 s_81 rfl (c_X9_isAhead l w G  ((1 + (2 * p1)) - 2) (1 + (2 * p1)) hq_7) rfl pn_X9_isAhead q_1007 q_1009 q_42 q_68 q_1010 ⟨Nat.le_of_ble_eq_true rfl, Nat.le_of_ble_eq_true rfl⟩ (Nat.le_of_ble_eq_true rfl) rfl dX9_laysLink_28 ?_
    refine j_goto X 63 dX9_laysLink_31 (by decide) ?_
    exact j_vret X hr hk dX9_laysLink_63 (Option.some.inj h)
abbrev rm_X9_laysAll : Room := { frames := 2, cells := 0, slots := 0, locals := 51 }
theorem pn_X9_laysAll : yX9_laysAll.cls ≠ "java/lang/invoke/MethodHandle" ∧ yX9_laysAll.cls ≠ "java/lang/invoke/VarHandle" ∧ (parseMethodDescriptor yX9_laysAll.desc).map (fun d => d.parameters.length) = some 4 := by decide +kernel
def L_X9_laysAll_17 : Nat → Int32 → Mem → Option (Mem)
  | 0, _, _ => none
  | n + 1, x5, G => (if (G 81 14) ≤ x5 then some G else (ast 17 G 91 x5 x5).bind (fun q_3 => (ast 17 q_3 92 x5 0).bind (fun q_4 => L_X9_laysAll_17  n (x5 + 1) q_4)))
def L_X9_laysAll_52 (x1 : Int32) : Nat → Int32 → Mem → Option (Mem)
  | 0, _, _ => none
  | n + 1, x5, G => (ald 74 G 82 1).bind (fun r_6 => (if r_6 ≤ x5 then some G else ((if ((x1 >>> (x5 &&& 31)) &&& 1) = 1 then (m_X9_ofStatement G x5 0).bind (fun r_10 => (if r_10 = (-9) then (m_X9_ofStatement G x5 1).bind (fun r_14 => (m_X9_ofStatement G x5 2).bind (fun r_15 => (m_X9_ofStatement G x5 3).bind (fun r_16 => (m_X9_lays G r_14 r_15 r_16).bind (fun q_17 => some q_17)))) else (m_X9_laysTense G r_10).bind (fun q_12 => (m_X9_laysLink q_12 r_10).bind (fun q_13 => some q_13)))) else some G) : Option (Mem)).bind (fun (v_8 : Mem) => L_X9_laysAll_52 x1 n (x5 + 1) v_8)))
def m_X9_laysAll (G : Mem) (p1 : Int32) (p2 : Int32) (p3 : Int32) (p4 : Int32) : Option (Mem) := (ald 74 G 82 0).bind (fun r_1 => (L_X9_laysAll_17  NF 0 (upm G 81 14 (1 + (2 * r_1)))).bind (fun v_5 => (L_X9_laysAll_52 p1 NF 0 v_5).bind (fun v_18 => (if p3 = (-9) then some v_18 else (m_X9_lays v_18 p2 p3 p4).bind (fun q_20 => some q_20)))))
set_option maxRecDepth 100000 in
set_option maxHeartbeats 4000000 in
theorem jL_X9_laysAll_17 {p : Program} {l : Launch} {e : Env} {s : State} {m : MethodId} {args : Array Value} {below : List Frame} {meth : Method} {c : Code} {w : WP} (X : fw_X p s m args c cX9_laysAll 7 RX9 w) (hr : meth.sig.returnType = none) (hk : meth.locks = false) {x1 : Int32} {x2 : Int32} {x3 : Int32} {x4 : Int32} {res : Mem} {K : Mem → Option (Mem)} (HK : ∀ v : Mem, K v = some res → J p l e rm_X9_laysAll s m args below meth c (Qvoid below args s w res) w 7 v 49 [(0, .ref (w.1 81)), (1, .int x1), (2, .int x2), (3, .int x3), (4, .int x4)] []) : ∀ (n : Nat) (x5 : Int32) (G : Mem), (L_X9_laysAll_17  n x5 G).bind K = some res → J p l e rm_X9_laysAll s m args below meth c (Qvoid below args s w res) w 7 G 17 [(0, .ref (w.1 81)), (1, .int x1), (2, .int x2), (3, .int x3), (4, .int x4), (5, .int x5)] [] := by
  intro n
  induction n with
  | zero =>
    intro x5 G h
    rw [L_X9_laysAll_17] at h
    cases h
  | succ n ih =>
    intro x5 G h
    rw [L_X9_laysAll_17] at h
    refine j_iload X dX9_laysAll_17 5 rfl ?_
    refine j_aload_n X dX9_laysAll_19 rfl 0 rfl ?_
    refine j_getI (C := RX9) (T := TX9) (N := 22) X 81 s_81 rfl hin_X9 14 (by decide) rfl q_876 dX9_laysAll_20 ?_
    refine j_icmp_ge X 49 dX9_laysAll_23 (by decide) (fun c_2 => ?_) (fun c_2 => ?_)
    · have h := bi_t c_2 h
      refine j_pick [0, 1, 2, 3, 4] rfl ?_
      exact HK G h
    · have h := bi_f c_2 h
      refine j_aload_n X dX9_laysAll_26 rfl 0 rfl ?_
      refine j_getR (C := RX9) (T := TX9) (N := 22) X 81 s_81 rfl hin_X9 15 (by decide) 91 rfl q_877 dX9_laysAll_27 ?_
      refine j_iload X dX9_laysAll_30 5 rfl ?_
      refine j_iload X dX9_laysAll_32 5 rfl ?_
      obtain ⟨q_3, hq_3, h⟩ := bd_s h
      refine j_iast X 91 17 s_91 hq_3 dX9_laysAll_34 ?_
      refine j_aload_n X dX9_laysAll_35 rfl 0 rfl ?_
      refine j_getR (C := RX9) (T := TX9) (N := 22) X 81 s_81 rfl hin_X9 16 (by decide) 92 rfl q_878 dX9_laysAll_36 ?_
      refine j_iload X dX9_laysAll_39 5 rfl ?_
      refine j_iconst (v := 0) X dX9_laysAll_41 (by decide) ?_
      obtain ⟨q_4, hq_4, h⟩ := bd_s h
      refine j_iast X 92 17 s_92 hq_4 dX9_laysAll_42 ?_
      refine j_iinc (v := x5 + 1) X [(5, .int (x5 + 1)), (0, .ref (w.1 81)), (1, .int x1), (2, .int x2), (3, .int x3), (4, .int x4)] dX9_laysAll_43 5 rfl rfl (by decide) rfl ?_
      refine j_goto X 17 dX9_laysAll_46 (by decide) ?_
      refine j_pick [1, 2, 3, 4, 5, 0] rfl ?_
      exact ih (x5 + 1) q_4 h
set_option maxRecDepth 100000 in
set_option maxHeartbeats 4000000 in
theorem jL_X9_laysAll_52 {p : Program} {l : Launch} {e : Env} {s : State} {m : MethodId} {args : Array Value} {below : List Frame} {meth : Method} {c : Code} {w : WP} (X : fw_X p s m args c cX9_laysAll 7 RX9 w) (hr : meth.sig.returnType = none) (hk : meth.locks = false) {x1 : Int32} {x2 : Int32} {x3 : Int32} {x4 : Int32} {res : Mem} {K : Mem → Option (Mem)} (HK : ∀ v : Mem, K v = some res → J p l e rm_X9_laysAll s m args below meth c (Qvoid below args s w res) w 7 v 135 [(0, .ref (w.1 81)), (2, .int x2), (3, .int x3), (4, .int x4)] []) : ∀ (n : Nat) (x5 : Int32) (G : Mem), (L_X9_laysAll_52 x1 n x5 G).bind K = some res → J p l e rm_X9_laysAll s m args below meth c (Qvoid below args s w res) w 7 G 52 [(0, .ref (w.1 81)), (1, .int x1), (2, .int x2), (3, .int x3), (4, .int x4), (5, .int x5)] [] := by
  intro n
  induction n with
  | zero =>
    intro x5 G h
    rw [L_X9_laysAll_52] at h
    cases h
  | succ n ih =>
    intro x5 G h
    rw [L_X9_laysAll_52] at h
    refine j_iload X dX9_laysAll_52 5 rfl ?_
    refine j_aload_n X dX9_laysAll_54 rfl 0 rfl ?_
    refine j_getR (C := RX9) (T := TX9) (N := 22) X 81 s_81 rfl hin_X9 1 (by decide) 82 rfl q_863 dX9_laysAll_55 ?_
    refine j_iconst (v := 1) X dX9_laysAll_58 (by decide) ?_
    obtain ⟨r_6, hr_6, h⟩ := bd_s h
    refine j_iald X 82 74 s_82 hr_6 dX9_laysAll_59 ?_
    refine j_icmp_ge X 135 dX9_laysAll_60 (by decide) (fun c_7 => ?_) (fun c_7 => ?_)
    · have h := bi_t c_7 h
      refine j_pick [0, 2, 3, 4] rfl ?_
      exact HK G h
    · have h := bi_f c_7 h
      refine j_iload_n X dX9_laysAll_63 rfl 1 rfl ?_
      refine j_iload X dX9_laysAll_64 5 rfl ?_
      refine j_ishr X dX9_laysAll_66 ?_
      refine j_iconst (v := 1) X dX9_laysAll_67 (by decide) ?_
      refine j_iand X dX9_laysAll_68 ?_
      refine j_iconst (v := 1) X dX9_laysAll_69 (by decide) ?_
      have h := bb_a h
      have Hv_8 : ∀ v_8 : Mem, (L_X9_laysAll_52 x1 n (x5 + 1) v_8).bind K = some res → J p l e rm_X9_laysAll s m args below meth c (Qvoid below args s w res) w 7 v_8 129 [(0, .ref (w.1 81)), (1, .int x1), (2, .int x2), (3, .int x3), (4, .int x4), (5, .int x5)] [] := by
        intro v_8 h
        refine j_iinc (v := x5 + 1) X [(5, .int (x5 + 1)), (0, .ref (w.1 81)), (1, .int x1), (2, .int x2), (3, .int x3), (4, .int x4)] dX9_laysAll_129 5 rfl rfl (by decide) rfl ?_
        refine j_goto X 52 dX9_laysAll_132 (by decide) ?_
        refine j_pick [1, 2, 3, 4, 5, 0] rfl ?_
        exact ih (x5 + 1) v_8 h
      refine j_icmp_ne X 129 dX9_laysAll_70 (by decide) (fun c_9 => ?_) (fun c_9 => ?_)
      · have h := bi_f c_9 h
        refine j_pick [0, 1, 2, 3, 4, 5] rfl ?_
        exact Hv_8 G h
      · have h := bi_t c_9 h
        refine j_aload_n X dX9_laysAll_73 rfl 0 rfl ?_
        refine j_iload X dX9_laysAll_74 5 rfl ?_
        refine j_iconst (v := 0) X dX9_laysAll_76 (by decide) ?_
        obtain ⟨r_10, hr_10, h⟩ := bd_s h
        refine j_callVi (As := [.int x5, .int 0]) X 81 s_81 rfl (c_X9_ofStatement l w G  x5 0 hr_10) rfl pn_X9_ofStatement q_979 q_981 q_37 q_68 q_982 ⟨Nat.le_of_ble_eq_true rfl, Nat.le_of_ble_eq_true rfl⟩ (Nat.le_of_ble_eq_true rfl) rfl dX9_laysAll_77 ?_
        refine j_istore X [(6, .int r_10), (0, .ref (w.1 81)), (1, .int x1), (2, .int x2), (3, .int x3), (4, .int x4), (5, .int x5)] dX9_laysAll_80 (by decide) rfl ?_
        refine j_iload X dX9_laysAll_82 0 rfl ?_
        refine j_bipush (v := (-9)) X dX9_laysAll_84 (by decide) ?_
        refine j_icmp_ne X 117 dX9_laysAll_86 (by decide) (fun c_11 => ?_) (fun c_11 => ?_)
        · have h := bi_f c_11 h
          refine j_aload_n X dX9_laysAll_117 rfl 1 rfl ?_
          refine j_iload X dX9_laysAll_118 0 rfl ?_
          obtain ⟨q_12, hq_12, h⟩ := bd_s h
          refine j_callVv (As := [.int r_10]) X 81 s_81 rfl (c_X9_laysTense l w G  r_10 hq_12) rfl pn_X9_laysTense q_1015 q_1017 q_44 q_68 q_1018 ⟨Nat.le_of_ble_eq_true rfl, Nat.le_of_ble_eq_true rfl⟩ (Nat.le_of_ble_eq_true rfl) rfl dX9_laysAll_120 ?_
          refine j_aload_n X dX9_laysAll_123 rfl 1 rfl ?_
          refine j_iload X dX9_laysAll_124 0 rfl ?_
          obtain ⟨q_13, hq_13, h⟩ := bd_s h
          refine j_callVv (As := [.int r_10]) X 81 s_81 rfl (c_X9_laysLink l w q_12  r_10 hq_13) rfl pn_X9_laysLink q_1019 q_1021 q_45 q_68 q_1022 ⟨Nat.le_of_ble_eq_true rfl, Nat.le_of_ble_eq_true rfl⟩ (Nat.le_of_ble_eq_true rfl) rfl dX9_laysAll_126 ?_
          refine j_pick [1, 2, 3, 4, 5, 6] rfl ?_
          exact Hv_8 q_13 h
        · have h := bi_t c_11 h
          refine j_aload_n X dX9_laysAll_89 rfl 1 rfl ?_
          refine j_aload_n X dX9_laysAll_90 rfl 1 rfl ?_
          refine j_iload X dX9_laysAll_91 6 rfl ?_
          refine j_iconst (v := 1) X dX9_laysAll_93 (by decide) ?_
          obtain ⟨r_14, hr_14, h⟩ := bd_s h
          refine j_callVi (As := [.int x5, .int 1]) X 81 s_81 rfl (c_X9_ofStatement l w G  x5 1 hr_14) rfl pn_X9_ofStatement q_979 q_981 q_37 q_68 q_982 ⟨Nat.le_of_ble_eq_true rfl, Nat.le_of_ble_eq_true rfl⟩ (Nat.le_of_ble_eq_true rfl) rfl dX9_laysAll_94 ?_
          refine j_aload_n X dX9_laysAll_97 rfl 1 rfl ?_
          refine j_iload X dX9_laysAll_98 6 rfl ?_
          refine j_iconst (v := 2) X dX9_laysAll_100 (by decide) ?_
          obtain ⟨r_15, hr_15, h⟩ := bd_s h
          refine j_callVi (As := [.int x5, .int 2]) X 81 s_81 rfl (c_X9_ofStatement l w G  x5 2 hr_15) rfl pn_X9_ofStatement q_979 q_981 q_37 q_68 q_982 ⟨Nat.le_of_ble_eq_true rfl, Nat.le_of_ble_eq_true rfl⟩ (Nat.le_of_ble_eq_true rfl) rfl dX9_laysAll_101 ?_
          refine j_aload_n X dX9_laysAll_104 rfl 1 rfl ?_
          refine j_iload X dX9_laysAll_105 6 rfl ?_
          refine j_iconst (v := 3) X dX9_laysAll_107 (by decide) ?_
          obtain ⟨r_16, hr_16, h⟩ := bd_s h
          refine j_callVi (As := [.int x5, .int 3]) X 81 s_81 rfl (c_X9_ofStatement l w G  x5 3 hr_16) rfl pn_X9_ofStatement q_979 q_981 q_37 q_68 q_982 ⟨Nat.le_of_ble_eq_true rfl, Nat.le_of_ble_eq_true rfl⟩ (Nat.le_of_ble_eq_true rfl) rfl dX9_laysAll_108 ?_
          obtain ⟨q_17, hq_17, h⟩ := bd_s h
          refine j_callVv (As := [.int r_14, .int r_15, .int r_16]) X 81 s_81 rfl (c_X9_lays l w G  r_14 r_15 r_16 hq_17) rfl pn_X9_lays q_1003 q_1005 q_41 q_68 q_1006 ⟨Nat.le_of_ble_eq_true rfl, Nat.le_of_ble_eq_true rfl⟩ (Nat.le_of_ble_eq_true rfl) rfl dX9_laysAll_111 ?_
          refine j_goto X 129 dX9_laysAll_114 (by decide) ?_
          refine j_pick [1, 2, 3, 4, 5, 6] rfl ?_
          exact Hv_8 q_17 h
set_option maxRecDepth 100000 in
set_option maxHeartbeats 4000000 in
theorem c_X9_laysAll (l : Launch) (w : WP) (G : Mem) (p1 : Int32) (p2 : Int32) (p3 : Int32) (p4 : Int32) {res : Mem} (h0 : m_X9_laysAll G p1 p2 p3 p4 = some res) : CMv l yX9_laysAll cX9_laysAll 7 none 2 51 w [.ref (w.1 81), .int p1, .int p2, .int p3, .int p4] G res := by
  refine CMv.of (by decide +kernel) (Nat.le_of_ble_eq_true rfl) ?_
  intro p e s m args below meth c X hr hk
  have h := bs_i h0
  unfold m_X9_laysAll at h
  show J p l e rm_X9_laysAll s m args below meth c (Qvoid below args s w res) w 7 G 0 [(0, .ref (w.1 81)), (1, .int p1), (2, .int p2), (3, .int p3), (4, .int p4)] []
  refine j_aload_n X dX9_laysAll_0 rfl 0 rfl ?_
  refine j_iconst (v := 1) X dX9_laysAll_1 (by decide) ?_
  refine j_iconst (v := 2) X dX9_laysAll_2 (by decide) ?_
  refine j_aload_n X dX9_laysAll_3 rfl 0 rfl ?_
  refine j_getR (C := RX9) (T := TX9) (N := 22) X 81 s_81 rfl hin_X9 1 (by decide) 82 rfl q_863 dX9_laysAll_4 ?_
  refine j_iconst (v := 0) X dX9_laysAll_7 (by decide) ?_
  obtain ⟨r_1, hr_1, h⟩ := bd_s h
  refine j_iald X 82 74 s_82 hr_1 dX9_laysAll_8 ?_
  refine j_imul X dX9_laysAll_9 ?_
  refine j_iadd X dX9_laysAll_10 ?_
  refine j_putI (C := RX9) (T := TX9) (N := 22) X tyX9 tyX9_ok nmX9 81 s_81 rfl hin_X9 14 (by decide) rfl q_876 rfl rfl dX9_laysAll_11 ?_
  refine j_iconst (v := 0) X dX9_laysAll_14 (by decide) ?_
  refine j_istore X [(5, .int 0), (0, .ref (w.1 81)), (1, .int p1), (2, .int p2), (3, .int p3), (4, .int p4)] dX9_laysAll_15 (by decide) rfl ?_
  have h := bb_a h
  have Hv_5 : ∀ v_5 : Mem, ((L_X9_laysAll_52 p1 NF 0 v_5).bind (fun v_18 => (if p3 = (-9) then some v_18 else (m_X9_lays v_18 p2 p3 p4).bind (fun q_20 => some q_20)))).bind some = some res → J p l e rm_X9_laysAll s m args below meth c (Qvoid below args s w res) w 7 v_5 49 [(0, .ref (w.1 81)), (1, .int p1), (2, .int p2), (3, .int p3), (4, .int p4)] [] := by
    intro v_5 h
    refine j_iconst (v := 0) X dX9_laysAll_49 (by decide) ?_
    refine j_istore X [(5, .int 0), (0, .ref (w.1 81)), (1, .int p1), (2, .int p2), (3, .int p3), (4, .int p4)] dX9_laysAll_50 (by decide) rfl ?_
    have h := bb_a h
    have Hv_18 : ∀ v_18 : Mem, ((if p3 = (-9) then some v_18 else (m_X9_lays v_18 p2 p3 p4).bind (fun q_20 => some q_20))).bind some = some res → J p l e rm_X9_laysAll s m args below meth c (Qvoid below args s w res) w 7 v_18 135 [(0, .ref (w.1 81)), (2, .int p2), (3, .int p3), (4, .int p4)] [] := by
      intro v_18 h
      refine j_iload_n X dX9_laysAll_135 rfl 2 rfl ?_
      refine j_bipush (v := (-9)) X dX9_laysAll_136 (by decide) ?_
      refine j_icmp_eq X 149 dX9_laysAll_138 (by decide) (fun c_19 => ?_) (fun c_19 => ?_)
      · have h := bi_t c_19 h
        exact j_vret X hr hk dX9_laysAll_149 (Option.some.inj h)
      · have h := bi_f c_19 h
        refine j_aload_n X dX9_laysAll_141 rfl 0 rfl ?_
        refine j_iload_n X dX9_laysAll_142 rfl 1 rfl ?_
        refine j_iload_n X dX9_laysAll_143 rfl 2 rfl ?_
        refine j_iload X dX9_laysAll_144 3 rfl ?_
        obtain ⟨q_20, hq_20, h⟩ := bd_s h
        refine j_callVv (As := [.int p2, .int p3, .int p4]) X 81 s_81 rfl (c_X9_lays l w v_18  p2 p3 p4 hq_20) rfl pn_X9_lays q_1003 q_1005 q_41 q_68 q_1006 ⟨Nat.le_of_ble_eq_true rfl, Nat.le_of_ble_eq_true rfl⟩ (Nat.le_of_ble_eq_true rfl) rfl dX9_laysAll_146 ?_
        exact j_vret X hr hk dX9_laysAll_149 (Option.some.inj h)
    refine j_pick [1, 2, 3, 4, 5, 0] rfl ?_
    exact jL_X9_laysAll_52 X hr hk Hv_18 NF 0 v_5 h
  refine j_pick [1, 2, 3, 4, 5, 0] rfl ?_
  exact jL_X9_laysAll_17 X hr hk Hv_5 NF 0 (upm G 81 14 (1 + (2 * r_1))) h
abbrev rm_X9_classOf : Room := { frames := 0, cells := 0, slots := 0, locals := 0 }
theorem pn_X9_classOf : yX9_classOf.cls ≠ "java/lang/invoke/MethodHandle" ∧ yX9_classOf.cls ≠ "java/lang/invoke/VarHandle" ∧ (parseMethodDescriptor yX9_classOf.desc).map (fun d => d.parameters.length) = some 1 := by decide +kernel
def L_X9_classOf_4 (x1 : Int32) (G : Mem) : Nat → Int32 → Int32 → Option (Int32)
  | 0, _, _ => none
  | n + 1, x2, x3 => (if (G 81 14) ≤ x3 then some x2 else (ald 17 G 91 x3).bind (fun r_2 => (ald 17 G 91 x1).bind (fun r_3 => ((if r_2 = r_3 then some (1 <<< (x3 &&& 31)) else some 0) : Option (Int32)).bind (fun (v_4 : Int32) => L_X9_classOf_4 x1 G n (x2 ||| v_4) (x3 + 1)))))
def m_X9_classOf (G : Mem) (p1 : Int32) : Option (Int32) := (L_X9_classOf_4 p1 G NF 0 0).bind (fun v_6 => some v_6)
set_option maxRecDepth 100000 in
set_option maxHeartbeats 4000000 in
theorem jL_X9_classOf_4 {p : Program} {l : Launch} {e : Env} {s : State} {m : MethodId} {args : Array Value} {below : List Frame} {meth : Method} {c : Code} {w : WP} (X : fw_X p s m args c cX9_classOf 4 RX9 w) (hr : meth.sig.returnType = (some .int)) (hk : meth.locks = false) {x1 : Int32} {G : Mem} {res : Int32} {K : Int32 → Option (Int32)} (HK : ∀ v : Int32, K v = some res → J p l e rm_X9_classOf s m args below meth c (Qint below args s w (res, G)) w 4 G 43 [(2, .int v)] []) : ∀ (n : Nat) (x2 : Int32) (x3 : Int32), (L_X9_classOf_4 x1 G n x2 x3).bind K = some res → J p l e rm_X9_classOf s m args below meth c (Qint below args s w (res, G)) w 4 G 4 [(0, .ref (w.1 81)), (1, .int x1), (2, .int x2), (3, .int x3)] [] := by
  intro n
  induction n with
  | zero =>
    intro x2 x3 h
    rw [L_X9_classOf_4] at h
    cases h
  | succ n ih =>
    intro x2 x3 h
    rw [L_X9_classOf_4] at h
    refine j_iload_n X dX9_classOf_4 rfl 3 rfl ?_
    refine j_aload_n X dX9_classOf_5 rfl 0 rfl ?_
    refine j_getI (C := RX9) (T := TX9) (N := 22) X 81 s_81 rfl hin_X9 14 (by decide) rfl q_876 dX9_classOf_6 ?_
    refine j_icmp_ge X 43 dX9_classOf_9 (by decide) (fun c_1 => ?_) (fun c_1 => ?_)
    · have h := bi_t c_1 h
      refine j_pick [2] rfl ?_
      exact HK x2 h
    · have h := bi_f c_1 h
      refine j_iload_n X dX9_classOf_12 rfl 2 rfl ?_
      refine j_aload_n X dX9_classOf_13 rfl 0 rfl ?_
      refine j_getR (C := RX9) (T := TX9) (N := 22) X 81 s_81 rfl hin_X9 15 (by decide) 91 rfl q_877 dX9_classOf_14 ?_
      refine j_iload_n X dX9_classOf_17 rfl 3 rfl ?_
      obtain ⟨r_2, hr_2, h⟩ := bd_s h
      refine j_iald X 91 17 s_91 hr_2 dX9_classOf_18 ?_
      refine j_aload_n X dX9_classOf_19 rfl 0 rfl ?_
      refine j_getR (C := RX9) (T := TX9) (N := 22) X 81 s_81 rfl hin_X9 15 (by decide) 91 rfl q_877 dX9_classOf_20 ?_
      refine j_iload_n X dX9_classOf_23 rfl 1 rfl ?_
      obtain ⟨r_3, hr_3, h⟩ := bd_s h
      refine j_iald X 91 17 s_91 hr_3 dX9_classOf_24 ?_
      have h := bb_a h
      have Hv_4 : ∀ v_4 : Int32, (L_X9_classOf_4 x1 G n (x2 ||| v_4) (x3 + 1)).bind K = some res → J p l e rm_X9_classOf s m args below meth c (Qint below args s w (res, G)) w 4 G 35 [(0, .ref (w.1 81)), (1, .int x1), (3, .int x3)] [.int v_4, .int x2] := by
        intro v_4 h
        refine j_ior X dX9_classOf_35 ?_
        refine j_istore_n X [(2, .int (x2 ||| v_4)), (0, .ref (w.1 81)), (1, .int x1), (3, .int x3)] dX9_classOf_36 rfl (by decide) rfl ?_
        refine j_iinc (v := x3 + 1) X [(3, .int (x3 + 1)), (2, .int (x2 ||| v_4)), (0, .ref (w.1 81)), (1, .int x1)] dX9_classOf_37 3 rfl rfl (by decide) rfl ?_
        refine j_goto X 4 dX9_classOf_40 (by decide) ?_
        refine j_pick [2, 3, 1, 0] rfl ?_
        exact ih (x2 ||| v_4) (x3 + 1) h
      refine j_icmp_ne X 34 dX9_classOf_25 (by decide) (fun c_5 => ?_) (fun c_5 => ?_)
      · have h := bi_f c_5 h
        refine j_iconst (v := 0) X dX9_classOf_34 (by decide) ?_
        refine j_pick [0, 1, 3] rfl ?_
        exact Hv_4 0 h
      · have h := bi_t c_5 h
        refine j_iconst (v := 1) X dX9_classOf_28 (by decide) ?_
        refine j_iload_n X dX9_classOf_29 rfl 3 rfl ?_
        refine j_ishl X dX9_classOf_30 ?_
        refine j_goto X 35 dX9_classOf_31 (by decide) ?_
        refine j_pick [0, 1, 3] rfl ?_
        exact Hv_4 (1 <<< (x3 &&& 31)) h
set_option maxRecDepth 100000 in
set_option maxHeartbeats 4000000 in
theorem c_X9_classOf (l : Launch) (w : WP) (G : Mem) (p1 : Int32) {res : Int32} (h0 : m_X9_classOf G p1 = some res) : CMi l yX9_classOf cX9_classOf 4 (some .int) 0 0 w [.ref (w.1 81), .int p1] G (res, G) := by
  refine CMi.of (by decide +kernel) (Nat.le_of_ble_eq_true rfl) ?_
  intro p e s m args below meth c X hr hk
  have h := bs_i h0
  unfold m_X9_classOf at h
  show J p l e rm_X9_classOf s m args below meth c (Qint below args s w (res, G)) w 4 G 0 [(0, .ref (w.1 81)), (1, .int p1)] []
  refine j_iconst (v := 0) X dX9_classOf_0 (by decide) ?_
  refine j_istore_n X [(2, .int 0), (0, .ref (w.1 81)), (1, .int p1)] dX9_classOf_1 rfl (by decide) rfl ?_
  refine j_iconst (v := 0) X dX9_classOf_2 (by decide) ?_
  refine j_istore_n X [(3, .int 0), (2, .int 0), (0, .ref (w.1 81)), (1, .int p1)] dX9_classOf_3 rfl (by decide) rfl ?_
  have h := bb_a h
  have Hv_6 : ∀ v_6 : Int32, (some v_6).bind some = some res → J p l e rm_X9_classOf s m args below meth c (Qint below args s w (res, G)) w 4 G 43 [(2, .int v_6)] [] := by
    intro v_6 h
    refine j_iload_n X dX9_classOf_43 rfl 0 rfl ?_
    exact j_iret X hr hk dX9_classOf_44 (congrArg (fun z => (z, G)) (Option.some.inj h))
  refine j_pick [2, 3, 1, 0] rfl ?_
  exact jL_X9_classOf_4 X hr hk Hv_6 NF 0 0 h
