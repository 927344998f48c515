abbrev rm_X9_tenses : Room := { frames := 2, cells := 0, slots := 0, locals := 44 }
theorem pn_X9_tenses : yX9_tenses.cls ≠ "java/lang/invoke/MethodHandle" ∧ yX9_tenses.cls ≠ "java/lang/invoke/VarHandle" ∧ (parseMethodDescriptor yX9_tenses.desc).map (fun d => d.parameters.length) = some 2 := by decide +kernel
def m_X9_tenses (G : Mem) (p1 : Int32) (p2 : Int32) : Option (Int32 × Mem) := (m_X9_isClause (upm G 81 0 0) p1).bind (fun r_1 => (if r_1 = 0 then some ((-1), upm G 81 0 0) else (if (m_X9_in p2 0 7) = 0 then some ((-1), upm G 81 0 0) else (m_X9_becomes (upm G 81 0 0) (2 + (2 * p1)) p2).bind (fun q_4 => some (q_4.1, q_4.2)))))
set_option maxRecDepth 100000 in
set_option maxHeartbeats 4000000 in
theorem c_X9_tenses (l : Launch) (w : WP) (G : Mem) (p1 : Int32) (p2 : Int32) {res : Int32 × Mem} (h0 : m_X9_tenses G p1 p2 = some res) : CMi l yX9_tenses cX9_tenses 3 (some .int) 2 44 w [.ref (w.1 81), .int p1, .int p2] G res := by
  refine CMi.of (by decide +kernel) (Nat.le_of_ble_eq_true rfl) ?_
  intro p e s m args below meth c X hr hk
  have h := bs_i h0
  unfold m_X9_tenses at h
  show J p l e rm_X9_tenses s m args below meth c (Qint below args s w res) w 3 G 0 [(0, .ref (w.1 81)), (1, .int p1), (2, .int p2)] []
  refine j_aload_n X dX9_tenses_0 rfl 0 rfl ?_
  refine j_iconst (v := 0) X dX9_tenses_1 (by decide) ?_
  refine j_putI (C := RX9) (T := TX9) (N := 22) X tyX9 tyX9_ok nmX9 81 s_81 rfl hin_X9 0 (by decide) rfl q_862 rfl rfl dX9_tenses_2 ?_
  refine j_aload_n X dX9_tenses_5 rfl 0 rfl ?_
  refine j_iload_n X dX9_tenses_6 rfl 1 rfl ?_
  obtain ⟨r_1, hr_1, h⟩ := bd_s h
  refine j_callVi (As := [.int p1]) X 81 s_81 rfl (c_X9_isClause l w (upm G 81 0 0)  p1 hr_1) rfl pn_X9_isClause q_975 q_977 q_36 q_68 q_978 ⟨Nat.le_of_ble_eq_true rfl, Nat.le_of_ble_eq_true rfl⟩ (Nat.le_of_ble_eq_true rfl) rfl dX9_tenses_7 ?_
  refine j_if_eq X 36 dX9_tenses_10 (by decide) (fun c_2 => ?_) (fun c_2 => ?_)
  · have h := bi_t c_2 h
    refine j_iconst (v := (-1)) X dX9_tenses_36 (by decide) ?_
    exact j_iret X hr hk dX9_tenses_37 (Option.some.inj h)
  · have h := bi_f c_2 h
    refine j_iload_n X dX9_tenses_13 rfl 2 rfl ?_
    refine j_iconst (v := 0) X dX9_tenses_14 (by decide) ?_
    refine j_bipush (v := 7) X dX9_tenses_15 (by decide) ?_
    refine j_callSi (As := [.int p2, .int 0, .int 7]) X (c_X9_in l w (upm G 81 0 0)  p2 0 7) pn_X9_in q_934 q_935 q_68 q_936 ⟨Nat.le_of_ble_eq_true rfl, Nat.le_of_ble_eq_true rfl⟩ (Nat.le_of_ble_eq_true rfl) rfl dX9_tenses_17 ?_
    refine j_if_eq X 36 dX9_tenses_20 (by decide) (fun c_3 => ?_) (fun c_3 => ?_)
    · have h := bi_t c_3 h
      refine j_iconst (v := (-1)) X dX9_tenses_36 (by decide) ?_
      exact j_iret X hr hk dX9_tenses_37 (Option.some.inj h)
    · have h := bi_f c_3 h
      refine j_aload_n X dX9_tenses_23 rfl 0 rfl ?_
      refine j_iconst (v := 2) X dX9_tenses_24 (by decide) ?_
      refine j_iconst (v := 2) X dX9_tenses_25 (by decide) ?_
      refine j_iload_n X dX9_tenses_26 rfl 1 rfl ?_
      refine j_imul X dX9_tenses_27 ?_
      refine j_iadd X dX9_tenses_28 ?_
      refine j_iload_n X dX9_tenses_29 rfl 2 rfl ?_
      obtain ⟨q_4, hq_4, h⟩ := bd_s h
      refine j_callVi (As := [.int (2 + (2 * p1)), .int p2]) X 81 s_81 rfl (c_X9_becomes l w (upm G 81 0 0)  (2 + (2 * p1)) p2 hq_4) rfl pn_X9_becomes q_1110 q_1112 q_57 q_68 q_1113 ⟨Nat.le_of_ble_eq_true rfl, Nat.le_of_ble_eq_true rfl⟩ (Nat.le_of_ble_eq_true rfl) rfl dX9_tenses_30 ?_
      refine j_goto X 37 dX9_tenses_33 (by decide) ?_
      exact j_iret X hr hk dX9_tenses_37 (Option.some.inj h)
abbrev rm_X9_type : Room := { frames := 1, cells := 0, slots := 0, locals := 22 }
theorem pn_X9_type : yX9_type.cls ≠ "java/lang/invoke/MethodHandle" ∧ yX9_type.cls ≠ "java/lang/invoke/VarHandle" ∧ (parseMethodDescriptor yX9_type.desc).map (fun d => d.parameters.length) = some 1 := by decide +kernel
def m_X9_type (G : Mem) (p1 : Int32) : Option (Int32 × Mem) := (if (m_X9_in p1 0 255) = 0 then some ((-1), upm G 81 0 0) else (if ((upm G 81 0 0) 81 11) = 80 then some ((-3), upm G 81 0 0) else (ast 80 (upm G 81 0 0) 90 ((upm G 81 0 0) 81 11) p1).bind (fun q_3 => some ((upm q_3 81 11 ((q_3 81 11) + 1)) 81 11, upm q_3 81 11 ((q_3 81 11) + 1)))))
set_option maxRecDepth 100000 in
set_option maxHeartbeats 4000000 in
theorem c_X9_type (l : Launch) (w : WP) (G : Mem) (p1 : Int32) {res : Int32 × Mem} (h0 : m_X9_type G p1 = some res) : CMi l yX9_type cX9_type 2 (some .int) 1 22 w [.ref (w.1 81), .int p1] G res := by
  refine CMi.of (by decide +kernel) (Nat.le_of_ble_eq_true rfl) ?_
  intro p e s m args below meth c X hr hk
  have h := bs_i h0
  unfold m_X9_type at h
  show J p l e rm_X9_type s m args below meth c (Qint below args s w res) w 2 G 0 [(0, .ref (w.1 81)), (1, .int p1)] []
  refine j_aload_n X dX9_type_0 rfl 0 rfl ?_
  refine j_iconst (v := 0) X dX9_type_1 (by decide) ?_
  refine j_putI (C := RX9) (T := TX9) (N := 22) X tyX9 tyX9_ok nmX9 81 s_81 rfl hin_X9 0 (by decide) rfl q_862 rfl rfl dX9_type_2 ?_
  refine j_iload_n X dX9_type_5 rfl 1 rfl ?_
  refine j_iconst (v := 0) X dX9_type_6 (by decide) ?_
  refine j_sipush (v := 255) X dX9_type_7 (by decide) ?_
  refine j_callSi (As := [.int p1, .int 0, .int 255]) X (c_X9_in l w (upm G 81 0 0)  p1 0 255) pn_X9_in q_934 q_935 q_68 q_936 ⟨Nat.le_of_ble_eq_true rfl, Nat.le_of_ble_eq_true rfl⟩ (Nat.le_of_ble_eq_true rfl) rfl dX9_type_10 ?_
  refine j_if_ne X 18 dX9_type_13 (by decide) (fun c_1 => ?_) (fun c_1 => ?_)
  · have h := bi_f c_1 h
    refine j_aload_n X dX9_type_18 rfl 0 rfl ?_
    refine j_getI (C := RX9) (T := TX9) (N := 22) X 81 s_81 rfl hin_X9 11 (by decide) rfl q_873 dX9_type_19 ?_
    refine j_bipush (v := 80) X dX9_type_22 (by decide) ?_
    refine j_icmp_ne X 30 dX9_type_24 (by decide) (fun c_2 => ?_) (fun c_2 => ?_)
    · have h := bi_f c_2 h
      refine j_aload_n X dX9_type_30 rfl 0 rfl ?_
      refine j_getR (C := RX9) (T := TX9) (N := 22) X 81 s_81 rfl hin_X9 12 (by decide) 90 rfl q_874 dX9_type_31 ?_
      refine j_aload_n X dX9_type_34 rfl 0 rfl ?_
      refine j_getI (C := RX9) (T := TX9) (N := 22) X 81 s_81 rfl hin_X9 11 (by decide) rfl q_873 dX9_type_35 ?_
      refine j_iload_n X dX9_type_38 rfl 1 rfl ?_
      obtain ⟨q_3, hq_3, h⟩ := bd_s h
      refine j_iast X 90 80 s_90 hq_3 dX9_type_39 ?_
      refine j_aload_n X dX9_type_40 rfl 0 rfl ?_
      refine j_dup X dX9_type_41 rfl ?_
      refine j_getI (C := RX9) (T := TX9) (N := 22) X 81 s_81 rfl hin_X9 11 (by decide) rfl q_873 dX9_type_42 ?_
      refine j_iconst (v := 1) X dX9_type_45 (by decide) ?_
      refine j_iadd X dX9_type_46 ?_
      refine j_putI (C := RX9) (T := TX9) (N := 22) X tyX9 tyX9_ok nmX9 81 s_81 rfl hin_X9 11 (by decide) rfl q_873 rfl rfl dX9_type_47 ?_
      refine j_aload_n X dX9_type_50 rfl 0 rfl ?_
      refine j_getI (C := RX9) (T := TX9) (N := 22) X 81 s_81 rfl hin_X9 11 (by decide) rfl q_873 dX9_type_51 ?_
      exact j_iret X hr hk dX9_type_54 (Option.some.inj h)
    · have h := bi_t c_2 h
      refine j_bipush (v := (-3)) X dX9_type_27 (by decide) ?_
      exact j_iret X hr hk dX9_type_29 (Option.some.inj h)
  · have h := bi_t c_1 h
    refine j_iconst (v := (-1)) X dX9_type_16 (by decide) ?_
    exact j_iret X hr hk dX9_type_17 (Option.some.inj h)
abbrev rm_X9_undo : Room := { frames := 0, cells := 0, slots := 0, locals := 0 }
theorem pn_X9_undo : yX9_undo.cls ≠ "java/lang/invoke/MethodHandle" ∧ yX9_undo.cls ≠ "java/lang/invoke/VarHandle" ∧ (parseMethodDescriptor yX9_undo.desc).map (fun d => d.parameters.length) = some 0 := by decide +kernel
def L_X9_undo_27 : Nat → Int32 → Mem → Option (Mem)
  | 0, _, _ => none
  | n + 1, x1, G => (if 74 ≤ x1 then some G else (ald 740 G 84 ((74 * (G 81 4)) + x1)).bind (fun r_3 => (ast 74 G 82 x1 r_3).bind (fun q_4 => L_X9_undo_27  n (x1 + 1) q_4)))
def m_X9_undo (G : Mem) : Option (Int32 × Mem) := (if ((upm G 81 0 0) 81 4) = 0 then some ((-2), upm G 81 0 0) else (L_X9_undo_27  NF 0 (upm (upm G 81 0 0) 81 4 (((upm G 81 0 0) 81 4) - 1))).bind (fun v_5 => some (v_5 81 4, v_5)))
set_option maxRecDepth 100000 in
set_option maxHeartbeats 4000000 in
theorem jL_X9_undo_27 {p : Program} {l : Launch} {e : Env} {s : State} {m : MethodId} {args : Array Value} {below : List Frame} {meth : Method} {c : Code} {w : WP} (X : fw_X p s m args c cX9_undo 2 RX9 w) (hr : meth.sig.returnType = (some .int)) (hk : meth.locks = false) {res : Int32 × Mem} {K : Mem → Option (Int32 × Mem)} (HK : ∀ v : Mem, K v = some res → J p l e rm_X9_undo s m args below meth c (Qint below args s w res) w 2 v 59 [(0, .ref (w.1 81))] []) : ∀ (n : Nat) (x1 : Int32) (G : Mem), (L_X9_undo_27  n x1 G).bind K = some res → J p l e rm_X9_undo s m args below meth c (Qint below args s w res) w 2 G 27 [(0, .ref (w.1 81)), (1, .int x1)] [] := by
  intro n
  induction n with
  | zero =>
    intro x1 G h
    rw [L_X9_undo_27] at h
    cases h
  | succ n ih =>
    intro x1 G h
    rw [L_X9_undo_27] at h
    refine j_iload_n X dX9_undo_27 rfl 1 rfl ?_
    refine j_bipush (v := 74) X dX9_undo_28 (by decide) ?_
    refine j_icmp_ge X 59 dX9_undo_30 (by decide) (fun c_2 => ?_) (fun c_2 => ?_)
    · have h := bi_t c_2 h
      refine j_pick [0] rfl ?_
      exact HK G h
    · have h := bi_f c_2 h
      refine j_aload_n X dX9_undo_33 rfl 0 rfl ?_
      refine j_getR (C := RX9) (T := TX9) (N := 22) X 81 s_81 rfl hin_X9 1 (by decide) 82 rfl q_863 dX9_undo_34 ?_
      refine j_iload_n X dX9_undo_37 rfl 1 rfl ?_
      refine j_aload_n X dX9_undo_38 rfl 0 rfl ?_
      refine j_getR (C := RX9) (T := TX9) (N := 22) X 81 s_81 rfl hin_X9 3 (by decide) 84 rfl q_865 dX9_undo_39 ?_
      refine j_bipush (v := 74) X dX9_undo_42 (by decide) ?_
      refine j_aload_n X dX9_undo_44 rfl 0 rfl ?_
      refine j_getI (C := RX9) (T := TX9) (N := 22) X 81 s_81 rfl hin_X9 4 (by decide) rfl q_866 dX9_undo_45 ?_
      refine j_imul X dX9_undo_48 ?_
      refine j_iload_n X dX9_undo_49 rfl 1 rfl ?_
      refine j_iadd X dX9_undo_50 ?_
      obtain ⟨r_3, hr_3, h⟩ := bd_s h
      refine j_iald X 84 740 s_84 hr_3 dX9_undo_51 ?_
      obtain ⟨q_4, hq_4, h⟩ := bd_s h
      refine j_iast X 82 74 s_82 hq_4 dX9_undo_52 ?_
      refine j_iinc (v := x1 + 1) X [(1, .int (x1 + 1)), (0, .ref (w.1 81))] dX9_undo_53 1 rfl rfl (by decide) rfl ?_
      refine j_goto X 27 dX9_undo_56 (by decide) ?_
      refine j_pick [1, 0] rfl ?_
      exact ih (x1 + 1) q_4 h
set_option maxRecDepth 100000 in
set_option maxHeartbeats 4000000 in
theorem c_X9_undo (l : Launch) (w : WP) (G : Mem) {res : Int32 × Mem} (h0 : m_X9_undo G = some res) : CMi l yX9_undo cX9_undo 2 (some .int) 0 0 w [.ref (w.1 81)] G res := by
  refine CMi.of (by decide +kernel) (Nat.le_of_ble_eq_true rfl) ?_
  intro p e s m args below meth c X hr hk
  have h := bs_i h0
  unfold m_X9_undo at h
  show J p l e rm_X9_undo s m args below meth c (Qint below args s w res) w 2 G 0 [(0, .ref (w.1 81))] []
  refine j_aload_n X dX9_undo_0 rfl 0 rfl ?_
  refine j_iconst (v := 0) X dX9_undo_1 (by decide) ?_
  refine j_putI (C := RX9) (T := TX9) (N := 22) X tyX9 tyX9_ok nmX9 81 s_81 rfl hin_X9 0 (by decide) rfl q_862 rfl rfl dX9_undo_2 ?_
  refine j_aload_n X dX9_undo_5 rfl 0 rfl ?_
  refine j_getI (C := RX9) (T := TX9) (N := 22) X 81 s_81 rfl hin_X9 4 (by decide) rfl q_866 dX9_undo_6 ?_
  refine j_if_ne X 15 dX9_undo_9 (by decide) (fun c_1 => ?_) (fun c_1 => ?_)
  · have h := bi_f c_1 h
    refine j_aload_n X dX9_undo_15 rfl 0 rfl ?_
    refine j_dup X dX9_undo_16 rfl ?_
    refine j_getI (C := RX9) (T := TX9) (N := 22) X 81 s_81 rfl hin_X9 4 (by decide) rfl q_866 dX9_undo_17 ?_
    refine j_iconst (v := 1) X dX9_undo_20 (by decide) ?_
    refine j_isub X dX9_undo_21 ?_
    refine j_putI (C := RX9) (T := TX9) (N := 22) X tyX9 tyX9_ok nmX9 81 s_81 rfl hin_X9 4 (by decide) rfl q_866 rfl rfl dX9_undo_22 ?_
    refine j_iconst (v := 0) X dX9_undo_25 (by decide) ?_
    refine j_istore_n X [(1, .int 0), (0, .ref (w.1 81))] dX9_undo_26 rfl (by decide) rfl ?_
    have h := bb_a h
    have Hv_5 : ∀ v_5 : Mem, (some (v_5 81 4, v_5)).bind some = some res → J p l e rm_X9_undo s m args below meth c (Qint below args s w res) w 2 v_5 59 [(0, .ref (w.1 81))] [] := by
      intro v_5 h
      refine j_aload_n X dX9_undo_59 rfl 0 rfl ?_
      refine j_getI (C := RX9) (T := TX9) (N := 22) X 81 s_81 rfl hin_X9 4 (by decide) rfl q_866 dX9_undo_60 ?_
      exact j_iret X hr hk dX9_undo_63 (Option.some.inj h)
    refine j_pick [1, 0] rfl ?_
    exact jL_X9_undo_27 X hr hk Hv_5 NF 0 (upm (upm G 81 0 0) 81 4 (((upm G 81 0 0) 81 4) - 1)) h
  · have h := bi_t c_1 h
    refine j_bipush (v := (-2)) X dX9_undo_12 (by decide) ?_
    exact j_iret X hr hk dX9_undo_14 (Option.some.inj h)
abbrev rm_X9_unseen : Room := { frames := 4, cells := 0, slots := 0, locals := 100 }
theorem pn_X9_unseen : yX9_unseen.cls ≠ "java/lang/invoke/MethodHandle" ∧ yX9_unseen.cls ≠ "java/lang/invoke/VarHandle" ∧ (parseMethodDescriptor yX9_unseen.desc).map (fun d => d.parameters.length) = some 0 := by decide +kernel
def L_X9_unseen_24 (x2 : Int32) : Nat → Int32 → Int32 → Mem → Option (Int32 × Mem)
  | 0, _, _, _ => none
  | n + 1, x3, x4, G => (if (G 81 7) ≤ x4 then some (x3, G) else (if x3 = 0 then some (x3, G) else (m_X9_all G).bind (fun r_5 => (ald 6 G 87 x4).bind (fun r_6 => (ald 6 G 88 x4).bind (fun r_7 => (m_X9_knownBy G (r_5 &&& ((1 <<< (x2 &&& 31)) ^^^ (-1))) r_6 r_7).bind (fun q_8 => (ald 6 q_8.2 89 x4).bind (fun r_9 => ((if q_8.1 = r_9 then some (1, q_8.2) else some (0, q_8.2)) : Option (Int32 × Mem)).bind (fun (v_10 : Int32 × Mem) => L_X9_unseen_24 x2 n v_10.1 (x4 + 1) v_10.2))))))))
def L_X9_unseen_9 : Nat → Int32 → Int32 → Mem → Option (Int32 × Mem)
  | 0, _, _, _ => none
  | n + 1, x1, x2, G => (ald 74 G 82 1).bind (fun r_1 => (if r_1 ≤ x2 then some (x1, G) else (L_X9_unseen_24 x2 NF 1 0 G).bind (fun v_12 => ((if v_12.1 = 0 then some 0 else some (1 <<< (x2 &&& 31))) : Option (Int32)).bind (fun (v_13 : Int32) => L_X9_unseen_9  n (x1 ||| v_13) (x2 + 1) v_12.2))))
def m_X9_unseen (G : Mem) : Option (Int32 × Mem) := (L_X9_unseen_9  NF 0 0 (upm G 81 0 0)).bind (fun v_15 => some (v_15.1, v_15.2))
set_option maxRecDepth 100000 in
set_option maxHeartbeats 4000000 in
theorem jL_X9_unseen_24 {p : Program} {l : Launch} {e : Env} {s : State} {m : MethodId} {args : Array Value} {below : List Frame} {meth : Method} {c : Code} {w : WP} (X : fw_X p s m args c cX9_unseen 5 RX9 w) (hr : meth.sig.returnType = (some .int)) (hk : meth.locks = false) {x1 : Int32} {x2 : Int32} {res : Int32 × Mem} {K : Int32 × Mem → Option (Int32 × Mem)} (HK : ∀ v : Int32 × Mem, K v = some res → J p l e rm_X9_unseen s m args below meth c (Qint below args s w res) w 5 v.2 87 [(0, .ref (w.1 81)), (1, .int x1), (2, .int x2), (3, .int v.1)] []) : ∀ (n : Nat) (x3 : Int32) (x4 : Int32) (G : Mem), (L_X9_unseen_24 x2 n x3 x4 G).bind K = some res → J p l e rm_X9_unseen s m args below meth c (Qint below args s w res) w 5 G 24 [(0, .ref (w.1 81)), (1, .int x1), (2, .int x2), (3, .int x3), (4, .int x4)] [] := by
  intro n
  induction n with
  | zero =>
    intro x3 x4 G h
    rw [L_X9_unseen_24] at h
    cases h
  | succ n ih =>
    intro x3 x4 G h
    rw [L_X9_unseen_24] at h
    refine j_iload X dX9_unseen_24 4 rfl ?_
    refine j_aload_n X dX9_unseen_26 rfl 0 rfl ?_
    refine j_getI (C := RX9) (T := TX9) (N := 22) X 81 s_81 rfl hin_X9 7 (by decide) rfl q_869 dX9_unseen_27 ?_
    refine j_icmp_ge X 87 dX9_unseen_30 (by decide) (fun c_3 => ?_) (fun c_3 => ?_)
    · have h := bi_t c_3 h
      refine j_pick [0, 1, 2, 3] rfl ?_
      exact HK (x3, G) h
    · have h := bi_f c_3 h
      refine j_iload_n X dX9_unseen_33 rfl 3 rfl ?_
      refine j_if_eq X 87 dX9_unseen_34 (by decide) (fun c_4 => ?_) (fun c_4 => ?_)
      · have h := bi_t c_4 h
        refine j_pick [0, 1, 2, 3] rfl ?_
        exact HK (x3, G) h
      · have h := bi_f c_4 h
        refine j_aload_n X dX9_unseen_37 rfl 0 rfl ?_
        refine j_aload_n X dX9_unseen_38 rfl 0 rfl ?_
        obtain ⟨r_5, hr_5, h⟩ := bd_s h
        refine j_callVi (As := []) X 81 s_81 rfl (c_X9_all l w G   hr_5) rfl pn_X9_all q_995 q_997 q_39 q_68 q_998 ⟨Nat.le_of_ble_eq_true rfl, Nat.le_of_ble_eq_true rfl⟩ (Nat.le_of_ble_eq_true rfl) rfl dX9_unseen_39 ?_
        refine j_iconst (v := 1) X dX9_unseen_42 (by decide) ?_
        refine j_iload_n X dX9_unseen_43 rfl 2 rfl ?_
        refine j_ishl X dX9_unseen_44 ?_
        refine j_iconst (v := (-1)) X dX9_unseen_45 (by decide) ?_
        refine j_ixor X dX9_unseen_46 ?_
        refine j_iand X dX9_unseen_47 ?_
        refine j_aload_n X dX9_unseen_48 rfl 0 rfl ?_
        refine j_getR (C := RX9) (T := TX9) (N := 22) X 81 s_81 rfl hin_X9 8 (by decide) 87 rfl q_870 dX9_unseen_49 ?_
        refine j_iload X dX9_unseen_52 4 rfl ?_
        obtain ⟨r_6, hr_6, h⟩ := bd_s h
        refine j_iald X 87 6 s_87 hr_6 dX9_unseen_54 ?_
        refine j_aload_n X dX9_unseen_55 rfl 0 rfl ?_
        refine j_getR (C := RX9) (T := TX9) (N := 22) X 81 s_81 rfl hin_X9 9 (by decide) 88 rfl q_871 dX9_unseen_56 ?_
        refine j_iload X dX9_unseen_59 4 rfl ?_
        obtain ⟨r_7, hr_7, h⟩ := bd_s h
        refine j_iald X 88 6 s_88 hr_7 dX9_unseen_61 ?_
        obtain ⟨q_8, hq_8, h⟩ := bd_s h
        refine j_callVi (As := [.int (r_5 &&& ((1 <<< (x2 &&& 31)) ^^^ (-1))), .int r_6, .int r_7]) X 81 s_81 rfl (c_X9_knownBy l w G  (r_5 &&& ((1 <<< (x2 &&& 31)) ^^^ (-1))) r_6 r_7 hq_8) rfl pn_X9_knownBy q_1046 q_1048 q_49 q_68 q_1049 ⟨Nat.le_of_ble_eq_true rfl, Nat.le_of_ble_eq_true rfl⟩ (Nat.le_of_ble_eq_true rfl) rfl dX9_unseen_62 ?_
        refine j_aload_n X dX9_unseen_65 rfl 0 rfl ?_
        refine j_getR (C := RX9) (T := TX9) (N := 22) X 81 s_81 rfl hin_X9 10 (by decide) 89 rfl q_872 dX9_unseen_66 ?_
        refine j_iload X dX9_unseen_69 4 rfl ?_
        obtain ⟨r_9, hr_9, h⟩ := bd_s h
        refine j_iald X 89 6 s_89 hr_9 dX9_unseen_71 ?_
        have h := bb_a h
        have Hv_10 : ∀ v_10 : Int32 × Mem, (L_X9_unseen_24 x2 n v_10.1 (x4 + 1) v_10.2).bind K = some res → J p l e rm_X9_unseen s m args below meth c (Qint below args s w res) w 5 v_10.2 80 [(0, .ref (w.1 81)), (1, .int x1), (2, .int x2), (4, .int x4)] [.int v_10.1] := by
          intro v_10 h
          refine j_istore_n X [(3, .int v_10.1), (0, .ref (w.1 81)), (1, .int x1), (2, .int x2), (4, .int x4)] dX9_unseen_80 rfl (by decide) rfl ?_
          refine j_iinc (v := x4 + 1) X [(4, .int (x4 + 1)), (3, .int v_10.1), (0, .ref (w.1 81)), (1, .int x1), (2, .int x2)] dX9_unseen_81 4 rfl rfl (by decide) rfl ?_
          refine j_goto X 24 dX9_unseen_84 (by decide) ?_
          refine j_pick [2, 3, 4, 1, 0] rfl ?_
          exact ih v_10.1 (x4 + 1) v_10.2 h
        refine j_icmp_ne X 79 dX9_unseen_72 (by decide) (fun c_11 => ?_) (fun c_11 => ?_)
        · have h := bi_f c_11 h
          refine j_iconst (v := 0) X dX9_unseen_79 (by decide) ?_
          refine j_pick [0, 1, 2, 4] rfl ?_
          exact Hv_10 (0, q_8.2) h
        · have h := bi_t c_11 h
          refine j_iconst (v := 1) X dX9_unseen_75 (by decide) ?_
          refine j_goto X 80 dX9_unseen_76 (by decide) ?_
          refine j_pick [0, 1, 2, 4] rfl ?_
          exact Hv_10 (1, q_8.2) h
set_option maxRecDepth 100000 in
set_option maxHeartbeats 4000000 in
theorem jL_X9_unseen_9 {p : Program} {l : Launch} {e : Env} {s : State} {m : MethodId} {args : Array Value} {below : List Frame} {meth : Method} {c : Code} {w : WP} (X : fw_X p s m args c cX9_unseen 5 RX9 w) (hr : meth.sig.returnType = (some .int)) (hk : meth.locks = false) {res : Int32 × Mem} {K : Int32 × Mem → Option (Int32 × Mem)} (HK : ∀ v : Int32 × Mem, K v = some res → J p l e rm_X9_unseen s m args below meth c (Qint below args s w res) w 5 v.2 107 [(1, .int v.1)] []) : ∀ (n : Nat) (x1 : Int32) (x2 : Int32) (G : Mem), (L_X9_unseen_9  n x1 x2 G).bind K = some res → J p l e rm_X9_unseen s m args below meth c (Qint below args s w res) w 5 G 9 [(0, .ref (w.1 81)), (1, .int x1), (2, .int x2)] [] := by
  intro n
  induction n with
  | zero =>
    intro x1 x2 G h
    rw [L_X9_unseen_9] at h
    cases h
  | succ n ih =>
    intro x1 x2 G h
    rw [L_X9_unseen_9] at h
    refine j_iload_n X dX9_unseen_9 rfl 2 rfl ?_
    refine j_aload_n X dX9_unseen_10 rfl 0 rfl ?_
    refine j_getR (C := RX9) (T := TX9) (N := 22) X 81 s_81 rfl hin_X9 1 (by decide) 82 rfl q_863 dX9_unseen_11 ?_
    refine j_iconst (v := 1) X dX9_unseen_14 (by decide) ?_
    obtain ⟨r_1, hr_1, h⟩ := bd_s h
    refine j_iald X 82 74 s_82 hr_1 dX9_unseen_15 ?_
    refine j_icmp_ge X 107 dX9_unseen_16 (by decide) (fun c_2 => ?_) (fun c_2 => ?_)
    · have h := bi_t c_2 h
      refine j_pick [1] rfl ?_
      exact HK (x1, G) h
    · have h := bi_f c_2 h
      refine j_iconst (v := 1) X dX9_unseen_19 (by decide) ?_
      refine j_istore_n X [(3, .int 1), (0, .ref (w.1 81)), (1, .int x1), (2, .int x2)] dX9_unseen_20 rfl (by decide) rfl ?_
      refine j_iconst (v := 0) X dX9_unseen_21 (by decide) ?_
      refine j_istore X [(4, .int 0), (3, .int 1), (0, .ref (w.1 81)), (1, .int x1), (2, .int x2)] dX9_unseen_22 (by decide) rfl ?_
      have h := bb_a h
      have Hv_12 : ∀ v_12 : Int32 × Mem, (((if v_12.1 = 0 then some 0 else some (1 <<< (x2 &&& 31))) : Option (Int32)).bind (fun (v_13 : Int32) => L_X9_unseen_9  n (x1 ||| v_13) (x2 + 1) v_12.2)).bind K = some res → J p l e rm_X9_unseen s m args below meth c (Qint below args s w res) w 5 v_12.2 87 [(0, .ref (w.1 81)), (1, .int x1), (2, .int x2), (3, .int v_12.1)] [] := by
        intro v_12 h
        refine j_iload_n X dX9_unseen_87 rfl 1 rfl ?_
        refine j_iload_n X dX9_unseen_88 rfl 3 rfl ?_
        have h := bb_a h
        have Hv_13 : ∀ v_13 : Int32, (L_X9_unseen_9  n (x1 ||| v_13) (x2 + 1) v_12.2).bind K = some res → J p l e rm_X9_unseen s m args below meth c (Qint below args s w res) w 5 v_12.2 99 [(0, .ref (w.1 81)), (2, .int x2)] [.int v_13, .int x1] := by
          intro v_13 h
          refine j_ior X dX9_unseen_99 ?_
          refine j_istore_n X [(1, .int (x1 ||| v_13)), (0, .ref (w.1 81)), (2, .int x2)] dX9_unseen_100 rfl (by decide) rfl ?_
          refine j_iinc (v := x2 + 1) X [(2, .int (x2 + 1)), (1, .int (x1 ||| v_13)), (0, .ref (w.1 81))] dX9_unseen_101 2 rfl rfl (by decide) rfl ?_
          refine j_goto X 9 dX9_unseen_104 (by decide) ?_
          refine j_pick [2, 1, 0] rfl ?_
          exact ih (x1 ||| v_13) (x2 + 1) v_12.2 h
        refine j_if_eq X 98 dX9_unseen_89 (by decide) (fun c_14 => ?_) (fun c_14 => ?_)
        · have h := bi_t c_14 h
          refine j_iconst (v := 0) X dX9_unseen_98 (by decide) ?_
          refine j_pick [0, 2] rfl ?_
          exact Hv_13 0 h
        · have h := bi_f c_14 h
          refine j_iconst (v := 1) X dX9_unseen_92 (by decide) ?_
          refine j_iload_n X dX9_unseen_93 rfl 2 rfl ?_
          refine j_ishl X dX9_unseen_94 ?_
          refine j_goto X 99 dX9_unseen_95 (by decide) ?_
          refine j_pick [0, 2] rfl ?_
          exact Hv_13 (1 <<< (x2 &&& 31)) h
      refine j_pick [2, 3, 4, 1, 0] rfl ?_
      exact jL_X9_unseen_24 X hr hk Hv_12 NF 1 0 G h
set_option maxRecDepth 100000 in
set_option maxHeartbeats 4000000 in
theorem c_X9_unseen (l : Launch) (w : WP) (G : Mem) {res : Int32 × Mem} (h0 : m_X9_unseen G = some res) : CMi l yX9_unseen cX9_unseen 5 (some .int) 4 100 w [.ref (w.1 81)] G res := by
  refine CMi.of (by decide +kernel) (Nat.le_of_ble_eq_true rfl) ?_
  intro p e s m args below meth c X hr hk
  have h := bs_i h0
  unfold m_X9_unseen at h
  show J p l e rm_X9_unseen s m args below meth c (Qint below args s w res) w 5 G 0 [(0, .ref (w.1 81))] []
  refine j_aload_n X dX9_unseen_0 rfl 0 rfl ?_
  refine j_iconst (v := 0) X dX9_unseen_1 (by decide) ?_
  refine j_putI (C := RX9) (T := TX9) (N := 22) X tyX9 tyX9_ok nmX9 81 s_81 rfl hin_X9 0 (by decide) rfl q_862 rfl rfl dX9_unseen_2 ?_
  refine j_iconst (v := 0) X dX9_unseen_5 (by decide) ?_
  refine j_istore_n X [(1, .int 0), (0, .ref (w.1 81))] dX9_unseen_6 rfl (by decide) rfl ?_
  refine j_iconst (v := 0) X dX9_unseen_7 (by decide) ?_
  refine j_istore_n X [(2, .int 0), (1, .int 0), (0, .ref (w.1 81))] dX9_unseen_8 rfl (by decide) rfl ?_
  have h := bb_a h
  have Hv_15 : ∀ v_15 : Int32 × Mem, (some (v_15.1, v_15.2)).bind some = some res → J p l e rm_X9_unseen s m args below meth c (Qint below args s w res) w 5 v_15.2 107 [(1, .int v_15.1)] [] := by
    intro v_15 h
    refine j_iload_n X dX9_unseen_107 rfl 0 rfl ?_
    exact j_iret X hr hk dX9_unseen_108 (Option.some.inj h)
  refine j_pick [2, 1, 0] rfl ?_
  exact jL_X9_unseen_9 X hr hk Hv_15 NF 0 0 (upm G 81 0 0) h
abbrev rm_X9_would : Room := { frames := 4, cells := 0, slots := 0, locals := 100 }
theorem pn_X9_would : yX9_would.cls ≠ "java/lang/invoke/MethodHandle" ∧ yX9_would.cls ≠ "java/lang/invoke/VarHandle" ∧ (parseMethodDescriptor yX9_would.desc).map (fun d => d.parameters.length) = some 3 := by decide +kernel
def m_X9_would (G : Mem) (p1 : Int32) (p2 : Int32) (p3 : Int32) : Option (Int32 × Mem) := (m_X9_isSaid (upm G 81 0 0) p1).bind (fun r_1 => (if r_1 = 0 then some ((-1), upm G 81 0 0) else (m_X9_isSaid (upm G 81 0 0) p3).bind (fun r_3 => (if r_3 = 0 then some ((-1), upm G 81 0 0) else (if p1 = p3 then some ((-1), upm G 81 0 0) else (if (m_X9_in p2 0 1) = 0 then some ((-1), upm G 81 0 0) else (m_X9_all (upm G 81 0 0)).bind (fun r_7 => (m_X9_knownBy (upm G 81 0 0) r_7 p1 p3).bind (fun q_8 => (if q_8.1 = 4 then some (4, q_8.2) else (if q_8.1 = (1 + p2) then some (0, q_8.2) else (m_X9_all q_8.2).bind (fun r_11 => (m_X9_laysAll q_8.2 r_11 p1 p2 p3).bind (fun q_12 => (m_X9_isSound q_12).bind (fun q_13 => (if q_13.1 = 0 then some (2, q_13.2) else some (1, q_13.2)))))))))))))))
set_option maxRecDepth 100000 in
set_option maxHeartbeats 4000000 in
theorem c_X9_would (l : Launch) (w : WP) (G : Mem) (p1 : Int32) (p2 : Int32) (p3 : Int32) {res : Int32 × Mem} (h0 : m_X9_would G p1 p2 p3 = some res) : CMi l yX9_would cX9_would 5 (some .int) 4 100 w [.ref (w.1 81), .int p1, .int p2, .int p3] G res := by
  refine CMi.of (by decide +kernel) (Nat.le_of_ble_eq_true rfl) ?_
  intro p e s m args below meth c X hr hk
  have h := bs_i h0
  unfold m_X9_would at h
  show J p l e rm_X9_would s m args below meth c (Qint below args s w res) w 5 G 0 [(0, .ref (w.1 81)), (1, .int p1), (2, .int p2), (3, .int p3)] []
  refine j_aload_n X dX9_would_0 rfl 0 rfl ?_
  refine j_iconst (v := 0) X dX9_would_1 (by decide) ?_
  refine j_putI (C := RX9) (T := TX9) (N := 22) X tyX9 tyX9_ok nmX9 81 s_81 rfl hin_X9 0 (by decide) rfl q_862 rfl rfl dX9_would_2 ?_
  refine j_aload_n X dX9_would_5 rfl 0 rfl ?_
  refine j_iload_n X dX9_would_6 rfl 1 rfl ?_
  obtain ⟨r_1, hr_1, h⟩ := bd_s h
  refine j_callVi (As := [.int p1]) X 81 s_81 rfl (c_X9_isSaid l w (upm G 81 0 0)  p1 hr_1) rfl pn_X9_isSaid q_1062 q_1064 q_51 q_68 q_1065 ⟨Nat.le_of_ble_eq_true rfl, Nat.le_of_ble_eq_true rfl⟩ (Nat.le_of_ble_eq_true rfl) rfl dX9_would_7 ?_
  refine j_if_eq X 35 dX9_would_10 (by decide) (fun c_2 => ?_) (fun c_2 => ?_)
  · have h := bi_t c_2 h
    refine j_iconst (v := (-1)) X dX9_would_35 (by decide) ?_
    exact j_iret X hr hk dX9_would_36 (Option.some.inj h)
  · have h := bi_f c_2 h
    refine j_aload_n X dX9_would_13 rfl 0 rfl ?_
    refine j_iload_n X dX9_would_14 rfl 3 rfl ?_
    obtain ⟨r_3, hr_3, h⟩ := bd_s h
    refine j_callVi (As := [.int p3]) X 81 s_81 rfl (c_X9_isSaid l w (upm G 81 0 0)  p3 hr_3) rfl pn_X9_isSaid q_1062 q_1064 q_51 q_68 q_1065 ⟨Nat.le_of_ble_eq_true rfl, Nat.le_of_ble_eq_true rfl⟩ (Nat.le_of_ble_eq_true rfl) rfl dX9_would_15 ?_
    refine j_if_eq X 35 dX9_would_18 (by decide) (fun c_4 => ?_) (fun c_4 => ?_)
    · have h := bi_t c_4 h
      refine j_iconst (v := (-1)) X dX9_would_35 (by decide) ?_
      exact j_iret X hr hk dX9_would_36 (Option.some.inj h)
    · have h := bi_f c_4 h
      refine j_iload_n X dX9_would_21 rfl 1 rfl ?_
      refine j_iload_n X dX9_would_22 rfl 3 rfl ?_
      refine j_icmp_eq X 35 dX9_would_23 (by decide) (fun c_5 => ?_) (fun c_5 => ?_)
      · have h := bi_t c_5 h
        refine j_iconst (v := (-1)) X dX9_would_35 (by decide) ?_
        exact j_iret X hr hk dX9_would_36 (Option.some.inj h)
      · have h := bi_f c_5 h
        refine j_iload_n X dX9_would_26 rfl 2 rfl ?_
        refine j_iconst (v := 0) X dX9_would_27 (by decide) ?_
        refine j_iconst (v := 1) X dX9_would_28 (by decide) ?_
        refine j_callSi (As := [.int p2, .int 0, .int 1]) X (c_X9_in l w (upm G 81 0 0)  p2 0 1) pn_X9_in q_934 q_935 q_68 q_936 ⟨Nat.le_of_ble_eq_true rfl, Nat.le_of_ble_eq_true rfl⟩ (Nat.le_of_ble_eq_true rfl) rfl dX9_would_29 ?_
        refine j_if_ne X 37 dX9_would_32 (by decide) (fun c_6 => ?_) (fun c_6 => ?_)
        · have h := bi_f c_6 h
          refine j_aload_n X dX9_would_37 rfl 0 rfl ?_
          refine j_aload_n X dX9_would_38 rfl 0 rfl ?_
          obtain ⟨r_7, hr_7, h⟩ := bd_s h
          refine j_callVi (As := []) X 81 s_81 rfl (c_X9_all l w (upm G 81 0 0)   hr_7) rfl pn_X9_all q_995 q_997 q_39 q_68 q_998 ⟨Nat.le_of_ble_eq_true rfl, Nat.le_of_ble_eq_true rfl⟩ (Nat.le_of_ble_eq_true rfl) rfl dX9_would_39 ?_
          refine j_iload_n X dX9_would_42 rfl 1 rfl ?_
          refine j_iload_n X dX9_would_43 rfl 3 rfl ?_
          obtain ⟨q_8, hq_8, h⟩ := bd_s h
          refine j_callVi (As := [.int r_7, .int p1, .int p3]) X 81 s_81 rfl (c_X9_knownBy l w (upm G 81 0 0)  r_7 p1 p3 hq_8) rfl pn_X9_knownBy q_1046 q_1048 q_49 q_68 q_1049 ⟨Nat.le_of_ble_eq_true rfl, Nat.le_of_ble_eq_true rfl⟩ (Nat.le_of_ble_eq_true rfl) rfl dX9_would_44 ?_
          refine j_istore X [(4, .int q_8.1), (0, .ref (w.1 81)), (1, .int p1), (2, .int p2), (3, .int p3)] dX9_would_47 (by decide) rfl ?_
          refine j_iload X dX9_would_49 0 rfl ?_
          refine j_iconst (v := 4) X dX9_would_51 (by decide) ?_
          refine j_icmp_ne X 57 dX9_would_52 (by decide) (fun c_9 => ?_) (fun c_9 => ?_)
          · have h := bi_f c_9 h
            refine j_iload X dX9_would_57 0 rfl ?_
            refine j_iconst (v := 1) X dX9_would_59 (by decide) ?_
            refine j_iload_n X dX9_would_60 rfl 3 rfl ?_
            refine j_iadd X dX9_would_61 ?_
            refine j_icmp_ne X 67 dX9_would_62 (by decide) (fun c_10 => ?_) (fun c_10 => ?_)
            · have h := bi_f c_10 h
              refine j_aload_n X dX9_would_67 rfl 1 rfl ?_
              refine j_aload_n X dX9_would_68 rfl 1 rfl ?_
              obtain ⟨r_11, hr_11, h⟩ := bd_s h
              refine j_callVi (As := []) X 81 s_81 rfl (c_X9_all l w q_8.2   hr_11) rfl pn_X9_all q_995 q_997 q_39 q_68 q_998 ⟨Nat.le_of_ble_eq_true rfl, Nat.le_of_ble_eq_true rfl⟩ (Nat.le_of_ble_eq_true rfl) rfl dX9_would_69 ?_
              refine j_iload_n X dX9_would_72 rfl 2 rfl ?_
              refine j_iload_n X dX9_would_73 rfl 3 rfl ?_
              refine j_iload_n X dX9_would_74 rfl 4 rfl ?_
              obtain ⟨q_12, hq_12, h⟩ := bd_s h
              refine j_callVv (As := [.int r_11, .int p1, .int p2, .int p3]) X 81 s_81 rfl (c_X9_laysAll l w q_8.2  r_11 p1 p2 p3 hq_12) rfl pn_X9_laysAll q_999 q_1001 q_40 q_68 q_1002 ⟨Nat.le_of_ble_eq_true rfl, Nat.le_of_ble_eq_true rfl⟩ (Nat.le_of_ble_eq_true rfl) rfl dX9_would_75 ?_
              refine j_aload_n X dX9_would_78 rfl 1 rfl ?_
              obtain ⟨q_13, hq_13, h⟩ := bd_s h
              refine j_callVi (As := []) X 81 s_81 rfl (c_X9_isSound l w q_12   hq_13) rfl pn_X9_isSound q_1023 q_1025 q_46 q_68 q_1026 ⟨Nat.le_of_ble_eq_true rfl, Nat.le_of_ble_eq_true rfl⟩ (Nat.le_of_ble_eq_true rfl) rfl dX9_would_79 ?_
              refine j_if_eq X 89 dX9_would_82 (by decide) (fun c_14 => ?_) (fun c_14 => ?_)
              · have h := bi_t c_14 h
                refine j_iconst (v := 2) X dX9_would_89 (by decide) ?_
                exact j_iret X hr hk dX9_would_90 (Option.some.inj h)
              · have h := bi_f c_14 h
                refine j_iconst (v := 1) X dX9_would_85 (by decide) ?_
                refine j_goto X 90 dX9_would_86 (by decide) ?_
                exact j_iret X hr hk dX9_would_90 (Option.some.inj h)
            · have h := bi_t c_10 h
              refine j_iconst (v := 0) X dX9_would_65 (by decide) ?_
              exact j_iret X hr hk dX9_would_66 (Option.some.inj h)
          · have h := bi_t c_9 h
            refine j_iconst (v := 4) X dX9_would_55 (by decide) ?_
            exact j_iret X hr hk dX9_would_56 (Option.some.inj h)
        · have h := bi_t c_6 h
          refine j_iconst (v := (-1)) X dX9_would_35 (by decide) ?_
          exact j_iret X hr hk dX9_would_36 (Option.some.inj h)
