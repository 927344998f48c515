abbrev rm_X9_links : Room := { frames := 2, cells := 0, slots := 0, locals := 44 }
theorem pn_X9_links : yX9_links.cls ≠ "java/lang/invoke/MethodHandle" ∧ yX9_links.cls ≠ "java/lang/invoke/VarHandle" ∧ (parseMethodDescriptor yX9_links.desc).map (fun d => d.parameters.length) = some 2 := by decide +kernel
def m_X9_links (G : Mem) (p1 : Int32) (p2 : Int32) : Option (Int32 × Mem) := (m_X9_isClause (upm G 81 0 0) p1).bind (fun r_1 => (if r_1 = 0 then some ((-1), upm G 81 0 0) else (if p1 ≤ 0 then some ((-1), upm G 81 0 0) else (if (m_X9_in p2 0 3) = 0 then some ((-1), upm G 81 0 0) else (m_X9_becomes (upm G 81 0 0) ((2 + (2 * p1)) + 1) p2).bind (fun q_5 => some (q_5.1, q_5.2))))))
set_option maxRecDepth 100000 in
set_option maxHeartbeats 4000000 in
theorem c_X9_links (l : Launch) (w : WP) (G : Mem) (p1 : Int32) (p2 : Int32) {res : Int32 × Mem} (h0 : m_X9_links G p1 p2 = some res) : CMi l yX9_links cX9_links 3 (some .int) 2 44 w [.ref (w.1 81), .int p1, .int p2] G res := by
  refine CMi.of (by decide +kernel) (Nat.le_of_ble_eq_true rfl) ?_
  intro p e s m args below meth c X hr hk
  have h := bs_i h0
  unfold m_X9_links at h
  show J p l e rm_X9_links s m args below meth c (Qint below args s w res) w 3 G 0 [(0, .ref (w.1 81)), (1, .int p1), (2, .int p2)] []
  refine j_aload_n X dX9_links_0 rfl 0 rfl ?_
  refine j_iconst (v := 0) X dX9_links_1 (by decide) ?_
  refine j_putI (C := RX9) (T := TX9) (N := 22) X tyX9 tyX9_ok nmX9 81 s_81 rfl hin_X9 0 (by decide) rfl q_862 rfl rfl dX9_links_2 ?_
  refine j_aload_n X dX9_links_5 rfl 0 rfl ?_
  refine j_iload_n X dX9_links_6 rfl 1 rfl ?_
  obtain ⟨r_1, hr_1, h⟩ := bd_s h
  refine j_callVi (As := [.int p1]) X 81 s_81 rfl (c_X9_isClause l w (upm G 81 0 0)  p1 hr_1) rfl pn_X9_isClause q_975 q_977 q_36 q_68 q_978 ⟨Nat.le_of_ble_eq_true rfl, Nat.le_of_ble_eq_true rfl⟩ (Nat.le_of_ble_eq_true rfl) rfl dX9_links_7 ?_
  refine j_if_eq X 41 dX9_links_10 (by decide) (fun c_2 => ?_) (fun c_2 => ?_)
  · have h := bi_t c_2 h
    refine j_iconst (v := (-1)) X dX9_links_41 (by decide) ?_
    exact j_iret X hr hk dX9_links_42 (Option.some.inj h)
  · have h := bi_f c_2 h
    refine j_iload_n X dX9_links_13 rfl 1 rfl ?_
    refine j_if_le X 41 dX9_links_14 (by decide) (fun c_3 => ?_) (fun c_3 => ?_)
    · have h := bi_t c_3 h
      refine j_iconst (v := (-1)) X dX9_links_41 (by decide) ?_
      exact j_iret X hr hk dX9_links_42 (Option.some.inj h)
    · have h := bi_f c_3 h
      refine j_iload_n X dX9_links_17 rfl 2 rfl ?_
      refine j_iconst (v := 0) X dX9_links_18 (by decide) ?_
      refine j_iconst (v := 3) X dX9_links_19 (by decide) ?_
      refine j_callSi (As := [.int p2, .int 0, .int 3]) X (c_X9_in l w (upm G 81 0 0)  p2 0 3) pn_X9_in q_934 q_935 q_68 q_936 ⟨Nat.le_of_ble_eq_true rfl, Nat.le_of_ble_eq_true rfl⟩ (Nat.le_of_ble_eq_true rfl) rfl dX9_links_20 ?_
      refine j_if_eq X 41 dX9_links_23 (by decide) (fun c_4 => ?_) (fun c_4 => ?_)
      · have h := bi_t c_4 h
        refine j_iconst (v := (-1)) X dX9_links_41 (by decide) ?_
        exact j_iret X hr hk dX9_links_42 (Option.some.inj h)
      · have h := bi_f c_4 h
        refine j_aload_n X dX9_links_26 rfl 0 rfl ?_
        refine j_iconst (v := 2) X dX9_links_27 (by decide) ?_
        refine j_iconst (v := 2) X dX9_links_28 (by decide) ?_
        refine j_iload_n X dX9_links_29 rfl 1 rfl ?_
        refine j_imul X dX9_links_30 ?_
        refine j_iadd X dX9_links_31 ?_
        refine j_iconst (v := 1) X dX9_links_32 (by decide) ?_
        refine j_iadd X dX9_links_33 ?_
        refine j_iload_n X dX9_links_34 rfl 2 rfl ?_
        obtain ⟨q_5, hq_5, h⟩ := bd_s h
        refine j_callVi (As := [.int ((2 + (2 * p1)) + 1), .int p2]) X 81 s_81 rfl (c_X9_becomes l w (upm G 81 0 0)  ((2 + (2 * p1)) + 1) p2 hq_5) rfl pn_X9_becomes q_1110 q_1112 q_57 q_68 q_1113 ⟨Nat.le_of_ble_eq_true rfl, Nat.le_of_ble_eq_true rfl⟩ (Nat.le_of_ble_eq_true rfl) rfl dX9_links_35 ?_
        refine j_goto X 42 dX9_links_38 (by decide) ?_
        exact j_iret X hr hk dX9_links_42 (Option.some.inj h)
abbrev rm_X9_orders : Room := { frames := 4, cells := 0, slots := 0, locals := 104 }
theorem pn_X9_orders : yX9_orders.cls ≠ "java/lang/invoke/MethodHandle" ∧ yX9_orders.cls ≠ "java/lang/invoke/VarHandle" ∧ (parseMethodDescriptor yX9_orders.desc).map (fun d => d.parameters.length) = some 0 := by decide +kernel
def m_X9_orders (G : Mem) : Option (Int32 × Mem) := (m_X9_ordersWith (upm G 81 0 0) 0 (-9) 0).bind (fun q_1 => some (q_1.1, q_1.2))
set_option maxRecDepth 100000 in
set_option maxHeartbeats 4000000 in
theorem c_X9_orders (l : Launch) (w : WP) (G : Mem) {res : Int32 × Mem} (h0 : m_X9_orders G = some res) : CMi l yX9_orders cX9_orders 1 (some .int) 4 104 w [.ref (w.1 81)] G res := by
  refine CMi.of (by decide +kernel) (Nat.le_of_ble_eq_true rfl) ?_
  intro p e s m args below meth c X hr hk
  have h := bs_i h0
  unfold m_X9_orders at h
  show J p l e rm_X9_orders s m args below meth c (Qint below args s w res) w 1 G 0 [(0, .ref (w.1 81))] []
  refine j_aload_n X dX9_orders_0 rfl 0 rfl ?_
  refine j_iconst (v := 0) X dX9_orders_1 (by decide) ?_
  refine j_putI (C := RX9) (T := TX9) (N := 22) X tyX9 tyX9_ok nmX9 81 s_81 rfl hin_X9 0 (by decide) rfl q_862 rfl rfl dX9_orders_2 ?_
  refine j_aload_n X dX9_orders_5 rfl 0 rfl ?_
  refine j_iconst (v := 0) X dX9_orders_6 (by decide) ?_
  refine j_bipush (v := (-9)) X dX9_orders_7 (by decide) ?_
  refine j_iconst (v := 0) X dX9_orders_9 (by decide) ?_
  obtain ⟨q_1, hq_1, h⟩ := bd_s h
  refine j_callVi (As := [.int 0, .int (-9), .int 0]) X 81 s_81 rfl (c_X9_ordersWith l w (upm G 81 0 0)  0 (-9) 0 hq_1) rfl pn_X9_ordersWith q_1070 q_1072 q_52 q_68 q_1073 ⟨Nat.le_of_ble_eq_true rfl, Nat.le_of_ble_eq_true rfl⟩ (Nat.le_of_ble_eq_true rfl) rfl dX9_orders_10 ?_
  exact j_iret X hr hk dX9_orders_13 (Option.some.inj h)
abbrev rm_X9_timeOf : Room := { frames := 1, cells := 0, slots := 0, locals := 22 }
theorem pn_X9_timeOf : yX9_timeOf.cls ≠ "java/lang/invoke/MethodHandle" ∧ yX9_timeOf.cls ≠ "java/lang/invoke/VarHandle" ∧ (parseMethodDescriptor yX9_timeOf.desc).map (fun d => d.parameters.length) = some 1 := by decide +kernel
def m_X9_timeOf (G : Mem) (p1 : Int32) : Option (Int32) := (if p1 = 78 then some 0 else (ald 74 G 83 0).bind (fun r_2 => (if (m_X9_in p1 65 ((65 + r_2) - 1)) = 0 then some (-9) else some (2 + (2 * (p1 - 65))))))
set_option maxRecDepth 100000 in
set_option maxHeartbeats 4000000 in
theorem c_X9_timeOf (l : Launch) (w : WP) (G : Mem) (p1 : Int32) {res : Int32} (h0 : m_X9_timeOf G p1 = some res) : CMi l yX9_timeOf cX9_timeOf 2 (some .int) 1 22 w [.ref (w.1 81), .int p1] G (res, G) := by
  refine CMi.of (by decide +kernel) (Nat.le_of_ble_eq_true rfl) ?_
  intro p e s m args below meth c X hr hk
  have h := bs_i h0
  unfold m_X9_timeOf at h
  show J p l e rm_X9_timeOf s m args below meth c (Qint below args s w (res, G)) w 2 G 0 [(0, .ref (w.1 81)), (1, .int p1)] []
  refine j_iload_n X dX9_timeOf_0 rfl 1 rfl ?_
  refine j_bipush (v := 78) X dX9_timeOf_1 (by decide) ?_
  refine j_icmp_ne X 10 dX9_timeOf_3 (by decide) (fun c_1 => ?_) (fun c_1 => ?_)
  · have h := bi_f c_1 h
    refine j_iload_n X dX9_timeOf_10 rfl 1 rfl ?_
    refine j_bipush (v := 65) X dX9_timeOf_11 (by decide) ?_
    refine j_bipush (v := 65) X dX9_timeOf_13 (by decide) ?_
    refine j_aload_n X dX9_timeOf_15 rfl 0 rfl ?_
    refine j_getR (C := RX9) (T := TX9) (N := 22) X 81 s_81 rfl hin_X9 2 (by decide) 83 rfl q_864 dX9_timeOf_16 ?_
    refine j_iconst (v := 0) X dX9_timeOf_19 (by decide) ?_
    obtain ⟨r_2, hr_2, h⟩ := bd_s h
    refine j_iald X 83 74 s_83 hr_2 dX9_timeOf_20 ?_
    refine j_iadd X dX9_timeOf_21 ?_
    refine j_iconst (v := 1) X dX9_timeOf_22 (by decide) ?_
    refine j_isub X dX9_timeOf_23 ?_
    refine j_callSi (As := [.int p1, .int 65, .int ((65 + r_2) - 1)]) X (c_X9_in l w G  p1 65 ((65 + r_2) - 1)) pn_X9_in q_934 q_935 q_68 q_936 ⟨Nat.le_of_ble_eq_true rfl, Nat.le_of_ble_eq_true rfl⟩ (Nat.le_of_ble_eq_true rfl) rfl dX9_timeOf_24 ?_
    refine j_if_eq X 41 dX9_timeOf_27 (by decide) (fun c_3 => ?_) (fun c_3 => ?_)
    · have h := bi_t c_3 h
      refine j_bipush (v := (-9)) X dX9_timeOf_41 (by decide) ?_
      exact j_iret X hr hk dX9_timeOf_43 (congrArg (fun z => (z, G)) (Option.some.inj h))
    · have h := bi_f c_3 h
      refine j_iconst (v := 2) X dX9_timeOf_30 (by decide) ?_
      refine j_iconst (v := 2) X dX9_timeOf_31 (by decide) ?_
      refine j_iload_n X dX9_timeOf_32 rfl 1 rfl ?_
      refine j_bipush (v := 65) X dX9_timeOf_33 (by decide) ?_
      refine j_isub X dX9_timeOf_35 ?_
      refine j_imul X dX9_timeOf_36 ?_
      refine j_iadd X dX9_timeOf_37 ?_
      refine j_goto X 43 dX9_timeOf_38 (by decide) ?_
      exact j_iret X hr hk dX9_timeOf_43 (congrArg (fun z => (z, G)) (Option.some.inj h))
  · have h := bi_t c_1 h
    refine j_iconst (v := 0) X dX9_timeOf_6 (by decide) ?_
    refine j_goto X 43 dX9_timeOf_7 (by decide) ?_
    exact j_iret X hr hk dX9_timeOf_43 (congrArg (fun z => (z, G)) (Option.some.inj h))
abbrev rm_X9_readsSaying : Room := { frames := 2, cells := 0, slots := 0, locals := 43 }
theorem pn_X9_readsSaying : yX9_readsSaying.cls ≠ "java/lang/invoke/MethodHandle" ∧ yX9_readsSaying.cls ≠ "java/lang/invoke/VarHandle" ∧ (parseMethodDescriptor yX9_readsSaying.desc).map (fun d => d.parameters.length) = some 0 := by decide +kernel
def m_X9_readsSaying (G : Mem) : Option (Int32 × Mem) := (m_X9_here G).bind (fun q_1 => (m_X9_timeOf q_1.2 q_1.1).bind (fun r_2 => (if r_2 = (-9) then some (0, q_1.2) else (ald 74 q_1.2 83 1).bind (fun r_4 => (ald 74 q_1.2 83 0).bind (fun r_5 => (if (r_4 - r_5) = 6 then some (0, q_1.2) else (m_X9_here (upm q_1.2 81 13 ((q_1.2 81 13) + 1))).bind (fun q_7 => ((if q_7.1 = 60 then some (r_2, 0, q_7.2) else (m_X9_here q_7.2).bind (fun q_16 => (if q_16.1 = 61 then some (r_2, 1, q_16.2) else some (r_2, (-9), q_16.2)))) : Option (Int32 × Int32 × Mem)).bind (fun (v_8 : Int32 × Int32 × Mem) => (if v_8.2.1 = (-9) then some (0, v_8.2.2) else (m_X9_here (upm v_8.2.2 81 13 ((v_8.2.2 81 13) + 1))).bind (fun q_10 => (m_X9_timeOf q_10.2 q_10.1).bind (fun r_11 => (if r_11 = (-9) then some (0, q_10.2) else (if r_11 = v_8.1 then some (0, q_10.2) else (m_X9_adds (upm q_10.2 81 13 ((q_10.2 81 13) + 1)) (-9) v_8.1 v_8.2.1 r_11).bind (fun q_14 => some (1, q_14)))))))))))))))
set_option maxRecDepth 100000 in
set_option maxHeartbeats 4000000 in
theorem c_X9_readsSaying (l : Launch) (w : WP) (G : Mem) {res : Int32 × Mem} (h0 : m_X9_readsSaying G = some res) : CMi l yX9_readsSaying cX9_readsSaying 4 (some .boolean) 2 43 w [.ref (w.1 81)] G res := by
  refine CMi.of (by decide +kernel) (Nat.le_of_ble_eq_true rfl) ?_
  intro p e s m args below meth c X hr hk
  have h := bs_i h0
  unfold m_X9_readsSaying at h
  show J p l e rm_X9_readsSaying s m args below meth c (Qint below args s w res) w 4 G 0 [(0, .ref (w.1 81))] []
  refine j_aload_n X dX9_readsSaying_0 rfl 0 rfl ?_
  refine j_aload_n X dX9_readsSaying_1 rfl 0 rfl ?_
  obtain ⟨q_1, hq_1, h⟩ := bd_s h
  refine j_callVi (As := []) X 81 s_81 rfl (c_X9_here l w G   hq_1) rfl pn_X9_here q_945 q_947 q_31 q_68 q_948 ⟨Nat.le_of_ble_eq_true rfl, Nat.le_of_ble_eq_true rfl⟩ (Nat.le_of_ble_eq_true rfl) rfl dX9_readsSaying_2 ?_
  obtain ⟨r_2, hr_2, h⟩ := bd_s h
  refine j_callVi (As := [.int q_1.1]) X 81 s_81 rfl (c_X9_timeOf l w q_1.2  q_1.1 hr_2) rfl pn_X9_timeOf q_953 q_955 q_33 q_68 q_956 ⟨Nat.le_of_ble_eq_true rfl, Nat.le_of_ble_eq_true rfl⟩ (Nat.le_of_ble_eq_true rfl) rfl dX9_readsSaying_5 ?_
  refine j_istore_n X [(1, .int r_2), (0, .ref (w.1 81))] dX9_readsSaying_8 rfl (by decide) rfl ?_
  refine j_iload_n X dX9_readsSaying_9 rfl 0 rfl ?_
  refine j_bipush (v := (-9)) X dX9_readsSaying_10 (by decide) ?_
  refine j_icmp_eq X 33 dX9_readsSaying_12 (by decide) (fun c_3 => ?_) (fun c_3 => ?_)
  · have h := bi_t c_3 h
    refine j_iconst (v := 0) X dX9_readsSaying_33 (by decide) ?_
    exact j_zret X hr hk (by decide) dX9_readsSaying_34 (Option.some.inj h)
  · have h := bi_f c_3 h
    refine j_aload_n X dX9_readsSaying_15 rfl 1 rfl ?_
    refine j_getR (C := RX9) (T := TX9) (N := 22) X 81 s_81 rfl hin_X9 2 (by decide) 83 rfl q_864 dX9_readsSaying_16 ?_
    refine j_iconst (v := 1) X dX9_readsSaying_19 (by decide) ?_
    obtain ⟨r_4, hr_4, h⟩ := bd_s h
    refine j_iald X 83 74 s_83 hr_4 dX9_readsSaying_20 ?_
    refine j_aload_n X dX9_readsSaying_21 rfl 1 rfl ?_
    refine j_getR (C := RX9) (T := TX9) (N := 22) X 81 s_81 rfl hin_X9 2 (by decide) 83 rfl q_864 dX9_readsSaying_22 ?_
    refine j_iconst (v := 0) X dX9_readsSaying_25 (by decide) ?_
    obtain ⟨r_5, hr_5, h⟩ := bd_s h
    refine j_iald X 83 74 s_83 hr_5 dX9_readsSaying_26 ?_
    refine j_isub X dX9_readsSaying_27 ?_
    refine j_bipush (v := 6) X dX9_readsSaying_28 (by decide) ?_
    refine j_icmp_ne X 35 dX9_readsSaying_30 (by decide) (fun c_6 => ?_) (fun c_6 => ?_)
    · have h := bi_f c_6 h
      refine j_aload_n X dX9_readsSaying_35 rfl 1 rfl ?_
      refine j_dup X dX9_readsSaying_36 rfl ?_
      refine j_getI (C := RX9) (T := TX9) (N := 22) X 81 s_81 rfl hin_X9 13 (by decide) rfl q_875 dX9_readsSaying_37 ?_
      refine j_iconst (v := 1) X dX9_readsSaying_40 (by decide) ?_
      refine j_iadd X dX9_readsSaying_41 ?_
      refine j_putI (C := RX9) (T := TX9) (N := 22) X tyX9 tyX9_ok nmX9 81 s_81 rfl hin_X9 13 (by decide) rfl q_875 rfl rfl dX9_readsSaying_42 ?_
      refine j_aload_n X dX9_readsSaying_45 rfl 1 rfl ?_
      obtain ⟨q_7, hq_7, h⟩ := bd_s h
      refine j_callVi (As := []) X 81 s_81 rfl (c_X9_here l w (upm q_1.2 81 13 ((q_1.2 81 13) + 1))   hq_7) rfl pn_X9_here q_945 q_947 q_31 q_68 q_948 ⟨Nat.le_of_ble_eq_true rfl, Nat.le_of_ble_eq_true rfl⟩ (Nat.le_of_ble_eq_true rfl) rfl dX9_readsSaying_46 ?_
      refine j_bipush (v := 60) X dX9_readsSaying_49 (by decide) ?_
      have h := bb_a h
      have Hv_8 : ∀ v_8 : Int32 × Int32 × Mem, ((if v_8.2.1 = (-9) then some (0, v_8.2.2) else (m_X9_here (upm v_8.2.2 81 13 ((v_8.2.2 81 13) + 1))).bind (fun q_10 => (m_X9_timeOf q_10.2 q_10.1).bind (fun r_11 => (if r_11 = (-9) then some (0, q_10.2) else (if r_11 = v_8.1 then some (0, q_10.2) else (m_X9_adds (upm q_10.2 81 13 ((q_10.2 81 13) + 1)) (-9) v_8.1 v_8.2.1 r_11).bind (fun q_14 => some (1, q_14)))))))).bind some = some res → J p l e rm_X9_readsSaying s m args below meth c (Qint below args s w res) w 4 v_8.2.2 73 [(0, .ref (w.1 81)), (1, .int v_8.1)] [.int v_8.2.1] := by
        intro v_8 h
        refine j_istore_n X [(2, .int v_8.2.1), (0, .ref (w.1 81)), (1, .int v_8.1)] dX9_readsSaying_73 rfl (by decide) rfl ?_
        refine j_iload_n X dX9_readsSaying_74 rfl 0 rfl ?_
        refine j_bipush (v := (-9)) X dX9_readsSaying_75 (by decide) ?_
        refine j_icmp_ne X 82 dX9_readsSaying_77 (by decide) (fun c_9 => ?_) (fun c_9 => ?_)
        · have h := bi_f c_9 h
          refine j_aload_n X dX9_readsSaying_82 rfl 1 rfl ?_
          refine j_dup X dX9_readsSaying_83 rfl ?_
          refine j_getI (C := RX9) (T := TX9) (N := 22) X 81 s_81 rfl hin_X9 13 (by decide) rfl q_875 dX9_readsSaying_84 ?_
          refine j_iconst (v := 1) X dX9_readsSaying_87 (by decide) ?_
          refine j_iadd X dX9_readsSaying_88 ?_
          refine j_putI (C := RX9) (T := TX9) (N := 22) X tyX9 tyX9_ok nmX9 81 s_81 rfl hin_X9 13 (by decide) rfl q_875 rfl rfl dX9_readsSaying_89 ?_
          refine j_aload_n X dX9_readsSaying_92 rfl 1 rfl ?_
          refine j_aload_n X dX9_readsSaying_93 rfl 1 rfl ?_
          obtain ⟨q_10, hq_10, h⟩ := bd_s h
          refine j_callVi (As := []) X 81 s_81 rfl (c_X9_here l w (upm v_8.2.2 81 13 ((v_8.2.2 81 13) + 1))   hq_10) rfl pn_X9_here q_945 q_947 q_31 q_68 q_948 ⟨Nat.le_of_ble_eq_true rfl, Nat.le_of_ble_eq_true rfl⟩ (Nat.le_of_ble_eq_true rfl) rfl dX9_readsSaying_94 ?_
          obtain ⟨r_11, hr_11, h⟩ := bd_s h
          refine j_callVi (As := [.int q_10.1]) X 81 s_81 rfl (c_X9_timeOf l w q_10.2  q_10.1 hr_11) rfl pn_X9_timeOf q_953 q_955 q_33 q_68 q_956 ⟨Nat.le_of_ble_eq_true rfl, Nat.le_of_ble_eq_true rfl⟩ (Nat.le_of_ble_eq_true rfl) rfl dX9_readsSaying_97 ?_
          refine j_istore_n X [(3, .int r_11), (2, .int v_8.2.1), (0, .ref (w.1 81)), (1, .int v_8.1)] dX9_readsSaying_100 rfl (by decide) rfl ?_
          refine j_iload_n X dX9_readsSaying_101 rfl 0 rfl ?_
          refine j_bipush (v := (-9)) X dX9_readsSaying_102 (by decide) ?_
          refine j_icmp_eq X 112 dX9_readsSaying_104 (by decide) (fun c_12 => ?_) (fun c_12 => ?_)
          · have h := bi_t c_12 h
            refine j_iconst (v := 0) X dX9_readsSaying_112 (by decide) ?_
            exact j_zret X hr hk (by decide) dX9_readsSaying_113 (Option.some.inj h)
          · have h := bi_f c_12 h
            refine j_iload_n X dX9_readsSaying_107 rfl 0 rfl ?_
            refine j_iload_n X dX9_readsSaying_108 rfl 3 rfl ?_
            refine j_icmp_ne X 114 dX9_readsSaying_109 (by decide) (fun c_13 => ?_) (fun c_13 => ?_)
            · have h := bi_f c_13 h
              refine j_aload_n X dX9_readsSaying_114 rfl 2 rfl ?_
              refine j_dup X dX9_readsSaying_115 rfl ?_
              refine j_getI (C := RX9) (T := TX9) (N := 22) X 81 s_81 rfl hin_X9 13 (by decide) rfl q_875 dX9_readsSaying_116 ?_
              refine j_iconst (v := 1) X dX9_readsSaying_119 (by decide) ?_
              refine j_iadd X dX9_readsSaying_120 ?_
              refine j_putI (C := RX9) (T := TX9) (N := 22) X tyX9 tyX9_ok nmX9 81 s_81 rfl hin_X9 13 (by decide) rfl q_875 rfl rfl dX9_readsSaying_121 ?_
              refine j_aload_n X dX9_readsSaying_124 rfl 2 rfl ?_
              refine j_bipush (v := (-9)) X dX9_readsSaying_125 (by decide) ?_
              refine j_iload_n X dX9_readsSaying_127 rfl 3 rfl ?_
              refine j_iload_n X dX9_readsSaying_128 rfl 1 rfl ?_
              refine j_iload_n X dX9_readsSaying_129 rfl 0 rfl ?_
              obtain ⟨q_14, hq_14, h⟩ := bd_s h
              refine j_callVv (As := [.int (-9), .int v_8.1, .int v_8.2.1, .int r_11]) X 81 s_81 rfl (c_X9_adds l w (upm q_10.2 81 13 ((q_10.2 81 13) + 1))  (-9) v_8.1 v_8.2.1 r_11 hq_14) rfl pn_X9_adds q_957 q_959 q_34 q_68 q_960 ⟨Nat.le_of_ble_eq_true rfl, Nat.le_of_ble_eq_true rfl⟩ (Nat.le_of_ble_eq_true rfl) rfl dX9_readsSaying_130 ?_
              refine j_iconst (v := 1) X dX9_readsSaying_133 (by decide) ?_
              exact j_zret X hr hk (by decide) dX9_readsSaying_134 (Option.some.inj h)
            · have h := bi_t c_13 h
              refine j_iconst (v := 0) X dX9_readsSaying_112 (by decide) ?_
              exact j_zret X hr hk (by decide) dX9_readsSaying_113 (Option.some.inj h)
        · have h := bi_t c_9 h
          refine j_iconst (v := 0) X dX9_readsSaying_80 (by decide) ?_
          exact j_zret X hr hk (by decide) dX9_readsSaying_81 (Option.some.inj h)
      refine j_icmp_ne X 58 dX9_readsSaying_51 (by decide) (fun c_15 => ?_) (fun c_15 => ?_)
      · have h := bi_f c_15 h
        refine j_aload_n X dX9_readsSaying_58 rfl 1 rfl ?_
        obtain ⟨q_16, hq_16, h⟩ := bd_s h
        refine j_callVi (As := []) X 81 s_81 rfl (c_X9_here l w q_7.2   hq_16) rfl pn_X9_here q_945 q_947 q_31 q_68 q_948 ⟨Nat.le_of_ble_eq_true rfl, Nat.le_of_ble_eq_true rfl⟩ (Nat.le_of_ble_eq_true rfl) rfl dX9_readsSaying_59 ?_
        refine j_bipush (v := 61) X dX9_readsSaying_62 (by decide) ?_
        refine j_icmp_ne X 71 dX9_readsSaying_64 (by decide) (fun c_17 => ?_) (fun c_17 => ?_)
        · have h := bi_f c_17 h
          refine j_bipush (v := (-9)) X dX9_readsSaying_71 (by decide) ?_
          refine j_pick [1, 0] rfl ?_
          exact Hv_8 (r_2, (-9), q_16.2) h
        · have h := bi_t c_17 h
          refine j_iconst (v := 1) X dX9_readsSaying_67 (by decide) ?_
          refine j_goto X 73 dX9_readsSaying_68 (by decide) ?_
          refine j_pick [1, 0] rfl ?_
          exact Hv_8 (r_2, 1, q_16.2) h
      · have h := bi_t c_15 h
        refine j_iconst (v := 0) X dX9_readsSaying_54 (by decide) ?_
        refine j_goto X 73 dX9_readsSaying_55 (by decide) ?_
        refine j_pick [1, 0] rfl ?_
        exact Hv_8 (r_2, 0, q_7.2) h
    · have h := bi_t c_6 h
      refine j_iconst (v := 0) X dX9_readsSaying_33 (by decide) ?_
      exact j_zret X hr hk (by decide) dX9_readsSaying_34 (Option.some.inj h)
abbrev rm_X9_tenseOf : Room := { frames := 0, cells := 0, slots := 0, locals := 0 }
theorem pn_X9_tenseOf : yX9_tenseOf.cls ≠ "java/lang/invoke/MethodHandle" ∧ yX9_tenseOf.cls ≠ "java/lang/invoke/VarHandle" ∧ (parseMethodDescriptor yX9_tenseOf.desc).map (fun d => d.parameters.length) = some 1 := by decide +kernel
def m_X9_tenseOf (p1 : Int32) : Int32 := (if p1 = 100 then 0 else (if p1 = 101 then (-9) else (if p1 = 102 then 6 else (if p1 = 103 then 5 else (if p1 = 104 then 1 else (if p1 = 105 then (-9) else (if p1 = 106 then (-9) else (if p1 = 107 then (-9) else (if p1 = 108 then (-9) else (if p1 = 109 then (-9) else (if p1 = 110 then (-9) else (if p1 = 111 then (-9) else (if p1 = 112 then 3 else (if p1 = 113 then (-9) else (if p1 = 114 then (-9) else (if p1 = 115 then (-9) else (if p1 = 116 then (-9) else (if p1 = 117 then 7 else (if p1 = 118 then 4 else (if p1 = 119 then 2 else (-9)))))))))))))))))))))
set_option maxRecDepth 100000 in
set_option maxHeartbeats 4000000 in
theorem c_X9_tenseOf (l : Launch) (w : WP) (G : Mem) (p1 : Int32) : CMi l yX9_tenseOf cX9_tenseOf 1 (some .int) 0 0 w [.int p1] G (m_X9_tenseOf p1, G) := by
  refine CMi.of (by decide +kernel) (Nat.le_of_ble_eq_true rfl) ?_
  intro p e s m args below meth c X hr hk
  obtain ⟨res, h⟩ : ∃ z, m_X9_tenseOf p1 = z := ⟨_, rfl⟩
  rw [h]
  unfold m_X9_tenseOf at h
  show J p l e rm_X9_tenseOf s m args below meth c (Qint below args s w (res, G)) w 1 G 0 [(0, .int p1)] []
  refine j_iload_n X dX9_tenseOf_0 rfl 0 rfl ?_
  by_cases c_1 : p1 = 100
  · have h := pi_t c_1 h
    refine j_tabAt (v := 100) X 96 dX9_tenseOf_1 c_1 (by decide) (by decide) rfl (by decide) ?_
    refine j_iconst (v := 0) X dX9_tenseOf_96 (by decide) ?_
    exact j_iret X hr hk dX9_tenseOf_97 (congrArg (fun z => (z, G)) (h))
  have h := pi_f c_1 h
  by_cases c_2 : p1 = 101
  · have h := pi_t c_2 h
    refine j_tabAt (v := 101) X 114 dX9_tenseOf_1 c_2 (by decide) (by decide) rfl (by decide) ?_
    refine j_bipush (v := (-9)) X dX9_tenseOf_114 (by decide) ?_
    exact j_iret X hr hk dX9_tenseOf_116 (congrArg (fun z => (z, G)) (h))
  have h := pi_f c_2 h
  by_cases c_3 : p1 = 102
  · have h := pi_t c_3 h
    refine j_tabAt (v := 102) X 108 dX9_tenseOf_1 c_3 (by decide) (by decide) rfl (by decide) ?_
    refine j_bipush (v := 6) X dX9_tenseOf_108 (by decide) ?_
    exact j_iret X hr hk dX9_tenseOf_110 (congrArg (fun z => (z, G)) (h))
  have h := pi_f c_3 h
  by_cases c_4 : p1 = 103
  · have h := pi_t c_4 h
    refine j_tabAt (v := 103) X 106 dX9_tenseOf_1 c_4 (by decide) (by decide) rfl (by decide) ?_
    refine j_iconst (v := 5) X dX9_tenseOf_106 (by decide) ?_
    exact j_iret X hr hk dX9_tenseOf_107 (congrArg (fun z => (z, G)) (h))
  have h := pi_f c_4 h
  by_cases c_5 : p1 = 104
  · have h := pi_t c_5 h
    refine j_tabAt (v := 104) X 98 dX9_tenseOf_1 c_5 (by decide) (by decide) rfl (by decide) ?_
    refine j_iconst (v := 1) X dX9_tenseOf_98 (by decide) ?_
    exact j_iret X hr hk dX9_tenseOf_99 (congrArg (fun z => (z, G)) (h))
  have h := pi_f c_5 h
  by_cases c_6 : p1 = 105
  · have h := pi_t c_6 h
    refine j_tabAt (v := 105) X 114 dX9_tenseOf_1 c_6 (by decide) (by decide) rfl (by decide) ?_
    refine j_bipush (v := (-9)) X dX9_tenseOf_114 (by decide) ?_
    exact j_iret X hr hk dX9_tenseOf_116 (congrArg (fun z => (z, G)) (h))
  have h := pi_f c_6 h
  by_cases c_7 : p1 = 106
  · have h := pi_t c_7 h
    refine j_tabAt (v := 106) X 114 dX9_tenseOf_1 c_7 (by decide) (by decide) rfl (by decide) ?_
    refine j_bipush (v := (-9)) X dX9_tenseOf_114 (by decide) ?_
    exact j_iret X hr hk dX9_tenseOf_116 (congrArg (fun z => (z, G)) (h))
  have h := pi_f c_7 h
  by_cases c_8 : p1 = 107
  · have h := pi_t c_8 h
    refine j_tabAt (v := 107) X 114 dX9_tenseOf_1 c_8 (by decide) (by decide) rfl (by decide) ?_
    refine j_bipush (v := (-9)) X dX9_tenseOf_114 (by decide) ?_
    exact j_iret X hr hk dX9_tenseOf_116 (congrArg (fun z => (z, G)) (h))
  have h := pi_f c_8 h
  by_cases c_9 : p1 = 108
  · have h := pi_t c_9 h
    refine j_tabAt (v := 108) X 114 dX9_tenseOf_1 c_9 (by decide) (by decide) rfl (by decide) ?_
    refine j_bipush (v := (-9)) X dX9_tenseOf_114 (by decide) ?_
    exact j_iret X hr hk dX9_tenseOf_116 (congrArg (fun z => (z, G)) (h))
  have h := pi_f c_9 h
  by_cases c_10 : p1 = 109
  · have h := pi_t c_10 h
    refine j_tabAt (v := 109) X 114 dX9_tenseOf_1 c_10 (by decide) (by decide) rfl (by decide) ?_
    refine j_bipush (v := (-9)) X dX9_tenseOf_114 (by decide) ?_
    exact j_iret X hr hk dX9_tenseOf_116 (congrArg (fun z => (z, G)) (h))
  have h := pi_f c_10 h
  by_cases c_11 : p1 = 110
  · have h := pi_t c_11 h
    refine j_tabAt (v := 110) X 114 dX9_tenseOf_1 c_11 (by decide) (by decide) rfl (by decide) ?_
    refine j_bipush (v := (-9)) X dX9_tenseOf_114 (by decide) ?_
    exact j_iret X hr hk dX9_tenseOf_116 (congrArg (fun z => (z, G)) (h))
  have h := pi_f c_11 h
  by_cases c_12 : p1 = 111
  · have h := pi_t c_12 h
    refine j_tabAt (v := 111) X 114 dX9_tenseOf_1 c_12 (by decide) (by decide) rfl (by decide) ?_
    refine j_bipush (v := (-9)) X dX9_tenseOf_114 (by decide) ?_
    exact j_iret X hr hk dX9_tenseOf_116 (congrArg (fun z => (z, G)) (h))
  have h := pi_f c_12 h
  by_cases c_13 : p1 = 112
  · have h := pi_t c_13 h
    refine j_tabAt (v := 112) X 102 dX9_tenseOf_1 c_13 (by decide) (by decide) rfl (by decide) ?_
    refine j_iconst (v := 3) X dX9_tenseOf_102 (by decide) ?_
    exact j_iret X hr hk dX9_tenseOf_103 (congrArg (fun z => (z, G)) (h))
  have h := pi_f c_13 h
  by_cases c_14 : p1 = 113
  · have h := pi_t c_14 h
    refine j_tabAt (v := 113) X 114 dX9_tenseOf_1 c_14 (by decide) (by decide) rfl (by decide) ?_
    refine j_bipush (v := (-9)) X dX9_tenseOf_114 (by decide) ?_
    exact j_iret X hr hk dX9_tenseOf_116 (congrArg (fun z => (z, G)) (h))
  have h := pi_f c_14 h
  by_cases c_15 : p1 = 114
  · have h := pi_t c_15 h
    refine j_tabAt (v := 114) X 114 dX9_tenseOf_1 c_15 (by decide) (by decide) rfl (by decide) ?_
    refine j_bipush (v := (-9)) X dX9_tenseOf_114 (by decide) ?_
    exact j_iret X hr hk dX9_tenseOf_116 (congrArg (fun z => (z, G)) (h))
  have h := pi_f c_15 h
  by_cases c_16 : p1 = 115
  · have h := pi_t c_16 h
    refine j_tabAt (v := 115) X 114 dX9_tenseOf_1 c_16 (by decide) (by decide) rfl (by decide) ?_
    refine j_bipush (v := (-9)) X dX9_tenseOf_114 (by decide) ?_
    exact j_iret X hr hk dX9_tenseOf_116 (congrArg (fun z => (z, G)) (h))
  have h := pi_f c_16 h
  by_cases c_17 : p1 = 116
  · have h := pi_t c_17 h
    refine j_tabAt (v := 116) X 114 dX9_tenseOf_1 c_17 (by decide) (by decide) rfl (by decide) ?_
    refine j_bipush (v := (-9)) X dX9_tenseOf_114 (by decide) ?_
    exact j_iret X hr hk dX9_tenseOf_116 (congrArg (fun z => (z, G)) (h))
  have h := pi_f c_17 h
  by_cases c_18 : p1 = 117
  · have h := pi_t c_18 h
    refine j_tabAt (v := 117) X 111 dX9_tenseOf_1 c_18 (by decide) (by decide) rfl (by decide) ?_
    refine j_bipush (v := 7) X dX9_tenseOf_111 (by decide) ?_
    exact j_iret X hr hk dX9_tenseOf_113 (congrArg (fun z => (z, G)) (h))
  have h := pi_f c_18 h
  by_cases c_19 : p1 = 118
  · have h := pi_t c_19 h
    refine j_tabAt (v := 118) X 104 dX9_tenseOf_1 c_19 (by decide) (by decide) rfl (by decide) ?_
    refine j_iconst (v := 4) X dX9_tenseOf_104 (by decide) ?_
    exact j_iret X hr hk dX9_tenseOf_105 (congrArg (fun z => (z, G)) (h))
  have h := pi_f c_19 h
  by_cases c_20 : p1 = 119
  · have h := pi_t c_20 h
    refine j_tabAt (v := 119) X 100 dX9_tenseOf_1 c_20 (by decide) (by decide) rfl (by decide) ?_
    refine j_iconst (v := 2) X dX9_tenseOf_100 (by decide) ?_
    exact j_iret X hr hk dX9_tenseOf_101 (congrArg (fun z => (z, G)) (h))
  have h := pi_f c_20 h
  refine j_tabOut X 114 dX9_tenseOf_1 (by have z0 := lv_neT (a := 100) c_1 (by decide); have z1 := lv_neT (a := 101) c_2 (by decide); have z2 := lv_neT (a := 102) c_3 (by decide); have z3 := lv_neT (a := 103) c_4 (by decide); have z4 := lv_neT (a := 104) c_5 (by decide); have z5 := lv_neT (a := 105) c_6 (by decide); have z6 := lv_neT (a := 106) c_7 (by decide); have z7 := lv_neT (a := 107) c_8 (by decide); have z8 := lv_neT (a := 108) c_9 (by decide); have z9 := lv_neT (a := 109) c_10 (by decide); have z10 := lv_neT (a := 110) c_11 (by decide); have z11 := lv_neT (a := 111) c_12 (by decide); have z12 := lv_neT (a := 112) c_13 (by decide); have z13 := lv_neT (a := 113) c_14 (by decide); have z14 := lv_neT (a := 114) c_15 (by decide); have z15 := lv_neT (a := 115) c_16 (by decide); have z16 := lv_neT (a := 116) c_17 (by decide); have z17 := lv_neT (a := 117) c_18 (by decide); have z18 := lv_neT (a := 118) c_19 (by decide); have z19 := lv_neT (a := 119) c_20 (by decide); omega) (by decide) ?_
  refine j_bipush (v := (-9)) X dX9_tenseOf_114 (by decide) ?_
  exact j_iret X hr hk dX9_tenseOf_116 (congrArg (fun z => (z, G)) (h))
abbrev rm_X9_readsClause : Room := { frames := 1, cells := 0, slots := 0, locals := 25 }
theorem pn_X9_readsClause : yX9_readsClause.cls ≠ "java/lang/invoke/MethodHandle" ∧ yX9_readsClause.cls ≠ "java/lang/invoke/VarHandle" ∧ (parseMethodDescriptor yX9_readsClause.desc).map (fun d => d.parameters.length) = some 0 := by decide +kernel
def m_X9_readsClause (G : Mem) : Option (Int32 × Mem) := (ald 74 G 83 0).bind (fun r_1 => (if r_1 ≤ 0 then (m_X9_here G).bind (fun q_3 => (if (m_X9_tenseOf q_3.1) = (-9) then some (0, q_3.2) else (ast 74 (upm q_3.2 81 13 ((q_3.2 81 13) + 1)) 83 (2 + (2 * r_1)) (m_X9_tenseOf q_3.1)).bind (fun q_5 => (ast 74 q_5 83 ((2 + (2 * r_1)) + 1) (-9)).bind (fun q_6 => (m_X9_adds q_6 r_1 (-9) (-9) (-9)).bind (fun q_7 => (ald 74 q_7 83 0).bind (fun r_8 => (ast 74 q_7 83 0 (r_8 + 1)).bind (fun q_9 => some (1, q_9)))))))) else (m_X9_here G).bind (fun q_10 => (if (m_X9_linkOf q_10.1) = (-9) then some (0, q_10.2) else (if r_1 = 8 then some (0, q_10.2) else (m_X9_here (upm q_10.2 81 13 ((q_10.2 81 13) + 1))).bind (fun q_13 => (if (m_X9_tenseOf q_13.1) = (-9) then some (0, q_13.2) else (ast 74 (upm q_13.2 81 13 ((q_13.2 81 13) + 1)) 83 (2 + (2 * r_1)) (m_X9_tenseOf q_13.1)).bind (fun q_15 => (ast 74 q_15 83 ((2 + (2 * r_1)) + 1) (m_X9_linkOf q_10.1)).bind (fun q_16 => (m_X9_adds q_16 r_1 (-9) (-9) (-9)).bind (fun q_17 => (ald 74 q_17 83 0).bind (fun r_18 => (ast 74 q_17 83 0 (r_18 + 1)).bind (fun q_19 => some (1, q_19)))))))))))))
set_option maxRecDepth 100000 in
set_option maxHeartbeats 4000000 in
theorem c_X9_readsClause (l : Launch) (w : WP) (G : Mem) {res : Int32 × Mem} (h0 : m_X9_readsClause G = some res) : CMi l yX9_readsClause cX9_readsClause 4 (some .boolean) 1 25 w [.ref (w.1 81)] G res := by
  refine CMi.of (by decide +kernel) (Nat.le_of_ble_eq_true rfl) ?_
  intro p e s m args below meth c X hr hk
  have h := bs_i h0
  unfold m_X9_readsClause at h
  show J p l e rm_X9_readsClause s m args below meth c (Qint below args s w res) w 4 G 0 [(0, .ref (w.1 81))] []
  refine j_aload_n X dX9_readsClause_0 rfl 0 rfl ?_
  refine j_getR (C := RX9) (T := TX9) (N := 22) X 81 s_81 rfl hin_X9 2 (by decide) 83 rfl q_864 dX9_readsClause_1 ?_
  refine j_iconst (v := 0) X dX9_readsClause_4 (by decide) ?_
  obtain ⟨r_1, hr_1, h⟩ := bd_s h
  refine j_iald X 83 74 s_83 hr_1 dX9_readsClause_5 ?_
  refine j_istore_n X [(1, .int r_1), (0, .ref (w.1 81))] dX9_readsClause_6 rfl (by decide) rfl ?_
  refine j_bipush (v := (-9)) X dX9_readsClause_7 (by decide) ?_
  refine j_istore_n X [(2, .int (-9)), (1, .int r_1), (0, .ref (w.1 81))] dX9_readsClause_9 rfl (by decide) rfl ?_
  refine j_iload_n X dX9_readsClause_10 rfl 1 rfl ?_
  refine j_if_le X 46 dX9_readsClause_11 (by decide) (fun c_2 => ?_) (fun c_2 => ?_)
  · have h := bi_t c_2 h
    refine j_aload_n X dX9_readsClause_46 rfl 2 rfl ?_
    obtain ⟨q_3, hq_3, h⟩ := bd_s h
    refine j_callVi (As := []) X 81 s_81 rfl (c_X9_here l w G   hq_3) rfl pn_X9_here q_945 q_947 q_31 q_68 q_948 ⟨Nat.le_of_ble_eq_true rfl, Nat.le_of_ble_eq_true rfl⟩ (Nat.le_of_ble_eq_true rfl) rfl dX9_readsClause_47 ?_
    refine j_callSi (As := [.int q_3.1]) X (c_X9_tenseOf l w q_3.2  q_3.1) pn_X9_tenseOf q_968 q_969 q_68 q_970 ⟨Nat.le_of_ble_eq_true rfl, Nat.le_of_ble_eq_true rfl⟩ (Nat.le_of_ble_eq_true rfl) rfl dX9_readsClause_50 ?_
    refine j_istore_n X [(3, .int (m_X9_tenseOf q_3.1)), (2, .int (-9)), (1, .int r_1), (0, .ref (w.1 81))] dX9_readsClause_53 rfl (by decide) rfl ?_
    refine j_iload_n X dX9_readsClause_54 rfl 0 rfl ?_
    refine j_bipush (v := (-9)) X dX9_readsClause_55 (by decide) ?_
    refine j_icmp_ne X 62 dX9_readsClause_57 (by decide) (fun c_4 => ?_) (fun c_4 => ?_)
    · have h := bi_f c_4 h
      refine j_aload_n X dX9_readsClause_62 rfl 3 rfl ?_
      refine j_dup X dX9_readsClause_63 rfl ?_
      refine j_getI (C := RX9) (T := TX9) (N := 22) X 81 s_81 rfl hin_X9 13 (by decide) rfl q_875 dX9_readsClause_64 ?_
      refine j_iconst (v := 1) X dX9_readsClause_67 (by decide) ?_
      refine j_iadd X dX9_readsClause_68 ?_
      refine j_putI (C := RX9) (T := TX9) (N := 22) X tyX9 tyX9_ok nmX9 81 s_81 rfl hin_X9 13 (by decide) rfl q_875 rfl rfl dX9_readsClause_69 ?_
      refine j_aload_n X dX9_readsClause_72 rfl 3 rfl ?_
      refine j_getR (C := RX9) (T := TX9) (N := 22) X 81 s_81 rfl hin_X9 2 (by decide) 83 rfl q_864 dX9_readsClause_73 ?_
      refine j_iconst (v := 2) X dX9_readsClause_76 (by decide) ?_
      refine j_iconst (v := 2) X dX9_readsClause_77 (by decide) ?_
      refine j_iload_n X dX9_readsClause_78 rfl 2 rfl ?_
      refine j_imul X dX9_readsClause_79 ?_
      refine j_iadd X dX9_readsClause_80 ?_
      refine j_iload_n X dX9_readsClause_81 rfl 0 rfl ?_
      obtain ⟨q_5, hq_5, h⟩ := bd_s h
      refine j_iast X 83 74 s_83 hq_5 dX9_readsClause_82 ?_
      refine j_aload_n X dX9_readsClause_83 rfl 3 rfl ?_
      refine j_getR (C := RX9) (T := TX9) (N := 22) X 81 s_81 rfl hin_X9 2 (by decide) 83 rfl q_864 dX9_readsClause_84 ?_
      refine j_iconst (v := 2) X dX9_readsClause_87 (by decide) ?_
      refine j_iconst (v := 2) X dX9_readsClause_88 (by decide) ?_
      refine j_iload_n X dX9_readsClause_89 rfl 2 rfl ?_
      refine j_imul X dX9_readsClause_90 ?_
      refine j_iadd X dX9_readsClause_91 ?_
      refine j_iconst (v := 1) X dX9_readsClause_92 (by decide) ?_
      refine j_iadd X dX9_readsClause_93 ?_
      refine j_iload_n X dX9_readsClause_94 rfl 1 rfl ?_
      obtain ⟨q_6, hq_6, h⟩ := bd_s h
      refine j_iast X 83 74 s_83 hq_6 dX9_readsClause_95 ?_
      refine j_aload_n X dX9_readsClause_96 rfl 3 rfl ?_
      refine j_iload_n X dX9_readsClause_97 rfl 2 rfl ?_
      refine j_bipush (v := (-9)) X dX9_readsClause_98 (by decide) ?_
      refine j_bipush (v := (-9)) X dX9_readsClause_100 (by decide) ?_
      refine j_bipush (v := (-9)) X dX9_readsClause_102 (by decide) ?_
      obtain ⟨q_7, hq_7, h⟩ := bd_s h
      refine j_callVv (As := [.int r_1, .int (-9), .int (-9), .int (-9)]) X 81 s_81 rfl (c_X9_adds l w q_6  r_1 (-9) (-9) (-9) hq_7) rfl pn_X9_adds q_957 q_959 q_34 q_68 q_960 ⟨Nat.le_of_ble_eq_true rfl, Nat.le_of_ble_eq_true rfl⟩ (Nat.le_of_ble_eq_true rfl) rfl dX9_readsClause_104 ?_
      refine j_aload_n X dX9_readsClause_107 rfl 3 rfl ?_
      refine j_getR (C := RX9) (T := TX9) (N := 22) X 81 s_81 rfl hin_X9 2 (by decide) 83 rfl q_864 dX9_readsClause_108 ?_
      refine j_iconst (v := 0) X dX9_readsClause_111 (by decide) ?_
      refine j_dup2 X dX9_readsClause_112 rfl rfl ?_
      obtain ⟨r_8, hr_8, h⟩ := bd_s h
      refine j_iald X 83 74 s_83 hr_8 dX9_readsClause_113 ?_
      refine j_iconst (v := 1) X dX9_readsClause_114 (by decide) ?_
      refine j_iadd X dX9_readsClause_115 ?_
      obtain ⟨q_9, hq_9, h⟩ := bd_s h
      refine j_iast X 83 74 s_83 hq_9 dX9_readsClause_116 ?_
      refine j_iconst (v := 1) X dX9_readsClause_117 (by decide) ?_
      exact j_zret X hr hk (by decide) dX9_readsClause_118 (Option.some.inj h)
    · have h := bi_t c_4 h
      refine j_iconst (v := 0) X dX9_readsClause_60 (by decide) ?_
      exact j_zret X hr hk (by decide) dX9_readsClause_61 (Option.some.inj h)
  · have h := bi_f c_2 h
    refine j_aload_n X dX9_readsClause_14 rfl 2 rfl ?_
    obtain ⟨q_10, hq_10, h⟩ := bd_s h
    refine j_callVi (As := []) X 81 s_81 rfl (c_X9_here l w G   hq_10) rfl pn_X9_here q_945 q_947 q_31 q_68 q_948 ⟨Nat.le_of_ble_eq_true rfl, Nat.le_of_ble_eq_true rfl⟩ (Nat.le_of_ble_eq_true rfl) rfl dX9_readsClause_15 ?_
    refine j_callSi (As := [.int q_10.1]) X (c_X9_linkOf l w q_10.2  q_10.1) pn_X9_linkOf q_965 q_966 q_68 q_967 ⟨Nat.le_of_ble_eq_true rfl, Nat.le_of_ble_eq_true rfl⟩ (Nat.le_of_ble_eq_true rfl) rfl dX9_readsClause_18 ?_
    refine j_istore_n X [(2, .int (m_X9_linkOf q_10.1)), (1, .int r_1), (0, .ref (w.1 81))] dX9_readsClause_21 rfl (by decide) rfl ?_
    refine j_iload_n X dX9_readsClause_22 rfl 0 rfl ?_
    refine j_bipush (v := (-9)) X dX9_readsClause_23 (by decide) ?_
    refine j_icmp_eq X 34 dX9_readsClause_25 (by decide) (fun c_11 => ?_) (fun c_11 => ?_)
    · have h := bi_t c_11 h
      refine j_iconst (v := 0) X dX9_readsClause_34 (by decide) ?_
      exact j_zret X hr hk (by decide) dX9_readsClause_35 (Option.some.inj h)
    · have h := bi_f c_11 h
      refine j_iload_n X dX9_readsClause_28 rfl 1 rfl ?_
      refine j_bipush (v := 8) X dX9_readsClause_29 (by decide) ?_
      refine j_icmp_ne X 36 dX9_readsClause_31 (by decide) (fun c_12 => ?_) (fun c_12 => ?_)
      · have h := bi_f c_12 h
        refine j_aload_n X dX9_readsClause_36 rfl 2 rfl ?_
        refine j_dup X dX9_readsClause_37 rfl ?_
        refine j_getI (C := RX9) (T := TX9) (N := 22) X 81 s_81 rfl hin_X9 13 (by decide) rfl q_875 dX9_readsClause_38 ?_
        refine j_iconst (v := 1) X dX9_readsClause_41 (by decide) ?_
        refine j_iadd X dX9_readsClause_42 ?_
        refine j_putI (C := RX9) (T := TX9) (N := 22) X tyX9 tyX9_ok nmX9 81 s_81 rfl hin_X9 13 (by decide) rfl q_875 rfl rfl dX9_readsClause_43 ?_
        refine j_aload_n X dX9_readsClause_46 rfl 2 rfl ?_
        obtain ⟨q_13, hq_13, h⟩ := bd_s h
        refine j_callVi (As := []) X 81 s_81 rfl (c_X9_here l w (upm q_10.2 81 13 ((q_10.2 81 13) + 1))   hq_13) rfl pn_X9_here q_945 q_947 q_31 q_68 q_948 ⟨Nat.le_of_ble_eq_true rfl, Nat.le_of_ble_eq_true rfl⟩ (Nat.le_of_ble_eq_true rfl) rfl dX9_readsClause_47 ?_
        refine j_callSi (As := [.int q_13.1]) X (c_X9_tenseOf l w q_13.2  q_13.1) pn_X9_tenseOf q_968 q_969 q_68 q_970 ⟨Nat.le_of_ble_eq_true rfl, Nat.le_of_ble_eq_true rfl⟩ (Nat.le_of_ble_eq_true rfl) rfl dX9_readsClause_50 ?_
        refine j_istore_n X [(3, .int (m_X9_tenseOf q_13.1)), (2, .int (m_X9_linkOf q_10.1)), (1, .int r_1), (0, .ref (w.1 81))] dX9_readsClause_53 rfl (by decide) rfl ?_
        refine j_iload_n X dX9_readsClause_54 rfl 0 rfl ?_
        refine j_bipush (v := (-9)) X dX9_readsClause_55 (by decide) ?_
        refine j_icmp_ne X 62 dX9_readsClause_57 (by decide) (fun c_14 => ?_) (fun c_14 => ?_)
        · have h := bi_f c_14 h
          refine j_aload_n X dX9_readsClause_62 rfl 3 rfl ?_
          refine j_dup X dX9_readsClause_63 rfl ?_
          refine j_getI (C := RX9) (T := TX9) (N := 22) X 81 s_81 rfl hin_X9 13 (by decide) rfl q_875 dX9_readsClause_64 ?_
          refine j_iconst (v := 1) X dX9_readsClause_67 (by decide) ?_
          refine j_iadd X dX9_readsClause_68 ?_
          refine j_putI (C := RX9) (T := TX9) (N := 22) X tyX9 tyX9_ok nmX9 81 s_81 rfl hin_X9 13 (by decide) rfl q_875 rfl rfl dX9_readsClause_69 ?_
          refine j_aload_n X dX9_readsClause_72 rfl 3 rfl ?_
          refine j_getR (C := RX9) (T := TX9) (N := 22) X 81 s_81 rfl hin_X9 2 (by decide) 83 rfl q_864 dX9_readsClause_73 ?_
          refine j_iconst (v := 2) X dX9_readsClause_76 (by decide) ?_
          refine j_iconst (v := 2) X dX9_readsClause_77 (by decide) ?_
          refine j_iload_n X dX9_readsClause_78 rfl 2 rfl ?_
          refine j_imul X dX9_readsClause_79 ?_
          refine j_iadd X dX9_readsClause_80 ?_
          refine j_iload_n X dX9_readsClause_81 rfl 0 rfl ?_
          obtain ⟨q_15, hq_15, h⟩ := bd_s h
          refine j_iast X 83 74 s_83 hq_15 dX9_readsClause_82 ?_
          refine j_aload_n X dX9_readsClause_83 rfl 3 rfl ?_
          refine j_getR (C := RX9) (T := TX9) (N := 22) X 81 s_81 rfl hin_X9 2 (by decide) 83 rfl q_864 dX9_readsClause_84 ?_
          refine j_iconst (v := 2) X dX9_readsClause_87 (by decide) ?_
          refine j_iconst (v := 2) X dX9_readsClause_88 (by decide) ?_
          refine j_iload_n X dX9_readsClause_89 rfl 2 rfl ?_
          refine j_imul X dX9_readsClause_90 ?_
          refine j_iadd X dX9_readsClause_91 ?_
          refine j_iconst (v := 1) X dX9_readsClause_92 (by decide) ?_
          refine j_iadd X dX9_readsClause_93 ?_
          refine j_iload_n X dX9_readsClause_94 rfl 1 rfl ?_
          obtain ⟨q_16, hq_16, h⟩ := bd_s h
          refine j_iast X 83 74 s_83 hq_16 dX9_readsClause_95 ?_
          refine j_aload_n X dX9_readsClause_96 rfl 3 rfl ?_
          refine j_iload_n X dX9_readsClause_97 rfl 2 rfl ?_
          refine j_bipush (v := (-9)) X dX9_readsClause_98 (by decide) ?_
          refine j_bipush (v := (-9)) X dX9_readsClause_100 (by decide) ?_
          refine j_bipush (v := (-9)) X dX9_readsClause_102 (by decide) ?_
          obtain ⟨q_17, hq_17, h⟩ := bd_s h
          refine j_callVv (As := [.int r_1, .int (-9), .int (-9), .int (-9)]) X 81 s_81 rfl (c_X9_adds l w q_16  r_1 (-9) (-9) (-9) hq_17) rfl pn_X9_adds q_957 q_959 q_34 q_68 q_960 ⟨Nat.le_of_ble_eq_true rfl, Nat.le_of_ble_eq_true rfl⟩ (Nat.le_of_ble_eq_true rfl) rfl dX9_readsClause_104 ?_
          refine j_aload_n X dX9_readsClause_107 rfl 3 rfl ?_
          refine j_getR (C := RX9) (T := TX9) (N := 22) X 81 s_81 rfl hin_X9 2 (by decide) 83 rfl q_864 dX9_readsClause_108 ?_
          refine j_iconst (v := 0) X dX9_readsClause_111 (by decide) ?_
          refine j_dup2 X dX9_readsClause_112 rfl rfl ?_
          obtain ⟨r_18, hr_18, h⟩ := bd_s h
          refine j_iald X 83 74 s_83 hr_18 dX9_readsClause_113 ?_
          refine j_iconst (v := 1) X dX9_readsClause_114 (by decide) ?_
          refine j_iadd X dX9_readsClause_115 ?_
          obtain ⟨q_19, hq_19, h⟩ := bd_s h
          refine j_iast X 83 74 s_83 hq_19 dX9_readsClause_116 ?_
          refine j_iconst (v := 1) X dX9_readsClause_117 (by decide) ?_
          exact j_zret X hr hk (by decide) dX9_readsClause_118 (Option.some.inj h)
        · have h := bi_t c_14 h
          refine j_iconst (v := 0) X dX9_readsClause_60 (by decide) ?_
          exact j_zret X hr hk (by decide) dX9_readsClause_61 (Option.some.inj h)
      · have h := bi_t c_12 h
        refine j_iconst (v := 0) X dX9_readsClause_34 (by decide) ?_
        exact j_zret X hr hk (by decide) dX9_readsClause_35 (Option.some.inj h)
abbrev rm_X9_reads : Room := { frames := 3, cells := 0, slots := 0, locals := 66 }
theorem pn_X9_reads : yX9_reads.cls ≠ "java/lang/invoke/MethodHandle" ∧ yX9_reads.cls ≠ "java/lang/invoke/VarHandle" ∧ (parseMethodDescriptor yX9_reads.desc).map (fun d => d.parameters.length) = some 0 := by decide +kernel
def L_X9_reads_26 : Nat → Int32 → Mem → Option ((Int32 × Mem) ⊕ (Int32 × Mem))
  | 0, _, _ => none
  | n + 1, x1, G => (m_X9_here G).bind (fun q_3 => (if q_3.1 < 0 then some (Sum.inl (x1, q_3.2)) else (m_X9_here q_3.2).bind (fun q_5 => (if (m_X9_in q_5.1 65 90) = 0 then (m_X9_readsClause q_5.2).bind (fun q_7 => (if q_7.1 = 0 then some (Sum.inr ((-10) - (q_7.2 81 13), q_7.2)) else (m_X9_here q_7.2).bind (fun q_9 => (if q_9.1 = 59 then L_X9_reads_26  n (x1 + 1) (upm q_9.2 81 13 ((q_9.2 81 13) + 1)) else some (Sum.inr ((-10) - (q_9.2 81 13), q_9.2)))))) else (m_X9_readsSaying q_5.2).bind (fun q_11 => (if q_11.1 = 0 then some (Sum.inr ((-10) - (q_11.2 81 13), q_11.2)) else (m_X9_here q_11.2).bind (fun q_13 => (if q_13.1 = 59 then L_X9_reads_26  n (x1 + 1) (upm q_13.2 81 13 ((q_13.2 81 13) + 1)) else some (Sum.inr ((-10) - (q_13.2 81 13), q_13.2))))))))))
def L_X9_reads_101 : Nat → Int32 → Mem → Option (Mem)
  | 0, _, _ => none
  | n + 1, x2, G => (if 74 ≤ x2 then some G else (ald 74 G 83 x2).bind (fun r_17 => (ast 74 G 82 x2 r_17).bind (fun q_18 => L_X9_reads_101  n (x2 + 1) q_18)))
def m_X9_reads (G : Mem) : Option (Int32 × Mem) := (ast 74 (upm G 81 0 0) 83 0 0).bind (fun q_1 => (ast 74 q_1 83 1 0).bind (fun q_2 => (L_X9_reads_26  NF 0 (upm q_2 81 13 0)).bind (fun o_v_15 => (match o_v_15 with | Sum.inl v_15 => (L_X9_reads_101  NF 0 v_15.2).bind (fun v_19 => (ast 2 (upm (upm (upm v_19 81 11 0) 81 4 0) 81 7 0) 86 0 0).bind (fun q_20 => (ast 2 q_20 86 1 0).bind (fun q_21 => some (v_15.1, q_21)))) | Sum.inr v_22 => some v_22))))
set_option maxRecDepth 100000 in
set_option maxHeartbeats 4000000 in
theorem jL_X9_reads_26 {p : Program} {l : Launch} {e : Env} {s : State} {m : MethodId} {args : Array Value} {below : List Frame} {meth : Method} {c : Code} {w : WP} (X : fw_X p s m args c cX9_reads 3 RX9 w) (hr : meth.sig.returnType = (some .int)) (hk : meth.locks = false) {res : Int32 × Mem} {K : (Int32 × Mem) ⊕ (Int32 × Mem) → Option (Int32 × Mem)} (HK : ∀ v : Int32 × Mem, K (Sum.inl v) = some res → J p l e rm_X9_reads s m args below meth c (Qint below args s w res) w 3 v.2 99 [(0, .ref (w.1 81)), (1, .int v.1)] []) (HR : ∀ v : Int32 × Mem, K (Sum.inr v) = some res → v = res) : ∀ (n : Nat) (x1 : Int32) (G : Mem), (L_X9_reads_26  n x1 G).bind K = some res → J p l e rm_X9_reads s m args below meth c (Qint below args s w res) w 3 G 26 [(0, .ref (w.1 81)), (1, .int x1)] [] := by
  intro n
  induction n with
  | zero =>
    intro x1 G h
    rw [L_X9_reads_26] at h
    cases h
  | succ n ih =>
    intro x1 G h
    rw [L_X9_reads_26] at h
    refine j_aload_n X dX9_reads_26 rfl 0 rfl ?_
    obtain ⟨q_3, hq_3, h⟩ := bd_s h
    refine j_callVi (As := []) X 81 s_81 rfl (c_X9_here l w G   hq_3) rfl pn_X9_here q_945 q_947 q_31 q_68 q_948 ⟨Nat.le_of_ble_eq_true rfl, Nat.le_of_ble_eq_true rfl⟩ (Nat.le_of_ble_eq_true rfl) rfl dX9_reads_27 ?_
    refine j_if_lt X 99 dX9_reads_30 (by decide) (fun c_4 => ?_) (fun c_4 => ?_)
    · have h := bi_t c_4 h
      refine j_pick [0, 1] rfl ?_
      exact HK (x1, q_3.2) h
    · have h := bi_f c_4 h
      refine j_aload_n X dX9_reads_33 rfl 0 rfl ?_
      obtain ⟨q_5, hq_5, h⟩ := bd_s h
      refine j_callVi (As := []) X 81 s_81 rfl (c_X9_here l w q_3.2   hq_5) rfl pn_X9_here q_945 q_947 q_31 q_68 q_948 ⟨Nat.le_of_ble_eq_true rfl, Nat.le_of_ble_eq_true rfl⟩ (Nat.le_of_ble_eq_true rfl) rfl dX9_reads_34 ?_
      refine j_bipush (v := 65) X dX9_reads_37 (by decide) ?_
      refine j_bipush (v := 90) X dX9_reads_39 (by decide) ?_
      refine j_callSi (As := [.int q_5.1, .int 65, .int 90]) X (c_X9_in l w q_5.2  q_5.1 65 90) pn_X9_in q_934 q_935 q_68 q_936 ⟨Nat.le_of_ble_eq_true rfl, Nat.le_of_ble_eq_true rfl⟩ (Nat.le_of_ble_eq_true rfl) rfl dX9_reads_41 ?_
      refine j_istore_n X [(2, .int (m_X9_in q_5.1 65 90)), (0, .ref (w.1 81)), (1, .int x1)] dX9_reads_44 rfl (by decide) rfl ?_
      refine j_iload_n X dX9_reads_45 rfl 0 rfl ?_
      refine j_if_eq X 59 dX9_reads_46 (by decide) (fun c_6 => ?_) (fun c_6 => ?_)
      · have h := bi_t c_6 h
        refine j_aload_n X dX9_reads_59 rfl 1 rfl ?_
        obtain ⟨q_7, hq_7, h⟩ := bd_s h
        refine j_callVi (As := []) X 81 s_81 rfl (c_X9_readsClause l w q_5.2   hq_7) rfl pn_X9_readsClause q_961 q_963 q_35 q_68 q_964 ⟨Nat.le_of_ble_eq_true rfl, Nat.le_of_ble_eq_true rfl⟩ (Nat.le_of_ble_eq_true rfl) rfl dX9_reads_60 ?_
        refine j_if_eq X 75 dX9_reads_63 (by decide) (fun c_8 => ?_) (fun c_8 => ?_)
        · have h := bi_t c_8 h
          refine j_bipush (v := (-10)) X dX9_reads_75 (by decide) ?_
          refine j_aload_n X dX9_reads_77 rfl 1 rfl ?_
          refine j_getI (C := RX9) (T := TX9) (N := 22) X 81 s_81 rfl hin_X9 13 (by decide) rfl q_875 dX9_reads_78 ?_
          refine j_isub X dX9_reads_81 ?_
          exact j_iret X hr hk dX9_reads_82 (HR _ h)
        · have h := bi_f c_8 h
          refine j_aload_n X dX9_reads_66 rfl 1 rfl ?_
          obtain ⟨q_9, hq_9, h⟩ := bd_s h
          refine j_callVi (As := []) X 81 s_81 rfl (c_X9_here l w q_7.2   hq_9) rfl pn_X9_here q_945 q_947 q_31 q_68 q_948 ⟨Nat.le_of_ble_eq_true rfl, Nat.le_of_ble_eq_true rfl⟩ (Nat.le_of_ble_eq_true rfl) rfl dX9_reads_67 ?_
          refine j_bipush (v := 59) X dX9_reads_70 (by decide) ?_
          refine j_icmp_eq X 83 dX9_reads_72 (by decide) (fun c_10 => ?_) (fun c_10 => ?_)
          · have h := bi_t c_10 h
            refine j_aload_n X dX9_reads_83 rfl 1 rfl ?_
            refine j_dup X dX9_reads_84 rfl ?_
            refine j_getI (C := RX9) (T := TX9) (N := 22) X 81 s_81 rfl hin_X9 13 (by decide) rfl q_875 dX9_reads_85 ?_
            refine j_iconst (v := 1) X dX9_reads_88 (by decide) ?_
            refine j_iadd X dX9_reads_89 ?_
            refine j_putI (C := RX9) (T := TX9) (N := 22) X tyX9 tyX9_ok nmX9 81 s_81 rfl hin_X9 13 (by decide) rfl q_875 rfl rfl dX9_reads_90 ?_
            refine j_iinc (v := x1 + 1) X [(1, .int (x1 + 1)), (2, .int (m_X9_in q_5.1 65 90)), (0, .ref (w.1 81))] dX9_reads_93 2 rfl rfl (by decide) rfl ?_
            refine j_goto X 26 dX9_reads_96 (by decide) ?_
            refine j_pick [2, 0] rfl ?_
            exact ih (x1 + 1) (upm q_9.2 81 13 ((q_9.2 81 13) + 1)) h
          · have h := bi_f c_10 h
            refine j_bipush (v := (-10)) X dX9_reads_75 (by decide) ?_
            refine j_aload_n X dX9_reads_77 rfl 1 rfl ?_
            refine j_getI (C := RX9) (T := TX9) (N := 22) X 81 s_81 rfl hin_X9 13 (by decide) rfl q_875 dX9_reads_78 ?_
            refine j_isub X dX9_reads_81 ?_
            exact j_iret X hr hk dX9_reads_82 (HR _ h)
      · have h := bi_f c_6 h
        refine j_aload_n X dX9_reads_49 rfl 1 rfl ?_
        obtain ⟨q_11, hq_11, h⟩ := bd_s h
        refine j_callVi (As := []) X 81 s_81 rfl (c_X9_readsSaying l w q_5.2   hq_11) rfl pn_X9_readsSaying q_949 q_951 q_32 q_68 q_952 ⟨Nat.le_of_ble_eq_true rfl, Nat.le_of_ble_eq_true rfl⟩ (Nat.le_of_ble_eq_true rfl) rfl dX9_reads_50 ?_
        refine j_if_eq X 75 dX9_reads_53 (by decide) (fun c_12 => ?_) (fun c_12 => ?_)
        · have h := bi_t c_12 h
          refine j_bipush (v := (-10)) X dX9_reads_75 (by decide) ?_
          refine j_aload_n X dX9_reads_77 rfl 1 rfl ?_
          refine j_getI (C := RX9) (T := TX9) (N := 22) X 81 s_81 rfl hin_X9 13 (by decide) rfl q_875 dX9_reads_78 ?_
          refine j_isub X dX9_reads_81 ?_
          exact j_iret X hr hk dX9_reads_82 (HR _ h)
        · have h := bi_f c_12 h
          refine j_goto X 66 dX9_reads_56 (by decide) ?_
          refine j_aload_n X dX9_reads_66 rfl 1 rfl ?_
          obtain ⟨q_13, hq_13, h⟩ := bd_s h
          refine j_callVi (As := []) X 81 s_81 rfl (c_X9_here l w q_11.2   hq_13) rfl pn_X9_here q_945 q_947 q_31 q_68 q_948 ⟨Nat.le_of_ble_eq_true rfl, Nat.le_of_ble_eq_true rfl⟩ (Nat.le_of_ble_eq_true rfl) rfl dX9_reads_67 ?_
          refine j_bipush (v := 59) X dX9_reads_70 (by decide) ?_
          refine j_icmp_eq X 83 dX9_reads_72 (by decide) (fun c_14 => ?_) (fun c_14 => ?_)
          · have h := bi_t c_14 h
            refine j_aload_n X dX9_reads_83 rfl 1 rfl ?_
            refine j_dup X dX9_reads_84 rfl ?_
            refine j_getI (C := RX9) (T := TX9) (N := 22) X 81 s_81 rfl hin_X9 13 (by decide) rfl q_875 dX9_reads_85 ?_
            refine j_iconst (v := 1) X dX9_reads_88 (by decide) ?_
            refine j_iadd X dX9_reads_89 ?_
            refine j_putI (C := RX9) (T := TX9) (N := 22) X tyX9 tyX9_ok nmX9 81 s_81 rfl hin_X9 13 (by decide) rfl q_875 rfl rfl dX9_reads_90 ?_
            refine j_iinc (v := x1 + 1) X [(1, .int (x1 + 1)), (2, .int (m_X9_in q_5.1 65 90)), (0, .ref (w.1 81))] dX9_reads_93 2 rfl rfl (by decide) rfl ?_
            refine j_goto X 26 dX9_reads_96 (by decide) ?_
            refine j_pick [2, 0] rfl ?_
            exact ih (x1 + 1) (upm q_13.2 81 13 ((q_13.2 81 13) + 1)) h
          · have h := bi_f c_14 h
            refine j_bipush (v := (-10)) X dX9_reads_75 (by decide) ?_
            refine j_aload_n X dX9_reads_77 rfl 1 rfl ?_
            refine j_getI (C := RX9) (T := TX9) (N := 22) X 81 s_81 rfl hin_X9 13 (by decide) rfl q_875 dX9_reads_78 ?_
            refine j_isub X dX9_reads_81 ?_
            exact j_iret X hr hk dX9_reads_82 (HR _ h)
set_option maxRecDepth 100000 in
set_option maxHeartbeats 4000000 in
theorem jL_X9_reads_101 {p : Program} {l : Launch} {e : Env} {s : State} {m : MethodId} {args : Array Value} {below : List Frame} {meth : Method} {c : Code} {w : WP} (X : fw_X p s m args c cX9_reads 3 RX9 w) (hr : meth.sig.returnType = (some .int)) (hk : meth.locks = false) {x1 : Int32} {res : Int32 × Mem} {K : Mem → Option (Int32 × Mem)} (HK : ∀ v : Mem, K v = some res → J p l e rm_X9_reads s m args below meth c (Qint below args s w res) w 3 v 125 [(0, .ref (w.1 81)), (1, .int x1)] []) : ∀ (n : Nat) (x2 : Int32) (G : Mem), (L_X9_reads_101  n x2 G).bind K = some res → J p l e rm_X9_reads s m args below meth c (Qint below args s w res) w 3 G 101 [(0, .ref (w.1 81)), (1, .int x1), (2, .int x2)] [] := by
  intro n
  induction n with
  | zero =>
    intro x2 G h
    rw [L_X9_reads_101] at h
    cases h
  | succ n ih =>
    intro x2 G h
    rw [L_X9_reads_101] at h
    refine j_iload_n X dX9_reads_101 rfl 2 rfl ?_
    refine j_bipush (v := 74) X dX9_reads_102 (by decide) ?_
    refine j_icmp_ge X 125 dX9_reads_104 (by decide) (fun c_16 => ?_) (fun c_16 => ?_)
    · have h := bi_t c_16 h
      refine j_pick [0, 1] rfl ?_
      exact HK G h
    · have h := bi_f c_16 h
      refine j_aload_n X dX9_reads_107 rfl 0 rfl ?_
      refine j_getR (C := RX9) (T := TX9) (N := 22) X 81 s_81 rfl hin_X9 1 (by decide) 82 rfl q_863 dX9_reads_108 ?_
      refine j_iload_n X dX9_reads_111 rfl 2 rfl ?_
      refine j_aload_n X dX9_reads_112 rfl 0 rfl ?_
      refine j_getR (C := RX9) (T := TX9) (N := 22) X 81 s_81 rfl hin_X9 2 (by decide) 83 rfl q_864 dX9_reads_113 ?_
      refine j_iload_n X dX9_reads_116 rfl 2 rfl ?_
      obtain ⟨r_17, hr_17, h⟩ := bd_s h
      refine j_iald X 83 74 s_83 hr_17 dX9_reads_117 ?_
      obtain ⟨q_18, hq_18, h⟩ := bd_s h
      refine j_iast X 82 74 s_82 hq_18 dX9_reads_118 ?_
      refine j_iinc (v := x2 + 1) X [(2, .int (x2 + 1)), (0, .ref (w.1 81)), (1, .int x1)] dX9_reads_119 2 rfl rfl (by decide) rfl ?_
      refine j_goto X 101 dX9_reads_122 (by decide) ?_
      refine j_pick [1, 2, 0] rfl ?_
      exact ih (x2 + 1) q_18 h
set_option maxRecDepth 100000 in
set_option maxHeartbeats 4000000 in
theorem c_X9_reads (l : Launch) (w : WP) (G : Mem) {res : Int32 × Mem} (h0 : m_X9_reads G = some res) : CMi l yX9_reads cX9_reads 3 (some .int) 3 66 w [.ref (w.1 81)] G res := by
  refine CMi.of (by decide +kernel) (Nat.le_of_ble_eq_true rfl) ?_
  intro p e s m args below meth c X hr hk
  have h := bs_i h0
  unfold m_X9_reads at h
  show J p l e rm_X9_reads s m args below meth c (Qint below args s w res) w 3 G 0 [(0, .ref (w.1 81))] []
  refine j_aload_n X dX9_reads_0 rfl 0 rfl ?_
  refine j_iconst (v := 0) X dX9_reads_1 (by decide) ?_
  refine j_putI (C := RX9) (T := TX9) (N := 22) X tyX9 tyX9_ok nmX9 81 s_81 rfl hin_X9 0 (by decide) rfl q_862 rfl rfl dX9_reads_2 ?_
  refine j_aload_n X dX9_reads_5 rfl 0 rfl ?_
  refine j_getR (C := RX9) (T := TX9) (N := 22) X 81 s_81 rfl hin_X9 2 (by decide) 83 rfl q_864 dX9_reads_6 ?_
  refine j_iconst (v := 0) X dX9_reads_9 (by decide) ?_
  refine j_iconst (v := 0) X dX9_reads_10 (by decide) ?_
  obtain ⟨q_1, hq_1, h⟩ := bd_s h
  refine j_iast X 83 74 s_83 hq_1 dX9_reads_11 ?_
  refine j_aload_n X dX9_reads_12 rfl 0 rfl ?_
  refine j_getR (C := RX9) (T := TX9) (N := 22) X 81 s_81 rfl hin_X9 2 (by decide) 83 rfl q_864 dX9_reads_13 ?_
  refine j_iconst (v := 1) X dX9_reads_16 (by decide) ?_
  refine j_iconst (v := 0) X dX9_reads_17 (by decide) ?_
  obtain ⟨q_2, hq_2, h⟩ := bd_s h
  refine j_iast X 83 74 s_83 hq_2 dX9_reads_18 ?_
  refine j_aload_n X dX9_reads_19 rfl 0 rfl ?_
  refine j_iconst (v := 0) X dX9_reads_20 (by decide) ?_
  refine j_putI (C := RX9) (T := TX9) (N := 22) X tyX9 tyX9_ok nmX9 81 s_81 rfl hin_X9 13 (by decide) rfl q_875 rfl rfl dX9_reads_21 ?_
  refine j_iconst (v := 0) X dX9_reads_24 (by decide) ?_
  refine j_istore_n X [(1, .int 0), (0, .ref (w.1 81))] dX9_reads_25 rfl (by decide) rfl ?_
  have h := bb_a h
  have Hv_15 : ∀ v_15 : Int32 × Mem, ((L_X9_reads_101  NF 0 v_15.2).bind (fun v_19 => (ast 2 (upm (upm (upm v_19 81 11 0) 81 4 0) 81 7 0) 86 0 0).bind (fun q_20 => (ast 2 q_20 86 1 0).bind (fun q_21 => some (v_15.1, q_21))))).bind some = some res → J p l e rm_X9_reads s m args below meth c (Qint below args s w res) w 3 v_15.2 99 [(0, .ref (w.1 81)), (1, .int v_15.1)] [] := by
    intro v_15 h
    refine j_iconst (v := 0) X dX9_reads_99 (by decide) ?_
    refine j_istore_n X [(2, .int 0), (0, .ref (w.1 81)), (1, .int v_15.1)] dX9_reads_100 rfl (by decide) rfl ?_
    have h := bb_a h
    have Hv_19 : ∀ v_19 : Mem, ((ast 2 (upm (upm (upm v_19 81 11 0) 81 4 0) 81 7 0) 86 0 0).bind (fun q_20 => (ast 2 q_20 86 1 0).bind (fun q_21 => some (v_15.1, q_21)))).bind some = some res → J p l e rm_X9_reads s m args below meth c (Qint below args s w res) w 3 v_19 125 [(0, .ref (w.1 81)), (1, .int v_15.1)] [] := by
      intro v_19 h
      refine j_aload_n X dX9_reads_125 rfl 0 rfl ?_
      refine j_iconst (v := 0) X dX9_reads_126 (by decide) ?_
      refine j_putI (C := RX9) (T := TX9) (N := 22) X tyX9 tyX9_ok nmX9 81 s_81 rfl hin_X9 11 (by decide) rfl q_873 rfl rfl dX9_reads_127 ?_
      refine j_aload_n X dX9_reads_130 rfl 0 rfl ?_
      refine j_iconst (v := 0) X dX9_reads_131 (by decide) ?_
      refine j_putI (C := RX9) (T := TX9) (N := 22) X tyX9 tyX9_ok nmX9 81 s_81 rfl hin_X9 4 (by decide) rfl q_866 rfl rfl dX9_reads_132 ?_
      refine j_aload_n X dX9_reads_135 rfl 0 rfl ?_
      refine j_iconst (v := 0) X dX9_reads_136 (by decide) ?_
      refine j_putI (C := RX9) (T := TX9) (N := 22) X tyX9 tyX9_ok nmX9 81 s_81 rfl hin_X9 7 (by decide) rfl q_869 rfl rfl dX9_reads_137 ?_
      refine j_aload_n X dX9_reads_140 rfl 0 rfl ?_
      refine j_getR (C := RX9) (T := TX9) (N := 22) X 81 s_81 rfl hin_X9 6 (by decide) 86 rfl q_868 dX9_reads_141 ?_
      refine j_iconst (v := 0) X dX9_reads_144 (by decide) ?_
      refine j_iconst (v := 0) X dX9_reads_145 (by decide) ?_
      obtain ⟨q_20, hq_20, h⟩ := bd_s h
      refine j_zast X 86 2 s_86 (by decide) hq_20 dX9_reads_146 ?_
      refine j_aload_n X dX9_reads_147 rfl 0 rfl ?_
      refine j_getR (C := RX9) (T := TX9) (N := 22) X 81 s_81 rfl hin_X9 6 (by decide) 86 rfl q_868 dX9_reads_148 ?_
      refine j_iconst (v := 1) X dX9_reads_151 (by decide) ?_
      refine j_iconst (v := 0) X dX9_reads_152 (by decide) ?_
      obtain ⟨q_21, hq_21, h⟩ := bd_s h
      refine j_zast X 86 2 s_86 (by decide) hq_21 dX9_reads_153 ?_
      refine j_iload_n X dX9_reads_154 rfl 1 rfl ?_
      exact j_iret X hr hk dX9_reads_155 (Option.some.inj h)
    refine j_pick [1, 2, 0] rfl ?_
    exact jL_X9_reads_101 X hr hk Hv_19 NF 0 v_15.2 h
  refine j_pick [1, 0] rfl ?_
  exact jL_X9_reads_26 (K := fun o_v_15 => ((match o_v_15 with | Sum.inl v_15 => (L_X9_reads_101  NF 0 v_15.2).bind (fun v_19 => (ast 2 (upm (upm (upm v_19 81 11 0) 81 4 0) 81 7 0) 86 0 0).bind (fun q_20 => (ast 2 q_20 86 1 0).bind (fun q_21 => some (v_15.1, q_21)))) | Sum.inr v_22 => some v_22)).bind some) X hr hk Hv_15 (fun z h => Option.some.inj h) NF 0 (upm q_2 81 13 0) h
abbrev rm_X9_says : Room := { frames := 3, cells := 0, slots := 0, locals := 64 }
theorem pn_X9_says : yX9_says.cls ≠ "java/lang/invoke/MethodHandle" ∧ yX9_says.cls ≠ "java/lang/invoke/VarHandle" ∧ (parseMethodDescriptor yX9_says.desc).map (fun d => d.parameters.length) = some 3 := by decide +kernel
def m_X9_says (G : Mem) (p1 : Int32) (p2 : Int32) (p3 : Int32) : Option (Int32 × Mem) := (m_X9_isSaid (upm G 81 0 0) p1).bind (fun r_1 => (if r_1 = 0 then some ((-1), upm G 81 0 0) else (m_X9_isSaid (upm G 81 0 0) p3).bind (fun r_3 => (if r_3 = 0 then some ((-1), upm G 81 0 0) else (if p1 = p3 then some ((-1), upm G 81 0 0) else (if (m_X9_in p2 0 1) = 0 then some ((-1), upm G 81 0 0) else (m_X9_sayings (upm G 81 0 0)).bind (fun r_7 => (if r_7 = 6 then some ((-3), upm G 81 0 0) else (m_X9_notes (upm G 81 0 0)).bind (fun q_9 => (ald 74 q_9 82 1).bind (fun r_10 => (ast 74 q_9 82 (18 + (4 * r_10)) (-9)).bind (fun q_11 => (ast 74 q_11 82 ((18 + (4 * r_10)) + 1) p1).bind (fun q_12 => (ast 74 q_12 82 ((18 + (4 * r_10)) + 2) p2).bind (fun q_13 => (ast 74 q_13 82 ((18 + (4 * r_10)) + 3) p3).bind (fun q_14 => (ald 74 q_14 82 1).bind (fun r_15 => (ast 74 q_14 82 1 (r_15 + 1)).bind (fun q_16 => (ald 74 q_16 82 1).bind (fun r_17 => some (r_17, q_16))))))))))))))))))
set_option maxRecDepth 100000 in
set_option maxHeartbeats 4000000 in
theorem c_X9_says (l : Launch) (w : WP) (G : Mem) (p1 : Int32) (p2 : Int32) (p3 : Int32) {res : Int32 × Mem} (h0 : m_X9_says G p1 p2 p3 = some res) : CMi l yX9_says cX9_says 5 (some .int) 3 64 w [.ref (w.1 81), .int p1, .int p2, .int p3] G res := by
  refine CMi.of (by decide +kernel) (Nat.le_of_ble_eq_true rfl) ?_
  intro p e s m args below meth c X hr hk
  have h := bs_i h0
  unfold m_X9_says at h
  show J p l e rm_X9_says s m args below meth c (Qint below args s w res) w 5 G 0 [(0, .ref (w.1 81)), (1, .int p1), (2, .int p2), (3, .int p3)] []
  refine j_aload_n X dX9_says_0 rfl 0 rfl ?_
  refine j_iconst (v := 0) X dX9_says_1 (by decide) ?_
  refine j_putI (C := RX9) (T := TX9) (N := 22) X tyX9 tyX9_ok nmX9 81 s_81 rfl hin_X9 0 (by decide) rfl q_862 rfl rfl dX9_says_2 ?_
  refine j_aload_n X dX9_says_5 rfl 0 rfl ?_
  refine j_iload_n X dX9_says_6 rfl 1 rfl ?_
  obtain ⟨r_1, hr_1, h⟩ := bd_s h
  refine j_callVi (As := [.int p1]) X 81 s_81 rfl (c_X9_isSaid l w (upm G 81 0 0)  p1 hr_1) rfl pn_X9_isSaid q_1062 q_1064 q_51 q_68 q_1065 ⟨Nat.le_of_ble_eq_true rfl, Nat.le_of_ble_eq_true rfl⟩ (Nat.le_of_ble_eq_true rfl) rfl dX9_says_7 ?_
  refine j_if_eq X 35 dX9_says_10 (by decide) (fun c_2 => ?_) (fun c_2 => ?_)
  · have h := bi_t c_2 h
    refine j_iconst (v := (-1)) X dX9_says_35 (by decide) ?_
    exact j_iret X hr hk dX9_says_36 (Option.some.inj h)
  · have h := bi_f c_2 h
    refine j_aload_n X dX9_says_13 rfl 0 rfl ?_
    refine j_iload_n X dX9_says_14 rfl 3 rfl ?_
    obtain ⟨r_3, hr_3, h⟩ := bd_s h
    refine j_callVi (As := [.int p3]) X 81 s_81 rfl (c_X9_isSaid l w (upm G 81 0 0)  p3 hr_3) rfl pn_X9_isSaid q_1062 q_1064 q_51 q_68 q_1065 ⟨Nat.le_of_ble_eq_true rfl, Nat.le_of_ble_eq_true rfl⟩ (Nat.le_of_ble_eq_true rfl) rfl dX9_says_15 ?_
    refine j_if_eq X 35 dX9_says_18 (by decide) (fun c_4 => ?_) (fun c_4 => ?_)
    · have h := bi_t c_4 h
      refine j_iconst (v := (-1)) X dX9_says_35 (by decide) ?_
      exact j_iret X hr hk dX9_says_36 (Option.some.inj h)
    · have h := bi_f c_4 h
      refine j_iload_n X dX9_says_21 rfl 1 rfl ?_
      refine j_iload_n X dX9_says_22 rfl 3 rfl ?_
      refine j_icmp_eq X 35 dX9_says_23 (by decide) (fun c_5 => ?_) (fun c_5 => ?_)
      · have h := bi_t c_5 h
        refine j_iconst (v := (-1)) X dX9_says_35 (by decide) ?_
        exact j_iret X hr hk dX9_says_36 (Option.some.inj h)
      · have h := bi_f c_5 h
        refine j_iload_n X dX9_says_26 rfl 2 rfl ?_
        refine j_iconst (v := 0) X dX9_says_27 (by decide) ?_
        refine j_iconst (v := 1) X dX9_says_28 (by decide) ?_
        refine j_callSi (As := [.int p2, .int 0, .int 1]) X (c_X9_in l w (upm G 81 0 0)  p2 0 1) pn_X9_in q_934 q_935 q_68 q_936 ⟨Nat.le_of_ble_eq_true rfl, Nat.le_of_ble_eq_true rfl⟩ (Nat.le_of_ble_eq_true rfl) rfl dX9_says_29 ?_
        refine j_if_ne X 37 dX9_says_32 (by decide) (fun c_6 => ?_) (fun c_6 => ?_)
        · have h := bi_f c_6 h
          refine j_aload_n X dX9_says_37 rfl 0 rfl ?_
          obtain ⟨r_7, hr_7, h⟩ := bd_s h
          refine j_callVi (As := []) X 81 s_81 rfl (c_X9_sayings l w (upm G 81 0 0)   hr_7) rfl pn_X9_sayings q_1094 q_1096 q_55 q_68 q_1097 ⟨Nat.le_of_ble_eq_true rfl, Nat.le_of_ble_eq_true rfl⟩ (Nat.le_of_ble_eq_true rfl) rfl dX9_says_38 ?_
          refine j_bipush (v := 6) X dX9_says_41 (by decide) ?_
          refine j_icmp_ne X 49 dX9_says_43 (by decide) (fun c_8 => ?_) (fun c_8 => ?_)
          · have h := bi_f c_8 h
            refine j_aload_n X dX9_says_49 rfl 0 rfl ?_
            obtain ⟨q_9, hq_9, h⟩ := bd_s h
            refine j_callVv (As := []) X 81 s_81 rfl (c_X9_notes l w (upm G 81 0 0)   hq_9) rfl pn_X9_notes q_1098 q_1100 q_56 q_68 q_1101 ⟨Nat.le_of_ble_eq_true rfl, Nat.le_of_ble_eq_true rfl⟩ (Nat.le_of_ble_eq_true rfl) rfl dX9_says_50 ?_
            refine j_bipush (v := 18) X dX9_says_53 (by decide) ?_
            refine j_iconst (v := 4) X dX9_says_55 (by decide) ?_
            refine j_aload_n X dX9_says_56 rfl 0 rfl ?_
            refine j_getR (C := RX9) (T := TX9) (N := 22) X 81 s_81 rfl hin_X9 1 (by decide) 82 rfl q_863 dX9_says_57 ?_
            refine j_iconst (v := 1) X dX9_says_60 (by decide) ?_
            obtain ⟨r_10, hr_10, h⟩ := bd_s h
            refine j_iald X 82 74 s_82 hr_10 dX9_says_61 ?_
            refine j_imul X dX9_says_62 ?_
            refine j_iadd X dX9_says_63 ?_
            refine j_istore X [(4, .int (18 + (4 * r_10))), (0, .ref (w.1 81)), (1, .int p1), (2, .int p2), (3, .int p3)] dX9_says_64 (by decide) rfl ?_
            refine j_aload_n X dX9_says_66 rfl 1 rfl ?_
            refine j_getR (C := RX9) (T := TX9) (N := 22) X 81 s_81 rfl hin_X9 1 (by decide) 82 rfl q_863 dX9_says_67 ?_
            refine j_iload X dX9_says_70 0 rfl ?_
            refine j_bipush (v := (-9)) X dX9_says_72 (by decide) ?_
            obtain ⟨q_11, hq_11, h⟩ := bd_s h
            refine j_iast X 82 74 s_82 hq_11 dX9_says_74 ?_
            refine j_aload_n X dX9_says_75 rfl 1 rfl ?_
            refine j_getR (C := RX9) (T := TX9) (N := 22) X 81 s_81 rfl hin_X9 1 (by decide) 82 rfl q_863 dX9_says_76 ?_
            refine j_iload X dX9_says_79 0 rfl ?_
            refine j_iconst (v := 1) X dX9_says_81 (by decide) ?_
            refine j_iadd X dX9_says_82 ?_
            refine j_iload_n X dX9_says_83 rfl 2 rfl ?_
            obtain ⟨q_12, hq_12, h⟩ := bd_s h
            refine j_iast X 82 74 s_82 hq_12 dX9_says_84 ?_
            refine j_aload_n X dX9_says_85 rfl 1 rfl ?_
            refine j_getR (C := RX9) (T := TX9) (N := 22) X 81 s_81 rfl hin_X9 1 (by decide) 82 rfl q_863 dX9_says_86 ?_
            refine j_iload X dX9_says_89 0 rfl ?_
            refine j_iconst (v := 2) X dX9_says_91 (by decide) ?_
            refine j_iadd X dX9_says_92 ?_
            refine j_iload_n X dX9_says_93 rfl 3 rfl ?_
            obtain ⟨q_13, hq_13, h⟩ := bd_s h
            refine j_iast X 82 74 s_82 hq_13 dX9_says_94 ?_
            refine j_aload_n X dX9_says_95 rfl 1 rfl ?_
            refine j_getR (C := RX9) (T := TX9) (N := 22) X 81 s_81 rfl hin_X9 1 (by decide) 82 rfl q_863 dX9_says_96 ?_
            refine j_iload X dX9_says_99 0 rfl ?_
            refine j_iconst (v := 3) X dX9_says_101 (by decide) ?_
            refine j_iadd X dX9_says_102 ?_
            refine j_iload_n X dX9_says_103 rfl 4 rfl ?_
            obtain ⟨q_14, hq_14, h⟩ := bd_s h
            refine j_iast X 82 74 s_82 hq_14 dX9_says_104 ?_
            refine j_aload_n X dX9_says_105 rfl 1 rfl ?_
            refine j_getR (C := RX9) (T := TX9) (N := 22) X 81 s_81 rfl hin_X9 1 (by decide) 82 rfl q_863 dX9_says_106 ?_
            refine j_iconst (v := 1) X dX9_says_109 (by decide) ?_
            refine j_dup2 X dX9_says_110 rfl rfl ?_
            obtain ⟨r_15, hr_15, h⟩ := bd_s h
            refine j_iald X 82 74 s_82 hr_15 dX9_says_111 ?_
            refine j_iconst (v := 1) X dX9_says_112 (by decide) ?_
            refine j_iadd X dX9_says_113 ?_
            obtain ⟨q_16, hq_16, h⟩ := bd_s h
            refine j_iast X 82 74 s_82 hq_16 dX9_says_114 ?_
            refine j_aload_n X dX9_says_115 rfl 1 rfl ?_
            refine j_getR (C := RX9) (T := TX9) (N := 22) X 81 s_81 rfl hin_X9 1 (by decide) 82 rfl q_863 dX9_says_116 ?_
            refine j_iconst (v := 1) X dX9_says_119 (by decide) ?_
            obtain ⟨r_17, hr_17, h⟩ := bd_s h
            refine j_iald X 82 74 s_82 hr_17 dX9_says_120 ?_
            exact j_iret X hr hk dX9_says_121 (Option.some.inj h)
          · have h := bi_t c_8 h
            refine j_bipush (v := (-3)) X dX9_says_46 (by decide) ?_
            exact j_iret X hr hk dX9_says_48 (Option.some.inj h)
        · have h := bi_t c_6 h
          refine j_iconst (v := (-1)) X dX9_says_35 (by decide) ?_
          exact j_iret X hr hk dX9_says_36 (Option.some.inj h)
abbrev rm_X9_sees : Room := { frames := 2, cells := 0, slots := 0, locals := 43 }
theorem pn_X9_sees : yX9_sees.cls ≠ "java/lang/invoke/MethodHandle" ∧ yX9_sees.cls ≠ "java/lang/invoke/VarHandle" ∧ (parseMethodDescriptor yX9_sees.desc).map (fun d => d.parameters.length) = some 3 := by decide +kernel
def m_X9_sees (G : Mem) (p1 : Int32) (p2 : Int32) (p3 : Int32) : Option (Int32 × Mem) := (m_X9_isTime (upm G 81 0 0) p1).bind (fun r_1 => (if r_1 = 0 then some ((-1), upm G 81 0 0) else (m_X9_isTime (upm G 81 0 0) p2).bind (fun r_3 => (if r_3 = 0 then some ((-1), upm G 81 0 0) else (if (m_X9_in p3 0 4) = 0 then some ((-1), upm G 81 0 0) else (if ((upm G 81 0 0) 81 7) = 6 then some ((-3), upm G 81 0 0) else (ast 6 (upm G 81 0 0) 87 ((upm G 81 0 0) 81 7) p1).bind (fun q_7 => (ast 6 q_7 88 (q_7 81 7) p2).bind (fun q_8 => (ast 6 q_8 89 (q_8 81 7) p3).bind (fun q_9 => some ((upm q_9 81 7 ((q_9 81 7) + 1)) 81 7, upm q_9 81 7 ((q_9 81 7) + 1)))))))))))
set_option maxRecDepth 100000 in
set_option maxHeartbeats 4000000 in
theorem c_X9_sees (l : Launch) (w : WP) (G : Mem) (p1 : Int32) (p2 : Int32) (p3 : Int32) {res : Int32 × Mem} (h0 : m_X9_sees G p1 p2 p3 = some res) : CMi l yX9_sees cX9_sees 4 (some .int) 2 43 w [.ref (w.1 81), .int p1, .int p2, .int p3] G res := by
  refine CMi.of (by decide +kernel) (Nat.le_of_ble_eq_true rfl) ?_
  intro p e s m args below meth c X hr hk
  have h := bs_i h0
  unfold m_X9_sees at h
  show J p l e rm_X9_sees s m args below meth c (Qint below args s w res) w 4 G 0 [(0, .ref (w.1 81)), (1, .int p1), (2, .int p2), (3, .int p3)] []
  refine j_aload_n X dX9_sees_0 rfl 0 rfl ?_
  refine j_iconst (v := 0) X dX9_sees_1 (by decide) ?_
  refine j_putI (C := RX9) (T := TX9) (N := 22) X tyX9 tyX9_ok nmX9 81 s_81 rfl hin_X9 0 (by decide) rfl q_862 rfl rfl dX9_sees_2 ?_
  refine j_aload_n X dX9_sees_5 rfl 0 rfl ?_
  refine j_iload_n X dX9_sees_6 rfl 1 rfl ?_
  obtain ⟨r_1, hr_1, h⟩ := bd_s h
  refine j_callVi (As := [.int p1]) X 81 s_81 rfl (c_X9_isTime l w (upm G 81 0 0)  p1 hr_1) rfl pn_X9_isTime q_1042 q_1044 q_48 q_68 q_1045 ⟨Nat.le_of_ble_eq_true rfl, Nat.le_of_ble_eq_true rfl⟩ (Nat.le_of_ble_eq_true rfl) rfl dX9_sees_7 ?_
  refine j_if_eq X 30 dX9_sees_10 (by decide) (fun c_2 => ?_) (fun c_2 => ?_)
  · have h := bi_t c_2 h
    refine j_iconst (v := (-1)) X dX9_sees_30 (by decide) ?_
    exact j_iret X hr hk dX9_sees_31 (Option.some.inj h)
  · have h := bi_f c_2 h
    refine j_aload_n X dX9_sees_13 rfl 0 rfl ?_
    refine j_iload_n X dX9_sees_14 rfl 2 rfl ?_
    obtain ⟨r_3, hr_3, h⟩ := bd_s h
    refine j_callVi (As := [.int p2]) X 81 s_81 rfl (c_X9_isTime l w (upm G 81 0 0)  p2 hr_3) rfl pn_X9_isTime q_1042 q_1044 q_48 q_68 q_1045 ⟨Nat.le_of_ble_eq_true rfl, Nat.le_of_ble_eq_true rfl⟩ (Nat.le_of_ble_eq_true rfl) rfl dX9_sees_15 ?_
    refine j_if_eq X 30 dX9_sees_18 (by decide) (fun c_4 => ?_) (fun c_4 => ?_)
    · have h := bi_t c_4 h
      refine j_iconst (v := (-1)) X dX9_sees_30 (by decide) ?_
      exact j_iret X hr hk dX9_sees_31 (Option.some.inj h)
    · have h := bi_f c_4 h
      refine j_iload_n X dX9_sees_21 rfl 3 rfl ?_
      refine j_iconst (v := 0) X dX9_sees_22 (by decide) ?_
      refine j_iconst (v := 4) X dX9_sees_23 (by decide) ?_
      refine j_callSi (As := [.int p3, .int 0, .int 4]) X (c_X9_in l w (upm G 81 0 0)  p3 0 4) pn_X9_in q_934 q_935 q_68 q_936 ⟨Nat.le_of_ble_eq_true rfl, Nat.le_of_ble_eq_true rfl⟩ (Nat.le_of_ble_eq_true rfl) rfl dX9_sees_24 ?_
      refine j_if_ne X 32 dX9_sees_27 (by decide) (fun c_5 => ?_) (fun c_5 => ?_)
      · have h := bi_f c_5 h
        refine j_aload_n X dX9_sees_32 rfl 0 rfl ?_
        refine j_getI (C := RX9) (T := TX9) (N := 22) X 81 s_81 rfl hin_X9 7 (by decide) rfl q_869 dX9_sees_33 ?_
        refine j_bipush (v := 6) X dX9_sees_36 (by decide) ?_
        refine j_icmp_ne X 44 dX9_sees_38 (by decide) (fun c_6 => ?_) (fun c_6 => ?_)
        · have h := bi_f c_6 h
          refine j_aload_n X dX9_sees_44 rfl 0 rfl ?_
          refine j_getR (C := RX9) (T := TX9) (N := 22) X 81 s_81 rfl hin_X9 8 (by decide) 87 rfl q_870 dX9_sees_45 ?_
          refine j_aload_n X dX9_sees_48 rfl 0 rfl ?_
          refine j_getI (C := RX9) (T := TX9) (N := 22) X 81 s_81 rfl hin_X9 7 (by decide) rfl q_869 dX9_sees_49 ?_
          refine j_iload_n X dX9_sees_52 rfl 1 rfl ?_
          obtain ⟨q_7, hq_7, h⟩ := bd_s h
          refine j_iast X 87 6 s_87 hq_7 dX9_sees_53 ?_
          refine j_aload_n X dX9_sees_54 rfl 0 rfl ?_
          refine j_getR (C := RX9) (T := TX9) (N := 22) X 81 s_81 rfl hin_X9 9 (by decide) 88 rfl q_871 dX9_sees_55 ?_
          refine j_aload_n X dX9_sees_58 rfl 0 rfl ?_
          refine j_getI (C := RX9) (T := TX9) (N := 22) X 81 s_81 rfl hin_X9 7 (by decide) rfl q_869 dX9_sees_59 ?_
          refine j_iload_n X dX9_sees_62 rfl 2 rfl ?_
          obtain ⟨q_8, hq_8, h⟩ := bd_s h
          refine j_iast X 88 6 s_88 hq_8 dX9_sees_63 ?_
          refine j_aload_n X dX9_sees_64 rfl 0 rfl ?_
          refine j_getR (C := RX9) (T := TX9) (N := 22) X 81 s_81 rfl hin_X9 10 (by decide) 89 rfl q_872 dX9_sees_65 ?_
          refine j_aload_n X dX9_sees_68 rfl 0 rfl ?_
          refine j_getI (C := RX9) (T := TX9) (N := 22) X 81 s_81 rfl hin_X9 7 (by decide) rfl q_869 dX9_sees_69 ?_
          refine j_iload_n X dX9_sees_72 rfl 3 rfl ?_
          obtain ⟨q_9, hq_9, h⟩ := bd_s h
          refine j_iast X 89 6 s_89 hq_9 dX9_sees_73 ?_
          refine j_aload_n X dX9_sees_74 rfl 0 rfl ?_
          refine j_dup X dX9_sees_75 rfl ?_
          refine j_getI (C := RX9) (T := TX9) (N := 22) X 81 s_81 rfl hin_X9 7 (by decide) rfl q_869 dX9_sees_76 ?_
          refine j_iconst (v := 1) X dX9_sees_79 (by decide) ?_
          refine j_iadd X dX9_sees_80 ?_
          refine j_putI (C := RX9) (T := TX9) (N := 22) X tyX9 tyX9_ok nmX9 81 s_81 rfl hin_X9 7 (by decide) rfl q_869 rfl rfl dX9_sees_81 ?_
          refine j_aload_n X dX9_sees_84 rfl 0 rfl ?_
          refine j_getI (C := RX9) (T := TX9) (N := 22) X 81 s_81 rfl hin_X9 7 (by decide) rfl q_869 dX9_sees_85 ?_
          exact j_iret X hr hk dX9_sees_88 (Option.some.inj h)
        · have h := bi_t c_6 h
          refine j_bipush (v := (-3)) X dX9_sees_41 (by decide) ?_
          exact j_iret X hr hk dX9_sees_43 (Option.some.inj h)
      · have h := bi_t c_5 h
        refine j_iconst (v := (-1)) X dX9_sees_30 (by decide) ?_
        exact j_iret X hr hk dX9_sees_31 (Option.some.inj h)
abbrev rm_X9_sound : Room := { frames := 3, cells := 0, slots := 0, locals := 77 }
theorem pn_X9_sound : yX9_sound.cls ≠ "java/lang/invoke/MethodHandle" ∧ yX9_sound.cls ≠ "java/lang/invoke/VarHandle" ∧ (parseMethodDescriptor yX9_sound.desc).map (fun d => d.parameters.length) = some 0 := by decide +kernel
def m_X9_sound (G : Mem) : Option (Int32 × Mem) := (m_X9_all (upm G 81 0 0)).bind (fun r_1 => (m_X9_laysAll (upm G 81 0 0) r_1 0 (-9) 0).bind (fun q_2 => (m_X9_isSound q_2).bind (fun q_3 => (if q_3.1 = 0 then some (0, q_3.2) else some (1, q_3.2)))))
set_option maxRecDepth 100000 in
set_option maxHeartbeats 4000000 in
theorem c_X9_sound (l : Launch) (w : WP) (G : Mem) {res : Int32 × Mem} (h0 : m_X9_sound G = some res) : CMi l yX9_sound cX9_sound 1 (some .int) 3 77 w [.ref (w.1 81)] G res := by
  refine CMi.of (by decide +kernel) (Nat.le_of_ble_eq_true rfl) ?_
  intro p e s m args below meth c X hr hk
  have h := bs_i h0
  unfold m_X9_sound at h
  show J p l e rm_X9_sound s m args below meth c (Qint below args s w res) w 1 G 0 [(0, .ref (w.1 81))] []
  refine j_aload_n X dX9_sound_0 rfl 0 rfl ?_
  refine j_iconst (v := 0) X dX9_sound_1 (by decide) ?_
  refine j_putI (C := RX9) (T := TX9) (N := 22) X tyX9 tyX9_ok nmX9 81 s_81 rfl hin_X9 0 (by decide) rfl q_862 rfl rfl dX9_sound_2 ?_
  refine j_aload_n X dX9_sound_5 rfl 0 rfl ?_
  refine j_aload_n X dX9_sound_6 rfl 0 rfl ?_
  obtain ⟨r_1, hr_1, h⟩ := bd_s h
  refine j_callVi (As := []) X 81 s_81 rfl (c_X9_all l w (upm G 81 0 0)   hr_1) rfl pn_X9_all q_995 q_997 q_39 q_68 q_998 ⟨Nat.le_of_ble_eq_true rfl, Nat.le_of_ble_eq_true rfl⟩ (Nat.le_of_ble_eq_true rfl) rfl dX9_sound_7 ?_
  refine j_iconst (v := 0) X dX9_sound_10 (by decide) ?_
  refine j_bipush (v := (-9)) X dX9_sound_11 (by decide) ?_
  refine j_iconst (v := 0) X dX9_sound_13 (by decide) ?_
  obtain ⟨q_2, hq_2, h⟩ := bd_s h
  refine j_callVv (As := [.int r_1, .int 0, .int (-9), .int 0]) X 81 s_81 rfl (c_X9_laysAll l w (upm G 81 0 0)  r_1 0 (-9) 0 hq_2) rfl pn_X9_laysAll q_999 q_1001 q_40 q_68 q_1002 ⟨Nat.le_of_ble_eq_true rfl, Nat.le_of_ble_eq_true rfl⟩ (Nat.le_of_ble_eq_true rfl) rfl dX9_sound_14 ?_
  refine j_aload_n X dX9_sound_17 rfl 0 rfl ?_
  obtain ⟨q_3, hq_3, h⟩ := bd_s h
  refine j_callVi (As := []) X 81 s_81 rfl (c_X9_isSound l w q_2   hq_3) rfl pn_X9_isSound q_1023 q_1025 q_46 q_68 q_1026 ⟨Nat.le_of_ble_eq_true rfl, Nat.le_of_ble_eq_true rfl⟩ (Nat.le_of_ble_eq_true rfl) rfl dX9_sound_18 ?_
  refine j_if_eq X 28 dX9_sound_21 (by decide) (fun c_4 => ?_) (fun c_4 => ?_)
  · have h := bi_t c_4 h
    refine j_iconst (v := 0) X dX9_sound_28 (by decide) ?_
    exact j_iret X hr hk dX9_sound_29 (Option.some.inj h)
  · have h := bi_f c_4 h
    refine j_iconst (v := 1) X dX9_sound_24 (by decide) ?_
    refine j_goto X 29 dX9_sound_25 (by decide) ?_
    exact j_iret X hr hk dX9_sound_29 (Option.some.inj h)
abbrev rm_X9_statement : Room := { frames := 2, cells := 0, slots := 0, locals := 43 }
theorem pn_X9_statement : yX9_statement.cls ≠ "java/lang/invoke/MethodHandle" ∧ yX9_statement.cls ≠ "java/lang/invoke/VarHandle" ∧ (parseMethodDescriptor yX9_statement.desc).map (fun d => d.parameters.length) = some 2 := by decide +kernel
def m_X9_statement (G : Mem) (p1 : Int32) (p2 : Int32) : Option (Int32 × Mem) := (m_X9_isStatement (upm G 81 0 0) p1).bind (fun r_1 => (if r_1 = 0 then some ((-1), upm G 81 0 0) else (if (m_X9_in p2 0 3) = 0 then some ((-1), upm G 81 0 0) else (m_X9_ofStatement (upm G 81 0 0) p1 p2).bind (fun r_4 => some (r_4, upm G 81 0 0)))))
set_option maxRecDepth 100000 in
set_option maxHeartbeats 4000000 in
theorem c_X9_statement (l : Launch) (w : WP) (G : Mem) (p1 : Int32) (p2 : Int32) {res : Int32 × Mem} (h0 : m_X9_statement G p1 p2 = some res) : CMi l yX9_statement cX9_statement 3 (some .int) 2 43 w [.ref (w.1 81), .int p1, .int p2] G res := by
  refine CMi.of (by decide +kernel) (Nat.le_of_ble_eq_true rfl) ?_
  intro p e s m args below meth c X hr hk
  have h := bs_i h0
  unfold m_X9_statement at h
  show J p l e rm_X9_statement s m args below meth c (Qint below args s w res) w 3 G 0 [(0, .ref (w.1 81)), (1, .int p1), (2, .int p2)] []
  refine j_aload_n X dX9_statement_0 rfl 0 rfl ?_
  refine j_iconst (v := 0) X dX9_statement_1 (by decide) ?_
  refine j_putI (C := RX9) (T := TX9) (N := 22) X tyX9 tyX9_ok nmX9 81 s_81 rfl hin_X9 0 (by decide) rfl q_862 rfl rfl dX9_statement_2 ?_
  refine j_aload_n X dX9_statement_5 rfl 0 rfl ?_
  refine j_iload_n X dX9_statement_6 rfl 1 rfl ?_
  obtain ⟨r_1, hr_1, h⟩ := bd_s h
  refine j_callVi (As := [.int p1]) X 81 s_81 rfl (c_X9_isStatement l w (upm G 81 0 0)  p1 hr_1) rfl pn_X9_isStatement q_987 q_989 q_38 q_68 q_990 ⟨Nat.le_of_ble_eq_true rfl, Nat.le_of_ble_eq_true rfl⟩ (Nat.le_of_ble_eq_true rfl) rfl dX9_statement_7 ?_
  refine j_if_eq X 31 dX9_statement_10 (by decide) (fun c_2 => ?_) (fun c_2 => ?_)
  · have h := bi_t c_2 h
    refine j_iconst (v := (-1)) X dX9_statement_31 (by decide) ?_
    exact j_iret X hr hk dX9_statement_32 (Option.some.inj h)
  · have h := bi_f c_2 h
    refine j_iload_n X dX9_statement_13 rfl 2 rfl ?_
    refine j_iconst (v := 0) X dX9_statement_14 (by decide) ?_
    refine j_iconst (v := 3) X dX9_statement_15 (by decide) ?_
    refine j_callSi (As := [.int p2, .int 0, .int 3]) X (c_X9_in l w (upm G 81 0 0)  p2 0 3) pn_X9_in q_934 q_935 q_68 q_936 ⟨Nat.le_of_ble_eq_true rfl, Nat.le_of_ble_eq_true rfl⟩ (Nat.le_of_ble_eq_true rfl) rfl dX9_statement_16 ?_
    refine j_if_eq X 31 dX9_statement_19 (by decide) (fun c_3 => ?_) (fun c_3 => ?_)
    · have h := bi_t c_3 h
      refine j_iconst (v := (-1)) X dX9_statement_31 (by decide) ?_
      exact j_iret X hr hk dX9_statement_32 (Option.some.inj h)
    · have h := bi_f c_3 h
      refine j_aload_n X dX9_statement_22 rfl 0 rfl ?_
      refine j_iload_n X dX9_statement_23 rfl 1 rfl ?_
      refine j_iload_n X dX9_statement_24 rfl 2 rfl ?_
      obtain ⟨r_4, hr_4, h⟩ := bd_s h
      refine j_callVi (As := [.int p1, .int p2]) X 81 s_81 rfl (c_X9_ofStatement l w (upm G 81 0 0)  p1 p2 hr_4) rfl pn_X9_ofStatement q_979 q_981 q_37 q_68 q_982 ⟨Nat.le_of_ble_eq_true rfl, Nat.le_of_ble_eq_true rfl⟩ (Nat.le_of_ble_eq_true rfl) rfl dX9_statement_25 ?_
      refine j_goto X 32 dX9_statement_28 (by decide) ?_
      exact j_iret X hr hk dX9_statement_32 (Option.some.inj h)
abbrev rm_X9_takes : Room := { frames := 2, cells := 0, slots := 0, locals := 43 }
theorem pn_X9_takes : yX9_takes.cls ≠ "java/lang/invoke/MethodHandle" ∧ yX9_takes.cls ≠ "java/lang/invoke/VarHandle" ∧ (parseMethodDescriptor yX9_takes.desc).map (fun d => d.parameters.length) = some 1 := by decide +kernel
def L_X9_takes_47 : Nat → Int32 → Mem → Option (Mem)
  | 0, _, _ => none
  | n + 1, x2, G => (ald 74 G 82 1).bind (fun r_8 => (if (18 + (4 * r_8)) ≤ x2 then some G else (ald 74 G 82 (x2 + 4)).bind (fun r_10 => (ast 74 G 82 x2 r_10).bind (fun q_11 => L_X9_takes_47  n (x2 + 1) q_11))))
def m_X9_takes (G : Mem) (p1 : Int32) : Option (Int32 × Mem) := (m_X9_isStatement (upm G 81 0 0) p1).bind (fun r_1 => (if r_1 = 0 then some ((-1), upm G 81 0 0) else (m_X9_ofStatement (upm G 81 0 0) p1 0).bind (fun r_3 => (if r_3 = (-9) then (m_X9_notes (upm G 81 0 0)).bind (fun q_5 => (ald 74 q_5 82 1).bind (fun r_6 => (ast 74 q_5 82 1 (r_6 - 1)).bind (fun q_7 => (L_X9_takes_47  NF (18 + (4 * p1)) q_7).bind (fun v_12 => (ald 74 v_12 82 1).bind (fun r_13 => some (r_13, v_12)))))) else some ((-1), upm G 81 0 0)))))
set_option maxRecDepth 100000 in
set_option maxHeartbeats 4000000 in
theorem jL_X9_takes_47 {p : Program} {l : Launch} {e : Env} {s : State} {m : MethodId} {args : Array Value} {below : List Frame} {meth : Method} {c : Code} {w : WP} (X : fw_X p s m args c cX9_takes 3 RX9 w) (hr : meth.sig.returnType = (some .int)) (hk : meth.locks = false) {res : Int32 × Mem} {K : Mem → Option (Int32 × Mem)} (HK : ∀ v : Mem, K v = some res → J p l e rm_X9_takes s m args below meth c (Qint below args s w res) w 3 v 82 [(0, .ref (w.1 81))] []) : ∀ (n : Nat) (x2 : Int32) (G : Mem), (L_X9_takes_47  n x2 G).bind K = some res → J p l e rm_X9_takes s m args below meth c (Qint below args s w res) w 3 G 47 [(0, .ref (w.1 81)), (2, .int x2)] [] := by
  intro n
  induction n with
  | zero =>
    intro x2 G h
    rw [L_X9_takes_47] at h
    cases h
  | succ n ih =>
    intro x2 G h
    rw [L_X9_takes_47] at h
    refine j_iload_n X dX9_takes_47 rfl 1 rfl ?_
    refine j_bipush (v := 18) X dX9_takes_48 (by decide) ?_
    refine j_iconst (v := 4) X dX9_takes_50 (by decide) ?_
    refine j_aload_n X dX9_takes_51 rfl 0 rfl ?_
    refine j_getR (C := RX9) (T := TX9) (N := 22) X 81 s_81 rfl hin_X9 1 (by decide) 82 rfl q_863 dX9_takes_52 ?_
    refine j_iconst (v := 1) X dX9_takes_55 (by decide) ?_
    obtain ⟨r_8, hr_8, h⟩ := bd_s h
    refine j_iald X 82 74 s_82 hr_8 dX9_takes_56 ?_
    refine j_imul X dX9_takes_57 ?_
    refine j_iadd X dX9_takes_58 ?_
    refine j_icmp_ge X 82 dX9_takes_59 (by decide) (fun c_9 => ?_) (fun c_9 => ?_)
    · have h := bi_t c_9 h
      refine j_pick [0] rfl ?_
      exact HK G h
    · have h := bi_f c_9 h
      refine j_aload_n X dX9_takes_62 rfl 0 rfl ?_
      refine j_getR (C := RX9) (T := TX9) (N := 22) X 81 s_81 rfl hin_X9 1 (by decide) 82 rfl q_863 dX9_takes_63 ?_
      refine j_iload_n X dX9_takes_66 rfl 1 rfl ?_
      refine j_aload_n X dX9_takes_67 rfl 0 rfl ?_
      refine j_getR (C := RX9) (T := TX9) (N := 22) X 81 s_81 rfl hin_X9 1 (by decide) 82 rfl q_863 dX9_takes_68 ?_
      refine j_iload_n X dX9_takes_71 rfl 1 rfl ?_
      refine j_iconst (v := 4) X dX9_takes_72 (by decide) ?_
      refine j_iadd X dX9_takes_73 ?_
      obtain ⟨r_10, hr_10, h⟩ := bd_s h
      refine j_iald X 82 74 s_82 hr_10 dX9_takes_74 ?_
      obtain ⟨q_11, hq_11, h⟩ := bd_s h
      refine j_iast X 82 74 s_82 hq_11 dX9_takes_75 ?_
      refine j_iinc (v := x2 + 1) X [(2, .int (x2 + 1)), (0, .ref (w.1 81))] dX9_takes_76 1 rfl rfl (by decide) rfl ?_
      refine j_goto X 47 dX9_takes_79 (by decide) ?_
      refine j_pick [1, 0] rfl ?_
      exact ih (x2 + 1) q_11 h
set_option maxRecDepth 100000 in
set_option maxHeartbeats 4000000 in
theorem c_X9_takes (l : Launch) (w : WP) (G : Mem) (p1 : Int32) {res : Int32 × Mem} (h0 : m_X9_takes G p1 = some res) : CMi l yX9_takes cX9_takes 3 (some .int) 2 43 w [.ref (w.1 81), .int p1] G res := by
  refine CMi.of (by decide +kernel) (Nat.le_of_ble_eq_true rfl) ?_
  intro p e s m args below meth c X hr hk
  have h := bs_i h0
  unfold m_X9_takes at h
  show J p l e rm_X9_takes s m args below meth c (Qint below args s w res) w 3 G 0 [(0, .ref (w.1 81)), (1, .int p1)] []
  refine j_aload_n X dX9_takes_0 rfl 0 rfl ?_
  refine j_iconst (v := 0) X dX9_takes_1 (by decide) ?_
  refine j_putI (C := RX9) (T := TX9) (N := 22) X tyX9 tyX9_ok nmX9 81 s_81 rfl hin_X9 0 (by decide) rfl q_862 rfl rfl dX9_takes_2 ?_
  refine j_aload_n X dX9_takes_5 rfl 0 rfl ?_
  refine j_iload_n X dX9_takes_6 rfl 1 rfl ?_
  obtain ⟨r_1, hr_1, h⟩ := bd_s h
  refine j_callVi (As := [.int p1]) X 81 s_81 rfl (c_X9_isStatement l w (upm G 81 0 0)  p1 hr_1) rfl pn_X9_isStatement q_987 q_989 q_38 q_68 q_990 ⟨Nat.le_of_ble_eq_true rfl, Nat.le_of_ble_eq_true rfl⟩ (Nat.le_of_ble_eq_true rfl) rfl dX9_takes_7 ?_
  refine j_if_eq X 24 dX9_takes_10 (by decide) (fun c_2 => ?_) (fun c_2 => ?_)
  · have h := bi_t c_2 h
    refine j_iconst (v := (-1)) X dX9_takes_24 (by decide) ?_
    exact j_iret X hr hk dX9_takes_25 (Option.some.inj h)
  · have h := bi_f c_2 h
    refine j_aload_n X dX9_takes_13 rfl 0 rfl ?_
    refine j_iload_n X dX9_takes_14 rfl 1 rfl ?_
    refine j_iconst (v := 0) X dX9_takes_15 (by decide) ?_
    obtain ⟨r_3, hr_3, h⟩ := bd_s h
    refine j_callVi (As := [.int p1, .int 0]) X 81 s_81 rfl (c_X9_ofStatement l w (upm G 81 0 0)  p1 0 hr_3) rfl pn_X9_ofStatement q_979 q_981 q_37 q_68 q_982 ⟨Nat.le_of_ble_eq_true rfl, Nat.le_of_ble_eq_true rfl⟩ (Nat.le_of_ble_eq_true rfl) rfl dX9_takes_16 ?_
    refine j_bipush (v := (-9)) X dX9_takes_19 (by decide) ?_
    refine j_icmp_eq X 26 dX9_takes_21 (by decide) (fun c_4 => ?_) (fun c_4 => ?_)
    · have h := bi_t c_4 h
      refine j_aload_n X dX9_takes_26 rfl 0 rfl ?_
      obtain ⟨q_5, hq_5, h⟩ := bd_s h
      refine j_callVv (As := []) X 81 s_81 rfl (c_X9_notes l w (upm G 81 0 0)   hq_5) rfl pn_X9_notes q_1098 q_1100 q_56 q_68 q_1101 ⟨Nat.le_of_ble_eq_true rfl, Nat.le_of_ble_eq_true rfl⟩ (Nat.le_of_ble_eq_true rfl) rfl dX9_takes_27 ?_
      refine j_aload_n X dX9_takes_30 rfl 0 rfl ?_
      refine j_getR (C := RX9) (T := TX9) (N := 22) X 81 s_81 rfl hin_X9 1 (by decide) 82 rfl q_863 dX9_takes_31 ?_
      refine j_iconst (v := 1) X dX9_takes_34 (by decide) ?_
      refine j_dup2 X dX9_takes_35 rfl rfl ?_
      obtain ⟨r_6, hr_6, h⟩ := bd_s h
      refine j_iald X 82 74 s_82 hr_6 dX9_takes_36 ?_
      refine j_iconst (v := 1) X dX9_takes_37 (by decide) ?_
      refine j_isub X dX9_takes_38 ?_
      obtain ⟨q_7, hq_7, h⟩ := bd_s h
      refine j_iast X 82 74 s_82 hq_7 dX9_takes_39 ?_
      refine j_bipush (v := 18) X dX9_takes_40 (by decide) ?_
      refine j_iconst (v := 4) X dX9_takes_42 (by decide) ?_
      refine j_iload_n X dX9_takes_43 rfl 1 rfl ?_
      refine j_imul X dX9_takes_44 ?_
      refine j_iadd X dX9_takes_45 ?_
      refine j_istore_n X [(2, .int (18 + (4 * p1))), (0, .ref (w.1 81)), (1, .int p1)] dX9_takes_46 rfl (by decide) rfl ?_
      have h := bb_a h
      have Hv_12 : ∀ v_12 : Mem, ((ald 74 v_12 82 1).bind (fun r_13 => some (r_13, v_12))).bind some = some res → J p l e rm_X9_takes s m args below meth c (Qint below args s w res) w 3 v_12 82 [(0, .ref (w.1 81))] [] := by
        intro v_12 h
        refine j_aload_n X dX9_takes_82 rfl 0 rfl ?_
        refine j_getR (C := RX9) (T := TX9) (N := 22) X 81 s_81 rfl hin_X9 1 (by decide) 82 rfl q_863 dX9_takes_83 ?_
        refine j_iconst (v := 1) X dX9_takes_86 (by decide) ?_
        obtain ⟨r_13, hr_13, h⟩ := bd_s h
        refine j_iald X 82 74 s_82 hr_13 dX9_takes_87 ?_
        exact j_iret X hr hk dX9_takes_88 (Option.some.inj h)
      refine j_pick [1, 0] rfl ?_
      exact jL_X9_takes_47 X hr hk Hv_12 NF (18 + (4 * p1)) q_7 h
    · have h := bi_f c_4 h
      refine j_iconst (v := (-1)) X dX9_takes_24 (by decide) ?_
      exact j_iret X hr hk dX9_takes_25 (Option.some.inj h)
