abbrev rm_X7_timeOf : Room := { frames := 1, cells := 0, slots := 0, locals := 20 }
theorem pn_X7_timeOf : yX7_timeOf.cls ≠ "java/lang/invoke/MethodHandle" ∧ yX7_timeOf.cls ≠ "java/lang/invoke/VarHandle" ∧ (parseMethodDescriptor yX7_timeOf.desc).map (fun d => d.parameters.length) = some 2 := by decide +kernel
def m_X7_timeOf (G : Mem) (p1 : Int32) : Option (Int32) := (if p1 = 78 then some 0 else (if (p1 - 65) < 0 then some (-9) else (m_X6_clauses G 3).bind (fun r_3 => (if r_3 ≤ (p1 - 65) then some (-9) else some (m_X8_eventOf (p1 - 65))))))
set_option maxRecDepth 100000 in
set_option maxHeartbeats 4000000 in
theorem c_X7_timeOf (l : Launch) (w : WP) (G : Mem) (p1 : Int32) {res : Int32} (h0 : m_X7_timeOf G p1 = some res) : CMi l yX7_timeOf cX7_timeOf 3 (some .int) 1 20 w [.int p1, .ref (w.1 3)] G (res, G) := by
  refine CMi.of (by decide +kernel) (Nat.le_of_ble_eq_true rfl) ?_
  intro p e s m args below meth c X hr hk
  have h := bs_i h0
  unfold m_X7_timeOf at h
  show J p l e rm_X7_timeOf s m args below meth c (Qint below args s w (res, G)) w 3 G 0 [(0, .int p1), (1, .ref (w.1 3))] []
  refine j_iload_n X dX7_timeOf_0 rfl 0 rfl ?_
  refine j_bipush (v := 78) X dX7_timeOf_1 (by decide) ?_
  refine j_icmp_ne X 8 dX7_timeOf_3 (by decide) (fun c_1 => ?_) (fun c_1 => ?_)
  · have h := bi_f c_1 h
    refine j_iload_n X dX7_timeOf_8 rfl 0 rfl ?_
    refine j_bipush (v := 65) X dX7_timeOf_9 (by decide) ?_
    refine j_isub X dX7_timeOf_11 ?_
    refine j_istore_n X [(2, .int (p1 - 65)), (0, .int p1), (1, .ref (w.1 3))] dX7_timeOf_12 rfl (by decide) rfl ?_
    refine j_iload_n X dX7_timeOf_13 rfl 0 rfl ?_
    refine j_if_lt X 32 dX7_timeOf_14 (by decide) (fun c_2 => ?_) (fun c_2 => ?_)
    · have h := bi_t c_2 h
      refine j_bipush (v := (-9)) X dX7_timeOf_32 (by decide) ?_
      exact j_iret X hr hk dX7_timeOf_34 (congrArg (fun z => (z, G)) (Option.some.inj h))
    · have h := bi_f c_2 h
      refine j_iload_n X dX7_timeOf_17 rfl 0 rfl ?_
      refine j_aload_n X dX7_timeOf_18 rfl 2 rfl ?_
      obtain ⟨r_3, hr_3, h⟩ := bd_s h
      refine j_callVi (As := []) X 3 s_3 rfl (c_X6_clauses l w G 3 (Or.inr rfl)  hr_3) rfl pn_X6_clauses q_322 q_323 q_324 q_60 q_325 ⟨Nat.le_of_ble_eq_true rfl, Nat.le_of_ble_eq_true rfl⟩ (Nat.le_of_ble_eq_true rfl) rfl dX7_timeOf_19 ?_
      refine j_icmp_ge X 32 dX7_timeOf_22 (by decide) (fun c_4 => ?_) (fun c_4 => ?_)
      · have h := bi_t c_4 h
        refine j_bipush (v := (-9)) X dX7_timeOf_32 (by decide) ?_
        exact j_iret X hr hk dX7_timeOf_34 (congrArg (fun z => (z, G)) (Option.some.inj h))
      · have h := bi_f c_4 h
        refine j_iload_n X dX7_timeOf_25 rfl 0 rfl ?_
        refine j_callNi (As := [.int (p1 - 65)]) X (c_X8_eventOf l w G  (p1 - 65)) pn_X8_eventOf nm_0 q_327 q_59 q_328 ⟨Nat.le_of_ble_eq_true rfl, Nat.le_of_ble_eq_true rfl⟩ (Nat.le_of_ble_eq_true rfl) rfl dX7_timeOf_26 ?_
        refine j_goto X 34 dX7_timeOf_29 (by decide) ?_
        exact j_iret X hr hk dX7_timeOf_34 (congrArg (fun z => (z, G)) (Option.some.inj h))
  · have h := bi_t c_1 h
    refine j_iconst (v := 0) X dX7_timeOf_6 (by decide) ?_
    exact j_iret X hr hk dX7_timeOf_7 (congrArg (fun z => (z, G)) (Option.some.inj h))
abbrev rm_X7_beginsSaying : Room := { frames := 2, cells := 0, slots := 0, locals := 42 }
theorem pn_X7_beginsSaying : yX7_beginsSaying.cls ≠ "java/lang/invoke/MethodHandle" ∧ yX7_beginsSaying.cls ≠ "java/lang/invoke/VarHandle" ∧ (parseMethodDescriptor yX7_beginsSaying.desc).map (fun d => d.parameters.length) = some 2 := by decide +kernel
def m_X7_beginsSaying (G : Mem) (p1 : Int32) : Option (Int32 × Mem) := (m_X7_timeOf G p1).bind (fun r_1 => (if ((upm (upm G 5 5 r_1) 5 2 2) 5 5) = (-9) then some (0, upm (upm G 5 5 r_1) 5 2 2) else (m_X6_sayings (upm (upm G 5 5 r_1) 5 2 2) 3).bind (fun r_3 => (if 6 ≤ r_3 then some (0, upm (upm G 5 5 r_1) 5 2 2) else some (1, upm (upm G 5 5 r_1) 5 2 2)))))
set_option maxRecDepth 100000 in
set_option maxHeartbeats 4000000 in
theorem c_X7_beginsSaying (l : Launch) (w : WP) (G : Mem) (p1 : Int32) {res : Int32 × Mem} (h0 : m_X7_beginsSaying G p1 = some res) : CMi l yX7_beginsSaying cX7_beginsSaying 3 (some .boolean) 2 42 w [.ref (w.1 5), .int p1, .ref (w.1 3)] G res := by
  refine CMi.of (by decide +kernel) (Nat.le_of_ble_eq_true rfl) ?_
  intro p e s m args below meth c X hr hk
  have h := bs_i h0
  unfold m_X7_beginsSaying at h
  show J p l e rm_X7_beginsSaying s m args below meth c (Qint below args s w res) w 3 G 0 [(0, .ref (w.1 5)), (1, .int p1), (2, .ref (w.1 3))] []
  refine j_aload_n X dX7_beginsSaying_0 rfl 0 rfl ?_
  refine j_iload_n X dX7_beginsSaying_1 rfl 1 rfl ?_
  refine j_aload_n X dX7_beginsSaying_2 rfl 2 rfl ?_
  obtain ⟨r_1, hr_1, h⟩ := bd_s h
  refine j_callSi (As := [.int p1, .ref (w.1 3)]) X (c_X7_timeOf l w G  p1 hr_1) pn_X7_timeOf q_319 q_320 q_61 q_321 ⟨Nat.le_of_ble_eq_true rfl, Nat.le_of_ble_eq_true rfl⟩ (Nat.le_of_ble_eq_true rfl) rfl dX7_beginsSaying_3 ?_
  refine j_putI (C := RX7) (T := TX7) (N := 8) X tyX7 tyX7_ok nmX7 5 s_5 rfl hin_X7 5 (by decide) rfl q_106 rfl rfl dX7_beginsSaying_6 ?_
  refine j_aload_n X dX7_beginsSaying_9 rfl 0 rfl ?_
  refine j_iconst (v := 2) X dX7_beginsSaying_10 (by decide) ?_
  refine j_putI (C := RX7) (T := TX7) (N := 8) X tyX7 tyX7_ok nmX7 5 s_5 rfl hin_X7 2 (by decide) rfl q_103 rfl rfl dX7_beginsSaying_11 ?_
  refine j_aload_n X dX7_beginsSaying_14 rfl 0 rfl ?_
  refine j_getI (C := RX7) (T := TX7) (N := 8) X 5 s_5 rfl hin_X7 5 (by decide) rfl q_106 dX7_beginsSaying_15 ?_
  refine j_bipush (v := (-9)) X dX7_beginsSaying_18 (by decide) ?_
  refine j_icmp_eq X 36 dX7_beginsSaying_20 (by decide) (fun c_2 => ?_) (fun c_2 => ?_)
  · have h := bi_t c_2 h
    refine j_iconst (v := 0) X dX7_beginsSaying_36 (by decide) ?_
    exact j_zret X hr hk (by decide) dX7_beginsSaying_37 (Option.some.inj h)
  · have h := bi_f c_2 h
    refine j_aload_n X dX7_beginsSaying_23 rfl 2 rfl ?_
    obtain ⟨r_3, hr_3, h⟩ := bd_s h
    refine j_callVi (As := []) X 3 s_3 rfl (c_X6_sayings l w (upm (upm G 5 5 r_1) 5 2 2) 3 (Or.inr rfl)  hr_3) rfl pn_X6_sayings q_329 q_330 q_331 q_60 q_332 ⟨Nat.le_of_ble_eq_true rfl, Nat.le_of_ble_eq_true rfl⟩ (Nat.le_of_ble_eq_true rfl) rfl dX7_beginsSaying_24 ?_
    refine j_bipush (v := 6) X dX7_beginsSaying_27 (by decide) ?_
    refine j_icmp_ge X 36 dX7_beginsSaying_29 (by decide) (fun c_4 => ?_) (fun c_4 => ?_)
    · have h := bi_t c_4 h
      refine j_iconst (v := 0) X dX7_beginsSaying_36 (by decide) ?_
      exact j_zret X hr hk (by decide) dX7_beginsSaying_37 (Option.some.inj h)
    · have h := bi_f c_4 h
      refine j_iconst (v := 1) X dX7_beginsSaying_32 (by decide) ?_
      refine j_goto X 37 dX7_beginsSaying_33 (by decide) ?_
      exact j_zret X hr hk (by decide) dX7_beginsSaying_37 (Option.some.inj h)
abbrev rm_X7_givesTense : Room := { frames := 4, cells := 0, slots := 0, locals := 91 }
theorem pn_X7_givesTense : yX7_givesTense.cls ≠ "java/lang/invoke/MethodHandle" ∧ yX7_givesTense.cls ≠ "java/lang/invoke/VarHandle" ∧ (parseMethodDescriptor yX7_givesTense.desc).map (fun d => d.parameters.length) = some 1 := by decide +kernel
def m_X7_givesTense (G : Mem) (p1 : Int32) : Option (Int32 × Mem) := (m_J0_indexOf_0f7a4 0 ((p1.toUInt32 % 65536).toInt32)).bind (fun r_1 => (if ((upm (upm G 5 4 r_1) 5 2 4) 5 4) < 0 then some (0, upm (upm G 5 4 r_1) 5 2 4) else some (1, upm (upm G 5 4 r_1) 5 2 4)))
set_option maxRecDepth 100000 in
set_option maxHeartbeats 4000000 in
theorem c_X7_givesTense (l : Launch) (w : WP) (G : Mem) (p1 : Int32) {res : Int32 × Mem} (h0 : m_X7_givesTense G p1 = some res) : CMi l yX7_givesTense cX7_givesTense 2 (some .boolean) 4 91 w [.ref (w.1 5), .int p1] G res := by
  refine CMi.of (by decide +kernel) (Nat.le_of_ble_eq_true rfl) ?_
  intro p e s m args below meth c X hr hk
  have h := bs_i h0
  unfold m_X7_givesTense at h
  show J p l e rm_X7_givesTense s m args below meth c (Qint below args s w res) w 2 G 0 [(0, .ref (w.1 5)), (1, .int p1)] []
  refine j_aload_n X dX7_givesTense_0 rfl 0 rfl ?_
  refine j_ldcS X dX7_givesTense_1 X.2.2.2.2.2.2.2.1.1 ?_
  refine j_iload_n X dX7_givesTense_3 rfl 1 rfl ?_
  refine j_i2c (v := (p1.toUInt32 % 65536).toInt32) X dX7_givesTense_4 rfl ?_
  obtain ⟨r_1, hr_1, h⟩ := bd_s h
  refine j_callTi (As := [.int ((p1.toUInt32 % 65536).toInt32)]) X 0 (by decide) (c_J0_indexOf_0f7a4 l w G 0 (by decide) ((p1.toUInt32 % 65536).toInt32) hr_1) rfl pn_J0_indexOf_0f7a4 q_343 q_344 q_345 q_69 q_346 ⟨Nat.le_of_ble_eq_true rfl, Nat.le_of_ble_eq_true rfl⟩ (Nat.le_of_ble_eq_true rfl) rfl dX7_givesTense_5 ?_
  refine j_putI (C := RX7) (T := TX7) (N := 8) X tyX7 tyX7_ok nmX7 5 s_5 rfl hin_X7 4 (by decide) rfl q_105 rfl rfl dX7_givesTense_8 ?_
  refine j_aload_n X dX7_givesTense_11 rfl 0 rfl ?_
  refine j_iconst (v := 4) X dX7_givesTense_12 (by decide) ?_
  refine j_putI (C := RX7) (T := TX7) (N := 8) X tyX7 tyX7_ok nmX7 5 s_5 rfl hin_X7 2 (by decide) rfl q_103 rfl rfl dX7_givesTense_13 ?_
  refine j_aload_n X dX7_givesTense_16 rfl 0 rfl ?_
  refine j_getI (C := RX7) (T := TX7) (N := 8) X 5 s_5 rfl hin_X7 4 (by decide) rfl q_105 dX7_givesTense_17 ?_
  refine j_if_lt X 27 dX7_givesTense_20 (by decide) (fun c_2 => ?_) (fun c_2 => ?_)
  · have h := bi_t c_2 h
    refine j_iconst (v := 0) X dX7_givesTense_27 (by decide) ?_
    exact j_zret X hr hk (by decide) dX7_givesTense_28 (Option.some.inj h)
  · have h := bi_f c_2 h
    refine j_iconst (v := 1) X dX7_givesTense_23 (by decide) ?_
    refine j_goto X 28 dX7_givesTense_24 (by decide) ?_
    exact j_zret X hr hk (by decide) dX7_givesTense_28 (Option.some.inj h)
abbrev rm_X7_beginsItem : Room := { frames := 5, cells := 0, slots := 0, locals := 112 }
theorem pn_X7_beginsItem : yX7_beginsItem.cls ≠ "java/lang/invoke/MethodHandle" ∧ yX7_beginsItem.cls ≠ "java/lang/invoke/VarHandle" ∧ (parseMethodDescriptor yX7_beginsItem.desc).map (fun d => d.parameters.length) = some 2 := by decide +kernel
def m_X7_beginsItem (G : Mem) (p1 : Int32) : Option (Int32 × Mem) := (m_X7_beginsSaying G p1).bind (fun q_1 => (if q_1.1 = 0 then (m_X6_clauses q_1.2 3).bind (fun r_3 => (if r_3 = 0 then (m_X7_givesTense (upm q_1.2 5 3 (-9)) p1).bind (fun q_9 => some (q_9.1 &&& 1, q_9.2)) else (m_J0_indexOf_0f7a4 1 ((p1.toUInt32 % 65536).toInt32)).bind (fun r_5 => (if ((upm (upm q_1.2 5 3 r_5) 5 2 1) 5 3) < 0 then some (0, upm (upm q_1.2 5 3 r_5) 5 2 1) else (m_X6_clauses (upm (upm q_1.2 5 3 r_5) 5 2 1) 3).bind (fun r_7 => (if 8 ≤ r_7 then some (0, upm (upm q_1.2 5 3 r_5) 5 2 1) else some (1, upm (upm q_1.2 5 3 r_5) 5 2 1))))))) else some (1, q_1.2)))
set_option maxRecDepth 100000 in
set_option maxHeartbeats 4000000 in
theorem c_X7_beginsItem (l : Launch) (w : WP) (G : Mem) (p1 : Int32) {res : Int32 × Mem} (h0 : m_X7_beginsItem G p1 = some res) : CMi l yX7_beginsItem cX7_beginsItem 3 (some .boolean) 5 112 w [.ref (w.1 5), .int p1, .ref (w.1 3)] G res := by
  refine CMi.of (by decide +kernel) (Nat.le_of_ble_eq_true rfl) ?_
  intro p e s m args below meth c X hr hk
  have h := bs_i h0
  unfold m_X7_beginsItem at h
  show J p l e rm_X7_beginsItem s m args below meth c (Qint below args s w res) w 3 G 0 [(0, .ref (w.1 5)), (1, .int p1), (2, .ref (w.1 3))] []
  refine j_aload_n X dX7_beginsItem_0 rfl 0 rfl ?_
  refine j_iload_n X dX7_beginsItem_1 rfl 1 rfl ?_
  refine j_aload_n X dX7_beginsItem_2 rfl 2 rfl ?_
  obtain ⟨q_1, hq_1, h⟩ := bd_s h
  refine j_callVi (As := [.int p1, .ref (w.1 3)]) X 5 s_5 rfl (c_X7_beginsSaying l w G  p1 hq_1) rfl pn_X7_beginsSaying q_315 q_317 q_2 q_61 q_318 ⟨Nat.le_of_ble_eq_true rfl, Nat.le_of_ble_eq_true rfl⟩ (Nat.le_of_ble_eq_true rfl) rfl dX7_beginsItem_3 ?_
  refine j_if_eq X 11 dX7_beginsItem_6 (by decide) (fun c_2 => ?_) (fun c_2 => ?_)
  · have h := bi_t c_2 h
    refine j_aload_n X dX7_beginsItem_11 rfl 2 rfl ?_
    obtain ⟨r_3, hr_3, h⟩ := bd_s h
    refine j_callVi (As := []) X 3 s_3 rfl (c_X6_clauses l w q_1.2 3 (Or.inr rfl)  hr_3) rfl pn_X6_clauses q_322 q_323 q_324 q_60 q_325 ⟨Nat.le_of_ble_eq_true rfl, Nat.le_of_ble_eq_true rfl⟩ (Nat.le_of_ble_eq_true rfl) rfl dX7_beginsItem_12 ?_
    refine j_if_ne X 30 dX7_beginsItem_15 (by decide) (fun c_4 => ?_) (fun c_4 => ?_)
    · have h := bi_f c_4 h
      refine j_aload_n X dX7_beginsItem_30 rfl 0 rfl ?_
      refine j_ldcS X dX7_beginsItem_31 X.2.2.2.2.2.2.2.1.2.1 ?_
      refine j_iload_n X dX7_beginsItem_33 rfl 1 rfl ?_
      refine j_i2c (v := (p1.toUInt32 % 65536).toInt32) X dX7_beginsItem_34 rfl ?_
      obtain ⟨r_5, hr_5, h⟩ := bd_s h
      refine j_callTi (As := [.int ((p1.toUInt32 % 65536).toInt32)]) X 1 (by decide) (c_J0_indexOf_0f7a4 l w q_1.2 1 (by decide) ((p1.toUInt32 % 65536).toInt32) hr_5) rfl pn_J0_indexOf_0f7a4 q_343 q_344 q_345 q_69 q_346 ⟨Nat.le_of_ble_eq_true rfl, Nat.le_of_ble_eq_true rfl⟩ (Nat.le_of_ble_eq_true rfl) rfl dX7_beginsItem_35 ?_
      refine j_putI (C := RX7) (T := TX7) (N := 8) X tyX7 tyX7_ok nmX7 5 s_5 rfl hin_X7 3 (by decide) rfl q_104 rfl rfl dX7_beginsItem_38 ?_
      refine j_aload_n X dX7_beginsItem_41 rfl 0 rfl ?_
      refine j_iconst (v := 1) X dX7_beginsItem_42 (by decide) ?_
      refine j_putI (C := RX7) (T := TX7) (N := 8) X tyX7 tyX7_ok nmX7 5 s_5 rfl hin_X7 2 (by decide) rfl q_103 rfl rfl dX7_beginsItem_43 ?_
      refine j_aload_n X dX7_beginsItem_46 rfl 0 rfl ?_
      refine j_getI (C := RX7) (T := TX7) (N := 8) X 5 s_5 rfl hin_X7 3 (by decide) rfl q_104 dX7_beginsItem_47 ?_
      refine j_if_lt X 66 dX7_beginsItem_50 (by decide) (fun c_6 => ?_) (fun c_6 => ?_)
      · have h := bi_t c_6 h
        refine j_iconst (v := 0) X dX7_beginsItem_66 (by decide) ?_
        exact j_zret X hr hk (by decide) dX7_beginsItem_67 (Option.some.inj h)
      · have h := bi_f c_6 h
        refine j_aload_n X dX7_beginsItem_53 rfl 2 rfl ?_
        obtain ⟨r_7, hr_7, h⟩ := bd_s h
        refine j_callVi (As := []) X 3 s_3 rfl (c_X6_clauses l w (upm (upm q_1.2 5 3 r_5) 5 2 1) 3 (Or.inr rfl)  hr_7) rfl pn_X6_clauses q_322 q_323 q_324 q_60 q_325 ⟨Nat.le_of_ble_eq_true rfl, Nat.le_of_ble_eq_true rfl⟩ (Nat.le_of_ble_eq_true rfl) rfl dX7_beginsItem_54 ?_
        refine j_bipush (v := 8) X dX7_beginsItem_57 (by decide) ?_
        refine j_icmp_ge X 66 dX7_beginsItem_59 (by decide) (fun c_8 => ?_) (fun c_8 => ?_)
        · have h := bi_t c_8 h
          refine j_iconst (v := 0) X dX7_beginsItem_66 (by decide) ?_
          exact j_zret X hr hk (by decide) dX7_beginsItem_67 (Option.some.inj h)
        · have h := bi_f c_8 h
          refine j_iconst (v := 1) X dX7_beginsItem_62 (by decide) ?_
          refine j_goto X 67 dX7_beginsItem_63 (by decide) ?_
          exact j_zret X hr hk (by decide) dX7_beginsItem_67 (Option.some.inj h)
    · have h := bi_t c_4 h
      refine j_aload_n X dX7_beginsItem_18 rfl 0 rfl ?_
      refine j_bipush (v := (-9)) X dX7_beginsItem_19 (by decide) ?_
      refine j_putI (C := RX7) (T := TX7) (N := 8) X tyX7 tyX7_ok nmX7 5 s_5 rfl hin_X7 3 (by decide) rfl q_104 rfl rfl dX7_beginsItem_21 ?_
      refine j_aload_n X dX7_beginsItem_24 rfl 0 rfl ?_
      refine j_iload_n X dX7_beginsItem_25 rfl 1 rfl ?_
      obtain ⟨q_9, hq_9, h⟩ := bd_s h
      refine j_callVi (As := [.int p1]) X 5 s_5 rfl (c_X7_givesTense l w (upm q_1.2 5 3 (-9))  p1 hq_9) rfl pn_X7_givesTense q_338 q_340 q_3 q_61 q_341 ⟨Nat.le_of_ble_eq_true rfl, Nat.le_of_ble_eq_true rfl⟩ (Nat.le_of_ble_eq_true rfl) rfl dX7_beginsItem_26 ?_
      exact j_zret X hr hk rfl dX7_beginsItem_29 (Option.some.inj h)
  · have h := bi_f c_2 h
    refine j_iconst (v := 1) X dX7_beginsItem_9 (by decide) ?_
    exact j_zret X hr hk (by decide) dX7_beginsItem_10 (Option.some.inj h)
abbrev rm_X7_empty : Room := { frames := 0, cells := 0, slots := 0, locals := 0 }
theorem pn_X7_empty : yX7_empty.cls ≠ "java/lang/invoke/MethodHandle" ∧ yX7_empty.cls ≠ "java/lang/invoke/VarHandle" ∧ (parseMethodDescriptor yX7_empty.desc).map (fun d => d.parameters.length) = some 0 := by decide +kernel
def m_X7_empty (G : Mem) : Mem := upm G 5 1 0
set_option maxRecDepth 100000 in
set_option maxHeartbeats 4000000 in
theorem c_X7_empty (l : Launch) (w : WP) (G : Mem) : CMv l yX7_empty cX7_empty 1 none 0 0 w [.ref (w.1 5)] G (m_X7_empty G) := by
  refine CMv.of (by decide +kernel) (Nat.le_of_ble_eq_true rfl) ?_
  intro p e s m args below meth c X hr hk
  obtain ⟨res, h⟩ : ∃ z, m_X7_empty G = z := ⟨_, rfl⟩
  rw [h]
  unfold m_X7_empty at h
  show J p l e rm_X7_empty s m args below meth c (Qvoid below args s w res) w 1 G 0 [(0, .ref (w.1 5))] []
  refine j_aload_n X dX7_empty_0 rfl 0 rfl ?_
  refine j_iconst (v := 0) X dX7_empty_1 (by decide) ?_
  refine j_putI (C := RX7) (T := TX7) (N := 8) X tyX7 tyX7_ok nmX7 5 s_5 rfl hin_X7 1 (by decide) rfl q_102 rfl rfl dX7_empty_2 ?_
  exact j_vret X hr hk dX7_empty_5 (h)
abbrev rm_X7_endsItem : Room := { frames := 3, cells := 0, slots := 0, locals := 68 }
theorem pn_X7_endsItem : yX7_endsItem.cls ≠ "java/lang/invoke/MethodHandle" ∧ yX7_endsItem.cls ≠ "java/lang/invoke/VarHandle" ∧ (parseMethodDescriptor yX7_endsItem.desc).map (fun d => d.parameters.length) = some 2 := by decide +kernel
def m_X7_endsItem (G : Mem) (p1 : Int32) : Option (Int32 × Mem) := (if p1 = 59 then ((if (G 5 2) = 4 then (m_X6_addClause G 3 (G 5 4) (G 5 3)).bind (fun q_5 => some q_5) else (m_X6_addSaying G 3 (G 5 5) (G 5 6) (G 5 7)).bind (fun q_4 => some q_4)) : Option (Mem)).bind (fun (v_2 : Mem) => some (1, upm v_2 5 2 0)) else some (0, G))
set_option maxRecDepth 100000 in
set_option maxHeartbeats 4000000 in
theorem c_X7_endsItem (l : Launch) (w : WP) (G : Mem) (p1 : Int32) {res : Int32 × Mem} (h0 : m_X7_endsItem G p1 = some res) : CMi l yX7_endsItem cX7_endsItem 3 (some .boolean) 3 68 w [.ref (w.1 5), .int p1, .ref (w.1 3)] G res := by
  refine CMi.of (by decide +kernel) (Nat.le_of_ble_eq_true rfl) ?_
  intro p e s m args below meth c X hr hk
  have h := bs_i h0
  unfold m_X7_endsItem at h
  show J p l e rm_X7_endsItem s m args below meth c (Qint below args s w res) w 3 G 0 [(0, .ref (w.1 5)), (1, .int p1), (2, .ref (w.1 3))] []
  refine j_iload_n X dX7_endsItem_0 rfl 1 rfl ?_
  refine j_bipush (v := 59) X dX7_endsItem_1 (by decide) ?_
  refine j_icmp_eq X 8 dX7_endsItem_3 (by decide) (fun c_1 => ?_) (fun c_1 => ?_)
  · have h := bi_t c_1 h
    refine j_aload_n X dX7_endsItem_8 rfl 0 rfl ?_
    refine j_getI (C := RX7) (T := TX7) (N := 8) X 5 s_5 rfl hin_X7 2 (by decide) rfl q_103 dX7_endsItem_9 ?_
    refine j_iconst (v := 4) X dX7_endsItem_12 (by decide) ?_
    have h := bb_a h
    have Hv_2 : ∀ v_2 : Mem, (some (1, upm v_2 5 2 0)).bind some = some res → J p l e rm_X7_endsItem s m args below meth c (Qint below args s w res) w 3 v_2 47 [(0, .ref (w.1 5))] [] := by
      intro v_2 h
      refine j_aload_n X dX7_endsItem_47 rfl 0 rfl ?_
      refine j_iconst (v := 0) X dX7_endsItem_48 (by decide) ?_
      refine j_putI (C := RX7) (T := TX7) (N := 8) X tyX7 tyX7_ok nmX7 5 s_5 rfl hin_X7 2 (by decide) rfl q_103 rfl rfl dX7_endsItem_49 ?_
      refine j_iconst (v := 1) X dX7_endsItem_52 (by decide) ?_
      exact j_zret X hr hk (by decide) dX7_endsItem_53 (Option.some.inj h)
    refine j_icmp_ne X 31 dX7_endsItem_13 (by decide) (fun c_3 => ?_) (fun c_3 => ?_)
    · have h := bi_f c_3 h
      refine j_aload_n X dX7_endsItem_31 rfl 2 rfl ?_
      refine j_aload_n X dX7_endsItem_32 rfl 0 rfl ?_
      refine j_getI (C := RX7) (T := TX7) (N := 8) X 5 s_5 rfl hin_X7 5 (by decide) rfl q_106 dX7_endsItem_33 ?_
      refine j_aload_n X dX7_endsItem_36 rfl 0 rfl ?_
      refine j_getI (C := RX7) (T := TX7) (N := 8) X 5 s_5 rfl hin_X7 6 (by decide) rfl q_107 dX7_endsItem_37 ?_
      refine j_aload_n X dX7_endsItem_40 rfl 0 rfl ?_
      refine j_getI (C := RX7) (T := TX7) (N := 8) X 5 s_5 rfl hin_X7 7 (by decide) rfl q_108 dX7_endsItem_41 ?_
      obtain ⟨q_4, hq_4, h⟩ := bd_s h
      refine j_callVv (As := [.int (G 5 5), .int (G 5 6), .int (G 5 7)]) X 3 s_3 rfl (c_X6_addSaying l w G 3 (Or.inr rfl) (G 5 5) (G 5 6) (G 5 7) hq_4) rfl pn_X6_addSaying q_459 q_460 q_461 q_60 q_462 ⟨Nat.le_of_ble_eq_true rfl, Nat.le_of_ble_eq_true rfl⟩ (Nat.le_of_ble_eq_true rfl) rfl dX7_endsItem_44 ?_
      refine j_pick [0] rfl ?_
      exact Hv_2 q_4 h
    · have h := bi_t c_3 h
      refine j_aload_n X dX7_endsItem_16 rfl 2 rfl ?_
      refine j_aload_n X dX7_endsItem_17 rfl 0 rfl ?_
      refine j_getI (C := RX7) (T := TX7) (N := 8) X 5 s_5 rfl hin_X7 4 (by decide) rfl q_105 dX7_endsItem_18 ?_
      refine j_aload_n X dX7_endsItem_21 rfl 0 rfl ?_
      refine j_getI (C := RX7) (T := TX7) (N := 8) X 5 s_5 rfl hin_X7 3 (by decide) rfl q_104 dX7_endsItem_22 ?_
      obtain ⟨q_5, hq_5, h⟩ := bd_s h
      refine j_callVv (As := [.int (G 5 4), .int (G 5 3)]) X 3 s_3 rfl (c_X6_addClause l w G 3 (Or.inr rfl) (G 5 4) (G 5 3) hq_5) rfl pn_X6_addClause q_443 q_444 q_445 q_60 q_446 ⟨Nat.le_of_ble_eq_true rfl, Nat.le_of_ble_eq_true rfl⟩ (Nat.le_of_ble_eq_true rfl) rfl dX7_endsItem_25 ?_
      refine j_goto X 47 dX7_endsItem_28 (by decide) ?_
      refine j_pick [0] rfl ?_
      exact Hv_2 q_5 h
  · have h := bi_f c_1 h
    refine j_iconst (v := 0) X dX7_endsItem_6 (by decide) ?_
    exact j_zret X hr hk (by decide) dX7_endsItem_7 (Option.some.inj h)
abbrev rm_X7_givesSecond : Room := { frames := 2, cells := 0, slots := 0, locals := 42 }
theorem pn_X7_givesSecond : yX7_givesSecond.cls ≠ "java/lang/invoke/MethodHandle" ∧ yX7_givesSecond.cls ≠ "java/lang/invoke/VarHandle" ∧ (parseMethodDescriptor yX7_givesSecond.desc).map (fun d => d.parameters.length) = some 2 := by decide +kernel
def m_X7_givesSecond (G : Mem) (p1 : Int32) : Option (Int32 × Mem) := (m_X7_timeOf G p1).bind (fun r_1 => (if ((upm (upm G 5 7 r_1) 5 2 5) 5 7) = (-9) then some (0, upm (upm G 5 7 r_1) 5 2 5) else (if ((upm (upm G 5 7 r_1) 5 2 5) 5 7) = ((upm (upm G 5 7 r_1) 5 2 5) 5 5) then some (0, upm (upm G 5 7 r_1) 5 2 5) else some (1, upm (upm G 5 7 r_1) 5 2 5))))
set_option maxRecDepth 100000 in
set_option maxHeartbeats 4000000 in
theorem c_X7_givesSecond (l : Launch) (w : WP) (G : Mem) (p1 : Int32) {res : Int32 × Mem} (h0 : m_X7_givesSecond G p1 = some res) : CMi l yX7_givesSecond cX7_givesSecond 3 (some .boolean) 2 42 w [.ref (w.1 5), .int p1, .ref (w.1 3)] G res := by
  refine CMi.of (by decide +kernel) (Nat.le_of_ble_eq_true rfl) ?_
  intro p e s m args below meth c X hr hk
  have h := bs_i h0
  unfold m_X7_givesSecond at h
  show J p l e rm_X7_givesSecond s m args below meth c (Qint below args s w res) w 3 G 0 [(0, .ref (w.1 5)), (1, .int p1), (2, .ref (w.1 3))] []
  refine j_aload_n X dX7_givesSecond_0 rfl 0 rfl ?_
  refine j_iload_n X dX7_givesSecond_1 rfl 1 rfl ?_
  refine j_aload_n X dX7_givesSecond_2 rfl 2 rfl ?_
  obtain ⟨r_1, hr_1, h⟩ := bd_s h
  refine j_callSi (As := [.int p1, .ref (w.1 3)]) X (c_X7_timeOf l w G  p1 hr_1) pn_X7_timeOf q_319 q_320 q_61 q_321 ⟨Nat.le_of_ble_eq_true rfl, Nat.le_of_ble_eq_true rfl⟩ (Nat.le_of_ble_eq_true rfl) rfl dX7_givesSecond_3 ?_
  refine j_putI (C := RX7) (T := TX7) (N := 8) X tyX7 tyX7_ok nmX7 5 s_5 rfl hin_X7 7 (by decide) rfl q_108 rfl rfl dX7_givesSecond_6 ?_
  refine j_aload_n X dX7_givesSecond_9 rfl 0 rfl ?_
  refine j_iconst (v := 5) X dX7_givesSecond_10 (by decide) ?_
  refine j_putI (C := RX7) (T := TX7) (N := 8) X tyX7 tyX7_ok nmX7 5 s_5 rfl hin_X7 2 (by decide) rfl q_103 rfl rfl dX7_givesSecond_11 ?_
  refine j_aload_n X dX7_givesSecond_14 rfl 0 rfl ?_
  refine j_getI (C := RX7) (T := TX7) (N := 8) X 5 s_5 rfl hin_X7 7 (by decide) rfl q_108 dX7_givesSecond_15 ?_
  refine j_bipush (v := (-9)) X dX7_givesSecond_18 (by decide) ?_
  refine j_icmp_eq X 38 dX7_givesSecond_20 (by decide) (fun c_2 => ?_) (fun c_2 => ?_)
  · have h := bi_t c_2 h
    refine j_iconst (v := 0) X dX7_givesSecond_38 (by decide) ?_
    exact j_zret X hr hk (by decide) dX7_givesSecond_39 (Option.some.inj h)
  · have h := bi_f c_2 h
    refine j_aload_n X dX7_givesSecond_23 rfl 0 rfl ?_
    refine j_getI (C := RX7) (T := TX7) (N := 8) X 5 s_5 rfl hin_X7 7 (by decide) rfl q_108 dX7_givesSecond_24 ?_
    refine j_aload_n X dX7_givesSecond_27 rfl 0 rfl ?_
    refine j_getI (C := RX7) (T := TX7) (N := 8) X 5 s_5 rfl hin_X7 5 (by decide) rfl q_106 dX7_givesSecond_28 ?_
    refine j_icmp_eq X 38 dX7_givesSecond_31 (by decide) (fun c_3 => ?_) (fun c_3 => ?_)
    · have h := bi_t c_3 h
      refine j_iconst (v := 0) X dX7_givesSecond_38 (by decide) ?_
      exact j_zret X hr hk (by decide) dX7_givesSecond_39 (Option.some.inj h)
    · have h := bi_f c_3 h
      refine j_iconst (v := 1) X dX7_givesSecond_34 (by decide) ?_
      refine j_goto X 39 dX7_givesSecond_35 (by decide) ?_
      exact j_zret X hr hk (by decide) dX7_givesSecond_39 (Option.some.inj h)
abbrev rm_X7_givesSign : Room := { frames := 4, cells := 0, slots := 0, locals := 91 }
theorem pn_X7_givesSign : yX7_givesSign.cls ≠ "java/lang/invoke/MethodHandle" ∧ yX7_givesSign.cls ≠ "java/lang/invoke/VarHandle" ∧ (parseMethodDescriptor yX7_givesSign.desc).map (fun d => d.parameters.length) = some 1 := by decide +kernel
def m_X7_givesSign (G : Mem) (p1 : Int32) : Option (Int32 × Mem) := (m_J0_indexOf_0f7a4 2 ((p1.toUInt32 % 65536).toInt32)).bind (fun r_1 => (if ((upm (upm G 5 6 r_1) 5 2 3) 5 6) < 0 then some (0, upm (upm G 5 6 r_1) 5 2 3) else some (1, upm (upm G 5 6 r_1) 5 2 3)))
set_option maxRecDepth 100000 in
set_option maxHeartbeats 4000000 in
theorem c_X7_givesSign (l : Launch) (w : WP) (G : Mem) (p1 : Int32) {res : Int32 × Mem} (h0 : m_X7_givesSign G p1 = some res) : CMi l yX7_givesSign cX7_givesSign 2 (some .boolean) 4 91 w [.ref (w.1 5), .int p1] G res := by
  refine CMi.of (by decide +kernel) (Nat.le_of_ble_eq_true rfl) ?_
  intro p e s m args below meth c X hr hk
  have h := bs_i h0
  unfold m_X7_givesSign at h
  show J p l e rm_X7_givesSign s m args below meth c (Qint below args s w res) w 2 G 0 [(0, .ref (w.1 5)), (1, .int p1)] []
  refine j_aload_n X dX7_givesSign_0 rfl 0 rfl ?_
  refine j_ldcS X dX7_givesSign_1 X.2.2.2.2.2.2.2.1.2.2 ?_
  refine j_iload_n X dX7_givesSign_3 rfl 1 rfl ?_
  refine j_i2c (v := (p1.toUInt32 % 65536).toInt32) X dX7_givesSign_4 rfl ?_
  obtain ⟨r_1, hr_1, h⟩ := bd_s h
  refine j_callTi (As := [.int ((p1.toUInt32 % 65536).toInt32)]) X 2 (by decide) (c_J0_indexOf_0f7a4 l w G 2 (by decide) ((p1.toUInt32 % 65536).toInt32) hr_1) rfl pn_J0_indexOf_0f7a4 q_343 q_344 q_345 q_69 q_346 ⟨Nat.le_of_ble_eq_true rfl, Nat.le_of_ble_eq_true rfl⟩ (Nat.le_of_ble_eq_true rfl) rfl dX7_givesSign_5 ?_
  refine j_putI (C := RX7) (T := TX7) (N := 8) X tyX7 tyX7_ok nmX7 5 s_5 rfl hin_X7 6 (by decide) rfl q_107 rfl rfl dX7_givesSign_8 ?_
  refine j_aload_n X dX7_givesSign_11 rfl 0 rfl ?_
  refine j_iconst (v := 3) X dX7_givesSign_12 (by decide) ?_
  refine j_putI (C := RX7) (T := TX7) (N := 8) X tyX7 tyX7_ok nmX7 5 s_5 rfl hin_X7 2 (by decide) rfl q_103 rfl rfl dX7_givesSign_13 ?_
  refine j_aload_n X dX7_givesSign_16 rfl 0 rfl ?_
  refine j_getI (C := RX7) (T := TX7) (N := 8) X 5 s_5 rfl hin_X7 6 (by decide) rfl q_107 dX7_givesSign_17 ?_
  refine j_if_lt X 27 dX7_givesSign_20 (by decide) (fun c_2 => ?_) (fun c_2 => ?_)
  · have h := bi_t c_2 h
    refine j_iconst (v := 0) X dX7_givesSign_27 (by decide) ?_
    exact j_zret X hr hk (by decide) dX7_givesSign_28 (Option.some.inj h)
  · have h := bi_f c_2 h
    refine j_iconst (v := 1) X dX7_givesSign_23 (by decide) ?_
    refine j_goto X 28 dX7_givesSign_24 (by decide) ?_
    exact j_zret X hr hk (by decide) dX7_givesSign_28 (Option.some.inj h)
abbrev rm_X7_passes : Room := { frames := 6, cells := 0, slots := 0, locals := 134 }
theorem pn_X7_passes : yX7_passes.cls ≠ "java/lang/invoke/MethodHandle" ∧ yX7_passes.cls ≠ "java/lang/invoke/VarHandle" ∧ (parseMethodDescriptor yX7_passes.desc).map (fun d => d.parameters.length) = some 2 := by decide +kernel
def m_X7_passes (G : Mem) (p1 : Int32) : Option (Int32 × Mem) := (if (G 5 2) = 0 then (m_X7_beginsItem G p1).bind (fun q_2 => some (q_2.1 &&& 1, q_2.2)) else (if (G 5 2) = 1 then (m_X7_givesTense G p1).bind (fun q_4 => some (q_4.1 &&& 1, q_4.2)) else (if (G 5 2) = 2 then (m_X7_givesSign G p1).bind (fun q_6 => some (q_6.1 &&& 1, q_6.2)) else (if (G 5 2) = 3 then (m_X7_givesSecond G p1).bind (fun q_8 => some (q_8.1 &&& 1, q_8.2)) else (m_X7_endsItem G p1).bind (fun q_9 => some (q_9.1 &&& 1, q_9.2))))))
set_option maxRecDepth 100000 in
set_option maxHeartbeats 4000000 in
theorem c_X7_passes (l : Launch) (w : WP) (G : Mem) (p1 : Int32) {res : Int32 × Mem} (h0 : m_X7_passes G p1 = some res) : CMi l yX7_passes cX7_passes 3 (some .boolean) 6 134 w [.ref (w.1 5), .int p1, .ref (w.1 3)] G res := by
  refine CMi.of (by decide +kernel) (Nat.le_of_ble_eq_true rfl) ?_
  intro p e s m args below meth c X hr hk
  have h := bs_i h0
  unfold m_X7_passes at h
  show J p l e rm_X7_passes s m args below meth c (Qint below args s w res) w 3 G 0 [(0, .ref (w.1 5)), (1, .int p1), (2, .ref (w.1 3))] []
  refine j_aload_n X dX7_passes_0 rfl 0 rfl ?_
  refine j_getI (C := RX7) (T := TX7) (N := 8) X 5 s_5 rfl hin_X7 2 (by decide) rfl q_103 dX7_passes_1 ?_
  by_cases c_1 : (G 5 2) = 0
  · have h := bi_t c_1 h
    refine j_tabAt (v := 0) X 36 dX7_passes_4 c_1 (by decide) (by decide) rfl (by decide) ?_
    refine j_aload_n X dX7_passes_36 rfl 0 rfl ?_
    refine j_iload_n X dX7_passes_37 rfl 1 rfl ?_
    refine j_aload_n X dX7_passes_38 rfl 2 rfl ?_
    obtain ⟨q_2, hq_2, h⟩ := bd_s h
    refine j_callVi (As := [.int p1, .ref (w.1 3)]) X 5 s_5 rfl (c_X7_beginsItem l w G  p1 hq_2) rfl pn_X7_beginsItem q_311 q_313 q_1 q_61 q_314 ⟨Nat.le_of_ble_eq_true rfl, Nat.le_of_ble_eq_true rfl⟩ (Nat.le_of_ble_eq_true rfl) rfl dX7_passes_39 ?_
    exact j_zret X hr hk rfl dX7_passes_42 (Option.some.inj h)
  have h := bi_f c_1 h
  by_cases c_3 : (G 5 2) = 1
  · have h := bi_t c_3 h
    refine j_tabAt (v := 1) X 43 dX7_passes_4 c_3 (by decide) (by decide) rfl (by decide) ?_
    refine j_aload_n X dX7_passes_43 rfl 0 rfl ?_
    refine j_iload_n X dX7_passes_44 rfl 1 rfl ?_
    obtain ⟨q_4, hq_4, h⟩ := bd_s h
    refine j_callVi (As := [.int p1]) X 5 s_5 rfl (c_X7_givesTense l w G  p1 hq_4) rfl pn_X7_givesTense q_338 q_340 q_3 q_61 q_341 ⟨Nat.le_of_ble_eq_true rfl, Nat.le_of_ble_eq_true rfl⟩ (Nat.le_of_ble_eq_true rfl) rfl dX7_passes_45 ?_
    exact j_zret X hr hk rfl dX7_passes_48 (Option.some.inj h)
  have h := bi_f c_3 h
  by_cases c_5 : (G 5 2) = 2
  · have h := bi_t c_5 h
    refine j_tabAt (v := 2) X 49 dX7_passes_4 c_5 (by decide) (by decide) rfl (by decide) ?_
    refine j_aload_n X dX7_passes_49 rfl 0 rfl ?_
    refine j_iload_n X dX7_passes_50 rfl 1 rfl ?_
    obtain ⟨q_6, hq_6, h⟩ := bd_s h
    refine j_callVi (As := [.int p1]) X 5 s_5 rfl (c_X7_givesSign l w G  p1 hq_6) rfl pn_X7_givesSign q_430 q_432 q_4 q_61 q_433 ⟨Nat.le_of_ble_eq_true rfl, Nat.le_of_ble_eq_true rfl⟩ (Nat.le_of_ble_eq_true rfl) rfl dX7_passes_51 ?_
    exact j_zret X hr hk rfl dX7_passes_54 (Option.some.inj h)
  have h := bi_f c_5 h
  by_cases c_7 : (G 5 2) = 3
  · have h := bi_t c_7 h
    refine j_tabAt (v := 3) X 55 dX7_passes_4 c_7 (by decide) (by decide) rfl (by decide) ?_
    refine j_aload_n X dX7_passes_55 rfl 0 rfl ?_
    refine j_iload_n X dX7_passes_56 rfl 1 rfl ?_
    refine j_aload_n X dX7_passes_57 rfl 2 rfl ?_
    obtain ⟨q_8, hq_8, h⟩ := bd_s h
    refine j_callVi (As := [.int p1, .ref (w.1 3)]) X 5 s_5 rfl (c_X7_givesSecond l w G  p1 hq_8) rfl pn_X7_givesSecond q_435 q_437 q_5 q_61 q_438 ⟨Nat.le_of_ble_eq_true rfl, Nat.le_of_ble_eq_true rfl⟩ (Nat.le_of_ble_eq_true rfl) rfl dX7_passes_58 ?_
    exact j_zret X hr hk rfl dX7_passes_61 (Option.some.inj h)
  have h := bi_f c_7 h
  refine j_tabOut X 62 dX7_passes_4 (by have z0 := lv_neT (a := 0) c_1 (by decide); have z1 := lv_neT (a := 1) c_3 (by decide); have z2 := lv_neT (a := 2) c_5 (by decide); have z3 := lv_neT (a := 3) c_7 (by decide); omega) (by decide) ?_
  refine j_aload_n X dX7_passes_62 rfl 0 rfl ?_
  refine j_iload_n X dX7_passes_63 rfl 1 rfl ?_
  refine j_aload_n X dX7_passes_64 rfl 2 rfl ?_
  obtain ⟨q_9, hq_9, h⟩ := bd_s h
  refine j_callVi (As := [.int p1, .ref (w.1 3)]) X 5 s_5 rfl (c_X7_endsItem l w G  p1 hq_9) rfl pn_X7_endsItem q_439 q_441 q_6 q_61 q_442 ⟨Nat.le_of_ble_eq_true rfl, Nat.le_of_ble_eq_true rfl⟩ (Nat.le_of_ble_eq_true rfl) rfl dX7_passes_65 ?_
  exact j_zret X hr hk rfl dX7_passes_68 (Option.some.inj h)
abbrev rm_X7_readInto : Room := { frames := 7, cells := 0, slots := 0, locals := 156 }
theorem pn_X7_readInto : yX7_readInto.cls ≠ "java/lang/invoke/MethodHandle" ∧ yX7_readInto.cls ≠ "java/lang/invoke/VarHandle" ∧ (parseMethodDescriptor yX7_readInto.desc).map (fun d => d.parameters.length) = some 1 := by decide +kernel
def L_X7_readInto_11 : Nat → Int32 → Mem → Option ((Mem) ⊕ (Int32 × Mem))
  | 0, _, _ => none
  | n + 1, x2, G => (if (G 5 1) ≤ x2 then some (Sum.inl G) else (if 80 ≤ x2 then some (Sum.inl G) else (ald 80 G 6 x2).bind (fun r_4 => (if r_4 = 32 then L_X7_readInto_11  n (x2 + 1) G else (ald 80 G 6 x2).bind (fun r_6 => (m_X7_passes G r_6).bind (fun q_7 => (if q_7.1 = 0 then some (Sum.inr (x2, q_7.2)) else L_X7_readInto_11  n (x2 + 1) q_7.2)))))))
def m_X7_readInto (G : Mem) : Option (Int32 × Mem) := (m_X6_empty G 3).bind (fun q_1 => (L_X7_readInto_11  NF 0 (upm q_1 5 2 0)).bind (fun o_v_9 => (match o_v_9 with | Sum.inl v_9 => (if (v_9 5 2) = 0 then some ((-9), v_9) else some (v_9 5 1, v_9)) | Sum.inr v_11 => some v_11)))
set_option maxRecDepth 100000 in
set_option maxHeartbeats 4000000 in
theorem jL_X7_readInto_11 {p : Program} {l : Launch} {e : Env} {s : State} {m : MethodId} {args : Array Value} {below : List Frame} {meth : Method} {c : Code} {w : WP} (X : fw_X p s m args c cX7_readInto 3 RX7 w) (hr : meth.sig.returnType = (some .int)) (hk : meth.locks = false) {res : Int32 × Mem} {K : (Mem) ⊕ (Int32 × Mem) → Option (Int32 × Mem)} (HK : ∀ v : Mem, K (Sum.inl v) = some res → J p l e rm_X7_readInto s m args below meth c (Qint below args s w res) w 3 v 61 [(0, .ref (w.1 5))] []) (HR : ∀ v : Int32 × Mem, K (Sum.inr v) = some res → v = res) : ∀ (n : Nat) (x2 : Int32) (G : Mem), (L_X7_readInto_11  n x2 G).bind K = some res → J p l e rm_X7_readInto s m args below meth c (Qint below args s w res) w 3 G 11 [(0, .ref (w.1 5)), (1, .ref (w.1 3)), (2, .int x2)] [] := by
  intro n
  induction n with
  | zero =>
    intro x2 G h
    rw [L_X7_readInto_11] at h
    cases h
  | succ n ih =>
    intro x2 G h
    rw [L_X7_readInto_11] at h
    refine j_iload_n X dX7_readInto_11 rfl 2 rfl ?_
    refine j_aload_n X dX7_readInto_12 rfl 0 rfl ?_
    refine j_getI (C := RX7) (T := TX7) (N := 8) X 5 s_5 rfl hin_X7 1 (by decide) rfl q_102 dX7_readInto_13 ?_
    refine j_icmp_ge X 61 dX7_readInto_16 (by decide) (fun c_2 => ?_) (fun c_2 => ?_)
    · have h := bi_t c_2 h
      refine j_pick [0] rfl ?_
      exact HK G h
    · have h := bi_f c_2 h
      refine j_iload_n X dX7_readInto_19 rfl 2 rfl ?_
      refine j_aload_n X dX7_readInto_20 rfl 0 rfl ?_
      refine j_getR (C := RX7) (T := TX7) (N := 8) X 5 s_5 rfl hin_X7 0 (by decide) 6 rfl q_101 dX7_readInto_21 ?_
      refine j_alenI X 6 80 s_6 (show Int32.ofNat 80 = 80 from rfl) dX7_readInto_24 ?_
      refine j_icmp_ge X 61 dX7_readInto_25 (by decide) (fun c_3 => ?_) (fun c_3 => ?_)
      · have h := bi_t c_3 h
        refine j_pick [0] rfl ?_
        exact HK G h
      · have h := bi_f c_3 h
        refine j_aload_n X dX7_readInto_28 rfl 0 rfl ?_
        refine j_getR (C := RX7) (T := TX7) (N := 8) X 5 s_5 rfl hin_X7 0 (by decide) 6 rfl q_101 dX7_readInto_29 ?_
        refine j_iload_n X dX7_readInto_32 rfl 2 rfl ?_
        obtain ⟨r_4, hr_4, h⟩ := bd_s h
        refine j_iald X 6 80 s_6 hr_4 dX7_readInto_33 ?_
        refine j_bipush (v := 32) X dX7_readInto_34 (by decide) ?_
        refine j_icmp_eq X 55 dX7_readInto_36 (by decide) (fun c_5 => ?_) (fun c_5 => ?_)
        · have h := bi_t c_5 h
          refine j_iinc (v := x2 + 1) X [(2, .int (x2 + 1)), (0, .ref (w.1 5)), (1, .ref (w.1 3))] dX7_readInto_55 2 rfl rfl (by decide) rfl ?_
          refine j_goto X 11 dX7_readInto_58 (by decide) ?_
          refine j_pick [1, 2, 0] rfl ?_
          exact ih (x2 + 1) G h
        · have h := bi_f c_5 h
          refine j_aload_n X dX7_readInto_39 rfl 0 rfl ?_
          refine j_aload_n X dX7_readInto_40 rfl 0 rfl ?_
          refine j_getR (C := RX7) (T := TX7) (N := 8) X 5 s_5 rfl hin_X7 0 (by decide) 6 rfl q_101 dX7_readInto_41 ?_
          refine j_iload_n X dX7_readInto_44 rfl 2 rfl ?_
          obtain ⟨r_6, hr_6, h⟩ := bd_s h
          refine j_iald X 6 80 s_6 hr_6 dX7_readInto_45 ?_
          refine j_aload_n X dX7_readInto_46 rfl 1 rfl ?_
          obtain ⟨q_7, hq_7, h⟩ := bd_s h
          refine j_callVi (As := [.int r_6, .ref (w.1 3)]) X 5 s_5 rfl (c_X7_passes l w G  r_6 hq_7) rfl pn_X7_passes q_307 q_309 q_0 q_61 q_310 ⟨Nat.le_of_ble_eq_true rfl, Nat.le_of_ble_eq_true rfl⟩ (Nat.le_of_ble_eq_true rfl) rfl dX7_readInto_47 ?_
          refine j_if_ne X 55 dX7_readInto_50 (by decide) (fun c_8 => ?_) (fun c_8 => ?_)
          · have h := bi_f c_8 h
            refine j_iinc (v := x2 + 1) X [(2, .int (x2 + 1)), (0, .ref (w.1 5)), (1, .ref (w.1 3))] dX7_readInto_55 2 rfl rfl (by decide) rfl ?_
            refine j_goto X 11 dX7_readInto_58 (by decide) ?_
            refine j_pick [1, 2, 0] rfl ?_
            exact ih (x2 + 1) q_7.2 h
          · have h := bi_t c_8 h
            refine j_iload_n X dX7_readInto_53 rfl 2 rfl ?_
            exact j_iret X hr hk dX7_readInto_54 (HR _ h)
set_option maxRecDepth 100000 in
set_option maxHeartbeats 4000000 in
theorem c_X7_readInto (l : Launch) (w : WP) (G : Mem) {res : Int32 × Mem} (h0 : m_X7_readInto G = some res) : CMi l yX7_readInto cX7_readInto 3 (some .int) 7 156 w [.ref (w.1 5), .ref (w.1 3)] G res := by
  refine CMi.of (by decide +kernel) (Nat.le_of_ble_eq_true rfl) ?_
  intro p e s m args below meth c X hr hk
  have h := bs_i h0
  unfold m_X7_readInto at h
  show J p l e rm_X7_readInto s m args below meth c (Qint below args s w res) w 3 G 0 [(0, .ref (w.1 5)), (1, .ref (w.1 3))] []
  refine j_aload_n X dX7_readInto_0 rfl 1 rfl ?_
  obtain ⟨q_1, hq_1, h⟩ := bd_s h
  refine j_callVv (As := []) X 3 s_3 rfl (c_X6_empty l w G 3 (Or.inr rfl)  hq_1) rfl pn_X6_empty q_303 q_304 q_305 q_60 q_306 ⟨Nat.le_of_ble_eq_true rfl, Nat.le_of_ble_eq_true rfl⟩ (Nat.le_of_ble_eq_true rfl) rfl dX7_readInto_1 ?_
  refine j_aload_n X dX7_readInto_4 rfl 0 rfl ?_
  refine j_iconst (v := 0) X dX7_readInto_5 (by decide) ?_
  refine j_putI (C := RX7) (T := TX7) (N := 8) X tyX7 tyX7_ok nmX7 5 s_5 rfl hin_X7 2 (by decide) rfl q_103 rfl rfl dX7_readInto_6 ?_
  refine j_iconst (v := 0) X dX7_readInto_9 (by decide) ?_
  refine j_istore_n X [(2, .int 0), (0, .ref (w.1 5)), (1, .ref (w.1 3))] dX7_readInto_10 rfl (by decide) rfl ?_
  have h := bb_a h
  have Hv_9 : ∀ v_9 : Mem, ((if (v_9 5 2) = 0 then some ((-9), v_9) else some (v_9 5 1, v_9))).bind some = some res → J p l e rm_X7_readInto s m args below meth c (Qint below args s w res) w 3 v_9 61 [(0, .ref (w.1 5))] [] := by
    intro v_9 h
    refine j_aload_n X dX7_readInto_61 rfl 0 rfl ?_
    refine j_getI (C := RX7) (T := TX7) (N := 8) X 5 s_5 rfl hin_X7 2 (by decide) rfl q_103 dX7_readInto_62 ?_
    refine j_if_ne X 73 dX7_readInto_65 (by decide) (fun c_10 => ?_) (fun c_10 => ?_)
    · have h := bi_f c_10 h
      refine j_aload_n X dX7_readInto_73 rfl 0 rfl ?_
      refine j_getI (C := RX7) (T := TX7) (N := 8) X 5 s_5 rfl hin_X7 1 (by decide) rfl q_102 dX7_readInto_74 ?_
      exact j_iret X hr hk dX7_readInto_77 (Option.some.inj h)
    · have h := bi_t c_10 h
      refine j_bipush (v := (-9)) X dX7_readInto_68 (by decide) ?_
      refine j_goto X 77 dX7_readInto_70 (by decide) ?_
      exact j_iret X hr hk dX7_readInto_77 (Option.some.inj h)
  refine j_pick [1, 2, 0] rfl ?_
  exact jL_X7_readInto_11 (K := fun o_v_9 => ((match o_v_9 with | Sum.inl v_9 => (if (v_9 5 2) = 0 then some ((-9), v_9) else some (v_9 5 1, v_9)) | Sum.inr v_11 => some v_11)).bind some) X hr hk Hv_9 (fun z h => Option.some.inj h) NF 0 (upm q_1 5 2 0) h
abbrev rm_X7_size : Room := { frames := 0, cells := 0, slots := 0, locals := 0 }
theorem pn_X7_size : yX7_size.cls ≠ "java/lang/invoke/MethodHandle" ∧ yX7_size.cls ≠ "java/lang/invoke/VarHandle" ∧ (parseMethodDescriptor yX7_size.desc).map (fun d => d.parameters.length) = some 0 := by decide +kernel
def m_X7_size (G : Mem) : Int32 := G 5 1
set_option maxRecDepth 100000 in
set_option maxHeartbeats 4000000 in
theorem c_X7_size (l : Launch) (w : WP) (G : Mem) : CMi l yX7_size cX7_size 1 (some .int) 0 0 w [.ref (w.1 5)] G (m_X7_size G, G) := by
  refine CMi.of (by decide +kernel) (Nat.le_of_ble_eq_true rfl) ?_
  intro p e s m args below meth c X hr hk
  obtain ⟨res, h⟩ : ∃ z, m_X7_size G = z := ⟨_, rfl⟩
  rw [h]
  unfold m_X7_size at h
  show J p l e rm_X7_size s m args below meth c (Qint below args s w (res, G)) w 1 G 0 [(0, .ref (w.1 5))] []
  refine j_aload_n X dX7_size_0 rfl 0 rfl ?_
  refine j_getI (C := RX7) (T := TX7) (N := 8) X 5 s_5 rfl hin_X7 1 (by decide) rfl q_102 dX7_size_1 ?_
  exact j_iret X hr hk dX7_size_4 (congrArg (fun z => (z, G)) (h))
abbrev rm_X8_back : Room := { frames := 3, cells := 0, slots := 0, locals := 65 }
theorem pn_X8_back : yX8_back.cls ≠ "java/lang/invoke/MethodHandle" ∧ yX8_back.cls ≠ "java/lang/invoke/VarHandle" ∧ (parseMethodDescriptor yX8_back.desc).map (fun d => d.parameters.length) = some 1 := by decide +kernel
def m_X8_back (G : Mem) (p1 : Int32) : Option (Int32 × Mem) := (if p1 < 0 then some ((-1), G) else (if p1 < 2 then (if (m_X0_isKept G p1) = 0 then some ((-2), G) else (m_X0_restore G p1).bind (fun q_4 => (m_X6_statements (m_X2_lose q_4) 1).bind (fun r_5 => some (r_5, m_X2_lose q_4)))) else some ((-1), G)))
set_option maxRecDepth 100000 in
set_option maxHeartbeats 4000000 in
theorem c_X8_back (l : Launch) (w : WP) (G : Mem) (p1 : Int32) {res : Int32 × Mem} (h0 : m_X8_back G p1 = some res) : CMi l yX8_back cX8_back 2 (some .int) 3 65 w [.ref (w.1 0), .int p1] G res := by
  refine CMi.of (by decide +kernel) (Nat.le_of_ble_eq_true rfl) ?_
  intro p e s m args below meth c X hr hk
  have h := bs_i h0
  unfold m_X8_back at h
  show J p l e rm_X8_back s m args below meth c (Qint below args s w res) w 2 G 0 [(0, .ref (w.1 0)), (1, .int p1)] []
  refine j_iload_n X dX8_back_0 rfl 1 rfl ?_
  refine j_if_lt X 9 dX8_back_1 (by decide) (fun c_1 => ?_) (fun c_1 => ?_)
  · have h := bi_t c_1 h
    refine j_iconst (v := (-1)) X dX8_back_9 (by decide) ?_
    exact j_iret X hr hk dX8_back_10 (Option.some.inj h)
  · have h := bi_f c_1 h
    refine j_iload_n X dX8_back_4 rfl 1 rfl ?_
    refine j_iconst (v := 2) X dX8_back_5 (by decide) ?_
    refine j_icmp_lt X 11 dX8_back_6 (by decide) (fun c_2 => ?_) (fun c_2 => ?_)
    · have h := bi_t c_2 h
      refine j_aload_n X dX8_back_11 rfl 0 rfl ?_
      refine j_getR (C := RX8) (T := TX8) (N := 9) X 0 s_0 rfl hin_X8 4 (by decide) 19 rfl q_251 dX8_back_12 ?_
      refine j_iload_n X dX8_back_15 rfl 1 rfl ?_
      refine j_callVi (As := [.int p1]) X 19 s_19 rfl (c_X0_isKept l w G  p1) rfl pn_X0_isKept q_842 q_843 q_844 q_63 q_845 ⟨Nat.le_of_ble_eq_true rfl, Nat.le_of_ble_eq_true rfl⟩ (Nat.le_of_ble_eq_true rfl) rfl dX8_back_16 ?_
      refine j_if_ne X 25 dX8_back_19 (by decide) (fun c_3 => ?_) (fun c_3 => ?_)
      · have h := bi_f c_3 h
        refine j_aload_n X dX8_back_25 rfl 0 rfl ?_
        refine j_getR (C := RX8) (T := TX8) (N := 9) X 0 s_0 rfl hin_X8 4 (by decide) 19 rfl q_251 dX8_back_26 ?_
        refine j_iload_n X dX8_back_29 rfl 1 rfl ?_
        refine j_aload_n X dX8_back_30 rfl 0 rfl ?_
        refine j_getR (C := RX8) (T := TX8) (N := 9) X 0 s_0 rfl hin_X8 0 (by decide) 1 rfl q_247 dX8_back_31 ?_
        obtain ⟨q_4, hq_4, h⟩ := bd_s h
        refine j_callVv (As := [.int p1, .ref (w.1 1)]) X 19 s_19 rfl (c_X0_restore l w G  p1 hq_4) rfl pn_X0_restore q_847 q_848 q_849 q_63 q_850 ⟨Nat.le_of_ble_eq_true rfl, Nat.le_of_ble_eq_true rfl⟩ (Nat.le_of_ble_eq_true rfl) rfl dX8_back_34 ?_
        refine j_aload_n X dX8_back_37 rfl 0 rfl ?_
        refine j_getR (C := RX8) (T := TX8) (N := 9) X 0 s_0 rfl hin_X8 3 (by decide) 7 rfl q_250 dX8_back_38 ?_
        refine j_callVv (As := []) X 7 s_7 rfl (c_X2_lose l w q_4  ) rfl pn_X2_lose q_474 q_475 q_476 q_62 q_477 ⟨Nat.le_of_ble_eq_true rfl, Nat.le_of_ble_eq_true rfl⟩ (Nat.le_of_ble_eq_true rfl) rfl dX8_back_41 ?_
        refine j_aload_n X dX8_back_44 rfl 0 rfl ?_
        refine j_getR (C := RX8) (T := TX8) (N := 9) X 0 s_0 rfl hin_X8 0 (by decide) 1 rfl q_247 dX8_back_45 ?_
        obtain ⟨r_5, hr_5, h⟩ := bd_s h
        refine j_callVi (As := []) X 1 s_1 rfl (c_X6_statements l w (m_X2_lose q_4) 1 (Or.inl rfl)  hr_5) rfl pn_X6_statements q_482 q_334 q_335 q_60 q_336 ⟨Nat.le_of_ble_eq_true rfl, Nat.le_of_ble_eq_true rfl⟩ (Nat.le_of_ble_eq_true rfl) rfl dX8_back_48 ?_
        exact j_iret X hr hk dX8_back_51 (Option.some.inj h)
      · have h := bi_t c_3 h
        refine j_bipush (v := (-2)) X dX8_back_22 (by decide) ?_
        exact j_iret X hr hk dX8_back_24 (Option.some.inj h)
    · have h := bi_f c_2 h
      refine j_iconst (v := (-1)) X dX8_back_9 (by decide) ?_
      exact j_iret X hr hk dX8_back_10 (Option.some.inj h)
abbrev rm_X8_orderSet : Room := { frames := 4, cells := 0, slots := 0, locals := 93 }
theorem pn_X8_orderSet : yX8_orderSet.cls ≠ "java/lang/invoke/MethodHandle" ∧ yX8_orderSet.cls ≠ "java/lang/invoke/VarHandle" ∧ (parseMethodDescriptor yX8_orderSet.desc).map (fun d => d.parameters.length) = some 1 := by decide +kernel
def L_X8_orderSet_9 (x1 : Int32) : Nat → Int32 → Mem → Option (Mem)
  | 0, _, _ => none
  | n + 1, x2, G => (m_X6_statements G 1).bind (fun r_2 => (if r_2 ≤ x2 then some G else ((if (m_X8_has x1 x2) = 0 then some G else (m_X6_tellOne G 1 27 x2).bind (fun q_6 => some q_6)) : Option (Mem)).bind (fun (v_4 : Mem) => L_X8_orderSet_9 x1 n (x2 + 1) v_4)))
def m_X8_orderSet (G : Mem) (p1 : Int32) : Option (Mem) := (m_X1_empty G 27).bind (fun q_1 => (L_X8_orderSet_9 p1 NF 0 q_1).bind (fun v_7 => some v_7))
set_option maxRecDepth 100000 in
set_option maxHeartbeats 4000000 in
theorem jL_X8_orderSet_9 {p : Program} {l : Launch} {e : Env} {s : State} {m : MethodId} {args : Array Value} {below : List Frame} {meth : Method} {c : Code} {w : WP} (X : fw_X p s m args c cX8_orderSet 3 RX8 w) (hr : meth.sig.returnType = none) (hk : meth.locks = false) {x1 : Int32} {res : Mem} {K : Mem → Option (Mem)} (HK : ∀ v : Mem, K v = some res → J p l e rm_X8_orderSet s m args below meth c (Qvoid below args s w res) w 3 v 46 [] []) : ∀ (n : Nat) (x2 : Int32) (G : Mem), (L_X8_orderSet_9 x1 n x2 G).bind K = some res → J p l e rm_X8_orderSet s m args below meth c (Qvoid below args s w res) w 3 G 9 [(0, .ref (w.1 0)), (1, .int x1), (2, .int x2)] [] := by
  intro n
  induction n with
  | zero =>
    intro x2 G h
    rw [L_X8_orderSet_9] at h
    cases h
  | succ n ih =>
    intro x2 G h
    rw [L_X8_orderSet_9] at h
    refine j_iload_n X dX8_orderSet_9 rfl 2 rfl ?_
    refine j_aload_n X dX8_orderSet_10 rfl 0 rfl ?_
    refine j_getR (C := RX8) (T := TX8) (N := 9) X 0 s_0 rfl hin_X8 0 (by decide) 1 rfl q_247 dX8_orderSet_11 ?_
    obtain ⟨r_2, hr_2, h⟩ := bd_s h
    refine j_callVi (As := []) X 1 s_1 rfl (c_X6_statements l w G 1 (Or.inl rfl)  hr_2) rfl pn_X6_statements q_482 q_334 q_335 q_60 q_336 ⟨Nat.le_of_ble_eq_true rfl, Nat.le_of_ble_eq_true rfl⟩ (Nat.le_of_ble_eq_true rfl) rfl dX8_orderSet_14 ?_
    refine j_icmp_ge X 46 dX8_orderSet_17 (by decide) (fun c_3 => ?_) (fun c_3 => ?_)
    · have h := bi_t c_3 h
      refine j_pick [] rfl ?_
      exact HK G h
    · have h := bi_f c_3 h
      refine j_iload_n X dX8_orderSet_20 rfl 1 rfl ?_
      refine j_iload_n X dX8_orderSet_21 rfl 2 rfl ?_
      refine j_callSi (As := [.int x1, .int x2]) X (c_X8_has l w G  x1 x2) pn_X8_has q_619 q_620 q_59 q_621 ⟨Nat.le_of_ble_eq_true rfl, Nat.le_of_ble_eq_true rfl⟩ (Nat.le_of_ble_eq_true rfl) rfl dX8_orderSet_22 ?_
      have h := bb_a h
      have Hv_4 : ∀ v_4 : Mem, (L_X8_orderSet_9 x1 n (x2 + 1) v_4).bind K = some res → J p l e rm_X8_orderSet s m args below meth c (Qvoid below args s w res) w 3 v_4 40 [(0, .ref (w.1 0)), (1, .int x1), (2, .int x2)] [] := by
        intro v_4 h
        refine j_iinc (v := x2 + 1) X [(2, .int (x2 + 1)), (0, .ref (w.1 0)), (1, .int x1)] dX8_orderSet_40 2 rfl rfl (by decide) rfl ?_
        refine j_goto X 9 dX8_orderSet_43 (by decide) ?_
        refine j_pick [1, 2, 0] rfl ?_
        exact ih (x2 + 1) v_4 h
      refine j_if_eq X 40 dX8_orderSet_25 (by decide) (fun c_5 => ?_) (fun c_5 => ?_)
      · have h := bi_t c_5 h
        refine j_pick [0, 1, 2] rfl ?_
        exact Hv_4 G h
      · have h := bi_f c_5 h
        refine j_aload_n X dX8_orderSet_28 rfl 0 rfl ?_
        refine j_getR (C := RX8) (T := TX8) (N := 9) X 0 s_0 rfl hin_X8 0 (by decide) 1 rfl q_247 dX8_orderSet_29 ?_
        refine j_iload_n X dX8_orderSet_32 rfl 2 rfl ?_
        refine j_aload_n X dX8_orderSet_33 rfl 0 rfl ?_
        refine j_getR (C := RX8) (T := TX8) (N := 9) X 0 s_0 rfl hin_X8 6 (by decide) 27 rfl q_253 dX8_orderSet_34 ?_
        obtain ⟨q_6, hq_6, h⟩ := bd_s h
        refine j_callVv (As := [.int x2, .ref (w.1 27)]) X 1 s_1 rfl (c_X6_tellOne l w G 1 (Or.inl rfl) 27 (Or.inl rfl) x2 hq_6) rfl pn_X6_tellOne q_622 q_623 q_624 q_60 q_625 ⟨Nat.le_of_ble_eq_true rfl, Nat.le_of_ble_eq_true rfl⟩ (Nat.le_of_ble_eq_true rfl) rfl dX8_orderSet_37 ?_
        refine j_pick [0, 1, 2] rfl ?_
        exact Hv_4 q_6 h
set_option maxRecDepth 100000 in
set_option maxHeartbeats 4000000 in
theorem c_X8_orderSet (l : Launch) (w : WP) (G : Mem) (p1 : Int32) {res : Mem} (h0 : m_X8_orderSet G p1 = some res) : CMv l yX8_orderSet cX8_orderSet 3 none 4 93 w [.ref (w.1 0), .int p1] G res := by
  refine CMv.of (by decide +kernel) (Nat.le_of_ble_eq_true rfl) ?_
  intro p e s m args below meth c X hr hk
  have h := bs_i h0
  unfold m_X8_orderSet at h
  show J p l e rm_X8_orderSet s m args below meth c (Qvoid below args s w res) w 3 G 0 [(0, .ref (w.1 0)), (1, .int p1)] []
  refine j_aload_n X dX8_orderSet_0 rfl 0 rfl ?_
  refine j_getR (C := RX8) (T := TX8) (N := 9) X 0 s_0 rfl hin_X8 6 (by decide) 27 rfl q_253 dX8_orderSet_1 ?_
  obtain ⟨q_1, hq_1, h⟩ := bd_s h
  refine j_callVv (As := []) X 27 s_27 rfl (c_X1_empty l w G 27 (Or.inl rfl)  hq_1) rfl pn_X1_empty q_615 q_616 q_617 q_65 q_618 ⟨Nat.le_of_ble_eq_true rfl, Nat.le_of_ble_eq_true rfl⟩ (Nat.le_of_ble_eq_true rfl) rfl dX8_orderSet_4 ?_
  refine j_iconst (v := 0) X dX8_orderSet_7 (by decide) ?_
  refine j_istore_n X [(2, .int 0), (0, .ref (w.1 0)), (1, .int p1)] dX8_orderSet_8 rfl (by decide) rfl ?_
  have h := bb_a h
  have Hv_7 : ∀ v_7 : Mem, (some v_7).bind some = some res → J p l e rm_X8_orderSet s m args below meth c (Qvoid below args s w res) w 3 v_7 46 [] [] := by
    intro v_7 h
    exact j_vret X hr hk dX8_orderSet_46 (Option.some.inj h)
  refine j_pick [1, 2, 0] rfl ?_
  exact jL_X8_orderSet_9 X hr hk Hv_7 NF 0 q_1 h
abbrev rm_X8_tallyAll : Room := { frames := 5, cells := 0, slots := 0, locals := 115 }
theorem pn_X8_tallyAll : yX8_tallyAll.cls ≠ "java/lang/invoke/MethodHandle" ∧ yX8_tallyAll.cls ≠ "java/lang/invoke/VarHandle" ∧ (parseMethodDescriptor yX8_tallyAll.desc).map (fun d => d.parameters.length) = some 0 := by decide +kernel
def m_X8_tallyAll (G : Mem) : Option (Mem) := (m_X6_everything G 1).bind (fun r_1 => (m_X8_orderSet G r_1).bind (fun q_2 => (m_X6_clauses q_2 1).bind (fun r_3 => (m_X5_fill q_2 r_3).bind (fun q_4 => some q_4))))
set_option maxRecDepth 100000 in
set_option maxHeartbeats 4000000 in
theorem c_X8_tallyAll (l : Launch) (w : WP) (G : Mem) {res : Mem} (h0 : m_X8_tallyAll G = some res) : CMv l yX8_tallyAll cX8_tallyAll 1 none 5 115 w [.ref (w.1 0)] G res := by
  refine CMv.of (by decide +kernel) (Nat.le_of_ble_eq_true rfl) ?_
  intro p e s m args below meth c X hr hk
  have h := bs_i h0
  unfold m_X8_tallyAll at h
  show J p l e rm_X8_tallyAll s m args below meth c (Qvoid below args s w res) w 1 G 0 [(0, .ref (w.1 0))] []
  refine j_aload_n X dX8_tallyAll_0 rfl 0 rfl ?_
  refine j_aload_n X dX8_tallyAll_1 rfl 0 rfl ?_
  refine j_getR (C := RX8) (T := TX8) (N := 9) X 0 s_0 rfl hin_X8 0 (by decide) 1 rfl q_247 dX8_tallyAll_2 ?_
  obtain ⟨r_1, hr_1, h⟩ := bd_s h
  refine j_callVi (As := []) X 1 s_1 rfl (c_X6_everything l w G 1 (Or.inl rfl)  hr_1) rfl pn_X6_everything q_607 q_608 q_609 q_60 q_610 ⟨Nat.le_of_ble_eq_true rfl, Nat.le_of_ble_eq_true rfl⟩ (Nat.le_of_ble_eq_true rfl) rfl dX8_tallyAll_5 ?_
  obtain ⟨q_2, hq_2, h⟩ := bd_s h
  refine j_callVv (As := [.int r_1]) X 0 s_0 rfl (c_X8_orderSet l w G  r_1 hq_2) rfl pn_X8_orderSet q_611 q_613 q_16 q_59 q_614 ⟨Nat.le_of_ble_eq_true rfl, Nat.le_of_ble_eq_true rfl⟩ (Nat.le_of_ble_eq_true rfl) rfl dX8_tallyAll_8 ?_
  refine j_aload_n X dX8_tallyAll_11 rfl 0 rfl ?_
  refine j_getR (C := RX8) (T := TX8) (N := 9) X 0 s_0 rfl hin_X8 8 (by decide) 66 rfl q_255 dX8_tallyAll_12 ?_
  refine j_aload_n X dX8_tallyAll_15 rfl 0 rfl ?_
  refine j_getR (C := RX8) (T := TX8) (N := 9) X 0 s_0 rfl hin_X8 6 (by decide) 27 rfl q_253 dX8_tallyAll_16 ?_
  refine j_aload_n X dX8_tallyAll_19 rfl 0 rfl ?_
  refine j_getR (C := RX8) (T := TX8) (N := 9) X 0 s_0 rfl hin_X8 0 (by decide) 1 rfl q_247 dX8_tallyAll_20 ?_
  obtain ⟨r_3, hr_3, h⟩ := bd_s h
  refine j_callVi (As := []) X 1 s_1 rfl (c_X6_clauses l w q_2 1 (Or.inl rfl)  hr_3) rfl pn_X6_clauses q_492 q_323 q_324 q_60 q_325 ⟨Nat.le_of_ble_eq_true rfl, Nat.le_of_ble_eq_true rfl⟩ (Nat.le_of_ble_eq_true rfl) rfl dX8_tallyAll_23 ?_
  obtain ⟨q_4, hq_4, h⟩ := bd_s h
  refine j_callVv (As := [.ref (w.1 27), .int r_3]) X 66 s_66 rfl (c_X5_fill l w q_2  r_3 hq_4) rfl pn_X5_fill q_737 q_738 q_739 q_67 q_740 ⟨Nat.le_of_ble_eq_true rfl, Nat.le_of_ble_eq_true rfl⟩ (Nat.le_of_ble_eq_true rfl) rfl dX8_tallyAll_26 ?_
  exact j_vret X hr hk dX8_tallyAll_29 (Option.some.inj h)
abbrev rm_X8_best : Room := { frames := 6, cells := 0, slots := 0, locals := 135 }
theorem pn_X8_best : yX8_best.cls ≠ "java/lang/invoke/MethodHandle" ∧ yX8_best.cls ≠ "java/lang/invoke/VarHandle" ∧ (parseMethodDescriptor yX8_best.desc).map (fun d => d.parameters.length) = some 1 := by decide +kernel
def L_X8_best_53 (x5 : Int32) (G : Mem) : Nat → Int32 → Int32 → Int32 → Int32 → Option (Int32 × Int32 × Int32)
  | 0, _, _, _, _ => none
  | n + 1, x2, x3, x4, x6 => (m_X6_clauses G 1).bind (fun r_7 => (if r_7 ≤ x6 then some (x2, x3, x4) else (m_X1_tells G 27 (m_X8_eventOf x5) (m_X8_eventOf x6)).bind (fun r_9 => ((if r_9 = 0 then (m_X5_worst G x5 x6).bind (fun r_12 => (if x4 = (-9) then some (x5, x6, r_12) else (if x4 ≤ r_12 then some (x2, x3, x4) else some (x5, x6, r_12)))) else some (x2, x3, x4)) : Option (Int32 × Int32 × Int32)).bind (fun (v_10 : Int32 × Int32 × Int32) => L_X8_best_53 x5 G n v_10.1 v_10.2.1 v_10.2.2 (x6 + 1)))))
def L_X8_best_35 (G : Mem) : Nat → Int32 → Int32 → Int32 → Int32 → Option (Int32 × Int32 × Int32)
  | 0, _, _, _, _ => none
  | n + 1, x2, x3, x4, x5 => (m_X6_clauses G 1).bind (fun r_5 => (if r_5 ≤ x5 then some (x2, x3, x4) else (L_X8_best_53 x5 G NF x2 x3 x4 (x5 + 1)).bind (fun v_15 => L_X8_best_35 G n v_15.1 v_15.2.1 v_15.2.2 (x5 + 1))))
def m_X8_best (G : Mem) (p1 : Int32) : Option (Int32 × Mem) := (if p1 < 0 then some ((-1), G) else (if p1 ≤ 2 then (m_X8_tallyAll G).bind (fun q_3 => (m_X5_compare q_3).bind (fun q_4 => (L_X8_best_35 q_4 NF (-9) (-9) (-9) 0).bind (fun v_16 => (if p1 = 0 then some (v_16.1, q_4) else (if p1 = 1 then some (v_16.2.1, q_4) else some (v_16.2.2, q_4)))))) else some ((-1), G)))
set_option maxRecDepth 100000 in
set_option maxHeartbeats 4000000 in
theorem jL_X8_best_53 {p : Program} {l : Launch} {e : Env} {s : State} {m : MethodId} {args : Array Value} {below : List Frame} {meth : Method} {c : Code} {w : WP} (X : fw_X p s m args c cX8_best 8 RX8 w) (hr : meth.sig.returnType = (some .int)) (hk : meth.locks = false) {x1 : Int32} {x5 : Int32} {G : Mem} {res : Int32 × Mem} {K : Int32 × Int32 × Int32 → Option (Int32 × Mem)} (HK : ∀ v : Int32 × Int32 × Int32, K v = some res → J p l e rm_X8_best s m args below meth c (Qint below args s w res) w 8 G 131 [(0, .ref (w.1 0)), (1, .int x1), (2, .int v.1), (3, .int v.2.1), (4, .int v.2.2), (5, .int x5)] []) : ∀ (n : Nat) (x2 : Int32) (x3 : Int32) (x4 : Int32) (x6 : Int32), (L_X8_best_53 x5 G n x2 x3 x4 x6).bind K = some res → J p l e rm_X8_best s m args below meth c (Qint below args s w res) w 8 G 53 [(0, .ref (w.1 0)), (1, .int x1), (2, .int x2), (3, .int x3), (4, .int x4), (5, .int x5), (6, .int x6)] [] := by
  intro n
  induction n with
  | zero =>
    intro x2 x3 x4 x6 h
    rw [L_X8_best_53] at h
    cases h
  | succ n ih =>
    intro x2 x3 x4 x6 h
    rw [L_X8_best_53] at h
    refine j_iload X dX8_best_53 6 rfl ?_
    refine j_aload_n X dX8_best_55 rfl 0 rfl ?_
    refine j_getR (C := RX8) (T := TX8) (N := 9) X 0 s_0 rfl hin_X8 0 (by decide) 1 rfl q_247 dX8_best_56 ?_
    obtain ⟨r_7, hr_7, h⟩ := bd_s h
    refine j_callVi (As := []) X 1 s_1 rfl (c_X6_clauses l w G 1 (Or.inl rfl)  hr_7) rfl pn_X6_clauses q_492 q_323 q_324 q_60 q_325 ⟨Nat.le_of_ble_eq_true rfl, Nat.le_of_ble_eq_true rfl⟩ (Nat.le_of_ble_eq_true rfl) rfl dX8_best_59 ?_
    refine j_icmp_ge X 131 dX8_best_62 (by decide) (fun c_8 => ?_) (fun c_8 => ?_)
    · have h := bi_t c_8 h
      refine j_pick [0, 1, 2, 3, 4, 5] rfl ?_
      exact HK (x2, x3, x4) h
    · have h := bi_f c_8 h
      refine j_aload_n X dX8_best_65 rfl 0 rfl ?_
      refine j_getR (C := RX8) (T := TX8) (N := 9) X 0 s_0 rfl hin_X8 6 (by decide) 27 rfl q_253 dX8_best_66 ?_
      refine j_iload X dX8_best_69 5 rfl ?_
      refine j_callSi (As := [.int x5]) X (c_X8_eventOf l w G  x5) pn_X8_eventOf q_797 q_327 q_59 q_328 ⟨Nat.le_of_ble_eq_true rfl, Nat.le_of_ble_eq_true rfl⟩ (Nat.le_of_ble_eq_true rfl) rfl dX8_best_71 ?_
      refine j_iload X dX8_best_74 6 rfl ?_
      refine j_callSi (As := [.int x6]) X (c_X8_eventOf l w G  x6) pn_X8_eventOf q_797 q_327 q_59 q_328 ⟨Nat.le_of_ble_eq_true rfl, Nat.le_of_ble_eq_true rfl⟩ (Nat.le_of_ble_eq_true rfl) rfl dX8_best_76 ?_
      obtain ⟨r_9, hr_9, h⟩ := bd_s h
      refine j_callVi (As := [.int (m_X8_eventOf x5), .int (m_X8_eventOf x6)]) X 27 s_27 rfl (c_X1_tells l w G 27 (Or.inl rfl) (m_X8_eventOf x5) (m_X8_eventOf x6) hr_9) rfl pn_X1_tells q_703 q_704 q_705 q_65 q_706 ⟨Nat.le_of_ble_eq_true rfl, Nat.le_of_ble_eq_true rfl⟩ (Nat.le_of_ble_eq_true rfl) rfl dX8_best_79 ?_
      have h := bb_a h
      have Hv_10 : ∀ v_10 : Int32 × Int32 × Int32, (L_X8_best_53 x5 G n v_10.1 v_10.2.1 v_10.2.2 (x6 + 1)).bind K = some res → J p l e rm_X8_best s m args below meth c (Qint below args s w res) w 8 G 125 [(0, .ref (w.1 0)), (1, .int x1), (2, .int v_10.1), (3, .int v_10.2.1), (4, .int v_10.2.2), (5, .int x5), (6, .int x6)] [] := by
        intro v_10 h
        refine j_iinc (v := x6 + 1) X [(6, .int (x6 + 1)), (0, .ref (w.1 0)), (1, .int x1), (2, .int v_10.1), (3, .int v_10.2.1), (4, .int v_10.2.2), (5, .int x5)] dX8_best_125 6 rfl rfl (by decide) rfl ?_
        refine j_goto X 53 dX8_best_128 (by decide) ?_
        refine j_pick [1, 2, 3, 4, 5, 6, 0] rfl ?_
        exact ih v_10.1 v_10.2.1 v_10.2.2 (x6 + 1) h
      refine j_if_eq X 88 dX8_best_82 (by decide) (fun c_11 => ?_) (fun c_11 => ?_)
      · have h := bi_t c_11 h
        refine j_aload_n X dX8_best_88 rfl 0 rfl ?_
        refine j_getR (C := RX8) (T := TX8) (N := 9) X 0 s_0 rfl hin_X8 8 (by decide) 66 rfl q_255 dX8_best_89 ?_
        refine j_iload X dX8_best_92 5 rfl ?_
        refine j_iload X dX8_best_94 6 rfl ?_
        obtain ⟨r_12, hr_12, h⟩ := bd_s h
        refine j_callVi (As := [.int x5, .int x6]) X 66 s_66 rfl (c_X5_worst l w G  x5 x6 hr_12) rfl pn_X5_worst q_798 q_799 q_800 q_67 q_801 ⟨Nat.le_of_ble_eq_true rfl, Nat.le_of_ble_eq_true rfl⟩ (Nat.le_of_ble_eq_true rfl) rfl dX8_best_96 ?_
        refine j_istore X [(7, .int r_12), (0, .ref (w.1 0)), (1, .int x1), (2, .int x2), (3, .int x3), (4, .int x4), (5, .int x5), (6, .int x6)] dX8_best_99 (by decide) rfl ?_
        refine j_iload X dX8_best_101 5 rfl ?_
        refine j_bipush (v := (-9)) X dX8_best_103 (by decide) ?_
        refine j_icmp_eq X 115 dX8_best_105 (by decide) (fun c_13 => ?_) (fun c_13 => ?_)
        · have h := bi_t c_13 h
          refine j_iload X dX8_best_115 6 rfl ?_
          refine j_istore_n X [(2, .int x5), (7, .int r_12), (0, .ref (w.1 0)), (1, .int x1), (3, .int x3), (4, .int x4), (5, .int x5), (6, .int x6)] dX8_best_117 rfl (by decide) rfl ?_
          refine j_iload X dX8_best_118 7 rfl ?_
          refine j_istore_n X [(3, .int x6), (2, .int x5), (7, .int r_12), (0, .ref (w.1 0)), (1, .int x1), (4, .int x4), (5, .int x5), (6, .int x6)] dX8_best_120 rfl (by decide) rfl ?_
          refine j_iload X dX8_best_121 2 rfl ?_
          refine j_istore X [(4, .int r_12), (3, .int x6), (2, .int x5), (7, .int r_12), (0, .ref (w.1 0)), (1, .int x1), (5, .int x5), (6, .int x6)] dX8_best_123 (by decide) rfl ?_
          refine j_pick [4, 5, 2, 1, 0, 6, 7] rfl ?_
          exact Hv_10 (x5, x6, r_12) h
        · have h := bi_f c_13 h
          refine j_iload X dX8_best_108 0 rfl ?_
          refine j_iload X dX8_best_110 5 rfl ?_
          refine j_icmp_ge X 125 dX8_best_112 (by decide) (fun c_14 => ?_) (fun c_14 => ?_)
          · have h := bi_t c_14 h
            refine j_pick [1, 2, 3, 4, 5, 6, 7] rfl ?_
            exact Hv_10 (x2, x3, x4) h
          · have h := bi_f c_14 h
            refine j_iload X dX8_best_115 6 rfl ?_
            refine j_istore_n X [(2, .int x5), (7, .int r_12), (0, .ref (w.1 0)), (1, .int x1), (3, .int x3), (4, .int x4), (5, .int x5), (6, .int x6)] dX8_best_117 rfl (by decide) rfl ?_
            refine j_iload X dX8_best_118 7 rfl ?_
            refine j_istore_n X [(3, .int x6), (2, .int x5), (7, .int r_12), (0, .ref (w.1 0)), (1, .int x1), (4, .int x4), (5, .int x5), (6, .int x6)] dX8_best_120 rfl (by decide) rfl ?_
            refine j_iload X dX8_best_121 2 rfl ?_
            refine j_istore X [(4, .int r_12), (3, .int x6), (2, .int x5), (7, .int r_12), (0, .ref (w.1 0)), (1, .int x1), (5, .int x5), (6, .int x6)] dX8_best_123 (by decide) rfl ?_
            refine j_pick [4, 5, 2, 1, 0, 6, 7] rfl ?_
            exact Hv_10 (x5, x6, r_12) h
      · have h := bi_f c_11 h
        refine j_goto X 125 dX8_best_85 (by decide) ?_
        refine j_pick [0, 1, 2, 3, 4, 5, 6] rfl ?_
        exact Hv_10 (x2, x3, x4) h
set_option maxRecDepth 100000 in
set_option maxHeartbeats 4000000 in
theorem jL_X8_best_35 {p : Program} {l : Launch} {e : Env} {s : State} {m : MethodId} {args : Array Value} {below : List Frame} {meth : Method} {c : Code} {w : WP} (X : fw_X p s m args c cX8_best 8 RX8 w) (hr : meth.sig.returnType = (some .int)) (hk : meth.locks = false) {x1 : Int32} {G : Mem} {res : Int32 × Mem} {K : Int32 × Int32 × Int32 → Option (Int32 × Mem)} (HK : ∀ v : Int32 × Int32 × Int32, K v = some res → J p l e rm_X8_best s m args below meth c (Qint below args s w res) w 8 G 137 [(1, .int x1), (2, .int v.1), (3, .int v.2.1), (4, .int v.2.2)] []) : ∀ (n : Nat) (x2 : Int32) (x3 : Int32) (x4 : Int32) (x5 : Int32), (L_X8_best_35 G n x2 x3 x4 x5).bind K = some res → J p l e rm_X8_best s m args below meth c (Qint below args s w res) w 8 G 35 [(0, .ref (w.1 0)), (1, .int x1), (2, .int x2), (3, .int x3), (4, .int x4), (5, .int x5)] [] := by
  intro n
  induction n with
  | zero =>
    intro x2 x3 x4 x5 h
    rw [L_X8_best_35] at h
    cases h
  | succ n ih =>
    intro x2 x3 x4 x5 h
    rw [L_X8_best_35] at h
    refine j_iload X dX8_best_35 5 rfl ?_
    refine j_aload_n X dX8_best_37 rfl 0 rfl ?_
    refine j_getR (C := RX8) (T := TX8) (N := 9) X 0 s_0 rfl hin_X8 0 (by decide) 1 rfl q_247 dX8_best_38 ?_
    obtain ⟨r_5, hr_5, h⟩ := bd_s h
    refine j_callVi (As := []) X 1 s_1 rfl (c_X6_clauses l w G 1 (Or.inl rfl)  hr_5) rfl pn_X6_clauses q_492 q_323 q_324 q_60 q_325 ⟨Nat.le_of_ble_eq_true rfl, Nat.le_of_ble_eq_true rfl⟩ (Nat.le_of_ble_eq_true rfl) rfl dX8_best_41 ?_
    refine j_icmp_ge X 137 dX8_best_44 (by decide) (fun c_6 => ?_) (fun c_6 => ?_)
    · have h := bi_t c_6 h
      refine j_pick [1, 2, 3, 4] rfl ?_
      exact HK (x2, x3, x4) h
    · have h := bi_f c_6 h
      refine j_iload X dX8_best_47 5 rfl ?_
      refine j_iconst (v := 1) X dX8_best_49 (by decide) ?_
      refine j_iadd X dX8_best_50 ?_
      refine j_istore X [(6, .int (x5 + 1)), (0, .ref (w.1 0)), (1, .int x1), (2, .int x2), (3, .int x3), (4, .int x4), (5, .int x5)] dX8_best_51 (by decide) rfl ?_
      have h := bb_a h
      have Hv_15 : ∀ v_15 : Int32 × Int32 × Int32, (L_X8_best_35 G n v_15.1 v_15.2.1 v_15.2.2 (x5 + 1)).bind K = some res → J p l e rm_X8_best s m args below meth c (Qint below args s w res) w 8 G 131 [(0, .ref (w.1 0)), (1, .int x1), (2, .int v_15.1), (3, .int v_15.2.1), (4, .int v_15.2.2), (5, .int x5)] [] := by
        intro v_15 h
        refine j_iinc (v := x5 + 1) X [(5, .int (x5 + 1)), (0, .ref (w.1 0)), (1, .int x1), (2, .int v_15.1), (3, .int v_15.2.1), (4, .int v_15.2.2)] dX8_best_131 5 rfl rfl (by decide) rfl ?_
        refine j_goto X 35 dX8_best_134 (by decide) ?_
        refine j_pick [1, 2, 3, 4, 5, 0] rfl ?_
        exact ih v_15.1 v_15.2.1 v_15.2.2 (x5 + 1) h
      refine j_pick [1, 2, 3, 4, 5, 6, 0] rfl ?_
      exact jL_X8_best_53 X hr hk Hv_15 NF x2 x3 x4 (x5 + 1) h
set_option maxRecDepth 100000 in
set_option maxHeartbeats 4000000 in
theorem c_X8_best (l : Launch) (w : WP) (G : Mem) (p1 : Int32) {res : Int32 × Mem} (h0 : m_X8_best G p1 = some res) : CMi l yX8_best cX8_best 8 (some .int) 6 135 w [.ref (w.1 0), .int p1] G res := by
  refine CMi.of (by decide +kernel) (Nat.le_of_ble_eq_true rfl) ?_
  intro p e s m args below meth c X hr hk
  have h := bs_i h0
  unfold m_X8_best at h
  show J p l e rm_X8_best s m args below meth c (Qint below args s w res) w 8 G 0 [(0, .ref (w.1 0)), (1, .int p1)] []
  refine j_iload_n X dX8_best_0 rfl 1 rfl ?_
  refine j_if_lt X 9 dX8_best_1 (by decide) (fun c_1 => ?_) (fun c_1 => ?_)
  · have h := bi_t c_1 h
    refine j_iconst (v := (-1)) X dX8_best_9 (by decide) ?_
    exact j_iret X hr hk dX8_best_10 (Option.some.inj h)
  · have h := bi_f c_1 h
    refine j_iload_n X dX8_best_4 rfl 1 rfl ?_
    refine j_iconst (v := 2) X dX8_best_5 (by decide) ?_
    refine j_icmp_le X 11 dX8_best_6 (by decide) (fun c_2 => ?_) (fun c_2 => ?_)
    · have h := bi_t c_2 h
      refine j_aload_n X dX8_best_11 rfl 0 rfl ?_
      obtain ⟨q_3, hq_3, h⟩ := bd_s h
      refine j_callVv (As := []) X 0 s_0 rfl (c_X8_tallyAll l w G   hq_3) rfl pn_X8_tallyAll q_733 q_735 q_23 q_59 q_736 ⟨Nat.le_of_ble_eq_true rfl, Nat.le_of_ble_eq_true rfl⟩ (Nat.le_of_ble_eq_true rfl) rfl dX8_best_12 ?_
      refine j_aload_n X dX8_best_15 rfl 0 rfl ?_
      refine j_getR (C := RX8) (T := TX8) (N := 9) X 0 s_0 rfl hin_X8 8 (by decide) 66 rfl q_255 dX8_best_16 ?_
      obtain ⟨q_4, hq_4, h⟩ := bd_s h
      refine j_callVv (As := []) X 66 s_66 rfl (c_X5_compare l w q_3   hq_4) rfl pn_X5_compare q_777 q_778 q_779 q_67 q_780 ⟨Nat.le_of_ble_eq_true rfl, Nat.le_of_ble_eq_true rfl⟩ (Nat.le_of_ble_eq_true rfl) rfl dX8_best_19 ?_
      refine j_bipush (v := (-9)) X dX8_best_22 (by decide) ?_
      refine j_istore_n X [(2, .int (-9)), (0, .ref (w.1 0)), (1, .int p1)] dX8_best_24 rfl (by decide) rfl ?_
      refine j_bipush (v := (-9)) X dX8_best_25 (by decide) ?_
      refine j_istore_n X [(3, .int (-9)), (2, .int (-9)), (0, .ref (w.1 0)), (1, .int p1)] dX8_best_27 rfl (by decide) rfl ?_
      refine j_bipush (v := (-9)) X dX8_best_28 (by decide) ?_
      refine j_istore X [(4, .int (-9)), (3, .int (-9)), (2, .int (-9)), (0, .ref (w.1 0)), (1, .int p1)] dX8_best_30 (by decide) rfl ?_
      refine j_iconst (v := 0) X dX8_best_32 (by decide) ?_
      refine j_istore X [(5, .int 0), (4, .int (-9)), (3, .int (-9)), (2, .int (-9)), (0, .ref (w.1 0)), (1, .int p1)] dX8_best_33 (by decide) rfl ?_
      have h := bb_a h
      have Hv_16 : ∀ v_16 : Int32 × Int32 × Int32, ((if p1 = 0 then some (v_16.1, q_4) else (if p1 = 1 then some (v_16.2.1, q_4) else some (v_16.2.2, q_4)))).bind some = some res → J p l e rm_X8_best s m args below meth c (Qint below args s w res) w 8 q_4 137 [(1, .int p1), (2, .int v_16.1), (3, .int v_16.2.1), (4, .int v_16.2.2)] [] := by
        intro v_16 h
        refine j_iload_n X dX8_best_137 rfl 0 rfl ?_
        refine j_if_ne X 143 dX8_best_138 (by decide) (fun c_17 => ?_) (fun c_17 => ?_)
        · have h := bi_f c_17 h
          refine j_iload_n X dX8_best_143 rfl 0 rfl ?_
          refine j_iconst (v := 1) X dX8_best_144 (by decide) ?_
          refine j_icmp_ne X 152 dX8_best_145 (by decide) (fun c_18 => ?_) (fun c_18 => ?_)
          · have h := bi_f c_18 h
            refine j_iload X dX8_best_152 3 rfl ?_
            exact j_iret X hr hk dX8_best_154 (Option.some.inj h)
          · have h := bi_t c_18 h
            refine j_iload_n X dX8_best_148 rfl 2 rfl ?_
            refine j_goto X 154 dX8_best_149 (by decide) ?_
            exact j_iret X hr hk dX8_best_154 (Option.some.inj h)
        · have h := bi_t c_17 h
          refine j_iload_n X dX8_best_141 rfl 1 rfl ?_
          exact j_iret X hr hk dX8_best_142 (Option.some.inj h)
      refine j_pick [4, 5, 3, 2, 1, 0] rfl ?_
      exact jL_X8_best_35 X hr hk Hv_16 NF (-9) (-9) (-9) 0 h
    · have h := bi_f c_2 h
      refine j_iconst (v := (-1)) X dX8_best_9 (by decide) ?_
      exact j_iret X hr hk dX8_best_10 (Option.some.inj h)
abbrev rm_X8_isTime : Room := { frames := 1, cells := 0, slots := 0, locals := 20 }
theorem pn_X8_isTime : yX8_isTime.cls ≠ "java/lang/invoke/MethodHandle" ∧ yX8_isTime.cls ≠ "java/lang/invoke/VarHandle" ∧ (parseMethodDescriptor yX8_isTime.desc).map (fun d => d.parameters.length) = some 1 := by decide +kernel
def m_X8_isTime (G : Mem) (p1 : Int32) : Option (Int32) := (if p1 < 0 then some 0 else (m_X6_clauses G 1).bind (fun r_2 => (if (2 * r_2) < p1 then some 0 else some 1)))
set_option maxRecDepth 100000 in
set_option maxHeartbeats 4000000 in
theorem c_X8_isTime (l : Launch) (w : WP) (G : Mem) (p1 : Int32) {res : Int32} (h0 : m_X8_isTime G p1 = some res) : CMi l yX8_isTime cX8_isTime 2 (some .boolean) 1 20 w [.ref (w.1 0), .int p1] G (res, G) := by
  refine CMi.of (by decide +kernel) (Nat.le_of_ble_eq_true rfl) ?_
  intro p e s m args below meth c X hr hk
  have h := bs_i h0
  unfold m_X8_isTime at h
  show J p l e rm_X8_isTime s m args below meth c (Qint below args s w (res, G)) w 2 G 0 [(0, .ref (w.1 0)), (1, .int p1)] []
  refine j_iload_n X dX8_isTime_0 rfl 1 rfl ?_
  refine j_if_lt X 21 dX8_isTime_1 (by decide) (fun c_1 => ?_) (fun c_1 => ?_)
  · have h := bi_t c_1 h
    refine j_iconst (v := 0) X dX8_isTime_21 (by decide) ?_
    exact j_zret X hr hk (by decide) dX8_isTime_22 (congrArg (fun z => (z, G)) (Option.some.inj h))
  · have h := bi_f c_1 h
    refine j_iload_n X dX8_isTime_4 rfl 1 rfl ?_
    refine j_iconst (v := 2) X dX8_isTime_5 (by decide) ?_
    refine j_aload_n X dX8_isTime_6 rfl 0 rfl ?_
    refine j_getR (C := RX8) (T := TX8) (N := 9) X 0 s_0 rfl hin_X8 0 (by decide) 1 rfl q_247 dX8_isTime_7 ?_
    obtain ⟨r_2, hr_2, h⟩ := bd_s h
    refine j_callVi (As := []) X 1 s_1 rfl (c_X6_clauses l w G 1 (Or.inl rfl)  hr_2) rfl pn_X6_clauses q_492 q_323 q_324 q_60 q_325 ⟨Nat.le_of_ble_eq_true rfl, Nat.le_of_ble_eq_true rfl⟩ (Nat.le_of_ble_eq_true rfl) rfl dX8_isTime_10 ?_
    refine j_imul X dX8_isTime_13 ?_
    refine j_icmp_gt X 21 dX8_isTime_14 (by decide) (fun c_3 => ?_) (fun c_3 => ?_)
    · have h := bi_t c_3 h
      refine j_iconst (v := 0) X dX8_isTime_21 (by decide) ?_
      exact j_zret X hr hk (by decide) dX8_isTime_22 (congrArg (fun z => (z, G)) (Option.some.inj h))
    · have h := bi_f c_3 h
      refine j_iconst (v := 1) X dX8_isTime_17 (by decide) ?_
      refine j_goto X 22 dX8_isTime_18 (by decide) ?_
      exact j_zret X hr hk (by decide) dX8_isTime_22 (congrArg (fun z => (z, G)) (Option.some.inj h))
abbrev rm_X8_isNowOrEvent : Room := { frames := 2, cells := 0, slots := 0, locals := 41 }
theorem pn_X8_isNowOrEvent : yX8_isNowOrEvent.cls ≠ "java/lang/invoke/MethodHandle" ∧ yX8_isNowOrEvent.cls ≠ "java/lang/invoke/VarHandle" ∧ (parseMethodDescriptor yX8_isNowOrEvent.desc).map (fun d => d.parameters.length) = some 1 := by decide +kernel
def m_X8_isNowOrEvent (G : Mem) (p1 : Int32) : Option (Int32) := (m_X8_isTime G p1).bind (fun r_1 => (if r_1 = 0 then some 0 else (if (p1 - p1 / 2 * 2) = 0 then some 1 else some 0)))
set_option maxRecDepth 100000 in
set_option maxHeartbeats 4000000 in
theorem c_X8_isNowOrEvent (l : Launch) (w : WP) (G : Mem) (p1 : Int32) {res : Int32} (h0 : m_X8_isNowOrEvent G p1 = some res) : CMi l yX8_isNowOrEvent cX8_isNowOrEvent 2 (some .boolean) 2 41 w [.ref (w.1 0), .int p1] G (res, G) := by
  refine CMi.of (by decide +kernel) (Nat.le_of_ble_eq_true rfl) ?_
  intro p e s m args below meth c X hr hk
  have h := bs_i h0
  unfold m_X8_isNowOrEvent at h
  show J p l e rm_X8_isNowOrEvent s m args below meth c (Qint below args s w (res, G)) w 2 G 0 [(0, .ref (w.1 0)), (1, .int p1)] []
  refine j_aload_n X dX8_isNowOrEvent_0 rfl 0 rfl ?_
  refine j_iload_n X dX8_isNowOrEvent_1 rfl 1 rfl ?_
  obtain ⟨r_1, hr_1, h⟩ := bd_s h
  refine j_callVi (As := [.int p1]) X 0 s_0 rfl (c_X8_isTime l w G  p1 hr_1) rfl pn_X8_isTime q_550 q_552 q_14 q_59 q_553 ⟨Nat.le_of_ble_eq_true rfl, Nat.le_of_ble_eq_true rfl⟩ (Nat.le_of_ble_eq_true rfl) rfl dX8_isNowOrEvent_2 ?_
  refine j_if_eq X 18 dX8_isNowOrEvent_5 (by decide) (fun c_2 => ?_) (fun c_2 => ?_)
  · have h := bi_t c_2 h
    refine j_iconst (v := 0) X dX8_isNowOrEvent_18 (by decide) ?_
    exact j_zret X hr hk (by decide) dX8_isNowOrEvent_19 (congrArg (fun z => (z, G)) (Option.some.inj h))
  · have h := bi_f c_2 h
    refine j_iload_n X dX8_isNowOrEvent_8 rfl 1 rfl ?_
    refine j_iconst (v := 2) X dX8_isNowOrEvent_9 (by decide) ?_
    refine j_irem X dX8_isNowOrEvent_10 (by decide) ?_
    refine j_if_ne X 18 dX8_isNowOrEvent_11 (by decide) (fun c_3 => ?_) (fun c_3 => ?_)
    · have h := bi_f c_3 h
      refine j_iconst (v := 0) X dX8_isNowOrEvent_18 (by decide) ?_
      exact j_zret X hr hk (by decide) dX8_isNowOrEvent_19 (congrArg (fun z => (z, G)) (Option.some.inj h))
    · have h := bi_t c_3 h
      refine j_iconst (v := 1) X dX8_isNowOrEvent_14 (by decide) ?_
      refine j_goto X 19 dX8_isNowOrEvent_15 (by decide) ?_
      exact j_zret X hr hk (by decide) dX8_isNowOrEvent_19 (congrArg (fun z => (z, G)) (Option.some.inj h))
abbrev rm_X8_canBeSaid : Room := { frames := 3, cells := 0, slots := 0, locals := 62 }
theorem pn_X8_canBeSaid : yX8_canBeSaid.cls ≠ "java/lang/invoke/MethodHandle" ∧ yX8_canBeSaid.cls ≠ "java/lang/invoke/VarHandle" ∧ (parseMethodDescriptor yX8_canBeSaid.desc).map (fun d => d.parameters.length) = some 3 := by decide +kernel
def m_X8_canBeSaid (G : Mem) (p1 : Int32) (p2 : Int32) (p3 : Int32) : Option (Int32) := (m_X8_isNowOrEvent G p1).bind (fun r_1 => (if r_1 = 0 then some 0 else (m_X8_isNowOrEvent G p3).bind (fun r_3 => (if r_3 = 0 then some 0 else (if p1 = p3 then some 0 else (if p2 < 0 then some 0 else (if 2 ≤ p2 then some 0 else some 1)))))))
set_option maxRecDepth 100000 in
set_option maxHeartbeats 4000000 in
theorem c_X8_canBeSaid (l : Launch) (w : WP) (G : Mem) (p1 : Int32) (p2 : Int32) (p3 : Int32) {res : Int32} (h0 : m_X8_canBeSaid G p1 p2 p3 = some res) : CMi l yX8_canBeSaid cX8_canBeSaid 4 (some .boolean) 3 62 w [.ref (w.1 0), .int p1, .int p2, .int p3] G (res, G) := by
  refine CMi.of (by decide +kernel) (Nat.le_of_ble_eq_true rfl) ?_
  intro p e s m args below meth c X hr hk
  have h := bs_i h0
  unfold m_X8_canBeSaid at h
  show J p l e rm_X8_canBeSaid s m args below meth c (Qint below args s w (res, G)) w 4 G 0 [(0, .ref (w.1 0)), (1, .int p1), (2, .int p2), (3, .int p3)] []
  refine j_aload_n X dX8_canBeSaid_0 rfl 0 rfl ?_
  refine j_iload_n X dX8_canBeSaid_1 rfl 1 rfl ?_
  obtain ⟨r_1, hr_1, h⟩ := bd_s h
  refine j_callVi (As := [.int p1]) X 0 s_0 rfl (c_X8_isNowOrEvent l w G  p1 hr_1) rfl pn_X8_isNowOrEvent q_546 q_548 q_13 q_59 q_549 ⟨Nat.le_of_ble_eq_true rfl, Nat.le_of_ble_eq_true rfl⟩ (Nat.le_of_ble_eq_true rfl) rfl dX8_canBeSaid_2 ?_
  refine j_if_eq X 34 dX8_canBeSaid_5 (by decide) (fun c_2 => ?_) (fun c_2 => ?_)
  · have h := bi_t c_2 h
    refine j_iconst (v := 0) X dX8_canBeSaid_34 (by decide) ?_
    exact j_zret X hr hk (by decide) dX8_canBeSaid_35 (congrArg (fun z => (z, G)) (Option.some.inj h))
  · have h := bi_f c_2 h
    refine j_aload_n X dX8_canBeSaid_8 rfl 0 rfl ?_
    refine j_iload_n X dX8_canBeSaid_9 rfl 3 rfl ?_
    obtain ⟨r_3, hr_3, h⟩ := bd_s h
    refine j_callVi (As := [.int p3]) X 0 s_0 rfl (c_X8_isNowOrEvent l w G  p3 hr_3) rfl pn_X8_isNowOrEvent q_546 q_548 q_13 q_59 q_549 ⟨Nat.le_of_ble_eq_true rfl, Nat.le_of_ble_eq_true rfl⟩ (Nat.le_of_ble_eq_true rfl) rfl dX8_canBeSaid_10 ?_
    refine j_if_eq X 34 dX8_canBeSaid_13 (by decide) (fun c_4 => ?_) (fun c_4 => ?_)
    · have h := bi_t c_4 h
      refine j_iconst (v := 0) X dX8_canBeSaid_34 (by decide) ?_
      exact j_zret X hr hk (by decide) dX8_canBeSaid_35 (congrArg (fun z => (z, G)) (Option.some.inj h))
    · have h := bi_f c_4 h
      refine j_iload_n X dX8_canBeSaid_16 rfl 1 rfl ?_
      refine j_iload_n X dX8_canBeSaid_17 rfl 3 rfl ?_
      refine j_icmp_eq X 34 dX8_canBeSaid_18 (by decide) (fun c_5 => ?_) (fun c_5 => ?_)
      · have h := bi_t c_5 h
        refine j_iconst (v := 0) X dX8_canBeSaid_34 (by decide) ?_
        exact j_zret X hr hk (by decide) dX8_canBeSaid_35 (congrArg (fun z => (z, G)) (Option.some.inj h))
      · have h := bi_f c_5 h
        refine j_iload_n X dX8_canBeSaid_21 rfl 2 rfl ?_
        refine j_if_lt X 34 dX8_canBeSaid_22 (by decide) (fun c_6 => ?_) (fun c_6 => ?_)
        · have h := bi_t c_6 h
          refine j_iconst (v := 0) X dX8_canBeSaid_34 (by decide) ?_
          exact j_zret X hr hk (by decide) dX8_canBeSaid_35 (congrArg (fun z => (z, G)) (Option.some.inj h))
        · have h := bi_f c_6 h
          refine j_iload_n X dX8_canBeSaid_25 rfl 2 rfl ?_
          refine j_iconst (v := 2) X dX8_canBeSaid_26 (by decide) ?_
          refine j_icmp_ge X 34 dX8_canBeSaid_27 (by decide) (fun c_7 => ?_) (fun c_7 => ?_)
          · have h := bi_t c_7 h
            refine j_iconst (v := 0) X dX8_canBeSaid_34 (by decide) ?_
            exact j_zret X hr hk (by decide) dX8_canBeSaid_35 (congrArg (fun z => (z, G)) (Option.some.inj h))
          · have h := bi_f c_7 h
            refine j_iconst (v := 1) X dX8_canBeSaid_30 (by decide) ?_
            refine j_goto X 35 dX8_canBeSaid_31 (by decide) ?_
            exact j_zret X hr hk (by decide) dX8_canBeSaid_35 (congrArg (fun z => (z, G)) (Option.some.inj h))
abbrev rm_X8_clash : Room := { frames := 6, cells := 0, slots := 0, locals := 143 }
theorem pn_X8_clash : yX8_clash.cls ≠ "java/lang/invoke/MethodHandle" ∧ yX8_clash.cls ≠ "java/lang/invoke/VarHandle" ∧ (parseMethodDescriptor yX8_clash.desc).map (fun d => d.parameters.length) = some 1 := by decide +kernel
def m_X8_clash (G : Mem) (p1 : Int32) : Option (Int32 × Mem) := (if p1 < 0 then some ((-1), G) else (if p1 ≤ 1 then (m_X3_fewest G).bind (fun q_3 => (if q_3.1 = 0 then some ((-9), q_3.2) else (if p1 = 0 then some (q_3.1, q_3.2) else some (m_J6_bitCount_0f7a4 q_3.1, q_3.2)))) else some ((-1), G)))
set_option maxRecDepth 100000 in
set_option maxHeartbeats 4000000 in
theorem c_X8_clash (l : Launch) (w : WP) (G : Mem) (p1 : Int32) {res : Int32 × Mem} (h0 : m_X8_clash G p1 = some res) : CMi l yX8_clash cX8_clash 3 (some .int) 6 143 w [.ref (w.1 0), .int p1] G res := by
  refine CMi.of (by decide +kernel) (Nat.le_of_ble_eq_true rfl) ?_
  intro p e s m args below meth c X hr hk
  have h := bs_i h0
  unfold m_X8_clash at h
  show J p l e rm_X8_clash s m args below meth c (Qint below args s w res) w 3 G 0 [(0, .ref (w.1 0)), (1, .int p1)] []
  refine j_iload_n X dX8_clash_0 rfl 1 rfl ?_
  refine j_if_lt X 9 dX8_clash_1 (by decide) (fun c_1 => ?_) (fun c_1 => ?_)
  · have h := bi_t c_1 h
    refine j_iconst (v := (-1)) X dX8_clash_9 (by decide) ?_
    exact j_iret X hr hk dX8_clash_10 (Option.some.inj h)
  · have h := bi_f c_1 h
    refine j_iload_n X dX8_clash_4 rfl 1 rfl ?_
    refine j_iconst (v := 1) X dX8_clash_5 (by decide) ?_
    refine j_icmp_le X 11 dX8_clash_6 (by decide) (fun c_2 => ?_) (fun c_2 => ?_)
    · have h := bi_t c_2 h
      refine j_aload_n X dX8_clash_11 rfl 0 rfl ?_
      refine j_getR (C := RX8) (T := TX8) (N := 9) X 0 s_0 rfl hin_X8 7 (by decide) 30 rfl q_254 dX8_clash_12 ?_
      refine j_aload_n X dX8_clash_15 rfl 0 rfl ?_
      refine j_getR (C := RX8) (T := TX8) (N := 9) X 0 s_0 rfl hin_X8 0 (by decide) 1 rfl q_247 dX8_clash_16 ?_
      obtain ⟨q_3, hq_3, h⟩ := bd_s h
      refine j_callVi (As := [.ref (w.1 1)]) X 30 s_30 rfl (c_X3_fewest l w G   hq_3) rfl pn_X3_fewest q_659 q_660 q_661 q_66 q_662 ⟨Nat.le_of_ble_eq_true rfl, Nat.le_of_ble_eq_true rfl⟩ (Nat.le_of_ble_eq_true rfl) rfl dX8_clash_19 ?_
      refine j_istore_n X [(2, .int q_3.1), (0, .ref (w.1 0)), (1, .int p1)] dX8_clash_22 rfl (by decide) rfl ?_
      refine j_iload_n X dX8_clash_23 rfl 0 rfl ?_
      refine j_if_ne X 30 dX8_clash_24 (by decide) (fun c_4 => ?_) (fun c_4 => ?_)
      · have h := bi_f c_4 h
        refine j_iload_n X dX8_clash_30 rfl 2 rfl ?_
        refine j_if_ne X 38 dX8_clash_31 (by decide) (fun c_5 => ?_) (fun c_5 => ?_)
        · have h := bi_f c_5 h
          refine j_iload_n X dX8_clash_38 rfl 0 rfl ?_
          refine j_callSi (As := [.int q_3.1]) X (c_J6_bitCount_0f7a4 l w q_3.2  q_3.1) pn_J6_bitCount_0f7a4 q_693 q_694 q_75 q_695 ⟨Nat.le_of_ble_eq_true rfl, Nat.le_of_ble_eq_true rfl⟩ (Nat.le_of_ble_eq_true rfl) rfl dX8_clash_39 ?_
          exact j_iret X hr hk dX8_clash_42 (Option.some.inj h)
        · have h := bi_t c_5 h
          refine j_iload_n X dX8_clash_34 rfl 0 rfl ?_
          refine j_goto X 42 dX8_clash_35 (by decide) ?_
          exact j_iret X hr hk dX8_clash_42 (Option.some.inj h)
      · have h := bi_t c_4 h
        refine j_bipush (v := (-9)) X dX8_clash_27 (by decide) ?_
        exact j_iret X hr hk dX8_clash_29 (Option.some.inj h)
    · have h := bi_f c_2 h
      refine j_iconst (v := (-1)) X dX8_clash_9 (by decide) ?_
      exact j_iret X hr hk dX8_clash_10 (Option.some.inj h)
abbrev rm_X8_isClause : Room := { frames := 1, cells := 0, slots := 0, locals := 20 }
theorem pn_X8_isClause : yX8_isClause.cls ≠ "java/lang/invoke/MethodHandle" ∧ yX8_isClause.cls ≠ "java/lang/invoke/VarHandle" ∧ (parseMethodDescriptor yX8_isClause.desc).map (fun d => d.parameters.length) = some 1 := by decide +kernel
def m_X8_isClause (G : Mem) (p1 : Int32) : Option (Int32) := (if p1 < 0 then some 0 else (m_X6_clauses G 1).bind (fun r_2 => (if r_2 ≤ p1 then some 0 else some 1)))
set_option maxRecDepth 100000 in
set_option maxHeartbeats 4000000 in
theorem c_X8_isClause (l : Launch) (w : WP) (G : Mem) (p1 : Int32) {res : Int32} (h0 : m_X8_isClause G p1 = some res) : CMi l yX8_isClause cX8_isClause 2 (some .boolean) 1 20 w [.ref (w.1 0), .int p1] G (res, G) := by
  refine CMi.of (by decide +kernel) (Nat.le_of_ble_eq_true rfl) ?_
  intro p e s m args below meth c X hr hk
  have h := bs_i h0
  unfold m_X8_isClause at h
  show J p l e rm_X8_isClause s m args below meth c (Qint below args s w (res, G)) w 2 G 0 [(0, .ref (w.1 0)), (1, .int p1)] []
  refine j_iload_n X dX8_isClause_0 rfl 1 rfl ?_
  refine j_if_lt X 19 dX8_isClause_1 (by decide) (fun c_1 => ?_) (fun c_1 => ?_)
  · have h := bi_t c_1 h
    refine j_iconst (v := 0) X dX8_isClause_19 (by decide) ?_
    exact j_zret X hr hk (by decide) dX8_isClause_20 (congrArg (fun z => (z, G)) (Option.some.inj h))
  · have h := bi_f c_1 h
    refine j_iload_n X dX8_isClause_4 rfl 1 rfl ?_
    refine j_aload_n X dX8_isClause_5 rfl 0 rfl ?_
    refine j_getR (C := RX8) (T := TX8) (N := 9) X 0 s_0 rfl hin_X8 0 (by decide) 1 rfl q_247 dX8_isClause_6 ?_
    obtain ⟨r_2, hr_2, h⟩ := bd_s h
    refine j_callVi (As := []) X 1 s_1 rfl (c_X6_clauses l w G 1 (Or.inl rfl)  hr_2) rfl pn_X6_clauses q_492 q_323 q_324 q_60 q_325 ⟨Nat.le_of_ble_eq_true rfl, Nat.le_of_ble_eq_true rfl⟩ (Nat.le_of_ble_eq_true rfl) rfl dX8_isClause_9 ?_
    refine j_icmp_ge X 19 dX8_isClause_12 (by decide) (fun c_3 => ?_) (fun c_3 => ?_)
    · have h := bi_t c_3 h
      refine j_iconst (v := 0) X dX8_isClause_19 (by decide) ?_
      exact j_zret X hr hk (by decide) dX8_isClause_20 (congrArg (fun z => (z, G)) (Option.some.inj h))
    · have h := bi_f c_3 h
      refine j_iconst (v := 1) X dX8_isClause_15 (by decide) ?_
      refine j_goto X 20 dX8_isClause_16 (by decide) ?_
      exact j_zret X hr hk (by decide) dX8_isClause_20 (congrArg (fun z => (z, G)) (Option.some.inj h))
abbrev rm_X8_clause : Room := { frames := 3, cells := 0, slots := 0, locals := 65 }
theorem pn_X8_clause : yX8_clause.cls ≠ "java/lang/invoke/MethodHandle" ∧ yX8_clause.cls ≠ "java/lang/invoke/VarHandle" ∧ (parseMethodDescriptor yX8_clause.desc).map (fun d => d.parameters.length) = some 2 := by decide +kernel
def m_X8_clause (G : Mem) (p1 : Int32) (p2 : Int32) : Option (Int32) := (m_X8_isClause G p1).bind (fun r_1 => (if r_1 = 0 then some (-1) else (if p2 < 0 then some (-1) else (if p2 ≤ 2 then (if p2 = 0 then (m_X6_tenseOf G 1 p1).bind (fun r_9 => some r_9) else (if p2 = 1 then (m_X6_linkOf G 1 p1).bind (fun r_8 => some r_8) else (m_X6_placeOf G 1 p1).bind (fun r_7 => some r_7))) else some (-1)))))
set_option maxRecDepth 100000 in
set_option maxHeartbeats 4000000 in
theorem c_X8_clause (l : Launch) (w : WP) (G : Mem) (p1 : Int32) (p2 : Int32) {res : Int32} (h0 : m_X8_clause G p1 p2 = some res) : CMi l yX8_clause cX8_clause 3 (some .int) 3 65 w [.ref (w.1 0), .int p1, .int p2] G (res, G) := by
  refine CMi.of (by decide +kernel) (Nat.le_of_ble_eq_true rfl) ?_
  intro p e s m args below meth c X hr hk
  have h := bs_i h0
  unfold m_X8_clause at h
  show J p l e rm_X8_clause s m args below meth c (Qint below args s w (res, G)) w 3 G 0 [(0, .ref (w.1 0)), (1, .int p1), (2, .int p2)] []
  refine j_aload_n X dX8_clause_0 rfl 0 rfl ?_
  refine j_iload_n X dX8_clause_1 rfl 1 rfl ?_
  obtain ⟨r_1, hr_1, h⟩ := bd_s h
  refine j_callVi (As := [.int p1]) X 0 s_0 rfl (c_X8_isClause l w G  p1 hr_1) rfl pn_X8_isClause q_488 q_490 q_8 q_59 q_491 ⟨Nat.le_of_ble_eq_true rfl, Nat.le_of_ble_eq_true rfl⟩ (Nat.le_of_ble_eq_true rfl) rfl dX8_clause_2 ?_
  refine j_if_eq X 17 dX8_clause_5 (by decide) (fun c_2 => ?_) (fun c_2 => ?_)
  · have h := bi_t c_2 h
    refine j_iconst (v := (-1)) X dX8_clause_17 (by decide) ?_
    exact j_iret X hr hk dX8_clause_18 (congrArg (fun z => (z, G)) (Option.some.inj h))
  · have h := bi_f c_2 h
    refine j_iload_n X dX8_clause_8 rfl 2 rfl ?_
    refine j_if_lt X 17 dX8_clause_9 (by decide) (fun c_3 => ?_) (fun c_3 => ?_)
    · have h := bi_t c_3 h
      refine j_iconst (v := (-1)) X dX8_clause_17 (by decide) ?_
      exact j_iret X hr hk dX8_clause_18 (congrArg (fun z => (z, G)) (Option.some.inj h))
    · have h := bi_f c_3 h
      refine j_iload_n X dX8_clause_12 rfl 2 rfl ?_
      refine j_iconst (v := 2) X dX8_clause_13 (by decide) ?_
      refine j_icmp_le X 19 dX8_clause_14 (by decide) (fun c_4 => ?_) (fun c_4 => ?_)
      · have h := bi_t c_4 h
        refine j_iload_n X dX8_clause_19 rfl 2 rfl ?_
        refine j_if_ne X 32 dX8_clause_20 (by decide) (fun c_5 => ?_) (fun c_5 => ?_)
        · have h := bi_f c_5 h
          refine j_iload_n X dX8_clause_32 rfl 2 rfl ?_
          refine j_iconst (v := 1) X dX8_clause_33 (by decide) ?_
          refine j_icmp_ne X 48 dX8_clause_34 (by decide) (fun c_6 => ?_) (fun c_6 => ?_)
          · have h := bi_f c_6 h
            refine j_aload_n X dX8_clause_48 rfl 0 rfl ?_
            refine j_getR (C := RX8) (T := TX8) (N := 9) X 0 s_0 rfl hin_X8 0 (by decide) 1 rfl q_247 dX8_clause_49 ?_
            refine j_iload_n X dX8_clause_52 rfl 1 rfl ?_
            obtain ⟨r_7, hr_7, h⟩ := bd_s h
            refine j_callVi (As := [.int p1]) X 1 s_1 rfl (c_X6_placeOf l w G 1 (Or.inl rfl) p1 hr_7) rfl pn_X6_placeOf q_505 q_506 q_507 q_60 q_508 ⟨Nat.le_of_ble_eq_true rfl, Nat.le_of_ble_eq_true rfl⟩ (Nat.le_of_ble_eq_true rfl) rfl dX8_clause_53 ?_
            exact j_iret X hr hk dX8_clause_56 (congrArg (fun z => (z, G)) (Option.some.inj h))
          · have h := bi_t c_6 h
            refine j_aload_n X dX8_clause_37 rfl 0 rfl ?_
            refine j_getR (C := RX8) (T := TX8) (N := 9) X 0 s_0 rfl hin_X8 0 (by decide) 1 rfl q_247 dX8_clause_38 ?_
            refine j_iload_n X dX8_clause_41 rfl 1 rfl ?_
            obtain ⟨r_8, hr_8, h⟩ := bd_s h
            refine j_callVi (As := [.int p1]) X 1 s_1 rfl (c_X6_linkOf l w G 1 (Or.inl rfl) p1 hr_8) rfl pn_X6_linkOf q_501 q_502 q_503 q_60 q_504 ⟨Nat.le_of_ble_eq_true rfl, Nat.le_of_ble_eq_true rfl⟩ (Nat.le_of_ble_eq_true rfl) rfl dX8_clause_42 ?_
            refine j_goto X 56 dX8_clause_45 (by decide) ?_
            exact j_iret X hr hk dX8_clause_56 (congrArg (fun z => (z, G)) (Option.some.inj h))
        · have h := bi_t c_5 h
          refine j_aload_n X dX8_clause_23 rfl 0 rfl ?_
          refine j_getR (C := RX8) (T := TX8) (N := 9) X 0 s_0 rfl hin_X8 0 (by decide) 1 rfl q_247 dX8_clause_24 ?_
          refine j_iload_n X dX8_clause_27 rfl 1 rfl ?_
          obtain ⟨r_9, hr_9, h⟩ := bd_s h
          refine j_callVi (As := [.int p1]) X 1 s_1 rfl (c_X6_tenseOf l w G 1 (Or.inl rfl) p1 hr_9) rfl pn_X6_tenseOf q_493 q_494 q_495 q_60 q_496 ⟨Nat.le_of_ble_eq_true rfl, Nat.le_of_ble_eq_true rfl⟩ (Nat.le_of_ble_eq_true rfl) rfl dX8_clause_28 ?_
          exact j_iret X hr hk dX8_clause_31 (congrArg (fun z => (z, G)) (Option.some.inj h))
      · have h := bi_f c_4 h
        refine j_iconst (v := (-1)) X dX8_clause_17 (by decide) ?_
        exact j_iret X hr hk dX8_clause_18 (congrArg (fun z => (z, G)) (Option.some.inj h))
