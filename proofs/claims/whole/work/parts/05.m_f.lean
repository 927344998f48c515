abbrev rm_X8_clear : Room := { frames := 1, cells := 0, slots := 0, locals := 20 }
theorem pn_X8_clear : yX8_clear.cls ≠ "java/lang/invoke/MethodHandle" ∧ yX8_clear.cls ≠ "java/lang/invoke/VarHandle" ∧ (parseMethodDescriptor yX8_clear.desc).map (fun d => d.parameters.length) = some 0 := by decide +kernel
def m_X8_clear (G : Mem) : Int32 × Mem := (m_X7_size G, m_X7_empty G)
set_option maxRecDepth 100000 in
set_option maxHeartbeats 4000000 in
theorem c_X8_clear (l : Launch) (w : WP) (G : Mem) : CMi l yX8_clear cX8_clear 2 (some .int) 1 20 w [.ref (w.1 0)] G (m_X8_clear G) := by
  refine CMi.of (by decide +kernel) (Nat.le_of_ble_eq_true rfl) ?_
  intro p e s m args below meth c X hr hk
  obtain ⟨res, h⟩ : ∃ z, m_X8_clear G = z := ⟨_, rfl⟩
  rw [h]
  unfold m_X8_clear at h
  show J p l e rm_X8_clear s m args below meth c (Qint below args s w res) w 2 G 0 [(0, .ref (w.1 0))] []
  refine j_aload_n X dX8_clear_0 rfl 0 rfl ?_
  refine j_getR (C := RX8) (T := TX8) (N := 9) X 0 s_0 rfl hin_X8 2 (by decide) 5 rfl q_249 dX8_clear_1 ?_
  refine j_callVi (As := []) X 5 s_5 rfl (c_X7_size l w G  ) rfl pn_X7_size q_283 q_284 q_285 q_61 q_286 ⟨Nat.le_of_ble_eq_true rfl, Nat.le_of_ble_eq_true rfl⟩ (Nat.le_of_ble_eq_true rfl) rfl dX8_clear_4 ?_
  refine j_istore_n X [(1, .int (m_X7_size G)), (0, .ref (w.1 0))] dX8_clear_7 rfl (by decide) rfl ?_
  refine j_aload_n X dX8_clear_8 rfl 1 rfl ?_
  refine j_getR (C := RX8) (T := TX8) (N := 9) X 0 s_0 rfl hin_X8 2 (by decide) 5 rfl q_249 dX8_clear_9 ?_
  refine j_callVv (As := []) X 5 s_5 rfl (c_X7_empty l w G  ) rfl pn_X7_empty q_291 q_292 q_293 q_61 q_294 ⟨Nat.le_of_ble_eq_true rfl, Nat.le_of_ble_eq_true rfl⟩ (Nat.le_of_ble_eq_true rfl) rfl dX8_clear_12 ?_
  refine j_iload_n X dX8_clear_15 rfl 0 rfl ?_
  exact j_iret X hr hk dX8_clear_16 (h)
abbrev rm_X8_count : Room := { frames := 2, cells := 0, slots := 0, locals := 40 }
theorem pn_X8_count : yX8_count.cls ≠ "java/lang/invoke/MethodHandle" ∧ yX8_count.cls ≠ "java/lang/invoke/VarHandle" ∧ (parseMethodDescriptor yX8_count.desc).map (fun d => d.parameters.length) = some 1 := by decide +kernel
def m_X8_count (G : Mem) (p1 : Int32) : Option (Int32) := (if p1 = 0 then (m_X6_clauses G 1).bind (fun r_2 => some r_2) else (if p1 = 1 then (m_X6_sayings G 1).bind (fun r_4 => some r_4) else (if p1 = 2 then (m_X6_statements G 1).bind (fun r_6 => some r_6) else (if p1 = 3 then some (m_X4_size G) else (if p1 = 4 then some (m_X7_size G) else (if p1 = 5 then some (m_X2_size G) else some (-1)))))))
set_option maxRecDepth 100000 in
set_option maxHeartbeats 4000000 in
theorem c_X8_count (l : Launch) (w : WP) (G : Mem) (p1 : Int32) {res : Int32} (h0 : m_X8_count G p1 = some res) : CMi l yX8_count cX8_count 2 (some .int) 2 40 w [.ref (w.1 0), .int p1] G (res, G) := by
  refine CMi.of (by decide +kernel) (Nat.le_of_ble_eq_true rfl) ?_
  intro p e s m args below meth c X hr hk
  have h := bs_i h0
  unfold m_X8_count at h
  show J p l e rm_X8_count s m args below meth c (Qint below args s w (res, G)) w 2 G 0 [(0, .ref (w.1 0)), (1, .int p1)] []
  refine j_iload_n X dX8_count_0 rfl 1 rfl ?_
  by_cases c_1 : p1 = 0
  · have h := bi_t c_1 h
    refine j_tabAt (v := 0) X 40 dX8_count_1 c_1 (by decide) (by decide) rfl (by decide) ?_
    refine j_aload_n X dX8_count_40 rfl 0 rfl ?_
    refine j_getR (C := RX8) (T := TX8) (N := 9) X 0 s_0 rfl hin_X8 0 (by decide) 1 rfl q_247 dX8_count_41 ?_
    obtain ⟨r_2, hr_2, h⟩ := bd_s h
    refine j_callVi (As := []) X 1 s_1 rfl (c_X6_clauses l w G 1 (Or.inl rfl)  hr_2) rfl pn_X6_clauses q_492 q_323 q_324 q_60 q_325 ⟨Nat.le_of_ble_eq_true rfl, Nat.le_of_ble_eq_true rfl⟩ (Nat.le_of_ble_eq_true rfl) rfl dX8_count_44 ?_
    exact j_iret X hr hk dX8_count_47 (congrArg (fun z => (z, G)) (Option.some.inj h))
  have h := bi_f c_1 h
  by_cases c_3 : p1 = 1
  · have h := bi_t c_3 h
    refine j_tabAt (v := 1) X 48 dX8_count_1 c_3 (by decide) (by decide) rfl (by decide) ?_
    refine j_aload_n X dX8_count_48 rfl 0 rfl ?_
    refine j_getR (C := RX8) (T := TX8) (N := 9) X 0 s_0 rfl hin_X8 0 (by decide) 1 rfl q_247 dX8_count_49 ?_
    obtain ⟨r_4, hr_4, h⟩ := bd_s h
    refine j_callVi (As := []) X 1 s_1 rfl (c_X6_sayings l w G 1 (Or.inl rfl)  hr_4) rfl pn_X6_sayings q_554 q_330 q_331 q_60 q_332 ⟨Nat.le_of_ble_eq_true rfl, Nat.le_of_ble_eq_true rfl⟩ (Nat.le_of_ble_eq_true rfl) rfl dX8_count_52 ?_
    exact j_iret X hr hk dX8_count_55 (congrArg (fun z => (z, G)) (Option.some.inj h))
  have h := bi_f c_3 h
  by_cases c_5 : p1 = 2
  · have h := bi_t c_5 h
    refine j_tabAt (v := 2) X 56 dX8_count_1 c_5 (by decide) (by decide) rfl (by decide) ?_
    refine j_aload_n X dX8_count_56 rfl 0 rfl ?_
    refine j_getR (C := RX8) (T := TX8) (N := 9) X 0 s_0 rfl hin_X8 0 (by decide) 1 rfl q_247 dX8_count_57 ?_
    obtain ⟨r_6, hr_6, h⟩ := bd_s h
    refine j_callVi (As := []) X 1 s_1 rfl (c_X6_statements l w G 1 (Or.inl rfl)  hr_6) rfl pn_X6_statements q_482 q_334 q_335 q_60 q_336 ⟨Nat.le_of_ble_eq_true rfl, Nat.le_of_ble_eq_true rfl⟩ (Nat.le_of_ble_eq_true rfl) rfl dX8_count_60 ?_
    exact j_iret X hr hk dX8_count_63 (congrArg (fun z => (z, G)) (Option.some.inj h))
  have h := bi_f c_5 h
  by_cases c_7 : p1 = 3
  · have h := bi_t c_7 h
    refine j_tabAt (v := 3) X 64 dX8_count_1 c_7 (by decide) (by decide) rfl (by decide) ?_
    refine j_aload_n X dX8_count_64 rfl 0 rfl ?_
    refine j_getR (C := RX8) (T := TX8) (N := 9) X 0 s_0 rfl hin_X8 5 (by decide) 23 rfl q_252 dX8_count_65 ?_
    refine j_callVi (As := []) X 23 s_23 rfl (c_X4_size l w G  ) rfl pn_X4_size q_812 q_813 q_814 q_64 q_815 ⟨Nat.le_of_ble_eq_true rfl, Nat.le_of_ble_eq_true rfl⟩ (Nat.le_of_ble_eq_true rfl) rfl dX8_count_68 ?_
    exact j_iret X hr hk dX8_count_71 (congrArg (fun z => (z, G)) (Option.some.inj h))
  have h := bi_f c_7 h
  by_cases c_8 : p1 = 4
  · have h := bi_t c_8 h
    refine j_tabAt (v := 4) X 72 dX8_count_1 c_8 (by decide) (by decide) rfl (by decide) ?_
    refine j_aload_n X dX8_count_72 rfl 0 rfl ?_
    refine j_getR (C := RX8) (T := TX8) (N := 9) X 0 s_0 rfl hin_X8 2 (by decide) 5 rfl q_249 dX8_count_73 ?_
    refine j_callVi (As := []) X 5 s_5 rfl (c_X7_size l w G  ) rfl pn_X7_size q_283 q_284 q_285 q_61 q_286 ⟨Nat.le_of_ble_eq_true rfl, Nat.le_of_ble_eq_true rfl⟩ (Nat.le_of_ble_eq_true rfl) rfl dX8_count_76 ?_
    exact j_iret X hr hk dX8_count_79 (congrArg (fun z => (z, G)) (Option.some.inj h))
  have h := bi_f c_8 h
  by_cases c_9 : p1 = 5
  · have h := bi_t c_9 h
    refine j_tabAt (v := 5) X 80 dX8_count_1 c_9 (by decide) (by decide) rfl (by decide) ?_
    refine j_aload_n X dX8_count_80 rfl 0 rfl ?_
    refine j_getR (C := RX8) (T := TX8) (N := 9) X 0 s_0 rfl hin_X8 3 (by decide) 7 rfl q_250 dX8_count_81 ?_
    refine j_callVi (As := []) X 7 s_7 rfl (c_X2_size l w G  ) rfl pn_X2_size q_587 q_588 q_589 q_62 q_590 ⟨Nat.le_of_ble_eq_true rfl, Nat.le_of_ble_eq_true rfl⟩ (Nat.le_of_ble_eq_true rfl) rfl dX8_count_84 ?_
    exact j_iret X hr hk dX8_count_87 (congrArg (fun z => (z, G)) (Option.some.inj h))
  have h := bi_f c_9 h
  refine j_tabOut X 88 dX8_count_1 (by have z0 := lv_neT (a := 0) c_1 (by decide); have z1 := lv_neT (a := 1) c_3 (by decide); have z2 := lv_neT (a := 2) c_5 (by decide); have z3 := lv_neT (a := 3) c_7 (by decide); have z4 := lv_neT (a := 4) c_8 (by decide); have z5 := lv_neT (a := 5) c_9 (by decide); omega) (by decide) ?_
  refine j_iconst (v := (-1)) X dX8_count_88 (by decide) ?_
  exact j_iret X hr hk dX8_count_89 (congrArg (fun z => (z, G)) (Option.some.inj h))
abbrev rm_X8_forget : Room := { frames := 1, cells := 0, slots := 0, locals := 20 }
theorem pn_X8_forget : yX8_forget.cls ≠ "java/lang/invoke/MethodHandle" ∧ yX8_forget.cls ≠ "java/lang/invoke/VarHandle" ∧ (parseMethodDescriptor yX8_forget.desc).map (fun d => d.parameters.length) = some 0 := by decide +kernel
def m_X8_forget (G : Mem) : Int32 × Mem := (m_X4_size G, m_X4_empty G)
set_option maxRecDepth 100000 in
set_option maxHeartbeats 4000000 in
theorem c_X8_forget (l : Launch) (w : WP) (G : Mem) : CMi l yX8_forget cX8_forget 2 (some .int) 1 20 w [.ref (w.1 0)] G (m_X8_forget G) := by
  refine CMi.of (by decide +kernel) (Nat.le_of_ble_eq_true rfl) ?_
  intro p e s m args below meth c X hr hk
  obtain ⟨res, h⟩ : ∃ z, m_X8_forget G = z := ⟨_, rfl⟩
  rw [h]
  unfold m_X8_forget at h
  show J p l e rm_X8_forget s m args below meth c (Qint below args s w res) w 2 G 0 [(0, .ref (w.1 0))] []
  refine j_aload_n X dX8_forget_0 rfl 0 rfl ?_
  refine j_getR (C := RX8) (T := TX8) (N := 9) X 0 s_0 rfl hin_X8 5 (by decide) 23 rfl q_252 dX8_forget_1 ?_
  refine j_callVi (As := []) X 23 s_23 rfl (c_X4_size l w G  ) rfl pn_X4_size q_812 q_813 q_814 q_64 q_815 ⟨Nat.le_of_ble_eq_true rfl, Nat.le_of_ble_eq_true rfl⟩ (Nat.le_of_ble_eq_true rfl) rfl dX8_forget_4 ?_
  refine j_istore_n X [(1, .int (m_X4_size G)), (0, .ref (w.1 0))] dX8_forget_7 rfl (by decide) rfl ?_
  refine j_aload_n X dX8_forget_8 rfl 1 rfl ?_
  refine j_getR (C := RX8) (T := TX8) (N := 9) X 0 s_0 rfl hin_X8 5 (by decide) 23 rfl q_252 dX8_forget_9 ?_
  refine j_callVv (As := []) X 23 s_23 rfl (c_X4_empty l w G  ) rfl pn_X4_empty q_470 q_471 q_472 q_64 q_473 ⟨Nat.le_of_ble_eq_true rfl, Nat.le_of_ble_eq_true rfl⟩ (Nat.le_of_ble_eq_true rfl) rfl dX8_forget_12 ?_
  refine j_iload_n X dX8_forget_15 rfl 0 rfl ?_
  exact j_iret X hr hk dX8_forget_16 (h)
abbrev rm_X8_isStatement : Room := { frames := 1, cells := 0, slots := 0, locals := 20 }
theorem pn_X8_isStatement : yX8_isStatement.cls ≠ "java/lang/invoke/MethodHandle" ∧ yX8_isStatement.cls ≠ "java/lang/invoke/VarHandle" ∧ (parseMethodDescriptor yX8_isStatement.desc).map (fun d => d.parameters.length) = some 1 := by decide +kernel
def m_X8_isStatement (G : Mem) (p1 : Int32) : Option (Int32) := (if p1 < 0 then some 0 else (m_X6_statements G 1).bind (fun r_2 => (if r_2 ≤ p1 then some 0 else some 1)))
set_option maxRecDepth 100000 in
set_option maxHeartbeats 4000000 in
theorem c_X8_isStatement (l : Launch) (w : WP) (G : Mem) (p1 : Int32) {res : Int32} (h0 : m_X8_isStatement G p1 = some res) : CMi l yX8_isStatement cX8_isStatement 2 (some .boolean) 1 20 w [.ref (w.1 0), .int p1] G (res, G) := by
  refine CMi.of (by decide +kernel) (Nat.le_of_ble_eq_true rfl) ?_
  intro p e s m args below meth c X hr hk
  have h := bs_i h0
  unfold m_X8_isStatement at h
  show J p l e rm_X8_isStatement s m args below meth c (Qint below args s w (res, G)) w 2 G 0 [(0, .ref (w.1 0)), (1, .int p1)] []
  refine j_iload_n X dX8_isStatement_0 rfl 1 rfl ?_
  refine j_if_lt X 19 dX8_isStatement_1 (by decide) (fun c_1 => ?_) (fun c_1 => ?_)
  · have h := bi_t c_1 h
    refine j_iconst (v := 0) X dX8_isStatement_19 (by decide) ?_
    exact j_zret X hr hk (by decide) dX8_isStatement_20 (congrArg (fun z => (z, G)) (Option.some.inj h))
  · have h := bi_f c_1 h
    refine j_iload_n X dX8_isStatement_4 rfl 1 rfl ?_
    refine j_aload_n X dX8_isStatement_5 rfl 0 rfl ?_
    refine j_getR (C := RX8) (T := TX8) (N := 9) X 0 s_0 rfl hin_X8 0 (by decide) 1 rfl q_247 dX8_isStatement_6 ?_
    obtain ⟨r_2, hr_2, h⟩ := bd_s h
    refine j_callVi (As := []) X 1 s_1 rfl (c_X6_statements l w G 1 (Or.inl rfl)  hr_2) rfl pn_X6_statements q_482 q_334 q_335 q_60 q_336 ⟨Nat.le_of_ble_eq_true rfl, Nat.le_of_ble_eq_true rfl⟩ (Nat.le_of_ble_eq_true rfl) rfl dX8_isStatement_9 ?_
    refine j_icmp_ge X 19 dX8_isStatement_12 (by decide) (fun c_3 => ?_) (fun c_3 => ?_)
    · have h := bi_t c_3 h
      refine j_iconst (v := 0) X dX8_isStatement_19 (by decide) ?_
      exact j_zret X hr hk (by decide) dX8_isStatement_20 (congrArg (fun z => (z, G)) (Option.some.inj h))
    · have h := bi_f c_3 h
      refine j_iconst (v := 1) X dX8_isStatement_15 (by decide) ?_
      refine j_goto X 20 dX8_isStatement_16 (by decide) ?_
      exact j_zret X hr hk (by decide) dX8_isStatement_20 (congrArg (fun z => (z, G)) (Option.some.inj h))
abbrev rm_X8_keep : Room := { frames := 3, cells := 0, slots := 0, locals := 65 }
theorem pn_X8_keep : yX8_keep.cls ≠ "java/lang/invoke/MethodHandle" ∧ yX8_keep.cls ≠ "java/lang/invoke/VarHandle" ∧ (parseMethodDescriptor yX8_keep.desc).map (fun d => d.parameters.length) = some 1 := by decide +kernel
def m_X8_keep (G : Mem) (p1 : Int32) : Option (Int32 × Mem) := (if p1 < 0 then some ((-1), G) else (if p1 < 2 then (m_X0_store G p1).bind (fun q_3 => (m_X6_statements q_3 1).bind (fun r_4 => some (r_4, q_3))) else some ((-1), G)))
set_option maxRecDepth 100000 in
set_option maxHeartbeats 4000000 in
theorem c_X8_keep (l : Launch) (w : WP) (G : Mem) (p1 : Int32) {res : Int32 × Mem} (h0 : m_X8_keep G p1 = some res) : CMi l yX8_keep cX8_keep 2 (some .int) 3 65 w [.ref (w.1 0), .int p1] G res := by
  refine CMi.of (by decide +kernel) (Nat.le_of_ble_eq_true rfl) ?_
  intro p e s m args below meth c X hr hk
  have h := bs_i h0
  unfold m_X8_keep at h
  show J p l e rm_X8_keep s m args below meth c (Qint below args s w res) w 2 G 0 [(0, .ref (w.1 0)), (1, .int p1)] []
  refine j_iload_n X dX8_keep_0 rfl 1 rfl ?_
  refine j_if_lt X 9 dX8_keep_1 (by decide) (fun c_1 => ?_) (fun c_1 => ?_)
  · have h := bi_t c_1 h
    refine j_iconst (v := (-1)) X dX8_keep_9 (by decide) ?_
    exact j_iret X hr hk dX8_keep_10 (Option.some.inj h)
  · have h := bi_f c_1 h
    refine j_iload_n X dX8_keep_4 rfl 1 rfl ?_
    refine j_iconst (v := 2) X dX8_keep_5 (by decide) ?_
    refine j_icmp_lt X 11 dX8_keep_6 (by decide) (fun c_2 => ?_) (fun c_2 => ?_)
    · have h := bi_t c_2 h
      refine j_aload_n X dX8_keep_11 rfl 0 rfl ?_
      refine j_getR (C := RX8) (T := TX8) (N := 9) X 0 s_0 rfl hin_X8 4 (by decide) 19 rfl q_251 dX8_keep_12 ?_
      refine j_iload_n X dX8_keep_15 rfl 1 rfl ?_
      refine j_aload_n X dX8_keep_16 rfl 0 rfl ?_
      refine j_getR (C := RX8) (T := TX8) (N := 9) X 0 s_0 rfl hin_X8 0 (by decide) 1 rfl q_247 dX8_keep_17 ?_
      obtain ⟨q_3, hq_3, h⟩ := bd_s h
      refine j_callVv (As := [.int p1, .ref (w.1 1)]) X 19 s_19 rfl (c_X0_store l w G  p1 hq_3) rfl pn_X0_store q_833 q_834 q_835 q_63 q_836 ⟨Nat.le_of_ble_eq_true rfl, Nat.le_of_ble_eq_true rfl⟩ (Nat.le_of_ble_eq_true rfl) rfl dX8_keep_20 ?_
      refine j_aload_n X dX8_keep_23 rfl 0 rfl ?_
      refine j_getR (C := RX8) (T := TX8) (N := 9) X 0 s_0 rfl hin_X8 0 (by decide) 1 rfl q_247 dX8_keep_24 ?_
      obtain ⟨r_4, hr_4, h⟩ := bd_s h
      refine j_callVi (As := []) X 1 s_1 rfl (c_X6_statements l w q_3 1 (Or.inl rfl)  hr_4) rfl pn_X6_statements q_482 q_334 q_335 q_60 q_336 ⟨Nat.le_of_ble_eq_true rfl, Nat.le_of_ble_eq_true rfl⟩ (Nat.le_of_ble_eq_true rfl) rfl dX8_keep_27 ?_
      exact j_iret X hr hk dX8_keep_30 (Option.some.inj h)
    · have h := bi_f c_2 h
      refine j_iconst (v := (-1)) X dX8_keep_9 (by decide) ?_
      exact j_iret X hr hk dX8_keep_10 (Option.some.inj h)
abbrev rm_X8_orderAll : Room := { frames := 5, cells := 0, slots := 0, locals := 115 }
theorem pn_X8_orderAll : yX8_orderAll.cls ≠ "java/lang/invoke/MethodHandle" ∧ yX8_orderAll.cls ≠ "java/lang/invoke/VarHandle" ∧ (parseMethodDescriptor yX8_orderAll.desc).map (fun d => d.parameters.length) = some 0 := by decide +kernel
def m_X8_orderAll (G : Mem) : Option (Mem) := (m_X6_everything G 1).bind (fun r_1 => (m_X8_orderSet G r_1).bind (fun q_2 => some q_2))
set_option maxRecDepth 100000 in
set_option maxHeartbeats 4000000 in
theorem c_X8_orderAll (l : Launch) (w : WP) (G : Mem) {res : Mem} (h0 : m_X8_orderAll G = some res) : CMv l yX8_orderAll cX8_orderAll 1 none 5 115 w [.ref (w.1 0)] G res := by
  refine CMv.of (by decide +kernel) (Nat.le_of_ble_eq_true rfl) ?_
  intro p e s m args below meth c X hr hk
  have h := bs_i h0
  unfold m_X8_orderAll at h
  show J p l e rm_X8_orderAll s m args below meth c (Qvoid below args s w res) w 1 G 0 [(0, .ref (w.1 0))] []
  refine j_aload_n X dX8_orderAll_0 rfl 0 rfl ?_
  refine j_aload_n X dX8_orderAll_1 rfl 0 rfl ?_
  refine j_getR (C := RX8) (T := TX8) (N := 9) X 0 s_0 rfl hin_X8 0 (by decide) 1 rfl q_247 dX8_orderAll_2 ?_
  obtain ⟨r_1, hr_1, h⟩ := bd_s h
  refine j_callVi (As := []) X 1 s_1 rfl (c_X6_everything l w G 1 (Or.inl rfl)  hr_1) rfl pn_X6_everything q_607 q_608 q_609 q_60 q_610 ⟨Nat.le_of_ble_eq_true rfl, Nat.le_of_ble_eq_true rfl⟩ (Nat.le_of_ble_eq_true rfl) rfl dX8_orderAll_5 ?_
  obtain ⟨q_2, hq_2, h⟩ := bd_s h
  refine j_callVv (As := [.int r_1]) X 0 s_0 rfl (c_X8_orderSet l w G  r_1 hq_2) rfl pn_X8_orderSet q_611 q_613 q_16 q_59 q_614 ⟨Nat.le_of_ble_eq_true rfl, Nat.le_of_ble_eq_true rfl⟩ (Nat.le_of_ble_eq_true rfl) rfl dX8_orderAll_8 ?_
  exact j_vret X hr hk dX8_orderAll_11 (Option.some.inj h)
abbrev rm_X8_known : Room := { frames := 6, cells := 0, slots := 0, locals := 135 }
theorem pn_X8_known : yX8_known.cls ≠ "java/lang/invoke/MethodHandle" ∧ yX8_known.cls ≠ "java/lang/invoke/VarHandle" ∧ (parseMethodDescriptor yX8_known.desc).map (fun d => d.parameters.length) = some 2 := by decide +kernel
def m_X8_known (G : Mem) (p1 : Int32) (p2 : Int32) : Option (Int32 × Mem) := (m_X8_isTime G p1).bind (fun r_1 => (if r_1 = 0 then some ((-1), G) else (m_X8_isTime G p2).bind (fun r_3 => (if r_3 = 0 then some ((-1), G) else (m_X8_orderAll G).bind (fun q_5 => (m_X1_tells q_5 27 p1 p2).bind (fun r_6 => some (r_6, q_5)))))))
set_option maxRecDepth 100000 in
set_option maxHeartbeats 4000000 in
theorem c_X8_known (l : Launch) (w : WP) (G : Mem) (p1 : Int32) (p2 : Int32) {res : Int32 × Mem} (h0 : m_X8_known G p1 p2 = some res) : CMi l yX8_known cX8_known 3 (some .int) 6 135 w [.ref (w.1 0), .int p1, .int p2] G res := by
  refine CMi.of (by decide +kernel) (Nat.le_of_ble_eq_true rfl) ?_
  intro p e s m args below meth c X hr hk
  have h := bs_i h0
  unfold m_X8_known at h
  show J p l e rm_X8_known s m args below meth c (Qint below args s w res) w 3 G 0 [(0, .ref (w.1 0)), (1, .int p1), (2, .int p2)] []
  refine j_aload_n X dX8_known_0 rfl 0 rfl ?_
  refine j_iload_n X dX8_known_1 rfl 1 rfl ?_
  obtain ⟨r_1, hr_1, h⟩ := bd_s h
  refine j_callVi (As := [.int p1]) X 0 s_0 rfl (c_X8_isTime l w G  p1 hr_1) rfl pn_X8_isTime q_550 q_552 q_14 q_59 q_553 ⟨Nat.le_of_ble_eq_true rfl, Nat.le_of_ble_eq_true rfl⟩ (Nat.le_of_ble_eq_true rfl) rfl dX8_known_2 ?_
  refine j_if_eq X 16 dX8_known_5 (by decide) (fun c_2 => ?_) (fun c_2 => ?_)
  · have h := bi_t c_2 h
    refine j_iconst (v := (-1)) X dX8_known_16 (by decide) ?_
    exact j_iret X hr hk dX8_known_17 (Option.some.inj h)
  · have h := bi_f c_2 h
    refine j_aload_n X dX8_known_8 rfl 0 rfl ?_
    refine j_iload_n X dX8_known_9 rfl 2 rfl ?_
    obtain ⟨r_3, hr_3, h⟩ := bd_s h
    refine j_callVi (As := [.int p2]) X 0 s_0 rfl (c_X8_isTime l w G  p2 hr_3) rfl pn_X8_isTime q_550 q_552 q_14 q_59 q_553 ⟨Nat.le_of_ble_eq_true rfl, Nat.le_of_ble_eq_true rfl⟩ (Nat.le_of_ble_eq_true rfl) rfl dX8_known_10 ?_
    refine j_if_ne X 18 dX8_known_13 (by decide) (fun c_4 => ?_) (fun c_4 => ?_)
    · have h := bi_f c_4 h
      refine j_aload_n X dX8_known_18 rfl 0 rfl ?_
      obtain ⟨q_5, hq_5, h⟩ := bd_s h
      refine j_callVv (As := []) X 0 s_0 rfl (c_X8_orderAll l w G   hq_5) rfl pn_X8_orderAll q_603 q_605 q_15 q_59 q_606 ⟨Nat.le_of_ble_eq_true rfl, Nat.le_of_ble_eq_true rfl⟩ (Nat.le_of_ble_eq_true rfl) rfl dX8_known_19 ?_
      refine j_aload_n X dX8_known_22 rfl 0 rfl ?_
      refine j_getR (C := RX8) (T := TX8) (N := 9) X 0 s_0 rfl hin_X8 6 (by decide) 27 rfl q_253 dX8_known_23 ?_
      refine j_iload_n X dX8_known_26 rfl 1 rfl ?_
      refine j_iload_n X dX8_known_27 rfl 2 rfl ?_
      obtain ⟨r_6, hr_6, h⟩ := bd_s h
      refine j_callVi (As := [.int p1, .int p2]) X 27 s_27 rfl (c_X1_tells l w q_5 27 (Or.inl rfl) p1 p2 hr_6) rfl pn_X1_tells q_703 q_704 q_705 q_65 q_706 ⟨Nat.le_of_ble_eq_true rfl, Nat.le_of_ble_eq_true rfl⟩ (Nat.le_of_ble_eq_true rfl) rfl dX8_known_28 ?_
      exact j_iret X hr hk dX8_known_31 (Option.some.inj h)
    · have h := bi_t c_4 h
      refine j_iconst (v := (-1)) X dX8_known_16 (by decide) ?_
      exact j_iret X hr hk dX8_known_17 (Option.some.inj h)
abbrev rm_X8_left : Room := { frames := 6, cells := 0, slots := 0, locals := 135 }
theorem pn_X8_left : yX8_left.cls ≠ "java/lang/invoke/MethodHandle" ∧ yX8_left.cls ≠ "java/lang/invoke/VarHandle" ∧ (parseMethodDescriptor yX8_left.desc).map (fun d => d.parameters.length) = some 3 := by decide +kernel
def m_X8_left (G : Mem) (p1 : Int32) (p2 : Int32) (p3 : Int32) : Option (Int32 × Mem) := (m_X8_isClause G p1).bind (fun r_1 => (if r_1 = 0 then some ((-1), G) else (m_X8_isClause G p2).bind (fun r_3 => (if r_3 = 0 then some ((-1), G) else (if p1 = p2 then some ((-1), G) else (if p3 < 0 then some ((-1), G) else (if p3 < 3 then (m_X8_tallyAll G).bind (fun q_8 => (m_X5_compare q_8).bind (fun q_9 => (m_X5_remaining q_9 p1 p3 p2).bind (fun r_10 => some (r_10, q_9)))) else some ((-1), G))))))))
set_option maxRecDepth 100000 in
set_option maxHeartbeats 4000000 in
theorem c_X8_left (l : Launch) (w : WP) (G : Mem) (p1 : Int32) (p2 : Int32) (p3 : Int32) {res : Int32 × Mem} (h0 : m_X8_left G p1 p2 p3 = some res) : CMi l yX8_left cX8_left 4 (some .int) 6 135 w [.ref (w.1 0), .int p1, .int p2, .int p3] G res := by
  refine CMi.of (by decide +kernel) (Nat.le_of_ble_eq_true rfl) ?_
  intro p e s m args below meth c X hr hk
  have h := bs_i h0
  unfold m_X8_left at h
  show J p l e rm_X8_left s m args below meth c (Qint below args s w res) w 4 G 0 [(0, .ref (w.1 0)), (1, .int p1), (2, .int p2), (3, .int p3)] []
  refine j_aload_n X dX8_left_0 rfl 0 rfl ?_
  refine j_iload_n X dX8_left_1 rfl 1 rfl ?_
  obtain ⟨r_1, hr_1, h⟩ := bd_s h
  refine j_callVi (As := [.int p1]) X 0 s_0 rfl (c_X8_isClause l w G  p1 hr_1) rfl pn_X8_isClause q_488 q_490 q_8 q_59 q_491 ⟨Nat.le_of_ble_eq_true rfl, Nat.le_of_ble_eq_true rfl⟩ (Nat.le_of_ble_eq_true rfl) rfl dX8_left_2 ?_
  refine j_if_eq X 30 dX8_left_5 (by decide) (fun c_2 => ?_) (fun c_2 => ?_)
  · have h := bi_t c_2 h
    refine j_iconst (v := (-1)) X dX8_left_30 (by decide) ?_
    exact j_iret X hr hk dX8_left_31 (Option.some.inj h)
  · have h := bi_f c_2 h
    refine j_aload_n X dX8_left_8 rfl 0 rfl ?_
    refine j_iload_n X dX8_left_9 rfl 2 rfl ?_
    obtain ⟨r_3, hr_3, h⟩ := bd_s h
    refine j_callVi (As := [.int p2]) X 0 s_0 rfl (c_X8_isClause l w G  p2 hr_3) rfl pn_X8_isClause q_488 q_490 q_8 q_59 q_491 ⟨Nat.le_of_ble_eq_true rfl, Nat.le_of_ble_eq_true rfl⟩ (Nat.le_of_ble_eq_true rfl) rfl dX8_left_10 ?_
    refine j_if_eq X 30 dX8_left_13 (by decide) (fun c_4 => ?_) (fun c_4 => ?_)
    · have h := bi_t c_4 h
      refine j_iconst (v := (-1)) X dX8_left_30 (by decide) ?_
      exact j_iret X hr hk dX8_left_31 (Option.some.inj h)
    · have h := bi_f c_4 h
      refine j_iload_n X dX8_left_16 rfl 1 rfl ?_
      refine j_iload_n X dX8_left_17 rfl 2 rfl ?_
      refine j_icmp_eq X 30 dX8_left_18 (by decide) (fun c_5 => ?_) (fun c_5 => ?_)
      · have h := bi_t c_5 h
        refine j_iconst (v := (-1)) X dX8_left_30 (by decide) ?_
        exact j_iret X hr hk dX8_left_31 (Option.some.inj h)
      · have h := bi_f c_5 h
        refine j_iload_n X dX8_left_21 rfl 3 rfl ?_
        refine j_if_lt X 30 dX8_left_22 (by decide) (fun c_6 => ?_) (fun c_6 => ?_)
        · have h := bi_t c_6 h
          refine j_iconst (v := (-1)) X dX8_left_30 (by decide) ?_
          exact j_iret X hr hk dX8_left_31 (Option.some.inj h)
        · have h := bi_f c_6 h
          refine j_iload_n X dX8_left_25 rfl 3 rfl ?_
          refine j_iconst (v := 3) X dX8_left_26 (by decide) ?_
          refine j_icmp_lt X 32 dX8_left_27 (by decide) (fun c_7 => ?_) (fun c_7 => ?_)
          · have h := bi_t c_7 h
            refine j_aload_n X dX8_left_32 rfl 0 rfl ?_
            obtain ⟨q_8, hq_8, h⟩ := bd_s h
            refine j_callVv (As := []) X 0 s_0 rfl (c_X8_tallyAll l w G   hq_8) rfl pn_X8_tallyAll q_733 q_735 q_23 q_59 q_736 ⟨Nat.le_of_ble_eq_true rfl, Nat.le_of_ble_eq_true rfl⟩ (Nat.le_of_ble_eq_true rfl) rfl dX8_left_33 ?_
            refine j_aload_n X dX8_left_36 rfl 0 rfl ?_
            refine j_getR (C := RX8) (T := TX8) (N := 9) X 0 s_0 rfl hin_X8 8 (by decide) 66 rfl q_255 dX8_left_37 ?_
            obtain ⟨q_9, hq_9, h⟩ := bd_s h
            refine j_callVv (As := []) X 66 s_66 rfl (c_X5_compare l w q_8   hq_9) rfl pn_X5_compare q_777 q_778 q_779 q_67 q_780 ⟨Nat.le_of_ble_eq_true rfl, Nat.le_of_ble_eq_true rfl⟩ (Nat.le_of_ble_eq_true rfl) rfl dX8_left_40 ?_
            refine j_aload_n X dX8_left_43 rfl 0 rfl ?_
            refine j_getR (C := RX8) (T := TX8) (N := 9) X 0 s_0 rfl hin_X8 8 (by decide) 66 rfl q_255 dX8_left_44 ?_
            refine j_iload_n X dX8_left_47 rfl 1 rfl ?_
            refine j_iload_n X dX8_left_48 rfl 3 rfl ?_
            refine j_iload_n X dX8_left_49 rfl 2 rfl ?_
            obtain ⟨r_10, hr_10, h⟩ := bd_s h
            refine j_callVi (As := [.int p1, .int p3, .int p2]) X 66 s_66 rfl (c_X5_remaining l w q_9  p1 p3 p2 hr_10) rfl pn_X5_remaining q_789 q_790 q_791 q_67 q_792 ⟨Nat.le_of_ble_eq_true rfl, Nat.le_of_ble_eq_true rfl⟩ (Nat.le_of_ble_eq_true rfl) rfl dX8_left_50 ?_
            exact j_iret X hr hk dX8_left_53 (Option.some.inj h)
          · have h := bi_f c_7 h
            refine j_iconst (v := (-1)) X dX8_left_30 (by decide) ?_
            exact j_iret X hr hk dX8_left_31 (Option.some.inj h)
abbrev rm_X8_line : Room := { frames := 6, cells := 0, slots := 0, locals := 135 }
theorem pn_X8_line : yX8_line.cls ≠ "java/lang/invoke/MethodHandle" ∧ yX8_line.cls ≠ "java/lang/invoke/VarHandle" ∧ (parseMethodDescriptor yX8_line.desc).map (fun d => d.parameters.length) = some 1 := by decide +kernel
def m_X8_line (G : Mem) (p1 : Int32) : Option (Int32 × Mem) := (m_X8_isTime G p1).bind (fun r_1 => (if r_1 = 0 then some ((-1), G) else (m_X8_orderAll G).bind (fun q_3 => (m_X1_isSound q_3 27).bind (fun r_4 => (if r_4 = 0 then some ((-9), q_3) else (m_X1_earliest q_3 27 p1).bind (fun r_6 => some (r_6, q_3)))))))
set_option maxRecDepth 100000 in
set_option maxHeartbeats 4000000 in
theorem c_X8_line (l : Launch) (w : WP) (G : Mem) (p1 : Int32) {res : Int32 × Mem} (h0 : m_X8_line G p1 = some res) : CMi l yX8_line cX8_line 2 (some .int) 6 135 w [.ref (w.1 0), .int p1] G res := by
  refine CMi.of (by decide +kernel) (Nat.le_of_ble_eq_true rfl) ?_
  intro p e s m args below meth c X hr hk
  have h := bs_i h0
  unfold m_X8_line at h
  show J p l e rm_X8_line s m args below meth c (Qint below args s w res) w 2 G 0 [(0, .ref (w.1 0)), (1, .int p1)] []
  refine j_aload_n X dX8_line_0 rfl 0 rfl ?_
  refine j_iload_n X dX8_line_1 rfl 1 rfl ?_
  obtain ⟨r_1, hr_1, h⟩ := bd_s h
  refine j_callVi (As := [.int p1]) X 0 s_0 rfl (c_X8_isTime l w G  p1 hr_1) rfl pn_X8_isTime q_550 q_552 q_14 q_59 q_553 ⟨Nat.le_of_ble_eq_true rfl, Nat.le_of_ble_eq_true rfl⟩ (Nat.le_of_ble_eq_true rfl) rfl dX8_line_2 ?_
  refine j_if_ne X 10 dX8_line_5 (by decide) (fun c_2 => ?_) (fun c_2 => ?_)
  · have h := bi_f c_2 h
    refine j_aload_n X dX8_line_10 rfl 0 rfl ?_
    obtain ⟨q_3, hq_3, h⟩ := bd_s h
    refine j_callVv (As := []) X 0 s_0 rfl (c_X8_orderAll l w G   hq_3) rfl pn_X8_orderAll q_603 q_605 q_15 q_59 q_606 ⟨Nat.le_of_ble_eq_true rfl, Nat.le_of_ble_eq_true rfl⟩ (Nat.le_of_ble_eq_true rfl) rfl dX8_line_11 ?_
    refine j_aload_n X dX8_line_14 rfl 0 rfl ?_
    refine j_getR (C := RX8) (T := TX8) (N := 9) X 0 s_0 rfl hin_X8 6 (by decide) 27 rfl q_253 dX8_line_15 ?_
    obtain ⟨r_4, hr_4, h⟩ := bd_s h
    refine j_callVi (As := []) X 27 s_27 rfl (c_X1_isSound l w q_3 27 (Or.inl rfl)  hr_4) rfl pn_X1_isSound q_651 q_652 q_653 q_65 q_654 ⟨Nat.le_of_ble_eq_true rfl, Nat.le_of_ble_eq_true rfl⟩ (Nat.le_of_ble_eq_true rfl) rfl dX8_line_18 ?_
    refine j_if_eq X 35 dX8_line_21 (by decide) (fun c_5 => ?_) (fun c_5 => ?_)
    · have h := bi_t c_5 h
      refine j_bipush (v := (-9)) X dX8_line_35 (by decide) ?_
      exact j_iret X hr hk dX8_line_37 (Option.some.inj h)
    · have h := bi_f c_5 h
      refine j_aload_n X dX8_line_24 rfl 0 rfl ?_
      refine j_getR (C := RX8) (T := TX8) (N := 9) X 0 s_0 rfl hin_X8 6 (by decide) 27 rfl q_253 dX8_line_25 ?_
      refine j_iload_n X dX8_line_28 rfl 1 rfl ?_
      obtain ⟨r_6, hr_6, h⟩ := bd_s h
      refine j_callVi (As := [.int p1]) X 27 s_27 rfl (c_X1_earliest l w q_3 27 (Or.inl rfl) p1 hr_6) rfl pn_X1_earliest q_716 q_717 q_718 q_65 q_719 ⟨Nat.le_of_ble_eq_true rfl, Nat.le_of_ble_eq_true rfl⟩ (Nat.le_of_ble_eq_true rfl) rfl dX8_line_29 ?_
      refine j_goto X 37 dX8_line_32 (by decide) ?_
      exact j_iret X hr hk dX8_line_37 (Option.some.inj h)
  · have h := bi_t c_2 h
    refine j_iconst (v := (-1)) X dX8_line_8 (by decide) ?_
    exact j_iret X hr hk dX8_line_9 (Option.some.inj h)
abbrev rm_X8_links : Room := { frames := 3, cells := 0, slots := 0, locals := 64 }
theorem pn_X8_links : yX8_links.cls ≠ "java/lang/invoke/MethodHandle" ∧ yX8_links.cls ≠ "java/lang/invoke/VarHandle" ∧ (parseMethodDescriptor yX8_links.desc).map (fun d => d.parameters.length) = some 2 := by decide +kernel
def m_X8_links (G : Mem) (p1 : Int32) (p2 : Int32) : Option (Int32 × Mem) := (m_X8_isClause G p1).bind (fun r_1 => (if r_1 = 0 then some ((-1), G) else (if p1 = 0 then some ((-1), G) else (if p2 < 0 then some ((-1), G) else (if p2 < 4 then (m_X6_linkOf G 1 p1).bind (fun r_6 => (if r_6 = p2 then some ((-2), G) else (m_X2_note G).bind (fun q_8 => (m_X6_setLink q_8 1 p1 p2).bind (fun q_9 => some (r_6, q_9))))) else some ((-1), G))))))
set_option maxRecDepth 100000 in
set_option maxHeartbeats 4000000 in
theorem c_X8_links (l : Launch) (w : WP) (G : Mem) (p1 : Int32) (p2 : Int32) {res : Int32 × Mem} (h0 : m_X8_links G p1 p2 = some res) : CMi l yX8_links cX8_links 4 (some .int) 3 64 w [.ref (w.1 0), .int p1, .int p2] G res := by
  refine CMi.of (by decide +kernel) (Nat.le_of_ble_eq_true rfl) ?_
  intro p e s m args below meth c X hr hk
  have h := bs_i h0
  unfold m_X8_links at h
  show J p l e rm_X8_links s m args below meth c (Qint below args s w res) w 4 G 0 [(0, .ref (w.1 0)), (1, .int p1), (2, .int p2)] []
  refine j_aload_n X dX8_links_0 rfl 0 rfl ?_
  refine j_iload_n X dX8_links_1 rfl 1 rfl ?_
  obtain ⟨r_1, hr_1, h⟩ := bd_s h
  refine j_callVi (As := [.int p1]) X 0 s_0 rfl (c_X8_isClause l w G  p1 hr_1) rfl pn_X8_isClause q_488 q_490 q_8 q_59 q_491 ⟨Nat.le_of_ble_eq_true rfl, Nat.le_of_ble_eq_true rfl⟩ (Nat.le_of_ble_eq_true rfl) rfl dX8_links_2 ?_
  refine j_if_eq X 21 dX8_links_5 (by decide) (fun c_2 => ?_) (fun c_2 => ?_)
  · have h := bi_t c_2 h
    refine j_iconst (v := (-1)) X dX8_links_21 (by decide) ?_
    exact j_iret X hr hk dX8_links_22 (Option.some.inj h)
  · have h := bi_f c_2 h
    refine j_iload_n X dX8_links_8 rfl 1 rfl ?_
    refine j_if_eq X 21 dX8_links_9 (by decide) (fun c_3 => ?_) (fun c_3 => ?_)
    · have h := bi_t c_3 h
      refine j_iconst (v := (-1)) X dX8_links_21 (by decide) ?_
      exact j_iret X hr hk dX8_links_22 (Option.some.inj h)
    · have h := bi_f c_3 h
      refine j_iload_n X dX8_links_12 rfl 2 rfl ?_
      refine j_if_lt X 21 dX8_links_13 (by decide) (fun c_4 => ?_) (fun c_4 => ?_)
      · have h := bi_t c_4 h
        refine j_iconst (v := (-1)) X dX8_links_21 (by decide) ?_
        exact j_iret X hr hk dX8_links_22 (Option.some.inj h)
      · have h := bi_f c_4 h
        refine j_iload_n X dX8_links_16 rfl 2 rfl ?_
        refine j_iconst (v := 4) X dX8_links_17 (by decide) ?_
        refine j_icmp_lt X 23 dX8_links_18 (by decide) (fun c_5 => ?_) (fun c_5 => ?_)
        · have h := bi_t c_5 h
          refine j_aload_n X dX8_links_23 rfl 0 rfl ?_
          refine j_getR (C := RX8) (T := TX8) (N := 9) X 0 s_0 rfl hin_X8 0 (by decide) 1 rfl q_247 dX8_links_24 ?_
          refine j_iload_n X dX8_links_27 rfl 1 rfl ?_
          obtain ⟨r_6, hr_6, h⟩ := bd_s h
          refine j_callVi (As := [.int p1]) X 1 s_1 rfl (c_X6_linkOf l w G 1 (Or.inl rfl) p1 hr_6) rfl pn_X6_linkOf q_501 q_502 q_503 q_60 q_504 ⟨Nat.le_of_ble_eq_true rfl, Nat.le_of_ble_eq_true rfl⟩ (Nat.le_of_ble_eq_true rfl) rfl dX8_links_28 ?_
          refine j_istore_n X [(3, .int r_6), (0, .ref (w.1 0)), (1, .int p1), (2, .int p2)] dX8_links_31 rfl (by decide) rfl ?_
          refine j_iload_n X dX8_links_32 rfl 0 rfl ?_
          refine j_iload_n X dX8_links_33 rfl 3 rfl ?_
          refine j_icmp_ne X 40 dX8_links_34 (by decide) (fun c_7 => ?_) (fun c_7 => ?_)
          · have h := bi_f c_7 h
            refine j_aload_n X dX8_links_40 rfl 1 rfl ?_
            refine j_getR (C := RX8) (T := TX8) (N := 9) X 0 s_0 rfl hin_X8 3 (by decide) 7 rfl q_250 dX8_links_41 ?_
            refine j_aload_n X dX8_links_44 rfl 1 rfl ?_
            refine j_getR (C := RX8) (T := TX8) (N := 9) X 0 s_0 rfl hin_X8 0 (by decide) 1 rfl q_247 dX8_links_45 ?_
            obtain ⟨q_8, hq_8, h⟩ := bd_s h
            refine j_callVv (As := [.ref (w.1 1)]) X 7 s_7 rfl (c_X2_note l w G   hq_8) rfl pn_X2_note q_555 q_556 q_557 q_62 q_558 ⟨Nat.le_of_ble_eq_true rfl, Nat.le_of_ble_eq_true rfl⟩ (Nat.le_of_ble_eq_true rfl) rfl dX8_links_48 ?_
            refine j_aload_n X dX8_links_51 rfl 1 rfl ?_
            refine j_getR (C := RX8) (T := TX8) (N := 9) X 0 s_0 rfl hin_X8 0 (by decide) 1 rfl q_247 dX8_links_52 ?_
            refine j_iload_n X dX8_links_55 rfl 2 rfl ?_
            refine j_iload_n X dX8_links_56 rfl 3 rfl ?_
            obtain ⟨q_9, hq_9, h⟩ := bd_s h
            refine j_callVv (As := [.int p1, .int p2]) X 1 s_1 rfl (c_X6_setLink l w q_8 1 (Or.inl rfl) p1 p2 hq_9) rfl pn_X6_setLink q_582 q_452 q_453 q_60 q_454 ⟨Nat.le_of_ble_eq_true rfl, Nat.le_of_ble_eq_true rfl⟩ (Nat.le_of_ble_eq_true rfl) rfl dX8_links_57 ?_
            refine j_iload_n X dX8_links_60 rfl 0 rfl ?_
            exact j_iret X hr hk dX8_links_61 (Option.some.inj h)
          · have h := bi_t c_7 h
            refine j_bipush (v := (-2)) X dX8_links_37 (by decide) ?_
            exact j_iret X hr hk dX8_links_39 (Option.some.inj h)
        · have h := bi_f c_5 h
          refine j_iconst (v := (-1)) X dX8_links_21 (by decide) ?_
          exact j_iret X hr hk dX8_links_22 (Option.some.inj h)
abbrev rm_X8_orders : Room := { frames := 6, cells := 0, slots := 0, locals := 135 }
theorem pn_X8_orders : yX8_orders.cls ≠ "java/lang/invoke/MethodHandle" ∧ yX8_orders.cls ≠ "java/lang/invoke/VarHandle" ∧ (parseMethodDescriptor yX8_orders.desc).map (fun d => d.parameters.length) = some 0 := by decide +kernel
def m_X8_orders (G : Mem) : Option (Int32 × Mem) := (m_X8_tallyAll G).bind (fun q_1 => some (m_X5_all q_1, q_1))
set_option maxRecDepth 100000 in
set_option maxHeartbeats 4000000 in
theorem c_X8_orders (l : Launch) (w : WP) (G : Mem) {res : Int32 × Mem} (h0 : m_X8_orders G = some res) : CMi l yX8_orders cX8_orders 1 (some .int) 6 135 w [.ref (w.1 0)] G res := by
  refine CMi.of (by decide +kernel) (Nat.le_of_ble_eq_true rfl) ?_
  intro p e s m args below meth c X hr hk
  have h := bs_i h0
  unfold m_X8_orders at h
  show J p l e rm_X8_orders s m args below meth c (Qint below args s w res) w 1 G 0 [(0, .ref (w.1 0))] []
  refine j_aload_n X dX8_orders_0 rfl 0 rfl ?_
  obtain ⟨q_1, hq_1, h⟩ := bd_s h
  refine j_callVv (As := []) X 0 s_0 rfl (c_X8_tallyAll l w G   hq_1) rfl pn_X8_tallyAll q_733 q_735 q_23 q_59 q_736 ⟨Nat.le_of_ble_eq_true rfl, Nat.le_of_ble_eq_true rfl⟩ (Nat.le_of_ble_eq_true rfl) rfl dX8_orders_1 ?_
  refine j_aload_n X dX8_orders_4 rfl 0 rfl ?_
  refine j_getR (C := RX8) (T := TX8) (N := 9) X 0 s_0 rfl hin_X8 8 (by decide) 66 rfl q_255 dX8_orders_5 ?_
  refine j_callVi (As := []) X 66 s_66 rfl (c_X5_all l w q_1  ) rfl pn_X5_all q_769 q_770 q_771 q_67 q_772 ⟨Nat.le_of_ble_eq_true rfl, Nat.le_of_ble_eq_true rfl⟩ (Nat.le_of_ble_eq_true rfl) rfl dX8_orders_8 ?_
  exact j_iret X hr hk dX8_orders_11 (Option.some.inj h)
abbrev rm_X8_reads : Room := { frames := 8, cells := 0, slots := 0, locals := 178 }
theorem pn_X8_reads : yX8_reads.cls ≠ "java/lang/invoke/MethodHandle" ∧ yX8_reads.cls ≠ "java/lang/invoke/VarHandle" ∧ (parseMethodDescriptor yX8_reads.desc).map (fun d => d.parameters.length) = some 0 := by decide +kernel
def m_X8_reads (G : Mem) : Option (Int32 × Mem) := (m_X7_readInto G).bind (fun q_1 => (if q_1.1 = (-9) then (m_X6_become q_1.2 1).bind (fun q_3 => (m_X6_statements (m_X0_lose (m_X2_lose (m_X4_empty (m_X7_empty q_3)))) 1).bind (fun r_4 => some (r_4, m_X0_lose (m_X2_lose (m_X4_empty (m_X7_empty q_3)))))) else some ((-10) - q_1.1, q_1.2)))
set_option maxRecDepth 100000 in
set_option maxHeartbeats 4000000 in
theorem c_X8_reads (l : Launch) (w : WP) (G : Mem) {res : Int32 × Mem} (h0 : m_X8_reads G = some res) : CMi l yX8_reads cX8_reads 2 (some .int) 8 178 w [.ref (w.1 0)] G res := by
  refine CMi.of (by decide +kernel) (Nat.le_of_ble_eq_true rfl) ?_
  intro p e s m args below meth c X hr hk
  have h := bs_i h0
  unfold m_X8_reads at h
  show J p l e rm_X8_reads s m args below meth c (Qint below args s w res) w 2 G 0 [(0, .ref (w.1 0))] []
  refine j_aload_n X dX8_reads_0 rfl 0 rfl ?_
  refine j_getR (C := RX8) (T := TX8) (N := 9) X 0 s_0 rfl hin_X8 2 (by decide) 5 rfl q_249 dX8_reads_1 ?_
  refine j_aload_n X dX8_reads_4 rfl 0 rfl ?_
  refine j_getR (C := RX8) (T := TX8) (N := 9) X 0 s_0 rfl hin_X8 1 (by decide) 3 rfl q_248 dX8_reads_5 ?_
  obtain ⟨q_1, hq_1, h⟩ := bd_s h
  refine j_callVi (As := [.ref (w.1 3)]) X 5 s_5 rfl (c_X7_readInto l w G   hq_1) rfl pn_X7_readInto q_299 q_300 q_301 q_61 q_302 ⟨Nat.le_of_ble_eq_true rfl, Nat.le_of_ble_eq_true rfl⟩ (Nat.le_of_ble_eq_true rfl) rfl dX8_reads_8 ?_
  refine j_istore_n X [(1, .int q_1.1), (0, .ref (w.1 0))] dX8_reads_11 rfl (by decide) rfl ?_
  refine j_iload_n X dX8_reads_12 rfl 0 rfl ?_
  refine j_bipush (v := (-9)) X dX8_reads_13 (by decide) ?_
  refine j_icmp_eq X 23 dX8_reads_15 (by decide) (fun c_2 => ?_) (fun c_2 => ?_)
  · have h := bi_t c_2 h
    refine j_aload_n X dX8_reads_23 rfl 1 rfl ?_
    refine j_getR (C := RX8) (T := TX8) (N := 9) X 0 s_0 rfl hin_X8 0 (by decide) 1 rfl q_247 dX8_reads_24 ?_
    refine j_aload_n X dX8_reads_27 rfl 1 rfl ?_
    refine j_getR (C := RX8) (T := TX8) (N := 9) X 0 s_0 rfl hin_X8 1 (by decide) 3 rfl q_248 dX8_reads_28 ?_
    obtain ⟨q_3, hq_3, h⟩ := bd_s h
    refine j_callVv (As := [.ref (w.1 3)]) X 1 s_1 rfl (c_X6_become l w q_1.2 1 (Or.inl rfl)  hq_3) rfl pn_X6_become q_463 q_464 q_465 q_60 q_466 ⟨Nat.le_of_ble_eq_true rfl, Nat.le_of_ble_eq_true rfl⟩ (Nat.le_of_ble_eq_true rfl) rfl dX8_reads_31 ?_
    refine j_aload_n X dX8_reads_34 rfl 1 rfl ?_
    refine j_getR (C := RX8) (T := TX8) (N := 9) X 0 s_0 rfl hin_X8 2 (by decide) 5 rfl q_249 dX8_reads_35 ?_
    refine j_callVv (As := []) X 5 s_5 rfl (c_X7_empty l w q_3  ) rfl pn_X7_empty q_291 q_292 q_293 q_61 q_294 ⟨Nat.le_of_ble_eq_true rfl, Nat.le_of_ble_eq_true rfl⟩ (Nat.le_of_ble_eq_true rfl) rfl dX8_reads_38 ?_
    refine j_aload_n X dX8_reads_41 rfl 1 rfl ?_
    refine j_getR (C := RX8) (T := TX8) (N := 9) X 0 s_0 rfl hin_X8 5 (by decide) 23 rfl q_252 dX8_reads_42 ?_
    refine j_callVv (As := []) X 23 s_23 rfl (c_X4_empty l w (m_X7_empty q_3)  ) rfl pn_X4_empty q_470 q_471 q_472 q_64 q_473 ⟨Nat.le_of_ble_eq_true rfl, Nat.le_of_ble_eq_true rfl⟩ (Nat.le_of_ble_eq_true rfl) rfl dX8_reads_45 ?_
    refine j_aload_n X dX8_reads_48 rfl 1 rfl ?_
    refine j_getR (C := RX8) (T := TX8) (N := 9) X 0 s_0 rfl hin_X8 3 (by decide) 7 rfl q_250 dX8_reads_49 ?_
    refine j_callVv (As := []) X 7 s_7 rfl (c_X2_lose l w (m_X4_empty (m_X7_empty q_3))  ) rfl pn_X2_lose q_474 q_475 q_476 q_62 q_477 ⟨Nat.le_of_ble_eq_true rfl, Nat.le_of_ble_eq_true rfl⟩ (Nat.le_of_ble_eq_true rfl) rfl dX8_reads_52 ?_
    refine j_aload_n X dX8_reads_55 rfl 1 rfl ?_
    refine j_getR (C := RX8) (T := TX8) (N := 9) X 0 s_0 rfl hin_X8 4 (by decide) 19 rfl q_251 dX8_reads_56 ?_
    refine j_callVv (As := []) X 19 s_19 rfl (c_X0_lose l w (m_X2_lose (m_X4_empty (m_X7_empty q_3)))  ) rfl pn_X0_lose q_478 q_479 q_480 q_63 q_481 ⟨Nat.le_of_ble_eq_true rfl, Nat.le_of_ble_eq_true rfl⟩ (Nat.le_of_ble_eq_true rfl) rfl dX8_reads_59 ?_
    refine j_aload_n X dX8_reads_62 rfl 1 rfl ?_
    refine j_getR (C := RX8) (T := TX8) (N := 9) X 0 s_0 rfl hin_X8 0 (by decide) 1 rfl q_247 dX8_reads_63 ?_
    obtain ⟨r_4, hr_4, h⟩ := bd_s h
    refine j_callVi (As := []) X 1 s_1 rfl (c_X6_statements l w (m_X0_lose (m_X2_lose (m_X4_empty (m_X7_empty q_3)))) 1 (Or.inl rfl)  hr_4) rfl pn_X6_statements q_482 q_334 q_335 q_60 q_336 ⟨Nat.le_of_ble_eq_true rfl, Nat.le_of_ble_eq_true rfl⟩ (Nat.le_of_ble_eq_true rfl) rfl dX8_reads_66 ?_
    exact j_iret X hr hk dX8_reads_69 (Option.some.inj h)
  · have h := bi_f c_2 h
    refine j_bipush (v := (-10)) X dX8_reads_18 (by decide) ?_
    refine j_iload_n X dX8_reads_20 rfl 0 rfl ?_
    refine j_isub X dX8_reads_21 ?_
    exact j_iret X hr hk dX8_reads_22 (Option.some.inj h)
abbrev rm_X8_says : Room := { frames := 4, cells := 0, slots := 0, locals := 85 }
theorem pn_X8_says : yX8_says.cls ≠ "java/lang/invoke/MethodHandle" ∧ yX8_says.cls ≠ "java/lang/invoke/VarHandle" ∧ (parseMethodDescriptor yX8_says.desc).map (fun d => d.parameters.length) = some 3 := by decide +kernel
def m_X8_says (G : Mem) (p1 : Int32) (p2 : Int32) (p3 : Int32) : Option (Int32 × Mem) := (m_X8_canBeSaid G p1 p2 p3).bind (fun r_1 => (if r_1 = 0 then some ((-1), G) else (m_X6_sayings G 1).bind (fun r_3 => (if r_3 < 6 then (m_X2_note G).bind (fun q_5 => (m_X6_addSaying q_5 1 p1 p2 p3).bind (fun q_6 => (m_X6_statements q_6 1).bind (fun r_7 => some (r_7, q_6)))) else some ((-3), G)))))
set_option maxRecDepth 100000 in
set_option maxHeartbeats 4000000 in
theorem c_X8_says (l : Launch) (w : WP) (G : Mem) (p1 : Int32) (p2 : Int32) (p3 : Int32) {res : Int32 × Mem} (h0 : m_X8_says G p1 p2 p3 = some res) : CMi l yX8_says cX8_says 4 (some .int) 4 85 w [.ref (w.1 0), .int p1, .int p2, .int p3] G res := by
  refine CMi.of (by decide +kernel) (Nat.le_of_ble_eq_true rfl) ?_
  intro p e s m args below meth c X hr hk
  have h := bs_i h0
  unfold m_X8_says at h
  show J p l e rm_X8_says s m args below meth c (Qint below args s w res) w 4 G 0 [(0, .ref (w.1 0)), (1, .int p1), (2, .int p2), (3, .int p3)] []
  refine j_aload_n X dX8_says_0 rfl 0 rfl ?_
  refine j_iload_n X dX8_says_1 rfl 1 rfl ?_
  refine j_iload_n X dX8_says_2 rfl 2 rfl ?_
  refine j_iload_n X dX8_says_3 rfl 3 rfl ?_
  obtain ⟨r_1, hr_1, h⟩ := bd_s h
  refine j_callVi (As := [.int p1, .int p2, .int p3]) X 0 s_0 rfl (c_X8_canBeSaid l w G  p1 p2 p3 hr_1) rfl pn_X8_canBeSaid q_542 q_544 q_12 q_59 q_545 ⟨Nat.le_of_ble_eq_true rfl, Nat.le_of_ble_eq_true rfl⟩ (Nat.le_of_ble_eq_true rfl) rfl dX8_says_4 ?_
  refine j_if_ne X 12 dX8_says_7 (by decide) (fun c_2 => ?_) (fun c_2 => ?_)
  · have h := bi_f c_2 h
    refine j_aload_n X dX8_says_12 rfl 0 rfl ?_
    refine j_getR (C := RX8) (T := TX8) (N := 9) X 0 s_0 rfl hin_X8 0 (by decide) 1 rfl q_247 dX8_says_13 ?_
    obtain ⟨r_3, hr_3, h⟩ := bd_s h
    refine j_callVi (As := []) X 1 s_1 rfl (c_X6_sayings l w G 1 (Or.inl rfl)  hr_3) rfl pn_X6_sayings q_554 q_330 q_331 q_60 q_332 ⟨Nat.le_of_ble_eq_true rfl, Nat.le_of_ble_eq_true rfl⟩ (Nat.le_of_ble_eq_true rfl) rfl dX8_says_16 ?_
    refine j_bipush (v := 6) X dX8_says_19 (by decide) ?_
    refine j_icmp_lt X 27 dX8_says_21 (by decide) (fun c_4 => ?_) (fun c_4 => ?_)
    · have h := bi_t c_4 h
      refine j_aload_n X dX8_says_27 rfl 0 rfl ?_
      refine j_getR (C := RX8) (T := TX8) (N := 9) X 0 s_0 rfl hin_X8 3 (by decide) 7 rfl q_250 dX8_says_28 ?_
      refine j_aload_n X dX8_says_31 rfl 0 rfl ?_
      refine j_getR (C := RX8) (T := TX8) (N := 9) X 0 s_0 rfl hin_X8 0 (by decide) 1 rfl q_247 dX8_says_32 ?_
      obtain ⟨q_5, hq_5, h⟩ := bd_s h
      refine j_callVv (As := [.ref (w.1 1)]) X 7 s_7 rfl (c_X2_note l w G   hq_5) rfl pn_X2_note q_555 q_556 q_557 q_62 q_558 ⟨Nat.le_of_ble_eq_true rfl, Nat.le_of_ble_eq_true rfl⟩ (Nat.le_of_ble_eq_true rfl) rfl dX8_says_35 ?_
      refine j_aload_n X dX8_says_38 rfl 0 rfl ?_
      refine j_getR (C := RX8) (T := TX8) (N := 9) X 0 s_0 rfl hin_X8 0 (by decide) 1 rfl q_247 dX8_says_39 ?_
      refine j_iload_n X dX8_says_42 rfl 1 rfl ?_
      refine j_iload_n X dX8_says_43 rfl 2 rfl ?_
      refine j_iload_n X dX8_says_44 rfl 3 rfl ?_
      obtain ⟨q_6, hq_6, h⟩ := bd_s h
      refine j_callVv (As := [.int p1, .int p2, .int p3]) X 1 s_1 rfl (c_X6_addSaying l w q_5 1 (Or.inl rfl) p1 p2 p3 hq_6) rfl pn_X6_addSaying q_564 q_460 q_461 q_60 q_462 ⟨Nat.le_of_ble_eq_true rfl, Nat.le_of_ble_eq_true rfl⟩ (Nat.le_of_ble_eq_true rfl) rfl dX8_says_45 ?_
      refine j_aload_n X dX8_says_48 rfl 0 rfl ?_
      refine j_getR (C := RX8) (T := TX8) (N := 9) X 0 s_0 rfl hin_X8 0 (by decide) 1 rfl q_247 dX8_says_49 ?_
      obtain ⟨r_7, hr_7, h⟩ := bd_s h
      refine j_callVi (As := []) X 1 s_1 rfl (c_X6_statements l w q_6 1 (Or.inl rfl)  hr_7) rfl pn_X6_statements q_482 q_334 q_335 q_60 q_336 ⟨Nat.le_of_ble_eq_true rfl, Nat.le_of_ble_eq_true rfl⟩ (Nat.le_of_ble_eq_true rfl) rfl dX8_says_52 ?_
      exact j_iret X hr hk dX8_says_55 (Option.some.inj h)
    · have h := bi_f c_4 h
      refine j_bipush (v := (-3)) X dX8_says_24 (by decide) ?_
      exact j_iret X hr hk dX8_says_26 (Option.some.inj h)
  · have h := bi_t c_2 h
    refine j_iconst (v := (-1)) X dX8_says_10 (by decide) ?_
    exact j_iret X hr hk dX8_says_11 (Option.some.inj h)
abbrev rm_X8_sees : Room := { frames := 2, cells := 0, slots := 0, locals := 41 }
theorem pn_X8_sees : yX8_sees.cls ≠ "java/lang/invoke/MethodHandle" ∧ yX8_sees.cls ≠ "java/lang/invoke/VarHandle" ∧ (parseMethodDescriptor yX8_sees.desc).map (fun d => d.parameters.length) = some 3 := by decide +kernel
def m_X8_sees (G : Mem) (p1 : Int32) (p2 : Int32) (p3 : Int32) : Option (Int32 × Mem) := (m_X8_isTime G p1).bind (fun r_1 => (if r_1 = 0 then some ((-1), G) else (m_X8_isTime G p2).bind (fun r_3 => (if r_3 = 0 then some ((-1), G) else (if p3 < 0 then some ((-1), G) else (if p3 ≤ 4 then (m_X4_add G p1 p2 p3).bind (fun q_7 => (if q_7.1 = 0 then some ((-3), q_7.2) else some (m_X4_size q_7.2, q_7.2))) else some ((-1), G)))))))
set_option maxRecDepth 100000 in
set_option maxHeartbeats 4000000 in
theorem c_X8_sees (l : Launch) (w : WP) (G : Mem) (p1 : Int32) (p2 : Int32) (p3 : Int32) {res : Int32 × Mem} (h0 : m_X8_sees G p1 p2 p3 = some res) : CMi l yX8_sees cX8_sees 4 (some .int) 2 41 w [.ref (w.1 0), .int p1, .int p2, .int p3] G res := by
  refine CMi.of (by decide +kernel) (Nat.le_of_ble_eq_true rfl) ?_
  intro p e s m args below meth c X hr hk
  have h := bs_i h0
  unfold m_X8_sees at h
  show J p l e rm_X8_sees s m args below meth c (Qint below args s w res) w 4 G 0 [(0, .ref (w.1 0)), (1, .int p1), (2, .int p2), (3, .int p3)] []
  refine j_aload_n X dX8_sees_0 rfl 0 rfl ?_
  refine j_iload_n X dX8_sees_1 rfl 1 rfl ?_
  obtain ⟨r_1, hr_1, h⟩ := bd_s h
  refine j_callVi (As := [.int p1]) X 0 s_0 rfl (c_X8_isTime l w G  p1 hr_1) rfl pn_X8_isTime q_550 q_552 q_14 q_59 q_553 ⟨Nat.le_of_ble_eq_true rfl, Nat.le_of_ble_eq_true rfl⟩ (Nat.le_of_ble_eq_true rfl) rfl dX8_sees_2 ?_
  refine j_if_eq X 25 dX8_sees_5 (by decide) (fun c_2 => ?_) (fun c_2 => ?_)
  · have h := bi_t c_2 h
    refine j_iconst (v := (-1)) X dX8_sees_25 (by decide) ?_
    exact j_iret X hr hk dX8_sees_26 (Option.some.inj h)
  · have h := bi_f c_2 h
    refine j_aload_n X dX8_sees_8 rfl 0 rfl ?_
    refine j_iload_n X dX8_sees_9 rfl 2 rfl ?_
    obtain ⟨r_3, hr_3, h⟩ := bd_s h
    refine j_callVi (As := [.int p2]) X 0 s_0 rfl (c_X8_isTime l w G  p2 hr_3) rfl pn_X8_isTime q_550 q_552 q_14 q_59 q_553 ⟨Nat.le_of_ble_eq_true rfl, Nat.le_of_ble_eq_true rfl⟩ (Nat.le_of_ble_eq_true rfl) rfl dX8_sees_10 ?_
    refine j_if_eq X 25 dX8_sees_13 (by decide) (fun c_4 => ?_) (fun c_4 => ?_)
    · have h := bi_t c_4 h
      refine j_iconst (v := (-1)) X dX8_sees_25 (by decide) ?_
      exact j_iret X hr hk dX8_sees_26 (Option.some.inj h)
    · have h := bi_f c_4 h
      refine j_iload_n X dX8_sees_16 rfl 3 rfl ?_
      refine j_if_lt X 25 dX8_sees_17 (by decide) (fun c_5 => ?_) (fun c_5 => ?_)
      · have h := bi_t c_5 h
        refine j_iconst (v := (-1)) X dX8_sees_25 (by decide) ?_
        exact j_iret X hr hk dX8_sees_26 (Option.some.inj h)
      · have h := bi_f c_5 h
        refine j_iload_n X dX8_sees_20 rfl 3 rfl ?_
        refine j_iconst (v := 4) X dX8_sees_21 (by decide) ?_
        refine j_icmp_le X 27 dX8_sees_22 (by decide) (fun c_6 => ?_) (fun c_6 => ?_)
        · have h := bi_t c_6 h
          refine j_aload_n X dX8_sees_27 rfl 0 rfl ?_
          refine j_getR (C := RX8) (T := TX8) (N := 9) X 0 s_0 rfl hin_X8 5 (by decide) 23 rfl q_252 dX8_sees_28 ?_
          refine j_iload_n X dX8_sees_31 rfl 1 rfl ?_
          refine j_iload_n X dX8_sees_32 rfl 2 rfl ?_
          refine j_iload_n X dX8_sees_33 rfl 3 rfl ?_
          obtain ⟨q_7, hq_7, h⟩ := bd_s h
          refine j_callVi (As := [.int p1, .int p2, .int p3]) X 23 s_23 rfl (c_X4_add l w G  p1 p2 p3 hq_7) rfl pn_X4_add q_808 q_809 q_810 q_64 q_811 ⟨Nat.le_of_ble_eq_true rfl, Nat.le_of_ble_eq_true rfl⟩ (Nat.le_of_ble_eq_true rfl) rfl dX8_sees_34 ?_
          refine j_if_eq X 50 dX8_sees_37 (by decide) (fun c_8 => ?_) (fun c_8 => ?_)
          · have h := bi_t c_8 h
            refine j_bipush (v := (-3)) X dX8_sees_50 (by decide) ?_
            exact j_iret X hr hk dX8_sees_52 (Option.some.inj h)
          · have h := bi_f c_8 h
            refine j_aload_n X dX8_sees_40 rfl 0 rfl ?_
            refine j_getR (C := RX8) (T := TX8) (N := 9) X 0 s_0 rfl hin_X8 5 (by decide) 23 rfl q_252 dX8_sees_41 ?_
            refine j_callVi (As := []) X 23 s_23 rfl (c_X4_size l w q_7.2  ) rfl pn_X4_size q_812 q_813 q_814 q_64 q_815 ⟨Nat.le_of_ble_eq_true rfl, Nat.le_of_ble_eq_true rfl⟩ (Nat.le_of_ble_eq_true rfl) rfl dX8_sees_44 ?_
            refine j_goto X 52 dX8_sees_47 (by decide) ?_
            exact j_iret X hr hk dX8_sees_52 (Option.some.inj h)
        · have h := bi_f c_6 h
          refine j_iconst (v := (-1)) X dX8_sees_25 (by decide) ?_
          exact j_iret X hr hk dX8_sees_26 (Option.some.inj h)
abbrev rm_X8_sound : Room := { frames := 6, cells := 0, slots := 0, locals := 135 }
theorem pn_X8_sound : yX8_sound.cls ≠ "java/lang/invoke/MethodHandle" ∧ yX8_sound.cls ≠ "java/lang/invoke/VarHandle" ∧ (parseMethodDescriptor yX8_sound.desc).map (fun d => d.parameters.length) = some 0 := by decide +kernel
def m_X8_sound (G : Mem) : Option (Int32 × Mem) := (m_X8_orderAll G).bind (fun q_1 => (m_X1_isSound q_1 27).bind (fun r_2 => (if r_2 = 0 then some (0, q_1) else some (1, q_1))))
set_option maxRecDepth 100000 in
set_option maxHeartbeats 4000000 in
theorem c_X8_sound (l : Launch) (w : WP) (G : Mem) {res : Int32 × Mem} (h0 : m_X8_sound G = some res) : CMi l yX8_sound cX8_sound 1 (some .int) 6 135 w [.ref (w.1 0)] G res := by
  refine CMi.of (by decide +kernel) (Nat.le_of_ble_eq_true rfl) ?_
  intro p e s m args below meth c X hr hk
  have h := bs_i h0
  unfold m_X8_sound at h
  show J p l e rm_X8_sound s m args below meth c (Qint below args s w res) w 1 G 0 [(0, .ref (w.1 0))] []
  refine j_aload_n X dX8_sound_0 rfl 0 rfl ?_
  obtain ⟨q_1, hq_1, h⟩ := bd_s h
  refine j_callVv (As := []) X 0 s_0 rfl (c_X8_orderAll l w G   hq_1) rfl pn_X8_orderAll q_603 q_605 q_15 q_59 q_606 ⟨Nat.le_of_ble_eq_true rfl, Nat.le_of_ble_eq_true rfl⟩ (Nat.le_of_ble_eq_true rfl) rfl dX8_sound_1 ?_
  refine j_aload_n X dX8_sound_4 rfl 0 rfl ?_
  refine j_getR (C := RX8) (T := TX8) (N := 9) X 0 s_0 rfl hin_X8 6 (by decide) 27 rfl q_253 dX8_sound_5 ?_
  obtain ⟨r_2, hr_2, h⟩ := bd_s h
  refine j_callVi (As := []) X 27 s_27 rfl (c_X1_isSound l w q_1 27 (Or.inl rfl)  hr_2) rfl pn_X1_isSound q_651 q_652 q_653 q_65 q_654 ⟨Nat.le_of_ble_eq_true rfl, Nat.le_of_ble_eq_true rfl⟩ (Nat.le_of_ble_eq_true rfl) rfl dX8_sound_8 ?_
  refine j_if_eq X 18 dX8_sound_11 (by decide) (fun c_3 => ?_) (fun c_3 => ?_)
  · have h := bi_t c_3 h
    refine j_iconst (v := 0) X dX8_sound_18 (by decide) ?_
    exact j_iret X hr hk dX8_sound_19 (Option.some.inj h)
  · have h := bi_f c_3 h
    refine j_iconst (v := 1) X dX8_sound_14 (by decide) ?_
    refine j_goto X 19 dX8_sound_15 (by decide) ?_
    exact j_iret X hr hk dX8_sound_19 (Option.some.inj h)
abbrev rm_X8_statement : Room := { frames := 2, cells := 0, slots := 0, locals := 43 }
theorem pn_X8_statement : yX8_statement.cls ≠ "java/lang/invoke/MethodHandle" ∧ yX8_statement.cls ≠ "java/lang/invoke/VarHandle" ∧ (parseMethodDescriptor yX8_statement.desc).map (fun d => d.parameters.length) = some 2 := by decide +kernel
def m_X8_statement (G : Mem) (p1 : Int32) (p2 : Int32) : Option (Int32) := (m_X8_isStatement G p1).bind (fun r_1 => (if r_1 = 0 then some (-1) else (if p2 < 0 then some (-1) else (if p2 ≤ 3 then (if p2 = 0 then (m_X6_clauseAt G 1 p1).bind (fun r_6 => some r_6) else (if p2 = 1 then (m_X6_firstAt G 1 p1).bind (fun r_8 => some r_8) else (if p2 = 2 then (m_X6_signAt G 1 p1).bind (fun r_10 => some r_10) else (m_X6_secondAt G 1 p1).bind (fun r_11 => some r_11)))) else some (-1)))))
set_option maxRecDepth 100000 in
set_option maxHeartbeats 4000000 in
theorem c_X8_statement (l : Launch) (w : WP) (G : Mem) (p1 : Int32) (p2 : Int32) {res : Int32} (h0 : m_X8_statement G p1 p2 = some res) : CMi l yX8_statement cX8_statement 3 (some .int) 2 43 w [.ref (w.1 0), .int p1, .int p2] G (res, G) := by
  refine CMi.of (by decide +kernel) (Nat.le_of_ble_eq_true rfl) ?_
  intro p e s m args below meth c X hr hk
  have h := bs_i h0
  unfold m_X8_statement at h
  show J p l e rm_X8_statement s m args below meth c (Qint below args s w (res, G)) w 3 G 0 [(0, .ref (w.1 0)), (1, .int p1), (2, .int p2)] []
  refine j_aload_n X dX8_statement_0 rfl 0 rfl ?_
  refine j_iload_n X dX8_statement_1 rfl 1 rfl ?_
  obtain ⟨r_1, hr_1, h⟩ := bd_s h
  refine j_callVi (As := [.int p1]) X 0 s_0 rfl (c_X8_isStatement l w G  p1 hr_1) rfl pn_X8_isStatement q_521 q_523 q_11 q_59 q_524 ⟨Nat.le_of_ble_eq_true rfl, Nat.le_of_ble_eq_true rfl⟩ (Nat.le_of_ble_eq_true rfl) rfl dX8_statement_2 ?_
  refine j_if_eq X 17 dX8_statement_5 (by decide) (fun c_2 => ?_) (fun c_2 => ?_)
  · have h := bi_t c_2 h
    refine j_iconst (v := (-1)) X dX8_statement_17 (by decide) ?_
    exact j_iret X hr hk dX8_statement_18 (congrArg (fun z => (z, G)) (Option.some.inj h))
  · have h := bi_f c_2 h
    refine j_iload_n X dX8_statement_8 rfl 2 rfl ?_
    refine j_if_lt X 17 dX8_statement_9 (by decide) (fun c_3 => ?_) (fun c_3 => ?_)
    · have h := bi_t c_3 h
      refine j_iconst (v := (-1)) X dX8_statement_17 (by decide) ?_
      exact j_iret X hr hk dX8_statement_18 (congrArg (fun z => (z, G)) (Option.some.inj h))
    · have h := bi_f c_3 h
      refine j_iload_n X dX8_statement_12 rfl 2 rfl ?_
      refine j_iconst (v := 3) X dX8_statement_13 (by decide) ?_
      refine j_icmp_le X 19 dX8_statement_14 (by decide) (fun c_4 => ?_) (fun c_4 => ?_)
      · have h := bi_t c_4 h
        refine j_iload_n X dX8_statement_19 rfl 2 rfl ?_
        by_cases c_5 : p2 = 0
        · have h := bi_t c_5 h
          refine j_tabAt (v := 0) X 48 dX8_statement_20 c_5 (by decide) (by decide) rfl (by decide) ?_
          refine j_aload_n X dX8_statement_48 rfl 0 rfl ?_
          refine j_getR (C := RX8) (T := TX8) (N := 9) X 0 s_0 rfl hin_X8 0 (by decide) 1 rfl q_247 dX8_statement_49 ?_
          refine j_iload_n X dX8_statement_52 rfl 1 rfl ?_
          obtain ⟨r_6, hr_6, h⟩ := bd_s h
          refine j_callVi (As := [.int p1]) X 1 s_1 rfl (c_X6_clauseAt l w G 1 (Or.inl rfl) p1 hr_6) rfl pn_X6_clauseAt q_525 q_510 q_511 q_60 q_512 ⟨Nat.le_of_ble_eq_true rfl, Nat.le_of_ble_eq_true rfl⟩ (Nat.le_of_ble_eq_true rfl) rfl dX8_statement_53 ?_
          exact j_iret X hr hk dX8_statement_56 (congrArg (fun z => (z, G)) (Option.some.inj h))
        have h := bi_f c_5 h
        by_cases c_7 : p2 = 1
        · have h := bi_t c_7 h
          refine j_tabAt (v := 1) X 57 dX8_statement_20 c_7 (by decide) (by decide) rfl (by decide) ?_
          refine j_aload_n X dX8_statement_57 rfl 0 rfl ?_
          refine j_getR (C := RX8) (T := TX8) (N := 9) X 0 s_0 rfl hin_X8 0 (by decide) 1 rfl q_247 dX8_statement_58 ?_
          refine j_iload_n X dX8_statement_61 rfl 1 rfl ?_
          obtain ⟨r_8, hr_8, h⟩ := bd_s h
          refine j_callVi (As := [.int p1]) X 1 s_1 rfl (c_X6_firstAt l w G 1 (Or.inl rfl) p1 hr_8) rfl pn_X6_firstAt q_526 q_527 q_528 q_60 q_529 ⟨Nat.le_of_ble_eq_true rfl, Nat.le_of_ble_eq_true rfl⟩ (Nat.le_of_ble_eq_true rfl) rfl dX8_statement_62 ?_
          exact j_iret X hr hk dX8_statement_65 (congrArg (fun z => (z, G)) (Option.some.inj h))
        have h := bi_f c_7 h
        by_cases c_9 : p2 = 2
        · have h := bi_t c_9 h
          refine j_tabAt (v := 2) X 66 dX8_statement_20 c_9 (by decide) (by decide) rfl (by decide) ?_
          refine j_aload_n X dX8_statement_66 rfl 0 rfl ?_
          refine j_getR (C := RX8) (T := TX8) (N := 9) X 0 s_0 rfl hin_X8 0 (by decide) 1 rfl q_247 dX8_statement_67 ?_
          refine j_iload_n X dX8_statement_70 rfl 1 rfl ?_
          obtain ⟨r_10, hr_10, h⟩ := bd_s h
          refine j_callVi (As := [.int p1]) X 1 s_1 rfl (c_X6_signAt l w G 1 (Or.inl rfl) p1 hr_10) rfl pn_X6_signAt q_530 q_531 q_532 q_60 q_533 ⟨Nat.le_of_ble_eq_true rfl, Nat.le_of_ble_eq_true rfl⟩ (Nat.le_of_ble_eq_true rfl) rfl dX8_statement_71 ?_
          exact j_iret X hr hk dX8_statement_74 (congrArg (fun z => (z, G)) (Option.some.inj h))
        have h := bi_f c_9 h
        refine j_tabOut X 75 dX8_statement_20 (by have z0 := lv_neT (a := 0) c_5 (by decide); have z1 := lv_neT (a := 1) c_7 (by decide); have z2 := lv_neT (a := 2) c_9 (by decide); omega) (by decide) ?_
        refine j_aload_n X dX8_statement_75 rfl 0 rfl ?_
        refine j_getR (C := RX8) (T := TX8) (N := 9) X 0 s_0 rfl hin_X8 0 (by decide) 1 rfl q_247 dX8_statement_76 ?_
        refine j_iload_n X dX8_statement_79 rfl 1 rfl ?_
        obtain ⟨r_11, hr_11, h⟩ := bd_s h
        refine j_callVi (As := [.int p1]) X 1 s_1 rfl (c_X6_secondAt l w G 1 (Or.inl rfl) p1 hr_11) rfl pn_X6_secondAt q_534 q_535 q_536 q_60 q_537 ⟨Nat.le_of_ble_eq_true rfl, Nat.le_of_ble_eq_true rfl⟩ (Nat.le_of_ble_eq_true rfl) rfl dX8_statement_80 ?_
        exact j_iret X hr hk dX8_statement_83 (congrArg (fun z => (z, G)) (Option.some.inj h))
      · have h := bi_f c_4 h
        refine j_iconst (v := (-1)) X dX8_statement_17 (by decide) ?_
        exact j_iret X hr hk dX8_statement_18 (congrArg (fun z => (z, G)) (Option.some.inj h))
abbrev rm_X8_takes : Room := { frames := 3, cells := 0, slots := 0, locals := 64 }
theorem pn_X8_takes : yX8_takes.cls ≠ "java/lang/invoke/MethodHandle" ∧ yX8_takes.cls ≠ "java/lang/invoke/VarHandle" ∧ (parseMethodDescriptor yX8_takes.desc).map (fun d => d.parameters.length) = some 1 := by decide +kernel
def m_X8_takes (G : Mem) (p1 : Int32) : Option (Int32 × Mem) := (m_X8_isStatement G p1).bind (fun r_1 => (if r_1 = 0 then some ((-1), G) else (m_X6_clauseAt G 1 p1).bind (fun r_3 => (if r_3 = (-9) then (m_X2_note G).bind (fun q_5 => (m_X6_removeSaying q_5 1 p1).bind (fun q_6 => (m_X6_statements q_6 1).bind (fun r_7 => some (r_7, q_6)))) else some ((-1), G)))))
set_option maxRecDepth 100000 in
set_option maxHeartbeats 4000000 in
theorem c_X8_takes (l : Launch) (w : WP) (G : Mem) (p1 : Int32) {res : Int32 × Mem} (h0 : m_X8_takes G p1 = some res) : CMi l yX8_takes cX8_takes 2 (some .int) 3 64 w [.ref (w.1 0), .int p1] G res := by
  refine CMi.of (by decide +kernel) (Nat.le_of_ble_eq_true rfl) ?_
  intro p e s m args below meth c X hr hk
  have h := bs_i h0
  unfold m_X8_takes at h
  show J p l e rm_X8_takes s m args below meth c (Qint below args s w res) w 2 G 0 [(0, .ref (w.1 0)), (1, .int p1)] []
  refine j_aload_n X dX8_takes_0 rfl 0 rfl ?_
  refine j_iload_n X dX8_takes_1 rfl 1 rfl ?_
  obtain ⟨r_1, hr_1, h⟩ := bd_s h
  refine j_callVi (As := [.int p1]) X 0 s_0 rfl (c_X8_isStatement l w G  p1 hr_1) rfl pn_X8_isStatement q_521 q_523 q_11 q_59 q_524 ⟨Nat.le_of_ble_eq_true rfl, Nat.le_of_ble_eq_true rfl⟩ (Nat.le_of_ble_eq_true rfl) rfl dX8_takes_2 ?_
  refine j_if_eq X 21 dX8_takes_5 (by decide) (fun c_2 => ?_) (fun c_2 => ?_)
  · have h := bi_t c_2 h
    refine j_iconst (v := (-1)) X dX8_takes_21 (by decide) ?_
    exact j_iret X hr hk dX8_takes_22 (Option.some.inj h)
  · have h := bi_f c_2 h
    refine j_aload_n X dX8_takes_8 rfl 0 rfl ?_
    refine j_getR (C := RX8) (T := TX8) (N := 9) X 0 s_0 rfl hin_X8 0 (by decide) 1 rfl q_247 dX8_takes_9 ?_
    refine j_iload_n X dX8_takes_12 rfl 1 rfl ?_
    obtain ⟨r_3, hr_3, h⟩ := bd_s h
    refine j_callVi (As := [.int p1]) X 1 s_1 rfl (c_X6_clauseAt l w G 1 (Or.inl rfl) p1 hr_3) rfl pn_X6_clauseAt q_525 q_510 q_511 q_60 q_512 ⟨Nat.le_of_ble_eq_true rfl, Nat.le_of_ble_eq_true rfl⟩ (Nat.le_of_ble_eq_true rfl) rfl dX8_takes_13 ?_
    refine j_bipush (v := (-9)) X dX8_takes_16 (by decide) ?_
    refine j_icmp_eq X 23 dX8_takes_18 (by decide) (fun c_4 => ?_) (fun c_4 => ?_)
    · have h := bi_t c_4 h
      refine j_aload_n X dX8_takes_23 rfl 0 rfl ?_
      refine j_getR (C := RX8) (T := TX8) (N := 9) X 0 s_0 rfl hin_X8 3 (by decide) 7 rfl q_250 dX8_takes_24 ?_
      refine j_aload_n X dX8_takes_27 rfl 0 rfl ?_
      refine j_getR (C := RX8) (T := TX8) (N := 9) X 0 s_0 rfl hin_X8 0 (by decide) 1 rfl q_247 dX8_takes_28 ?_
      obtain ⟨q_5, hq_5, h⟩ := bd_s h
      refine j_callVv (As := [.ref (w.1 1)]) X 7 s_7 rfl (c_X2_note l w G   hq_5) rfl pn_X2_note q_555 q_556 q_557 q_62 q_558 ⟨Nat.le_of_ble_eq_true rfl, Nat.le_of_ble_eq_true rfl⟩ (Nat.le_of_ble_eq_true rfl) rfl dX8_takes_31 ?_
      refine j_aload_n X dX8_takes_34 rfl 0 rfl ?_
      refine j_getR (C := RX8) (T := TX8) (N := 9) X 0 s_0 rfl hin_X8 0 (by decide) 1 rfl q_247 dX8_takes_35 ?_
      refine j_iload_n X dX8_takes_38 rfl 1 rfl ?_
      obtain ⟨q_6, hq_6, h⟩ := bd_s h
      refine j_callVv (As := [.int p1]) X 1 s_1 rfl (c_X6_removeSaying l w q_5 1 (Or.inl rfl) p1 hq_6) rfl pn_X6_removeSaying q_569 q_570 q_571 q_60 q_572 ⟨Nat.le_of_ble_eq_true rfl, Nat.le_of_ble_eq_true rfl⟩ (Nat.le_of_ble_eq_true rfl) rfl dX8_takes_39 ?_
      refine j_aload_n X dX8_takes_42 rfl 0 rfl ?_
      refine j_getR (C := RX8) (T := TX8) (N := 9) X 0 s_0 rfl hin_X8 0 (by decide) 1 rfl q_247 dX8_takes_43 ?_
      obtain ⟨r_7, hr_7, h⟩ := bd_s h
      refine j_callVi (As := []) X 1 s_1 rfl (c_X6_statements l w q_6 1 (Or.inl rfl)  hr_7) rfl pn_X6_statements q_482 q_334 q_335 q_60 q_336 ⟨Nat.le_of_ble_eq_true rfl, Nat.le_of_ble_eq_true rfl⟩ (Nat.le_of_ble_eq_true rfl) rfl dX8_takes_46 ?_
      exact j_iret X hr hk dX8_takes_49 (Option.some.inj h)
    · have h := bi_f c_4 h
      refine j_iconst (v := (-1)) X dX8_takes_21 (by decide) ?_
      exact j_iret X hr hk dX8_takes_22 (Option.some.inj h)
abbrev rm_X8_tenses : Room := { frames := 3, cells := 0, slots := 0, locals := 64 }
theorem pn_X8_tenses : yX8_tenses.cls ≠ "java/lang/invoke/MethodHandle" ∧ yX8_tenses.cls ≠ "java/lang/invoke/VarHandle" ∧ (parseMethodDescriptor yX8_tenses.desc).map (fun d => d.parameters.length) = some 2 := by decide +kernel
def m_X8_tenses (G : Mem) (p1 : Int32) (p2 : Int32) : Option (Int32 × Mem) := (m_X8_isClause G p1).bind (fun r_1 => (if r_1 = 0 then some ((-1), G) else (if p2 < 0 then some ((-1), G) else (if p2 < 8 then (m_X6_tenseOf G 1 p1).bind (fun r_5 => (if r_5 = p2 then some ((-2), G) else (m_X2_note G).bind (fun q_7 => (m_X6_setTense q_7 1 p1 p2).bind (fun q_8 => some (r_5, q_8))))) else some ((-1), G)))))
set_option maxRecDepth 100000 in
set_option maxHeartbeats 4000000 in
theorem c_X8_tenses (l : Launch) (w : WP) (G : Mem) (p1 : Int32) (p2 : Int32) {res : Int32 × Mem} (h0 : m_X8_tenses G p1 p2 = some res) : CMi l yX8_tenses cX8_tenses 4 (some .int) 3 64 w [.ref (w.1 0), .int p1, .int p2] G res := by
  refine CMi.of (by decide +kernel) (Nat.le_of_ble_eq_true rfl) ?_
  intro p e s m args below meth c X hr hk
  have h := bs_i h0
  unfold m_X8_tenses at h
  show J p l e rm_X8_tenses s m args below meth c (Qint below args s w res) w 4 G 0 [(0, .ref (w.1 0)), (1, .int p1), (2, .int p2)] []
  refine j_aload_n X dX8_tenses_0 rfl 0 rfl ?_
  refine j_iload_n X dX8_tenses_1 rfl 1 rfl ?_
  obtain ⟨r_1, hr_1, h⟩ := bd_s h
  refine j_callVi (As := [.int p1]) X 0 s_0 rfl (c_X8_isClause l w G  p1 hr_1) rfl pn_X8_isClause q_488 q_490 q_8 q_59 q_491 ⟨Nat.le_of_ble_eq_true rfl, Nat.le_of_ble_eq_true rfl⟩ (Nat.le_of_ble_eq_true rfl) rfl dX8_tenses_2 ?_
  refine j_if_eq X 18 dX8_tenses_5 (by decide) (fun c_2 => ?_) (fun c_2 => ?_)
  · have h := bi_t c_2 h
    refine j_iconst (v := (-1)) X dX8_tenses_18 (by decide) ?_
    exact j_iret X hr hk dX8_tenses_19 (Option.some.inj h)
  · have h := bi_f c_2 h
    refine j_iload_n X dX8_tenses_8 rfl 2 rfl ?_
    refine j_if_lt X 18 dX8_tenses_9 (by decide) (fun c_3 => ?_) (fun c_3 => ?_)
    · have h := bi_t c_3 h
      refine j_iconst (v := (-1)) X dX8_tenses_18 (by decide) ?_
      exact j_iret X hr hk dX8_tenses_19 (Option.some.inj h)
    · have h := bi_f c_3 h
      refine j_iload_n X dX8_tenses_12 rfl 2 rfl ?_
      refine j_bipush (v := 8) X dX8_tenses_13 (by decide) ?_
      refine j_icmp_lt X 20 dX8_tenses_15 (by decide) (fun c_4 => ?_) (fun c_4 => ?_)
      · have h := bi_t c_4 h
        refine j_aload_n X dX8_tenses_20 rfl 0 rfl ?_
        refine j_getR (C := RX8) (T := TX8) (N := 9) X 0 s_0 rfl hin_X8 0 (by decide) 1 rfl q_247 dX8_tenses_21 ?_
        refine j_iload_n X dX8_tenses_24 rfl 1 rfl ?_
        obtain ⟨r_5, hr_5, h⟩ := bd_s h
        refine j_callVi (As := [.int p1]) X 1 s_1 rfl (c_X6_tenseOf l w G 1 (Or.inl rfl) p1 hr_5) rfl pn_X6_tenseOf q_493 q_494 q_495 q_60 q_496 ⟨Nat.le_of_ble_eq_true rfl, Nat.le_of_ble_eq_true rfl⟩ (Nat.le_of_ble_eq_true rfl) rfl dX8_tenses_25 ?_
        refine j_istore_n X [(3, .int r_5), (0, .ref (w.1 0)), (1, .int p1), (2, .int p2)] dX8_tenses_28 rfl (by decide) rfl ?_
        refine j_iload_n X dX8_tenses_29 rfl 0 rfl ?_
        refine j_iload_n X dX8_tenses_30 rfl 3 rfl ?_
        refine j_icmp_ne X 37 dX8_tenses_31 (by decide) (fun c_6 => ?_) (fun c_6 => ?_)
        · have h := bi_f c_6 h
          refine j_aload_n X dX8_tenses_37 rfl 1 rfl ?_
          refine j_getR (C := RX8) (T := TX8) (N := 9) X 0 s_0 rfl hin_X8 3 (by decide) 7 rfl q_250 dX8_tenses_38 ?_
          refine j_aload_n X dX8_tenses_41 rfl 1 rfl ?_
          refine j_getR (C := RX8) (T := TX8) (N := 9) X 0 s_0 rfl hin_X8 0 (by decide) 1 rfl q_247 dX8_tenses_42 ?_
          obtain ⟨q_7, hq_7, h⟩ := bd_s h
          refine j_callVv (As := [.ref (w.1 1)]) X 7 s_7 rfl (c_X2_note l w G   hq_7) rfl pn_X2_note q_555 q_556 q_557 q_62 q_558 ⟨Nat.le_of_ble_eq_true rfl, Nat.le_of_ble_eq_true rfl⟩ (Nat.le_of_ble_eq_true rfl) rfl dX8_tenses_45 ?_
          refine j_aload_n X dX8_tenses_48 rfl 1 rfl ?_
          refine j_getR (C := RX8) (T := TX8) (N := 9) X 0 s_0 rfl hin_X8 0 (by decide) 1 rfl q_247 dX8_tenses_49 ?_
          refine j_iload_n X dX8_tenses_52 rfl 2 rfl ?_
          refine j_iload_n X dX8_tenses_53 rfl 3 rfl ?_
          obtain ⟨q_8, hq_8, h⟩ := bd_s h
          refine j_callVv (As := [.int p1, .int p2]) X 1 s_1 rfl (c_X6_setTense l w q_7 1 (Or.inl rfl) p1 p2 hq_8) rfl pn_X6_setTense q_577 q_448 q_449 q_60 q_450 ⟨Nat.le_of_ble_eq_true rfl, Nat.le_of_ble_eq_true rfl⟩ (Nat.le_of_ble_eq_true rfl) rfl dX8_tenses_54 ?_
          refine j_iload_n X dX8_tenses_57 rfl 0 rfl ?_
          exact j_iret X hr hk dX8_tenses_58 (Option.some.inj h)
        · have h := bi_t c_6 h
          refine j_bipush (v := (-2)) X dX8_tenses_34 (by decide) ?_
          exact j_iret X hr hk dX8_tenses_36 (Option.some.inj h)
      · have h := bi_f c_4 h
        refine j_iconst (v := (-1)) X dX8_tenses_18 (by decide) ?_
        exact j_iret X hr hk dX8_tenses_19 (Option.some.inj h)
abbrev rm_X8_type : Room := { frames := 1, cells := 0, slots := 0, locals := 21 }
theorem pn_X8_type : yX8_type.cls ≠ "java/lang/invoke/MethodHandle" ∧ yX8_type.cls ≠ "java/lang/invoke/VarHandle" ∧ (parseMethodDescriptor yX8_type.desc).map (fun d => d.parameters.length) = some 1 := by decide +kernel
def m_X8_type (G : Mem) (p1 : Int32) : Option (Int32 × Mem) := (if p1 < 0 then some ((-1), G) else (if p1 ≤ 255 then (m_X7_append G p1).bind (fun q_3 => (if q_3.1 = 0 then some ((-3), q_3.2) else some (m_X7_size q_3.2, q_3.2))) else some ((-1), G)))
set_option maxRecDepth 100000 in
set_option maxHeartbeats 4000000 in
theorem c_X8_type (l : Launch) (w : WP) (G : Mem) (p1 : Int32) {res : Int32 × Mem} (h0 : m_X8_type G p1 = some res) : CMi l yX8_type cX8_type 2 (some .int) 1 21 w [.ref (w.1 0), .int p1] G res := by
  refine CMi.of (by decide +kernel) (Nat.le_of_ble_eq_true rfl) ?_
  intro p e s m args below meth c X hr hk
  have h := bs_i h0
  unfold m_X8_type at h
  show J p l e rm_X8_type s m args below meth c (Qint below args s w res) w 2 G 0 [(0, .ref (w.1 0)), (1, .int p1)] []
  refine j_iload_n X dX8_type_0 rfl 1 rfl ?_
  refine j_if_lt X 11 dX8_type_1 (by decide) (fun c_1 => ?_) (fun c_1 => ?_)
  · have h := bi_t c_1 h
    refine j_iconst (v := (-1)) X dX8_type_11 (by decide) ?_
    exact j_iret X hr hk dX8_type_12 (Option.some.inj h)
  · have h := bi_f c_1 h
    refine j_iload_n X dX8_type_4 rfl 1 rfl ?_
    refine j_sipush (v := 255) X dX8_type_5 (by decide) ?_
    refine j_icmp_le X 13 dX8_type_8 (by decide) (fun c_2 => ?_) (fun c_2 => ?_)
    · have h := bi_t c_2 h
      refine j_aload_n X dX8_type_13 rfl 0 rfl ?_
      refine j_getR (C := RX8) (T := TX8) (N := 9) X 0 s_0 rfl hin_X8 2 (by decide) 5 rfl q_249 dX8_type_14 ?_
      refine j_iload_n X dX8_type_17 rfl 1 rfl ?_
      obtain ⟨q_3, hq_3, h⟩ := bd_s h
      refine j_callVi (As := [.int p1]) X 5 s_5 rfl (c_X7_append l w G  p1 hq_3) rfl pn_X7_append q_279 q_280 q_281 q_61 q_282 ⟨Nat.le_of_ble_eq_true rfl, Nat.le_of_ble_eq_true rfl⟩ (Nat.le_of_ble_eq_true rfl) rfl dX8_type_18 ?_
      refine j_if_eq X 34 dX8_type_21 (by decide) (fun c_4 => ?_) (fun c_4 => ?_)
      · have h := bi_t c_4 h
        refine j_bipush (v := (-3)) X dX8_type_34 (by decide) ?_
        exact j_iret X hr hk dX8_type_36 (Option.some.inj h)
      · have h := bi_f c_4 h
        refine j_aload_n X dX8_type_24 rfl 0 rfl ?_
        refine j_getR (C := RX8) (T := TX8) (N := 9) X 0 s_0 rfl hin_X8 2 (by decide) 5 rfl q_249 dX8_type_25 ?_
        refine j_callVi (As := []) X 5 s_5 rfl (c_X7_size l w q_3.2  ) rfl pn_X7_size q_283 q_284 q_285 q_61 q_286 ⟨Nat.le_of_ble_eq_true rfl, Nat.le_of_ble_eq_true rfl⟩ (Nat.le_of_ble_eq_true rfl) rfl dX8_type_28 ?_
        refine j_goto X 36 dX8_type_31 (by decide) ?_
        exact j_iret X hr hk dX8_type_36 (Option.some.inj h)
    · have h := bi_f c_2 h
      refine j_iconst (v := (-1)) X dX8_type_11 (by decide) ?_
      exact j_iret X hr hk dX8_type_12 (Option.some.inj h)
abbrev rm_X8_undo : Room := { frames := 3, cells := 0, slots := 0, locals := 65 }
theorem pn_X8_undo : yX8_undo.cls ≠ "java/lang/invoke/MethodHandle" ∧ yX8_undo.cls ≠ "java/lang/invoke/VarHandle" ∧ (parseMethodDescriptor yX8_undo.desc).map (fun d => d.parameters.length) = some 0 := by decide +kernel
def m_X8_undo (G : Mem) : Option (Int32 × Mem) := (if (m_X2_size G) = 0 then some ((-2), G) else (m_X2_restore G).bind (fun q_2 => some (m_X2_size q_2, q_2)))
set_option maxRecDepth 100000 in
set_option maxHeartbeats 4000000 in
theorem c_X8_undo (l : Launch) (w : WP) (G : Mem) {res : Int32 × Mem} (h0 : m_X8_undo G = some res) : CMi l yX8_undo cX8_undo 1 (some .int) 3 65 w [.ref (w.1 0)] G res := by
  refine CMi.of (by decide +kernel) (Nat.le_of_ble_eq_true rfl) ?_
  intro p e s m args below meth c X hr hk
  have h := bs_i h0
  unfold m_X8_undo at h
  show J p l e rm_X8_undo s m args below meth c (Qint below args s w res) w 1 G 0 [(0, .ref (w.1 0))] []
  refine j_aload_n X dX8_undo_0 rfl 0 rfl ?_
  refine j_getR (C := RX8) (T := TX8) (N := 9) X 0 s_0 rfl hin_X8 3 (by decide) 7 rfl q_250 dX8_undo_1 ?_
  refine j_callVi (As := []) X 7 s_7 rfl (c_X2_size l w G  ) rfl pn_X2_size q_587 q_588 q_589 q_62 q_590 ⟨Nat.le_of_ble_eq_true rfl, Nat.le_of_ble_eq_true rfl⟩ (Nat.le_of_ble_eq_true rfl) rfl dX8_undo_4 ?_
  refine j_if_ne X 13 dX8_undo_7 (by decide) (fun c_1 => ?_) (fun c_1 => ?_)
  · have h := bi_f c_1 h
    refine j_aload_n X dX8_undo_13 rfl 0 rfl ?_
    refine j_getR (C := RX8) (T := TX8) (N := 9) X 0 s_0 rfl hin_X8 3 (by decide) 7 rfl q_250 dX8_undo_14 ?_
    refine j_aload_n X dX8_undo_17 rfl 0 rfl ?_
    refine j_getR (C := RX8) (T := TX8) (N := 9) X 0 s_0 rfl hin_X8 0 (by decide) 1 rfl q_247 dX8_undo_18 ?_
    obtain ⟨q_2, hq_2, h⟩ := bd_s h
    refine j_callVv (As := [.ref (w.1 1)]) X 7 s_7 rfl (c_X2_restore l w G   hq_2) rfl pn_X2_restore q_591 q_592 q_593 q_62 q_594 ⟨Nat.le_of_ble_eq_true rfl, Nat.le_of_ble_eq_true rfl⟩ (Nat.le_of_ble_eq_true rfl) rfl dX8_undo_21 ?_
    refine j_aload_n X dX8_undo_24 rfl 0 rfl ?_
    refine j_getR (C := RX8) (T := TX8) (N := 9) X 0 s_0 rfl hin_X8 3 (by decide) 7 rfl q_250 dX8_undo_25 ?_
    refine j_callVi (As := []) X 7 s_7 rfl (c_X2_size l w q_2  ) rfl pn_X2_size q_587 q_588 q_589 q_62 q_590 ⟨Nat.le_of_ble_eq_true rfl, Nat.le_of_ble_eq_true rfl⟩ (Nat.le_of_ble_eq_true rfl) rfl dX8_undo_28 ?_
    exact j_iret X hr hk dX8_undo_31 (Option.some.inj h)
  · have h := bi_t c_1 h
    refine j_bipush (v := (-2)) X dX8_undo_10 (by decide) ?_
    exact j_iret X hr hk dX8_undo_12 (Option.some.inj h)
abbrev rm_X8_unseen : Room := { frames := 5, cells := 0, slots := 0, locals := 115 }
theorem pn_X8_unseen : yX8_unseen.cls ≠ "java/lang/invoke/MethodHandle" ∧ yX8_unseen.cls ≠ "java/lang/invoke/VarHandle" ∧ (parseMethodDescriptor yX8_unseen.desc).map (fun d => d.parameters.length) = some 0 := by decide +kernel
def L_X8_unseen_4 : Nat → Int32 → Int32 → Mem → Option (Int32 × Mem)
  | 0, _, _, _ => none
  | n + 1, x1, x2, G => (m_X6_statements G 1).bind (fun r_1 => (if r_1 ≤ x2 then some (x1, G) else (m_X6_everything G 1).bind (fun r_3 => (m_X8_orderSet G (r_3 &&& ((1 <<< (x2 &&& 31)) ^^^ (-1)))).bind (fun q_4 => (m_X4_isSoBy q_4).bind (fun r_5 => ((if r_5 = 0 then some (x1, q_4) else some (x1 ||| (1 <<< (x2 &&& 31)), q_4)) : Option (Int32 × Mem)).bind (fun (v_6 : Int32 × Mem) => L_X8_unseen_4  n v_6.1 (x2 + 1) v_6.2))))))
def m_X8_unseen (G : Mem) : Option (Int32 × Mem) := (L_X8_unseen_4  NF 0 0 G).bind (fun v_8 => some (v_8.1, v_8.2))
set_option maxRecDepth 100000 in
set_option maxHeartbeats 4000000 in
theorem jL_X8_unseen_4 {p : Program} {l : Launch} {e : Env} {s : State} {m : MethodId} {args : Array Value} {below : List Frame} {meth : Method} {c : Code} {w : WP} (X : fw_X p s m args c cX8_unseen 3 RX8 w) (hr : meth.sig.returnType = (some .int)) (hk : meth.locks = false) {res : Int32 × Mem} {K : Int32 × Mem → Option (Int32 × Mem)} (HK : ∀ v : Int32 × Mem, K v = some res → J p l e rm_X8_unseen s m args below meth c (Qint below args s w res) w 3 v.2 58 [(1, .int v.1)] []) : ∀ (n : Nat) (x1 : Int32) (x2 : Int32) (G : Mem), (L_X8_unseen_4  n x1 x2 G).bind K = some res → J p l e rm_X8_unseen s m args below meth c (Qint below args s w res) w 3 G 4 [(0, .ref (w.1 0)), (1, .int x1), (2, .int x2)] [] := by
  intro n
  induction n with
  | zero =>
    intro x1 x2 G h
    rw [L_X8_unseen_4] at h
    cases h
  | succ n ih =>
    intro x1 x2 G h
    rw [L_X8_unseen_4] at h
    refine j_iload_n X dX8_unseen_4 rfl 2 rfl ?_
    refine j_aload_n X dX8_unseen_5 rfl 0 rfl ?_
    refine j_getR (C := RX8) (T := TX8) (N := 9) X 0 s_0 rfl hin_X8 0 (by decide) 1 rfl q_247 dX8_unseen_6 ?_
    obtain ⟨r_1, hr_1, h⟩ := bd_s h
    refine j_callVi (As := []) X 1 s_1 rfl (c_X6_statements l w G 1 (Or.inl rfl)  hr_1) rfl pn_X6_statements q_482 q_334 q_335 q_60 q_336 ⟨Nat.le_of_ble_eq_true rfl, Nat.le_of_ble_eq_true rfl⟩ (Nat.le_of_ble_eq_true rfl) rfl dX8_unseen_9 ?_
    refine j_icmp_ge X 58 dX8_unseen_12 (by decide) (fun c_2 => ?_) (fun c_2 => ?_)
    · have h := bi_t c_2 h
      refine j_pick [1] rfl ?_
      exact HK (x1, G) h
    · have h := bi_f c_2 h
      refine j_aload_n X dX8_unseen_15 rfl 0 rfl ?_
      refine j_aload_n X dX8_unseen_16 rfl 0 rfl ?_
      refine j_getR (C := RX8) (T := TX8) (N := 9) X 0 s_0 rfl hin_X8 0 (by decide) 1 rfl q_247 dX8_unseen_17 ?_
      obtain ⟨r_3, hr_3, h⟩ := bd_s h
      refine j_callVi (As := []) X 1 s_1 rfl (c_X6_everything l w G 1 (Or.inl rfl)  hr_3) rfl pn_X6_everything q_607 q_608 q_609 q_60 q_610 ⟨Nat.le_of_ble_eq_true rfl, Nat.le_of_ble_eq_true rfl⟩ (Nat.le_of_ble_eq_true rfl) rfl dX8_unseen_20 ?_
      refine j_iconst (v := 1) X dX8_unseen_23 (by decide) ?_
      refine j_iload_n X dX8_unseen_24 rfl 2 rfl ?_
      refine j_ishl X dX8_unseen_25 ?_
      refine j_iconst (v := (-1)) X dX8_unseen_26 (by decide) ?_
      refine j_ixor X dX8_unseen_27 ?_
      refine j_iand X dX8_unseen_28 ?_
      obtain ⟨q_4, hq_4, h⟩ := bd_s h
      refine j_callVv (As := [.int (r_3 &&& ((1 <<< (x2 &&& 31)) ^^^ (-1)))]) X 0 s_0 rfl (c_X8_orderSet l w G  (r_3 &&& ((1 <<< (x2 &&& 31)) ^^^ (-1))) hq_4) rfl pn_X8_orderSet q_611 q_613 q_16 q_59 q_614 ⟨Nat.le_of_ble_eq_true rfl, Nat.le_of_ble_eq_true rfl⟩ (Nat.le_of_ble_eq_true rfl) rfl dX8_unseen_29 ?_
      refine j_aload_n X dX8_unseen_32 rfl 0 rfl ?_
      refine j_getR (C := RX8) (T := TX8) (N := 9) X 0 s_0 rfl hin_X8 5 (by decide) 23 rfl q_252 dX8_unseen_33 ?_
      refine j_aload_n X dX8_unseen_36 rfl 0 rfl ?_
      refine j_getR (C := RX8) (T := TX8) (N := 9) X 0 s_0 rfl hin_X8 6 (by decide) 27 rfl q_253 dX8_unseen_37 ?_
      obtain ⟨r_5, hr_5, h⟩ := bd_s h
      refine j_callVi (As := [.ref (w.1 27)]) X 23 s_23 rfl (c_X4_isSoBy l w q_4   hr_5) rfl pn_X4_isSoBy q_824 q_825 q_826 q_64 q_827 ⟨Nat.le_of_ble_eq_true rfl, Nat.le_of_ble_eq_true rfl⟩ (Nat.le_of_ble_eq_true rfl) rfl dX8_unseen_40 ?_
      have h := bb_a h
      have Hv_6 : ∀ v_6 : Int32 × Mem, (L_X8_unseen_4  n v_6.1 (x2 + 1) v_6.2).bind K = some res → J p l e rm_X8_unseen s m args below meth c (Qint below args s w res) w 3 v_6.2 52 [(0, .ref (w.1 0)), (1, .int v_6.1), (2, .int x2)] [] := by
        intro v_6 h
        refine j_iinc (v := x2 + 1) X [(2, .int (x2 + 1)), (0, .ref (w.1 0)), (1, .int v_6.1)] dX8_unseen_52 2 rfl rfl (by decide) rfl ?_
        refine j_goto X 4 dX8_unseen_55 (by decide) ?_
        refine j_pick [1, 2, 0] rfl ?_
        exact ih v_6.1 (x2 + 1) v_6.2 h
      refine j_if_eq X 52 dX8_unseen_43 (by decide) (fun c_7 => ?_) (fun c_7 => ?_)
      · have h := bi_t c_7 h
        refine j_pick [0, 1, 2] rfl ?_
        exact Hv_6 (x1, q_4) h
      · have h := bi_f c_7 h
        refine j_iload_n X dX8_unseen_46 rfl 1 rfl ?_
        refine j_iconst (v := 1) X dX8_unseen_47 (by decide) ?_
        refine j_iload_n X dX8_unseen_48 rfl 2 rfl ?_
        refine j_ishl X dX8_unseen_49 ?_
        refine j_ior X dX8_unseen_50 ?_
        refine j_istore_n X [(1, .int (x1 ||| (1 <<< (x2 &&& 31)))), (0, .ref (w.1 0)), (2, .int x2)] dX8_unseen_51 rfl (by decide) rfl ?_
        refine j_pick [1, 0, 2] rfl ?_
        exact Hv_6 (x1 ||| (1 <<< (x2 &&& 31)), q_4) h
set_option maxRecDepth 100000 in
set_option maxHeartbeats 4000000 in
theorem c_X8_unseen (l : Launch) (w : WP) (G : Mem) {res : Int32 × Mem} (h0 : m_X8_unseen G = some res) : CMi l yX8_unseen cX8_unseen 3 (some .int) 5 115 w [.ref (w.1 0)] G res := by
  refine CMi.of (by decide +kernel) (Nat.le_of_ble_eq_true rfl) ?_
  intro p e s m args below meth c X hr hk
  have h := bs_i h0
  unfold m_X8_unseen at h
  show J p l e rm_X8_unseen s m args below meth c (Qint below args s w res) w 3 G 0 [(0, .ref (w.1 0))] []
  refine j_iconst (v := 0) X dX8_unseen_0 (by decide) ?_
  refine j_istore_n X [(1, .int 0), (0, .ref (w.1 0))] dX8_unseen_1 rfl (by decide) rfl ?_
  refine j_iconst (v := 0) X dX8_unseen_2 (by decide) ?_
  refine j_istore_n X [(2, .int 0), (1, .int 0), (0, .ref (w.1 0))] dX8_unseen_3 rfl (by decide) rfl ?_
  have h := bb_a h
  have Hv_8 : ∀ v_8 : Int32 × Mem, (some (v_8.1, v_8.2)).bind some = some res → J p l e rm_X8_unseen s m args below meth c (Qint below args s w res) w 3 v_8.2 58 [(1, .int v_8.1)] [] := by
    intro v_8 h
    refine j_iload_n X dX8_unseen_58 rfl 0 rfl ?_
    exact j_iret X hr hk dX8_unseen_59 (Option.some.inj h)
  refine j_pick [2, 1, 0] rfl ?_
  exact jL_X8_unseen_4 X hr hk Hv_8 NF 0 0 G h
abbrev rm_X8_would : Room := { frames := 6, cells := 0, slots := 0, locals := 135 }
theorem pn_X8_would : yX8_would.cls ≠ "java/lang/invoke/MethodHandle" ∧ yX8_would.cls ≠ "java/lang/invoke/VarHandle" ∧ (parseMethodDescriptor yX8_would.desc).map (fun d => d.parameters.length) = some 3 := by decide +kernel
def m_X8_would (G : Mem) (p1 : Int32) (p2 : Int32) (p3 : Int32) : Option (Int32 × Mem) := (m_X8_canBeSaid G p1 p2 p3).bind (fun r_1 => (if r_1 = 0 then some ((-1), G) else (m_X8_orderAll G).bind (fun q_3 => (m_X1_tells q_3 27 p1 p3).bind (fun r_4 => (if r_4 = 4 then some (4, q_3) else (if r_4 = 0 then some (1, q_3) else ((if p2 = 0 then some (r_4, 1, q_3) else some (r_4, 2, q_3)) : Option (Int32 × Int32 × Mem)).bind (fun (v_7 : Int32 × Int32 × Mem) => (if v_7.1 = v_7.2.1 then some (0, v_7.2.2) else some (2, v_7.2.2)))))))))
set_option maxRecDepth 100000 in
set_option maxHeartbeats 4000000 in
theorem c_X8_would (l : Launch) (w : WP) (G : Mem) (p1 : Int32) (p2 : Int32) (p3 : Int32) {res : Int32 × Mem} (h0 : m_X8_would G p1 p2 p3 = some res) : CMi l yX8_would cX8_would 6 (some .int) 6 135 w [.ref (w.1 0), .int p1, .int p2, .int p3] G res := by
  refine CMi.of (by decide +kernel) (Nat.le_of_ble_eq_true rfl) ?_
  intro p e s m args below meth c X hr hk
  have h := bs_i h0
  unfold m_X8_would at h
  show J p l e rm_X8_would s m args below meth c (Qint below args s w res) w 6 G 0 [(0, .ref (w.1 0)), (1, .int p1), (2, .int p2), (3, .int p3)] []
  refine j_aload_n X dX8_would_0 rfl 0 rfl ?_
  refine j_iload_n X dX8_would_1 rfl 1 rfl ?_
  refine j_iload_n X dX8_would_2 rfl 2 rfl ?_
  refine j_iload_n X dX8_would_3 rfl 3 rfl ?_
  obtain ⟨r_1, hr_1, h⟩ := bd_s h
  refine j_callVi (As := [.int p1, .int p2, .int p3]) X 0 s_0 rfl (c_X8_canBeSaid l w G  p1 p2 p3 hr_1) rfl pn_X8_canBeSaid q_542 q_544 q_12 q_59 q_545 ⟨Nat.le_of_ble_eq_true rfl, Nat.le_of_ble_eq_true rfl⟩ (Nat.le_of_ble_eq_true rfl) rfl dX8_would_4 ?_
  refine j_if_ne X 12 dX8_would_7 (by decide) (fun c_2 => ?_) (fun c_2 => ?_)
  · have h := bi_f c_2 h
    refine j_aload_n X dX8_would_12 rfl 0 rfl ?_
    obtain ⟨q_3, hq_3, h⟩ := bd_s h
    refine j_callVv (As := []) X 0 s_0 rfl (c_X8_orderAll l w G   hq_3) rfl pn_X8_orderAll q_603 q_605 q_15 q_59 q_606 ⟨Nat.le_of_ble_eq_true rfl, Nat.le_of_ble_eq_true rfl⟩ (Nat.le_of_ble_eq_true rfl) rfl dX8_would_13 ?_
    refine j_aload_n X dX8_would_16 rfl 0 rfl ?_
    refine j_getR (C := RX8) (T := TX8) (N := 9) X 0 s_0 rfl hin_X8 6 (by decide) 27 rfl q_253 dX8_would_17 ?_
    refine j_iload_n X dX8_would_20 rfl 1 rfl ?_
    refine j_iload_n X dX8_would_21 rfl 3 rfl ?_
    obtain ⟨r_4, hr_4, h⟩ := bd_s h
    refine j_callVi (As := [.int p1, .int p3]) X 27 s_27 rfl (c_X1_tells l w q_3 27 (Or.inl rfl) p1 p3 hr_4) rfl pn_X1_tells q_703 q_704 q_705 q_65 q_706 ⟨Nat.le_of_ble_eq_true rfl, Nat.le_of_ble_eq_true rfl⟩ (Nat.le_of_ble_eq_true rfl) rfl dX8_would_22 ?_
    refine j_istore X [(4, .int r_4), (0, .ref (w.1 0)), (1, .int p1), (2, .int p2), (3, .int p3)] dX8_would_25 (by decide) rfl ?_
    refine j_iload X dX8_would_27 0 rfl ?_
    refine j_iconst (v := 4) X dX8_would_29 (by decide) ?_
    refine j_icmp_ne X 35 dX8_would_30 (by decide) (fun c_5 => ?_) (fun c_5 => ?_)
    · have h := bi_f c_5 h
      refine j_iload X dX8_would_35 0 rfl ?_
      refine j_if_ne X 42 dX8_would_37 (by decide) (fun c_6 => ?_) (fun c_6 => ?_)
      · have h := bi_f c_6 h
        refine j_iload_n X dX8_would_42 rfl 3 rfl ?_
        have h := bb_a h
        have Hv_7 : ∀ v_7 : Int32 × Int32 × Mem, ((if v_7.1 = v_7.2.1 then some (0, v_7.2.2) else some (2, v_7.2.2))).bind some = some res → J p l e rm_X8_would s m args below meth c (Qint below args s w res) w 6 v_7.2.2 51 [(4, .int v_7.1)] [.int v_7.2.1] := by
          intro v_7 h
          refine j_istore X [(5, .int v_7.2.1), (4, .int v_7.1)] dX8_would_51 (by decide) rfl ?_
          refine j_iload X dX8_would_53 1 rfl ?_
          refine j_iload X dX8_would_55 0 rfl ?_
          refine j_icmp_ne X 64 dX8_would_57 (by decide) (fun c_8 => ?_) (fun c_8 => ?_)
          · have h := bi_f c_8 h
            refine j_iconst (v := 2) X dX8_would_64 (by decide) ?_
            exact j_iret X hr hk dX8_would_65 (Option.some.inj h)
          · have h := bi_t c_8 h
            refine j_iconst (v := 0) X dX8_would_60 (by decide) ?_
            refine j_goto X 65 dX8_would_61 (by decide) ?_
            exact j_iret X hr hk dX8_would_65 (Option.some.inj h)
        refine j_if_ne X 50 dX8_would_43 (by decide) (fun c_9 => ?_) (fun c_9 => ?_)
        · have h := bi_f c_9 h
          refine j_iconst (v := 2) X dX8_would_50 (by decide) ?_
          refine j_pick [0] rfl ?_
          exact Hv_7 (r_4, 2, q_3) h
        · have h := bi_t c_9 h
          refine j_iconst (v := 1) X dX8_would_46 (by decide) ?_
          refine j_goto X 51 dX8_would_47 (by decide) ?_
          refine j_pick [0] rfl ?_
          exact Hv_7 (r_4, 1, q_3) h
      · have h := bi_t c_6 h
        refine j_iconst (v := 1) X dX8_would_40 (by decide) ?_
        exact j_iret X hr hk dX8_would_41 (Option.some.inj h)
    · have h := bi_t c_5 h
      refine j_iconst (v := 4) X dX8_would_33 (by decide) ?_
      exact j_iret X hr hk dX8_would_34 (Option.some.inj h)
  · have h := bi_t c_2 h
    refine j_iconst (v := (-1)) X dX8_would_10 (by decide) ?_
    exact j_iret X hr hk dX8_would_11 (Option.some.inj h)
