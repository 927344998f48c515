abbrev rm_X8_back : Room := { frames := 3, cells := 0, slots := 0, locals := 65 }
theorem pn_X8_back : yX8_back.cls ≠ "java/lang/invoke/MethodHandle" ∧ yX8_back.cls ≠ "java/lang/invoke/VarHandle" ∧ (parseMethodDescriptor yX8_back.desc).map (fun d => d.parameters.length) = some 1 := by decide +kernel
def m_X8_back (G : Mem) (p1 : Int32) : Option (Int32 × Mem) := (if p1 < 0 then some ((-1), G) else (if p1 < 2 then (if (m_X0_isKept G p1) = 0 then some ((-2), G) else (m_X0_restore G p1).bind (fun q_4 => (m_X6_statements (m_X2_lose q_4) 1).bind (fun r_5 => some (r_5, m_X2_lose q_4)))) else some ((-1), G)))
set_option maxRecDepth 100000 in
set_option maxHeartbeats 4000000 in
theorem c_X8_back (l : Launch) (w : WP) (G : Mem) (p1 : Int32) {res : Int32 × Mem} (h0 : m_X8_back G p1 = some res) : CMi l yX8_back cX8_back 2 (some .int) 3 65 w [.ref (w.1 0), .int p1] G res := by
  refine CMi.of (by decide +kernel) (Nat.le_of_ble_eq_true rfl) ?_
  intro p e s m args below meth c X hr hk
  have h := bs_i h0
  unfold m_X8_back at h
  show J p l e rm_X8_back s m args below meth c (Qint below args s w res) w 2 G 0 [(0, .ref (w.1 0)), (1, .int p1)] []
  refine j_iload_n X dX8_back_0 rfl 1 rfl ?_
  refine j_if_lt X 9 dX8_back_1 (by decide) (fun c_1 => ?_) (fun c_1 => ?_)
  · have h := bi_t c_1 h
    refine j_iconst (v := (-1)) X dX8_back_9 (by decide) ?_
    exact j_iret X hr hk dX8_back_10 (Option.some.inj h)
  · have h := bi_f c_1 h
    refine j_iload_n X dX8_back_4 rfl 1 rfl ?_
    refine j_iconst (v := 2) X dX8_back_5 (by decide) ?_
    refine j_icmp_lt X 11 dX8_back_6 (by decide) (fun c_2 => ?_) (fun c_2 => ?_)
    · have h := bi_t c_2 h
      refine j_aload_n X dX8_back_11 rfl 0 rfl ?_
      refine j_getR (C := RX8) (T := TX8) (N := 9) X 0 s_0 rfl hin_X8 4 (by decide) 19 rfl q_251 dX8_back_12 ?_
      refine j_iload_n X dX8_back_15 rfl 1 rfl ?_
      refine j_callVi (As := [.int p1]) X 19 s_19 rfl (c_X0_isKept l w G  p1) rfl pn_X0_isKept q_842 q_843 q_844 q_63 q_845 ⟨Nat.le_of_ble_eq_true rfl, Nat.le_of_ble_eq_true rfl⟩ (Nat.le_of_ble_eq_true rfl) rfl dX8_back_16 ?_
      refine j_if_ne X 25 dX8_back_19 (by decide) (fun c_3 => ?_) (fun c_3 => ?_)
      · have h := bi_f c_3 h
        refine j_aload_n X dX8_back_25 rfl 0 rfl ?_
        refine j_getR (C := RX8) (T := TX8) (N := 9) X 0 s_0 rfl hin_X8 4 (by decide) 19 rfl q_251 dX8_back_26 ?_
        refine j_iload_n X dX8_back_29 rfl 1 rfl ?_
        refine j_aload_n X dX8_back_30 rfl 0 rfl ?_
        refine j_getR (C := RX8) (T := TX8) (N := 9) X 0 s_0 rfl hin_X8 0 (by decide) 1 rfl q_247 dX8_back_31 ?_
        obtain ⟨q_4, hq_4, h⟩ := bd_s h
        refine j_callVv (As := [.int p1, .ref (w.1 1)]) X 19 s_19 rfl (c_X0_restore l w G  p1 hq_4) rfl pn_X0_restore q_847 q_848 q_849 q_63 q_850 ⟨Nat.le_of_ble_eq_true rfl, Nat.le_of_ble_eq_true rfl⟩ (Nat.le_of_ble_eq_true rfl) rfl dX8_back_34 ?_
        refine j_aload_n X dX8_back_37 rfl 0 rfl ?_
        refine j_getR (C := RX8) (T := TX8) (N := 9) X 0 s_0 rfl hin_X8 3 (by decide) 7 rfl q_250 dX8_back_38 ?_
        refine j_callVv (As := []) X 7 s_7 rfl (c_X2_lose l w q_4  ) rfl pn_X2_lose q_474 q_475 q_476 q_62 q_477 ⟨Nat.le_of_ble_eq_true rfl, Nat.le_of_ble_eq_true rfl⟩ (Nat.le_of_ble_eq_true rfl) rfl dX8_back_41 ?_
        refine j_aload_n X dX8_back_44 rfl 0 rfl ?_
        refine j_getR (C := RX8) (T := TX8) (N := 9) X 0 s_0 rfl hin_X8 0 (by decide) 1 rfl q_247 dX8_back_45 ?_
        obtain ⟨r_5, hr_5, h⟩ := bd_s h
        refine j_callVi (As := []) X 1 s_1 rfl (c_X6_statements l w (m_X2_lose q_4) 1 (Or.inl rfl)  hr_5) rfl pn_X6_statements q_482 q_334 q_335 q_60 q_336 ⟨Nat.le_of_ble_eq_true rfl, Nat.le_of_ble_eq_true rfl⟩ (Nat.le_of_ble_eq_true rfl) rfl dX8_back_48 ?_
        exact j_iret X hr hk dX8_back_51 (Option.some.inj h)
      · have h := bi_t c_3 h
        refine j_bipush (v := (-2)) X dX8_back_22 (by decide) ?_
        exact j_iret X hr hk dX8_back_24 (Option.some.inj h)
    · have h := bi_f c_2 h
      refine j_iconst (v := (-1)) X dX8_back_9 (by decide) ?_
      exact j_iret X hr hk dX8_back_10 (Option.some.inj h)
abbrev rm_X8_orderSet : Room := { frames := 4, cells := 0, slots := 0, locals := 93 }
theorem pn_X8_orderSet : yX8_orderSet.cls ≠ "java/lang/invoke/MethodHandle" ∧ yX8_orderSet.cls ≠ "java/lang/invoke/VarHandle" ∧ (parseMethodDescriptor yX8_orderSet.desc).map (fun d => d.parameters.length) = some 1 := by decide +kernel
def L_X8_orderSet_9 (x1 : Int32) : Nat → Int32 → Mem → Option (Mem)
  | 0, _, _ => none
  | n + 1, x2, G => (m_X6_statements G 1).bind (fun r_2 => (if r_2 ≤ x2 then some G else ((if (m_X8_has x1 x2) = 0 then some G else (m_X6_tellOne G 1 27 x2).bind (fun q_6 => some q_6)) : Option (Mem)).bind (fun (v_4 : Mem) => L_X8_orderSet_9 x1 n (x2 + 1) v_4)))
def m_X8_orderSet (G : Mem) (p1 : Int32) : Option (Mem) := (m_X1_empty G 27).bind (fun q_1 => (L_X8_orderSet_9 p1 NF 0 q_1).bind (fun v_7 => some v_7))
set_option maxRecDepth 100000 in
set_option maxHeartbeats 4000000 in
theorem jL_X8_orderSet_9 {p : Program} {l : Launch} {e : Env} {s : State} {m : MethodId} {args : Array Value} {below : List Frame} {meth : Method} {c : Code} {w : WP} (X : fw_X p s m args c cX8_orderSet 3 RX8 w) (hr : meth.sig.returnType = none) (hk : meth.locks = false) {x1 : Int32} {res : Mem} {K : Mem → Option (Mem)} (HK : ∀ v : Mem, K v = some res → J p l e rm_X8_orderSet s m args below meth c (Qvoid below args s w res) w 3 v 46 [] []) : ∀ (n : Nat) (x2 : Int32) (G : Mem), (L_X8_orderSet_9 x1 n x2 G).bind K = some res → J p l e rm_X8_orderSet s m args below meth c (Qvoid below args s w res) w 3 G 9 [(0, .ref (w.1 0)), (1, .int x1), (2, .int x2)] [] := by
  intro n
  induction n with
  | zero =>
    intro x2 G h
    rw [L_X8_orderSet_9] at h
    cases h
  | succ n ih =>
    intro x2 G h
    rw [L_X8_orderSet_9] at h
    refine j_iload_n X dX8_orderSet_9 rfl 2 rfl ?_
    refine j_aload_n X dX8_orderSet_10 rfl 0 rfl ?_
    refine j_getR (C := RX8) (T := TX8) (N := 9) X 0 s_0 rfl hin_X8 0 (by decide) 1 rfl q_247 dX8_orderSet_11 ?_
    obtain ⟨r_2, hr_2, h⟩ := bd_s h
    refine j_callVi (As := []) X 1 s_1 rfl (c_X6_statements l w G 1 (Or.inl rfl)  hr_2) rfl pn_X6_statements q_482 q_334 q_335 q_60 q_336 ⟨Nat.le_of_ble_eq_true rfl, Nat.le_of_ble_eq_true rfl⟩ (Nat.le_of_ble_eq_true rfl) rfl dX8_orderSet_14 ?_
    refine j_icmp_ge X 46 dX8_orderSet_17 (by decide) (fun c_3 => ?_) (fun c_3 => ?_)
    · have h := bi_t c_3 h
      refine j_pick [] rfl ?_
      exact HK G h
    · have h := bi_f c_3 h
      refine j_iload_n X dX8_orderSet_20 rfl 1 rfl ?_
      refine j_iload_n X dX8_orderSet_21 rfl 2 rfl ?_
      refine j_callSi (As := [.int x1, .int x2]) X (c_X8_has l w G  x1 x2) pn_X8_has q_619 q_620 q_59 q_621 ⟨Nat.le_of_ble_eq_true rfl, Nat.le_of_ble_eq_true rfl⟩ (Nat.le_of_ble_eq_true rfl) rfl dX8_orderSet_22 ?_
      have h := bb_a h
      have Hv_4 : ∀ v_4 : Mem, (L_X8_orderSet_9 x1 n (x2 + 1) v_4).bind K = some res → J p l e rm_X8_orderSet s m args below meth c (Qvoid below args s w res) w 3 v_4 40 [(0, .ref (w.1 0)), (1, .int x1), (2, .int x2)] [] := by
        intro v_4 h
        refine j_iinc (v := x2 + 1) X [(2, .int (x2 + 1)), (0, .ref (w.1 0)), (1, .int x1)] dX8_orderSet_40 2 rfl rfl (by decide) rfl ?_
        refine j_goto X 9 dX8_orderSet_43 (by decide) ?_
        refine j_pick [1, 2, 0] rfl ?_
        exact ih (x2 + 1) v_4 h
      refine j_if_eq X 40 dX8_orderSet_25 (by decide) (fun c_5 => ?_) (fun c_5 => ?_)
      · have h := bi_t c_5 h
        refine j_pick [0, 1, 2] rfl ?_
        exact Hv_4 G h
      · have h := bi_f c_5 h
        refine j_aload_n X dX8_orderSet_28 rfl 0 rfl ?_
        refine j_getR (C := RX8) (T := TX8) (N := 9) X 0 s_0 rfl hin_X8 0 (by decide) 1 rfl q_247 dX8_orderSet_29 ?_
        refine j_iload_n X dX8_orderSet_32 rfl 2 rfl ?_
        refine j_aload_n X dX8_orderSet_33 rfl 0 rfl ?_
        refine j_getR (C := RX8) (T := TX8) (N := 9) X 0 s_0 rfl hin_X8 6 (by decide) 27 rfl q_253 dX8_orderSet_34 ?_
        obtain ⟨q_6, hq_6, h⟩ := bd_s h
        refine j_callVv (As := [.int x2, .ref (w.1 27)]) X 1 s_1 rfl (c_X6_tellOne l w G 1 (Or.inl rfl) 27 (Or.inl rfl) x2 hq_6) rfl pn_X6_tellOne q_622 q_623 q_624 q_60 q_625 ⟨Nat.le_of_ble_eq_true rfl, Nat.le_of_ble_eq_true rfl⟩ (Nat.le_of_ble_eq_true rfl) rfl dX8_orderSet_37 ?_
        refine j_pick [0, 1, 2] rfl ?_
        exact Hv_4 q_6 h
set_option maxRecDepth 100000 in
set_option maxHeartbeats 4000000 in
theorem c_X8_orderSet (l : Launch) (w : WP) (G : Mem) (p1 : Int32) {res : Mem} (h0 : m_X8_orderSet G p1 = some res) : CMv l yX8_orderSet cX8_orderSet 3 none 4 93 w [.ref (w.1 0), .int p1] G res := by
  refine CMv.of (by decide +kernel) (Nat.le_of_ble_eq_true rfl) ?_
  intro p e s m args below meth c X hr hk
  have h := bs_i h0
  unfold m_X8_orderSet at h
  show J p l e rm_X8_orderSet s m args below meth c (Qvoid below args s w res) w 3 G 0 [(0, .ref (w.1 0)), (1, .int p1)] []
  refine j_aload_n X dX8_orderSet_0 rfl 0 rfl ?_
  refine j_getR (C := RX8) (T := TX8) (N := 9) X 0 s_0 rfl hin_X8 6 (by decide) 27 rfl q_253 dX8_orderSet_1 ?_
  obtain ⟨q_1, hq_1, h⟩ := bd_s h
  refine j_callVv (As := []) X 27 s_27 rfl (c_X1_empty l w G 27 (Or.inl rfl)  hq_1) rfl pn_X1_empty q_615 q_616 q_617 q_65 q_618 ⟨Nat.le_of_ble_eq_true rfl, Nat.le_of_ble_eq_true rfl⟩ (Nat.le_of_ble_eq_true rfl) rfl dX8_orderSet_4 ?_
  refine j_iconst (v := 0) X dX8_orderSet_7 (by decide) ?_
  refine j_istore_n X [(2, .int 0), (0, .ref (w.1 0)), (1, .int p1)] dX8_orderSet_8 rfl (by decide) rfl ?_
  have h := bb_a h
  have Hv_7 : ∀ v_7 : Mem, (some v_7).bind some = some res → J p l e rm_X8_orderSet s m args below meth c (Qvoid below args s w res) w 3 v_7 46 [] [] := by
    intro v_7 h
    exact j_vret X hr hk dX8_orderSet_46 (Option.some.inj h)
  refine j_pick [1, 2, 0] rfl ?_
  exact jL_X8_orderSet_9 X hr hk Hv_7 NF 0 q_1 h
abbrev rm_X8_tallyAll : Room := { frames := 5, cells := 0, slots := 0, locals := 115 }
theorem pn_X8_tallyAll : yX8_tallyAll.cls ≠ "java/lang/invoke/MethodHandle" ∧ yX8_tallyAll.cls ≠ "java/lang/invoke/VarHandle" ∧ (parseMethodDescriptor yX8_tallyAll.desc).map (fun d => d.parameters.length) = some 0 := by decide +kernel
def m_X8_tallyAll (G : Mem) : Option (Mem) := (m_X6_everything G 1).bind (fun r_1 => (m_X8_orderSet G r_1).bind (fun q_2 => (m_X6_clauses q_2 1).bind (fun r_3 => (m_X5_fill q_2 r_3).bind (fun q_4 => some q_4))))
set_option maxRecDepth 100000 in
set_option maxHeartbeats 4000000 in
theorem c_X8_tallyAll (l : Launch) (w : WP) (G : Mem) {res : Mem} (h0 : m_X8_tallyAll G = some res) : CMv l yX8_tallyAll cX8_tallyAll 1 none 5 115 w [.ref (w.1 0)] G res := by
  refine CMv.of (by decide +kernel) (Nat.le_of_ble_eq_true rfl) ?_
  intro p e s m args below meth c X hr hk
  have h := bs_i h0
  unfold m_X8_tallyAll at h
  show J p l e rm_X8_tallyAll s m args below meth c (Qvoid below args s w res) w 1 G 0 [(0, .ref (w.1 0))] []
  refine j_aload_n X dX8_tallyAll_0 rfl 0 rfl ?_
  refine j_aload_n X dX8_tallyAll_1 rfl 0 rfl ?_
  refine j_getR (C := RX8) (T := TX8) (N := 9) X 0 s_0 rfl hin_X8 0 (by decide) 1 rfl q_247 dX8_tallyAll_2 ?_
  obtain ⟨r_1, hr_1, h⟩ := bd_s h
  refine j_callVi (As := []) X 1 s_1 rfl (c_X6_everything l w G 1 (Or.inl rfl)  hr_1) rfl pn_X6_everything q_607 q_608 q_609 q_60 q_610 ⟨Nat.le_of_ble_eq_true rfl, Nat.le_of_ble_eq_true rfl⟩ (Nat.le_of_ble_eq_true rfl) rfl dX8_tallyAll_5 ?_
  obtain ⟨q_2, hq_2, h⟩ := bd_s h
  refine j_callVv (As := [.int r_1]) X 0 s_0 rfl (c_X8_orderSet l w G  r_1 hq_2) rfl pn_X8_orderSet q_611 q_613 q_16 q_59 q_614 ⟨Nat.le_of_ble_eq_true rfl, Nat.le_of_ble_eq_true rfl⟩ (Nat.le_of_ble_eq_true rfl) rfl dX8_tallyAll_8 ?_
  refine j_aload_n X dX8_tallyAll_11 rfl 0 rfl ?_
  refine j_getR (C := RX8) (T := TX8) (N := 9) X 0 s_0 rfl hin_X8 8 (by decide) 66 rfl q_255 dX8_tallyAll_12 ?_
  refine j_aload_n X dX8_tallyAll_15 rfl 0 rfl ?_
  refine j_getR (C := RX8) (T := TX8) (N := 9) X 0 s_0 rfl hin_X8 6 (by decide) 27 rfl q_253 dX8_tallyAll_16 ?_
  refine j_aload_n X dX8_tallyAll_19 rfl 0 rfl ?_
  refine j_getR (C := RX8) (T := TX8) (N := 9) X 0 s_0 rfl hin_X8 0 (by decide) 1 rfl q_247 dX8_tallyAll_20 ?_
  obtain ⟨r_3, hr_3, h⟩ := bd_s h
  refine j_callVi (As := []) X 1 s_1 rfl (c_X6_clauses l w q_2 1 (Or.inl rfl)  hr_3) rfl pn_X6_clauses q_492 q_323 q_324 q_60 q_325 ⟨Nat.le_of_ble_eq_true rfl, Nat.le_of_ble_eq_true rfl⟩ (Nat.le_of_ble_eq_true rfl) rfl dX8_tallyAll_23 ?_
  obtain ⟨q_4, hq_4, h⟩ := bd_s h
  refine j_callVv (As := [.ref (w.1 27), .int r_3]) X 66 s_66 rfl (c_X5_fill l w q_2  r_3 hq_4) rfl pn_X5_fill q_737 q_738 q_739 q_67 q_740 ⟨Nat.le_of_ble_eq_true rfl, Nat.le_of_ble_eq_true rfl⟩ (Nat.le_of_ble_eq_true rfl) rfl dX8_tallyAll_26 ?_
  exact j_vret X hr hk dX8_tallyAll_29 (Option.some.inj h)
abbrev rm_X8_best : Room := { frames := 6, cells := 0, slots := 0, locals := 135 }
theorem pn_X8_best : yX8_best.cls ≠ "java/lang/invoke/MethodHandle" ∧ yX8_best.cls ≠ "java/lang/invoke/VarHandle" ∧ (parseMethodDescriptor yX8_best.desc).map (fun d => d.parameters.length) = some 1 := by decide +kernel
def L_X8_best_53 (x5 : Int32) (G : Mem) : Nat → Int32 → Int32 → Int32 → Int32 → Option (Int32 × Int32 × Int32)
  | 0, _, _, _, _ => none
  | n + 1, x2, x3, x4, x6 => (m_X6_clauses G 1).bind (fun r_7 => (if r_7 ≤ x6 then some (x2, x3, x4) else (m_X1_tells G 27 (m_X8_eventOf x5) (m_X8_eventOf x6)).bind (fun r_9 => ((if r_9 = 0 then (m_X5_worst G x5 x6).bind (fun r_12 => (if x4 = (-9) then some (x5, x6, r_12) else (if x4 ≤ r_12 then some (x2, x3, x4) else some (x5, x6, r_12)))) else some (x2, x3, x4)) : Option (Int32 × Int32 × Int32)).bind (fun (v_10 : Int32 × Int32 × Int32) => L_X8_best_53 x5 G n v_10.1 v_10.2.1 v_10.2.2 (x6 + 1)))))
def L_X8_best_35 (G : Mem) : Nat → Int32 → Int32 → Int32 → Int32 → Option (Int32 × Int32 × Int32)
  | 0, _, _, _, _ => none
  | n + 1, x2, x3, x4, x5 => (m_X6_clauses G 1).bind (fun r_5 => (if r_5 ≤ x5 then some (x2, x3, x4) else (L_X8_best_53 x5 G NF x2 x3 x4 (x5 + 1)).bind (fun v_15 => L_X8_best_35 G n v_15.1 v_15.2.1 v_15.2.2 (x5 + 1))))
def m_X8_best (G : Mem) (p1 : Int32) : Option (Int32 × Mem) := (if p1 < 0 then some ((-1), G) else (if p1 ≤ 2 then (m_X8_tallyAll G).bind (fun q_3 => (m_X5_compare q_3).bind (fun q_4 => (L_X8_best_35 q_4 NF (-9) (-9) (-9) 0).bind (fun v_16 => (if p1 = 0 then some (v_16.1, q_4) else (if p1 = 1 then some (v_16.2.1, q_4) else some (v_16.2.2, q_4)))))) else some ((-1), G)))
set_option maxRecDepth 100000 in
set_option maxHeartbeats 4000000 in
theorem jL_X8_best_53 {p : Program} {l : Launch} {e : Env} {s : State} {m : MethodId} {args : Array Value} {below : List Frame} {meth : Method} {c : Code} {w : WP} (X : fw_X p s m args c cX8_best 8 RX8 w) (hr : meth.sig.returnType = (some .int)) (hk : meth.locks = false) {x1 : Int32} {x5 : Int32} {G : Mem} {res : Int32 × Mem} {K : Int32 × Int32 × Int32 → Option (Int32 × Mem)} (HK : ∀ v : Int32 × Int32 × Int32, K v = some res → J p l e rm_X8_best s m args below meth c (Qint below args s w res) w 8 G 131 [(0, .ref (w.1 0)), (1, .int x1), (2, .int v.1), (3, .int v.2.1), (4, .int v.2.2), (5, .int x5)] []) : ∀ (n : Nat) (x2 : Int32) (x3 : Int32) (x4 : Int32) (x6 : Int32), (L_X8_best_53 x5 G n x2 x3 x4 x6).bind K = some res → J p l e rm_X8_best s m args below meth c (Qint below args s w res) w 8 G 53 [(0, .ref (w.1 0)), (1, .int x1), (2, .int x2), (3, .int x3), (4, .int x4), (5, .int x5), (6, .int x6)] [] := by
  intro n
  induction n with
  | zero =>
    intro x2 x3 x4 x6 h
    rw [L_X8_best_53] at h
    cases h
  | succ n ih =>
    intro x2 x3 x4 x6 h
    rw [L_X8_best_53] at h
    refine j_iload X dX8_best_53 6 rfl ?_
    refine j_aload_n X dX8_best_55 rfl 0 rfl ?_
    refine j_getR (C := RX8) (T := TX8) (N := 9) X 0 s_0 rfl hin_X8 0 (by decide) 1 rfl q_247 dX8_best_56 ?_
    obtain ⟨r_7, hr_7, h⟩ := bd_s h
    refine j_callVi (As := []) X 1 s_1 rfl (c_X6_clauses l w G 1 (Or.inl rfl)  hr_7) rfl pn_X6_clauses q_492 q_323 q_324 q_60 q_325 ⟨Nat.le_of_ble_eq_true rfl, Nat.le_of_ble_eq_true rfl⟩ (Nat.le_of_ble_eq_true rfl) rfl dX8_best_59 ?_
    refine j_icmp_ge X 131 dX8_best_62 (by decide) (fun c_8 => ?_) (fun c_8 => ?_)
    · have h := bi_t c_8 h
      refine j_pick [0, 1, 2, 3, 4, 5] rfl ?_
      exact HK (x2, x3, x4) h
    · have h := bi_f c_8 h
      refine j_aload_n X dX8_best_65 rfl 0 rfl ?_
      refine j_getR (C := RX8) (T := TX8) (N := 9) X 0 s_0 rfl hin_X8 6 (by decide) 27 rfl q_253 dX8_best_66 ?_
      refine j_iload X dX8_best_69 5 rfl ?_
      refine j_callSi (As := [.int x5]) X (c_X8_eventOf l w G  x5) pn_X8_eventOf q_797 q_327 q_59 q_328 ⟨Nat.le_of_ble_eq_true rfl, Nat.le_of_ble_eq_true rfl⟩ (Nat.le_of_ble_eq_true rfl) rfl dX8_best_71 ?_
      refine j_iload X dX8_best_74 6 rfl ?_
      refine j_callSi (As := [.int x6]) X (c_X8_eventOf l w G  x6) pn_X8_eventOf q_797 q_327 q_59 q_328 ⟨Nat.le_of_ble_eq_true rfl, Nat.le_of_ble_eq_true rfl⟩ (Nat.le_of_ble_eq_true rfl) rfl dX8_best_76 ?_
      obtain ⟨r_9, hr_9, h⟩ := bd_s h
      refine j_callVi (As := [.int (m_X8_eventOf x5), .int (m_X8_eventOf x6)]) X 27 s_27 rfl (c_X1_tells l w G 27 (Or.inl rfl) (m_X8_eventOf x5) (m_X8_eventOf x6) hr_9) rfl pn_X1_tells q_703 q_704 q_705 q_65 q_706 ⟨Nat.le_of_ble_eq_true rfl, Nat.le_of_ble_eq_true rfl⟩ (Nat.le_of_ble_eq_true rfl) rfl dX8_best_79 ?_
      have h := bb_a h
      have Hv_10 : ∀ v_10 : Int32 × Int32 × Int32, (L_X8_best_53 x5 G n v_10.1 v_10.2.1 v_10.2.2 (x6 + 1)).bind K = some res → J p l e rm_X8_best s m args below meth c (Qint below args s w res) w 8 G 125 [(0, .ref (w.1 0)), (1, .int x1), (2, .int v_10.1), (3, .int v_10.2.1), (4, .int v_10.2.2), (5, .int x5), (6, .int x6)] [] := by
        intro v_10 h
        refine j_iinc (v := x6 + 1) X [(6, .int (x6 + 1)), (0, .ref (w.1 0)), (1, .int x1), (2, .int v_10.1), (3, .int v_10.2.1), (4, .int v_10.2.2), (5, .int x5)] dX8_best_125 6 rfl rfl (by decide) rfl ?_
        refine j_goto X 53 dX8_best_128 (by decide) ?_
        refine j_pick [1, 2, 3, 4, 5, 6, 0] rfl ?_
        exact ih v_10.1 v_10.2.1 v_10.2.2 (x6 + 1) h
      refine j_if_eq X 88 dX8_best_82 (by decide) (fun c_11 => ?_) (fun c_11 => ?_)
      · have h := bi_t c_11 h
        refine j_aload_n X dX8_best_88 rfl 0 rfl ?_
        refine j_getR (C := RX8) (T := TX8) (N := 9) X 0 s_0 rfl hin_X8 8 (by decide) 66 rfl q_255 dX8_best_89 ?_
        refine j_iload X dX8_best_92 5 rfl ?_
        refine j_iload X dX8_best_94 6 rfl ?_
        obtain ⟨r_12, hr_12, h⟩ := bd_s h
        refine j_callVi (As := [.int x5, .int x6]) X 66 s_66 rfl (c_X5_worst l w G  x5 x6 hr_12) rfl pn_X5_worst q_798 q_799 q_800 q_67 q_801 ⟨Nat.le_of_ble_eq_true rfl, Nat.le_of_ble_eq_true rfl⟩ (Nat.le_of_ble_eq_true rfl) rfl dX8_best_96 ?_
        refine j_istore X [(7, .int r_12), (0, .ref (w.1 0)), (1, .int x1), (2, .int x2), (3, .int x3), (4, .int x4), (5, .int x5), (6, .int x6)] dX8_best_99 (by decide) rfl ?_
        refine j_iload X dX8_best_101 5 rfl ?_
        refine j_bipush (v := (-9)) X dX8_best_103 (by decide) ?_
        refine j_icmp_eq X 115 dX8_best_105 (by decide) (fun c_13 => ?_) (fun c_13 => ?_)
        · have h := bi_t c_13 h
          refine j_iload X dX8_best_115 6 rfl ?_
          refine j_istore_n X [(2, .int x5), (7, .int r_12), (0, .ref (w.1 0)), (1, .int x1), (3, .int x3), (4, .int x4), (5, .int x5), (6, .int x6)] dX8_best_117 rfl (by decide) rfl ?_
          refine j_iload X dX8_best_118 7 rfl ?_
          refine j_istore_n X [(3, .int x6), (2, .int x5), (7, .int r_12), (0, .ref (w.1 0)), (1, .int x1), (4, .int x4), (5, .int x5), (6, .int x6)] dX8_best_120 rfl (by decide) rfl ?_
          refine j_iload X dX8_best_121 2 rfl ?_
          refine j_istore X [(4, .int r_12), (3, .int x6), (2, .int x5), (7, .int r_12), (0, .ref (w.1 0)), (1, .int x1), (5, .int x5), (6, .int x6)] dX8_best_123 (by decide) rfl ?_
          refine j_pick [4, 5, 2, 1, 0, 6, 7] rfl ?_
          exact Hv_10 (x5, x6, r_12) h
        · have h := bi_f c_13 h
          refine j_iload X dX8_best_108 0 rfl ?_
          refine j_iload X dX8_best_110 5 rfl ?_
          refine j_icmp_ge X 125 dX8_best_112 (by decide) (fun c_14 => ?_) (fun c_14 => ?_)
          · have h := bi_t c_14 h
            refine j_pick [1, 2, 3, 4, 5, 6, 7] rfl ?_
            exact Hv_10 (x2, x3, x4) h
          · have h := bi_f c_14 h
            refine j_iload X dX8_best_115 6 rfl ?_
            refine j_istore_n X [(2, .int x5), (7, .int r_12), (0, .ref (w.1 0)), (1, .int x1), (3, .int x3), (4, .int x4), (5, .int x5), (6, .int x6)] dX8_best_117 rfl (by decide) rfl ?_
            refine j_iload X dX8_best_118 7 rfl ?_
            refine j_istore_n X [(3, .int x6), (2, .int x5), (7, .int r_12), (0, .ref (w.1 0)), (1, .int x1), (4, .int x4), (5, .int x5), (6, .int x6)] dX8_best_120 rfl (by decide) rfl ?_
            refine j_iload X dX8_best_121 2 rfl ?_
            refine j_istore X [(4, .int r_12), (3, .int x6), (2, .int x5), (7, .int r_12), (0, .ref (w.1 0)), (1, .int x1), (5, .int x5), (6, .int x6)] dX8_best_123 (by decide) rfl ?_
            refine j_pick [4, 5, 2, 1, 0, 6, 7] rfl ?_
            exact Hv_10 (x5, x6, r_12) h
      · have h := bi_f c_11 h
        refine j_goto X 125 dX8_best_85 (by decide) ?_
        refine j_pick [0, 1, 2, 3, 4, 5, 6] rfl ?_
        exact Hv_10 (x2, x3, x4) h
set_option maxRecDepth 100000 in
set_option maxHeartbeats 4000000 in
theorem jL_X8_best_35 {p : Program} {l : Launch} {e : Env} {s : State} {m : MethodId} {args : Array Value} {below : List Frame} {meth : Method} {c : Code} {w : WP} (X : fw_X p s m args c cX8_best 8 RX8 w) (hr : meth.sig.returnType = (some .int)) (hk : meth.locks = false) {x1 : Int32} {G : Mem} {res : Int32 × Mem} {K : Int32 × Int32 × Int32 → Option (Int32 × Mem)} (HK : ∀ v : Int32 × Int32 × Int32, K v = some res → J p l e rm_X8_best s m args below meth c (Qint below args s w res) w 8 G 137 [(1, .int x1), (2, .int v.1), (3, .int v.2.1), (4, .int v.2.2)] []) : ∀ (n : Nat) (x2 : Int32) (x3 : Int32) (x4 : Int32) (x5 : Int32), (L_X8_best_35 G n x2 x3 x4 x5).bind K = some res → J p l e rm_X8_best s m args below meth c (Qint below args s w res) w 8 G 35 [(0, .ref (w.1 0)), (1, .int x1), (2, .int x2), (3, .int x3), (4, .int x4), (5, .int x5)] [] := by
  intro n
  induction n with
  | zero =>
    intro x2 x3 x4 x5 h
    rw [L_X8_best_35] at h
    cases h
  | succ n ih =>
    intro x2 x3 x4 x5 h
    rw [L_X8_best_35] at h
    refine j_iload X dX8_best_35 5 rfl ?_
    refine j_aload_n X dX8_best_37 rfl 0 rfl ?_
    refine j_getR (C := RX8) (T := TX8) (N := 9) X 0 s_0 rfl hin_X8 0 (by decide) 1 rfl q_247 dX8_best_38 ?_
    obtain ⟨r_5, hr_5, h⟩ := bd_s h
    refine j_callVi (As := []) X 1 s_1 rfl (c_X6_clauses l w G 1 (Or.inl rfl)  hr_5) rfl pn_X6_clauses q_492 q_323 q_324 q_60 q_325 ⟨Nat.le_of_ble_eq_true rfl, Nat.le_of_ble_eq_true rfl⟩ (Nat.le_of_ble_eq_true rfl) rfl dX8_best_41 ?_
    refine j_icmp_ge X 137 dX8_best_44 (by decide) (fun c_6 => ?_) (fun c_6 => ?_)
    · have h := bi_t c_6 h
      refine j_pick [1, 2, 3, 4] rfl ?_
      exact HK (x2, x3, x4) h
    · have h := bi_f c_6 h
      refine j_iload X dX8_best_47 5 rfl ?_
      refine j_iconst (v := 1) X dX8_best_49 (by decide) ?_
      refine j_iadd X dX8_best_50 ?_
      refine j_istore X [(6, .int (x5 + 1)), (0, .ref (w.1 0)), (1, .int x1), (2, .int x2), (3, .int x3), (4, .int x4), (5, .int x5)] dX8_best_51 (by decide) rfl ?_
      have h := bb_a h
      have Hv_15 : ∀ v_15 : Int32 × Int32 × Int32, (L_X8_best_35 G n v_15.1 v_15.2.1 v_15.2.2 (x5 + 1)).bind K = some res → J p l e rm_X8_best s m args below meth c (Qint below args s w res) w 8 G 131 [(0, .ref (w.1 0)), (1, .int x1), (2, .int v_15.1), (3, .int v_15.2.1), (4, .int v_15.2.2), (5, .int x5)] [] := by
        intro v_15 h
        refine j_iinc (v := x5 + 1) X [(5, .int (x5 + 1)), (0, .ref (w.1 0)), (1, .int x1), (2, .int v_15.1), (3, .int v_15.2.1), (4, .int v_15.2.2)] dX8_best_131 5 rfl rfl (by decide) rfl ?_
        refine j_goto X 35 dX8_best_134 (by decide) ?_
        refine j_pick [1, 2, 3, 4, 5, 0] rfl ?_
        exact ih v_15.1 v_15.2.1 v_15.2.2 (x5 + 1) h
      refine j_pick [1, 2, 3, 4, 5, 6, 0] rfl ?_
      exact jL_X8_best_53 X hr hk Hv_15 NF x2 x3 x4 (x5 + 1) h
set_option maxRecDepth 100000 in
set_option maxHeartbeats 4000000 in
theorem c_X8_best (l : Launch) (w : WP) (G : Mem) (p1 : Int32) {res : Int32 × Mem} (h0 : m_X8_best G p1 = some res) : CMi l yX8_best cX8_best 8 (some .int) 6 135 w [.ref (w.1 0), .int p1] G res := by
  refine CMi.of (by decide +kernel) (Nat.le_of_ble_eq_true rfl) ?_
  intro p e s m args below meth c X hr hk
  have h := bs_i h0
  unfold m_X8_best at h
  show J p l e rm_X8_best s m args below meth c (Qint below args s w res) w 8 G 0 [(0, .ref (w.1 0)), (1, .int p1)] []
  refine j_iload_n X dX8_best_0 rfl 1 rfl ?_
  refine j_if_lt X 9 dX8_best_1 (by decide) (fun c_1 => ?_) (fun c_1 => ?_)
  · have h := bi_t c_1 h
    refine j_iconst (v := (-1)) X dX8_best_9 (by decide) ?_
    exact j_iret X hr hk dX8_best_10 (Option.some.inj h)
  · have h := bi_f c_1 h
    refine j_iload_n X dX8_best_4 rfl 1 rfl ?_
    refine j_iconst (v := 2) X dX8_best_5 (by decide) ?_
    refine j_icmp_le X 11 dX8_best_6 (by decide) (fun c_2 => ?_) (fun c_2 => ?_)
    · have h := bi_t c_2 h
      refine j_aload_n X dX8_best_11 rfl 0 rfl ?_
      obtain ⟨q_3, hq_3, h⟩ := bd_s h
      refine j_callVv (As := []) X 0 s_0 rfl (c_X8_tallyAll l w G   hq_3) rfl pn_X8_tallyAll q_733 q_735 q_23 q_59 q_736 ⟨Nat.le_of_ble_eq_true rfl, Nat.le_of_ble_eq_true rfl⟩ (Nat.le_of_ble_eq_true rfl) rfl dX8_best_12 ?_
      refine j_aload_n X dX8_best_15 rfl 0 rfl ?_
      refine j_getR (C := RX8) (T := TX8) (N := 9) X 0 s_0 rfl hin_X8 8 (by decide) 66 rfl q_255 dX8_best_16 ?_
      obtain ⟨q_4, hq_4, h⟩ := bd_s h
      refine j_callVv (As := []) X 66 s_66 rfl (c_X5_compare l w q_3   hq_4) rfl pn_X5_compare q_777 q_778 q_779 q_67 q_780 ⟨Nat.le_of_ble_eq_true rfl, Nat.le_of_ble_eq_true rfl⟩ (Nat.le_of_ble_eq_true rfl) rfl dX8_best_19 ?_
      refine j_bipush (v := (-9)) X dX8_best_22 (by decide) ?_
      refine j_istore_n X [(2, .int (-9)), (0, .ref (w.1 0)), (1, .int p1)] dX8_best_24 rfl (by decide) rfl ?_
      refine j_bipush (v := (-9)) X dX8_best_25 (by decide) ?_
      refine j_istore_n X [(3, .int (-9)), (2, .int (-9)), (0, .ref (w.1 0)), (1, .int p1)] dX8_best_27 rfl (by decide) rfl ?_
      refine j_bipush (v := (-9)) X dX8_best_28 (by decide) ?_
      refine j_istore X [(4, .int (-9)), (3, .int (-9)), (2, .int (-9)), (0, .ref (w.1 0)), (1, .int p1)] dX8_best_30 (by decide) rfl ?_
      refine j_iconst (v := 0) X dX8_best_32 (by decide) ?_
      refine j_istore X [(5, .int 0), (4, .int (-9)), (3, .int (-9)), (2, .int (-9)), (0, .ref (w.1 0)), (1, .int p1)] dX8_best_33 (by decide) rfl ?_
      have h := bb_a h
      have Hv_16 : ∀ v_16 : Int32 × Int32 × Int32, ((if p1 = 0 then some (v_16.1, q_4) else (if p1 = 1 then some (v_16.2.1, q_4) else some (v_16.2.2, q_4)))).bind some = some res → J p l e rm_X8_best s m args below meth c (Qint below args s w res) w 8 q_4 137 [(1, .int p1), (2, .int v_16.1), (3, .int v_16.2.1), (4, .int v_16.2.2)] [] := by
        intro v_16 h
        refine j_iload_n X dX8_best_137 rfl 0 rfl ?_
        refine j_if_ne X 143 dX8_best_138 (by decide) (fun c_17 => ?_) (fun c_17 => ?_)
        · have h := bi_f c_17 h
          refine j_iload_n X dX8_best_143 rfl 0 rfl ?_
          refine j_iconst (v := 1) X dX8_best_144 (by decide) ?_
          refine j_icmp_ne X 152 dX8_best_145 (by decide) (fun c_18 => ?_) (fun c_18 => ?_)
          · have h := bi_f c_18 h
            refine j_iload X dX8_best_152 3 rfl ?_
            exact j_iret X hr hk dX8_best_154 (Option.some.inj h)
          · have h := bi_t c_18 h
            refine j_iload_n X dX8_best_148 rfl 2 rfl ?_
            refine j_goto X 154 dX8_best_149 (by decide) ?_
            exact j_iret X hr hk dX8_best_154 (Option.some.inj h)
        · have h := bi_t c_17 h
          refine j_iload_n X dX8_best_141 rfl 1 rfl ?_
          exact j_iret X hr hk dX8_best_142 (Option.some.inj h)
      refine j_pick [4, 5, 3, 2, 1, 0] rfl ?_
      exact jL_X8_best_35 X hr hk Hv_16 NF (-9) (-9) (-9) 0 h
    · have h := bi_f c_2 h
      refine j_iconst (v := (-1)) X dX8_best_9 (by decide) ?_
      exact j_iret X hr hk dX8_best_10 (Option.some.inj h)
abbrev rm_X8_isTime : Room := { frames := 1, cells := 0, slots := 0, locals := 20 }
theorem pn_X8_isTime : yX8_isTime.cls ≠ "java/lang/invoke/MethodHandle" ∧ yX8_isTime.cls ≠ "java/lang/invoke/VarHandle" ∧ (parseMethodDescriptor yX8_isTime.desc).map (fun d => d.parameters.length) = some 1 := by decide +kernel
def m_X8_isTime (G : Mem) (p1 : Int32) : Option (Int32) := (if p1 < 0 then some 0 else (m_X6_clauses G 1).bind (fun r_2 => (if (2 * r_2) < p1 then some 0 else some 1)))
set_option maxRecDepth 100000 in
set_option maxHeartbeats 4000000 in
theorem c_X8_isTime (l : Launch) (w : WP) (G : Mem) (p1 : Int32) {res : Int32} (h0 : m_X8_isTime G p1 = some res) : CMi l yX8_isTime cX8_isTime 2 (some .boolean) 1 20 w [.ref (w.1 0), .int p1] G (res, G) := by
  refine CMi.of (by decide +kernel) (Nat.le_of_ble_eq_true rfl) ?_
  intro p e s m args below meth c X hr hk
  have h := bs_i h0
  unfold m_X8_isTime at h
  show J p l e rm_X8_isTime s m args below meth c (Qint below args s w (res, G)) w 2 G 0 [(0, .ref (w.1 0)), (1, .int p1)] []
  refine j_iload_n X dX8_isTime_0 rfl 1 rfl ?_
  refine j_if_lt X 21 dX8_isTime_1 (by decide) (fun c_1 => ?_) (fun c_1 => ?_)
  · have h := bi_t c_1 h
    refine j_iconst (v := 0) X dX8_isTime_21 (by decide) ?_
    exact j_zret X hr hk (by decide) dX8_isTime_22 (congrArg (fun z => (z, G)) (Option.some.inj h))
  · have h := bi_f c_1 h
    refine j_iload_n X dX8_isTime_4 rfl 1 rfl ?_
    refine j_iconst (v := 2) X dX8_isTime_5 (by decide) ?_
    refine j_aload_n X dX8_isTime_6 rfl 0 rfl ?_
    refine j_getR (C := RX8) (T := TX8) (N := 9) X 0 s_0 rfl hin_X8 0 (by decide) 1 rfl q_247 dX8_isTime_7 ?_
    obtain ⟨r_2, hr_2, h⟩ := bd_s h
    refine j_callVi (As := []) X 1 s_1 rfl (c_X6_clauses l w G 1 (Or.inl rfl)  hr_2) rfl pn_X6_clauses q_492 q_323 q_324 q_60 q_325 ⟨Nat.le_of_ble_eq_true rfl, Nat.le_of_ble_eq_true rfl⟩ (Nat.le_of_ble_eq_true rfl) rfl dX8_isTime_10 ?_
    refine j_imul X dX8_isTime_13 ?_
    refine j_icmp_gt X 21 dX8_isTime_14 (by decide) (fun c_3 => ?_) (fun c_3 => ?_)
    · have h := bi_t c_3 h
      refine j_iconst (v := 0) X dX8_isTime_21 (by decide) ?_
      exact j_zret X hr hk (by decide) dX8_isTime_22 (congrArg (fun z => (z, G)) (Option.some.inj h))
    · have h := bi_f c_3 h
      refine j_iconst (v := 1) X dX8_isTime_17 (by decide) ?_
      refine j_goto X 22 dX8_isTime_18 (by decide) ?_
      exact j_zret X hr hk (by decide) dX8_isTime_22 (congrArg (fun z => (z, G)) (Option.some.inj h))
abbrev rm_X8_isNowOrEvent : Room := { frames := 2, cells := 0, slots := 0, locals := 41 }
theorem pn_X8_isNowOrEvent : yX8_isNowOrEvent.cls ≠ "java/lang/invoke/MethodHandle" ∧ yX8_isNowOrEvent.cls ≠ "java/lang/invoke/VarHandle" ∧ (parseMethodDescriptor yX8_isNowOrEvent.desc).map (fun d => d.parameters.length) = some 1 := by decide +kernel
def m_X8_isNowOrEvent (G : Mem) (p1 : Int32) : Option (Int32) := (m_X8_isTime G p1).bind (fun r_1 => (if r_1 = 0 then some 0 else (if (p1 - p1 / 2 * 2) = 0 then some 1 else some 0)))
set_option maxRecDepth 100000 in
set_option maxHeartbeats 4000000 in
theorem c_X8_isNowOrEvent (l : Launch) (w : WP) (G : Mem) (p1 : Int32) {res : Int32} (h0 : m_X8_isNowOrEvent G p1 = some res) : CMi l yX8_isNowOrEvent cX8_isNowOrEvent 2 (some .boolean) 2 41 w [.ref (w.1 0), .int p1] G (res, G) := by
  refine CMi.of (by decide +kernel) (Nat.le_of_ble_eq_true rfl) ?_
  intro p e s m args below meth c X hr hk
  have h := bs_i h0
  unfold m_X8_isNowOrEvent at h
  show J p l e rm_X8_isNowOrEvent s m args below meth c (Qint below args s w (res, G)) w 2 G 0 [(0, .ref (w.1 0)), (1, .int p1)] []
  refine j_aload_n X dX8_isNowOrEvent_0 rfl 0 rfl ?_
  refine j_iload_n X dX8_isNowOrEvent_1 rfl 1 rfl ?_
  obtain ⟨r_1, hr_1, h⟩ := bd_s h
  refine j_callVi (As := [.int p1]) X 0 s_0 rfl (c_X8_isTime l w G  p1 hr_1) rfl pn_X8_isTime q_550 q_552 q_14 q_59 q_553 ⟨Nat.le_of_ble_eq_true rfl, Nat.le_of_ble_eq_true rfl⟩ (Nat.le_of_ble_eq_true rfl) rfl dX8_isNowOrEvent_2 ?_
  refine j_if_eq X 18 dX8_isNowOrEvent_5 (by decide) (fun c_2 => ?_) (fun c_2 => ?_)
  · have h := bi_t c_2 h
    refine j_iconst (v := 0) X dX8_isNowOrEvent_18 (by decide) ?_
    exact j_zret X hr hk (by decide) dX8_isNowOrEvent_19 (congrArg (fun z => (z, G)) (Option.some.inj h))
  · have h := bi_f c_2 h
    refine j_iload_n X dX8_isNowOrEvent_8 rfl 1 rfl ?_
    refine j_iconst (v := 2) X dX8_isNowOrEvent_9 (by decide) ?_
    refine j_irem X dX8_isNowOrEvent_10 (by decide) ?_
    refine j_if_ne X 18 dX8_isNowOrEvent_11 (by decide) (fun c_3 => ?_) (fun c_3 => ?_)
    · have h := bi_f c_3 h
      refine j_iconst (v := 0) X dX8_isNowOrEvent_18 (by decide) ?_
      exact j_zret X hr hk (by decide) dX8_isNowOrEvent_19 (congrArg (fun z => (z, G)) (Option.some.inj h))
    · have h := bi_t c_3 h
      refine j_iconst (v := 1) X dX8_isNowOrEvent_14 (by decide) ?_
      refine j_goto X 19 dX8_isNowOrEvent_15 (by decide) ?_
      exact j_zret X hr hk (by decide) dX8_isNowOrEvent_19 (congrArg (fun z => (z, G)) (Option.some.inj h))
abbrev rm_X8_canBeSaid : Room := { frames := 3, cells := 0, slots := 0, locals := 62 }
theorem pn_X8_canBeSaid : yX8_canBeSaid.cls ≠ "java/lang/invoke/MethodHandle" ∧ yX8_canBeSaid.cls ≠ "java/lang/invoke/VarHandle" ∧ (parseMethodDescriptor yX8_canBeSaid.desc).map (fun d => d.parameters.length) = some 3 := by decide +kernel
def m_X8_canBeSaid (G : Mem) (p1 : Int32) (p2 : Int32) (p3 : Int32) : Option (Int32) := (m_X8_isNowOrEvent G p1).bind (fun r_1 => (if r_1 = 0 then some 0 else (m_X8_isNowOrEvent G p3).bind (fun r_3 => (if r_3 = 0 then some 0 else (if p1 = p3 then some 0 else (if p2 < 0 then some 0 else (if 2 ≤ p2 then some 0 else some 1)))))))
set_option maxRecDepth 100000 in
set_option maxHeartbeats 4000000 in
theorem c_X8_canBeSaid (l : Launch) (w : WP) (G : Mem) (p1 : Int32) (p2 : Int32) (p3 : Int32) {res : Int32} (h0 : m_X8_canBeSaid G p1 p2 p3 = some res) : CMi l yX8_canBeSaid cX8_canBeSaid 4 (some .boolean) 3 62 w [.ref (w.1 0), .int p1, .int p2, .int p3] G (res, G) := by
  refine CMi.of (by decide +kernel) (Nat.le_of_ble_eq_true rfl) ?_
  intro p e s m args below meth c X hr hk
  have h := bs_i h0
  unfold m_X8_canBeSaid at h
  show J p l e rm_X8_canBeSaid s m args below meth c (Qint below args s w (res, G)) w 4 G 0 [(0, .ref (w.1 0)), (1, .int p1), (2, .int p2), (3, .int p3)] []
  refine j_aload_n X dX8_canBeSaid_0 rfl 0 rfl ?_
  refine j_iload_n X dX8_canBeSaid_1 rfl 1 rfl ?_
  obtain ⟨r_1, hr_1, h⟩ := bd_s h
  refine j_callVi (As := [.int p1]) X 0 s_0 rfl (c_X8_isNowOrEvent l w G  p1 hr_1) rfl pn_X8_isNowOrEvent q_546 q_548 q_13 q_59 q_549 ⟨Nat.le_of_ble_eq_true rfl, Nat.le_of_ble_eq_true rfl⟩ (Nat.le_of_ble_eq_true rfl) rfl dX8_canBeSaid_2 ?_
  refine j_if_eq X 34 dX8_canBeSaid_5 (by decide) (fun c_2 => ?_) (fun c_2 => ?_)
  · have h := bi_t c_2 h
    refine j_iconst (v := 0) X dX8_canBeSaid_34 (by decide) ?_
    exact j_zret X hr hk (by decide) dX8_canBeSaid_35 (congrArg (fun z => (z, G)) (Option.some.inj h))
  · have h := bi_f c_2 h
    refine j_aload_n X dX8_canBeSaid_8 rfl 0 rfl ?_
    refine j_iload_n X dX8_canBeSaid_9 rfl 3 rfl ?_
    obtain ⟨r_3, hr_3, h⟩ := bd_s h
    refine j_callVi (As := [.int p3]) X 0 s_0 rfl (c_X8_isNowOrEvent l w G  p3 hr_3) rfl pn_X8_isNowOrEvent q_546 q_548 q_13 q_59 q_549 ⟨Nat.le_of_ble_eq_true rfl, Nat.le_of_ble_eq_true rfl⟩ (Nat.le_of_ble_eq_true rfl) rfl dX8_canBeSaid_10 ?_
    refine j_if_eq X 34 dX8_canBeSaid_13 (by decide) (fun c_4 => ?_) (fun c_4 => ?_)
    · have h := bi_t c_4 h
      refine j_iconst (v := 0) X dX8_canBeSaid_34 (by decide) ?_
      exact j_zret X hr hk (by decide) dX8_canBeSaid_35 (congrArg (fun z => (z, G)) (Option.some.inj h))
    · have h := bi_f c_4 h
      refine j_iload_n X dX8_canBeSaid_16 rfl 1 rfl ?_
      refine j_iload_n X dX8_canBeSaid_17 rfl 3 rfl ?_
      refine j_icmp_eq X 34 dX8_canBeSaid_18 (by decide) (fun c_5 => ?_) (fun c_5 => ?_)
      · have h := bi_t c_5 h
        refine j_iconst (v := 0) X dX8_canBeSaid_34 (by decide) ?_
        exact j_zret X hr hk (by decide) dX8_canBeSaid_35 (congrArg (fun z => (z, G)) (Option.some.inj h))
      · have h := bi_f c_5 h
        refine j_iload_n X dX8_canBeSaid_21 rfl 2 rfl ?_
        refine j_if_lt X 34 dX8_canBeSaid_22 (by decide) (fun c_6 => ?_) (fun c_6 => ?_)
        · have h := bi_t c_6 h
          refine j_iconst (v := 0) X dX8_canBeSaid_34 (by decide) ?_
          exact j_zret X hr hk (by decide) dX8_canBeSaid_35 (congrArg (fun z => (z, G)) (Option.some.inj h))
        · have h := bi_f c_6 h
          refine j_iload_n X dX8_canBeSaid_25 rfl 2 rfl ?_
          refine j_iconst (v := 2) X dX8_canBeSaid_26 (by decide) ?_
          refine j_icmp_ge X 34 dX8_canBeSaid_27 (by decide) (fun c_7 => ?_) (fun c_7 => ?_)
          · have h := bi_t c_7 h
            refine j_iconst (v := 0) X dX8_canBeSaid_34 (by decide) ?_
            exact j_zret X hr hk (by decide) dX8_canBeSaid_35 (congrArg (fun z => (z, G)) (Option.some.inj h))
          · have h := bi_f c_7 h
            refine j_iconst (v := 1) X dX8_canBeSaid_30 (by decide) ?_
            refine j_goto X 35 dX8_canBeSaid_31 (by decide) ?_
            exact j_zret X hr hk (by decide) dX8_canBeSaid_35 (congrArg (fun z => (z, G)) (Option.some.inj h))
abbrev rm_X8_clash : Room := { frames := 6, cells := 0, slots := 0, locals := 143 }
theorem pn_X8_clash : yX8_clash.cls ≠ "java/lang/invoke/MethodHandle" ∧ yX8_clash.cls ≠ "java/lang/invoke/VarHandle" ∧ (parseMethodDescriptor yX8_clash.desc).map (fun d => d.parameters.length) = some 1 := by decide +kernel
def m_X8_clash (G : Mem) (p1 : Int32) : Option (Int32 × Mem) := (if p1 < 0 then some ((-1), G) else (if p1 ≤ 1 then (m_X3_fewest G).bind (fun q_3 => (if q_3.1 = 0 then some ((-9), q_3.2) else (if p1 = 0 then some (q_3.1, q_3.2) else some (m_J6_bitCount_0f7a4 q_3.1, q_3.2)))) else some ((-1), G)))
set_option maxRecDepth 100000 in
set_option maxHeartbeats 4000000 in
theorem c_X8_clash (l : Launch) (w : WP) (G : Mem) (p1 : Int32) {res : Int32 × Mem} (h0 : m_X8_clash G p1 = some res) : CMi l yX8_clash cX8_clash 3 (some .int) 6 143 w [.ref (w.1 0), .int p1] G res := by
  refine CMi.of (by decide +kernel) (Nat.le_of_ble_eq_true rfl) ?_
  intro p e s m args below meth c X hr hk
  have h := bs_i h0
  unfold m_X8_clash at h
  show J p l e rm_X8_clash s m args below meth c (Qint below args s w res) w 3 G 0 [(0, .ref (w.1 0)), (1, .int p1)] []
  refine j_iload_n X dX8_clash_0 rfl 1 rfl ?_
  refine j_if_lt X 9 dX8_clash_1 (by decide) (fun c_1 => ?_) (fun c_1 => ?_)
  · have h := bi_t c_1 h
    refine j_iconst (v := (-1)) X dX8_clash_9 (by decide) ?_
    exact j_iret X hr hk dX8_clash_10 (Option.some.inj h)
  · have h := bi_f c_1 h
    refine j_iload_n X dX8_clash_4 rfl 1 rfl ?_
    refine j_iconst (v := 1) X dX8_clash_5 (by decide) ?_
    refine j_icmp_le X 11 dX8_clash_6 (by decide) (fun c_2 => ?_) (fun c_2 => ?_)
    · have h := bi_t c_2 h
      refine j_aload_n X dX8_clash_11 rfl 0 rfl ?_
      refine j_getR (C := RX8) (T := TX8) (N := 9) X 0 s_0 rfl hin_X8 7 (by decide) 30 rfl q_254 dX8_clash_12 ?_
      refine j_aload_n X dX8_clash_15 rfl 0 rfl ?_
      refine j_getR (C := RX8) (T := TX8) (N := 9) X 0 s_0 rfl hin_X8 0 (by decide) 1 rfl q_247 dX8_clash_16 ?_
      obtain ⟨q_3, hq_3, h⟩ := bd_s h
      refine j_callVi (As := [.ref (w.1 1)]) X 30 s_30 rfl (c_X3_fewest l w G   hq_3) rfl pn_X3_fewest q_659 q_660 q_661 q_66 q_662 ⟨Nat.le_of_ble_eq_true rfl, Nat.le_of_ble_eq_true rfl⟩ (Nat.le_of_ble_eq_true rfl) rfl dX8_clash_19 ?_
      refine j_istore_n X [(2, .int q_3.1), (0, .ref (w.1 0)), (1, .int p1)] dX8_clash_22 rfl (by decide) rfl ?_
      refine j_iload_n X dX8_clash_23 rfl 0 rfl ?_
      refine j_if_ne X 30 dX8_clash_24 (by decide) (fun c_4 => ?_) (fun c_4 => ?_)
      · have h := bi_f c_4 h
        refine j_iload_n X dX8_clash_30 rfl 2 rfl ?_
        refine j_if_ne X 38 dX8_clash_31 (by decide) (fun c_5 => ?_) (fun c_5 => ?_)
        · have h := bi_f c_5 h
          refine j_iload_n X dX8_clash_38 rfl 0 rfl ?_
          refine j_callSi (As := [.int q_3.1]) X (c_J6_bitCount_0f7a4 l w q_3.2  q_3.1) pn_J6_bitCount_0f7a4 q_693 q_694 q_75 q_695 ⟨Nat.le_of_ble_eq_true rfl, Nat.le_of_ble_eq_true rfl⟩ (Nat.le_of_ble_eq_true rfl) rfl dX8_clash_39 ?_
          exact j_iret X hr hk dX8_clash_42 (Option.some.inj h)
        · have h := bi_t c_5 h
          refine j_iload_n X dX8_clash_34 rfl 0 rfl ?_
          refine j_goto X 42 dX8_clash_35 (by decide) ?_
          exact j_iret X hr hk dX8_clash_42 (Option.some.inj h)
      · have h := bi_t c_4 h
        refine j_bipush (v := (-9)) X dX8_clash_27 (by decide) ?_
        exact j_iret X hr hk dX8_clash_29 (Option.some.inj h)
    · have h := bi_f c_2 h
      refine j_iconst (v := (-1)) X dX8_clash_9 (by decide) ?_
      exact j_iret X hr hk dX8_clash_10 (Option.some.inj h)
abbrev rm_X8_isClause : Room := { frames := 1, cells := 0, slots := 0, locals := 20 }
theorem pn_X8_isClause : yX8_isClause.cls ≠ "java/lang/invoke/MethodHandle" ∧ yX8_isClause.cls ≠ "java/lang/invoke/VarHandle" ∧ (parseMethodDescriptor yX8_isClause.desc).map (fun d => d.parameters.length) = some 1 := by decide +kernel
def m_X8_isClause (G : Mem) (p1 : Int32) : Option (Int32) := (if p1 < 0 then some 0 else (m_X6_clauses G 1).bind (fun r_2 => (if r_2 ≤ p1 then some 0 else some 1)))
set_option maxRecDepth 100000 in
set_option maxHeartbeats 4000000 in
theorem c_X8_isClause (l : Launch) (w : WP) (G : Mem) (p1 : Int32) {res : Int32} (h0 : m_X8_isClause G p1 = some res) : CMi l yX8_isClause cX8_isClause 2 (some .boolean) 1 20 w [.ref (w.1 0), .int p1] G (res, G) := by
  refine CMi.of (by decide +kernel) (Nat.le_of_ble_eq_true rfl) ?_
  intro p e s m args below meth c X hr hk
  have h := bs_i h0
  unfold m_X8_isClause at h
  show J p l e rm_X8_isClause s m args below meth c (Qint below args s w (res, G)) w 2 G 0 [(0, .ref (w.1 0)), (1, .int p1)] []
  refine j_iload_n X dX8_isClause_0 rfl 1 rfl ?_
  refine j_if_lt X 19 dX8_isClause_1 (by decide) (fun c_1 => ?_) (fun c_1 => ?_)
  · have h := bi_t c_1 h
    refine j_iconst (v := 0) X dX8_isClause_19 (by decide) ?_
    exact j_zret X hr hk (by decide) dX8_isClause_20 (congrArg (fun z => (z, G)) (Option.some.inj h))
  · have h := bi_f c_1 h
    refine j_iload_n X dX8_isClause_4 rfl 1 rfl ?_
    refine j_aload_n X dX8_isClause_5 rfl 0 rfl ?_
    refine j_getR (C := RX8) (T := TX8) (N := 9) X 0 s_0 rfl hin_X8 0 (by decide) 1 rfl q_247 dX8_isClause_6 ?_
    obtain ⟨r_2, hr_2, h⟩ := bd_s h
    refine j_callVi (As := []) X 1 s_1 rfl (c_X6_clauses l w G 1 (Or.inl rfl)  hr_2) rfl pn_X6_clauses q_492 q_323 q_324 q_60 q_325 ⟨Nat.le_of_ble_eq_true rfl, Nat.le_of_ble_eq_true rfl⟩ (Nat.le_of_ble_eq_true rfl) rfl dX8_isClause_9 ?_
    refine j_icmp_ge X 19 dX8_isClause_12 (by decide) (fun c_3 => ?_) (fun c_3 => ?_)
    · have h := bi_t c_3 h
      refine j_iconst (v := 0) X dX8_isClause_19 (by decide) ?_
      exact j_zret X hr hk (by decide) dX8_isClause_20 (congrArg (fun z => (z, G)) (Option.some.inj h))
    · have h := bi_f c_3 h
      refine j_iconst (v := 1) X dX8_isClause_15 (by decide) ?_
      refine j_goto X 20 dX8_isClause_16 (by decide) ?_
      exact j_zret X hr hk (by decide) dX8_isClause_20 (congrArg (fun z => (z, G)) (Option.some.inj h))
abbrev rm_X8_clause : Room := { frames := 3, cells := 0, slots := 0, locals := 65 }
theorem pn_X8_clause : yX8_clause.cls ≠ "java/lang/invoke/MethodHandle" ∧ yX8_clause.cls ≠ "java/lang/invoke/VarHandle" ∧ (parseMethodDescriptor yX8_clause.desc).map (fun d => d.parameters.length) = some 2 := by decide +kernel
def m_X8_clause (G : Mem) (p1 : Int32) (p2 : Int32) : Option (Int32) := (m_X8_isClause G p1).bind (fun r_1 => (if r_1 = 0 then some (-1) else (if p2 < 0 then some (-1) else (if p2 ≤ 2 then (if p2 = 0 then (m_X6_tenseOf G 1 p1).bind (fun r_9 => some r_9) else (if p2 = 1 then (m_X6_linkOf G 1 p1).bind (fun r_8 => some r_8) else (m_X6_placeOf G 1 p1).bind (fun r_7 => some r_7))) else some (-1)))))
set_option maxRecDepth 100000 in
set_option maxHeartbeats 4000000 in
theorem c_X8_clause (l : Launch) (w : WP) (G : Mem) (p1 : Int32) (p2 : Int32) {res : Int32} (h0 : m_X8_clause G p1 p2 = some res) : CMi l yX8_clause cX8_clause 3 (some .int) 3 65 w [.ref (w.1 0), .int p1, .int p2] G (res, G) := by
  refine CMi.of (by decide +kernel) (Nat.le_of_ble_eq_true rfl) ?_
  intro p e s m args below meth c X hr hk
  have h := bs_i h0
  unfold m_X8_clause at h
  show J p l e rm_X8_clause s m args below meth c (Qint below args s w (res, G)) w 3 G 0 [(0, .ref (w.1 0)), (1, .int p1), (2, .int p2)] []
  refine j_aload_n X dX8_clause_0 rfl 0 rfl ?_
  refine j_iload_n X dX8_clause_1 rfl 1 rfl ?_
  obtain ⟨r_1, hr_1, h⟩ := bd_s h
  refine j_callVi (As := [.int p1]) X 0 s_0 rfl (c_X8_isClause l w G  p1 hr_1) rfl pn_X8_isClause q_488 q_490 q_8 q_59 q_491 ⟨Nat.le_of_ble_eq_true rfl, Nat.le_of_ble_eq_true rfl⟩ (Nat.le_of_ble_eq_true rfl) rfl dX8_clause_2 ?_
  refine j_if_eq X 17 dX8_clause_5 (by decide) (fun c_2 => ?_) (fun c_2 => ?_)
  · have h := bi_t c_2 h
    refine j_iconst (v := (-1)) X dX8_clause_17 (by decide) ?_
    exact j_iret X hr hk dX8_clause_18 (congrArg (fun z => (z, G)) (Option.some.inj h))
  · have h := bi_f c_2 h
    refine j_iload_n X dX8_clause_8 rfl 2 rfl ?_
    refine j_if_lt X 17 dX8_clause_9 (by decide) (fun c_3 => ?_) (fun c_3 => ?_)
    · have h := bi_t c_3 h
      refine j_iconst (v := (-1)) X dX8_clause_17 (by decide) ?_
      exact j_iret X hr hk dX8_clause_18 (congrArg (fun z => (z, G)) (Option.some.inj h))
    · have h := bi_f c_3 h
      refine j_iload_n X dX8_clause_12 rfl 2 rfl ?_
      refine j_iconst (v := 2) X dX8_clause_13 (by decide) ?_
      refine j_icmp_le X 19 dX8_clause_14 (by decide) (fun c_4 => ?_) (fun c_4 => ?_)
      · have h := bi_t c_4 h
        refine j_iload_n X dX8_clause_19 rfl 2 rfl ?_
        refine j_if_ne X 32 dX8_clause_20 (by decide) (fun c_5 => ?_) (fun c_5 => ?_)
        · have h := bi_f c_5 h
          refine j_iload_n X dX8_clause_32 rfl 2 rfl ?_
          refine j_iconst (v := 1) X dX8_clause_33 (by decide) ?_
          refine j_icmp_ne X 48 dX8_clause_34 (by decide) (fun c_6 => ?_) (fun c_6 => ?_)
          · have h := bi_f c_6 h
            refine j_aload_n X dX8_clause_48 rfl 0 rfl ?_
            refine j_getR (C := RX8) (T := TX8) (N := 9) X 0 s_0 rfl hin_X8 0 (by decide) 1 rfl q_247 dX8_clause_49 ?_
            refine j_iload_n X dX8_clause_52 rfl 1 rfl ?_
            obtain ⟨r_7, hr_7, h⟩ := bd_s h
            refine j_callVi (As := [.int p1]) X 1 s_1 rfl (c_X6_placeOf l w G 1 (Or.inl rfl) p1 hr_7) rfl pn_X6_placeOf q_505 q_506 q_507 q_60 q_508 ⟨Nat.le_of_ble_eq_true rfl, Nat.le_of_ble_eq_true rfl⟩ (Nat.le_of_ble_eq_true rfl) rfl dX8_clause_53 ?_
            exact j_iret X hr hk dX8_clause_56 (congrArg (fun z => (z, G)) (Option.some.inj h))
          · have h := bi_t c_6 h
            refine j_aload_n X dX8_clause_37 rfl 0 rfl ?_
            refine j_getR (C := RX8) (T := TX8) (N := 9) X 0 s_0 rfl hin_X8 0 (by decide) 1 rfl q_247 dX8_clause_38 ?_
            refine j_iload_n X dX8_clause_41 rfl 1 rfl ?_
            obtain ⟨r_8, hr_8, h⟩ := bd_s h
            refine j_callVi (As := [.int p1]) X 1 s_1 rfl (c_X6_linkOf l w G 1 (Or.inl rfl) p1 hr_8) rfl pn_X6_linkOf q_501 q_502 q_503 q_60 q_504 ⟨Nat.le_of_ble_eq_true rfl, Nat.le_of_ble_eq_true rfl⟩ (Nat.le_of_ble_eq_true rfl) rfl dX8_clause_42 ?_
            refine j_goto X 56 dX8_clause_45 (by decide) ?_
            exact j_iret X hr hk dX8_clause_56 (congrArg (fun z => (z, G)) (Option.some.inj h))
        · have h := bi_t c_5 h
          refine j_aload_n X dX8_clause_23 rfl 0 rfl ?_
          refine j_getR (C := RX8) (T := TX8) (N := 9) X 0 s_0 rfl hin_X8 0 (by decide) 1 rfl q_247 dX8_clause_24 ?_
          refine j_iload_n X dX8_clause_27 rfl 1 rfl ?_
          obtain ⟨r_9, hr_9, h⟩ := bd_s h
          refine j_callVi (As := [.int p1]) X 1 s_1 rfl (c_X6_tenseOf l w G 1 (Or.inl rfl) p1 hr_9) rfl pn_X6_tenseOf q_493 q_494 q_495 q_60 q_496 ⟨Nat.le_of_ble_eq_true rfl, Nat.le_of_ble_eq_true rfl⟩ (Nat.le_of_ble_eq_true rfl) rfl dX8_clause_28 ?_
          exact j_iret X hr hk dX8_clause_31 (congrArg (fun z => (z, G)) (Option.some.inj h))
      · have h := bi_f c_4 h
        refine j_iconst (v := (-1)) X dX8_clause_17 (by decide) ?_
        exact j_iret X hr hk dX8_clause_18 (congrArg (fun z => (z, G)) (Option.some.inj h))
abbrev rm_X8_clear : Room := { frames := 1, cells := 0, slots := 0, locals := 20 }
theorem pn_X8_clear : yX8_clear.cls ≠ "java/lang/invoke/MethodHandle" ∧ yX8_clear.cls ≠ "java/lang/invoke/VarHandle" ∧ (parseMethodDescriptor yX8_clear.desc).map (fun d => d.parameters.length) = some 0 := by decide +kernel
def m_X8_clear (G : Mem) : Int32 × Mem := (m_X7_size G, m_X7_empty G)
set_option maxRecDepth 100000 in
set_option maxHeartbeats 4000000 in
theorem c_X8_clear (l : Launch) (w : WP) (G : Mem) : CMi l yX8_clear cX8_clear 2 (some .int) 1 20 w [.ref (w.1 0)] G (m_X8_clear G) := by
  refine CMi.of (by decide +kernel) (Nat.le_of_ble_eq_true rfl) ?_
  intro p e s m args below meth c X hr hk
  obtain ⟨res, h⟩ : ∃ z, m_X8_clear G = z := ⟨_, rfl⟩
  rw [h]
  unfold m_X8_clear at h
  show J p l e rm_X8_clear s m args below meth c (Qint below args s w res) w 2 G 0 [(0, .ref (w.1 0))] []
  refine j_aload_n X dX8_clear_0 rfl 0 rfl ?_
  refine j_getR (C := RX8) (T := TX8) (N := 9) X 0 s_0 rfl hin_X8 2 (by decide) 5 rfl q_249 dX8_clear_1 ?_
  refine j_callVi (As := []) X 5 s_5 rfl (c_X7_size l w G  ) rfl pn_X7_size q_283 q_284 q_285 q_61 q_286 ⟨Nat.le_of_ble_eq_true rfl, Nat.le_of_ble_eq_true rfl⟩ (Nat.le_of_ble_eq_true rfl) rfl dX8_clear_4 ?_
  refine j_istore_n X [(1, .int (m_X7_size G)), (0, .ref (w.1 0))] dX8_clear_7 rfl (by decide) rfl ?_
  refine j_aload_n X dX8_clear_8 rfl 1 rfl ?_
  refine j_getR (C := RX8) (T := TX8) (N := 9) X 0 s_0 rfl hin_X8 2 (by decide) 5 rfl q_249 dX8_clear_9 ?_
  refine j_callVv (As := []) X 5 s_5 rfl (c_X7_empty l w G  ) rfl pn_X7_empty q_291 q_292 q_293 q_61 q_294 ⟨Nat.le_of_ble_eq_true rfl, Nat.le_of_ble_eq_true rfl⟩ (Nat.le_of_ble_eq_true rfl) rfl dX8_clear_12 ?_
  refine j_iload_n X dX8_clear_15 rfl 0 rfl ?_
  exact j_iret X hr hk dX8_clear_16 (h)
abbrev rm_X8_count : Room := { frames := 2, cells := 0, slots := 0, locals := 40 }
theorem pn_X8_count : yX8_count.cls ≠ "java/lang/invoke/MethodHandle" ∧ yX8_count.cls ≠ "java/lang/invoke/VarHandle" ∧ (parseMethodDescriptor yX8_count.desc).map (fun d => d.parameters.length) = some 1 := by decide +kernel
def m_X8_count (G : Mem) (p1 : Int32) : Option (Int32) := (if p1 = 0 then (m_X6_clauses G 1).bind (fun r_2 => some r_2) else (if p1 = 1 then (m_X6_sayings G 1).bind (fun r_4 => some r_4) else (if p1 = 2 then (m_X6_statements G 1).bind (fun r_6 => some r_6) else (if p1 = 3 then some (m_X4_size G) else (if p1 = 4 then some (m_X7_size G) else (if p1 = 5 then some (m_X2_size G) else some (-1)))))))
set_option maxRecDepth 100000 in
set_option maxHeartbeats 4000000 in
theorem c_X8_count (l : Launch) (w : WP) (G : Mem) (p1 : Int32) {res : Int32} (h0 : m_X8_count G p1 = some res) : CMi l yX8_count cX8_count 2 (some .int) 2 40 w [.ref (w.1 0), .int p1] G (res, G) := by
  refine CMi.of (by decide +kernel) (Nat.le_of_ble_eq_true rfl) ?_
  intro p e s m args below meth c X hr hk
  have h := bs_i h0
  unfold m_X8_count at h
  show J p l e rm_X8_count s m args below meth c (Qint below args s w (res, G)) w 2 G 0 [(0, .ref (w.1 0)), (1, .int p1)] []
  refine j_iload_n X dX8_count_0 rfl 1 rfl ?_
  by_cases c_1 : p1 = 0
  · have h := bi_t c_1 h
    refine j_tabAt (v := 0) X 40 dX8_count_1 c_1 (by decide) (by decide) rfl (by decide) ?_
    refine j_aload_n X dX8_count_40 rfl 0 rfl ?_
    refine j_getR (C := RX8) (T := TX8) (N := 9) X 0 s_0 rfl hin_X8 0 (by decide) 1 rfl q_247 dX8_count_41 ?_
    obtain ⟨r_2, hr_2, h⟩ := bd_s h
    refine j_callVi (As := []) X 1 s_1 rfl (c_X6_clauses l w G 1 (Or.inl rfl)  hr_2) rfl pn_X6_clauses q_492 q_323 q_324 q_60 q_325 ⟨Nat.le_of_ble_eq_true rfl, Nat.le_of_ble_eq_true rfl⟩ (Nat.le_of_ble_eq_true rfl) rfl dX8_count_44 ?_
    exact j_iret X hr hk dX8_count_47 (congrArg (fun z => (z, G)) (Option.some.inj h))
  have h := bi_f c_1 h
  by_cases c_3 : p1 = 1
  · have h := bi_t c_3 h
    refine j_tabAt (v := 1) X 48 dX8_count_1 c_3 (by decide) (by decide) rfl (by decide) ?_
    refine j_aload_n X dX8_count_48 rfl 0 rfl ?_
    refine j_getR (C := RX8) (T := TX8) (N := 9) X 0 s_0 rfl hin_X8 0 (by decide) 1 rfl q_247 dX8_count_49 ?_
    obtain ⟨r_4, hr_4, h⟩ := bd_s h
    refine j_callVi (As := []) X 1 s_1 rfl (c_X6_sayings l w G 1 (Or.inl rfl)  hr_4) rfl pn_X6_sayings q_554 q_330 q_331 q_60 q_332 ⟨Nat.le_of_ble_eq_true rfl, Nat.le_of_ble_eq_true rfl⟩ (Nat.le_of_ble_eq_true rfl) rfl dX8_count_52 ?_
    exact j_iret X hr hk dX8_count_55 (congrArg (fun z => (z, G)) (Option.some.inj h))
  have h := bi_f c_3 h
  by_cases c_5 : p1 = 2
  · have h := bi_t c_5 h
    refine j_tabAt (v := 2) X 56 dX8_count_1 c_5 (by decide) (by decide) rfl (by decide) ?_
    refine j_aload_n X dX8_count_56 rfl 0 rfl ?_
    refine j_getR (C := RX8) (T := TX8) (N := 9) X 0 s_0 rfl hin_X8 0 (by decide) 1 rfl q_247 dX8_count_57 ?_
    obtain ⟨r_6, hr_6, h⟩ := bd_s h
    refine j_callVi (As := []) X 1 s_1 rfl (c_X6_statements l w G 1 (Or.inl rfl)  hr_6) rfl pn_X6_statements q_482 q_334 q_335 q_60 q_336 ⟨Nat.le_of_ble_eq_true rfl, Nat.le_of_ble_eq_true rfl⟩ (Nat.le_of_ble_eq_true rfl) rfl dX8_count_60 ?_
    exact j_iret X hr hk dX8_count_63 (congrArg (fun z => (z, G)) (Option.some.inj h))
  have h := bi_f c_5 h
  by_cases c_7 : p1 = 3
  · have h := bi_t c_7 h
    refine j_tabAt (v := 3) X 64 dX8_count_1 c_7 (by decide) (by decide) rfl (by decide) ?_
    refine j_aload_n X dX8_count_64 rfl 0 rfl ?_
    refine j_getR (C := RX8) (T := TX8) (N := 9) X 0 s_0 rfl hin_X8 5 (by decide) 23 rfl q_252 dX8_count_65 ?_
    refine j_callVi (As := []) X 23 s_23 rfl (c_X4_size l w G  ) rfl pn_X4_size q_812 q_813 q_814 q_64 q_815 ⟨Nat.le_of_ble_eq_true rfl, Nat.le_of_ble_eq_true rfl⟩ (Nat.le_of_ble_eq_true rfl) rfl dX8_count_68 ?_
    exact j_iret X hr hk dX8_count_71 (congrArg (fun z => (z, G)) (Option.some.inj h))
  have h := bi_f c_7 h
  by_cases c_8 : p1 = 4
  · have h := bi_t c_8 h
    refine j_tabAt (v := 4) X 72 dX8_count_1 c_8 (by decide) (by decide) rfl (by decide) ?_
    refine j_aload_n X dX8_count_72 rfl 0 rfl ?_
    refine j_getR (C := RX8) (T := TX8) (N := 9) X 0 s_0 rfl hin_X8 2 (by decide) 5 rfl q_249 dX8_count_73 ?_
    refine j_callVi (As := []) X 5 s_5 rfl (c_X7_size l w G  ) rfl pn_X7_size q_283 q_284 q_285 q_61 q_286 ⟨Nat.le_of_ble_eq_true rfl, Nat.le_of_ble_eq_true rfl⟩ (Nat.le_of_ble_eq_true rfl) rfl dX8_count_76 ?_
    exact j_iret X hr hk dX8_count_79 (congrArg (fun z => (z, G)) (Option.some.inj h))
  have h := bi_f c_8 h
  by_cases c_9 : p1 = 5
  · have h := bi_t c_9 h
    refine j_tabAt (v := 5) X 80 dX8_count_1 c_9 (by decide) (by decide) rfl (by decide) ?_
    refine j_aload_n X dX8_count_80 rfl 0 rfl ?_
    refine j_getR (C := RX8) (T := TX8) (N := 9) X 0 s_0 rfl hin_X8 3 (by decide) 7 rfl q_250 dX8_count_81 ?_
    refine j_callVi (As := []) X 7 s_7 rfl (c_X2_size l w G  ) rfl pn_X2_size q_587 q_588 q_589 q_62 q_590 ⟨Nat.le_of_ble_eq_true rfl, Nat.le_of_ble_eq_true rfl⟩ (Nat.le_of_ble_eq_true rfl) rfl dX8_count_84 ?_
    exact j_iret X hr hk dX8_count_87 (congrArg (fun z => (z, G)) (Option.some.inj h))
  have h := bi_f c_9 h
  refine j_tabOut X 88 dX8_count_1 (by have z0 := lv_neT (a := 0) c_1 (by decide); have z1 := lv_neT (a := 1) c_3 (by decide); have z2 := lv_neT (a := 2) c_5 (by decide); have z3 := lv_neT (a := 3) c_7 (by decide); have z4 := lv_neT (a := 4) c_8 (by decide); have z5 := lv_neT (a := 5) c_9 (by decide); omega) (by decide) ?_
  refine j_iconst (v := (-1)) X dX8_count_88 (by decide) ?_
  exact j_iret X hr hk dX8_count_89 (congrArg (fun z => (z, G)) (Option.some.inj h))
abbrev rm_X8_forget : Room := { frames := 1, cells := 0, slots := 0, locals := 20 }
theorem pn_X8_forget : yX8_forget.cls ≠ "java/lang/invoke/MethodHandle" ∧ yX8_forget.cls ≠ "java/lang/invoke/VarHandle" ∧ (parseMethodDescriptor yX8_forget.desc).map (fun d => d.parameters.length) = some 0 := by decide +kernel
def m_X8_forget (G : Mem) : Int32 × Mem := (m_X4_size G, m_X4_empty G)
set_option maxRecDepth 100000 in
set_option maxHeartbeats 4000000 in
theorem c_X8_forget (l : Launch) (w : WP) (G : Mem) : CMi l yX8_forget cX8_forget 2 (some .int) 1 20 w [.ref (w.1 0)] G (m_X8_forget G) := by
  refine CMi.of (by decide +kernel) (Nat.le_of_ble_eq_true rfl) ?_
  intro p e s m args below meth c X hr hk
  obtain ⟨res, h⟩ : ∃ z, m_X8_forget G = z := ⟨_, rfl⟩
  rw [h]
  unfold m_X8_forget at h
  show J p l e rm_X8_forget s m args below meth c (Qint below args s w res) w 2 G 0 [(0, .ref (w.1 0))] []
  refine j_aload_n X dX8_forget_0 rfl 0 rfl ?_
  refine j_getR (C := RX8) (T := TX8) (N := 9) X 0 s_0 rfl hin_X8 5 (by decide) 23 rfl q_252 dX8_forget_1 ?_
  refine j_callVi (As := []) X 23 s_23 rfl (c_X4_size l w G  ) rfl pn_X4_size q_812 q_813 q_814 q_64 q_815 ⟨Nat.le_of_ble_eq_true rfl, Nat.le_of_ble_eq_true rfl⟩ (Nat.le_of_ble_eq_true rfl) rfl dX8_forget_4 ?_
  refine j_istore_n X [(1, .int (m_X4_size G)), (0, .ref (w.1 0))] dX8_forget_7 rfl (by decide) rfl ?_
  refine j_aload_n X dX8_forget_8 rfl 1 rfl ?_
  refine j_getR (C := RX8) (T := TX8) (N := 9) X 0 s_0 rfl hin_X8 5 (by decide) 23 rfl q_252 dX8_forget_9 ?_
  refine j_callVv (As := []) X 23 s_23 rfl (c_X4_empty l w G  ) rfl pn_X4_empty q_470 q_471 q_472 q_64 q_473 ⟨Nat.le_of_ble_eq_true rfl, Nat.le_of_ble_eq_true rfl⟩ (Nat.le_of_ble_eq_true rfl) rfl dX8_forget_12 ?_
  refine j_iload_n X dX8_forget_15 rfl 0 rfl ?_
  exact j_iret X hr hk dX8_forget_16 (h)
abbrev rm_X8_isStatement : Room := { frames := 1, cells := 0, slots := 0, locals := 20 }
theorem pn_X8_isStatement : yX8_isStatement.cls ≠ "java/lang/invoke/MethodHandle" ∧ yX8_isStatement.cls ≠ "java/lang/invoke/VarHandle" ∧ (parseMethodDescriptor yX8_isStatement.desc).map (fun d => d.parameters.length) = some 1 := by decide +kernel
def m_X8_isStatement (G : Mem) (p1 : Int32) : Option (Int32) := (if p1 < 0 then some 0 else (m_X6_statements G 1).bind (fun r_2 => (if r_2 ≤ p1 then some 0 else some 1)))
set_option maxRecDepth 100000 in
set_option maxHeartbeats 4000000 in
theorem c_X8_isStatement (l : Launch) (w : WP) (G : Mem) (p1 : Int32) {res : Int32} (h0 : m_X8_isStatement G p1 = some res) : CMi l yX8_isStatement cX8_isStatement 2 (some .boolean) 1 20 w [.ref (w.1 0), .int p1] G (res, G) := by
  refine CMi.of (by decide +kernel) (Nat.le_of_ble_eq_true rfl) ?_
  intro p e s m args below meth c X hr hk
  have h := bs_i h0
  unfold m_X8_isStatement at h
  show J p l e rm_X8_isStatement s m args below meth c (Qint below args s w (res, G)) w 2 G 0 [(0, .ref (w.1 0)), (1, .int p1)] []
  refine j_iload_n X dX8_isStatement_0 rfl 1 rfl ?_
  refine j_if_lt X 19 dX8_isStatement_1 (by decide) (fun c_1 => ?_) (fun c_1 => ?_)
  · have h := bi_t c_1 h
    refine j_iconst (v := 0) X dX8_isStatement_19 (by decide) ?_
    exact j_zret X hr hk (by decide) dX8_isStatement_20 (congrArg (fun z => (z, G)) (Option.some.inj h))
  · have h := bi_f c_1 h
    refine j_iload_n X dX8_isStatement_4 rfl 1 rfl ?_
    refine j_aload_n X dX8_isStatement_5 rfl 0 rfl ?_
    refine j_getR (C := RX8) (T := TX8) (N := 9) X 0 s_0 rfl hin_X8 0 (by decide) 1 rfl q_247 dX8_isStatement_6 ?_
    obtain ⟨r_2, hr_2, h⟩ := bd_s h
    refine j_callVi (As := []) X 1 s_1 rfl (c_X6_statements l w G 1 (Or.inl rfl)  hr_2) rfl pn_X6_statements q_482 q_334 q_335 q_60 q_336 ⟨Nat.le_of_ble_eq_true rfl, Nat.le_of_ble_eq_true rfl⟩ (Nat.le_of_ble_eq_true rfl) rfl dX8_isStatement_9 ?_
    refine j_icmp_ge X 19 dX8_isStatement_12 (by decide) (fun c_3 => ?_) (fun c_3 => ?_)
    · have h := bi_t c_3 h
      refine j_iconst (v := 0) X dX8_isStatement_19 (by decide) ?_
      exact j_zret X hr hk (by decide) dX8_isStatement_20 (congrArg (fun z => (z, G)) (Option.some.inj h))
    · have h := bi_f c_3 h
      refine j_iconst (v := 1) X dX8_isStatement_15 (by decide) ?_
      refine j_goto X 20 dX8_isStatement_16 (by decide) ?_
      exact j_zret X hr hk (by decide) dX8_isStatement_20 (congrArg (fun z => (z, G)) (Option.some.inj h))
abbrev rm_X8_keep : Room := { frames := 3, cells := 0, slots := 0, locals := 65 }
theorem pn_X8_keep : yX8_keep.cls ≠ "java/lang/invoke/MethodHandle" ∧ yX8_keep.cls ≠ "java/lang/invoke/VarHandle" ∧ (parseMethodDescriptor yX8_keep.desc).map (fun d => d.parameters.length) = some 1 := by decide +kernel
def m_X8_keep (G : Mem) (p1 : Int32) : Option (Int32 × Mem) := (if p1 < 0 then some ((-1), G) else (if p1 < 2 then (m_X0_store G p1).bind (fun q_3 => (m_X6_statements q_3 1).bind (fun r_4 => some (r_4, q_3))) else some ((-1), G)))
set_option maxRecDepth 100000 in
set_option maxHeartbeats 4000000 in
theorem c_X8_keep (l : Launch) (w : WP) (G : Mem) (p1 : Int32) {res : Int32 × Mem} (h0 : m_X8_keep G p1 = some res) : CMi l yX8_keep cX8_keep 2 (some .int) 3 65 w [.ref (w.1 0), .int p1] G res := by
  refine CMi.of (by decide +kernel) (Nat.le_of_ble_eq_true rfl) ?_
  intro p e s m args below meth c X hr hk
  have h := bs_i h0
  unfold m_X8_keep at h
  show J p l e rm_X8_keep s m args below meth c (Qint below args s w res) w 2 G 0 [(0, .ref (w.1 0)), (1, .int p1)] []
  refine j_iload_n X dX8_keep_0 rfl 1 rfl ?_
  refine j_if_lt X 9 dX8_keep_1 (by decide) (fun c_1 => ?_) (fun c_1 => ?_)
  · have h := bi_t c_1 h
    refine j_iconst (v := (-1)) X dX8_keep_9 (by decide) ?_
    exact j_iret X hr hk dX8_keep_10 (Option.some.inj h)
  · have h := bi_f c_1 h
    refine j_iload_n X dX8_keep_4 rfl 1 rfl ?_
    refine j_iconst (v := 2) X dX8_keep_5 (by decide) ?_
    refine j_icmp_lt X 11 dX8_keep_6 (by decide) (fun c_2 => ?_) (fun c_2 => ?_)
    · have h := bi_t c_2 h
      refine j_aload_n X dX8_keep_11 rfl 0 rfl ?_
      refine j_getR (C := RX8) (T := TX8) (N := 9) X 0 s_0 rfl hin_X8 4 (by decide) 19 rfl q_251 dX8_keep_12 ?_
      refine j_iload_n X dX8_keep_15 rfl 1 rfl ?_
      refine j_aload_n X dX8_keep_16 rfl 0 rfl ?_
      refine j_getR (C := RX8) (T := TX8) (N := 9) X 0 s_0 rfl hin_X8 0 (by decide) 1 rfl q_247 dX8_keep_17 ?_
      obtain ⟨q_3, hq_3, h⟩ := bd_s h
      refine j_callVv (As := [.int p1, .ref (w.1 1)]) X 19 s_19 rfl (c_X0_store l w G  p1 hq_3) rfl pn_X0_store q_833 q_834 q_835 q_63 q_836 ⟨Nat.le_of_ble_eq_true rfl, Nat.le_of_ble_eq_true rfl⟩ (Nat.le_of_ble_eq_true rfl) rfl dX8_keep_20 ?_
      refine j_aload_n X dX8_keep_23 rfl 0 rfl ?_
      refine j_getR (C := RX8) (T := TX8) (N := 9) X 0 s_0 rfl hin_X8 0 (by decide) 1 rfl q_247 dX8_keep_24 ?_
      obtain ⟨r_4, hr_4, h⟩ := bd_s h
      refine j_callVi (As := []) X 1 s_1 rfl (c_X6_statements l w q_3 1 (Or.inl rfl)  hr_4) rfl pn_X6_statements q_482 q_334 q_335 q_60 q_336 ⟨Nat.le_of_ble_eq_true rfl, Nat.le_of_ble_eq_true rfl⟩ (Nat.le_of_ble_eq_true rfl) rfl dX8_keep_27 ?_
      exact j_iret X hr hk dX8_keep_30 (Option.some.inj h)
    · have h := bi_f c_2 h
      refine j_iconst (v := (-1)) X dX8_keep_9 (by decide) ?_
      exact j_iret X hr hk dX8_keep_10 (Option.some.inj h)
abbrev rm_X8_orderAll : Room := { frames := 5, cells := 0, slots := 0, locals := 115 }
theorem pn_X8_orderAll : yX8_orderAll.cls ≠ "java/lang/invoke/MethodHandle" ∧ yX8_orderAll.cls ≠ "java/lang/invoke/VarHandle" ∧ (parseMethodDescriptor yX8_orderAll.desc).map (fun d => d.parameters.length) = some 0 := by decide +kernel
def m_X8_orderAll (G : Mem) : Option (Mem) := (m_X6_everything G 1).bind (fun r_1 => (m_X8_orderSet G r_1).bind (fun q_2 => some q_2))
set_option maxRecDepth 100000 in
set_option maxHeartbeats 4000000 in
theorem c_X8_orderAll (l : Launch) (w : WP) (G : Mem) {res : Mem} (h0 : m_X8_orderAll G = some res) : CMv l yX8_orderAll cX8_orderAll 1 none 5 115 w [.ref (w.1 0)] G res := by
  refine CMv.of (by decide +kernel) (Nat.le_of_ble_eq_true rfl) ?_
  intro p e s m args below meth c X hr hk
  have h := bs_i h0
  unfold m_X8_orderAll at h
  show J p l e rm_X8_orderAll s m args below meth c (Qvoid below args s w res) w 1 G 0 [(0, .ref (w.1 0))] []
  refine j_aload_n X dX8_orderAll_0 rfl 0 rfl ?_
  refine j_aload_n X dX8_orderAll_1 rfl 0 rfl ?_
  refine j_getR (C := RX8) (T := TX8) (N := 9) X 0 s_0 rfl hin_X8 0 (by decide) 1 rfl q_247 dX8_orderAll_2 ?_
  obtain ⟨r_1, hr_1, h⟩ := bd_s h
  refine j_callVi (As := []) X 1 s_1 rfl (c_X6_everything l w G 1 (Or.inl rfl)  hr_1) rfl pn_X6_everything q_607 q_608 q_609 q_60 q_610 ⟨Nat.le_of_ble_eq_true rfl, Nat.le_of_ble_eq_true rfl⟩ (Nat.le_of_ble_eq_true rfl) rfl dX8_orderAll_5 ?_
  obtain ⟨q_2, hq_2, h⟩ := bd_s h
  refine j_callVv (As := [.int r_1]) X 0 s_0 rfl (c_X8_orderSet l w G  r_1 hq_2) rfl pn_X8_orderSet q_611 q_613 q_16 q_59 q_614 ⟨Nat.le_of_ble_eq_true rfl, Nat.le_of_ble_eq_true rfl⟩ (Nat.le_of_ble_eq_true rfl) rfl dX8_orderAll_8 ?_
  exact j_vret X hr hk dX8_orderAll_11 (Option.some.inj h)
abbrev rm_X8_known : Room := { frames := 6, cells := 0, slots := 0, locals := 135 }
theorem pn_X8_known : yX8_known.cls ≠ "java/lang/invoke/MethodHandle" ∧ yX8_known.cls ≠ "java/lang/invoke/VarHandle" ∧ (parseMethodDescriptor yX8_known.desc).map (fun d => d.parameters.length) = some 2 := by decide +kernel
def m_X8_known (G : Mem) (p1 : Int32) (p2 : Int32) : Option (Int32 × Mem) := (m_X8_isTime G p1).bind (fun r_1 => (if r_1 = 0 then some ((-1), G) else (m_X8_isTime G p2).bind (fun r_3 => (if r_3 = 0 then some ((-1), G) else (m_X8_orderAll G).bind (fun q_5 => (m_X1_tells q_5 27 p1 p2).bind (fun r_6 => some (r_6, q_5)))))))
set_option maxRecDepth 100000 in
set_option maxHeartbeats 4000000 in
theorem c_X8_known (l : Launch) (w : WP) (G : Mem) (p1 : Int32) (p2 : Int32) {res : Int32 × Mem} (h0 : m_X8_known G p1 p2 = some res) : CMi l yX8_known cX8_known 3 (some .int) 6 135 w [.ref (w.1 0), .int p1, .int p2] G res := by
  refine CMi.of (by decide +kernel) (Nat.le_of_ble_eq_true rfl) ?_
  intro p e s m args below meth c X hr hk
  have h := bs_i h0
  unfold m_X8_known at h
  show J p l e rm_X8_known s m args below meth c (Qint below args s w res) w 3 G 0 [(0, .ref (w.1 0)), (1, .int p1), (2, .int p2)] []
  refine j_aload_n X dX8_known_0 rfl 0 rfl ?_
  refine j_iload_n X dX8_known_1 rfl 1 rfl ?_
  obtain ⟨r_1, hr_1, h⟩ := bd_s h
  refine j_callVi (As := [.int p1]) X 0 s_0 rfl (c_X8_isTime l w G  p1 hr_1) rfl pn_X8_isTime q_550 q_552 q_14 q_59 q_553 ⟨Nat.le_of_ble_eq_true rfl, Nat.le_of_ble_eq_true rfl⟩ (Nat.le_of_ble_eq_true rfl) rfl dX8_known_2 ?_
  refine j_if_eq X 16 dX8_known_5 (by decide) (fun c_2 => ?_) (fun c_2 => ?_)
  · have h := bi_t c_2 h
    refine j_iconst (v := (-1)) X dX8_known_16 (by decide) ?_
    exact j_iret X hr hk dX8_known_17 (Option.some.inj h)
  · have h := bi_f c_2 h
    refine j_aload_n X dX8_known_8 rfl 0 rfl ?_
    refine j_iload_n X dX8_known_9 rfl 2 rfl ?_
    obtain ⟨r_3, hr_3, h⟩ := bd_s h
    refine j_callVi (As := [.int p2]) X 0 s_0 rfl (c_X8_isTime l w G  p2 hr_3) rfl pn_X8_isTime q_550 q_552 q_14 q_59 q_553 ⟨Nat.le_of_ble_eq_true rfl, Nat.le_of_ble_eq_true rfl⟩ (Nat.le_of_ble_eq_true rfl) rfl dX8_known_10 ?_
    refine j_if_ne X 18 dX8_known_13 (by decide) (fun c_4 => ?_) (fun c_4 => ?_)
    · have h := bi_f c_4 h
      refine j_aload_n X dX8_known_18 rfl 0 rfl ?_
      obtain ⟨q_5, hq_5, h⟩ := bd_s h
      refine j_callVv (As := []) X 0 s_0 rfl (c_X8_orderAll l w G   hq_5) rfl pn_X8_orderAll q_603 q_605 q_15 q_59 q_606 ⟨Nat.le_of_ble_eq_true rfl, Nat.le_of_ble_eq_true rfl⟩ (Nat.le_of_ble_eq_true rfl) rfl dX8_known_19 ?_
      refine j_aload_n X dX8_known_22 rfl 0 rfl ?_
      refine j_getR (C := RX8) (T := TX8) (N := 9) X 0 s_0 rfl hin_X8 6 (by decide) 27 rfl q_253 dX8_known_23 ?_
      refine j_iload_n X dX8_known_26 rfl 1 rfl ?_
      refine j_iload_n X dX8_known_27 rfl 2 rfl ?_
      obtain ⟨r_6, hr_6, h⟩ := bd_s h
      refine j_callVi (As := [.int p1, .int p2]) X 27 s_27 rfl (c_X1_tells l w q_5 27 (Or.inl rfl) p1 p2 hr_6) rfl pn_X1_tells q_703 q_704 q_705 q_65 q_706 ⟨Nat.le_of_ble_eq_true rfl, Nat.le_of_ble_eq_true rfl⟩ (Nat.le_of_ble_eq_true rfl) rfl dX8_known_28 ?_
      exact j_iret X hr hk dX8_known_31 (Option.some.inj h)
    · have h := bi_t c_4 h
      refine j_iconst (v := (-1)) X dX8_known_16 (by decide) ?_
      exact j_iret X hr hk dX8_known_17 (Option.some.inj h)
abbrev rm_X8_left : Room := { frames := 6, cells := 0, slots := 0, locals := 135 }
theorem pn_X8_left : yX8_left.cls ≠ "java/lang/invoke/MethodHandle" ∧ yX8_left.cls ≠ "java/lang/invoke/VarHandle" ∧ (parseMethodDescriptor yX8_left.desc).map (fun d => d.parameters.length) = some 3 := by decide +kernel
def m_X8_left (G : Mem) (p1 : Int32) (p2 : Int32) (p3 : Int32) : Option (Int32 × Mem) := (m_X8_isClause G p1).bind (fun r_1 => (if r_1 = 0 then some ((-1), G) else (m_X8_isClause G p2).bind (fun r_3 => (if r_3 = 0 then some ((-1), G) else (if p1 = p2 then some ((-1), G) else (if p3 < 0 then some ((-1), G) else (if p3 < 3 then (m_X8_tallyAll G).bind (fun q_8 => (m_X5_compare q_8).bind (fun q_9 => (m_X5_remaining q_9 p1 p3 p2).bind (fun r_10 => some (r_10, q_9)))) else some ((-1), G))))))))
set_option maxRecDepth 100000 in
set_option maxHeartbeats 4000000 in
theorem c_X8_left (l : Launch) (w : WP) (G : Mem) (p1 : Int32) (p2 : Int32) (p3 : Int32) {res : Int32 × Mem} (h0 : m_X8_left G p1 p2 p3 = some res) : CMi l yX8_left cX8_left 4 (some .int) 6 135 w [.ref (w.1 0), .int p1, .int p2, .int p3] G res := by
  refine CMi.of (by decide +kernel) (Nat.le_of_ble_eq_true rfl) ?_
  intro p e s m args below meth c X hr hk
  have h := bs_i h0
  unfold m_X8_left at h
  show J p l e rm_X8_left s m args below meth c (Qint below args s w res) w 4 G 0 [(0, .ref (w.1 0)), (1, .int p1), (2, .int p2), (3, .int p3)] []
  refine j_aload_n X dX8_left_0 rfl 0 rfl ?_
  refine j_iload_n X dX8_left_1 rfl 1 rfl ?_
  obtain ⟨r_1, hr_1, h⟩ := bd_s h
  refine j_callVi (As := [.int p1]) X 0 s_0 rfl (c_X8_isClause l w G  p1 hr_1) rfl pn_X8_isClause q_488 q_490 q_8 q_59 q_491 ⟨Nat.le_of_ble_eq_true rfl, Nat.le_of_ble_eq_true rfl⟩ (Nat.le_of_ble_eq_true rfl) rfl dX8_left_2 ?_
  refine j_if_eq X 30 dX8_left_5 (by decide) (fun c_2 => ?_) (fun c_2 => ?_)
  · have h := bi_t c_2 h
    refine j_iconst (v := (-1)) X dX8_left_30 (by decide) ?_
    exact j_iret X hr hk dX8_left_31 (Option.some.inj h)
  · have h := bi_f c_2 h
    refine j_aload_n X dX8_left_8 rfl 0 rfl ?_
    refine j_iload_n X dX8_left_9 rfl 2 rfl ?_
    obtain ⟨r_3, hr_3, h⟩ := bd_s h
    refine j_callVi (As := [.int p2]) X 0 s_0 rfl (c_X8_isClause l w G  p2 hr_3) rfl pn_X8_isClause q_488 q_490 q_8 q_59 q_491 ⟨Nat.le_of_ble_eq_true rfl, Nat.le_of_ble_eq_true rfl⟩ (Nat.le_of_ble_eq_true rfl) rfl dX8_left_10 ?_
    refine j_if_eq X 30 dX8_left_13 (by decide) (fun c_4 => ?_) (fun c_4 => ?_)
    · have h := bi_t c_4 h
      refine j_iconst (v := (-1)) X dX8_left_30 (by decide) ?_
      exact j_iret X hr hk dX8_left_31 (Option.some.inj h)
    · have h := bi_f c_4 h
      refine j_iload_n X dX8_left_16 rfl 1 rfl ?_
      refine j_iload_n X dX8_left_17 rfl 2 rfl ?_
      refine j_icmp_eq X 30 dX8_left_18 (by decide) (fun c_5 => ?_) (fun c_5 => ?_)
      · have h := bi_t c_5 h
        refine j_iconst (v := (-1)) X dX8_left_30 (by decide) ?_
        exact j_iret X hr hk dX8_left_31 (Option.some.inj h)
      · have h := bi_f c_5 h
        refine j_iload_n X dX8_left_21 rfl 3 rfl ?_
        refine j_if_lt X 30 dX8_left_22 (by decide) (fun c_6 => ?_) (fun c_6 => ?_)
        · have h := bi_t c_6 h
          refine j_iconst (v := (-1)) X dX8_left_30 (by decide) ?_
          exact j_iret X hr hk dX8_left_31 (Option.some.inj h)
        · have h := bi_f c_6 h
          refine j_iload_n X dX8_left_25 rfl 3 rfl ?_
          refine j_iconst (v := 3) X dX8_left_26 (by decide) ?_
          refine j_icmp_lt X 32 dX8_left_27 (by decide) (fun c_7 => ?_) (fun c_7 => ?_)
          · have h := bi_t c_7 h
            refine j_aload_n X dX8_left_32 rfl 0 rfl ?_
            obtain ⟨q_8, hq_8, h⟩ := bd_s h
            refine j_callVv (As := []) X 0 s_0 rfl (c_X8_tallyAll l w G   hq_8) rfl pn_X8_tallyAll q_733 q_735 q_23 q_59 q_736 ⟨Nat.le_of_ble_eq_true rfl, Nat.le_of_ble_eq_true rfl⟩ (Nat.le_of_ble_eq_true rfl) rfl dX8_left_33 ?_
            refine j_aload_n X dX8_left_36 rfl 0 rfl ?_
            refine j_getR (C := RX8) (T := TX8) (N := 9) X 0 s_0 rfl hin_X8 8 (by decide) 66 rfl q_255 dX8_left_37 ?_
            obtain ⟨q_9, hq_9, h⟩ := bd_s h
            refine j_callVv (As := []) X 66 s_66 rfl (c_X5_compare l w q_8   hq_9) rfl pn_X5_compare q_777 q_778 q_779 q_67 q_780 ⟨Nat.le_of_ble_eq_true rfl, Nat.le_of_ble_eq_true rfl⟩ (Nat.le_of_ble_eq_true rfl) rfl dX8_left_40 ?_
            refine j_aload_n X dX8_left_43 rfl 0 rfl ?_
            refine j_getR (C := RX8) (T := TX8) (N := 9) X 0 s_0 rfl hin_X8 8 (by decide) 66 rfl q_255 dX8_left_44 ?_
            refine j_iload_n X dX8_left_47 rfl 1 rfl ?_
            refine j_iload_n X dX8_left_48 rfl 3 rfl ?_
            refine j_iload_n X dX8_left_49 rfl 2 rfl ?_
            obtain ⟨r_10, hr_10, h⟩ := bd_s h
            refine j_callVi (As := [.int p1, .int p3, .int p2]) X 66 s_66 rfl (c_X5_remaining l w q_9  p1 p3 p2 hr_10) rfl pn_X5_remaining q_789 q_790 q_791 q_67 q_792 ⟨Nat.le_of_ble_eq_true rfl, Nat.le_of_ble_eq_true rfl⟩ (Nat.le_of_ble_eq_true rfl) rfl dX8_left_50 ?_
            exact j_iret X hr hk dX8_left_53 (Option.some.inj h)
          · have h := bi_f c_7 h
            refine j_iconst (v := (-1)) X dX8_left_30 (by decide) ?_
            exact j_iret X hr hk dX8_left_31 (Option.some.inj h)
abbrev rm_X8_line : Room := { frames := 6, cells := 0, slots := 0, locals := 135 }
theorem pn_X8_line : yX8_line.cls ≠ "java/lang/invoke/MethodHandle" ∧ yX8_line.cls ≠ "java/lang/invoke/VarHandle" ∧ (parseMethodDescriptor yX8_line.desc).map (fun d => d.parameters.length) = some 1 := by decide +kernel
def m_X8_line (G : Mem) (p1 : Int32) : Option (Int32 × Mem) := (m_X8_isTime G p1).bind (fun r_1 => (if r_1 = 0 then some ((-1), G) else (m_X8_orderAll G).bind (fun q_3 => (m_X1_isSound q_3 27).bind (fun r_4 => (if r_4 = 0 then some ((-9), q_3) else (m_X1_earliest q_3 27 p1).bind (fun r_6 => some (r_6, q_3)))))))
set_option maxRecDepth 100000 in
set_option maxHeartbeats 4000000 in
theorem c_X8_line (l : Launch) (w : WP) (G : Mem) (p1 : Int32) {res : Int32 × Mem} (h0 : m_X8_line G p1 = some res) : CMi l yX8_line cX8_line 2 (some .int) 6 135 w [.ref (w.1 0), .int p1] G res := by
  refine CMi.of (by decide +kernel) (Nat.le_of_ble_eq_true rfl) ?_
  intro p e s m args below meth c X hr hk
  have h := bs_i h0
  unfold m_X8_line at h
  show J p l e rm_X8_line s m args below meth c (Qint below args s w res) w 2 G 0 [(0, .ref (w.1 0)), (1, .int p1)] []
  refine j_aload_n X dX8_line_0 rfl 0 rfl ?_
  refine j_iload_n X dX8_line_1 rfl 1 rfl ?_
  obtain ⟨r_1, hr_1, h⟩ := bd_s h
  refine j_callVi (As := [.int p1]) X 0 s_0 rfl (c_X8_isTime l w G  p1 hr_1) rfl pn_X8_isTime q_550 q_552 q_14 q_59 q_553 ⟨Nat.le_of_ble_eq_true rfl, Nat.le_of_ble_eq_true rfl⟩ (Nat.le_of_ble_eq_true rfl) rfl dX8_line_2 ?_
  refine j_if_ne X 10 dX8_line_5 (by decide) (fun c_2 => ?_) (fun c_2 => ?_)
  · have h := bi_f c_2 h
    refine j_aload_n X dX8_line_10 rfl 0 rfl ?_
    obtain ⟨q_3, hq_3, h⟩ := bd_s h
    refine j_callVv (As := []) X 0 s_0 rfl (c_X8_orderAll l w G   hq_3) rfl pn_X8_orderAll q_603 q_605 q_15 q_59 q_606 ⟨Nat.le_of_ble_eq_true rfl, Nat.le_of_ble_eq_true rfl⟩ (Nat.le_of_ble_eq_true rfl) rfl dX8_line_11 ?_
    refine j_aload_n X dX8_line_14 rfl 0 rfl ?_
    refine j_getR (C := RX8) (T := TX8) (N := 9) X 0 s_0 rfl hin_X8 6 (by decide) 27 rfl q_253 dX8_line_15 ?_
    obtain ⟨r_4, hr_4, h⟩ := bd_s h
    refine j_callVi (As := []) X 27 s_27 rfl (c_X1_isSound l w q_3 27 (Or.inl rfl)  hr_4) rfl pn_X1_isSound q_651 q_652 q_653 q_65 q_654 ⟨Nat.le_of_ble_eq_true rfl, Nat.le_of_ble_eq_true rfl⟩ (Nat.le_of_ble_eq_true rfl) rfl dX8_line_18 ?_
    refine j_if_eq X 35 dX8_line_21 (by decide) (fun c_5 => ?_) (fun c_5 => ?_)
    · have h := bi_t c_5 h
      refine j_bipush (v := (-9)) X dX8_line_35 (by decide) ?_
      exact j_iret X hr hk dX8_line_37 (Option.some.inj h)
    · have h := bi_f c_5 h
      refine j_aload_n X dX8_line_24 rfl 0 rfl ?_
      refine j_getR (C := RX8) (T := TX8) (N := 9) X 0 s_0 rfl hin_X8 6 (by decide) 27 rfl q_253 dX8_line_25 ?_
      refine j_iload_n X dX8_line_28 rfl 1 rfl ?_
      obtain ⟨r_6, hr_6, h⟩ := bd_s h
      refine j_callVi (As := [.int p1]) X 27 s_27 rfl (c_X1_earliest l w q_3 27 (Or.inl rfl) p1 hr_6) rfl pn_X1_earliest q_716 q_717 q_718 q_65 q_719 ⟨Nat.le_of_ble_eq_true rfl, Nat.le_of_ble_eq_true rfl⟩ (Nat.le_of_ble_eq_true rfl) rfl dX8_line_29 ?_
      refine j_goto X 37 dX8_line_32 (by decide) ?_
      exact j_iret X hr hk dX8_line_37 (Option.some.inj h)
  · have h := bi_t c_2 h
    refine j_iconst (v := (-1)) X dX8_line_8 (by decide) ?_
    exact j_iret X hr hk dX8_line_9 (Option.some.inj h)
abbrev rm_X8_links : Room := { frames := 3, cells := 0, slots := 0, locals := 64 }
theorem pn_X8_links : yX8_links.cls ≠ "java/lang/invoke/MethodHandle" ∧ yX8_links.cls ≠ "java/lang/invoke/VarHandle" ∧ (parseMethodDescriptor yX8_links.desc).map (fun d => d.parameters.length) = some 2 := by decide +kernel
def m_X8_links (G : Mem) (p1 : Int32) (p2 : Int32) : Option (Int32 × Mem) := (m_X8_isClause G p1).bind (fun r_1 => (if r_1 = 0 then some ((-1), G) else (if p1 = 0 then some ((-1), G) else (if p2 < 0 then some ((-1), G) else (if p2 < 4 then (m_X6_linkOf G 1 p1).bind (fun r_6 => (if r_6 = p2 then some ((-2), G) else (m_X2_note G).bind (fun q_8 => (m_X6_setLink q_8 1 p1 p2).bind (fun q_9 => some (r_6, q_9))))) else some ((-1), G))))))
set_option maxRecDepth 100000 in
set_option maxHeartbeats 4000000 in
theorem c_X8_links (l : Launch) (w : WP) (G : Mem) (p1 : Int32) (p2 : Int32) {res : Int32 × Mem} (h0 : m_X8_links G p1 p2 = some res) : CMi l yX8_links cX8_links 4 (some .int) 3 64 w [.ref (w.1 0), .int p1, .int p2] G res := by
  refine CMi.of (by decide +kernel) (Nat.le_of_ble_eq_true rfl) ?_
  intro p e s m args below meth c X hr hk
  have h := bs_i h0
  unfold m_X8_links at h
  show J p l e rm_X8_links s m args below meth c (Qint below args s w res) w 4 G 0 [(0, .ref (w.1 0)), (1, .int p1), (2, .int p2)] []
  refine j_aload_n X dX8_links_0 rfl 0 rfl ?_
  refine j_iload_n X dX8_links_1 rfl 1 rfl ?_
  obtain ⟨r_1, hr_1, h⟩ := bd_s h
  refine j_callVi (As := [.int p1]) X 0 s_0 rfl (c_X8_isClause l w G  p1 hr_1) rfl pn_X8_isClause q_488 q_490 q_8 q_59 q_491 ⟨Nat.le_of_ble_eq_true rfl, Nat.le_of_ble_eq_true rfl⟩ (Nat.le_of_ble_eq_true rfl) rfl dX8_links_2 ?_
  refine j_if_eq X 21 dX8_links_5 (by decide) (fun c_2 => ?_) (fun c_2 => ?_)
  · have h := bi_t c_2 h
    refine j_iconst (v := (-1)) X dX8_links_21 (by decide) ?_
    exact j_iret X hr hk dX8_links_22 (Option.some.inj h)
  · have h := bi_f c_2 h
    refine j_iload_n X dX8_links_8 rfl 1 rfl ?_
    refine j_if_eq X 21 dX8_links_9 (by decide) (fun c_3 => ?_) (fun c_3 => ?_)
    · have h := bi_t c_3 h
      refine j_iconst (v := (-1)) X dX8_links_21 (by decide) ?_
      exact j_iret X hr hk dX8_links_22 (Option.some.inj h)
    · have h := bi_f c_3 h
      refine j_iload_n X dX8_links_12 rfl 2 rfl ?_
      refine j_if_lt X 21 dX8_links_13 (by decide) (fun c_4 => ?_) (fun c_4 => ?_)
      · have h := bi_t c_4 h
        refine j_iconst (v := (-1)) X dX8_links_21 (by decide) ?_
        exact j_iret X hr hk dX8_links_22 (Option.some.inj h)
      · have h := bi_f c_4 h
        refine j_iload_n X dX8_links_16 rfl 2 rfl ?_
        refine j_iconst (v := 4) X dX8_links_17 (by decide) ?_
        refine j_icmp_lt X 23 dX8_links_18 (by decide) (fun c_5 => ?_) (fun c_5 => ?_)
        · have h := bi_t c_5 h
          refine j_aload_n X dX8_links_23 rfl 0 rfl ?_
          refine j_getR (C := RX8) (T := TX8) (N := 9) X 0 s_0 rfl hin_X8 0 (by decide) 1 rfl q_247 dX8_links_24 ?_
          refine j_iload_n X dX8_links_27 rfl 1 rfl ?_
          obtain ⟨r_6, hr_6, h⟩ := bd_s h
          refine j_callVi (As := [.int p1]) X 1 s_1 rfl (c_X6_linkOf l w G 1 (Or.inl rfl) p1 hr_6) rfl pn_X6_linkOf q_501 q_502 q_503 q_60 q_504 ⟨Nat.le_of_ble_eq_true rfl, Nat.le_of_ble_eq_true rfl⟩ (Nat.le_of_ble_eq_true rfl) rfl dX8_links_28 ?_
          refine j_istore_n X [(3, .int r_6), (0, .ref (w.1 0)), (1, .int p1), (2, .int p2)] dX8_links_31 rfl (by decide) rfl ?_
          refine j_iload_n X dX8_links_32 rfl 0 rfl ?_
          refine j_iload_n X dX8_links_33 rfl 3 rfl ?_
          refine j_icmp_ne X 40 dX8_links_34 (by decide) (fun c_7 => ?_) (fun c_7 => ?_)
          · have h := bi_f c_7 h
            refine j_aload_n X dX8_links_40 rfl 1 rfl ?_
            refine j_getR (C := RX8) (T := TX8) (N := 9) X 0 s_0 rfl hin_X8 3 (by decide) 7 rfl q_250 dX8_links_41 ?_
            refine j_aload_n X dX8_links_44 rfl 1 rfl ?_
            refine j_getR (C := RX8) (T := TX8) (N := 9) X 0 s_0 rfl hin_X8 0 (by decide) 1 rfl q_247 dX8_links_45 ?_
            obtain ⟨q_8, hq_8, h⟩ := bd_s h
            refine j_callVv (As := [.ref (w.1 1)]) X 7 s_7 rfl (c_X2_note l w G   hq_8) rfl pn_X2_note q_555 q_556 q_557 q_62 q_558 ⟨Nat.le_of_ble_eq_true rfl, Nat.le_of_ble_eq_true rfl⟩ (Nat.le_of_ble_eq_true rfl) rfl dX8_links_48 ?_
            refine j_aload_n X dX8_links_51 rfl 1 rfl ?_
            refine j_getR (C := RX8) (T := TX8) (N := 9) X 0 s_0 rfl hin_X8 0 (by decide) 1 rfl q_247 dX8_links_52 ?_
            refine j_iload_n X dX8_links_55 rfl 2 rfl ?_
            refine j_iload_n X dX8_links_56 rfl 3 rfl ?_
            obtain ⟨q_9, hq_9, h⟩ := bd_s h
            refine j_callVv (As := [.int p1, .int p2]) X 1 s_1 rfl (c_X6_setLink l w q_8 1 (Or.inl rfl) p1 p2 hq_9) rfl pn_X6_setLink q_582 q_452 q_453 q_60 q_454 ⟨Nat.le_of_ble_eq_true rfl, Nat.le_of_ble_eq_true rfl⟩ (Nat.le_of_ble_eq_true rfl) rfl dX8_links_57 ?_
            refine j_iload_n X dX8_links_60 rfl 0 rfl ?_
            exact j_iret X hr hk dX8_links_61 (Option.some.inj h)
          · have h := bi_t c_7 h
            refine j_bipush (v := (-2)) X dX8_links_37 (by decide) ?_
            exact j_iret X hr hk dX8_links_39 (Option.some.inj h)
        · have h := bi_f c_5 h
          refine j_iconst (v := (-1)) X dX8_links_21 (by decide) ?_
          exact j_iret X hr hk dX8_links_22 (Option.some.inj h)
abbrev rm_X8_orders : Room := { frames := 6, cells := 0, slots := 0, locals := 135 }
theorem pn_X8_orders : yX8_orders.cls ≠ "java/lang/invoke/MethodHandle" ∧ yX8_orders.cls ≠ "java/lang/invoke/VarHandle" ∧ (parseMethodDescriptor yX8_orders.desc).map (fun d => d.parameters.length) = some 0 := by decide +kernel
def m_X8_orders (G : Mem) : Option (Int32 × Mem) := (m_X8_tallyAll G).bind (fun q_1 => some (m_X5_all q_1, q_1))
set_option maxRecDepth 100000 in
set_option maxHeartbeats 4000000 in
theorem c_X8_orders (l : Launch) (w : WP) (G : Mem) {res : Int32 × Mem} (h0 : m_X8_orders G = some res) : CMi l yX8_orders cX8_orders 1 (some .int) 6 135 w [.ref (w.1 0)] G res := by
  refine CMi.of (by decide +kernel) (Nat.le_of_ble_eq_true rfl) ?_
  intro p e s m args below meth c X hr hk
  have h := bs_i h0
  unfold m_X8_orders at h
  show J p l e rm_X8_orders s m args below meth c (Qint below args s w res) w 1 G 0 [(0, .ref (w.1 0))] []
  refine j_aload_n X dX8_orders_0 rfl 0 rfl ?_
  obtain ⟨q_1, hq_1, h⟩ := bd_s h
  refine j_callVv (As := []) X 0 s_0 rfl (c_X8_tallyAll l w G   hq_1) rfl pn_X8_tallyAll q_733 q_735 q_23 q_59 q_736 ⟨Nat.le_of_ble_eq_true rfl, Nat.le_of_ble_eq_true rfl⟩ (Nat.le_of_ble_eq_true rfl) rfl dX8_orders_1 ?_
  refine j_aload_n X dX8_orders_4 rfl 0 rfl ?_
  refine j_getR (C := RX8) (T := TX8) (N := 9) X 0 s_0 rfl hin_X8 8 (by decide) 66 rfl q_255 dX8_orders_5 ?_
  refine j_callVi (As := []) X 66 s_66 rfl (c_X5_all l w q_1  ) rfl pn_X5_all q_769 q_770 q_771 q_67 q_772 ⟨Nat.le_of_ble_eq_true rfl, Nat.le_of_ble_eq_true rfl⟩ (Nat.le_of_ble_eq_true rfl) rfl dX8_orders_8 ?_
  exact j_iret X hr hk dX8_orders_11 (Option.some.inj h)
abbrev rm_X8_says : Room := { frames := 4, cells := 0, slots := 0, locals := 85 }
theorem pn_X8_says : yX8_says.cls ≠ "java/lang/invoke/MethodHandle" ∧ yX8_says.cls ≠ "java/lang/invoke/VarHandle" ∧ (parseMethodDescriptor yX8_says.desc).map (fun d => d.parameters.length) = some 3 := by decide +kernel
def m_X8_says (G : Mem) (p1 : Int32) (p2 : Int32) (p3 : Int32) : Option (Int32 × Mem) := (m_X8_canBeSaid G p1 p2 p3).bind (fun r_1 => (if r_1 = 0 then some ((-1), G) else (m_X6_sayings G 1).bind (fun r_3 => (if r_3 < 6 then (m_X2_note G).bind (fun q_5 => (m_X6_addSaying q_5 1 p1 p2 p3).bind (fun q_6 => (m_X6_statements q_6 1).bind (fun r_7 => some (r_7, q_6)))) else some ((-3), G)))))
set_option maxRecDepth 100000 in
set_option maxHeartbeats 4000000 in
theorem c_X8_says (l : Launch) (w : WP) (G : Mem) (p1 : Int32) (p2 : Int32) (p3 : Int32) {res : Int32 × Mem} (h0 : m_X8_says G p1 p2 p3 = some res) : CMi l yX8_says cX8_says 4 (some .int) 4 85 w [.ref (w.1 0), .int p1, .int p2, .int p3] G res := by
  refine CMi.of (by decide +kernel) (Nat.le_of_ble_eq_true rfl) ?_
  intro p e s m args below meth c X hr hk
  have h := bs_i h0
  unfold m_X8_says at h
  show J p l e rm_X8_says s m args below meth c (Qint below args s w res) w 4 G 0 [(0, .ref (w.1 0)), (1, .int p1), (2, .int p2), (3, .int p3)] []
  refine j_aload_n X dX8_says_0 rfl 0 rfl ?_
  refine j_iload_n X dX8_says_1 rfl 1 rfl ?_
  refine j_iload_n X dX8_says_2 rfl 2 rfl ?_
  refine j_iload_n X dX8_says_3 rfl 3 rfl ?_
  obtain ⟨r_1, hr_1, h⟩ := bd_s h
  refine j_callVi (As := [.int p1, .int p2, .int p3]) X 0 s_0 rfl (c_X8_canBeSaid l w G  p1 p2 p3 hr_1) rfl pn_X8_canBeSaid q_542 q_544 q_12 q_59 q_545 ⟨Nat.le_of_ble_eq_true rfl, Nat.le_of_ble_eq_true rfl⟩ (Nat.le_of_ble_eq_true rfl) rfl dX8_says_4 ?_
  refine j_if_ne X 12 dX8_says_7 (by decide) (fun c_2 => ?_) (fun c_2 => ?_)
  · have h := bi_f c_2 h
    refine j_aload_n X dX8_says_12 rfl 0 rfl ?_
    refine j_getR (C := RX8) (T := TX8) (N := 9) X 0 s_0 rfl hin_X8 0 (by decide) 1 rfl q_247 dX8_says_13 ?_
    obtain ⟨r_3, hr_3, h⟩ := bd_s h
    refine j_callVi (As := []) X 1 s_1 rfl (c_X6_sayings l w G 1 (Or.inl rfl)  hr_3) rfl pn_X6_sayings q_554 q_330 q_331 q_60 q_332 ⟨Nat.le_of_ble_eq_true rfl, Nat.le_of_ble_eq_true rfl⟩ (Nat.le_of_ble_eq_true rfl) rfl dX8_says_16 ?_
    refine j_bipush (v := 6) X dX8_says_19 (by decide) ?_
    refine j_icmp_lt X 27 dX8_says_21 (by decide) (fun c_4 => ?_) (fun c_4 => ?_)
    · have h := bi_t c_4 h
      refine j_aload_n X dX8_says_27 rfl 0 rfl ?_
      refine j_getR (C := RX8) (T := TX8) (N := 9) X 0 s_0 rfl hin_X8 3 (by decide) 7 rfl q_250 dX8_says_28 ?_
      refine j_aload_n X dX8_says_31 rfl 0 rfl ?_
      refine j_getR (C := RX8) (T := TX8) (N := 9) X 0 s_0 rfl hin_X8 0 (by decide) 1 rfl q_247 dX8_says_32 ?_
      obtain ⟨q_5, hq_5, h⟩ := bd_s h
      refine j_callVv (As := [.ref (w.1 1)]) X 7 s_7 rfl (c_X2_note l w G   hq_5) rfl pn_X2_note q_555 q_556 q_557 q_62 q_558 ⟨Nat.le_of_ble_eq_true rfl, Nat.le_of_ble_eq_true rfl⟩ (Nat.le_of_ble_eq_true rfl) rfl dX8_says_35 ?_
      refine j_aload_n X dX8_says_38 rfl 0 rfl ?_
      refine j_getR (C := RX8) (T := TX8) (N := 9) X 0 s_0 rfl hin_X8 0 (by decide) 1 rfl q_247 dX8_says_39 ?_
      refine j_iload_n X dX8_says_42 rfl 1 rfl ?_
      refine j_iload_n X dX8_says_43 rfl 2 rfl ?_
      refine j_iload_n X dX8_says_44 rfl 3 rfl ?_
      obtain ⟨q_6, hq_6, h⟩ := bd_s h
      refine j_callVv (As := [.int p1, .int p2, .int p3]) X 1 s_1 rfl (c_X6_addSaying l w q_5 1 (Or.inl rfl) p1 p2 p3 hq_6) rfl pn_X6_addSaying q_564 q_460 q_461 q_60 q_462 ⟨Nat.le_of_ble_eq_true rfl, Nat.le_of_ble_eq_true rfl⟩ (Nat.le_of_ble_eq_true rfl) rfl dX8_says_45 ?_
      refine j_aload_n X dX8_says_48 rfl 0 rfl ?_
      refine j_getR (C := RX8) (T := TX8) (N := 9) X 0 s_0 rfl hin_X8 0 (by decide) 1 rfl q_247 dX8_says_49 ?_
      obtain ⟨r_7, hr_7, h⟩ := bd_s h
      refine j_callVi (As := []) X 1 s_1 rfl (c_X6_statements l w q_6 1 (Or.inl rfl)  hr_7) rfl pn_X6_statements q_482 q_334 q_335 q_60 q_336 ⟨Nat.le_of_ble_eq_true rfl, Nat.le_of_ble_eq_true rfl⟩ (Nat.le_of_ble_eq_true rfl) rfl dX8_says_52 ?_
      exact j_iret X hr hk dX8_says_55 (Option.some.inj h)
    · have h := bi_f c_4 h
      refine j_bipush (v := (-3)) X dX8_says_24 (by decide) ?_
      exact j_iret X hr hk dX8_says_26 (Option.some.inj h)
  · have h := bi_t c_2 h
    refine j_iconst (v := (-1)) X dX8_says_10 (by decide) ?_
    exact j_iret X hr hk dX8_says_11 (Option.some.inj h)
