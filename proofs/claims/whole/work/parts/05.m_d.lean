abbrev rm_X5_empty : Room := { frames := 0, cells := 0, slots := 0, locals := 0 }
theorem pn_X5_empty : yX5_empty.cls ≠ "java/lang/invoke/MethodHandle" ∧ yX5_empty.cls ≠ "java/lang/invoke/VarHandle" ∧ (parseMethodDescriptor yX5_empty.desc).map (fun d => d.parameters.length) = some 0 := by decide +kernel
def L_X5_empty_12 : Nat → Int32 → Mem → Option (Mem)
  | 0, _, _ => none
  | n + 1, x1, G => (if 256 ≤ x1 then some G else (ast 256 G 69 x1 0).bind (fun q_2 => (ast 256 q_2 70 x1 0).bind (fun q_3 => L_X5_empty_12  n (x1 + 1) q_3)))
def L_X5_empty_63 (x1 : Int32) : Nat → Int32 → Mem → Option (Mem)
  | 0, _, _ => none
  | n + 1, x2, G => (if 8 ≤ x2 then some G else (aal 8 73 x1).bind (fun k_9 => (ast 8 G k_9 x2 0).bind (fun q_10 => L_X5_empty_63 x1 n (x2 + 1) q_10)))
def L_X5_empty_41 : Nat → Int32 → Mem → Option (Mem)
  | 0, _, _ => none
  | n + 1, x1, G => (if 8 ≤ x1 then some G else (ast 8 G 67 x1 x1).bind (fun q_6 => (ast 8 q_6 68 x1 0).bind (fun q_7 => (L_X5_empty_63 x1 NF 0 q_7).bind (fun v_11 => L_X5_empty_41  n (x1 + 1) v_11))))
def m_X5_empty (G : Mem) : Option (Mem) := (L_X5_empty_12  NF 0 (upm (upm G 66 6 0) 66 7 0)).bind (fun v_4 => (L_X5_empty_41  NF 0 v_4).bind (fun v_12 => some v_12))
set_option maxRecDepth 100000 in
set_option maxHeartbeats 4000000 in
theorem jL_X5_empty_12 {p : Program} {l : Launch} {e : Env} {s : State} {m : MethodId} {args : Array Value} {below : List Frame} {meth : Method} {c : Code} {w : WP} (X : fw_X p s m args c cX5_empty 3 RX5 w) (hr : meth.sig.returnType = none) (hk : meth.locks = false) {res : Mem} {K : Mem → Option (Mem)} (HK : ∀ v : Mem, K v = some res → J p l e rm_X5_empty s m args below meth c (Qvoid below args s w res) w 3 v 39 [(0, .ref (w.1 66))] []) : ∀ (n : Nat) (x1 : Int32) (G : Mem), (L_X5_empty_12  n x1 G).bind K = some res → J p l e rm_X5_empty s m args below meth c (Qvoid below args s w res) w 3 G 12 [(0, .ref (w.1 66)), (1, .int x1)] [] := by
  intro n
  induction n with
  | zero =>
    intro x1 G h
    rw [L_X5_empty_12] at h
    cases h
  | succ n ih =>
    intro x1 G h
    rw [L_X5_empty_12] at h
    refine j_iload_n X dX5_empty_12 rfl 1 rfl ?_
    refine j_sipush (v := 256) X dX5_empty_13 (by decide) ?_
    refine j_icmp_ge X 39 dX5_empty_16 (by decide) (fun c_1 => ?_) (fun c_1 => ?_)
    · have h := bi_t c_1 h
      refine j_pick [0] rfl ?_
      exact HK G h
    · have h := bi_f c_1 h
      refine j_aload_n X dX5_empty_19 rfl 0 rfl ?_
      refine j_getR (C := RX5) (T := TX5) (N := 8) X 66 s_66 rfl hin_X5 2 (by decide) 69 rfl q_224 dX5_empty_20 ?_
      refine j_iload_n X dX5_empty_23 rfl 1 rfl ?_
      refine j_iconst (v := 0) X dX5_empty_24 (by decide) ?_
      obtain ⟨q_2, hq_2, h⟩ := bd_s h
      refine j_iast X 69 256 s_69 hq_2 dX5_empty_25 ?_
      refine j_aload_n X dX5_empty_26 rfl 0 rfl ?_
      refine j_getR (C := RX5) (T := TX5) (N := 8) X 66 s_66 rfl hin_X5 3 (by decide) 70 rfl q_225 dX5_empty_27 ?_
      refine j_iload_n X dX5_empty_30 rfl 1 rfl ?_
      refine j_iconst (v := 0) X dX5_empty_31 (by decide) ?_
      obtain ⟨q_3, hq_3, h⟩ := bd_s h
      refine j_iast X 70 256 s_70 hq_3 dX5_empty_32 ?_
      refine j_iinc (v := x1 + 1) X [(1, .int (x1 + 1)), (0, .ref (w.1 66))] dX5_empty_33 1 rfl rfl (by decide) rfl ?_
      refine j_goto X 12 dX5_empty_36 (by decide) ?_
      refine j_pick [1, 0] rfl ?_
      exact ih (x1 + 1) q_3 h
set_option maxRecDepth 100000 in
set_option maxHeartbeats 4000000 in
theorem jL_X5_empty_63 {p : Program} {l : Launch} {e : Env} {s : State} {m : MethodId} {args : Array Value} {below : List Frame} {meth : Method} {c : Code} {w : WP} (X : fw_X p s m args c cX5_empty 3 RX5 w) (hr : meth.sig.returnType = none) (hk : meth.locks = false) {x1 : Int32} {res : Mem} {K : Mem → Option (Mem)} (HK : ∀ v : Mem, K v = some res → J p l e rm_X5_empty s m args below meth c (Qvoid below args s w res) w 3 v 84 [(0, .ref (w.1 66)), (1, .int x1)] []) : ∀ (n : Nat) (x2 : Int32) (G : Mem), (L_X5_empty_63 x1 n x2 G).bind K = some res → J p l e rm_X5_empty s m args below meth c (Qvoid below args s w res) w 3 G 63 [(0, .ref (w.1 66)), (1, .int x1), (2, .int x2)] [] := by
  intro n
  induction n with
  | zero =>
    intro x2 G h
    rw [L_X5_empty_63] at h
    cases h
  | succ n ih =>
    intro x2 G h
    rw [L_X5_empty_63] at h
    refine j_iload_n X dX5_empty_63 rfl 2 rfl ?_
    refine j_bipush (v := 8) X dX5_empty_64 (by decide) ?_
    refine j_icmp_ge X 84 dX5_empty_66 (by decide) (fun c_8 => ?_) (fun c_8 => ?_)
    · have h := bi_t c_8 h
      refine j_pick [0, 1] rfl ?_
      exact HK G h
    · have h := bi_f c_8 h
      refine j_aload_n X dX5_empty_69 rfl 0 rfl ?_
      refine j_getR (C := RX5) (T := TX5) (N := 8) X 66 s_66 rfl hin_X5 5 (by decide) 72 rfl q_227 dX5_empty_70 ?_
      refine j_iload_n X dX5_empty_73 rfl 1 rfl ?_
      obtain ⟨k_9, hk_9, h⟩ := bd_s h
      refine j_aald X 72 8 73 s_72 hk_9 dX5_empty_74 ?_
      refine j_iload_n X dX5_empty_75 rfl 2 rfl ?_
      refine j_iconst (v := 0) X dX5_empty_76 (by decide) ?_
      obtain ⟨q_10, hq_10, h⟩ := bd_s h
      refine j_iast X k_9 8 (s_row73 hk_9) hq_10 dX5_empty_77 ?_
      refine j_iinc (v := x2 + 1) X [(2, .int (x2 + 1)), (0, .ref (w.1 66)), (1, .int x1)] dX5_empty_78 2 rfl rfl (by decide) rfl ?_
      refine j_goto X 63 dX5_empty_81 (by decide) ?_
      refine j_pick [1, 2, 0] rfl ?_
      exact ih (x2 + 1) q_10 h
set_option maxRecDepth 100000 in
set_option maxHeartbeats 4000000 in
theorem jL_X5_empty_41 {p : Program} {l : Launch} {e : Env} {s : State} {m : MethodId} {args : Array Value} {below : List Frame} {meth : Method} {c : Code} {w : WP} (X : fw_X p s m args c cX5_empty 3 RX5 w) (hr : meth.sig.returnType = none) (hk : meth.locks = false) {res : Mem} {K : Mem → Option (Mem)} (HK : ∀ v : Mem, K v = some res → J p l e rm_X5_empty s m args below meth c (Qvoid below args s w res) w 3 v 90 [] []) : ∀ (n : Nat) (x1 : Int32) (G : Mem), (L_X5_empty_41  n x1 G).bind K = some res → J p l e rm_X5_empty s m args below meth c (Qvoid below args s w res) w 3 G 41 [(0, .ref (w.1 66)), (1, .int x1)] [] := by
  intro n
  induction n with
  | zero =>
    intro x1 G h
    rw [L_X5_empty_41] at h
    cases h
  | succ n ih =>
    intro x1 G h
    rw [L_X5_empty_41] at h
    refine j_iload_n X dX5_empty_41 rfl 1 rfl ?_
    refine j_bipush (v := 8) X dX5_empty_42 (by decide) ?_
    refine j_icmp_ge X 90 dX5_empty_44 (by decide) (fun c_5 => ?_) (fun c_5 => ?_)
    · have h := bi_t c_5 h
      refine j_pick [] rfl ?_
      exact HK G h
    · have h := bi_f c_5 h
      refine j_aload_n X dX5_empty_47 rfl 0 rfl ?_
      refine j_getR (C := RX5) (T := TX5) (N := 8) X 66 s_66 rfl hin_X5 0 (by decide) 67 rfl q_222 dX5_empty_48 ?_
      refine j_iload_n X dX5_empty_51 rfl 1 rfl ?_
      refine j_iload_n X dX5_empty_52 rfl 1 rfl ?_
      obtain ⟨q_6, hq_6, h⟩ := bd_s h
      refine j_iast X 67 8 s_67 hq_6 dX5_empty_53 ?_
      refine j_aload_n X dX5_empty_54 rfl 0 rfl ?_
      refine j_getR (C := RX5) (T := TX5) (N := 8) X 66 s_66 rfl hin_X5 1 (by decide) 68 rfl q_223 dX5_empty_55 ?_
      refine j_iload_n X dX5_empty_58 rfl 1 rfl ?_
      refine j_iconst (v := 0) X dX5_empty_59 (by decide) ?_
      obtain ⟨q_7, hq_7, h⟩ := bd_s h
      refine j_iast X 68 8 s_68 hq_7 dX5_empty_60 ?_
      refine j_iconst (v := 0) X dX5_empty_61 (by decide) ?_
      refine j_istore_n X [(2, .int 0), (0, .ref (w.1 66)), (1, .int x1)] dX5_empty_62 rfl (by decide) rfl ?_
      have h := bb_a h
      have Hv_11 : ∀ v_11 : Mem, (L_X5_empty_41  n (x1 + 1) v_11).bind K = some res → J p l e rm_X5_empty s m args below meth c (Qvoid below args s w res) w 3 v_11 84 [(0, .ref (w.1 66)), (1, .int x1)] [] := by
        intro v_11 h
        refine j_iinc (v := x1 + 1) X [(1, .int (x1 + 1)), (0, .ref (w.1 66))] dX5_empty_84 1 rfl rfl (by decide) rfl ?_
        refine j_goto X 41 dX5_empty_87 (by decide) ?_
        refine j_pick [1, 0] rfl ?_
        exact ih (x1 + 1) v_11 h
      refine j_pick [1, 2, 0] rfl ?_
      exact jL_X5_empty_63 X hr hk Hv_11 NF 0 q_7 h
set_option maxRecDepth 100000 in
set_option maxHeartbeats 4000000 in
theorem c_X5_empty (l : Launch) (w : WP) (G : Mem) {res : Mem} (h0 : m_X5_empty G = some res) : CMv l yX5_empty cX5_empty 3 none 0 0 w [.ref (w.1 66)] G res := by
  refine CMv.of (by decide +kernel) (Nat.le_of_ble_eq_true rfl) ?_
  intro p e s m args below meth c X hr hk
  have h := bs_i h0
  unfold m_X5_empty at h
  show J p l e rm_X5_empty s m args below meth c (Qvoid below args s w res) w 3 G 0 [(0, .ref (w.1 66))] []
  refine j_aload_n X dX5_empty_0 rfl 0 rfl ?_
  refine j_iconst (v := 0) X dX5_empty_1 (by decide) ?_
  refine j_putI (C := RX5) (T := TX5) (N := 8) X tyX5 tyX5_ok nmX5 66 s_66 rfl hin_X5 6 (by decide) rfl q_228 rfl rfl dX5_empty_2 ?_
  refine j_aload_n X dX5_empty_5 rfl 0 rfl ?_
  refine j_iconst (v := 0) X dX5_empty_6 (by decide) ?_
  refine j_putI (C := RX5) (T := TX5) (N := 8) X tyX5 tyX5_ok nmX5 66 s_66 rfl hin_X5 7 (by decide) rfl q_229 rfl rfl dX5_empty_7 ?_
  refine j_iconst (v := 0) X dX5_empty_10 (by decide) ?_
  refine j_istore_n X [(1, .int 0), (0, .ref (w.1 66))] dX5_empty_11 rfl (by decide) rfl ?_
  have h := bb_a h
  have Hv_4 : ∀ v_4 : Mem, ((L_X5_empty_41  NF 0 v_4).bind (fun v_12 => some v_12)).bind some = some res → J p l e rm_X5_empty s m args below meth c (Qvoid below args s w res) w 3 v_4 39 [(0, .ref (w.1 66))] [] := by
    intro v_4 h
    refine j_iconst (v := 0) X dX5_empty_39 (by decide) ?_
    refine j_istore_n X [(1, .int 0), (0, .ref (w.1 66))] dX5_empty_40 rfl (by decide) rfl ?_
    have h := bb_a h
    have Hv_12 : ∀ v_12 : Mem, (some v_12).bind some = some res → J p l e rm_X5_empty s m args below meth c (Qvoid below args s w res) w 3 v_12 90 [] [] := by
      intro v_12 h
      exact j_vret X hr hk dX5_empty_90 (Option.some.inj h)
    refine j_pick [1, 0] rfl ?_
    exact jL_X5_empty_41 X hr hk Hv_12 NF 0 v_4 h
  refine j_pick [1, 0] rfl ?_
  exact jL_X5_empty_12 X hr hk Hv_4 NF 0 (upm (upm G 66 6 0) 66 7 0) h
abbrev rm_X5_isWithin : Room := { frames := 0, cells := 0, slots := 0, locals := 0 }
theorem pn_X5_isWithin : yX5_isWithin.cls ≠ "java/lang/invoke/MethodHandle" ∧ yX5_isWithin.cls ≠ "java/lang/invoke/VarHandle" ∧ (parseMethodDescriptor yX5_isWithin.desc).map (fun d => d.parameters.length) = some 1 := by decide +kernel
def m_X5_isWithin (p1 : Int32) : Int32 := (if p1 < 0 then 0 else (if 8 ≤ p1 then 0 else 1))
set_option maxRecDepth 100000 in
set_option maxHeartbeats 4000000 in
theorem c_X5_isWithin (l : Launch) (w : WP) (G : Mem) (p1 : Int32) : CMi l yX5_isWithin cX5_isWithin 1 (some .boolean) 0 0 w [.int p1] G (m_X5_isWithin p1, G) := by
  refine CMi.of (by decide +kernel) (Nat.le_of_ble_eq_true rfl) ?_
  intro p e s m args below meth c X hr hk
  obtain ⟨res, h⟩ : ∃ z, m_X5_isWithin p1 = z := ⟨_, rfl⟩
  rw [h]
  unfold m_X5_isWithin at h
  show J p l e rm_X5_isWithin s m args below meth c (Qint below args s w (res, G)) w 1 G 0 [(0, .int p1)] []
  refine j_iload_n X dX5_isWithin_0 rfl 0 rfl ?_
  refine j_if_lt X 14 dX5_isWithin_1 (by decide) (fun c_1 => ?_) (fun c_1 => ?_)
  · have h := pi_t c_1 h
    refine j_iconst (v := 0) X dX5_isWithin_14 (by decide) ?_
    exact j_zret X hr hk (by decide) dX5_isWithin_15 (congrArg (fun z => (z, G)) (h))
  · have h := pi_f c_1 h
    refine j_iload_n X dX5_isWithin_4 rfl 0 rfl ?_
    refine j_bipush (v := 8) X dX5_isWithin_5 (by decide) ?_
    refine j_icmp_ge X 14 dX5_isWithin_7 (by decide) (fun c_2 => ?_) (fun c_2 => ?_)
    · have h := pi_t c_2 h
      refine j_iconst (v := 0) X dX5_isWithin_14 (by decide) ?_
      exact j_zret X hr hk (by decide) dX5_isWithin_15 (congrArg (fun z => (z, G)) (h))
    · have h := pi_f c_2 h
      refine j_iconst (v := 1) X dX5_isWithin_10 (by decide) ?_
      refine j_goto X 15 dX5_isWithin_11 (by decide) ?_
      exact j_zret X hr hk (by decide) dX5_isWithin_15 (congrArg (fun z => (z, G)) (h))
abbrev rm_X5_putTogether : Room := { frames := 3, cells := 0, slots := 0, locals := 65 }
theorem pn_X5_putTogether : yX5_putTogether.cls ≠ "java/lang/invoke/MethodHandle" ∧ yX5_putTogether.cls ≠ "java/lang/invoke/VarHandle" ∧ (parseMethodDescriptor yX5_putTogether.desc).map (fun d => d.parameters.length) = some 2 := by decide +kernel
def L_X5_putTogether_12 (x2 : Int32) : Nat → Int32 → Mem → Option (Mem)
  | 0, _, _ => none
  | n + 1, x3, G => (if x3 < 0 then some G else (m_X1_tells G 27 (m_X8_eventOf x3) (m_X8_eventOf x2)).bind (fun r_3 => ((if r_3 = 2 then (ast 8 G 67 x2 x3).bind (fun q_6 => some q_6) else some G) : Option (Mem)).bind (fun (v_4 : Mem) => L_X5_putTogether_12 x2 n (x3 + (-1)) v_4)))
def m_X5_putTogether (G : Mem) (p1 : Int32) : Option (Mem) := (if (m_X5_isWithin p1) = 0 then some G else (L_X5_putTogether_12 p1 NF (p1 - 1) G).bind (fun v_7 => (ald 8 v_7 67 p1).bind (fun r_8 => some (upm v_7 66 6 ((v_7 66 6) ||| (1 <<< (r_8 &&& 31)))))))
set_option maxRecDepth 100000 in
set_option maxHeartbeats 4000000 in
theorem jL_X5_putTogether_12 {p : Program} {l : Launch} {e : Env} {s : State} {m : MethodId} {args : Array Value} {below : List Frame} {meth : Method} {c : Code} {w : WP} (X : fw_X p s m args c cX5_putTogether 4 RX5 w) (hr : meth.sig.returnType = none) (hk : meth.locks = false) {x2 : Int32} {res : Mem} {K : Mem → Option (Mem)} (HK : ∀ v : Mem, K v = some res → J p l e rm_X5_putTogether s m args below meth c (Qvoid below args s w res) w 4 v 45 [(0, .ref (w.1 66)), (2, .int x2)] []) : ∀ (n : Nat) (x3 : Int32) (G : Mem), (L_X5_putTogether_12 x2 n x3 G).bind K = some res → J p l e rm_X5_putTogether s m args below meth c (Qvoid below args s w res) w 4 G 12 [(0, .ref (w.1 66)), (1, .ref (w.1 27)), (2, .int x2), (3, .int x3)] [] := by
  intro n
  induction n with
  | zero =>
    intro x3 G h
    rw [L_X5_putTogether_12] at h
    cases h
  | succ n ih =>
    intro x3 G h
    rw [L_X5_putTogether_12] at h
    refine j_iload_n X dX5_putTogether_12 rfl 3 rfl ?_
    refine j_if_lt X 45 dX5_putTogether_13 (by decide) (fun c_2 => ?_) (fun c_2 => ?_)
    · have h := bi_t c_2 h
      refine j_pick [0, 2] rfl ?_
      exact HK G h
    · have h := bi_f c_2 h
      refine j_aload_n X dX5_putTogether_16 rfl 1 rfl ?_
      refine j_iload_n X dX5_putTogether_17 rfl 3 rfl ?_
      refine j_callNi (As := [.int x3]) X (c_X8_eventOf l w G  x3) pn_X8_eventOf nm_5 q_327 q_59 q_328 ⟨Nat.le_of_ble_eq_true rfl, Nat.le_of_ble_eq_true rfl⟩ (Nat.le_of_ble_eq_true rfl) rfl dX5_putTogether_18 ?_
      refine j_iload_n X dX5_putTogether_21 rfl 2 rfl ?_
      refine j_callNi (As := [.int x2]) X (c_X8_eventOf l w G  x2) pn_X8_eventOf nm_5 q_327 q_59 q_328 ⟨Nat.le_of_ble_eq_true rfl, Nat.le_of_ble_eq_true rfl⟩ (Nat.le_of_ble_eq_true rfl) rfl dX5_putTogether_22 ?_
      obtain ⟨r_3, hr_3, h⟩ := bd_s h
      refine j_callVi (As := [.int (m_X8_eventOf x3), .int (m_X8_eventOf x2)]) X 27 s_27 rfl (c_X1_tells l w G 27 (Or.inl rfl) (m_X8_eventOf x3) (m_X8_eventOf x2) hr_3) rfl pn_X1_tells q_754 q_704 q_705 q_65 q_706 ⟨Nat.le_of_ble_eq_true rfl, Nat.le_of_ble_eq_true rfl⟩ (Nat.le_of_ble_eq_true rfl) rfl dX5_putTogether_25 ?_
      refine j_iconst (v := 2) X dX5_putTogether_28 (by decide) ?_
      have h := bb_a h
      have Hv_4 : ∀ v_4 : Mem, (L_X5_putTogether_12 x2 n (x3 + (-1)) v_4).bind K = some res → J p l e rm_X5_putTogether s m args below meth c (Qvoid below args s w res) w 4 v_4 39 [(0, .ref (w.1 66)), (1, .ref (w.1 27)), (2, .int x2), (3, .int x3)] [] := by
        intro v_4 h
        refine j_iinc (v := x3 + (-1)) X [(3, .int (x3 + (-1))), (0, .ref (w.1 66)), (1, .ref (w.1 27)), (2, .int x2)] dX5_putTogether_39 3 rfl rfl (by decide) rfl ?_
        refine j_goto X 12 dX5_putTogether_42 (by decide) ?_
        refine j_pick [1, 2, 3, 0] rfl ?_
        exact ih (x3 + (-1)) v_4 h
      refine j_icmp_ne X 39 dX5_putTogether_29 (by decide) (fun c_5 => ?_) (fun c_5 => ?_)
      · have h := bi_f c_5 h
        refine j_pick [0, 1, 2, 3] rfl ?_
        exact Hv_4 G h
      · have h := bi_t c_5 h
        refine j_aload_n X dX5_putTogether_32 rfl 0 rfl ?_
        refine j_getR (C := RX5) (T := TX5) (N := 8) X 66 s_66 rfl hin_X5 0 (by decide) 67 rfl q_222 dX5_putTogether_33 ?_
        refine j_iload_n X dX5_putTogether_36 rfl 2 rfl ?_
        refine j_iload_n X dX5_putTogether_37 rfl 3 rfl ?_
        obtain ⟨q_6, hq_6, h⟩ := bd_s h
        refine j_iast X 67 8 s_67 hq_6 dX5_putTogether_38 ?_
        refine j_pick [0, 1, 2, 3] rfl ?_
        exact Hv_4 q_6 h
set_option maxRecDepth 100000 in
set_option maxHeartbeats 4000000 in
theorem c_X5_putTogether (l : Launch) (w : WP) (G : Mem) (p1 : Int32) {res : Mem} (h0 : m_X5_putTogether G p1 = some res) : CMv l yX5_putTogether cX5_putTogether 4 none 3 65 w [.ref (w.1 66), .ref (w.1 27), .int p1] G res := by
  refine CMv.of (by decide +kernel) (Nat.le_of_ble_eq_true rfl) ?_
  intro p e s m args below meth c X hr hk
  have h := bs_i h0
  unfold m_X5_putTogether at h
  show J p l e rm_X5_putTogether s m args below meth c (Qvoid below args s w res) w 4 G 0 [(0, .ref (w.1 66)), (1, .ref (w.1 27)), (2, .int p1)] []
  refine j_iload_n X dX5_putTogether_0 rfl 2 rfl ?_
  refine j_callSi (As := [.int p1]) X (c_X5_isWithin l w G  p1) pn_X5_isWithin q_750 q_751 q_67 q_752 ⟨Nat.le_of_ble_eq_true rfl, Nat.le_of_ble_eq_true rfl⟩ (Nat.le_of_ble_eq_true rfl) rfl dX5_putTogether_1 ?_
  refine j_if_ne X 8 dX5_putTogether_4 (by decide) (fun c_1 => ?_) (fun c_1 => ?_)
  · have h := bi_f c_1 h
    refine j_iload_n X dX5_putTogether_8 rfl 2 rfl ?_
    refine j_iconst (v := 1) X dX5_putTogether_9 (by decide) ?_
    refine j_isub X dX5_putTogether_10 ?_
    refine j_istore_n X [(3, .int (p1 - 1)), (0, .ref (w.1 66)), (1, .ref (w.1 27)), (2, .int p1)] dX5_putTogether_11 rfl (by decide) rfl ?_
    have h := bb_a h
    have Hv_7 : ∀ v_7 : Mem, ((ald 8 v_7 67 p1).bind (fun r_8 => some (upm v_7 66 6 ((v_7 66 6) ||| (1 <<< (r_8 &&& 31)))))).bind some = some res → J p l e rm_X5_putTogether s m args below meth c (Qvoid below args s w res) w 4 v_7 45 [(0, .ref (w.1 66)), (2, .int p1)] [] := by
      intro v_7 h
      refine j_aload_n X dX5_putTogether_45 rfl 0 rfl ?_
      refine j_dup X dX5_putTogether_46 rfl ?_
      refine j_getI (C := RX5) (T := TX5) (N := 8) X 66 s_66 rfl hin_X5 6 (by decide) rfl q_228 dX5_putTogether_47 ?_
      refine j_iconst (v := 1) X dX5_putTogether_50 (by decide) ?_
      refine j_aload_n X dX5_putTogether_51 rfl 0 rfl ?_
      refine j_getR (C := RX5) (T := TX5) (N := 8) X 66 s_66 rfl hin_X5 0 (by decide) 67 rfl q_222 dX5_putTogether_52 ?_
      refine j_iload_n X dX5_putTogether_55 rfl 1 rfl ?_
      obtain ⟨r_8, hr_8, h⟩ := bd_s h
      refine j_iald X 67 8 s_67 hr_8 dX5_putTogether_56 ?_
      refine j_ishl X dX5_putTogether_57 ?_
      refine j_ior X dX5_putTogether_58 ?_
      refine j_putI (C := RX5) (T := TX5) (N := 8) X tyX5 tyX5_ok nmX5 66 s_66 rfl hin_X5 6 (by decide) rfl q_228 rfl rfl dX5_putTogether_59 ?_
      exact j_vret X hr hk dX5_putTogether_62 (Option.some.inj h)
    refine j_pick [1, 2, 3, 0] rfl ?_
    exact jL_X5_putTogether_12 X hr hk Hv_7 NF (p1 - 1) G h
  · have h := bi_t c_1 h
    exact j_vret X hr hk dX5_putTogether_7 (Option.some.inj h)
abbrev rm_X5_noteBefore : Room := { frames := 2, cells := 0, slots := 0, locals := 43 }
theorem pn_X5_noteBefore : yX5_noteBefore.cls ≠ "java/lang/invoke/MethodHandle" ∧ yX5_noteBefore.cls ≠ "java/lang/invoke/VarHandle" ∧ (parseMethodDescriptor yX5_noteBefore.desc).map (fun d => d.parameters.length) = some 2 := by decide +kernel
def L_X5_noteBefore_10 (x2 : Int32) : Nat → Int32 → Mem → Option (Mem)
  | 0, _, _ => none
  | n + 1, x3, G => (if 8 ≤ x3 then some G else ((if (m_X8_has (G 66 6) x3) = 0 then some G else (m_X1_isAhead G 27 (m_X8_eventOf x3) (m_X8_eventOf x2)).bind (fun r_5 => (if r_5 = 0 then some G else (ald 8 G 68 x2).bind (fun r_7 => (ast 8 G 68 x2 (r_7 ||| (1 <<< (x3 &&& 31)))).bind (fun q_8 => some q_8))))) : Option (Mem)).bind (fun (v_3 : Mem) => L_X5_noteBefore_10 x2 n (x3 + 1) v_3))
def m_X5_noteBefore (G : Mem) (p1 : Int32) : Option (Mem) := (if (m_X5_isWithin p1) = 0 then some G else (L_X5_noteBefore_10 p1 NF 0 G).bind (fun v_9 => some v_9))
set_option maxRecDepth 100000 in
set_option maxHeartbeats 4000000 in
theorem jL_X5_noteBefore_10 {p : Program} {l : Launch} {e : Env} {s : State} {m : MethodId} {args : Array Value} {below : List Frame} {meth : Method} {c : Code} {w : WP} (X : fw_X p s m args c cX5_noteBefore 4 RX5 w) (hr : meth.sig.returnType = none) (hk : meth.locks = false) {x2 : Int32} {res : Mem} {K : Mem → Option (Mem)} (HK : ∀ v : Mem, K v = some res → J p l e rm_X5_noteBefore s m args below meth c (Qvoid below args s w res) w 4 v 60 [] []) : ∀ (n : Nat) (x3 : Int32) (G : Mem), (L_X5_noteBefore_10 x2 n x3 G).bind K = some res → J p l e rm_X5_noteBefore s m args below meth c (Qvoid below args s w res) w 4 G 10 [(0, .ref (w.1 66)), (1, .ref (w.1 27)), (2, .int x2), (3, .int x3)] [] := by
  intro n
  induction n with
  | zero =>
    intro x3 G h
    rw [L_X5_noteBefore_10] at h
    cases h
  | succ n ih =>
    intro x3 G h
    rw [L_X5_noteBefore_10] at h
    refine j_iload_n X dX5_noteBefore_10 rfl 3 rfl ?_
    refine j_bipush (v := 8) X dX5_noteBefore_11 (by decide) ?_
    refine j_icmp_ge X 60 dX5_noteBefore_13 (by decide) (fun c_2 => ?_) (fun c_2 => ?_)
    · have h := bi_t c_2 h
      refine j_pick [] rfl ?_
      exact HK G h
    · have h := bi_f c_2 h
      refine j_aload_n X dX5_noteBefore_16 rfl 0 rfl ?_
      refine j_getI (C := RX5) (T := TX5) (N := 8) X 66 s_66 rfl hin_X5 6 (by decide) rfl q_228 dX5_noteBefore_17 ?_
      refine j_iload_n X dX5_noteBefore_20 rfl 3 rfl ?_
      refine j_callNi (As := [.int (G 66 6), .int x3]) X (c_X8_has l w G  (G 66 6) x3) pn_X8_has nm_6 q_620 q_59 q_621 ⟨Nat.le_of_ble_eq_true rfl, Nat.le_of_ble_eq_true rfl⟩ (Nat.le_of_ble_eq_true rfl) rfl dX5_noteBefore_21 ?_
      have h := bb_a h
      have Hv_3 : ∀ v_3 : Mem, (L_X5_noteBefore_10 x2 n (x3 + 1) v_3).bind K = some res → J p l e rm_X5_noteBefore s m args below meth c (Qvoid below args s w res) w 4 v_3 54 [(0, .ref (w.1 66)), (1, .ref (w.1 27)), (2, .int x2), (3, .int x3)] [] := by
        intro v_3 h
        refine j_iinc (v := x3 + 1) X [(3, .int (x3 + 1)), (0, .ref (w.1 66)), (1, .ref (w.1 27)), (2, .int x2)] dX5_noteBefore_54 3 rfl rfl (by decide) rfl ?_
        refine j_goto X 10 dX5_noteBefore_57 (by decide) ?_
        refine j_pick [1, 2, 3, 0] rfl ?_
        exact ih (x3 + 1) v_3 h
      refine j_if_eq X 54 dX5_noteBefore_24 (by decide) (fun c_4 => ?_) (fun c_4 => ?_)
      · have h := bi_t c_4 h
        refine j_pick [0, 1, 2, 3] rfl ?_
        exact Hv_3 G h
      · have h := bi_f c_4 h
        refine j_aload_n X dX5_noteBefore_27 rfl 1 rfl ?_
        refine j_iload_n X dX5_noteBefore_28 rfl 3 rfl ?_
        refine j_callNi (As := [.int x3]) X (c_X8_eventOf l w G  x3) pn_X8_eventOf nm_5 q_327 q_59 q_328 ⟨Nat.le_of_ble_eq_true rfl, Nat.le_of_ble_eq_true rfl⟩ (Nat.le_of_ble_eq_true rfl) rfl dX5_noteBefore_29 ?_
        refine j_iload_n X dX5_noteBefore_32 rfl 2 rfl ?_
        refine j_callNi (As := [.int x2]) X (c_X8_eventOf l w G  x2) pn_X8_eventOf nm_5 q_327 q_59 q_328 ⟨Nat.le_of_ble_eq_true rfl, Nat.le_of_ble_eq_true rfl⟩ (Nat.le_of_ble_eq_true rfl) rfl dX5_noteBefore_33 ?_
        obtain ⟨r_5, hr_5, h⟩ := bd_s h
        refine j_callVi (As := [.int (m_X8_eventOf x3), .int (m_X8_eventOf x2)]) X 27 s_27 rfl (c_X1_isAhead l w G 27 (Or.inl rfl) (m_X8_eventOf x3) (m_X8_eventOf x2) hr_5) rfl pn_X1_isAhead q_760 q_709 q_710 q_65 q_711 ⟨Nat.le_of_ble_eq_true rfl, Nat.le_of_ble_eq_true rfl⟩ (Nat.le_of_ble_eq_true rfl) rfl dX5_noteBefore_36 ?_
        refine j_if_eq X 54 dX5_noteBefore_39 (by decide) (fun c_6 => ?_) (fun c_6 => ?_)
        · have h := bi_t c_6 h
          refine j_pick [0, 1, 2, 3] rfl ?_
          exact Hv_3 G h
        · have h := bi_f c_6 h
          refine j_aload_n X dX5_noteBefore_42 rfl 0 rfl ?_
          refine j_getR (C := RX5) (T := TX5) (N := 8) X 66 s_66 rfl hin_X5 1 (by decide) 68 rfl q_223 dX5_noteBefore_43 ?_
          refine j_iload_n X dX5_noteBefore_46 rfl 2 rfl ?_
          refine j_dup2 X dX5_noteBefore_47 rfl rfl ?_
          obtain ⟨r_7, hr_7, h⟩ := bd_s h
          refine j_iald X 68 8 s_68 hr_7 dX5_noteBefore_48 ?_
          refine j_iconst (v := 1) X dX5_noteBefore_49 (by decide) ?_
          refine j_iload_n X dX5_noteBefore_50 rfl 3 rfl ?_
          refine j_ishl X dX5_noteBefore_51 ?_
          refine j_ior X dX5_noteBefore_52 ?_
          obtain ⟨q_8, hq_8, h⟩ := bd_s h
          refine j_iast X 68 8 s_68 hq_8 dX5_noteBefore_53 ?_
          refine j_pick [0, 1, 2, 3] rfl ?_
          exact Hv_3 q_8 h
set_option maxRecDepth 100000 in
set_option maxHeartbeats 4000000 in
theorem c_X5_noteBefore (l : Launch) (w : WP) (G : Mem) (p1 : Int32) {res : Mem} (h0 : m_X5_noteBefore G p1 = some res) : CMv l yX5_noteBefore cX5_noteBefore 4 none 2 43 w [.ref (w.1 66), .ref (w.1 27), .int p1] G res := by
  refine CMv.of (by decide +kernel) (Nat.le_of_ble_eq_true rfl) ?_
  intro p e s m args below meth c X hr hk
  have h := bs_i h0
  unfold m_X5_noteBefore at h
  show J p l e rm_X5_noteBefore s m args below meth c (Qvoid below args s w res) w 4 G 0 [(0, .ref (w.1 66)), (1, .ref (w.1 27)), (2, .int p1)] []
  refine j_iload_n X dX5_noteBefore_0 rfl 2 rfl ?_
  refine j_callSi (As := [.int p1]) X (c_X5_isWithin l w G  p1) pn_X5_isWithin q_750 q_751 q_67 q_752 ⟨Nat.le_of_ble_eq_true rfl, Nat.le_of_ble_eq_true rfl⟩ (Nat.le_of_ble_eq_true rfl) rfl dX5_noteBefore_1 ?_
  refine j_if_ne X 8 dX5_noteBefore_4 (by decide) (fun c_1 => ?_) (fun c_1 => ?_)
  · have h := bi_f c_1 h
    refine j_iconst (v := 0) X dX5_noteBefore_8 (by decide) ?_
    refine j_istore_n X [(3, .int 0), (0, .ref (w.1 66)), (1, .ref (w.1 27)), (2, .int p1)] dX5_noteBefore_9 rfl (by decide) rfl ?_
    have h := bb_a h
    have Hv_9 : ∀ v_9 : Mem, (some v_9).bind some = some res → J p l e rm_X5_noteBefore s m args below meth c (Qvoid below args s w res) w 4 v_9 60 [] [] := by
      intro v_9 h
      exact j_vret X hr hk dX5_noteBefore_60 (Option.some.inj h)
    refine j_pick [1, 2, 3, 0] rfl ?_
    exact jL_X5_noteBefore_10 X hr hk Hv_9 NF 0 G h
  · have h := bi_t c_1 h
    exact j_vret X hr hk dX5_noteBefore_7 (Option.some.inj h)
abbrev rm_X5_fill : Room := { frames := 4, cells := 0, slots := 0, locals := 88 }
theorem pn_X5_fill : yX5_fill.cls ≠ "java/lang/invoke/MethodHandle" ∧ yX5_fill.cls ≠ "java/lang/invoke/VarHandle" ∧ (parseMethodDescriptor yX5_fill.desc).map (fun d => d.parameters.length) = some 2 := by decide +kernel
def L_X5_fill_14 (x2 : Int32) : Nat → Int32 → Mem → Option (Mem)
  | 0, _, _ => none
  | n + 1, x3, G => (if x2 ≤ x3 then some G else (if 8 ≤ x3 then some G else (m_X5_putTogether G x3).bind (fun q_6 => L_X5_fill_14 x2 n (x3 + 1) q_6)))
def L_X5_fill_39 (x2 : Int32) : Nat → Int32 → Mem → Option (Mem)
  | 0, _, _ => none
  | n + 1, x3, G => (if x2 ≤ x3 then some G else (if 8 ≤ x3 then some G else (m_X5_noteBefore G x3).bind (fun q_10 => L_X5_fill_39 x2 n (x3 + 1) q_10)))
def m_X5_fill (G : Mem) (p1 : Int32) : Option (Mem) := (m_X5_empty G).bind (fun q_1 => (m_X1_isSound q_1 27).bind (fun r_2 => (if r_2 = 0 then some q_1 else (L_X5_fill_14 p1 NF 0 q_1).bind (fun v_7 => (L_X5_fill_39 p1 NF 0 v_7).bind (fun v_11 => (m_X5_countOn v_11).bind (fun q_12 => (ald 256 q_12 70 0).bind (fun r_13 => some (upm q_12 66 7 r_13))))))))
set_option maxRecDepth 100000 in
set_option maxHeartbeats 4000000 in
theorem jL_X5_fill_14 {p : Program} {l : Launch} {e : Env} {s : State} {m : MethodId} {args : Array Value} {below : List Frame} {meth : Method} {c : Code} {w : WP} (X : fw_X p s m args c cX5_fill 4 RX5 w) (hr : meth.sig.returnType = none) (hk : meth.locks = false) {x2 : Int32} {res : Mem} {K : Mem → Option (Mem)} (HK : ∀ v : Mem, K v = some res → J p l e rm_X5_fill s m args below meth c (Qvoid below args s w res) w 4 v 37 [(0, .ref (w.1 66)), (1, .ref (w.1 27)), (2, .int x2)] []) : ∀ (n : Nat) (x3 : Int32) (G : Mem), (L_X5_fill_14 x2 n x3 G).bind K = some res → J p l e rm_X5_fill s m args below meth c (Qvoid below args s w res) w 4 G 14 [(0, .ref (w.1 66)), (1, .ref (w.1 27)), (2, .int x2), (3, .int x3)] [] := by
  intro n
  induction n with
  | zero =>
    intro x3 G h
    rw [L_X5_fill_14] at h
    cases h
  | succ n ih =>
    intro x3 G h
    rw [L_X5_fill_14] at h
    refine j_iload_n X dX5_fill_14 rfl 3 rfl ?_
    refine j_iload_n X dX5_fill_15 rfl 2 rfl ?_
    refine j_icmp_ge X 37 dX5_fill_16 (by decide) (fun c_4 => ?_) (fun c_4 => ?_)
    · have h := bi_t c_4 h
      refine j_pick [0, 1, 2] rfl ?_
      exact HK G h
    · have h := bi_f c_4 h
      refine j_iload_n X dX5_fill_19 rfl 3 rfl ?_
      refine j_bipush (v := 8) X dX5_fill_20 (by decide) ?_
      refine j_icmp_ge X 37 dX5_fill_22 (by decide) (fun c_5 => ?_) (fun c_5 => ?_)
      · have h := bi_t c_5 h
        refine j_pick [0, 1, 2] rfl ?_
        exact HK G h
      · have h := bi_f c_5 h
        refine j_aload_n X dX5_fill_25 rfl 0 rfl ?_
        refine j_aload_n X dX5_fill_26 rfl 1 rfl ?_
        refine j_iload_n X dX5_fill_27 rfl 3 rfl ?_
        obtain ⟨q_6, hq_6, h⟩ := bd_s h
        refine j_callVv (As := [.ref (w.1 27), .int x3]) X 66 s_66 rfl (c_X5_putTogether l w G  x3 hq_6) rfl pn_X5_putTogether q_746 q_748 q_25 q_67 q_749 ⟨Nat.le_of_ble_eq_true rfl, Nat.le_of_ble_eq_true rfl⟩ (Nat.le_of_ble_eq_true rfl) rfl dX5_fill_28 ?_
        refine j_iinc (v := x3 + 1) X [(3, .int (x3 + 1)), (0, .ref (w.1 66)), (1, .ref (w.1 27)), (2, .int x2)] dX5_fill_31 3 rfl rfl (by decide) rfl ?_
        refine j_goto X 14 dX5_fill_34 (by decide) ?_
        refine j_pick [1, 2, 3, 0] rfl ?_
        exact ih (x3 + 1) q_6 h
set_option maxRecDepth 100000 in
set_option maxHeartbeats 4000000 in
theorem jL_X5_fill_39 {p : Program} {l : Launch} {e : Env} {s : State} {m : MethodId} {args : Array Value} {below : List Frame} {meth : Method} {c : Code} {w : WP} (X : fw_X p s m args c cX5_fill 4 RX5 w) (hr : meth.sig.returnType = none) (hk : meth.locks = false) {x2 : Int32} {res : Mem} {K : Mem → Option (Mem)} (HK : ∀ v : Mem, K v = some res → J p l e rm_X5_fill s m args below meth c (Qvoid below args s w res) w 4 v 62 [(0, .ref (w.1 66))] []) : ∀ (n : Nat) (x3 : Int32) (G : Mem), (L_X5_fill_39 x2 n x3 G).bind K = some res → J p l e rm_X5_fill s m args below meth c (Qvoid below args s w res) w 4 G 39 [(0, .ref (w.1 66)), (1, .ref (w.1 27)), (2, .int x2), (3, .int x3)] [] := by
  intro n
  induction n with
  | zero =>
    intro x3 G h
    rw [L_X5_fill_39] at h
    cases h
  | succ n ih =>
    intro x3 G h
    rw [L_X5_fill_39] at h
    refine j_iload_n X dX5_fill_39 rfl 3 rfl ?_
    refine j_iload_n X dX5_fill_40 rfl 2 rfl ?_
    refine j_icmp_ge X 62 dX5_fill_41 (by decide) (fun c_8 => ?_) (fun c_8 => ?_)
    · have h := bi_t c_8 h
      refine j_pick [0] rfl ?_
      exact HK G h
    · have h := bi_f c_8 h
      refine j_iload_n X dX5_fill_44 rfl 3 rfl ?_
      refine j_bipush (v := 8) X dX5_fill_45 (by decide) ?_
      refine j_icmp_ge X 62 dX5_fill_47 (by decide) (fun c_9 => ?_) (fun c_9 => ?_)
      · have h := bi_t c_9 h
        refine j_pick [0] rfl ?_
        exact HK G h
      · have h := bi_f c_9 h
        refine j_aload_n X dX5_fill_50 rfl 0 rfl ?_
        refine j_aload_n X dX5_fill_51 rfl 1 rfl ?_
        refine j_iload_n X dX5_fill_52 rfl 3 rfl ?_
        obtain ⟨q_10, hq_10, h⟩ := bd_s h
        refine j_callVv (As := [.ref (w.1 27), .int x3]) X 66 s_66 rfl (c_X5_noteBefore l w G  x3 hq_10) rfl pn_X5_noteBefore q_755 q_757 q_26 q_67 q_758 ⟨Nat.le_of_ble_eq_true rfl, Nat.le_of_ble_eq_true rfl⟩ (Nat.le_of_ble_eq_true rfl) rfl dX5_fill_53 ?_
        refine j_iinc (v := x3 + 1) X [(3, .int (x3 + 1)), (0, .ref (w.1 66)), (1, .ref (w.1 27)), (2, .int x2)] dX5_fill_56 3 rfl rfl (by decide) rfl ?_
        refine j_goto X 39 dX5_fill_59 (by decide) ?_
        refine j_pick [1, 2, 3, 0] rfl ?_
        exact ih (x3 + 1) q_10 h
set_option maxRecDepth 100000 in
set_option maxHeartbeats 4000000 in
theorem c_X5_fill (l : Launch) (w : WP) (G : Mem) (p1 : Int32) {res : Mem} (h0 : m_X5_fill G p1 = some res) : CMv l yX5_fill cX5_fill 4 none 4 88 w [.ref (w.1 66), .ref (w.1 27), .int p1] G res := by
  refine CMv.of (by decide +kernel) (Nat.le_of_ble_eq_true rfl) ?_
  intro p e s m args below meth c X hr hk
  have h := bs_i h0
  unfold m_X5_fill at h
  show J p l e rm_X5_fill s m args below meth c (Qvoid below args s w res) w 4 G 0 [(0, .ref (w.1 66)), (1, .ref (w.1 27)), (2, .int p1)] []
  refine j_aload_n X dX5_fill_0 rfl 0 rfl ?_
  obtain ⟨q_1, hq_1, h⟩ := bd_s h
  refine j_callVv (As := []) X 66 s_66 rfl (c_X5_empty l w G   hq_1) rfl pn_X5_empty q_741 q_743 q_24 q_67 q_744 ⟨Nat.le_of_ble_eq_true rfl, Nat.le_of_ble_eq_true rfl⟩ (Nat.le_of_ble_eq_true rfl) rfl dX5_fill_1 ?_
  refine j_aload_n X dX5_fill_4 rfl 1 rfl ?_
  obtain ⟨r_2, hr_2, h⟩ := bd_s h
  refine j_callVi (As := []) X 27 s_27 rfl (c_X1_isSound l w q_1 27 (Or.inl rfl)  hr_2) rfl pn_X1_isSound q_745 q_652 q_653 q_65 q_654 ⟨Nat.le_of_ble_eq_true rfl, Nat.le_of_ble_eq_true rfl⟩ (Nat.le_of_ble_eq_true rfl) rfl dX5_fill_5 ?_
  refine j_if_ne X 12 dX5_fill_8 (by decide) (fun c_3 => ?_) (fun c_3 => ?_)
  · have h := bi_f c_3 h
    refine j_iconst (v := 0) X dX5_fill_12 (by decide) ?_
    refine j_istore_n X [(3, .int 0), (0, .ref (w.1 66)), (1, .ref (w.1 27)), (2, .int p1)] dX5_fill_13 rfl (by decide) rfl ?_
    have h := bb_a h
    have Hv_7 : ∀ v_7 : Mem, ((L_X5_fill_39 p1 NF 0 v_7).bind (fun v_11 => (m_X5_countOn v_11).bind (fun q_12 => (ald 256 q_12 70 0).bind (fun r_13 => some (upm q_12 66 7 r_13))))).bind some = some res → J p l e rm_X5_fill s m args below meth c (Qvoid below args s w res) w 4 v_7 37 [(0, .ref (w.1 66)), (1, .ref (w.1 27)), (2, .int p1)] [] := by
      intro v_7 h
      refine j_iconst (v := 0) X dX5_fill_37 (by decide) ?_
      refine j_istore_n X [(3, .int 0), (0, .ref (w.1 66)), (1, .ref (w.1 27)), (2, .int p1)] dX5_fill_38 rfl (by decide) rfl ?_
      have h := bb_a h
      have Hv_11 : ∀ v_11 : Mem, ((m_X5_countOn v_11).bind (fun q_12 => (ald 256 q_12 70 0).bind (fun r_13 => some (upm q_12 66 7 r_13)))).bind some = some res → J p l e rm_X5_fill s m args below meth c (Qvoid below args s w res) w 4 v_11 62 [(0, .ref (w.1 66))] [] := by
        intro v_11 h
        refine j_aload_n X dX5_fill_62 rfl 0 rfl ?_
        obtain ⟨q_12, hq_12, h⟩ := bd_s h
        refine j_callVv (As := []) X 66 s_66 rfl (c_X5_countOn l w v_11   hq_12) rfl pn_X5_countOn q_761 q_763 q_27 q_67 q_764 ⟨Nat.le_of_ble_eq_true rfl, Nat.le_of_ble_eq_true rfl⟩ (Nat.le_of_ble_eq_true rfl) rfl dX5_fill_63 ?_
        refine j_aload_n X dX5_fill_66 rfl 0 rfl ?_
        refine j_aload_n X dX5_fill_67 rfl 0 rfl ?_
        refine j_getR (C := RX5) (T := TX5) (N := 8) X 66 s_66 rfl hin_X5 3 (by decide) 70 rfl q_225 dX5_fill_68 ?_
        refine j_iconst (v := 0) X dX5_fill_71 (by decide) ?_
        obtain ⟨r_13, hr_13, h⟩ := bd_s h
        refine j_iald X 70 256 s_70 hr_13 dX5_fill_72 ?_
        refine j_putI (C := RX5) (T := TX5) (N := 8) X tyX5 tyX5_ok nmX5 66 s_66 rfl hin_X5 7 (by decide) rfl q_229 rfl rfl dX5_fill_73 ?_
        exact j_vret X hr hk dX5_fill_76 (Option.some.inj h)
      refine j_pick [1, 2, 3, 0] rfl ?_
      exact jL_X5_fill_39 X hr hk Hv_11 NF 0 v_7 h
    refine j_pick [1, 2, 3, 0] rfl ?_
    exact jL_X5_fill_14 X hr hk Hv_7 NF 0 q_1 h
  · have h := bi_t c_3 h
    exact j_vret X hr hk dX5_fill_11 (Option.some.inj h)
abbrev rm_X5_remaining : Room := { frames := 1, cells := 0, slots := 0, locals := 20 }
theorem pn_X5_remaining : yX5_remaining.cls ≠ "java/lang/invoke/MethodHandle" ∧ yX5_remaining.cls ≠ "java/lang/invoke/VarHandle" ∧ (parseMethodDescriptor yX5_remaining.desc).map (fun d => d.parameters.length) = some 3 := by decide +kernel
def m_X5_remaining (G : Mem) (p1 : Int32) (p2 : Int32) (p3 : Int32) : Option (Int32) := (if (m_X5_isWithin p1) = 0 then some 0 else (if (m_X5_isWithin p3) = 0 then some 0 else (ald 8 G 67 p1).bind (fun r_3 => (ald 8 G 67 p3).bind (fun r_4 => (if (m_X5_isWithin r_3) = 0 then some 0 else (if (m_X5_isWithin r_4) = 0 then some 0 else (if p2 = 0 then (aal 8 73 r_3).bind (fun k_15 => (ald 8 G k_15 r_4).bind (fun r_16 => some r_16)) else (if p2 = 2 then (aal 8 73 r_4).bind (fun k_13 => (ald 8 G k_13 r_3).bind (fun r_14 => some r_14)) else (aal 8 73 r_3).bind (fun k_9 => (ald 8 G k_9 r_4).bind (fun r_10 => (aal 8 73 r_4).bind (fun k_11 => (ald 8 G k_11 r_3).bind (fun r_12 => some (((G 66 7) - r_10) - r_12)))))))))))))
set_option maxRecDepth 100000 in
set_option maxHeartbeats 4000000 in
theorem c_X5_remaining (l : Launch) (w : WP) (G : Mem) (p1 : Int32) (p2 : Int32) (p3 : Int32) {res : Int32} (h0 : m_X5_remaining G p1 p2 p3 = some res) : CMi l yX5_remaining cX5_remaining 6 (some .int) 1 20 w [.ref (w.1 66), .int p1, .int p2, .int p3] G (res, G) := by
  refine CMi.of (by decide +kernel) (Nat.le_of_ble_eq_true rfl) ?_
  intro p e s m args below meth c X hr hk
  have h := bs_i h0
  unfold m_X5_remaining at h
  show J p l e rm_X5_remaining s m args below meth c (Qint below args s w (res, G)) w 6 G 0 [(0, .ref (w.1 66)), (1, .int p1), (2, .int p2), (3, .int p3)] []
  refine j_iload_n X dX5_remaining_0 rfl 1 rfl ?_
  refine j_callSi (As := [.int p1]) X (c_X5_isWithin l w G  p1) pn_X5_isWithin q_750 q_751 q_67 q_752 ⟨Nat.le_of_ble_eq_true rfl, Nat.le_of_ble_eq_true rfl⟩ (Nat.le_of_ble_eq_true rfl) rfl dX5_remaining_1 ?_
  refine j_if_eq X 14 dX5_remaining_4 (by decide) (fun c_1 => ?_) (fun c_1 => ?_)
  · have h := bi_t c_1 h
    refine j_iconst (v := 0) X dX5_remaining_14 (by decide) ?_
    exact j_iret X hr hk dX5_remaining_15 (congrArg (fun z => (z, G)) (Option.some.inj h))
  · have h := bi_f c_1 h
    refine j_iload_n X dX5_remaining_7 rfl 3 rfl ?_
    refine j_callSi (As := [.int p3]) X (c_X5_isWithin l w G  p3) pn_X5_isWithin q_750 q_751 q_67 q_752 ⟨Nat.le_of_ble_eq_true rfl, Nat.le_of_ble_eq_true rfl⟩ (Nat.le_of_ble_eq_true rfl) rfl dX5_remaining_8 ?_
    refine j_if_ne X 16 dX5_remaining_11 (by decide) (fun c_2 => ?_) (fun c_2 => ?_)
    · have h := bi_f c_2 h
      refine j_aload_n X dX5_remaining_16 rfl 0 rfl ?_
      refine j_getR (C := RX5) (T := TX5) (N := 8) X 66 s_66 rfl hin_X5 0 (by decide) 67 rfl q_222 dX5_remaining_17 ?_
      refine j_iload_n X dX5_remaining_20 rfl 1 rfl ?_
      obtain ⟨r_3, hr_3, h⟩ := bd_s h
      refine j_iald X 67 8 s_67 hr_3 dX5_remaining_21 ?_
      refine j_istore X [(4, .int r_3), (0, .ref (w.1 66)), (1, .int p1), (2, .int p2), (3, .int p3)] dX5_remaining_22 (by decide) rfl ?_
      refine j_aload_n X dX5_remaining_24 rfl 1 rfl ?_
      refine j_getR (C := RX5) (T := TX5) (N := 8) X 66 s_66 rfl hin_X5 0 (by decide) 67 rfl q_222 dX5_remaining_25 ?_
      refine j_iload_n X dX5_remaining_28 rfl 4 rfl ?_
      obtain ⟨r_4, hr_4, h⟩ := bd_s h
      refine j_iald X 67 8 s_67 hr_4 dX5_remaining_29 ?_
      refine j_istore X [(5, .int r_4), (4, .int r_3), (0, .ref (w.1 66)), (1, .int p1), (2, .int p2), (3, .int p3)] dX5_remaining_30 (by decide) rfl ?_
      refine j_iload X dX5_remaining_32 1 rfl ?_
      refine j_callSi (As := [.int r_3]) X (c_X5_isWithin l w G  r_3) pn_X5_isWithin q_750 q_751 q_67 q_752 ⟨Nat.le_of_ble_eq_true rfl, Nat.le_of_ble_eq_true rfl⟩ (Nat.le_of_ble_eq_true rfl) rfl dX5_remaining_34 ?_
      refine j_if_eq X 48 dX5_remaining_37 (by decide) (fun c_5 => ?_) (fun c_5 => ?_)
      · have h := bi_t c_5 h
        refine j_iconst (v := 0) X dX5_remaining_48 (by decide) ?_
        exact j_iret X hr hk dX5_remaining_49 (congrArg (fun z => (z, G)) (Option.some.inj h))
      · have h := bi_f c_5 h
        refine j_iload X dX5_remaining_40 0 rfl ?_
        refine j_callSi (As := [.int r_4]) X (c_X5_isWithin l w G  r_4) pn_X5_isWithin q_750 q_751 q_67 q_752 ⟨Nat.le_of_ble_eq_true rfl, Nat.le_of_ble_eq_true rfl⟩ (Nat.le_of_ble_eq_true rfl) rfl dX5_remaining_42 ?_
        refine j_if_ne X 50 dX5_remaining_45 (by decide) (fun c_6 => ?_) (fun c_6 => ?_)
        · have h := bi_f c_6 h
          refine j_iload_n X dX5_remaining_50 rfl 4 rfl ?_
          refine j_if_ne X 65 dX5_remaining_51 (by decide) (fun c_7 => ?_) (fun c_7 => ?_)
          · have h := bi_f c_7 h
            refine j_iload_n X dX5_remaining_65 rfl 4 rfl ?_
            refine j_iconst (v := 2) X dX5_remaining_66 (by decide) ?_
            refine j_icmp_ne X 81 dX5_remaining_67 (by decide) (fun c_8 => ?_) (fun c_8 => ?_)
            · have h := bi_f c_8 h
              refine j_aload_n X dX5_remaining_81 rfl 2 rfl ?_
              refine j_getI (C := RX5) (T := TX5) (N := 8) X 66 s_66 rfl hin_X5 7 (by decide) rfl q_229 dX5_remaining_82 ?_
              refine j_aload_n X dX5_remaining_85 rfl 2 rfl ?_
              refine j_getR (C := RX5) (T := TX5) (N := 8) X 66 s_66 rfl hin_X5 5 (by decide) 72 rfl q_227 dX5_remaining_86 ?_
              refine j_iload X dX5_remaining_89 1 rfl ?_
              obtain ⟨k_9, hk_9, h⟩ := bd_s h
              refine j_aald X 72 8 73 s_72 hk_9 dX5_remaining_91 ?_
              refine j_iload X dX5_remaining_92 0 rfl ?_
              obtain ⟨r_10, hr_10, h⟩ := bd_s h
              refine j_iald X k_9 8 (s_row73 hk_9) hr_10 dX5_remaining_94 ?_
              refine j_isub X dX5_remaining_95 ?_
              refine j_aload_n X dX5_remaining_96 rfl 2 rfl ?_
              refine j_getR (C := RX5) (T := TX5) (N := 8) X 66 s_66 rfl hin_X5 5 (by decide) 72 rfl q_227 dX5_remaining_97 ?_
              refine j_iload X dX5_remaining_100 0 rfl ?_
              obtain ⟨k_11, hk_11, h⟩ := bd_s h
              refine j_aald X 72 8 73 s_72 hk_11 dX5_remaining_102 ?_
              refine j_iload X dX5_remaining_103 1 rfl ?_
              obtain ⟨r_12, hr_12, h⟩ := bd_s h
              refine j_iald X k_11 8 (s_row73 hk_11) hr_12 dX5_remaining_105 ?_
              refine j_isub X dX5_remaining_106 ?_
              exact j_iret X hr hk dX5_remaining_107 (congrArg (fun z => (z, G)) (Option.some.inj h))
            · have h := bi_t c_8 h
              refine j_aload_n X dX5_remaining_70 rfl 2 rfl ?_
              refine j_getR (C := RX5) (T := TX5) (N := 8) X 66 s_66 rfl hin_X5 5 (by decide) 72 rfl q_227 dX5_remaining_71 ?_
              refine j_iload X dX5_remaining_74 0 rfl ?_
              obtain ⟨k_13, hk_13, h⟩ := bd_s h
              refine j_aald X 72 8 73 s_72 hk_13 dX5_remaining_76 ?_
              refine j_iload X dX5_remaining_77 1 rfl ?_
              obtain ⟨r_14, hr_14, h⟩ := bd_s h
              refine j_iald X k_13 8 (s_row73 hk_13) hr_14 dX5_remaining_79 ?_
              exact j_iret X hr hk dX5_remaining_80 (congrArg (fun z => (z, G)) (Option.some.inj h))
          · have h := bi_t c_7 h
            refine j_aload_n X dX5_remaining_54 rfl 2 rfl ?_
            refine j_getR (C := RX5) (T := TX5) (N := 8) X 66 s_66 rfl hin_X5 5 (by decide) 72 rfl q_227 dX5_remaining_55 ?_
            refine j_iload X dX5_remaining_58 1 rfl ?_
            obtain ⟨k_15, hk_15, h⟩ := bd_s h
            refine j_aald X 72 8 73 s_72 hk_15 dX5_remaining_60 ?_
            refine j_iload X dX5_remaining_61 0 rfl ?_
            obtain ⟨r_16, hr_16, h⟩ := bd_s h
            refine j_iald X k_15 8 (s_row73 hk_15) hr_16 dX5_remaining_63 ?_
            exact j_iret X hr hk dX5_remaining_64 (congrArg (fun z => (z, G)) (Option.some.inj h))
        · have h := bi_t c_6 h
          refine j_iconst (v := 0) X dX5_remaining_48 (by decide) ?_
          exact j_iret X hr hk dX5_remaining_49 (congrArg (fun z => (z, G)) (Option.some.inj h))
    · have h := bi_t c_2 h
      refine j_iconst (v := 0) X dX5_remaining_14 (by decide) ?_
      exact j_iret X hr hk dX5_remaining_15 (congrArg (fun z => (z, G)) (Option.some.inj h))
abbrev rm_X5_worst : Room := { frames := 2, cells := 0, slots := 0, locals := 45 }
theorem pn_X5_worst : yX5_worst.cls ≠ "java/lang/invoke/MethodHandle" ∧ yX5_worst.cls ≠ "java/lang/invoke/VarHandle" ∧ (parseMethodDescriptor yX5_worst.desc).map (fun d => d.parameters.length) = some 2 := by decide +kernel
def m_X5_worst (G : Mem) (p1 : Int32) (p2 : Int32) : Option (Int32) := (m_X5_remaining G p1 0 p2).bind (fun r_1 => (m_X5_remaining G p1 2 p2).bind (fun r_2 => (m_X5_remaining G p1 1 p2).bind (fun r_3 => some (if (if r_1 < r_2 then r_2 else r_1) < r_3 then r_3 else (if r_1 < r_2 then r_2 else r_1)))))
set_option maxRecDepth 100000 in
set_option maxHeartbeats 4000000 in
theorem c_X5_worst (l : Launch) (w : WP) (G : Mem) (p1 : Int32) (p2 : Int32) {res : Int32} (h0 : m_X5_worst G p1 p2 = some res) : CMi l yX5_worst cX5_worst 4 (some .int) 2 45 w [.ref (w.1 66), .int p1, .int p2] G (res, G) := by
  refine CMi.of (by decide +kernel) (Nat.le_of_ble_eq_true rfl) ?_
  intro p e s m args below meth c X hr hk
  have h := bs_i h0
  unfold m_X5_worst at h
  show J p l e rm_X5_worst s m args below meth c (Qint below args s w (res, G)) w 4 G 0 [(0, .ref (w.1 66)), (1, .int p1), (2, .int p2)] []
  refine j_aload_n X dX5_worst_0 rfl 0 rfl ?_
  refine j_iload_n X dX5_worst_1 rfl 1 rfl ?_
  refine j_iconst (v := 0) X dX5_worst_2 (by decide) ?_
  refine j_iload_n X dX5_worst_3 rfl 2 rfl ?_
  obtain ⟨r_1, hr_1, h⟩ := bd_s h
  refine j_callVi (As := [.int p1, .int 0, .int p2]) X 66 s_66 rfl (c_X5_remaining l w G  p1 0 p2 hr_1) rfl pn_X5_remaining q_802 q_790 q_791 q_67 q_792 ⟨Nat.le_of_ble_eq_true rfl, Nat.le_of_ble_eq_true rfl⟩ (Nat.le_of_ble_eq_true rfl) rfl dX5_worst_4 ?_
  refine j_aload_n X dX5_worst_7 rfl 0 rfl ?_
  refine j_iload_n X dX5_worst_8 rfl 1 rfl ?_
  refine j_iconst (v := 2) X dX5_worst_9 (by decide) ?_
  refine j_iload_n X dX5_worst_10 rfl 2 rfl ?_
  obtain ⟨r_2, hr_2, h⟩ := bd_s h
  refine j_callVi (As := [.int p1, .int 2, .int p2]) X 66 s_66 rfl (c_X5_remaining l w G  p1 2 p2 hr_2) rfl pn_X5_remaining q_802 q_790 q_791 q_67 q_792 ⟨Nat.le_of_ble_eq_true rfl, Nat.le_of_ble_eq_true rfl⟩ (Nat.le_of_ble_eq_true rfl) rfl dX5_worst_11 ?_
  refine j_mmax X q_803 q_372 q_71 q_373 (Nat.le_of_ble_eq_true rfl) (Nat.le_of_ble_eq_true rfl) dX5_worst_14 ?_
  refine j_istore_n X [(3, .int (if r_1 < r_2 then r_2 else r_1)), (0, .ref (w.1 66)), (1, .int p1), (2, .int p2)] dX5_worst_17 rfl (by decide) rfl ?_
  refine j_iload_n X dX5_worst_18 rfl 0 rfl ?_
  refine j_aload_n X dX5_worst_19 rfl 1 rfl ?_
  refine j_iload_n X dX5_worst_20 rfl 2 rfl ?_
  refine j_iconst (v := 1) X dX5_worst_21 (by decide) ?_
  refine j_iload_n X dX5_worst_22 rfl 3 rfl ?_
  obtain ⟨r_3, hr_3, h⟩ := bd_s h
  refine j_callVi (As := [.int p1, .int 1, .int p2]) X 66 s_66 rfl (c_X5_remaining l w G  p1 1 p2 hr_3) rfl pn_X5_remaining q_802 q_790 q_791 q_67 q_792 ⟨Nat.le_of_ble_eq_true rfl, Nat.le_of_ble_eq_true rfl⟩ (Nat.le_of_ble_eq_true rfl) rfl dX5_worst_23 ?_
  refine j_mmax X q_803 q_372 q_71 q_373 (Nat.le_of_ble_eq_true rfl) (Nat.le_of_ble_eq_true rfl) dX5_worst_26 ?_
  exact j_iret X hr hk dX5_worst_29 (congrArg (fun z => (z, G)) (Option.some.inj h))
abbrev rm_X6_clauses : Room := { frames := 0, cells := 0, slots := 0, locals := 0 }
theorem pn_X6_clauses : yX6_clauses.cls ≠ "java/lang/invoke/MethodHandle" ∧ yX6_clauses.cls ≠ "java/lang/invoke/VarHandle" ∧ (parseMethodDescriptor yX6_clauses.desc).map (fun d => d.parameters.length) = some 0 := by decide +kernel
def m_X6_clauses (G : Mem) (o : Nat) : Option (Int32) := (ald 74 G (o + 1) 0).bind (fun r_1 => some r_1)
set_option maxRecDepth 100000 in
set_option maxHeartbeats 4000000 in
theorem c_X6_clauses (l : Launch) (w : WP) (G : Mem) (o : Nat) (ho_o : o = 1 ∨ o = 3) {res : Int32} (h0 : m_X6_clauses G o = some res) : CMi l yX6_clauses cX6_clauses 1 (some .int) 0 0 w [.ref (w.1 o)] G (res, G) := by
  have hs_o : fw_lay[o]? = some (.inl (6, [some (o + 1)])) := by rcases ho_o with rfl | rfl <;> rfl
  have hs_o_1 : fw_lay[o + 1]? = some (.inr (0, 74, 0)) := by rcases ho_o with rfl | rfl <;> rfl
  refine CMi.of (by decide +kernel) (Nat.le_of_ble_eq_true rfl) ?_
  intro p e s m args below meth c X hr hk
  have h := bs_i h0
  unfold m_X6_clauses at h
  show J p l e rm_X6_clauses s m args below meth c (Qint below args s w (res, G)) w 1 G 0 [(0, .ref (w.1 o))] []
  refine j_aload_n X dX6_clauses_0 rfl 0 rfl ?_
  refine j_getR (C := RX6) (T := TX6) (N := 1) X o hs_o rfl hin_X6 0 (by decide) (o + 1) rfl q_90 dX6_clauses_1 ?_
  refine j_iconst (v := 0) X dX6_clauses_4 (by decide) ?_
  obtain ⟨r_1, hr_1, h⟩ := bd_s h
  refine j_iald X (o + 1) 74 hs_o_1 hr_1 dX6_clauses_5 ?_
  exact j_iret X hr hk dX6_clauses_6 (congrArg (fun z => (z, G)) (Option.some.inj h))
abbrev rm_X6_setTense : Room := { frames := 0, cells := 0, slots := 0, locals := 0 }
theorem pn_X6_setTense : yX6_setTense.cls ≠ "java/lang/invoke/MethodHandle" ∧ yX6_setTense.cls ≠ "java/lang/invoke/VarHandle" ∧ (parseMethodDescriptor yX6_setTense.desc).map (fun d => d.parameters.length) = some 2 := by decide +kernel
def m_X6_setTense (G : Mem) (o : Nat) (p1 : Int32) (p2 : Int32) : Option (Mem) := (if p1 < 0 then some G else (if 8 ≤ p1 then some G else (ast 74 G (o + 1) (2 + p1) p2).bind (fun q_3 => some q_3)))
set_option maxRecDepth 100000 in
set_option maxHeartbeats 4000000 in
theorem c_X6_setTense (l : Launch) (w : WP) (G : Mem) (o : Nat) (ho_o : o = 1 ∨ o = 3) (p1 : Int32) (p2 : Int32) {res : Mem} (h0 : m_X6_setTense G o p1 p2 = some res) : CMv l yX6_setTense cX6_setTense 3 none 0 0 w [.ref (w.1 o), .int p1, .int p2] G res := by
  have hs_o : fw_lay[o]? = some (.inl (6, [some (o + 1)])) := by rcases ho_o with rfl | rfl <;> rfl
  have hs_o_1 : fw_lay[o + 1]? = some (.inr (0, 74, 0)) := by rcases ho_o with rfl | rfl <;> rfl
  refine CMv.of (by decide +kernel) (Nat.le_of_ble_eq_true rfl) ?_
  intro p e s m args below meth c X hr hk
  have h := bs_i h0
  unfold m_X6_setTense at h
  show J p l e rm_X6_setTense s m args below meth c (Qvoid below args s w res) w 3 G 0 [(0, .ref (w.1 o)), (1, .int p1), (2, .int p2)] []
  refine j_iload_n X dX6_setTense_0 rfl 1 rfl ?_
  refine j_if_lt X 19 dX6_setTense_1 (by decide) (fun c_1 => ?_) (fun c_1 => ?_)
  · have h := bi_t c_1 h
    exact j_vret X hr hk dX6_setTense_19 (Option.some.inj h)
  · have h := bi_f c_1 h
    refine j_iload_n X dX6_setTense_4 rfl 1 rfl ?_
    refine j_bipush (v := 8) X dX6_setTense_5 (by decide) ?_
    refine j_icmp_ge X 19 dX6_setTense_7 (by decide) (fun c_2 => ?_) (fun c_2 => ?_)
    · have h := bi_t c_2 h
      exact j_vret X hr hk dX6_setTense_19 (Option.some.inj h)
    · have h := bi_f c_2 h
      refine j_aload_n X dX6_setTense_10 rfl 0 rfl ?_
      refine j_getR (C := RX6) (T := TX6) (N := 1) X o hs_o rfl hin_X6 0 (by decide) (o + 1) rfl q_90 dX6_setTense_11 ?_
      refine j_iconst (v := 2) X dX6_setTense_14 (by decide) ?_
      refine j_iload_n X dX6_setTense_15 rfl 1 rfl ?_
      refine j_iadd X dX6_setTense_16 ?_
      refine j_iload_n X dX6_setTense_17 rfl 2 rfl ?_
      obtain ⟨q_3, hq_3, h⟩ := bd_s h
      refine j_iast X (o + 1) 74 hs_o_1 hq_3 dX6_setTense_18 ?_
      exact j_vret X hr hk dX6_setTense_19 (Option.some.inj h)
abbrev rm_X6_setLink : Room := { frames := 0, cells := 0, slots := 0, locals := 0 }
theorem pn_X6_setLink : yX6_setLink.cls ≠ "java/lang/invoke/MethodHandle" ∧ yX6_setLink.cls ≠ "java/lang/invoke/VarHandle" ∧ (parseMethodDescriptor yX6_setLink.desc).map (fun d => d.parameters.length) = some 2 := by decide +kernel
def m_X6_setLink (G : Mem) (o : Nat) (p1 : Int32) (p2 : Int32) : Option (Mem) := (if p1 < 0 then some G else (if 8 ≤ p1 then some G else (ast 74 G (o + 1) (10 + p1) p2).bind (fun q_3 => some q_3)))
set_option maxRecDepth 100000 in
set_option maxHeartbeats 4000000 in
theorem c_X6_setLink (l : Launch) (w : WP) (G : Mem) (o : Nat) (ho_o : o = 1 ∨ o = 3) (p1 : Int32) (p2 : Int32) {res : Mem} (h0 : m_X6_setLink G o p1 p2 = some res) : CMv l yX6_setLink cX6_setLink 3 none 0 0 w [.ref (w.1 o), .int p1, .int p2] G res := by
  have hs_o : fw_lay[o]? = some (.inl (6, [some (o + 1)])) := by rcases ho_o with rfl | rfl <;> rfl
  have hs_o_1 : fw_lay[o + 1]? = some (.inr (0, 74, 0)) := by rcases ho_o with rfl | rfl <;> rfl
  refine CMv.of (by decide +kernel) (Nat.le_of_ble_eq_true rfl) ?_
  intro p e s m args below meth c X hr hk
  have h := bs_i h0
  unfold m_X6_setLink at h
  show J p l e rm_X6_setLink s m args below meth c (Qvoid below args s w res) w 3 G 0 [(0, .ref (w.1 o)), (1, .int p1), (2, .int p2)] []
  refine j_iload_n X dX6_setLink_0 rfl 1 rfl ?_
  refine j_if_lt X 20 dX6_setLink_1 (by decide) (fun c_1 => ?_) (fun c_1 => ?_)
  · have h := bi_t c_1 h
    exact j_vret X hr hk dX6_setLink_20 (Option.some.inj h)
  · have h := bi_f c_1 h
    refine j_iload_n X dX6_setLink_4 rfl 1 rfl ?_
    refine j_bipush (v := 8) X dX6_setLink_5 (by decide) ?_
    refine j_icmp_ge X 20 dX6_setLink_7 (by decide) (fun c_2 => ?_) (fun c_2 => ?_)
    · have h := bi_t c_2 h
      exact j_vret X hr hk dX6_setLink_20 (Option.some.inj h)
    · have h := bi_f c_2 h
      refine j_aload_n X dX6_setLink_10 rfl 0 rfl ?_
      refine j_getR (C := RX6) (T := TX6) (N := 1) X o hs_o rfl hin_X6 0 (by decide) (o + 1) rfl q_90 dX6_setLink_11 ?_
      refine j_bipush (v := 10) X dX6_setLink_14 (by decide) ?_
      refine j_iload_n X dX6_setLink_16 rfl 1 rfl ?_
      refine j_iadd X dX6_setLink_17 ?_
      refine j_iload_n X dX6_setLink_18 rfl 2 rfl ?_
      obtain ⟨q_3, hq_3, h⟩ := bd_s h
      refine j_iast X (o + 1) 74 hs_o_1 hq_3 dX6_setLink_19 ?_
      exact j_vret X hr hk dX6_setLink_20 (Option.some.inj h)
abbrev rm_X6_addStatement : Room := { frames := 1, cells := 0, slots := 0, locals := 20 }
theorem pn_X6_addStatement : yX6_addStatement.cls ≠ "java/lang/invoke/MethodHandle" ∧ yX6_addStatement.cls ≠ "java/lang/invoke/VarHandle" ∧ (parseMethodDescriptor yX6_addStatement.desc).map (fun d => d.parameters.length) = some 4 := by decide +kernel
def m_X6_addStatement (G : Mem) (o : Nat) (p1 : Int32) (p2 : Int32) (p3 : Int32) (p4 : Int32) : Option (Mem) := (m_X6_statements G o).bind (fun r_1 => (if r_1 < 0 then some G else (if r_1 < 14 then (ast 74 G (o + 1) (18 + r_1) p1).bind (fun q_4 => (ast 74 q_4 (o + 1) (32 + r_1) p2).bind (fun q_5 => (ast 74 q_5 (o + 1) (46 + r_1) p3).bind (fun q_6 => (ast 74 q_6 (o + 1) (60 + r_1) p4).bind (fun q_7 => (ast 74 q_7 (o + 1) 1 (r_1 + 1)).bind (fun q_8 => some q_8))))) else some G)))
set_option maxRecDepth 100000 in
set_option maxHeartbeats 4000000 in
theorem c_X6_addStatement (l : Launch) (w : WP) (G : Mem) (o : Nat) (ho_o : o = 1 ∨ o = 3) (p1 : Int32) (p2 : Int32) (p3 : Int32) (p4 : Int32) {res : Mem} (h0 : m_X6_addStatement G o p1 p2 p3 p4 = some res) : CMv l yX6_addStatement cX6_addStatement 6 none 1 20 w [.ref (w.1 o), .int p1, .int p2, .int p3, .int p4] G res := by
  have hs_o : fw_lay[o]? = some (.inl (6, [some (o + 1)])) := by rcases ho_o with rfl | rfl <;> rfl
  have hs_o_1 : fw_lay[o + 1]? = some (.inr (0, 74, 0)) := by rcases ho_o with rfl | rfl <;> rfl
  refine CMv.of (by decide +kernel) (Nat.le_of_ble_eq_true rfl) ?_
  intro p e s m args below meth c X hr hk
  have h := bs_i h0
  unfold m_X6_addStatement at h
  show J p l e rm_X6_addStatement s m args below meth c (Qvoid below args s w res) w 6 G 0 [(0, .ref (w.1 o)), (1, .int p1), (2, .int p2), (3, .int p3), (4, .int p4)] []
  refine j_aload_n X dX6_addStatement_0 rfl 0 rfl ?_
  obtain ⟨r_1, hr_1, h⟩ := bd_s h
  refine j_callVi (As := []) X o hs_o rfl (c_X6_statements l w G o ho_o  hr_1) rfl pn_X6_statements q_333 q_334 q_335 q_60 q_336 ⟨Nat.le_of_ble_eq_true rfl, Nat.le_of_ble_eq_true rfl⟩ (Nat.le_of_ble_eq_true rfl) rfl dX6_addStatement_1 ?_
  refine j_istore X [(5, .int r_1), (0, .ref (w.1 o)), (1, .int p1), (2, .int p2), (3, .int p3), (4, .int p4)] dX6_addStatement_4 (by decide) rfl ?_
  refine j_iload X dX6_addStatement_6 0 rfl ?_
  refine j_if_lt X 18 dX6_addStatement_8 (by decide) (fun c_2 => ?_) (fun c_2 => ?_)
  · have h := bi_t c_2 h
    exact j_vret X hr hk dX6_addStatement_18 (Option.some.inj h)
  · have h := bi_f c_2 h
    refine j_iload X dX6_addStatement_11 0 rfl ?_
    refine j_bipush (v := 14) X dX6_addStatement_13 (by decide) ?_
    refine j_icmp_lt X 19 dX6_addStatement_15 (by decide) (fun c_3 => ?_) (fun c_3 => ?_)
    · have h := bi_t c_3 h
      refine j_aload_n X dX6_addStatement_19 rfl 1 rfl ?_
      refine j_getR (C := RX6) (T := TX6) (N := 1) X o hs_o rfl hin_X6 0 (by decide) (o + 1) rfl q_90 dX6_addStatement_20 ?_
      refine j_bipush (v := 18) X dX6_addStatement_23 (by decide) ?_
      refine j_iload X dX6_addStatement_25 0 rfl ?_
      refine j_iadd X dX6_addStatement_27 ?_
      refine j_iload_n X dX6_addStatement_28 rfl 2 rfl ?_
      obtain ⟨q_4, hq_4, h⟩ := bd_s h
      refine j_iast X (o + 1) 74 hs_o_1 hq_4 dX6_addStatement_29 ?_
      refine j_aload_n X dX6_addStatement_30 rfl 1 rfl ?_
      refine j_getR (C := RX6) (T := TX6) (N := 1) X o hs_o rfl hin_X6 0 (by decide) (o + 1) rfl q_90 dX6_addStatement_31 ?_
      refine j_bipush (v := 32) X dX6_addStatement_34 (by decide) ?_
      refine j_iload X dX6_addStatement_36 0 rfl ?_
      refine j_iadd X dX6_addStatement_38 ?_
      refine j_iload_n X dX6_addStatement_39 rfl 3 rfl ?_
      obtain ⟨q_5, hq_5, h⟩ := bd_s h
      refine j_iast X (o + 1) 74 hs_o_1 hq_5 dX6_addStatement_40 ?_
      refine j_aload_n X dX6_addStatement_41 rfl 1 rfl ?_
      refine j_getR (C := RX6) (T := TX6) (N := 1) X o hs_o rfl hin_X6 0 (by decide) (o + 1) rfl q_90 dX6_addStatement_42 ?_
      refine j_bipush (v := 46) X dX6_addStatement_45 (by decide) ?_
      refine j_iload X dX6_addStatement_47 0 rfl ?_
      refine j_iadd X dX6_addStatement_49 ?_
      refine j_iload_n X dX6_addStatement_50 rfl 4 rfl ?_
      obtain ⟨q_6, hq_6, h⟩ := bd_s h
      refine j_iast X (o + 1) 74 hs_o_1 hq_6 dX6_addStatement_51 ?_
      refine j_aload_n X dX6_addStatement_52 rfl 1 rfl ?_
      refine j_getR (C := RX6) (T := TX6) (N := 1) X o hs_o rfl hin_X6 0 (by decide) (o + 1) rfl q_90 dX6_addStatement_53 ?_
      refine j_bipush (v := 60) X dX6_addStatement_56 (by decide) ?_
      refine j_iload X dX6_addStatement_58 0 rfl ?_
      refine j_iadd X dX6_addStatement_60 ?_
      refine j_iload X dX6_addStatement_61 5 rfl ?_
      obtain ⟨q_7, hq_7, h⟩ := bd_s h
      refine j_iast X (o + 1) 74 hs_o_1 hq_7 dX6_addStatement_63 ?_
      refine j_aload_n X dX6_addStatement_64 rfl 1 rfl ?_
      refine j_getR (C := RX6) (T := TX6) (N := 1) X o hs_o rfl hin_X6 0 (by decide) (o + 1) rfl q_90 dX6_addStatement_65 ?_
      refine j_iconst (v := 1) X dX6_addStatement_68 (by decide) ?_
      refine j_iload X dX6_addStatement_69 0 rfl ?_
      refine j_iconst (v := 1) X dX6_addStatement_71 (by decide) ?_
      refine j_iadd X dX6_addStatement_72 ?_
      obtain ⟨q_8, hq_8, h⟩ := bd_s h
      refine j_iast X (o + 1) 74 hs_o_1 hq_8 dX6_addStatement_73 ?_
      exact j_vret X hr hk dX6_addStatement_74 (Option.some.inj h)
    · have h := bi_f c_3 h
      exact j_vret X hr hk dX6_addStatement_18 (Option.some.inj h)
abbrev rm_X6_addClause : Room := { frames := 2, cells := 0, slots := 0, locals := 45 }
theorem pn_X6_addClause : yX6_addClause.cls ≠ "java/lang/invoke/MethodHandle" ∧ yX6_addClause.cls ≠ "java/lang/invoke/VarHandle" ∧ (parseMethodDescriptor yX6_addClause.desc).map (fun d => d.parameters.length) = some 2 := by decide +kernel
def m_X6_addClause (G : Mem) (o : Nat) (p1 : Int32) (p2 : Int32) : Option (Mem) := (m_X6_clauses G o).bind (fun r_1 => (if r_1 < 8 then (m_X6_setTense G o r_1 p1).bind (fun q_3 => (m_X6_setLink q_3 o r_1 p2).bind (fun q_4 => (ast 74 q_4 (o + 1) 0 (r_1 + 1)).bind (fun q_5 => (m_X6_addStatement q_5 o r_1 (-9) (-9) (-9)).bind (fun q_6 => some q_6)))) else some G))
set_option maxRecDepth 100000 in
set_option maxHeartbeats 4000000 in
theorem c_X6_addClause (l : Launch) (w : WP) (G : Mem) (o : Nat) (ho_o : o = 1 ∨ o = 3) (p1 : Int32) (p2 : Int32) {res : Mem} (h0 : m_X6_addClause G o p1 p2 = some res) : CMv l yX6_addClause cX6_addClause 4 none 2 45 w [.ref (w.1 o), .int p1, .int p2] G res := by
  have hs_o : fw_lay[o]? = some (.inl (6, [some (o + 1)])) := by rcases ho_o with rfl | rfl <;> rfl
  have hs_o_1 : fw_lay[o + 1]? = some (.inr (0, 74, 0)) := by rcases ho_o with rfl | rfl <;> rfl
  refine CMv.of (by decide +kernel) (Nat.le_of_ble_eq_true rfl) ?_
  intro p e s m args below meth c X hr hk
  have h := bs_i h0
  unfold m_X6_addClause at h
  show J p l e rm_X6_addClause s m args below meth c (Qvoid below args s w res) w 4 G 0 [(0, .ref (w.1 o)), (1, .int p1), (2, .int p2)] []
  refine j_aload_n X dX6_addClause_0 rfl 0 rfl ?_
  obtain ⟨r_1, hr_1, h⟩ := bd_s h
  refine j_callVi (As := []) X o hs_o rfl (c_X6_clauses l w G o ho_o  hr_1) rfl pn_X6_clauses q_337 q_323 q_324 q_60 q_325 ⟨Nat.le_of_ble_eq_true rfl, Nat.le_of_ble_eq_true rfl⟩ (Nat.le_of_ble_eq_true rfl) rfl dX6_addClause_1 ?_
  refine j_istore_n X [(3, .int r_1), (0, .ref (w.1 o)), (1, .int p1), (2, .int p2)] dX6_addClause_4 rfl (by decide) rfl ?_
  refine j_iload_n X dX6_addClause_5 rfl 0 rfl ?_
  refine j_bipush (v := 8) X dX6_addClause_6 (by decide) ?_
  refine j_icmp_lt X 12 dX6_addClause_8 (by decide) (fun c_2 => ?_) (fun c_2 => ?_)
  · have h := bi_t c_2 h
    refine j_aload_n X dX6_addClause_12 rfl 1 rfl ?_
    refine j_iload_n X dX6_addClause_13 rfl 0 rfl ?_
    refine j_iload_n X dX6_addClause_14 rfl 2 rfl ?_
    obtain ⟨q_3, hq_3, h⟩ := bd_s h
    refine j_callVv (As := [.int r_1, .int p1]) X o hs_o rfl (c_X6_setTense l w G o ho_o r_1 p1 hq_3) rfl pn_X6_setTense q_447 q_448 q_449 q_60 q_450 ⟨Nat.le_of_ble_eq_true rfl, Nat.le_of_ble_eq_true rfl⟩ (Nat.le_of_ble_eq_true rfl) rfl dX6_addClause_15 ?_
    refine j_aload_n X dX6_addClause_18 rfl 1 rfl ?_
    refine j_iload_n X dX6_addClause_19 rfl 0 rfl ?_
    refine j_iload_n X dX6_addClause_20 rfl 3 rfl ?_
    obtain ⟨q_4, hq_4, h⟩ := bd_s h
    refine j_callVv (As := [.int r_1, .int p2]) X o hs_o rfl (c_X6_setLink l w q_3 o ho_o r_1 p2 hq_4) rfl pn_X6_setLink q_451 q_452 q_453 q_60 q_454 ⟨Nat.le_of_ble_eq_true rfl, Nat.le_of_ble_eq_true rfl⟩ (Nat.le_of_ble_eq_true rfl) rfl dX6_addClause_21 ?_
    refine j_aload_n X dX6_addClause_24 rfl 1 rfl ?_
    refine j_getR (C := RX6) (T := TX6) (N := 1) X o hs_o rfl hin_X6 0 (by decide) (o + 1) rfl q_90 dX6_addClause_25 ?_
    refine j_iconst (v := 0) X dX6_addClause_28 (by decide) ?_
    refine j_iload_n X dX6_addClause_29 rfl 0 rfl ?_
    refine j_iconst (v := 1) X dX6_addClause_30 (by decide) ?_
    refine j_iadd X dX6_addClause_31 ?_
    obtain ⟨q_5, hq_5, h⟩ := bd_s h
    refine j_iast X (o + 1) 74 hs_o_1 hq_5 dX6_addClause_32 ?_
    refine j_aload_n X dX6_addClause_33 rfl 1 rfl ?_
    refine j_iload_n X dX6_addClause_34 rfl 0 rfl ?_
    refine j_bipush (v := (-9)) X dX6_addClause_35 (by decide) ?_
    refine j_bipush (v := (-9)) X dX6_addClause_37 (by decide) ?_
    refine j_bipush (v := (-9)) X dX6_addClause_39 (by decide) ?_
    obtain ⟨q_6, hq_6, h⟩ := bd_s h
    refine j_callVv (As := [.int r_1, .int (-9), .int (-9), .int (-9)]) X o hs_o rfl (c_X6_addStatement l w q_5 o ho_o r_1 (-9) (-9) (-9) hq_6) rfl pn_X6_addStatement q_455 q_457 q_7 q_60 q_458 ⟨Nat.le_of_ble_eq_true rfl, Nat.le_of_ble_eq_true rfl⟩ (Nat.le_of_ble_eq_true rfl) rfl dX6_addClause_41 ?_
    exact j_vret X hr hk dX6_addClause_44 (Option.some.inj h)
  · have h := bi_f c_2 h
    exact j_vret X hr hk dX6_addClause_11 (Option.some.inj h)
abbrev rm_X6_addSaying : Room := { frames := 2, cells := 0, slots := 0, locals := 45 }
theorem pn_X6_addSaying : yX6_addSaying.cls ≠ "java/lang/invoke/MethodHandle" ∧ yX6_addSaying.cls ≠ "java/lang/invoke/VarHandle" ∧ (parseMethodDescriptor yX6_addSaying.desc).map (fun d => d.parameters.length) = some 3 := by decide +kernel
def m_X6_addSaying (G : Mem) (o : Nat) (p1 : Int32) (p2 : Int32) (p3 : Int32) : Option (Mem) := (m_X6_addStatement G o (-9) p1 p2 p3).bind (fun q_1 => some q_1)
set_option maxRecDepth 100000 in
set_option maxHeartbeats 4000000 in
theorem c_X6_addSaying (l : Launch) (w : WP) (G : Mem) (o : Nat) (ho_o : o = 1 ∨ o = 3) (p1 : Int32) (p2 : Int32) (p3 : Int32) {res : Mem} (h0 : m_X6_addSaying G o p1 p2 p3 = some res) : CMv l yX6_addSaying cX6_addSaying 4 none 2 45 w [.ref (w.1 o), .int p1, .int p2, .int p3] G res := by
  have hs_o : fw_lay[o]? = some (.inl (6, [some (o + 1)])) := by rcases ho_o with rfl | rfl <;> rfl
  have hs_o_1 : fw_lay[o + 1]? = some (.inr (0, 74, 0)) := by rcases ho_o with rfl | rfl <;> rfl
  refine CMv.of (by decide +kernel) (Nat.le_of_ble_eq_true rfl) ?_
  intro p e s m args below meth c X hr hk
  have h := bs_i h0
  unfold m_X6_addSaying at h
  show J p l e rm_X6_addSaying s m args below meth c (Qvoid below args s w res) w 4 G 0 [(0, .ref (w.1 o)), (1, .int p1), (2, .int p2), (3, .int p3)] []
  refine j_aload_n X dX6_addSaying_0 rfl 0 rfl ?_
  refine j_bipush (v := (-9)) X dX6_addSaying_1 (by decide) ?_
  refine j_iload_n X dX6_addSaying_3 rfl 1 rfl ?_
  refine j_iload_n X dX6_addSaying_4 rfl 2 rfl ?_
  refine j_iload_n X dX6_addSaying_5 rfl 3 rfl ?_
  obtain ⟨q_1, hq_1, h⟩ := bd_s h
  refine j_callVv (As := [.int (-9), .int p1, .int p2, .int p3]) X o hs_o rfl (c_X6_addStatement l w G o ho_o (-9) p1 p2 p3 hq_1) rfl pn_X6_addStatement q_455 q_457 q_7 q_60 q_458 ⟨Nat.le_of_ble_eq_true rfl, Nat.le_of_ble_eq_true rfl⟩ (Nat.le_of_ble_eq_true rfl) rfl dX6_addSaying_6 ?_
  exact j_vret X hr hk dX6_addSaying_9 (Option.some.inj h)
abbrev rm_X6_become : Room := { frames := 1, cells := 0, slots := 0, locals := 22 }
theorem pn_X6_become : yX6_become.cls ≠ "java/lang/invoke/MethodHandle" ∧ yX6_become.cls ≠ "java/lang/invoke/VarHandle" ∧ (parseMethodDescriptor yX6_become.desc).map (fun d => d.parameters.length) = some 1 := by decide +kernel
def m_X6_become (G : Mem) (o : Nat) : Option (Mem) := (m_X6_copyRow G 4 (o + 1)).bind (fun q_1 => some q_1)
set_option maxRecDepth 100000 in
set_option maxHeartbeats 4000000 in
theorem c_X6_become (l : Launch) (w : WP) (G : Mem) (o : Nat) (ho_o : o = 1 ∨ o = 3) {res : Mem} (h0 : m_X6_become G o = some res) : CMv l yX6_become cX6_become 2 none 1 22 w [.ref (w.1 o), .ref (w.1 3)] G res := by
  have hs_o : fw_lay[o]? = some (.inl (6, [some (o + 1)])) := by rcases ho_o with rfl | rfl <;> rfl
  have hs_o_1 : fw_lay[o + 1]? = some (.inr (0, 74, 0)) := by rcases ho_o with rfl | rfl <;> rfl
  refine CMv.of (by decide +kernel) (Nat.le_of_ble_eq_true rfl) ?_
  intro p e s m args below meth c X hr hk
  have h := bs_i h0
  unfold m_X6_become at h
  show J p l e rm_X6_become s m args below meth c (Qvoid below args s w res) w 2 G 0 [(0, .ref (w.1 o)), (1, .ref (w.1 3))] []
  refine j_aload_n X dX6_become_0 rfl 1 rfl ?_
  refine j_getR (C := RX6) (T := TX6) (N := 1) X 3 s_3 rfl hin_X6 0 (by decide) 4 rfl q_90 dX6_become_1 ?_
  refine j_aload_n X dX6_become_4 rfl 0 rfl ?_
  refine j_getR (C := RX6) (T := TX6) (N := 1) X o hs_o rfl hin_X6 0 (by decide) (o + 1) rfl q_90 dX6_become_5 ?_
  obtain ⟨q_1, hq_1, h⟩ := bd_s h
  refine j_callSv (As := [.ref (w.1 4), .ref (w.1 (o + 1))]) X (c_X6_copyRow l w G 4 s_4 (o + 1) hs_o_1  hq_1) pn_X6_copyRow q_467 q_468 q_60 q_469 ⟨Nat.le_of_ble_eq_true rfl, Nat.le_of_ble_eq_true rfl⟩ (Nat.le_of_ble_eq_true rfl) rfl dX6_become_8 ?_
  exact j_vret X hr hk dX6_become_11 (Option.some.inj h)
abbrev rm_X6_empty : Room := { frames := 0, cells := 0, slots := 0, locals := 0 }
theorem pn_X6_empty : yX6_empty.cls ≠ "java/lang/invoke/MethodHandle" ∧ yX6_empty.cls ≠ "java/lang/invoke/VarHandle" ∧ (parseMethodDescriptor yX6_empty.desc).map (fun d => d.parameters.length) = some 0 := by decide +kernel
def m_X6_empty (G : Mem) (o : Nat) : Option (Mem) := (ast 74 G (o + 1) 0 0).bind (fun q_1 => (ast 74 q_1 (o + 1) 1 0).bind (fun q_2 => some q_2))
set_option maxRecDepth 100000 in
set_option maxHeartbeats 4000000 in
theorem c_X6_empty (l : Launch) (w : WP) (G : Mem) (o : Nat) (ho_o : o = 1 ∨ o = 3) {res : Mem} (h0 : m_X6_empty G o = some res) : CMv l yX6_empty cX6_empty 1 none 0 0 w [.ref (w.1 o)] G res := by
  have hs_o : fw_lay[o]? = some (.inl (6, [some (o + 1)])) := by rcases ho_o with rfl | rfl <;> rfl
  have hs_o_1 : fw_lay[o + 1]? = some (.inr (0, 74, 0)) := by rcases ho_o with rfl | rfl <;> rfl
  refine CMv.of (by decide +kernel) (Nat.le_of_ble_eq_true rfl) ?_
  intro p e s m args below meth c X hr hk
  have h := bs_i h0
  unfold m_X6_empty at h
  show J p l e rm_X6_empty s m args below meth c (Qvoid below args s w res) w 1 G 0 [(0, .ref (w.1 o))] []
  refine j_aload_n X dX6_empty_0 rfl 0 rfl ?_
  refine j_getR (C := RX6) (T := TX6) (N := 1) X o hs_o rfl hin_X6 0 (by decide) (o + 1) rfl q_90 dX6_empty_1 ?_
  refine j_iconst (v := 0) X dX6_empty_4 (by decide) ?_
  refine j_iconst (v := 0) X dX6_empty_5 (by decide) ?_
  obtain ⟨q_1, hq_1, h⟩ := bd_s h
  refine j_iast X (o + 1) 74 hs_o_1 hq_1 dX6_empty_6 ?_
  refine j_aload_n X dX6_empty_7 rfl 0 rfl ?_
  refine j_getR (C := RX6) (T := TX6) (N := 1) X o hs_o rfl hin_X6 0 (by decide) (o + 1) rfl q_90 dX6_empty_8 ?_
  refine j_iconst (v := 1) X dX6_empty_11 (by decide) ?_
  refine j_iconst (v := 0) X dX6_empty_12 (by decide) ?_
  obtain ⟨q_2, hq_2, h⟩ := bd_s h
  refine j_iast X (o + 1) 74 hs_o_1 hq_2 dX6_empty_13 ?_
  exact j_vret X hr hk dX6_empty_14 (Option.some.inj h)
abbrev rm_X6_placeOf : Room := { frames := 2, cells := 0, slots := 0, locals := 43 }
theorem pn_X6_placeOf : yX6_placeOf.cls ≠ "java/lang/invoke/MethodHandle" ∧ yX6_placeOf.cls ≠ "java/lang/invoke/VarHandle" ∧ (parseMethodDescriptor yX6_placeOf.desc).map (fun d => d.parameters.length) = some 1 := by decide +kernel
def L_X6_placeOf_2 (o : Nat) (x1 : Int32) (G : Mem) : Nat → Int32 → Option ((Unit) ⊕ (Int32))
  | 0, _ => none
  | n + 1, x2 => (m_X6_statements G o).bind (fun r_1 => (if r_1 ≤ x2 then some (Sum.inl ()) else (m_X6_clauseAt G o x2).bind (fun r_3 => (if r_3 = x1 then some (Sum.inr x2) else L_X6_placeOf_2 o x1 G n (x2 + 1)))))
def m_X6_placeOf (G : Mem) (o : Nat) (p1 : Int32) : Option (Int32) := (L_X6_placeOf_2 o p1 G NF 0).bind (fun o_v_5 => (match o_v_5 with | Sum.inl v_5 => some (-9) | Sum.inr v_6 => some v_6))
set_option maxRecDepth 100000 in
set_option maxHeartbeats 4000000 in
theorem jL_X6_placeOf_2 {p : Program} {l : Launch} {e : Env} {s : State} {m : MethodId} {args : Array Value} {below : List Frame} {meth : Method} {c : Code} {w : WP} (X : fw_X p s m args c cX6_placeOf 3 RX6 w) (hr : meth.sig.returnType = (some .int)) (hk : meth.locks = false) (o : Nat) (ho_o : o = 1 ∨ o = 3) {x1 : Int32} {G : Mem} {res : Int32} {K : (Unit) ⊕ (Int32) → Option (Int32)} (HK : ∀ v : Unit, K (Sum.inl v) = some res → J p l e rm_X6_placeOf s m args below meth c (Qint below args s w (res, G)) w 3 G 27 [] []) (HR : ∀ v : Int32, K (Sum.inr v) = some res → v = res) : ∀ (n : Nat) (x2 : Int32), (L_X6_placeOf_2 o x1 G n x2).bind K = some res → J p l e rm_X6_placeOf s m args below meth c (Qint below args s w (res, G)) w 3 G 2 [(0, .ref (w.1 o)), (1, .int x1), (2, .int x2)] [] := by
  have hs_o : fw_lay[o]? = some (.inl (6, [some (o + 1)])) := by rcases ho_o with rfl | rfl <;> rfl
  have hs_o_1 : fw_lay[o + 1]? = some (.inr (0, 74, 0)) := by rcases ho_o with rfl | rfl <;> rfl
  intro n
  induction n with
  | zero =>
    intro x2 h
    rw [L_X6_placeOf_2] at h
    cases h
  | succ n ih =>
    intro x2 h
    rw [L_X6_placeOf_2] at h
    refine j_iload_n X dX6_placeOf_2 rfl 2 rfl ?_
    refine j_aload_n X dX6_placeOf_3 rfl 0 rfl ?_
    obtain ⟨r_1, hr_1, h⟩ := bd_s h
    refine j_callVi (As := []) X o hs_o rfl (c_X6_statements l w G o ho_o  hr_1) rfl pn_X6_statements q_333 q_334 q_335 q_60 q_336 ⟨Nat.le_of_ble_eq_true rfl, Nat.le_of_ble_eq_true rfl⟩ (Nat.le_of_ble_eq_true rfl) rfl dX6_placeOf_4 ?_
    refine j_icmp_ge X 27 dX6_placeOf_7 (by decide) (fun c_2 => ?_) (fun c_2 => ?_)
    · have h := bi_t c_2 h
      refine j_pick [] rfl ?_
      exact HK () h
    · have h := bi_f c_2 h
      refine j_aload_n X dX6_placeOf_10 rfl 0 rfl ?_
      refine j_iload_n X dX6_placeOf_11 rfl 2 rfl ?_
      obtain ⟨r_3, hr_3, h⟩ := bd_s h
      refine j_callVi (As := [.int x2]) X o hs_o rfl (c_X6_clauseAt l w G o ho_o x2 hr_3) rfl pn_X6_clauseAt q_509 q_510 q_511 q_60 q_512 ⟨Nat.le_of_ble_eq_true rfl, Nat.le_of_ble_eq_true rfl⟩ (Nat.le_of_ble_eq_true rfl) rfl dX6_placeOf_12 ?_
      refine j_iload_n X dX6_placeOf_15 rfl 1 rfl ?_
      refine j_icmp_ne X 21 dX6_placeOf_16 (by decide) (fun c_4 => ?_) (fun c_4 => ?_)
      · have h := bi_f c_4 h
        refine j_iinc (v := x2 + 1) X [(2, .int (x2 + 1)), (0, .ref (w.1 o)), (1, .int x1)] dX6_placeOf_21 2 rfl rfl (by decide) rfl ?_
        refine j_goto X 2 dX6_placeOf_24 (by decide) ?_
        refine j_pick [1, 2, 0] rfl ?_
        exact ih (x2 + 1) h
      · have h := bi_t c_4 h
        refine j_iload_n X dX6_placeOf_19 rfl 2 rfl ?_
        exact j_iret X hr hk dX6_placeOf_20 (congrArg (fun z => (z, G)) (HR _ h))
set_option maxRecDepth 100000 in
set_option maxHeartbeats 4000000 in
theorem c_X6_placeOf (l : Launch) (w : WP) (G : Mem) (o : Nat) (ho_o : o = 1 ∨ o = 3) (p1 : Int32) {res : Int32} (h0 : m_X6_placeOf G o p1 = some res) : CMi l yX6_placeOf cX6_placeOf 3 (some .int) 2 43 w [.ref (w.1 o), .int p1] G (res, G) := by
  have hs_o : fw_lay[o]? = some (.inl (6, [some (o + 1)])) := by rcases ho_o with rfl | rfl <;> rfl
  have hs_o_1 : fw_lay[o + 1]? = some (.inr (0, 74, 0)) := by rcases ho_o with rfl | rfl <;> rfl
  refine CMi.of (by decide +kernel) (Nat.le_of_ble_eq_true rfl) ?_
  intro p e s m args below meth c X hr hk
  have h := bs_i h0
  unfold m_X6_placeOf at h
  show J p l e rm_X6_placeOf s m args below meth c (Qint below args s w (res, G)) w 3 G 0 [(0, .ref (w.1 o)), (1, .int p1)] []
  refine j_iconst (v := 0) X dX6_placeOf_0 (by decide) ?_
  refine j_istore_n X [(2, .int 0), (0, .ref (w.1 o)), (1, .int p1)] dX6_placeOf_1 rfl (by decide) rfl ?_
  have h := bb_a h
  have Hv_5 : ∀ v_5 : Unit, (some (-9)).bind some = some res → J p l e rm_X6_placeOf s m args below meth c (Qint below args s w (res, G)) w 3 G 27 [] [] := by
    intro v_5 h
    refine j_bipush (v := (-9)) X dX6_placeOf_27 (by decide) ?_
    exact j_iret X hr hk dX6_placeOf_29 (congrArg (fun z => (z, G)) (Option.some.inj h))
  refine j_pick [1, 2, 0] rfl ?_
  exact jL_X6_placeOf_2 (K := fun o_v_5 => ((match o_v_5 with | Sum.inl v_5 => some (-9) | Sum.inr v_6 => some v_6)).bind some) X hr hk o ho_o Hv_5 (fun z h => Option.some.inj h) NF 0 h
abbrev rm_X6_removeSaying : Room := { frames := 1, cells := 0, slots := 0, locals := 20 }
theorem pn_X6_removeSaying : yX6_removeSaying.cls ≠ "java/lang/invoke/MethodHandle" ∧ yX6_removeSaying.cls ≠ "java/lang/invoke/VarHandle" ∧ (parseMethodDescriptor yX6_removeSaying.desc).map (fun d => d.parameters.length) = some 1 := by decide +kernel
def L_X6_removeSaying_15 (o : Nat) : Nat → Int32 → Mem → Option (Mem)
  | 0, _, _ => none
  | n + 1, x2, G => (if 14 ≤ (x2 + 1) then some G else (ald 74 G (o + 1) ((18 + x2) + 1)).bind (fun r_5 => (ast 74 G (o + 1) (18 + x2) r_5).bind (fun q_6 => (ald 74 q_6 (o + 1) ((32 + x2) + 1)).bind (fun r_7 => (ast 74 q_6 (o + 1) (32 + x2) r_7).bind (fun q_8 => (ald 74 q_8 (o + 1) ((46 + x2) + 1)).bind (fun r_9 => (ast 74 q_8 (o + 1) (46 + x2) r_9).bind (fun q_10 => (ald 74 q_10 (o + 1) ((60 + x2) + 1)).bind (fun r_11 => (ast 74 q_10 (o + 1) (60 + x2) r_11).bind (fun q_12 => L_X6_removeSaying_15 o n (x2 + 1) q_12)))))))))
def m_X6_removeSaying (G : Mem) (o : Nat) (p1 : Int32) : Option (Mem) := (if p1 < 0 then some G else (m_X6_statements G o).bind (fun r_2 => (if p1 < r_2 then (L_X6_removeSaying_15 o NF p1 G).bind (fun v_13 => (m_X6_statements v_13 o).bind (fun r_14 => (ast 74 v_13 (o + 1) 1 (r_14 - 1)).bind (fun q_15 => some q_15))) else some G)))
set_option maxRecDepth 100000 in
set_option maxHeartbeats 4000000 in
theorem jL_X6_removeSaying_15 {p : Program} {l : Launch} {e : Env} {s : State} {m : MethodId} {args : Array Value} {below : List Frame} {meth : Method} {c : Code} {w : WP} (X : fw_X p s m args c cX6_removeSaying 3 RX6 w) (hr : meth.sig.returnType = none) (hk : meth.locks = false) (o : Nat) (ho_o : o = 1 ∨ o = 3) {res : Mem} {K : Mem → Option (Mem)} (HK : ∀ v : Mem, K v = some res → J p l e rm_X6_removeSaying s m args below meth c (Qvoid below args s w res) w 3 v 109 [(0, .ref (w.1 o))] []) : ∀ (n : Nat) (x2 : Int32) (G : Mem), (L_X6_removeSaying_15 o n x2 G).bind K = some res → J p l e rm_X6_removeSaying s m args below meth c (Qvoid below args s w res) w 3 G 15 [(0, .ref (w.1 o)), (2, .int x2)] [] := by
  have hs_o : fw_lay[o]? = some (.inl (6, [some (o + 1)])) := by rcases ho_o with rfl | rfl <;> rfl
  have hs_o_1 : fw_lay[o + 1]? = some (.inr (0, 74, 0)) := by rcases ho_o with rfl | rfl <;> rfl
  intro n
  induction n with
  | zero =>
    intro x2 G h
    rw [L_X6_removeSaying_15] at h
    cases h
  | succ n ih =>
    intro x2 G h
    rw [L_X6_removeSaying_15] at h
    refine j_iload_n X dX6_removeSaying_15 rfl 1 rfl ?_
    refine j_iconst (v := 1) X dX6_removeSaying_16 (by decide) ?_
    refine j_iadd X dX6_removeSaying_17 ?_
    refine j_bipush (v := 14) X dX6_removeSaying_18 (by decide) ?_
    refine j_icmp_ge X 109 dX6_removeSaying_20 (by decide) (fun c_4 => ?_) (fun c_4 => ?_)
    · have h := bi_t c_4 h
      refine j_pick [0] rfl ?_
      exact HK G h
    · have h := bi_f c_4 h
      refine j_aload_n X dX6_removeSaying_23 rfl 0 rfl ?_
      refine j_getR (C := RX6) (T := TX6) (N := 1) X o hs_o rfl hin_X6 0 (by decide) (o + 1) rfl q_90 dX6_removeSaying_24 ?_
      refine j_bipush (v := 18) X dX6_removeSaying_27 (by decide) ?_
      refine j_iload_n X dX6_removeSaying_29 rfl 1 rfl ?_
      refine j_iadd X dX6_removeSaying_30 ?_
      refine j_aload_n X dX6_removeSaying_31 rfl 0 rfl ?_
      refine j_getR (C := RX6) (T := TX6) (N := 1) X o hs_o rfl hin_X6 0 (by decide) (o + 1) rfl q_90 dX6_removeSaying_32 ?_
      refine j_bipush (v := 18) X dX6_removeSaying_35 (by decide) ?_
      refine j_iload_n X dX6_removeSaying_37 rfl 1 rfl ?_
      refine j_iadd X dX6_removeSaying_38 ?_
      refine j_iconst (v := 1) X dX6_removeSaying_39 (by decide) ?_
      refine j_iadd X dX6_removeSaying_40 ?_
      obtain ⟨r_5, hr_5, h⟩ := bd_s h
      refine j_iald X (o + 1) 74 hs_o_1 hr_5 dX6_removeSaying_41 ?_
      obtain ⟨q_6, hq_6, h⟩ := bd_s h
      refine j_iast X (o + 1) 74 hs_o_1 hq_6 dX6_removeSaying_42 ?_
      refine j_aload_n X dX6_removeSaying_43 rfl 0 rfl ?_
      refine j_getR (C := RX6) (T := TX6) (N := 1) X o hs_o rfl hin_X6 0 (by decide) (o + 1) rfl q_90 dX6_removeSaying_44 ?_
      refine j_bipush (v := 32) X dX6_removeSaying_47 (by decide) ?_
      refine j_iload_n X dX6_removeSaying_49 rfl 1 rfl ?_
      refine j_iadd X dX6_removeSaying_50 ?_
      refine j_aload_n X dX6_removeSaying_51 rfl 0 rfl ?_
      refine j_getR (C := RX6) (T := TX6) (N := 1) X o hs_o rfl hin_X6 0 (by decide) (o + 1) rfl q_90 dX6_removeSaying_52 ?_
      refine j_bipush (v := 32) X dX6_removeSaying_55 (by decide) ?_
      refine j_iload_n X dX6_removeSaying_57 rfl 1 rfl ?_
      refine j_iadd X dX6_removeSaying_58 ?_
      refine j_iconst (v := 1) X dX6_removeSaying_59 (by decide) ?_
      refine j_iadd X dX6_removeSaying_60 ?_
      obtain ⟨r_7, hr_7, h⟩ := bd_s h
      refine j_iald X (o + 1) 74 hs_o_1 hr_7 dX6_removeSaying_61 ?_
      obtain ⟨q_8, hq_8, h⟩ := bd_s h
      refine j_iast X (o + 1) 74 hs_o_1 hq_8 dX6_removeSaying_62 ?_
      refine j_aload_n X dX6_removeSaying_63 rfl 0 rfl ?_
      refine j_getR (C := RX6) (T := TX6) (N := 1) X o hs_o rfl hin_X6 0 (by decide) (o + 1) rfl q_90 dX6_removeSaying_64 ?_
      refine j_bipush (v := 46) X dX6_removeSaying_67 (by decide) ?_
      refine j_iload_n X dX6_removeSaying_69 rfl 1 rfl ?_
      refine j_iadd X dX6_removeSaying_70 ?_
      refine j_aload_n X dX6_removeSaying_71 rfl 0 rfl ?_
      refine j_getR (C := RX6) (T := TX6) (N := 1) X o hs_o rfl hin_X6 0 (by decide) (o + 1) rfl q_90 dX6_removeSaying_72 ?_
      refine j_bipush (v := 46) X dX6_removeSaying_75 (by decide) ?_
      refine j_iload_n X dX6_removeSaying_77 rfl 1 rfl ?_
      refine j_iadd X dX6_removeSaying_78 ?_
      refine j_iconst (v := 1) X dX6_removeSaying_79 (by decide) ?_
      refine j_iadd X dX6_removeSaying_80 ?_
      obtain ⟨r_9, hr_9, h⟩ := bd_s h
      refine j_iald X (o + 1) 74 hs_o_1 hr_9 dX6_removeSaying_81 ?_
      obtain ⟨q_10, hq_10, h⟩ := bd_s h
      refine j_iast X (o + 1) 74 hs_o_1 hq_10 dX6_removeSaying_82 ?_
      refine j_aload_n X dX6_removeSaying_83 rfl 0 rfl ?_
      refine j_getR (C := RX6) (T := TX6) (N := 1) X o hs_o rfl hin_X6 0 (by decide) (o + 1) rfl q_90 dX6_removeSaying_84 ?_
      refine j_bipush (v := 60) X dX6_removeSaying_87 (by decide) ?_
      refine j_iload_n X dX6_removeSaying_89 rfl 1 rfl ?_
      refine j_iadd X dX6_removeSaying_90 ?_
      refine j_aload_n X dX6_removeSaying_91 rfl 0 rfl ?_
      refine j_getR (C := RX6) (T := TX6) (N := 1) X o hs_o rfl hin_X6 0 (by decide) (o + 1) rfl q_90 dX6_removeSaying_92 ?_
      refine j_bipush (v := 60) X dX6_removeSaying_95 (by decide) ?_
      refine j_iload_n X dX6_removeSaying_97 rfl 1 rfl ?_
      refine j_iadd X dX6_removeSaying_98 ?_
      refine j_iconst (v := 1) X dX6_removeSaying_99 (by decide) ?_
      refine j_iadd X dX6_removeSaying_100 ?_
      obtain ⟨r_11, hr_11, h⟩ := bd_s h
      refine j_iald X (o + 1) 74 hs_o_1 hr_11 dX6_removeSaying_101 ?_
      obtain ⟨q_12, hq_12, h⟩ := bd_s h
      refine j_iast X (o + 1) 74 hs_o_1 hq_12 dX6_removeSaying_102 ?_
      refine j_iinc (v := x2 + 1) X [(2, .int (x2 + 1)), (0, .ref (w.1 o))] dX6_removeSaying_103 1 rfl rfl (by decide) rfl ?_
      refine j_goto X 15 dX6_removeSaying_106 (by decide) ?_
      refine j_pick [1, 0] rfl ?_
      exact ih (x2 + 1) q_12 h
set_option maxRecDepth 100000 in
set_option maxHeartbeats 4000000 in
theorem c_X6_removeSaying (l : Launch) (w : WP) (G : Mem) (o : Nat) (ho_o : o = 1 ∨ o = 3) (p1 : Int32) {res : Mem} (h0 : m_X6_removeSaying G o p1 = some res) : CMv l yX6_removeSaying cX6_removeSaying 3 none 1 20 w [.ref (w.1 o), .int p1] G res := by
  have hs_o : fw_lay[o]? = some (.inl (6, [some (o + 1)])) := by rcases ho_o with rfl | rfl <;> rfl
  have hs_o_1 : fw_lay[o + 1]? = some (.inr (0, 74, 0)) := by rcases ho_o with rfl | rfl <;> rfl
  refine CMv.of (by decide +kernel) (Nat.le_of_ble_eq_true rfl) ?_
  intro p e s m args below meth c X hr hk
  have h := bs_i h0
  unfold m_X6_removeSaying at h
  show J p l e rm_X6_removeSaying s m args below meth c (Qvoid below args s w res) w 3 G 0 [(0, .ref (w.1 o)), (1, .int p1)] []
  refine j_iload_n X dX6_removeSaying_0 rfl 1 rfl ?_
  refine j_if_lt X 12 dX6_removeSaying_1 (by decide) (fun c_1 => ?_) (fun c_1 => ?_)
  · have h := bi_t c_1 h
    exact j_vret X hr hk dX6_removeSaying_12 (Option.some.inj h)
  · have h := bi_f c_1 h
    refine j_iload_n X dX6_removeSaying_4 rfl 1 rfl ?_
    refine j_aload_n X dX6_removeSaying_5 rfl 0 rfl ?_
    obtain ⟨r_2, hr_2, h⟩ := bd_s h
    refine j_callVi (As := []) X o hs_o rfl (c_X6_statements l w G o ho_o  hr_2) rfl pn_X6_statements q_333 q_334 q_335 q_60 q_336 ⟨Nat.le_of_ble_eq_true rfl, Nat.le_of_ble_eq_true rfl⟩ (Nat.le_of_ble_eq_true rfl) rfl dX6_removeSaying_6 ?_
    refine j_icmp_lt X 13 dX6_removeSaying_9 (by decide) (fun c_3 => ?_) (fun c_3 => ?_)
    · have h := bi_t c_3 h
      refine j_iload_n X dX6_removeSaying_13 rfl 1 rfl ?_
      refine j_istore_n X [(2, .int p1), (0, .ref (w.1 o)), (1, .int p1)] dX6_removeSaying_14 rfl (by decide) rfl ?_
      have h := bb_a h
      have Hv_13 : ∀ v_13 : Mem, ((m_X6_statements v_13 o).bind (fun r_14 => (ast 74 v_13 (o + 1) 1 (r_14 - 1)).bind (fun q_15 => some q_15))).bind some = some res → J p l e rm_X6_removeSaying s m args below meth c (Qvoid below args s w res) w 3 v_13 109 [(0, .ref (w.1 o))] [] := by
        intro v_13 h
        refine j_aload_n X dX6_removeSaying_109 rfl 0 rfl ?_
        refine j_getR (C := RX6) (T := TX6) (N := 1) X o hs_o rfl hin_X6 0 (by decide) (o + 1) rfl q_90 dX6_removeSaying_110 ?_
        refine j_iconst (v := 1) X dX6_removeSaying_113 (by decide) ?_
        refine j_aload_n X dX6_removeSaying_114 rfl 0 rfl ?_
        obtain ⟨r_14, hr_14, h⟩ := bd_s h
        refine j_callVi (As := []) X o hs_o rfl (c_X6_statements l w v_13 o ho_o  hr_14) rfl pn_X6_statements q_333 q_334 q_335 q_60 q_336 ⟨Nat.le_of_ble_eq_true rfl, Nat.le_of_ble_eq_true rfl⟩ (Nat.le_of_ble_eq_true rfl) rfl dX6_removeSaying_115 ?_
        refine j_iconst (v := 1) X dX6_removeSaying_118 (by decide) ?_
        refine j_isub X dX6_removeSaying_119 ?_
        obtain ⟨q_15, hq_15, h⟩ := bd_s h
        refine j_iast X (o + 1) 74 hs_o_1 hq_15 dX6_removeSaying_120 ?_
        exact j_vret X hr hk dX6_removeSaying_121 (Option.some.inj h)
      refine j_pick [1, 0] rfl ?_
      exact jL_X6_removeSaying_15 X hr hk o ho_o Hv_13 NF p1 G h
    · have h := bi_f c_3 h
      exact j_vret X hr hk dX6_removeSaying_12 (Option.some.inj h)
abbrev rm_X6_sayings : Room := { frames := 1, cells := 0, slots := 0, locals := 20 }
theorem pn_X6_sayings : yX6_sayings.cls ≠ "java/lang/invoke/MethodHandle" ∧ yX6_sayings.cls ≠ "java/lang/invoke/VarHandle" ∧ (parseMethodDescriptor yX6_sayings.desc).map (fun d => d.parameters.length) = some 0 := by decide +kernel
def m_X6_sayings (G : Mem) (o : Nat) : Option (Int32) := (m_X6_statements G o).bind (fun r_1 => (m_X6_clauses G o).bind (fun r_2 => some (r_1 - r_2)))
set_option maxRecDepth 100000 in
set_option maxHeartbeats 4000000 in
theorem c_X6_sayings (l : Launch) (w : WP) (G : Mem) (o : Nat) (ho_o : o = 1 ∨ o = 3) {res : Int32} (h0 : m_X6_sayings G o = some res) : CMi l yX6_sayings cX6_sayings 1 (some .int) 1 20 w [.ref (w.1 o)] G (res, G) := by
  have hs_o : fw_lay[o]? = some (.inl (6, [some (o + 1)])) := by rcases ho_o with rfl | rfl <;> rfl
  have hs_o_1 : fw_lay[o + 1]? = some (.inr (0, 74, 0)) := by rcases ho_o with rfl | rfl <;> rfl
  refine CMi.of (by decide +kernel) (Nat.le_of_ble_eq_true rfl) ?_
  intro p e s m args below meth c X hr hk
  have h := bs_i h0
  unfold m_X6_sayings at h
  show J p l e rm_X6_sayings s m args below meth c (Qint below args s w (res, G)) w 1 G 0 [(0, .ref (w.1 o))] []
  refine j_aload_n X dX6_sayings_0 rfl 0 rfl ?_
  obtain ⟨r_1, hr_1, h⟩ := bd_s h
  refine j_callVi (As := []) X o hs_o rfl (c_X6_statements l w G o ho_o  hr_1) rfl pn_X6_statements q_333 q_334 q_335 q_60 q_336 ⟨Nat.le_of_ble_eq_true rfl, Nat.le_of_ble_eq_true rfl⟩ (Nat.le_of_ble_eq_true rfl) rfl dX6_sayings_1 ?_
  refine j_aload_n X dX6_sayings_4 rfl 0 rfl ?_
  obtain ⟨r_2, hr_2, h⟩ := bd_s h
  refine j_callVi (As := []) X o hs_o rfl (c_X6_clauses l w G o ho_o  hr_2) rfl pn_X6_clauses q_337 q_323 q_324 q_60 q_325 ⟨Nat.le_of_ble_eq_true rfl, Nat.le_of_ble_eq_true rfl⟩ (Nat.le_of_ble_eq_true rfl) rfl dX6_sayings_5 ?_
  refine j_isub X dX6_sayings_8 ?_
  exact j_iret X hr hk dX6_sayings_9 (congrArg (fun z => (z, G)) (Option.some.inj h))
abbrev rm_X7_append : Room := { frames := 0, cells := 0, slots := 0, locals := 0 }
theorem pn_X7_append : yX7_append.cls ≠ "java/lang/invoke/MethodHandle" ∧ yX7_append.cls ≠ "java/lang/invoke/VarHandle" ∧ (parseMethodDescriptor yX7_append.desc).map (fun d => d.parameters.length) = some 1 := by decide +kernel
def m_X7_append (G : Mem) (p1 : Int32) : Option (Int32 × Mem) := (if (G 5 1) < 0 then some (0, G) else (if (G 5 1) < 80 then (ast 80 G 6 (G 5 1) p1).bind (fun q_3 => some (1, upm q_3 5 1 ((q_3 5 1) + 1))) else some (0, G)))
set_option maxRecDepth 100000 in
set_option maxHeartbeats 4000000 in
theorem c_X7_append (l : Launch) (w : WP) (G : Mem) (p1 : Int32) {res : Int32 × Mem} (h0 : m_X7_append G p1 = some res) : CMi l yX7_append cX7_append 2 (some .boolean) 0 0 w [.ref (w.1 5), .int p1] G res := by
  refine CMi.of (by decide +kernel) (Nat.le_of_ble_eq_true rfl) ?_
  intro p e s m args below meth c X hr hk
  have h := bs_i h0
  unfold m_X7_append at h
  show J p l e rm_X7_append s m args below meth c (Qint below args s w res) w 2 G 0 [(0, .ref (w.1 5)), (1, .int p1)] []
  refine j_aload_n X dX7_append_0 rfl 0 rfl ?_
  refine j_getI (C := RX7) (T := TX7) (N := 8) X 5 s_5 rfl hin_X7 1 (by decide) rfl q_102 dX7_append_1 ?_
  refine j_if_lt X 19 dX7_append_4 (by decide) (fun c_1 => ?_) (fun c_1 => ?_)
  · have h := bi_t c_1 h
    refine j_iconst (v := 0) X dX7_append_19 (by decide) ?_
    exact j_zret X hr hk (by decide) dX7_append_20 (Option.some.inj h)
  · have h := bi_f c_1 h
    refine j_aload_n X dX7_append_7 rfl 0 rfl ?_
    refine j_getI (C := RX7) (T := TX7) (N := 8) X 5 s_5 rfl hin_X7 1 (by decide) rfl q_102 dX7_append_8 ?_
    refine j_aload_n X dX7_append_11 rfl 0 rfl ?_
    refine j_getR (C := RX7) (T := TX7) (N := 8) X 5 s_5 rfl hin_X7 0 (by decide) 6 rfl q_101 dX7_append_12 ?_
    refine j_alenI X 6 80 s_6 (show Int32.ofNat 80 = 80 from rfl) dX7_append_15 ?_
    refine j_icmp_lt X 21 dX7_append_16 (by decide) (fun c_2 => ?_) (fun c_2 => ?_)
    · have h := bi_t c_2 h
      refine j_aload_n X dX7_append_21 rfl 0 rfl ?_
      refine j_getR (C := RX7) (T := TX7) (N := 8) X 5 s_5 rfl hin_X7 0 (by decide) 6 rfl q_101 dX7_append_22 ?_
      refine j_aload_n X dX7_append_25 rfl 0 rfl ?_
      refine j_getI (C := RX7) (T := TX7) (N := 8) X 5 s_5 rfl hin_X7 1 (by decide) rfl q_102 dX7_append_26 ?_
      refine j_iload_n X dX7_append_29 rfl 1 rfl ?_
      obtain ⟨q_3, hq_3, h⟩ := bd_s h
      refine j_iast X 6 80 s_6 hq_3 dX7_append_30 ?_
      refine j_aload_n X dX7_append_31 rfl 0 rfl ?_
      refine j_dup X dX7_append_32 rfl ?_
      refine j_getI (C := RX7) (T := TX7) (N := 8) X 5 s_5 rfl hin_X7 1 (by decide) rfl q_102 dX7_append_33 ?_
      refine j_iconst (v := 1) X dX7_append_36 (by decide) ?_
      refine j_iadd X dX7_append_37 ?_
      refine j_putI (C := RX7) (T := TX7) (N := 8) X tyX7 tyX7_ok nmX7 5 s_5 rfl hin_X7 1 (by decide) rfl q_102 rfl rfl dX7_append_38 ?_
      refine j_iconst (v := 1) X dX7_append_41 (by decide) ?_
      exact j_zret X hr hk (by decide) dX7_append_42 (Option.some.inj h)
    · have h := bi_f c_2 h
      refine j_iconst (v := 0) X dX7_append_19 (by decide) ?_
      exact j_zret X hr hk (by decide) dX7_append_20 (Option.some.inj h)
