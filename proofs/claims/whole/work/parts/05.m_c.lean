abbrev rm_X3_stepsBackTo : Room := { frames := 1, cells := 0, slots := 0, locals := 21 }
theorem pn_X3_stepsBackTo : yX3_stepsBackTo.cls ≠ "java/lang/invoke/MethodHandle" ∧ yX3_stepsBackTo.cls ≠ "java/lang/invoke/VarHandle" ∧ (parseMethodDescriptor yX3_stepsBackTo.desc).map (fun d => d.parameters.length) = some 2 := by decide +kernel
def L_X3_stepsBackTo_25 (x3 : Int32) (x4 : Int32) (G : Mem) : Nat → Int32 → Int32 → Int32 → Option (Int32 × Int32)
  | 0, _, _, _ => none
  | n + 1, x6, x7, x8 => (if 17 ≤ x8 then some (x6, x7) else ((if (m_X8_has x3 x8) = 0 then some (x6, x7) else (ald 17 G 64 x8).bind (fun r_5 => ((if (m_X8_has x4 x8) = 0 then (ald 17 G 65 x8).bind (fun r_8 => some (x6 ||| r_5, r_8)) else (ald 17 G 64 x8).bind (fun r_9 => some (x6 ||| r_5, r_9))) : Option (Int32 × Int32)).bind (fun (v_6 : Int32 × Int32) => some (v_6.1, x7 ||| v_6.2)))) : Option (Int32 × Int32)).bind (fun (v_3 : Int32 × Int32) => L_X3_stepsBackTo_25 x3 x4 G n v_3.1 v_3.2 (x8 + 1)))
def L_X3_stepsBackTo_10 (x1 : Int32) (x2 : Int32) (G : Mem) : Nat → Int32 → Int32 → Int32 → Option ((Unit) ⊕ (Int32))
  | 0, _, _, _ => none
  | n + 1, x3, x4, x5 => (if x2 < x5 then some (Sum.inl ()) else (L_X3_stepsBackTo_25 x3 x4 G NF 0 0 0).bind (fun v_10 => (if (m_X8_has v_10.2 x1) = 0 then L_X3_stepsBackTo_10 x1 x2 G n v_10.1 v_10.2 (x5 + 1) else some (Sum.inr x5))))
def m_X3_stepsBackTo (G : Mem) (p1 : Int32) (p2 : Int32) : Option (Int32) := (L_X3_stepsBackTo_10 p1 p2 G NF (1 <<< (p1 &&& 31)) 0 1).bind (fun o_v_12 => (match o_v_12 with | Sum.inl v_12 => some 0 | Sum.inr v_13 => some v_13))
set_option maxRecDepth 100000 in
set_option maxHeartbeats 4000000 in
theorem jL_X3_stepsBackTo_25 {p : Program} {l : Launch} {e : Env} {s : State} {m : MethodId} {args : Array Value} {below : List Frame} {meth : Method} {c : Code} {w : WP} (X : fw_X p s m args c cX3_stepsBackTo 9 RX3 w) (hr : meth.sig.returnType = (some .int)) (hk : meth.locks = false) {x1 : Int32} {x2 : Int32} {x3 : Int32} {x4 : Int32} {x5 : Int32} {G : Mem} {res : Int32} {K : Int32 × Int32 → Option (Int32)} (HK : ∀ v : Int32 × Int32, K v = some res → J p l e rm_X3_stepsBackTo s m args below meth c (Qint below args s w (res, G)) w 9 G 91 [(0, .ref (w.1 30)), (1, .int x1), (2, .int x2), (5, .int x5), (6, .int v.1), (7, .int v.2)] []) : ∀ (n : Nat) (x6 : Int32) (x7 : Int32) (x8 : Int32), (L_X3_stepsBackTo_25 x3 x4 G n x6 x7 x8).bind K = some res → J p l e rm_X3_stepsBackTo s m args below meth c (Qint below args s w (res, G)) w 9 G 25 [(0, .ref (w.1 30)), (1, .int x1), (2, .int x2), (3, .int x3), (4, .int x4), (5, .int x5), (6, .int x6), (7, .int x7), (8, .int x8)] [] := by
  intro n
  induction n with
  | zero =>
    intro x6 x7 x8 h
    rw [L_X3_stepsBackTo_25] at h
    cases h
  | succ n ih =>
    intro x6 x7 x8 h
    rw [L_X3_stepsBackTo_25] at h
    refine j_iload X dX3_stepsBackTo_25 8 rfl ?_
    refine j_bipush (v := 17) X dX3_stepsBackTo_27 (by decide) ?_
    refine j_icmp_ge X 91 dX3_stepsBackTo_29 (by decide) (fun c_2 => ?_) (fun c_2 => ?_)
    · have h := bi_t c_2 h
      refine j_pick [0, 1, 2, 5, 6, 7] rfl ?_
      exact HK (x6, x7) h
    · have h := bi_f c_2 h
      refine j_iload_n X dX3_stepsBackTo_32 rfl 3 rfl ?_
      refine j_iload X dX3_stepsBackTo_33 8 rfl ?_
      refine j_callNi (As := [.int x3, .int x8]) X (c_X8_has l w G  x3 x8) pn_X8_has nm_4 q_620 q_59 q_621 ⟨Nat.le_of_ble_eq_true rfl, Nat.le_of_ble_eq_true rfl⟩ (Nat.le_of_ble_eq_true rfl) rfl dX3_stepsBackTo_35 ?_
      have h := bb_a h
      have Hv_3 : ∀ v_3 : Int32 × Int32, (L_X3_stepsBackTo_25 x3 x4 G n v_3.1 v_3.2 (x8 + 1)).bind K = some res → J p l e rm_X3_stepsBackTo s m args below meth c (Qint below args s w (res, G)) w 9 G 85 [(0, .ref (w.1 30)), (1, .int x1), (2, .int x2), (3, .int x3), (4, .int x4), (5, .int x5), (6, .int v_3.1), (7, .int v_3.2), (8, .int x8)] [] := by
        intro v_3 h
        refine j_iinc (v := x8 + 1) X [(8, .int (x8 + 1)), (0, .ref (w.1 30)), (1, .int x1), (2, .int x2), (3, .int x3), (4, .int x4), (5, .int x5), (6, .int v_3.1), (7, .int v_3.2)] dX3_stepsBackTo_85 8 rfl rfl (by decide) rfl ?_
        refine j_goto X 25 dX3_stepsBackTo_88 (by decide) ?_
        refine j_pick [1, 2, 3, 4, 5, 6, 7, 8, 0] rfl ?_
        exact ih v_3.1 v_3.2 (x8 + 1) h
      refine j_if_eq X 85 dX3_stepsBackTo_38 (by decide) (fun c_4 => ?_) (fun c_4 => ?_)
      · have h := bi_t c_4 h
        refine j_pick [0, 1, 2, 3, 4, 5, 6, 7, 8] rfl ?_
        exact Hv_3 (x6, x7) h
      · have h := bi_f c_4 h
        refine j_iload X dX3_stepsBackTo_41 6 rfl ?_
        refine j_aload_n X dX3_stepsBackTo_43 rfl 0 rfl ?_
        refine j_getR (C := RX3) (T := TX3) (N := 5) X 30 s_30 rfl hin_X3 3 (by decide) 64 rfl q_202 dX3_stepsBackTo_44 ?_
        refine j_iload X dX3_stepsBackTo_47 8 rfl ?_
        obtain ⟨r_5, hr_5, h⟩ := bd_s h
        refine j_iald X 64 17 s_64 hr_5 dX3_stepsBackTo_49 ?_
        refine j_ior X dX3_stepsBackTo_50 ?_
        refine j_istore X [(6, .int (x6 ||| r_5)), (0, .ref (w.1 30)), (1, .int x1), (2, .int x2), (3, .int x3), (4, .int x4), (5, .int x5), (7, .int x7), (8, .int x8)] dX3_stepsBackTo_51 (by decide) rfl ?_
        refine j_iload X dX3_stepsBackTo_53 7 rfl ?_
        refine j_iload X dX3_stepsBackTo_55 5 rfl ?_
        refine j_iload X dX3_stepsBackTo_57 8 rfl ?_
        refine j_callNi (As := [.int x4, .int x8]) X (c_X8_has l w G  x4 x8) pn_X8_has nm_4 q_620 q_59 q_621 ⟨Nat.le_of_ble_eq_true rfl, Nat.le_of_ble_eq_true rfl⟩ (Nat.le_of_ble_eq_true rfl) rfl dX3_stepsBackTo_59 ?_
        have h := bb_a h
        have Hv_6 : ∀ v_6 : Int32 × Int32, (some (v_6.1, x7 ||| v_6.2)).bind (fun (v_3 : Int32 × Int32) => (L_X3_stepsBackTo_25 x3 x4 G n v_3.1 v_3.2 (x8 + 1)).bind K) = some res → J p l e rm_X3_stepsBackTo s m args below meth c (Qint below args s w (res, G)) w 9 G 82 [(0, .ref (w.1 30)), (1, .int x1), (2, .int x2), (3, .int x3), (4, .int x4), (5, .int x5), (6, .int v_6.1), (8, .int x8)] [.int v_6.2, .int x7] := by
          intro v_6 h
          refine j_ior X dX3_stepsBackTo_82 ?_
          refine j_istore X [(7, .int (x7 ||| v_6.2)), (0, .ref (w.1 30)), (1, .int x1), (2, .int x2), (3, .int x3), (4, .int x4), (5, .int x5), (6, .int v_6.1), (8, .int x8)] dX3_stepsBackTo_83 (by decide) rfl ?_
          refine j_pick [1, 2, 3, 4, 5, 6, 7, 0, 8] rfl ?_
          exact Hv_3 (v_6.1, x7 ||| v_6.2) h
        refine j_if_eq X 75 dX3_stepsBackTo_62 (by decide) (fun c_7 => ?_) (fun c_7 => ?_)
        · have h := bi_t c_7 h
          refine j_aload_n X dX3_stepsBackTo_75 rfl 1 rfl ?_
          refine j_getR (C := RX3) (T := TX3) (N := 5) X 30 s_30 rfl hin_X3 4 (by decide) 65 rfl q_203 dX3_stepsBackTo_76 ?_
          refine j_iload X dX3_stepsBackTo_79 8 rfl ?_
          obtain ⟨r_8, hr_8, h⟩ := bd_s h
          refine j_iald X 65 17 s_65 hr_8 dX3_stepsBackTo_81 ?_
          refine j_pick [1, 2, 3, 4, 5, 6, 0, 8] rfl ?_
          exact Hv_6 (x6 ||| r_5, r_8) h
        · have h := bi_f c_7 h
          refine j_aload_n X dX3_stepsBackTo_65 rfl 1 rfl ?_
          refine j_getR (C := RX3) (T := TX3) (N := 5) X 30 s_30 rfl hin_X3 3 (by decide) 64 rfl q_202 dX3_stepsBackTo_66 ?_
          refine j_iload X dX3_stepsBackTo_69 8 rfl ?_
          obtain ⟨r_9, hr_9, h⟩ := bd_s h
          refine j_iald X 64 17 s_64 hr_9 dX3_stepsBackTo_71 ?_
          refine j_goto X 82 dX3_stepsBackTo_72 (by decide) ?_
          refine j_pick [1, 2, 3, 4, 5, 6, 0, 8] rfl ?_
          exact Hv_6 (x6 ||| r_5, r_9) h
set_option maxRecDepth 100000 in
set_option maxHeartbeats 4000000 in
theorem jL_X3_stepsBackTo_10 {p : Program} {l : Launch} {e : Env} {s : State} {m : MethodId} {args : Array Value} {below : List Frame} {meth : Method} {c : Code} {w : WP} (X : fw_X p s m args c cX3_stepsBackTo 9 RX3 w) (hr : meth.sig.returnType = (some .int)) (hk : meth.locks = false) {x1 : Int32} {x2 : Int32} {G : Mem} {res : Int32} {K : (Unit) ⊕ (Int32) → Option (Int32)} (HK : ∀ v : Unit, K (Sum.inl v) = some res → J p l e rm_X3_stepsBackTo s m args below meth c (Qint below args s w (res, G)) w 9 G 116 [] []) (HR : ∀ v : Int32, K (Sum.inr v) = some res → v = res) : ∀ (n : Nat) (x3 : Int32) (x4 : Int32) (x5 : Int32), (L_X3_stepsBackTo_10 x1 x2 G n x3 x4 x5).bind K = some res → J p l e rm_X3_stepsBackTo s m args below meth c (Qint below args s w (res, G)) w 9 G 10 [(0, .ref (w.1 30)), (1, .int x1), (2, .int x2), (3, .int x3), (4, .int x4), (5, .int x5)] [] := by
  intro n
  induction n with
  | zero =>
    intro x3 x4 x5 h
    rw [L_X3_stepsBackTo_10] at h
    cases h
  | succ n ih =>
    intro x3 x4 x5 h
    rw [L_X3_stepsBackTo_10] at h
    refine j_iload X dX3_stepsBackTo_10 5 rfl ?_
    refine j_iload_n X dX3_stepsBackTo_12 rfl 2 rfl ?_
    refine j_icmp_gt X 116 dX3_stepsBackTo_13 (by decide) (fun c_1 => ?_) (fun c_1 => ?_)
    · have h := bi_t c_1 h
      refine j_pick [] rfl ?_
      exact HK () h
    · have h := bi_f c_1 h
      refine j_iconst (v := 0) X dX3_stepsBackTo_16 (by decide) ?_
      refine j_istore X [(6, .int 0), (0, .ref (w.1 30)), (1, .int x1), (2, .int x2), (3, .int x3), (4, .int x4), (5, .int x5)] dX3_stepsBackTo_17 (by decide) rfl ?_
      refine j_iconst (v := 0) X dX3_stepsBackTo_19 (by decide) ?_
      refine j_istore X [(7, .int 0), (6, .int 0), (0, .ref (w.1 30)), (1, .int x1), (2, .int x2), (3, .int x3), (4, .int x4), (5, .int x5)] dX3_stepsBackTo_20 (by decide) rfl ?_
      refine j_iconst (v := 0) X dX3_stepsBackTo_22 (by decide) ?_
      refine j_istore X [(8, .int 0), (7, .int 0), (6, .int 0), (0, .ref (w.1 30)), (1, .int x1), (2, .int x2), (3, .int x3), (4, .int x4), (5, .int x5)] dX3_stepsBackTo_23 (by decide) rfl ?_
      have h := bb_a h
      have Hv_10 : ∀ v_10 : Int32 × Int32, ((if (m_X8_has v_10.2 x1) = 0 then L_X3_stepsBackTo_10 x1 x2 G n v_10.1 v_10.2 (x5 + 1) else some (Sum.inr x5))).bind K = some res → J p l e rm_X3_stepsBackTo s m args below meth c (Qint below args s w (res, G)) w 9 G 91 [(0, .ref (w.1 30)), (1, .int x1), (2, .int x2), (5, .int x5), (6, .int v_10.1), (7, .int v_10.2)] [] := by
        intro v_10 h
        refine j_iload X dX3_stepsBackTo_91 5 rfl ?_
        refine j_iload_n X dX3_stepsBackTo_93 rfl 1 rfl ?_
        refine j_callNi (As := [.int v_10.2, .int x1]) X (c_X8_has l w G  v_10.2 x1) pn_X8_has nm_4 q_620 q_59 q_621 ⟨Nat.le_of_ble_eq_true rfl, Nat.le_of_ble_eq_true rfl⟩ (Nat.le_of_ble_eq_true rfl) rfl dX3_stepsBackTo_94 ?_
        refine j_if_eq X 103 dX3_stepsBackTo_97 (by decide) (fun c_11 => ?_) (fun c_11 => ?_)
        · have h := bi_t c_11 h
          refine j_iload X dX3_stepsBackTo_103 4 rfl ?_
          refine j_istore_n X [(3, .int v_10.1), (0, .ref (w.1 30)), (1, .int x1), (2, .int x2), (5, .int x5), (6, .int v_10.1), (7, .int v_10.2)] dX3_stepsBackTo_105 rfl (by decide) rfl ?_
          refine j_iload X dX3_stepsBackTo_106 6 rfl ?_
          refine j_istore X [(4, .int v_10.2), (3, .int v_10.1), (0, .ref (w.1 30)), (1, .int x1), (2, .int x2), (5, .int x5), (6, .int v_10.1), (7, .int v_10.2)] dX3_stepsBackTo_108 (by decide) rfl ?_
          refine j_iinc (v := x5 + 1) X [(5, .int (x5 + 1)), (4, .int v_10.2), (3, .int v_10.1), (0, .ref (w.1 30)), (1, .int x1), (2, .int x2), (6, .int v_10.1), (7, .int v_10.2)] dX3_stepsBackTo_110 5 rfl rfl (by decide) rfl ?_
          refine j_goto X 10 dX3_stepsBackTo_113 (by decide) ?_
          refine j_pick [3, 4, 5, 2, 1, 0] rfl ?_
          exact ih v_10.1 v_10.2 (x5 + 1) h
        · have h := bi_f c_11 h
          refine j_iload X dX3_stepsBackTo_100 3 rfl ?_
          exact j_iret X hr hk dX3_stepsBackTo_102 (congrArg (fun z => (z, G)) (HR _ h))
      refine j_pick [3, 4, 5, 6, 7, 8, 2, 1, 0] rfl ?_
      exact jL_X3_stepsBackTo_25 X hr hk Hv_10 NF 0 0 0 h
set_option maxRecDepth 100000 in
set_option maxHeartbeats 4000000 in
theorem c_X3_stepsBackTo (l : Launch) (w : WP) (G : Mem) (p1 : Int32) (p2 : Int32) {res : Int32} (h0 : m_X3_stepsBackTo G p1 p2 = some res) : CMi l yX3_stepsBackTo cX3_stepsBackTo 9 (some .int) 1 21 w [.ref (w.1 30), .int p1, .int p2] G (res, G) := by
  refine CMi.of (by decide +kernel) (Nat.le_of_ble_eq_true rfl) ?_
  intro p e s m args below meth c X hr hk
  have h := bs_i h0
  unfold m_X3_stepsBackTo at h
  show J p l e rm_X3_stepsBackTo s m args below meth c (Qint below args s w (res, G)) w 9 G 0 [(0, .ref (w.1 30)), (1, .int p1), (2, .int p2)] []
  refine j_iconst (v := 1) X dX3_stepsBackTo_0 (by decide) ?_
  refine j_iload_n X dX3_stepsBackTo_1 rfl 1 rfl ?_
  refine j_ishl X dX3_stepsBackTo_2 ?_
  refine j_istore_n X [(3, .int (1 <<< (p1 &&& 31))), (0, .ref (w.1 30)), (1, .int p1), (2, .int p2)] dX3_stepsBackTo_3 rfl (by decide) rfl ?_
  refine j_iconst (v := 0) X dX3_stepsBackTo_4 (by decide) ?_
  refine j_istore X [(4, .int 0), (3, .int (1 <<< (p1 &&& 31))), (0, .ref (w.1 30)), (1, .int p1), (2, .int p2)] dX3_stepsBackTo_5 (by decide) rfl ?_
  refine j_iconst (v := 1) X dX3_stepsBackTo_7 (by decide) ?_
  refine j_istore X [(5, .int 1), (4, .int 0), (3, .int (1 <<< (p1 &&& 31))), (0, .ref (w.1 30)), (1, .int p1), (2, .int p2)] dX3_stepsBackTo_8 (by decide) rfl ?_
  have h := bb_a h
  have Hv_12 : ∀ v_12 : Unit, (some 0).bind some = some res → J p l e rm_X3_stepsBackTo s m args below meth c (Qint below args s w (res, G)) w 9 G 116 [] [] := by
    intro v_12 h
    refine j_iconst (v := 0) X dX3_stepsBackTo_116 (by decide) ?_
    exact j_iret X hr hk dX3_stepsBackTo_117 (congrArg (fun z => (z, G)) (Option.some.inj h))
  refine j_pick [3, 4, 5, 2, 1, 0] rfl ?_
  exact jL_X3_stepsBackTo_10 (K := fun o_v_12 => ((match o_v_12 with | Sum.inl v_12 => some 0 | Sum.inr v_13 => some v_13)).bind some) X hr hk Hv_12 (fun z h => Option.some.inj h) NF (1 <<< (p1 &&& 31)) 0 1 h
abbrev rm_X3_shortestRing : Room := { frames := 2, cells := 0, slots := 0, locals := 49 }
theorem pn_X3_shortestRing : yX3_shortestRing.cls ≠ "java/lang/invoke/MethodHandle" ∧ yX3_shortestRing.cls ≠ "java/lang/invoke/VarHandle" ∧ (parseMethodDescriptor yX3_shortestRing.desc).map (fun d => d.parameters.length) = some 2 := by decide +kernel
def L_X3_shortestRing_13 (G : Mem) : Nat → Int32 → Int32 → Int32 → Option (Int32)
  | 0, _, _, _ => none
  | n + 1, x3, x4, x5 => (if 17 ≤ x5 then some x3 else (m_X3_stepsBackTo G x5 x4).bind (fun r_3 => ((if r_3 = 0 then some (x3, x4) else some (r_3, r_3 - 1)) : Option (Int32 × Int32)).bind (fun (v_4 : Int32 × Int32) => L_X3_shortestRing_13 G n v_4.1 v_4.2 (x5 + 1))))
def m_X3_shortestRing (G : Mem) (p1 : Int32) (p2 : Int32) : Option (Int32 × Mem) := (m_X3_joinSteps G p1).bind (fun q_1 => (L_X3_shortestRing_13 q_1 NF 0 p2 0).bind (fun v_6 => some (v_6, q_1)))
set_option maxRecDepth 100000 in
set_option maxHeartbeats 4000000 in
theorem jL_X3_shortestRing_13 {p : Program} {l : Launch} {e : Env} {s : State} {m : MethodId} {args : Array Value} {below : List Frame} {meth : Method} {c : Code} {w : WP} (X : fw_X p s m args c cX3_shortestRing 7 RX3 w) (hr : meth.sig.returnType = (some .int)) (hk : meth.locks = false) {G : Mem} {res : Int32 × Mem} {K : Int32 → Option (Int32 × Mem)} (HK : ∀ v : Int32, K v = some res → J p l e rm_X3_shortestRing s m args below meth c (Qint below args s w res) w 7 G 50 [(3, .int v)] []) : ∀ (n : Nat) (x3 : Int32) (x4 : Int32) (x5 : Int32), (L_X3_shortestRing_13 G n x3 x4 x5).bind K = some res → J p l e rm_X3_shortestRing s m args below meth c (Qint below args s w res) w 7 G 13 [(0, .ref (w.1 30)), (3, .int x3), (4, .int x4), (5, .int x5)] [] := by
  intro n
  induction n with
  | zero =>
    intro x3 x4 x5 h
    rw [L_X3_shortestRing_13] at h
    cases h
  | succ n ih =>
    intro x3 x4 x5 h
    rw [L_X3_shortestRing_13] at h
    refine j_iload X dX3_shortestRing_13 3 rfl ?_
    refine j_bipush (v := 17) X dX3_shortestRing_15 (by decide) ?_
    refine j_icmp_ge X 50 dX3_shortestRing_17 (by decide) (fun c_2 => ?_) (fun c_2 => ?_)
    · have h := bi_t c_2 h
      refine j_pick [1] rfl ?_
      exact HK x3 h
    · have h := bi_f c_2 h
      refine j_aload_n X dX3_shortestRing_20 rfl 0 rfl ?_
      refine j_iload X dX3_shortestRing_21 3 rfl ?_
      refine j_iload X dX3_shortestRing_23 2 rfl ?_
      obtain ⟨r_3, hr_3, h⟩ := bd_s h
      refine j_callVi (As := [.int x5, .int x4]) X 30 s_30 rfl (c_X3_stepsBackTo l w G  x5 x4 hr_3) rfl pn_X3_stepsBackTo q_689 q_691 q_21 q_66 q_692 ⟨Nat.le_of_ble_eq_true rfl, Nat.le_of_ble_eq_true rfl⟩ (Nat.le_of_ble_eq_true rfl) rfl dX3_shortestRing_25 ?_
      refine j_istore X [(6, .int r_3), (0, .ref (w.1 30)), (3, .int x3), (4, .int x4), (5, .int x5)] dX3_shortestRing_28 (by decide) rfl ?_
      refine j_iload X dX3_shortestRing_30 0 rfl ?_
      have h := bb_a h
      have Hv_4 : ∀ v_4 : Int32 × Int32, (L_X3_shortestRing_13 G n v_4.1 v_4.2 (x5 + 1)).bind K = some res → J p l e rm_X3_shortestRing s m args below meth c (Qint below args s w res) w 7 G 44 [(0, .ref (w.1 30)), (3, .int v_4.1), (4, .int v_4.2), (5, .int x5)] [] := by
        intro v_4 h
        refine j_iinc (v := x5 + 1) X [(5, .int (x5 + 1)), (0, .ref (w.1 30)), (3, .int v_4.1), (4, .int v_4.2)] dX3_shortestRing_44 3 rfl rfl (by decide) rfl ?_
        refine j_goto X 13 dX3_shortestRing_47 (by decide) ?_
        refine j_pick [1, 2, 3, 0] rfl ?_
        exact ih v_4.1 v_4.2 (x5 + 1) h
      refine j_if_eq X 44 dX3_shortestRing_32 (by decide) (fun c_5 => ?_) (fun c_5 => ?_)
      · have h := bi_t c_5 h
        refine j_pick [1, 2, 3, 4] rfl ?_
        exact Hv_4 (x3, x4) h
      · have h := bi_f c_5 h
        refine j_iload X dX3_shortestRing_35 0 rfl ?_
        refine j_istore_n X [(3, .int r_3), (6, .int r_3), (0, .ref (w.1 30)), (4, .int x4), (5, .int x5)] dX3_shortestRing_37 rfl (by decide) rfl ?_
        refine j_iload X dX3_shortestRing_38 1 rfl ?_
        refine j_iconst (v := 1) X dX3_shortestRing_40 (by decide) ?_
        refine j_isub X dX3_shortestRing_41 ?_
        refine j_istore X [(4, .int (r_3 - 1)), (3, .int r_3), (6, .int r_3), (0, .ref (w.1 30)), (5, .int x5)] dX3_shortestRing_42 (by decide) rfl ?_
        refine j_pick [3, 1, 0, 4] rfl ?_
        exact Hv_4 (r_3, r_3 - 1) h
set_option maxRecDepth 100000 in
set_option maxHeartbeats 4000000 in
theorem c_X3_shortestRing (l : Launch) (w : WP) (G : Mem) (p1 : Int32) (p2 : Int32) {res : Int32 × Mem} (h0 : m_X3_shortestRing G p1 p2 = some res) : CMi l yX3_shortestRing cX3_shortestRing 7 (some .int) 2 49 w [.ref (w.1 30), .int p1, .int p2] G res := by
  refine CMi.of (by decide +kernel) (Nat.le_of_ble_eq_true rfl) ?_
  intro p e s m args below meth c X hr hk
  have h := bs_i h0
  unfold m_X3_shortestRing at h
  show J p l e rm_X3_shortestRing s m args below meth c (Qint below args s w res) w 7 G 0 [(0, .ref (w.1 30)), (1, .int p1), (2, .int p2)] []
  refine j_aload_n X dX3_shortestRing_0 rfl 0 rfl ?_
  refine j_iload_n X dX3_shortestRing_1 rfl 1 rfl ?_
  obtain ⟨q_1, hq_1, h⟩ := bd_s h
  refine j_callVv (As := [.int p1]) X 30 s_30 rfl (c_X3_joinSteps l w G  p1 hq_1) rfl pn_X3_joinSteps q_684 q_686 q_20 q_66 q_687 ⟨Nat.le_of_ble_eq_true rfl, Nat.le_of_ble_eq_true rfl⟩ (Nat.le_of_ble_eq_true rfl) rfl dX3_shortestRing_2 ?_
  refine j_iconst (v := 0) X dX3_shortestRing_5 (by decide) ?_
  refine j_istore_n X [(3, .int 0), (0, .ref (w.1 30)), (1, .int p1), (2, .int p2)] dX3_shortestRing_6 rfl (by decide) rfl ?_
  refine j_iload_n X dX3_shortestRing_7 rfl 3 rfl ?_
  refine j_istore X [(4, .int p2), (3, .int 0), (0, .ref (w.1 30)), (1, .int p1), (2, .int p2)] dX3_shortestRing_8 (by decide) rfl ?_
  refine j_iconst (v := 0) X dX3_shortestRing_10 (by decide) ?_
  refine j_istore X [(5, .int 0), (4, .int p2), (3, .int 0), (0, .ref (w.1 30)), (1, .int p1), (2, .int p2)] dX3_shortestRing_11 (by decide) rfl ?_
  have h := bb_a h
  have Hv_6 : ∀ v_6 : Int32, (some (v_6, q_1)).bind some = some res → J p l e rm_X3_shortestRing s m args below meth c (Qint below args s w res) w 7 q_1 50 [(3, .int v_6)] [] := by
    intro v_6 h
    refine j_iload_n X dX3_shortestRing_50 rfl 0 rfl ?_
    exact j_iret X hr hk dX3_shortestRing_51 (Option.some.inj h)
  refine j_pick [3, 2, 1, 0] rfl ?_
  exact jL_X3_shortestRing_13 X hr hk Hv_6 NF 0 p2 0 h
abbrev rm_X3_fewest : Room := { frames := 5, cells := 0, slots := 0, locals := 117 }
theorem pn_X3_fewest : yX3_fewest.cls ≠ "java/lang/invoke/MethodHandle" ∧ yX3_fewest.cls ≠ "java/lang/invoke/VarHandle" ∧ (parseMethodDescriptor yX3_fewest.desc).map (fun d => d.parameters.length) = some 1 := by decide +kernel
def L_X3_fewest_41 (x4 : Int32) : Nat → Int32 → Int32 → Mem → Option (Int32 × Mem)
  | 0, _, _, _ => none
  | n + 1, x3, x5, G => (if x5 < 0 then some (x3, G) else (m_X3_shortestRing G (x3 &&& ((1 <<< (x5 &&& 31)) ^^^ (-1))) x4).bind (fun q_7 => ((if q_7.1 = 0 then some (x3, q_7.2) else some (x3 &&& ((1 <<< (x5 &&& 31)) ^^^ (-1)), q_7.2)) : Option (Int32 × Mem)).bind (fun (v_8 : Int32 × Mem) => L_X3_fewest_41 x4 n v_8.1 (x5 + (-1)) v_8.2)))
def m_X3_fewest (G : Mem) : Option (Int32 × Mem) := (m_X6_statements G 1).bind (fun r_1 => (m_X3_noteSteps G (if 14 < r_1 then 14 else r_1)).bind (fun q_2 => (m_X6_everything q_2 1).bind (fun r_3 => (m_X3_shortestRing q_2 r_3 (if 14 < r_1 then 14 else r_1)).bind (fun q_4 => (if q_4.1 = 0 then some (0, q_4.2) else (L_X3_fewest_41 q_4.1 NF r_3 ((if 14 < r_1 then 14 else r_1) - 1) q_4.2).bind (fun v_10 => some (v_10.1, v_10.2)))))))
set_option maxRecDepth 100000 in
set_option maxHeartbeats 4000000 in
theorem jL_X3_fewest_41 {p : Program} {l : Launch} {e : Env} {s : State} {m : MethodId} {args : Array Value} {below : List Frame} {meth : Method} {c : Code} {w : WP} (X : fw_X p s m args c cX3_fewest 7 RX3 w) (hr : meth.sig.returnType = (some .int)) (hk : meth.locks = false) {x4 : Int32} {res : Int32 × Mem} {K : Int32 × Mem → Option (Int32 × Mem)} (HK : ∀ v : Int32 × Mem, K v = some res → J p l e rm_X3_fewest s m args below meth c (Qint below args s w res) w 7 v.2 76 [(3, .int v.1)] []) : ∀ (n : Nat) (x3 : Int32) (x5 : Int32) (G : Mem), (L_X3_fewest_41 x4 n x3 x5 G).bind K = some res → J p l e rm_X3_fewest s m args below meth c (Qint below args s w res) w 7 G 41 [(0, .ref (w.1 30)), (3, .int x3), (4, .int x4), (5, .int x5)] [] := by
  intro n
  induction n with
  | zero =>
    intro x3 x5 G h
    rw [L_X3_fewest_41] at h
    cases h
  | succ n ih =>
    intro x3 x5 G h
    rw [L_X3_fewest_41] at h
    refine j_iload X dX3_fewest_41 3 rfl ?_
    refine j_if_lt X 76 dX3_fewest_43 (by decide) (fun c_6 => ?_) (fun c_6 => ?_)
    · have h := bi_t c_6 h
      refine j_pick [1] rfl ?_
      exact HK (x3, G) h
    · have h := bi_f c_6 h
      refine j_iload_n X dX3_fewest_46 rfl 1 rfl ?_
      refine j_iconst (v := 1) X dX3_fewest_47 (by decide) ?_
      refine j_iload X dX3_fewest_48 3 rfl ?_
      refine j_ishl X dX3_fewest_50 ?_
      refine j_iconst (v := (-1)) X dX3_fewest_51 (by decide) ?_
      refine j_ixor X dX3_fewest_52 ?_
      refine j_iand X dX3_fewest_53 ?_
      refine j_istore X [(6, .int (x3 &&& ((1 <<< (x5 &&& 31)) ^^^ (-1)))), (0, .ref (w.1 30)), (3, .int x3), (4, .int x4), (5, .int x5)] dX3_fewest_54 (by decide) rfl ?_
      refine j_aload_n X dX3_fewest_56 rfl 1 rfl ?_
      refine j_iload X dX3_fewest_57 0 rfl ?_
      refine j_iload X dX3_fewest_59 3 rfl ?_
      obtain ⟨q_7, hq_7, h⟩ := bd_s h
      refine j_callVi (As := [.int (x3 &&& ((1 <<< (x5 &&& 31)) ^^^ (-1))), .int x4]) X 30 s_30 rfl (c_X3_shortestRing l w G  (x3 &&& ((1 <<< (x5 &&& 31)) ^^^ (-1))) x4 hq_7) rfl pn_X3_shortestRing q_680 q_682 q_19 q_66 q_683 ⟨Nat.le_of_ble_eq_true rfl, Nat.le_of_ble_eq_true rfl⟩ (Nat.le_of_ble_eq_true rfl) rfl dX3_fewest_61 ?_
      have h := bb_a h
      have Hv_8 : ∀ v_8 : Int32 × Mem, (L_X3_fewest_41 x4 n v_8.1 (x5 + (-1)) v_8.2).bind K = some res → J p l e rm_X3_fewest s m args below meth c (Qint below args s w res) w 7 v_8.2 70 [(0, .ref (w.1 30)), (3, .int v_8.1), (4, .int x4), (5, .int x5)] [] := by
        intro v_8 h
        refine j_iinc (v := x5 + (-1)) X [(5, .int (x5 + (-1))), (0, .ref (w.1 30)), (3, .int v_8.1), (4, .int x4)] dX3_fewest_70 3 rfl rfl (by decide) rfl ?_
        refine j_goto X 41 dX3_fewest_73 (by decide) ?_
        refine j_pick [1, 2, 3, 0] rfl ?_
        exact ih v_8.1 (x5 + (-1)) v_8.2 h
      refine j_if_eq X 70 dX3_fewest_64 (by decide) (fun c_9 => ?_) (fun c_9 => ?_)
      · have h := bi_t c_9 h
        refine j_pick [1, 2, 3, 4] rfl ?_
        exact Hv_8 (x3, q_7.2) h
      · have h := bi_f c_9 h
        refine j_iload X dX3_fewest_67 0 rfl ?_
        refine j_istore_n X [(3, .int (x3 &&& ((1 <<< (x5 &&& 31)) ^^^ (-1)))), (6, .int (x3 &&& ((1 <<< (x5 &&& 31)) ^^^ (-1)))), (0, .ref (w.1 30)), (4, .int x4), (5, .int x5)] dX3_fewest_69 rfl (by decide) rfl ?_
        refine j_pick [2, 0, 3, 4] rfl ?_
        exact Hv_8 (x3 &&& ((1 <<< (x5 &&& 31)) ^^^ (-1)), q_7.2) h
set_option maxRecDepth 100000 in
set_option maxHeartbeats 4000000 in
theorem c_X3_fewest (l : Launch) (w : WP) (G : Mem) {res : Int32 × Mem} (h0 : m_X3_fewest G = some res) : CMi l yX3_fewest cX3_fewest 7 (some .int) 5 117 w [.ref (w.1 30), .ref (w.1 1)] G res := by
  refine CMi.of (by decide +kernel) (Nat.le_of_ble_eq_true rfl) ?_
  intro p e s m args below meth c X hr hk
  have h := bs_i h0
  unfold m_X3_fewest at h
  show J p l e rm_X3_fewest s m args below meth c (Qint below args s w res) w 7 G 0 [(0, .ref (w.1 30)), (1, .ref (w.1 1))] []
  refine j_aload_n X dX3_fewest_0 rfl 1 rfl ?_
  obtain ⟨r_1, hr_1, h⟩ := bd_s h
  refine j_callVi (As := []) X 1 s_1 rfl (c_X6_statements l w G 1 (Or.inl rfl)  hr_1) rfl pn_X6_statements q_663 q_334 q_335 q_60 q_336 ⟨Nat.le_of_ble_eq_true rfl, Nat.le_of_ble_eq_true rfl⟩ (Nat.le_of_ble_eq_true rfl) rfl dX3_fewest_1 ?_
  refine j_bipush (v := 14) X dX3_fewest_4 (by decide) ?_
  refine j_mmin X q_664 q_375 q_71 q_376 (Nat.le_of_ble_eq_true rfl) (Nat.le_of_ble_eq_true rfl) dX3_fewest_6 ?_
  refine j_istore_n X [(2, .int (if 14 < r_1 then 14 else r_1)), (0, .ref (w.1 30)), (1, .ref (w.1 1))] dX3_fewest_9 rfl (by decide) rfl ?_
  refine j_aload_n X dX3_fewest_10 rfl 1 rfl ?_
  refine j_aload_n X dX3_fewest_11 rfl 2 rfl ?_
  refine j_iload_n X dX3_fewest_12 rfl 0 rfl ?_
  obtain ⟨q_2, hq_2, h⟩ := bd_s h
  refine j_callVv (As := [.ref (w.1 1), .int (if 14 < r_1 then 14 else r_1)]) X 30 s_30 rfl (c_X3_noteSteps l w G  (if 14 < r_1 then 14 else r_1) hq_2) rfl pn_X3_noteSteps q_665 q_667 q_18 q_66 q_668 ⟨Nat.le_of_ble_eq_true rfl, Nat.le_of_ble_eq_true rfl⟩ (Nat.le_of_ble_eq_true rfl) rfl dX3_fewest_13 ?_
  refine j_aload_n X dX3_fewest_16 rfl 2 rfl ?_
  obtain ⟨r_3, hr_3, h⟩ := bd_s h
  refine j_callVi (As := []) X 1 s_1 rfl (c_X6_everything l w q_2 1 (Or.inl rfl)  hr_3) rfl pn_X6_everything q_679 q_608 q_609 q_60 q_610 ⟨Nat.le_of_ble_eq_true rfl, Nat.le_of_ble_eq_true rfl⟩ (Nat.le_of_ble_eq_true rfl) rfl dX3_fewest_17 ?_
  refine j_istore_n X [(3, .int r_3), (2, .int (if 14 < r_1 then 14 else r_1)), (0, .ref (w.1 30)), (1, .ref (w.1 1))] dX3_fewest_20 rfl (by decide) rfl ?_
  refine j_aload_n X dX3_fewest_21 rfl 2 rfl ?_
  refine j_iload_n X dX3_fewest_22 rfl 0 rfl ?_
  refine j_iload_n X dX3_fewest_23 rfl 1 rfl ?_
  obtain ⟨q_4, hq_4, h⟩ := bd_s h
  refine j_callVi (As := [.int r_3, .int (if 14 < r_1 then 14 else r_1)]) X 30 s_30 rfl (c_X3_shortestRing l w q_2  r_3 (if 14 < r_1 then 14 else r_1) hq_4) rfl pn_X3_shortestRing q_680 q_682 q_19 q_66 q_683 ⟨Nat.le_of_ble_eq_true rfl, Nat.le_of_ble_eq_true rfl⟩ (Nat.le_of_ble_eq_true rfl) rfl dX3_fewest_24 ?_
  refine j_istore X [(4, .int q_4.1), (3, .int r_3), (2, .int (if 14 < r_1 then 14 else r_1)), (0, .ref (w.1 30)), (1, .ref (w.1 1))] dX3_fewest_27 (by decide) rfl ?_
  refine j_iload X dX3_fewest_29 0 rfl ?_
  refine j_if_ne X 36 dX3_fewest_31 (by decide) (fun c_5 => ?_) (fun c_5 => ?_)
  · have h := bi_f c_5 h
    refine j_iload_n X dX3_fewest_36 rfl 2 rfl ?_
    refine j_iconst (v := 1) X dX3_fewest_37 (by decide) ?_
    refine j_isub X dX3_fewest_38 ?_
    refine j_istore X [(5, .int ((if 14 < r_1 then 14 else r_1) - 1)), (4, .int q_4.1), (3, .int r_3), (2, .int (if 14 < r_1 then 14 else r_1)), (0, .ref (w.1 30)), (1, .ref (w.1 1))] dX3_fewest_39 (by decide) rfl ?_
    have h := bb_a h
    have Hv_10 : ∀ v_10 : Int32 × Mem, (some (v_10.1, v_10.2)).bind some = some res → J p l e rm_X3_fewest s m args below meth c (Qint below args s w res) w 7 v_10.2 76 [(3, .int v_10.1)] [] := by
      intro v_10 h
      refine j_iload_n X dX3_fewest_76 rfl 0 rfl ?_
      exact j_iret X hr hk dX3_fewest_77 (Option.some.inj h)
    refine j_pick [4, 2, 1, 0] rfl ?_
    exact jL_X3_fewest_41 X hr hk Hv_10 NF r_3 ((if 14 < r_1 then 14 else r_1) - 1) q_4.2 h
  · have h := bi_t c_5 h
    refine j_iconst (v := 0) X dX3_fewest_34 (by decide) ?_
    exact j_iret X hr hk dX3_fewest_35 (Option.some.inj h)
abbrev rm_X4_add : Room := { frames := 0, cells := 0, slots := 0, locals := 0 }
theorem pn_X4_add : yX4_add.cls ≠ "java/lang/invoke/MethodHandle" ∧ yX4_add.cls ≠ "java/lang/invoke/VarHandle" ∧ (parseMethodDescriptor yX4_add.desc).map (fun d => d.parameters.length) = some 3 := by decide +kernel
def m_X4_add (G : Mem) (p1 : Int32) (p2 : Int32) (p3 : Int32) : Option (Int32 × Mem) := (if (G 23 3) < 0 then some (0, G) else (if (G 23 3) < 6 then (ast 6 G 24 (G 23 3) p1).bind (fun q_3 => (ast 6 q_3 25 (q_3 23 3) p2).bind (fun q_4 => (ast 6 q_4 26 (q_4 23 3) p3).bind (fun q_5 => some (1, upm q_5 23 3 ((q_5 23 3) + 1))))) else some (0, G)))
set_option maxRecDepth 100000 in
set_option maxHeartbeats 4000000 in
theorem c_X4_add (l : Launch) (w : WP) (G : Mem) (p1 : Int32) (p2 : Int32) (p3 : Int32) {res : Int32 × Mem} (h0 : m_X4_add G p1 p2 p3 = some res) : CMi l yX4_add cX4_add 4 (some .boolean) 0 0 w [.ref (w.1 23), .int p1, .int p2, .int p3] G res := by
  refine CMi.of (by decide +kernel) (Nat.le_of_ble_eq_true rfl) ?_
  intro p e s m args below meth c X hr hk
  have h := bs_i h0
  unfold m_X4_add at h
  show J p l e rm_X4_add s m args below meth c (Qint below args s w res) w 4 G 0 [(0, .ref (w.1 23)), (1, .int p1), (2, .int p2), (3, .int p3)] []
  refine j_aload_n X dX4_add_0 rfl 0 rfl ?_
  refine j_getI (C := RX4) (T := TX4) (N := 4) X 23 s_23 rfl hin_X4 3 (by decide) rfl q_167 dX4_add_1 ?_
  refine j_if_lt X 16 dX4_add_4 (by decide) (fun c_1 => ?_) (fun c_1 => ?_)
  · have h := bi_t c_1 h
    refine j_iconst (v := 0) X dX4_add_16 (by decide) ?_
    exact j_zret X hr hk (by decide) dX4_add_17 (Option.some.inj h)
  · have h := bi_f c_1 h
    refine j_aload_n X dX4_add_7 rfl 0 rfl ?_
    refine j_getI (C := RX4) (T := TX4) (N := 4) X 23 s_23 rfl hin_X4 3 (by decide) rfl q_167 dX4_add_8 ?_
    refine j_bipush (v := 6) X dX4_add_11 (by decide) ?_
    refine j_icmp_lt X 18 dX4_add_13 (by decide) (fun c_2 => ?_) (fun c_2 => ?_)
    · have h := bi_t c_2 h
      refine j_aload_n X dX4_add_18 rfl 0 rfl ?_
      refine j_getR (C := RX4) (T := TX4) (N := 4) X 23 s_23 rfl hin_X4 0 (by decide) 24 rfl q_164 dX4_add_19 ?_
      refine j_aload_n X dX4_add_22 rfl 0 rfl ?_
      refine j_getI (C := RX4) (T := TX4) (N := 4) X 23 s_23 rfl hin_X4 3 (by decide) rfl q_167 dX4_add_23 ?_
      refine j_iload_n X dX4_add_26 rfl 1 rfl ?_
      obtain ⟨q_3, hq_3, h⟩ := bd_s h
      refine j_iast X 24 6 s_24 hq_3 dX4_add_27 ?_
      refine j_aload_n X dX4_add_28 rfl 0 rfl ?_
      refine j_getR (C := RX4) (T := TX4) (N := 4) X 23 s_23 rfl hin_X4 1 (by decide) 25 rfl q_165 dX4_add_29 ?_
      refine j_aload_n X dX4_add_32 rfl 0 rfl ?_
      refine j_getI (C := RX4) (T := TX4) (N := 4) X 23 s_23 rfl hin_X4 3 (by decide) rfl q_167 dX4_add_33 ?_
      refine j_iload_n X dX4_add_36 rfl 2 rfl ?_
      obtain ⟨q_4, hq_4, h⟩ := bd_s h
      refine j_iast X 25 6 s_25 hq_4 dX4_add_37 ?_
      refine j_aload_n X dX4_add_38 rfl 0 rfl ?_
      refine j_getR (C := RX4) (T := TX4) (N := 4) X 23 s_23 rfl hin_X4 2 (by decide) 26 rfl q_166 dX4_add_39 ?_
      refine j_aload_n X dX4_add_42 rfl 0 rfl ?_
      refine j_getI (C := RX4) (T := TX4) (N := 4) X 23 s_23 rfl hin_X4 3 (by decide) rfl q_167 dX4_add_43 ?_
      refine j_iload_n X dX4_add_46 rfl 3 rfl ?_
      obtain ⟨q_5, hq_5, h⟩ := bd_s h
      refine j_iast X 26 6 s_26 hq_5 dX4_add_47 ?_
      refine j_aload_n X dX4_add_48 rfl 0 rfl ?_
      refine j_dup X dX4_add_49 rfl ?_
      refine j_getI (C := RX4) (T := TX4) (N := 4) X 23 s_23 rfl hin_X4 3 (by decide) rfl q_167 dX4_add_50 ?_
      refine j_iconst (v := 1) X dX4_add_53 (by decide) ?_
      refine j_iadd X dX4_add_54 ?_
      refine j_putI (C := RX4) (T := TX4) (N := 4) X tyX4 tyX4_ok nmX4 23 s_23 rfl hin_X4 3 (by decide) rfl q_167 rfl rfl dX4_add_55 ?_
      refine j_iconst (v := 1) X dX4_add_58 (by decide) ?_
      exact j_zret X hr hk (by decide) dX4_add_59 (Option.some.inj h)
    · have h := bi_f c_2 h
      refine j_iconst (v := 0) X dX4_add_16 (by decide) ?_
      exact j_zret X hr hk (by decide) dX4_add_17 (Option.some.inj h)
abbrev rm_X4_empty : Room := { frames := 0, cells := 0, slots := 0, locals := 0 }
theorem pn_X4_empty : yX4_empty.cls ≠ "java/lang/invoke/MethodHandle" ∧ yX4_empty.cls ≠ "java/lang/invoke/VarHandle" ∧ (parseMethodDescriptor yX4_empty.desc).map (fun d => d.parameters.length) = some 0 := by decide +kernel
def m_X4_empty (G : Mem) : Mem := upm G 23 3 0
set_option maxRecDepth 100000 in
set_option maxHeartbeats 4000000 in
theorem c_X4_empty (l : Launch) (w : WP) (G : Mem) : CMv l yX4_empty cX4_empty 1 none 0 0 w [.ref (w.1 23)] G (m_X4_empty G) := by
  refine CMv.of (by decide +kernel) (Nat.le_of_ble_eq_true rfl) ?_
  intro p e s m args below meth c X hr hk
  obtain ⟨res, h⟩ : ∃ z, m_X4_empty G = z := ⟨_, rfl⟩
  rw [h]
  unfold m_X4_empty at h
  show J p l e rm_X4_empty s m args below meth c (Qvoid below args s w res) w 1 G 0 [(0, .ref (w.1 23))] []
  refine j_aload_n X dX4_empty_0 rfl 0 rfl ?_
  refine j_iconst (v := 0) X dX4_empty_1 (by decide) ?_
  refine j_putI (C := RX4) (T := TX4) (N := 4) X tyX4 tyX4_ok nmX4 23 s_23 rfl hin_X4 3 (by decide) rfl q_167 rfl rfl dX4_empty_2 ?_
  exact j_vret X hr hk dX4_empty_5 (h)
abbrev rm_X4_isSoBy : Room := { frames := 3, cells := 0, slots := 0, locals := 65 }
theorem pn_X4_isSoBy : yX4_isSoBy.cls ≠ "java/lang/invoke/MethodHandle" ∧ yX4_isSoBy.cls ≠ "java/lang/invoke/VarHandle" ∧ (parseMethodDescriptor yX4_isSoBy.desc).map (fun d => d.parameters.length) = some 1 := by decide +kernel
def L_X4_isSoBy_2 (G : Mem) : Nat → Int32 → Option ((Unit) ⊕ (Int32))
  | 0, _ => none
  | n + 1, x2 => (if (G 23 3) ≤ x2 then some (Sum.inl ()) else (if 6 ≤ x2 then some (Sum.inl ()) else (ald 6 G 24 x2).bind (fun r_3 => (ald 6 G 25 x2).bind (fun r_4 => (m_X1_tells G 27 r_3 r_4).bind (fun r_5 => (ald 6 G 26 x2).bind (fun r_6 => (if r_5 = r_6 then L_X4_isSoBy_2 G n (x2 + 1) else some (Sum.inr 0))))))))
def m_X4_isSoBy (G : Mem) : Option (Int32) := (L_X4_isSoBy_2 G NF 0).bind (fun o_v_8 => (match o_v_8 with | Sum.inl v_8 => some 1 | Sum.inr v_9 => some v_9))
set_option maxRecDepth 100000 in
set_option maxHeartbeats 4000000 in
theorem jL_X4_isSoBy_2 {p : Program} {l : Launch} {e : Env} {s : State} {m : MethodId} {args : Array Value} {below : List Frame} {meth : Method} {c : Code} {w : WP} (X : fw_X p s m args c cX4_isSoBy 3 RX4 w) (hr : meth.sig.returnType = (some .boolean)) (hk : meth.locks = false) {G : Mem} {res : Int32} {K : (Unit) ⊕ (Int32) → Option (Int32)} (HK : ∀ v : Unit, K (Sum.inl v) = some res → J p l e rm_X4_isSoBy s m args below meth c (Qint below args s w (res, G)) w 3 G 49 [] []) (HR : ∀ v : Int32, K (Sum.inr v) = some res → v = res) : ∀ (n : Nat) (x2 : Int32), (L_X4_isSoBy_2 G n x2).bind K = some res → J p l e rm_X4_isSoBy s m args below meth c (Qint below args s w (res, G)) w 3 G 2 [(0, .ref (w.1 23)), (1, .ref (w.1 27)), (2, .int x2)] [] := by
  intro n
  induction n with
  | zero =>
    intro x2 h
    rw [L_X4_isSoBy_2] at h
    cases h
  | succ n ih =>
    intro x2 h
    rw [L_X4_isSoBy_2] at h
    refine j_iload_n X dX4_isSoBy_2 rfl 2 rfl ?_
    refine j_aload_n X dX4_isSoBy_3 rfl 0 rfl ?_
    refine j_getI (C := RX4) (T := TX4) (N := 4) X 23 s_23 rfl hin_X4 3 (by decide) rfl q_167 dX4_isSoBy_4 ?_
    refine j_icmp_ge X 49 dX4_isSoBy_7 (by decide) (fun c_1 => ?_) (fun c_1 => ?_)
    · have h := bi_t c_1 h
      refine j_pick [] rfl ?_
      exact HK () h
    · have h := bi_f c_1 h
      refine j_iload_n X dX4_isSoBy_10 rfl 2 rfl ?_
      refine j_bipush (v := 6) X dX4_isSoBy_11 (by decide) ?_
      refine j_icmp_ge X 49 dX4_isSoBy_13 (by decide) (fun c_2 => ?_) (fun c_2 => ?_)
      · have h := bi_t c_2 h
        refine j_pick [] rfl ?_
        exact HK () h
      · have h := bi_f c_2 h
        refine j_aload_n X dX4_isSoBy_16 rfl 1 rfl ?_
        refine j_aload_n X dX4_isSoBy_17 rfl 0 rfl ?_
        refine j_getR (C := RX4) (T := TX4) (N := 4) X 23 s_23 rfl hin_X4 0 (by decide) 24 rfl q_164 dX4_isSoBy_18 ?_
        refine j_iload_n X dX4_isSoBy_21 rfl 2 rfl ?_
        obtain ⟨r_3, hr_3, h⟩ := bd_s h
        refine j_iald X 24 6 s_24 hr_3 dX4_isSoBy_22 ?_
        refine j_aload_n X dX4_isSoBy_23 rfl 0 rfl ?_
        refine j_getR (C := RX4) (T := TX4) (N := 4) X 23 s_23 rfl hin_X4 1 (by decide) 25 rfl q_165 dX4_isSoBy_24 ?_
        refine j_iload_n X dX4_isSoBy_27 rfl 2 rfl ?_
        obtain ⟨r_4, hr_4, h⟩ := bd_s h
        refine j_iald X 25 6 s_25 hr_4 dX4_isSoBy_28 ?_
        obtain ⟨r_5, hr_5, h⟩ := bd_s h
        refine j_callVi (As := [.int r_3, .int r_4]) X 27 s_27 rfl (c_X1_tells l w G 27 (Or.inl rfl) r_3 r_4 hr_5) rfl pn_X1_tells q_828 q_704 q_705 q_65 q_706 ⟨Nat.le_of_ble_eq_true rfl, Nat.le_of_ble_eq_true rfl⟩ (Nat.le_of_ble_eq_true rfl) rfl dX4_isSoBy_29 ?_
        refine j_aload_n X dX4_isSoBy_32 rfl 0 rfl ?_
        refine j_getR (C := RX4) (T := TX4) (N := 4) X 23 s_23 rfl hin_X4 2 (by decide) 26 rfl q_166 dX4_isSoBy_33 ?_
        refine j_iload_n X dX4_isSoBy_36 rfl 2 rfl ?_
        obtain ⟨r_6, hr_6, h⟩ := bd_s h
        refine j_iald X 26 6 s_26 hr_6 dX4_isSoBy_37 ?_
        refine j_icmp_eq X 43 dX4_isSoBy_38 (by decide) (fun c_7 => ?_) (fun c_7 => ?_)
        · have h := bi_t c_7 h
          refine j_iinc (v := x2 + 1) X [(2, .int (x2 + 1)), (0, .ref (w.1 23)), (1, .ref (w.1 27))] dX4_isSoBy_43 2 rfl rfl (by decide) rfl ?_
          refine j_goto X 2 dX4_isSoBy_46 (by decide) ?_
          refine j_pick [1, 2, 0] rfl ?_
          exact ih (x2 + 1) h
        · have h := bi_f c_7 h
          refine j_iconst (v := 0) X dX4_isSoBy_41 (by decide) ?_
          exact j_zret X hr hk (by decide) dX4_isSoBy_42 (congrArg (fun z => (z, G)) (HR _ h))
set_option maxRecDepth 100000 in
set_option maxHeartbeats 4000000 in
theorem c_X4_isSoBy (l : Launch) (w : WP) (G : Mem) {res : Int32} (h0 : m_X4_isSoBy G = some res) : CMi l yX4_isSoBy cX4_isSoBy 3 (some .boolean) 3 65 w [.ref (w.1 23), .ref (w.1 27)] G (res, G) := by
  refine CMi.of (by decide +kernel) (Nat.le_of_ble_eq_true rfl) ?_
  intro p e s m args below meth c X hr hk
  have h := bs_i h0
  unfold m_X4_isSoBy at h
  show J p l e rm_X4_isSoBy s m args below meth c (Qint below args s w (res, G)) w 3 G 0 [(0, .ref (w.1 23)), (1, .ref (w.1 27))] []
  refine j_iconst (v := 0) X dX4_isSoBy_0 (by decide) ?_
  refine j_istore_n X [(2, .int 0), (0, .ref (w.1 23)), (1, .ref (w.1 27))] dX4_isSoBy_1 rfl (by decide) rfl ?_
  have h := bb_a h
  have Hv_8 : ∀ v_8 : Unit, (some 1).bind some = some res → J p l e rm_X4_isSoBy s m args below meth c (Qint below args s w (res, G)) w 3 G 49 [] [] := by
    intro v_8 h
    refine j_iconst (v := 1) X dX4_isSoBy_49 (by decide) ?_
    exact j_zret X hr hk (by decide) dX4_isSoBy_50 (congrArg (fun z => (z, G)) (Option.some.inj h))
  refine j_pick [1, 2, 0] rfl ?_
  exact jL_X4_isSoBy_2 (K := fun o_v_8 => ((match o_v_8 with | Sum.inl v_8 => some 1 | Sum.inr v_9 => some v_9)).bind some) X hr hk Hv_8 (fun z h => Option.some.inj h) NF 0 h
abbrev rm_X4_size : Room := { frames := 0, cells := 0, slots := 0, locals := 0 }
theorem pn_X4_size : yX4_size.cls ≠ "java/lang/invoke/MethodHandle" ∧ yX4_size.cls ≠ "java/lang/invoke/VarHandle" ∧ (parseMethodDescriptor yX4_size.desc).map (fun d => d.parameters.length) = some 0 := by decide +kernel
def m_X4_size (G : Mem) : Int32 := G 23 3
set_option maxRecDepth 100000 in
set_option maxHeartbeats 4000000 in
theorem c_X4_size (l : Launch) (w : WP) (G : Mem) : CMi l yX4_size cX4_size 1 (some .int) 0 0 w [.ref (w.1 23)] G (m_X4_size G, G) := by
  refine CMi.of (by decide +kernel) (Nat.le_of_ble_eq_true rfl) ?_
  intro p e s m args below meth c X hr hk
  obtain ⟨res, h⟩ : ∃ z, m_X4_size G = z := ⟨_, rfl⟩
  rw [h]
  unfold m_X4_size at h
  show J p l e rm_X4_size s m args below meth c (Qint below args s w (res, G)) w 1 G 0 [(0, .ref (w.1 23))] []
  refine j_aload_n X dX4_size_0 rfl 0 rfl ?_
  refine j_getI (C := RX4) (T := TX4) (N := 4) X 23 s_23 rfl hin_X4 3 (by decide) rfl q_167 dX4_size_1 ?_
  exact j_iret X hr hk dX4_size_4 (congrArg (fun z => (z, G)) (h))
abbrev rm_X5_all : Room := { frames := 0, cells := 0, slots := 0, locals := 0 }
theorem pn_X5_all : yX5_all.cls ≠ "java/lang/invoke/MethodHandle" ∧ yX5_all.cls ≠ "java/lang/invoke/VarHandle" ∧ (parseMethodDescriptor yX5_all.desc).map (fun d => d.parameters.length) = some 0 := by decide +kernel
def m_X5_all (G : Mem) : Int32 := G 66 7
set_option maxRecDepth 100000 in
set_option maxHeartbeats 4000000 in
theorem c_X5_all (l : Launch) (w : WP) (G : Mem) : CMi l yX5_all cX5_all 1 (some .int) 0 0 w [.ref (w.1 66)] G (m_X5_all G, G) := by
  refine CMi.of (by decide +kernel) (Nat.le_of_ble_eq_true rfl) ?_
  intro p e s m args below meth c X hr hk
  obtain ⟨res, h⟩ : ∃ z, m_X5_all G = z := ⟨_, rfl⟩
  rw [h]
  unfold m_X5_all at h
  show J p l e rm_X5_all s m args below meth c (Qint below args s w (res, G)) w 1 G 0 [(0, .ref (w.1 66))] []
  refine j_aload_n X dX5_all_0 rfl 0 rfl ?_
  refine j_getI (C := RX5) (T := TX5) (N := 8) X 66 s_66 rfl hin_X5 7 (by decide) rfl q_229 dX5_all_1 ?_
  exact j_iret X hr hk dX5_all_4 (congrArg (fun z => (z, G)) (h))
abbrev rm_X5_ready : Room := { frames := 1, cells := 0, slots := 0, locals := 21 }
theorem pn_X5_ready : yX5_ready.cls ≠ "java/lang/invoke/MethodHandle" ∧ yX5_ready.cls ≠ "java/lang/invoke/VarHandle" ∧ (parseMethodDescriptor yX5_ready.desc).map (fun d => d.parameters.length) = some 1 := by decide +kernel
def L_X5_ready_4 (x1 : Int32) (G : Mem) : Nat → Int32 → Int32 → Option (Int32)
  | 0, _, _ => none
  | n + 1, x2, x3 => (if 8 ≤ x3 then some x2 else ((if (m_X8_has ((G 66 6) &&& (x1 ^^^ (-1))) x3) = 0 then some x2 else (ald 8 G 68 x3).bind (fun r_4 => (if (r_4 &&& (x1 ^^^ (-1))) = 0 then some (x2 ||| (1 <<< (x3 &&& 31))) else some x2))) : Option (Int32)).bind (fun (v_2 : Int32) => L_X5_ready_4 x1 G n v_2 (x3 + 1)))
def m_X5_ready (G : Mem) (p1 : Int32) : Option (Int32) := (L_X5_ready_4 p1 G NF 0 0).bind (fun v_6 => some v_6)
set_option maxRecDepth 100000 in
set_option maxHeartbeats 4000000 in
theorem jL_X5_ready_4 {p : Program} {l : Launch} {e : Env} {s : State} {m : MethodId} {args : Array Value} {below : List Frame} {meth : Method} {c : Code} {w : WP} (X : fw_X p s m args c cX5_ready 4 RX5 w) (hr : meth.sig.returnType = (some .int)) (hk : meth.locks = false) {x1 : Int32} {G : Mem} {res : Int32} {K : Int32 → Option (Int32)} (HK : ∀ v : Int32, K v = some res → J p l e rm_X5_ready s m args below meth c (Qint below args s w (res, G)) w 4 G 50 [(2, .int v)] []) : ∀ (n : Nat) (x2 : Int32) (x3 : Int32), (L_X5_ready_4 x1 G n x2 x3).bind K = some res → J p l e rm_X5_ready s m args below meth c (Qint below args s w (res, G)) w 4 G 4 [(0, .ref (w.1 66)), (1, .int x1), (2, .int x2), (3, .int x3)] [] := by
  intro n
  induction n with
  | zero =>
    intro x2 x3 h
    rw [L_X5_ready_4] at h
    cases h
  | succ n ih =>
    intro x2 x3 h
    rw [L_X5_ready_4] at h
    refine j_iload_n X dX5_ready_4 rfl 3 rfl ?_
    refine j_bipush (v := 8) X dX5_ready_5 (by decide) ?_
    refine j_icmp_ge X 50 dX5_ready_7 (by decide) (fun c_1 => ?_) (fun c_1 => ?_)
    · have h := bi_t c_1 h
      refine j_pick [2] rfl ?_
      exact HK x2 h
    · have h := bi_f c_1 h
      refine j_aload_n X dX5_ready_10 rfl 0 rfl ?_
      refine j_getI (C := RX5) (T := TX5) (N := 8) X 66 s_66 rfl hin_X5 6 (by decide) rfl q_228 dX5_ready_11 ?_
      refine j_iload_n X dX5_ready_14 rfl 1 rfl ?_
      refine j_iconst (v := (-1)) X dX5_ready_15 (by decide) ?_
      refine j_ixor X dX5_ready_16 ?_
      refine j_iand X dX5_ready_17 ?_
      refine j_iload_n X dX5_ready_18 rfl 3 rfl ?_
      refine j_callNi (As := [.int ((G 66 6) &&& (x1 ^^^ (-1))), .int x3]) X (c_X8_has l w G  ((G 66 6) &&& (x1 ^^^ (-1))) x3) pn_X8_has nm_6 q_620 q_59 q_621 ⟨Nat.le_of_ble_eq_true rfl, Nat.le_of_ble_eq_true rfl⟩ (Nat.le_of_ble_eq_true rfl) rfl dX5_ready_19 ?_
      have h := bb_a h
      have Hv_2 : ∀ v_2 : Int32, (L_X5_ready_4 x1 G n v_2 (x3 + 1)).bind K = some res → J p l e rm_X5_ready s m args below meth c (Qint below args s w (res, G)) w 4 G 44 [(0, .ref (w.1 66)), (1, .int x1), (2, .int v_2), (3, .int x3)] [] := by
        intro v_2 h
        refine j_iinc (v := x3 + 1) X [(3, .int (x3 + 1)), (0, .ref (w.1 66)), (1, .int x1), (2, .int v_2)] dX5_ready_44 3 rfl rfl (by decide) rfl ?_
        refine j_goto X 4 dX5_ready_47 (by decide) ?_
        refine j_pick [1, 2, 3, 0] rfl ?_
        exact ih v_2 (x3 + 1) h
      refine j_if_eq X 44 dX5_ready_22 (by decide) (fun c_3 => ?_) (fun c_3 => ?_)
      · have h := bi_t c_3 h
        refine j_pick [0, 1, 2, 3] rfl ?_
        exact Hv_2 x2 h
      · have h := bi_f c_3 h
        refine j_aload_n X dX5_ready_25 rfl 0 rfl ?_
        refine j_getR (C := RX5) (T := TX5) (N := 8) X 66 s_66 rfl hin_X5 1 (by decide) 68 rfl q_223 dX5_ready_26 ?_
        refine j_iload_n X dX5_ready_29 rfl 3 rfl ?_
        obtain ⟨r_4, hr_4, h⟩ := bd_s h
        refine j_iald X 68 8 s_68 hr_4 dX5_ready_30 ?_
        refine j_iload_n X dX5_ready_31 rfl 1 rfl ?_
        refine j_iconst (v := (-1)) X dX5_ready_32 (by decide) ?_
        refine j_ixor X dX5_ready_33 ?_
        refine j_iand X dX5_ready_34 ?_
        refine j_if_ne X 44 dX5_ready_35 (by decide) (fun c_5 => ?_) (fun c_5 => ?_)
        · have h := bi_f c_5 h
          refine j_pick [0, 1, 2, 3] rfl ?_
          exact Hv_2 x2 h
        · have h := bi_t c_5 h
          refine j_iload_n X dX5_ready_38 rfl 2 rfl ?_
          refine j_iconst (v := 1) X dX5_ready_39 (by decide) ?_
          refine j_iload_n X dX5_ready_40 rfl 3 rfl ?_
          refine j_ishl X dX5_ready_41 ?_
          refine j_ior X dX5_ready_42 ?_
          refine j_istore_n X [(2, .int (x2 ||| (1 <<< (x3 &&& 31)))), (0, .ref (w.1 66)), (1, .int x1), (3, .int x3)] dX5_ready_43 rfl (by decide) rfl ?_
          refine j_pick [1, 2, 0, 3] rfl ?_
          exact Hv_2 (x2 ||| (1 <<< (x3 &&& 31))) h
set_option maxRecDepth 100000 in
set_option maxHeartbeats 4000000 in
theorem c_X5_ready (l : Launch) (w : WP) (G : Mem) (p1 : Int32) {res : Int32} (h0 : m_X5_ready G p1 = some res) : CMi l yX5_ready cX5_ready 4 (some .int) 1 21 w [.ref (w.1 66), .int p1] G (res, G) := by
  refine CMi.of (by decide +kernel) (Nat.le_of_ble_eq_true rfl) ?_
  intro p e s m args below meth c X hr hk
  have h := bs_i h0
  unfold m_X5_ready at h
  show J p l e rm_X5_ready s m args below meth c (Qint below args s w (res, G)) w 4 G 0 [(0, .ref (w.1 66)), (1, .int p1)] []
  refine j_iconst (v := 0) X dX5_ready_0 (by decide) ?_
  refine j_istore_n X [(2, .int 0), (0, .ref (w.1 66)), (1, .int p1)] dX5_ready_1 rfl (by decide) rfl ?_
  refine j_iconst (v := 0) X dX5_ready_2 (by decide) ?_
  refine j_istore_n X [(3, .int 0), (2, .int 0), (0, .ref (w.1 66)), (1, .int p1)] dX5_ready_3 rfl (by decide) rfl ?_
  have h := bb_a h
  have Hv_6 : ∀ v_6 : Int32, (some v_6).bind some = some res → J p l e rm_X5_ready s m args below meth c (Qint below args s w (res, G)) w 4 G 50 [(2, .int v_6)] [] := by
    intro v_6 h
    refine j_iload_n X dX5_ready_50 rfl 0 rfl ?_
    exact j_iret X hr hk dX5_ready_51 (congrArg (fun z => (z, G)) (Option.some.inj h))
  refine j_pick [2, 3, 1, 0] rfl ?_
  exact jL_X5_ready_4 X hr hk Hv_6 NF 0 0 h
abbrev rm_X5_noteJoining : Room := { frames := 1, cells := 0, slots := 0, locals := 21 }
theorem pn_X5_noteJoining : yX5_noteJoining.cls ≠ "java/lang/invoke/MethodHandle" ∧ yX5_noteJoining.cls ≠ "java/lang/invoke/VarHandle" ∧ (parseMethodDescriptor yX5_noteJoining.desc).map (fun d => d.parameters.length) = some 2 := by decide +kernel
def L_X5_noteJoining_2 (x1 : Int32) (x2 : Int32) : Nat → Int32 → Mem → Option (Mem)
  | 0, _, _ => none
  | n + 1, x3, G => (if 8 ≤ x3 then some G else ((if (m_X8_has x1 x3) = 0 then some G else (ald 8 G 71 x3).bind (fun r_4 => (ast 8 G 71 x3 (r_4 + x2)).bind (fun q_5 => some q_5))) : Option (Mem)).bind (fun (v_2 : Mem) => L_X5_noteJoining_2 x1 x2 n (x3 + 1) v_2))
def m_X5_noteJoining (G : Mem) (p1 : Int32) (p2 : Int32) : Option (Mem) := (L_X5_noteJoining_2 p1 p2 NF 0 G).bind (fun v_6 => some v_6)
set_option maxRecDepth 100000 in
set_option maxHeartbeats 4000000 in
theorem jL_X5_noteJoining_2 {p : Program} {l : Launch} {e : Env} {s : State} {m : MethodId} {args : Array Value} {below : List Frame} {meth : Method} {c : Code} {w : WP} (X : fw_X p s m args c cX5_noteJoining 4 RX5 w) (hr : meth.sig.returnType = none) (hk : meth.locks = false) {x1 : Int32} {x2 : Int32} {res : Mem} {K : Mem → Option (Mem)} (HK : ∀ v : Mem, K v = some res → J p l e rm_X5_noteJoining s m args below meth c (Qvoid below args s w res) w 4 v 32 [] []) : ∀ (n : Nat) (x3 : Int32) (G : Mem), (L_X5_noteJoining_2 x1 x2 n x3 G).bind K = some res → J p l e rm_X5_noteJoining s m args below meth c (Qvoid below args s w res) w 4 G 2 [(0, .ref (w.1 66)), (1, .int x1), (2, .int x2), (3, .int x3)] [] := by
  intro n
  induction n with
  | zero =>
    intro x3 G h
    rw [L_X5_noteJoining_2] at h
    cases h
  | succ n ih =>
    intro x3 G h
    rw [L_X5_noteJoining_2] at h
    refine j_iload_n X dX5_noteJoining_2 rfl 3 rfl ?_
    refine j_bipush (v := 8) X dX5_noteJoining_3 (by decide) ?_
    refine j_icmp_ge X 32 dX5_noteJoining_5 (by decide) (fun c_1 => ?_) (fun c_1 => ?_)
    · have h := bi_t c_1 h
      refine j_pick [] rfl ?_
      exact HK G h
    · have h := bi_f c_1 h
      refine j_iload_n X dX5_noteJoining_8 rfl 1 rfl ?_
      refine j_iload_n X dX5_noteJoining_9 rfl 3 rfl ?_
      refine j_callNi (As := [.int x1, .int x3]) X (c_X8_has l w G  x1 x3) pn_X8_has nm_6 q_620 q_59 q_621 ⟨Nat.le_of_ble_eq_true rfl, Nat.le_of_ble_eq_true rfl⟩ (Nat.le_of_ble_eq_true rfl) rfl dX5_noteJoining_10 ?_
      have h := bb_a h
      have Hv_2 : ∀ v_2 : Mem, (L_X5_noteJoining_2 x1 x2 n (x3 + 1) v_2).bind K = some res → J p l e rm_X5_noteJoining s m args below meth c (Qvoid below args s w res) w 4 v_2 26 [(0, .ref (w.1 66)), (1, .int x1), (2, .int x2), (3, .int x3)] [] := by
        intro v_2 h
        refine j_iinc (v := x3 + 1) X [(3, .int (x3 + 1)), (0, .ref (w.1 66)), (1, .int x1), (2, .int x2)] dX5_noteJoining_26 3 rfl rfl (by decide) rfl ?_
        refine j_goto X 2 dX5_noteJoining_29 (by decide) ?_
        refine j_pick [1, 2, 3, 0] rfl ?_
        exact ih (x3 + 1) v_2 h
      refine j_if_eq X 26 dX5_noteJoining_13 (by decide) (fun c_3 => ?_) (fun c_3 => ?_)
      · have h := bi_t c_3 h
        refine j_pick [0, 1, 2, 3] rfl ?_
        exact Hv_2 G h
      · have h := bi_f c_3 h
        refine j_aload_n X dX5_noteJoining_16 rfl 0 rfl ?_
        refine j_getR (C := RX5) (T := TX5) (N := 8) X 66 s_66 rfl hin_X5 4 (by decide) 71 rfl q_226 dX5_noteJoining_17 ?_
        refine j_iload_n X dX5_noteJoining_20 rfl 3 rfl ?_
        refine j_dup2 X dX5_noteJoining_21 rfl rfl ?_
        obtain ⟨r_4, hr_4, h⟩ := bd_s h
        refine j_iald X 71 8 s_71 hr_4 dX5_noteJoining_22 ?_
        refine j_iload_n X dX5_noteJoining_23 rfl 2 rfl ?_
        refine j_iadd X dX5_noteJoining_24 ?_
        obtain ⟨q_5, hq_5, h⟩ := bd_s h
        refine j_iast X 71 8 s_71 hq_5 dX5_noteJoining_25 ?_
        refine j_pick [0, 1, 2, 3] rfl ?_
        exact Hv_2 q_5 h
set_option maxRecDepth 100000 in
set_option maxHeartbeats 4000000 in
theorem c_X5_noteJoining (l : Launch) (w : WP) (G : Mem) (p1 : Int32) (p2 : Int32) {res : Mem} (h0 : m_X5_noteJoining G p1 p2 = some res) : CMv l yX5_noteJoining cX5_noteJoining 4 none 1 21 w [.ref (w.1 66), .int p1, .int p2] G res := by
  refine CMv.of (by decide +kernel) (Nat.le_of_ble_eq_true rfl) ?_
  intro p e s m args below meth c X hr hk
  have h := bs_i h0
  unfold m_X5_noteJoining at h
  show J p l e rm_X5_noteJoining s m args below meth c (Qvoid below args s w res) w 4 G 0 [(0, .ref (w.1 66)), (1, .int p1), (2, .int p2)] []
  refine j_iconst (v := 0) X dX5_noteJoining_0 (by decide) ?_
  refine j_istore_n X [(3, .int 0), (0, .ref (w.1 66)), (1, .int p1), (2, .int p2)] dX5_noteJoining_1 rfl (by decide) rfl ?_
  have h := bb_a h
  have Hv_6 : ∀ v_6 : Mem, (some v_6).bind some = some res → J p l e rm_X5_noteJoining s m args below meth c (Qvoid below args s w res) w 4 v_6 32 [] [] := by
    intro v_6 h
    exact j_vret X hr hk dX5_noteJoining_32 (Option.some.inj h)
  refine j_pick [1, 2, 3, 0] rfl ?_
  exact jL_X5_noteJoining_2 X hr hk Hv_6 NF 0 G h
abbrev rm_X5_noteAhead : Room := { frames := 1, cells := 0, slots := 0, locals := 21 }
theorem pn_X5_noteAhead : yX5_noteAhead.cls ≠ "java/lang/invoke/MethodHandle" ∧ yX5_noteAhead.cls ≠ "java/lang/invoke/VarHandle" ∧ (parseMethodDescriptor yX5_noteAhead.desc).map (fun d => d.parameters.length) = some 1 := by decide +kernel
def L_X5_noteAhead_18 (x2 : Int32) : Nat → Int32 → Mem → Option (Mem)
  | 0, _, _ => none
  | n + 1, x3, G => (if 8 ≤ x3 then some G else (aal 8 73 x2).bind (fun k_5 => (ald 8 G k_5 x3).bind (fun r_6 => (ald 8 G 71 x3).bind (fun r_7 => (ast 8 G k_5 x3 (r_6 + r_7)).bind (fun q_8 => L_X5_noteAhead_18 x2 n (x3 + 1) q_8)))))
def L_X5_noteAhead_2 (x1 : Int32) : Nat → Int32 → Mem → Option (Mem)
  | 0, _, _ => none
  | n + 1, x2, G => (if 8 ≤ x2 then some G else ((if (m_X8_has x1 x2) = 0 then some G else (L_X5_noteAhead_18 x2 NF 0 G).bind (fun v_9 => some v_9)) : Option (Mem)).bind (fun (v_2 : Mem) => L_X5_noteAhead_2 x1 n (x2 + 1) v_2))
def m_X5_noteAhead (G : Mem) (p1 : Int32) : Option (Mem) := (L_X5_noteAhead_2 p1 NF 0 G).bind (fun v_10 => some v_10)
set_option maxRecDepth 100000 in
set_option maxHeartbeats 4000000 in
theorem jL_X5_noteAhead_18 {p : Program} {l : Launch} {e : Env} {s : State} {m : MethodId} {args : Array Value} {below : List Frame} {meth : Method} {c : Code} {w : WP} (X : fw_X p s m args c cX5_noteAhead 4 RX5 w) (hr : meth.sig.returnType = none) (hk : meth.locks = false) {x1 : Int32} {x2 : Int32} {res : Mem} {K : Mem → Option (Mem)} (HK : ∀ v : Mem, K v = some res → J p l e rm_X5_noteAhead s m args below meth c (Qvoid below args s w res) w 4 v 47 [(0, .ref (w.1 66)), (1, .int x1), (2, .int x2)] []) : ∀ (n : Nat) (x3 : Int32) (G : Mem), (L_X5_noteAhead_18 x2 n x3 G).bind K = some res → J p l e rm_X5_noteAhead s m args below meth c (Qvoid below args s w res) w 4 G 18 [(0, .ref (w.1 66)), (1, .int x1), (2, .int x2), (3, .int x3)] [] := by
  intro n
  induction n with
  | zero =>
    intro x3 G h
    rw [L_X5_noteAhead_18] at h
    cases h
  | succ n ih =>
    intro x3 G h
    rw [L_X5_noteAhead_18] at h
    refine j_iload_n X dX5_noteAhead_18 rfl 3 rfl ?_
    refine j_bipush (v := 8) X dX5_noteAhead_19 (by decide) ?_
    refine j_icmp_ge X 47 dX5_noteAhead_21 (by decide) (fun c_4 => ?_) (fun c_4 => ?_)
    · have h := bi_t c_4 h
      refine j_pick [0, 1, 2] rfl ?_
      exact HK G h
    · have h := bi_f c_4 h
      refine j_aload_n X dX5_noteAhead_24 rfl 0 rfl ?_
      refine j_getR (C := RX5) (T := TX5) (N := 8) X 66 s_66 rfl hin_X5 5 (by decide) 72 rfl q_227 dX5_noteAhead_25 ?_
      refine j_iload_n X dX5_noteAhead_28 rfl 2 rfl ?_
      obtain ⟨k_5, hk_5, h⟩ := bd_s h
      refine j_aald X 72 8 73 s_72 hk_5 dX5_noteAhead_29 ?_
      refine j_iload_n X dX5_noteAhead_30 rfl 3 rfl ?_
      refine j_dup2 X dX5_noteAhead_31 rfl rfl ?_
      obtain ⟨r_6, hr_6, h⟩ := bd_s h
      refine j_iald X k_5 8 (s_row73 hk_5) hr_6 dX5_noteAhead_32 ?_
      refine j_aload_n X dX5_noteAhead_33 rfl 0 rfl ?_
      refine j_getR (C := RX5) (T := TX5) (N := 8) X 66 s_66 rfl hin_X5 4 (by decide) 71 rfl q_226 dX5_noteAhead_34 ?_
      refine j_iload_n X dX5_noteAhead_37 rfl 3 rfl ?_
      obtain ⟨r_7, hr_7, h⟩ := bd_s h
      refine j_iald X 71 8 s_71 hr_7 dX5_noteAhead_38 ?_
      refine j_iadd X dX5_noteAhead_39 ?_
      obtain ⟨q_8, hq_8, h⟩ := bd_s h
      refine j_iast X k_5 8 (s_row73 hk_5) hq_8 dX5_noteAhead_40 ?_
      refine j_iinc (v := x3 + 1) X [(3, .int (x3 + 1)), (0, .ref (w.1 66)), (1, .int x1), (2, .int x2)] dX5_noteAhead_41 3 rfl rfl (by decide) rfl ?_
      refine j_goto X 18 dX5_noteAhead_44 (by decide) ?_
      refine j_pick [1, 2, 3, 0] rfl ?_
      exact ih (x3 + 1) q_8 h
set_option maxRecDepth 100000 in
set_option maxHeartbeats 4000000 in
theorem jL_X5_noteAhead_2 {p : Program} {l : Launch} {e : Env} {s : State} {m : MethodId} {args : Array Value} {below : List Frame} {meth : Method} {c : Code} {w : WP} (X : fw_X p s m args c cX5_noteAhead 4 RX5 w) (hr : meth.sig.returnType = none) (hk : meth.locks = false) {x1 : Int32} {res : Mem} {K : Mem → Option (Mem)} (HK : ∀ v : Mem, K v = some res → J p l e rm_X5_noteAhead s m args below meth c (Qvoid below args s w res) w 4 v 53 [] []) : ∀ (n : Nat) (x2 : Int32) (G : Mem), (L_X5_noteAhead_2 x1 n x2 G).bind K = some res → J p l e rm_X5_noteAhead s m args below meth c (Qvoid below args s w res) w 4 G 2 [(0, .ref (w.1 66)), (1, .int x1), (2, .int x2)] [] := by
  intro n
  induction n with
  | zero =>
    intro x2 G h
    rw [L_X5_noteAhead_2] at h
    cases h
  | succ n ih =>
    intro x2 G h
    rw [L_X5_noteAhead_2] at h
    refine j_iload_n X dX5_noteAhead_2 rfl 2 rfl ?_
    refine j_bipush (v := 8) X dX5_noteAhead_3 (by decide) ?_
    refine j_icmp_ge X 53 dX5_noteAhead_5 (by decide) (fun c_1 => ?_) (fun c_1 => ?_)
    · have h := bi_t c_1 h
      refine j_pick [] rfl ?_
      exact HK G h
    · have h := bi_f c_1 h
      refine j_iload_n X dX5_noteAhead_8 rfl 1 rfl ?_
      refine j_iload_n X dX5_noteAhead_9 rfl 2 rfl ?_
      refine j_callNi (As := [.int x1, .int x2]) X (c_X8_has l w G  x1 x2) pn_X8_has nm_6 q_620 q_59 q_621 ⟨Nat.le_of_ble_eq_true rfl, Nat.le_of_ble_eq_true rfl⟩ (Nat.le_of_ble_eq_true rfl) rfl dX5_noteAhead_10 ?_
      have h := bb_a h
      have Hv_2 : ∀ v_2 : Mem, (L_X5_noteAhead_2 x1 n (x2 + 1) v_2).bind K = some res → J p l e rm_X5_noteAhead s m args below meth c (Qvoid below args s w res) w 4 v_2 47 [(0, .ref (w.1 66)), (1, .int x1), (2, .int x2)] [] := by
        intro v_2 h
        refine j_iinc (v := x2 + 1) X [(2, .int (x2 + 1)), (0, .ref (w.1 66)), (1, .int x1)] dX5_noteAhead_47 2 rfl rfl (by decide) rfl ?_
        refine j_goto X 2 dX5_noteAhead_50 (by decide) ?_
        refine j_pick [1, 2, 0] rfl ?_
        exact ih (x2 + 1) v_2 h
      refine j_if_eq X 47 dX5_noteAhead_13 (by decide) (fun c_3 => ?_) (fun c_3 => ?_)
      · have h := bi_t c_3 h
        refine j_pick [0, 1, 2] rfl ?_
        exact Hv_2 G h
      · have h := bi_f c_3 h
        refine j_iconst (v := 0) X dX5_noteAhead_16 (by decide) ?_
        refine j_istore_n X [(3, .int 0), (0, .ref (w.1 66)), (1, .int x1), (2, .int x2)] dX5_noteAhead_17 rfl (by decide) rfl ?_
        have h := bb_a h
        have Hv_9 : ∀ v_9 : Mem, (some v_9).bind (fun (v_2 : Mem) => (L_X5_noteAhead_2 x1 n (x2 + 1) v_2).bind K) = some res → J p l e rm_X5_noteAhead s m args below meth c (Qvoid below args s w res) w 4 v_9 47 [(0, .ref (w.1 66)), (1, .int x1), (2, .int x2)] [] := by
          intro v_9 h
          refine j_pick [0, 1, 2] rfl ?_
          exact Hv_2 v_9 h
        refine j_pick [1, 2, 3, 0] rfl ?_
        exact jL_X5_noteAhead_18 X hr hk Hv_9 NF 0 G h
set_option maxRecDepth 100000 in
set_option maxHeartbeats 4000000 in
theorem c_X5_noteAhead (l : Launch) (w : WP) (G : Mem) (p1 : Int32) {res : Mem} (h0 : m_X5_noteAhead G p1 = some res) : CMv l yX5_noteAhead cX5_noteAhead 4 none 1 21 w [.ref (w.1 66), .int p1] G res := by
  refine CMv.of (by decide +kernel) (Nat.le_of_ble_eq_true rfl) ?_
  intro p e s m args below meth c X hr hk
  have h := bs_i h0
  unfold m_X5_noteAhead at h
  show J p l e rm_X5_noteAhead s m args below meth c (Qvoid below args s w res) w 4 G 0 [(0, .ref (w.1 66)), (1, .int p1)] []
  refine j_iconst (v := 0) X dX5_noteAhead_0 (by decide) ?_
  refine j_istore_n X [(2, .int 0), (0, .ref (w.1 66)), (1, .int p1)] dX5_noteAhead_1 rfl (by decide) rfl ?_
  have h := bb_a h
  have Hv_10 : ∀ v_10 : Mem, (some v_10).bind some = some res → J p l e rm_X5_noteAhead s m args below meth c (Qvoid below args s w res) w 4 v_10 53 [] [] := by
    intro v_10 h
    exact j_vret X hr hk dX5_noteAhead_53 (Option.some.inj h)
  refine j_pick [1, 2, 0] rfl ?_
  exact jL_X5_noteAhead_2 X hr hk Hv_10 NF 0 G h
abbrev rm_X5_compare : Room := { frames := 2, cells := 0, slots := 0, locals := 44 }
theorem pn_X5_compare : yX5_compare.cls ≠ "java/lang/invoke/MethodHandle" ∧ yX5_compare.cls ≠ "java/lang/invoke/VarHandle" ∧ (parseMethodDescriptor yX5_compare.desc).map (fun d => d.parameters.length) = some 0 := by decide +kernel
def L_X5_compare_47 : Nat → Int32 → Mem → Option (Mem)
  | 0, _, _ => none
  | n + 1, x3, G => (if 8 ≤ x3 then some G else (ast 8 G 71 x3 0).bind (fun q_9 => L_X5_compare_47  n (x3 + 1) q_9))
def L_X5_compare_68 (x1 : Int32) (x2 : Int32) : Nat → Int32 → Mem → Option (Mem)
  | 0, _, _ => none
  | n + 1, x3, G => (if x3 ≤ 0 then some G else (ald 256 G 69 ((x1 ||| x3) &&& 255)).bind (fun r_12 => (ald 256 G 69 x1).bind (fun r_13 => (ast 256 G 69 ((x1 ||| x3) &&& 255) (r_12 + r_13)).bind (fun q_14 => (ald 256 q_14 69 x1).bind (fun r_15 => (ald 256 q_14 70 ((x1 ||| x3) &&& 255)).bind (fun r_16 => (m_X5_noteJoining q_14 x3 (r_15 * r_16)).bind (fun q_17 => L_X5_compare_68 x1 x2 n ((x3 - 1) &&& x2) q_17)))))))
def L_X5_compare_20 : Nat → Int32 → Mem → Option (Mem)
  | 0, _, _ => none
  | n + 1, x1, G => (if 256 ≤ x1 then some G else (ald 256 G 69 x1).bind (fun r_4 => ((if r_4 = 0 then some G else (m_X5_ready G x1).bind (fun r_7 => (L_X5_compare_47  NF 0 G).bind (fun v_10 => (L_X5_compare_68 x1 r_7 NF r_7 v_10).bind (fun v_18 => (m_X5_noteAhead v_18 x1).bind (fun q_19 => some q_19))))) : Option (Mem)).bind (fun (v_5 : Mem) => L_X5_compare_20  n (x1 + 1) v_5)))
def m_X5_compare (G : Mem) : Option (Mem) := ((if (G 66 7) = 0 then some 0 else some 1) : Option (Int32)).bind (fun (v_1 : Int32) => (ast 256 G 69 0 v_1).bind (fun q_2 => (L_X5_compare_20  NF 0 q_2).bind (fun v_20 => some v_20)))
set_option maxRecDepth 100000 in
set_option maxHeartbeats 4000000 in
theorem jL_X5_compare_47 {p : Program} {l : Launch} {e : Env} {s : State} {m : MethodId} {args : Array Value} {below : List Frame} {meth : Method} {c : Code} {w : WP} (X : fw_X p s m args c cX5_compare 5 RX5 w) (hr : meth.sig.returnType = none) (hk : meth.locks = false) {x1 : Int32} {x2 : Int32} {res : Mem} {K : Mem → Option (Mem)} (HK : ∀ v : Mem, K v = some res → J p l e rm_X5_compare s m args below meth c (Qvoid below args s w res) w 5 v 66 [(0, .ref (w.1 66)), (1, .int x1), (2, .int x2)] []) : ∀ (n : Nat) (x3 : Int32) (G : Mem), (L_X5_compare_47  n x3 G).bind K = some res → J p l e rm_X5_compare s m args below meth c (Qvoid below args s w res) w 5 G 47 [(0, .ref (w.1 66)), (1, .int x1), (2, .int x2), (3, .int x3)] [] := by
  intro n
  induction n with
  | zero =>
    intro x3 G h
    rw [L_X5_compare_47] at h
    cases h
  | succ n ih =>
    intro x3 G h
    rw [L_X5_compare_47] at h
    refine j_iload_n X dX5_compare_47 rfl 3 rfl ?_
    refine j_bipush (v := 8) X dX5_compare_48 (by decide) ?_
    refine j_icmp_ge X 66 dX5_compare_50 (by decide) (fun c_8 => ?_) (fun c_8 => ?_)
    · have h := bi_t c_8 h
      refine j_pick [0, 1, 2] rfl ?_
      exact HK G h
    · have h := bi_f c_8 h
      refine j_aload_n X dX5_compare_53 rfl 0 rfl ?_
      refine j_getR (C := RX5) (T := TX5) (N := 8) X 66 s_66 rfl hin_X5 4 (by decide) 71 rfl q_226 dX5_compare_54 ?_
      refine j_iload_n X dX5_compare_57 rfl 3 rfl ?_
      refine j_iconst (v := 0) X dX5_compare_58 (by decide) ?_
      obtain ⟨q_9, hq_9, h⟩ := bd_s h
      refine j_iast X 71 8 s_71 hq_9 dX5_compare_59 ?_
      refine j_iinc (v := x3 + 1) X [(3, .int (x3 + 1)), (0, .ref (w.1 66)), (1, .int x1), (2, .int x2)] dX5_compare_60 3 rfl rfl (by decide) rfl ?_
      refine j_goto X 47 dX5_compare_63 (by decide) ?_
      refine j_pick [1, 2, 3, 0] rfl ?_
      exact ih (x3 + 1) q_9 h
set_option maxRecDepth 100000 in
set_option maxHeartbeats 4000000 in
theorem jL_X5_compare_68 {p : Program} {l : Launch} {e : Env} {s : State} {m : MethodId} {args : Array Value} {below : List Frame} {meth : Method} {c : Code} {w : WP} (X : fw_X p s m args c cX5_compare 5 RX5 w) (hr : meth.sig.returnType = none) (hk : meth.locks = false) {x1 : Int32} {x2 : Int32} {res : Mem} {K : Mem → Option (Mem)} (HK : ∀ v : Mem, K v = some res → J p l e rm_X5_compare s m args below meth c (Qvoid below args s w res) w 5 v 125 [(0, .ref (w.1 66)), (1, .int x1)] []) : ∀ (n : Nat) (x3 : Int32) (G : Mem), (L_X5_compare_68 x1 x2 n x3 G).bind K = some res → J p l e rm_X5_compare s m args below meth c (Qvoid below args s w res) w 5 G 68 [(0, .ref (w.1 66)), (1, .int x1), (2, .int x2), (3, .int x3)] [] := by
  intro n
  induction n with
  | zero =>
    intro x3 G h
    rw [L_X5_compare_68] at h
    cases h
  | succ n ih =>
    intro x3 G h
    rw [L_X5_compare_68] at h
    refine j_iload_n X dX5_compare_68 rfl 3 rfl ?_
    refine j_if_le X 125 dX5_compare_69 (by decide) (fun c_11 => ?_) (fun c_11 => ?_)
    · have h := bi_t c_11 h
      refine j_pick [0, 1] rfl ?_
      exact HK G h
    · have h := bi_f c_11 h
      refine j_iload_n X dX5_compare_72 rfl 1 rfl ?_
      refine j_iload_n X dX5_compare_73 rfl 3 rfl ?_
      refine j_ior X dX5_compare_74 ?_
      refine j_sipush (v := 255) X dX5_compare_75 (by decide) ?_
      refine j_iand X dX5_compare_78 ?_
      refine j_istore X [(4, .int ((x1 ||| x3) &&& 255)), (0, .ref (w.1 66)), (1, .int x1), (2, .int x2), (3, .int x3)] dX5_compare_79 (by decide) rfl ?_
      refine j_aload_n X dX5_compare_81 rfl 1 rfl ?_
      refine j_getR (C := RX5) (T := TX5) (N := 8) X 66 s_66 rfl hin_X5 2 (by decide) 69 rfl q_224 dX5_compare_82 ?_
      refine j_iload X dX5_compare_85 0 rfl ?_
      refine j_dup2 X dX5_compare_87 rfl rfl ?_
      obtain ⟨r_12, hr_12, h⟩ := bd_s h
      refine j_iald X 69 256 s_69 hr_12 dX5_compare_88 ?_
      refine j_aload_n X dX5_compare_89 rfl 1 rfl ?_
      refine j_getR (C := RX5) (T := TX5) (N := 8) X 66 s_66 rfl hin_X5 2 (by decide) 69 rfl q_224 dX5_compare_90 ?_
      refine j_iload_n X dX5_compare_93 rfl 2 rfl ?_
      obtain ⟨r_13, hr_13, h⟩ := bd_s h
      refine j_iald X 69 256 s_69 hr_13 dX5_compare_94 ?_
      refine j_iadd X dX5_compare_95 ?_
      obtain ⟨q_14, hq_14, h⟩ := bd_s h
      refine j_iast X 69 256 s_69 hq_14 dX5_compare_96 ?_
      refine j_aload_n X dX5_compare_97 rfl 1 rfl ?_
      refine j_iload_n X dX5_compare_98 rfl 4 rfl ?_
      refine j_aload_n X dX5_compare_99 rfl 1 rfl ?_
      refine j_getR (C := RX5) (T := TX5) (N := 8) X 66 s_66 rfl hin_X5 2 (by decide) 69 rfl q_224 dX5_compare_100 ?_
      refine j_iload_n X dX5_compare_103 rfl 2 rfl ?_
      obtain ⟨r_15, hr_15, h⟩ := bd_s h
      refine j_iald X 69 256 s_69 hr_15 dX5_compare_104 ?_
      refine j_aload_n X dX5_compare_105 rfl 1 rfl ?_
      refine j_getR (C := RX5) (T := TX5) (N := 8) X 66 s_66 rfl hin_X5 3 (by decide) 70 rfl q_225 dX5_compare_106 ?_
      refine j_iload X dX5_compare_109 0 rfl ?_
      obtain ⟨r_16, hr_16, h⟩ := bd_s h
      refine j_iald X 70 256 s_70 hr_16 dX5_compare_111 ?_
      refine j_imul X dX5_compare_112 ?_
      obtain ⟨q_17, hq_17, h⟩ := bd_s h
      refine j_callVv (As := [.int x3, .int (r_15 * r_16)]) X 66 s_66 rfl (c_X5_noteJoining l w q_14  x3 (r_15 * r_16) hq_17) rfl pn_X5_noteJoining q_781 q_783 q_29 q_67 q_784 ⟨Nat.le_of_ble_eq_true rfl, Nat.le_of_ble_eq_true rfl⟩ (Nat.le_of_ble_eq_true rfl) rfl dX5_compare_113 ?_
      refine j_iload_n X dX5_compare_116 rfl 4 rfl ?_
      refine j_iconst (v := 1) X dX5_compare_117 (by decide) ?_
      refine j_isub X dX5_compare_118 ?_
      refine j_iload_n X dX5_compare_119 rfl 3 rfl ?_
      refine j_iand X dX5_compare_120 ?_
      refine j_istore_n X [(3, .int ((x3 - 1) &&& x2)), (4, .int ((x1 ||| x3) &&& 255)), (0, .ref (w.1 66)), (1, .int x1), (2, .int x2)] dX5_compare_121 rfl (by decide) rfl ?_
      refine j_goto X 68 dX5_compare_122 (by decide) ?_
      refine j_pick [2, 3, 4, 0] rfl ?_
      exact ih ((x3 - 1) &&& x2) q_17 h
set_option maxRecDepth 100000 in
set_option maxHeartbeats 4000000 in
theorem jL_X5_compare_20 {p : Program} {l : Launch} {e : Env} {s : State} {m : MethodId} {args : Array Value} {below : List Frame} {meth : Method} {c : Code} {w : WP} (X : fw_X p s m args c cX5_compare 5 RX5 w) (hr : meth.sig.returnType = none) (hk : meth.locks = false) {res : Mem} {K : Mem → Option (Mem)} (HK : ∀ v : Mem, K v = some res → J p l e rm_X5_compare s m args below meth c (Qvoid below args s w res) w 5 v 136 [] []) : ∀ (n : Nat) (x1 : Int32) (G : Mem), (L_X5_compare_20  n x1 G).bind K = some res → J p l e rm_X5_compare s m args below meth c (Qvoid below args s w res) w 5 G 20 [(0, .ref (w.1 66)), (1, .int x1)] [] := by
  intro n
  induction n with
  | zero =>
    intro x1 G h
    rw [L_X5_compare_20] at h
    cases h
  | succ n ih =>
    intro x1 G h
    rw [L_X5_compare_20] at h
    refine j_iload_n X dX5_compare_20 rfl 1 rfl ?_
    refine j_sipush (v := 256) X dX5_compare_21 (by decide) ?_
    refine j_icmp_ge X 136 dX5_compare_24 (by decide) (fun c_3 => ?_) (fun c_3 => ?_)
    · have h := bi_t c_3 h
      refine j_pick [] rfl ?_
      exact HK G h
    · have h := bi_f c_3 h
      refine j_aload_n X dX5_compare_27 rfl 0 rfl ?_
      refine j_getR (C := RX5) (T := TX5) (N := 8) X 66 s_66 rfl hin_X5 2 (by decide) 69 rfl q_224 dX5_compare_28 ?_
      refine j_iload_n X dX5_compare_31 rfl 1 rfl ?_
      obtain ⟨r_4, hr_4, h⟩ := bd_s h
      refine j_iald X 69 256 s_69 hr_4 dX5_compare_32 ?_
      have h := bb_a h
      have Hv_5 : ∀ v_5 : Mem, (L_X5_compare_20  n (x1 + 1) v_5).bind K = some res → J p l e rm_X5_compare s m args below meth c (Qvoid below args s w res) w 5 v_5 130 [(0, .ref (w.1 66)), (1, .int x1)] [] := by
        intro v_5 h
        refine j_iinc (v := x1 + 1) X [(1, .int (x1 + 1)), (0, .ref (w.1 66))] dX5_compare_130 1 rfl rfl (by decide) rfl ?_
        refine j_goto X 20 dX5_compare_133 (by decide) ?_
        refine j_pick [1, 0] rfl ?_
        exact ih (x1 + 1) v_5 h
      refine j_if_ne X 39 dX5_compare_33 (by decide) (fun c_6 => ?_) (fun c_6 => ?_)
      · have h := bi_f c_6 h
        refine j_aload_n X dX5_compare_39 rfl 0 rfl ?_
        refine j_iload_n X dX5_compare_40 rfl 1 rfl ?_
        obtain ⟨r_7, hr_7, h⟩ := bd_s h
        refine j_callVi (As := [.int x1]) X 66 s_66 rfl (c_X5_ready l w G  x1 hr_7) rfl pn_X5_ready q_765 q_767 q_28 q_67 q_768 ⟨Nat.le_of_ble_eq_true rfl, Nat.le_of_ble_eq_true rfl⟩ (Nat.le_of_ble_eq_true rfl) rfl dX5_compare_41 ?_
        refine j_istore_n X [(2, .int r_7), (0, .ref (w.1 66)), (1, .int x1)] dX5_compare_44 rfl (by decide) rfl ?_
        refine j_iconst (v := 0) X dX5_compare_45 (by decide) ?_
        refine j_istore_n X [(3, .int 0), (2, .int r_7), (0, .ref (w.1 66)), (1, .int x1)] dX5_compare_46 rfl (by decide) rfl ?_
        have h := bb_a h
        have Hv_10 : ∀ v_10 : Mem, ((L_X5_compare_68 x1 r_7 NF r_7 v_10).bind (fun v_18 => (m_X5_noteAhead v_18 x1).bind (fun q_19 => some q_19))).bind (fun (v_5 : Mem) => (L_X5_compare_20  n (x1 + 1) v_5).bind K) = some res → J p l e rm_X5_compare s m args below meth c (Qvoid below args s w res) w 5 v_10 66 [(0, .ref (w.1 66)), (1, .int x1), (2, .int r_7)] [] := by
          intro v_10 h
          refine j_iload_n X dX5_compare_66 rfl 2 rfl ?_
          refine j_istore_n X [(3, .int r_7), (0, .ref (w.1 66)), (1, .int x1), (2, .int r_7)] dX5_compare_67 rfl (by decide) rfl ?_
          have h := bb_a h
          have Hv_18 : ∀ v_18 : Mem, ((m_X5_noteAhead v_18 x1).bind (fun q_19 => some q_19)).bind (fun (v_5 : Mem) => (L_X5_compare_20  n (x1 + 1) v_5).bind K) = some res → J p l e rm_X5_compare s m args below meth c (Qvoid below args s w res) w 5 v_18 125 [(0, .ref (w.1 66)), (1, .int x1)] [] := by
            intro v_18 h
            refine j_aload_n X dX5_compare_125 rfl 0 rfl ?_
            refine j_iload_n X dX5_compare_126 rfl 1 rfl ?_
            obtain ⟨q_19, hq_19, h⟩ := bd_s h
            refine j_callVv (As := [.int x1]) X 66 s_66 rfl (c_X5_noteAhead l w v_18  x1 hq_19) rfl pn_X5_noteAhead q_785 q_787 q_30 q_67 q_788 ⟨Nat.le_of_ble_eq_true rfl, Nat.le_of_ble_eq_true rfl⟩ (Nat.le_of_ble_eq_true rfl) rfl dX5_compare_127 ?_
            refine j_pick [0, 1] rfl ?_
            exact Hv_5 q_19 h
          refine j_pick [1, 2, 3, 0] rfl ?_
          exact jL_X5_compare_68 X hr hk Hv_18 NF r_7 v_10 h
        refine j_pick [2, 3, 1, 0] rfl ?_
        exact jL_X5_compare_47 X hr hk Hv_10 NF 0 G h
      · have h := bi_t c_6 h
        refine j_goto X 130 dX5_compare_36 (by decide) ?_
        refine j_pick [0, 1] rfl ?_
        exact Hv_5 G h
set_option maxRecDepth 100000 in
set_option maxHeartbeats 4000000 in
theorem c_X5_compare (l : Launch) (w : WP) (G : Mem) {res : Mem} (h0 : m_X5_compare G = some res) : CMv l yX5_compare cX5_compare 5 none 2 44 w [.ref (w.1 66)] G res := by
  refine CMv.of (by decide +kernel) (Nat.le_of_ble_eq_true rfl) ?_
  intro p e s m args below meth c X hr hk
  have h := bs_i h0
  unfold m_X5_compare at h
  show J p l e rm_X5_compare s m args below meth c (Qvoid below args s w res) w 5 G 0 [(0, .ref (w.1 66))] []
  refine j_aload_n X dX5_compare_0 rfl 0 rfl ?_
  refine j_getR (C := RX5) (T := TX5) (N := 8) X 66 s_66 rfl hin_X5 2 (by decide) 69 rfl q_224 dX5_compare_1 ?_
  refine j_iconst (v := 0) X dX5_compare_4 (by decide) ?_
  refine j_aload_n X dX5_compare_5 rfl 0 rfl ?_
  refine j_getI (C := RX5) (T := TX5) (N := 8) X 66 s_66 rfl hin_X5 7 (by decide) rfl q_229 dX5_compare_6 ?_
  have h := bb_a h
  have Hv_1 : ∀ v_1 : Int32, ((ast 256 G 69 0 v_1).bind (fun q_2 => (L_X5_compare_20  NF 0 q_2).bind (fun v_20 => some v_20))).bind some = some res → J p l e rm_X5_compare s m args below meth c (Qvoid below args s w res) w 5 G 17 [(0, .ref (w.1 66))] [.int v_1, .int 0, .ref (w.1 69)] := by
    intro v_1 h
    obtain ⟨q_2, hq_2, h⟩ := bd_s h
    refine j_iast X 69 256 s_69 hq_2 dX5_compare_17 ?_
    refine j_iconst (v := 0) X dX5_compare_18 (by decide) ?_
    refine j_istore_n X [(1, .int 0), (0, .ref (w.1 66))] dX5_compare_19 rfl (by decide) rfl ?_
    have h := bb_a h
    have Hv_20 : ∀ v_20 : Mem, (some v_20).bind some = some res → J p l e rm_X5_compare s m args below meth c (Qvoid below args s w res) w 5 v_20 136 [] [] := by
      intro v_20 h
      exact j_vret X hr hk dX5_compare_136 (Option.some.inj h)
    refine j_pick [1, 0] rfl ?_
    exact jL_X5_compare_20 X hr hk Hv_20 NF 0 q_2 h
  refine j_if_ne X 16 dX5_compare_9 (by decide) (fun c_21 => ?_) (fun c_21 => ?_)
  · have h := bi_f c_21 h
    refine j_iconst (v := 1) X dX5_compare_16 (by decide) ?_
    refine j_pick [0] rfl ?_
    exact Hv_1 1 h
  · have h := bi_t c_21 h
    refine j_iconst (v := 0) X dX5_compare_12 (by decide) ?_
    refine j_goto X 17 dX5_compare_13 (by decide) ?_
    refine j_pick [0] rfl ?_
    exact Hv_1 0 h
abbrev rm_X5_countOn : Room := { frames := 2, cells := 0, slots := 0, locals := 44 }
theorem pn_X5_countOn : yX5_countOn.cls ≠ "java/lang/invoke/MethodHandle" ∧ yX5_countOn.cls ≠ "java/lang/invoke/VarHandle" ∧ (parseMethodDescriptor yX5_countOn.desc).map (fun d => d.parameters.length) = some 0 := by decide +kernel
def L_X5_countOn_45 (x1 : Int32) (x2 : Int32) (G : Mem) : Nat → Int32 → Int32 → Option (Int32)
  | 0, _, _ => none
  | n + 1, x3, x4 => (if x4 ≤ 0 then some x3 else (ald 256 G 70 ((x1 ||| x4) &&& 255)).bind (fun r_7 => L_X5_countOn_45 x1 x2 G n (x3 + r_7) ((x4 - 1) &&& x2)))
def L_X5_countOn_4 : Nat → Int32 → Mem → Option (Mem)
  | 0, _, _ => none
  | n + 1, x1, G => (if x1 < 0 then some G else ((if (x1 &&& ((G 66 6) ^^^ (-1))) = 0 then (m_X5_ready G x1).bind (fun r_4 => ((if x1 = (G 66 6) then some (r_4, 1) else some (r_4, 0)) : Option (Int32 × Int32)).bind (fun (v_5 : Int32 × Int32) => (L_X5_countOn_45 x1 v_5.1 G NF v_5.2 v_5.1).bind (fun v_8 => (ast 256 G 70 x1 v_8).bind (fun q_9 => some q_9)))) else some G) : Option (Mem)).bind (fun (v_2 : Mem) => L_X5_countOn_4  n (x1 + (-1)) v_2))
def m_X5_countOn (G : Mem) : Option (Mem) := (L_X5_countOn_4  NF 255 G).bind (fun v_11 => some v_11)
set_option maxRecDepth 100000 in
set_option maxHeartbeats 4000000 in
theorem jL_X5_countOn_45 {p : Program} {l : Launch} {e : Env} {s : State} {m : MethodId} {args : Array Value} {below : List Frame} {meth : Method} {c : Code} {w : WP} (X : fw_X p s m args c cX5_countOn 5 RX5 w) (hr : meth.sig.returnType = none) (hk : meth.locks = false) {x1 : Int32} {x2 : Int32} {G : Mem} {res : Mem} {K : Int32 → Option (Mem)} (HK : ∀ v : Int32, K v = some res → J p l e rm_X5_countOn s m args below meth c (Qvoid below args s w res) w 5 G 77 [(0, .ref (w.1 66)), (1, .int x1), (3, .int v)] []) : ∀ (n : Nat) (x3 : Int32) (x4 : Int32), (L_X5_countOn_45 x1 x2 G n x3 x4).bind K = some res → J p l e rm_X5_countOn s m args below meth c (Qvoid below args s w res) w 5 G 45 [(0, .ref (w.1 66)), (1, .int x1), (2, .int x2), (3, .int x3), (4, .int x4)] [] := by
  intro n
  induction n with
  | zero =>
    intro x3 x4 h
    rw [L_X5_countOn_45] at h
    cases h
  | succ n ih =>
    intro x3 x4 h
    rw [L_X5_countOn_45] at h
    refine j_iload X dX5_countOn_45 4 rfl ?_
    refine j_if_le X 77 dX5_countOn_47 (by decide) (fun c_6 => ?_) (fun c_6 => ?_)
    · have h := bi_t c_6 h
      refine j_pick [0, 1, 3] rfl ?_
      exact HK x3 h
    · have h := bi_f c_6 h
      refine j_iload_n X dX5_countOn_50 rfl 3 rfl ?_
      refine j_aload_n X dX5_countOn_51 rfl 0 rfl ?_
      refine j_getR (C := RX5) (T := TX5) (N := 8) X 66 s_66 rfl hin_X5 3 (by decide) 70 rfl q_225 dX5_countOn_52 ?_
      refine j_iload_n X dX5_countOn_55 rfl 1 rfl ?_
      refine j_iload X dX5_countOn_56 4 rfl ?_
      refine j_ior X dX5_countOn_58 ?_
      refine j_sipush (v := 255) X dX5_countOn_59 (by decide) ?_
      refine j_iand X dX5_countOn_62 ?_
      obtain ⟨r_7, hr_7, h⟩ := bd_s h
      refine j_iald X 70 256 s_70 hr_7 dX5_countOn_63 ?_
      refine j_iadd X dX5_countOn_64 ?_
      refine j_istore_n X [(3, .int (x3 + r_7)), (0, .ref (w.1 66)), (1, .int x1), (2, .int x2), (4, .int x4)] dX5_countOn_65 rfl (by decide) rfl ?_
      refine j_iload X dX5_countOn_66 4 rfl ?_
      refine j_iconst (v := 1) X dX5_countOn_68 (by decide) ?_
      refine j_isub X dX5_countOn_69 ?_
      refine j_iload_n X dX5_countOn_70 rfl 3 rfl ?_
      refine j_iand X dX5_countOn_71 ?_
      refine j_istore X [(4, .int ((x4 - 1) &&& x2)), (3, .int (x3 + r_7)), (0, .ref (w.1 66)), (1, .int x1), (2, .int x2)] dX5_countOn_72 (by decide) rfl ?_
      refine j_goto X 45 dX5_countOn_74 (by decide) ?_
      refine j_pick [2, 3, 4, 1, 0] rfl ?_
      exact ih (x3 + r_7) ((x4 - 1) &&& x2) h
set_option maxRecDepth 100000 in
set_option maxHeartbeats 4000000 in
theorem jL_X5_countOn_4 {p : Program} {l : Launch} {e : Env} {s : State} {m : MethodId} {args : Array Value} {below : List Frame} {meth : Method} {c : Code} {w : WP} (X : fw_X p s m args c cX5_countOn 5 RX5 w) (hr : meth.sig.returnType = none) (hk : meth.locks = false) {res : Mem} {K : Mem → Option (Mem)} (HK : ∀ v : Mem, K v = some res → J p l e rm_X5_countOn s m args below meth c (Qvoid below args s w res) w 5 v 90 [] []) : ∀ (n : Nat) (x1 : Int32) (G : Mem), (L_X5_countOn_4  n x1 G).bind K = some res → J p l e rm_X5_countOn s m args below meth c (Qvoid below args s w res) w 5 G 4 [(0, .ref (w.1 66)), (1, .int x1)] [] := by
  intro n
  induction n with
  | zero =>
    intro x1 G h
    rw [L_X5_countOn_4] at h
    cases h
  | succ n ih =>
    intro x1 G h
    rw [L_X5_countOn_4] at h
    refine j_iload_n X dX5_countOn_4 rfl 1 rfl ?_
    refine j_if_lt X 90 dX5_countOn_5 (by decide) (fun c_1 => ?_) (fun c_1 => ?_)
    · have h := bi_t c_1 h
      refine j_pick [] rfl ?_
      exact HK G h
    · have h := bi_f c_1 h
      refine j_iload_n X dX5_countOn_8 rfl 1 rfl ?_
      refine j_aload_n X dX5_countOn_9 rfl 0 rfl ?_
      refine j_getI (C := RX5) (T := TX5) (N := 8) X 66 s_66 rfl hin_X5 6 (by decide) rfl q_228 dX5_countOn_10 ?_
      refine j_iconst (v := (-1)) X dX5_countOn_13 (by decide) ?_
      refine j_ixor X dX5_countOn_14 ?_
      refine j_iand X dX5_countOn_15 ?_
      have h := bb_a h
      have Hv_2 : ∀ v_2 : Mem, (L_X5_countOn_4  n (x1 + (-1)) v_2).bind K = some res → J p l e rm_X5_countOn s m args below meth c (Qvoid below args s w res) w 5 v_2 84 [(0, .ref (w.1 66)), (1, .int x1)] [] := by
        intro v_2 h
        refine j_iinc (v := x1 + (-1)) X [(1, .int (x1 + (-1))), (0, .ref (w.1 66))] dX5_countOn_84 1 rfl rfl (by decide) rfl ?_
        refine j_goto X 4 dX5_countOn_87 (by decide) ?_
        refine j_pick [1, 0] rfl ?_
        exact ih (x1 + (-1)) v_2 h
      refine j_if_eq X 22 dX5_countOn_16 (by decide) (fun c_3 => ?_) (fun c_3 => ?_)
      · have h := bi_t c_3 h
        refine j_aload_n X dX5_countOn_22 rfl 0 rfl ?_
        refine j_iload_n X dX5_countOn_23 rfl 1 rfl ?_
        obtain ⟨r_4, hr_4, h⟩ := bd_s h
        refine j_callVi (As := [.int x1]) X 66 s_66 rfl (c_X5_ready l w G  x1 hr_4) rfl pn_X5_ready q_765 q_767 q_28 q_67 q_768 ⟨Nat.le_of_ble_eq_true rfl, Nat.le_of_ble_eq_true rfl⟩ (Nat.le_of_ble_eq_true rfl) rfl dX5_countOn_24 ?_
        refine j_istore_n X [(2, .int r_4), (0, .ref (w.1 66)), (1, .int x1)] dX5_countOn_27 rfl (by decide) rfl ?_
        refine j_iload_n X dX5_countOn_28 rfl 2 rfl ?_
        refine j_aload_n X dX5_countOn_29 rfl 1 rfl ?_
        refine j_getI (C := RX5) (T := TX5) (N := 8) X 66 s_66 rfl hin_X5 6 (by decide) rfl q_228 dX5_countOn_30 ?_
        have h := bb_a h
        have Hv_5 : ∀ v_5 : Int32 × Int32, ((L_X5_countOn_45 x1 v_5.1 G NF v_5.2 v_5.1).bind (fun v_8 => (ast 256 G 70 x1 v_8).bind (fun q_9 => some q_9))).bind (fun (v_2 : Mem) => (L_X5_countOn_4  n (x1 + (-1)) v_2).bind K) = some res → J p l e rm_X5_countOn s m args below meth c (Qvoid below args s w res) w 5 G 41 [(0, .ref (w.1 66)), (1, .int x1), (2, .int v_5.1)] [.int v_5.2] := by
          intro v_5 h
          refine j_istore_n X [(3, .int v_5.2), (0, .ref (w.1 66)), (1, .int x1), (2, .int v_5.1)] dX5_countOn_41 rfl (by decide) rfl ?_
          refine j_iload_n X dX5_countOn_42 rfl 3 rfl ?_
          refine j_istore X [(4, .int v_5.1), (3, .int v_5.2), (0, .ref (w.1 66)), (1, .int x1), (2, .int v_5.1)] dX5_countOn_43 (by decide) rfl ?_
          have h := bb_a h
          have Hv_8 : ∀ v_8 : Int32, ((ast 256 G 70 x1 v_8).bind (fun q_9 => some q_9)).bind (fun (v_2 : Mem) => (L_X5_countOn_4  n (x1 + (-1)) v_2).bind K) = some res → J p l e rm_X5_countOn s m args below meth c (Qvoid below args s w res) w 5 G 77 [(0, .ref (w.1 66)), (1, .int x1), (3, .int v_8)] [] := by
            intro v_8 h
            refine j_aload_n X dX5_countOn_77 rfl 0 rfl ?_
            refine j_getR (C := RX5) (T := TX5) (N := 8) X 66 s_66 rfl hin_X5 3 (by decide) 70 rfl q_225 dX5_countOn_78 ?_
            refine j_iload_n X dX5_countOn_81 rfl 1 rfl ?_
            refine j_iload_n X dX5_countOn_82 rfl 2 rfl ?_
            obtain ⟨q_9, hq_9, h⟩ := bd_s h
            refine j_iast X 70 256 s_70 hq_9 dX5_countOn_83 ?_
            refine j_pick [0, 1] rfl ?_
            exact Hv_2 q_9 h
          refine j_pick [2, 3, 4, 1, 0] rfl ?_
          exact jL_X5_countOn_45 X hr hk Hv_8 NF v_5.2 v_5.1 h
        refine j_icmp_ne X 40 dX5_countOn_33 (by decide) (fun c_10 => ?_) (fun c_10 => ?_)
        · have h := bi_f c_10 h
          refine j_iconst (v := 0) X dX5_countOn_40 (by decide) ?_
          refine j_pick [1, 2, 0] rfl ?_
          exact Hv_5 (r_4, 0) h
        · have h := bi_t c_10 h
          refine j_iconst (v := 1) X dX5_countOn_36 (by decide) ?_
          refine j_goto X 41 dX5_countOn_37 (by decide) ?_
          refine j_pick [1, 2, 0] rfl ?_
          exact Hv_5 (r_4, 1) h
      · have h := bi_f c_3 h
        refine j_goto X 84 dX5_countOn_19 (by decide) ?_
        refine j_pick [0, 1] rfl ?_
        exact Hv_2 G h
set_option maxRecDepth 100000 in
set_option maxHeartbeats 4000000 in
theorem c_X5_countOn (l : Launch) (w : WP) (G : Mem) {res : Mem} (h0 : m_X5_countOn G = some res) : CMv l yX5_countOn cX5_countOn 5 none 2 44 w [.ref (w.1 66)] G res := by
  refine CMv.of (by decide +kernel) (Nat.le_of_ble_eq_true rfl) ?_
  intro p e s m args below meth c X hr hk
  have h := bs_i h0
  unfold m_X5_countOn at h
  show J p l e rm_X5_countOn s m args below meth c (Qvoid below args s w res) w 5 G 0 [(0, .ref (w.1 66))] []
  refine j_sipush (v := 255) X dX5_countOn_0 (by decide) ?_
  refine j_istore_n X [(1, .int 255), (0, .ref (w.1 66))] dX5_countOn_3 rfl (by decide) rfl ?_
  have h := bb_a h
  have Hv_11 : ∀ v_11 : Mem, (some v_11).bind some = some res → J p l e rm_X5_countOn s m args below meth c (Qvoid below args s w res) w 5 v_11 90 [] [] := by
    intro v_11 h
    exact j_vret X hr hk dX5_countOn_90 (Option.some.inj h)
  refine j_pick [1, 0] rfl ?_
  exact jL_X5_countOn_4 X hr hk Hv_11 NF 255 G h
