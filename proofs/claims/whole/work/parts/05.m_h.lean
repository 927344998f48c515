abbrev rm_X9_isSound : Room := { frames := 1, cells := 0, slots := 0, locals := 23 }
theorem pn_X9_isSound : yX9_isSound.cls ≠ "java/lang/invoke/MethodHandle" ∧ yX9_isSound.cls ≠ "java/lang/invoke/VarHandle" ∧ (parseMethodDescriptor yX9_isSound.desc).map (fun d => d.parameters.length) = some 0 := by decide +kernel
def L_X9_isSound_50 (x7 : Int32) (G : Mem) : Nat → Int32 → Int32 → Option (Int32)
  | 0, _, _ => none
  | n + 1, x8, x9 => (if (G 81 14) ≤ x9 then some x8 else ((if ((x7 >>> (x9 &&& 31)) &&& 1) = 1 then (ald 17 G 92 x9).bind (fun r_7 => some r_7) else some 0) : Option (Int32)).bind (fun (v_5 : Int32) => L_X9_isSound_50 x7 G n (x8 ||| v_5) (x9 + 1)))
def L_X9_isSound_27 (x1 : Int32) (G : Mem) : Nat → Int32 → Int32 → Option (Int32)
  | 0, _, _ => none
  | n + 1, x5, x6 => (if (G 81 14) ≤ x6 then some x5 else (m_X9_classOf G x6).bind (fun r_3 => (L_X9_isSound_50 r_3 G NF 0 0).bind (fun v_8 => ((if ((x1 >>> (x6 &&& 31)) &&& 1) = 0 then (if (v_8 &&& (x1 ^^^ (-1))) = 0 then some (1 <<< (x6 &&& 31)) else some 0) else some 0) : Option (Int32)).bind (fun (v_9 : Int32) => L_X9_isSound_27 x1 G n (x5 ||| v_9) (x6 + 1)))))
def L_X9_isSound_132 (x2 : Int32) (x5 : Int32) : Nat → Int32 → Mem → Option (Mem)
  | 0, _, _ => none
  | n + 1, x6, G => (if (G 81 14) ≤ x6 then some G else ((if ((x5 >>> (x6 &&& 31)) &&& 1) = 1 then some x2 else (ald 17 G 93 x6).bind (fun r_17 => some r_17)) : Option (Int32)).bind (fun (v_14 : Int32) => (ast 17 G 93 x6 v_14).bind (fun q_15 => L_X9_isSound_132 x2 x5 n (x6 + 1) q_15)))
def L_X9_isSound_16 (x3 : Int32) : Nat → Int32 → Int32 → Int32 → Mem → Option (Int32 × Mem)
  | 0, _, _, _, _ => none
  | n + 1, x1, x2, x4, G => (if x4 = 0 then some (x1, G) else (L_X9_isSound_27 x1 G NF 0 0).bind (fun v_12 => (L_X9_isSound_132 x2 v_12 NF 0 G).bind (fun v_18 => ((if v_12 = 0 then some 0 else (if (x1 ||| v_12) = x3 then some 0 else some 1)) : Option (Int32)).bind (fun (v_19 : Int32) => L_X9_isSound_16 x3 n (x1 ||| v_12) (x2 + 1) v_19 v_18))))
def m_X9_isSound (G : Mem) : Option (Int32 × Mem) := (L_X9_isSound_16 ((1 <<< ((G 81 14) &&& 31)) - 1) NF 0 0 1 G).bind (fun v_22 => (if v_22.1 = ((1 <<< ((G 81 14) &&& 31)) - 1) then some (1, v_22.2) else some (0, v_22.2)))
set_option maxRecDepth 100000 in
set_option maxHeartbeats 4000000 in
theorem jL_X9_isSound_50 {p : Program} {l : Launch} {e : Env} {s : State} {m : MethodId} {args : Array Value} {below : List Frame} {meth : Method} {c : Code} {w : WP} (X : fw_X p s m args c cX9_isSound 10 RX9 w) (hr : meth.sig.returnType = (some .boolean)) (hk : meth.locks = false) {x1 : Int32} {x2 : Int32} {x3 : Int32} {x5 : Int32} {x6 : Int32} {x7 : Int32} {G : Mem} {res : Int32 × Mem} {K : Int32 → Option (Int32 × Mem)} (HK : ∀ v : Int32, K v = some res → J p l e rm_X9_isSound s m args below meth c (Qint below args s w res) w 10 G 92 [(0, .ref (w.1 81)), (1, .int x1), (2, .int x2), (3, .int x3), (5, .int x5), (6, .int x6), (8, .int v)] []) : ∀ (n : Nat) (x8 : Int32) (x9 : Int32), (L_X9_isSound_50 x7 G n x8 x9).bind K = some res → J p l e rm_X9_isSound s m args below meth c (Qint below args s w res) w 10 G 50 [(0, .ref (w.1 81)), (1, .int x1), (2, .int x2), (3, .int x3), (5, .int x5), (6, .int x6), (7, .int x7), (8, .int x8), (9, .int x9)] [] := by
  intro n
  induction n with
  | zero =>
    intro x8 x9 h
    rw [L_X9_isSound_50] at h
    cases h
  | succ n ih =>
    intro x8 x9 h
    rw [L_X9_isSound_50] at h
    refine j_iload X dX9_isSound_50 8 rfl ?_
    refine j_aload_n X dX9_isSound_52 rfl 0 rfl ?_
    refine j_getI (C := RX9) (T := TX9) (N := 22) X 81 s_81 rfl hin_X9 14 (by decide) rfl q_876 dX9_isSound_53 ?_
    refine j_icmp_ge X 92 dX9_isSound_56 (by decide) (fun c_4 => ?_) (fun c_4 => ?_)
    · have h := bi_t c_4 h
      refine j_pick [0, 1, 2, 3, 4, 5, 7] rfl ?_
      exact HK x8 h
    · have h := bi_f c_4 h
      refine j_iload X dX9_isSound_59 7 rfl ?_
      refine j_iload X dX9_isSound_61 6 rfl ?_
      refine j_iload X dX9_isSound_63 8 rfl ?_
      refine j_ishr X dX9_isSound_65 ?_
      refine j_iconst (v := 1) X dX9_isSound_66 (by decide) ?_
      refine j_iand X dX9_isSound_67 ?_
      refine j_iconst (v := 1) X dX9_isSound_68 (by decide) ?_
      have h := bb_a h
      have Hv_5 : ∀ v_5 : Int32, (L_X9_isSound_50 x7 G n (x8 ||| v_5) (x9 + 1)).bind K = some res → J p l e rm_X9_isSound s m args below meth c (Qint below args s w res) w 10 G 83 [(0, .ref (w.1 81)), (1, .int x1), (2, .int x2), (3, .int x3), (5, .int x5), (6, .int x6), (7, .int x7), (9, .int x9)] [.int v_5, .int x8] := by
        intro v_5 h
        refine j_ior X dX9_isSound_83 ?_
        refine j_istore X [(8, .int (x8 ||| v_5)), (0, .ref (w.1 81)), (1, .int x1), (2, .int x2), (3, .int x3), (5, .int x5), (6, .int x6), (7, .int x7), (9, .int x9)] dX9_isSound_84 (by decide) rfl ?_
        refine j_iinc (v := x9 + 1) X [(9, .int (x9 + 1)), (8, .int (x8 ||| v_5)), (0, .ref (w.1 81)), (1, .int x1), (2, .int x2), (3, .int x3), (5, .int x5), (6, .int x6), (7, .int x7)] dX9_isSound_86 8 rfl rfl (by decide) rfl ?_
        refine j_goto X 50 dX9_isSound_89 (by decide) ?_
        refine j_pick [2, 3, 4, 5, 6, 7, 8, 1, 0] rfl ?_
        exact ih (x8 ||| v_5) (x9 + 1) h
      refine j_icmp_ne X 82 dX9_isSound_69 (by decide) (fun c_6 => ?_) (fun c_6 => ?_)
      · have h := bi_f c_6 h
        refine j_iconst (v := 0) X dX9_isSound_82 (by decide) ?_
        refine j_pick [0, 1, 2, 3, 4, 5, 6, 8] rfl ?_
        exact Hv_5 0 h
      · have h := bi_t c_6 h
        refine j_aload_n X dX9_isSound_72 rfl 0 rfl ?_
        refine j_getR (C := RX9) (T := TX9) (N := 22) X 81 s_81 rfl hin_X9 16 (by decide) 92 rfl q_878 dX9_isSound_73 ?_
        refine j_iload X dX9_isSound_76 8 rfl ?_
        obtain ⟨r_7, hr_7, h⟩ := bd_s h
        refine j_iald X 92 17 s_92 hr_7 dX9_isSound_78 ?_
        refine j_goto X 83 dX9_isSound_79 (by decide) ?_
        refine j_pick [0, 1, 2, 3, 4, 5, 6, 8] rfl ?_
        exact Hv_5 r_7 h
set_option maxRecDepth 100000 in
set_option maxHeartbeats 4000000 in
theorem jL_X9_isSound_27 {p : Program} {l : Launch} {e : Env} {s : State} {m : MethodId} {args : Array Value} {below : List Frame} {meth : Method} {c : Code} {w : WP} (X : fw_X p s m args c cX9_isSound 10 RX9 w) (hr : meth.sig.returnType = (some .boolean)) (hk : meth.locks = false) {x1 : Int32} {x2 : Int32} {x3 : Int32} {G : Mem} {res : Int32 × Mem} {K : Int32 → Option (Int32 × Mem)} (HK : ∀ v : Int32, K v = some res → J p l e rm_X9_isSound s m args below meth c (Qint below args s w res) w 10 G 129 [(0, .ref (w.1 81)), (1, .int x1), (2, .int x2), (3, .int x3), (5, .int v)] []) : ∀ (n : Nat) (x5 : Int32) (x6 : Int32), (L_X9_isSound_27 x1 G n x5 x6).bind K = some res → J p l e rm_X9_isSound s m args below meth c (Qint below args s w res) w 10 G 27 [(0, .ref (w.1 81)), (1, .int x1), (2, .int x2), (3, .int x3), (5, .int x5), (6, .int x6)] [] := by
  intro n
  induction n with
  | zero =>
    intro x5 x6 h
    rw [L_X9_isSound_27] at h
    cases h
  | succ n ih =>
    intro x5 x6 h
    rw [L_X9_isSound_27] at h
    refine j_iload X dX9_isSound_27 5 rfl ?_
    refine j_aload_n X dX9_isSound_29 rfl 0 rfl ?_
    refine j_getI (C := RX9) (T := TX9) (N := 22) X 81 s_81 rfl hin_X9 14 (by decide) rfl q_876 dX9_isSound_30 ?_
    refine j_icmp_ge X 129 dX9_isSound_33 (by decide) (fun c_2 => ?_) (fun c_2 => ?_)
    · have h := bi_t c_2 h
      refine j_pick [0, 1, 2, 3, 4] rfl ?_
      exact HK x5 h
    · have h := bi_f c_2 h
      refine j_aload_n X dX9_isSound_36 rfl 0 rfl ?_
      refine j_iload X dX9_isSound_37 5 rfl ?_
      obtain ⟨r_3, hr_3, h⟩ := bd_s h
      refine j_callVi (As := [.int x6]) X 81 s_81 rfl (c_X9_classOf l w G  x6 hr_3) rfl pn_X9_classOf q_1027 q_1029 q_47 q_68 q_1030 ⟨Nat.le_of_ble_eq_true rfl, Nat.le_of_ble_eq_true rfl⟩ (Nat.le_of_ble_eq_true rfl) rfl dX9_isSound_39 ?_
      refine j_istore X [(7, .int r_3), (0, .ref (w.1 81)), (1, .int x1), (2, .int x2), (3, .int x3), (5, .int x5), (6, .int x6)] dX9_isSound_42 (by decide) rfl ?_
      refine j_iconst (v := 0) X dX9_isSound_44 (by decide) ?_
      refine j_istore X [(8, .int 0), (7, .int r_3), (0, .ref (w.1 81)), (1, .int x1), (2, .int x2), (3, .int x3), (5, .int x5), (6, .int x6)] dX9_isSound_45 (by decide) rfl ?_
      refine j_iconst (v := 0) X dX9_isSound_47 (by decide) ?_
      refine j_istore X [(9, .int 0), (8, .int 0), (7, .int r_3), (0, .ref (w.1 81)), (1, .int x1), (2, .int x2), (3, .int x3), (5, .int x5), (6, .int x6)] dX9_isSound_48 (by decide) rfl ?_
      have h := bb_a h
      have Hv_8 : ∀ v_8 : Int32, (((if ((x1 >>> (x6 &&& 31)) &&& 1) = 0 then (if (v_8 &&& (x1 ^^^ (-1))) = 0 then some (1 <<< (x6 &&& 31)) else some 0) else some 0) : Option (Int32)).bind (fun (v_9 : Int32) => L_X9_isSound_27 x1 G n (x5 ||| v_9) (x6 + 1))).bind K = some res → J p l e rm_X9_isSound s m args below meth c (Qint below args s w res) w 10 G 92 [(0, .ref (w.1 81)), (1, .int x1), (2, .int x2), (3, .int x3), (5, .int x5), (6, .int x6), (8, .int v_8)] [] := by
        intro v_8 h
        refine j_iload X dX9_isSound_92 4 rfl ?_
        refine j_iload_n X dX9_isSound_94 rfl 1 rfl ?_
        refine j_iload X dX9_isSound_95 5 rfl ?_
        refine j_ishr X dX9_isSound_97 ?_
        refine j_iconst (v := 1) X dX9_isSound_98 (by decide) ?_
        refine j_iand X dX9_isSound_99 ?_
        have h := bb_a h
        have Hv_9 : ∀ v_9 : Int32, (L_X9_isSound_27 x1 G n (x5 ||| v_9) (x6 + 1)).bind K = some res → J p l e rm_X9_isSound s m args below meth c (Qint below args s w res) w 10 G 120 [(0, .ref (w.1 81)), (1, .int x1), (2, .int x2), (3, .int x3), (6, .int x6)] [.int v_9, .int x5] := by
          intro v_9 h
          refine j_ior X dX9_isSound_120 ?_
          refine j_istore X [(5, .int (x5 ||| v_9)), (0, .ref (w.1 81)), (1, .int x1), (2, .int x2), (3, .int x3), (6, .int x6)] dX9_isSound_121 (by decide) rfl ?_
          refine j_iinc (v := x6 + 1) X [(6, .int (x6 + 1)), (5, .int (x5 ||| v_9)), (0, .ref (w.1 81)), (1, .int x1), (2, .int x2), (3, .int x3)] dX9_isSound_123 5 rfl rfl (by decide) rfl ?_
          refine j_goto X 27 dX9_isSound_126 (by decide) ?_
          refine j_pick [2, 3, 4, 5, 1, 0] rfl ?_
          exact ih (x5 ||| v_9) (x6 + 1) h
        refine j_if_ne X 119 dX9_isSound_100 (by decide) (fun c_10 => ?_) (fun c_10 => ?_)
        · have h := bi_f c_10 h
          refine j_iconst (v := 0) X dX9_isSound_119 (by decide) ?_
          refine j_pick [0, 1, 2, 3, 5] rfl ?_
          exact Hv_9 0 h
        · have h := bi_t c_10 h
          refine j_iload X dX9_isSound_103 6 rfl ?_
          refine j_iload_n X dX9_isSound_105 rfl 1 rfl ?_
          refine j_iconst (v := (-1)) X dX9_isSound_106 (by decide) ?_
          refine j_ixor X dX9_isSound_107 ?_
          refine j_iand X dX9_isSound_108 ?_
          refine j_if_ne X 119 dX9_isSound_109 (by decide) (fun c_11 => ?_) (fun c_11 => ?_)
          · have h := bi_f c_11 h
            refine j_iconst (v := 0) X dX9_isSound_119 (by decide) ?_
            refine j_pick [0, 1, 2, 3, 5] rfl ?_
            exact Hv_9 0 h
          · have h := bi_t c_11 h
            refine j_iconst (v := 1) X dX9_isSound_112 (by decide) ?_
            refine j_iload X dX9_isSound_113 5 rfl ?_
            refine j_ishl X dX9_isSound_115 ?_
            refine j_goto X 120 dX9_isSound_116 (by decide) ?_
            refine j_pick [0, 1, 2, 3, 5] rfl ?_
            exact Hv_9 (1 <<< (x6 &&& 31)) h
      refine j_pick [3, 4, 5, 6, 7, 8, 2, 1, 0] rfl ?_
      exact jL_X9_isSound_50 X hr hk Hv_8 NF 0 0 h
set_option maxRecDepth 100000 in
set_option maxHeartbeats 4000000 in
theorem jL_X9_isSound_132 {p : Program} {l : Launch} {e : Env} {s : State} {m : MethodId} {args : Array Value} {below : List Frame} {meth : Method} {c : Code} {w : WP} (X : fw_X p s m args c cX9_isSound 10 RX9 w) (hr : meth.sig.returnType = (some .boolean)) (hk : meth.locks = false) {x1 : Int32} {x2 : Int32} {x3 : Int32} {x5 : Int32} {res : Int32 × Mem} {K : Mem → Option (Int32 × Mem)} (HK : ∀ v : Mem, K v = some res → J p l e rm_X9_isSound s m args below meth c (Qint below args s w res) w 10 v 176 [(0, .ref (w.1 81)), (1, .int x1), (2, .int x2), (3, .int x3), (5, .int x5)] []) : ∀ (n : Nat) (x6 : Int32) (G : Mem), (L_X9_isSound_132 x2 x5 n x6 G).bind K = some res → J p l e rm_X9_isSound s m args below meth c (Qint below args s w res) w 10 G 132 [(0, .ref (w.1 81)), (1, .int x1), (2, .int x2), (3, .int x3), (5, .int x5), (6, .int x6)] [] := by
  intro n
  induction n with
  | zero =>
    intro x6 G h
    rw [L_X9_isSound_132] at h
    cases h
  | succ n ih =>
    intro x6 G h
    rw [L_X9_isSound_132] at h
    refine j_iload X dX9_isSound_132 5 rfl ?_
    refine j_aload_n X dX9_isSound_134 rfl 0 rfl ?_
    refine j_getI (C := RX9) (T := TX9) (N := 22) X 81 s_81 rfl hin_X9 14 (by decide) rfl q_876 dX9_isSound_135 ?_
    refine j_icmp_ge X 176 dX9_isSound_138 (by decide) (fun c_13 => ?_) (fun c_13 => ?_)
    · have h := bi_t c_13 h
      refine j_pick [0, 1, 2, 3, 4] rfl ?_
      exact HK G h
    · have h := bi_f c_13 h
      refine j_aload_n X dX9_isSound_141 rfl 0 rfl ?_
      refine j_getR (C := RX9) (T := TX9) (N := 22) X 81 s_81 rfl hin_X9 17 (by decide) 93 rfl q_879 dX9_isSound_142 ?_
      refine j_iload X dX9_isSound_145 5 rfl ?_
      refine j_iload X dX9_isSound_147 4 rfl ?_
      refine j_iload X dX9_isSound_149 5 rfl ?_
      refine j_ishr X dX9_isSound_151 ?_
      refine j_iconst (v := 1) X dX9_isSound_152 (by decide) ?_
      refine j_iand X dX9_isSound_153 ?_
      refine j_iconst (v := 1) X dX9_isSound_154 (by decide) ?_
      have h := bb_a h
      have Hv_14 : ∀ v_14 : Int32, ((ast 17 G 93 x6 v_14).bind (fun q_15 => L_X9_isSound_132 x2 x5 n (x6 + 1) q_15)).bind K = some res → J p l e rm_X9_isSound s m args below meth c (Qint below args s w res) w 10 G 169 [(0, .ref (w.1 81)), (1, .int x1), (2, .int x2), (3, .int x3), (5, .int x5), (6, .int x6)] [.int v_14, .int x6, .ref (w.1 93)] := by
        intro v_14 h
        obtain ⟨q_15, hq_15, h⟩ := bd_s h
        refine j_iast X 93 17 s_93 hq_15 dX9_isSound_169 ?_
        refine j_iinc (v := x6 + 1) X [(6, .int (x6 + 1)), (0, .ref (w.1 81)), (1, .int x1), (2, .int x2), (3, .int x3), (5, .int x5)] dX9_isSound_170 5 rfl rfl (by decide) rfl ?_
        refine j_goto X 132 dX9_isSound_173 (by decide) ?_
        refine j_pick [1, 2, 3, 4, 5, 0] rfl ?_
        exact ih (x6 + 1) q_15 h
      refine j_icmp_ne X 162 dX9_isSound_155 (by decide) (fun c_16 => ?_) (fun c_16 => ?_)
      · have h := bi_f c_16 h
        refine j_aload_n X dX9_isSound_162 rfl 0 rfl ?_
        refine j_getR (C := RX9) (T := TX9) (N := 22) X 81 s_81 rfl hin_X9 17 (by decide) 93 rfl q_879 dX9_isSound_163 ?_
        refine j_iload X dX9_isSound_166 5 rfl ?_
        obtain ⟨r_17, hr_17, h⟩ := bd_s h
        refine j_iald X 93 17 s_93 hr_17 dX9_isSound_168 ?_
        refine j_pick [0, 1, 2, 3, 4, 5] rfl ?_
        exact Hv_14 r_17 h
      · have h := bi_t c_16 h
        refine j_iload_n X dX9_isSound_158 rfl 2 rfl ?_
        refine j_goto X 169 dX9_isSound_159 (by decide) ?_
        refine j_pick [0, 1, 2, 3, 4, 5] rfl ?_
        exact Hv_14 x2 h
set_option maxRecDepth 100000 in
set_option maxHeartbeats 4000000 in
theorem jL_X9_isSound_16 {p : Program} {l : Launch} {e : Env} {s : State} {m : MethodId} {args : Array Value} {below : List Frame} {meth : Method} {c : Code} {w : WP} (X : fw_X p s m args c cX9_isSound 10 RX9 w) (hr : meth.sig.returnType = (some .boolean)) (hk : meth.locks = false) {x3 : Int32} {res : Int32 × Mem} {K : Int32 × Mem → Option (Int32 × Mem)} (HK : ∀ v : Int32 × Mem, K v = some res → J p l e rm_X9_isSound s m args below meth c (Qint below args s w res) w 10 v.2 204 [(1, .int v.1), (3, .int x3)] []) : ∀ (n : Nat) (x1 : Int32) (x2 : Int32) (x4 : Int32) (G : Mem), (L_X9_isSound_16 x3 n x1 x2 x4 G).bind K = some res → J p l e rm_X9_isSound s m args below meth c (Qint below args s w res) w 10 G 16 [(0, .ref (w.1 81)), (1, .int x1), (2, .int x2), (3, .int x3), (4, .int x4)] [] := by
  intro n
  induction n with
  | zero =>
    intro x1 x2 x4 G h
    rw [L_X9_isSound_16] at h
    cases h
  | succ n ih =>
    intro x1 x2 x4 G h
    rw [L_X9_isSound_16] at h
    refine j_iload X dX9_isSound_16 4 rfl ?_
    refine j_if_eq X 204 dX9_isSound_18 (by decide) (fun c_1 => ?_) (fun c_1 => ?_)
    · have h := bi_t c_1 h
      refine j_pick [1, 3] rfl ?_
      exact HK (x1, G) h
    · have h := bi_f c_1 h
      refine j_iconst (v := 0) X dX9_isSound_21 (by decide) ?_
      refine j_istore X [(5, .int 0), (0, .ref (w.1 81)), (1, .int x1), (2, .int x2), (3, .int x3), (4, .int x4)] dX9_isSound_22 (by decide) rfl ?_
      refine j_iconst (v := 0) X dX9_isSound_24 (by decide) ?_
      refine j_istore X [(6, .int 0), (5, .int 0), (0, .ref (w.1 81)), (1, .int x1), (2, .int x2), (3, .int x3), (4, .int x4)] dX9_isSound_25 (by decide) rfl ?_
      have h := bb_a h
      have Hv_12 : ∀ v_12 : Int32, ((L_X9_isSound_132 x2 v_12 NF 0 G).bind (fun v_18 => ((if v_12 = 0 then some 0 else (if (x1 ||| v_12) = x3 then some 0 else some 1)) : Option (Int32)).bind (fun (v_19 : Int32) => L_X9_isSound_16 x3 n (x1 ||| v_12) (x2 + 1) v_19 v_18))).bind K = some res → J p l e rm_X9_isSound s m args below meth c (Qint below args s w res) w 10 G 129 [(0, .ref (w.1 81)), (1, .int x1), (2, .int x2), (3, .int x3), (5, .int v_12)] [] := by
        intro v_12 h
        refine j_iconst (v := 0) X dX9_isSound_129 (by decide) ?_
        refine j_istore X [(6, .int 0), (0, .ref (w.1 81)), (1, .int x1), (2, .int x2), (3, .int x3), (5, .int v_12)] dX9_isSound_130 (by decide) rfl ?_
        have h := bb_a h
        have Hv_18 : ∀ v_18 : Mem, (((if v_12 = 0 then some 0 else (if (x1 ||| v_12) = x3 then some 0 else some 1)) : Option (Int32)).bind (fun (v_19 : Int32) => L_X9_isSound_16 x3 n (x1 ||| v_12) (x2 + 1) v_19 v_18)).bind K = some res → J p l e rm_X9_isSound s m args below meth c (Qint below args s w res) w 10 v_18 176 [(0, .ref (w.1 81)), (1, .int x1), (2, .int x2), (3, .int x3), (5, .int v_12)] [] := by
          intro v_18 h
          refine j_iload_n X dX9_isSound_176 rfl 1 rfl ?_
          refine j_iload X dX9_isSound_177 4 rfl ?_
          refine j_ior X dX9_isSound_179 ?_
          refine j_istore_n X [(1, .int (x1 ||| v_12)), (0, .ref (w.1 81)), (2, .int x2), (3, .int x3), (5, .int v_12)] dX9_isSound_180 rfl (by decide) rfl ?_
          refine j_iinc (v := x2 + 1) X [(2, .int (x2 + 1)), (1, .int (x1 ||| v_12)), (0, .ref (w.1 81)), (3, .int x3), (5, .int v_12)] dX9_isSound_181 2 rfl rfl (by decide) rfl ?_
          refine j_iload X dX9_isSound_184 4 rfl ?_
          have h := bb_a h
          have Hv_19 : ∀ v_19 : Int32, (L_X9_isSound_16 x3 n (x1 ||| v_12) (x2 + 1) v_19 v_18).bind K = some res → J p l e rm_X9_isSound s m args below meth c (Qint below args s w res) w 10 v_18 199 [(0, .ref (w.1 81)), (1, .int (x1 ||| v_12)), (2, .int (x2 + 1)), (3, .int x3)] [.int v_19] := by
            intro v_19 h
            refine j_istore X [(4, .int v_19), (0, .ref (w.1 81)), (1, .int (x1 ||| v_12)), (2, .int (x2 + 1)), (3, .int x3)] dX9_isSound_199 (by decide) rfl ?_
            refine j_goto X 16 dX9_isSound_201 (by decide) ?_
            refine j_pick [1, 2, 3, 4, 0] rfl ?_
            exact ih (x1 ||| v_12) (x2 + 1) v_19 v_18 h
          refine j_if_eq X 198 dX9_isSound_186 (by decide) (fun c_20 => ?_) (fun c_20 => ?_)
          · have h := bi_t c_20 h
            refine j_iconst (v := 0) X dX9_isSound_198 (by decide) ?_
            refine j_pick [2, 1, 0, 3] rfl ?_
            exact Hv_19 0 h
          · have h := bi_f c_20 h
            refine j_iload_n X dX9_isSound_189 rfl 1 rfl ?_
            refine j_iload_n X dX9_isSound_190 rfl 3 rfl ?_
            refine j_icmp_eq X 198 dX9_isSound_191 (by decide) (fun c_21 => ?_) (fun c_21 => ?_)
            · have h := bi_t c_21 h
              refine j_iconst (v := 0) X dX9_isSound_198 (by decide) ?_
              refine j_pick [2, 1, 0, 3] rfl ?_
              exact Hv_19 0 h
            · have h := bi_f c_21 h
              refine j_iconst (v := 1) X dX9_isSound_194 (by decide) ?_
              refine j_goto X 199 dX9_isSound_195 (by decide) ?_
              refine j_pick [2, 1, 0, 3] rfl ?_
              exact Hv_19 1 h
        refine j_pick [1, 2, 3, 4, 5, 0] rfl ?_
        exact jL_X9_isSound_132 X hr hk Hv_18 NF 0 G h
      refine j_pick [2, 3, 4, 5, 1, 0] rfl ?_
      exact jL_X9_isSound_27 X hr hk Hv_12 NF 0 0 h
set_option maxRecDepth 100000 in
set_option maxHeartbeats 4000000 in
theorem c_X9_isSound (l : Launch) (w : WP) (G : Mem) {res : Int32 × Mem} (h0 : m_X9_isSound G = some res) : CMi l yX9_isSound cX9_isSound 10 (some .boolean) 1 23 w [.ref (w.1 81)] G res := by
  refine CMi.of (by decide +kernel) (Nat.le_of_ble_eq_true rfl) ?_
  intro p e s m args below meth c X hr hk
  have h := bs_i h0
  unfold m_X9_isSound at h
  show J p l e rm_X9_isSound s m args below meth c (Qint below args s w res) w 10 G 0 [(0, .ref (w.1 81))] []
  refine j_iconst (v := 0) X dX9_isSound_0 (by decide) ?_
  refine j_istore_n X [(1, .int 0), (0, .ref (w.1 81))] dX9_isSound_1 rfl (by decide) rfl ?_
  refine j_iconst (v := 0) X dX9_isSound_2 (by decide) ?_
  refine j_istore_n X [(2, .int 0), (1, .int 0), (0, .ref (w.1 81))] dX9_isSound_3 rfl (by decide) rfl ?_
  refine j_iconst (v := 1) X dX9_isSound_4 (by decide) ?_
  refine j_aload_n X dX9_isSound_5 rfl 2 rfl ?_
  refine j_getI (C := RX9) (T := TX9) (N := 22) X 81 s_81 rfl hin_X9 14 (by decide) rfl q_876 dX9_isSound_6 ?_
  refine j_ishl X dX9_isSound_9 ?_
  refine j_iconst (v := 1) X dX9_isSound_10 (by decide) ?_
  refine j_isub X dX9_isSound_11 ?_
  refine j_istore_n X [(3, .int ((1 <<< ((G 81 14) &&& 31)) - 1)), (2, .int 0), (1, .int 0), (0, .ref (w.1 81))] dX9_isSound_12 rfl (by decide) rfl ?_
  refine j_iconst (v := 1) X dX9_isSound_13 (by decide) ?_
  refine j_istore X [(4, .int 1), (3, .int ((1 <<< ((G 81 14) &&& 31)) - 1)), (2, .int 0), (1, .int 0), (0, .ref (w.1 81))] dX9_isSound_14 (by decide) rfl ?_
  have h := bb_a h
  have Hv_22 : ∀ v_22 : Int32 × Mem, ((if v_22.1 = ((1 <<< ((G 81 14) &&& 31)) - 1) then some (1, v_22.2) else some (0, v_22.2))).bind some = some res → J p l e rm_X9_isSound s m args below meth c (Qint below args s w res) w 10 v_22.2 204 [(1, .int v_22.1), (3, .int ((1 <<< ((G 81 14) &&& 31)) - 1))] [] := by
    intro v_22 h
    refine j_iload_n X dX9_isSound_204 rfl 0 rfl ?_
    refine j_iload_n X dX9_isSound_205 rfl 1 rfl ?_
    refine j_icmp_ne X 213 dX9_isSound_206 (by decide) (fun c_23 => ?_) (fun c_23 => ?_)
    · have h := bi_f c_23 h
      refine j_iconst (v := 0) X dX9_isSound_213 (by decide) ?_
      exact j_zret X hr hk (by decide) dX9_isSound_214 (Option.some.inj h)
    · have h := bi_t c_23 h
      refine j_iconst (v := 1) X dX9_isSound_209 (by decide) ?_
      refine j_goto X 214 dX9_isSound_210 (by decide) ?_
      exact j_zret X hr hk (by decide) dX9_isSound_214 (Option.some.inj h)
  refine j_pick [4, 3, 2, 1, 0] rfl ?_
  exact jL_X9_isSound_16 X hr hk Hv_22 NF 0 0 1 G h
abbrev rm_X9_laysBelow : Room := { frames := 1, cells := 0, slots := 0, locals := 23 }
theorem pn_X9_laysBelow : yX9_laysBelow.cls ≠ "java/lang/invoke/MethodHandle" ∧ yX9_laysBelow.cls ≠ "java/lang/invoke/VarHandle" ∧ (parseMethodDescriptor yX9_laysBelow.desc).map (fun d => d.parameters.length) = some 0 := by decide +kernel
def L_X9_laysBelow_2 : Nat → Int32 → Mem → Option (Mem)
  | 0, _, _ => none
  | n + 1, x1, G => (if (G 81 14) ≤ x1 then some G else (ast 17 G 94 x1 0).bind (fun q_2 => L_X9_laysBelow_2  n (x1 + 1) q_2))
def L_X9_laysBelow_74 (x2 : Int32) (x3 : Int32) (x4 : Int32) : Nat → Int32 → Mem → Option (Mem)
  | 0, _, _ => none
  | n + 1, x5, G => (if (G 81 14) ≤ x5 then some G else ((if ((x3 >>> (x4 &&& 31)) &&& 1) = 1 then (ald 17 G 92 x4).bind (fun r_20 => (if ((r_20 >>> (x5 &&& 31)) &&& 1) = 1 then some 1 else some 0)) else some 0) : Option (Int32)).bind (fun (v_12 : Int32) => (ald 17 G 94 x2).bind (fun r_13 => ((if v_12 = 0 then some (0, r_13) else (m_X9_classOf G x5).bind (fun r_17 => (ald 17 G 94 x5).bind (fun r_18 => some (r_17 ||| r_18, r_13)))) : Option (Int32 × Int32)).bind (fun (v_14 : Int32 × Int32) => (ast 17 G 94 x2 (v_14.2 ||| v_14.1)).bind (fun q_15 => L_X9_laysBelow_74 x2 x3 x4 n (x5 + 1) q_15)))))
def L_X9_laysBelow_62 (x2 : Int32) (x3 : Int32) : Nat → Int32 → Mem → Option (Mem)
  | 0, _, _ => none
  | n + 1, x4, G => (if (G 81 14) ≤ x4 then some G else (L_X9_laysBelow_74 x2 x3 x4 NF 0 G).bind (fun v_22 => L_X9_laysBelow_62 x2 x3 n (x4 + 1) v_22))
def L_X9_laysBelow_35 (x1 : Int32) : Nat → Int32 → Mem → Option (Mem)
  | 0, _, _ => none
  | n + 1, x2, G => (if (G 81 14) ≤ x2 then some G else (ald 17 G 93 x2).bind (fun r_6 => ((if r_6 = x1 then (m_X9_classOf G x2).bind (fun r_9 => (L_X9_laysBelow_62 x2 r_9 NF 0 G).bind (fun v_23 => some v_23)) else some G) : Option (Mem)).bind (fun (v_7 : Mem) => L_X9_laysBelow_35 x1 n (x2 + 1) v_7)))
def L_X9_laysBelow_25 : Nat → Int32 → Mem → Option (Mem)
  | 0, _, _ => none
  | n + 1, x1, G => (if (G 81 14) ≤ x1 then some G else (L_X9_laysBelow_35 x1 NF 0 G).bind (fun v_24 => L_X9_laysBelow_25  n (x1 + 1) v_24))
def m_X9_laysBelow (G : Mem) : Option (Mem) := (L_X9_laysBelow_2  NF 0 G).bind (fun v_3 => (L_X9_laysBelow_25  NF 0 v_3).bind (fun v_25 => some v_25))
set_option maxRecDepth 100000 in
set_option maxHeartbeats 4000000 in
theorem jL_X9_laysBelow_2 {p : Program} {l : Launch} {e : Env} {s : State} {m : MethodId} {args : Array Value} {below : List Frame} {meth : Method} {c : Code} {w : WP} (X : fw_X p s m args c cX9_laysBelow 7 RX9 w) (hr : meth.sig.returnType = none) (hk : meth.locks = false) {res : Mem} {K : Mem → Option (Mem)} (HK : ∀ v : Mem, K v = some res → J p l e rm_X9_laysBelow s m args below meth c (Qvoid below args s w res) w 7 v 23 [(0, .ref (w.1 81))] []) : ∀ (n : Nat) (x1 : Int32) (G : Mem), (L_X9_laysBelow_2  n x1 G).bind K = some res → J p l e rm_X9_laysBelow s m args below meth c (Qvoid below args s w res) w 7 G 2 [(0, .ref (w.1 81)), (1, .int x1)] [] := by
  intro n
  induction n with
  | zero =>
    intro x1 G h
    rw [L_X9_laysBelow_2] at h
    cases h
  | succ n ih =>
    intro x1 G h
    rw [L_X9_laysBelow_2] at h
    refine j_iload_n X dX9_laysBelow_2 rfl 1 rfl ?_
    refine j_aload_n X dX9_laysBelow_3 rfl 0 rfl ?_
    refine j_getI (C := RX9) (T := TX9) (N := 22) X 81 s_81 rfl hin_X9 14 (by decide) rfl q_876 dX9_laysBelow_4 ?_
    refine j_icmp_ge X 23 dX9_laysBelow_7 (by decide) (fun c_1 => ?_) (fun c_1 => ?_)
    · have h := bi_t c_1 h
      refine j_pick [0] rfl ?_
      exact HK G h
    · have h := bi_f c_1 h
      refine j_aload_n X dX9_laysBelow_10 rfl 0 rfl ?_
      refine j_getR (C := RX9) (T := TX9) (N := 22) X 81 s_81 rfl hin_X9 18 (by decide) 94 rfl q_880 dX9_laysBelow_11 ?_
      refine j_iload_n X dX9_laysBelow_14 rfl 1 rfl ?_
      refine j_iconst (v := 0) X dX9_laysBelow_15 (by decide) ?_
      obtain ⟨q_2, hq_2, h⟩ := bd_s h
      refine j_iast X 94 17 s_94 hq_2 dX9_laysBelow_16 ?_
      refine j_iinc (v := x1 + 1) X [(1, .int (x1 + 1)), (0, .ref (w.1 81))] dX9_laysBelow_17 1 rfl rfl (by decide) rfl ?_
      refine j_goto X 2 dX9_laysBelow_20 (by decide) ?_
      refine j_pick [1, 0] rfl ?_
      exact ih (x1 + 1) q_2 h
set_option maxRecDepth 100000 in
set_option maxHeartbeats 4000000 in
theorem jL_X9_laysBelow_74 {p : Program} {l : Launch} {e : Env} {s : State} {m : MethodId} {args : Array Value} {below : List Frame} {meth : Method} {c : Code} {w : WP} (X : fw_X p s m args c cX9_laysBelow 7 RX9 w) (hr : meth.sig.returnType = none) (hk : meth.locks = false) {x1 : Int32} {x2 : Int32} {x3 : Int32} {x4 : Int32} {res : Mem} {K : Mem → Option (Mem)} (HK : ∀ v : Mem, K v = some res → J p l e rm_X9_laysBelow s m args below meth c (Qvoid below args s w res) w 7 v 154 [(0, .ref (w.1 81)), (1, .int x1), (2, .int x2), (3, .int x3), (4, .int x4)] []) : ∀ (n : Nat) (x5 : Int32) (G : Mem), (L_X9_laysBelow_74 x2 x3 x4 n x5 G).bind K = some res → J p l e rm_X9_laysBelow s m args below meth c (Qvoid below args s w res) w 7 G 74 [(0, .ref (w.1 81)), (1, .int x1), (2, .int x2), (3, .int x3), (4, .int x4), (5, .int x5)] [] := by
  intro n
  induction n with
  | zero =>
    intro x5 G h
    rw [L_X9_laysBelow_74] at h
    cases h
  | succ n ih =>
    intro x5 G h
    rw [L_X9_laysBelow_74] at h
    refine j_iload X dX9_laysBelow_74 5 rfl ?_
    refine j_aload_n X dX9_laysBelow_76 rfl 0 rfl ?_
    refine j_getI (C := RX9) (T := TX9) (N := 22) X 81 s_81 rfl hin_X9 14 (by decide) rfl q_876 dX9_laysBelow_77 ?_
    refine j_icmp_ge X 154 dX9_laysBelow_80 (by decide) (fun c_11 => ?_) (fun c_11 => ?_)
    · have h := bi_t c_11 h
      refine j_pick [0, 1, 2, 3, 4] rfl ?_
      exact HK G h
    · have h := bi_f c_11 h
      refine j_iload_n X dX9_laysBelow_83 rfl 3 rfl ?_
      refine j_iload X dX9_laysBelow_84 4 rfl ?_
      refine j_ishr X dX9_laysBelow_86 ?_
      refine j_iconst (v := 1) X dX9_laysBelow_87 (by decide) ?_
      refine j_iand X dX9_laysBelow_88 ?_
      refine j_iconst (v := 1) X dX9_laysBelow_89 (by decide) ?_
      have h := bb_a h
      have Hv_12 : ∀ v_12 : Int32, ((ald 17 G 94 x2).bind (fun r_13 => ((if v_12 = 0 then some (0, r_13) else (m_X9_classOf G x5).bind (fun r_17 => (ald 17 G 94 x5).bind (fun r_18 => some (r_17 ||| r_18, r_13)))) : Option (Int32 × Int32)).bind (fun (v_14 : Int32 × Int32) => (ast 17 G 94 x2 (v_14.2 ||| v_14.1)).bind (fun q_15 => L_X9_laysBelow_74 x2 x3 x4 n (x5 + 1) q_15)))).bind K = some res → J p l e rm_X9_laysBelow s m args below meth c (Qvoid below args s w res) w 7 G 114 [(0, .ref (w.1 81)), (1, .int x1), (2, .int x2), (3, .int x3), (4, .int x4), (5, .int x5)] [.int v_12] := by
        intro v_12 h
        refine j_istore X [(6, .int v_12), (0, .ref (w.1 81)), (1, .int x1), (2, .int x2), (3, .int x3), (4, .int x4), (5, .int x5)] dX9_laysBelow_114 (by decide) rfl ?_
        refine j_aload_n X dX9_laysBelow_116 rfl 1 rfl ?_
        refine j_getR (C := RX9) (T := TX9) (N := 22) X 81 s_81 rfl hin_X9 18 (by decide) 94 rfl q_880 dX9_laysBelow_117 ?_
        refine j_iload_n X dX9_laysBelow_120 rfl 3 rfl ?_
        refine j_dup2 X dX9_laysBelow_121 rfl rfl ?_
        obtain ⟨r_13, hr_13, h⟩ := bd_s h
        refine j_iald X 94 17 s_94 hr_13 dX9_laysBelow_122 ?_
        refine j_iload X dX9_laysBelow_123 0 rfl ?_
        have h := bb_a h
        have Hv_14 : ∀ v_14 : Int32 × Int32, ((ast 17 G 94 x2 (v_14.2 ||| v_14.1)).bind (fun q_15 => L_X9_laysBelow_74 x2 x3 x4 n (x5 + 1) q_15)).bind K = some res → J p l e rm_X9_laysBelow s m args below meth c (Qvoid below args s w res) w 7 G 146 [(0, .ref (w.1 81)), (1, .int x1), (2, .int x2), (3, .int x3), (4, .int x4), (5, .int x5)] [.int v_14.1, .int v_14.2, .int x2, .ref (w.1 94)] := by
          intro v_14 h
          refine j_ior X dX9_laysBelow_146 ?_
          obtain ⟨q_15, hq_15, h⟩ := bd_s h
          refine j_iast X 94 17 s_94 hq_15 dX9_laysBelow_147 ?_
          refine j_iinc (v := x5 + 1) X [(5, .int (x5 + 1)), (0, .ref (w.1 81)), (1, .int x1), (2, .int x2), (3, .int x3), (4, .int x4)] dX9_laysBelow_148 5 rfl rfl (by decide) rfl ?_
          refine j_goto X 74 dX9_laysBelow_151 (by decide) ?_
          refine j_pick [1, 2, 3, 4, 5, 0] rfl ?_
          exact ih (x5 + 1) q_15 h
        refine j_if_eq X 145 dX9_laysBelow_125 (by decide) (fun c_16 => ?_) (fun c_16 => ?_)
        · have h := bi_t c_16 h
          refine j_iconst (v := 0) X dX9_laysBelow_145 (by decide) ?_
          refine j_pick [1, 2, 3, 4, 5, 6] rfl ?_
          exact Hv_14 (0, r_13) h
        · have h := bi_f c_16 h
          refine j_aload_n X dX9_laysBelow_128 rfl 1 rfl ?_
          refine j_iload X dX9_laysBelow_129 6 rfl ?_
          obtain ⟨r_17, hr_17, h⟩ := bd_s h
          refine j_callVi (As := [.int x5]) X 81 s_81 rfl (c_X9_classOf l w G  x5 hr_17) rfl pn_X9_classOf q_1027 q_1029 q_47 q_68 q_1030 ⟨Nat.le_of_ble_eq_true rfl, Nat.le_of_ble_eq_true rfl⟩ (Nat.le_of_ble_eq_true rfl) rfl dX9_laysBelow_131 ?_
          refine j_aload_n X dX9_laysBelow_134 rfl 1 rfl ?_
          refine j_getR (C := RX9) (T := TX9) (N := 22) X 81 s_81 rfl hin_X9 18 (by decide) 94 rfl q_880 dX9_laysBelow_135 ?_
          refine j_iload X dX9_laysBelow_138 6 rfl ?_
          obtain ⟨r_18, hr_18, h⟩ := bd_s h
          refine j_iald X 94 17 s_94 hr_18 dX9_laysBelow_140 ?_
          refine j_ior X dX9_laysBelow_141 ?_
          refine j_goto X 146 dX9_laysBelow_142 (by decide) ?_
          refine j_pick [1, 2, 3, 4, 5, 6] rfl ?_
          exact Hv_14 (r_17 ||| r_18, r_13) h
      refine j_icmp_ne X 113 dX9_laysBelow_90 (by decide) (fun c_19 => ?_) (fun c_19 => ?_)
      · have h := bi_f c_19 h
        refine j_iconst (v := 0) X dX9_laysBelow_113 (by decide) ?_
        refine j_pick [0, 1, 2, 3, 4, 5] rfl ?_
        exact Hv_12 0 h
      · have h := bi_t c_19 h
        refine j_aload_n X dX9_laysBelow_93 rfl 0 rfl ?_
        refine j_getR (C := RX9) (T := TX9) (N := 22) X 81 s_81 rfl hin_X9 16 (by decide) 92 rfl q_878 dX9_laysBelow_94 ?_
        refine j_iload X dX9_laysBelow_97 4 rfl ?_
        obtain ⟨r_20, hr_20, h⟩ := bd_s h
        refine j_iald X 92 17 s_92 hr_20 dX9_laysBelow_99 ?_
        refine j_iload X dX9_laysBelow_100 5 rfl ?_
        refine j_ishr X dX9_laysBelow_102 ?_
        refine j_iconst (v := 1) X dX9_laysBelow_103 (by decide) ?_
        refine j_iand X dX9_laysBelow_104 ?_
        refine j_iconst (v := 1) X dX9_laysBelow_105 (by decide) ?_
        refine j_icmp_ne X 113 dX9_laysBelow_106 (by decide) (fun c_21 => ?_) (fun c_21 => ?_)
        · have h := bi_f c_21 h
          refine j_iconst (v := 0) X dX9_laysBelow_113 (by decide) ?_
          refine j_pick [0, 1, 2, 3, 4, 5] rfl ?_
          exact Hv_12 0 h
        · have h := bi_t c_21 h
          refine j_iconst (v := 1) X dX9_laysBelow_109 (by decide) ?_
          refine j_goto X 114 dX9_laysBelow_110 (by decide) ?_
          refine j_pick [0, 1, 2, 3, 4, 5] rfl ?_
          exact Hv_12 1 h
set_option maxRecDepth 100000 in
set_option maxHeartbeats 4000000 in
theorem jL_X9_laysBelow_62 {p : Program} {l : Launch} {e : Env} {s : State} {m : MethodId} {args : Array Value} {below : List Frame} {meth : Method} {c : Code} {w : WP} (X : fw_X p s m args c cX9_laysBelow 7 RX9 w) (hr : meth.sig.returnType = none) (hk : meth.locks = false) {x1 : Int32} {x2 : Int32} {x3 : Int32} {res : Mem} {K : Mem → Option (Mem)} (HK : ∀ v : Mem, K v = some res → J p l e rm_X9_laysBelow s m args below meth c (Qvoid below args s w res) w 7 v 160 [(0, .ref (w.1 81)), (1, .int x1), (2, .int x2)] []) : ∀ (n : Nat) (x4 : Int32) (G : Mem), (L_X9_laysBelow_62 x2 x3 n x4 G).bind K = some res → J p l e rm_X9_laysBelow s m args below meth c (Qvoid below args s w res) w 7 G 62 [(0, .ref (w.1 81)), (1, .int x1), (2, .int x2), (3, .int x3), (4, .int x4)] [] := by
  intro n
  induction n with
  | zero =>
    intro x4 G h
    rw [L_X9_laysBelow_62] at h
    cases h
  | succ n ih =>
    intro x4 G h
    rw [L_X9_laysBelow_62] at h
    refine j_iload X dX9_laysBelow_62 4 rfl ?_
    refine j_aload_n X dX9_laysBelow_64 rfl 0 rfl ?_
    refine j_getI (C := RX9) (T := TX9) (N := 22) X 81 s_81 rfl hin_X9 14 (by decide) rfl q_876 dX9_laysBelow_65 ?_
    refine j_icmp_ge X 160 dX9_laysBelow_68 (by decide) (fun c_10 => ?_) (fun c_10 => ?_)
    · have h := bi_t c_10 h
      refine j_pick [0, 1, 2] rfl ?_
      exact HK G h
    · have h := bi_f c_10 h
      refine j_iconst (v := 0) X dX9_laysBelow_71 (by decide) ?_
      refine j_istore X [(5, .int 0), (0, .ref (w.1 81)), (1, .int x1), (2, .int x2), (3, .int x3), (4, .int x4)] dX9_laysBelow_72 (by decide) rfl ?_
      have h := bb_a h
      have Hv_22 : ∀ v_22 : Mem, (L_X9_laysBelow_62 x2 x3 n (x4 + 1) v_22).bind K = some res → J p l e rm_X9_laysBelow s m args below meth c (Qvoid below args s w res) w 7 v_22 154 [(0, .ref (w.1 81)), (1, .int x1), (2, .int x2), (3, .int x3), (4, .int x4)] [] := by
        intro v_22 h
        refine j_iinc (v := x4 + 1) X [(4, .int (x4 + 1)), (0, .ref (w.1 81)), (1, .int x1), (2, .int x2), (3, .int x3)] dX9_laysBelow_154 4 rfl rfl (by decide) rfl ?_
        refine j_goto X 62 dX9_laysBelow_157 (by decide) ?_
        refine j_pick [1, 2, 3, 4, 0] rfl ?_
        exact ih (x4 + 1) v_22 h
      refine j_pick [1, 2, 3, 4, 5, 0] rfl ?_
      exact jL_X9_laysBelow_74 X hr hk Hv_22 NF 0 G h
set_option maxRecDepth 100000 in
set_option maxHeartbeats 4000000 in
theorem jL_X9_laysBelow_35 {p : Program} {l : Launch} {e : Env} {s : State} {m : MethodId} {args : Array Value} {below : List Frame} {meth : Method} {c : Code} {w : WP} (X : fw_X p s m args c cX9_laysBelow 7 RX9 w) (hr : meth.sig.returnType = none) (hk : meth.locks = false) {x1 : Int32} {res : Mem} {K : Mem → Option (Mem)} (HK : ∀ v : Mem, K v = some res → J p l e rm_X9_laysBelow s m args below meth c (Qvoid below args s w res) w 7 v 166 [(0, .ref (w.1 81)), (1, .int x1)] []) : ∀ (n : Nat) (x2 : Int32) (G : Mem), (L_X9_laysBelow_35 x1 n x2 G).bind K = some res → J p l e rm_X9_laysBelow s m args below meth c (Qvoid below args s w res) w 7 G 35 [(0, .ref (w.1 81)), (1, .int x1), (2, .int x2)] [] := by
  intro n
  induction n with
  | zero =>
    intro x2 G h
    rw [L_X9_laysBelow_35] at h
    cases h
  | succ n ih =>
    intro x2 G h
    rw [L_X9_laysBelow_35] at h
    refine j_iload_n X dX9_laysBelow_35 rfl 2 rfl ?_
    refine j_aload_n X dX9_laysBelow_36 rfl 0 rfl ?_
    refine j_getI (C := RX9) (T := TX9) (N := 22) X 81 s_81 rfl hin_X9 14 (by decide) rfl q_876 dX9_laysBelow_37 ?_
    refine j_icmp_ge X 166 dX9_laysBelow_40 (by decide) (fun c_5 => ?_) (fun c_5 => ?_)
    · have h := bi_t c_5 h
      refine j_pick [0, 1] rfl ?_
      exact HK G h
    · have h := bi_f c_5 h
      refine j_aload_n X dX9_laysBelow_43 rfl 0 rfl ?_
      refine j_getR (C := RX9) (T := TX9) (N := 22) X 81 s_81 rfl hin_X9 17 (by decide) 93 rfl q_879 dX9_laysBelow_44 ?_
      refine j_iload_n X dX9_laysBelow_47 rfl 2 rfl ?_
      obtain ⟨r_6, hr_6, h⟩ := bd_s h
      refine j_iald X 93 17 s_93 hr_6 dX9_laysBelow_48 ?_
      refine j_iload_n X dX9_laysBelow_49 rfl 1 rfl ?_
      have h := bb_a h
      have Hv_7 : ∀ v_7 : Mem, (L_X9_laysBelow_35 x1 n (x2 + 1) v_7).bind K = some res → J p l e rm_X9_laysBelow s m args below meth c (Qvoid below args s w res) w 7 v_7 160 [(0, .ref (w.1 81)), (1, .int x1), (2, .int x2)] [] := by
        intro v_7 h
        refine j_iinc (v := x2 + 1) X [(2, .int (x2 + 1)), (0, .ref (w.1 81)), (1, .int x1)] dX9_laysBelow_160 2 rfl rfl (by decide) rfl ?_
        refine j_goto X 35 dX9_laysBelow_163 (by decide) ?_
        refine j_pick [1, 2, 0] rfl ?_
        exact ih (x2 + 1) v_7 h
      refine j_icmp_ne X 160 dX9_laysBelow_50 (by decide) (fun c_8 => ?_) (fun c_8 => ?_)
      · have h := bi_f c_8 h
        refine j_pick [0, 1, 2] rfl ?_
        exact Hv_7 G h
      · have h := bi_t c_8 h
        refine j_aload_n X dX9_laysBelow_53 rfl 0 rfl ?_
        refine j_iload_n X dX9_laysBelow_54 rfl 2 rfl ?_
        obtain ⟨r_9, hr_9, h⟩ := bd_s h
        refine j_callVi (As := [.int x2]) X 81 s_81 rfl (c_X9_classOf l w G  x2 hr_9) rfl pn_X9_classOf q_1027 q_1029 q_47 q_68 q_1030 ⟨Nat.le_of_ble_eq_true rfl, Nat.le_of_ble_eq_true rfl⟩ (Nat.le_of_ble_eq_true rfl) rfl dX9_laysBelow_55 ?_
        refine j_istore_n X [(3, .int r_9), (0, .ref (w.1 81)), (1, .int x1), (2, .int x2)] dX9_laysBelow_58 rfl (by decide) rfl ?_
        refine j_iconst (v := 0) X dX9_laysBelow_59 (by decide) ?_
        refine j_istore X [(4, .int 0), (3, .int r_9), (0, .ref (w.1 81)), (1, .int x1), (2, .int x2)] dX9_laysBelow_60 (by decide) rfl ?_
        have h := bb_a h
        have Hv_23 : ∀ v_23 : Mem, (some v_23).bind (fun (v_7 : Mem) => (L_X9_laysBelow_35 x1 n (x2 + 1) v_7).bind K) = some res → J p l e rm_X9_laysBelow s m args below meth c (Qvoid below args s w res) w 7 v_23 160 [(0, .ref (w.1 81)), (1, .int x1), (2, .int x2)] [] := by
          intro v_23 h
          refine j_pick [0, 1, 2] rfl ?_
          exact Hv_7 v_23 h
        refine j_pick [2, 3, 4, 1, 0] rfl ?_
        exact jL_X9_laysBelow_62 X hr hk Hv_23 NF 0 G h
set_option maxRecDepth 100000 in
set_option maxHeartbeats 4000000 in
theorem jL_X9_laysBelow_25 {p : Program} {l : Launch} {e : Env} {s : State} {m : MethodId} {args : Array Value} {below : List Frame} {meth : Method} {c : Code} {w : WP} (X : fw_X p s m args c cX9_laysBelow 7 RX9 w) (hr : meth.sig.returnType = none) (hk : meth.locks = false) {res : Mem} {K : Mem → Option (Mem)} (HK : ∀ v : Mem, K v = some res → J p l e rm_X9_laysBelow s m args below meth c (Qvoid below args s w res) w 7 v 172 [] []) : ∀ (n : Nat) (x1 : Int32) (G : Mem), (L_X9_laysBelow_25  n x1 G).bind K = some res → J p l e rm_X9_laysBelow s m args below meth c (Qvoid below args s w res) w 7 G 25 [(0, .ref (w.1 81)), (1, .int x1)] [] := by
  intro n
  induction n with
  | zero =>
    intro x1 G h
    rw [L_X9_laysBelow_25] at h
    cases h
  | succ n ih =>
    intro x1 G h
    rw [L_X9_laysBelow_25] at h
    refine j_iload_n X dX9_laysBelow_25 rfl 1 rfl ?_
    refine j_aload_n X dX9_laysBelow_26 rfl 0 rfl ?_
    refine j_getI (C := RX9) (T := TX9) (N := 22) X 81 s_81 rfl hin_X9 14 (by decide) rfl q_876 dX9_laysBelow_27 ?_
    refine j_icmp_ge X 172 dX9_laysBelow_30 (by decide) (fun c_4 => ?_) (fun c_4 => ?_)
    · have h := bi_t c_4 h
      refine j_pick [] rfl ?_
      exact HK G h
    · have h := bi_f c_4 h
      refine j_iconst (v := 0) X dX9_laysBelow_33 (by decide) ?_
      refine j_istore_n X [(2, .int 0), (0, .ref (w.1 81)), (1, .int x1)] dX9_laysBelow_34 rfl (by decide) rfl ?_
      have h := bb_a h
      have Hv_24 : ∀ v_24 : Mem, (L_X9_laysBelow_25  n (x1 + 1) v_24).bind K = some res → J p l e rm_X9_laysBelow s m args below meth c (Qvoid below args s w res) w 7 v_24 166 [(0, .ref (w.1 81)), (1, .int x1)] [] := by
        intro v_24 h
        refine j_iinc (v := x1 + 1) X [(1, .int (x1 + 1)), (0, .ref (w.1 81))] dX9_laysBelow_166 1 rfl rfl (by decide) rfl ?_
        refine j_goto X 25 dX9_laysBelow_169 (by decide) ?_
        refine j_pick [1, 0] rfl ?_
        exact ih (x1 + 1) v_24 h
      refine j_pick [1, 2, 0] rfl ?_
      exact jL_X9_laysBelow_35 X hr hk Hv_24 NF 0 G h
set_option maxRecDepth 100000 in
set_option maxHeartbeats 4000000 in
theorem c_X9_laysBelow (l : Launch) (w : WP) (G : Mem) {res : Mem} (h0 : m_X9_laysBelow G = some res) : CMv l yX9_laysBelow cX9_laysBelow 7 none 1 23 w [.ref (w.1 81)] G res := by
  refine CMv.of (by decide +kernel) (Nat.le_of_ble_eq_true rfl) ?_
  intro p e s m args below meth c X hr hk
  have h := bs_i h0
  unfold m_X9_laysBelow at h
  show J p l e rm_X9_laysBelow s m args below meth c (Qvoid below args s w res) w 7 G 0 [(0, .ref (w.1 81))] []
  refine j_iconst (v := 0) X dX9_laysBelow_0 (by decide) ?_
  refine j_istore_n X [(1, .int 0), (0, .ref (w.1 81))] dX9_laysBelow_1 rfl (by decide) rfl ?_
  have h := bb_a h
  have Hv_3 : ∀ v_3 : Mem, ((L_X9_laysBelow_25  NF 0 v_3).bind (fun v_25 => some v_25)).bind some = some res → J p l e rm_X9_laysBelow s m args below meth c (Qvoid below args s w res) w 7 v_3 23 [(0, .ref (w.1 81))] [] := by
    intro v_3 h
    refine j_iconst (v := 0) X dX9_laysBelow_23 (by decide) ?_
    refine j_istore_n X [(1, .int 0), (0, .ref (w.1 81))] dX9_laysBelow_24 rfl (by decide) rfl ?_
    have h := bb_a h
    have Hv_25 : ∀ v_25 : Mem, (some v_25).bind some = some res → J p l e rm_X9_laysBelow s m args below meth c (Qvoid below args s w res) w 7 v_25 172 [] [] := by
      intro v_25 h
      exact j_vret X hr hk dX9_laysBelow_172 (Option.some.inj h)
    refine j_pick [1, 0] rfl ?_
    exact jL_X9_laysBelow_25 X hr hk Hv_25 NF 0 v_3 h
  refine j_pick [1, 0] rfl ?_
  exact jL_X9_laysBelow_2 X hr hk Hv_3 NF 0 G h
abbrev rm_X9_knownBy : Room := { frames := 3, cells := 0, slots := 0, locals := 77 }
theorem pn_X9_knownBy : yX9_knownBy.cls ≠ "java/lang/invoke/MethodHandle" ∧ yX9_knownBy.cls ≠ "java/lang/invoke/VarHandle" ∧ (parseMethodDescriptor yX9_knownBy.desc).map (fun d => d.parameters.length) = some 3 := by decide +kernel
def m_X9_knownBy (G : Mem) (p1 : Int32) (p2 : Int32) (p3 : Int32) : Option (Int32 × Mem) := (m_X9_laysAll G p1 0 (-9) 0).bind (fun q_1 => (m_X9_isSound q_1).bind (fun q_2 => (if q_2.1 = 0 then some (4, q_2.2) else (m_X9_laysBelow q_2.2).bind (fun q_4 => (ald 17 q_4 91 p2).bind (fun r_5 => (ald 17 q_4 91 p3).bind (fun r_6 => (if r_5 = r_6 then some (2, q_4) else (ald 17 q_4 94 p3).bind (fun r_8 => (if ((r_8 >>> (p2 &&& 31)) &&& 1) = 1 then some (1, q_4) else (ald 17 q_4 94 p2).bind (fun r_10 => (if ((r_10 >>> (p3 &&& 31)) &&& 1) = 1 then some (3, q_4) else some (0, q_4))))))))))))
set_option maxRecDepth 100000 in
set_option maxHeartbeats 4000000 in
theorem c_X9_knownBy (l : Launch) (w : WP) (G : Mem) (p1 : Int32) (p2 : Int32) (p3 : Int32) {res : Int32 × Mem} (h0 : m_X9_knownBy G p1 p2 p3 = some res) : CMi l yX9_knownBy cX9_knownBy 4 (some .int) 3 77 w [.ref (w.1 81), .int p1, .int p2, .int p3] G res := by
  refine CMi.of (by decide +kernel) (Nat.le_of_ble_eq_true rfl) ?_
  intro p e s m args below meth c X hr hk
  have h := bs_i h0
  unfold m_X9_knownBy at h
  show J p l e rm_X9_knownBy s m args below meth c (Qint below args s w res) w 4 G 0 [(0, .ref (w.1 81)), (1, .int p1), (2, .int p2), (3, .int p3)] []
  refine j_aload_n X dX9_knownBy_0 rfl 0 rfl ?_
  refine j_iload_n X dX9_knownBy_1 rfl 1 rfl ?_
  refine j_iconst (v := 0) X dX9_knownBy_2 (by decide) ?_
  refine j_bipush (v := (-9)) X dX9_knownBy_3 (by decide) ?_
  refine j_iconst (v := 0) X dX9_knownBy_5 (by decide) ?_
  obtain ⟨q_1, hq_1, h⟩ := bd_s h
  refine j_callVv (As := [.int p1, .int 0, .int (-9), .int 0]) X 81 s_81 rfl (c_X9_laysAll l w G  p1 0 (-9) 0 hq_1) rfl pn_X9_laysAll q_999 q_1001 q_40 q_68 q_1002 ⟨Nat.le_of_ble_eq_true rfl, Nat.le_of_ble_eq_true rfl⟩ (Nat.le_of_ble_eq_true rfl) rfl dX9_knownBy_6 ?_
  refine j_aload_n X dX9_knownBy_9 rfl 0 rfl ?_
  obtain ⟨q_2, hq_2, h⟩ := bd_s h
  refine j_callVi (As := []) X 81 s_81 rfl (c_X9_isSound l w q_1   hq_2) rfl pn_X9_isSound q_1023 q_1025 q_46 q_68 q_1026 ⟨Nat.le_of_ble_eq_true rfl, Nat.le_of_ble_eq_true rfl⟩ (Nat.le_of_ble_eq_true rfl) rfl dX9_knownBy_10 ?_
  refine j_if_ne X 18 dX9_knownBy_13 (by decide) (fun c_3 => ?_) (fun c_3 => ?_)
  · have h := bi_f c_3 h
    refine j_aload_n X dX9_knownBy_18 rfl 0 rfl ?_
    obtain ⟨q_4, hq_4, h⟩ := bd_s h
    refine j_callVv (As := []) X 81 s_81 rfl (c_X9_laysBelow l w q_2.2   hq_4) rfl pn_X9_laysBelow q_1050 q_1052 q_50 q_68 q_1053 ⟨Nat.le_of_ble_eq_true rfl, Nat.le_of_ble_eq_true rfl⟩ (Nat.le_of_ble_eq_true rfl) rfl dX9_knownBy_19 ?_
    refine j_aload_n X dX9_knownBy_22 rfl 0 rfl ?_
    refine j_getR (C := RX9) (T := TX9) (N := 22) X 81 s_81 rfl hin_X9 15 (by decide) 91 rfl q_877 dX9_knownBy_23 ?_
    refine j_iload_n X dX9_knownBy_26 rfl 2 rfl ?_
    obtain ⟨r_5, hr_5, h⟩ := bd_s h
    refine j_iald X 91 17 s_91 hr_5 dX9_knownBy_27 ?_
    refine j_aload_n X dX9_knownBy_28 rfl 0 rfl ?_
    refine j_getR (C := RX9) (T := TX9) (N := 22) X 81 s_81 rfl hin_X9 15 (by decide) 91 rfl q_877 dX9_knownBy_29 ?_
    refine j_iload_n X dX9_knownBy_32 rfl 3 rfl ?_
    obtain ⟨r_6, hr_6, h⟩ := bd_s h
    refine j_iald X 91 17 s_91 hr_6 dX9_knownBy_33 ?_
    refine j_icmp_ne X 41 dX9_knownBy_34 (by decide) (fun c_7 => ?_) (fun c_7 => ?_)
    · have h := bi_f c_7 h
      refine j_aload_n X dX9_knownBy_41 rfl 0 rfl ?_
      refine j_getR (C := RX9) (T := TX9) (N := 22) X 81 s_81 rfl hin_X9 18 (by decide) 94 rfl q_880 dX9_knownBy_42 ?_
      refine j_iload_n X dX9_knownBy_45 rfl 3 rfl ?_
      obtain ⟨r_8, hr_8, h⟩ := bd_s h
      refine j_iald X 94 17 s_94 hr_8 dX9_knownBy_46 ?_
      refine j_iload_n X dX9_knownBy_47 rfl 2 rfl ?_
      refine j_ishr X dX9_knownBy_48 ?_
      refine j_iconst (v := 1) X dX9_knownBy_49 (by decide) ?_
      refine j_iand X dX9_knownBy_50 ?_
      refine j_iconst (v := 1) X dX9_knownBy_51 (by decide) ?_
      refine j_icmp_ne X 59 dX9_knownBy_52 (by decide) (fun c_9 => ?_) (fun c_9 => ?_)
      · have h := bi_f c_9 h
        refine j_aload_n X dX9_knownBy_59 rfl 0 rfl ?_
        refine j_getR (C := RX9) (T := TX9) (N := 22) X 81 s_81 rfl hin_X9 18 (by decide) 94 rfl q_880 dX9_knownBy_60 ?_
        refine j_iload_n X dX9_knownBy_63 rfl 2 rfl ?_
        obtain ⟨r_10, hr_10, h⟩ := bd_s h
        refine j_iald X 94 17 s_94 hr_10 dX9_knownBy_64 ?_
        refine j_iload_n X dX9_knownBy_65 rfl 3 rfl ?_
        refine j_ishr X dX9_knownBy_66 ?_
        refine j_iconst (v := 1) X dX9_knownBy_67 (by decide) ?_
        refine j_iand X dX9_knownBy_68 ?_
        refine j_iconst (v := 1) X dX9_knownBy_69 (by decide) ?_
        refine j_icmp_ne X 77 dX9_knownBy_70 (by decide) (fun c_11 => ?_) (fun c_11 => ?_)
        · have h := bi_f c_11 h
          refine j_iconst (v := 0) X dX9_knownBy_77 (by decide) ?_
          exact j_iret X hr hk dX9_knownBy_78 (Option.some.inj h)
        · have h := bi_t c_11 h
          refine j_iconst (v := 3) X dX9_knownBy_73 (by decide) ?_
          refine j_goto X 78 dX9_knownBy_74 (by decide) ?_
          exact j_iret X hr hk dX9_knownBy_78 (Option.some.inj h)
      · have h := bi_t c_9 h
        refine j_iconst (v := 1) X dX9_knownBy_55 (by decide) ?_
        refine j_goto X 78 dX9_knownBy_56 (by decide) ?_
        exact j_iret X hr hk dX9_knownBy_78 (Option.some.inj h)
    · have h := bi_t c_7 h
      refine j_iconst (v := 2) X dX9_knownBy_37 (by decide) ?_
      refine j_goto X 78 dX9_knownBy_38 (by decide) ?_
      exact j_iret X hr hk dX9_knownBy_78 (Option.some.inj h)
  · have h := bi_t c_3 h
    refine j_iconst (v := 4) X dX9_knownBy_16 (by decide) ?_
    exact j_iret X hr hk dX9_knownBy_17 (Option.some.inj h)
abbrev rm_X9_canCome : Room := { frames := 0, cells := 0, slots := 0, locals := 0 }
theorem pn_X9_canCome : yX9_canCome.cls ≠ "java/lang/invoke/MethodHandle" ∧ yX9_canCome.cls ≠ "java/lang/invoke/VarHandle" ∧ (parseMethodDescriptor yX9_canCome.desc).map (fun d => d.parameters.length) = some 2 := by decide +kernel
def L_X9_canCome_15 (x1 : Int32) (x2 : Int32) (G : Mem) : Nat → Int32 → Int32 → Option (Int32)
  | 0, _, _ => none
  | n + 1, x3, x4 => (ald 74 G 82 0).bind (fun r_2 => (if r_2 ≤ x4 then some x3 else (if x3 = 0 then some x3 else ((if ((x1 >>> (x4 &&& 31)) &&& 1) = 0 then some 1 else (ald 8 G 96 x4).bind (fun r_7 => (if (r_7 &&& (x2 ^^^ (-1))) = 0 then (ald 8 G 97 x4).bind (fun r_9 => (if (r_9 &&& (x1 ^^^ (-1))) = 0 then some 1 else some 0)) else some 0))) : Option (Int32)).bind (fun (v_5 : Int32) => L_X9_canCome_15 x1 x2 G n v_5 (x4 + 1)))))
def m_X9_canCome (G : Mem) (p1 : Int32) (p2 : Int32) : Option (Int32) := ((if (p1 &&& p2) = 0 then some 1 else some 0) : Option (Int32)).bind (fun (v_1 : Int32) => (L_X9_canCome_15 p1 p2 G NF v_1 0).bind (fun v_11 => some (v_11 &&& 1)))
set_option maxRecDepth 100000 in
set_option maxHeartbeats 4000000 in
theorem jL_X9_canCome_15 {p : Program} {l : Launch} {e : Env} {s : State} {m : MethodId} {args : Array Value} {below : List Frame} {meth : Method} {c : Code} {w : WP} (X : fw_X p s m args c cX9_canCome 5 RX9 w) (hr : meth.sig.returnType = (some .boolean)) (hk : meth.locks = false) {x1 : Int32} {x2 : Int32} {G : Mem} {res : Int32} {K : Int32 → Option (Int32)} (HK : ∀ v : Int32, K v = some res → J p l e rm_X9_canCome s m args below meth c (Qint below args s w (res, G)) w 5 G 79 [(3, .int v)] []) : ∀ (n : Nat) (x3 : Int32) (x4 : Int32), (L_X9_canCome_15 x1 x2 G n x3 x4).bind K = some res → J p l e rm_X9_canCome s m args below meth c (Qint below args s w (res, G)) w 5 G 15 [(0, .ref (w.1 81)), (1, .int x1), (2, .int x2), (3, .int x3), (4, .int x4)] [] := by
  intro n
  induction n with
  | zero =>
    intro x3 x4 h
    rw [L_X9_canCome_15] at h
    cases h
  | succ n ih =>
    intro x3 x4 h
    rw [L_X9_canCome_15] at h
    refine j_iload X dX9_canCome_15 4 rfl ?_
    refine j_aload_n X dX9_canCome_17 rfl 0 rfl ?_
    refine j_getR (C := RX9) (T := TX9) (N := 22) X 81 s_81 rfl hin_X9 1 (by decide) 82 rfl q_863 dX9_canCome_18 ?_
    refine j_iconst (v := 0) X dX9_canCome_21 (by decide) ?_
    obtain ⟨r_2, hr_2, h⟩ := bd_s h
    refine j_iald X 82 74 s_82 hr_2 dX9_canCome_22 ?_
    refine j_icmp_ge X 79 dX9_canCome_23 (by decide) (fun c_3 => ?_) (fun c_3 => ?_)
    · have h := bi_t c_3 h
      refine j_pick [3] rfl ?_
      exact HK x3 h
    · have h := bi_f c_3 h
      refine j_iload_n X dX9_canCome_26 rfl 3 rfl ?_
      refine j_if_eq X 79 dX9_canCome_27 (by decide) (fun c_4 => ?_) (fun c_4 => ?_)
      · have h := bi_t c_4 h
        refine j_pick [3] rfl ?_
        exact HK x3 h
      · have h := bi_f c_4 h
        refine j_iload_n X dX9_canCome_30 rfl 1 rfl ?_
        refine j_iload X dX9_canCome_31 4 rfl ?_
        refine j_ishr X dX9_canCome_33 ?_
        refine j_iconst (v := 1) X dX9_canCome_34 (by decide) ?_
        refine j_iand X dX9_canCome_35 ?_
        have h := bb_a h
        have Hv_5 : ∀ v_5 : Int32, (L_X9_canCome_15 x1 x2 G n v_5 (x4 + 1)).bind K = some res → J p l e rm_X9_canCome s m args below meth c (Qint below args s w (res, G)) w 5 G 72 [(0, .ref (w.1 81)), (1, .int x1), (2, .int x2), (4, .int x4)] [.int v_5] := by
          intro v_5 h
          refine j_istore_n X [(3, .int v_5), (0, .ref (w.1 81)), (1, .int x1), (2, .int x2), (4, .int x4)] dX9_canCome_72 rfl (by decide) rfl ?_
          refine j_iinc (v := x4 + 1) X [(4, .int (x4 + 1)), (3, .int v_5), (0, .ref (w.1 81)), (1, .int x1), (2, .int x2)] dX9_canCome_73 4 rfl rfl (by decide) rfl ?_
          refine j_goto X 15 dX9_canCome_76 (by decide) ?_
          refine j_pick [2, 3, 4, 1, 0] rfl ?_
          exact ih v_5 (x4 + 1) h
        refine j_if_eq X 67 dX9_canCome_36 (by decide) (fun c_6 => ?_) (fun c_6 => ?_)
        · have h := bi_t c_6 h
          refine j_iconst (v := 1) X dX9_canCome_67 (by decide) ?_
          refine j_goto X 72 dX9_canCome_68 (by decide) ?_
          refine j_pick [0, 1, 2, 4] rfl ?_
          exact Hv_5 1 h
        · have h := bi_f c_6 h
          refine j_aload_n X dX9_canCome_39 rfl 0 rfl ?_
          refine j_getR (C := RX9) (T := TX9) (N := 22) X 81 s_81 rfl hin_X9 20 (by decide) 96 rfl q_882 dX9_canCome_40 ?_
          refine j_iload X dX9_canCome_43 4 rfl ?_
          obtain ⟨r_7, hr_7, h⟩ := bd_s h
          refine j_iald X 96 8 s_96 hr_7 dX9_canCome_45 ?_
          refine j_iload_n X dX9_canCome_46 rfl 2 rfl ?_
          refine j_iconst (v := (-1)) X dX9_canCome_47 (by decide) ?_
          refine j_ixor X dX9_canCome_48 ?_
          refine j_iand X dX9_canCome_49 ?_
          refine j_if_ne X 71 dX9_canCome_50 (by decide) (fun c_8 => ?_) (fun c_8 => ?_)
          · have h := bi_f c_8 h
            refine j_iconst (v := 0) X dX9_canCome_71 (by decide) ?_
            refine j_pick [0, 1, 2, 4] rfl ?_
            exact Hv_5 0 h
          · have h := bi_t c_8 h
            refine j_aload_n X dX9_canCome_53 rfl 0 rfl ?_
            refine j_getR (C := RX9) (T := TX9) (N := 22) X 81 s_81 rfl hin_X9 21 (by decide) 97 rfl q_883 dX9_canCome_54 ?_
            refine j_iload X dX9_canCome_57 4 rfl ?_
            obtain ⟨r_9, hr_9, h⟩ := bd_s h
            refine j_iald X 97 8 s_97 hr_9 dX9_canCome_59 ?_
            refine j_iload_n X dX9_canCome_60 rfl 1 rfl ?_
            refine j_iconst (v := (-1)) X dX9_canCome_61 (by decide) ?_
            refine j_ixor X dX9_canCome_62 ?_
            refine j_iand X dX9_canCome_63 ?_
            refine j_if_ne X 71 dX9_canCome_64 (by decide) (fun c_10 => ?_) (fun c_10 => ?_)
            · have h := bi_f c_10 h
              refine j_iconst (v := 0) X dX9_canCome_71 (by decide) ?_
              refine j_pick [0, 1, 2, 4] rfl ?_
              exact Hv_5 0 h
            · have h := bi_t c_10 h
              refine j_iconst (v := 1) X dX9_canCome_67 (by decide) ?_
              refine j_goto X 72 dX9_canCome_68 (by decide) ?_
              refine j_pick [0, 1, 2, 4] rfl ?_
              exact Hv_5 1 h
set_option maxRecDepth 100000 in
set_option maxHeartbeats 4000000 in
theorem c_X9_canCome (l : Launch) (w : WP) (G : Mem) (p1 : Int32) (p2 : Int32) {res : Int32} (h0 : m_X9_canCome G p1 p2 = some res) : CMi l yX9_canCome cX9_canCome 5 (some .boolean) 0 0 w [.ref (w.1 81), .int p1, .int p2] G (res, G) := by
  refine CMi.of (by decide +kernel) (Nat.le_of_ble_eq_true rfl) ?_
  intro p e s m args below meth c X hr hk
  have h := bs_i h0
  unfold m_X9_canCome at h
  show J p l e rm_X9_canCome s m args below meth c (Qint below args s w (res, G)) w 5 G 0 [(0, .ref (w.1 81)), (1, .int p1), (2, .int p2)] []
  refine j_iload_n X dX9_canCome_0 rfl 1 rfl ?_
  refine j_iload_n X dX9_canCome_1 rfl 2 rfl ?_
  refine j_iand X dX9_canCome_2 ?_
  have h := bb_a h
  have Hv_1 : ∀ v_1 : Int32, ((L_X9_canCome_15 p1 p2 G NF v_1 0).bind (fun v_11 => some (v_11 &&& 1))).bind some = some res → J p l e rm_X9_canCome s m args below meth c (Qint below args s w (res, G)) w 5 G 11 [(0, .ref (w.1 81)), (1, .int p1), (2, .int p2)] [.int v_1] := by
    intro v_1 h
    refine j_istore_n X [(3, .int v_1), (0, .ref (w.1 81)), (1, .int p1), (2, .int p2)] dX9_canCome_11 rfl (by decide) rfl ?_
    refine j_iconst (v := 0) X dX9_canCome_12 (by decide) ?_
    refine j_istore X [(4, .int 0), (3, .int v_1), (0, .ref (w.1 81)), (1, .int p1), (2, .int p2)] dX9_canCome_13 (by decide) rfl ?_
    have h := bb_a h
    have Hv_11 : ∀ v_11 : Int32, (some (v_11 &&& 1)).bind some = some res → J p l e rm_X9_canCome s m args below meth c (Qint below args s w (res, G)) w 5 G 79 [(3, .int v_11)] [] := by
      intro v_11 h
      refine j_iload_n X dX9_canCome_79 rfl 0 rfl ?_
      exact j_zret X hr hk rfl dX9_canCome_80 (congrArg (fun z => (z, G)) (Option.some.inj h))
    refine j_pick [2, 3, 4, 1, 0] rfl ?_
    exact jL_X9_canCome_15 X hr hk Hv_11 NF v_1 0 h
  refine j_if_ne X 10 dX9_canCome_3 (by decide) (fun c_12 => ?_) (fun c_12 => ?_)
  · have h := bi_f c_12 h
    refine j_iconst (v := 0) X dX9_canCome_10 (by decide) ?_
    refine j_pick [0, 1, 2] rfl ?_
    exact Hv_1 0 h
  · have h := bi_t c_12 h
    refine j_iconst (v := 1) X dX9_canCome_6 (by decide) ?_
    refine j_goto X 11 dX9_canCome_7 (by decide) ?_
    refine j_pick [0, 1, 2] rfl ?_
    exact Hv_1 1 h
abbrev rm_X9_ordersWith : Room := { frames := 3, cells := 0, slots := 0, locals := 77 }
theorem pn_X9_ordersWith : yX9_ordersWith.cls ≠ "java/lang/invoke/MethodHandle" ∧ yX9_ordersWith.cls ≠ "java/lang/invoke/VarHandle" ∧ (parseMethodDescriptor yX9_ordersWith.desc).map (fun d => d.parameters.length) = some 3 := by decide +kernel
def L_X9_ordersWith_61 (x4 : Int32) (x5 : Int32) : Nat → Int32 → Mem → Option (Mem)
  | 0, _, _ => none
  | n + 1, x6, G => (if x4 ≤ x6 then some G else (ald 8 G 96 x5).bind (fun r_11 => (ald 17 G 94 (2 + (2 * x5))).bind (fun r_12 => (ast 8 G 96 x5 (r_11 ||| (((r_12 >>> ((2 + (2 * x6)) &&& 31)) &&& 1) <<< (x6 &&& 31)))).bind (fun q_13 => (ald 8 q_13 97 x5).bind (fun r_14 => (ald 17 q_13 91 (2 + (2 * x5))).bind (fun r_15 => (ald 17 q_13 91 (2 + (2 * x6))).bind (fun r_16 => ((if r_15 = r_16 then some (1 <<< (x6 &&& 31), r_14, q_13) else some (0, r_14, q_13)) : Option (Int32 × Int32 × Mem)).bind (fun (v_17 : Int32 × Int32 × Mem) => (ast 8 v_17.2.2 97 x5 (v_17.2.1 ||| v_17.1)).bind (fun q_18 => L_X9_ordersWith_61 x4 x5 n (x6 + 1) q_18)))))))))
def L_X9_ordersWith_35 (x4 : Int32) : Nat → Int32 → Mem → Option (Mem)
  | 0, _, _ => none
  | n + 1, x5, G => (if x4 ≤ x5 then some G else (ast 8 G 96 x5 0).bind (fun q_8 => (ast 8 q_8 97 x5 0).bind (fun q_9 => (L_X9_ordersWith_61 x4 x5 NF 0 q_9).bind (fun v_20 => L_X9_ordersWith_35 x4 n (x5 + 1) v_20))))
def L_X9_ordersWith_167 (x5 : Int32) : Nat → Int32 → Mem → Option (Mem)
  | 0, _, _ => none
  | n + 1, x6, G => (if x5 < x6 then some G else ((if x6 = 0 then some 1 else some 0) : Option (Int32)).bind (fun (v_23 : Int32) => (ast 256 G 95 x6 v_23).bind (fun q_24 => L_X9_ordersWith_167 x5 n (x6 + 1) q_24)))
def L_X9_ordersWith_210 (x5 : Int32) (x6 : Int32) : Nat → Int32 → Mem → Option (Mem)
  | 0, _, _ => none
  | n + 1, x7, G => (if x5 < x7 then some G else (ald 256 G 95 x6).bind (fun r_29 => (if r_29 ≤ 0 then some G else (ald 256 G 95 (x6 ||| x7)).bind (fun r_31 => (m_X9_canCome G x7 x6).bind (fun r_32 => ((if r_32 = 0 then some (0, r_31) else (ald 256 G 95 x6).bind (fun r_36 => some (r_36, r_31))) : Option (Int32 × Int32)).bind (fun (v_33 : Int32 × Int32) => (ast 256 G 95 (x6 ||| x7) (v_33.2 + v_33.1)).bind (fun q_34 => L_X9_ordersWith_210 x5 x6 n (x7 + 1) q_34)))))))
def L_X9_ordersWith_200 (x5 : Int32) : Nat → Int32 → Mem → Option (Mem)
  | 0, _, _ => none
  | n + 1, x6, G => (if x5 ≤ x6 then some G else (L_X9_ordersWith_210 x5 x6 NF 1 G).bind (fun v_37 => L_X9_ordersWith_200 x5 n (x6 + 1) v_37))
def m_X9_ordersWith (G : Mem) (p1 : Int32) (p2 : Int32) (p3 : Int32) : Option (Int32 × Mem) := (m_X9_all G).bind (fun r_1 => (m_X9_laysAll G r_1 p1 p2 p3).bind (fun q_2 => (m_X9_isSound q_2).bind (fun q_3 => (if q_3.1 = 0 then some (0, q_3.2) else (m_X9_laysBelow q_3.2).bind (fun q_5 => (ald 74 q_5 82 0).bind (fun r_6 => (L_X9_ordersWith_35 r_6 NF 0 q_5).bind (fun v_21 => (L_X9_ordersWith_167 ((1 <<< (r_6 &&& 31)) - 1) NF 0 v_21).bind (fun v_26 => (L_X9_ordersWith_200 ((1 <<< (r_6 &&& 31)) - 1) NF 0 v_26).bind (fun v_38 => (ald 256 v_38 95 ((1 <<< (r_6 &&& 31)) - 1)).bind (fun r_39 => some (r_39, v_38)))))))))))
set_option maxRecDepth 100000 in
set_option maxHeartbeats 4000000 in
theorem jL_X9_ordersWith_61 {p : Program} {l : Launch} {e : Env} {s : State} {m : MethodId} {args : Array Value} {below : List Frame} {meth : Method} {c : Code} {w : WP} (X : fw_X p s m args c cX9_ordersWith 8 RX9 w) (hr : meth.sig.returnType = (some .int)) (hk : meth.locks = false) {x4 : Int32} {x5 : Int32} {res : Int32 × Mem} {K : Mem → Option (Int32 × Mem)} (HK : ∀ v : Mem, K v = some res → J p l e rm_X9_ordersWith s m args below meth c (Qint below args s w res) w 8 v 150 [(0, .ref (w.1 81)), (4, .int x4), (5, .int x5)] []) : ∀ (n : Nat) (x6 : Int32) (G : Mem), (L_X9_ordersWith_61 x4 x5 n x6 G).bind K = some res → J p l e rm_X9_ordersWith s m args below meth c (Qint below args s w res) w 8 G 61 [(0, .ref (w.1 81)), (4, .int x4), (5, .int x5), (6, .int x6)] [] := by
  intro n
  induction n with
  | zero =>
    intro x6 G h
    rw [L_X9_ordersWith_61] at h
    cases h
  | succ n ih =>
    intro x6 G h
    rw [L_X9_ordersWith_61] at h
    refine j_iload X dX9_ordersWith_61 3 rfl ?_
    refine j_iload X dX9_ordersWith_63 1 rfl ?_
    refine j_icmp_ge X 150 dX9_ordersWith_65 (by decide) (fun c_10 => ?_) (fun c_10 => ?_)
    · have h := bi_t c_10 h
      refine j_pick [0, 1, 2] rfl ?_
      exact HK G h
    · have h := bi_f c_10 h
      refine j_aload_n X dX9_ordersWith_68 rfl 0 rfl ?_
      refine j_getR (C := RX9) (T := TX9) (N := 22) X 81 s_81 rfl hin_X9 20 (by decide) 96 rfl q_882 dX9_ordersWith_69 ?_
      refine j_iload X dX9_ordersWith_72 2 rfl ?_
      refine j_dup2 X dX9_ordersWith_74 rfl rfl ?_
      obtain ⟨r_11, hr_11, h⟩ := bd_s h
      refine j_iald X 96 8 s_96 hr_11 dX9_ordersWith_75 ?_
      refine j_aload_n X dX9_ordersWith_76 rfl 0 rfl ?_
      refine j_getR (C := RX9) (T := TX9) (N := 22) X 81 s_81 rfl hin_X9 18 (by decide) 94 rfl q_880 dX9_ordersWith_77 ?_
      refine j_iconst (v := 2) X dX9_ordersWith_80 (by decide) ?_
      refine j_iconst (v := 2) X dX9_ordersWith_81 (by decide) ?_
      refine j_iload X dX9_ordersWith_82 2 rfl ?_
      refine j_imul X dX9_ordersWith_84 ?_
      refine j_iadd X dX9_ordersWith_85 ?_
      obtain ⟨r_12, hr_12, h⟩ := bd_s h
      refine j_iald X 94 17 s_94 hr_12 dX9_ordersWith_86 ?_
      refine j_iconst (v := 2) X dX9_ordersWith_87 (by decide) ?_
      refine j_iconst (v := 2) X dX9_ordersWith_88 (by decide) ?_
      refine j_iload X dX9_ordersWith_89 3 rfl ?_
      refine j_imul X dX9_ordersWith_91 ?_
      refine j_iadd X dX9_ordersWith_92 ?_
      refine j_ishr X dX9_ordersWith_93 ?_
      refine j_iconst (v := 1) X dX9_ordersWith_94 (by decide) ?_
      refine j_iand X dX9_ordersWith_95 ?_
      refine j_iload X dX9_ordersWith_96 3 rfl ?_
      refine j_ishl X dX9_ordersWith_98 ?_
      refine j_ior X dX9_ordersWith_99 ?_
      obtain ⟨q_13, hq_13, h⟩ := bd_s h
      refine j_iast X 96 8 s_96 hq_13 dX9_ordersWith_100 ?_
      refine j_aload_n X dX9_ordersWith_101 rfl 0 rfl ?_
      refine j_getR (C := RX9) (T := TX9) (N := 22) X 81 s_81 rfl hin_X9 21 (by decide) 97 rfl q_883 dX9_ordersWith_102 ?_
      refine j_iload X dX9_ordersWith_105 2 rfl ?_
      refine j_dup2 X dX9_ordersWith_107 rfl rfl ?_
      obtain ⟨r_14, hr_14, h⟩ := bd_s h
      refine j_iald X 97 8 s_97 hr_14 dX9_ordersWith_108 ?_
      refine j_aload_n X dX9_ordersWith_109 rfl 0 rfl ?_
      refine j_getR (C := RX9) (T := TX9) (N := 22) X 81 s_81 rfl hin_X9 15 (by decide) 91 rfl q_877 dX9_ordersWith_110 ?_
      refine j_iconst (v := 2) X dX9_ordersWith_113 (by decide) ?_
      refine j_iconst (v := 2) X dX9_ordersWith_114 (by decide) ?_
      refine j_iload X dX9_ordersWith_115 2 rfl ?_
      refine j_imul X dX9_ordersWith_117 ?_
      refine j_iadd X dX9_ordersWith_118 ?_
      obtain ⟨r_15, hr_15, h⟩ := bd_s h
      refine j_iald X 91 17 s_91 hr_15 dX9_ordersWith_119 ?_
      refine j_aload_n X dX9_ordersWith_120 rfl 0 rfl ?_
      refine j_getR (C := RX9) (T := TX9) (N := 22) X 81 s_81 rfl hin_X9 15 (by decide) 91 rfl q_877 dX9_ordersWith_121 ?_
      refine j_iconst (v := 2) X dX9_ordersWith_124 (by decide) ?_
      refine j_iconst (v := 2) X dX9_ordersWith_125 (by decide) ?_
      refine j_iload X dX9_ordersWith_126 3 rfl ?_
      refine j_imul X dX9_ordersWith_128 ?_
      refine j_iadd X dX9_ordersWith_129 ?_
      obtain ⟨r_16, hr_16, h⟩ := bd_s h
      refine j_iald X 91 17 s_91 hr_16 dX9_ordersWith_130 ?_
      have h := bb_a h
      have Hv_17 : ∀ v_17 : Int32 × Int32 × Mem, ((ast 8 v_17.2.2 97 x5 (v_17.2.1 ||| v_17.1)).bind (fun q_18 => L_X9_ordersWith_61 x4 x5 n (x6 + 1) q_18)).bind K = some res → J p l e rm_X9_ordersWith s m args below meth c (Qint below args s w res) w 8 v_17.2.2 142 [(0, .ref (w.1 81)), (4, .int x4), (5, .int x5), (6, .int x6)] [.int v_17.1, .int v_17.2.1, .int x5, .ref (w.1 97)] := by
        intro v_17 h
        refine j_ior X dX9_ordersWith_142 ?_
        obtain ⟨q_18, hq_18, h⟩ := bd_s h
        refine j_iast X 97 8 s_97 hq_18 dX9_ordersWith_143 ?_
        refine j_iinc (v := x6 + 1) X [(6, .int (x6 + 1)), (0, .ref (w.1 81)), (4, .int x4), (5, .int x5)] dX9_ordersWith_144 3 rfl rfl (by decide) rfl ?_
        refine j_goto X 61 dX9_ordersWith_147 (by decide) ?_
        refine j_pick [1, 2, 3, 0] rfl ?_
        exact ih (x6 + 1) q_18 h
      refine j_icmp_ne X 141 dX9_ordersWith_131 (by decide) (fun c_19 => ?_) (fun c_19 => ?_)
      · have h := bi_f c_19 h
        refine j_iconst (v := 0) X dX9_ordersWith_141 (by decide) ?_
        refine j_pick [0, 1, 2, 3] rfl ?_
        exact Hv_17 (0, r_14, q_13) h
      · have h := bi_t c_19 h
        refine j_iconst (v := 1) X dX9_ordersWith_134 (by decide) ?_
        refine j_iload X dX9_ordersWith_135 3 rfl ?_
        refine j_ishl X dX9_ordersWith_137 ?_
        refine j_goto X 142 dX9_ordersWith_138 (by decide) ?_
        refine j_pick [0, 1, 2, 3] rfl ?_
        exact Hv_17 (1 <<< (x6 &&& 31), r_14, q_13) h
set_option maxRecDepth 100000 in
set_option maxHeartbeats 4000000 in
theorem jL_X9_ordersWith_35 {p : Program} {l : Launch} {e : Env} {s : State} {m : MethodId} {args : Array Value} {below : List Frame} {meth : Method} {c : Code} {w : WP} (X : fw_X p s m args c cX9_ordersWith 8 RX9 w) (hr : meth.sig.returnType = (some .int)) (hk : meth.locks = false) {x4 : Int32} {res : Int32 × Mem} {K : Mem → Option (Int32 × Mem)} (HK : ∀ v : Mem, K v = some res → J p l e rm_X9_ordersWith s m args below meth c (Qint below args s w res) w 8 v 156 [(0, .ref (w.1 81)), (4, .int x4)] []) : ∀ (n : Nat) (x5 : Int32) (G : Mem), (L_X9_ordersWith_35 x4 n x5 G).bind K = some res → J p l e rm_X9_ordersWith s m args below meth c (Qint below args s w res) w 8 G 35 [(0, .ref (w.1 81)), (4, .int x4), (5, .int x5)] [] := by
  intro n
  induction n with
  | zero =>
    intro x5 G h
    rw [L_X9_ordersWith_35] at h
    cases h
  | succ n ih =>
    intro x5 G h
    rw [L_X9_ordersWith_35] at h
    refine j_iload X dX9_ordersWith_35 2 rfl ?_
    refine j_iload X dX9_ordersWith_37 1 rfl ?_
    refine j_icmp_ge X 156 dX9_ordersWith_39 (by decide) (fun c_7 => ?_) (fun c_7 => ?_)
    · have h := bi_t c_7 h
      refine j_pick [0, 1] rfl ?_
      exact HK G h
    · have h := bi_f c_7 h
      refine j_aload_n X dX9_ordersWith_42 rfl 0 rfl ?_
      refine j_getR (C := RX9) (T := TX9) (N := 22) X 81 s_81 rfl hin_X9 20 (by decide) 96 rfl q_882 dX9_ordersWith_43 ?_
      refine j_iload X dX9_ordersWith_46 2 rfl ?_
      refine j_iconst (v := 0) X dX9_ordersWith_48 (by decide) ?_
      obtain ⟨q_8, hq_8, h⟩ := bd_s h
      refine j_iast X 96 8 s_96 hq_8 dX9_ordersWith_49 ?_
      refine j_aload_n X dX9_ordersWith_50 rfl 0 rfl ?_
      refine j_getR (C := RX9) (T := TX9) (N := 22) X 81 s_81 rfl hin_X9 21 (by decide) 97 rfl q_883 dX9_ordersWith_51 ?_
      refine j_iload X dX9_ordersWith_54 2 rfl ?_
      refine j_iconst (v := 0) X dX9_ordersWith_56 (by decide) ?_
      obtain ⟨q_9, hq_9, h⟩ := bd_s h
      refine j_iast X 97 8 s_97 hq_9 dX9_ordersWith_57 ?_
      refine j_iconst (v := 0) X dX9_ordersWith_58 (by decide) ?_
      refine j_istore X [(6, .int 0), (0, .ref (w.1 81)), (4, .int x4), (5, .int x5)] dX9_ordersWith_59 (by decide) rfl ?_
      have h := bb_a h
      have Hv_20 : ∀ v_20 : Mem, (L_X9_ordersWith_35 x4 n (x5 + 1) v_20).bind K = some res → J p l e rm_X9_ordersWith s m args below meth c (Qint below args s w res) w 8 v_20 150 [(0, .ref (w.1 81)), (4, .int x4), (5, .int x5)] [] := by
        intro v_20 h
        refine j_iinc (v := x5 + 1) X [(5, .int (x5 + 1)), (0, .ref (w.1 81)), (4, .int x4)] dX9_ordersWith_150 2 rfl rfl (by decide) rfl ?_
        refine j_goto X 35 dX9_ordersWith_153 (by decide) ?_
        refine j_pick [1, 2, 0] rfl ?_
        exact ih (x5 + 1) v_20 h
      refine j_pick [1, 2, 3, 0] rfl ?_
      exact jL_X9_ordersWith_61 X hr hk Hv_20 NF 0 q_9 h
set_option maxRecDepth 100000 in
set_option maxHeartbeats 4000000 in
theorem jL_X9_ordersWith_167 {p : Program} {l : Launch} {e : Env} {s : State} {m : MethodId} {args : Array Value} {below : List Frame} {meth : Method} {c : Code} {w : WP} (X : fw_X p s m args c cX9_ordersWith 8 RX9 w) (hr : meth.sig.returnType = (some .int)) (hk : meth.locks = false) {x5 : Int32} {res : Int32 × Mem} {K : Mem → Option (Int32 × Mem)} (HK : ∀ v : Mem, K v = some res → J p l e rm_X9_ordersWith s m args below meth c (Qint below args s w res) w 8 v 197 [(0, .ref (w.1 81)), (5, .int x5)] []) : ∀ (n : Nat) (x6 : Int32) (G : Mem), (L_X9_ordersWith_167 x5 n x6 G).bind K = some res → J p l e rm_X9_ordersWith s m args below meth c (Qint below args s w res) w 8 G 167 [(0, .ref (w.1 81)), (5, .int x5), (6, .int x6)] [] := by
  intro n
  induction n with
  | zero =>
    intro x6 G h
    rw [L_X9_ordersWith_167] at h
    cases h
  | succ n ih =>
    intro x6 G h
    rw [L_X9_ordersWith_167] at h
    refine j_iload X dX9_ordersWith_167 2 rfl ?_
    refine j_iload X dX9_ordersWith_169 1 rfl ?_
    refine j_icmp_gt X 197 dX9_ordersWith_171 (by decide) (fun c_22 => ?_) (fun c_22 => ?_)
    · have h := bi_t c_22 h
      refine j_pick [0, 1] rfl ?_
      exact HK G h
    · have h := bi_f c_22 h
      refine j_aload_n X dX9_ordersWith_174 rfl 0 rfl ?_
      refine j_getR (C := RX9) (T := TX9) (N := 22) X 81 s_81 rfl hin_X9 19 (by decide) 95 rfl q_881 dX9_ordersWith_175 ?_
      refine j_iload X dX9_ordersWith_178 2 rfl ?_
      refine j_iload X dX9_ordersWith_180 2 rfl ?_
      have h := bb_a h
      have Hv_23 : ∀ v_23 : Int32, ((ast 256 G 95 x6 v_23).bind (fun q_24 => L_X9_ordersWith_167 x5 n (x6 + 1) q_24)).bind K = some res → J p l e rm_X9_ordersWith s m args below meth c (Qint below args s w res) w 8 G 190 [(0, .ref (w.1 81)), (5, .int x5), (6, .int x6)] [.int v_23, .int x6, .ref (w.1 95)] := by
        intro v_23 h
        obtain ⟨q_24, hq_24, h⟩ := bd_s h
        refine j_iast X 95 256 s_95 hq_24 dX9_ordersWith_190 ?_
        refine j_iinc (v := x6 + 1) X [(6, .int (x6 + 1)), (0, .ref (w.1 81)), (5, .int x5)] dX9_ordersWith_191 2 rfl rfl (by decide) rfl ?_
        refine j_goto X 167 dX9_ordersWith_194 (by decide) ?_
        refine j_pick [1, 2, 0] rfl ?_
        exact ih (x6 + 1) q_24 h
      refine j_if_ne X 189 dX9_ordersWith_182 (by decide) (fun c_25 => ?_) (fun c_25 => ?_)
      · have h := bi_f c_25 h
        refine j_iconst (v := 0) X dX9_ordersWith_189 (by decide) ?_
        refine j_pick [0, 1, 2] rfl ?_
        exact Hv_23 0 h
      · have h := bi_t c_25 h
        refine j_iconst (v := 1) X dX9_ordersWith_185 (by decide) ?_
        refine j_goto X 190 dX9_ordersWith_186 (by decide) ?_
        refine j_pick [0, 1, 2] rfl ?_
        exact Hv_23 1 h
set_option maxRecDepth 100000 in
set_option maxHeartbeats 4000000 in
theorem jL_X9_ordersWith_210 {p : Program} {l : Launch} {e : Env} {s : State} {m : MethodId} {args : Array Value} {below : List Frame} {meth : Method} {c : Code} {w : WP} (X : fw_X p s m args c cX9_ordersWith 8 RX9 w) (hr : meth.sig.returnType = (some .int)) (hk : meth.locks = false) {x5 : Int32} {x6 : Int32} {res : Int32 × Mem} {K : Mem → Option (Int32 × Mem)} (HK : ∀ v : Mem, K v = some res → J p l e rm_X9_ordersWith s m args below meth c (Qint below args s w res) w 8 v 268 [(0, .ref (w.1 81)), (5, .int x5), (6, .int x6)] []) : ∀ (n : Nat) (x7 : Int32) (G : Mem), (L_X9_ordersWith_210 x5 x6 n x7 G).bind K = some res → J p l e rm_X9_ordersWith s m args below meth c (Qint below args s w res) w 8 G 210 [(0, .ref (w.1 81)), (5, .int x5), (6, .int x6), (7, .int x7)] [] := by
  intro n
  induction n with
  | zero =>
    intro x7 G h
    rw [L_X9_ordersWith_210] at h
    cases h
  | succ n ih =>
    intro x7 G h
    rw [L_X9_ordersWith_210] at h
    refine j_iload X dX9_ordersWith_210 3 rfl ?_
    refine j_iload X dX9_ordersWith_212 1 rfl ?_
    refine j_icmp_gt X 268 dX9_ordersWith_214 (by decide) (fun c_28 => ?_) (fun c_28 => ?_)
    · have h := bi_t c_28 h
      refine j_pick [0, 1, 2] rfl ?_
      exact HK G h
    · have h := bi_f c_28 h
      refine j_aload_n X dX9_ordersWith_217 rfl 0 rfl ?_
      refine j_getR (C := RX9) (T := TX9) (N := 22) X 81 s_81 rfl hin_X9 19 (by decide) 95 rfl q_881 dX9_ordersWith_218 ?_
      refine j_iload X dX9_ordersWith_221 2 rfl ?_
      obtain ⟨r_29, hr_29, h⟩ := bd_s h
      refine j_iald X 95 256 s_95 hr_29 dX9_ordersWith_223 ?_
      refine j_if_le X 268 dX9_ordersWith_224 (by decide) (fun c_30 => ?_) (fun c_30 => ?_)
      · have h := bi_t c_30 h
        refine j_pick [0, 1, 2] rfl ?_
        exact HK G h
      · have h := bi_f c_30 h
        refine j_aload_n X dX9_ordersWith_227 rfl 0 rfl ?_
        refine j_getR (C := RX9) (T := TX9) (N := 22) X 81 s_81 rfl hin_X9 19 (by decide) 95 rfl q_881 dX9_ordersWith_228 ?_
        refine j_iload X dX9_ordersWith_231 2 rfl ?_
        refine j_iload X dX9_ordersWith_233 3 rfl ?_
        refine j_ior X dX9_ordersWith_235 ?_
        refine j_dup2 X dX9_ordersWith_236 rfl rfl ?_
        obtain ⟨r_31, hr_31, h⟩ := bd_s h
        refine j_iald X 95 256 s_95 hr_31 dX9_ordersWith_237 ?_
        refine j_aload_n X dX9_ordersWith_238 rfl 0 rfl ?_
        refine j_iload X dX9_ordersWith_239 3 rfl ?_
        refine j_iload X dX9_ordersWith_241 2 rfl ?_
        obtain ⟨r_32, hr_32, h⟩ := bd_s h
        refine j_callVi (As := [.int x7, .int x6]) X 81 s_81 rfl (c_X9_canCome l w G  x7 x6 hr_32) rfl pn_X9_canCome q_1074 q_1076 q_53 q_68 q_1077 ⟨Nat.le_of_ble_eq_true rfl, Nat.le_of_ble_eq_true rfl⟩ (Nat.le_of_ble_eq_true rfl) rfl dX9_ordersWith_243 ?_
        have h := bb_a h
        have Hv_33 : ∀ v_33 : Int32 × Int32, ((ast 256 G 95 (x6 ||| x7) (v_33.2 + v_33.1)).bind (fun q_34 => L_X9_ordersWith_210 x5 x6 n (x7 + 1) q_34)).bind K = some res → J p l e rm_X9_ordersWith s m args below meth c (Qint below args s w res) w 8 G 260 [(0, .ref (w.1 81)), (5, .int x5), (6, .int x6), (7, .int x7)] [.int v_33.1, .int v_33.2, .int (x6 ||| x7), .ref (w.1 95)] := by
          intro v_33 h
          refine j_iadd X dX9_ordersWith_260 ?_
          obtain ⟨q_34, hq_34, h⟩ := bd_s h
          refine j_iast X 95 256 s_95 hq_34 dX9_ordersWith_261 ?_
          refine j_iinc (v := x7 + 1) X [(7, .int (x7 + 1)), (0, .ref (w.1 81)), (5, .int x5), (6, .int x6)] dX9_ordersWith_262 3 rfl rfl (by decide) rfl ?_
          refine j_goto X 210 dX9_ordersWith_265 (by decide) ?_
          refine j_pick [1, 2, 3, 0] rfl ?_
          exact ih (x7 + 1) q_34 h
        refine j_if_eq X 259 dX9_ordersWith_246 (by decide) (fun c_35 => ?_) (fun c_35 => ?_)
        · have h := bi_t c_35 h
          refine j_iconst (v := 0) X dX9_ordersWith_259 (by decide) ?_
          refine j_pick [0, 1, 2, 3] rfl ?_
          exact Hv_33 (0, r_31) h
        · have h := bi_f c_35 h
          refine j_aload_n X dX9_ordersWith_249 rfl 0 rfl ?_
          refine j_getR (C := RX9) (T := TX9) (N := 22) X 81 s_81 rfl hin_X9 19 (by decide) 95 rfl q_881 dX9_ordersWith_250 ?_
          refine j_iload X dX9_ordersWith_253 2 rfl ?_
          obtain ⟨r_36, hr_36, h⟩ := bd_s h
          refine j_iald X 95 256 s_95 hr_36 dX9_ordersWith_255 ?_
          refine j_goto X 260 dX9_ordersWith_256 (by decide) ?_
          refine j_pick [0, 1, 2, 3] rfl ?_
          exact Hv_33 (r_36, r_31) h
set_option maxRecDepth 100000 in
set_option maxHeartbeats 4000000 in
theorem jL_X9_ordersWith_200 {p : Program} {l : Launch} {e : Env} {s : State} {m : MethodId} {args : Array Value} {below : List Frame} {meth : Method} {c : Code} {w : WP} (X : fw_X p s m args c cX9_ordersWith 8 RX9 w) (hr : meth.sig.returnType = (some .int)) (hk : meth.locks = false) {x5 : Int32} {res : Int32 × Mem} {K : Mem → Option (Int32 × Mem)} (HK : ∀ v : Mem, K v = some res → J p l e rm_X9_ordersWith s m args below meth c (Qint below args s w res) w 8 v 274 [(0, .ref (w.1 81)), (5, .int x5)] []) : ∀ (n : Nat) (x6 : Int32) (G : Mem), (L_X9_ordersWith_200 x5 n x6 G).bind K = some res → J p l e rm_X9_ordersWith s m args below meth c (Qint below args s w res) w 8 G 200 [(0, .ref (w.1 81)), (5, .int x5), (6, .int x6)] [] := by
  intro n
  induction n with
  | zero =>
    intro x6 G h
    rw [L_X9_ordersWith_200] at h
    cases h
  | succ n ih =>
    intro x6 G h
    rw [L_X9_ordersWith_200] at h
    refine j_iload X dX9_ordersWith_200 2 rfl ?_
    refine j_iload X dX9_ordersWith_202 1 rfl ?_
    refine j_icmp_ge X 274 dX9_ordersWith_204 (by decide) (fun c_27 => ?_) (fun c_27 => ?_)
    · have h := bi_t c_27 h
      refine j_pick [0, 1] rfl ?_
      exact HK G h
    · have h := bi_f c_27 h
      refine j_iconst (v := 1) X dX9_ordersWith_207 (by decide) ?_
      refine j_istore X [(7, .int 1), (0, .ref (w.1 81)), (5, .int x5), (6, .int x6)] dX9_ordersWith_208 (by decide) rfl ?_
      have h := bb_a h
      have Hv_37 : ∀ v_37 : Mem, (L_X9_ordersWith_200 x5 n (x6 + 1) v_37).bind K = some res → J p l e rm_X9_ordersWith s m args below meth c (Qint below args s w res) w 8 v_37 268 [(0, .ref (w.1 81)), (5, .int x5), (6, .int x6)] [] := by
        intro v_37 h
        refine j_iinc (v := x6 + 1) X [(6, .int (x6 + 1)), (0, .ref (w.1 81)), (5, .int x5)] dX9_ordersWith_268 2 rfl rfl (by decide) rfl ?_
        refine j_goto X 200 dX9_ordersWith_271 (by decide) ?_
        refine j_pick [1, 2, 0] rfl ?_
        exact ih (x6 + 1) v_37 h
      refine j_pick [1, 2, 3, 0] rfl ?_
      exact jL_X9_ordersWith_210 X hr hk Hv_37 NF 1 G h
set_option maxRecDepth 100000 in
set_option maxHeartbeats 4000000 in
theorem c_X9_ordersWith (l : Launch) (w : WP) (G : Mem) (p1 : Int32) (p2 : Int32) (p3 : Int32) {res : Int32 × Mem} (h0 : m_X9_ordersWith G p1 p2 p3 = some res) : CMi l yX9_ordersWith cX9_ordersWith 8 (some .int) 3 77 w [.ref (w.1 81), .int p1, .int p2, .int p3] G res := by
  refine CMi.of (by decide +kernel) (Nat.le_of_ble_eq_true rfl) ?_
  intro p e s m args below meth c X hr hk
  have h := bs_i h0
  unfold m_X9_ordersWith at h
  show J p l e rm_X9_ordersWith s m args below meth c (Qint below args s w res) w 8 G 0 [(0, .ref (w.1 81)), (1, .int p1), (2, .int p2), (3, .int p3)] []
  refine j_aload_n X dX9_ordersWith_0 rfl 0 rfl ?_
  refine j_aload_n X dX9_ordersWith_1 rfl 0 rfl ?_
  obtain ⟨r_1, hr_1, h⟩ := bd_s h
  refine j_callVi (As := []) X 81 s_81 rfl (c_X9_all l w G   hr_1) rfl pn_X9_all q_995 q_997 q_39 q_68 q_998 ⟨Nat.le_of_ble_eq_true rfl, Nat.le_of_ble_eq_true rfl⟩ (Nat.le_of_ble_eq_true rfl) rfl dX9_ordersWith_2 ?_
  refine j_iload_n X dX9_ordersWith_5 rfl 1 rfl ?_
  refine j_iload_n X dX9_ordersWith_6 rfl 2 rfl ?_
  refine j_iload_n X dX9_ordersWith_7 rfl 3 rfl ?_
  obtain ⟨q_2, hq_2, h⟩ := bd_s h
  refine j_callVv (As := [.int r_1, .int p1, .int p2, .int p3]) X 81 s_81 rfl (c_X9_laysAll l w G  r_1 p1 p2 p3 hq_2) rfl pn_X9_laysAll q_999 q_1001 q_40 q_68 q_1002 ⟨Nat.le_of_ble_eq_true rfl, Nat.le_of_ble_eq_true rfl⟩ (Nat.le_of_ble_eq_true rfl) rfl dX9_ordersWith_8 ?_
  refine j_aload_n X dX9_ordersWith_11 rfl 0 rfl ?_
  obtain ⟨q_3, hq_3, h⟩ := bd_s h
  refine j_callVi (As := []) X 81 s_81 rfl (c_X9_isSound l w q_2   hq_3) rfl pn_X9_isSound q_1023 q_1025 q_46 q_68 q_1026 ⟨Nat.le_of_ble_eq_true rfl, Nat.le_of_ble_eq_true rfl⟩ (Nat.le_of_ble_eq_true rfl) rfl dX9_ordersWith_12 ?_
  refine j_if_ne X 20 dX9_ordersWith_15 (by decide) (fun c_4 => ?_) (fun c_4 => ?_)
  · have h := bi_f c_4 h
    refine j_aload_n X dX9_ordersWith_20 rfl 0 rfl ?_
    obtain ⟨q_5, hq_5, h⟩ := bd_s h
    refine j_callVv (As := []) X 81 s_81 rfl (c_X9_laysBelow l w q_3.2   hq_5) rfl pn_X9_laysBelow q_1050 q_1052 q_50 q_68 q_1053 ⟨Nat.le_of_ble_eq_true rfl, Nat.le_of_ble_eq_true rfl⟩ (Nat.le_of_ble_eq_true rfl) rfl dX9_ordersWith_21 ?_
    refine j_aload_n X dX9_ordersWith_24 rfl 0 rfl ?_
    refine j_getR (C := RX9) (T := TX9) (N := 22) X 81 s_81 rfl hin_X9 1 (by decide) 82 rfl q_863 dX9_ordersWith_25 ?_
    refine j_iconst (v := 0) X dX9_ordersWith_28 (by decide) ?_
    obtain ⟨r_6, hr_6, h⟩ := bd_s h
    refine j_iald X 82 74 s_82 hr_6 dX9_ordersWith_29 ?_
    refine j_istore X [(4, .int r_6), (0, .ref (w.1 81)), (1, .int p1), (2, .int p2), (3, .int p3)] dX9_ordersWith_30 (by decide) rfl ?_
    refine j_iconst (v := 0) X dX9_ordersWith_32 (by decide) ?_
    refine j_istore X [(5, .int 0), (4, .int r_6), (0, .ref (w.1 81)), (1, .int p1), (2, .int p2), (3, .int p3)] dX9_ordersWith_33 (by decide) rfl ?_
    have h := bb_a h
    have Hv_21 : ∀ v_21 : Mem, ((L_X9_ordersWith_167 ((1 <<< (r_6 &&& 31)) - 1) NF 0 v_21).bind (fun v_26 => (L_X9_ordersWith_200 ((1 <<< (r_6 &&& 31)) - 1) NF 0 v_26).bind (fun v_38 => (ald 256 v_38 95 ((1 <<< (r_6 &&& 31)) - 1)).bind (fun r_39 => some (r_39, v_38))))).bind some = some res → J p l e rm_X9_ordersWith s m args below meth c (Qint below args s w res) w 8 v_21 156 [(0, .ref (w.1 81)), (4, .int r_6)] [] := by
      intro v_21 h
      refine j_iconst (v := 1) X dX9_ordersWith_156 (by decide) ?_
      refine j_iload X dX9_ordersWith_157 1 rfl ?_
      refine j_ishl X dX9_ordersWith_159 ?_
      refine j_iconst (v := 1) X dX9_ordersWith_160 (by decide) ?_
      refine j_isub X dX9_ordersWith_161 ?_
      refine j_istore X [(5, .int ((1 <<< (r_6 &&& 31)) - 1)), (0, .ref (w.1 81)), (4, .int r_6)] dX9_ordersWith_162 (by decide) rfl ?_
      refine j_iconst (v := 0) X dX9_ordersWith_164 (by decide) ?_
      refine j_istore X [(6, .int 0), (5, .int ((1 <<< (r_6 &&& 31)) - 1)), (0, .ref (w.1 81)), (4, .int r_6)] dX9_ordersWith_165 (by decide) rfl ?_
      have h := bb_a h
      have Hv_26 : ∀ v_26 : Mem, ((L_X9_ordersWith_200 ((1 <<< (r_6 &&& 31)) - 1) NF 0 v_26).bind (fun v_38 => (ald 256 v_38 95 ((1 <<< (r_6 &&& 31)) - 1)).bind (fun r_39 => some (r_39, v_38)))).bind some = some res → J p l e rm_X9_ordersWith s m args below meth c (Qint below args s w res) w 8 v_26 197 [(0, .ref (w.1 81)), (5, .int ((1 <<< (r_6 &&& 31)) - 1))] [] := by
        intro v_26 h
        refine j_iconst (v := 0) X dX9_ordersWith_197 (by decide) ?_
        refine j_istore X [(6, .int 0), (0, .ref (w.1 81)), (5, .int ((1 <<< (r_6 &&& 31)) - 1))] dX9_ordersWith_198 (by decide) rfl ?_
        have h := bb_a h
        have Hv_38 : ∀ v_38 : Mem, ((ald 256 v_38 95 ((1 <<< (r_6 &&& 31)) - 1)).bind (fun r_39 => some (r_39, v_38))).bind some = some res → J p l e rm_X9_ordersWith s m args below meth c (Qint below args s w res) w 8 v_38 274 [(0, .ref (w.1 81)), (5, .int ((1 <<< (r_6 &&& 31)) - 1))] [] := by
          intro v_38 h
          refine j_aload_n X dX9_ordersWith_274 rfl 0 rfl ?_
          refine j_getR (C := RX9) (T := TX9) (N := 22) X 81 s_81 rfl hin_X9 19 (by decide) 95 rfl q_881 dX9_ordersWith_275 ?_
          refine j_iload X dX9_ordersWith_278 1 rfl ?_
          obtain ⟨r_39, hr_39, h⟩ := bd_s h
          refine j_iald X 95 256 s_95 hr_39 dX9_ordersWith_280 ?_
          exact j_iret X hr hk dX9_ordersWith_281 (Option.some.inj h)
        refine j_pick [1, 2, 0] rfl ?_
        exact jL_X9_ordersWith_200 X hr hk Hv_38 NF 0 v_26 h
      refine j_pick [2, 1, 0] rfl ?_
      exact jL_X9_ordersWith_167 X hr hk Hv_26 NF 0 v_21 h
    refine j_pick [2, 1, 0] rfl ?_
    exact jL_X9_ordersWith_35 X hr hk Hv_21 NF 0 q_5 h
  · have h := bi_t c_4 h
    refine j_iconst (v := 0) X dX9_ordersWith_18 (by decide) ?_
    exact j_iret X hr hk dX9_ordersWith_19 (Option.some.inj h)
abbrev rm_X9_leftBy : Room := { frames := 4, cells := 0, slots := 0, locals := 104 }
theorem pn_X9_leftBy : yX9_leftBy.cls ≠ "java/lang/invoke/MethodHandle" ∧ yX9_leftBy.cls ≠ "java/lang/invoke/VarHandle" ∧ (parseMethodDescriptor yX9_leftBy.desc).map (fun d => d.parameters.length) = some 3 := by decide +kernel
def m_X9_leftBy (G : Mem) (p1 : Int32) (p2 : Int32) (p3 : Int32) : Option (Int32 × Mem) := (if p3 = 2 then (m_X9_ordersWith G (2 + (2 * p2)) 0 (2 + (2 * p1))).bind (fun q_3 => some (q_3.1, q_3.2)) else (m_X9_ordersWith G (2 + (2 * p1)) p3 (2 + (2 * p2))).bind (fun q_2 => some (q_2.1, q_2.2)))
set_option maxRecDepth 100000 in
set_option maxHeartbeats 4000000 in
theorem c_X9_leftBy (l : Launch) (w : WP) (G : Mem) (p1 : Int32) (p2 : Int32) (p3 : Int32) {res : Int32 × Mem} (h0 : m_X9_leftBy G p1 p2 p3 = some res) : CMi l yX9_leftBy cX9_leftBy 6 (some .int) 4 104 w [.ref (w.1 81), .int p1, .int p2, .int p3] G res := by
  refine CMi.of (by decide +kernel) (Nat.le_of_ble_eq_true rfl) ?_
  intro p e s m args below meth c X hr hk
  have h := bs_i h0
  unfold m_X9_leftBy at h
  show J p l e rm_X9_leftBy s m args below meth c (Qint below args s w res) w 6 G 0 [(0, .ref (w.1 81)), (1, .int p1), (2, .int p2), (3, .int p3)] []
  refine j_iconst (v := 2) X dX9_leftBy_0 (by decide) ?_
  refine j_iconst (v := 2) X dX9_leftBy_1 (by decide) ?_
  refine j_iload_n X dX9_leftBy_2 rfl 1 rfl ?_
  refine j_imul X dX9_leftBy_3 ?_
  refine j_iadd X dX9_leftBy_4 ?_
  refine j_istore X [(4, .int (2 + (2 * p1))), (0, .ref (w.1 81)), (1, .int p1), (2, .int p2), (3, .int p3)] dX9_leftBy_5 (by decide) rfl ?_
  refine j_iconst (v := 2) X dX9_leftBy_7 (by decide) ?_
  refine j_iconst (v := 2) X dX9_leftBy_8 (by decide) ?_
  refine j_iload_n X dX9_leftBy_9 rfl 3 rfl ?_
  refine j_imul X dX9_leftBy_10 ?_
  refine j_iadd X dX9_leftBy_11 ?_
  refine j_istore X [(5, .int (2 + (2 * p2))), (4, .int (2 + (2 * p1))), (0, .ref (w.1 81)), (1, .int p1), (2, .int p2), (3, .int p3)] dX9_leftBy_12 (by decide) rfl ?_
  refine j_iload_n X dX9_leftBy_14 rfl 5 rfl ?_
  refine j_iconst (v := 2) X dX9_leftBy_15 (by decide) ?_
  refine j_icmp_ne X 31 dX9_leftBy_16 (by decide) (fun c_1 => ?_) (fun c_1 => ?_)
  · have h := bi_f c_1 h
    refine j_aload_n X dX9_leftBy_31 rfl 2 rfl ?_
    refine j_iload X dX9_leftBy_32 1 rfl ?_
    refine j_iload_n X dX9_leftBy_34 rfl 5 rfl ?_
    refine j_iload X dX9_leftBy_35 0 rfl ?_
    obtain ⟨q_2, hq_2, h⟩ := bd_s h
    refine j_callVi (As := [.int (2 + (2 * p1)), .int p3, .int (2 + (2 * p2))]) X 81 s_81 rfl (c_X9_ordersWith l w G  (2 + (2 * p1)) p3 (2 + (2 * p2)) hq_2) rfl pn_X9_ordersWith q_1070 q_1072 q_52 q_68 q_1073 ⟨Nat.le_of_ble_eq_true rfl, Nat.le_of_ble_eq_true rfl⟩ (Nat.le_of_ble_eq_true rfl) rfl dX9_leftBy_37 ?_
    exact j_iret X hr hk dX9_leftBy_40 (Option.some.inj h)
  · have h := bi_t c_1 h
    refine j_aload_n X dX9_leftBy_19 rfl 2 rfl ?_
    refine j_iload X dX9_leftBy_20 0 rfl ?_
    refine j_iconst (v := 0) X dX9_leftBy_22 (by decide) ?_
    refine j_iload X dX9_leftBy_23 1 rfl ?_
    obtain ⟨q_3, hq_3, h⟩ := bd_s h
    refine j_callVi (As := [.int (2 + (2 * p2)), .int 0, .int (2 + (2 * p1))]) X 81 s_81 rfl (c_X9_ordersWith l w G  (2 + (2 * p2)) 0 (2 + (2 * p1)) hq_3) rfl pn_X9_ordersWith q_1070 q_1072 q_52 q_68 q_1073 ⟨Nat.le_of_ble_eq_true rfl, Nat.le_of_ble_eq_true rfl⟩ (Nat.le_of_ble_eq_true rfl) rfl dX9_leftBy_25 ?_
    refine j_goto X 40 dX9_leftBy_28 (by decide) ?_
    exact j_iret X hr hk dX9_leftBy_40 (Option.some.inj h)
