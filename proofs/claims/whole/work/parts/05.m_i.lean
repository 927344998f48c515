abbrev rm_X9_best : Room := { frames := 5, cells := 0, slots := 0, locals := 129 }
theorem pn_X9_best : yX9_best.cls ≠ "java/lang/invoke/MethodHandle" ∧ yX9_best.cls ≠ "java/lang/invoke/VarHandle" ∧ (parseMethodDescriptor yX9_best.desc).map (fun d => d.parameters.length) = some 1 := by decide +kernel
def L_X9_best_81 (x4 : Int32) (x5 : Int32) : Nat → Int32 → Int32 → Mem → Option (Int32 × Mem)
  | 0, _, _, _ => none
  | n + 1, x6, x7, G => (if 3 ≤ x7 then some (x6, G) else (m_X9_leftBy G x4 x5 x7).bind (fun q_11 => ((if q_11.1 ≤ x6 then some (x6, q_11.2) else some (q_11.1, q_11.2)) : Option (Int32 × Mem)).bind (fun (v_12 : Int32 × Mem) => L_X9_best_81 x4 x5 n v_12.1 (x7 + 1) v_12.2)))
def L_X9_best_41 (x1 : Int32) (x4 : Int32) : Nat → Int32 → Int32 → Int32 → Mem → Option (Int32 × Int32 × Mem)
  | 0, _, _, _, _ => none
  | n + 1, x2, x3, x5, G => (ald 74 G 82 0).bind (fun r_4 => (if r_4 ≤ x5 then some (x2, x3, G) else (m_X9_all G).bind (fun r_6 => (m_X9_knownBy G r_6 (2 + (2 * x4)) (2 + (2 * x5))).bind (fun q_7 => ((if q_7.1 = 0 then (L_X9_best_81 x4 x5 NF 0 0 q_7.2).bind (fun v_14 => ((if x2 < 0 then some 1 else (if x2 ≤ v_14.1 then some 0 else some 1)) : Option (Int32)).bind (fun (v_15 : Int32) => ((if v_15 = 0 then some x3 else (if x1 = 0 then some x4 else (if x1 = 1 then some x5 else some v_14.1))) : Option (Int32)).bind (fun (v_16 : Int32) => ((if v_15 = 0 then some x2 else some v_14.1) : Option (Int32)).bind (fun (v_17 : Int32) => some (v_17, v_16, v_14.2))))) else some (x2, x3, q_7.2)) : Option (Int32 × Int32 × Mem)).bind (fun (v_8 : Int32 × Int32 × Mem) => L_X9_best_41 x1 x4 n v_8.1 v_8.2.1 (x5 + 1) v_8.2.2)))))
def L_X9_best_24 (x1 : Int32) : Nat → Int32 → Int32 → Int32 → Mem → Option (Int32 × Mem)
  | 0, _, _, _, _ => none
  | n + 1, x2, x3, x4, G => (ald 74 G 82 0).bind (fun r_2 => (if r_2 ≤ x4 then some (x3, G) else (L_X9_best_41 x1 x4 NF x2 x3 (x4 + 1) G).bind (fun v_24 => L_X9_best_24 x1 n v_24.1 v_24.2.1 (x4 + 1) v_24.2.2)))
def m_X9_best (G : Mem) (p1 : Int32) : Option (Int32 × Mem) := (if (m_X9_in p1 0 2) = 0 then some ((-1), upm G 81 0 0) else (L_X9_best_24 p1 NF (-1) (-9) 0 (upm G 81 0 0)).bind (fun v_25 => some (v_25.1, v_25.2)))
set_option maxRecDepth 100000 in
set_option maxHeartbeats 4000000 in
theorem jL_X9_best_81 {p : Program} {l : Launch} {e : Env} {s : State} {m : MethodId} {args : Array Value} {below : List Frame} {meth : Method} {c : Code} {w : WP} (X : fw_X p s m args c cX9_best 9 RX9 w) (hr : meth.sig.returnType = (some .int)) (hk : meth.locks = false) {x1 : Int32} {x2 : Int32} {x3 : Int32} {x4 : Int32} {x5 : Int32} {res : Int32 × Mem} {K : Int32 × Mem → Option (Int32 × Mem)} (HK : ∀ v : Int32 × Mem, K v = some res → J p l e rm_X9_best s m args below meth c (Qint below args s w res) w 9 v.2 121 [(0, .ref (w.1 81)), (1, .int x1), (2, .int x2), (3, .int x3), (4, .int x4), (5, .int x5), (6, .int v.1)] []) : ∀ (n : Nat) (x6 : Int32) (x7 : Int32) (G : Mem), (L_X9_best_81 x4 x5 n x6 x7 G).bind K = some res → J p l e rm_X9_best s m args below meth c (Qint below args s w res) w 9 G 81 [(0, .ref (w.1 81)), (1, .int x1), (2, .int x2), (3, .int x3), (4, .int x4), (5, .int x5), (6, .int x6), (7, .int x7)] [] := by
  intro n
  induction n with
  | zero =>
    intro x6 x7 G h
    rw [L_X9_best_81] at h
    cases h
  | succ n ih =>
    intro x6 x7 G h
    rw [L_X9_best_81] at h
    refine j_iload X dX9_best_81 7 rfl ?_
    refine j_iconst (v := 3) X dX9_best_83 (by decide) ?_
    refine j_icmp_ge X 121 dX9_best_84 (by decide) (fun c_10 => ?_) (fun c_10 => ?_)
    · have h := bi_t c_10 h
      refine j_pick [0, 1, 2, 3, 4, 5, 6] rfl ?_
      exact HK (x6, G) h
    · have h := bi_f c_10 h
      refine j_aload_n X dX9_best_87 rfl 0 rfl ?_
      refine j_iload X dX9_best_88 4 rfl ?_
      refine j_iload X dX9_best_90 5 rfl ?_
      refine j_iload X dX9_best_92 7 rfl ?_
      obtain ⟨q_11, hq_11, h⟩ := bd_s h
      refine j_callVi (As := [.int x4, .int x5, .int x7]) X 81 s_81 rfl (c_X9_leftBy l w G  x4 x5 x7 hq_11) rfl pn_X9_leftBy q_1082 q_1084 q_54 q_68 q_1085 ⟨Nat.le_of_ble_eq_true rfl, Nat.le_of_ble_eq_true rfl⟩ (Nat.le_of_ble_eq_true rfl) rfl dX9_best_94 ?_
      refine j_istore X [(8, .int q_11.1), (0, .ref (w.1 81)), (1, .int x1), (2, .int x2), (3, .int x3), (4, .int x4), (5, .int x5), (6, .int x6), (7, .int x7)] dX9_best_97 (by decide) rfl ?_
      refine j_iload X dX9_best_99 0 rfl ?_
      refine j_iload X dX9_best_101 7 rfl ?_
      have h := bb_a h
      have Hv_12 : ∀ v_12 : Int32 × Mem, (L_X9_best_81 x4 x5 n v_12.1 (x7 + 1) v_12.2).bind K = some res → J p l e rm_X9_best s m args below meth c (Qint below args s w res) w 9 v_12.2 113 [(0, .ref (w.1 81)), (1, .int x1), (2, .int x2), (3, .int x3), (4, .int x4), (5, .int x5), (7, .int x7)] [.int v_12.1] := by
        intro v_12 h
        refine j_istore X [(6, .int v_12.1), (0, .ref (w.1 81)), (1, .int x1), (2, .int x2), (3, .int x3), (4, .int x4), (5, .int x5), (7, .int x7)] dX9_best_113 (by decide) rfl ?_
        refine j_iinc (v := x7 + 1) X [(7, .int (x7 + 1)), (6, .int v_12.1), (0, .ref (w.1 81)), (1, .int x1), (2, .int x2), (3, .int x3), (4, .int x4), (5, .int x5)] dX9_best_115 7 rfl rfl (by decide) rfl ?_
        refine j_goto X 81 dX9_best_118 (by decide) ?_
        refine j_pick [2, 3, 4, 5, 6, 7, 1, 0] rfl ?_
        exact ih v_12.1 (x7 + 1) v_12.2 h
      refine j_icmp_le X 111 dX9_best_103 (by decide) (fun c_13 => ?_) (fun c_13 => ?_)
      · have h := bi_t c_13 h
        refine j_iload X dX9_best_111 7 rfl ?_
        refine j_pick [1, 2, 3, 4, 5, 6, 8] rfl ?_
        exact Hv_12 (x6, q_11.2) h
      · have h := bi_f c_13 h
        refine j_iload X dX9_best_106 0 rfl ?_
        refine j_goto X 113 dX9_best_108 (by decide) ?_
        refine j_pick [1, 2, 3, 4, 5, 6, 8] rfl ?_
        exact Hv_12 (q_11.1, q_11.2) h
set_option maxRecDepth 100000 in
set_option maxHeartbeats 4000000 in
theorem jL_X9_best_41 {p : Program} {l : Launch} {e : Env} {s : State} {m : MethodId} {args : Array Value} {below : List Frame} {meth : Method} {c : Code} {w : WP} (X : fw_X p s m args c cX9_best 9 RX9 w) (hr : meth.sig.returnType = (some .int)) (hk : meth.locks = false) {x1 : Int32} {x4 : Int32} {res : Int32 × Mem} {K : Int32 × Int32 × Mem → Option (Int32 × Mem)} (HK : ∀ v : Int32 × Int32 × Mem, K v = some res → J p l e rm_X9_best s m args below meth c (Qint below args s w res) w 9 v.2.2 187 [(0, .ref (w.1 81)), (1, .int x1), (2, .int v.1), (3, .int v.2.1), (4, .int x4)] []) : ∀ (n : Nat) (x2 : Int32) (x3 : Int32) (x5 : Int32) (G : Mem), (L_X9_best_41 x1 x4 n x2 x3 x5 G).bind K = some res → J p l e rm_X9_best s m args below meth c (Qint below args s w res) w 9 G 41 [(0, .ref (w.1 81)), (1, .int x1), (2, .int x2), (3, .int x3), (4, .int x4), (5, .int x5)] [] := by
  intro n
  induction n with
  | zero =>
    intro x2 x3 x5 G h
    rw [L_X9_best_41] at h
    cases h
  | succ n ih =>
    intro x2 x3 x5 G h
    rw [L_X9_best_41] at h
    refine j_iload X dX9_best_41 5 rfl ?_
    refine j_aload_n X dX9_best_43 rfl 0 rfl ?_
    refine j_getR (C := RX9) (T := TX9) (N := 22) X 81 s_81 rfl hin_X9 1 (by decide) 82 rfl q_863 dX9_best_44 ?_
    refine j_iconst (v := 0) X dX9_best_47 (by decide) ?_
    obtain ⟨r_4, hr_4, h⟩ := bd_s h
    refine j_iald X 82 74 s_82 hr_4 dX9_best_48 ?_
    refine j_icmp_ge X 187 dX9_best_49 (by decide) (fun c_5 => ?_) (fun c_5 => ?_)
    · have h := bi_t c_5 h
      refine j_pick [0, 1, 2, 3, 4] rfl ?_
      exact HK (x2, x3, G) h
    · have h := bi_f c_5 h
      refine j_aload_n X dX9_best_52 rfl 0 rfl ?_
      refine j_aload_n X dX9_best_53 rfl 0 rfl ?_
      obtain ⟨r_6, hr_6, h⟩ := bd_s h
      refine j_callVi (As := []) X 81 s_81 rfl (c_X9_all l w G   hr_6) rfl pn_X9_all q_995 q_997 q_39 q_68 q_998 ⟨Nat.le_of_ble_eq_true rfl, Nat.le_of_ble_eq_true rfl⟩ (Nat.le_of_ble_eq_true rfl) rfl dX9_best_54 ?_
      refine j_iconst (v := 2) X dX9_best_57 (by decide) ?_
      refine j_iconst (v := 2) X dX9_best_58 (by decide) ?_
      refine j_iload X dX9_best_59 4 rfl ?_
      refine j_imul X dX9_best_61 ?_
      refine j_iadd X dX9_best_62 ?_
      refine j_iconst (v := 2) X dX9_best_63 (by decide) ?_
      refine j_iconst (v := 2) X dX9_best_64 (by decide) ?_
      refine j_iload X dX9_best_65 5 rfl ?_
      refine j_imul X dX9_best_67 ?_
      refine j_iadd X dX9_best_68 ?_
      obtain ⟨q_7, hq_7, h⟩ := bd_s h
      refine j_callVi (As := [.int r_6, .int (2 + (2 * x4)), .int (2 + (2 * x5))]) X 81 s_81 rfl (c_X9_knownBy l w G  r_6 (2 + (2 * x4)) (2 + (2 * x5)) hq_7) rfl pn_X9_knownBy q_1046 q_1048 q_49 q_68 q_1049 ⟨Nat.le_of_ble_eq_true rfl, Nat.le_of_ble_eq_true rfl⟩ (Nat.le_of_ble_eq_true rfl) rfl dX9_best_69 ?_
      have h := bb_a h
      have Hv_8 : ∀ v_8 : Int32 × Int32 × Mem, (L_X9_best_41 x1 x4 n v_8.1 v_8.2.1 (x5 + 1) v_8.2.2).bind K = some res → J p l e rm_X9_best s m args below meth c (Qint below args s w res) w 9 v_8.2.2 181 [(0, .ref (w.1 81)), (1, .int x1), (2, .int v_8.1), (3, .int v_8.2.1), (4, .int x4), (5, .int x5)] [] := by
        intro v_8 h
        refine j_iinc (v := x5 + 1) X [(5, .int (x5 + 1)), (0, .ref (w.1 81)), (1, .int x1), (2, .int v_8.1), (3, .int v_8.2.1), (4, .int x4)] dX9_best_181 5 rfl rfl (by decide) rfl ?_
        refine j_goto X 41 dX9_best_184 (by decide) ?_
        refine j_pick [1, 2, 3, 4, 5, 0] rfl ?_
        exact ih v_8.1 v_8.2.1 (x5 + 1) v_8.2.2 h
      refine j_if_ne X 181 dX9_best_72 (by decide) (fun c_9 => ?_) (fun c_9 => ?_)
      · have h := bi_f c_9 h
        refine j_pick [0, 1, 2, 3, 4, 5] rfl ?_
        exact Hv_8 (x2, x3, q_7.2) h
      · have h := bi_t c_9 h
        refine j_iconst (v := 0) X dX9_best_75 (by decide) ?_
        refine j_istore X [(6, .int 0), (0, .ref (w.1 81)), (1, .int x1), (2, .int x2), (3, .int x3), (4, .int x4), (5, .int x5)] dX9_best_76 (by decide) rfl ?_
        refine j_iconst (v := 0) X dX9_best_78 (by decide) ?_
        refine j_istore X [(7, .int 0), (6, .int 0), (0, .ref (w.1 81)), (1, .int x1), (2, .int x2), (3, .int x3), (4, .int x4), (5, .int x5)] dX9_best_79 (by decide) rfl ?_
        have h := bb_a h
        have Hv_14 : ∀ v_14 : Int32 × Mem, (((if x2 < 0 then some 1 else (if x2 ≤ v_14.1 then some 0 else some 1)) : Option (Int32)).bind (fun (v_15 : Int32) => ((if v_15 = 0 then some x3 else (if x1 = 0 then some x4 else (if x1 = 1 then some x5 else some v_14.1))) : Option (Int32)).bind (fun (v_16 : Int32) => ((if v_15 = 0 then some x2 else some v_14.1) : Option (Int32)).bind (fun (v_17 : Int32) => some (v_17, v_16, v_14.2))))).bind (fun (v_8 : Int32 × Int32 × Mem) => (L_X9_best_41 x1 x4 n v_8.1 v_8.2.1 (x5 + 1) v_8.2.2).bind K) = some res → J p l e rm_X9_best s m args below meth c (Qint below args s w res) w 9 v_14.2 121 [(0, .ref (w.1 81)), (1, .int x1), (2, .int x2), (3, .int x3), (4, .int x4), (5, .int x5), (6, .int v_14.1)] [] := by
          intro v_14 h
          refine j_iload_n X dX9_best_121 rfl 2 rfl ?_
          have h := bb_a h
          have Hv_15 : ∀ v_15 : Int32, (((if v_15 = 0 then some x3 else (if x1 = 0 then some x4 else (if x1 = 1 then some x5 else some v_14.1))) : Option (Int32)).bind (fun (v_16 : Int32) => ((if v_15 = 0 then some x2 else some v_14.1) : Option (Int32)).bind (fun (v_17 : Int32) => some (v_17, v_16, v_14.2)))).bind (fun (v_8 : Int32 × Int32 × Mem) => (L_X9_best_41 x1 x4 n v_8.1 v_8.2.1 (x5 + 1) v_8.2.2).bind K) = some res → J p l e rm_X9_best s m args below meth c (Qint below args s w res) w 9 v_14.2 136 [(0, .ref (w.1 81)), (1, .int x1), (2, .int x2), (3, .int x3), (4, .int x4), (5, .int x5), (6, .int v_14.1)] [.int v_15] := by
            intro v_15 h
            refine j_istore X [(7, .int v_15), (0, .ref (w.1 81)), (1, .int x1), (2, .int x2), (3, .int x3), (4, .int x4), (5, .int x5), (6, .int v_14.1)] dX9_best_136 (by decide) rfl ?_
            refine j_iload X dX9_best_138 0 rfl ?_
            have h := bb_a h
            have Hv_16 : ∀ v_16 : Int32, (((if v_15 = 0 then some x2 else some v_14.1) : Option (Int32)).bind (fun (v_17 : Int32) => some (v_17, v_16, v_14.2))).bind (fun (v_8 : Int32 × Int32 × Mem) => (L_X9_best_41 x1 x4 n v_8.1 v_8.2.1 (x5 + 1) v_8.2.2).bind K) = some res → J p l e rm_X9_best s m args below meth c (Qint below args s w res) w 9 v_14.2 168 [(0, .ref (w.1 81)), (1, .int x1), (2, .int x2), (4, .int x4), (5, .int x5), (6, .int v_14.1), (7, .int v_15)] [.int v_16] := by
              intro v_16 h
              refine j_istore_n X [(3, .int v_16), (0, .ref (w.1 81)), (1, .int x1), (2, .int x2), (4, .int x4), (5, .int x5), (6, .int v_14.1), (7, .int v_15)] dX9_best_168 rfl (by decide) rfl ?_
              refine j_iload X dX9_best_169 7 rfl ?_
              have h := bb_a h
              have Hv_17 : ∀ v_17 : Int32, (some (v_17, v_16, v_14.2)).bind (fun (v_8 : Int32 × Int32 × Mem) => (L_X9_best_41 x1 x4 n v_8.1 v_8.2.1 (x5 + 1) v_8.2.2).bind K) = some res → J p l e rm_X9_best s m args below meth c (Qint below args s w res) w 9 v_14.2 180 [(0, .ref (w.1 81)), (1, .int x1), (3, .int v_16), (4, .int x4), (5, .int x5)] [.int v_17] := by
                intro v_17 h
                refine j_istore_n X [(2, .int v_17), (0, .ref (w.1 81)), (1, .int x1), (3, .int v_16), (4, .int x4), (5, .int x5)] dX9_best_180 rfl (by decide) rfl ?_
                refine j_pick [1, 2, 0, 3, 4, 5] rfl ?_
                exact Hv_8 (v_17, v_16, v_14.2) h
              refine j_if_eq X 179 dX9_best_171 (by decide) (fun c_18 => ?_) (fun c_18 => ?_)
              · have h := bi_t c_18 h
                refine j_iload_n X dX9_best_179 rfl 3 rfl ?_
                refine j_pick [1, 2, 0, 4, 5] rfl ?_
                exact Hv_17 x2 h
              · have h := bi_f c_18 h
                refine j_iload X dX9_best_174 6 rfl ?_
                refine j_goto X 180 dX9_best_176 (by decide) ?_
                refine j_pick [1, 2, 0, 4, 5] rfl ?_
                exact Hv_17 v_14.1 h
            refine j_if_eq X 167 dX9_best_140 (by decide) (fun c_19 => ?_) (fun c_19 => ?_)
            · have h := bi_t c_19 h
              refine j_iload_n X dX9_best_167 rfl 4 rfl ?_
              refine j_pick [1, 2, 3, 5, 6, 7, 0] rfl ?_
              exact Hv_16 x3 h
            · have h := bi_f c_19 h
              refine j_iload_n X dX9_best_143 rfl 2 rfl ?_
              refine j_if_ne X 152 dX9_best_144 (by decide) (fun c_20 => ?_) (fun c_20 => ?_)
              · have h := bi_f c_20 h
                refine j_iload_n X dX9_best_152 rfl 2 rfl ?_
                refine j_iconst (v := 1) X dX9_best_153 (by decide) ?_
                refine j_icmp_ne X 162 dX9_best_154 (by decide) (fun c_21 => ?_) (fun c_21 => ?_)
                · have h := bi_f c_21 h
                  refine j_iload X dX9_best_162 7 rfl ?_
                  refine j_goto X 168 dX9_best_164 (by decide) ?_
                  refine j_pick [1, 2, 3, 5, 6, 7, 0] rfl ?_
                  exact Hv_16 v_14.1 h
                · have h := bi_t c_21 h
                  refine j_iload X dX9_best_157 6 rfl ?_
                  refine j_goto X 168 dX9_best_159 (by decide) ?_
                  refine j_pick [1, 2, 3, 5, 6, 7, 0] rfl ?_
                  exact Hv_16 x5 h
              · have h := bi_t c_20 h
                refine j_iload X dX9_best_147 5 rfl ?_
                refine j_goto X 168 dX9_best_149 (by decide) ?_
                refine j_pick [1, 2, 3, 5, 6, 7, 0] rfl ?_
                exact Hv_16 x4 h
          refine j_if_lt X 131 dX9_best_122 (by decide) (fun c_22 => ?_) (fun c_22 => ?_)
          · have h := bi_t c_22 h
            refine j_iconst (v := 1) X dX9_best_131 (by decide) ?_
            refine j_goto X 136 dX9_best_132 (by decide) ?_
            refine j_pick [0, 1, 2, 3, 4, 5, 6] rfl ?_
            exact Hv_15 1 h
          · have h := bi_f c_22 h
            refine j_iload X dX9_best_125 6 rfl ?_
            refine j_iload_n X dX9_best_127 rfl 2 rfl ?_
            refine j_icmp_ge X 135 dX9_best_128 (by decide) (fun c_23 => ?_) (fun c_23 => ?_)
            · have h := bi_t c_23 h
              refine j_iconst (v := 0) X dX9_best_135 (by decide) ?_
              refine j_pick [0, 1, 2, 3, 4, 5, 6] rfl ?_
              exact Hv_15 0 h
            · have h := bi_f c_23 h
              refine j_iconst (v := 1) X dX9_best_131 (by decide) ?_
              refine j_goto X 136 dX9_best_132 (by decide) ?_
              refine j_pick [0, 1, 2, 3, 4, 5, 6] rfl ?_
              exact Hv_15 1 h
        refine j_pick [2, 3, 4, 5, 6, 7, 1, 0] rfl ?_
        exact jL_X9_best_81 X hr hk Hv_14 NF 0 0 q_7.2 h
set_option maxRecDepth 100000 in
set_option maxHeartbeats 4000000 in
theorem jL_X9_best_24 {p : Program} {l : Launch} {e : Env} {s : State} {m : MethodId} {args : Array Value} {below : List Frame} {meth : Method} {c : Code} {w : WP} (X : fw_X p s m args c cX9_best 9 RX9 w) (hr : meth.sig.returnType = (some .int)) (hk : meth.locks = false) {x1 : Int32} {res : Int32 × Mem} {K : Int32 × Mem → Option (Int32 × Mem)} (HK : ∀ v : Int32 × Mem, K v = some res → J p l e rm_X9_best s m args below meth c (Qint below args s w res) w 9 v.2 193 [(3, .int v.1)] []) : ∀ (n : Nat) (x2 : Int32) (x3 : Int32) (x4 : Int32) (G : Mem), (L_X9_best_24 x1 n x2 x3 x4 G).bind K = some res → J p l e rm_X9_best s m args below meth c (Qint below args s w res) w 9 G 24 [(0, .ref (w.1 81)), (1, .int x1), (2, .int x2), (3, .int x3), (4, .int x4)] [] := by
  intro n
  induction n with
  | zero =>
    intro x2 x3 x4 G h
    rw [L_X9_best_24] at h
    cases h
  | succ n ih =>
    intro x2 x3 x4 G h
    rw [L_X9_best_24] at h
    refine j_iload X dX9_best_24 4 rfl ?_
    refine j_aload_n X dX9_best_26 rfl 0 rfl ?_
    refine j_getR (C := RX9) (T := TX9) (N := 22) X 81 s_81 rfl hin_X9 1 (by decide) 82 rfl q_863 dX9_best_27 ?_
    refine j_iconst (v := 0) X dX9_best_30 (by decide) ?_
    obtain ⟨r_2, hr_2, h⟩ := bd_s h
    refine j_iald X 82 74 s_82 hr_2 dX9_best_31 ?_
    refine j_icmp_ge X 193 dX9_best_32 (by decide) (fun c_3 => ?_) (fun c_3 => ?_)
    · have h := bi_t c_3 h
      refine j_pick [3] rfl ?_
      exact HK (x3, G) h
    · have h := bi_f c_3 h
      refine j_iload X dX9_best_35 4 rfl ?_
      refine j_iconst (v := 1) X dX9_best_37 (by decide) ?_
      refine j_iadd X dX9_best_38 ?_
      refine j_istore X [(5, .int (x4 + 1)), (0, .ref (w.1 81)), (1, .int x1), (2, .int x2), (3, .int x3), (4, .int x4)] dX9_best_39 (by decide) rfl ?_
      have h := bb_a h
      have Hv_24 : ∀ v_24 : Int32 × Int32 × Mem, (L_X9_best_24 x1 n v_24.1 v_24.2.1 (x4 + 1) v_24.2.2).bind K = some res → J p l e rm_X9_best s m args below meth c (Qint below args s w res) w 9 v_24.2.2 187 [(0, .ref (w.1 81)), (1, .int x1), (2, .int v_24.1), (3, .int v_24.2.1), (4, .int x4)] [] := by
        intro v_24 h
        refine j_iinc (v := x4 + 1) X [(4, .int (x4 + 1)), (0, .ref (w.1 81)), (1, .int x1), (2, .int v_24.1), (3, .int v_24.2.1)] dX9_best_187 4 rfl rfl (by decide) rfl ?_
        refine j_goto X 24 dX9_best_190 (by decide) ?_
        refine j_pick [1, 2, 3, 4, 0] rfl ?_
        exact ih v_24.1 v_24.2.1 (x4 + 1) v_24.2.2 h
      refine j_pick [1, 2, 3, 4, 5, 0] rfl ?_
      exact jL_X9_best_41 X hr hk Hv_24 NF x2 x3 (x4 + 1) G h
set_option maxRecDepth 100000 in
set_option maxHeartbeats 4000000 in
theorem c_X9_best (l : Launch) (w : WP) (G : Mem) (p1 : Int32) {res : Int32 × Mem} (h0 : m_X9_best G p1 = some res) : CMi l yX9_best cX9_best 9 (some .int) 5 129 w [.ref (w.1 81), .int p1] G res := by
  refine CMi.of (by decide +kernel) (Nat.le_of_ble_eq_true rfl) ?_
  intro p e s m args below meth c X hr hk
  have h := bs_i h0
  unfold m_X9_best at h
  show J p l e rm_X9_best s m args below meth c (Qint below args s w res) w 9 G 0 [(0, .ref (w.1 81)), (1, .int p1)] []
  refine j_aload_n X dX9_best_0 rfl 0 rfl ?_
  refine j_iconst (v := 0) X dX9_best_1 (by decide) ?_
  refine j_putI (C := RX9) (T := TX9) (N := 22) X tyX9 tyX9_ok nmX9 81 s_81 rfl hin_X9 0 (by decide) rfl q_862 rfl rfl dX9_best_2 ?_
  refine j_iload_n X dX9_best_5 rfl 1 rfl ?_
  refine j_iconst (v := 0) X dX9_best_6 (by decide) ?_
  refine j_iconst (v := 2) X dX9_best_7 (by decide) ?_
  refine j_callSi (As := [.int p1, .int 0, .int 2]) X (c_X9_in l w (upm G 81 0 0)  p1 0 2) pn_X9_in q_934 q_935 q_68 q_936 ⟨Nat.le_of_ble_eq_true rfl, Nat.le_of_ble_eq_true rfl⟩ (Nat.le_of_ble_eq_true rfl) rfl dX9_best_8 ?_
  refine j_if_ne X 16 dX9_best_11 (by decide) (fun c_1 => ?_) (fun c_1 => ?_)
  · have h := bi_f c_1 h
    refine j_iconst (v := (-1)) X dX9_best_16 (by decide) ?_
    refine j_istore_n X [(2, .int (-1)), (0, .ref (w.1 81)), (1, .int p1)] dX9_best_17 rfl (by decide) rfl ?_
    refine j_bipush (v := (-9)) X dX9_best_18 (by decide) ?_
    refine j_istore_n X [(3, .int (-9)), (2, .int (-1)), (0, .ref (w.1 81)), (1, .int p1)] dX9_best_20 rfl (by decide) rfl ?_
    refine j_iconst (v := 0) X dX9_best_21 (by decide) ?_
    refine j_istore X [(4, .int 0), (3, .int (-9)), (2, .int (-1)), (0, .ref (w.1 81)), (1, .int p1)] dX9_best_22 (by decide) rfl ?_
    have h := bb_a h
    have Hv_25 : ∀ v_25 : Int32 × Mem, (some (v_25.1, v_25.2)).bind some = some res → J p l e rm_X9_best s m args below meth c (Qint below args s w res) w 9 v_25.2 193 [(3, .int v_25.1)] [] := by
      intro v_25 h
      refine j_iload_n X dX9_best_193 rfl 0 rfl ?_
      exact j_iret X hr hk dX9_best_194 (Option.some.inj h)
    refine j_pick [3, 4, 2, 1, 0] rfl ?_
    exact jL_X9_best_24 X hr hk Hv_25 NF (-1) (-9) 0 (upm G 81 0 0) h
  · have h := bi_t c_1 h
    refine j_iconst (v := (-1)) X dX9_best_14 (by decide) ?_
    exact j_iret X hr hk dX9_best_15 (Option.some.inj h)
abbrev rm_X9_ones : Room := { frames := 0, cells := 0, slots := 0, locals := 0 }
theorem pn_X9_ones : yX9_ones.cls ≠ "java/lang/invoke/MethodHandle" ∧ yX9_ones.cls ≠ "java/lang/invoke/VarHandle" ∧ (parseMethodDescriptor yX9_ones.desc).map (fun d => d.parameters.length) = some 1 := by decide +kernel
def L_X9_ones_4 (x0 : Int32) : Nat → Int32 → Int32 → Option (Int32)
  | 0, _, _ => none
  | n + 1, x1, x2 => (if 14 ≤ x2 then some x1 else L_X9_ones_4 x0 n (x1 + ((x0 >>> (x2 &&& 31)) &&& 1)) (x2 + 1))
def m_X9_ones (p1 : Int32) : Option (Int32) := (L_X9_ones_4 p1 NF 0 0).bind (fun v_2 => some v_2)
set_option maxRecDepth 100000 in
set_option maxHeartbeats 4000000 in
theorem jL_X9_ones_4 {p : Program} {l : Launch} {e : Env} {s : State} {m : MethodId} {args : Array Value} {below : List Frame} {meth : Method} {c : Code} {w : WP} (X : fw_X p s m args c cX9_ones 3 RX9 w) (hr : meth.sig.returnType = (some .int)) (hk : meth.locks = false) {x0 : Int32} {G : Mem} {res : Int32} {K : Int32 → Option (Int32)} (HK : ∀ v : Int32, K v = some res → J p l e rm_X9_ones s m args below meth c (Qint below args s w (res, G)) w 3 G 24 [(1, .int v)] []) : ∀ (n : Nat) (x1 : Int32) (x2 : Int32), (L_X9_ones_4 x0 n x1 x2).bind K = some res → J p l e rm_X9_ones s m args below meth c (Qint below args s w (res, G)) w 3 G 4 [(0, .int x0), (1, .int x1), (2, .int x2)] [] := by
  intro n
  induction n with
  | zero =>
    intro x1 x2 h
    rw [L_X9_ones_4] at h
    cases h
  | succ n ih =>
    intro x1 x2 h
    rw [L_X9_ones_4] at h
    refine j_iload_n X dX9_ones_4 rfl 2 rfl ?_
    refine j_bipush (v := 14) X dX9_ones_5 (by decide) ?_
    refine j_icmp_ge X 24 dX9_ones_7 (by decide) (fun c_1 => ?_) (fun c_1 => ?_)
    · have h := bi_t c_1 h
      refine j_pick [1] rfl ?_
      exact HK x1 h
    · have h := bi_f c_1 h
      refine j_iload_n X dX9_ones_10 rfl 1 rfl ?_
      refine j_iload_n X dX9_ones_11 rfl 0 rfl ?_
      refine j_iload_n X dX9_ones_12 rfl 2 rfl ?_
      refine j_ishr X dX9_ones_13 ?_
      refine j_iconst (v := 1) X dX9_ones_14 (by decide) ?_
      refine j_iand X dX9_ones_15 ?_
      refine j_iadd X dX9_ones_16 ?_
      refine j_istore_n X [(1, .int (x1 + ((x0 >>> (x2 &&& 31)) &&& 1))), (0, .int x0), (2, .int x2)] dX9_ones_17 rfl (by decide) rfl ?_
      refine j_iinc (v := x2 + 1) X [(2, .int (x2 + 1)), (1, .int (x1 + ((x0 >>> (x2 &&& 31)) &&& 1))), (0, .int x0)] dX9_ones_18 2 rfl rfl (by decide) rfl ?_
      refine j_goto X 4 dX9_ones_21 (by decide) ?_
      refine j_pick [2, 1, 0] rfl ?_
      exact ih (x1 + ((x0 >>> (x2 &&& 31)) &&& 1)) (x2 + 1) h
set_option maxRecDepth 100000 in
set_option maxHeartbeats 4000000 in
theorem c_X9_ones (l : Launch) (w : WP) (G : Mem) (p1 : Int32) {res : Int32} (h0 : m_X9_ones p1 = some res) : CMi l yX9_ones cX9_ones 3 (some .int) 0 0 w [.int p1] G (res, G) := by
  refine CMi.of (by decide +kernel) (Nat.le_of_ble_eq_true rfl) ?_
  intro p e s m args below meth c X hr hk
  have h := bs_i h0
  unfold m_X9_ones at h
  show J p l e rm_X9_ones s m args below meth c (Qint below args s w (res, G)) w 3 G 0 [(0, .int p1)] []
  refine j_iconst (v := 0) X dX9_ones_0 (by decide) ?_
  refine j_istore_n X [(1, .int 0), (0, .int p1)] dX9_ones_1 rfl (by decide) rfl ?_
  refine j_iconst (v := 0) X dX9_ones_2 (by decide) ?_
  refine j_istore_n X [(2, .int 0), (1, .int 0), (0, .int p1)] dX9_ones_3 rfl (by decide) rfl ?_
  have h := bb_a h
  have Hv_2 : ∀ v_2 : Int32, (some v_2).bind some = some res → J p l e rm_X9_ones s m args below meth c (Qint below args s w (res, G)) w 3 G 24 [(1, .int v_2)] [] := by
    intro v_2 h
    refine j_iload_n X dX9_ones_24 rfl 0 rfl ?_
    exact j_iret X hr hk dX9_ones_25 (congrArg (fun z => (z, G)) (Option.some.inj h))
  refine j_pick [2, 1, 0] rfl ?_
  exact jL_X9_ones_4 X hr hk Hv_2 NF 0 0 h
abbrev rm_X9_clash : Room := { frames := 3, cells := 0, slots := 0, locals := 77 }
theorem pn_X9_clash : yX9_clash.cls ≠ "java/lang/invoke/MethodHandle" ∧ yX9_clash.cls ≠ "java/lang/invoke/VarHandle" ∧ (parseMethodDescriptor yX9_clash.desc).map (fun d => d.parameters.length) = some 1 := by decide +kernel
def L_X9_clash_52 (x1 : Int32) (x2 : Int32) : Nat → Int32 → Mem → Option ((Mem) ⊕ (Int32 × Mem))
  | 0, _, _ => none
  | n + 1, x3, G => (m_X9_all G).bind (fun r_8 => (if r_8 ≤ x3 then some (Sum.inl G) else (m_X9_ones x3).bind (fun r_10 => (if r_10 = x2 then (m_X9_laysAll G x3 0 (-9) 0).bind (fun q_12 => (m_X9_isSound q_12).bind (fun q_13 => (if q_13.1 = 0 then (if x1 = 0 then some (Sum.inr (x3, q_13.2)) else some (Sum.inr (x2, q_13.2))) else L_X9_clash_52 x1 x2 n (x3 + 1) q_13.2))) else L_X9_clash_52 x1 x2 n (x3 + 1) G))))
def L_X9_clash_40 (x1 : Int32) : Nat → Int32 → Mem → Option ((Mem) ⊕ (Int32 × Mem))
  | 0, _, _ => none
  | n + 1, x2, G => (ald 74 G 82 1).bind (fun r_6 => (if r_6 ≤ x2 then some (Sum.inl G) else (L_X9_clash_52 x1 x2 NF 1 G).bind (fun o_v_16 => (match o_v_16 with | Sum.inl v_16 => L_X9_clash_40 x1 n (x2 + 1) v_16 | Sum.inr v_17 => some (Sum.inr v_17)))))
def m_X9_clash (G : Mem) (p1 : Int32) : Option (Int32 × Mem) := (if (m_X9_in p1 0 1) = 0 then some ((-1), upm G 81 0 0) else (m_X9_all (upm G 81 0 0)).bind (fun r_2 => (m_X9_laysAll (upm G 81 0 0) r_2 0 (-9) 0).bind (fun q_3 => (m_X9_isSound q_3).bind (fun q_4 => (if q_4.1 = 0 then (L_X9_clash_40 p1 NF 1 q_4.2).bind (fun o_v_18 => (match o_v_18 with | Sum.inl v_18 => (if p1 = 0 then (m_X9_all v_18).bind (fun r_21 => some (r_21, v_18)) else (ald 74 v_18 82 1).bind (fun r_20 => some (r_20, v_18))) | Sum.inr v_22 => some v_22)) else some ((-9), q_4.2))))))
set_option maxRecDepth 100000 in
set_option maxHeartbeats 4000000 in
theorem jL_X9_clash_52 {p : Program} {l : Launch} {e : Env} {s : State} {m : MethodId} {args : Array Value} {below : List Frame} {meth : Method} {c : Code} {w : WP} (X : fw_X p s m args c cX9_clash 4 RX9 w) (hr : meth.sig.returnType = (some .int)) (hk : meth.locks = false) {x1 : Int32} {x2 : Int32} {res : Int32 × Mem} {K : (Mem) ⊕ (Int32 × Mem) → Option (Int32 × Mem)} (HK : ∀ v : Mem, K (Sum.inl v) = some res → J p l e rm_X9_clash s m args below meth c (Qint below args s w res) w 4 v 100 [(0, .ref (w.1 81)), (1, .int x1), (2, .int x2)] []) (HR : ∀ v : Int32 × Mem, K (Sum.inr v) = some res → v = res) : ∀ (n : Nat) (x3 : Int32) (G : Mem), (L_X9_clash_52 x1 x2 n x3 G).bind K = some res → J p l e rm_X9_clash s m args below meth c (Qint below args s w res) w 4 G 52 [(0, .ref (w.1 81)), (1, .int x1), (2, .int x2), (3, .int x3)] [] := by
  intro n
  induction n with
  | zero =>
    intro x3 G h
    rw [L_X9_clash_52] at h
    cases h
  | succ n ih =>
    intro x3 G h
    rw [L_X9_clash_52] at h
    refine j_iload_n X dX9_clash_52 rfl 3 rfl ?_
    refine j_aload_n X dX9_clash_53 rfl 0 rfl ?_
    obtain ⟨r_8, hr_8, h⟩ := bd_s h
    refine j_callVi (As := []) X 81 s_81 rfl (c_X9_all l w G   hr_8) rfl pn_X9_all q_995 q_997 q_39 q_68 q_998 ⟨Nat.le_of_ble_eq_true rfl, Nat.le_of_ble_eq_true rfl⟩ (Nat.le_of_ble_eq_true rfl) rfl dX9_clash_54 ?_
    refine j_icmp_ge X 100 dX9_clash_57 (by decide) (fun c_9 => ?_) (fun c_9 => ?_)
    · have h := bi_t c_9 h
      refine j_pick [0, 1, 2] rfl ?_
      exact HK G h
    · have h := bi_f c_9 h
      refine j_iload_n X dX9_clash_60 rfl 3 rfl ?_
      obtain ⟨r_10, hr_10, h⟩ := bd_s h
      refine j_callSi (As := [.int x3]) X (c_X9_ones l w G  x3 hr_10) pn_X9_ones q_1035 q_1036 q_68 q_1037 ⟨Nat.le_of_ble_eq_true rfl, Nat.le_of_ble_eq_true rfl⟩ (Nat.le_of_ble_eq_true rfl) rfl dX9_clash_61 ?_
      refine j_iload_n X dX9_clash_64 rfl 2 rfl ?_
      refine j_icmp_ne X 94 dX9_clash_65 (by decide) (fun c_11 => ?_) (fun c_11 => ?_)
      · have h := bi_f c_11 h
        refine j_iinc (v := x3 + 1) X [(3, .int (x3 + 1)), (0, .ref (w.1 81)), (1, .int x1), (2, .int x2)] dX9_clash_94 3 rfl rfl (by decide) rfl ?_
        refine j_goto X 52 dX9_clash_97 (by decide) ?_
        refine j_pick [1, 2, 3, 0] rfl ?_
        exact ih (x3 + 1) G h
      · have h := bi_t c_11 h
        refine j_aload_n X dX9_clash_68 rfl 0 rfl ?_
        refine j_iload_n X dX9_clash_69 rfl 3 rfl ?_
        refine j_iconst (v := 0) X dX9_clash_70 (by decide) ?_
        refine j_bipush (v := (-9)) X dX9_clash_71 (by decide) ?_
        refine j_iconst (v := 0) X dX9_clash_73 (by decide) ?_
        obtain ⟨q_12, hq_12, h⟩ := bd_s h
        refine j_callVv (As := [.int x3, .int 0, .int (-9), .int 0]) X 81 s_81 rfl (c_X9_laysAll l w G  x3 0 (-9) 0 hq_12) rfl pn_X9_laysAll q_999 q_1001 q_40 q_68 q_1002 ⟨Nat.le_of_ble_eq_true rfl, Nat.le_of_ble_eq_true rfl⟩ (Nat.le_of_ble_eq_true rfl) rfl dX9_clash_74 ?_
        refine j_aload_n X dX9_clash_77 rfl 0 rfl ?_
        obtain ⟨q_13, hq_13, h⟩ := bd_s h
        refine j_callVi (As := []) X 81 s_81 rfl (c_X9_isSound l w q_12   hq_13) rfl pn_X9_isSound q_1023 q_1025 q_46 q_68 q_1026 ⟨Nat.le_of_ble_eq_true rfl, Nat.le_of_ble_eq_true rfl⟩ (Nat.le_of_ble_eq_true rfl) rfl dX9_clash_78 ?_
        refine j_if_ne X 94 dX9_clash_81 (by decide) (fun c_14 => ?_) (fun c_14 => ?_)
        · have h := bi_f c_14 h
          refine j_iinc (v := x3 + 1) X [(3, .int (x3 + 1)), (0, .ref (w.1 81)), (1, .int x1), (2, .int x2)] dX9_clash_94 3 rfl rfl (by decide) rfl ?_
          refine j_goto X 52 dX9_clash_97 (by decide) ?_
          refine j_pick [1, 2, 3, 0] rfl ?_
          exact ih (x3 + 1) q_13.2 h
        · have h := bi_t c_14 h
          refine j_iload_n X dX9_clash_84 rfl 1 rfl ?_
          refine j_if_ne X 92 dX9_clash_85 (by decide) (fun c_15 => ?_) (fun c_15 => ?_)
          · have h := bi_f c_15 h
            refine j_iload_n X dX9_clash_92 rfl 2 rfl ?_
            exact j_iret X hr hk dX9_clash_93 (HR _ h)
          · have h := bi_t c_15 h
            refine j_iload_n X dX9_clash_88 rfl 3 rfl ?_
            refine j_goto X 93 dX9_clash_89 (by decide) ?_
            exact j_iret X hr hk dX9_clash_93 (HR _ h)
set_option maxRecDepth 100000 in
set_option maxHeartbeats 4000000 in
theorem jL_X9_clash_40 {p : Program} {l : Launch} {e : Env} {s : State} {m : MethodId} {args : Array Value} {below : List Frame} {meth : Method} {c : Code} {w : WP} (X : fw_X p s m args c cX9_clash 4 RX9 w) (hr : meth.sig.returnType = (some .int)) (hk : meth.locks = false) {x1 : Int32} {res : Int32 × Mem} {K : (Mem) ⊕ (Int32 × Mem) → Option (Int32 × Mem)} (HK : ∀ v : Mem, K (Sum.inl v) = some res → J p l e rm_X9_clash s m args below meth c (Qint below args s w res) w 4 v 106 [(0, .ref (w.1 81)), (1, .int x1)] []) (HR : ∀ v : Int32 × Mem, K (Sum.inr v) = some res → v = res) : ∀ (n : Nat) (x2 : Int32) (G : Mem), (L_X9_clash_40 x1 n x2 G).bind K = some res → J p l e rm_X9_clash s m args below meth c (Qint below args s w res) w 4 G 40 [(0, .ref (w.1 81)), (1, .int x1), (2, .int x2)] [] := by
  intro n
  induction n with
  | zero =>
    intro x2 G h
    rw [L_X9_clash_40] at h
    cases h
  | succ n ih =>
    intro x2 G h
    rw [L_X9_clash_40] at h
    refine j_iload_n X dX9_clash_40 rfl 2 rfl ?_
    refine j_aload_n X dX9_clash_41 rfl 0 rfl ?_
    refine j_getR (C := RX9) (T := TX9) (N := 22) X 81 s_81 rfl hin_X9 1 (by decide) 82 rfl q_863 dX9_clash_42 ?_
    refine j_iconst (v := 1) X dX9_clash_45 (by decide) ?_
    obtain ⟨r_6, hr_6, h⟩ := bd_s h
    refine j_iald X 82 74 s_82 hr_6 dX9_clash_46 ?_
    refine j_icmp_ge X 106 dX9_clash_47 (by decide) (fun c_7 => ?_) (fun c_7 => ?_)
    · have h := bi_t c_7 h
      refine j_pick [0, 1] rfl ?_
      exact HK G h
    · have h := bi_f c_7 h
      refine j_iconst (v := 1) X dX9_clash_50 (by decide) ?_
      refine j_istore_n X [(3, .int 1), (0, .ref (w.1 81)), (1, .int x1), (2, .int x2)] dX9_clash_51 rfl (by decide) rfl ?_
      have h := bb_a h
      have Hv_16 : ∀ v_16 : Mem, (L_X9_clash_40 x1 n (x2 + 1) v_16).bind K = some res → J p l e rm_X9_clash s m args below meth c (Qint below args s w res) w 4 v_16 100 [(0, .ref (w.1 81)), (1, .int x1), (2, .int x2)] [] := by
        intro v_16 h
        refine j_iinc (v := x2 + 1) X [(2, .int (x2 + 1)), (0, .ref (w.1 81)), (1, .int x1)] dX9_clash_100 2 rfl rfl (by decide) rfl ?_
        refine j_goto X 40 dX9_clash_103 (by decide) ?_
        refine j_pick [1, 2, 0] rfl ?_
        exact ih (x2 + 1) v_16 h
      refine j_pick [1, 2, 3, 0] rfl ?_
      exact jL_X9_clash_52 (K := fun o_v_16 => ((match o_v_16 with | Sum.inl v_16 => L_X9_clash_40 x1 n (x2 + 1) v_16 | Sum.inr v_17 => some (Sum.inr v_17))).bind K) X hr hk Hv_16 (fun z h => HR z h) NF 1 G h
set_option maxRecDepth 100000 in
set_option maxHeartbeats 4000000 in
theorem c_X9_clash (l : Launch) (w : WP) (G : Mem) (p1 : Int32) {res : Int32 × Mem} (h0 : m_X9_clash G p1 = some res) : CMi l yX9_clash cX9_clash 4 (some .int) 3 77 w [.ref (w.1 81), .int p1] G res := by
  refine CMi.of (by decide +kernel) (Nat.le_of_ble_eq_true rfl) ?_
  intro p e s m args below meth c X hr hk
  have h := bs_i h0
  unfold m_X9_clash at h
  show J p l e rm_X9_clash s m args below meth c (Qint below args s w res) w 4 G 0 [(0, .ref (w.1 81)), (1, .int p1)] []
  refine j_aload_n X dX9_clash_0 rfl 0 rfl ?_
  refine j_iconst (v := 0) X dX9_clash_1 (by decide) ?_
  refine j_putI (C := RX9) (T := TX9) (N := 22) X tyX9 tyX9_ok nmX9 81 s_81 rfl hin_X9 0 (by decide) rfl q_862 rfl rfl dX9_clash_2 ?_
  refine j_iload_n X dX9_clash_5 rfl 1 rfl ?_
  refine j_iconst (v := 0) X dX9_clash_6 (by decide) ?_
  refine j_iconst (v := 1) X dX9_clash_7 (by decide) ?_
  refine j_callSi (As := [.int p1, .int 0, .int 1]) X (c_X9_in l w (upm G 81 0 0)  p1 0 1) pn_X9_in q_934 q_935 q_68 q_936 ⟨Nat.le_of_ble_eq_true rfl, Nat.le_of_ble_eq_true rfl⟩ (Nat.le_of_ble_eq_true rfl) rfl dX9_clash_8 ?_
  refine j_if_ne X 16 dX9_clash_11 (by decide) (fun c_1 => ?_) (fun c_1 => ?_)
  · have h := bi_f c_1 h
    refine j_aload_n X dX9_clash_16 rfl 0 rfl ?_
    refine j_aload_n X dX9_clash_17 rfl 0 rfl ?_
    obtain ⟨r_2, hr_2, h⟩ := bd_s h
    refine j_callVi (As := []) X 81 s_81 rfl (c_X9_all l w (upm G 81 0 0)   hr_2) rfl pn_X9_all q_995 q_997 q_39 q_68 q_998 ⟨Nat.le_of_ble_eq_true rfl, Nat.le_of_ble_eq_true rfl⟩ (Nat.le_of_ble_eq_true rfl) rfl dX9_clash_18 ?_
    refine j_iconst (v := 0) X dX9_clash_21 (by decide) ?_
    refine j_bipush (v := (-9)) X dX9_clash_22 (by decide) ?_
    refine j_iconst (v := 0) X dX9_clash_24 (by decide) ?_
    obtain ⟨q_3, hq_3, h⟩ := bd_s h
    refine j_callVv (As := [.int r_2, .int 0, .int (-9), .int 0]) X 81 s_81 rfl (c_X9_laysAll l w (upm G 81 0 0)  r_2 0 (-9) 0 hq_3) rfl pn_X9_laysAll q_999 q_1001 q_40 q_68 q_1002 ⟨Nat.le_of_ble_eq_true rfl, Nat.le_of_ble_eq_true rfl⟩ (Nat.le_of_ble_eq_true rfl) rfl dX9_clash_25 ?_
    refine j_aload_n X dX9_clash_28 rfl 0 rfl ?_
    obtain ⟨q_4, hq_4, h⟩ := bd_s h
    refine j_callVi (As := []) X 81 s_81 rfl (c_X9_isSound l w q_3   hq_4) rfl pn_X9_isSound q_1023 q_1025 q_46 q_68 q_1026 ⟨Nat.le_of_ble_eq_true rfl, Nat.le_of_ble_eq_true rfl⟩ (Nat.le_of_ble_eq_true rfl) rfl dX9_clash_29 ?_
    refine j_if_eq X 38 dX9_clash_32 (by decide) (fun c_5 => ?_) (fun c_5 => ?_)
    · have h := bi_t c_5 h
      refine j_iconst (v := 1) X dX9_clash_38 (by decide) ?_
      refine j_istore_n X [(2, .int 1), (0, .ref (w.1 81)), (1, .int p1)] dX9_clash_39 rfl (by decide) rfl ?_
      have h := bb_a h
      have Hv_18 : ∀ v_18 : Mem, ((if p1 = 0 then (m_X9_all v_18).bind (fun r_21 => some (r_21, v_18)) else (ald 74 v_18 82 1).bind (fun r_20 => some (r_20, v_18)))).bind some = some res → J p l e rm_X9_clash s m args below meth c (Qint below args s w res) w 4 v_18 106 [(0, .ref (w.1 81)), (1, .int p1)] [] := by
        intro v_18 h
        refine j_iload_n X dX9_clash_106 rfl 1 rfl ?_
        refine j_if_ne X 117 dX9_clash_107 (by decide) (fun c_19 => ?_) (fun c_19 => ?_)
        · have h := bi_f c_19 h
          refine j_aload_n X dX9_clash_117 rfl 0 rfl ?_
          refine j_getR (C := RX9) (T := TX9) (N := 22) X 81 s_81 rfl hin_X9 1 (by decide) 82 rfl q_863 dX9_clash_118 ?_
          refine j_iconst (v := 1) X dX9_clash_121 (by decide) ?_
          obtain ⟨r_20, hr_20, h⟩ := bd_s h
          refine j_iald X 82 74 s_82 hr_20 dX9_clash_122 ?_
          exact j_iret X hr hk dX9_clash_123 (Option.some.inj h)
        · have h := bi_t c_19 h
          refine j_aload_n X dX9_clash_110 rfl 0 rfl ?_
          obtain ⟨r_21, hr_21, h⟩ := bd_s h
          refine j_callVi (As := []) X 81 s_81 rfl (c_X9_all l w v_18   hr_21) rfl pn_X9_all q_995 q_997 q_39 q_68 q_998 ⟨Nat.le_of_ble_eq_true rfl, Nat.le_of_ble_eq_true rfl⟩ (Nat.le_of_ble_eq_true rfl) rfl dX9_clash_111 ?_
          refine j_goto X 123 dX9_clash_114 (by decide) ?_
          exact j_iret X hr hk dX9_clash_123 (Option.some.inj h)
      refine j_pick [1, 2, 0] rfl ?_
      exact jL_X9_clash_40 (K := fun o_v_18 => ((match o_v_18 with | Sum.inl v_18 => (if p1 = 0 then (m_X9_all v_18).bind (fun r_21 => some (r_21, v_18)) else (ald 74 v_18 82 1).bind (fun r_20 => some (r_20, v_18))) | Sum.inr v_22 => some v_22)).bind some) X hr hk Hv_18 (fun z h => Option.some.inj h) NF 1 q_4.2 h
    · have h := bi_f c_5 h
      refine j_bipush (v := (-9)) X dX9_clash_35 (by decide) ?_
      exact j_iret X hr hk dX9_clash_37 (Option.some.inj h)
  · have h := bi_t c_1 h
    refine j_iconst (v := (-1)) X dX9_clash_14 (by decide) ?_
    exact j_iret X hr hk dX9_clash_15 (Option.some.inj h)
abbrev rm_X9_isClause : Room := { frames := 1, cells := 0, slots := 0, locals := 22 }
theorem pn_X9_isClause : yX9_isClause.cls ≠ "java/lang/invoke/MethodHandle" ∧ yX9_isClause.cls ≠ "java/lang/invoke/VarHandle" ∧ (parseMethodDescriptor yX9_isClause.desc).map (fun d => d.parameters.length) = some 1 := by decide +kernel
def m_X9_isClause (G : Mem) (p1 : Int32) : Option (Int32) := (ald 74 G 82 0).bind (fun r_1 => some ((m_X9_in p1 0 (r_1 - 1)) &&& 1))
set_option maxRecDepth 100000 in
set_option maxHeartbeats 4000000 in
theorem c_X9_isClause (l : Launch) (w : WP) (G : Mem) (p1 : Int32) {res : Int32} (h0 : m_X9_isClause G p1 = some res) : CMi l yX9_isClause cX9_isClause 2 (some .boolean) 1 22 w [.ref (w.1 81), .int p1] G (res, G) := by
  refine CMi.of (by decide +kernel) (Nat.le_of_ble_eq_true rfl) ?_
  intro p e s m args below meth c X hr hk
  have h := bs_i h0
  unfold m_X9_isClause at h
  show J p l e rm_X9_isClause s m args below meth c (Qint below args s w (res, G)) w 2 G 0 [(0, .ref (w.1 81)), (1, .int p1)] []
  refine j_iload_n X dX9_isClause_0 rfl 1 rfl ?_
  refine j_iconst (v := 0) X dX9_isClause_1 (by decide) ?_
  refine j_aload_n X dX9_isClause_2 rfl 0 rfl ?_
  refine j_getR (C := RX9) (T := TX9) (N := 22) X 81 s_81 rfl hin_X9 1 (by decide) 82 rfl q_863 dX9_isClause_3 ?_
  refine j_iconst (v := 0) X dX9_isClause_6 (by decide) ?_
  obtain ⟨r_1, hr_1, h⟩ := bd_s h
  refine j_iald X 82 74 s_82 hr_1 dX9_isClause_7 ?_
  refine j_iconst (v := 1) X dX9_isClause_8 (by decide) ?_
  refine j_isub X dX9_isClause_9 ?_
  refine j_callSi (As := [.int p1, .int 0, .int (r_1 - 1)]) X (c_X9_in l w G  p1 0 (r_1 - 1)) pn_X9_in q_934 q_935 q_68 q_936 ⟨Nat.le_of_ble_eq_true rfl, Nat.le_of_ble_eq_true rfl⟩ (Nat.le_of_ble_eq_true rfl) rfl dX9_isClause_10 ?_
  exact j_zret X hr hk rfl dX9_isClause_13 (congrArg (fun z => (z, G)) (Option.some.inj h))
abbrev rm_X9_clause : Room := { frames := 2, cells := 0, slots := 0, locals := 43 }
theorem pn_X9_clause : yX9_clause.cls ≠ "java/lang/invoke/MethodHandle" ∧ yX9_clause.cls ≠ "java/lang/invoke/VarHandle" ∧ (parseMethodDescriptor yX9_clause.desc).map (fun d => d.parameters.length) = some 2 := by decide +kernel
def L_X9_clause_44 (x1 : Int32) (G : Mem) : Nat → Int32 → Option (Int32)
  | 0, _ => none
  | n + 1, x3 => (m_X9_ofStatement G x3 0).bind (fun r_5 => (if r_5 = x1 then some x3 else L_X9_clause_44 x1 G n (x3 + 1)))
def m_X9_clause (G : Mem) (p1 : Int32) (p2 : Int32) : Option (Int32 × Mem) := (m_X9_isClause (upm G 81 0 0) p1).bind (fun r_1 => (if r_1 = 0 then some ((-1), upm G 81 0 0) else (if (m_X9_in p2 0 2) = 0 then some ((-1), upm G 81 0 0) else (if 2 ≤ p2 then (L_X9_clause_44 p1 (upm G 81 0 0) NF 0).bind (fun v_7 => some (v_7, upm G 81 0 0)) else (ald 74 (upm G 81 0 0) 82 ((2 + (2 * p1)) + p2)).bind (fun r_8 => some (r_8, upm G 81 0 0))))))
set_option maxRecDepth 100000 in
set_option maxHeartbeats 4000000 in
theorem jL_X9_clause_44 {p : Program} {l : Launch} {e : Env} {s : State} {m : MethodId} {args : Array Value} {below : List Frame} {meth : Method} {c : Code} {w : WP} (X : fw_X p s m args c cX9_clause 4 RX9 w) (hr : meth.sig.returnType = (some .int)) (hk : meth.locks = false) {x1 : Int32} {G : Mem} {res : Int32 × Mem} {K : Int32 → Option (Int32 × Mem)} (HK : ∀ v : Int32, K v = some res → J p l e rm_X9_clause s m args below meth c (Qint below args s w res) w 4 G 60 [(3, .int v)] []) : ∀ (n : Nat) (x3 : Int32), (L_X9_clause_44 x1 G n x3).bind K = some res → J p l e rm_X9_clause s m args below meth c (Qint below args s w res) w 4 G 44 [(0, .ref (w.1 81)), (1, .int x1), (3, .int x3)] [] := by
  intro n
  induction n with
  | zero =>
    intro x3 h
    rw [L_X9_clause_44] at h
    cases h
  | succ n ih =>
    intro x3 h
    rw [L_X9_clause_44] at h
    refine j_aload_n X dX9_clause_44 rfl 0 rfl ?_
    refine j_iload_n X dX9_clause_45 rfl 2 rfl ?_
    refine j_iconst (v := 0) X dX9_clause_46 (by decide) ?_
    obtain ⟨r_5, hr_5, h⟩ := bd_s h
    refine j_callVi (As := [.int x3, .int 0]) X 81 s_81 rfl (c_X9_ofStatement l w G  x3 0 hr_5) rfl pn_X9_ofStatement q_979 q_981 q_37 q_68 q_982 ⟨Nat.le_of_ble_eq_true rfl, Nat.le_of_ble_eq_true rfl⟩ (Nat.le_of_ble_eq_true rfl) rfl dX9_clause_47 ?_
    refine j_iload_n X dX9_clause_50 rfl 1 rfl ?_
    refine j_icmp_eq X 60 dX9_clause_51 (by decide) (fun c_6 => ?_) (fun c_6 => ?_)
    · have h := bi_t c_6 h
      refine j_pick [2] rfl ?_
      exact HK x3 h
    · have h := bi_f c_6 h
      refine j_iinc (v := x3 + 1) X [(3, .int (x3 + 1)), (0, .ref (w.1 81)), (1, .int x1)] dX9_clause_54 2 rfl rfl (by decide) rfl ?_
      refine j_goto X 44 dX9_clause_57 (by decide) ?_
      refine j_pick [1, 2, 0] rfl ?_
      exact ih (x3 + 1) h
set_option maxRecDepth 100000 in
set_option maxHeartbeats 4000000 in
theorem c_X9_clause (l : Launch) (w : WP) (G : Mem) (p1 : Int32) (p2 : Int32) {res : Int32 × Mem} (h0 : m_X9_clause G p1 p2 = some res) : CMi l yX9_clause cX9_clause 4 (some .int) 2 43 w [.ref (w.1 81), .int p1, .int p2] G res := by
  refine CMi.of (by decide +kernel) (Nat.le_of_ble_eq_true rfl) ?_
  intro p e s m args below meth c X hr hk
  have h := bs_i h0
  unfold m_X9_clause at h
  show J p l e rm_X9_clause s m args below meth c (Qint below args s w res) w 4 G 0 [(0, .ref (w.1 81)), (1, .int p1), (2, .int p2)] []
  refine j_aload_n X dX9_clause_0 rfl 0 rfl ?_
  refine j_iconst (v := 0) X dX9_clause_1 (by decide) ?_
  refine j_putI (C := RX9) (T := TX9) (N := 22) X tyX9 tyX9_ok nmX9 81 s_81 rfl hin_X9 0 (by decide) rfl q_862 rfl rfl dX9_clause_2 ?_
  refine j_aload_n X dX9_clause_5 rfl 0 rfl ?_
  refine j_iload_n X dX9_clause_6 rfl 1 rfl ?_
  obtain ⟨r_1, hr_1, h⟩ := bd_s h
  refine j_callVi (As := [.int p1]) X 81 s_81 rfl (c_X9_isClause l w (upm G 81 0 0)  p1 hr_1) rfl pn_X9_isClause q_975 q_977 q_36 q_68 q_978 ⟨Nat.le_of_ble_eq_true rfl, Nat.le_of_ble_eq_true rfl⟩ (Nat.le_of_ble_eq_true rfl) rfl dX9_clause_7 ?_
  refine j_if_eq X 22 dX9_clause_10 (by decide) (fun c_2 => ?_) (fun c_2 => ?_)
  · have h := bi_t c_2 h
    refine j_iconst (v := (-1)) X dX9_clause_22 (by decide) ?_
    exact j_iret X hr hk dX9_clause_23 (Option.some.inj h)
  · have h := bi_f c_2 h
    refine j_iload_n X dX9_clause_13 rfl 2 rfl ?_
    refine j_iconst (v := 0) X dX9_clause_14 (by decide) ?_
    refine j_iconst (v := 2) X dX9_clause_15 (by decide) ?_
    refine j_callSi (As := [.int p2, .int 0, .int 2]) X (c_X9_in l w (upm G 81 0 0)  p2 0 2) pn_X9_in q_934 q_935 q_68 q_936 ⟨Nat.le_of_ble_eq_true rfl, Nat.le_of_ble_eq_true rfl⟩ (Nat.le_of_ble_eq_true rfl) rfl dX9_clause_16 ?_
    refine j_if_ne X 24 dX9_clause_19 (by decide) (fun c_3 => ?_) (fun c_3 => ?_)
    · have h := bi_f c_3 h
      refine j_iload_n X dX9_clause_24 rfl 2 rfl ?_
      refine j_iconst (v := 2) X dX9_clause_25 (by decide) ?_
      refine j_icmp_ge X 42 dX9_clause_26 (by decide) (fun c_4 => ?_) (fun c_4 => ?_)
      · have h := bi_t c_4 h
        refine j_iconst (v := 0) X dX9_clause_42 (by decide) ?_
        refine j_istore_n X [(3, .int 0), (0, .ref (w.1 81)), (1, .int p1), (2, .int p2)] dX9_clause_43 rfl (by decide) rfl ?_
        have h := bb_a h
        have Hv_7 : ∀ v_7 : Int32, (some (v_7, upm G 81 0 0)).bind some = some res → J p l e rm_X9_clause s m args below meth c (Qint below args s w res) w 4 (upm G 81 0 0) 60 [(3, .int v_7)] [] := by
          intro v_7 h
          refine j_iload_n X dX9_clause_60 rfl 0 rfl ?_
          exact j_iret X hr hk dX9_clause_61 (Option.some.inj h)
        refine j_pick [1, 2, 0] rfl ?_
        exact jL_X9_clause_44 X hr hk Hv_7 NF 0 h
      · have h := bi_f c_4 h
        refine j_aload_n X dX9_clause_29 rfl 0 rfl ?_
        refine j_getR (C := RX9) (T := TX9) (N := 22) X 81 s_81 rfl hin_X9 1 (by decide) 82 rfl q_863 dX9_clause_30 ?_
        refine j_iconst (v := 2) X dX9_clause_33 (by decide) ?_
        refine j_iconst (v := 2) X dX9_clause_34 (by decide) ?_
        refine j_iload_n X dX9_clause_35 rfl 1 rfl ?_
        refine j_imul X dX9_clause_36 ?_
        refine j_iadd X dX9_clause_37 ?_
        refine j_iload_n X dX9_clause_38 rfl 2 rfl ?_
        refine j_iadd X dX9_clause_39 ?_
        obtain ⟨r_8, hr_8, h⟩ := bd_s h
        refine j_iald X 82 74 s_82 hr_8 dX9_clause_40 ?_
        exact j_iret X hr hk dX9_clause_41 (Option.some.inj h)
    · have h := bi_t c_3 h
      refine j_iconst (v := (-1)) X dX9_clause_22 (by decide) ?_
      exact j_iret X hr hk dX9_clause_23 (Option.some.inj h)
abbrev rm_X9_clear : Room := { frames := 0, cells := 0, slots := 0, locals := 0 }
theorem pn_X9_clear : yX9_clear.cls ≠ "java/lang/invoke/MethodHandle" ∧ yX9_clear.cls ≠ "java/lang/invoke/VarHandle" ∧ (parseMethodDescriptor yX9_clear.desc).map (fun d => d.parameters.length) = some 0 := by decide +kernel
def m_X9_clear (G : Mem) : Int32 × Mem := ((upm G 81 0 0) 81 11, upm (upm G 81 0 0) 81 11 0)
set_option maxRecDepth 100000 in
set_option maxHeartbeats 4000000 in
theorem c_X9_clear (l : Launch) (w : WP) (G : Mem) : CMi l yX9_clear cX9_clear 2 (some .int) 0 0 w [.ref (w.1 81)] G (m_X9_clear G) := by
  refine CMi.of (by decide +kernel) (Nat.le_of_ble_eq_true rfl) ?_
  intro p e s m args below meth c X hr hk
  obtain ⟨res, h⟩ : ∃ z, m_X9_clear G = z := ⟨_, rfl⟩
  rw [h]
  unfold m_X9_clear at h
  show J p l e rm_X9_clear s m args below meth c (Qint below args s w res) w 2 G 0 [(0, .ref (w.1 81))] []
  refine j_aload_n X dX9_clear_0 rfl 0 rfl ?_
  refine j_iconst (v := 0) X dX9_clear_1 (by decide) ?_
  refine j_putI (C := RX9) (T := TX9) (N := 22) X tyX9 tyX9_ok nmX9 81 s_81 rfl hin_X9 0 (by decide) rfl q_862 rfl rfl dX9_clear_2 ?_
  refine j_aload_n X dX9_clear_5 rfl 0 rfl ?_
  refine j_getI (C := RX9) (T := TX9) (N := 22) X 81 s_81 rfl hin_X9 11 (by decide) rfl q_873 dX9_clear_6 ?_
  refine j_istore_n X [(1, .int ((upm G 81 0 0) 81 11)), (0, .ref (w.1 81))] dX9_clear_9 rfl (by decide) rfl ?_
  refine j_aload_n X dX9_clear_10 rfl 1 rfl ?_
  refine j_iconst (v := 0) X dX9_clear_11 (by decide) ?_
  refine j_putI (C := RX9) (T := TX9) (N := 22) X tyX9 tyX9_ok nmX9 81 s_81 rfl hin_X9 11 (by decide) rfl q_873 rfl rfl dX9_clear_12 ?_
  refine j_iload_n X dX9_clear_15 rfl 0 rfl ?_
  exact j_iret X hr hk dX9_clear_16 (h)
abbrev rm_X9_sayings : Room := { frames := 0, cells := 0, slots := 0, locals := 0 }
theorem pn_X9_sayings : yX9_sayings.cls ≠ "java/lang/invoke/MethodHandle" ∧ yX9_sayings.cls ≠ "java/lang/invoke/VarHandle" ∧ (parseMethodDescriptor yX9_sayings.desc).map (fun d => d.parameters.length) = some 0 := by decide +kernel
def m_X9_sayings (G : Mem) : Option (Int32) := (ald 74 G 82 1).bind (fun r_1 => (ald 74 G 82 0).bind (fun r_2 => some (r_1 - r_2)))
set_option maxRecDepth 100000 in
set_option maxHeartbeats 4000000 in
theorem c_X9_sayings (l : Launch) (w : WP) (G : Mem) {res : Int32} (h0 : m_X9_sayings G = some res) : CMi l yX9_sayings cX9_sayings 1 (some .int) 0 0 w [.ref (w.1 81)] G (res, G) := by
  refine CMi.of (by decide +kernel) (Nat.le_of_ble_eq_true rfl) ?_
  intro p e s m args below meth c X hr hk
  have h := bs_i h0
  unfold m_X9_sayings at h
  show J p l e rm_X9_sayings s m args below meth c (Qint below args s w (res, G)) w 1 G 0 [(0, .ref (w.1 81))] []
  refine j_aload_n X dX9_sayings_0 rfl 0 rfl ?_
  refine j_getR (C := RX9) (T := TX9) (N := 22) X 81 s_81 rfl hin_X9 1 (by decide) 82 rfl q_863 dX9_sayings_1 ?_
  refine j_iconst (v := 1) X dX9_sayings_4 (by decide) ?_
  obtain ⟨r_1, hr_1, h⟩ := bd_s h
  refine j_iald X 82 74 s_82 hr_1 dX9_sayings_5 ?_
  refine j_aload_n X dX9_sayings_6 rfl 0 rfl ?_
  refine j_getR (C := RX9) (T := TX9) (N := 22) X 81 s_81 rfl hin_X9 1 (by decide) 82 rfl q_863 dX9_sayings_7 ?_
  refine j_iconst (v := 0) X dX9_sayings_10 (by decide) ?_
  obtain ⟨r_2, hr_2, h⟩ := bd_s h
  refine j_iald X 82 74 s_82 hr_2 dX9_sayings_11 ?_
  refine j_isub X dX9_sayings_12 ?_
  exact j_iret X hr hk dX9_sayings_13 (congrArg (fun z => (z, G)) (Option.some.inj h))
abbrev rm_X9_count : Room := { frames := 1, cells := 0, slots := 0, locals := 20 }
theorem pn_X9_count : yX9_count.cls ≠ "java/lang/invoke/MethodHandle" ∧ yX9_count.cls ≠ "java/lang/invoke/VarHandle" ∧ (parseMethodDescriptor yX9_count.desc).map (fun d => d.parameters.length) = some 1 := by decide +kernel
def m_X9_count (G : Mem) (p1 : Int32) : Option (Int32 × Mem) := (if p1 = 0 then (ald 74 (upm G 81 0 0) 82 0).bind (fun r_2 => some (r_2, upm G 81 0 0)) else (if p1 = 1 then (m_X9_sayings (upm G 81 0 0)).bind (fun r_4 => some (r_4, upm G 81 0 0)) else (if p1 = 2 then (ald 74 (upm G 81 0 0) 82 1).bind (fun r_6 => some (r_6, upm G 81 0 0)) else (if p1 = 3 then some ((upm G 81 0 0) 81 7, upm G 81 0 0) else (if p1 = 4 then some ((upm G 81 0 0) 81 11, upm G 81 0 0) else (if p1 = 5 then some ((upm G 81 0 0) 81 4, upm G 81 0 0) else some ((-1), upm G 81 0 0)))))))
set_option maxRecDepth 100000 in
set_option maxHeartbeats 4000000 in
theorem c_X9_count (l : Launch) (w : WP) (G : Mem) (p1 : Int32) {res : Int32 × Mem} (h0 : m_X9_count G p1 = some res) : CMi l yX9_count cX9_count 2 (some .int) 1 20 w [.ref (w.1 81), .int p1] G res := by
  refine CMi.of (by decide +kernel) (Nat.le_of_ble_eq_true rfl) ?_
  intro p e s m args below meth c X hr hk
  have h := bs_i h0
  unfold m_X9_count at h
  show J p l e rm_X9_count s m args below meth c (Qint below args s w res) w 2 G 0 [(0, .ref (w.1 81)), (1, .int p1)] []
  refine j_aload_n X dX9_count_0 rfl 0 rfl ?_
  refine j_iconst (v := 0) X dX9_count_1 (by decide) ?_
  refine j_putI (C := RX9) (T := TX9) (N := 22) X tyX9 tyX9_ok nmX9 81 s_81 rfl hin_X9 0 (by decide) rfl q_862 rfl rfl dX9_count_2 ?_
  refine j_iload_n X dX9_count_5 rfl 1 rfl ?_
  by_cases c_1 : p1 = 0
  · have h := bi_t c_1 h
    refine j_tabAt (v := 0) X 44 dX9_count_6 c_1 (by decide) (by decide) rfl (by decide) ?_
    refine j_aload_n X dX9_count_44 rfl 0 rfl ?_
    refine j_getR (C := RX9) (T := TX9) (N := 22) X 81 s_81 rfl hin_X9 1 (by decide) 82 rfl q_863 dX9_count_45 ?_
    refine j_iconst (v := 0) X dX9_count_48 (by decide) ?_
    obtain ⟨r_2, hr_2, h⟩ := bd_s h
    refine j_iald X 82 74 s_82 hr_2 dX9_count_49 ?_
    exact j_iret X hr hk dX9_count_50 (Option.some.inj h)
  have h := bi_f c_1 h
  by_cases c_3 : p1 = 1
  · have h := bi_t c_3 h
    refine j_tabAt (v := 1) X 51 dX9_count_6 c_3 (by decide) (by decide) rfl (by decide) ?_
    refine j_aload_n X dX9_count_51 rfl 0 rfl ?_
    obtain ⟨r_4, hr_4, h⟩ := bd_s h
    refine j_callVi (As := []) X 81 s_81 rfl (c_X9_sayings l w (upm G 81 0 0)   hr_4) rfl pn_X9_sayings q_1094 q_1096 q_55 q_68 q_1097 ⟨Nat.le_of_ble_eq_true rfl, Nat.le_of_ble_eq_true rfl⟩ (Nat.le_of_ble_eq_true rfl) rfl dX9_count_52 ?_
    exact j_iret X hr hk dX9_count_55 (Option.some.inj h)
  have h := bi_f c_3 h
  by_cases c_5 : p1 = 2
  · have h := bi_t c_5 h
    refine j_tabAt (v := 2) X 56 dX9_count_6 c_5 (by decide) (by decide) rfl (by decide) ?_
    refine j_aload_n X dX9_count_56 rfl 0 rfl ?_
    refine j_getR (C := RX9) (T := TX9) (N := 22) X 81 s_81 rfl hin_X9 1 (by decide) 82 rfl q_863 dX9_count_57 ?_
    refine j_iconst (v := 1) X dX9_count_60 (by decide) ?_
    obtain ⟨r_6, hr_6, h⟩ := bd_s h
    refine j_iald X 82 74 s_82 hr_6 dX9_count_61 ?_
    exact j_iret X hr hk dX9_count_62 (Option.some.inj h)
  have h := bi_f c_5 h
  by_cases c_7 : p1 = 3
  · have h := bi_t c_7 h
    refine j_tabAt (v := 3) X 63 dX9_count_6 c_7 (by decide) (by decide) rfl (by decide) ?_
    refine j_aload_n X dX9_count_63 rfl 0 rfl ?_
    refine j_getI (C := RX9) (T := TX9) (N := 22) X 81 s_81 rfl hin_X9 7 (by decide) rfl q_869 dX9_count_64 ?_
    exact j_iret X hr hk dX9_count_67 (Option.some.inj h)
  have h := bi_f c_7 h
  by_cases c_8 : p1 = 4
  · have h := bi_t c_8 h
    refine j_tabAt (v := 4) X 68 dX9_count_6 c_8 (by decide) (by decide) rfl (by decide) ?_
    refine j_aload_n X dX9_count_68 rfl 0 rfl ?_
    refine j_getI (C := RX9) (T := TX9) (N := 22) X 81 s_81 rfl hin_X9 11 (by decide) rfl q_873 dX9_count_69 ?_
    exact j_iret X hr hk dX9_count_72 (Option.some.inj h)
  have h := bi_f c_8 h
  by_cases c_9 : p1 = 5
  · have h := bi_t c_9 h
    refine j_tabAt (v := 5) X 73 dX9_count_6 c_9 (by decide) (by decide) rfl (by decide) ?_
    refine j_aload_n X dX9_count_73 rfl 0 rfl ?_
    refine j_getI (C := RX9) (T := TX9) (N := 22) X 81 s_81 rfl hin_X9 4 (by decide) rfl q_866 dX9_count_74 ?_
    exact j_iret X hr hk dX9_count_77 (Option.some.inj h)
  have h := bi_f c_9 h
  refine j_tabOut X 78 dX9_count_6 (by have z0 := lv_neT (a := 0) c_1 (by decide); have z1 := lv_neT (a := 1) c_3 (by decide); have z2 := lv_neT (a := 2) c_5 (by decide); have z3 := lv_neT (a := 3) c_7 (by decide); have z4 := lv_neT (a := 4) c_8 (by decide); have z5 := lv_neT (a := 5) c_9 (by decide); omega) (by decide) ?_
  refine j_iconst (v := (-1)) X dX9_count_78 (by decide) ?_
  exact j_iret X hr hk dX9_count_79 (Option.some.inj h)
abbrev rm_X9_forget : Room := { frames := 0, cells := 0, slots := 0, locals := 0 }
theorem pn_X9_forget : yX9_forget.cls ≠ "java/lang/invoke/MethodHandle" ∧ yX9_forget.cls ≠ "java/lang/invoke/VarHandle" ∧ (parseMethodDescriptor yX9_forget.desc).map (fun d => d.parameters.length) = some 0 := by decide +kernel
def m_X9_forget (G : Mem) : Int32 × Mem := ((upm G 81 0 0) 81 7, upm (upm G 81 0 0) 81 7 0)
set_option maxRecDepth 100000 in
set_option maxHeartbeats 4000000 in
theorem c_X9_forget (l : Launch) (w : WP) (G : Mem) : CMi l yX9_forget cX9_forget 2 (some .int) 0 0 w [.ref (w.1 81)] G (m_X9_forget G) := by
  refine CMi.of (by decide +kernel) (Nat.le_of_ble_eq_true rfl) ?_
  intro p e s m args below meth c X hr hk
  obtain ⟨res, h⟩ : ∃ z, m_X9_forget G = z := ⟨_, rfl⟩
  rw [h]
  unfold m_X9_forget at h
  show J p l e rm_X9_forget s m args below meth c (Qint below args s w res) w 2 G 0 [(0, .ref (w.1 81))] []
  refine j_aload_n X dX9_forget_0 rfl 0 rfl ?_
  refine j_iconst (v := 0) X dX9_forget_1 (by decide) ?_
  refine j_putI (C := RX9) (T := TX9) (N := 22) X tyX9 tyX9_ok nmX9 81 s_81 rfl hin_X9 0 (by decide) rfl q_862 rfl rfl dX9_forget_2 ?_
  refine j_aload_n X dX9_forget_5 rfl 0 rfl ?_
  refine j_getI (C := RX9) (T := TX9) (N := 22) X 81 s_81 rfl hin_X9 7 (by decide) rfl q_869 dX9_forget_6 ?_
  refine j_istore_n X [(1, .int ((upm G 81 0 0) 81 7)), (0, .ref (w.1 81))] dX9_forget_9 rfl (by decide) rfl ?_
  refine j_aload_n X dX9_forget_10 rfl 1 rfl ?_
  refine j_iconst (v := 0) X dX9_forget_11 (by decide) ?_
  refine j_putI (C := RX9) (T := TX9) (N := 22) X tyX9 tyX9_ok nmX9 81 s_81 rfl hin_X9 7 (by decide) rfl q_869 rfl rfl dX9_forget_12 ?_
  refine j_iload_n X dX9_forget_15 rfl 0 rfl ?_
  exact j_iret X hr hk dX9_forget_16 (h)
abbrev rm_X9_here : Room := { frames := 0, cells := 0, slots := 0, locals := 0 }
theorem pn_X9_here : yX9_here.cls ≠ "java/lang/invoke/MethodHandle" ∧ yX9_here.cls ≠ "java/lang/invoke/VarHandle" ∧ (parseMethodDescriptor yX9_here.desc).map (fun d => d.parameters.length) = some 0 := by decide +kernel
def L_X9_here_0 : Nat → Mem → Option (Mem)
  | 0, _ => none
  | n + 1, G => (if (G 81 11) ≤ (G 81 13) then some G else (ald 80 G 90 (G 81 13)).bind (fun r_2 => (if r_2 = 32 then L_X9_here_0  n (upm G 81 13 ((G 81 13) + 1)) else some G)))
def m_X9_here (G : Mem) : Option (Int32 × Mem) := (L_X9_here_0  NF G).bind (fun v_4 => (if (v_4 81 11) ≤ (v_4 81 13) then some ((-1), v_4) else (ald 80 v_4 90 (v_4 81 13)).bind (fun r_6 => some (r_6, v_4))))
set_option maxRecDepth 100000 in
set_option maxHeartbeats 4000000 in
theorem jL_X9_here_0 {p : Program} {l : Launch} {e : Env} {s : State} {m : MethodId} {args : Array Value} {below : List Frame} {meth : Method} {c : Code} {w : WP} (X : fw_X p s m args c cX9_here 1 RX9 w) (hr : meth.sig.returnType = (some .int)) (hk : meth.locks = false) {res : Int32 × Mem} {K : Mem → Option (Int32 × Mem)} (HK : ∀ v : Mem, K v = some res → J p l e rm_X9_here s m args below meth c (Qint below args s w res) w 1 v 38 [(0, .ref (w.1 81))] []) : ∀ (n : Nat) (G : Mem), (L_X9_here_0  n G).bind K = some res → J p l e rm_X9_here s m args below meth c (Qint below args s w res) w 1 G 0 [(0, .ref (w.1 81))] [] := by
  intro n
  induction n with
  | zero =>
    intro G h
    rw [L_X9_here_0] at h
    cases h
  | succ n ih =>
    intro G h
    rw [L_X9_here_0] at h
    refine j_aload_n X dX9_here_0 rfl 0 rfl ?_
    refine j_getI (C := RX9) (T := TX9) (N := 22) X 81 s_81 rfl hin_X9 13 (by decide) rfl q_875 dX9_here_1 ?_
    refine j_aload_n X dX9_here_4 rfl 0 rfl ?_
    refine j_getI (C := RX9) (T := TX9) (N := 22) X 81 s_81 rfl hin_X9 11 (by decide) rfl q_873 dX9_here_5 ?_
    refine j_icmp_ge X 38 dX9_here_8 (by decide) (fun c_1 => ?_) (fun c_1 => ?_)
    · have h := bi_t c_1 h
      refine j_pick [0] rfl ?_
      exact HK G h
    · have h := bi_f c_1 h
      refine j_aload_n X dX9_here_11 rfl 0 rfl ?_
      refine j_getR (C := RX9) (T := TX9) (N := 22) X 81 s_81 rfl hin_X9 12 (by decide) 90 rfl q_874 dX9_here_12 ?_
      refine j_aload_n X dX9_here_15 rfl 0 rfl ?_
      refine j_getI (C := RX9) (T := TX9) (N := 22) X 81 s_81 rfl hin_X9 13 (by decide) rfl q_875 dX9_here_16 ?_
      obtain ⟨r_2, hr_2, h⟩ := bd_s h
      refine j_iald X 90 80 s_90 hr_2 dX9_here_19 ?_
      refine j_bipush (v := 32) X dX9_here_20 (by decide) ?_
      refine j_icmp_ne X 38 dX9_here_22 (by decide) (fun c_3 => ?_) (fun c_3 => ?_)
      · have h := bi_f c_3 h
        refine j_pick [0] rfl ?_
        exact HK G h
      · have h := bi_t c_3 h
        refine j_aload_n X dX9_here_25 rfl 0 rfl ?_
        refine j_dup X dX9_here_26 rfl ?_
        refine j_getI (C := RX9) (T := TX9) (N := 22) X 81 s_81 rfl hin_X9 13 (by decide) rfl q_875 dX9_here_27 ?_
        refine j_iconst (v := 1) X dX9_here_30 (by decide) ?_
        refine j_iadd X dX9_here_31 ?_
        refine j_putI (C := RX9) (T := TX9) (N := 22) X tyX9 tyX9_ok nmX9 81 s_81 rfl hin_X9 13 (by decide) rfl q_875 rfl rfl dX9_here_32 ?_
        refine j_goto X 0 dX9_here_35 (by decide) ?_
        refine j_pick [0] rfl ?_
        exact ih (upm G 81 13 ((G 81 13) + 1)) h
set_option maxRecDepth 100000 in
set_option maxHeartbeats 4000000 in
theorem c_X9_here (l : Launch) (w : WP) (G : Mem) {res : Int32 × Mem} (h0 : m_X9_here G = some res) : CMi l yX9_here cX9_here 1 (some .int) 0 0 w [.ref (w.1 81)] G res := by
  refine CMi.of (by decide +kernel) (Nat.le_of_ble_eq_true rfl) ?_
  intro p e s m args below meth c X hr hk
  have h := bs_i h0
  unfold m_X9_here at h
  show J p l e rm_X9_here s m args below meth c (Qint below args s w res) w 1 G 0 [(0, .ref (w.1 81))] []
  have h := bb_a h
  have Hv_4 : ∀ v_4 : Mem, ((if (v_4 81 11) ≤ (v_4 81 13) then some ((-1), v_4) else (ald 80 v_4 90 (v_4 81 13)).bind (fun r_6 => some (r_6, v_4)))).bind some = some res → J p l e rm_X9_here s m args below meth c (Qint below args s w res) w 1 v_4 38 [(0, .ref (w.1 81))] [] := by
    intro v_4 h
    refine j_aload_n X dX9_here_38 rfl 0 rfl ?_
    refine j_getI (C := RX9) (T := TX9) (N := 22) X 81 s_81 rfl hin_X9 13 (by decide) rfl q_875 dX9_here_39 ?_
    refine j_aload_n X dX9_here_42 rfl 0 rfl ?_
    refine j_getI (C := RX9) (T := TX9) (N := 22) X 81 s_81 rfl hin_X9 11 (by decide) rfl q_873 dX9_here_43 ?_
    refine j_icmp_ge X 61 dX9_here_46 (by decide) (fun c_5 => ?_) (fun c_5 => ?_)
    · have h := bi_t c_5 h
      refine j_iconst (v := (-1)) X dX9_here_61 (by decide) ?_
      exact j_iret X hr hk dX9_here_62 (Option.some.inj h)
    · have h := bi_f c_5 h
      refine j_aload_n X dX9_here_49 rfl 0 rfl ?_
      refine j_getR (C := RX9) (T := TX9) (N := 22) X 81 s_81 rfl hin_X9 12 (by decide) 90 rfl q_874 dX9_here_50 ?_
      refine j_aload_n X dX9_here_53 rfl 0 rfl ?_
      refine j_getI (C := RX9) (T := TX9) (N := 22) X 81 s_81 rfl hin_X9 13 (by decide) rfl q_875 dX9_here_54 ?_
      obtain ⟨r_6, hr_6, h⟩ := bd_s h
      refine j_iald X 90 80 s_90 hr_6 dX9_here_57 ?_
      refine j_goto X 62 dX9_here_58 (by decide) ?_
      exact j_iret X hr hk dX9_here_62 (Option.some.inj h)
  refine j_pick [0] rfl ?_
  exact jL_X9_here_0 X hr hk Hv_4 NF G h
abbrev rm_X9_isTime : Room := { frames := 1, cells := 0, slots := 0, locals := 22 }
theorem pn_X9_isTime : yX9_isTime.cls ≠ "java/lang/invoke/MethodHandle" ∧ yX9_isTime.cls ≠ "java/lang/invoke/VarHandle" ∧ (parseMethodDescriptor yX9_isTime.desc).map (fun d => d.parameters.length) = some 1 := by decide +kernel
def m_X9_isTime (G : Mem) (p1 : Int32) : Option (Int32) := (ald 74 G 82 0).bind (fun r_1 => some ((m_X9_in p1 0 (2 * r_1)) &&& 1))
set_option maxRecDepth 100000 in
set_option maxHeartbeats 4000000 in
theorem c_X9_isTime (l : Launch) (w : WP) (G : Mem) (p1 : Int32) {res : Int32} (h0 : m_X9_isTime G p1 = some res) : CMi l yX9_isTime cX9_isTime 2 (some .boolean) 1 22 w [.ref (w.1 81), .int p1] G (res, G) := by
  refine CMi.of (by decide +kernel) (Nat.le_of_ble_eq_true rfl) ?_
  intro p e s m args below meth c X hr hk
  have h := bs_i h0
  unfold m_X9_isTime at h
  show J p l e rm_X9_isTime s m args below meth c (Qint below args s w (res, G)) w 2 G 0 [(0, .ref (w.1 81)), (1, .int p1)] []
  refine j_iload_n X dX9_isTime_0 rfl 1 rfl ?_
  refine j_iconst (v := 0) X dX9_isTime_1 (by decide) ?_
  refine j_iconst (v := 2) X dX9_isTime_2 (by decide) ?_
  refine j_aload_n X dX9_isTime_3 rfl 0 rfl ?_
  refine j_getR (C := RX9) (T := TX9) (N := 22) X 81 s_81 rfl hin_X9 1 (by decide) 82 rfl q_863 dX9_isTime_4 ?_
  refine j_iconst (v := 0) X dX9_isTime_7 (by decide) ?_
  obtain ⟨r_1, hr_1, h⟩ := bd_s h
  refine j_iald X 82 74 s_82 hr_1 dX9_isTime_8 ?_
  refine j_imul X dX9_isTime_9 ?_
  refine j_callSi (As := [.int p1, .int 0, .int (2 * r_1)]) X (c_X9_in l w G  p1 0 (2 * r_1)) pn_X9_in q_934 q_935 q_68 q_936 ⟨Nat.le_of_ble_eq_true rfl, Nat.le_of_ble_eq_true rfl⟩ (Nat.le_of_ble_eq_true rfl) rfl dX9_isTime_10 ?_
  exact j_zret X hr hk rfl dX9_isTime_13 (congrArg (fun z => (z, G)) (Option.some.inj h))
abbrev rm_X9_isSaid : Room := { frames := 2, cells := 0, slots := 0, locals := 43 }
theorem pn_X9_isSaid : yX9_isSaid.cls ≠ "java/lang/invoke/MethodHandle" ∧ yX9_isSaid.cls ≠ "java/lang/invoke/VarHandle" ∧ (parseMethodDescriptor yX9_isSaid.desc).map (fun d => d.parameters.length) = some 1 := by decide +kernel
def m_X9_isSaid (G : Mem) (p1 : Int32) : Option (Int32) := (m_X9_isTime G p1).bind (fun r_1 => (if r_1 = 0 then some 0 else (if (p1 - p1 / 2 * 2) = 0 then some 1 else some 0)))
set_option maxRecDepth 100000 in
set_option maxHeartbeats 4000000 in
theorem c_X9_isSaid (l : Launch) (w : WP) (G : Mem) (p1 : Int32) {res : Int32} (h0 : m_X9_isSaid G p1 = some res) : CMi l yX9_isSaid cX9_isSaid 2 (some .boolean) 2 43 w [.ref (w.1 81), .int p1] G (res, G) := by
  refine CMi.of (by decide +kernel) (Nat.le_of_ble_eq_true rfl) ?_
  intro p e s m args below meth c X hr hk
  have h := bs_i h0
  unfold m_X9_isSaid at h
  show J p l e rm_X9_isSaid s m args below meth c (Qint below args s w (res, G)) w 2 G 0 [(0, .ref (w.1 81)), (1, .int p1)] []
  refine j_aload_n X dX9_isSaid_0 rfl 0 rfl ?_
  refine j_iload_n X dX9_isSaid_1 rfl 1 rfl ?_
  obtain ⟨r_1, hr_1, h⟩ := bd_s h
  refine j_callVi (As := [.int p1]) X 81 s_81 rfl (c_X9_isTime l w G  p1 hr_1) rfl pn_X9_isTime q_1042 q_1044 q_48 q_68 q_1045 ⟨Nat.le_of_ble_eq_true rfl, Nat.le_of_ble_eq_true rfl⟩ (Nat.le_of_ble_eq_true rfl) rfl dX9_isSaid_2 ?_
  refine j_if_eq X 18 dX9_isSaid_5 (by decide) (fun c_2 => ?_) (fun c_2 => ?_)
  · have h := bi_t c_2 h
    refine j_iconst (v := 0) X dX9_isSaid_18 (by decide) ?_
    exact j_zret X hr hk (by decide) dX9_isSaid_19 (congrArg (fun z => (z, G)) (Option.some.inj h))
  · have h := bi_f c_2 h
    refine j_iload_n X dX9_isSaid_8 rfl 1 rfl ?_
    refine j_iconst (v := 2) X dX9_isSaid_9 (by decide) ?_
    refine j_irem X dX9_isSaid_10 (by decide) ?_
    refine j_if_ne X 18 dX9_isSaid_11 (by decide) (fun c_3 => ?_) (fun c_3 => ?_)
    · have h := bi_f c_3 h
      refine j_iconst (v := 0) X dX9_isSaid_18 (by decide) ?_
      exact j_zret X hr hk (by decide) dX9_isSaid_19 (congrArg (fun z => (z, G)) (Option.some.inj h))
    · have h := bi_t c_3 h
      refine j_iconst (v := 1) X dX9_isSaid_14 (by decide) ?_
      refine j_goto X 19 dX9_isSaid_15 (by decide) ?_
      exact j_zret X hr hk (by decide) dX9_isSaid_19 (congrArg (fun z => (z, G)) (Option.some.inj h))
abbrev rm_X9_isStatement : Room := { frames := 1, cells := 0, slots := 0, locals := 22 }
theorem pn_X9_isStatement : yX9_isStatement.cls ≠ "java/lang/invoke/MethodHandle" ∧ yX9_isStatement.cls ≠ "java/lang/invoke/VarHandle" ∧ (parseMethodDescriptor yX9_isStatement.desc).map (fun d => d.parameters.length) = some 1 := by decide +kernel
def m_X9_isStatement (G : Mem) (p1 : Int32) : Option (Int32) := (ald 74 G 82 1).bind (fun r_1 => some ((m_X9_in p1 0 (r_1 - 1)) &&& 1))
set_option maxRecDepth 100000 in
set_option maxHeartbeats 4000000 in
theorem c_X9_isStatement (l : Launch) (w : WP) (G : Mem) (p1 : Int32) {res : Int32} (h0 : m_X9_isStatement G p1 = some res) : CMi l yX9_isStatement cX9_isStatement 2 (some .boolean) 1 22 w [.ref (w.1 81), .int p1] G (res, G) := by
  refine CMi.of (by decide +kernel) (Nat.le_of_ble_eq_true rfl) ?_
  intro p e s m args below meth c X hr hk
  have h := bs_i h0
  unfold m_X9_isStatement at h
  show J p l e rm_X9_isStatement s m args below meth c (Qint below args s w (res, G)) w 2 G 0 [(0, .ref (w.1 81)), (1, .int p1)] []
  refine j_iload_n X dX9_isStatement_0 rfl 1 rfl ?_
  refine j_iconst (v := 0) X dX9_isStatement_1 (by decide) ?_
  refine j_aload_n X dX9_isStatement_2 rfl 0 rfl ?_
  refine j_getR (C := RX9) (T := TX9) (N := 22) X 81 s_81 rfl hin_X9 1 (by decide) 82 rfl q_863 dX9_isStatement_3 ?_
  refine j_iconst (v := 1) X dX9_isStatement_6 (by decide) ?_
  obtain ⟨r_1, hr_1, h⟩ := bd_s h
  refine j_iald X 82 74 s_82 hr_1 dX9_isStatement_7 ?_
  refine j_iconst (v := 1) X dX9_isStatement_8 (by decide) ?_
  refine j_isub X dX9_isStatement_9 ?_
  refine j_callSi (As := [.int p1, .int 0, .int (r_1 - 1)]) X (c_X9_in l w G  p1 0 (r_1 - 1)) pn_X9_in q_934 q_935 q_68 q_936 ⟨Nat.le_of_ble_eq_true rfl, Nat.le_of_ble_eq_true rfl⟩ (Nat.le_of_ble_eq_true rfl) rfl dX9_isStatement_10 ?_
  exact j_zret X hr hk rfl dX9_isStatement_13 (congrArg (fun z => (z, G)) (Option.some.inj h))
abbrev rm_X9_keep : Room := { frames := 1, cells := 0, slots := 0, locals := 22 }
theorem pn_X9_keep : yX9_keep.cls ≠ "java/lang/invoke/MethodHandle" ∧ yX9_keep.cls ≠ "java/lang/invoke/VarHandle" ∧ (parseMethodDescriptor yX9_keep.desc).map (fun d => d.parameters.length) = some 1 := by decide +kernel
def L_X9_keep_18 (x1 : Int32) : Nat → Int32 → Mem → Option (Mem)
  | 0, _, _ => none
  | n + 1, x2, G => (if 74 ≤ x2 then some G else (ald 74 G 82 x2).bind (fun r_3 => (ast 148 G 85 ((74 * x1) + x2) r_3).bind (fun q_4 => L_X9_keep_18 x1 n (x2 + 1) q_4)))
def m_X9_keep (G : Mem) (p1 : Int32) : Option (Int32 × Mem) := (if (m_X9_in p1 0 1) = 0 then some ((-1), upm G 81 0 0) else (L_X9_keep_18 p1 NF 0 (upm G 81 0 0)).bind (fun v_5 => (ast 2 v_5 86 p1 1).bind (fun q_6 => (ald 74 q_6 82 1).bind (fun r_7 => some (r_7, q_6)))))
set_option maxRecDepth 100000 in
set_option maxHeartbeats 4000000 in
theorem jL_X9_keep_18 {p : Program} {l : Launch} {e : Env} {s : State} {m : MethodId} {args : Array Value} {below : List Frame} {meth : Method} {c : Code} {w : WP} (X : fw_X p s m args c cX9_keep 3 RX9 w) (hr : meth.sig.returnType = (some .int)) (hk : meth.locks = false) {x1 : Int32} {res : Int32 × Mem} {K : Mem → Option (Int32 × Mem)} (HK : ∀ v : Mem, K v = some res → J p l e rm_X9_keep s m args below meth c (Qint below args s w res) w 3 v 47 [(0, .ref (w.1 81)), (1, .int x1)] []) : ∀ (n : Nat) (x2 : Int32) (G : Mem), (L_X9_keep_18 x1 n x2 G).bind K = some res → J p l e rm_X9_keep s m args below meth c (Qint below args s w res) w 3 G 18 [(0, .ref (w.1 81)), (1, .int x1), (2, .int x2)] [] := by
  intro n
  induction n with
  | zero =>
    intro x2 G h
    rw [L_X9_keep_18] at h
    cases h
  | succ n ih =>
    intro x2 G h
    rw [L_X9_keep_18] at h
    refine j_iload_n X dX9_keep_18 rfl 2 rfl ?_
    refine j_bipush (v := 74) X dX9_keep_19 (by decide) ?_
    refine j_icmp_ge X 47 dX9_keep_21 (by decide) (fun c_2 => ?_) (fun c_2 => ?_)
    · have h := bi_t c_2 h
      refine j_pick [0, 1] rfl ?_
      exact HK G h
    · have h := bi_f c_2 h
      refine j_aload_n X dX9_keep_24 rfl 0 rfl ?_
      refine j_getR (C := RX9) (T := TX9) (N := 22) X 81 s_81 rfl hin_X9 5 (by decide) 85 rfl q_867 dX9_keep_25 ?_
      refine j_bipush (v := 74) X dX9_keep_28 (by decide) ?_
      refine j_iload_n X dX9_keep_30 rfl 1 rfl ?_
      refine j_imul X dX9_keep_31 ?_
      refine j_iload_n X dX9_keep_32 rfl 2 rfl ?_
      refine j_iadd X dX9_keep_33 ?_
      refine j_aload_n X dX9_keep_34 rfl 0 rfl ?_
      refine j_getR (C := RX9) (T := TX9) (N := 22) X 81 s_81 rfl hin_X9 1 (by decide) 82 rfl q_863 dX9_keep_35 ?_
      refine j_iload_n X dX9_keep_38 rfl 2 rfl ?_
      obtain ⟨r_3, hr_3, h⟩ := bd_s h
      refine j_iald X 82 74 s_82 hr_3 dX9_keep_39 ?_
      obtain ⟨q_4, hq_4, h⟩ := bd_s h
      refine j_iast X 85 148 s_85 hq_4 dX9_keep_40 ?_
      refine j_iinc (v := x2 + 1) X [(2, .int (x2 + 1)), (0, .ref (w.1 81)), (1, .int x1)] dX9_keep_41 2 rfl rfl (by decide) rfl ?_
      refine j_goto X 18 dX9_keep_44 (by decide) ?_
      refine j_pick [1, 2, 0] rfl ?_
      exact ih (x2 + 1) q_4 h
set_option maxRecDepth 100000 in
set_option maxHeartbeats 4000000 in
theorem c_X9_keep (l : Launch) (w : WP) (G : Mem) (p1 : Int32) {res : Int32 × Mem} (h0 : m_X9_keep G p1 = some res) : CMi l yX9_keep cX9_keep 3 (some .int) 1 22 w [.ref (w.1 81), .int p1] G res := by
  refine CMi.of (by decide +kernel) (Nat.le_of_ble_eq_true rfl) ?_
  intro p e s m args below meth c X hr hk
  have h := bs_i h0
  unfold m_X9_keep at h
  show J p l e rm_X9_keep s m args below meth c (Qint below args s w res) w 3 G 0 [(0, .ref (w.1 81)), (1, .int p1)] []
  refine j_aload_n X dX9_keep_0 rfl 0 rfl ?_
  refine j_iconst (v := 0) X dX9_keep_1 (by decide) ?_
  refine j_putI (C := RX9) (T := TX9) (N := 22) X tyX9 tyX9_ok nmX9 81 s_81 rfl hin_X9 0 (by decide) rfl q_862 rfl rfl dX9_keep_2 ?_
  refine j_iload_n X dX9_keep_5 rfl 1 rfl ?_
  refine j_iconst (v := 0) X dX9_keep_6 (by decide) ?_
  refine j_iconst (v := 1) X dX9_keep_7 (by decide) ?_
  refine j_callSi (As := [.int p1, .int 0, .int 1]) X (c_X9_in l w (upm G 81 0 0)  p1 0 1) pn_X9_in q_934 q_935 q_68 q_936 ⟨Nat.le_of_ble_eq_true rfl, Nat.le_of_ble_eq_true rfl⟩ (Nat.le_of_ble_eq_true rfl) rfl dX9_keep_8 ?_
  refine j_if_ne X 16 dX9_keep_11 (by decide) (fun c_1 => ?_) (fun c_1 => ?_)
  · have h := bi_f c_1 h
    refine j_iconst (v := 0) X dX9_keep_16 (by decide) ?_
    refine j_istore_n X [(2, .int 0), (0, .ref (w.1 81)), (1, .int p1)] dX9_keep_17 rfl (by decide) rfl ?_
    have h := bb_a h
    have Hv_5 : ∀ v_5 : Mem, ((ast 2 v_5 86 p1 1).bind (fun q_6 => (ald 74 q_6 82 1).bind (fun r_7 => some (r_7, q_6)))).bind some = some res → J p l e rm_X9_keep s m args below meth c (Qint below args s w res) w 3 v_5 47 [(0, .ref (w.1 81)), (1, .int p1)] [] := by
      intro v_5 h
      refine j_aload_n X dX9_keep_47 rfl 0 rfl ?_
      refine j_getR (C := RX9) (T := TX9) (N := 22) X 81 s_81 rfl hin_X9 6 (by decide) 86 rfl q_868 dX9_keep_48 ?_
      refine j_iload_n X dX9_keep_51 rfl 1 rfl ?_
      refine j_iconst (v := 1) X dX9_keep_52 (by decide) ?_
      obtain ⟨q_6, hq_6, h⟩ := bd_s h
      refine j_zast X 86 2 s_86 (by decide) hq_6 dX9_keep_53 ?_
      refine j_aload_n X dX9_keep_54 rfl 0 rfl ?_
      refine j_getR (C := RX9) (T := TX9) (N := 22) X 81 s_81 rfl hin_X9 1 (by decide) 82 rfl q_863 dX9_keep_55 ?_
      refine j_iconst (v := 1) X dX9_keep_58 (by decide) ?_
      obtain ⟨r_7, hr_7, h⟩ := bd_s h
      refine j_iald X 82 74 s_82 hr_7 dX9_keep_59 ?_
      exact j_iret X hr hk dX9_keep_60 (Option.some.inj h)
    refine j_pick [1, 2, 0] rfl ?_
    exact jL_X9_keep_18 X hr hk Hv_5 NF 0 (upm G 81 0 0) h
  · have h := bi_t c_1 h
    refine j_iconst (v := (-1)) X dX9_keep_14 (by decide) ?_
    exact j_iret X hr hk dX9_keep_15 (Option.some.inj h)
abbrev rm_X9_known : Room := { frames := 4, cells := 0, slots := 0, locals := 100 }
theorem pn_X9_known : yX9_known.cls ≠ "java/lang/invoke/MethodHandle" ∧ yX9_known.cls ≠ "java/lang/invoke/VarHandle" ∧ (parseMethodDescriptor yX9_known.desc).map (fun d => d.parameters.length) = some 2 := by decide +kernel
def m_X9_known (G : Mem) (p1 : Int32) (p2 : Int32) : Option (Int32 × Mem) := (m_X9_isTime (upm G 81 0 0) p1).bind (fun r_1 => (if r_1 = 0 then some ((-1), upm G 81 0 0) else (m_X9_isTime (upm G 81 0 0) p2).bind (fun r_3 => (if r_3 = 0 then some ((-1), upm G 81 0 0) else (m_X9_all (upm G 81 0 0)).bind (fun r_5 => (m_X9_knownBy (upm G 81 0 0) r_5 p1 p2).bind (fun q_6 => some (q_6.1, q_6.2)))))))
set_option maxRecDepth 100000 in
set_option maxHeartbeats 4000000 in
theorem c_X9_known (l : Launch) (w : WP) (G : Mem) (p1 : Int32) (p2 : Int32) {res : Int32 × Mem} (h0 : m_X9_known G p1 p2 = some res) : CMi l yX9_known cX9_known 3 (some .int) 4 100 w [.ref (w.1 81), .int p1, .int p2] G res := by
  refine CMi.of (by decide +kernel) (Nat.le_of_ble_eq_true rfl) ?_
  intro p e s m args below meth c X hr hk
  have h := bs_i h0
  unfold m_X9_known at h
  show J p l e rm_X9_known s m args below meth c (Qint below args s w res) w 3 G 0 [(0, .ref (w.1 81)), (1, .int p1), (2, .int p2)] []
  refine j_aload_n X dX9_known_0 rfl 0 rfl ?_
  refine j_iconst (v := 0) X dX9_known_1 (by decide) ?_
  refine j_putI (C := RX9) (T := TX9) (N := 22) X tyX9 tyX9_ok nmX9 81 s_81 rfl hin_X9 0 (by decide) rfl q_862 rfl rfl dX9_known_2 ?_
  refine j_aload_n X dX9_known_5 rfl 0 rfl ?_
  refine j_iload_n X dX9_known_6 rfl 1 rfl ?_
  obtain ⟨r_1, hr_1, h⟩ := bd_s h
  refine j_callVi (As := [.int p1]) X 81 s_81 rfl (c_X9_isTime l w (upm G 81 0 0)  p1 hr_1) rfl pn_X9_isTime q_1042 q_1044 q_48 q_68 q_1045 ⟨Nat.le_of_ble_eq_true rfl, Nat.le_of_ble_eq_true rfl⟩ (Nat.le_of_ble_eq_true rfl) rfl dX9_known_7 ?_
  refine j_if_eq X 34 dX9_known_10 (by decide) (fun c_2 => ?_) (fun c_2 => ?_)
  · have h := bi_t c_2 h
    refine j_iconst (v := (-1)) X dX9_known_34 (by decide) ?_
    exact j_iret X hr hk dX9_known_35 (Option.some.inj h)
  · have h := bi_f c_2 h
    refine j_aload_n X dX9_known_13 rfl 0 rfl ?_
    refine j_iload_n X dX9_known_14 rfl 2 rfl ?_
    obtain ⟨r_3, hr_3, h⟩ := bd_s h
    refine j_callVi (As := [.int p2]) X 81 s_81 rfl (c_X9_isTime l w (upm G 81 0 0)  p2 hr_3) rfl pn_X9_isTime q_1042 q_1044 q_48 q_68 q_1045 ⟨Nat.le_of_ble_eq_true rfl, Nat.le_of_ble_eq_true rfl⟩ (Nat.le_of_ble_eq_true rfl) rfl dX9_known_15 ?_
    refine j_if_eq X 34 dX9_known_18 (by decide) (fun c_4 => ?_) (fun c_4 => ?_)
    · have h := bi_t c_4 h
      refine j_iconst (v := (-1)) X dX9_known_34 (by decide) ?_
      exact j_iret X hr hk dX9_known_35 (Option.some.inj h)
    · have h := bi_f c_4 h
      refine j_aload_n X dX9_known_21 rfl 0 rfl ?_
      refine j_aload_n X dX9_known_22 rfl 0 rfl ?_
      obtain ⟨r_5, hr_5, h⟩ := bd_s h
      refine j_callVi (As := []) X 81 s_81 rfl (c_X9_all l w (upm G 81 0 0)   hr_5) rfl pn_X9_all q_995 q_997 q_39 q_68 q_998 ⟨Nat.le_of_ble_eq_true rfl, Nat.le_of_ble_eq_true rfl⟩ (Nat.le_of_ble_eq_true rfl) rfl dX9_known_23 ?_
      refine j_iload_n X dX9_known_26 rfl 1 rfl ?_
      refine j_iload_n X dX9_known_27 rfl 2 rfl ?_
      obtain ⟨q_6, hq_6, h⟩ := bd_s h
      refine j_callVi (As := [.int r_5, .int p1, .int p2]) X 81 s_81 rfl (c_X9_knownBy l w (upm G 81 0 0)  r_5 p1 p2 hq_6) rfl pn_X9_knownBy q_1046 q_1048 q_49 q_68 q_1049 ⟨Nat.le_of_ble_eq_true rfl, Nat.le_of_ble_eq_true rfl⟩ (Nat.le_of_ble_eq_true rfl) rfl dX9_known_28 ?_
      refine j_goto X 35 dX9_known_31 (by decide) ?_
      exact j_iret X hr hk dX9_known_35 (Option.some.inj h)
abbrev rm_X9_left : Room := { frames := 5, cells := 0, slots := 0, locals := 129 }
theorem pn_X9_left : yX9_left.cls ≠ "java/lang/invoke/MethodHandle" ∧ yX9_left.cls ≠ "java/lang/invoke/VarHandle" ∧ (parseMethodDescriptor yX9_left.desc).map (fun d => d.parameters.length) = some 3 := by decide +kernel
def m_X9_left (G : Mem) (p1 : Int32) (p2 : Int32) (p3 : Int32) : Option (Int32 × Mem) := (m_X9_isClause (upm G 81 0 0) p1).bind (fun r_1 => (if r_1 = 0 then some ((-1), upm G 81 0 0) else (m_X9_isClause (upm G 81 0 0) p2).bind (fun r_3 => (if r_3 = 0 then some ((-1), upm G 81 0 0) else (if p1 = p2 then some ((-1), upm G 81 0 0) else (if (m_X9_in p3 0 2) = 0 then some ((-1), upm G 81 0 0) else (m_X9_leftBy (upm G 81 0 0) p1 p2 p3).bind (fun q_7 => some (q_7.1, q_7.2))))))))
set_option maxRecDepth 100000 in
set_option maxHeartbeats 4000000 in
theorem c_X9_left (l : Launch) (w : WP) (G : Mem) (p1 : Int32) (p2 : Int32) (p3 : Int32) {res : Int32 × Mem} (h0 : m_X9_left G p1 p2 p3 = some res) : CMi l yX9_left cX9_left 4 (some .int) 5 129 w [.ref (w.1 81), .int p1, .int p2, .int p3] G res := by
  refine CMi.of (by decide +kernel) (Nat.le_of_ble_eq_true rfl) ?_
  intro p e s m args below meth c X hr hk
  have h := bs_i h0
  unfold m_X9_left at h
  show J p l e rm_X9_left s m args below meth c (Qint below args s w res) w 4 G 0 [(0, .ref (w.1 81)), (1, .int p1), (2, .int p2), (3, .int p3)] []
  refine j_aload_n X dX9_left_0 rfl 0 rfl ?_
  refine j_iconst (v := 0) X dX9_left_1 (by decide) ?_
  refine j_putI (C := RX9) (T := TX9) (N := 22) X tyX9 tyX9_ok nmX9 81 s_81 rfl hin_X9 0 (by decide) rfl q_862 rfl rfl dX9_left_2 ?_
  refine j_aload_n X dX9_left_5 rfl 0 rfl ?_
  refine j_iload_n X dX9_left_6 rfl 1 rfl ?_
  obtain ⟨r_1, hr_1, h⟩ := bd_s h
  refine j_callVi (As := [.int p1]) X 81 s_81 rfl (c_X9_isClause l w (upm G 81 0 0)  p1 hr_1) rfl pn_X9_isClause q_975 q_977 q_36 q_68 q_978 ⟨Nat.le_of_ble_eq_true rfl, Nat.le_of_ble_eq_true rfl⟩ (Nat.le_of_ble_eq_true rfl) rfl dX9_left_7 ?_
  refine j_if_eq X 45 dX9_left_10 (by decide) (fun c_2 => ?_) (fun c_2 => ?_)
  · have h := bi_t c_2 h
    refine j_iconst (v := (-1)) X dX9_left_45 (by decide) ?_
    exact j_iret X hr hk dX9_left_46 (Option.some.inj h)
  · have h := bi_f c_2 h
    refine j_aload_n X dX9_left_13 rfl 0 rfl ?_
    refine j_iload_n X dX9_left_14 rfl 2 rfl ?_
    obtain ⟨r_3, hr_3, h⟩ := bd_s h
    refine j_callVi (As := [.int p2]) X 81 s_81 rfl (c_X9_isClause l w (upm G 81 0 0)  p2 hr_3) rfl pn_X9_isClause q_975 q_977 q_36 q_68 q_978 ⟨Nat.le_of_ble_eq_true rfl, Nat.le_of_ble_eq_true rfl⟩ (Nat.le_of_ble_eq_true rfl) rfl dX9_left_15 ?_
    refine j_if_eq X 45 dX9_left_18 (by decide) (fun c_4 => ?_) (fun c_4 => ?_)
    · have h := bi_t c_4 h
      refine j_iconst (v := (-1)) X dX9_left_45 (by decide) ?_
      exact j_iret X hr hk dX9_left_46 (Option.some.inj h)
    · have h := bi_f c_4 h
      refine j_iload_n X dX9_left_21 rfl 1 rfl ?_
      refine j_iload_n X dX9_left_22 rfl 2 rfl ?_
      refine j_icmp_eq X 45 dX9_left_23 (by decide) (fun c_5 => ?_) (fun c_5 => ?_)
      · have h := bi_t c_5 h
        refine j_iconst (v := (-1)) X dX9_left_45 (by decide) ?_
        exact j_iret X hr hk dX9_left_46 (Option.some.inj h)
      · have h := bi_f c_5 h
        refine j_iload_n X dX9_left_26 rfl 3 rfl ?_
        refine j_iconst (v := 0) X dX9_left_27 (by decide) ?_
        refine j_iconst (v := 2) X dX9_left_28 (by decide) ?_
        refine j_callSi (As := [.int p3, .int 0, .int 2]) X (c_X9_in l w (upm G 81 0 0)  p3 0 2) pn_X9_in q_934 q_935 q_68 q_936 ⟨Nat.le_of_ble_eq_true rfl, Nat.le_of_ble_eq_true rfl⟩ (Nat.le_of_ble_eq_true rfl) rfl dX9_left_29 ?_
        refine j_if_eq X 45 dX9_left_32 (by decide) (fun c_6 => ?_) (fun c_6 => ?_)
        · have h := bi_t c_6 h
          refine j_iconst (v := (-1)) X dX9_left_45 (by decide) ?_
          exact j_iret X hr hk dX9_left_46 (Option.some.inj h)
        · have h := bi_f c_6 h
          refine j_aload_n X dX9_left_35 rfl 0 rfl ?_
          refine j_iload_n X dX9_left_36 rfl 1 rfl ?_
          refine j_iload_n X dX9_left_37 rfl 2 rfl ?_
          refine j_iload_n X dX9_left_38 rfl 3 rfl ?_
          obtain ⟨q_7, hq_7, h⟩ := bd_s h
          refine j_callVi (As := [.int p1, .int p2, .int p3]) X 81 s_81 rfl (c_X9_leftBy l w (upm G 81 0 0)  p1 p2 p3 hq_7) rfl pn_X9_leftBy q_1082 q_1084 q_54 q_68 q_1085 ⟨Nat.le_of_ble_eq_true rfl, Nat.le_of_ble_eq_true rfl⟩ (Nat.le_of_ble_eq_true rfl) rfl dX9_left_39 ?_
          refine j_goto X 46 dX9_left_42 (by decide) ?_
          exact j_iret X hr hk dX9_left_46 (Option.some.inj h)
abbrev rm_X9_line : Room := { frames := 3, cells := 0, slots := 0, locals := 77 }
theorem pn_X9_line : yX9_line.cls ≠ "java/lang/invoke/MethodHandle" ∧ yX9_line.cls ≠ "java/lang/invoke/VarHandle" ∧ (parseMethodDescriptor yX9_line.desc).map (fun d => d.parameters.length) = some 1 := by decide +kernel
def m_X9_line (G : Mem) (p1 : Int32) : Option (Int32 × Mem) := (m_X9_isTime (upm G 81 0 0) p1).bind (fun r_1 => (if r_1 = 0 then some ((-1), upm G 81 0 0) else (m_X9_all (upm G 81 0 0)).bind (fun r_3 => (m_X9_laysAll (upm G 81 0 0) r_3 0 (-9) 0).bind (fun q_4 => (m_X9_isSound q_4).bind (fun q_5 => (if q_5.1 = 0 then some ((-9), q_5.2) else (ald 17 q_5.2 93 p1).bind (fun r_7 => some (r_7, q_5.2))))))))
set_option maxRecDepth 100000 in
set_option maxHeartbeats 4000000 in
theorem c_X9_line (l : Launch) (w : WP) (G : Mem) (p1 : Int32) {res : Int32 × Mem} (h0 : m_X9_line G p1 = some res) : CMi l yX9_line cX9_line 2 (some .int) 3 77 w [.ref (w.1 81), .int p1] G res := by
  refine CMi.of (by decide +kernel) (Nat.le_of_ble_eq_true rfl) ?_
  intro p e s m args below meth c X hr hk
  have h := bs_i h0
  unfold m_X9_line at h
  show J p l e rm_X9_line s m args below meth c (Qint below args s w res) w 2 G 0 [(0, .ref (w.1 81)), (1, .int p1)] []
  refine j_aload_n X dX9_line_0 rfl 0 rfl ?_
  refine j_iconst (v := 0) X dX9_line_1 (by decide) ?_
  refine j_putI (C := RX9) (T := TX9) (N := 22) X tyX9 tyX9_ok nmX9 81 s_81 rfl hin_X9 0 (by decide) rfl q_862 rfl rfl dX9_line_2 ?_
  refine j_aload_n X dX9_line_5 rfl 0 rfl ?_
  refine j_iload_n X dX9_line_6 rfl 1 rfl ?_
  obtain ⟨r_1, hr_1, h⟩ := bd_s h
  refine j_callVi (As := [.int p1]) X 81 s_81 rfl (c_X9_isTime l w (upm G 81 0 0)  p1 hr_1) rfl pn_X9_isTime q_1042 q_1044 q_48 q_68 q_1045 ⟨Nat.le_of_ble_eq_true rfl, Nat.le_of_ble_eq_true rfl⟩ (Nat.le_of_ble_eq_true rfl) rfl dX9_line_7 ?_
  refine j_if_ne X 15 dX9_line_10 (by decide) (fun c_2 => ?_) (fun c_2 => ?_)
  · have h := bi_f c_2 h
    refine j_aload_n X dX9_line_15 rfl 0 rfl ?_
    refine j_aload_n X dX9_line_16 rfl 0 rfl ?_
    obtain ⟨r_3, hr_3, h⟩ := bd_s h
    refine j_callVi (As := []) X 81 s_81 rfl (c_X9_all l w (upm G 81 0 0)   hr_3) rfl pn_X9_all q_995 q_997 q_39 q_68 q_998 ⟨Nat.le_of_ble_eq_true rfl, Nat.le_of_ble_eq_true rfl⟩ (Nat.le_of_ble_eq_true rfl) rfl dX9_line_17 ?_
    refine j_iconst (v := 0) X dX9_line_20 (by decide) ?_
    refine j_bipush (v := (-9)) X dX9_line_21 (by decide) ?_
    refine j_iconst (v := 0) X dX9_line_23 (by decide) ?_
    obtain ⟨q_4, hq_4, h⟩ := bd_s h
    refine j_callVv (As := [.int r_3, .int 0, .int (-9), .int 0]) X 81 s_81 rfl (c_X9_laysAll l w (upm G 81 0 0)  r_3 0 (-9) 0 hq_4) rfl pn_X9_laysAll q_999 q_1001 q_40 q_68 q_1002 ⟨Nat.le_of_ble_eq_true rfl, Nat.le_of_ble_eq_true rfl⟩ (Nat.le_of_ble_eq_true rfl) rfl dX9_line_24 ?_
    refine j_aload_n X dX9_line_27 rfl 0 rfl ?_
    obtain ⟨q_5, hq_5, h⟩ := bd_s h
    refine j_callVi (As := []) X 81 s_81 rfl (c_X9_isSound l w q_4   hq_5) rfl pn_X9_isSound q_1023 q_1025 q_46 q_68 q_1026 ⟨Nat.le_of_ble_eq_true rfl, Nat.le_of_ble_eq_true rfl⟩ (Nat.le_of_ble_eq_true rfl) rfl dX9_line_28 ?_
    refine j_if_eq X 43 dX9_line_31 (by decide) (fun c_6 => ?_) (fun c_6 => ?_)
    · have h := bi_t c_6 h
      refine j_bipush (v := (-9)) X dX9_line_43 (by decide) ?_
      exact j_iret X hr hk dX9_line_45 (Option.some.inj h)
    · have h := bi_f c_6 h
      refine j_aload_n X dX9_line_34 rfl 0 rfl ?_
      refine j_getR (C := RX9) (T := TX9) (N := 22) X 81 s_81 rfl hin_X9 17 (by decide) 93 rfl q_879 dX9_line_35 ?_
      refine j_iload_n X dX9_line_38 rfl 1 rfl ?_
      obtain ⟨r_7, hr_7, h⟩ := bd_s h
      refine j_iald X 93 17 s_93 hr_7 dX9_line_39 ?_
      refine j_goto X 45 dX9_line_40 (by decide) ?_
      exact j_iret X hr hk dX9_line_45 (Option.some.inj h)
  · have h := bi_t c_2 h
    refine j_iconst (v := (-1)) X dX9_line_13 (by decide) ?_
    exact j_iret X hr hk dX9_line_14 (Option.some.inj h)
abbrev rm_X9_linkOf : Room := { frames := 0, cells := 0, slots := 0, locals := 0 }
theorem pn_X9_linkOf : yX9_linkOf.cls ≠ "java/lang/invoke/MethodHandle" ∧ yX9_linkOf.cls ≠ "java/lang/invoke/VarHandle" ∧ (parseMethodDescriptor yX9_linkOf.desc).map (fun d => d.parameters.length) = some 1 := by decide +kernel
def m_X9_linkOf (p1 : Int32) : Int32 := (if p1 = 43 then 0 else (if p1 = 61 then 1 else (if p1 = 45 then 2 else (if p1 = 47 then 3 else (-9)))))
set_option maxRecDepth 100000 in
set_option maxHeartbeats 4000000 in
theorem c_X9_linkOf (l : Launch) (w : WP) (G : Mem) (p1 : Int32) : CMi l yX9_linkOf cX9_linkOf 1 (some .int) 0 0 w [.int p1] G (m_X9_linkOf p1, G) := by
  refine CMi.of (by decide +kernel) (Nat.le_of_ble_eq_true rfl) ?_
  intro p e s m args below meth c X hr hk
  obtain ⟨res, h⟩ : ∃ z, m_X9_linkOf p1 = z := ⟨_, rfl⟩
  rw [h]
  unfold m_X9_linkOf at h
  show J p l e rm_X9_linkOf s m args below meth c (Qint below args s w (res, G)) w 1 G 0 [(0, .int p1)] []
  refine j_iload_n X dX9_linkOf_0 rfl 0 rfl ?_
  refine j_bipush (v := 43) X dX9_linkOf_1 (by decide) ?_
  refine j_icmp_ne X 10 dX9_linkOf_3 (by decide) (fun c_1 => ?_) (fun c_1 => ?_)
  · have h := pi_f c_1 h
    refine j_iload_n X dX9_linkOf_10 rfl 0 rfl ?_
    refine j_bipush (v := 61) X dX9_linkOf_11 (by decide) ?_
    refine j_icmp_ne X 20 dX9_linkOf_13 (by decide) (fun c_2 => ?_) (fun c_2 => ?_)
    · have h := pi_f c_2 h
      refine j_iload_n X dX9_linkOf_20 rfl 0 rfl ?_
      refine j_bipush (v := 45) X dX9_linkOf_21 (by decide) ?_
      refine j_icmp_ne X 30 dX9_linkOf_23 (by decide) (fun c_3 => ?_) (fun c_3 => ?_)
      · have h := pi_f c_3 h
        refine j_iload_n X dX9_linkOf_30 rfl 0 rfl ?_
        refine j_bipush (v := 47) X dX9_linkOf_31 (by decide) ?_
        refine j_icmp_ne X 40 dX9_linkOf_33 (by decide) (fun c_4 => ?_) (fun c_4 => ?_)
        · have h := pi_f c_4 h
          refine j_bipush (v := (-9)) X dX9_linkOf_40 (by decide) ?_
          exact j_iret X hr hk dX9_linkOf_42 (congrArg (fun z => (z, G)) (h))
        · have h := pi_t c_4 h
          refine j_iconst (v := 3) X dX9_linkOf_36 (by decide) ?_
          refine j_goto X 42 dX9_linkOf_37 (by decide) ?_
          exact j_iret X hr hk dX9_linkOf_42 (congrArg (fun z => (z, G)) (h))
      · have h := pi_t c_3 h
        refine j_iconst (v := 2) X dX9_linkOf_26 (by decide) ?_
        refine j_goto X 42 dX9_linkOf_27 (by decide) ?_
        exact j_iret X hr hk dX9_linkOf_42 (congrArg (fun z => (z, G)) (h))
    · have h := pi_t c_2 h
      refine j_iconst (v := 1) X dX9_linkOf_16 (by decide) ?_
      refine j_goto X 42 dX9_linkOf_17 (by decide) ?_
      exact j_iret X hr hk dX9_linkOf_42 (congrArg (fun z => (z, G)) (h))
  · have h := pi_t c_1 h
    refine j_iconst (v := 0) X dX9_linkOf_6 (by decide) ?_
    refine j_goto X 42 dX9_linkOf_7 (by decide) ?_
    exact j_iret X hr hk dX9_linkOf_42 (congrArg (fun z => (z, G)) (h))
