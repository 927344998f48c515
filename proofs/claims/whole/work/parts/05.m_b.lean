abbrev rm_X1_isSound : Room := { frames := 1, cells := 0, slots := 0, locals := 21 }
theorem pn_X1_isSound : yX1_isSound.cls ≠ "java/lang/invoke/MethodHandle" ∧ yX1_isSound.cls ≠ "java/lang/invoke/VarHandle" ∧ (parseMethodDescriptor yX1_isSound.desc).map (fun d => d.parameters.length) = some 0 := by decide +kernel
def L_X1_isSound_2 (o : Nat) (G : Mem) : Nat → Int32 → Option ((Unit) ⊕ (Int32))
  | 0, _ => none
  | n + 1, x1 => (if 17 ≤ x1 then some (Sum.inl ()) else (ald 17 G (o + 2) x1).bind (fun r_2 => (if (m_X8_has r_2 x1) = 0 then L_X1_isSound_2 o G n (x1 + 1) else some (Sum.inr 0))))
def m_X1_isSound (G : Mem) (o : Nat) : Option (Int32) := (L_X1_isSound_2 o G NF 0).bind (fun o_v_4 => (match o_v_4 with | Sum.inl v_4 => some 1 | Sum.inr v_5 => some v_5))
set_option maxRecDepth 100000 in
set_option maxHeartbeats 4000000 in
theorem jL_X1_isSound_2 {p : Program} {l : Launch} {e : Env} {s : State} {m : MethodId} {args : Array Value} {below : List Frame} {meth : Method} {c : Code} {w : WP} (X : fw_X p s m args c cX1_isSound 2 RX1 w) (hr : meth.sig.returnType = (some .boolean)) (hk : meth.locks = false) (o : Nat) (ho_o : o = 27 ∨ o = 31) {G : Mem} {res : Int32} {K : (Unit) ⊕ (Int32) → Option (Int32)} (HK : ∀ v : Unit, K (Sum.inl v) = some res → J p l e rm_X1_isSound s m args below meth c (Qint below args s w (res, G)) w 2 G 29 [] []) (HR : ∀ v : Int32, K (Sum.inr v) = some res → v = res) : ∀ (n : Nat) (x1 : Int32), (L_X1_isSound_2 o G n x1).bind K = some res → J p l e rm_X1_isSound s m args below meth c (Qint below args s w (res, G)) w 2 G 2 [(0, .ref (w.1 o)), (1, .int x1)] [] := by
  have hs_o : fw_lay[o]? = some (.inl (1, [some (o + 1), some (o + 2)])) := by rcases ho_o with rfl | rfl <;> rfl
  have hs_o_1 : fw_lay[o + 1]? = some (.inr (0, 17, 0)) := by rcases ho_o with rfl | rfl <;> rfl
  have hs_o_2 : fw_lay[o + 2]? = some (.inr (0, 17, 0)) := by rcases ho_o with rfl | rfl <;> rfl
  intro n
  induction n with
  | zero =>
    intro x1 h
    rw [L_X1_isSound_2] at h
    cases h
  | succ n ih =>
    intro x1 h
    rw [L_X1_isSound_2] at h
    refine j_iload_n X dX1_isSound_2 rfl 1 rfl ?_
    refine j_bipush (v := 17) X dX1_isSound_3 (by decide) ?_
    refine j_icmp_ge X 29 dX1_isSound_5 (by decide) (fun c_1 => ?_) (fun c_1 => ?_)
    · have h := bi_t c_1 h
      refine j_pick [] rfl ?_
      exact HK () h
    · have h := bi_f c_1 h
      refine j_aload_n X dX1_isSound_8 rfl 0 rfl ?_
      refine j_getR (C := RX1) (T := TX1) (N := 2) X o hs_o rfl hin_X1 1 (by decide) (o + 2) rfl q_184 dX1_isSound_9 ?_
      refine j_iload_n X dX1_isSound_12 rfl 1 rfl ?_
      obtain ⟨r_2, hr_2, h⟩ := bd_s h
      refine j_iald X (o + 2) 17 hs_o_2 hr_2 dX1_isSound_13 ?_
      refine j_iload_n X dX1_isSound_14 rfl 1 rfl ?_
      refine j_callNi (As := [.int r_2, .int x1]) X (c_X8_has l w G  r_2 x1) pn_X8_has nm_1 q_620 q_59 q_621 ⟨Nat.le_of_ble_eq_true rfl, Nat.le_of_ble_eq_true rfl⟩ (Nat.le_of_ble_eq_true rfl) rfl dX1_isSound_15 ?_
      refine j_if_eq X 23 dX1_isSound_18 (by decide) (fun c_3 => ?_) (fun c_3 => ?_)
      · have h := bi_t c_3 h
        refine j_iinc (v := x1 + 1) X [(1, .int (x1 + 1)), (0, .ref (w.1 o))] dX1_isSound_23 1 rfl rfl (by decide) rfl ?_
        refine j_goto X 2 dX1_isSound_26 (by decide) ?_
        refine j_pick [1, 0] rfl ?_
        exact ih (x1 + 1) h
      · have h := bi_f c_3 h
        refine j_iconst (v := 0) X dX1_isSound_21 (by decide) ?_
        exact j_zret X hr hk (by decide) dX1_isSound_22 (congrArg (fun z => (z, G)) (HR _ h))
set_option maxRecDepth 100000 in
set_option maxHeartbeats 4000000 in
theorem c_X1_isSound (l : Launch) (w : WP) (G : Mem) (o : Nat) (ho_o : o = 27 ∨ o = 31) {res : Int32} (h0 : m_X1_isSound G o = some res) : CMi l yX1_isSound cX1_isSound 2 (some .boolean) 1 21 w [.ref (w.1 o)] G (res, G) := by
  have hs_o : fw_lay[o]? = some (.inl (1, [some (o + 1), some (o + 2)])) := by rcases ho_o with rfl | rfl <;> rfl
  have hs_o_1 : fw_lay[o + 1]? = some (.inr (0, 17, 0)) := by rcases ho_o with rfl | rfl <;> rfl
  have hs_o_2 : fw_lay[o + 2]? = some (.inr (0, 17, 0)) := by rcases ho_o with rfl | rfl <;> rfl
  refine CMi.of (by decide +kernel) (Nat.le_of_ble_eq_true rfl) ?_
  intro p e s m args below meth c X hr hk
  have h := bs_i h0
  unfold m_X1_isSound at h
  show J p l e rm_X1_isSound s m args below meth c (Qint below args s w (res, G)) w 2 G 0 [(0, .ref (w.1 o))] []
  refine j_iconst (v := 0) X dX1_isSound_0 (by decide) ?_
  refine j_istore_n X [(1, .int 0), (0, .ref (w.1 o))] dX1_isSound_1 rfl (by decide) rfl ?_
  have h := bb_a h
  have Hv_4 : ∀ v_4 : Unit, (some 1).bind some = some res → J p l e rm_X1_isSound s m args below meth c (Qint below args s w (res, G)) w 2 G 29 [] [] := by
    intro v_4 h
    refine j_iconst (v := 1) X dX1_isSound_29 (by decide) ?_
    exact j_zret X hr hk (by decide) dX1_isSound_30 (congrArg (fun z => (z, G)) (Option.some.inj h))
  refine j_pick [1, 0] rfl ?_
  exact jL_X1_isSound_2 (K := fun o_v_4 => ((match o_v_4 with | Sum.inl v_4 => some 1 | Sum.inr v_5 => some v_5)).bind some) X hr hk o ho_o Hv_4 (fun z h => Option.some.inj h) NF 0 h
abbrev rm_X1_notBehindRow : Room := { frames := 1, cells := 0, slots := 0, locals := 20 }
theorem pn_X1_notBehindRow : yX1_notBehindRow.cls ≠ "java/lang/invoke/MethodHandle" ∧ yX1_notBehindRow.cls ≠ "java/lang/invoke/VarHandle" ∧ (parseMethodDescriptor yX1_notBehindRow.desc).map (fun d => d.parameters.length) = some 1 := by decide +kernel
def m_X1_notBehindRow (G : Mem) (o : Nat) (p1 : Int32) : Option (Int32) := (if (m_X1_isWithin p1) = 0 then some 0 else (ald 17 G (o + 1) p1).bind (fun r_2 => some r_2))
set_option maxRecDepth 100000 in
set_option maxHeartbeats 4000000 in
theorem c_X1_notBehindRow (l : Launch) (w : WP) (G : Mem) (o : Nat) (ho_o : o = 27 ∨ o = 31) (p1 : Int32) {res : Int32} (h0 : m_X1_notBehindRow G o p1 = some res) : CMi l yX1_notBehindRow cX1_notBehindRow 2 (some .int) 1 20 w [.ref (w.1 o), .int p1] G (res, G) := by
  have hs_o : fw_lay[o]? = some (.inl (1, [some (o + 1), some (o + 2)])) := by rcases ho_o with rfl | rfl <;> rfl
  have hs_o_1 : fw_lay[o + 1]? = some (.inr (0, 17, 0)) := by rcases ho_o with rfl | rfl <;> rfl
  have hs_o_2 : fw_lay[o + 2]? = some (.inr (0, 17, 0)) := by rcases ho_o with rfl | rfl <;> rfl
  refine CMi.of (by decide +kernel) (Nat.le_of_ble_eq_true rfl) ?_
  intro p e s m args below meth c X hr hk
  have h := bs_i h0
  unfold m_X1_notBehindRow at h
  show J p l e rm_X1_notBehindRow s m args below meth c (Qint below args s w (res, G)) w 2 G 0 [(0, .ref (w.1 o)), (1, .int p1)] []
  refine j_iload_n X dX1_notBehindRow_0 rfl 1 rfl ?_
  refine j_callSi (As := [.int p1]) X (c_X1_isWithin l w G  p1) pn_X1_isWithin q_633 q_634 q_65 q_635 ⟨Nat.le_of_ble_eq_true rfl, Nat.le_of_ble_eq_true rfl⟩ (Nat.le_of_ble_eq_true rfl) rfl dX1_notBehindRow_1 ?_
  refine j_if_eq X 16 dX1_notBehindRow_4 (by decide) (fun c_1 => ?_) (fun c_1 => ?_)
  · have h := bi_t c_1 h
    refine j_iconst (v := 0) X dX1_notBehindRow_16 (by decide) ?_
    exact j_iret X hr hk dX1_notBehindRow_17 (congrArg (fun z => (z, G)) (Option.some.inj h))
  · have h := bi_f c_1 h
    refine j_aload_n X dX1_notBehindRow_7 rfl 0 rfl ?_
    refine j_getR (C := RX1) (T := TX1) (N := 2) X o hs_o rfl hin_X1 0 (by decide) (o + 1) rfl q_183 dX1_notBehindRow_8 ?_
    refine j_iload_n X dX1_notBehindRow_11 rfl 1 rfl ?_
    obtain ⟨r_2, hr_2, h⟩ := bd_s h
    refine j_iald X (o + 1) 17 hs_o_1 hr_2 dX1_notBehindRow_12 ?_
    refine j_goto X 17 dX1_notBehindRow_13 (by decide) ?_
    exact j_iret X hr hk dX1_notBehindRow_17 (congrArg (fun z => (z, G)) (Option.some.inj h))
abbrev rm_X1_relate : Room := { frames := 2, cells := 0, slots := 0, locals := 46 }
theorem pn_X1_relate : yX1_relate.cls ≠ "java/lang/invoke/MethodHandle" ∧ yX1_relate.cls ≠ "java/lang/invoke/VarHandle" ∧ (parseMethodDescriptor yX1_relate.desc).map (fun d => d.parameters.length) = some 3 := by decide +kernel
def m_X1_relate (G : Mem) (o : Nat) (p1 : Int32) (p2 : Int32) (p3 : Int32) : Option (Mem) := (if (m_X1_isWithin p1) = 0 then some G else (if (m_X1_isWithin p3) = 0 then some G else (if p2 = 0 then (ald 17 G (o + 1) p3).bind (fun r_12 => (m_X1_chain G o p1 p3 r_12).bind (fun q_13 => some q_13)) else (if p2 = 2 then (ald 17 G (o + 1) p1).bind (fun r_10 => (m_X1_chain G o p3 p1 r_10).bind (fun q_11 => some q_11)) else (if p2 = 1 then (ald 17 G (o + 2) p3).bind (fun r_6 => (m_X1_chain G o p1 p3 r_6).bind (fun q_7 => (ald 17 q_7 (o + 2) p1).bind (fun r_8 => (m_X1_chain q_7 o p3 p1 r_8).bind (fun q_9 => some q_9)))) else some G)))))
set_option maxRecDepth 100000 in
set_option maxHeartbeats 4000000 in
theorem c_X1_relate (l : Launch) (w : WP) (G : Mem) (o : Nat) (ho_o : o = 27 ∨ o = 31) (p1 : Int32) (p2 : Int32) (p3 : Int32) {res : Mem} (h0 : m_X1_relate G o p1 p2 p3 = some res) : CMv l yX1_relate cX1_relate 4 none 2 46 w [.ref (w.1 o), .int p1, .int p2, .int p3] G res := by
  have hs_o : fw_lay[o]? = some (.inl (1, [some (o + 1), some (o + 2)])) := by rcases ho_o with rfl | rfl <;> rfl
  have hs_o_1 : fw_lay[o + 1]? = some (.inr (0, 17, 0)) := by rcases ho_o with rfl | rfl <;> rfl
  have hs_o_2 : fw_lay[o + 2]? = some (.inr (0, 17, 0)) := by rcases ho_o with rfl | rfl <;> rfl
  refine CMv.of (by decide +kernel) (Nat.le_of_ble_eq_true rfl) ?_
  intro p e s m args below meth c X hr hk
  have h := bs_i h0
  unfold m_X1_relate at h
  show J p l e rm_X1_relate s m args below meth c (Qvoid below args s w res) w 4 G 0 [(0, .ref (w.1 o)), (1, .int p1), (2, .int p2), (3, .int p3)] []
  refine j_iload_n X dX1_relate_0 rfl 1 rfl ?_
  refine j_callSi (As := [.int p1]) X (c_X1_isWithin l w G  p1) pn_X1_isWithin q_633 q_634 q_65 q_635 ⟨Nat.le_of_ble_eq_true rfl, Nat.le_of_ble_eq_true rfl⟩ (Nat.le_of_ble_eq_true rfl) rfl dX1_relate_1 ?_
  refine j_if_eq X 14 dX1_relate_4 (by decide) (fun c_1 => ?_) (fun c_1 => ?_)
  · have h := bi_t c_1 h
    exact j_vret X hr hk dX1_relate_14 (Option.some.inj h)
  · have h := bi_f c_1 h
    refine j_iload_n X dX1_relate_7 rfl 3 rfl ?_
    refine j_callSi (As := [.int p3]) X (c_X1_isWithin l w G  p3) pn_X1_isWithin q_633 q_634 q_65 q_635 ⟨Nat.le_of_ble_eq_true rfl, Nat.le_of_ble_eq_true rfl⟩ (Nat.le_of_ble_eq_true rfl) rfl dX1_relate_8 ?_
    refine j_if_ne X 15 dX1_relate_11 (by decide) (fun c_2 => ?_) (fun c_2 => ?_)
    · have h := bi_f c_2 h
      refine j_iload_n X dX1_relate_15 rfl 2 rfl ?_
      refine j_if_ne X 34 dX1_relate_16 (by decide) (fun c_3 => ?_) (fun c_3 => ?_)
      · have h := bi_f c_3 h
        refine j_iload_n X dX1_relate_34 rfl 2 rfl ?_
        refine j_iconst (v := 2) X dX1_relate_35 (by decide) ?_
        refine j_icmp_ne X 54 dX1_relate_36 (by decide) (fun c_4 => ?_) (fun c_4 => ?_)
        · have h := bi_f c_4 h
          refine j_iload_n X dX1_relate_54 rfl 2 rfl ?_
          refine j_iconst (v := 1) X dX1_relate_55 (by decide) ?_
          refine j_icmp_ne X 83 dX1_relate_56 (by decide) (fun c_5 => ?_) (fun c_5 => ?_)
          · have h := bi_f c_5 h
            exact j_vret X hr hk dX1_relate_83 (Option.some.inj h)
          · have h := bi_t c_5 h
            refine j_aload_n X dX1_relate_59 rfl 0 rfl ?_
            refine j_iload_n X dX1_relate_60 rfl 1 rfl ?_
            refine j_iload_n X dX1_relate_61 rfl 3 rfl ?_
            refine j_aload_n X dX1_relate_62 rfl 0 rfl ?_
            refine j_getR (C := RX1) (T := TX1) (N := 2) X o hs_o rfl hin_X1 1 (by decide) (o + 2) rfl q_184 dX1_relate_63 ?_
            refine j_iload_n X dX1_relate_66 rfl 3 rfl ?_
            obtain ⟨r_6, hr_6, h⟩ := bd_s h
            refine j_iald X (o + 2) 17 hs_o_2 hr_6 dX1_relate_67 ?_
            obtain ⟨q_7, hq_7, h⟩ := bd_s h
            refine j_callVv (As := [.int p1, .int p3, .int r_6]) X o hs_o rfl (c_X1_chain l w G o ho_o p1 p3 r_6 hq_7) rfl pn_X1_chain q_636 q_638 q_17 q_65 q_639 ⟨Nat.le_of_ble_eq_true rfl, Nat.le_of_ble_eq_true rfl⟩ (Nat.le_of_ble_eq_true rfl) rfl dX1_relate_68 ?_
            refine j_aload_n X dX1_relate_71 rfl 0 rfl ?_
            refine j_iload_n X dX1_relate_72 rfl 3 rfl ?_
            refine j_iload_n X dX1_relate_73 rfl 1 rfl ?_
            refine j_aload_n X dX1_relate_74 rfl 0 rfl ?_
            refine j_getR (C := RX1) (T := TX1) (N := 2) X o hs_o rfl hin_X1 1 (by decide) (o + 2) rfl q_184 dX1_relate_75 ?_
            refine j_iload_n X dX1_relate_78 rfl 1 rfl ?_
            obtain ⟨r_8, hr_8, h⟩ := bd_s h
            refine j_iald X (o + 2) 17 hs_o_2 hr_8 dX1_relate_79 ?_
            obtain ⟨q_9, hq_9, h⟩ := bd_s h
            refine j_callVv (As := [.int p3, .int p1, .int r_8]) X o hs_o rfl (c_X1_chain l w q_7 o ho_o p3 p1 r_8 hq_9) rfl pn_X1_chain q_636 q_638 q_17 q_65 q_639 ⟨Nat.le_of_ble_eq_true rfl, Nat.le_of_ble_eq_true rfl⟩ (Nat.le_of_ble_eq_true rfl) rfl dX1_relate_80 ?_
            exact j_vret X hr hk dX1_relate_83 (Option.some.inj h)
        · have h := bi_t c_4 h
          refine j_aload_n X dX1_relate_39 rfl 0 rfl ?_
          refine j_iload_n X dX1_relate_40 rfl 3 rfl ?_
          refine j_iload_n X dX1_relate_41 rfl 1 rfl ?_
          refine j_aload_n X dX1_relate_42 rfl 0 rfl ?_
          refine j_getR (C := RX1) (T := TX1) (N := 2) X o hs_o rfl hin_X1 0 (by decide) (o + 1) rfl q_183 dX1_relate_43 ?_
          refine j_iload_n X dX1_relate_46 rfl 1 rfl ?_
          obtain ⟨r_10, hr_10, h⟩ := bd_s h
          refine j_iald X (o + 1) 17 hs_o_1 hr_10 dX1_relate_47 ?_
          obtain ⟨q_11, hq_11, h⟩ := bd_s h
          refine j_callVv (As := [.int p3, .int p1, .int r_10]) X o hs_o rfl (c_X1_chain l w G o ho_o p3 p1 r_10 hq_11) rfl pn_X1_chain q_636 q_638 q_17 q_65 q_639 ⟨Nat.le_of_ble_eq_true rfl, Nat.le_of_ble_eq_true rfl⟩ (Nat.le_of_ble_eq_true rfl) rfl dX1_relate_48 ?_
          refine j_goto X 83 dX1_relate_51 (by decide) ?_
          exact j_vret X hr hk dX1_relate_83 (Option.some.inj h)
      · have h := bi_t c_3 h
        refine j_aload_n X dX1_relate_19 rfl 0 rfl ?_
        refine j_iload_n X dX1_relate_20 rfl 1 rfl ?_
        refine j_iload_n X dX1_relate_21 rfl 3 rfl ?_
        refine j_aload_n X dX1_relate_22 rfl 0 rfl ?_
        refine j_getR (C := RX1) (T := TX1) (N := 2) X o hs_o rfl hin_X1 0 (by decide) (o + 1) rfl q_183 dX1_relate_23 ?_
        refine j_iload_n X dX1_relate_26 rfl 3 rfl ?_
        obtain ⟨r_12, hr_12, h⟩ := bd_s h
        refine j_iald X (o + 1) 17 hs_o_1 hr_12 dX1_relate_27 ?_
        obtain ⟨q_13, hq_13, h⟩ := bd_s h
        refine j_callVv (As := [.int p1, .int p3, .int r_12]) X o hs_o rfl (c_X1_chain l w G o ho_o p1 p3 r_12 hq_13) rfl pn_X1_chain q_636 q_638 q_17 q_65 q_639 ⟨Nat.le_of_ble_eq_true rfl, Nat.le_of_ble_eq_true rfl⟩ (Nat.le_of_ble_eq_true rfl) rfl dX1_relate_28 ?_
        refine j_goto X 83 dX1_relate_31 (by decide) ?_
        exact j_vret X hr hk dX1_relate_83 (Option.some.inj h)
    · have h := bi_t c_2 h
      exact j_vret X hr hk dX1_relate_14 (Option.some.inj h)
abbrev rm_X1_tells : Room := { frames := 2, cells := 0, slots := 0, locals := 43 }
theorem pn_X1_tells : yX1_tells.cls ≠ "java/lang/invoke/MethodHandle" ∧ yX1_tells.cls ≠ "java/lang/invoke/VarHandle" ∧ (parseMethodDescriptor yX1_tells.desc).map (fun d => d.parameters.length) = some 2 := by decide +kernel
def m_X1_tells (G : Mem) (o : Nat) (p1 : Int32) (p2 : Int32) : Option (Int32) := (m_X1_isSound G o).bind (fun r_1 => (if r_1 = 0 then some 4 else (m_X1_isAhead G o p1 p2).bind (fun r_3 => (if r_3 = 0 then (m_X1_isAhead G o p2 p1).bind (fun r_5 => (if r_5 = 0 then (if (m_X1_isWithin p1) = 0 then some 0 else (ald 17 G (o + 1) p1).bind (fun r_8 => (if (m_X8_has r_8 p2) = 0 then some 0 else some 2))) else some 3)) else some 1))))
set_option maxRecDepth 100000 in
set_option maxHeartbeats 4000000 in
theorem c_X1_tells (l : Launch) (w : WP) (G : Mem) (o : Nat) (ho_o : o = 27 ∨ o = 31) (p1 : Int32) (p2 : Int32) {res : Int32} (h0 : m_X1_tells G o p1 p2 = some res) : CMi l yX1_tells cX1_tells 3 (some .int) 2 43 w [.ref (w.1 o), .int p1, .int p2] G (res, G) := by
  have hs_o : fw_lay[o]? = some (.inl (1, [some (o + 1), some (o + 2)])) := by rcases ho_o with rfl | rfl <;> rfl
  have hs_o_1 : fw_lay[o + 1]? = some (.inr (0, 17, 0)) := by rcases ho_o with rfl | rfl <;> rfl
  have hs_o_2 : fw_lay[o + 2]? = some (.inr (0, 17, 0)) := by rcases ho_o with rfl | rfl <;> rfl
  refine CMi.of (by decide +kernel) (Nat.le_of_ble_eq_true rfl) ?_
  intro p e s m args below meth c X hr hk
  have h := bs_i h0
  unfold m_X1_tells at h
  show J p l e rm_X1_tells s m args below meth c (Qint below args s w (res, G)) w 3 G 0 [(0, .ref (w.1 o)), (1, .int p1), (2, .int p2)] []
  refine j_aload_n X dX1_tells_0 rfl 0 rfl ?_
  obtain ⟨r_1, hr_1, h⟩ := bd_s h
  refine j_callVi (As := []) X o hs_o rfl (c_X1_isSound l w G o ho_o  hr_1) rfl pn_X1_isSound q_707 q_652 q_653 q_65 q_654 ⟨Nat.le_of_ble_eq_true rfl, Nat.le_of_ble_eq_true rfl⟩ (Nat.le_of_ble_eq_true rfl) rfl dX1_tells_1 ?_
  refine j_if_ne X 9 dX1_tells_4 (by decide) (fun c_2 => ?_) (fun c_2 => ?_)
  · have h := bi_f c_2 h
    refine j_aload_n X dX1_tells_9 rfl 0 rfl ?_
    refine j_iload_n X dX1_tells_10 rfl 1 rfl ?_
    refine j_iload_n X dX1_tells_11 rfl 2 rfl ?_
    obtain ⟨r_3, hr_3, h⟩ := bd_s h
    refine j_callVi (As := [.int p1, .int p2]) X o hs_o rfl (c_X1_isAhead l w G o ho_o p1 p2 hr_3) rfl pn_X1_isAhead q_708 q_709 q_710 q_65 q_711 ⟨Nat.le_of_ble_eq_true rfl, Nat.le_of_ble_eq_true rfl⟩ (Nat.le_of_ble_eq_true rfl) rfl dX1_tells_12 ?_
    refine j_if_eq X 20 dX1_tells_15 (by decide) (fun c_4 => ?_) (fun c_4 => ?_)
    · have h := bi_t c_4 h
      refine j_aload_n X dX1_tells_20 rfl 0 rfl ?_
      refine j_iload_n X dX1_tells_21 rfl 2 rfl ?_
      refine j_iload_n X dX1_tells_22 rfl 1 rfl ?_
      obtain ⟨r_5, hr_5, h⟩ := bd_s h
      refine j_callVi (As := [.int p2, .int p1]) X o hs_o rfl (c_X1_isAhead l w G o ho_o p2 p1 hr_5) rfl pn_X1_isAhead q_708 q_709 q_710 q_65 q_711 ⟨Nat.le_of_ble_eq_true rfl, Nat.le_of_ble_eq_true rfl⟩ (Nat.le_of_ble_eq_true rfl) rfl dX1_tells_23 ?_
      refine j_if_eq X 31 dX1_tells_26 (by decide) (fun c_6 => ?_) (fun c_6 => ?_)
      · have h := bi_t c_6 h
        refine j_iload_n X dX1_tells_31 rfl 1 rfl ?_
        refine j_callSi (As := [.int p1]) X (c_X1_isWithin l w G  p1) pn_X1_isWithin q_633 q_634 q_65 q_635 ⟨Nat.le_of_ble_eq_true rfl, Nat.le_of_ble_eq_true rfl⟩ (Nat.le_of_ble_eq_true rfl) rfl dX1_tells_32 ?_
        refine j_if_eq X 55 dX1_tells_35 (by decide) (fun c_7 => ?_) (fun c_7 => ?_)
        · have h := bi_t c_7 h
          refine j_iconst (v := 0) X dX1_tells_55 (by decide) ?_
          exact j_iret X hr hk dX1_tells_56 (congrArg (fun z => (z, G)) (Option.some.inj h))
        · have h := bi_f c_7 h
          refine j_aload_n X dX1_tells_38 rfl 0 rfl ?_
          refine j_getR (C := RX1) (T := TX1) (N := 2) X o hs_o rfl hin_X1 0 (by decide) (o + 1) rfl q_183 dX1_tells_39 ?_
          refine j_iload_n X dX1_tells_42 rfl 1 rfl ?_
          obtain ⟨r_8, hr_8, h⟩ := bd_s h
          refine j_iald X (o + 1) 17 hs_o_1 hr_8 dX1_tells_43 ?_
          refine j_iload_n X dX1_tells_44 rfl 2 rfl ?_
          refine j_callNi (As := [.int r_8, .int p2]) X (c_X8_has l w G  r_8 p2) pn_X8_has nm_1 q_620 q_59 q_621 ⟨Nat.le_of_ble_eq_true rfl, Nat.le_of_ble_eq_true rfl⟩ (Nat.le_of_ble_eq_true rfl) rfl dX1_tells_45 ?_
          refine j_if_eq X 55 dX1_tells_48 (by decide) (fun c_9 => ?_) (fun c_9 => ?_)
          · have h := bi_t c_9 h
            refine j_iconst (v := 0) X dX1_tells_55 (by decide) ?_
            exact j_iret X hr hk dX1_tells_56 (congrArg (fun z => (z, G)) (Option.some.inj h))
          · have h := bi_f c_9 h
            refine j_iconst (v := 2) X dX1_tells_51 (by decide) ?_
            refine j_goto X 56 dX1_tells_52 (by decide) ?_
            exact j_iret X hr hk dX1_tells_56 (congrArg (fun z => (z, G)) (Option.some.inj h))
      · have h := bi_f c_6 h
        refine j_iconst (v := 3) X dX1_tells_29 (by decide) ?_
        exact j_iret X hr hk dX1_tells_30 (congrArg (fun z => (z, G)) (Option.some.inj h))
    · have h := bi_f c_4 h
      refine j_iconst (v := 1) X dX1_tells_18 (by decide) ?_
      exact j_iret X hr hk dX1_tells_19 (congrArg (fun z => (z, G)) (Option.some.inj h))
  · have h := bi_t c_2 h
    refine j_iconst (v := 4) X dX1_tells_7 (by decide) ?_
    exact j_iret X hr hk dX1_tells_8 (congrArg (fun z => (z, G)) (Option.some.inj h))
abbrev rm_X2_lose : Room := { frames := 0, cells := 0, slots := 0, locals := 0 }
theorem pn_X2_lose : yX2_lose.cls ≠ "java/lang/invoke/MethodHandle" ∧ yX2_lose.cls ≠ "java/lang/invoke/VarHandle" ∧ (parseMethodDescriptor yX2_lose.desc).map (fun d => d.parameters.length) = some 0 := by decide +kernel
def m_X2_lose (G : Mem) : Mem := upm G 7 2 0
set_option maxRecDepth 100000 in
set_option maxHeartbeats 4000000 in
theorem c_X2_lose (l : Launch) (w : WP) (G : Mem) : CMv l yX2_lose cX2_lose 1 none 0 0 w [.ref (w.1 7)] G (m_X2_lose G) := by
  refine CMv.of (by decide +kernel) (Nat.le_of_ble_eq_true rfl) ?_
  intro p e s m args below meth c X hr hk
  obtain ⟨res, h⟩ : ∃ z, m_X2_lose G = z := ⟨_, rfl⟩
  rw [h]
  unfold m_X2_lose at h
  show J p l e rm_X2_lose s m args below meth c (Qvoid below args s w res) w 1 G 0 [(0, .ref (w.1 7))] []
  refine j_aload_n X dX2_lose_0 rfl 0 rfl ?_
  refine j_iconst (v := 0) X dX2_lose_1 (by decide) ?_
  refine j_putI (C := RX2) (T := TX2) (N := 3) X tyX2 tyX2_ok nmX2 7 s_7 rfl hin_X2 2 (by decide) rfl q_136 rfl rfl dX2_lose_2 ?_
  exact j_vret X hr hk dX2_lose_5 (h)
abbrev rm_X2_note : Room := { frames := 2, cells := 0, slots := 0, locals := 43 }
theorem pn_X2_note : yX2_note.cls ≠ "java/lang/invoke/MethodHandle" ∧ yX2_note.cls ≠ "java/lang/invoke/VarHandle" ∧ (parseMethodDescriptor yX2_note.desc).map (fun d => d.parameters.length) = some 1 := by decide +kernel
def m_X2_note (G : Mem) : Option (Mem) := (if (G 7 1) < 0 then some G else (if (G 7 1) < 10 then (aal 10 9 (G 7 1)).bind (fun k_3 => (m_X6_copyTo G 1 k_3).bind (fun q_4 => ((if 10 ≤ ((q_4 7 1) + 1) then some (0, q_4) else some ((q_4 7 1) + 1, q_4)) : Option (Int32 × Mem)).bind (fun (v_5 : Int32 × Mem) => some (upm (upm v_5.2 7 1 v_5.1) 7 2 (if 10 < (((upm v_5.2 7 1 v_5.1) 7 2) + 1) then 10 else (((upm v_5.2 7 1 v_5.1) 7 2) + 1)))))) else some G))
set_option maxRecDepth 100000 in
set_option maxHeartbeats 4000000 in
theorem c_X2_note (l : Launch) (w : WP) (G : Mem) {res : Mem} (h0 : m_X2_note G = some res) : CMv l yX2_note cX2_note 2 none 2 43 w [.ref (w.1 7), .ref (w.1 1)] G res := by
  refine CMv.of (by decide +kernel) (Nat.le_of_ble_eq_true rfl) ?_
  intro p e s m args below meth c X hr hk
  have h := bs_i h0
  unfold m_X2_note at h
  show J p l e rm_X2_note s m args below meth c (Qvoid below args s w res) w 2 G 0 [(0, .ref (w.1 7)), (1, .ref (w.1 1))] []
  refine j_aload_n X dX2_note_0 rfl 0 rfl ?_
  refine j_getI (C := RX2) (T := TX2) (N := 3) X 7 s_7 rfl hin_X2 1 (by decide) rfl q_135 dX2_note_1 ?_
  refine j_if_lt X 19 dX2_note_4 (by decide) (fun c_1 => ?_) (fun c_1 => ?_)
  · have h := bi_t c_1 h
    exact j_vret X hr hk dX2_note_19 (Option.some.inj h)
  · have h := bi_f c_1 h
    refine j_aload_n X dX2_note_7 rfl 0 rfl ?_
    refine j_getI (C := RX2) (T := TX2) (N := 3) X 7 s_7 rfl hin_X2 1 (by decide) rfl q_135 dX2_note_8 ?_
    refine j_aload_n X dX2_note_11 rfl 0 rfl ?_
    refine j_getR (C := RX2) (T := TX2) (N := 3) X 7 s_7 rfl hin_X2 0 (by decide) 8 rfl q_134 dX2_note_12 ?_
    refine j_alenR X 8 10 9 s_8 (show Int32.ofNat 10 = 10 from rfl) dX2_note_15 ?_
    refine j_icmp_lt X 20 dX2_note_16 (by decide) (fun c_2 => ?_) (fun c_2 => ?_)
    · have h := bi_t c_2 h
      refine j_aload_n X dX2_note_20 rfl 1 rfl ?_
      refine j_aload_n X dX2_note_21 rfl 0 rfl ?_
      refine j_getR (C := RX2) (T := TX2) (N := 3) X 7 s_7 rfl hin_X2 0 (by decide) 8 rfl q_134 dX2_note_22 ?_
      refine j_aload_n X dX2_note_25 rfl 0 rfl ?_
      refine j_getI (C := RX2) (T := TX2) (N := 3) X 7 s_7 rfl hin_X2 1 (by decide) rfl q_135 dX2_note_26 ?_
      obtain ⟨k_3, hk_3, h⟩ := bd_s h
      refine j_aald X 8 10 9 s_8 hk_3 dX2_note_29 ?_
      obtain ⟨q_4, hq_4, h⟩ := bd_s h
      refine j_callVv (As := [.ref (w.1 k_3)]) X 1 s_1 rfl (c_X6_copyTo l w G 1 (Or.inl rfl) k_3 (s_row9 hk_3)  hq_4) rfl pn_X6_copyTo q_559 q_560 q_561 q_60 q_562 ⟨Nat.le_of_ble_eq_true rfl, Nat.le_of_ble_eq_true rfl⟩ (Nat.le_of_ble_eq_true rfl) rfl dX2_note_30 ?_
      refine j_aload_n X dX2_note_33 rfl 0 rfl ?_
      refine j_aload_n X dX2_note_34 rfl 0 rfl ?_
      refine j_getI (C := RX2) (T := TX2) (N := 3) X 7 s_7 rfl hin_X2 1 (by decide) rfl q_135 dX2_note_35 ?_
      refine j_iconst (v := 1) X dX2_note_38 (by decide) ?_
      refine j_iadd X dX2_note_39 ?_
      refine j_aload_n X dX2_note_40 rfl 0 rfl ?_
      refine j_getR (C := RX2) (T := TX2) (N := 3) X 7 s_7 rfl hin_X2 0 (by decide) 8 rfl q_134 dX2_note_41 ?_
      refine j_alenR X 8 10 9 s_8 (show Int32.ofNat 10 = 10 from rfl) dX2_note_44 ?_
      have h := bb_a h
      have Hv_5 : ∀ v_5 : Int32 × Mem, (some (upm (upm v_5.2 7 1 v_5.1) 7 2 (if 10 < (((upm v_5.2 7 1 v_5.1) 7 2) + 1) then 10 else (((upm v_5.2 7 1 v_5.1) 7 2) + 1)))).bind some = some res → J p l e rm_X2_note s m args below meth c (Qvoid below args s w res) w 2 v_5.2 58 [(0, .ref (w.1 7))] [.int v_5.1, .ref (w.1 7)] := by
        intro v_5 h
        refine j_putI (C := RX2) (T := TX2) (N := 3) X tyX2 tyX2_ok nmX2 7 s_7 rfl hin_X2 1 (by decide) rfl q_135 rfl rfl dX2_note_58 ?_
        refine j_aload_n X dX2_note_61 rfl 0 rfl ?_
        refine j_aload_n X dX2_note_62 rfl 0 rfl ?_
        refine j_getI (C := RX2) (T := TX2) (N := 3) X 7 s_7 rfl hin_X2 2 (by decide) rfl q_136 dX2_note_63 ?_
        refine j_iconst (v := 1) X dX2_note_66 (by decide) ?_
        refine j_iadd X dX2_note_67 ?_
        refine j_aload_n X dX2_note_68 rfl 0 rfl ?_
        refine j_getR (C := RX2) (T := TX2) (N := 3) X 7 s_7 rfl hin_X2 0 (by decide) 8 rfl q_134 dX2_note_69 ?_
        refine j_alenR X 8 10 9 s_8 (show Int32.ofNat 10 = 10 from rfl) dX2_note_72 ?_
        refine j_mmin X q_563 q_375 q_71 q_376 (Nat.le_of_ble_eq_true rfl) (Nat.le_of_ble_eq_true rfl) dX2_note_73 ?_
        refine j_putI (C := RX2) (T := TX2) (N := 3) X tyX2 tyX2_ok nmX2 7 s_7 rfl hin_X2 2 (by decide) rfl q_136 rfl rfl dX2_note_76 ?_
        exact j_vret X hr hk dX2_note_79 (Option.some.inj h)
      refine j_icmp_ge X 57 dX2_note_45 (by decide) (fun c_6 => ?_) (fun c_6 => ?_)
      · have h := bi_t c_6 h
        refine j_iconst (v := 0) X dX2_note_57 (by decide) ?_
        refine j_pick [0] rfl ?_
        exact Hv_5 (0, q_4) h
      · have h := bi_f c_6 h
        refine j_aload_n X dX2_note_48 rfl 0 rfl ?_
        refine j_getI (C := RX2) (T := TX2) (N := 3) X 7 s_7 rfl hin_X2 1 (by decide) rfl q_135 dX2_note_49 ?_
        refine j_iconst (v := 1) X dX2_note_52 (by decide) ?_
        refine j_iadd X dX2_note_53 ?_
        refine j_goto X 58 dX2_note_54 (by decide) ?_
        refine j_pick [0] rfl ?_
        exact Hv_5 ((q_4 7 1) + 1, q_4) h
    · have h := bi_f c_2 h
      exact j_vret X hr hk dX2_note_19 (Option.some.inj h)
abbrev rm_X2_restore : Room := { frames := 2, cells := 0, slots := 0, locals := 43 }
theorem pn_X2_restore : yX2_restore.cls ≠ "java/lang/invoke/MethodHandle" ∧ yX2_restore.cls ≠ "java/lang/invoke/VarHandle" ∧ (parseMethodDescriptor yX2_restore.desc).map (fun d => d.parameters.length) = some 1 := by decide +kernel
def m_X2_restore (G : Mem) : Option (Mem) := ((if (G 7 1) ≤ 0 then some (10 - 1) else some ((G 7 1) - 1)) : Option (Int32)).bind (fun (v_1 : Int32) => (if (G 7 2) ≤ 0 then some G else (if v_1 < 10 then (aal 10 9 v_1).bind (fun k_4 => (m_X6_copyFrom G 1 k_4).bind (fun q_5 => some (upm (upm q_5 7 1 v_1) 7 2 (((upm q_5 7 1 v_1) 7 2) - 1)))) else some G)))
set_option maxRecDepth 100000 in
set_option maxHeartbeats 4000000 in
theorem c_X2_restore (l : Launch) (w : WP) (G : Mem) {res : Mem} (h0 : m_X2_restore G = some res) : CMv l yX2_restore cX2_restore 3 none 2 43 w [.ref (w.1 7), .ref (w.1 1)] G res := by
  refine CMv.of (by decide +kernel) (Nat.le_of_ble_eq_true rfl) ?_
  intro p e s m args below meth c X hr hk
  have h := bs_i h0
  unfold m_X2_restore at h
  show J p l e rm_X2_restore s m args below meth c (Qvoid below args s w res) w 3 G 0 [(0, .ref (w.1 7)), (1, .ref (w.1 1))] []
  refine j_aload_n X dX2_restore_0 rfl 0 rfl ?_
  refine j_getI (C := RX2) (T := TX2) (N := 3) X 7 s_7 rfl hin_X2 1 (by decide) rfl q_135 dX2_restore_1 ?_
  have h := bb_a h
  have Hv_1 : ∀ v_1 : Int32, ((if (G 7 2) ≤ 0 then some G else (if v_1 < 10 then (aal 10 9 v_1).bind (fun k_4 => (m_X6_copyFrom G 1 k_4).bind (fun q_5 => some (upm (upm q_5 7 1 v_1) 7 2 (((upm q_5 7 1 v_1) 7 2) - 1)))) else some G))).bind some = some res → J p l e rm_X2_restore s m args below meth c (Qvoid below args s w res) w 3 G 23 [(0, .ref (w.1 7)), (1, .ref (w.1 1))] [.int v_1] := by
    intro v_1 h
    refine j_istore_n X [(2, .int v_1), (0, .ref (w.1 7)), (1, .ref (w.1 1))] dX2_restore_23 rfl (by decide) rfl ?_
    refine j_aload_n X dX2_restore_24 rfl 1 rfl ?_
    refine j_getI (C := RX2) (T := TX2) (N := 3) X 7 s_7 rfl hin_X2 2 (by decide) rfl q_136 dX2_restore_25 ?_
    refine j_if_le X 40 dX2_restore_28 (by decide) (fun c_2 => ?_) (fun c_2 => ?_)
    · have h := bi_t c_2 h
      exact j_vret X hr hk dX2_restore_40 (Option.some.inj h)
    · have h := bi_f c_2 h
      refine j_iload_n X dX2_restore_31 rfl 0 rfl ?_
      refine j_aload_n X dX2_restore_32 rfl 1 rfl ?_
      refine j_getR (C := RX2) (T := TX2) (N := 3) X 7 s_7 rfl hin_X2 0 (by decide) 8 rfl q_134 dX2_restore_33 ?_
      refine j_alenR X 8 10 9 s_8 (show Int32.ofNat 10 = 10 from rfl) dX2_restore_36 ?_
      refine j_icmp_lt X 41 dX2_restore_37 (by decide) (fun c_3 => ?_) (fun c_3 => ?_)
      · have h := bi_t c_3 h
        refine j_aload_n X dX2_restore_41 rfl 2 rfl ?_
        refine j_aload_n X dX2_restore_42 rfl 1 rfl ?_
        refine j_getR (C := RX2) (T := TX2) (N := 3) X 7 s_7 rfl hin_X2 0 (by decide) 8 rfl q_134 dX2_restore_43 ?_
        refine j_iload_n X dX2_restore_46 rfl 0 rfl ?_
        obtain ⟨k_4, hk_4, h⟩ := bd_s h
        refine j_aald X 8 10 9 s_8 hk_4 dX2_restore_47 ?_
        obtain ⟨q_5, hq_5, h⟩ := bd_s h
        refine j_callVv (As := [.ref (w.1 k_4)]) X 1 s_1 rfl (c_X6_copyFrom l w G 1 (Or.inl rfl) k_4 (s_row9 hk_4)  hq_5) rfl pn_X6_copyFrom q_595 q_596 q_597 q_60 q_598 ⟨Nat.le_of_ble_eq_true rfl, Nat.le_of_ble_eq_true rfl⟩ (Nat.le_of_ble_eq_true rfl) rfl dX2_restore_48 ?_
        refine j_aload_n X dX2_restore_51 rfl 1 rfl ?_
        refine j_iload_n X dX2_restore_52 rfl 0 rfl ?_
        refine j_putI (C := RX2) (T := TX2) (N := 3) X tyX2 tyX2_ok nmX2 7 s_7 rfl hin_X2 1 (by decide) rfl q_135 rfl rfl dX2_restore_53 ?_
        refine j_aload_n X dX2_restore_56 rfl 1 rfl ?_
        refine j_dup X dX2_restore_57 rfl ?_
        refine j_getI (C := RX2) (T := TX2) (N := 3) X 7 s_7 rfl hin_X2 2 (by decide) rfl q_136 dX2_restore_58 ?_
        refine j_iconst (v := 1) X dX2_restore_61 (by decide) ?_
        refine j_isub X dX2_restore_62 ?_
        refine j_putI (C := RX2) (T := TX2) (N := 3) X tyX2 tyX2_ok nmX2 7 s_7 rfl hin_X2 2 (by decide) rfl q_136 rfl rfl dX2_restore_63 ?_
        exact j_vret X hr hk dX2_restore_66 (Option.some.inj h)
      · have h := bi_f c_3 h
        exact j_vret X hr hk dX2_restore_40 (Option.some.inj h)
  refine j_if_le X 16 dX2_restore_4 (by decide) (fun c_6 => ?_) (fun c_6 => ?_)
  · have h := bi_t c_6 h
    refine j_aload_n X dX2_restore_16 rfl 0 rfl ?_
    refine j_getR (C := RX2) (T := TX2) (N := 3) X 7 s_7 rfl hin_X2 0 (by decide) 8 rfl q_134 dX2_restore_17 ?_
    refine j_alenR X 8 10 9 s_8 (show Int32.ofNat 10 = 10 from rfl) dX2_restore_20 ?_
    refine j_iconst (v := 1) X dX2_restore_21 (by decide) ?_
    refine j_isub X dX2_restore_22 ?_
    refine j_pick [0, 1] rfl ?_
    exact Hv_1 (10 - 1) h
  · have h := bi_f c_6 h
    refine j_aload_n X dX2_restore_7 rfl 0 rfl ?_
    refine j_getI (C := RX2) (T := TX2) (N := 3) X 7 s_7 rfl hin_X2 1 (by decide) rfl q_135 dX2_restore_8 ?_
    refine j_iconst (v := 1) X dX2_restore_11 (by decide) ?_
    refine j_isub X dX2_restore_12 ?_
    refine j_goto X 23 dX2_restore_13 (by decide) ?_
    refine j_pick [0, 1] rfl ?_
    exact Hv_1 ((G 7 1) - 1) h
abbrev rm_X2_size : Room := { frames := 0, cells := 0, slots := 0, locals := 0 }
theorem pn_X2_size : yX2_size.cls ≠ "java/lang/invoke/MethodHandle" ∧ yX2_size.cls ≠ "java/lang/invoke/VarHandle" ∧ (parseMethodDescriptor yX2_size.desc).map (fun d => d.parameters.length) = some 0 := by decide +kernel
def m_X2_size (G : Mem) : Int32 := G 7 2
set_option maxRecDepth 100000 in
set_option maxHeartbeats 4000000 in
theorem c_X2_size (l : Launch) (w : WP) (G : Mem) : CMi l yX2_size cX2_size 1 (some .int) 0 0 w [.ref (w.1 7)] G (m_X2_size G, G) := by
  refine CMi.of (by decide +kernel) (Nat.le_of_ble_eq_true rfl) ?_
  intro p e s m args below meth c X hr hk
  obtain ⟨res, h⟩ : ∃ z, m_X2_size G = z := ⟨_, rfl⟩
  rw [h]
  unfold m_X2_size at h
  show J p l e rm_X2_size s m args below meth c (Qint below args s w (res, G)) w 1 G 0 [(0, .ref (w.1 7))] []
  refine j_aload_n X dX2_size_0 rfl 0 rfl ?_
  refine j_getI (C := RX2) (T := TX2) (N := 3) X 7 s_7 rfl hin_X2 2 (by decide) rfl q_136 dX2_size_1 ?_
  exact j_iret X hr hk dX2_size_4 (congrArg (fun z => (z, G)) (h))
abbrev rm_X6_statements : Room := { frames := 0, cells := 0, slots := 0, locals := 0 }
theorem pn_X6_statements : yX6_statements.cls ≠ "java/lang/invoke/MethodHandle" ∧ yX6_statements.cls ≠ "java/lang/invoke/VarHandle" ∧ (parseMethodDescriptor yX6_statements.desc).map (fun d => d.parameters.length) = some 0 := by decide +kernel
def m_X6_statements (G : Mem) (o : Nat) : Option (Int32) := (ald 74 G (o + 1) 1).bind (fun r_1 => some r_1)
set_option maxRecDepth 100000 in
set_option maxHeartbeats 4000000 in
theorem c_X6_statements (l : Launch) (w : WP) (G : Mem) (o : Nat) (ho_o : o = 1 ∨ o = 3) {res : Int32} (h0 : m_X6_statements G o = some res) : CMi l yX6_statements cX6_statements 1 (some .int) 0 0 w [.ref (w.1 o)] G (res, G) := by
  have hs_o : fw_lay[o]? = some (.inl (6, [some (o + 1)])) := by rcases ho_o with rfl | rfl <;> rfl
  have hs_o_1 : fw_lay[o + 1]? = some (.inr (0, 74, 0)) := by rcases ho_o with rfl | rfl <;> rfl
  refine CMi.of (by decide +kernel) (Nat.le_of_ble_eq_true rfl) ?_
  intro p e s m args below meth c X hr hk
  have h := bs_i h0
  unfold m_X6_statements at h
  show J p l e rm_X6_statements s m args below meth c (Qint below args s w (res, G)) w 1 G 0 [(0, .ref (w.1 o))] []
  refine j_aload_n X dX6_statements_0 rfl 0 rfl ?_
  refine j_getR (C := RX6) (T := TX6) (N := 1) X o hs_o rfl hin_X6 0 (by decide) (o + 1) rfl q_90 dX6_statements_1 ?_
  refine j_iconst (v := 1) X dX6_statements_4 (by decide) ?_
  obtain ⟨r_1, hr_1, h⟩ := bd_s h
  refine j_iald X (o + 1) 74 hs_o_1 hr_1 dX6_statements_5 ?_
  exact j_iret X hr hk dX6_statements_6 (congrArg (fun z => (z, G)) (Option.some.inj h))
abbrev rm_X6_statementCell : Room := { frames := 0, cells := 0, slots := 0, locals := 0 }
theorem pn_X6_statementCell : yX6_statementCell.cls ≠ "java/lang/invoke/MethodHandle" ∧ yX6_statementCell.cls ≠ "java/lang/invoke/VarHandle" ∧ (parseMethodDescriptor yX6_statementCell.desc).map (fun d => d.parameters.length) = some 2 := by decide +kernel
def m_X6_statementCell (G : Mem) (o : Nat) (p1 : Int32) (p2 : Int32) : Option (Int32) := (if p2 < 0 then some (-9) else (if 14 ≤ p2 then some (-9) else (ald 74 G (o + 1) (p1 + p2)).bind (fun r_3 => some r_3)))
set_option maxRecDepth 100000 in
set_option maxHeartbeats 4000000 in
theorem c_X6_statementCell (l : Launch) (w : WP) (G : Mem) (o : Nat) (ho_o : o = 1 ∨ o = 3) (p1 : Int32) (p2 : Int32) {res : Int32} (h0 : m_X6_statementCell G o p1 p2 = some res) : CMi l yX6_statementCell cX6_statementCell 3 (some .int) 0 0 w [.ref (w.1 o), .int p1, .int p2] G (res, G) := by
  have hs_o : fw_lay[o]? = some (.inl (6, [some (o + 1)])) := by rcases ho_o with rfl | rfl <;> rfl
  have hs_o_1 : fw_lay[o + 1]? = some (.inr (0, 74, 0)) := by rcases ho_o with rfl | rfl <;> rfl
  refine CMi.of (by decide +kernel) (Nat.le_of_ble_eq_true rfl) ?_
  intro p e s m args below meth c X hr hk
  have h := bs_i h0
  unfold m_X6_statementCell at h
  show J p l e rm_X6_statementCell s m args below meth c (Qint below args s w (res, G)) w 3 G 0 [(0, .ref (w.1 o)), (1, .int p1), (2, .int p2)] []
  refine j_iload_n X dX6_statementCell_0 rfl 2 rfl ?_
  refine j_if_lt X 21 dX6_statementCell_1 (by decide) (fun c_1 => ?_) (fun c_1 => ?_)
  · have h := bi_t c_1 h
    refine j_bipush (v := (-9)) X dX6_statementCell_21 (by decide) ?_
    exact j_iret X hr hk dX6_statementCell_23 (congrArg (fun z => (z, G)) (Option.some.inj h))
  · have h := bi_f c_1 h
    refine j_iload_n X dX6_statementCell_4 rfl 2 rfl ?_
    refine j_bipush (v := 14) X dX6_statementCell_5 (by decide) ?_
    refine j_icmp_ge X 21 dX6_statementCell_7 (by decide) (fun c_2 => ?_) (fun c_2 => ?_)
    · have h := bi_t c_2 h
      refine j_bipush (v := (-9)) X dX6_statementCell_21 (by decide) ?_
      exact j_iret X hr hk dX6_statementCell_23 (congrArg (fun z => (z, G)) (Option.some.inj h))
    · have h := bi_f c_2 h
      refine j_aload_n X dX6_statementCell_10 rfl 0 rfl ?_
      refine j_getR (C := RX6) (T := TX6) (N := 1) X o hs_o rfl hin_X6 0 (by decide) (o + 1) rfl q_90 dX6_statementCell_11 ?_
      refine j_iload_n X dX6_statementCell_14 rfl 1 rfl ?_
      refine j_iload_n X dX6_statementCell_15 rfl 2 rfl ?_
      refine j_iadd X dX6_statementCell_16 ?_
      obtain ⟨r_3, hr_3, h⟩ := bd_s h
      refine j_iald X (o + 1) 74 hs_o_1 hr_3 dX6_statementCell_17 ?_
      refine j_goto X 23 dX6_statementCell_18 (by decide) ?_
      exact j_iret X hr hk dX6_statementCell_23 (congrArg (fun z => (z, G)) (Option.some.inj h))
abbrev rm_X6_clauseAt : Room := { frames := 1, cells := 0, slots := 0, locals := 22 }
theorem pn_X6_clauseAt : yX6_clauseAt.cls ≠ "java/lang/invoke/MethodHandle" ∧ yX6_clauseAt.cls ≠ "java/lang/invoke/VarHandle" ∧ (parseMethodDescriptor yX6_clauseAt.desc).map (fun d => d.parameters.length) = some 1 := by decide +kernel
def m_X6_clauseAt (G : Mem) (o : Nat) (p1 : Int32) : Option (Int32) := (m_X6_statementCell G o 18 p1).bind (fun r_1 => some r_1)
set_option maxRecDepth 100000 in
set_option maxHeartbeats 4000000 in
theorem c_X6_clauseAt (l : Launch) (w : WP) (G : Mem) (o : Nat) (ho_o : o = 1 ∨ o = 3) (p1 : Int32) {res : Int32} (h0 : m_X6_clauseAt G o p1 = some res) : CMi l yX6_clauseAt cX6_clauseAt 2 (some .int) 1 22 w [.ref (w.1 o), .int p1] G (res, G) := by
  have hs_o : fw_lay[o]? = some (.inl (6, [some (o + 1)])) := by rcases ho_o with rfl | rfl <;> rfl
  have hs_o_1 : fw_lay[o + 1]? = some (.inr (0, 74, 0)) := by rcases ho_o with rfl | rfl <;> rfl
  refine CMi.of (by decide +kernel) (Nat.le_of_ble_eq_true rfl) ?_
  intro p e s m args below meth c X hr hk
  have h := bs_i h0
  unfold m_X6_clauseAt at h
  show J p l e rm_X6_clauseAt s m args below meth c (Qint below args s w (res, G)) w 2 G 0 [(0, .ref (w.1 o)), (1, .int p1)] []
  refine j_aload_n X dX6_clauseAt_0 rfl 0 rfl ?_
  refine j_bipush (v := 18) X dX6_clauseAt_1 (by decide) ?_
  refine j_iload_n X dX6_clauseAt_3 rfl 1 rfl ?_
  obtain ⟨r_1, hr_1, h⟩ := bd_s h
  refine j_callVi (As := [.int 18, .int p1]) X o hs_o rfl (c_X6_statementCell l w G o ho_o 18 p1 hr_1) rfl pn_X6_statementCell q_513 q_515 q_10 q_60 q_516 ⟨Nat.le_of_ble_eq_true rfl, Nat.le_of_ble_eq_true rfl⟩ (Nat.le_of_ble_eq_true rfl) rfl dX6_clauseAt_4 ?_
  exact j_iret X hr hk dX6_clauseAt_7 (congrArg (fun z => (z, G)) (Option.some.inj h))
abbrev rm_X6_firstAt : Room := { frames := 1, cells := 0, slots := 0, locals := 22 }
theorem pn_X6_firstAt : yX6_firstAt.cls ≠ "java/lang/invoke/MethodHandle" ∧ yX6_firstAt.cls ≠ "java/lang/invoke/VarHandle" ∧ (parseMethodDescriptor yX6_firstAt.desc).map (fun d => d.parameters.length) = some 1 := by decide +kernel
def m_X6_firstAt (G : Mem) (o : Nat) (p1 : Int32) : Option (Int32) := (m_X6_statementCell G o 32 p1).bind (fun r_1 => some r_1)
set_option maxRecDepth 100000 in
set_option maxHeartbeats 4000000 in
theorem c_X6_firstAt (l : Launch) (w : WP) (G : Mem) (o : Nat) (ho_o : o = 1 ∨ o = 3) (p1 : Int32) {res : Int32} (h0 : m_X6_firstAt G o p1 = some res) : CMi l yX6_firstAt cX6_firstAt 2 (some .int) 1 22 w [.ref (w.1 o), .int p1] G (res, G) := by
  have hs_o : fw_lay[o]? = some (.inl (6, [some (o + 1)])) := by rcases ho_o with rfl | rfl <;> rfl
  have hs_o_1 : fw_lay[o + 1]? = some (.inr (0, 74, 0)) := by rcases ho_o with rfl | rfl <;> rfl
  refine CMi.of (by decide +kernel) (Nat.le_of_ble_eq_true rfl) ?_
  intro p e s m args below meth c X hr hk
  have h := bs_i h0
  unfold m_X6_firstAt at h
  show J p l e rm_X6_firstAt s m args below meth c (Qint below args s w (res, G)) w 2 G 0 [(0, .ref (w.1 o)), (1, .int p1)] []
  refine j_aload_n X dX6_firstAt_0 rfl 0 rfl ?_
  refine j_bipush (v := 32) X dX6_firstAt_1 (by decide) ?_
  refine j_iload_n X dX6_firstAt_3 rfl 1 rfl ?_
  obtain ⟨r_1, hr_1, h⟩ := bd_s h
  refine j_callVi (As := [.int 32, .int p1]) X o hs_o rfl (c_X6_statementCell l w G o ho_o 32 p1 hr_1) rfl pn_X6_statementCell q_513 q_515 q_10 q_60 q_516 ⟨Nat.le_of_ble_eq_true rfl, Nat.le_of_ble_eq_true rfl⟩ (Nat.le_of_ble_eq_true rfl) rfl dX6_firstAt_4 ?_
  exact j_iret X hr hk dX6_firstAt_7 (congrArg (fun z => (z, G)) (Option.some.inj h))
abbrev rm_X6_signAt : Room := { frames := 1, cells := 0, slots := 0, locals := 22 }
theorem pn_X6_signAt : yX6_signAt.cls ≠ "java/lang/invoke/MethodHandle" ∧ yX6_signAt.cls ≠ "java/lang/invoke/VarHandle" ∧ (parseMethodDescriptor yX6_signAt.desc).map (fun d => d.parameters.length) = some 1 := by decide +kernel
def m_X6_signAt (G : Mem) (o : Nat) (p1 : Int32) : Option (Int32) := (m_X6_statementCell G o 46 p1).bind (fun r_1 => some r_1)
set_option maxRecDepth 100000 in
set_option maxHeartbeats 4000000 in
theorem c_X6_signAt (l : Launch) (w : WP) (G : Mem) (o : Nat) (ho_o : o = 1 ∨ o = 3) (p1 : Int32) {res : Int32} (h0 : m_X6_signAt G o p1 = some res) : CMi l yX6_signAt cX6_signAt 2 (some .int) 1 22 w [.ref (w.1 o), .int p1] G (res, G) := by
  have hs_o : fw_lay[o]? = some (.inl (6, [some (o + 1)])) := by rcases ho_o with rfl | rfl <;> rfl
  have hs_o_1 : fw_lay[o + 1]? = some (.inr (0, 74, 0)) := by rcases ho_o with rfl | rfl <;> rfl
  refine CMi.of (by decide +kernel) (Nat.le_of_ble_eq_true rfl) ?_
  intro p e s m args below meth c X hr hk
  have h := bs_i h0
  unfold m_X6_signAt at h
  show J p l e rm_X6_signAt s m args below meth c (Qint below args s w (res, G)) w 2 G 0 [(0, .ref (w.1 o)), (1, .int p1)] []
  refine j_aload_n X dX6_signAt_0 rfl 0 rfl ?_
  refine j_bipush (v := 46) X dX6_signAt_1 (by decide) ?_
  refine j_iload_n X dX6_signAt_3 rfl 1 rfl ?_
  obtain ⟨r_1, hr_1, h⟩ := bd_s h
  refine j_callVi (As := [.int 46, .int p1]) X o hs_o rfl (c_X6_statementCell l w G o ho_o 46 p1 hr_1) rfl pn_X6_statementCell q_513 q_515 q_10 q_60 q_516 ⟨Nat.le_of_ble_eq_true rfl, Nat.le_of_ble_eq_true rfl⟩ (Nat.le_of_ble_eq_true rfl) rfl dX6_signAt_4 ?_
  exact j_iret X hr hk dX6_signAt_7 (congrArg (fun z => (z, G)) (Option.some.inj h))
abbrev rm_X6_secondAt : Room := { frames := 1, cells := 0, slots := 0, locals := 22 }
theorem pn_X6_secondAt : yX6_secondAt.cls ≠ "java/lang/invoke/MethodHandle" ∧ yX6_secondAt.cls ≠ "java/lang/invoke/VarHandle" ∧ (parseMethodDescriptor yX6_secondAt.desc).map (fun d => d.parameters.length) = some 1 := by decide +kernel
def m_X6_secondAt (G : Mem) (o : Nat) (p1 : Int32) : Option (Int32) := (m_X6_statementCell G o 60 p1).bind (fun r_1 => some r_1)
set_option maxRecDepth 100000 in
set_option maxHeartbeats 4000000 in
theorem c_X6_secondAt (l : Launch) (w : WP) (G : Mem) (o : Nat) (ho_o : o = 1 ∨ o = 3) (p1 : Int32) {res : Int32} (h0 : m_X6_secondAt G o p1 = some res) : CMi l yX6_secondAt cX6_secondAt 2 (some .int) 1 22 w [.ref (w.1 o), .int p1] G (res, G) := by
  have hs_o : fw_lay[o]? = some (.inl (6, [some (o + 1)])) := by rcases ho_o with rfl | rfl <;> rfl
  have hs_o_1 : fw_lay[o + 1]? = some (.inr (0, 74, 0)) := by rcases ho_o with rfl | rfl <;> rfl
  refine CMi.of (by decide +kernel) (Nat.le_of_ble_eq_true rfl) ?_
  intro p e s m args below meth c X hr hk
  have h := bs_i h0
  unfold m_X6_secondAt at h
  show J p l e rm_X6_secondAt s m args below meth c (Qint below args s w (res, G)) w 2 G 0 [(0, .ref (w.1 o)), (1, .int p1)] []
  refine j_aload_n X dX6_secondAt_0 rfl 0 rfl ?_
  refine j_bipush (v := 60) X dX6_secondAt_1 (by decide) ?_
  refine j_iload_n X dX6_secondAt_3 rfl 1 rfl ?_
  obtain ⟨r_1, hr_1, h⟩ := bd_s h
  refine j_callVi (As := [.int 60, .int p1]) X o hs_o rfl (c_X6_statementCell l w G o ho_o 60 p1 hr_1) rfl pn_X6_statementCell q_513 q_515 q_10 q_60 q_516 ⟨Nat.le_of_ble_eq_true rfl, Nat.le_of_ble_eq_true rfl⟩ (Nat.le_of_ble_eq_true rfl) rfl dX6_secondAt_4 ?_
  exact j_iret X hr hk dX6_secondAt_7 (congrArg (fun z => (z, G)) (Option.some.inj h))
abbrev rm_X6_clauseCell : Room := { frames := 0, cells := 0, slots := 0, locals := 0 }
theorem pn_X6_clauseCell : yX6_clauseCell.cls ≠ "java/lang/invoke/MethodHandle" ∧ yX6_clauseCell.cls ≠ "java/lang/invoke/VarHandle" ∧ (parseMethodDescriptor yX6_clauseCell.desc).map (fun d => d.parameters.length) = some 2 := by decide +kernel
def m_X6_clauseCell (G : Mem) (o : Nat) (p1 : Int32) (p2 : Int32) : Option (Int32) := (if p2 < 0 then some (-9) else (if 8 ≤ p2 then some (-9) else (ald 74 G (o + 1) (p1 + p2)).bind (fun r_3 => some r_3)))
set_option maxRecDepth 100000 in
set_option maxHeartbeats 4000000 in
theorem c_X6_clauseCell (l : Launch) (w : WP) (G : Mem) (o : Nat) (ho_o : o = 1 ∨ o = 3) (p1 : Int32) (p2 : Int32) {res : Int32} (h0 : m_X6_clauseCell G o p1 p2 = some res) : CMi l yX6_clauseCell cX6_clauseCell 3 (some .int) 0 0 w [.ref (w.1 o), .int p1, .int p2] G (res, G) := by
  have hs_o : fw_lay[o]? = some (.inl (6, [some (o + 1)])) := by rcases ho_o with rfl | rfl <;> rfl
  have hs_o_1 : fw_lay[o + 1]? = some (.inr (0, 74, 0)) := by rcases ho_o with rfl | rfl <;> rfl
  refine CMi.of (by decide +kernel) (Nat.le_of_ble_eq_true rfl) ?_
  intro p e s m args below meth c X hr hk
  have h := bs_i h0
  unfold m_X6_clauseCell at h
  show J p l e rm_X6_clauseCell s m args below meth c (Qint below args s w (res, G)) w 3 G 0 [(0, .ref (w.1 o)), (1, .int p1), (2, .int p2)] []
  refine j_iload_n X dX6_clauseCell_0 rfl 2 rfl ?_
  refine j_if_lt X 21 dX6_clauseCell_1 (by decide) (fun c_1 => ?_) (fun c_1 => ?_)
  · have h := bi_t c_1 h
    refine j_bipush (v := (-9)) X dX6_clauseCell_21 (by decide) ?_
    exact j_iret X hr hk dX6_clauseCell_23 (congrArg (fun z => (z, G)) (Option.some.inj h))
  · have h := bi_f c_1 h
    refine j_iload_n X dX6_clauseCell_4 rfl 2 rfl ?_
    refine j_bipush (v := 8) X dX6_clauseCell_5 (by decide) ?_
    refine j_icmp_ge X 21 dX6_clauseCell_7 (by decide) (fun c_2 => ?_) (fun c_2 => ?_)
    · have h := bi_t c_2 h
      refine j_bipush (v := (-9)) X dX6_clauseCell_21 (by decide) ?_
      exact j_iret X hr hk dX6_clauseCell_23 (congrArg (fun z => (z, G)) (Option.some.inj h))
    · have h := bi_f c_2 h
      refine j_aload_n X dX6_clauseCell_10 rfl 0 rfl ?_
      refine j_getR (C := RX6) (T := TX6) (N := 1) X o hs_o rfl hin_X6 0 (by decide) (o + 1) rfl q_90 dX6_clauseCell_11 ?_
      refine j_iload_n X dX6_clauseCell_14 rfl 1 rfl ?_
      refine j_iload_n X dX6_clauseCell_15 rfl 2 rfl ?_
      refine j_iadd X dX6_clauseCell_16 ?_
      obtain ⟨r_3, hr_3, h⟩ := bd_s h
      refine j_iald X (o + 1) 74 hs_o_1 hr_3 dX6_clauseCell_17 ?_
      refine j_goto X 23 dX6_clauseCell_18 (by decide) ?_
      exact j_iret X hr hk dX6_clauseCell_23 (congrArg (fun z => (z, G)) (Option.some.inj h))
abbrev rm_X6_tenseOf : Room := { frames := 1, cells := 0, slots := 0, locals := 22 }
theorem pn_X6_tenseOf : yX6_tenseOf.cls ≠ "java/lang/invoke/MethodHandle" ∧ yX6_tenseOf.cls ≠ "java/lang/invoke/VarHandle" ∧ (parseMethodDescriptor yX6_tenseOf.desc).map (fun d => d.parameters.length) = some 1 := by decide +kernel
def m_X6_tenseOf (G : Mem) (o : Nat) (p1 : Int32) : Option (Int32) := (m_X6_clauseCell G o 2 p1).bind (fun r_1 => some r_1)
set_option maxRecDepth 100000 in
set_option maxHeartbeats 4000000 in
theorem c_X6_tenseOf (l : Launch) (w : WP) (G : Mem) (o : Nat) (ho_o : o = 1 ∨ o = 3) (p1 : Int32) {res : Int32} (h0 : m_X6_tenseOf G o p1 = some res) : CMi l yX6_tenseOf cX6_tenseOf 2 (some .int) 1 22 w [.ref (w.1 o), .int p1] G (res, G) := by
  have hs_o : fw_lay[o]? = some (.inl (6, [some (o + 1)])) := by rcases ho_o with rfl | rfl <;> rfl
  have hs_o_1 : fw_lay[o + 1]? = some (.inr (0, 74, 0)) := by rcases ho_o with rfl | rfl <;> rfl
  refine CMi.of (by decide +kernel) (Nat.le_of_ble_eq_true rfl) ?_
  intro p e s m args below meth c X hr hk
  have h := bs_i h0
  unfold m_X6_tenseOf at h
  show J p l e rm_X6_tenseOf s m args below meth c (Qint below args s w (res, G)) w 2 G 0 [(0, .ref (w.1 o)), (1, .int p1)] []
  refine j_aload_n X dX6_tenseOf_0 rfl 0 rfl ?_
  refine j_iconst (v := 2) X dX6_tenseOf_1 (by decide) ?_
  refine j_iload_n X dX6_tenseOf_2 rfl 1 rfl ?_
  obtain ⟨r_1, hr_1, h⟩ := bd_s h
  refine j_callVi (As := [.int 2, .int p1]) X o hs_o rfl (c_X6_clauseCell l w G o ho_o 2 p1 hr_1) rfl pn_X6_clauseCell q_497 q_499 q_9 q_60 q_500 ⟨Nat.le_of_ble_eq_true rfl, Nat.le_of_ble_eq_true rfl⟩ (Nat.le_of_ble_eq_true rfl) rfl dX6_tenseOf_3 ?_
  exact j_iret X hr hk dX6_tenseOf_6 (congrArg (fun z => (z, G)) (Option.some.inj h))
abbrev rm_X8_eventOf : Room := { frames := 0, cells := 0, slots := 0, locals := 0 }
theorem pn_X8_eventOf : yX8_eventOf.cls ≠ "java/lang/invoke/MethodHandle" ∧ yX8_eventOf.cls ≠ "java/lang/invoke/VarHandle" ∧ (parseMethodDescriptor yX8_eventOf.desc).map (fun d => d.parameters.length) = some 1 := by decide +kernel
def m_X8_eventOf (p1 : Int32) : Int32 := 2 + (2 * p1)
set_option maxRecDepth 100000 in
set_option maxHeartbeats 4000000 in
theorem c_X8_eventOf (l : Launch) (w : WP) (G : Mem) (p1 : Int32) : CMi l yX8_eventOf cX8_eventOf 1 (some .int) 0 0 w [.int p1] G (m_X8_eventOf p1, G) := by
  refine CMi.of (by decide +kernel) (Nat.le_of_ble_eq_true rfl) ?_
  intro p e s m args below meth c X hr hk
  obtain ⟨res, h⟩ : ∃ z, m_X8_eventOf p1 = z := ⟨_, rfl⟩
  rw [h]
  unfold m_X8_eventOf at h
  show J p l e rm_X8_eventOf s m args below meth c (Qint below args s w (res, G)) w 1 G 0 [(0, .int p1)] []
  refine j_iconst (v := 2) X dX8_eventOf_0 (by decide) ?_
  refine j_iconst (v := 2) X dX8_eventOf_1 (by decide) ?_
  refine j_iload_n X dX8_eventOf_2 rfl 0 rfl ?_
  refine j_imul X dX8_eventOf_3 ?_
  refine j_iadd X dX8_eventOf_4 ?_
  exact j_iret X hr hk dX8_eventOf_5 (congrArg (fun z => (z, G)) (h))
abbrev rm_X8_lookOf : Room := { frames := 0, cells := 0, slots := 0, locals := 0 }
theorem pn_X8_lookOf : yX8_lookOf.cls ≠ "java/lang/invoke/MethodHandle" ∧ yX8_lookOf.cls ≠ "java/lang/invoke/VarHandle" ∧ (parseMethodDescriptor yX8_lookOf.desc).map (fun d => d.parameters.length) = some 1 := by decide +kernel
def m_X8_lookOf (p1 : Int32) : Int32 := 1 + (2 * p1)
set_option maxRecDepth 100000 in
set_option maxHeartbeats 4000000 in
theorem c_X8_lookOf (l : Launch) (w : WP) (G : Mem) (p1 : Int32) : CMi l yX8_lookOf cX8_lookOf 1 (some .int) 0 0 w [.int p1] G (m_X8_lookOf p1, G) := by
  refine CMi.of (by decide +kernel) (Nat.le_of_ble_eq_true rfl) ?_
  intro p e s m args below meth c X hr hk
  obtain ⟨res, h⟩ : ∃ z, m_X8_lookOf p1 = z := ⟨_, rfl⟩
  rw [h]
  unfold m_X8_lookOf at h
  show J p l e rm_X8_lookOf s m args below meth c (Qint below args s w (res, G)) w 1 G 0 [(0, .int p1)] []
  refine j_iconst (v := 1) X dX8_lookOf_0 (by decide) ?_
  refine j_iconst (v := 2) X dX8_lookOf_1 (by decide) ?_
  refine j_iload_n X dX8_lookOf_2 rfl 0 rfl ?_
  refine j_imul X dX8_lookOf_3 ?_
  refine j_iadd X dX8_lookOf_4 ?_
  exact j_iret X hr hk dX8_lookOf_5 (congrArg (fun z => (z, G)) (h))
abbrev rm_X6_linkOf : Room := { frames := 1, cells := 0, slots := 0, locals := 22 }
theorem pn_X6_linkOf : yX6_linkOf.cls ≠ "java/lang/invoke/MethodHandle" ∧ yX6_linkOf.cls ≠ "java/lang/invoke/VarHandle" ∧ (parseMethodDescriptor yX6_linkOf.desc).map (fun d => d.parameters.length) = some 1 := by decide +kernel
def m_X6_linkOf (G : Mem) (o : Nat) (p1 : Int32) : Option (Int32) := (m_X6_clauseCell G o 10 p1).bind (fun r_1 => some r_1)
set_option maxRecDepth 100000 in
set_option maxHeartbeats 4000000 in
theorem c_X6_linkOf (l : Launch) (w : WP) (G : Mem) (o : Nat) (ho_o : o = 1 ∨ o = 3) (p1 : Int32) {res : Int32} (h0 : m_X6_linkOf G o p1 = some res) : CMi l yX6_linkOf cX6_linkOf 2 (some .int) 1 22 w [.ref (w.1 o), .int p1] G (res, G) := by
  have hs_o : fw_lay[o]? = some (.inl (6, [some (o + 1)])) := by rcases ho_o with rfl | rfl <;> rfl
  have hs_o_1 : fw_lay[o + 1]? = some (.inr (0, 74, 0)) := by rcases ho_o with rfl | rfl <;> rfl
  refine CMi.of (by decide +kernel) (Nat.le_of_ble_eq_true rfl) ?_
  intro p e s m args below meth c X hr hk
  have h := bs_i h0
  unfold m_X6_linkOf at h
  show J p l e rm_X6_linkOf s m args below meth c (Qint below args s w (res, G)) w 2 G 0 [(0, .ref (w.1 o)), (1, .int p1)] []
  refine j_aload_n X dX6_linkOf_0 rfl 0 rfl ?_
  refine j_bipush (v := 10) X dX6_linkOf_1 (by decide) ?_
  refine j_iload_n X dX6_linkOf_3 rfl 1 rfl ?_
  obtain ⟨r_1, hr_1, h⟩ := bd_s h
  refine j_callVi (As := [.int 10, .int p1]) X o hs_o rfl (c_X6_clauseCell l w G o ho_o 10 p1 hr_1) rfl pn_X6_clauseCell q_497 q_499 q_9 q_60 q_500 ⟨Nat.le_of_ble_eq_true rfl, Nat.le_of_ble_eq_true rfl⟩ (Nat.le_of_ble_eq_true rfl) rfl dX6_linkOf_4 ?_
  exact j_iret X hr hk dX6_linkOf_7 (congrArg (fun z => (z, G)) (Option.some.inj h))
abbrev rm_X6_tellOne : Room := { frames := 3, cells := 0, slots := 0, locals := 69 }
theorem pn_X6_tellOne : yX6_tellOne.cls ≠ "java/lang/invoke/MethodHandle" ∧ yX6_tellOne.cls ≠ "java/lang/invoke/VarHandle" ∧ (parseMethodDescriptor yX6_tellOne.desc).map (fun d => d.parameters.length) = some 2 := by decide +kernel
def m_X6_tellOne (G : Mem) (o : Nat) (o2 : Nat) (p1 : Int32) : Option (Mem) := (m_X6_clauseAt G o p1).bind (fun r_1 => (if r_1 = (-9) then (m_X6_firstAt G o p1).bind (fun r_13 => (m_X6_signAt G o p1).bind (fun r_14 => (m_X6_secondAt G o p1).bind (fun r_15 => (m_X1_relate G o2 r_13 r_14 r_15).bind (fun q_16 => some q_16)))) else (m_X6_tenseOf G o r_1).bind (fun r_3 => (if r_3 < 0 then some G else (if r_3 < 8 then (tld ev_tab r_3).bind (fun r_6 => (m_X1_relate G o2 (m_X8_eventOf r_1) r_6 (m_X8_lookOf r_1)).bind (fun q_7 => (tld lk_tab r_3).bind (fun r_8 => (m_X1_relate q_7 o2 (m_X8_lookOf r_1) r_8 0).bind (fun q_9 => (if r_1 ≤ 0 then some q_9 else (m_X6_linkOf q_9 o r_1).bind (fun r_11 => (m_X1_relate q_9 o2 (m_X8_lookOf (r_1 - 1)) r_11 (m_X8_lookOf r_1)).bind (fun q_12 => some q_12))))))) else some G)))))
set_option maxRecDepth 100000 in
set_option maxHeartbeats 4000000 in
theorem c_X6_tellOne (l : Launch) (w : WP) (G : Mem) (o : Nat) (ho_o : o = 1 ∨ o = 3) (o2 : Nat) (ho_o2 : o2 = 27 ∨ o2 = 31) (p1 : Int32) {res : Mem} (h0 : m_X6_tellOne G o o2 p1 = some res) : CMv l yX6_tellOne cX6_tellOne 5 none 3 69 w [.ref (w.1 o), .int p1, .ref (w.1 o2)] G res := by
  have hs_o : fw_lay[o]? = some (.inl (6, [some (o + 1)])) := by rcases ho_o with rfl | rfl <;> rfl
  have hs_o_1 : fw_lay[o + 1]? = some (.inr (0, 74, 0)) := by rcases ho_o with rfl | rfl <;> rfl
  have hs_o2 : fw_lay[o2]? = some (.inl (1, [some (o2 + 1), some (o2 + 2)])) := by rcases ho_o2 with rfl | rfl <;> rfl
  have hs_o2_1 : fw_lay[o2 + 1]? = some (.inr (0, 17, 0)) := by rcases ho_o2 with rfl | rfl <;> rfl
  have hs_o2_2 : fw_lay[o2 + 2]? = some (.inr (0, 17, 0)) := by rcases ho_o2 with rfl | rfl <;> rfl
  refine CMv.of (by decide +kernel) (Nat.le_of_ble_eq_true rfl) ?_
  intro p e s m args below meth c X hr hk
  have h := bs_i h0
  unfold m_X6_tellOne at h
  show J p l e rm_X6_tellOne s m args below meth c (Qvoid below args s w res) w 5 G 0 [(0, .ref (w.1 o)), (1, .int p1), (2, .ref (w.1 o2))] []
  refine j_aload_n X dX6_tellOne_0 rfl 0 rfl ?_
  refine j_iload_n X dX6_tellOne_1 rfl 1 rfl ?_
  obtain ⟨r_1, hr_1, h⟩ := bd_s h
  refine j_callVi (As := [.int p1]) X o hs_o rfl (c_X6_clauseAt l w G o ho_o p1 hr_1) rfl pn_X6_clauseAt q_509 q_510 q_511 q_60 q_512 ⟨Nat.le_of_ble_eq_true rfl, Nat.le_of_ble_eq_true rfl⟩ (Nat.le_of_ble_eq_true rfl) rfl dX6_tellOne_2 ?_
  refine j_istore_n X [(3, .int r_1), (0, .ref (w.1 o)), (1, .int p1), (2, .ref (w.1 o2))] dX6_tellOne_5 rfl (by decide) rfl ?_
  refine j_iload_n X dX6_tellOne_6 rfl 0 rfl ?_
  refine j_bipush (v := (-9)) X dX6_tellOne_7 (by decide) ?_
  refine j_icmp_ne X 32 dX6_tellOne_9 (by decide) (fun c_2 => ?_) (fun c_2 => ?_)
  · have h := bi_f c_2 h
    refine j_aload_n X dX6_tellOne_32 rfl 1 rfl ?_
    refine j_iload_n X dX6_tellOne_33 rfl 0 rfl ?_
    obtain ⟨r_3, hr_3, h⟩ := bd_s h
    refine j_callVi (As := [.int r_1]) X o hs_o rfl (c_X6_tenseOf l w G o ho_o r_1 hr_3) rfl pn_X6_tenseOf q_641 q_494 q_495 q_60 q_496 ⟨Nat.le_of_ble_eq_true rfl, Nat.le_of_ble_eq_true rfl⟩ (Nat.le_of_ble_eq_true rfl) rfl dX6_tellOne_34 ?_
    refine j_istore X [(4, .int r_3), (3, .int r_1), (0, .ref (w.1 o)), (1, .int p1), (2, .ref (w.1 o2))] dX6_tellOne_37 (by decide) rfl ?_
    refine j_iload X dX6_tellOne_39 0 rfl ?_
    refine j_if_lt X 51 dX6_tellOne_41 (by decide) (fun c_4 => ?_) (fun c_4 => ?_)
    · have h := bi_t c_4 h
      exact j_vret X hr hk dX6_tellOne_51 (Option.some.inj h)
    · have h := bi_f c_4 h
      refine j_iload X dX6_tellOne_44 0 rfl ?_
      refine j_bipush (v := 8) X dX6_tellOne_46 (by decide) ?_
      refine j_icmp_lt X 52 dX6_tellOne_48 (by decide) (fun c_5 => ?_) (fun c_5 => ?_)
      · have h := bi_t c_5 h
        refine j_aload_n X dX6_tellOne_52 rfl 4 rfl ?_
        refine j_iload_n X dX6_tellOne_53 rfl 1 rfl ?_
        refine j_callNi (As := [.int r_1]) X (c_X8_eventOf l w G  r_1) pn_X8_eventOf nm_2 q_327 q_59 q_328 ⟨Nat.le_of_ble_eq_true rfl, Nat.le_of_ble_eq_true rfl⟩ (Nat.le_of_ble_eq_true rfl) rfl dX6_tellOne_54 ?_
        refine j_getsE X nf_0 dX6_tellOne_57 ?_
        refine j_iload X dX6_tellOne_60 0 rfl ?_
        obtain ⟨r_6, hr_6, h⟩ := bd_s h
        refine j_tabE X hr_6 dX6_tellOne_62 ?_
        refine j_iload_n X dX6_tellOne_63 rfl 1 rfl ?_
        refine j_callNi (As := [.int r_1]) X (c_X8_lookOf l w G  r_1) pn_X8_lookOf nm_3 q_646 q_59 q_647 ⟨Nat.le_of_ble_eq_true rfl, Nat.le_of_ble_eq_true rfl⟩ (Nat.le_of_ble_eq_true rfl) rfl dX6_tellOne_64 ?_
        obtain ⟨q_7, hq_7, h⟩ := bd_s h
        refine j_callVv (As := [.int (m_X8_eventOf r_1), .int r_6, .int (m_X8_lookOf r_1)]) X o2 hs_o2 rfl (c_X1_relate l w G o2 ho_o2 (m_X8_eventOf r_1) r_6 (m_X8_lookOf r_1) hq_7) rfl pn_X1_relate q_629 q_630 q_631 q_65 q_632 ⟨Nat.le_of_ble_eq_true rfl, Nat.le_of_ble_eq_true rfl⟩ (Nat.le_of_ble_eq_true rfl) rfl dX6_tellOne_67 ?_
        refine j_aload_n X dX6_tellOne_70 rfl 4 rfl ?_
        refine j_iload_n X dX6_tellOne_71 rfl 1 rfl ?_
        refine j_callNi (As := [.int r_1]) X (c_X8_lookOf l w q_7  r_1) pn_X8_lookOf nm_3 q_646 q_59 q_647 ⟨Nat.le_of_ble_eq_true rfl, Nat.le_of_ble_eq_true rfl⟩ (Nat.le_of_ble_eq_true rfl) rfl dX6_tellOne_72 ?_
        refine j_getsK X nf_1 dX6_tellOne_75 ?_
        refine j_iload X dX6_tellOne_78 0 rfl ?_
        obtain ⟨r_8, hr_8, h⟩ := bd_s h
        refine j_tabK X hr_8 dX6_tellOne_80 ?_
        refine j_iconst (v := 0) X dX6_tellOne_81 (by decide) ?_
        obtain ⟨q_9, hq_9, h⟩ := bd_s h
        refine j_callVv (As := [.int (m_X8_lookOf r_1), .int r_8, .int 0]) X o2 hs_o2 rfl (c_X1_relate l w q_7 o2 ho_o2 (m_X8_lookOf r_1) r_8 0 hq_9) rfl pn_X1_relate q_629 q_630 q_631 q_65 q_632 ⟨Nat.le_of_ble_eq_true rfl, Nat.le_of_ble_eq_true rfl⟩ (Nat.le_of_ble_eq_true rfl) rfl dX6_tellOne_82 ?_
        refine j_iload_n X dX6_tellOne_85 rfl 1 rfl ?_
        refine j_if_le X 108 dX6_tellOne_86 (by decide) (fun c_10 => ?_) (fun c_10 => ?_)
        · have h := bi_t c_10 h
          exact j_vret X hr hk dX6_tellOne_108 (Option.some.inj h)
        · have h := bi_f c_10 h
          refine j_aload_n X dX6_tellOne_89 rfl 4 rfl ?_
          refine j_iload_n X dX6_tellOne_90 rfl 1 rfl ?_
          refine j_iconst (v := 1) X dX6_tellOne_91 (by decide) ?_
          refine j_isub X dX6_tellOne_92 ?_
          refine j_callNi (As := [.int (r_1 - 1)]) X (c_X8_lookOf l w q_9  (r_1 - 1)) pn_X8_lookOf nm_3 q_646 q_59 q_647 ⟨Nat.le_of_ble_eq_true rfl, Nat.le_of_ble_eq_true rfl⟩ (Nat.le_of_ble_eq_true rfl) rfl dX6_tellOne_93 ?_
          refine j_aload_n X dX6_tellOne_96 rfl 2 rfl ?_
          refine j_iload_n X dX6_tellOne_97 rfl 1 rfl ?_
          obtain ⟨r_11, hr_11, h⟩ := bd_s h
          refine j_callVi (As := [.int r_1]) X o hs_o rfl (c_X6_linkOf l w q_9 o ho_o r_1 hr_11) rfl pn_X6_linkOf q_650 q_502 q_503 q_60 q_504 ⟨Nat.le_of_ble_eq_true rfl, Nat.le_of_ble_eq_true rfl⟩ (Nat.le_of_ble_eq_true rfl) rfl dX6_tellOne_98 ?_
          refine j_iload_n X dX6_tellOne_101 rfl 1 rfl ?_
          refine j_callNi (As := [.int r_1]) X (c_X8_lookOf l w q_9  r_1) pn_X8_lookOf nm_3 q_646 q_59 q_647 ⟨Nat.le_of_ble_eq_true rfl, Nat.le_of_ble_eq_true rfl⟩ (Nat.le_of_ble_eq_true rfl) rfl dX6_tellOne_102 ?_
          obtain ⟨q_12, hq_12, h⟩ := bd_s h
          refine j_callVv (As := [.int (m_X8_lookOf (r_1 - 1)), .int r_11, .int (m_X8_lookOf r_1)]) X o2 hs_o2 rfl (c_X1_relate l w q_9 o2 ho_o2 (m_X8_lookOf (r_1 - 1)) r_11 (m_X8_lookOf r_1) hq_12) rfl pn_X1_relate q_629 q_630 q_631 q_65 q_632 ⟨Nat.le_of_ble_eq_true rfl, Nat.le_of_ble_eq_true rfl⟩ (Nat.le_of_ble_eq_true rfl) rfl dX6_tellOne_105 ?_
          exact j_vret X hr hk dX6_tellOne_108 (Option.some.inj h)
      · have h := bi_f c_5 h
        exact j_vret X hr hk dX6_tellOne_51 (Option.some.inj h)
  · have h := bi_t c_2 h
    refine j_aload_n X dX6_tellOne_12 rfl 3 rfl ?_
    refine j_aload_n X dX6_tellOne_13 rfl 1 rfl ?_
    refine j_iload_n X dX6_tellOne_14 rfl 2 rfl ?_
    obtain ⟨r_13, hr_13, h⟩ := bd_s h
    refine j_callVi (As := [.int p1]) X o hs_o rfl (c_X6_firstAt l w G o ho_o p1 hr_13) rfl pn_X6_firstAt q_626 q_527 q_528 q_60 q_529 ⟨Nat.le_of_ble_eq_true rfl, Nat.le_of_ble_eq_true rfl⟩ (Nat.le_of_ble_eq_true rfl) rfl dX6_tellOne_15 ?_
    refine j_aload_n X dX6_tellOne_18 rfl 1 rfl ?_
    refine j_iload_n X dX6_tellOne_19 rfl 2 rfl ?_
    obtain ⟨r_14, hr_14, h⟩ := bd_s h
    refine j_callVi (As := [.int p1]) X o hs_o rfl (c_X6_signAt l w G o ho_o p1 hr_14) rfl pn_X6_signAt q_627 q_531 q_532 q_60 q_533 ⟨Nat.le_of_ble_eq_true rfl, Nat.le_of_ble_eq_true rfl⟩ (Nat.le_of_ble_eq_true rfl) rfl dX6_tellOne_20 ?_
    refine j_aload_n X dX6_tellOne_23 rfl 1 rfl ?_
    refine j_iload_n X dX6_tellOne_24 rfl 2 rfl ?_
    obtain ⟨r_15, hr_15, h⟩ := bd_s h
    refine j_callVi (As := [.int p1]) X o hs_o rfl (c_X6_secondAt l w G o ho_o p1 hr_15) rfl pn_X6_secondAt q_628 q_535 q_536 q_60 q_537 ⟨Nat.le_of_ble_eq_true rfl, Nat.le_of_ble_eq_true rfl⟩ (Nat.le_of_ble_eq_true rfl) rfl dX6_tellOne_25 ?_
    obtain ⟨q_16, hq_16, h⟩ := bd_s h
    refine j_callVv (As := [.int r_13, .int r_14, .int r_15]) X o2 hs_o2 rfl (c_X1_relate l w G o2 ho_o2 r_13 r_14 r_15 hq_16) rfl pn_X1_relate q_629 q_630 q_631 q_65 q_632 ⟨Nat.le_of_ble_eq_true rfl, Nat.le_of_ble_eq_true rfl⟩ (Nat.le_of_ble_eq_true rfl) rfl dX6_tellOne_28 ?_
    exact j_vret X hr hk dX6_tellOne_31 (Option.some.inj h)
abbrev rm_X3_noteSteps : Room := { frames := 4, cells := 0, slots := 0, locals := 93 }
theorem pn_X3_noteSteps : yX3_noteSteps.cls ≠ "java/lang/invoke/MethodHandle" ∧ yX3_noteSteps.cls ≠ "java/lang/invoke/VarHandle" ∧ (parseMethodDescriptor yX3_noteSteps.desc).map (fun d => d.parameters.length) = some 2 := by decide +kernel
def L_X3_noteSteps_32 (x3 : Int32) : Nat → Int32 → Mem → Option (Mem)
  | 0, _, _ => none
  | n + 1, x4, G => (if 17 ≤ x4 then some G else (aal 14 35 x3).bind (fun k_6 => (m_X1_notBehindRow G 31 x4).bind (fun r_7 => (ast 17 G k_6 x4 r_7).bind (fun q_8 => (aal 14 50 x3).bind (fun k_9 => (m_X1_aheadRow q_8 31 x4).bind (fun r_10 => (ast 17 q_8 k_9 x4 r_10).bind (fun q_11 => L_X3_noteSteps_32 x3 n (x4 + 1) q_11)))))))
def L_X3_noteSteps_2 (x2 : Int32) : Nat → Int32 → Mem → Option (Mem)
  | 0, _, _ => none
  | n + 1, x3, G => (if x2 ≤ x3 then some G else (if 14 ≤ x3 then some G else (m_X1_empty G 31).bind (fun q_3 => (m_X6_tellOne q_3 1 31 x3).bind (fun q_4 => (L_X3_noteSteps_32 x3 NF 0 q_4).bind (fun v_12 => L_X3_noteSteps_2 x2 n (x3 + 1) v_12)))))
def m_X3_noteSteps (G : Mem) (p1 : Int32) : Option (Mem) := (L_X3_noteSteps_2 p1 NF 0 G).bind (fun v_13 => some v_13)
set_option maxRecDepth 100000 in
set_option maxHeartbeats 4000000 in
theorem jL_X3_noteSteps_32 {p : Program} {l : Launch} {e : Env} {s : State} {m : MethodId} {args : Array Value} {below : List Frame} {meth : Method} {c : Code} {w : WP} (X : fw_X p s m args c cX3_noteSteps 5 RX3 w) (hr : meth.sig.returnType = none) (hk : meth.locks = false) {x2 : Int32} {x3 : Int32} {res : Mem} {K : Mem → Option (Mem)} (HK : ∀ v : Mem, K v = some res → J p l e rm_X3_noteSteps s m args below meth c (Qvoid below args s w res) w 5 v 81 [(0, .ref (w.1 30)), (1, .ref (w.1 1)), (2, .int x2), (3, .int x3)] []) : ∀ (n : Nat) (x4 : Int32) (G : Mem), (L_X3_noteSteps_32 x3 n x4 G).bind K = some res → J p l e rm_X3_noteSteps s m args below meth c (Qvoid below args s w res) w 5 G 32 [(0, .ref (w.1 30)), (1, .ref (w.1 1)), (2, .int x2), (3, .int x3), (4, .int x4)] [] := by
  intro n
  induction n with
  | zero =>
    intro x4 G h
    rw [L_X3_noteSteps_32] at h
    cases h
  | succ n ih =>
    intro x4 G h
    rw [L_X3_noteSteps_32] at h
    refine j_iload X dX3_noteSteps_32 4 rfl ?_
    refine j_bipush (v := 17) X dX3_noteSteps_34 (by decide) ?_
    refine j_icmp_ge X 81 dX3_noteSteps_36 (by decide) (fun c_5 => ?_) (fun c_5 => ?_)
    · have h := bi_t c_5 h
      refine j_pick [0, 1, 2, 3] rfl ?_
      exact HK G h
    · have h := bi_f c_5 h
      refine j_aload_n X dX3_noteSteps_39 rfl 0 rfl ?_
      refine j_getR (C := RX3) (T := TX3) (N := 5) X 30 s_30 rfl hin_X3 1 (by decide) 34 rfl q_200 dX3_noteSteps_40 ?_
      refine j_iload_n X dX3_noteSteps_43 rfl 3 rfl ?_
      obtain ⟨k_6, hk_6, h⟩ := bd_s h
      refine j_aald X 34 14 35 s_34 hk_6 dX3_noteSteps_44 ?_
      refine j_iload X dX3_noteSteps_45 4 rfl ?_
      refine j_aload_n X dX3_noteSteps_47 rfl 0 rfl ?_
      refine j_getR (C := RX3) (T := TX3) (N := 5) X 30 s_30 rfl hin_X3 0 (by decide) 31 rfl q_199 dX3_noteSteps_48 ?_
      refine j_iload X dX3_noteSteps_51 4 rfl ?_
      obtain ⟨r_7, hr_7, h⟩ := bd_s h
      refine j_callVi (As := [.int x4]) X 31 s_31 rfl (c_X1_notBehindRow l w G 31 (Or.inr rfl) x4 hr_7) rfl pn_X1_notBehindRow q_671 q_672 q_673 q_65 q_674 ⟨Nat.le_of_ble_eq_true rfl, Nat.le_of_ble_eq_true rfl⟩ (Nat.le_of_ble_eq_true rfl) rfl dX3_noteSteps_53 ?_
      obtain ⟨q_8, hq_8, h⟩ := bd_s h
      refine j_iast X k_6 17 (s_row35 hk_6) hq_8 dX3_noteSteps_56 ?_
      refine j_aload_n X dX3_noteSteps_57 rfl 0 rfl ?_
      refine j_getR (C := RX3) (T := TX3) (N := 5) X 30 s_30 rfl hin_X3 2 (by decide) 49 rfl q_201 dX3_noteSteps_58 ?_
      refine j_iload_n X dX3_noteSteps_61 rfl 3 rfl ?_
      obtain ⟨k_9, hk_9, h⟩ := bd_s h
      refine j_aald X 49 14 50 s_49 hk_9 dX3_noteSteps_62 ?_
      refine j_iload X dX3_noteSteps_63 4 rfl ?_
      refine j_aload_n X dX3_noteSteps_65 rfl 0 rfl ?_
      refine j_getR (C := RX3) (T := TX3) (N := 5) X 30 s_30 rfl hin_X3 0 (by decide) 31 rfl q_199 dX3_noteSteps_66 ?_
      refine j_iload X dX3_noteSteps_69 4 rfl ?_
      obtain ⟨r_10, hr_10, h⟩ := bd_s h
      refine j_callVi (As := [.int x4]) X 31 s_31 rfl (c_X1_aheadRow l w q_8 31 (Or.inr rfl) x4 hr_10) rfl pn_X1_aheadRow q_675 q_676 q_677 q_65 q_678 ⟨Nat.le_of_ble_eq_true rfl, Nat.le_of_ble_eq_true rfl⟩ (Nat.le_of_ble_eq_true rfl) rfl dX3_noteSteps_71 ?_
      obtain ⟨q_11, hq_11, h⟩ := bd_s h
      refine j_iast X k_9 17 (s_row50 hk_9) hq_11 dX3_noteSteps_74 ?_
      refine j_iinc (v := x4 + 1) X [(4, .int (x4 + 1)), (0, .ref (w.1 30)), (1, .ref (w.1 1)), (2, .int x2), (3, .int x3)] dX3_noteSteps_75 4 rfl rfl (by decide) rfl ?_
      refine j_goto X 32 dX3_noteSteps_78 (by decide) ?_
      refine j_pick [1, 2, 3, 4, 0] rfl ?_
      exact ih (x4 + 1) q_11 h
set_option maxRecDepth 100000 in
set_option maxHeartbeats 4000000 in
theorem jL_X3_noteSteps_2 {p : Program} {l : Launch} {e : Env} {s : State} {m : MethodId} {args : Array Value} {below : List Frame} {meth : Method} {c : Code} {w : WP} (X : fw_X p s m args c cX3_noteSteps 5 RX3 w) (hr : meth.sig.returnType = none) (hk : meth.locks = false) {x2 : Int32} {res : Mem} {K : Mem → Option (Mem)} (HK : ∀ v : Mem, K v = some res → J p l e rm_X3_noteSteps s m args below meth c (Qvoid below args s w res) w 5 v 87 [] []) : ∀ (n : Nat) (x3 : Int32) (G : Mem), (L_X3_noteSteps_2 x2 n x3 G).bind K = some res → J p l e rm_X3_noteSteps s m args below meth c (Qvoid below args s w res) w 5 G 2 [(0, .ref (w.1 30)), (1, .ref (w.1 1)), (2, .int x2), (3, .int x3)] [] := by
  intro n
  induction n with
  | zero =>
    intro x3 G h
    rw [L_X3_noteSteps_2] at h
    cases h
  | succ n ih =>
    intro x3 G h
    rw [L_X3_noteSteps_2] at h
    refine j_iload_n X dX3_noteSteps_2 rfl 3 rfl ?_
    refine j_iload_n X dX3_noteSteps_3 rfl 2 rfl ?_
    refine j_icmp_ge X 87 dX3_noteSteps_4 (by decide) (fun c_1 => ?_) (fun c_1 => ?_)
    · have h := bi_t c_1 h
      refine j_pick [] rfl ?_
      exact HK G h
    · have h := bi_f c_1 h
      refine j_iload_n X dX3_noteSteps_7 rfl 3 rfl ?_
      refine j_bipush (v := 14) X dX3_noteSteps_8 (by decide) ?_
      refine j_icmp_ge X 87 dX3_noteSteps_10 (by decide) (fun c_2 => ?_) (fun c_2 => ?_)
      · have h := bi_t c_2 h
        refine j_pick [] rfl ?_
        exact HK G h
      · have h := bi_f c_2 h
        refine j_aload_n X dX3_noteSteps_13 rfl 0 rfl ?_
        refine j_getR (C := RX3) (T := TX3) (N := 5) X 30 s_30 rfl hin_X3 0 (by decide) 31 rfl q_199 dX3_noteSteps_14 ?_
        obtain ⟨q_3, hq_3, h⟩ := bd_s h
        refine j_callVv (As := []) X 31 s_31 rfl (c_X1_empty l w G 31 (Or.inr rfl)  hq_3) rfl pn_X1_empty q_669 q_616 q_617 q_65 q_618 ⟨Nat.le_of_ble_eq_true rfl, Nat.le_of_ble_eq_true rfl⟩ (Nat.le_of_ble_eq_true rfl) rfl dX3_noteSteps_17 ?_
        refine j_aload_n X dX3_noteSteps_20 rfl 1 rfl ?_
        refine j_iload_n X dX3_noteSteps_21 rfl 3 rfl ?_
        refine j_aload_n X dX3_noteSteps_22 rfl 0 rfl ?_
        refine j_getR (C := RX3) (T := TX3) (N := 5) X 30 s_30 rfl hin_X3 0 (by decide) 31 rfl q_199 dX3_noteSteps_23 ?_
        obtain ⟨q_4, hq_4, h⟩ := bd_s h
        refine j_callVv (As := [.int x3, .ref (w.1 31)]) X 1 s_1 rfl (c_X6_tellOne l w q_3 1 (Or.inl rfl) 31 (Or.inr rfl) x3 hq_4) rfl pn_X6_tellOne q_670 q_623 q_624 q_60 q_625 ⟨Nat.le_of_ble_eq_true rfl, Nat.le_of_ble_eq_true rfl⟩ (Nat.le_of_ble_eq_true rfl) rfl dX3_noteSteps_26 ?_
        refine j_iconst (v := 0) X dX3_noteSteps_29 (by decide) ?_
        refine j_istore X [(4, .int 0), (0, .ref (w.1 30)), (1, .ref (w.1 1)), (2, .int x2), (3, .int x3)] dX3_noteSteps_30 (by decide) rfl ?_
        have h := bb_a h
        have Hv_12 : ∀ v_12 : Mem, (L_X3_noteSteps_2 x2 n (x3 + 1) v_12).bind K = some res → J p l e rm_X3_noteSteps s m args below meth c (Qvoid below args s w res) w 5 v_12 81 [(0, .ref (w.1 30)), (1, .ref (w.1 1)), (2, .int x2), (3, .int x3)] [] := by
          intro v_12 h
          refine j_iinc (v := x3 + 1) X [(3, .int (x3 + 1)), (0, .ref (w.1 30)), (1, .ref (w.1 1)), (2, .int x2)] dX3_noteSteps_81 3 rfl rfl (by decide) rfl ?_
          refine j_goto X 2 dX3_noteSteps_84 (by decide) ?_
          refine j_pick [1, 2, 3, 0] rfl ?_
          exact ih (x3 + 1) v_12 h
        refine j_pick [1, 2, 3, 4, 0] rfl ?_
        exact jL_X3_noteSteps_32 X hr hk Hv_12 NF 0 q_4 h
set_option maxRecDepth 100000 in
set_option maxHeartbeats 4000000 in
theorem c_X3_noteSteps (l : Launch) (w : WP) (G : Mem) (p1 : Int32) {res : Mem} (h0 : m_X3_noteSteps G p1 = some res) : CMv l yX3_noteSteps cX3_noteSteps 5 none 4 93 w [.ref (w.1 30), .ref (w.1 1), .int p1] G res := by
  refine CMv.of (by decide +kernel) (Nat.le_of_ble_eq_true rfl) ?_
  intro p e s m args below meth c X hr hk
  have h := bs_i h0
  unfold m_X3_noteSteps at h
  show J p l e rm_X3_noteSteps s m args below meth c (Qvoid below args s w res) w 5 G 0 [(0, .ref (w.1 30)), (1, .ref (w.1 1)), (2, .int p1)] []
  refine j_iconst (v := 0) X dX3_noteSteps_0 (by decide) ?_
  refine j_istore_n X [(3, .int 0), (0, .ref (w.1 30)), (1, .ref (w.1 1)), (2, .int p1)] dX3_noteSteps_1 rfl (by decide) rfl ?_
  have h := bb_a h
  have Hv_13 : ∀ v_13 : Mem, (some v_13).bind some = some res → J p l e rm_X3_noteSteps s m args below meth c (Qvoid below args s w res) w 5 v_13 87 [] [] := by
    intro v_13 h
    exact j_vret X hr hk dX3_noteSteps_87 (Option.some.inj h)
  refine j_pick [1, 2, 3, 0] rfl ?_
  exact jL_X3_noteSteps_2 X hr hk Hv_13 NF 0 G h
abbrev rm_X6_everything : Room := { frames := 1, cells := 0, slots := 0, locals := 20 }
theorem pn_X6_everything : yX6_everything.cls ≠ "java/lang/invoke/MethodHandle" ∧ yX6_everything.cls ≠ "java/lang/invoke/VarHandle" ∧ (parseMethodDescriptor yX6_everything.desc).map (fun d => d.parameters.length) = some 0 := by decide +kernel
def m_X6_everything (G : Mem) (o : Nat) : Option (Int32) := (m_X6_statements G o).bind (fun r_1 => some ((1 <<< (r_1 &&& 31)) - 1))
set_option maxRecDepth 100000 in
set_option maxHeartbeats 4000000 in
theorem c_X6_everything (l : Launch) (w : WP) (G : Mem) (o : Nat) (ho_o : o = 1 ∨ o = 3) {res : Int32} (h0 : m_X6_everything G o = some res) : CMi l yX6_everything cX6_everything 1 (some .int) 1 20 w [.ref (w.1 o)] G (res, G) := by
  have hs_o : fw_lay[o]? = some (.inl (6, [some (o + 1)])) := by rcases ho_o with rfl | rfl <;> rfl
  have hs_o_1 : fw_lay[o + 1]? = some (.inr (0, 74, 0)) := by rcases ho_o with rfl | rfl <;> rfl
  refine CMi.of (by decide +kernel) (Nat.le_of_ble_eq_true rfl) ?_
  intro p e s m args below meth c X hr hk
  have h := bs_i h0
  unfold m_X6_everything at h
  show J p l e rm_X6_everything s m args below meth c (Qint below args s w (res, G)) w 1 G 0 [(0, .ref (w.1 o))] []
  refine j_iconst (v := 1) X dX6_everything_0 (by decide) ?_
  refine j_aload_n X dX6_everything_1 rfl 0 rfl ?_
  obtain ⟨r_1, hr_1, h⟩ := bd_s h
  refine j_callVi (As := []) X o hs_o rfl (c_X6_statements l w G o ho_o  hr_1) rfl pn_X6_statements q_333 q_334 q_335 q_60 q_336 ⟨Nat.le_of_ble_eq_true rfl, Nat.le_of_ble_eq_true rfl⟩ (Nat.le_of_ble_eq_true rfl) rfl dX6_everything_2 ?_
  refine j_ishl X dX6_everything_5 ?_
  refine j_iconst (v := 1) X dX6_everything_6 (by decide) ?_
  refine j_isub X dX6_everything_7 ?_
  exact j_iret X hr hk dX6_everything_8 (congrArg (fun z => (z, G)) (Option.some.inj h))
abbrev rm_X3_joinSteps : Room := { frames := 1, cells := 0, slots := 0, locals := 21 }
theorem pn_X3_joinSteps : yX3_joinSteps.cls ≠ "java/lang/invoke/MethodHandle" ∧ yX3_joinSteps.cls ≠ "java/lang/invoke/VarHandle" ∧ (parseMethodDescriptor yX3_joinSteps.desc).map (fun d => d.parameters.length) = some 1 := by decide +kernel
def L_X3_joinSteps_26 (x1 : Int32) (x2 : Int32) : Nat → Int32 → Mem → Option (Mem)
  | 0, _, _ => none
  | n + 1, x3, G => (if 14 ≤ x3 then some G else ((if (m_X8_has x1 x3) = 0 then some G else (ald 17 G 64 x2).bind (fun r_7 => (aal 14 35 x3).bind (fun k_8 => (ald 17 G k_8 x2).bind (fun r_9 => (ast 17 G 64 x2 (r_7 ||| r_9)).bind (fun q_10 => (ald 17 q_10 65 x2).bind (fun r_11 => (aal 14 50 x3).bind (fun k_12 => (ald 17 q_10 k_12 x2).bind (fun r_13 => (ast 17 q_10 65 x2 (r_11 ||| r_13)).bind (fun q_14 => some q_14))))))))) : Option (Mem)).bind (fun (v_5 : Mem) => L_X3_joinSteps_26 x1 x2 n (x3 + 1) v_5))
def L_X3_joinSteps_2 (x1 : Int32) : Nat → Int32 → Mem → Option (Mem)
  | 0, _, _ => none
  | n + 1, x2, G => (if 17 ≤ x2 then some G else (ast 17 G 64 x2 (1 <<< (x2 &&& 31))).bind (fun q_2 => (ast 17 q_2 65 x2 0).bind (fun q_3 => (L_X3_joinSteps_26 x1 x2 NF 0 q_3).bind (fun v_15 => L_X3_joinSteps_2 x1 n (x2 + 1) v_15))))
def m_X3_joinSteps (G : Mem) (p1 : Int32) : Option (Mem) := (L_X3_joinSteps_2 p1 NF 0 G).bind (fun v_16 => some v_16)
set_option maxRecDepth 100000 in
set_option maxHeartbeats 4000000 in
theorem jL_X3_joinSteps_26 {p : Program} {l : Launch} {e : Env} {s : State} {m : MethodId} {args : Array Value} {below : List Frame} {meth : Method} {c : Code} {w : WP} (X : fw_X p s m args c cX3_joinSteps 4 RX3 w) (hr : meth.sig.returnType = none) (hk : meth.locks = false) {x1 : Int32} {x2 : Int32} {res : Mem} {K : Mem → Option (Mem)} (HK : ∀ v : Mem, K v = some res → J p l e rm_X3_joinSteps s m args below meth c (Qvoid below args s w res) w 4 v 80 [(0, .ref (w.1 30)), (1, .int x1), (2, .int x2)] []) : ∀ (n : Nat) (x3 : Int32) (G : Mem), (L_X3_joinSteps_26 x1 x2 n x3 G).bind K = some res → J p l e rm_X3_joinSteps s m args below meth c (Qvoid below args s w res) w 4 G 26 [(0, .ref (w.1 30)), (1, .int x1), (2, .int x2), (3, .int x3)] [] := by
  intro n
  induction n with
  | zero =>
    intro x3 G h
    rw [L_X3_joinSteps_26] at h
    cases h
  | succ n ih =>
    intro x3 G h
    rw [L_X3_joinSteps_26] at h
    refine j_iload_n X dX3_joinSteps_26 rfl 3 rfl ?_
    refine j_bipush (v := 14) X dX3_joinSteps_27 (by decide) ?_
    refine j_icmp_ge X 80 dX3_joinSteps_29 (by decide) (fun c_4 => ?_) (fun c_4 => ?_)
    · have h := bi_t c_4 h
      refine j_pick [0, 1, 2] rfl ?_
      exact HK G h
    · have h := bi_f c_4 h
      refine j_iload_n X dX3_joinSteps_32 rfl 1 rfl ?_
      refine j_iload_n X dX3_joinSteps_33 rfl 3 rfl ?_
      refine j_callNi (As := [.int x1, .int x3]) X (c_X8_has l w G  x1 x3) pn_X8_has nm_4 q_620 q_59 q_621 ⟨Nat.le_of_ble_eq_true rfl, Nat.le_of_ble_eq_true rfl⟩ (Nat.le_of_ble_eq_true rfl) rfl dX3_joinSteps_34 ?_
      have h := bb_a h
      have Hv_5 : ∀ v_5 : Mem, (L_X3_joinSteps_26 x1 x2 n (x3 + 1) v_5).bind K = some res → J p l e rm_X3_joinSteps s m args below meth c (Qvoid below args s w res) w 4 v_5 74 [(0, .ref (w.1 30)), (1, .int x1), (2, .int x2), (3, .int x3)] [] := by
        intro v_5 h
        refine j_iinc (v := x3 + 1) X [(3, .int (x3 + 1)), (0, .ref (w.1 30)), (1, .int x1), (2, .int x2)] dX3_joinSteps_74 3 rfl rfl (by decide) rfl ?_
        refine j_goto X 26 dX3_joinSteps_77 (by decide) ?_
        refine j_pick [1, 2, 3, 0] rfl ?_
        exact ih (x3 + 1) v_5 h
      refine j_if_eq X 74 dX3_joinSteps_37 (by decide) (fun c_6 => ?_) (fun c_6 => ?_)
      · have h := bi_t c_6 h
        refine j_pick [0, 1, 2, 3] rfl ?_
        exact Hv_5 G h
      · have h := bi_f c_6 h
        refine j_aload_n X dX3_joinSteps_40 rfl 0 rfl ?_
        refine j_getR (C := RX3) (T := TX3) (N := 5) X 30 s_30 rfl hin_X3 3 (by decide) 64 rfl q_202 dX3_joinSteps_41 ?_
        refine j_iload_n X dX3_joinSteps_44 rfl 2 rfl ?_
        refine j_dup2 X dX3_joinSteps_45 rfl rfl ?_
        obtain ⟨r_7, hr_7, h⟩ := bd_s h
        refine j_iald X 64 17 s_64 hr_7 dX3_joinSteps_46 ?_
        refine j_aload_n X dX3_joinSteps_47 rfl 0 rfl ?_
        refine j_getR (C := RX3) (T := TX3) (N := 5) X 30 s_30 rfl hin_X3 1 (by decide) 34 rfl q_200 dX3_joinSteps_48 ?_
        refine j_iload_n X dX3_joinSteps_51 rfl 3 rfl ?_
        obtain ⟨k_8, hk_8, h⟩ := bd_s h
        refine j_aald X 34 14 35 s_34 hk_8 dX3_joinSteps_52 ?_
        refine j_iload_n X dX3_joinSteps_53 rfl 2 rfl ?_
        obtain ⟨r_9, hr_9, h⟩ := bd_s h
        refine j_iald X k_8 17 (s_row35 hk_8) hr_9 dX3_joinSteps_54 ?_
        refine j_ior X dX3_joinSteps_55 ?_
        obtain ⟨q_10, hq_10, h⟩ := bd_s h
        refine j_iast X 64 17 s_64 hq_10 dX3_joinSteps_56 ?_
        refine j_aload_n X dX3_joinSteps_57 rfl 0 rfl ?_
        refine j_getR (C := RX3) (T := TX3) (N := 5) X 30 s_30 rfl hin_X3 4 (by decide) 65 rfl q_203 dX3_joinSteps_58 ?_
        refine j_iload_n X dX3_joinSteps_61 rfl 2 rfl ?_
        refine j_dup2 X dX3_joinSteps_62 rfl rfl ?_
        obtain ⟨r_11, hr_11, h⟩ := bd_s h
        refine j_iald X 65 17 s_65 hr_11 dX3_joinSteps_63 ?_
        refine j_aload_n X dX3_joinSteps_64 rfl 0 rfl ?_
        refine j_getR (C := RX3) (T := TX3) (N := 5) X 30 s_30 rfl hin_X3 2 (by decide) 49 rfl q_201 dX3_joinSteps_65 ?_
        refine j_iload_n X dX3_joinSteps_68 rfl 3 rfl ?_
        obtain ⟨k_12, hk_12, h⟩ := bd_s h
        refine j_aald X 49 14 50 s_49 hk_12 dX3_joinSteps_69 ?_
        refine j_iload_n X dX3_joinSteps_70 rfl 2 rfl ?_
        obtain ⟨r_13, hr_13, h⟩ := bd_s h
        refine j_iald X k_12 17 (s_row50 hk_12) hr_13 dX3_joinSteps_71 ?_
        refine j_ior X dX3_joinSteps_72 ?_
        obtain ⟨q_14, hq_14, h⟩ := bd_s h
        refine j_iast X 65 17 s_65 hq_14 dX3_joinSteps_73 ?_
        refine j_pick [0, 1, 2, 3] rfl ?_
        exact Hv_5 q_14 h
set_option maxRecDepth 100000 in
set_option maxHeartbeats 4000000 in
theorem jL_X3_joinSteps_2 {p : Program} {l : Launch} {e : Env} {s : State} {m : MethodId} {args : Array Value} {below : List Frame} {meth : Method} {c : Code} {w : WP} (X : fw_X p s m args c cX3_joinSteps 4 RX3 w) (hr : meth.sig.returnType = none) (hk : meth.locks = false) {x1 : Int32} {res : Mem} {K : Mem → Option (Mem)} (HK : ∀ v : Mem, K v = some res → J p l e rm_X3_joinSteps s m args below meth c (Qvoid below args s w res) w 4 v 86 [] []) : ∀ (n : Nat) (x2 : Int32) (G : Mem), (L_X3_joinSteps_2 x1 n x2 G).bind K = some res → J p l e rm_X3_joinSteps s m args below meth c (Qvoid below args s w res) w 4 G 2 [(0, .ref (w.1 30)), (1, .int x1), (2, .int x2)] [] := by
  intro n
  induction n with
  | zero =>
    intro x2 G h
    rw [L_X3_joinSteps_2] at h
    cases h
  | succ n ih =>
    intro x2 G h
    rw [L_X3_joinSteps_2] at h
    refine j_iload_n X dX3_joinSteps_2 rfl 2 rfl ?_
    refine j_bipush (v := 17) X dX3_joinSteps_3 (by decide) ?_
    refine j_icmp_ge X 86 dX3_joinSteps_5 (by decide) (fun c_1 => ?_) (fun c_1 => ?_)
    · have h := bi_t c_1 h
      refine j_pick [] rfl ?_
      exact HK G h
    · have h := bi_f c_1 h
      refine j_aload_n X dX3_joinSteps_8 rfl 0 rfl ?_
      refine j_getR (C := RX3) (T := TX3) (N := 5) X 30 s_30 rfl hin_X3 3 (by decide) 64 rfl q_202 dX3_joinSteps_9 ?_
      refine j_iload_n X dX3_joinSteps_12 rfl 2 rfl ?_
      refine j_iconst (v := 1) X dX3_joinSteps_13 (by decide) ?_
      refine j_iload_n X dX3_joinSteps_14 rfl 2 rfl ?_
      refine j_ishl X dX3_joinSteps_15 ?_
      obtain ⟨q_2, hq_2, h⟩ := bd_s h
      refine j_iast X 64 17 s_64 hq_2 dX3_joinSteps_16 ?_
      refine j_aload_n X dX3_joinSteps_17 rfl 0 rfl ?_
      refine j_getR (C := RX3) (T := TX3) (N := 5) X 30 s_30 rfl hin_X3 4 (by decide) 65 rfl q_203 dX3_joinSteps_18 ?_
      refine j_iload_n X dX3_joinSteps_21 rfl 2 rfl ?_
      refine j_iconst (v := 0) X dX3_joinSteps_22 (by decide) ?_
      obtain ⟨q_3, hq_3, h⟩ := bd_s h
      refine j_iast X 65 17 s_65 hq_3 dX3_joinSteps_23 ?_
      refine j_iconst (v := 0) X dX3_joinSteps_24 (by decide) ?_
      refine j_istore_n X [(3, .int 0), (0, .ref (w.1 30)), (1, .int x1), (2, .int x2)] dX3_joinSteps_25 rfl (by decide) rfl ?_
      have h := bb_a h
      have Hv_15 : ∀ v_15 : Mem, (L_X3_joinSteps_2 x1 n (x2 + 1) v_15).bind K = some res → J p l e rm_X3_joinSteps s m args below meth c (Qvoid below args s w res) w 4 v_15 80 [(0, .ref (w.1 30)), (1, .int x1), (2, .int x2)] [] := by
        intro v_15 h
        refine j_iinc (v := x2 + 1) X [(2, .int (x2 + 1)), (0, .ref (w.1 30)), (1, .int x1)] dX3_joinSteps_80 2 rfl rfl (by decide) rfl ?_
        refine j_goto X 2 dX3_joinSteps_83 (by decide) ?_
        refine j_pick [1, 2, 0] rfl ?_
        exact ih (x2 + 1) v_15 h
      refine j_pick [1, 2, 3, 0] rfl ?_
      exact jL_X3_joinSteps_26 X hr hk Hv_15 NF 0 q_3 h
set_option maxRecDepth 100000 in
set_option maxHeartbeats 4000000 in
theorem c_X3_joinSteps (l : Launch) (w : WP) (G : Mem) (p1 : Int32) {res : Mem} (h0 : m_X3_joinSteps G p1 = some res) : CMv l yX3_joinSteps cX3_joinSteps 4 none 1 21 w [.ref (w.1 30), .int p1] G res := by
  refine CMv.of (by decide +kernel) (Nat.le_of_ble_eq_true rfl) ?_
  intro p e s m args below meth c X hr hk
  have h := bs_i h0
  unfold m_X3_joinSteps at h
  show J p l e rm_X3_joinSteps s m args below meth c (Qvoid below args s w res) w 4 G 0 [(0, .ref (w.1 30)), (1, .int p1)] []
  refine j_iconst (v := 0) X dX3_joinSteps_0 (by decide) ?_
  refine j_istore_n X [(2, .int 0), (0, .ref (w.1 30)), (1, .int p1)] dX3_joinSteps_1 rfl (by decide) rfl ?_
  have h := bb_a h
  have Hv_16 : ∀ v_16 : Mem, (some v_16).bind some = some res → J p l e rm_X3_joinSteps s m args below meth c (Qvoid below args s w res) w 4 v_16 86 [] [] := by
    intro v_16 h
    exact j_vret X hr hk dX3_joinSteps_86 (Option.some.inj h)
  refine j_pick [1, 2, 0] rfl ?_
  exact jL_X3_joinSteps_2 X hr hk Hv_16 NF 0 G h
