abbrev rm_J0_coder_7d493 : Room := { frames := 0, cells := 0, slots := 0, locals := 0 }
theorem pn_J0_coder_7d493 : yJ0_coder_7d493.cls ≠ "java/lang/invoke/MethodHandle" ∧ yJ0_coder_7d493.cls ≠ "java/lang/invoke/VarHandle" ∧ (parseMethodDescriptor yJ0_coder_7d493.desc).map (fun d => d.parameters.length) = some 0 := by decide +kernel
def m_J0_coder_7d493 (si : Nat) : Int32 := 0
set_option maxRecDepth 100000 in
set_option maxHeartbeats 4000000 in
theorem c_J0_coder_7d493 (l : Launch) (w : WP) (G : Mem) (si : Nat) (ho_si : si < 3) : CMi l yJ0_coder_7d493 cJ0_coder_7d493 1 (some .byte) 0 0 w [.ref (w.2.2.2.2.1 si)] G (m_J0_coder_7d493 si, G) := by
  refine CMi.of (by decide +kernel) (Nat.le_of_ble_eq_true rfl) ?_
  intro p e s m args below meth c X hr hk
  obtain ⟨res, h⟩ : ∃ z, m_J0_coder_7d493 si = z := ⟨_, rfl⟩
  rw [h]
  unfold m_J0_coder_7d493 at h
  show J p l e rm_J0_coder_7d493 s m args below meth c (Qint below args s w (res, G)) w 1 G 0 [(0, .ref (w.2.2.2.2.1 si))] []
  refine j_getsC X q_355 dJ0_coder_7d493_0 ?_
  refine j_if_eq X 13 dJ0_coder_7d493_3 (by decide) (fun c_1 => absurd c_1 (by decide)) (fun _ => ?_)
  refine j_aload_n X dJ0_coder_7d493_6 rfl 0 rfl ?_
  refine j_sgetC X si ho_si q_1146 dJ0_coder_7d493_7 ?_
  refine j_goto X 14 dJ0_coder_7d493_10 (by decide) ?_
  exact j_bret X hr hk (by decide) dJ0_coder_7d493_14 (congrArg (fun z => (z, G)) (h))
abbrev rm_J0_isLatin1_aae02 : Room := { frames := 0, cells := 0, slots := 0, locals := 0 }
theorem pn_J0_isLatin1_aae02 : yJ0_isLatin1_aae02.cls ≠ "java/lang/invoke/MethodHandle" ∧ yJ0_isLatin1_aae02.cls ≠ "java/lang/invoke/VarHandle" ∧ (parseMethodDescriptor yJ0_isLatin1_aae02.desc).map (fun d => d.parameters.length) = some 0 := by decide +kernel
def m_J0_isLatin1_aae02 (si : Nat) : Int32 := 1
set_option maxRecDepth 100000 in
set_option maxHeartbeats 4000000 in
theorem c_J0_isLatin1_aae02 (l : Launch) (w : WP) (G : Mem) (si : Nat) (ho_si : si < 3) : CMi l yJ0_isLatin1_aae02 cJ0_isLatin1_aae02 1 (some .boolean) 0 0 w [.ref (w.2.2.2.2.1 si)] G (m_J0_isLatin1_aae02 si, G) := by
  refine CMi.of (by decide +kernel) (Nat.le_of_ble_eq_true rfl) ?_
  intro p e s m args below meth c X hr hk
  obtain ⟨res, h⟩ : ∃ z, m_J0_isLatin1_aae02 si = z := ⟨_, rfl⟩
  rw [h]
  unfold m_J0_isLatin1_aae02 at h
  show J p l e rm_J0_isLatin1_aae02 s m args below meth c (Qint below args s w (res, G)) w 1 G 0 [(0, .ref (w.2.2.2.2.1 si))] []
  refine j_getsC X q_355 dJ0_isLatin1_aae02_0 ?_
  refine j_if_eq X 17 dJ0_isLatin1_aae02_3 (by decide) (fun c_1 => absurd c_1 (by decide)) (fun _ => ?_)
  refine j_aload_n X dJ0_isLatin1_aae02_6 rfl 0 rfl ?_
  refine j_sgetC X si ho_si q_1146 dJ0_isLatin1_aae02_7 ?_
  refine j_if_ne X 17 dJ0_isLatin1_aae02_10 (by decide) (fun c_2 => absurd c_2 (by decide)) (fun _ => ?_)
  refine j_iconst (v := 1) X dJ0_isLatin1_aae02_13 (by decide) ?_
  refine j_goto X 18 dJ0_isLatin1_aae02_14 (by decide) ?_
  exact j_zret X hr hk (by decide) dJ0_isLatin1_aae02_18 (congrArg (fun z => (z, G)) (h))
abbrev rm_J0_length_8abf5 : Room := { frames := 1, cells := 0, slots := 0, locals := 20 }
theorem pn_J0_length_8abf5 : yJ0_length_8abf5.cls ≠ "java/lang/invoke/MethodHandle" ∧ yJ0_length_8abf5.cls ≠ "java/lang/invoke/VarHandle" ∧ (parseMethodDescriptor yJ0_length_8abf5.desc).map (fun d => d.parameters.length) = some 0 := by decide +kernel
def m_J0_length_8abf5 (si : Nat) : Int32 := (blen si) >>> (0 &&& 31)
set_option maxRecDepth 100000 in
set_option maxHeartbeats 4000000 in
theorem c_J0_length_8abf5 (l : Launch) (w : WP) (G : Mem) (si : Nat) (ho_si : si < 3) : CMi l yJ0_length_8abf5 cJ0_length_8abf5 1 (some .int) 1 20 w [.ref (w.2.2.2.2.1 si)] G (m_J0_length_8abf5 si, G) := by
  refine CMi.of (by decide +kernel) (Nat.le_of_ble_eq_true rfl) ?_
  intro p e s m args below meth c X hr hk
  obtain ⟨res, h⟩ : ∃ z, m_J0_length_8abf5 si = z := ⟨_, rfl⟩
  rw [h]
  unfold m_J0_length_8abf5 at h
  show J p l e rm_J0_length_8abf5 s m args below meth c (Qint below args s w (res, G)) w 1 G 0 [(0, .ref (w.2.2.2.2.1 si))] []
  refine j_aload_n X dJ0_length_8abf5_0 rfl 0 rfl ?_
  refine j_sgetV X si ho_si q_1147 dJ0_length_8abf5_1 ?_
  refine j_blen X si ho_si dJ0_length_8abf5_4 ?_
  refine j_aload_n X dJ0_length_8abf5_5 rfl 0 rfl ?_
  refine j_callTi (r := 0) (As := []) X si ho_si (c_J0_coder_7d493 l w G si ho_si ) rfl pn_J0_coder_7d493 q_361 q_362 q_363 q_69 q_364 ⟨Nat.le_of_ble_eq_true rfl, Nat.le_of_ble_eq_true rfl⟩ (Nat.le_of_ble_eq_true rfl) rfl dJ0_length_8abf5_6 ?_
  refine j_ishr X dJ0_length_8abf5_9 ?_
  exact j_iret X hr hk dJ0_length_8abf5_10 (congrArg (fun z => (z, G)) (h))
abbrev rm_J1_canEncode_9a6ad : Room := { frames := 0, cells := 0, slots := 0, locals := 0 }
theorem pn_J1_canEncode_9a6ad : yJ1_canEncode_9a6ad.cls ≠ "java/lang/invoke/MethodHandle" ∧ yJ1_canEncode_9a6ad.cls ≠ "java/lang/invoke/VarHandle" ∧ (parseMethodDescriptor yJ1_canEncode_9a6ad.desc).map (fun d => d.parameters.length) = some 1 := by decide +kernel
def m_J1_canEncode_9a6ad (p1 : Int32) : Int32 := (if p1 < 0 then 0 else (if 255 < p1 then 0 else 1))
set_option maxRecDepth 100000 in
set_option maxHeartbeats 4000000 in
theorem c_J1_canEncode_9a6ad (l : Launch) (w : WP) (G : Mem) (p1 : Int32) : CMi l yJ1_canEncode_9a6ad cJ1_canEncode_9a6ad 1 (some .boolean) 0 0 w [.int p1] G (m_J1_canEncode_9a6ad p1, G) := by
  refine CMi.of (by decide +kernel) (Nat.le_of_ble_eq_true rfl) ?_
  intro p e s m args below meth c X hr hk
  obtain ⟨res, h⟩ : ∃ z, m_J1_canEncode_9a6ad p1 = z := ⟨_, rfl⟩
  rw [h]
  unfold m_J1_canEncode_9a6ad at h
  show J p l e rm_J1_canEncode_9a6ad s m args below meth c (Qint below args s w (res, G)) w 1 G 0 [(0, .int p1)] []
  refine j_iload_n X dJ1_canEncode_9a6ad_0 rfl 0 rfl ?_
  refine j_if_lt X 15 dJ1_canEncode_9a6ad_1 (by decide) (fun c_1 => ?_) (fun c_1 => ?_)
  · have h := pi_t c_1 h
    refine j_iconst (v := 0) X dJ1_canEncode_9a6ad_15 (by decide) ?_
    exact j_zret X hr hk (by decide) dJ1_canEncode_9a6ad_16 (congrArg (fun z => (z, G)) (h))
  · have h := pi_f c_1 h
    refine j_iload_n X dJ1_canEncode_9a6ad_4 rfl 0 rfl ?_
    refine j_sipush (v := 255) X dJ1_canEncode_9a6ad_5 (by decide) ?_
    refine j_icmp_gt X 15 dJ1_canEncode_9a6ad_8 (by decide) (fun c_2 => ?_) (fun c_2 => ?_)
    · have h := pi_t c_2 h
      refine j_iconst (v := 0) X dJ1_canEncode_9a6ad_15 (by decide) ?_
      exact j_zret X hr hk (by decide) dJ1_canEncode_9a6ad_16 (congrArg (fun z => (z, G)) (h))
    · have h := pi_f c_2 h
      refine j_iconst (v := 1) X dJ1_canEncode_9a6ad_11 (by decide) ?_
      refine j_goto X 16 dJ1_canEncode_9a6ad_12 (by decide) ?_
      exact j_zret X hr hk (by decide) dJ1_canEncode_9a6ad_16 (congrArg (fun z => (z, G)) (h))
abbrev rm_J1_indexOfChar_4cfef : Room := { frames := 0, cells := 0, slots := 0, locals := 0 }
theorem pn_J1_indexOfChar_4cfef : yJ1_indexOfChar_4cfef.cls ≠ "java/lang/invoke/MethodHandle" ∧ yJ1_indexOfChar_4cfef.cls ≠ "java/lang/invoke/VarHandle" ∧ (parseMethodDescriptor yJ1_indexOfChar_4cfef.desc).map (fun d => d.parameters.length) = some 4 := by decide +kernel
def L_J1_indexOfChar_4cfef_7 (si : Nat) (x3 : Int32) (x4 : Int32) : Nat → Int32 → Option ((Unit) ⊕ (Int32))
  | 0, _ => none
  | n + 1, x5 => (if x3 ≤ x5 then some (Sum.inl ()) else (bld si x5).bind (fun r_2 => (if r_2 = x4 then some (Sum.inr x5) else L_J1_indexOfChar_4cfef_7 si x3 x4 n (x5 + 1))))
def m_J1_indexOfChar_4cfef (si : Nat) (p1 : Int32) (p2 : Int32) (p3 : Int32) : Option (Int32) := (L_J1_indexOfChar_4cfef_7 si p3 p1.toInt8.toInt32 NF p2).bind (fun o_v_4 => (match o_v_4 with | Sum.inl v_4 => some (-1) | Sum.inr v_5 => some v_5))
set_option maxRecDepth 100000 in
set_option maxHeartbeats 4000000 in
theorem jL_J1_indexOfChar_4cfef_7 {p : Program} {l : Launch} {e : Env} {s : State} {m : MethodId} {args : Array Value} {below : List Frame} {meth : Method} {c : Code} {w : WP} (X : fw_X p s m args c cJ1_indexOfChar_4cfef 6 RJ1 w) (hr : meth.sig.returnType = (some .int)) (hk : meth.locks = false) (si : Nat) (ho_si : si < 3) {x3 : Int32} {x4 : Int32} {G : Mem} {res : Int32} {K : (Unit) ⊕ (Int32) → Option (Int32)} (HK : ∀ v : Unit, K (Sum.inl v) = some res → J p l e rm_J1_indexOfChar_4cfef s m args below meth c (Qint below args s w (res, G)) w 6 G 31 [] []) (HR : ∀ v : Int32, K (Sum.inr v) = some res → v = res) : ∀ (n : Nat) (x5 : Int32), (L_J1_indexOfChar_4cfef_7 si x3 x4 n x5).bind K = some res → J p l e rm_J1_indexOfChar_4cfef s m args below meth c (Qint below args s w (res, G)) w 6 G 7 [(0, .ref (w.2.2.2.2.2 si)), (3, .int x3), (4, .int x4), (5, .int x5)] [] := by
  intro n
  induction n with
  | zero =>
    intro x5 h
    rw [L_J1_indexOfChar_4cfef_7] at h
    cases h
  | succ n ih =>
    intro x5 h
    rw [L_J1_indexOfChar_4cfef_7] at h
    refine j_iload X dJ1_indexOfChar_4cfef_7 3 rfl ?_
    refine j_iload_n X dJ1_indexOfChar_4cfef_9 rfl 1 rfl ?_
    refine j_icmp_ge X 31 dJ1_indexOfChar_4cfef_10 (by decide) (fun c_1 => ?_) (fun c_1 => ?_)
    · have h := bi_t c_1 h
      refine j_pick [] rfl ?_
      exact HK () h
    · have h := bi_f c_1 h
      refine j_aload_n X dJ1_indexOfChar_4cfef_13 rfl 0 rfl ?_
      refine j_iload X dJ1_indexOfChar_4cfef_14 3 rfl ?_
      obtain ⟨r_2, hr_2, h⟩ := bd_s h
      refine j_bald X si ho_si hr_2 dJ1_indexOfChar_4cfef_16 ?_
      refine j_iload X dJ1_indexOfChar_4cfef_17 2 rfl ?_
      refine j_icmp_ne X 25 dJ1_indexOfChar_4cfef_19 (by decide) (fun c_3 => ?_) (fun c_3 => ?_)
      · have h := bi_f c_3 h
        refine j_iinc (v := x5 + 1) X [(5, .int (x5 + 1)), (0, .ref (w.2.2.2.2.2 si)), (3, .int x3), (4, .int x4)] dJ1_indexOfChar_4cfef_25 3 rfl rfl (by decide) rfl ?_
        refine j_goto X 7 dJ1_indexOfChar_4cfef_28 (by decide) ?_
        refine j_pick [1, 2, 3, 0] rfl ?_
        exact ih (x5 + 1) h
      · have h := bi_t c_3 h
        refine j_iload X dJ1_indexOfChar_4cfef_22 3 rfl ?_
        exact j_iret X hr hk dJ1_indexOfChar_4cfef_24 (congrArg (fun z => (z, G)) (HR _ h))
set_option maxRecDepth 100000 in
set_option maxHeartbeats 4000000 in
theorem c_J1_indexOfChar_4cfef (l : Launch) (w : WP) (G : Mem) (si : Nat) (ho_si : si < 3) (p1 : Int32) (p2 : Int32) (p3 : Int32) {res : Int32} (h0 : m_J1_indexOfChar_4cfef si p1 p2 p3 = some res) : CMi l yJ1_indexOfChar_4cfef cJ1_indexOfChar_4cfef 6 (some .int) 0 0 w [.ref (w.2.2.2.2.2 si), .int p1, .int p2, .int p3] G (res, G) := by
  refine CMi.of (by decide +kernel) (Nat.le_of_ble_eq_true rfl) ?_
  intro p e s m args below meth c X hr hk
  have h := bs_i h0
  unfold m_J1_indexOfChar_4cfef at h
  show J p l e rm_J1_indexOfChar_4cfef s m args below meth c (Qint below args s w (res, G)) w 6 G 0 [(0, .ref (w.2.2.2.2.2 si)), (1, .int p1), (2, .int p2), (3, .int p3)] []
  refine j_iload_n X dJ1_indexOfChar_4cfef_0 rfl 1 rfl ?_
  refine j_i2b (v := p1.toInt8.toInt32) X dJ1_indexOfChar_4cfef_1 rfl ?_
  refine j_istore X [(4, .int p1.toInt8.toInt32), (0, .ref (w.2.2.2.2.2 si)), (1, .int p1), (2, .int p2), (3, .int p3)] dJ1_indexOfChar_4cfef_2 (by decide) rfl ?_
  refine j_iload_n X dJ1_indexOfChar_4cfef_4 rfl 3 rfl ?_
  refine j_istore X [(5, .int p2), (4, .int p1.toInt8.toInt32), (0, .ref (w.2.2.2.2.2 si)), (1, .int p1), (2, .int p2), (3, .int p3)] dJ1_indexOfChar_4cfef_5 (by decide) rfl ?_
  have h := bb_a h
  have Hv_4 : ∀ v_4 : Unit, (some (-1)).bind some = some res → J p l e rm_J1_indexOfChar_4cfef s m args below meth c (Qint below args s w (res, G)) w 6 G 31 [] [] := by
    intro v_4 h
    refine j_iconst (v := (-1)) X dJ1_indexOfChar_4cfef_31 (by decide) ?_
    exact j_iret X hr hk dJ1_indexOfChar_4cfef_32 (congrArg (fun z => (z, G)) (Option.some.inj h))
  refine j_pick [2, 5, 1, 0] rfl ?_
  exact jL_J1_indexOfChar_4cfef_7 (K := fun o_v_4 => ((match o_v_4 with | Sum.inl v_4 => some (-1) | Sum.inr v_5 => some v_5)).bind some) X hr hk si ho_si Hv_4 (fun z h => Option.some.inj h) NF p2 h
abbrev rm_J1_indexOf_4cfef : Room := { frames := 1, cells := 0, slots := 0, locals := 25 }
theorem pn_J1_indexOf_4cfef : yJ1_indexOf_4cfef.cls ≠ "java/lang/invoke/MethodHandle" ∧ yJ1_indexOf_4cfef.cls ≠ "java/lang/invoke/VarHandle" ∧ (parseMethodDescriptor yJ1_indexOf_4cfef.desc).map (fun d => d.parameters.length) = some 4 := by decide +kernel
def m_J1_indexOf_4cfef (si : Nat) (p1 : Int32) (p2 : Int32) (p3 : Int32) : Option (Int32) := (if (m_J1_canEncode_9a6ad p1) = 0 then some (-1) else (if (if p2 < 0 then 0 else p2) < (if (blen si) < p3 then (blen si) else p3) then (m_J1_indexOfChar_4cfef si p1 (if p2 < 0 then 0 else p2) (if (blen si) < p3 then (blen si) else p3)).bind (fun r_3 => some r_3) else some (-1)))
set_option maxRecDepth 100000 in
set_option maxHeartbeats 4000000 in
theorem c_J1_indexOf_4cfef (l : Launch) (w : WP) (G : Mem) (si : Nat) (ho_si : si < 3) (p1 : Int32) (p2 : Int32) (p3 : Int32) {res : Int32} (h0 : m_J1_indexOf_4cfef si p1 p2 p3 = some res) : CMi l yJ1_indexOf_4cfef cJ1_indexOf_4cfef 4 (some .int) 1 25 w [.ref (w.2.2.2.2.2 si), .int p1, .int p2, .int p3] G (res, G) := by
  refine CMi.of (by decide +kernel) (Nat.le_of_ble_eq_true rfl) ?_
  intro p e s m args below meth c X hr hk
  have h := bs_i h0
  unfold m_J1_indexOf_4cfef at h
  show J p l e rm_J1_indexOf_4cfef s m args below meth c (Qint below args s w (res, G)) w 4 G 0 [(0, .ref (w.2.2.2.2.2 si)), (1, .int p1), (2, .int p2), (3, .int p3)] []
  refine j_iload_n X dJ1_indexOf_4cfef_0 rfl 1 rfl ?_
  refine j_callSi (As := [.int p1]) X (c_J1_canEncode_9a6ad l w G  p1) pn_J1_canEncode_9a6ad q_368 q_369 q_70 q_370 ⟨Nat.le_of_ble_eq_true rfl, Nat.le_of_ble_eq_true rfl⟩ (Nat.le_of_ble_eq_true rfl) rfl dJ1_indexOf_4cfef_1 ?_
  refine j_if_ne X 9 dJ1_indexOf_4cfef_4 (by decide) (fun c_1 => ?_) (fun c_1 => ?_)
  · have h := bi_f c_1 h
    refine j_iload_n X dJ1_indexOf_4cfef_9 rfl 2 rfl ?_
    refine j_iconst (v := 0) X dJ1_indexOf_4cfef_10 (by decide) ?_
    refine j_mmax X q_371 q_372 q_71 q_373 (Nat.le_of_ble_eq_true rfl) (Nat.le_of_ble_eq_true rfl) dJ1_indexOf_4cfef_11 ?_
    refine j_istore_n X [(2, .int (if p2 < 0 then 0 else p2)), (0, .ref (w.2.2.2.2.2 si)), (1, .int p1), (3, .int p3)] dJ1_indexOf_4cfef_14 rfl (by decide) rfl ?_
    refine j_iload_n X dJ1_indexOf_4cfef_15 rfl 3 rfl ?_
    refine j_aload_n X dJ1_indexOf_4cfef_16 rfl 1 rfl ?_
    refine j_blen X si ho_si dJ1_indexOf_4cfef_17 ?_
    refine j_mmin X q_374 q_375 q_71 q_376 (Nat.le_of_ble_eq_true rfl) (Nat.le_of_ble_eq_true rfl) dJ1_indexOf_4cfef_18 ?_
    refine j_istore_n X [(3, .int (if (blen si) < p3 then (blen si) else p3)), (2, .int (if p2 < 0 then 0 else p2)), (0, .ref (w.2.2.2.2.2 si)), (1, .int p1)] dJ1_indexOf_4cfef_21 rfl (by decide) rfl ?_
    refine j_iload_n X dJ1_indexOf_4cfef_22 rfl 1 rfl ?_
    refine j_iload_n X dJ1_indexOf_4cfef_23 rfl 0 rfl ?_
    refine j_icmp_lt X 29 dJ1_indexOf_4cfef_24 (by decide) (fun c_2 => ?_) (fun c_2 => ?_)
    · have h := bi_t c_2 h
      refine j_aload_n X dJ1_indexOf_4cfef_29 rfl 2 rfl ?_
      refine j_iload_n X dJ1_indexOf_4cfef_30 rfl 3 rfl ?_
      refine j_iload_n X dJ1_indexOf_4cfef_31 rfl 1 rfl ?_
      refine j_iload_n X dJ1_indexOf_4cfef_32 rfl 0 rfl ?_
      obtain ⟨r_3, hr_3, h⟩ := bd_s h
      refine j_callSi (As := [.ref (w.2.2.2.2.2 si), .int p1, .int (if p2 < 0 then 0 else p2), .int (if (blen si) < p3 then (blen si) else p3)]) X (c_J1_indexOfChar_4cfef l w G si ho_si p1 (if p2 < 0 then 0 else p2) (if (blen si) < p3 then (blen si) else p3) hr_3) pn_J1_indexOfChar_4cfef q_377 q_378 q_70 q_379 ⟨Nat.le_of_ble_eq_true rfl, Nat.le_of_ble_eq_true rfl⟩ (Nat.le_of_ble_eq_true rfl) rfl dJ1_indexOf_4cfef_33 ?_
      exact j_iret X hr hk dJ1_indexOf_4cfef_36 (congrArg (fun z => (z, G)) (Option.some.inj h))
    · have h := bi_f c_2 h
      refine j_iconst (v := (-1)) X dJ1_indexOf_4cfef_27 (by decide) ?_
      exact j_iret X hr hk dJ1_indexOf_4cfef_28 (congrArg (fun z => (z, G)) (Option.some.inj h))
  · have h := bi_t c_1 h
    refine j_iconst (v := (-1)) X dJ1_indexOf_4cfef_7 (by decide) ?_
    exact j_iret X hr hk dJ1_indexOf_4cfef_8 (congrArg (fun z => (z, G)) (Option.some.inj h))
abbrev rm_J0_indexOf_7cf53 : Room := { frames := 2, cells := 0, slots := 0, locals := 48 }
theorem pn_J0_indexOf_7cf53 : yJ0_indexOf_7cf53.cls ≠ "java/lang/invoke/MethodHandle" ∧ yJ0_indexOf_7cf53.cls ≠ "java/lang/invoke/VarHandle" ∧ (parseMethodDescriptor yJ0_indexOf_7cf53.desc).map (fun d => d.parameters.length) = some 2 := by decide +kernel
def m_J0_indexOf_7cf53 (si : Nat) (p1 : Int32) (p2 : Int32) : Option (Int32) := (m_J1_indexOf_4cfef si p1 p2 (m_J0_length_8abf5 si)).bind (fun r_2 => some r_2)
set_option maxRecDepth 100000 in
set_option maxHeartbeats 4000000 in
theorem c_J0_indexOf_7cf53 (l : Launch) (w : WP) (G : Mem) (si : Nat) (ho_si : si < 3) (p1 : Int32) (p2 : Int32) {res : Int32} (h0 : m_J0_indexOf_7cf53 si p1 p2 = some res) : CMi l yJ0_indexOf_7cf53 cJ0_indexOf_7cf53 3 (some .int) 2 48 w [.ref (w.2.2.2.2.1 si), .int p1, .int p2] G (res, G) := by
  refine CMi.of (by decide +kernel) (Nat.le_of_ble_eq_true rfl) ?_
  intro p e s m args below meth c X hr hk
  have h := bs_i h0
  unfold m_J0_indexOf_7cf53 at h
  show J p l e rm_J0_indexOf_7cf53 s m args below meth c (Qint below args s w (res, G)) w 3 G 0 [(0, .ref (w.2.2.2.2.1 si)), (1, .int p1), (2, .int p2)] []
  refine j_aload_n X dJ0_indexOf_7cf53_0 rfl 0 rfl ?_
  refine j_callTi (r := 1) (As := []) X si ho_si (c_J0_isLatin1_aae02 l w G si ho_si ) rfl pn_J0_isLatin1_aae02 q_351 q_352 q_353 q_69 q_354 ⟨Nat.le_of_ble_eq_true rfl, Nat.le_of_ble_eq_true rfl⟩ (Nat.le_of_ble_eq_true rfl) rfl dJ0_indexOf_7cf53_1 ?_
  refine j_if_eq X 23 dJ0_indexOf_7cf53_4 (by decide) (fun c_1 => absurd c_1 (by decide)) (fun _ => ?_)
  refine j_aload_n X dJ0_indexOf_7cf53_7 rfl 0 rfl ?_
  refine j_sgetV X si ho_si q_1147 dJ0_indexOf_7cf53_8 ?_
  refine j_iload_n X dJ0_indexOf_7cf53_11 rfl 1 rfl ?_
  refine j_iload_n X dJ0_indexOf_7cf53_12 rfl 2 rfl ?_
  refine j_aload_n X dJ0_indexOf_7cf53_13 rfl 0 rfl ?_
  refine j_callTi (As := []) X si ho_si (c_J0_length_8abf5 l w G si ho_si ) rfl pn_J0_length_8abf5 q_357 q_358 q_359 q_69 q_360 ⟨Nat.le_of_ble_eq_true rfl, Nat.le_of_ble_eq_true rfl⟩ (Nat.le_of_ble_eq_true rfl) rfl dJ0_indexOf_7cf53_14 ?_
  obtain ⟨r_2, hr_2, h⟩ := bd_s h
  refine j_callSi (As := [.ref (w.2.2.2.2.2 si), .int p1, .int p2, .int (m_J0_length_8abf5 si)]) X (c_J1_indexOf_4cfef l w G si ho_si p1 p2 (m_J0_length_8abf5 si) hr_2) pn_J1_indexOf_4cfef q_365 q_366 q_70 q_367 ⟨Nat.le_of_ble_eq_true rfl, Nat.le_of_ble_eq_true rfl⟩ (Nat.le_of_ble_eq_true rfl) rfl dJ0_indexOf_7cf53_17 ?_
  refine j_goto X 36 dJ0_indexOf_7cf53_20 (by decide) ?_
  exact j_iret X hr hk dJ0_indexOf_7cf53_36 (congrArg (fun z => (z, G)) (Option.some.inj h))
abbrev rm_J0_indexOf_0f7a4 : Room := { frames := 3, cells := 0, slots := 0, locals := 70 }
theorem pn_J0_indexOf_0f7a4 : yJ0_indexOf_0f7a4.cls ≠ "java/lang/invoke/MethodHandle" ∧ yJ0_indexOf_0f7a4.cls ≠ "java/lang/invoke/VarHandle" ∧ (parseMethodDescriptor yJ0_indexOf_0f7a4.desc).map (fun d => d.parameters.length) = some 1 := by decide +kernel
def m_J0_indexOf_0f7a4 (si : Nat) (p1 : Int32) : Option (Int32) := (m_J0_indexOf_7cf53 si p1 0).bind (fun r_1 => some r_1)
set_option maxRecDepth 100000 in
set_option maxHeartbeats 4000000 in
theorem c_J0_indexOf_0f7a4 (l : Launch) (w : WP) (G : Mem) (si : Nat) (ho_si : si < 3) (p1 : Int32) {res : Int32} (h0 : m_J0_indexOf_0f7a4 si p1 = some res) : CMi l yJ0_indexOf_0f7a4 cJ0_indexOf_0f7a4 2 (some .int) 3 70 w [.ref (w.2.2.2.2.1 si), .int p1] G (res, G) := by
  refine CMi.of (by decide +kernel) (Nat.le_of_ble_eq_true rfl) ?_
  intro p e s m args below meth c X hr hk
  have h := bs_i h0
  unfold m_J0_indexOf_0f7a4 at h
  show J p l e rm_J0_indexOf_0f7a4 s m args below meth c (Qint below args s w (res, G)) w 2 G 0 [(0, .ref (w.2.2.2.2.1 si)), (1, .int p1)] []
  refine j_aload_n X dJ0_indexOf_0f7a4_0 rfl 0 rfl ?_
  refine j_iload_n X dJ0_indexOf_0f7a4_1 rfl 1 rfl ?_
  refine j_iconst (v := 0) X dJ0_indexOf_0f7a4_2 (by decide) ?_
  obtain ⟨r_1, hr_1, h⟩ := bd_s h
  refine j_callTi (As := [.int p1, .int 0]) X si ho_si (c_J0_indexOf_7cf53 l w G si ho_si p1 0 hr_1) rfl pn_J0_indexOf_7cf53 q_347 q_348 q_349 q_69 q_350 ⟨Nat.le_of_ble_eq_true rfl, Nat.le_of_ble_eq_true rfl⟩ (Nat.le_of_ble_eq_true rfl) rfl dJ0_indexOf_0f7a4_3 ?_
  exact j_iret X hr hk dJ0_indexOf_0f7a4_6 (congrArg (fun z => (z, G)) (Option.some.inj h))
abbrev rm_J6_bitCount_0f7a4 : Room := { frames := 0, cells := 0, slots := 0, locals := 0 }
theorem pn_J6_bitCount_0f7a4 : yJ6_bitCount_0f7a4.cls ≠ "java/lang/invoke/MethodHandle" ∧ yJ6_bitCount_0f7a4.cls ≠ "java/lang/invoke/VarHandle" ∧ (parseMethodDescriptor yJ6_bitCount_0f7a4.desc).map (fun d => d.parameters.length) = some 1 := by decide +kernel
def m_J6_bitCount_0f7a4 (p1 : Int32) : Int32 := (((((((p1 - (((p1.toUInt32 >>> ((1 : Int32).toUInt32 &&& Int32.toUInt32 31)).toInt32) &&& 1431655765)) &&& 858993459) + ((((p1 - (((p1.toUInt32 >>> ((1 : Int32).toUInt32 &&& Int32.toUInt32 31)).toInt32) &&& 1431655765)).toUInt32 >>> ((2 : Int32).toUInt32 &&& Int32.toUInt32 31)).toInt32) &&& 858993459)) + (((((p1 - (((p1.toUInt32 >>> ((1 : Int32).toUInt32 &&& Int32.toUInt32 31)).toInt32) &&& 1431655765)) &&& 858993459) + ((((p1 - (((p1.toUInt32 >>> ((1 : Int32).toUInt32 &&& Int32.toUInt32 31)).toInt32) &&& 1431655765)).toUInt32 >>> ((2 : Int32).toUInt32 &&& Int32.toUInt32 31)).toInt32) &&& 858993459)).toUInt32 >>> ((4 : Int32).toUInt32 &&& Int32.toUInt32 31)).toInt32)) &&& 252645135) + (((((((p1 - (((p1.toUInt32 >>> ((1 : Int32).toUInt32 &&& Int32.toUInt32 31)).toInt32) &&& 1431655765)) &&& 858993459) + ((((p1 - (((p1.toUInt32 >>> ((1 : Int32).toUInt32 &&& Int32.toUInt32 31)).toInt32) &&& 1431655765)).toUInt32 >>> ((2 : Int32).toUInt32 &&& Int32.toUInt32 31)).toInt32) &&& 858993459)) + (((((p1 - (((p1.toUInt32 >>> ((1 : Int32).toUInt32 &&& Int32.toUInt32 31)).toInt32) &&& 1431655765)) &&& 858993459) + ((((p1 - (((p1.toUInt32 >>> ((1 : Int32).toUInt32 &&& Int32.toUInt32 31)).toInt32) &&& 1431655765)).toUInt32 >>> ((2 : Int32).toUInt32 &&& Int32.toUInt32 31)).toInt32) &&& 858993459)).toUInt32 >>> ((4 : Int32).toUInt32 &&& Int32.toUInt32 31)).toInt32)) &&& 252645135).toUInt32 >>> ((8 : Int32).toUInt32 &&& Int32.toUInt32 31)).toInt32)) + ((((((((p1 - (((p1.toUInt32 >>> ((1 : Int32).toUInt32 &&& Int32.toUInt32 31)).toInt32) &&& 1431655765)) &&& 858993459) + ((((p1 - (((p1.toUInt32 >>> ((1 : Int32).toUInt32 &&& Int32.toUInt32 31)).toInt32) &&& 1431655765)).toUInt32 >>> ((2 : Int32).toUInt32 &&& Int32.toUInt32 31)).toInt32) &&& 858993459)) + (((((p1 - (((p1.toUInt32 >>> ((1 : Int32).toUInt32 &&& Int32.toUInt32 31)).toInt32) &&& 1431655765)) &&& 858993459) + ((((p1 - (((p1.toUInt32 >>> ((1 : Int32).toUInt32 &&& Int32.toUInt32 31)).toInt32) &&& 1431655765)).toUInt32 >>> ((2 : Int32).toUInt32 &&& Int32.toUInt32 31)).toInt32) &&& 858993459)).toUInt32 >>> ((4 : Int32).toUInt32 &&& Int32.toUInt32 31)).toInt32)) &&& 252645135) + (((((((p1 - (((p1.toUInt32 >>> ((1 : Int32).toUInt32 &&& Int32.toUInt32 31)).toInt32) &&& 1431655765)) &&& 858993459) + ((((p1 - (((p1.toUInt32 >>> ((1 : Int32).toUInt32 &&& Int32.toUInt32 31)).toInt32) &&& 1431655765)).toUInt32 >>> ((2 : Int32).toUInt32 &&& Int32.toUInt32 31)).toInt32) &&& 858993459)) + (((((p1 - (((p1.toUInt32 >>> ((1 : Int32).toUInt32 &&& Int32.toUInt32 31)).toInt32) &&& 1431655765)) &&& 858993459) + ((((p1 - (((p1.toUInt32 >>> ((1 : Int32).toUInt32 &&& Int32.toUInt32 31)).toInt32) &&& 1431655765)).toUInt32 >>> ((2 : Int32).toUInt32 &&& Int32.toUInt32 31)).toInt32) &&& 858993459)).toUInt32 >>> ((4 : Int32).toUInt32 &&& Int32.toUInt32 31)).toInt32)) &&& 252645135).toUInt32 >>> ((8 : Int32).toUInt32 &&& Int32.toUInt32 31)).toInt32)).toUInt32 >>> ((16 : Int32).toUInt32 &&& Int32.toUInt32 31)).toInt32)) &&& 63
set_option maxRecDepth 100000 in
set_option maxHeartbeats 4000000 in
theorem c_J6_bitCount_0f7a4 (l : Launch) (w : WP) (G : Mem) (p1 : Int32) : CMi l yJ6_bitCount_0f7a4 cJ6_bitCount_0f7a4 1 (some .int) 0 0 w [.int p1] G (m_J6_bitCount_0f7a4 p1, G) := by
  refine CMi.of (by decide +kernel) (Nat.le_of_ble_eq_true rfl) ?_
  intro p e s m args below meth c X hr hk
  obtain ⟨res, h⟩ : ∃ z, m_J6_bitCount_0f7a4 p1 = z := ⟨_, rfl⟩
  rw [h]
  unfold m_J6_bitCount_0f7a4 at h
  show J p l e rm_J6_bitCount_0f7a4 s m args below meth c (Qint below args s w (res, G)) w 1 G 0 [(0, .int p1)] []
  refine j_iload_n X dJ6_bitCount_0f7a4_0 rfl 0 rfl ?_
  refine j_iload_n X dJ6_bitCount_0f7a4_1 rfl 0 rfl ?_
  refine j_iconst (v := 1) X dJ6_bitCount_0f7a4_2 (by decide) ?_
  refine j_iushr (v := (p1.toUInt32 >>> ((1 : Int32).toUInt32 &&& Int32.toUInt32 31)).toInt32) X dJ6_bitCount_0f7a4_3 rfl ?_
  refine j_ldcw X dJ6_bitCount_0f7a4_4 q_696 ?_
  refine j_iand X dJ6_bitCount_0f7a4_7 ?_
  refine j_isub X dJ6_bitCount_0f7a4_8 ?_
  refine j_istore_n X [(0, .int (p1 - (((p1.toUInt32 >>> ((1 : Int32).toUInt32 &&& Int32.toUInt32 31)).toInt32) &&& 1431655765)))] dJ6_bitCount_0f7a4_9 rfl (by decide) rfl ?_
  refine j_iload_n X dJ6_bitCount_0f7a4_10 rfl 0 rfl ?_
  refine j_ldcw X dJ6_bitCount_0f7a4_11 q_697 ?_
  refine j_iand X dJ6_bitCount_0f7a4_14 ?_
  refine j_iload_n X dJ6_bitCount_0f7a4_15 rfl 0 rfl ?_
  refine j_iconst (v := 2) X dJ6_bitCount_0f7a4_16 (by decide) ?_
  refine j_iushr (v := ((p1 - (((p1.toUInt32 >>> ((1 : Int32).toUInt32 &&& Int32.toUInt32 31)).toInt32) &&& 1431655765)).toUInt32 >>> ((2 : Int32).toUInt32 &&& Int32.toUInt32 31)).toInt32) X dJ6_bitCount_0f7a4_17 rfl ?_
  refine j_ldcw X dJ6_bitCount_0f7a4_18 q_697 ?_
  refine j_iand X dJ6_bitCount_0f7a4_21 ?_
  refine j_iadd X dJ6_bitCount_0f7a4_22 ?_
  refine j_istore_n X [(0, .int (((p1 - (((p1.toUInt32 >>> ((1 : Int32).toUInt32 &&& Int32.toUInt32 31)).toInt32) &&& 1431655765)) &&& 858993459) + ((((p1 - (((p1.toUInt32 >>> ((1 : Int32).toUInt32 &&& Int32.toUInt32 31)).toInt32) &&& 1431655765)).toUInt32 >>> ((2 : Int32).toUInt32 &&& Int32.toUInt32 31)).toInt32) &&& 858993459)))] dJ6_bitCount_0f7a4_23 rfl (by decide) rfl ?_
  refine j_iload_n X dJ6_bitCount_0f7a4_24 rfl 0 rfl ?_
  refine j_iload_n X dJ6_bitCount_0f7a4_25 rfl 0 rfl ?_
  refine j_iconst (v := 4) X dJ6_bitCount_0f7a4_26 (by decide) ?_
  refine j_iushr (v := ((((p1 - (((p1.toUInt32 >>> ((1 : Int32).toUInt32 &&& Int32.toUInt32 31)).toInt32) &&& 1431655765)) &&& 858993459) + ((((p1 - (((p1.toUInt32 >>> ((1 : Int32).toUInt32 &&& Int32.toUInt32 31)).toInt32) &&& 1431655765)).toUInt32 >>> ((2 : Int32).toUInt32 &&& Int32.toUInt32 31)).toInt32) &&& 858993459)).toUInt32 >>> ((4 : Int32).toUInt32 &&& Int32.toUInt32 31)).toInt32) X dJ6_bitCount_0f7a4_27 rfl ?_
  refine j_iadd X dJ6_bitCount_0f7a4_28 ?_
  refine j_ldcw X dJ6_bitCount_0f7a4_29 q_698 ?_
  refine j_iand X dJ6_bitCount_0f7a4_32 ?_
  refine j_istore_n X [(0, .int (((((p1 - (((p1.toUInt32 >>> ((1 : Int32).toUInt32 &&& Int32.toUInt32 31)).toInt32) &&& 1431655765)) &&& 858993459) + ((((p1 - (((p1.toUInt32 >>> ((1 : Int32).toUInt32 &&& Int32.toUInt32 31)).toInt32) &&& 1431655765)).toUInt32 >>> ((2 : Int32).toUInt32 &&& Int32.toUInt32 31)).toInt32) &&& 858993459)) + (((((p1 - (((p1.toUInt32 >>> ((1 : Int32).toUInt32 &&& Int32.toUInt32 31)).toInt32) &&& 1431655765)) &&& 858993459) + ((((p1 - (((p1.toUInt32 >>> ((1 : Int32).toUInt32 &&& Int32.toUInt32 31)).toInt32) &&& 1431655765)).toUInt32 >>> ((2 : Int32).toUInt32 &&& Int32.toUInt32 31)).toInt32) &&& 858993459)).toUInt32 >>> ((4 : Int32).toUInt32 &&& Int32.toUInt32 31)).toInt32)) &&& 252645135))] dJ6_bitCount_0f7a4_33 rfl (by decide) rfl ?_
  refine j_iload_n X dJ6_bitCount_0f7a4_34 rfl 0 rfl ?_
  refine j_iload_n X dJ6_bitCount_0f7a4_35 rfl 0 rfl ?_
  refine j_bipush (v := 8) X dJ6_bitCount_0f7a4_36 (by decide) ?_
  refine j_iushr (v := ((((((p1 - (((p1.toUInt32 >>> ((1 : Int32).toUInt32 &&& Int32.toUInt32 31)).toInt32) &&& 1431655765)) &&& 858993459) + ((((p1 - (((p1.toUInt32 >>> ((1 : Int32).toUInt32 &&& Int32.toUInt32 31)).toInt32) &&& 1431655765)).toUInt32 >>> ((2 : Int32).toUInt32 &&& Int32.toUInt32 31)).toInt32) &&& 858993459)) + (((((p1 - (((p1.toUInt32 >>> ((1 : Int32).toUInt32 &&& Int32.toUInt32 31)).toInt32) &&& 1431655765)) &&& 858993459) + ((((p1 - (((p1.toUInt32 >>> ((1 : Int32).toUInt32 &&& Int32.toUInt32 31)).toInt32) &&& 1431655765)).toUInt32 >>> ((2 : Int32).toUInt32 &&& Int32.toUInt32 31)).toInt32) &&& 858993459)).toUInt32 >>> ((4 : Int32).toUInt32 &&& Int32.toUInt32 31)).toInt32)) &&& 252645135).toUInt32 >>> ((8 : Int32).toUInt32 &&& Int32.toUInt32 31)).toInt32) X dJ6_bitCount_0f7a4_38 rfl ?_
  refine j_iadd X dJ6_bitCount_0f7a4_39 ?_
  refine j_istore_n X [(0, .int ((((((p1 - (((p1.toUInt32 >>> ((1 : Int32).toUInt32 &&& Int32.toUInt32 31)).toInt32) &&& 1431655765)) &&& 858993459) + ((((p1 - (((p1.toUInt32 >>> ((1 : Int32).toUInt32 &&& Int32.toUInt32 31)).toInt32) &&& 1431655765)).toUInt32 >>> ((2 : Int32).toUInt32 &&& Int32.toUInt32 31)).toInt32) &&& 858993459)) + (((((p1 - (((p1.toUInt32 >>> ((1 : Int32).toUInt32 &&& Int32.toUInt32 31)).toInt32) &&& 1431655765)) &&& 858993459) + ((((p1 - (((p1.toUInt32 >>> ((1 : Int32).toUInt32 &&& Int32.toUInt32 31)).toInt32) &&& 1431655765)).toUInt32 >>> ((2 : Int32).toUInt32 &&& Int32.toUInt32 31)).toInt32) &&& 858993459)).toUInt32 >>> ((4 : Int32).toUInt32 &&& Int32.toUInt32 31)).toInt32)) &&& 252645135) + (((((((p1 - (((p1.toUInt32 >>> ((1 : Int32).toUInt32 &&& Int32.toUInt32 31)).toInt32) &&& 1431655765)) &&& 858993459) + ((((p1 - (((p1.toUInt32 >>> ((1 : Int32).toUInt32 &&& Int32.toUInt32 31)).toInt32) &&& 1431655765)).toUInt32 >>> ((2 : Int32).toUInt32 &&& Int32.toUInt32 31)).toInt32) &&& 858993459)) + (((((p1 - (((p1.toUInt32 >>> ((1 : Int32).toUInt32 &&& Int32.toUInt32 31)).toInt32) &&& 1431655765)) &&& 858993459) + ((((p1 - (((p1.toUInt32 >>> ((1 : Int32).toUInt32 &&& Int32.toUInt32 31)).toInt32) &&& 1431655765)).toUInt32 >>> ((2 : Int32).toUInt32 &&& Int32.toUInt32 31)).toInt32) &&& 858993459)).toUInt32 >>> ((4 : Int32).toUInt32 &&& Int32.toUInt32 31)).toInt32)) &&& 252645135).toUInt32 >>> ((8 : Int32).toUInt32 &&& Int32.toUInt32 31)).toInt32)))] dJ6_bitCount_0f7a4_40 rfl (by decide) rfl ?_
  refine j_iload_n X dJ6_bitCount_0f7a4_41 rfl 0 rfl ?_
  refine j_iload_n X dJ6_bitCount_0f7a4_42 rfl 0 rfl ?_
  refine j_bipush (v := 16) X dJ6_bitCount_0f7a4_43 (by decide) ?_
  refine j_iushr (v := (((((((p1 - (((p1.toUInt32 >>> ((1 : Int32).toUInt32 &&& Int32.toUInt32 31)).toInt32) &&& 1431655765)) &&& 858993459) + ((((p1 - (((p1.toUInt32 >>> ((1 : Int32).toUInt32 &&& Int32.toUInt32 31)).toInt32) &&& 1431655765)).toUInt32 >>> ((2 : Int32).toUInt32 &&& Int32.toUInt32 31)).toInt32) &&& 858993459)) + (((((p1 - (((p1.toUInt32 >>> ((1 : Int32).toUInt32 &&& Int32.toUInt32 31)).toInt32) &&& 1431655765)) &&& 858993459) + ((((p1 - (((p1.toUInt32 >>> ((1 : Int32).toUInt32 &&& Int32.toUInt32 31)).toInt32) &&& 1431655765)).toUInt32 >>> ((2 : Int32).toUInt32 &&& Int32.toUInt32 31)).toInt32) &&& 858993459)).toUInt32 >>> ((4 : Int32).toUInt32 &&& Int32.toUInt32 31)).toInt32)) &&& 252645135) + (((((((p1 - (((p1.toUInt32 >>> ((1 : Int32).toUInt32 &&& Int32.toUInt32 31)).toInt32) &&& 1431655765)) &&& 858993459) + ((((p1 - (((p1.toUInt32 >>> ((1 : Int32).toUInt32 &&& Int32.toUInt32 31)).toInt32) &&& 1431655765)).toUInt32 >>> ((2 : Int32).toUInt32 &&& Int32.toUInt32 31)).toInt32) &&& 858993459)) + (((((p1 - (((p1.toUInt32 >>> ((1 : Int32).toUInt32 &&& Int32.toUInt32 31)).toInt32) &&& 1431655765)) &&& 858993459) + ((((p1 - (((p1.toUInt32 >>> ((1 : Int32).toUInt32 &&& Int32.toUInt32 31)).toInt32) &&& 1431655765)).toUInt32 >>> ((2 : Int32).toUInt32 &&& Int32.toUInt32 31)).toInt32) &&& 858993459)).toUInt32 >>> ((4 : Int32).toUInt32 &&& Int32.toUInt32 31)).toInt32)) &&& 252645135).toUInt32 >>> ((8 : Int32).toUInt32 &&& Int32.toUInt32 31)).toInt32)).toUInt32 >>> ((16 : Int32).toUInt32 &&& Int32.toUInt32 31)).toInt32) X dJ6_bitCount_0f7a4_45 rfl ?_
  refine j_iadd X dJ6_bitCount_0f7a4_46 ?_
  refine j_istore_n X [(0, .int (((((((p1 - (((p1.toUInt32 >>> ((1 : Int32).toUInt32 &&& Int32.toUInt32 31)).toInt32) &&& 1431655765)) &&& 858993459) + ((((p1 - (((p1.toUInt32 >>> ((1 : Int32).toUInt32 &&& Int32.toUInt32 31)).toInt32) &&& 1431655765)).toUInt32 >>> ((2 : Int32).toUInt32 &&& Int32.toUInt32 31)).toInt32) &&& 858993459)) + (((((p1 - (((p1.toUInt32 >>> ((1 : Int32).toUInt32 &&& Int32.toUInt32 31)).toInt32) &&& 1431655765)) &&& 858993459) + ((((p1 - (((p1.toUInt32 >>> ((1 : Int32).toUInt32 &&& Int32.toUInt32 31)).toInt32) &&& 1431655765)).toUInt32 >>> ((2 : Int32).toUInt32 &&& Int32.toUInt32 31)).toInt32) &&& 858993459)).toUInt32 >>> ((4 : Int32).toUInt32 &&& Int32.toUInt32 31)).toInt32)) &&& 252645135) + (((((((p1 - (((p1.toUInt32 >>> ((1 : Int32).toUInt32 &&& Int32.toUInt32 31)).toInt32) &&& 1431655765)) &&& 858993459) + ((((p1 - (((p1.toUInt32 >>> ((1 : Int32).toUInt32 &&& Int32.toUInt32 31)).toInt32) &&& 1431655765)).toUInt32 >>> ((2 : Int32).toUInt32 &&& Int32.toUInt32 31)).toInt32) &&& 858993459)) + (((((p1 - (((p1.toUInt32 >>> ((1 : Int32).toUInt32 &&& Int32.toUInt32 31)).toInt32) &&& 1431655765)) &&& 858993459) + ((((p1 - (((p1.toUInt32 >>> ((1 : Int32).toUInt32 &&& Int32.toUInt32 31)).toInt32) &&& 1431655765)).toUInt32 >>> ((2 : Int32).toUInt32 &&& Int32.toUInt32 31)).toInt32) &&& 858993459)).toUInt32 >>> ((4 : Int32).toUInt32 &&& Int32.toUInt32 31)).toInt32)) &&& 252645135).toUInt32 >>> ((8 : Int32).toUInt32 &&& Int32.toUInt32 31)).toInt32)) + ((((((((p1 - (((p1.toUInt32 >>> ((1 : Int32).toUInt32 &&& Int32.toUInt32 31)).toInt32) &&& 1431655765)) &&& 858993459) + ((((p1 - (((p1.toUInt32 >>> ((1 : Int32).toUInt32 &&& Int32.toUInt32 31)).toInt32) &&& 1431655765)).toUInt32 >>> ((2 : Int32).toUInt32 &&& Int32.toUInt32 31)).toInt32) &&& 858993459)) + (((((p1 - (((p1.toUInt32 >>> ((1 : Int32).toUInt32 &&& Int32.toUInt32 31)).toInt32) &&& 1431655765)) &&& 858993459) + ((((p1 - (((p1.toUInt32 >>> ((1 : Int32).toUInt32 &&& Int32.toUInt32 31)).toInt32) &&& 1431655765)).toUInt32 >>> ((2 : Int32).toUInt32 &&& Int32.toUInt32 31)).toInt32) &&& 858993459)).toUInt32 >>> ((4 : Int32).toUInt32 &&& Int32.toUInt32 31)).toInt32)) &&& 252645135) + (((((((p1 - (((p1.toUInt32 >>> ((1 : Int32).toUInt32 &&& Int32.toUInt32 31)).toInt32) &&& 1431655765)) &&& 858993459) + ((((p1 - (((p1.toUInt32 >>> ((1 : Int32).toUInt32 &&& Int32.toUInt32 31)).toInt32) &&& 1431655765)).toUInt32 >>> ((2 : Int32).toUInt32 &&& Int32.toUInt32 31)).toInt32) &&& 858993459)) + (((((p1 - (((p1.toUInt32 >>> ((1 : Int32).toUInt32 &&& Int32.toUInt32 31)).toInt32) &&& 1431655765)) &&& 858993459) + ((((p1 - (((p1.toUInt32 >>> ((1 : Int32).toUInt32 &&& Int32.toUInt32 31)).toInt32) &&& 1431655765)).toUInt32 >>> ((2 : Int32).toUInt32 &&& Int32.toUInt32 31)).toInt32) &&& 858993459)).toUInt32 >>> ((4 : Int32).toUInt32 &&& Int32.toUInt32 31)).toInt32)) &&& 252645135).toUInt32 >>> ((8 : Int32).toUInt32 &&& Int32.toUInt32 31)).toInt32)).toUInt32 >>> ((16 : Int32).toUInt32 &&& Int32.toUInt32 31)).toInt32)))] dJ6_bitCount_0f7a4_47 rfl (by decide) rfl ?_
  refine j_iload_n X dJ6_bitCount_0f7a4_48 rfl 0 rfl ?_
  refine j_bipush (v := 63) X dJ6_bitCount_0f7a4_49 (by decide) ?_
  refine j_iand X dJ6_bitCount_0f7a4_51 ?_
  exact j_iret X hr hk dJ6_bitCount_0f7a4_52 (congrArg (fun z => (z, G)) (h))
abbrev rm_X8_has : Room := { frames := 0, cells := 0, slots := 0, locals := 0 }
theorem pn_X8_has : yX8_has.cls ≠ "java/lang/invoke/MethodHandle" ∧ yX8_has.cls ≠ "java/lang/invoke/VarHandle" ∧ (parseMethodDescriptor yX8_has.desc).map (fun d => d.parameters.length) = some 2 := by decide +kernel
def m_X8_has (p1 : Int32) (p2 : Int32) : Int32 := (if ((p1 >>> (p2 &&& 31)) &&& 1) = 1 then 1 else 0)
set_option maxRecDepth 100000 in
set_option maxHeartbeats 4000000 in
theorem c_X8_has (l : Launch) (w : WP) (G : Mem) (p1 : Int32) (p2 : Int32) : CMi l yX8_has cX8_has 2 (some .boolean) 0 0 w [.int p1, .int p2] G (m_X8_has p1 p2, G) := by
  refine CMi.of (by decide +kernel) (Nat.le_of_ble_eq_true rfl) ?_
  intro p e s m args below meth c X hr hk
  obtain ⟨res, h⟩ : ∃ z, m_X8_has p1 p2 = z := ⟨_, rfl⟩
  rw [h]
  unfold m_X8_has at h
  show J p l e rm_X8_has s m args below meth c (Qint below args s w (res, G)) w 2 G 0 [(0, .int p1), (1, .int p2)] []
  refine j_iload_n X dX8_has_0 rfl 0 rfl ?_
  refine j_iload_n X dX8_has_1 rfl 1 rfl ?_
  refine j_ishr X dX8_has_2 ?_
  refine j_iconst (v := 1) X dX8_has_3 (by decide) ?_
  refine j_iand X dX8_has_4 ?_
  refine j_iconst (v := 1) X dX8_has_5 (by decide) ?_
  refine j_icmp_ne X 13 dX8_has_6 (by decide) (fun c_1 => ?_) (fun c_1 => ?_)
  · have h := pi_f c_1 h
    refine j_iconst (v := 0) X dX8_has_13 (by decide) ?_
    exact j_zret X hr hk (by decide) dX8_has_14 (congrArg (fun z => (z, G)) (h))
  · have h := pi_t c_1 h
    refine j_iconst (v := 1) X dX8_has_9 (by decide) ?_
    refine j_goto X 14 dX8_has_10 (by decide) ?_
    exact j_zret X hr hk (by decide) dX8_has_14 (congrArg (fun z => (z, G)) (h))
abbrev rm_X0_isKept : Room := { frames := 1, cells := 0, slots := 0, locals := 21 }
theorem pn_X0_isKept : yX0_isKept.cls ≠ "java/lang/invoke/MethodHandle" ∧ yX0_isKept.cls ≠ "java/lang/invoke/VarHandle" ∧ (parseMethodDescriptor yX0_isKept.desc).map (fun d => d.parameters.length) = some 1 := by decide +kernel
def m_X0_isKept (G : Mem) (p1 : Int32) : Int32 := (m_X8_has (G 19 1) p1) &&& 1
set_option maxRecDepth 100000 in
set_option maxHeartbeats 4000000 in
theorem c_X0_isKept (l : Launch) (w : WP) (G : Mem) (p1 : Int32) : CMi l yX0_isKept cX0_isKept 2 (some .boolean) 1 21 w [.ref (w.1 19), .int p1] G (m_X0_isKept G p1, G) := by
  refine CMi.of (by decide +kernel) (Nat.le_of_ble_eq_true rfl) ?_
  intro p e s m args below meth c X hr hk
  obtain ⟨res, h⟩ : ∃ z, m_X0_isKept G p1 = z := ⟨_, rfl⟩
  rw [h]
  unfold m_X0_isKept at h
  show J p l e rm_X0_isKept s m args below meth c (Qint below args s w (res, G)) w 2 G 0 [(0, .ref (w.1 19)), (1, .int p1)] []
  refine j_aload_n X dX0_isKept_0 rfl 0 rfl ?_
  refine j_getI (C := RX0) (T := TX0) (N := 2) X 19 s_19 rfl hin_X0 1 (by decide) rfl q_152 dX0_isKept_1 ?_
  refine j_iload_n X dX0_isKept_4 rfl 1 rfl ?_
  refine j_callNi (As := [.int (G 19 1), .int p1]) X (c_X8_has l w G  (G 19 1) p1) pn_X8_has nm_7 q_620 q_59 q_621 ⟨Nat.le_of_ble_eq_true rfl, Nat.le_of_ble_eq_true rfl⟩ (Nat.le_of_ble_eq_true rfl) rfl dX0_isKept_5 ?_
  exact j_zret X hr hk rfl dX0_isKept_8 (congrArg (fun z => (z, G)) (h))
abbrev rm_X0_lose : Room := { frames := 0, cells := 0, slots := 0, locals := 0 }
theorem pn_X0_lose : yX0_lose.cls ≠ "java/lang/invoke/MethodHandle" ∧ yX0_lose.cls ≠ "java/lang/invoke/VarHandle" ∧ (parseMethodDescriptor yX0_lose.desc).map (fun d => d.parameters.length) = some 0 := by decide +kernel
def m_X0_lose (G : Mem) : Mem := upm G 19 1 0
set_option maxRecDepth 100000 in
set_option maxHeartbeats 4000000 in
theorem c_X0_lose (l : Launch) (w : WP) (G : Mem) : CMv l yX0_lose cX0_lose 1 none 0 0 w [.ref (w.1 19)] G (m_X0_lose G) := by
  refine CMv.of (by decide +kernel) (Nat.le_of_ble_eq_true rfl) ?_
  intro p e s m args below meth c X hr hk
  obtain ⟨res, h⟩ : ∃ z, m_X0_lose G = z := ⟨_, rfl⟩
  rw [h]
  unfold m_X0_lose at h
  show J p l e rm_X0_lose s m args below meth c (Qvoid below args s w res) w 1 G 0 [(0, .ref (w.1 19))] []
  refine j_aload_n X dX0_lose_0 rfl 0 rfl ?_
  refine j_iconst (v := 0) X dX0_lose_1 (by decide) ?_
  refine j_putI (C := RX0) (T := TX0) (N := 2) X tyX0 tyX0_ok nmX0 19 s_19 rfl hin_X0 1 (by decide) rfl q_152 rfl rfl dX0_lose_2 ?_
  exact j_vret X hr hk dX0_lose_5 (h)
abbrev rm_X6_copyRow : Room := { frames := 0, cells := 0, slots := 0, locals := 0 }
theorem pn_X6_copyRow : yX6_copyRow.cls ≠ "java/lang/invoke/MethodHandle" ∧ yX6_copyRow.cls ≠ "java/lang/invoke/VarHandle" ∧ (parseMethodDescriptor yX6_copyRow.desc).map (fun d => d.parameters.length) = some 2 := by decide +kernel
def L_X6_copyRow_2 (a : Nat) (b : Nat) : Nat → Int32 → Mem → Option (Mem)
  | 0, _, _ => none
  | n + 1, x2, G => (if 74 ≤ x2 then some G else (if 74 ≤ x2 then some G else (if 74 ≤ x2 then some G else (ald 74 G a x2).bind (fun r_4 => (ast 74 G b x2 r_4).bind (fun q_5 => L_X6_copyRow_2 a b n (x2 + 1) q_5)))))
def m_X6_copyRow (G : Mem) (a : Nat) (b : Nat) : Option (Mem) := (L_X6_copyRow_2 a b NF 0 G).bind (fun v_6 => some v_6)
set_option maxRecDepth 100000 in
set_option maxHeartbeats 4000000 in
theorem jL_X6_copyRow_2 {p : Program} {l : Launch} {e : Env} {s : State} {m : MethodId} {args : Array Value} {below : List Frame} {meth : Method} {c : Code} {w : WP} (X : fw_X p s m args c cX6_copyRow 3 RX6 w) (hr : meth.sig.returnType = none) (hk : meth.locks = false) (a : Nat) (hs_a : fw_lay[a]? = some (.inr (0, 74, 0))) (b : Nat) (hs_b : fw_lay[b]? = some (.inr (0, 74, 0))) {res : Mem} {K : Mem → Option (Mem)} (HK : ∀ v : Mem, K v = some res → J p l e rm_X6_copyRow s m args below meth c (Qvoid below args s w res) w 3 v 32 [] []) : ∀ (n : Nat) (x2 : Int32) (G : Mem), (L_X6_copyRow_2 a b n x2 G).bind K = some res → J p l e rm_X6_copyRow s m args below meth c (Qvoid below args s w res) w 3 G 2 [(0, .ref (w.1 a)), (1, .ref (w.1 b)), (2, .int x2)] [] := by
  intro n
  induction n with
  | zero =>
    intro x2 G h
    rw [L_X6_copyRow_2] at h
    cases h
  | succ n ih =>
    intro x2 G h
    rw [L_X6_copyRow_2] at h
    refine j_iload_n X dX6_copyRow_2 rfl 2 rfl ?_
    refine j_bipush (v := 74) X dX6_copyRow_3 (by decide) ?_
    refine j_icmp_ge X 32 dX6_copyRow_5 (by decide) (fun c_1 => ?_) (fun c_1 => ?_)
    · have h := bi_t c_1 h
      refine j_pick [] rfl ?_
      exact HK G h
    · have h := bi_f c_1 h
      refine j_iload_n X dX6_copyRow_8 rfl 2 rfl ?_
      refine j_aload_n X dX6_copyRow_9 rfl 0 rfl ?_
      refine j_alenI X a 74 hs_a (show Int32.ofNat 74 = 74 from rfl) dX6_copyRow_10 ?_
      refine j_icmp_ge X 32 dX6_copyRow_11 (by decide) (fun c_2 => ?_) (fun c_2 => ?_)
      · have h := bi_t c_2 h
        refine j_pick [] rfl ?_
        exact HK G h
      · have h := bi_f c_2 h
        refine j_iload_n X dX6_copyRow_14 rfl 2 rfl ?_
        refine j_aload_n X dX6_copyRow_15 rfl 1 rfl ?_
        refine j_alenI X b 74 hs_b (show Int32.ofNat 74 = 74 from rfl) dX6_copyRow_16 ?_
        refine j_icmp_ge X 32 dX6_copyRow_17 (by decide) (fun c_3 => ?_) (fun c_3 => ?_)
        · have h := bi_t c_3 h
          refine j_pick [] rfl ?_
          exact HK G h
        · have h := bi_f c_3 h
          refine j_aload_n X dX6_copyRow_20 rfl 1 rfl ?_
          refine j_iload_n X dX6_copyRow_21 rfl 2 rfl ?_
          refine j_aload_n X dX6_copyRow_22 rfl 0 rfl ?_
          refine j_iload_n X dX6_copyRow_23 rfl 2 rfl ?_
          obtain ⟨r_4, hr_4, h⟩ := bd_s h
          refine j_iald X a 74 hs_a hr_4 dX6_copyRow_24 ?_
          obtain ⟨q_5, hq_5, h⟩ := bd_s h
          refine j_iast X b 74 hs_b hq_5 dX6_copyRow_25 ?_
          refine j_iinc (v := x2 + 1) X [(2, .int (x2 + 1)), (0, .ref (w.1 a)), (1, .ref (w.1 b))] dX6_copyRow_26 2 rfl rfl (by decide) rfl ?_
          refine j_goto X 2 dX6_copyRow_29 (by decide) ?_
          refine j_pick [1, 2, 0] rfl ?_
          exact ih (x2 + 1) q_5 h
set_option maxRecDepth 100000 in
set_option maxHeartbeats 4000000 in
theorem c_X6_copyRow (l : Launch) (w : WP) (G : Mem) (a : Nat) (hs_a : fw_lay[a]? = some (.inr (0, 74, 0))) (b : Nat) (hs_b : fw_lay[b]? = some (.inr (0, 74, 0))) {res : Mem} (h0 : m_X6_copyRow G a b = some res) : CMv l yX6_copyRow cX6_copyRow 3 none 0 0 w [.ref (w.1 a), .ref (w.1 b)] G res := by
  refine CMv.of (by decide +kernel) (Nat.le_of_ble_eq_true rfl) ?_
  intro p e s m args below meth c X hr hk
  have h := bs_i h0
  unfold m_X6_copyRow at h
  show J p l e rm_X6_copyRow s m args below meth c (Qvoid below args s w res) w 3 G 0 [(0, .ref (w.1 a)), (1, .ref (w.1 b))] []
  refine j_iconst (v := 0) X dX6_copyRow_0 (by decide) ?_
  refine j_istore_n X [(2, .int 0), (0, .ref (w.1 a)), (1, .ref (w.1 b))] dX6_copyRow_1 rfl (by decide) rfl ?_
  have h := bb_a h
  have Hv_6 : ∀ v_6 : Mem, (some v_6).bind some = some res → J p l e rm_X6_copyRow s m args below meth c (Qvoid below args s w res) w 3 v_6 32 [] [] := by
    intro v_6 h
    exact j_vret X hr hk dX6_copyRow_32 (Option.some.inj h)
  refine j_pick [1, 2, 0] rfl ?_
  exact jL_X6_copyRow_2 X hr hk a hs_a b hs_b Hv_6 NF 0 G h
abbrev rm_X6_copyFrom : Room := { frames := 1, cells := 0, slots := 0, locals := 22 }
theorem pn_X6_copyFrom : yX6_copyFrom.cls ≠ "java/lang/invoke/MethodHandle" ∧ yX6_copyFrom.cls ≠ "java/lang/invoke/VarHandle" ∧ (parseMethodDescriptor yX6_copyFrom.desc).map (fun d => d.parameters.length) = some 1 := by decide +kernel
def m_X6_copyFrom (G : Mem) (o : Nat) (a : Nat) : Option (Mem) := (m_X6_copyRow G a (o + 1)).bind (fun q_1 => some q_1)
set_option maxRecDepth 100000 in
set_option maxHeartbeats 4000000 in
theorem c_X6_copyFrom (l : Launch) (w : WP) (G : Mem) (o : Nat) (ho_o : o = 1 ∨ o = 3) (a : Nat) (hs_a : fw_lay[a]? = some (.inr (0, 74, 0))) {res : Mem} (h0 : m_X6_copyFrom G o a = some res) : CMv l yX6_copyFrom cX6_copyFrom 2 none 1 22 w [.ref (w.1 o), .ref (w.1 a)] G res := by
  have hs_o : fw_lay[o]? = some (.inl (6, [some (o + 1)])) := by rcases ho_o with rfl | rfl <;> rfl
  have hs_o_1 : fw_lay[o + 1]? = some (.inr (0, 74, 0)) := by rcases ho_o with rfl | rfl <;> rfl
  refine CMv.of (by decide +kernel) (Nat.le_of_ble_eq_true rfl) ?_
  intro p e s m args below meth c X hr hk
  have h := bs_i h0
  unfold m_X6_copyFrom at h
  show J p l e rm_X6_copyFrom s m args below meth c (Qvoid below args s w res) w 2 G 0 [(0, .ref (w.1 o)), (1, .ref (w.1 a))] []
  refine j_aload_n X dX6_copyFrom_0 rfl 1 rfl ?_
  refine j_aload_n X dX6_copyFrom_1 rfl 0 rfl ?_
  refine j_getR (C := RX6) (T := TX6) (N := 1) X o hs_o rfl hin_X6 0 (by decide) (o + 1) rfl q_90 dX6_copyFrom_2 ?_
  obtain ⟨q_1, hq_1, h⟩ := bd_s h
  refine j_callSv (As := [.ref (w.1 a), .ref (w.1 (o + 1))]) X (c_X6_copyRow l w G a hs_a (o + 1) hs_o_1  hq_1) pn_X6_copyRow q_467 q_468 q_60 q_469 ⟨Nat.le_of_ble_eq_true rfl, Nat.le_of_ble_eq_true rfl⟩ (Nat.le_of_ble_eq_true rfl) rfl dX6_copyFrom_5 ?_
  exact j_vret X hr hk dX6_copyFrom_8 (Option.some.inj h)
abbrev rm_X0_restore : Room := { frames := 2, cells := 0, slots := 0, locals := 43 }
theorem pn_X0_restore : yX0_restore.cls ≠ "java/lang/invoke/MethodHandle" ∧ yX0_restore.cls ≠ "java/lang/invoke/VarHandle" ∧ (parseMethodDescriptor yX0_restore.desc).map (fun d => d.parameters.length) = some 2 := by decide +kernel
def m_X0_restore (G : Mem) (p1 : Int32) : Option (Mem) := (if p1 < 0 then some G else (if 2 ≤ p1 then some G else (aal 2 21 p1).bind (fun k_3 => (m_X6_copyFrom G 1 k_3).bind (fun q_4 => some q_4))))
set_option maxRecDepth 100000 in
set_option maxHeartbeats 4000000 in
theorem c_X0_restore (l : Launch) (w : WP) (G : Mem) (p1 : Int32) {res : Mem} (h0 : m_X0_restore G p1 = some res) : CMv l yX0_restore cX0_restore 3 none 2 43 w [.ref (w.1 19), .int p1, .ref (w.1 1)] G res := by
  refine CMv.of (by decide +kernel) (Nat.le_of_ble_eq_true rfl) ?_
  intro p e s m args below meth c X hr hk
  have h := bs_i h0
  unfold m_X0_restore at h
  show J p l e rm_X0_restore s m args below meth c (Qvoid below args s w res) w 3 G 0 [(0, .ref (w.1 19)), (1, .int p1), (2, .ref (w.1 1))] []
  refine j_iload_n X dX0_restore_0 rfl 1 rfl ?_
  refine j_if_lt X 23 dX0_restore_1 (by decide) (fun c_1 => ?_) (fun c_1 => ?_)
  · have h := bi_t c_1 h
    exact j_vret X hr hk dX0_restore_23 (Option.some.inj h)
  · have h := bi_f c_1 h
    refine j_iload_n X dX0_restore_4 rfl 1 rfl ?_
    refine j_aload_n X dX0_restore_5 rfl 0 rfl ?_
    refine j_getR (C := RX0) (T := TX0) (N := 2) X 19 s_19 rfl hin_X0 0 (by decide) 20 rfl q_151 dX0_restore_6 ?_
    refine j_alenR X 20 2 21 s_20 (show Int32.ofNat 2 = 2 from rfl) dX0_restore_9 ?_
    refine j_icmp_ge X 23 dX0_restore_10 (by decide) (fun c_2 => ?_) (fun c_2 => ?_)
    · have h := bi_t c_2 h
      exact j_vret X hr hk dX0_restore_23 (Option.some.inj h)
    · have h := bi_f c_2 h
      refine j_aload_n X dX0_restore_13 rfl 2 rfl ?_
      refine j_aload_n X dX0_restore_14 rfl 0 rfl ?_
      refine j_getR (C := RX0) (T := TX0) (N := 2) X 19 s_19 rfl hin_X0 0 (by decide) 20 rfl q_151 dX0_restore_15 ?_
      refine j_iload_n X dX0_restore_18 rfl 1 rfl ?_
      obtain ⟨k_3, hk_3, h⟩ := bd_s h
      refine j_aald X 20 2 21 s_20 hk_3 dX0_restore_19 ?_
      obtain ⟨q_4, hq_4, h⟩ := bd_s h
      refine j_callVv (As := [.ref (w.1 k_3)]) X 1 s_1 rfl (c_X6_copyFrom l w G 1 (Or.inl rfl) k_3 (s_row21 hk_3)  hq_4) rfl pn_X6_copyFrom q_851 q_596 q_597 q_60 q_598 ⟨Nat.le_of_ble_eq_true rfl, Nat.le_of_ble_eq_true rfl⟩ (Nat.le_of_ble_eq_true rfl) rfl dX0_restore_20 ?_
      exact j_vret X hr hk dX0_restore_23 (Option.some.inj h)
abbrev rm_X6_copyTo : Room := { frames := 1, cells := 0, slots := 0, locals := 22 }
theorem pn_X6_copyTo : yX6_copyTo.cls ≠ "java/lang/invoke/MethodHandle" ∧ yX6_copyTo.cls ≠ "java/lang/invoke/VarHandle" ∧ (parseMethodDescriptor yX6_copyTo.desc).map (fun d => d.parameters.length) = some 1 := by decide +kernel
def m_X6_copyTo (G : Mem) (o : Nat) (a : Nat) : Option (Mem) := (m_X6_copyRow G (o + 1) a).bind (fun q_1 => some q_1)
set_option maxRecDepth 100000 in
set_option maxHeartbeats 4000000 in
theorem c_X6_copyTo (l : Launch) (w : WP) (G : Mem) (o : Nat) (ho_o : o = 1 ∨ o = 3) (a : Nat) (hs_a : fw_lay[a]? = some (.inr (0, 74, 0))) {res : Mem} (h0 : m_X6_copyTo G o a = some res) : CMv l yX6_copyTo cX6_copyTo 2 none 1 22 w [.ref (w.1 o), .ref (w.1 a)] G res := by
  have hs_o : fw_lay[o]? = some (.inl (6, [some (o + 1)])) := by rcases ho_o with rfl | rfl <;> rfl
  have hs_o_1 : fw_lay[o + 1]? = some (.inr (0, 74, 0)) := by rcases ho_o with rfl | rfl <;> rfl
  refine CMv.of (by decide +kernel) (Nat.le_of_ble_eq_true rfl) ?_
  intro p e s m args below meth c X hr hk
  have h := bs_i h0
  unfold m_X6_copyTo at h
  show J p l e rm_X6_copyTo s m args below meth c (Qvoid below args s w res) w 2 G 0 [(0, .ref (w.1 o)), (1, .ref (w.1 a))] []
  refine j_aload_n X dX6_copyTo_0 rfl 0 rfl ?_
  refine j_getR (C := RX6) (T := TX6) (N := 1) X o hs_o rfl hin_X6 0 (by decide) (o + 1) rfl q_90 dX6_copyTo_1 ?_
  refine j_aload_n X dX6_copyTo_4 rfl 1 rfl ?_
  obtain ⟨q_1, hq_1, h⟩ := bd_s h
  refine j_callSv (As := [.ref (w.1 (o + 1)), .ref (w.1 a)]) X (c_X6_copyRow l w G (o + 1) hs_o_1 a hs_a  hq_1) pn_X6_copyRow q_467 q_468 q_60 q_469 ⟨Nat.le_of_ble_eq_true rfl, Nat.le_of_ble_eq_true rfl⟩ (Nat.le_of_ble_eq_true rfl) rfl dX6_copyTo_5 ?_
  exact j_vret X hr hk dX6_copyTo_8 (Option.some.inj h)
abbrev rm_X0_store : Room := { frames := 2, cells := 0, slots := 0, locals := 43 }
theorem pn_X0_store : yX0_store.cls ≠ "java/lang/invoke/MethodHandle" ∧ yX0_store.cls ≠ "java/lang/invoke/VarHandle" ∧ (parseMethodDescriptor yX0_store.desc).map (fun d => d.parameters.length) = some 2 := by decide +kernel
def m_X0_store (G : Mem) (p1 : Int32) : Option (Mem) := (if p1 < 0 then some G else (if 2 ≤ p1 then some G else (aal 2 21 p1).bind (fun k_3 => (m_X6_copyTo G 1 k_3).bind (fun q_4 => some (upm q_4 19 1 ((q_4 19 1) ||| (1 <<< (p1 &&& 31))))))))
set_option maxRecDepth 100000 in
set_option maxHeartbeats 4000000 in
theorem c_X0_store (l : Launch) (w : WP) (G : Mem) (p1 : Int32) {res : Mem} (h0 : m_X0_store G p1 = some res) : CMv l yX0_store cX0_store 3 none 2 43 w [.ref (w.1 19), .int p1, .ref (w.1 1)] G res := by
  refine CMv.of (by decide +kernel) (Nat.le_of_ble_eq_true rfl) ?_
  intro p e s m args below meth c X hr hk
  have h := bs_i h0
  unfold m_X0_store at h
  show J p l e rm_X0_store s m args below meth c (Qvoid below args s w res) w 3 G 0 [(0, .ref (w.1 19)), (1, .int p1), (2, .ref (w.1 1))] []
  refine j_iload_n X dX0_store_0 rfl 1 rfl ?_
  refine j_if_lt X 35 dX0_store_1 (by decide) (fun c_1 => ?_) (fun c_1 => ?_)
  · have h := bi_t c_1 h
    exact j_vret X hr hk dX0_store_35 (Option.some.inj h)
  · have h := bi_f c_1 h
    refine j_iload_n X dX0_store_4 rfl 1 rfl ?_
    refine j_aload_n X dX0_store_5 rfl 0 rfl ?_
    refine j_getR (C := RX0) (T := TX0) (N := 2) X 19 s_19 rfl hin_X0 0 (by decide) 20 rfl q_151 dX0_store_6 ?_
    refine j_alenR X 20 2 21 s_20 (show Int32.ofNat 2 = 2 from rfl) dX0_store_9 ?_
    refine j_icmp_ge X 35 dX0_store_10 (by decide) (fun c_2 => ?_) (fun c_2 => ?_)
    · have h := bi_t c_2 h
      exact j_vret X hr hk dX0_store_35 (Option.some.inj h)
    · have h := bi_f c_2 h
      refine j_aload_n X dX0_store_13 rfl 2 rfl ?_
      refine j_aload_n X dX0_store_14 rfl 0 rfl ?_
      refine j_getR (C := RX0) (T := TX0) (N := 2) X 19 s_19 rfl hin_X0 0 (by decide) 20 rfl q_151 dX0_store_15 ?_
      refine j_iload_n X dX0_store_18 rfl 1 rfl ?_
      obtain ⟨k_3, hk_3, h⟩ := bd_s h
      refine j_aald X 20 2 21 s_20 hk_3 dX0_store_19 ?_
      obtain ⟨q_4, hq_4, h⟩ := bd_s h
      refine j_callVv (As := [.ref (w.1 k_3)]) X 1 s_1 rfl (c_X6_copyTo l w G 1 (Or.inl rfl) k_3 (s_row21 hk_3)  hq_4) rfl pn_X6_copyTo q_837 q_560 q_561 q_60 q_562 ⟨Nat.le_of_ble_eq_true rfl, Nat.le_of_ble_eq_true rfl⟩ (Nat.le_of_ble_eq_true rfl) rfl dX0_store_20 ?_
      refine j_aload_n X dX0_store_23 rfl 0 rfl ?_
      refine j_dup X dX0_store_24 rfl ?_
      refine j_getI (C := RX0) (T := TX0) (N := 2) X 19 s_19 rfl hin_X0 1 (by decide) rfl q_152 dX0_store_25 ?_
      refine j_iconst (v := 1) X dX0_store_28 (by decide) ?_
      refine j_iload_n X dX0_store_29 rfl 1 rfl ?_
      refine j_ishl X dX0_store_30 ?_
      refine j_ior X dX0_store_31 ?_
      refine j_putI (C := RX0) (T := TX0) (N := 2) X tyX0 tyX0_ok nmX0 19 s_19 rfl hin_X0 1 (by decide) rfl q_152 rfl rfl dX0_store_32 ?_
      exact j_vret X hr hk dX0_store_35 (Option.some.inj h)
abbrev rm_X1_isWithin : Room := { frames := 0, cells := 0, slots := 0, locals := 0 }
theorem pn_X1_isWithin : yX1_isWithin.cls ≠ "java/lang/invoke/MethodHandle" ∧ yX1_isWithin.cls ≠ "java/lang/invoke/VarHandle" ∧ (parseMethodDescriptor yX1_isWithin.desc).map (fun d => d.parameters.length) = some 1 := by decide +kernel
def m_X1_isWithin (p1 : Int32) : Int32 := (if p1 < 0 then 0 else (if 17 ≤ p1 then 0 else 1))
set_option maxRecDepth 100000 in
set_option maxHeartbeats 4000000 in
theorem c_X1_isWithin (l : Launch) (w : WP) (G : Mem) (p1 : Int32) : CMi l yX1_isWithin cX1_isWithin 1 (some .boolean) 0 0 w [.int p1] G (m_X1_isWithin p1, G) := by
  refine CMi.of (by decide +kernel) (Nat.le_of_ble_eq_true rfl) ?_
  intro p e s m args below meth c X hr hk
  obtain ⟨res, h⟩ : ∃ z, m_X1_isWithin p1 = z := ⟨_, rfl⟩
  rw [h]
  unfold m_X1_isWithin at h
  show J p l e rm_X1_isWithin s m args below meth c (Qint below args s w (res, G)) w 1 G 0 [(0, .int p1)] []
  refine j_iload_n X dX1_isWithin_0 rfl 0 rfl ?_
  refine j_if_lt X 14 dX1_isWithin_1 (by decide) (fun c_1 => ?_) (fun c_1 => ?_)
  · have h := pi_t c_1 h
    refine j_iconst (v := 0) X dX1_isWithin_14 (by decide) ?_
    exact j_zret X hr hk (by decide) dX1_isWithin_15 (congrArg (fun z => (z, G)) (h))
  · have h := pi_f c_1 h
    refine j_iload_n X dX1_isWithin_4 rfl 0 rfl ?_
    refine j_bipush (v := 17) X dX1_isWithin_5 (by decide) ?_
    refine j_icmp_ge X 14 dX1_isWithin_7 (by decide) (fun c_2 => ?_) (fun c_2 => ?_)
    · have h := pi_t c_2 h
      refine j_iconst (v := 0) X dX1_isWithin_14 (by decide) ?_
      exact j_zret X hr hk (by decide) dX1_isWithin_15 (congrArg (fun z => (z, G)) (h))
    · have h := pi_f c_2 h
      refine j_iconst (v := 1) X dX1_isWithin_10 (by decide) ?_
      refine j_goto X 15 dX1_isWithin_11 (by decide) ?_
      exact j_zret X hr hk (by decide) dX1_isWithin_15 (congrArg (fun z => (z, G)) (h))
abbrev rm_X1_aheadRow : Room := { frames := 1, cells := 0, slots := 0, locals := 20 }
theorem pn_X1_aheadRow : yX1_aheadRow.cls ≠ "java/lang/invoke/MethodHandle" ∧ yX1_aheadRow.cls ≠ "java/lang/invoke/VarHandle" ∧ (parseMethodDescriptor yX1_aheadRow.desc).map (fun d => d.parameters.length) = some 1 := by decide +kernel
def m_X1_aheadRow (G : Mem) (o : Nat) (p1 : Int32) : Option (Int32) := (if (m_X1_isWithin p1) = 0 then some 0 else (ald 17 G (o + 2) p1).bind (fun r_2 => some r_2))
set_option maxRecDepth 100000 in
set_option maxHeartbeats 4000000 in
theorem c_X1_aheadRow (l : Launch) (w : WP) (G : Mem) (o : Nat) (ho_o : o = 27 ∨ o = 31) (p1 : Int32) {res : Int32} (h0 : m_X1_aheadRow G o p1 = some res) : CMi l yX1_aheadRow cX1_aheadRow 2 (some .int) 1 20 w [.ref (w.1 o), .int p1] G (res, G) := by
  have hs_o : fw_lay[o]? = some (.inl (1, [some (o + 1), some (o + 2)])) := by rcases ho_o with rfl | rfl <;> rfl
  have hs_o_1 : fw_lay[o + 1]? = some (.inr (0, 17, 0)) := by rcases ho_o with rfl | rfl <;> rfl
  have hs_o_2 : fw_lay[o + 2]? = some (.inr (0, 17, 0)) := by rcases ho_o with rfl | rfl <;> rfl
  refine CMi.of (by decide +kernel) (Nat.le_of_ble_eq_true rfl) ?_
  intro p e s m args below meth c X hr hk
  have h := bs_i h0
  unfold m_X1_aheadRow at h
  show J p l e rm_X1_aheadRow s m args below meth c (Qint below args s w (res, G)) w 2 G 0 [(0, .ref (w.1 o)), (1, .int p1)] []
  refine j_iload_n X dX1_aheadRow_0 rfl 1 rfl ?_
  refine j_callSi (As := [.int p1]) X (c_X1_isWithin l w G  p1) pn_X1_isWithin q_633 q_634 q_65 q_635 ⟨Nat.le_of_ble_eq_true rfl, Nat.le_of_ble_eq_true rfl⟩ (Nat.le_of_ble_eq_true rfl) rfl dX1_aheadRow_1 ?_
  refine j_if_eq X 16 dX1_aheadRow_4 (by decide) (fun c_1 => ?_) (fun c_1 => ?_)
  · have h := bi_t c_1 h
    refine j_iconst (v := 0) X dX1_aheadRow_16 (by decide) ?_
    exact j_iret X hr hk dX1_aheadRow_17 (congrArg (fun z => (z, G)) (Option.some.inj h))
  · have h := bi_f c_1 h
    refine j_aload_n X dX1_aheadRow_7 rfl 0 rfl ?_
    refine j_getR (C := RX1) (T := TX1) (N := 2) X o hs_o rfl hin_X1 1 (by decide) (o + 2) rfl q_184 dX1_aheadRow_8 ?_
    refine j_iload_n X dX1_aheadRow_11 rfl 1 rfl ?_
    obtain ⟨r_2, hr_2, h⟩ := bd_s h
    refine j_iald X (o + 2) 17 hs_o_2 hr_2 dX1_aheadRow_12 ?_
    refine j_goto X 17 dX1_aheadRow_13 (by decide) ?_
    exact j_iret X hr hk dX1_aheadRow_17 (congrArg (fun z => (z, G)) (Option.some.inj h))
abbrev rm_X1_behindSome : Room := { frames := 1, cells := 0, slots := 0, locals := 21 }
theorem pn_X1_behindSome : yX1_behindSome.cls ≠ "java/lang/invoke/MethodHandle" ∧ yX1_behindSome.cls ≠ "java/lang/invoke/VarHandle" ∧ (parseMethodDescriptor yX1_behindSome.desc).map (fun d => d.parameters.length) = some 1 := by decide +kernel
def L_X1_behindSome_4 (o : Nat) (x1 : Int32) (G : Mem) : Nat → Int32 → Int32 → Option (Int32)
  | 0, _, _ => none
  | n + 1, x2, x3 => (if 17 ≤ x3 then some x2 else ((if (m_X8_has x1 x3) = 0 then some x2 else (ald 17 G (o + 2) x3).bind (fun r_4 => some (x2 ||| r_4))) : Option (Int32)).bind (fun (v_2 : Int32) => L_X1_behindSome_4 o x1 G n v_2 (x3 + 1)))
def m_X1_behindSome (G : Mem) (o : Nat) (p1 : Int32) : Option (Int32) := (L_X1_behindSome_4 o p1 G NF 0 0).bind (fun v_5 => some v_5)
set_option maxRecDepth 100000 in
set_option maxHeartbeats 4000000 in
theorem jL_X1_behindSome_4 {p : Program} {l : Launch} {e : Env} {s : State} {m : MethodId} {args : Array Value} {below : List Frame} {meth : Method} {c : Code} {w : WP} (X : fw_X p s m args c cX1_behindSome 4 RX1 w) (hr : meth.sig.returnType = (some .int)) (hk : meth.locks = false) (o : Nat) (ho_o : o = 27 ∨ o = 31) {x1 : Int32} {G : Mem} {res : Int32} {K : Int32 → Option (Int32)} (HK : ∀ v : Int32, K v = some res → J p l e rm_X1_behindSome s m args below meth c (Qint below args s w (res, G)) w 4 G 33 [(2, .int v)] []) : ∀ (n : Nat) (x2 : Int32) (x3 : Int32), (L_X1_behindSome_4 o x1 G n x2 x3).bind K = some res → J p l e rm_X1_behindSome s m args below meth c (Qint below args s w (res, G)) w 4 G 4 [(0, .ref (w.1 o)), (1, .int x1), (2, .int x2), (3, .int x3)] [] := by
  have hs_o : fw_lay[o]? = some (.inl (1, [some (o + 1), some (o + 2)])) := by rcases ho_o with rfl | rfl <;> rfl
  have hs_o_1 : fw_lay[o + 1]? = some (.inr (0, 17, 0)) := by rcases ho_o with rfl | rfl <;> rfl
  have hs_o_2 : fw_lay[o + 2]? = some (.inr (0, 17, 0)) := by rcases ho_o with rfl | rfl <;> rfl
  intro n
  induction n with
  | zero =>
    intro x2 x3 h
    rw [L_X1_behindSome_4] at h
    cases h
  | succ n ih =>
    intro x2 x3 h
    rw [L_X1_behindSome_4] at h
    refine j_iload_n X dX1_behindSome_4 rfl 3 rfl ?_
    refine j_bipush (v := 17) X dX1_behindSome_5 (by decide) ?_
    refine j_icmp_ge X 33 dX1_behindSome_7 (by decide) (fun c_1 => ?_) (fun c_1 => ?_)
    · have h := bi_t c_1 h
      refine j_pick [2] rfl ?_
      exact HK x2 h
    · have h := bi_f c_1 h
      refine j_iload_n X dX1_behindSome_10 rfl 1 rfl ?_
      refine j_iload_n X dX1_behindSome_11 rfl 3 rfl ?_
      refine j_callNi (As := [.int x1, .int x3]) X (c_X8_has l w G  x1 x3) pn_X8_has nm_1 q_620 q_59 q_621 ⟨Nat.le_of_ble_eq_true rfl, Nat.le_of_ble_eq_true rfl⟩ (Nat.le_of_ble_eq_true rfl) rfl dX1_behindSome_12 ?_
      have h := bb_a h
      have Hv_2 : ∀ v_2 : Int32, (L_X1_behindSome_4 o x1 G n v_2 (x3 + 1)).bind K = some res → J p l e rm_X1_behindSome s m args below meth c (Qint below args s w (res, G)) w 4 G 27 [(0, .ref (w.1 o)), (1, .int x1), (2, .int v_2), (3, .int x3)] [] := by
        intro v_2 h
        refine j_iinc (v := x3 + 1) X [(3, .int (x3 + 1)), (0, .ref (w.1 o)), (1, .int x1), (2, .int v_2)] dX1_behindSome_27 3 rfl rfl (by decide) rfl ?_
        refine j_goto X 4 dX1_behindSome_30 (by decide) ?_
        refine j_pick [1, 2, 3, 0] rfl ?_
        exact ih v_2 (x3 + 1) h
      refine j_if_eq X 27 dX1_behindSome_15 (by decide) (fun c_3 => ?_) (fun c_3 => ?_)
      · have h := bi_t c_3 h
        refine j_pick [0, 1, 2, 3] rfl ?_
        exact Hv_2 x2 h
      · have h := bi_f c_3 h
        refine j_iload_n X dX1_behindSome_18 rfl 2 rfl ?_
        refine j_aload_n X dX1_behindSome_19 rfl 0 rfl ?_
        refine j_getR (C := RX1) (T := TX1) (N := 2) X o hs_o rfl hin_X1 1 (by decide) (o + 2) rfl q_184 dX1_behindSome_20 ?_
        refine j_iload_n X dX1_behindSome_23 rfl 3 rfl ?_
        obtain ⟨r_4, hr_4, h⟩ := bd_s h
        refine j_iald X (o + 2) 17 hs_o_2 hr_4 dX1_behindSome_24 ?_
        refine j_ior X dX1_behindSome_25 ?_
        refine j_istore_n X [(2, .int (x2 ||| r_4)), (0, .ref (w.1 o)), (1, .int x1), (3, .int x3)] dX1_behindSome_26 rfl (by decide) rfl ?_
        refine j_pick [1, 2, 0, 3] rfl ?_
        exact Hv_2 (x2 ||| r_4) h
set_option maxRecDepth 100000 in
set_option maxHeartbeats 4000000 in
theorem c_X1_behindSome (l : Launch) (w : WP) (G : Mem) (o : Nat) (ho_o : o = 27 ∨ o = 31) (p1 : Int32) {res : Int32} (h0 : m_X1_behindSome G o p1 = some res) : CMi l yX1_behindSome cX1_behindSome 4 (some .int) 1 21 w [.ref (w.1 o), .int p1] G (res, G) := by
  have hs_o : fw_lay[o]? = some (.inl (1, [some (o + 1), some (o + 2)])) := by rcases ho_o with rfl | rfl <;> rfl
  have hs_o_1 : fw_lay[o + 1]? = some (.inr (0, 17, 0)) := by rcases ho_o with rfl | rfl <;> rfl
  have hs_o_2 : fw_lay[o + 2]? = some (.inr (0, 17, 0)) := by rcases ho_o with rfl | rfl <;> rfl
  refine CMi.of (by decide +kernel) (Nat.le_of_ble_eq_true rfl) ?_
  intro p e s m args below meth c X hr hk
  have h := bs_i h0
  unfold m_X1_behindSome at h
  show J p l e rm_X1_behindSome s m args below meth c (Qint below args s w (res, G)) w 4 G 0 [(0, .ref (w.1 o)), (1, .int p1)] []
  refine j_iconst (v := 0) X dX1_behindSome_0 (by decide) ?_
  refine j_istore_n X [(2, .int 0), (0, .ref (w.1 o)), (1, .int p1)] dX1_behindSome_1 rfl (by decide) rfl ?_
  refine j_iconst (v := 0) X dX1_behindSome_2 (by decide) ?_
  refine j_istore_n X [(3, .int 0), (2, .int 0), (0, .ref (w.1 o)), (1, .int p1)] dX1_behindSome_3 rfl (by decide) rfl ?_
  have h := bb_a h
  have Hv_5 : ∀ v_5 : Int32, (some v_5).bind some = some res → J p l e rm_X1_behindSome s m args below meth c (Qint below args s w (res, G)) w 4 G 33 [(2, .int v_5)] [] := by
    intro v_5 h
    refine j_iload_n X dX1_behindSome_33 rfl 0 rfl ?_
    exact j_iret X hr hk dX1_behindSome_34 (congrArg (fun z => (z, G)) (Option.some.inj h))
  refine j_pick [2, 3, 1, 0] rfl ?_
  exact jL_X1_behindSome_4 X hr hk o ho_o Hv_5 NF 0 0 h
abbrev rm_X1_chain : Room := { frames := 1, cells := 0, slots := 0, locals := 21 }
theorem pn_X1_chain : yX1_chain.cls ≠ "java/lang/invoke/MethodHandle" ∧ yX1_chain.cls ≠ "java/lang/invoke/VarHandle" ∧ (parseMethodDescriptor yX1_chain.desc).map (fun d => d.parameters.length) = some 3 := by decide +kernel
def L_X1_chain_26 (o : Nat) (x1 : Int32) (x3 : Int32) (x4 : Int32) : Nat → Int32 → Mem → Option (Mem)
  | 0, _, _ => none
  | n + 1, x5, G => (if 17 ≤ x5 then some G else (ald 17 G (o + 1) x5).bind (fun r_5 => ((if (m_X8_has r_5 x1) = 0 then some G else (ald 17 G (o + 2) x5).bind (fun r_8 => (ald 17 G (o + 2) x5).bind (fun r_9 => ((if (m_X8_has r_9 x1) = 0 then some (x3, r_8) else some (x4, r_8)) : Option (Int32 × Int32)).bind (fun (v_10 : Int32 × Int32) => (ast 17 G (o + 2) x5 (v_10.2 ||| v_10.1)).bind (fun q_11 => (ald 17 q_11 (o + 1) x5).bind (fun r_12 => (ast 17 q_11 (o + 1) x5 (r_12 ||| x4)).bind (fun q_13 => some q_13))))))) : Option (Mem)).bind (fun (v_6 : Mem) => L_X1_chain_26 o x1 x3 x4 n (x5 + 1) v_6)))
def m_X1_chain (G : Mem) (o : Nat) (p1 : Int32) (p2 : Int32) (p3 : Int32) : Option (Mem) := (if (m_X1_isWithin p1) = 0 then some G else (if (m_X1_isWithin p2) = 0 then some G else (ald 17 G (o + 1) p2).bind (fun r_3 => (L_X1_chain_26 o p1 p3 r_3 NF 0 G).bind (fun v_15 => some v_15))))
set_option maxRecDepth 100000 in
set_option maxHeartbeats 4000000 in
theorem jL_X1_chain_26 {p : Program} {l : Launch} {e : Env} {s : State} {m : MethodId} {args : Array Value} {below : List Frame} {meth : Method} {c : Code} {w : WP} (X : fw_X p s m args c cX1_chain 6 RX1 w) (hr : meth.sig.returnType = none) (hk : meth.locks = false) (o : Nat) (ho_o : o = 27 ∨ o = 31) {x1 : Int32} {x3 : Int32} {x4 : Int32} {res : Mem} {K : Mem → Option (Mem)} (HK : ∀ v : Mem, K v = some res → J p l e rm_X1_chain s m args below meth c (Qvoid below args s w res) w 6 v 95 [] []) : ∀ (n : Nat) (x5 : Int32) (G : Mem), (L_X1_chain_26 o x1 x3 x4 n x5 G).bind K = some res → J p l e rm_X1_chain s m args below meth c (Qvoid below args s w res) w 6 G 26 [(0, .ref (w.1 o)), (1, .int x1), (3, .int x3), (4, .int x4), (5, .int x5)] [] := by
  have hs_o : fw_lay[o]? = some (.inl (1, [some (o + 1), some (o + 2)])) := by rcases ho_o with rfl | rfl <;> rfl
  have hs_o_1 : fw_lay[o + 1]? = some (.inr (0, 17, 0)) := by rcases ho_o with rfl | rfl <;> rfl
  have hs_o_2 : fw_lay[o + 2]? = some (.inr (0, 17, 0)) := by rcases ho_o with rfl | rfl <;> rfl
  intro n
  induction n with
  | zero =>
    intro x5 G h
    rw [L_X1_chain_26] at h
    cases h
  | succ n ih =>
    intro x5 G h
    rw [L_X1_chain_26] at h
    refine j_iload X dX1_chain_26 4 rfl ?_
    refine j_bipush (v := 17) X dX1_chain_28 (by decide) ?_
    refine j_icmp_ge X 95 dX1_chain_30 (by decide) (fun c_4 => ?_) (fun c_4 => ?_)
    · have h := bi_t c_4 h
      refine j_pick [] rfl ?_
      exact HK G h
    · have h := bi_f c_4 h
      refine j_aload_n X dX1_chain_33 rfl 0 rfl ?_
      refine j_getR (C := RX1) (T := TX1) (N := 2) X o hs_o rfl hin_X1 0 (by decide) (o + 1) rfl q_183 dX1_chain_34 ?_
      refine j_iload X dX1_chain_37 4 rfl ?_
      obtain ⟨r_5, hr_5, h⟩ := bd_s h
      refine j_iald X (o + 1) 17 hs_o_1 hr_5 dX1_chain_39 ?_
      refine j_iload_n X dX1_chain_40 rfl 1 rfl ?_
      refine j_callNi (As := [.int r_5, .int x1]) X (c_X8_has l w G  r_5 x1) pn_X8_has nm_1 q_620 q_59 q_621 ⟨Nat.le_of_ble_eq_true rfl, Nat.le_of_ble_eq_true rfl⟩ (Nat.le_of_ble_eq_true rfl) rfl dX1_chain_41 ?_
      have h := bb_a h
      have Hv_6 : ∀ v_6 : Mem, (L_X1_chain_26 o x1 x3 x4 n (x5 + 1) v_6).bind K = some res → J p l e rm_X1_chain s m args below meth c (Qvoid below args s w res) w 6 v_6 89 [(0, .ref (w.1 o)), (1, .int x1), (3, .int x3), (4, .int x4), (5, .int x5)] [] := by
        intro v_6 h
        refine j_iinc (v := x5 + 1) X [(5, .int (x5 + 1)), (0, .ref (w.1 o)), (1, .int x1), (3, .int x3), (4, .int x4)] dX1_chain_89 4 rfl rfl (by decide) rfl ?_
        refine j_goto X 26 dX1_chain_92 (by decide) ?_
        refine j_pick [1, 2, 3, 4, 0] rfl ?_
        exact ih (x5 + 1) v_6 h
      refine j_if_eq X 89 dX1_chain_44 (by decide) (fun c_7 => ?_) (fun c_7 => ?_)
      · have h := bi_t c_7 h
        refine j_pick [0, 1, 2, 3, 4] rfl ?_
        exact Hv_6 G h
      · have h := bi_f c_7 h
        refine j_aload_n X dX1_chain_47 rfl 0 rfl ?_
        refine j_getR (C := RX1) (T := TX1) (N := 2) X o hs_o rfl hin_X1 1 (by decide) (o + 2) rfl q_184 dX1_chain_48 ?_
        refine j_iload X dX1_chain_51 4 rfl ?_
        refine j_dup2 X dX1_chain_53 rfl rfl ?_
        obtain ⟨r_8, hr_8, h⟩ := bd_s h
        refine j_iald X (o + 2) 17 hs_o_2 hr_8 dX1_chain_54 ?_
        refine j_aload_n X dX1_chain_55 rfl 0 rfl ?_
        refine j_getR (C := RX1) (T := TX1) (N := 2) X o hs_o rfl hin_X1 1 (by decide) (o + 2) rfl q_184 dX1_chain_56 ?_
        refine j_iload X dX1_chain_59 4 rfl ?_
        obtain ⟨r_9, hr_9, h⟩ := bd_s h
        refine j_iald X (o + 2) 17 hs_o_2 hr_9 dX1_chain_61 ?_
        refine j_iload_n X dX1_chain_62 rfl 1 rfl ?_
        refine j_callNi (As := [.int r_9, .int x1]) X (c_X8_has l w G  r_9 x1) pn_X8_has nm_1 q_620 q_59 q_621 ⟨Nat.le_of_ble_eq_true rfl, Nat.le_of_ble_eq_true rfl⟩ (Nat.le_of_ble_eq_true rfl) rfl dX1_chain_63 ?_
        have h := bb_a h
        have Hv_10 : ∀ v_10 : Int32 × Int32, ((ast 17 G (o + 2) x5 (v_10.2 ||| v_10.1)).bind (fun q_11 => (ald 17 q_11 (o + 1) x5).bind (fun r_12 => (ast 17 q_11 (o + 1) x5 (r_12 ||| x4)).bind (fun q_13 => some q_13)))).bind (fun (v_6 : Mem) => (L_X1_chain_26 o x1 x3 x4 n (x5 + 1) v_6).bind K) = some res → J p l e rm_X1_chain s m args below meth c (Qvoid below args s w res) w 6 G 75 [(0, .ref (w.1 o)), (1, .int x1), (3, .int x3), (4, .int x4), (5, .int x5)] [.int v_10.1, .int v_10.2, .int x5, .ref (w.1 (o + 2))] := by
          intro v_10 h
          refine j_ior X dX1_chain_75 ?_
          obtain ⟨q_11, hq_11, h⟩ := bd_s h
          refine j_iast X (o + 2) 17 hs_o_2 hq_11 dX1_chain_76 ?_
          refine j_aload_n X dX1_chain_77 rfl 0 rfl ?_
          refine j_getR (C := RX1) (T := TX1) (N := 2) X o hs_o rfl hin_X1 0 (by decide) (o + 1) rfl q_183 dX1_chain_78 ?_
          refine j_iload X dX1_chain_81 4 rfl ?_
          refine j_dup2 X dX1_chain_83 rfl rfl ?_
          obtain ⟨r_12, hr_12, h⟩ := bd_s h
          refine j_iald X (o + 1) 17 hs_o_1 hr_12 dX1_chain_84 ?_
          refine j_iload X dX1_chain_85 3 rfl ?_
          refine j_ior X dX1_chain_87 ?_
          obtain ⟨q_13, hq_13, h⟩ := bd_s h
          refine j_iast X (o + 1) 17 hs_o_1 hq_13 dX1_chain_88 ?_
          refine j_pick [0, 1, 2, 3, 4] rfl ?_
          exact Hv_6 q_13 h
        refine j_if_eq X 74 dX1_chain_66 (by decide) (fun c_14 => ?_) (fun c_14 => ?_)
        · have h := bi_t c_14 h
          refine j_iload_n X dX1_chain_74 rfl 2 rfl ?_
          refine j_pick [0, 1, 2, 3, 4] rfl ?_
          exact Hv_10 (x3, r_8) h
        · have h := bi_f c_14 h
          refine j_iload X dX1_chain_69 3 rfl ?_
          refine j_goto X 75 dX1_chain_71 (by decide) ?_
          refine j_pick [0, 1, 2, 3, 4] rfl ?_
          exact Hv_10 (x4, r_8) h
set_option maxRecDepth 100000 in
set_option maxHeartbeats 4000000 in
theorem c_X1_chain (l : Launch) (w : WP) (G : Mem) (o : Nat) (ho_o : o = 27 ∨ o = 31) (p1 : Int32) (p2 : Int32) (p3 : Int32) {res : Mem} (h0 : m_X1_chain G o p1 p2 p3 = some res) : CMv l yX1_chain cX1_chain 6 none 1 21 w [.ref (w.1 o), .int p1, .int p2, .int p3] G res := by
  have hs_o : fw_lay[o]? = some (.inl (1, [some (o + 1), some (o + 2)])) := by rcases ho_o with rfl | rfl <;> rfl
  have hs_o_1 : fw_lay[o + 1]? = some (.inr (0, 17, 0)) := by rcases ho_o with rfl | rfl <;> rfl
  have hs_o_2 : fw_lay[o + 2]? = some (.inr (0, 17, 0)) := by rcases ho_o with rfl | rfl <;> rfl
  refine CMv.of (by decide +kernel) (Nat.le_of_ble_eq_true rfl) ?_
  intro p e s m args below meth c X hr hk
  have h := bs_i h0
  unfold m_X1_chain at h
  show J p l e rm_X1_chain s m args below meth c (Qvoid below args s w res) w 6 G 0 [(0, .ref (w.1 o)), (1, .int p1), (2, .int p2), (3, .int p3)] []
  refine j_iload_n X dX1_chain_0 rfl 1 rfl ?_
  refine j_callSi (As := [.int p1]) X (c_X1_isWithin l w G  p1) pn_X1_isWithin q_633 q_634 q_65 q_635 ⟨Nat.le_of_ble_eq_true rfl, Nat.le_of_ble_eq_true rfl⟩ (Nat.le_of_ble_eq_true rfl) rfl dX1_chain_1 ?_
  refine j_if_eq X 14 dX1_chain_4 (by decide) (fun c_1 => ?_) (fun c_1 => ?_)
  · have h := bi_t c_1 h
    exact j_vret X hr hk dX1_chain_14 (Option.some.inj h)
  · have h := bi_f c_1 h
    refine j_iload_n X dX1_chain_7 rfl 2 rfl ?_
    refine j_callSi (As := [.int p2]) X (c_X1_isWithin l w G  p2) pn_X1_isWithin q_633 q_634 q_65 q_635 ⟨Nat.le_of_ble_eq_true rfl, Nat.le_of_ble_eq_true rfl⟩ (Nat.le_of_ble_eq_true rfl) rfl dX1_chain_8 ?_
    refine j_if_ne X 15 dX1_chain_11 (by decide) (fun c_2 => ?_) (fun c_2 => ?_)
    · have h := bi_f c_2 h
      refine j_aload_n X dX1_chain_15 rfl 0 rfl ?_
      refine j_getR (C := RX1) (T := TX1) (N := 2) X o hs_o rfl hin_X1 0 (by decide) (o + 1) rfl q_183 dX1_chain_16 ?_
      refine j_iload_n X dX1_chain_19 rfl 2 rfl ?_
      obtain ⟨r_3, hr_3, h⟩ := bd_s h
      refine j_iald X (o + 1) 17 hs_o_1 hr_3 dX1_chain_20 ?_
      refine j_istore X [(4, .int r_3), (0, .ref (w.1 o)), (1, .int p1), (2, .int p2), (3, .int p3)] dX1_chain_21 (by decide) rfl ?_
      refine j_iconst (v := 0) X dX1_chain_23 (by decide) ?_
      refine j_istore X [(5, .int 0), (4, .int r_3), (0, .ref (w.1 o)), (1, .int p1), (2, .int p2), (3, .int p3)] dX1_chain_24 (by decide) rfl ?_
      have h := bb_a h
      have Hv_15 : ∀ v_15 : Mem, (some v_15).bind some = some res → J p l e rm_X1_chain s m args below meth c (Qvoid below args s w res) w 6 v_15 95 [] [] := by
        intro v_15 h
        exact j_vret X hr hk dX1_chain_95 (Option.some.inj h)
      refine j_pick [2, 3, 5, 1, 0] rfl ?_
      exact jL_X1_chain_26 X hr hk o ho_o Hv_15 NF 0 G h
    · have h := bi_t c_2 h
      exact j_vret X hr hk dX1_chain_14 (Option.some.inj h)
abbrev rm_X1_earliest : Room := { frames := 2, cells := 0, slots := 0, locals := 44 }
theorem pn_X1_earliest : yX1_earliest.cls ≠ "java/lang/invoke/MethodHandle" ∧ yX1_earliest.cls ≠ "java/lang/invoke/VarHandle" ∧ (parseMethodDescriptor yX1_earliest.desc).map (fun d => d.parameters.length) = some 1 := by decide +kernel
def L_X1_earliest_5 (o : Nat) (x1 : Int32) (G : Mem) : Nat → Int32 → Int32 → Option ((Unit) ⊕ (Int32))
  | 0, _, _ => none
  | n + 1, x2, x3 => (if 17 ≤ x3 then some (Sum.inl ()) else (m_X1_behindSome G o x2).bind (fun r_2 => (if (m_X8_has (x2 &&& r_2) x1) = 0 then some (Sum.inr x3) else L_X1_earliest_5 o x1 G n (x2 &&& r_2) (x3 + 1))))
def m_X1_earliest (G : Mem) (o : Nat) (p1 : Int32) : Option (Int32) := (L_X1_earliest_5 o p1 G NF 131071 0).bind (fun o_v_4 => (match o_v_4 with | Sum.inl v_4 => some (-9) | Sum.inr v_5 => some v_5))
set_option maxRecDepth 100000 in
set_option maxHeartbeats 4000000 in
theorem jL_X1_earliest_5 {p : Program} {l : Launch} {e : Env} {s : State} {m : MethodId} {args : Array Value} {below : List Frame} {meth : Method} {c : Code} {w : WP} (X : fw_X p s m args c cX1_earliest 4 RX1 w) (hr : meth.sig.returnType = (some .int)) (hk : meth.locks = false) (o : Nat) (ho_o : o = 27 ∨ o = 31) {x1 : Int32} {G : Mem} {res : Int32} {K : (Unit) ⊕ (Int32) → Option (Int32)} (HK : ∀ v : Unit, K (Sum.inl v) = some res → J p l e rm_X1_earliest s m args below meth c (Qint below args s w (res, G)) w 4 G 35 [] []) (HR : ∀ v : Int32, K (Sum.inr v) = some res → v = res) : ∀ (n : Nat) (x2 : Int32) (x3 : Int32), (L_X1_earliest_5 o x1 G n x2 x3).bind K = some res → J p l e rm_X1_earliest s m args below meth c (Qint below args s w (res, G)) w 4 G 5 [(0, .ref (w.1 o)), (1, .int x1), (2, .int x2), (3, .int x3)] [] := by
  have hs_o : fw_lay[o]? = some (.inl (1, [some (o + 1), some (o + 2)])) := by rcases ho_o with rfl | rfl <;> rfl
  have hs_o_1 : fw_lay[o + 1]? = some (.inr (0, 17, 0)) := by rcases ho_o with rfl | rfl <;> rfl
  have hs_o_2 : fw_lay[o + 2]? = some (.inr (0, 17, 0)) := by rcases ho_o with rfl | rfl <;> rfl
  intro n
  induction n with
  | zero =>
    intro x2 x3 h
    rw [L_X1_earliest_5] at h
    cases h
  | succ n ih =>
    intro x2 x3 h
    rw [L_X1_earliest_5] at h
    refine j_iload_n X dX1_earliest_5 rfl 3 rfl ?_
    refine j_bipush (v := 17) X dX1_earliest_6 (by decide) ?_
    refine j_icmp_ge X 35 dX1_earliest_8 (by decide) (fun c_1 => ?_) (fun c_1 => ?_)
    · have h := bi_t c_1 h
      refine j_pick [] rfl ?_
      exact HK () h
    · have h := bi_f c_1 h
      refine j_iload_n X dX1_earliest_11 rfl 2 rfl ?_
      refine j_aload_n X dX1_earliest_12 rfl 0 rfl ?_
      refine j_iload_n X dX1_earliest_13 rfl 2 rfl ?_
      obtain ⟨r_2, hr_2, h⟩ := bd_s h
      refine j_callVi (As := [.int x2]) X o hs_o rfl (c_X1_behindSome l w G o ho_o x2 hr_2) rfl pn_X1_behindSome q_721 q_723 q_22 q_65 q_724 ⟨Nat.le_of_ble_eq_true rfl, Nat.le_of_ble_eq_true rfl⟩ (Nat.le_of_ble_eq_true rfl) rfl dX1_earliest_14 ?_
      refine j_iand X dX1_earliest_17 ?_
      refine j_istore_n X [(2, .int (x2 &&& r_2)), (0, .ref (w.1 o)), (1, .int x1), (3, .int x3)] dX1_earliest_18 rfl (by decide) rfl ?_
      refine j_iload_n X dX1_earliest_19 rfl 0 rfl ?_
      refine j_iload_n X dX1_earliest_20 rfl 2 rfl ?_
      refine j_callNi (As := [.int (x2 &&& r_2), .int x1]) X (c_X8_has l w G  (x2 &&& r_2) x1) pn_X8_has nm_1 q_620 q_59 q_621 ⟨Nat.le_of_ble_eq_true rfl, Nat.le_of_ble_eq_true rfl⟩ (Nat.le_of_ble_eq_true rfl) rfl dX1_earliest_21 ?_
      refine j_if_ne X 29 dX1_earliest_24 (by decide) (fun c_3 => ?_) (fun c_3 => ?_)
      · have h := bi_f c_3 h
        refine j_iinc (v := x3 + 1) X [(3, .int (x3 + 1)), (2, .int (x2 &&& r_2)), (0, .ref (w.1 o)), (1, .int x1)] dX1_earliest_29 3 rfl rfl (by decide) rfl ?_
        refine j_goto X 5 dX1_earliest_32 (by decide) ?_
        refine j_pick [2, 3, 1, 0] rfl ?_
        exact ih (x2 &&& r_2) (x3 + 1) h
      · have h := bi_t c_3 h
        refine j_iload_n X dX1_earliest_27 rfl 3 rfl ?_
        exact j_iret X hr hk dX1_earliest_28 (congrArg (fun z => (z, G)) (HR _ h))
set_option maxRecDepth 100000 in
set_option maxHeartbeats 4000000 in
theorem c_X1_earliest (l : Launch) (w : WP) (G : Mem) (o : Nat) (ho_o : o = 27 ∨ o = 31) (p1 : Int32) {res : Int32} (h0 : m_X1_earliest G o p1 = some res) : CMi l yX1_earliest cX1_earliest 4 (some .int) 2 44 w [.ref (w.1 o), .int p1] G (res, G) := by
  have hs_o : fw_lay[o]? = some (.inl (1, [some (o + 1), some (o + 2)])) := by rcases ho_o with rfl | rfl <;> rfl
  have hs_o_1 : fw_lay[o + 1]? = some (.inr (0, 17, 0)) := by rcases ho_o with rfl | rfl <;> rfl
  have hs_o_2 : fw_lay[o + 2]? = some (.inr (0, 17, 0)) := by rcases ho_o with rfl | rfl <;> rfl
  refine CMi.of (by decide +kernel) (Nat.le_of_ble_eq_true rfl) ?_
  intro p e s m args below meth c X hr hk
  have h := bs_i h0
  unfold m_X1_earliest at h
  show J p l e rm_X1_earliest s m args below meth c (Qint below args s w (res, G)) w 4 G 0 [(0, .ref (w.1 o)), (1, .int p1)] []
  refine j_ldc X dX1_earliest_0 q_720 ?_
  refine j_istore_n X [(2, .int 131071), (0, .ref (w.1 o)), (1, .int p1)] dX1_earliest_2 rfl (by decide) rfl ?_
  refine j_iconst (v := 0) X dX1_earliest_3 (by decide) ?_
  refine j_istore_n X [(3, .int 0), (2, .int 131071), (0, .ref (w.1 o)), (1, .int p1)] dX1_earliest_4 rfl (by decide) rfl ?_
  have h := bb_a h
  have Hv_4 : ∀ v_4 : Unit, (some (-9)).bind some = some res → J p l e rm_X1_earliest s m args below meth c (Qint below args s w (res, G)) w 4 G 35 [] [] := by
    intro v_4 h
    refine j_bipush (v := (-9)) X dX1_earliest_35 (by decide) ?_
    exact j_iret X hr hk dX1_earliest_37 (congrArg (fun z => (z, G)) (Option.some.inj h))
  refine j_pick [2, 3, 1, 0] rfl ?_
  exact jL_X1_earliest_5 (K := fun o_v_4 => ((match o_v_4 with | Sum.inl v_4 => some (-9) | Sum.inr v_5 => some v_5)).bind some) X hr hk o ho_o Hv_4 (fun z h => Option.some.inj h) NF 131071 0 h
abbrev rm_X1_empty : Room := { frames := 0, cells := 0, slots := 0, locals := 0 }
theorem pn_X1_empty : yX1_empty.cls ≠ "java/lang/invoke/MethodHandle" ∧ yX1_empty.cls ≠ "java/lang/invoke/VarHandle" ∧ (parseMethodDescriptor yX1_empty.desc).map (fun d => d.parameters.length) = some 0 := by decide +kernel
def L_X1_empty_2 (o : Nat) : Nat → Int32 → Mem → Option (Mem)
  | 0, _, _ => none
  | n + 1, x1, G => (if 17 ≤ x1 then some G else (ast 17 G (o + 1) x1 (1 <<< (x1 &&& 31))).bind (fun q_2 => (ast 17 q_2 (o + 2) x1 0).bind (fun q_3 => L_X1_empty_2 o n (x1 + 1) q_3)))
def m_X1_empty (G : Mem) (o : Nat) : Option (Mem) := (L_X1_empty_2 o NF 0 G).bind (fun v_4 => some v_4)
set_option maxRecDepth 100000 in
set_option maxHeartbeats 4000000 in
theorem jL_X1_empty_2 {p : Program} {l : Launch} {e : Env} {s : State} {m : MethodId} {args : Array Value} {below : List Frame} {meth : Method} {c : Code} {w : WP} (X : fw_X p s m args c cX1_empty 2 RX1 w) (hr : meth.sig.returnType = none) (hk : meth.locks = false) (o : Nat) (ho_o : o = 27 ∨ o = 31) {res : Mem} {K : Mem → Option (Mem)} (HK : ∀ v : Mem, K v = some res → J p l e rm_X1_empty s m args below meth c (Qvoid below args s w res) w 2 v 30 [] []) : ∀ (n : Nat) (x1 : Int32) (G : Mem), (L_X1_empty_2 o n x1 G).bind K = some res → J p l e rm_X1_empty s m args below meth c (Qvoid below args s w res) w 2 G 2 [(0, .ref (w.1 o)), (1, .int x1)] [] := by
  have hs_o : fw_lay[o]? = some (.inl (1, [some (o + 1), some (o + 2)])) := by rcases ho_o with rfl | rfl <;> rfl
  have hs_o_1 : fw_lay[o + 1]? = some (.inr (0, 17, 0)) := by rcases ho_o with rfl | rfl <;> rfl
  have hs_o_2 : fw_lay[o + 2]? = some (.inr (0, 17, 0)) := by rcases ho_o with rfl | rfl <;> rfl
  intro n
  induction n with
  | zero =>
    intro x1 G h
    rw [L_X1_empty_2] at h
    cases h
  | succ n ih =>
    intro x1 G h
    rw [L_X1_empty_2] at h
    refine j_iload_n X dX1_empty_2 rfl 1 rfl ?_
    refine j_bipush (v := 17) X dX1_empty_3 (by decide) ?_
    refine j_icmp_ge X 30 dX1_empty_5 (by decide) (fun c_1 => ?_) (fun c_1 => ?_)
    · have h := bi_t c_1 h
      refine j_pick [] rfl ?_
      exact HK G h
    · have h := bi_f c_1 h
      refine j_aload_n X dX1_empty_8 rfl 0 rfl ?_
      refine j_getR (C := RX1) (T := TX1) (N := 2) X o hs_o rfl hin_X1 0 (by decide) (o + 1) rfl q_183 dX1_empty_9 ?_
      refine j_iload_n X dX1_empty_12 rfl 1 rfl ?_
      refine j_iconst (v := 1) X dX1_empty_13 (by decide) ?_
      refine j_iload_n X dX1_empty_14 rfl 1 rfl ?_
      refine j_ishl X dX1_empty_15 ?_
      obtain ⟨q_2, hq_2, h⟩ := bd_s h
      refine j_iast X (o + 1) 17 hs_o_1 hq_2 dX1_empty_16 ?_
      refine j_aload_n X dX1_empty_17 rfl 0 rfl ?_
      refine j_getR (C := RX1) (T := TX1) (N := 2) X o hs_o rfl hin_X1 1 (by decide) (o + 2) rfl q_184 dX1_empty_18 ?_
      refine j_iload_n X dX1_empty_21 rfl 1 rfl ?_
      refine j_iconst (v := 0) X dX1_empty_22 (by decide) ?_
      obtain ⟨q_3, hq_3, h⟩ := bd_s h
      refine j_iast X (o + 2) 17 hs_o_2 hq_3 dX1_empty_23 ?_
      refine j_iinc (v := x1 + 1) X [(1, .int (x1 + 1)), (0, .ref (w.1 o))] dX1_empty_24 1 rfl rfl (by decide) rfl ?_
      refine j_goto X 2 dX1_empty_27 (by decide) ?_
      refine j_pick [1, 0] rfl ?_
      exact ih (x1 + 1) q_3 h
set_option maxRecDepth 100000 in
set_option maxHeartbeats 4000000 in
theorem c_X1_empty (l : Launch) (w : WP) (G : Mem) (o : Nat) (ho_o : o = 27 ∨ o = 31) {res : Mem} (h0 : m_X1_empty G o = some res) : CMv l yX1_empty cX1_empty 2 none 0 0 w [.ref (w.1 o)] G res := by
  have hs_o : fw_lay[o]? = some (.inl (1, [some (o + 1), some (o + 2)])) := by rcases ho_o with rfl | rfl <;> rfl
  have hs_o_1 : fw_lay[o + 1]? = some (.inr (0, 17, 0)) := by rcases ho_o with rfl | rfl <;> rfl
  have hs_o_2 : fw_lay[o + 2]? = some (.inr (0, 17, 0)) := by rcases ho_o with rfl | rfl <;> rfl
  refine CMv.of (by decide +kernel) (Nat.le_of_ble_eq_true rfl) ?_
  intro p e s m args below meth c X hr hk
  have h := bs_i h0
  unfold m_X1_empty at h
  show J p l e rm_X1_empty s m args below meth c (Qvoid below args s w res) w 2 G 0 [(0, .ref (w.1 o))] []
  refine j_iconst (v := 0) X dX1_empty_0 (by decide) ?_
  refine j_istore_n X [(1, .int 0), (0, .ref (w.1 o))] dX1_empty_1 rfl (by decide) rfl ?_
  have h := bb_a h
  have Hv_4 : ∀ v_4 : Mem, (some v_4).bind some = some res → J p l e rm_X1_empty s m args below meth c (Qvoid below args s w res) w 2 v_4 30 [] [] := by
    intro v_4 h
    exact j_vret X hr hk dX1_empty_30 (Option.some.inj h)
  refine j_pick [1, 0] rfl ?_
  exact jL_X1_empty_2 X hr hk o ho_o Hv_4 NF 0 G h
abbrev rm_X1_isAhead : Room := { frames := 1, cells := 0, slots := 0, locals := 21 }
theorem pn_X1_isAhead : yX1_isAhead.cls ≠ "java/lang/invoke/MethodHandle" ∧ yX1_isAhead.cls ≠ "java/lang/invoke/VarHandle" ∧ (parseMethodDescriptor yX1_isAhead.desc).map (fun d => d.parameters.length) = some 2 := by decide +kernel
def m_X1_isAhead (G : Mem) (o : Nat) (p1 : Int32) (p2 : Int32) : Option (Int32) := (if (m_X1_isWithin p1) = 0 then some 0 else (ald 17 G (o + 2) p1).bind (fun r_2 => (if (m_X8_has r_2 p2) = 0 then some 0 else some 1)))
set_option maxRecDepth 100000 in
set_option maxHeartbeats 4000000 in
theorem c_X1_isAhead (l : Launch) (w : WP) (G : Mem) (o : Nat) (ho_o : o = 27 ∨ o = 31) (p1 : Int32) (p2 : Int32) {res : Int32} (h0 : m_X1_isAhead G o p1 p2 = some res) : CMi l yX1_isAhead cX1_isAhead 3 (some .boolean) 1 21 w [.ref (w.1 o), .int p1, .int p2] G (res, G) := by
  have hs_o : fw_lay[o]? = some (.inl (1, [some (o + 1), some (o + 2)])) := by rcases ho_o with rfl | rfl <;> rfl
  have hs_o_1 : fw_lay[o + 1]? = some (.inr (0, 17, 0)) := by rcases ho_o with rfl | rfl <;> rfl
  have hs_o_2 : fw_lay[o + 2]? = some (.inr (0, 17, 0)) := by rcases ho_o with rfl | rfl <;> rfl
  refine CMi.of (by decide +kernel) (Nat.le_of_ble_eq_true rfl) ?_
  intro p e s m args below meth c X hr hk
  have h := bs_i h0
  unfold m_X1_isAhead at h
  show J p l e rm_X1_isAhead s m args below meth c (Qint below args s w (res, G)) w 3 G 0 [(0, .ref (w.1 o)), (1, .int p1), (2, .int p2)] []
  refine j_iload_n X dX1_isAhead_0 rfl 1 rfl ?_
  refine j_callSi (As := [.int p1]) X (c_X1_isWithin l w G  p1) pn_X1_isWithin q_633 q_634 q_65 q_635 ⟨Nat.le_of_ble_eq_true rfl, Nat.le_of_ble_eq_true rfl⟩ (Nat.le_of_ble_eq_true rfl) rfl dX1_isAhead_1 ?_
  refine j_if_eq X 24 dX1_isAhead_4 (by decide) (fun c_1 => ?_) (fun c_1 => ?_)
  · have h := bi_t c_1 h
    refine j_iconst (v := 0) X dX1_isAhead_24 (by decide) ?_
    exact j_zret X hr hk (by decide) dX1_isAhead_25 (congrArg (fun z => (z, G)) (Option.some.inj h))
  · have h := bi_f c_1 h
    refine j_aload_n X dX1_isAhead_7 rfl 0 rfl ?_
    refine j_getR (C := RX1) (T := TX1) (N := 2) X o hs_o rfl hin_X1 1 (by decide) (o + 2) rfl q_184 dX1_isAhead_8 ?_
    refine j_iload_n X dX1_isAhead_11 rfl 1 rfl ?_
    obtain ⟨r_2, hr_2, h⟩ := bd_s h
    refine j_iald X (o + 2) 17 hs_o_2 hr_2 dX1_isAhead_12 ?_
    refine j_iload_n X dX1_isAhead_13 rfl 2 rfl ?_
    refine j_callNi (As := [.int r_2, .int p2]) X (c_X8_has l w G  r_2 p2) pn_X8_has nm_1 q_620 q_59 q_621 ⟨Nat.le_of_ble_eq_true rfl, Nat.le_of_ble_eq_true rfl⟩ (Nat.le_of_ble_eq_true rfl) rfl dX1_isAhead_14 ?_
    refine j_if_eq X 24 dX1_isAhead_17 (by decide) (fun c_3 => ?_) (fun c_3 => ?_)
    · have h := bi_t c_3 h
      refine j_iconst (v := 0) X dX1_isAhead_24 (by decide) ?_
      exact j_zret X hr hk (by decide) dX1_isAhead_25 (congrArg (fun z => (z, G)) (Option.some.inj h))
    · have h := bi_f c_3 h
      refine j_iconst (v := 1) X dX1_isAhead_20 (by decide) ?_
      refine j_goto X 25 dX1_isAhead_21 (by decide) ?_
      exact j_zret X hr hk (by decide) dX1_isAhead_25 (congrArg (fun z => (z, G)) (Option.some.inj h))
