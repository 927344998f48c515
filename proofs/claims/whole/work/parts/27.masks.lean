/-! ===== 27 masks of events ===== -/
theorem sub_and {C C' : Nat} : C &&& C' = C ↔ Sub C C' := by
  constructor
  · intro h i hi
    have : (C &&& C').testBit i = true := by rw [h]; exact hi
    rw [Nat.testBit_and, Bool.and_eq_true] at this
    exact this.2
  · intro h
    apply Nat.eq_of_testBit_eq
    intro i
    rw [Nat.testBit_and]
    cases hc : C.testBit i
    · rfl
    · rw [h i hc]; rfl
theorem Sub.le {C C' : Nat} (h : Sub C C') : C ≤ C' := by rw [← sub_and.mpr h]; exact Nat.and_le_right
theorem pow_lt31 : ∀ k, k ≤ 8 → 12 ^ k < 2147483648 := by
  intro k hk
  rcases (show k = 0 ∨ k = 1 ∨ k = 2 ∨ k = 3 ∨ k = 4 ∨ k = 5 ∨ k = 6 ∨ k = 7 ∨ k = 8 by omega) with rfl | rfl | rfl | rfl | rfl | rfl | rfl | rfl | rfl <;> decide
theorem pc8_le (C : Nat) : pc8 C ≤ 8 := by unfold pc8; omega
theorem wtB_lt (C : Nat) : wtB C < 2147483648 := pow_lt31 _ (by omega)
theorem wtF_lt (C : Nat) : wtF C < 2147483648 := pow_lt31 _ (pc8_le C)
theorem wtB_pos (C : Nat) : 1 ≤ wtB C := Nat.pow_pos (by omega)
theorem wtF_pos (C : Nat) : 1 ≤ wtF C := Nat.pow_pos (by omega)
/-- states grow as sets -/
def Gr (T : Nat → Nat → Prop) (w : Nat) : Prop := ∀ C C', T C C' → Sub C C' ∧ C ≠ C' ∧ C' < 256 ∧ Sub C' w
theorem Gr.up {T : Nat → Nat → Prop} {w : Nat} (h : Gr T w) : Up T := fun C C' z => by
  obtain ⟨a, b, c, _⟩ := h C C' z
  have := a.le
  omega
theorem Gr.t1 {T : Nat → Nat → Prop} {w : Nat} (h : Gr T w) (x y : Nat) : Gr (T1 T x y) w := fun C C' z => h C C' z.1
theorem Gr.t3 {T : Nat → Nat → Prop} {w : Nat} (h : Gr T w) (x y : Nat) : Gr (T3 T x y) w := fun C C' z => h C C' z.1
theorem bw_le {T : Nat → Nat → Prop} {w : Nat} (h : Gr T w) : ∀ C, C < 256 → bw T w C ≤ wtB C := by
  have key : ∀ d C, 256 - C ≤ d → C < 256 → bw T w C ≤ wtB C := by
    intro d
    induction d with
    | zero => intro C h1 h2; omega
    | succ d ih =>
      intro C h1 h2
      rw [bw_eq h.up w h2]
      by_cases e : C = w
      · rw [iv_t e, sm_zero (fun C' hC' => iv_f (fun z => ?_) _)]
        · exact wtB_pos C
        · obtain ⟨a, b, c, d'⟩ := h C C' z
          rw [← e] at d'
          have := a.le
          have := d'.le
          omega
      · rw [iv_f e, Nat.zero_add]
        refine Nat.le_trans (sm_le (fun C' hC' => ?_)) (wtB_ok C h2)
        by_cases z : T C C'
        · obtain ⟨a, b, c, _⟩ := h C C' z
          have := a.le
          rw [iv_t z, if_pos (sub_and.mpr a), if_neg b]
          exact ih C' (by omega) hC'
        · rw [iv_f z]; exact Nat.zero_le _
  intro C hC
  exact key 256 C (by omega) hC
theorem fw_le {T : Nat → Nat → Prop} {w : Nat} (h : Gr T w) : ∀ C, C < 256 → fw T C ≤ wtF C := by
  have key : ∀ d C, C < d → C < 256 → fw T C ≤ wtF C := by
    intro d
    induction d with
    | zero => intro C h1 h2; omega
    | succ d ih =>
      intro C h1 h2
      rw [fw_eq h.up h2]
      by_cases e : C = 0
      · rw [iv_t e, sm_zero (fun C' hC' => iv_f (fun z => ?_) _)]
        · exact wtF_pos C
        · have := h.up C' C z
          omega
      · rw [iv_f e, Nat.zero_add]
        refine Nat.le_trans (sm_le (fun C' hC' => ?_)) (wtF_ok C h2)
        by_cases z : T C' C
        · obtain ⟨a, b, c, _⟩ := h C' C z
          have := a.le
          rw [iv_t z, if_pos (sub_and.mpr a), if_neg b]
          exact ih C' (by omega) hC'
        · rw [iv_f z]; exact Nat.zero_le _
  intro C hC
  exact key 256 C (by omega) hC
theorem bw_lt {T : Nat → Nat → Prop} {w : Nat} (h : Gr T w) {C : Nat} (hC : C < 256) : bw T w C < 2147483648 := Nat.lt_of_le_of_lt (bw_le h C hC) (wtB_lt C)
theorem fw_lt {T : Nat → Nat → Prop} {w : Nat} (h : Gr T w) {C : Nat} (hC : C < 256) : fw T C < 2147483648 := Nat.lt_of_le_of_lt (fw_le h C hC) (wtF_lt C)
/-- ways to a state come only from states of the start's kind -/
theorem fw_in {T : Nat → Nat → Prop} {w : Nat} (h : Gr T w) : ∀ C, C < 256 → fw T C ≠ 0 → Sub C w := by
  intro C hC hne
  by_cases e : C = 0
  · subst e; intro i hi; simp at hi
  · refine Classical.byContradiction (fun hn => hne ?_)
    rw [fw_eq h.up hC, iv_f e, Nat.zero_add]
    exact sm_zero (fun C' _ => iv_f (fun z => hn (h C' C z).2.2.2) _)
/-! bits of small numbers -/
theorem bt_nI {n i : Nat} (hn : n < 4294967296) (hi : i < 32) : bt (nI n) i = n.testBit i := by
  unfold bt
  have e : (nI n).toBitVec = BitVec.ofNat 32 n := rfl
  rw [e, BitVec.getLsbD_ofNat]
  simp [hi]
theorem tb_out {C i : Nat} (hC : C < 256) (hi : 8 ≤ i) : C.testBit i = false := Nat.testBit_lt_two_pow (Nat.lt_of_lt_of_le hC (Nat.le_trans (show 256 ≤ 2 ^ 8 by decide) (Nat.pow_le_pow_right (by omega) hi)))
theorem tb_out2 {C i k : Nat} (hC : C < 2 ^ k) (hi : k ≤ i) : C.testBit i = false := Nat.testBit_lt_two_pow (Nat.lt_of_lt_of_le hC (Nat.pow_le_pow_right (by omega) hi))
theorem mask_ext {a b : Nat} (ha : a < 256) (hb : b < 256) (h : ∀ i, i < 8 → a.testBit i = b.testBit i) : a = b := by
  apply Nat.eq_of_testBit_eq
  intro i
  by_cases hi : i < 8
  · exact h i hi
  · rw [tb_out ha (by omega), tb_out hb (by omega)]
theorem nI_or {a b : Nat} (ha : a < 2147483648) (hb : b < 2147483648) : nI a ||| nI b = nI (a ||| b) := by
  have : a ||| b < 2 ^ 31 := Nat.or_lt_two_pow ha hb
  apply bt_ext
  intro i hi
  rw [bt_or, bt_nI (by omega) hi, bt_nI (by omega) hi, bt_nI (by omega) hi, Nat.testBit_or]
theorem nI_and {a b : Nat} (ha : a < 2147483648) (hb : b < 2147483648) : nI a &&& nI b = nI (a &&& b) := by
  have : a &&& b ≤ a := Nat.and_le_left
  apply bt_ext
  intro i hi
  rw [bt_and, bt_nI (by omega) hi, bt_nI (by omega) hi, bt_nI (by omega) hi, Nat.testBit_and]
/-- an int whose bits are a small mask's is that mask -/
theorem nI_of_bits {x : Int32} {m : Nat} (hm : m < 2147483648) (h : ∀ i, i < 32 → bt x i = m.testBit i) : x = nI m := bt_ext (fun i hi => by rw [h i hi, bt_nI (by omega) hi])
/-- the mask of a predicate -/
theorem mask_n (P : Nat → Prop) : ∀ n, ∃ m, m < 2 ^ n ∧ ∀ i, i < n → (m.testBit i = true ↔ P i) := by
  intro n
  induction n with
  | zero => exact ⟨0, by decide, fun i h => absurd h (by omega)⟩
  | succ n ih =>
    obtain ⟨m, h1, h2⟩ := ih
    have hp : 2 ^ n < 2 ^ (n + 1) := Nat.pow_lt_pow_right (by omega) (by omega)
    by_cases h : P n
    · refine ⟨m ||| 2 ^ n, Nat.or_lt_two_pow (by omega) hp, fun i hi => ?_⟩
      rw [Nat.testBit_or, Nat.testBit_two_pow]
      by_cases e : i = n
      · subst e; simp [h]
      · rw [Bool.or_eq_true, h2 i (by omega)]
        constructor
        · rintro (z | z)
          · exact z
          · exact absurd (of_decide_eq_true z).symm e
        · exact Or.inl
    · refine ⟨m, by omega, fun i hi => ?_⟩
      by_cases e : i = n
      · subst e
        rw [tb_out2 h1 (Nat.le_refl _)]
        exact ⟨fun z => absurd z (by decide), fun z => absurd z h⟩
      · exact h2 i (by omega)
theorem mask_of (P : Nat → Prop) : ∃ m, m < 256 ∧ ∀ i, i < 8 → (m.testBit i = true ↔ P i) := mask_n P 8
/-! all the parts of a mask, downwards -/
def enumf (m : Nat) : Nat → Nat → List Nat
  | 0, _ => []
  | k + 1, s => if s = 0 then [] else s :: enumf m k ((s - 1) &&& m)
def dn : Nat → List Nat
  | 0 => []
  | n + 1 => n :: dn n
theorem enum_ok : ∀ m, m < 256 → enumf m 256 m = (dn 256).filter (fun s => s &&& m == s && !(s == 0)) := by
  decide +kernel
def lsum (h : Nat → Nat) : List Nat → Nat
  | [] => 0
  | x :: l => h x + lsum h l
theorem lsum_dn (p : Nat → Bool) (h : Nat → Nat) : ∀ n, lsum h ((dn n).filter p) = sm n (fun i => if p i then h i else 0) := by
  intro n
  induction n with
  | zero => rfl
  | succ n ih =>
    show lsum h ((n :: dn n).filter p) = sm n (fun i => if p i then h i else 0) + (if p n then h n else 0)
    by_cases e : p n = true
    · rw [List.filter_cons_of_pos e, if_pos e]
      show h n + lsum h ((dn n).filter p) = _
      rw [ih]
      omega
    · rw [List.filter_cons_of_neg e, if_neg e, ih, Nat.add_zero]
theorem lsum_enum {m : Nat} (hm : m < 256) (h : Nat → Nat) : lsum h (enumf m 256 m) = sm 256 (fun s => iv (Sub s m ∧ s ≠ 0) (h s)) := by
  rw [enum_ok m hm, lsum_dn]
  refine sm_congr (fun s hs => ?_)
  by_cases z : Sub s m ∧ s ≠ 0
  · rw [iv_t z, if_pos]
    simp [sub_and.mpr z.1, z.2]
  · rw [iv_f z, if_neg]
    intro q
    apply z
    simp at q
    exact ⟨sub_and.mp q.1, q.2⟩
theorem enum_mem {m s : Nat} (hm : m < 256) (h : s ∈ enumf m 256 m) : Sub s m ∧ s ≠ 0 ∧ s < 256 := by
  rw [enum_ok m hm, List.mem_filter] at h
  have h2 := h.2
  simp at h2
  have h3 := sub_and.mp h2.1
  exact ⟨h3, h2.2, Nat.lt_of_le_of_lt h3.le hm⟩
