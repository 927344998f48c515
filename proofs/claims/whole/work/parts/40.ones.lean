/-! ===== 40 how many a mask has: the class by Integer.bitCount, the reference by its loop ===== -/
theorem ct_out {m n : Nat} (hm : m < 2 ^ n) : ∀ d, ct m (n + d) = ct m n := by
  intro d
  induction d with
  | zero => rfl
  | succ d ih =>
    show ct m (n + d) + (if m.testBit (n + d) then 1 else 0) = ct m n
    rw [ih, tb_out2 hm (by omega)]
    rfl
theorem ct_14 {m n : Nat} (hm : m < 2 ^ n) (hn : n ≤ 14) : ct m 14 = ct m n := by
  have := ct_out hm (14 - n)
  rwa [show n + (14 - n) = 14 by omega] at this
theorem cn_full {b : Nat → Bool} : ∀ n, cn b n = n → ∀ i, i < n → b i = true := by
  intro n
  induction n with
  | zero => intro _ i h; omega
  | succ n ih =>
    intro h i hi
    unfold cn at h
    have h1 := cn_le_n b n
    by_cases z : b n = true
    · rw [if_pos z] at h
      by_cases e : i = n
      · subst e; exact z
      · exact ih (by omega) i (by omega)
    · rw [if_neg z] at h; omega
theorem cn_all {b : Nat → Bool} : ∀ n, (∀ i, i < n → b i = true) → cn b n = n := by
  intro n
  induction n with
  | zero => intro _; rfl
  | succ n ih =>
    intro h
    unfold cn
    rw [ih (fun i hi => h i (by omega)), if_pos (h n (by omega))]
theorem ct_full {m n : Nat} (hm : m < 2 ^ n) : ct m n = n ↔ m = 2 ^ n - 1 := by
  constructor
  · intro h
    have := cn_full n h
    apply Nat.eq_of_testBit_eq
    intro i
    rw [Nat.testBit_two_pow_sub_one]
    by_cases hi : i < n
    · rw [this i hi]; simp [hi]
    · rw [tb_out2 hm (by omega)]; simp [hi]
  · intro h
    subst h
    exact cn_all n (fun i hi => (whole_b n i).mpr hi)
theorem ct_0 : ∀ n, ct 0 n = 0 := by
  intro n
  induction n with
  | zero => rfl
  | succ n ih =>
    show ct 0 n + (if (0 : Nat).testBit n then 1 else 0) = 0
    rw [ih, Nat.zero_testBit]
    rfl
theorem ones9 {m : Nat} (hm : m < 2147483648) : m_X9_ones (nI m) = some (nI (ct m 14)) := by
  have key : ∀ d x n, x + d = 14 → d < n → L_X9_ones_4 (nI m) n (nI (ct m x)) (nI x) = some (nI (ct m 14)) := by
    intro d
    induction d with
    | zero =>
      intro x n h1 h2
      obtain ⟨n, rfl⟩ : ∃ k, n = k + 1 := ⟨n - 1, by omega⟩
      have e : x = 14 := by omega
      subst e
      rw [L_X9_ones_4, if_pos (le14 (Nat.le_refl _) (by omega))]
    | succ d ih =>
      intro x n h1 h2
      obtain ⟨n, rfl⟩ : ∃ k, n = k + 1 := ⟨n - 1, by omega⟩
      have e : nI (ct m x) + (if m.testBit x = true then 1 else 0) = nI (ct m (x + 1)) := by
        show _ = nI (ct m x + (if m.testBit x = true then 1 else 0))
        by_cases z : m.testBit x = true
        · rw [if_pos z, if_pos z, nI_1]
        · rw [if_neg z, if_neg z]; exact nI_add (ct m x) 0
      rw [L_X9_ones_4, if_neg (nle14 (by omega)), shr_one _ (by omega), bt_nI (by omega) (by omega), nI_1, e]
      exact ih (x + 1) n (by omega) (by omega)
  unfold m_X9_ones
  rw [show L_X9_ones_4 (nI m) NF 0 0 = some (nI (ct m 14)) from key 14 0 NF (by omega) (NF_big (by omega)), Option.bind_some]
/-! the bits counted -/
def bn1 (m : Nat) : Nat := m - (m >>> 1 &&& 1431655765)
def bn2 (m : Nat) : Nat := (m &&& 858993459) + (m >>> 2 &&& 858993459)
def bn3 (m : Nat) : Nat := (m + m >>> 4) &&& 252645135
def bn4 (m : Nat) : Nat := m + m >>> 8
def bn5 (m : Nat) : Nat := m + m >>> 16
def bnc (m : Nat) : Nat := bn5 (bn4 (bn3 (bn2 (bn1 m)))) &&& 63
def s14 (m : Nat) : Nat := m % 2 + m / 2 % 2 + m / 4 % 2 + m / 8 % 2 + m / 16 % 2 + m / 32 % 2 + m / 64 % 2 + m / 128 % 2 + m / 256 % 2 + m / 512 % 2 + m / 1024 % 2 + m / 2048 % 2 + m / 4096 % 2 + m / 8192 % 2
theorem bnc_ok : ∀ a, a < 128 → ∀ b, b < 128 → bnc (128 * a + b) = s14 (128 * a + b) := by
  decide +kernel
theorem ct_s {m : Nat} (x : Nat) : ct m (x + 1) = ct m x + m / 2 ^ x % 2 := by
  show ct m x + (if m.testBit x then 1 else 0) = _
  by_cases z : m.testBit x = true
  · rw [if_pos z, odd_bit z]
  · rw [if_neg z, even_bit z]
theorem ct_s14 (m : Nat) : ct m 14 = s14 m := by
  rw [ct_s 13, ct_s 12, ct_s 11, ct_s 10, ct_s 9, ct_s 8, ct_s 7, ct_s 6, ct_s 5, ct_s 4, ct_s 3, ct_s 2, ct_s 1, ct_s 0, show ct m 0 = 0 from rfl, Nat.zero_add, Nat.pow_zero, Nat.div_one]
  rfl
theorem ush {a k : Nat} (ha : a < 2147483648) (hk : k < 32) : ((nI a).toUInt32 >>> ((nI k).toUInt32 &&& Int32.toUInt32 31)).toInt32 = nI (a >>> k) := by
  have h1 : a >>> k ≤ a := by rw [Nat.shiftRight_eq_div_pow]; exact Nat.div_le_self _ _
  have e : ((nI k).toUInt32 &&& Int32.toUInt32 31).toNat = k := by
    have : ∀ j : Fin 32, ((nI j).toUInt32 &&& Int32.toUInt32 31).toNat = j.val := by decide +kernel
    exact this ⟨k, hk⟩
  have e2 : (nI a).toUInt32.toNat = a := by
    show (BitVec.ofNat 32 a).toNat = a
    rw [BitVec.toNat_ofNat]
    exact Nat.mod_eq_of_lt (by omega)
  have e3 : (nI (a >>> k)).toUInt32.toNat = a >>> k := by
    show (BitVec.ofNat 32 (a >>> k)).toNat = a >>> k
    rw [BitVec.toNat_ofNat]
    exact Nat.mod_eq_of_lt (by omega)
  have : (nI a).toUInt32 >>> ((nI k).toUInt32 &&& Int32.toUInt32 31) = (nI (a >>> k)).toUInt32 := by
    apply UInt32.toNat_inj.mp
    rw [UInt32.toNat_shiftRight, e, e2, e3, Nat.mod_eq_of_lt hk]
  rw [this]
  rfl
theorem bc14 {m : Nat} (hm : m < 16384) : m_J6_bitCount_0f7a4 (nI m) = nI (ct m 14) := by
  have k0 : bnc m = s14 m := by
    have := bnc_ok (m / 128) (by omega) (m % 128) (by omega)
    rwa [show 128 * (m / 128) + m % 128 = m by omega] at this
  have sl : ∀ a k : Nat, a >>> k ≤ a := fun a k => by rw [Nat.shiftRight_eq_div_pow]; exact Nat.div_le_self _ _
  have a1 : m >>> 1 &&& 1431655765 ≤ m := Nat.le_trans Nat.and_le_left (sl m 1)
  have b1 : bn1 m ≤ m := Nat.sub_le _ _
  have b2 : bn2 (bn1 m) ≤ 2 * m := by
    have h1 : bn1 m &&& 858993459 ≤ bn1 m := Nat.and_le_left
    have h2 : bn1 m >>> 2 &&& 858993459 ≤ bn1 m := Nat.le_trans Nat.and_le_left (sl _ 2)
    unfold bn2
    omega
  have b3 : bn3 (bn2 (bn1 m)) ≤ 4 * m := by
    have h1 := sl (bn2 (bn1 m)) 4
    have h2 : bn3 (bn2 (bn1 m)) ≤ bn2 (bn1 m) + bn2 (bn1 m) >>> 4 := Nat.and_le_left
    omega
  have b4 : bn4 (bn3 (bn2 (bn1 m))) ≤ 8 * m := by
    have h1 := sl (bn3 (bn2 (bn1 m))) 8
    unfold bn4
    omega
  have b5 : bn5 (bn4 (bn3 (bn2 (bn1 m)))) ≤ 16 * m := by
    have h1 := sl (bn4 (bn3 (bn2 (bn1 m)))) 16
    unfold bn5
    omega
  rw [ct_s14, ← k0]
  have s1 : nI m - ((((nI m).toUInt32 >>> ((1 : Int32).toUInt32 &&& Int32.toUInt32 31)).toInt32) &&& 1431655765) = nI (bn1 m) := by
    rw [show ((nI m).toUInt32 >>> ((1 : Int32).toUInt32 &&& Int32.toUInt32 31)).toInt32 = nI (m >>> 1) from ush (k := 1) (by omega) (by omega), show (1431655765 : Int32) = nI 1431655765 from rfl, nI_and (by have := sl m 1; omega) (by omega)]
    exact pk_sub a1
  have s2 : ∀ x, x < 2147483648 → (nI x &&& 858993459) + ((((nI x).toUInt32 >>> ((2 : Int32).toUInt32 &&& Int32.toUInt32 31)).toInt32) &&& 858993459) = nI (bn2 x) := by
    intro x hx
    rw [show ((nI x).toUInt32 >>> ((2 : Int32).toUInt32 &&& Int32.toUInt32 31)).toInt32 = nI (x >>> 2) from ush (k := 2) (by omega) (by omega), show (858993459 : Int32) = nI 858993459 from rfl, nI_and hx (by omega), nI_and (by have := sl x 2; omega) (by omega), nI_add]
    rfl
  have s3 : ∀ x, x < 536870912 → (nI x + (((nI x).toUInt32 >>> ((4 : Int32).toUInt32 &&& Int32.toUInt32 31)).toInt32)) &&& 252645135 = nI (bn3 x) := by
    intro x hx
    have := sl x 4
    rw [show ((nI x).toUInt32 >>> ((4 : Int32).toUInt32 &&& Int32.toUInt32 31)).toInt32 = nI (x >>> 4) from ush (k := 4) (by omega) (by omega), show (252645135 : Int32) = nI 252645135 from rfl, nI_add, nI_and (by omega) (by omega)]
    rfl
  have s4 : ∀ x, x < 536870912 → nI x + (((nI x).toUInt32 >>> ((8 : Int32).toUInt32 &&& Int32.toUInt32 31)).toInt32) = nI (bn4 x) := by
    intro x hx
    rw [show ((nI x).toUInt32 >>> ((8 : Int32).toUInt32 &&& Int32.toUInt32 31)).toInt32 = nI (x >>> 8) from ush (k := 8) (by omega) (by omega), nI_add]
    rfl
  have s5 : ∀ x, x < 536870912 → nI x + (((nI x).toUInt32 >>> ((16 : Int32).toUInt32 &&& Int32.toUInt32 31)).toInt32) = nI (bn5 x) := by
    intro x hx
    rw [show ((nI x).toUInt32 >>> ((16 : Int32).toUInt32 &&& Int32.toUInt32 31)).toInt32 = nI (x >>> 16) from ush (k := 16) (by omega) (by omega), nI_add]
    rfl
  unfold m_J6_bitCount_0f7a4
  rw [s1, s2 _ (by omega), s3 _ (by omega), s4 _ (by omega), s5 _ (by omega), show (63 : Int32) = nI 63 from rfl, nI_and (by omega) (by omega)]
  rfl
