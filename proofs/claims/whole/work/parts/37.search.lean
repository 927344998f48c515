/-! ===== 37 the class's Search: steps noted, joined ===== -/
theorem hasM {m i : Nat} (hm : m < 2147483648) (hi : i < 32) : m_X8_has (nI m) (nI i) = 0 ↔ ¬ m.testBit i = true := by
  rw [has_0 _ hi, bt_nI (by omega) hi]
  simp
theorem le14 {a : Nat} (h : 14 ≤ a) (ha : a < 2147483648) : (14 : Int32) ≤ nI a := nI_le (a := 14) h ha
theorem nle14 {a : Nat} (h : a < 14) : ¬ (14 : Int32) ≤ nI a := nI_ge (b := 14) h (by omega)
theorem le17 {a : Nat} (h : 17 ≤ a) (ha : a < 2147483648) : (17 : Int32) ≤ nI a := nI_le (a := 17) h ha
theorem nle17 {a : Nat} (h : a < 17) : ¬ (17 : Int32) ≤ nI a := nI_ge (b := 17) h (by omega)
theorem nbRow {G : Mem} {x : Nat} (hx : x < 17) : m_X1_notBehindRow G 31 (nI x) = some (G 32 x) := by
  unfold m_X1_notBehindRow
  rw [if_neg (within_1 hx), ald_nI hx (by omega), Option.bind_some]
theorem ahRow {G : Mem} {x : Nat} (hx : x < 17) : m_X1_aheadRow G 31 (nI x) = some (G 33 x) := by
  unfold m_X1_aheadRow
  rw [if_neg (within_1 hx), ald_nI hx (by omega), Option.bind_some]
theorem note32 {k : Nat} (hk : k < 14) (G : Mem) : Ok (L_X3_noteSteps_32 (nI k) NF 0 G) (fun s => (∀ j, j ≠ 35 + k → j ≠ 50 + k → s j = G j) ∧ ∀ p, p < 17 → s (35 + k) p = G 32 p ∧ s (50 + k) p = G 33 p) := by
  refine up_loop (L_X3_noteSteps_32 (nI k)) 17 (fun x s => (∀ j, j ≠ 35 + k → j ≠ 50 + k → s j = G j) ∧ ∀ p, p < x → s (35 + k) p = G 32 p ∧ s (50 + k) p = G 33 p) _ (fun n s h => by
    rw [L_X3_noteSteps_32, if_pos (le17 (Nat.le_refl _) (by omega))]; exact Ok.pure h) (fun n x s hx h q => ?_) NF 0 G (by omega) (NF_big (by omega)) ⟨fun _ _ _ => rfl, fun p h => absurd h (by omega)⟩
  obtain ⟨a1, a2⟩ := h
  rw [L_X3_noteSteps_32, if_neg (nle17 hx), aal_nI hk (by omega), Option.bind_some, nbRow hx, Option.bind_some, ast_nI hx (by omega), Option.bind_some, aal_nI hk (by omega), Option.bind_some, ahRow hx, Option.bind_some, ast_nI hx (by omega), Option.bind_some, nI_1, upm_n _ _ _ (show (33 : Nat) ≠ 35 + k by omega), a1 32 (by omega) (by omega), a1 33 (by omega) (by omega)]
  refine q _ ⟨fun j u v => by rw [upm_n _ _ _ v, upm_n _ _ _ u]; exact a1 j u v, fun p hp => ?_⟩
  by_cases e : p = x
  · subst e; exact ⟨by rw [upm_n _ _ _ (by omega), upm_kj], upm_kj _ _ _ _⟩
  · exact ⟨by rw [upm_n _ _ _ (by omega), upm_kn _ _ _ e]; exact (a2 p (by omega)).1, by rw [upm_kn _ _ _ e, upm_n _ _ _ (by omega)]; exact (a2 p (by omega)).2⟩
/-- the Search's cells -/
def FS (G s : Mem) : Prop := ∀ k, k < 32 ∨ 66 ≤ k → s k = G k
theorem FS.tr {G G' G'' : Mem} (h : FS G G') (h' : FS G' G'') : FS G G'' := fun k a => (h' k a).trans (h k a)
/-- the steps of each statement -/
def NS (A : Told) (x : Nat) (s : Mem) : Prop := ∀ k, k < x → ∀ p, p < 17 → ∀ y, y < 32 → (bt (s (35 + k) p) y = true ↔ Rk A k p y) ∧ (bt (s (50 + k) p) y = true ↔ Sk A k p y)
theorem noteSteps8 {A : Told} {G : Mem} (hw : WF A) (hC : RowC A (G 2)) : Ok (m_X3_noteSteps G (nI A.ns)) (fun s => FS G s ∧ NS A A.ns s) := by
  have h14 := hw.ns14
  have h1 := hw.1
  unfold m_X3_noteSteps
  refine Ok.bind (up_loop (L_X3_noteSteps_2 (nI A.ns)) A.ns (fun x s => FS G s ∧ NS A x s) (fun s => FS G s ∧ NS A A.ns s) (fun n s h => by
    rw [L_X3_noteSteps_2, if_pos (nI_le (Nat.le_refl _) (by omega))]; exact Ok.pure h) (fun n x s hx h q => ?_) NF 0 G (by omega) (NF_big (by omega)) ⟨fun _ _ => rfl, fun k h => absurd h (by omega)⟩) (fun s h => Ok.pure h)
  obtain ⟨a1, a2⟩ := h
  rw [L_X3_noteSteps_2, if_neg (nI_ge hx (by omega)), if_neg (nle14 (by omega))]
  obtain ⟨f0, g0, e0, o0⟩ := empty_eq (G := s) (o := 31)
  obtain ⟨f1, g1, e1, o1⟩ := tellOne_eq (G := s) (o := 31) hw (by rw [a1 2 (by omega)]; exact hC) ⟨by omega, by omega⟩ hx o0
  rw [List.append_nil] at o1
  rw [e0, Option.bind_some, e1, Option.bind_some]
  obtain ⟨s', e', b1, b2⟩ := note32 (k := x) (by omega) (or2 s 31 f1 g1)
  rw [e', Option.bind_some, nI_1]
  have hcan := o1.can (Can_st hw hx)
  refine q _ ⟨fun k hk => by rw [b1 k (by omega) (by omega), or2_n _ _ _ (by omega) (by omega)]; exact a1 k hk, fun k hk p hp y hy => ?_⟩
  by_cases e : k = x
  · subst e
    rw [(b2 p hp).1, (b2 p hp).2, or2_1 s 31, or2_2 s 31]
    exact ⟨o1.1 p hp y hy, hcan p hp y hy⟩
  · rw [b1 (35 + k) (by omega) (by omega), b1 (50 + k) (by omega) (by omega), or2_n _ _ _ (by omega) (by omega), or2_n _ _ _ (by omega) (by omega)]
    exact a2 k (by omega) p hp y hy
theorem join26 {m p : Nat} (hm : m < 2147483648) (hp : p < 17) (G : Mem) : Ok (L_X3_joinSteps_26 (nI m) (nI p) NF 0 G) (fun s => (∀ j, j ≠ 64 → j ≠ 65 → s j = G j) ∧ (∀ q, q ≠ p → s 64 q = G 64 q ∧ s 65 q = G 65 q) ∧ ∀ y, y < 32 → (bt (s 64 p) y = true ↔ (bt (G 64 p) y = true ∨ ∃ k, k < 14 ∧ m.testBit k = true ∧ bt (G (35 + k) p) y = true)) ∧ (bt (s 65 p) y = true ↔ (bt (G 65 p) y = true ∨ ∃ k, k < 14 ∧ m.testBit k = true ∧ bt (G (50 + k) p) y = true))) := by
  refine up_loop (L_X3_joinSteps_26 (nI m) (nI p)) 14 (fun x s => (∀ j, j ≠ 64 → j ≠ 65 → s j = G j) ∧ (∀ q, q ≠ p → s 64 q = G 64 q ∧ s 65 q = G 65 q) ∧ ∀ y, y < 32 → (bt (s 64 p) y = true ↔ (bt (G 64 p) y = true ∨ ∃ k, k < x ∧ m.testBit k = true ∧ bt (G (35 + k) p) y = true)) ∧ (bt (s 65 p) y = true ↔ (bt (G 65 p) y = true ∨ ∃ k, k < x ∧ m.testBit k = true ∧ bt (G (50 + k) p) y = true))) _ (fun n s h => by
    rw [L_X3_joinSteps_26, if_pos (le14 (Nat.le_refl _) (by omega))]; exact Ok.pure h) (fun n x s hx h q => ?_) NF 0 G (by omega) (NF_big (by omega)) ⟨fun _ _ _ => rfl, fun _ _ => ⟨rfl, rfl⟩, fun y hy => ⟨⟨Or.inl, fun z => z.elim id (fun ⟨k, z, _⟩ => absurd z (by omega))⟩, ⟨Or.inl, fun z => z.elim id (fun ⟨k, z, _⟩ => absurd z (by omega))⟩⟩⟩
  obtain ⟨a1, a2, a3⟩ := h
  rw [L_X3_joinSteps_26, if_neg (nle14 hx), nI_1]
  by_cases z : m.testBit x = true
  · rw [if_neg (fun w => (hasM hm (by omega)).mp w z), ald_nI hp (by omega), Option.bind_some, aal_nI hx (by omega), Option.bind_some, ald_nI hp (by omega), Option.bind_some, ast_nI hp (by omega), Option.bind_some, ald_nI hp (by omega), Option.bind_some, aal_nI hx (by omega), Option.bind_some, ald_nI hp (by omega), Option.bind_some, ast_nI hp (by omega), Option.bind_some, Option.bind_some, upm_n _ _ _ (show (65 : Nat) ≠ 64 by omega), upm_n _ _ _ (show 50 + x ≠ 64 by omega), a1 (35 + x) (by omega) (by omega), a1 (50 + x) (by omega) (by omega)]
    refine q _ ⟨fun j u v => by rw [upm_n _ _ _ v, upm_n _ _ _ u]; exact a1 j u v, fun r hr => ⟨by rw [upm_n _ _ _ (by omega), upm_kn _ _ _ hr]; exact (a2 r hr).1, by rw [upm_kn _ _ _ hr, upm_n _ _ _ (by omega)]; exact (a2 r hr).2⟩, fun y hy => ⟨?_, ?_⟩⟩
    · rw [upm_n _ _ _ (by omega), upm_kj, bt_or, Bool.or_eq_true, (a3 y hy).1]
      constructor
      · rintro ((h | ⟨k, k1, k2⟩) | h)
        · exact Or.inl h
        · exact Or.inr ⟨k, by omega, k2⟩
        · exact Or.inr ⟨x, by omega, z, h⟩
      · rintro (h | ⟨k, k1, k2, k3⟩)
        · exact Or.inl (Or.inl h)
        · by_cases e : k = x
          · subst e; exact Or.inr k3
          · exact Or.inl (Or.inr ⟨k, by omega, k2, k3⟩)
    · rw [upm_kj, bt_or, Bool.or_eq_true, (a3 y hy).2]
      constructor
      · rintro ((h | ⟨k, k1, k2⟩) | h)
        · exact Or.inl h
        · exact Or.inr ⟨k, by omega, k2⟩
        · exact Or.inr ⟨x, by omega, z, h⟩
      · rintro (h | ⟨k, k1, k2, k3⟩)
        · exact Or.inl (Or.inl h)
        · by_cases e : k = x
          · subst e; exact Or.inr k3
          · exact Or.inl (Or.inr ⟨k, by omega, k2, k3⟩)
  · rw [if_pos ((hasM hm (by omega)).mpr z), Option.bind_some]
    have ext : ∀ (P : Nat → Prop), (∃ k, k < x + 1 ∧ m.testBit k = true ∧ P k) ↔ (∃ k, k < x ∧ m.testBit k = true ∧ P k) := fun P => by
      constructor
      · rintro ⟨k, k1, k2, k3⟩
        by_cases e : k = x
        · subst e; exact absurd k2 z
        · exact ⟨k, by omega, k2, k3⟩
      · rintro ⟨k, k1, k2⟩; exact ⟨k, by omega, k2⟩
    refine q _ ⟨a1, a2, fun y hy => ⟨?_, ?_⟩⟩
    · rw [ext (fun k => bt (G (35 + k) p) y = true)]; exact (a3 y hy).1
    · rw [ext (fun k => bt (G (50 + k) p) y = true)]; exact (a3 y hy).2
/-- the steps of a set -/
def JS (A : Told) (b : Nat → Bool) (s : Mem) : Prop := ∀ p, p < 17 → ∀ y, y < 32 → (bt (s 64 p) y = true ↔ Nst A b p y) ∧ (bt (s 65 p) y = true ↔ Sst A b p y)
theorem joinSteps8 {A : Told} (hw : WF A) {G : Mem} (hN : NS A A.ns G) {m : Nat} (hm : m < 2 ^ A.ns) : Ok (m_X3_joinSteps G (nI m)) (fun s => (∀ j, j ≠ 64 → j ≠ 65 → s j = G j) ∧ JS A (fun i => m.testBit i) s) := by
  have h14 := hw.ns14
  have hm2 : m < 2147483648 := Nat.lt_of_lt_of_le hm (Nat.le_trans (Nat.pow_le_pow_right (by omega) h14) (by decide))
  unfold m_X3_joinSteps
  refine Ok.bind (up_loop (L_X3_joinSteps_2 (nI m)) 17 (fun x s => (∀ j, j ≠ 64 → j ≠ 65 → s j = G j) ∧ ∀ p, p < x → ∀ y, y < 32 → (bt (s 64 p) y = true ↔ Nst A (fun i => m.testBit i) p y) ∧ (bt (s 65 p) y = true ↔ Sst A (fun i => m.testBit i) p y)) (fun s => (∀ j, j ≠ 64 → j ≠ 65 → s j = G j) ∧ JS A (fun i => m.testBit i) s) (fun n s h => by
    rw [L_X3_joinSteps_2, if_pos (le17 (Nat.le_refl _) (by omega))]; exact Ok.pure h) (fun n x s hx h q => ?_) NF 0 G (by omega) (NF_big (by omega)) ⟨fun _ _ _ => rfl, fun k h => absurd h (by omega)⟩) (fun s h => Ok.pure h)
  obtain ⟨a1, a2⟩ := h
  rw [L_X3_joinSteps_2, if_neg (nle17 hx), ast_nI hx (by omega), Option.bind_some, ast_nI hx (by omega), Option.bind_some]
  obtain ⟨s', e', b1, b2, b3⟩ := join26 hm2 hx (upm (upm s 64 x (1 <<< (nI x &&& 31))) 65 x 0)
  rw [e', Option.bind_some, nI_1]
  have eG : ∀ j, j ≠ 64 → j ≠ 65 → upm (upm s 64 x (1 <<< (nI x &&& 31))) 65 x 0 j = G j := fun j u v => by rw [upm_n _ _ _ v, upm_n _ _ _ u]; exact a1 j u v
  refine q _ ⟨fun j u v => by rw [b1 j u v]; exact eG j u v, fun p hp y hy => ?_⟩
  by_cases e : p = x
  · subst e
    have kb : ∀ k, m.testBit k = true → k < A.ns := fun k hk => bit_lt hm hk
    constructor
    · rw [(b3 y hy).1, upm_n _ _ _ (show (64 : Nat) ≠ 65 by omega), upm_kj, bt_pow (by omega) hy]
      constructor
      · rintro (h | ⟨k, k1, k2, k3⟩)
        · exact Or.inl (of_decide_eq_true h).symm
        · rw [eG (35 + k) (by omega) (by omega)] at k3
          exact Or.inr ⟨k, kb k k2, k2, (hN k (kb k k2) p hx y hy).1.mp k3⟩
      · rintro (h | ⟨k, k1, k2, k3⟩)
        · left; simp [h]
        · refine Or.inr ⟨k, by omega, k2, ?_⟩
          rw [eG (35 + k) (by omega) (by omega)]
          exact (hN k k1 p hx y hy).1.mpr k3
    · rw [(b3 y hy).2, upm_kj, bt_0]
      constructor
      · rintro (h | ⟨k, k1, k2, k3⟩)
        · exact absurd h (by decide)
        · rw [eG (50 + k) (by omega) (by omega)] at k3
          exact ⟨k, kb k k2, k2, (hN k (kb k k2) p hx y hy).2.mp k3⟩
      · rintro ⟨k, k1, k2, k3⟩
        refine Or.inr ⟨k, by omega, k2, ?_⟩
        rw [eG (50 + k) (by omega) (by omega)]
        exact (hN k k1 p hx y hy).2.mpr k3
  · obtain ⟨c1, c2⟩ := b2 p e
    rw [c1, c2, upm_n _ _ _ (show (64 : Nat) ≠ 65 by omega), upm_kn _ _ _ e, upm_kn _ _ _ e, upm_n _ _ _ (show (65 : Nat) ≠ 64 by omega)]
    exact a2 p (by omega) y hy
