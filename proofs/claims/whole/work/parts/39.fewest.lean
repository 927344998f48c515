/-! ===== 39 the class's Search: the fewest, and of them the least number ===== -/
/-- the statements of a mask can't all be so -/
def Um (A : Told) (m : Nat) : Prop := ¬ Can (setH A (fun i => m.testBit i) A.ns)
/-- how many a mask has -/
def ct (m n : Nat) : Nat := cn (fun i => m.testBit i) n
/-- the CLASH -/
def Least (A : Told) (s M : Nat) : Prop := 1 ≤ s ∧ M < 2 ^ A.ns ∧ Um A M ∧ ct M A.ns = s ∧ ∀ m, m < 2 ^ A.ns → Um A m → s ≤ ct m A.ns ∧ (ct m A.ns = s → M ≤ m)
theorem RG_mask {A : Told} (hw : WF A) (S n : Nat) : RG A (fun i => S.testBit i) n ↔ ∃ m, m < 2 ^ A.ns ∧ Sub m S ∧ ct m A.ns ≤ n ∧ Um A m := by
  rw [RG_iff hw]
  constructor
  · rintro ⟨b', h1, h2, h3⟩
    obtain ⟨m, m1, m2⟩ := mask_n (fun i => b' i = true) A.ns
    have e : ∀ i, i < A.ns → m.testBit i = b' i := fun i hi => bit_iff (P := True) (m2 i hi)
    refine ⟨m, m1, fun i hi => h1 i (bit_lt m1 hi) ((m2 i (bit_lt m1 hi)).mp hi), ?_, ?_⟩
    · unfold ct; rw [cn_congr A.ns e]; exact h2
    · unfold Um; rw [setH_congr A.ns e]; exact h3
  · rintro ⟨m, m1, m2, m3, m4⟩
    exact ⟨fun i => m.testBit i, fun i _ hi => m2 i hi, m3, m4⟩
theorem RG_more {A : Told} (hw : WF A) {S n n' : Nat} (h : RG A (fun i => S.testBit i) n) (hn : n ≤ n') : RG A (fun i => S.testBit i) n' := by
  obtain ⟨m, m1, m2, m3, m4⟩ := (RG_mask hw S n).mp h
  exact (RG_mask hw S n').mpr ⟨m, m1, m2, by omega, m4⟩
theorem half_pow (S k : Nat) : S / 2 ^ (k + 1) = S / 2 ^ k / 2 := by rw [Nat.pow_succ, Nat.div_div_eq_div_mul]
theorem odd_bit {S k : Nat} (h : S.testBit k = true) : S / 2 ^ k % 2 = 1 := by
  rw [Nat.testBit_eq_decide_div_mod_eq] at h
  exact of_decide_eq_true h
theorem even_bit {S k : Nat} (h : ¬ S.testBit k = true) : S / 2 ^ k % 2 = 0 := by
  rw [Nat.testBit_eq_decide_div_mod_eq] at h
  have : ¬ S / 2 ^ k % 2 = 1 := fun z => h (decide_eq_true z)
  omega
theorem up_odd (u v : Nat) (h : u / 2 ≤ v / 2) (hu : u % 2 = 1) (hv : v % 2 = 1 ∨ u / 2 ≠ v / 2) : u ≤ v := by omega
theorem up_even (u v : Nat) (h : u / 2 ≤ v / 2) (hu : u % 2 = 0) : u ≤ v := by omega
theorem few41 {A : Told} (hw : WF A) {s : Nat} (hs : s ≤ 14) (hs1 : 1 ≤ s) (hmin : ∀ m, m < 2 ^ A.ns → Um A m → s ≤ ct m A.ns) : ∀ x n S G, x ≤ A.ns → x < n → S < 2 ^ A.ns → NS A A.ns G → (∀ i, i < x → S.testBit i = true) → RG A (fun i => S.testBit i) s → (∀ m, m < 2 ^ A.ns → Um A m → ct m A.ns = s → S / 2 ^ x ≤ m / 2 ^ x) → ∃ M G', L_X3_fewest_41 (nI s) n (nI S) (nI x - 1) G = some (nI M, G') ∧ FS G G' ∧ Least A s M := by
  have h14 := hw.ns14
  have hpow : 2 ^ A.ns ≤ 2 ^ 14 := Nat.pow_le_pow_right (by omega) h14
  intro x
  induction x with
  | zero =>
    intro n S G a1 a2 a3 a4 a5 a6 a7
    obtain ⟨n, rfl⟩ : ∃ k, n = k + 1 := ⟨n - 1, by omega⟩
    obtain ⟨m, m1, m2, m3, m4⟩ := (RG_mask hw S s).mp a6
    have e1 := hmin m m1 m4
    have e2 : ct m A.ns = s := by omega
    have e3 := a7 m m1 m4 e2
    have e4 := m2.le
    rw [Nat.pow_zero, Nat.div_one, Nat.div_one] at e3
    have e5 : S = m := by omega
    subst e5
    refine ⟨S, G, by rw [L_X3_fewest_41, if_pos (by decide)], fun _ _ => rfl, hs1, a3, m4, e2, fun k k1 k2 => ⟨hmin k k1 k2, fun k3 => ?_⟩⟩
    have := a7 k k1 k2 k3
    rwa [Nat.pow_zero, Nat.div_one, Nat.div_one] at this
  | succ k ih =>
    intro n S G a1 a2 a3 a4 a5 a6 a7
    obtain ⟨n, rfl⟩ : ∃ k, n = k + 1 := ⟨n - 1, by omega⟩
    obtain ⟨S', s1, s2⟩ := mask_n (fun i => S.testBit i = true ∧ i ≠ k) A.ns
    have bS : ∀ i, S'.testBit i = true ↔ (S.testBit i = true ∧ i ≠ k) := fun i => by
      by_cases hi : i < A.ns
      · exact s2 i hi
      · rw [tb_out2 s1 (by omega), tb_out2 a3 (by omega)]
        exact ⟨fun z => absurd z (by decide), fun z => absurd z.1 (by decide)⟩
    have e' : nI S &&& ((1 <<< (nI k &&& 31)) ^^^ (-1)) = nI S' := nI_of_bits (by omega) (fun i hi => by
      rw [bt_and, bt_not _ hi, bt_pow (by omega) hi, bt_nI (by omega) hi]
      apply bit_iff (P := True)
      rw [bS i, Bool.and_eq_true]
      simp)
    obtain ⟨r, G1, e, f1, n1, hr⟩ := ring8 hw a4 s1 hs
    have back : nI k + (-1) = nI k - 1 := (Int32.sub_eq_add_neg _ _).symm
    rw [show nI (k + 1) - 1 = nI k from nI_pred k, L_X3_fewest_41, if_neg (nI_pos (by omega)), e', e, Option.bind_some, back]
    have b1 := odd_bit (a5 k (by omega))
    have p1 := half_pow S k
    rcases hr with ⟨r0, hr⟩ | ⟨r1, r2, r3, _⟩
    · subst r0
      rw [if_pos nI_0, Option.bind_some]
      have key : ∀ m, m < 2 ^ A.ns → Um A m → ct m A.ns = s → S / 2 ^ k ≤ m / 2 ^ k := by
        intro m m1 m2 m3
        have h7 := a7 m m1 m2 m3
        rw [half_pow, half_pow] at h7
        refine up_odd _ _ h7 b1 ?_
        by_cases z : m.testBit k = true
        · exact Or.inl (odd_bit z)
        · refine Or.inr (fun w => hr ((RG_mask hw S' s).mpr ⟨m, m1, fun i hi => ?_, by omega, m2⟩))
          have hik : i ≠ k := fun q => z (by rw [← q]; exact hi)
          rw [← half_pow, ← half_pow] at w
          refine (bS i).mpr ⟨?_, hik⟩
          by_cases q : i < k + 1
          · exact a5 i q
          · have t1 : (S / 2 ^ (k + 1)).testBit (i - (k + 1)) = S.testBit (i - (k + 1) + (k + 1)) := Nat.testBit_div_two_pow _ _
            have t2 : (m / 2 ^ (k + 1)).testBit (i - (k + 1)) = m.testBit (i - (k + 1) + (k + 1)) := Nat.testBit_div_two_pow _ _
            rw [show i - (k + 1) + (k + 1) = i by omega] at t1 t2
            rw [← t1, w, t2]
            exact hi
      obtain ⟨M, G', q1, q2, q3⟩ := ih n S G1 (by omega) (by omega) a3 n1 (fun i hi => a5 i (by omega)) a6 key
      exact ⟨M, G', q1, f1.tr q2, q3⟩
    · rw [if_neg (nI_ne0 (by omega) (by omega)), Option.bind_some]
      have b2 : S' / 2 ^ k % 2 = 0 := even_bit (fun z => ((bS k).mp z).2 rfl)
      have hSS : S' / 2 ^ (k + 1) = S / 2 ^ (k + 1) := Nat.eq_of_testBit_eq (fun j => by
        rw [Nat.testBit_div_two_pow, Nat.testBit_div_two_pow]
        apply bit_iff (P := True)
        rw [bS]
        exact ⟨fun z => z.1, fun z => ⟨z, by omega⟩⟩)
      have key : ∀ m, m < 2 ^ A.ns → Um A m → ct m A.ns = s → S' / 2 ^ k ≤ m / 2 ^ k := by
        intro m m1 m2 m3
        have h7 := a7 m m1 m2 m3
        rw [← hSS, half_pow, half_pow] at h7
        exact up_even _ _ h7 b2
      obtain ⟨M, G', q1, q2, q3⟩ := ih n S' G1 (by omega) (by omega) s1 n1 (fun i hi => (bS i).mpr ⟨a5 i (by omega), by omega⟩) (RG_more hw r3 r2) key
      exact ⟨M, G', q1, f1.tr q2, q3⟩
theorem ALLn {n : Nat} (h : n ≤ 14) : ALL n = nI (2 ^ n - 1) := by
  have hp : 2 ^ n ≤ 2 ^ 14 := Nat.pow_le_pow_right (by omega) h
  exact nI_of_bits (by omega) (fun i hi => by unfold ALL; rw [bt_all (by omega) hi, Nat.testBit_two_pow_sub_one])
theorem H0_m {A : Told} (hw : WF A) : H0 A = setH A (fun i => (2 ^ A.ns - 1).testBit i) A.ns := by
  have h14 := hw.ns14
  exact setH_congr A.ns (fun i hi => by unfold ALL; rw [bt_all (by omega) (by omega), Nat.testBit_two_pow_sub_one])
theorem fewest8 {A : Told} (hw : WF A) {G : Mem} (hC : RowC A (G 2)) : ∃ G', FS G G' ∧ ((Can (H0 A) ∧ m_X3_fewest G = some (0, G')) ∨ (¬ Can (H0 A) ∧ ∃ s M, Least A s M ∧ m_X3_fewest G = some (nI M, G'))) := by
  have h14 := hw.ns14
  have hpow : 2 ^ A.ns ≤ 2 ^ 14 := Nat.pow_le_pow_right (by omega) h14
  have hpos : 0 < 2 ^ A.ns := Nat.two_pow_pos _
  obtain ⟨G1, e1, f1, n1⟩ := noteSteps8 hw hC
  have hC1 : RowC A (G1 2) := by rw [f1 2 (by omega)]; exact hC
  obtain ⟨r, G2, e2, f2, n2, hr⟩ := ring8 hw n1 (m := 2 ^ A.ns - 1) (most := A.ns) (by omega) h14
  have e3 : (if (14 : Int32) < nI A.ns then 14 else nI A.ns) = nI A.ns := if_neg (show ¬ nI 14 < nI A.ns from nI_nlt h14 (by omega))
  have go : ∀ R, (if nI r = 0 then some (0, G2) else (L_X3_fewest_41 (nI r) NF (nI (2 ^ A.ns - 1)) (nI A.ns - 1) G2).bind (fun v_10 => some (v_10.1, v_10.2)) : Option (Int32 × Mem)) = some R → m_X3_fewest G = some R := by
    intro R hR
    unfold m_X3_fewest
    rw [c8_1 hC, Option.bind_some, e3, e1, Option.bind_some, every_eq hC1, Option.bind_some, ALLn h14, e2, Option.bind_some]
    exact hR
  rcases hr with ⟨r0, hr⟩ | ⟨r1, r2, r3, r4⟩
  · subst r0
    refine ⟨G2, f1.tr f2, Or.inl ⟨Classical.byContradiction (fun z => hr ((RG_mask hw _ _).mpr ⟨2 ^ A.ns - 1, by omega, fun _ h => h, cn_le_n _ _, ?_⟩)), go _ (if_pos nI_0)⟩⟩
    unfold Um
    rw [← H0_m hw]
    exact z
  · have hmin : ∀ m, m < 2 ^ A.ns → Um A m → r ≤ ct m A.ns := fun m m1 m2 => Nat.le_of_not_lt (fun z => r4 _ z ((RG_mask hw _ _).mpr ⟨m, m1, sub_whole m1, Nat.le_refl _, m2⟩))
    obtain ⟨M, G3, q1, q2, q3⟩ := few41 hw (by omega) r1 hmin A.ns NF (2 ^ A.ns - 1) G2 (Nat.le_refl _) (NF_big (by omega)) (by omega) n2 (fun i hi => (whole_b A.ns i).mpr hi) r3 (fun m _ _ _ => by
      rw [Nat.div_eq_of_lt (by omega)]
      exact Nat.zero_le _)
    refine ⟨G3, (f1.tr f2).tr q2, Or.inr ⟨fun hc => ?_, r, M, q3, go _ ?_⟩⟩
    · rw [H0_m hw] at hc
      exact Can_sub (fun i _ hi => sub_whole q3.2.1 i hi) q3.2.2.1 hc
    · rw [if_neg (nI_ne0 (by omega) (by omega)), q1, Option.bind_some]
