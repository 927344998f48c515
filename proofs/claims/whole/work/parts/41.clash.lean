/-! ===== 41 the reference's clash: sets by their size, then by their number; step clash ===== -/
theorem c52 {A : Told} (hw : WF A) {G0 : Mem} (hR : RowR A (G0 82)) (p : Int32) {t : Nat} (ht : t ≤ 14) {x : Nat} (hx : x < 2 ^ A.ns - 1) (n : Nat) {X : Mem} (hX : K9r G0 X) : ∃ X', K9r G0 X' ∧ ((ct x A.ns = t ∧ Um A x ∧ L_X9_clash_52 p (nI t) (n + 1) (nI x) X = some (Sum.inr ((if p = 0 then nI x else nI t), X'))) ∨ (¬ (ct x A.ns = t ∧ Um A x) ∧ L_X9_clash_52 p (nI t) (n + 1) (nI x) X = L_X9_clash_52 p (nI t) n (nI (x + 1)) X')) := by
  have h14 := hw.ns14
  have hpow : 2 ^ A.ns ≤ 2 ^ 14 := Nat.pow_le_pow_right (by omega) h14
  have hRX : RowR A (X 82) := by rw [hX.1 82 (by omega) (by omega)]; exact hR
  have hc := cn_le_n (fun i => x.testBit i) A.ns
  have hc' : ct x A.ns ≤ A.ns := hc
  rw [L_X9_clash_52, all9_eq hRX, Option.bind_some, ALLn h14, if_neg (nI_ge hx (by omega)), ones9 (by omega), Option.bind_some, ct_14 (n := A.ns) (by omega) h14, nI_1]
  by_cases z : ct x A.ns = t
  · rw [if_pos (by rw [z])]
    obtain ⟨G1, f, g, e1, k1, _, _, _, _, l, h⟩ := sound9a hw hRX (nI x)
    have k2 := hX.tr (k1.tr (K9r.se G1 (c := 93) (by omega) l))
    have eH : setH A (bt (nI x)) A.ns = setH A (fun i => x.testBit i) A.ns := setH_congr _ (fun i hi => bt_nI (by omega) (by omega))
    rw [e1, Option.bind_some]
    rcases h with ⟨hc, e, _⟩ | ⟨hc, e⟩
    · refine ⟨_, k2, Or.inr ⟨fun w => w.2 (by rw [← eH]; exact hc), ?_⟩⟩
      rw [e, Option.bind_some]
      dsimp only
      rw [if_neg one_ne]
    · refine ⟨_, k2, Or.inl ⟨z, by unfold Um; rw [← eH]; exact hc, ?_⟩⟩
      rw [e, Option.bind_some]
      dsimp only
      rw [if_pos rfl]
      split <;> rfl
  · rw [if_neg (fun w => z ((nI_eq (by omega) (by omega)).mp w))]
    exact ⟨X, hX, Or.inr ⟨fun w => z w.1, rfl⟩⟩
theorem c52_no {A : Told} (hw : WF A) {G0 : Mem} (hR : RowR A (G0 82)) (p : Int32) {t : Nat} (ht : t ≤ 14) (hno : ∀ m, m < 2 ^ A.ns - 1 → ¬ (ct m A.ns = t ∧ Um A m)) : ∀ d x n X, x + d = 2 ^ A.ns - 1 → d < n → K9r G0 X → ∃ X', K9r G0 X' ∧ L_X9_clash_52 p (nI t) n (nI x) X = some (Sum.inl X') := by
  have h14 := hw.ns14
  have hpow : 2 ^ A.ns ≤ 2 ^ 14 := Nat.pow_le_pow_right (by omega) h14
  intro d
  induction d with
  | zero =>
    intro x n X h1 h2 hX
    obtain ⟨n, rfl⟩ : ∃ k, n = k + 1 := ⟨n - 1, by omega⟩
    have hRX : RowR A (X 82) := by rw [hX.1 82 (by omega) (by omega)]; exact hR
    exact ⟨X, hX, by rw [L_X9_clash_52, all9_eq hRX, Option.bind_some, ALLn h14, if_pos (nI_le (by omega) (by omega))]⟩
  | succ d ih =>
    intro x n X h1 h2 hX
    obtain ⟨n, rfl⟩ : ∃ k, n = k + 1 := ⟨n - 1, by omega⟩
    obtain ⟨X', k, ⟨a, b, _⟩ | ⟨_, e⟩⟩ := c52 hw hR p ht (x := x) (by omega) n hX
    · exact absurd ⟨a, b⟩ (hno x (by omega))
    · rw [e]
      exact ih (x + 1) n X' (by omega) (by omega) k
theorem c52_yes {A : Told} (hw : WF A) {G0 : Mem} (hR : RowR A (G0 82)) (p : Int32) {t : Nat} (ht : t ≤ 14) {M : Nat} (hM : M < 2 ^ A.ns - 1) (h1M : ct M A.ns = t ∧ Um A M) (hno : ∀ m, m < M → ¬ (ct m A.ns = t ∧ Um A m)) : ∀ d x n X, x + d = M → d < n → K9r G0 X → ∃ X', K9r G0 X' ∧ L_X9_clash_52 p (nI t) n (nI x) X = some (Sum.inr ((if p = 0 then nI M else nI t), X')) := by
  intro d
  induction d with
  | zero =>
    intro x n X h1 h2 hX
    obtain ⟨n, rfl⟩ : ∃ k, n = k + 1 := ⟨n - 1, by omega⟩
    have e : x = M := by omega
    subst e
    obtain ⟨X', k, ⟨_, _, e⟩ | ⟨a, _⟩⟩ := c52 hw hR p ht (x := x) hM n hX
    · exact ⟨X', k, e⟩
    · exact absurd h1M a
  | succ d ih =>
    intro x n X h1 h2 hX
    obtain ⟨n, rfl⟩ : ∃ k, n = k + 1 := ⟨n - 1, by omega⟩
    obtain ⟨X', k, ⟨a, b, _⟩ | ⟨_, e⟩⟩ := c52 hw hR p ht (x := x) (by omega) n hX
    · exact absurd ⟨a, b⟩ (hno x (by omega))
    · rw [e]
      exact ih (x + 1) n X' (by omega) (by omega) k
theorem c40 {A : Told} (hw : WF A) {G0 : Mem} (hR : RowR A (G0 82)) (p : Int32) {s M : Nat} (hL : Least A s M) : ∀ d t n X, t + d = s → d < n → K9r G0 X → ∃ X', K9r G0 X' ∧ (L_X9_clash_40 p n (nI t) X = some (Sum.inr ((if p = 0 then nI M else nI s), X')) ∨ (s = A.ns ∧ M = 2 ^ A.ns - 1 ∧ L_X9_clash_40 p n (nI t) X = some (Sum.inl X'))) := by
  have h14 := hw.ns14
  have hpow : 2 ^ A.ns ≤ 2 ^ 14 := Nat.pow_le_pow_right (by omega) h14
  obtain ⟨l1, l2, l3, l4, l5⟩ := hL
  have hsn : s ≤ A.ns := by rw [← l4]; exact cn_le_n _ _
  have hM0 : M ≠ 0 := fun z => by rw [z, ct_0] at l4; omega
  intro d
  induction d with
  | zero =>
    intro t n X h1 h2 hX
    obtain ⟨n, rfl⟩ : ∃ k, n = k + 1 := ⟨n - 1, by omega⟩
    have e : t = s := by omega
    subst e
    have hRX : RowR A (X 82) := by rw [hX.1 82 (by omega) (by omega)]; exact hR
    by_cases z : t = A.ns
    · exact ⟨X, hX, Or.inr ⟨z, (ct_full l2).mp (l4.trans z), by rw [L_X9_clash_40, c9_1 hRX, Option.bind_some, if_pos (nI_le (by omega) (by omega))]⟩⟩
    · have hMf : M ≠ 2 ^ A.ns - 1 := fun w => z (l4.symm.trans ((ct_full l2).mpr w))
      obtain ⟨X', k, e⟩ := c52_yes hw hR p (t := t) (by omega) (M := M) (by omega) ⟨l4, l3⟩ (fun m hm w => absurd ((l5 m (by omega) w.2).2 w.1) (by omega)) (M - 1) 1 NF X (by omega) (NF_big (by omega)) hX
      refine ⟨X', k, Or.inl ?_⟩
      rw [L_X9_clash_40, c9_1 hRX, Option.bind_some, if_neg (nI_ge (by omega) (by omega)), show L_X9_clash_52 p (nI t) NF 1 X = _ from e, Option.bind_some]
  | succ d ih =>
    intro t n X h1 h2 hX
    obtain ⟨n, rfl⟩ : ∃ k, n = k + 1 := ⟨n - 1, by omega⟩
    have hRX : RowR A (X 82) := by rw [hX.1 82 (by omega) (by omega)]; exact hR
    have hn1 : 1 ≤ 2 ^ A.ns - 1 := by omega
    obtain ⟨X', k, e⟩ := c52_no hw hR p (t := t) (by omega) (fun m hm w => absurd (l5 m (by omega) w.2).1 (by omega)) (2 ^ A.ns - 1 - 1) 1 NF X (by omega) (NF_big (by omega)) hX
    rw [L_X9_clash_40, c9_1 hRX, Option.bind_some, if_neg (nI_ge (by omega) (by omega)), show L_X9_clash_52 p (nI t) NF 1 X = _ from e, Option.bind_some]
    dsimp only
    rw [nI_1]
    exact ih (t + 1) n X' (by omega) (by omega) k
theorem FS.k8 {G G' : Mem} (h : FS G G') : K8q G G' := fun k a => h k (by omega)
theorem st_11 (G : Mem) (a b c : Int32) (hI : Inv G) : ∃ (r : Int32) (G1 G2 : Mem), op8 11 G a b c = some (r, G1) ∧ op9 11 G1 a b c = some (r, G2) ∧ Inv G2 := by
  have hI' := hI
  have hT := hI.keeps (keeps_thrown G)
  obtain ⟨nc, ⟨A, hw, hnc, hC, hR⟩, ht, hu, hi, hz⟩ := hI
  have h14 := hw.ns14
  have hpow : 2 ^ A.ns ≤ 2 ^ 14 := Nat.pow_le_pow_right (by omega) h14
  show ∃ (r : Int32) (G1 G2 : Mem), m_X8_clash G a = some (r, G1) ∧ m_X9_clash G1 a = some (r, G2) ∧ Inv G2
  rcases time_cases (M := 1) 1 rfl (by omega) a with ha | ⟨j, hj, rfl⟩
  · refine ⟨-1, G, upm G 81 0 0, ?_, ?_, hT⟩
    · unfold m_X8_clash
      by_cases h0 : a < 0
      · rw [if_pos h0]
      · rw [if_neg h0, if_neg (Int32.not_le.mpr (ha.resolve_left h0))]
    · unfold m_X9_clash; rw [in_no ha, if_pos rfl]
  obtain ⟨G1, f1, h8⟩ := fewest8 hw hC
  have hR1 : RowR A ((upm G1 81 0 0) 82) := by rw [upm_n _ _ _ (by omega), f1 82 (by omega)]; exact hR
  obtain ⟨G2, f, g, e2, k2, _, _, _, _, l, h9⟩ := sound9a hw hR1 (ALL A.ns)
  have k3 := k2.tr (K9r.se G2 (c := 93) (by omega) l)
  have x8 : ¬ nI j < 0 := nI_pos (by omega)
  have y8 : nI j ≤ (1 : Int32) := nI_le (b := 1) hj (by omega)
  have i9 : m_X9_in (nI j) 0 1 = 1 := in_yes x8 (show ¬ (1 : Int32) < nI j from nI_nlt (a := 1) hj (by omega))
  rcases h8 with ⟨hc, e8⟩ | ⟨hc, s, M, hL, e8⟩
  · rcases h9 with ⟨_, e9, _⟩ | ⟨hc', _⟩
    · refine ⟨-9, G1, _, ?_, ?_, hI'.keeps (Keeps_q f1.k8 k3)⟩
      · unfold m_X8_clash; rw [if_neg x8, if_pos y8, e8, Option.bind_some, if_pos rfl]
      · unfold m_X9_clash; rw [i9, if_neg one_ne, all9_eq hR1, Option.bind_some, e2, Option.bind_some, e9, Option.bind_some, if_neg one_ne]
    · exact absurd hc hc'
  · rcases h9 with ⟨hc', _⟩ | ⟨_, e9⟩
    · exact absurd hc' hc
    · obtain ⟨G3, k4, h40⟩ := c40 hw hR1 (nI j) hL (s - 1) 1 NF (setc G2 93 l) (by have := hL.1; omega) (NF_big (by have := hL.2.2.2.1; have := cn_le_n (fun i => M.testBit i) A.ns; unfold ct at *; omega)) k3
      have hR3 : RowR A (G3 82) := by rw [k4.1 82 (by omega) (by omega)]; exact hR1
      obtain ⟨l1, l2, l3, l4, l5⟩ := hL
      have hM0 : M ≠ 0 := fun z => by rw [z, ct_0] at l4; omega
      refine ⟨(if nI j = 0 then nI M else nI s), G1, G3, ?_, ?_, hI'.keeps (Keeps_q f1.k8 k4)⟩
      · unfold m_X8_clash
        rw [if_neg x8, if_pos y8, e8, Option.bind_some]
        dsimp only
        rw [if_neg (nI_ne0 (by omega) (by omega)), bc14 (by omega), ct_14 l2 h14, l4]
        split <;> rfl
      · unfold m_X9_clash
        rw [i9, if_neg one_ne, all9_eq hR1, Option.bind_some, e2, Option.bind_some, e9, Option.bind_some]
        dsimp only
        rw [if_pos rfl]
        rcases h40 with e | ⟨es, eM, e⟩
        · rw [show L_X9_clash_40 (nI j) NF 1 (setc G2 93 l) = _ from e, Option.bind_some]
        · rw [show L_X9_clash_40 (nI j) NF 1 (setc G2 93 l) = _ from e, Option.bind_some]
          dsimp only
          rw [all9_eq hR3, Option.bind_some, c9_1 hR3, Option.bind_some, ALLn h14, ← eM, ← es]
          split <;> rfl
