/-! ===== 13 steps: clause, statement, keep, back, undo ===== -/
theorem pred_toInt {n : Nat} (h : n < 1000000000) : (nI n - 1).toInt = (n : Int) - 1 := pk_sub_toInt (a := n) (b := 1) (by omega) (by omega)
theorem pred_lt {n : Nat} (h : n < 1000000000) {a : Int32} (ha : a < 0 ∨ nI n ≤ a) : a < 0 ∨ nI n - 1 < a := by
  rcases ha with ha | ha
  · exact Or.inl ha
  · refine Or.inr ?_
    rw [fa_lt, pred_toInt h]
    rw [fa_le, nI_toInt (by omega)] at ha
    omega
theorem pred_nlt {n j : Nat} (h : n < 1000000000) (hj : j < n) : ¬ nI n - 1 < nI j := by
  rw [fa_lt, pred_toInt h, nI_toInt (by omega)]
  omega
theorem k8_no {A : Told} {G : Mem} (hw : WF A) (h : RowC A (G 2)) {a : Int32} (ha : a < 0 ∨ nI A.nc ≤ a) : m_X8_isClause G a = some 0 := by
  unfold m_X8_isClause
  by_cases h0 : a < 0
  · rw [if_pos h0]
  · rw [if_neg h0, c8_0 h, Option.bind_some, if_pos (ha.resolve_left h0)]
theorem k8_yes {A : Told} {G : Mem} (hw : WF A) (h : RowC A (G 2)) {j : Nat} (hj : j < A.nc) : m_X8_isClause G (nI j) = some 1 := by
  have h1 := hw.1
  unfold m_X8_isClause
  rw [if_neg (nI_pos (by omega)), c8_0 h, Option.bind_some, if_neg (nI_ge hj (by omega))]
theorem k9_no {A : Told} {G : Mem} (hw : WF A) (h : RowR A (G 82)) {a : Int32} (ha : a < 0 ∨ nI A.nc ≤ a) : m_X9_isClause G a = some 0 := by
  have h1 := hw.1
  unfold m_X9_isClause
  rw [c9_0 h, Option.bind_some, in_no (pred_lt (by omega) ha)]
  rfl
theorem k9_yes {A : Told} {G : Mem} (hw : WF A) (h : RowR A (G 82)) {j : Nat} (hj : j < A.nc) : m_X9_isClause G (nI j) = some 1 := by
  have h1 := hw.1
  unfold m_X9_isClause
  rw [c9_0 h, Option.bind_some, in_yes (nI_pos (by omega)) (pred_nlt (by omega) hj)]
  rfl
theorem s8_no {A : Told} {G : Mem} (hw : WF A) (h : RowC A (G 2)) {a : Int32} (ha : a < 0 ∨ nI A.ns ≤ a) : m_X8_isStatement G a = some 0 := by
  unfold m_X8_isStatement
  by_cases h0 : a < 0
  · rw [if_pos h0]
  · rw [if_neg h0, c8_1 h, Option.bind_some, if_pos (ha.resolve_left h0)]
theorem s8_yes {A : Told} {G : Mem} (hw : WF A) (h : RowC A (G 2)) {j : Nat} (hj : j < A.ns) : m_X8_isStatement G (nI j) = some 1 := by
  have h1 := hw.1
  unfold m_X8_isStatement
  rw [if_neg (nI_pos (by omega)), c8_1 h, Option.bind_some, if_neg (nI_ge hj (by omega))]
theorem s9_no {A : Told} {G : Mem} (hw : WF A) (h : RowR A (G 82)) {a : Int32} (ha : a < 0 ∨ nI A.ns ≤ a) : m_X9_isStatement G a = some 0 := by
  have h1 := hw.1
  unfold m_X9_isStatement
  rw [c9_1 h, Option.bind_some, in_no (pred_lt (by omega) ha)]
  rfl
theorem s9_yes {A : Told} {G : Mem} (hw : WF A) (h : RowR A (G 82)) {j : Nat} (hj : j < A.ns) : m_X9_isStatement G (nI j) = some 1 := by
  have h1 := hw.1
  unfold m_X9_isStatement
  rw [c9_1 h, Option.bind_some, in_yes (nI_pos (by omega)) (pred_nlt (by omega) hj)]
  rfl
theorem cell8 {G : Mem} {b k : Nat} (hk : k < 14) (hb : b ≤ 60) : m_X6_statementCell G 1 (nI b) (nI k) = some (G 2 (b + k)) := by
  unfold m_X6_statementCell
  rw [if_neg (nI_pos (by omega)), if_neg (show ¬ (14 : Int32) ≤ nI k from nI_ge (a := k) (b := 14) hk (by omega)), nI_add, ald_nI (by omega) (by omega)]
  rfl
theorem clauseAt_eq {A : Told} {G : Mem} (hw : WF A) (h : RowC A (G 2)) {k : Nat} (hk : k < A.ns) : m_X6_clauseAt G 1 (nI k) = some (A.clI k) := by
  have h1 := hw.1
  unfold m_X6_clauseAt
  rw [show (18 : Int32) = nI 18 from rfl, cell8 (by omega) (by omega), Option.bind_some, (h.2.2 k hk).1]
theorem firstAt_eq {A : Told} {G : Mem} (hw : WF A) (h : RowC A (G 2)) {k : Nat} (hk : k < A.ns) : m_X6_firstAt G 1 (nI k) = some (A.fiI k) := by
  have h1 := hw.1
  unfold m_X6_firstAt
  rw [show (32 : Int32) = nI 32 from rfl, cell8 (by omega) (by omega), Option.bind_some, (h.2.2 k hk).2.1]
theorem signAt_eq {A : Told} {G : Mem} (hw : WF A) (h : RowC A (G 2)) {k : Nat} (hk : k < A.ns) : m_X6_signAt G 1 (nI k) = some (A.sgI k) := by
  have h1 := hw.1
  unfold m_X6_signAt
  rw [show (46 : Int32) = nI 46 from rfl, cell8 (by omega) (by omega), Option.bind_some, (h.2.2 k hk).2.2.1]
theorem secondAt_eq {A : Told} {G : Mem} (hw : WF A) (h : RowC A (G 2)) {k : Nat} (hk : k < A.ns) : m_X6_secondAt G 1 (nI k) = some (A.seI k) := by
  have h1 := hw.1
  unfold m_X6_secondAt
  rw [show (60 : Int32) = nI 60 from rfl, cell8 (by omega) (by omega), Option.bind_some, (h.2.2 k hk).2.2.2]
theorem of9 {A : Told} {G : Mem} (hw : WF A) (h : RowR A (G 82)) {k : Nat} (hk : k < A.ns) : m_X9_ofStatement G (nI k) 0 = some (A.clI k) ∧ m_X9_ofStatement G (nI k) 1 = some (A.fiI k) ∧ m_X9_ofStatement G (nI k) 2 = some (A.sgI k) ∧ m_X9_ofStatement G (nI k) 3 = some (A.seI k) := by
  have h1 := hw.1
  have key : ∀ j, j < 4 → m_X9_ofStatement G (nI k) (nI j) = some (G 82 (18 + j + 4 * k)) := by
    intro j hj
    unfold m_X9_ofStatement
    rw [show (4 : Int32) = nI 4 from rfl, pk_mul, show (18 : Int32) = nI 18 from rfl, nI_add, nI_add, ald_nI (by omega) (by omega), Option.bind_some]
    congr 2
    omega
  obtain ⟨a1, a2, a3, a4⟩ := h.2.2 k hk
  exact ⟨(key 0 (by omega)).trans (congrArg some a1), (key 1 (by omega)).trans (congrArg some a2), (key 2 (by omega)).trans (congrArg some a3), (key 3 (by omega)).trans (congrArg some a4)⟩
theorem tenseOf_eq {A : Told} {G : Mem} (hw : WF A) (h : RowC A (G 2)) {c : Nat} (hc : c < A.nc) : m_X6_tenseOf G 1 (nI c) = some (nI (A.ten c)) := by
  have h1 := hw.1
  unfold m_X6_tenseOf m_X6_clauseCell
  rw [if_neg (nI_pos (by omega)), if_neg (show ¬ (8 : Int32) ≤ nI c from nI_ge (a := c) (b := 8) (by omega) (by omega)), show (2 : Int32) = nI 2 from rfl, nI_add, ald_nI (by omega) (by omega)]
  simp only [Option.bind_some]
  exact congrArg some (h.2.1 c hc).1
theorem linkOf_eq {A : Told} {G : Mem} (hw : WF A) (h : RowC A (G 2)) {c : Nat} (hc : c < A.nc) : m_X6_linkOf G 1 (nI c) = some (A.lkI c) := by
  have h1 := hw.1
  unfold m_X6_linkOf m_X6_clauseCell
  rw [if_neg (nI_pos (by omega)), if_neg (show ¬ (8 : Int32) ≤ nI c from nI_ge (a := c) (b := 8) (by omega) (by omega)), show (10 : Int32) = nI 10 from rfl, nI_add, ald_nI (by omega) (by omega)]
  simp only [Option.bind_some]
  exact congrArg some (h.2.1 c hc).2
theorem st_4 (G : Mem) (a b c : Int32) (hI : Inv G) : ∃ (r : Int32) (G1 G2 : Mem), op8 4 G a b c = some (r, G1) ∧ op9 4 G1 a b c = some (r, G2) ∧ Inv G2 := by
  have hT := hI.keeps (keeps_thrown G)
  obtain ⟨nc, ⟨A, hw, hnc, hC, hR⟩, ht, hu, hi, hz⟩ := hI
  have h1 := hw.1
  have hR' : RowR A ((upm G 81 0 0) 82) := hR
  show ∃ (r : Int32) (G1 G2 : Mem), (m_X8_statement G a b).map (fun r => (r, G)) = some (r, G1) ∧ m_X9_statement G1 a b = some (r, G2) ∧ Inv G2
  suffices h : ∃ r, m_X8_statement G a b = some r ∧ m_X9_statement G a b = some (r, upm G 81 0 0) by
    obtain ⟨r, e1, e2⟩ := h
    exact ⟨r, G, _, by rw [e1]; rfl, e2, hT⟩
  unfold m_X8_statement m_X9_statement
  rcases below_cases A.ns rfl (by omega) a with ha | ⟨k, hk, rfl⟩
  · exact ⟨-1, by rw [s8_no hw hC ha, Option.bind_some, if_pos rfl], by rw [s9_no hw hR' ha, Option.bind_some, if_pos rfl]⟩
  rw [s8_yes hw hC hk, s9_yes hw hR' hk]
  simp only [Option.bind_some]
  rw [if_neg one_ne, if_neg one_ne]
  obtain ⟨o0, o1, o2, o3⟩ := of9 hw hR' hk
  rcases time_cases (M := 3) 3 rfl (by omega) b with hb | ⟨j, hj, rfl⟩
  · refine ⟨-1, ?_, by rw [in_no hb, if_pos rfl]⟩
    by_cases h0 : b < 0
    · rw [if_pos h0]
    · rw [if_neg h0, if_neg (Int32.not_le.mpr (hb.resolve_left h0))]
  · rw [if_neg (nI_pos (by omega)), if_pos (show nI j ≤ (3 : Int32) from nI_le (a := j) (b := 3) hj (by omega)), in_yes (nI_pos (by omega)) (show ¬ (3 : Int32) < nI j from nI_nlt (a := 3) (b := j) hj (by omega)), if_neg one_ne]
    rw [clauseAt_eq hw hC hk, firstAt_eq hw hC hk, signAt_eq hw hC hk, secondAt_eq hw hC hk]
    rcases (show j = 0 ∨ j = 1 ∨ j = 2 ∨ j = 3 by omega) with rfl | rfl | rfl | rfl
    · exact ⟨A.clI k, by rw [if_pos (by decide)]; rfl, by rw [show nI 0 = (0 : Int32) from rfl, o0]; rfl⟩
    · exact ⟨A.fiI k, by rw [if_neg (by decide), if_pos (by decide)]; rfl, by rw [show nI 1 = (1 : Int32) from rfl, o1]; rfl⟩
    · exact ⟨A.sgI k, by rw [if_neg (by decide), if_neg (by decide), if_pos (by decide)]; rfl, by rw [show nI 2 = (2 : Int32) from rfl, o2]; rfl⟩
    · exact ⟨A.seI k, by rw [if_neg (by decide), if_neg (by decide), if_neg (by decide)]; rfl, by rw [show nI 3 = (3 : Int32) from rfl, o3]; rfl⟩
theorem clI_eq {A : Told} (hw : WF A) {k c : Nat} (hk : k < A.ns) (hc : c < A.nc) : A.clI k = nI c ↔ A.cl k = c := by
  have h1 := hw.1
  unfold Told.clI
  by_cases h : A.cl k = 9
  · rw [if_pos h]
    constructor
    · intro e; exact absurd e.symm (m9_ne (by omega))
    · intro e; omega
  · rw [if_neg h]
    have := hw.2.2.2.1 k hk h
    exact nI_eq (by omega) (by omega)
theorem placeOf_eq {A : Told} {G : Mem} (hw : WF A) (h : RowC A (G 2)) {c k0 : Nat} (hc : c < A.nc) (hk0 : k0 < A.ns) (e0 : A.cl k0 = c) (hmin : ∀ k, k < k0 → A.cl k ≠ c) : m_X6_placeOf G 1 (nI c) = some (nI k0) := by
  have h1 := hw.1
  have key : ∀ d x n, x + d = k0 → d < n → L_X6_placeOf_2 1 (nI c) G n (nI x) = some (Sum.inr (nI k0)) := by
    intro d
    induction d with
    | zero =>
      intro x n h1 h2
      obtain ⟨n, rfl⟩ : ∃ k, n = k + 1 := ⟨n - 1, by omega⟩
      have e : x = k0 := by omega
      subst e
      rw [L_X6_placeOf_2, c8_1 h, Option.bind_some, if_neg (nI_ge hk0 (by omega)), clauseAt_eq hw h hk0, Option.bind_some, if_pos ((clI_eq hw hk0 hc).mpr e0)]
    | succ d ih =>
      intro x n h1 h2
      obtain ⟨n, rfl⟩ : ∃ k, n = k + 1 := ⟨n - 1, by omega⟩
      have hx : x < A.ns := by omega
      rw [L_X6_placeOf_2, c8_1 h, Option.bind_some, if_neg (nI_ge hx (by omega)), clauseAt_eq hw h hx, Option.bind_some, if_neg (fun z => hmin x (by omega) ((clI_eq hw hx hc).mp z)), nI_1]
      exact ih (x + 1) n (by omega) (by omega)
  unfold m_X6_placeOf
  rw [show (0 : Int32) = nI 0 from rfl, key k0 0 NF (by omega) (NF_big (by omega))]
  rfl
theorem place9_eq {A : Told} {G : Mem} (hw : WF A) (h : RowR A (G 82)) {c k0 : Nat} (hc : c < A.nc) (hk0 : k0 < A.ns) (e0 : A.cl k0 = c) (hmin : ∀ k, k < k0 → A.cl k ≠ c) : L_X9_clause_44 (nI c) G NF 0 = some (nI k0) := by
  have h1 := hw.1
  have key : ∀ d x n, x + d = k0 → d < n → L_X9_clause_44 (nI c) G n (nI x) = some (nI k0) := by
    intro d
    induction d with
    | zero =>
      intro x n h1 h2
      obtain ⟨n, rfl⟩ : ∃ k, n = k + 1 := ⟨n - 1, by omega⟩
      have e : x = k0 := by omega
      subst e
      rw [L_X9_clause_44, (of9 hw h hk0).1, Option.bind_some, if_pos ((clI_eq hw hk0 hc).mpr e0)]
    | succ d ih =>
      intro x n h1 h2
      obtain ⟨n, rfl⟩ : ∃ k, n = k + 1 := ⟨n - 1, by omega⟩
      have hx : x < A.ns := by omega
      rw [L_X9_clause_44, (of9 hw h hx).1, Option.bind_some, if_neg (fun z => hmin x (by omega) ((clI_eq hw hx hc).mp z)), nI_1]
      exact ih (x + 1) n (by omega) (by omega)
  exact key k0 0 NF (by omega) (NF_big (by omega))
theorem st_3 (G : Mem) (a b c : Int32) (hI : Inv G) : ∃ (r : Int32) (G1 G2 : Mem), op8 3 G a b c = some (r, G1) ∧ op9 3 G1 a b c = some (r, G2) ∧ Inv G2 := by
  have hT := hI.keeps (keeps_thrown G)
  obtain ⟨nc, ⟨A, hw, hnc, hC, hR⟩, ht, hu, hi, hz⟩ := hI
  have h1 := hw.1
  have hR' : RowR A ((upm G 81 0 0) 82) := hR
  show ∃ (r : Int32) (G1 G2 : Mem), (m_X8_clause G a b).map (fun r => (r, G)) = some (r, G1) ∧ m_X9_clause G1 a b = some (r, G2) ∧ Inv G2
  suffices h : ∃ r, m_X8_clause G a b = some r ∧ m_X9_clause G a b = some (r, upm G 81 0 0) by
    obtain ⟨r, e1, e2⟩ := h
    exact ⟨r, G, _, by rw [e1]; rfl, e2, hT⟩
  unfold m_X8_clause m_X9_clause
  rcases below_cases A.nc rfl (by omega) a with ha | ⟨k, hk, rfl⟩
  · exact ⟨-1, by rw [k8_no hw hC ha, Option.bind_some, if_pos rfl], by rw [k9_no hw hR' ha, Option.bind_some, if_pos rfl]⟩
  rw [k8_yes hw hC hk, k9_yes hw hR' hk]
  simp only [Option.bind_some]
  rw [if_neg one_ne, if_neg one_ne]
  rcases time_cases (M := 2) 2 rfl (by omega) b with hb | ⟨j, hj, rfl⟩
  · refine ⟨-1, ?_, by rw [in_no hb, if_pos rfl]⟩
    by_cases h0 : b < 0
    · rw [if_pos h0]
    · rw [if_neg h0, if_neg (Int32.not_le.mpr (hb.resolve_left h0))]
  · rw [if_neg (nI_pos (by omega)), if_pos (show nI j ≤ (2 : Int32) from nI_le (a := j) (b := 2) hj (by omega)), in_yes (nI_pos (by omega)) (show ¬ (2 : Int32) < nI j from nI_nlt (a := 2) (b := j) hj (by omega)), if_neg one_ne]
    rw [tenseOf_eq hw hC hk, linkOf_eq hw hC hk]
    have e9 : ∀ j, j < 2 → ald 74 (upm G 81 0 0) 82 (2 + 2 * nI k + nI j) = some (G 82 (2 + j + 2 * k)) := by
      intro j hj
      rw [two_mul, show (2 : Int32) = nI 2 from rfl, nI_add, nI_add, ald_nI (by omega) (by omega)]
      show some (G 82 _) = some (G 82 _)
      congr 2
      omega
    rcases (show j = 0 ∨ j = 1 ∨ j = 2 by omega) with rfl | rfl | rfl
    · refine ⟨nI (A.ten k), by rw [if_pos (by decide)]; rfl, ?_⟩
      rw [if_neg (by decide), e9 0 (by omega), show G 82 (2 + 0 + 2 * k) = nI (A.ten k) from (hR.2.1 k hk).1]
      rfl
    · refine ⟨A.lkI k, by rw [if_neg (by decide), if_pos (by decide)]; rfl, ?_⟩
      rw [if_neg (by decide), e9 1 (by omega), show G 82 (2 + 1 + 2 * k) = A.lkI k from (hR.2.1 k hk).2]
      rfl
    · obtain ⟨k1, hk1, hk2⟩ := hw.2.2.2.2.1 k hk
      obtain ⟨k0, ⟨hk0, e0⟩, hmin⟩ := pk_least (fun x => x < A.ns ∧ A.cl x = k) ⟨k1, hk1, hk2⟩
      have hm : ∀ x, x < k0 → A.cl x ≠ k := fun x hx z => hmin x hx ⟨by omega, z⟩
      refine ⟨nI k0, by rw [if_neg (by decide), if_neg (by decide), placeOf_eq hw hC hk hk0 e0 hm]; rfl, ?_⟩
      rw [if_pos (by decide), place9_eq hw hR' hk hk0 e0 hm]
      rfl
theorem bit4 : ∀ kb, kb < 4 → ∀ i, i < 2 → m_X8_has (nI kb) (nI i) = (if kb.testBit i then 1 else 0) := by
  intro kb hkb i hi
  rcases (show kb = 0 ∨ kb = 1 ∨ kb = 2 ∨ kb = 3 by omega) with rfl | rfl | rfl | rfl <;> rcases (show i = 0 ∨ i = 1 by omega) with rfl | rfl <;> decide +kernel
theorem or4 : ∀ kb, kb < 4 → ∀ i, i < 2 → nI kb ||| ((1 : Int32) <<< (nI i &&& 31)) = nI (kb ||| 2 ^ i) ∧ kb ||| 2 ^ i < 4 ∧ (kb ||| 2 ^ i).testBit i = true ∧ ∀ i', i' < 2 → i' ≠ i → (kb ||| 2 ^ i).testBit i' = kb.testBit i' := by
  intro kb hkb i hi
  rcases (show kb = 0 ∨ kb = 1 ∨ kb = 2 ∨ kb = 3 by omega) with rfl | rfl | rfl | rfl <;> rcases (show i = 0 ∨ i = 1 by omega) with rfl | rfl <;> refine ⟨by decide +kernel, by decide, by decide, fun i' h1 h2 => ?_⟩ <;> rcases (show i' = 0 ∨ i' = 1 by omega) with rfl | rfl <;> first | exact absurd rfl h2 | decide
theorem keep18_eq {G : Mem} {i : Nat} (hi : i < 2) : L_X9_keep_18 (nI i) NF 0 G = some (cpy G 82 0 85 (74 * i) 74) := by
  refine copy_loop (L_X9_keep_18 (nI i)) G 82 0 85 (74 * i) 74 (Or.inl (by omega)) (fun n => by
    rw [L_X9_keep_18, if_pos (show (74 : Int32) ≤ nI 74 from nI_le (a := 74) (b := 74) (by omega) (by omega))]) (fun n x hx => ?_) NF (NF_big (by omega))
  have h1 : ¬ (74 : Int32) ≤ nI x := nI_ge (a := x) (b := 74) hx (by omega)
  rw [L_X9_keep_18, if_neg h1, ald_nI hx (by omega), Option.bind_some, show (74 : Int32) = nI 74 from rfl, pk_mul, nI_add, ast_nI (by omega) (by omega), Option.bind_some, nI_1, Nat.zero_add]
theorem back30_eq {G : Mem} {i : Nat} (hi : i < 2) : L_X9_back_30 (nI i) NF 0 G = some (cpy G 85 (74 * i) 82 0 74) := by
  refine copy_loop (L_X9_back_30 (nI i)) G 85 (74 * i) 82 0 74 (Or.inl (by omega)) (fun n => by
    rw [L_X9_back_30, if_pos (show (74 : Int32) ≤ nI 74 from nI_le (a := 74) (b := 74) (by omega) (by omega))]) (fun n x hx => ?_) NF (NF_big (by omega))
  have h1 : ¬ (74 : Int32) ≤ nI x := nI_ge (a := x) (b := 74) hx (by omega)
  rw [L_X9_back_30, if_neg h1, show (74 : Int32) = nI 74 from rfl, pk_mul, nI_add, ald_nI (by omega) (by omega), Option.bind_some, ast_nI (by omega) (by omega), Option.bind_some, nI_1, Nat.zero_add]
theorem undo27_eq {G : Mem} {u : Nat} (hu : u < 10) (e : G 81 4 = nI u) : L_X9_undo_27 NF 0 G = some (cpy G 84 (74 * u) 82 0 74) := by
  refine copy_loop L_X9_undo_27 G 84 (74 * u) 82 0 74 (Or.inl (by omega)) (fun n => by
    rw [L_X9_undo_27, if_pos (show (74 : Int32) ≤ nI 74 from nI_le (a := 74) (b := 74) (by omega) (by omega))]) (fun n x hx => ?_) NF (NF_big (by omega))
  have h1 : ¬ (74 : Int32) ≤ nI x := nI_ge (a := x) (b := 74) hx (by omega)
  have f : (cpy G 84 (74 * u) 82 0 x) 81 4 = nI u := by rw [cpy_n (by omega)]; exact e
  rw [L_X9_undo_27, if_neg h1, f, show (74 : Int32) = nI 74 from rfl, pk_mul, nI_add, ald_nI (by omega) (by omega), Option.bind_some, ast_nI (by omega) (by omega), Option.bind_some, nI_1, Nat.zero_add]
theorem st_21 (G : Mem) (a b c : Int32) (hI : Inv G) : ∃ (r : Int32) (G1 G2 : Mem), op8 21 G a b c = some (r, G1) ∧ op9 21 G1 a b c = some (r, G2) ∧ Inv G2 := by
  have hT := hI.keeps (keeps_thrown G)
  obtain ⟨nc, ⟨A, hw, hnc, hC, hR⟩, ht, hu, ⟨kb, k1, k2, k3⟩, hz⟩ := hI
  show ∃ (r : Int32) (G1 G2 : Mem), m_X8_keep G a = some (r, G1) ∧ m_X9_keep G1 a = some (r, G2) ∧ Inv G2
  rcases time_cases (M := 1) 1 rfl (by omega) a with ha | ⟨i, hi, rfl⟩
  · refine ⟨-1, G, upm G 81 0 0, ?_, ?_, hT⟩
    · unfold m_X8_keep
      by_cases h0 : a < 0
      · rw [if_pos h0]
      · rw [if_neg h0, if_neg]
        have := ha.resolve_left h0
        rw [fa_lt] at this ⊢
        have e1 : ((1 : Int32)).toInt = 1 := by decide
        have e2 : ((2 : Int32)).toInt = 2 := by decide
        omega
    · unfold m_X9_keep
      rw [in_no ha, if_pos rfl]
  have hi2 : i < 2 := by omega
  obtain ⟨o1, o2, o3, o4⟩ := or4 kb k1 i hi2
  have f1 : (cpy G 2 0 (21 + i) 0 74) 19 1 = nI kb := by rw [cpy_n (by omega)]; exact k2
  have fC : ((upm (cpy G 2 0 (21 + i) 0 74) 19 1 (nI (kb ||| 2 ^ i))) 2) = G 2 := by rw [upm_n _ _ _ (by omega), cpy_n (by omega)]
  refine ⟨nI A.ns, upm (cpy G 2 0 (21 + i) 0 74) 19 1 (nI (kb ||| 2 ^ i)), upm (cpy (upm (upm (cpy G 2 0 (21 + i) 0 74) 19 1 (nI (kb ||| 2 ^ i))) 81 0 0) 82 0 85 (74 * i) 74) 86 i 1, ?_, ?_, ?_⟩
  · unfold m_X8_keep m_X0_store
    rw [if_neg (nI_pos (by omega)), if_pos (show nI i < (2 : Int32) from nI_lt (a := i) (b := 2) hi2 (by omega)), if_neg (nI_pos (by omega)), if_neg (show ¬ (2 : Int32) ≤ nI i from nI_ge (a := i) (b := 2) hi2 (by omega)), aal_nI hi2 (by omega), Option.bind_some, copyTo_eq G (by omega), Option.bind_some, f1, o1, Option.bind_some]
    rw [c8_1 (A := A) (by rw [fC]; exact hC), Option.bind_some]
  · unfold m_X9_keep
    rw [in_yes (nI_pos (by omega)) (show ¬ (1 : Int32) < nI i from nI_nlt (a := 1) (b := i) hi (by omega)), if_neg one_ne, keep18_eq hi2, Option.bind_some, ast_nI (by omega) (by omega), Option.bind_some]
    rw [c9_1 (A := A) (by rw [upm_n _ _ _ (by omega), cpy_n (by omega), upm_n _ _ _ (by omega), upm_n _ _ _ (by omega), cpy_n (by omega)]; exact hR), Option.bind_some]
  · generalize hG2 : upm (cpy (upm (upm (cpy G 2 0 (21 + i) 0 74) 19 1 (nI (kb ||| 2 ^ i))) 81 0 0) 82 0 85 (74 * i) 74) 86 i 1 = G2
    have ke : ∀ k, k ≠ 86 → k ≠ 85 → k ≠ 81 → k ≠ 19 → k ≠ 21 + i → G2 k = G k := by
      intro k a1 a2 a3 a4 a5
      rw [← hG2, upm_n _ _ _ a1, cpy_n a2, upm_n _ _ _ a3, upm_n _ _ _ a4, cpy_n a5]
    have k81 : ∀ j, j ≠ 0 → G2 81 j = G 81 j := by
      intro j hj
      rw [← hG2, upm_n _ _ _ (by omega), cpy_n (by omega), upm_kn _ _ _ hj, upm_n _ _ _ (by omega), cpy_n (by omega)]
    refine ⟨nc, ?_, ?_, hu.congr (ke 7 (by omega) (by omega) (by omega) (by omega) (by omega)) (fun k h1 h2 => ke k (by omega) (by omega) (by omega) (by omega) (by omega)) (k81 4 (by omega)) (ke 84 (by omega) (by omega) (by omega) (by omega) (by omega)), ?_, ?_⟩
    · rw [ke 2 (by omega) (by omega) (by omega) (by omega) (by omega), ke 82 (by omega) (by omega) (by omega) (by omega) (by omega)]
      exact ⟨A, hw, hnc, hC, hR⟩
    · unfold TextOk at ht ⊢
      rw [ke 5 (by omega) (by omega) (by omega) (by omega) (by omega), ke 6 (by omega) (by omega) (by omega) (by omega) (by omega), ke 90 (by omega) (by omega) (by omega) (by omega) (by omega), k81 11 (by omega)]
      exact ht
    · refine ⟨kb ||| 2 ^ i, o2, ?_, fun i' hi' => ?_⟩
      · rw [← hG2, upm_n _ _ _ (by omega), cpy_n (by omega), upm_n _ _ _ (by omega), upm_kj]
      · by_cases e : i' = i
        · subst e
          refine ⟨?_, fun _ => ?_⟩
          · rw [← hG2, upm_kj, if_pos o3]
          · have e21 : G2 (21 + i') = cpy G 2 0 (21 + i') 0 74 (21 + i') := by rw [← hG2, upm_n _ _ _ (by omega), cpy_n (by omega), upm_n _ _ _ (by omega), upm_n _ _ _ (by omega)]
            refine Pair.congr (R := G 2) (S := G 82) (fun j hj => ?_) (fun j hj => ?_) ⟨A, hw, hnc, hC, hR⟩
            · rw [e21, cpy_in (by omega) (by omega)]
              congr 1
              omega
            · show G2 85 (74 * i' + j) = _
              rw [← hG2, upm_n _ _ _ (by omega), cpy_in (by omega) (by omega)]
              rw [upm_n _ _ _ (by omega), upm_n _ _ _ (by omega), cpy_n (by omega)]
              congr 1
              omega
        · have h4 := k3 i' hi'
          have e86 : G2 86 i' = G 86 i' := by rw [← hG2, upm_kn _ _ _ e, cpy_n (by omega), upm_n _ _ _ (by omega), upm_n _ _ _ (by omega), cpy_n (by omega)]
          refine ⟨by rw [e86, o4 i' hi' e]; exact h4.1, fun hb => ?_⟩
          rw [o4 i' hi' e] at hb
          refine (h4.2 hb).congr (fun j hj => ?_) (fun j hj => ?_)
          · rw [ke (21 + i') (by omega) (by omega) (by omega) (by omega) (by omega)]
          · show G2 85 (74 * i' + j) = G 85 (74 * i' + j)
            rw [← hG2, upm_n _ _ _ (by omega), cpy_out (by omega), upm_n _ _ _ (by omega), upm_n _ _ _ (by omega), cpy_n (by omega)]
    · unfold SeenOk at hz ⊢
      rw [ke 23 (by omega) (by omega) (by omega) (by omega) (by omega), ke 24 (by omega) (by omega) (by omega) (by omega) (by omega), ke 25 (by omega) (by omega) (by omega) (by omega) (by omega), ke 26 (by omega) (by omega) (by omega) (by omega) (by omega), ke 87 (by omega) (by omega) (by omega) (by omega) (by omega), ke 88 (by omega) (by omega) (by omega) (by omega) (by omega), ke 89 (by omega) (by omega) (by omega) (by omega) (by omega), k81 7 (by omega)]
      exact hz
