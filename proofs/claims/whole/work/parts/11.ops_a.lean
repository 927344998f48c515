/-! ===== 11 steps: type, clear, forget, count, sees ===== -/
/-- the reference's note of what it threw is nobody's business -/
theorem keeps_thrown (G : Mem) : Keeps G (upm G 81 0 0) := by
  refine ⟨rfl, rfl, rfl, rfl, fun k h1 h2 => upm_n _ _ _ (by omega), rfl, rfl, rfl, rfl, rfl, rfl, rfl, rfl, rfl, rfl, rfl, fun k h1 h2 => upm_n _ _ _ (by omega)⟩
theorem st_0 (G : Mem) (a b c : Int32) (hI : Inv G) : ∃ (r : Int32) (G1 G2 : Mem), op8 0 G a b c = some (r, G1) ∧ op9 0 G1 a b c = some (r, G2) ∧ Inv G2 := by
  show ∃ (r : Int32) (G1 G2 : Mem), m_X8_type G a = some (r, G1) ∧ m_X9_type G1 a = some (r, G2) ∧ Inv G2
  by_cases h1 : a < 0
  · exact ⟨-1, G, upm G 81 0 0, by simp [m_X8_type, h1], by simp [m_X9_type, m_X9_in, h1], hI.keeps (keeps_thrown G)⟩
  by_cases h2 : a ≤ 255
  · obtain ⟨v, hv, rfl⟩ := nI_of2 (n := 255) rfl h1 h2
    obtain ⟨nc, hp, ⟨nt, t1, t2, t3, t4⟩, hu, hi, hz⟩ := hI
    by_cases hn : nt = 80
    · subst hn
      refine ⟨-3, G, upm G 81 0 0, ?_, ?_, Inv.keeps ⟨nc, hp, ⟨80, t1, t2, t3, t4⟩, hu, hi, hz⟩ (keeps_thrown G)⟩
      · unfold m_X8_type m_X7_append
        rw [if_neg h1, if_pos h2, t2, if_neg (nI_pos (by omega)), if_neg (show ¬ nI 80 < (80 : Int32) from nI_nlt (a := 80) (b := 80) (by omega) (by omega)), Option.bind_some, if_pos rfl]
      · have h3 : ¬ (255 : Int32) < nI v := by rw [Int32.not_lt]; exact h2
        have e : (upm G 81 0 0) 81 11 = 80 := t3
        simp [m_X9_type, m_X9_in, h1, h3, e]
    · have hlt : nt < 80 := by omega
      have p0 : ¬ nI nt < 0 := nI_pos (by omega)
      have p1 : nI nt < 80 := nI_lt (a := nt) (b := 80) hlt (by omega)
      have pe : ¬ nI nt = 80 := fun e => by have := (nI_eq (a := nt) (b := 80) (by omega) (by omega)).mp e; omega
      have h3 : ¬ (255 : Int32) < nI v := by rw [Int32.not_lt]; exact h2
      refine ⟨nI (nt + 1), upm (upm G 6 nt (nI v)) 5 1 (nI (nt + 1)), upm (upm (upm (upm (upm G 6 nt (nI v)) 5 1 (nI (nt + 1))) 81 0 0) 90 nt (nI v)) 81 11 (nI (nt + 1)), ?_, ?_, ?_⟩
      · unfold m_X8_type m_X7_append m_X7_size
        rw [if_neg h1, if_pos h2, t2, if_neg p0, if_pos p1, ast_nI hlt (by omega)]
        have e : (upm G 6 nt (nI v)) 5 1 = nI nt := t2
        simp only [Option.bind_some, e, nI_1]
        rfl
      · unfold m_X9_type m_X9_in
        have e1 : (upm (upm (upm G 6 nt (nI v)) 5 1 (nI (nt + 1))) 81 0 0) 81 11 = nI nt := t3
        rw [if_neg h1, if_neg h3, e1, if_neg pe, ast_nI hlt (by omega)]
        have e2 : (upm (upm (upm (upm G 6 nt (nI v)) 5 1 (nI (nt + 1))) 81 0 0) 90 nt (nI v)) 81 11 = nI nt := t3
        simp only [Option.bind_some, e2, nI_1]
        rfl
      · refine ⟨nc, hp, ⟨nt + 1, by omega, rfl, rfl, fun i hi' => ?_⟩, PastOk.congr (G := G) rfl (fun k h1 h2 => by repeat rw [upm_n _ _ _ (by omega)]) rfl rfl hu, ?_, hz⟩
        · by_cases e : i = nt
          · subst e
            exact ⟨v, by omega, upm_kj G 6 i (nI v), upm_kj _ 90 i (nI v)⟩
          · obtain ⟨x, y1, y2, y3⟩ := t4 i (by omega)
            exact ⟨x, y1, by rw [← y2]; exact upm_kn G 6 (nI v) e, by rw [← y3]; exact upm_kn G 90 (nI v) e⟩
        · exact ImgOk.congr (G := G) rfl rfl rfl rfl rfl hi
  · have h3 : (255 : Int32) < a := Int32.not_le.mp h2
    exact ⟨-1, G, upm G 81 0 0, by simp [m_X8_type, h1, h2], by simp [m_X9_type, m_X9_in, h1, h3], hI.keeps (keeps_thrown G)⟩
theorem st_1 (G : Mem) (a b c : Int32) (hI : Inv G) : ∃ (r : Int32) (G1 G2 : Mem), op8 1 G a b c = some (r, G1) ∧ op9 1 G1 a b c = some (r, G2) ∧ Inv G2 := by
  obtain ⟨nc, hp, ⟨nt, t1, t2, t3, t4⟩, hu, hi, hz⟩ := hI
  refine ⟨nI nt, upm G 5 1 0, upm (upm (upm G 5 1 0) 81 0 0) 81 11 0, ?_, ?_, ?_⟩
  · show some (m_X7_size G, m_X7_empty G) = _
    unfold m_X7_size m_X7_empty
    rw [t2]
  · show some ((upm (upm G 5 1 0) 81 0 0) 81 11, upm (upm (upm G 5 1 0) 81 0 0) 81 11 0) = _
    rw [show (upm (upm G 5 1 0) 81 0 0) 81 11 = nI nt from t3]
  · exact ⟨nc, hp, ⟨0, by omega, rfl, rfl, fun i h => absurd h (by omega)⟩, PastOk.congr (G := G) rfl (fun k h1 h2 => by repeat rw [upm_n _ _ _ (by omega)]) rfl rfl hu, ImgOk.congr (G := G) rfl rfl rfl rfl rfl hi, hz⟩
theorem st_19 (G : Mem) (a b c : Int32) (hI : Inv G) : ∃ (r : Int32) (G1 G2 : Mem), op8 19 G a b c = some (r, G1) ∧ op9 19 G1 a b c = some (r, G2) ∧ Inv G2 := by
  obtain ⟨nc, hp, ht, hu, hi, ⟨nz, z1, z2, z3, z4⟩⟩ := hI
  refine ⟨nI nz, upm G 23 3 0, upm (upm (upm G 23 3 0) 81 0 0) 81 7 0, ?_, ?_, ?_⟩
  · show some (m_X4_size G, m_X4_empty G) = _
    unfold m_X4_size m_X4_empty
    rw [z2]
  · show some ((upm (upm G 23 3 0) 81 0 0) 81 7, upm (upm (upm G 23 3 0) 81 0 0) 81 7 0) = _
    rw [show (upm (upm G 23 3 0) 81 0 0) 81 7 = nI nz from z3]
  · exact ⟨nc, hp, ht, PastOk.congr (G := G) rfl (fun k h1 h2 => by repeat rw [upm_n _ _ _ (by omega)]) rfl rfl hu, ImgOk.congr (G := G) rfl rfl rfl rfl rfl hi, ⟨0, by omega, rfl, rfl, fun i h => absurd h (by omega)⟩⟩
theorem c8_0 {A : Told} {G : Mem} (h : RowC A (G 2)) : m_X6_clauses G 1 = some (nI A.nc) := by
  unfold m_X6_clauses
  rw [show (0 : Int32) = nI 0 from rfl, ald_nI (by omega) (by omega), Option.bind_some]
  exact congrArg some h.1.1
theorem c8_1 {A : Told} {G : Mem} (h : RowC A (G 2)) : m_X6_statements G 1 = some (nI A.ns) := by
  unfold m_X6_statements
  rw [show (1 : Int32) = nI 1 from rfl, ald_nI (by omega) (by omega), Option.bind_some]
  exact congrArg some h.1.2
theorem c8_2 {A : Told} {G : Mem} (hw : WF A) (h : RowC A (G 2)) : m_X6_sayings G 1 = some (nI (A.ns - A.nc)) := by
  unfold m_X6_sayings
  rw [c8_1 h, Option.bind_some, c8_0 h, Option.bind_some, pk_sub hw.1.2.1]
theorem c9_0 {A : Told} {G : Mem} (h : RowR A (G 82)) : ald 74 G 82 0 = some (nI A.nc) := by
  rw [show (0 : Int32) = nI 0 from rfl, ald_nI (by omega) (by omega)]
  exact congrArg some h.1.1
theorem c9_1 {A : Told} {G : Mem} (h : RowR A (G 82)) : ald 74 G 82 1 = some (nI A.ns) := by
  rw [show (1 : Int32) = nI 1 from rfl, ald_nI (by omega) (by omega)]
  exact congrArg some h.1.2
theorem c9_2 {A : Told} {G : Mem} (hw : WF A) (h : RowR A (G 82)) : m_X9_sayings G = some (nI (A.ns - A.nc)) := by
  unfold m_X9_sayings
  rw [c9_1 h, Option.bind_some, c9_0 h, Option.bind_some, pk_sub hw.1.2.1]
theorem st_23 (G : Mem) (a b c : Int32) (hI : Inv G) : ∃ (r : Int32) (G1 G2 : Mem), op8 23 G a b c = some (r, G1) ∧ op9 23 G1 a b c = some (r, G2) ∧ Inv G2 := by
  have hI' := hI
  obtain ⟨nc, ⟨A, hw, hnc, hC, hR⟩, ⟨nt, t1, t2, t3, t4⟩, ⟨nx, nu, u1, u2, u3, u4, u5, u6⟩, hi, ⟨nz, z1, z2, z3, z4⟩⟩ := hI
  show ∃ (r : Int32) (G1 G2 : Mem), (m_X8_count G a).map (fun r => (r, G)) = some (r, G1) ∧ m_X9_count G1 a = some (r, G2) ∧ Inv G2
  have hR' : RowR A ((upm G 81 0 0) 82) := hR
  have e1 : (upm G 81 0 0) 81 7 = nI nz := z3
  have e2 : (upm G 81 0 0) 81 11 = nI nt := t3
  have e3 : (upm G 81 0 0) 81 4 = nI nu := u5
  unfold m_X8_count m_X9_count m_X4_size m_X7_size m_X2_size
  rw [c8_0 hC, c8_1 hC, c8_2 hw hC, z2, t2, u4]
  by_cases h0 : a = 0
  · exact ⟨_, G, upm G 81 0 0, by rw [if_pos h0]; rfl, by rw [if_pos h0, c9_0 hR']; rfl, hI'.keeps (keeps_thrown G)⟩
  by_cases h1 : a = 1
  · exact ⟨_, G, upm G 81 0 0, by rw [if_neg h0, if_pos h1]; rfl, by rw [if_neg h0, if_pos h1, c9_2 hw hR']; rfl, hI'.keeps (keeps_thrown G)⟩
  by_cases h2 : a = 2
  · exact ⟨_, G, upm G 81 0 0, by rw [if_neg h0, if_neg h1, if_pos h2]; rfl, by rw [if_neg h0, if_neg h1, if_pos h2, c9_1 hR']; rfl, hI'.keeps (keeps_thrown G)⟩
  by_cases h3 : a = 3
  · exact ⟨_, G, upm G 81 0 0, by rw [if_neg h0, if_neg h1, if_neg h2, if_pos h3]; rfl, by rw [if_neg h0, if_neg h1, if_neg h2, if_pos h3, e1], hI'.keeps (keeps_thrown G)⟩
  by_cases h4 : a = 4
  · exact ⟨_, G, upm G 81 0 0, by rw [if_neg h0, if_neg h1, if_neg h2, if_neg h3, if_pos h4]; rfl, by rw [if_neg h0, if_neg h1, if_neg h2, if_neg h3, if_pos h4, e2], hI'.keeps (keeps_thrown G)⟩
  by_cases h5 : a = 5
  · exact ⟨_, G, upm G 81 0 0, by rw [if_neg h0, if_neg h1, if_neg h2, if_neg h3, if_neg h4, if_pos h5]; rfl, by rw [if_neg h0, if_neg h1, if_neg h2, if_neg h3, if_neg h4, if_pos h5, e3], hI'.keeps (keeps_thrown G)⟩
  · exact ⟨_, G, upm G 81 0 0, by rw [if_neg h0, if_neg h1, if_neg h2, if_neg h3, if_neg h4, if_neg h5]; rfl, by rw [if_neg h0, if_neg h1, if_neg h2, if_neg h3, if_neg h4, if_neg h5], hI'.keeps (keeps_thrown G)⟩
/-- a number in its range, or not; both sides ask alike -/
theorem in_no {p lo hi : Int32} (h : p < lo ∨ hi < p) : m_X9_in p lo hi = 0 := by
  unfold m_X9_in
  rcases h with h | h
  · rw [if_pos h]
  · by_cases h2 : p < lo
    · rw [if_pos h2]
    · rw [if_neg h2, if_pos h]
theorem in_yes {p lo hi : Int32} (h1 : ¬ p < lo) (h2 : ¬ hi < p) : m_X9_in p lo hi = 1 := by
  unfold m_X9_in
  rw [if_neg h1, if_neg h2]
theorem time_cases {M : Int32} (n : Nat) (hM : nI n = M) (hn : n < 2147483648) (p : Int32) : (p < 0 ∨ M < p) ∨ ∃ j, j ≤ n ∧ p = nI j := by
  subst hM
  by_cases h : p < 0
  · exact Or.inl (Or.inl h)
  by_cases h2 : nI n < p
  · exact Or.inl (Or.inr h2)
  · obtain ⟨j, h3, h4⟩ := nI_of2 (n := n) (nI_toInt hn) h (Int32.not_lt.mp h2)
    exact Or.inr ⟨j, h3, h4⟩
theorem below_cases {M : Int32} (n : Nat) (hM : nI n = M) (hn : n < 2147483648) (p : Int32) : (p < 0 ∨ M ≤ p) ∨ ∃ j, j < n ∧ p = nI j := by
  subst hM
  by_cases h : p < 0
  · exact Or.inl (Or.inl h)
  by_cases h2 : nI n ≤ p
  · exact Or.inl (Or.inr h2)
  · obtain ⟨j, h3, h4⟩ := nI_of h
    refine Or.inr ⟨j, ?_, h4⟩
    rw [h4] at h2
    exact Nat.lt_of_not_le (fun z => h2 (nI_le z h3))
theorem two_mul (n : Nat) : (2 : Int32) * nI n = nI (2 * n) := by rw [show (2 : Int32) = nI 2 from rfl, pk_mul]
theorem t8_no {A : Told} {G : Mem} (hw : WF A) (h : RowC A (G 2)) {p : Int32} (hp : p < 0 ∨ nI (2 * A.nc) < p) : m_X8_isTime G p = some 0 := by
  unfold m_X8_isTime
  by_cases h0 : p < 0
  · rw [if_pos h0]
  · rw [if_neg h0, c8_0 h, Option.bind_some, two_mul, if_pos (hp.resolve_left h0)]
theorem t8_yes {A : Told} {G : Mem} (hw : WF A) (h : RowC A (G 2)) {j : Nat} (hj : j ≤ 2 * A.nc) : m_X8_isTime G (nI j) = some 1 := by
  have h1 := hw.1
  unfold m_X8_isTime
  rw [if_neg (nI_pos (by omega)), c8_0 h, Option.bind_some, two_mul, if_neg (nI_nlt hj (by omega))]
theorem t9_no {A : Told} {G : Mem} (hw : WF A) (h : RowR A (G 82)) {p : Int32} (hp : p < 0 ∨ nI (2 * A.nc) < p) : m_X9_isTime G p = some 0 := by
  unfold m_X9_isTime
  rw [c9_0 h, Option.bind_some, two_mul, in_no hp]
  rfl
theorem t9_yes {A : Told} {G : Mem} (hw : WF A) (h : RowR A (G 82)) {j : Nat} (hj : j ≤ 2 * A.nc) : m_X9_isTime G (nI j) = some 1 := by
  have h1 := hw.1
  unfold m_X9_isTime
  rw [c9_0 h, Option.bind_some, two_mul, in_yes (nI_pos (by omega)) (nI_nlt hj (by omega))]
  rfl
theorem one_ne : ¬ (1 : Int32) = 0 := by decide
theorem st_18 (G : Mem) (a b c : Int32) (hI : Inv G) : ∃ (r : Int32) (G1 G2 : Mem), op8 18 G a b c = some (r, G1) ∧ op9 18 G1 a b c = some (r, G2) ∧ Inv G2 := by
  have hI' := hI
  obtain ⟨nc, ⟨A, hw, hnc, hC, hR⟩, ht, hu, hi, ⟨nz, z1, z2, z3, z4⟩⟩ := hI
  show ∃ (r : Int32) (G1 G2 : Mem), m_X8_sees G a b c = some (r, G1) ∧ m_X9_sees G1 a b c = some (r, G2) ∧ Inv G2
  have h1 := hw.1
  have hR' : RowR A ((upm G 81 0 0) 82) := hR
  have bad : ∀ {x : Prop}, True → Inv (upm G 81 0 0) := fun _ => hI'.keeps (keeps_thrown G)
  have hT := hI'.keeps (keeps_thrown G)
  rcases time_cases (2 * A.nc) rfl (by omega) a with ha | ⟨p, hp, rfl⟩
  · refine ⟨-1, G, upm G 81 0 0, ?_, ?_, hT⟩
    · unfold m_X8_sees; rw [t8_no hw hC ha, Option.bind_some, if_pos rfl]
    · unfold m_X9_sees; rw [t9_no hw hR' ha, Option.bind_some, if_pos rfl]
  rcases time_cases (2 * A.nc) rfl (by omega) b with hb | ⟨q, hq, rfl⟩
  · refine ⟨-1, G, upm G 81 0 0, ?_, ?_, hT⟩
    · unfold m_X8_sees; rw [t8_yes hw hC hp, Option.bind_some, if_neg one_ne, t8_no hw hC hb, Option.bind_some, if_pos rfl]
    · unfold m_X9_sees; rw [t9_yes hw hR' hp, Option.bind_some, if_neg one_ne, t9_no hw hR' hb, Option.bind_some, if_pos rfl]
  rcases time_cases (M := 4) 4 rfl (by omega) c with hc | ⟨r, hr, rfl⟩
  · refine ⟨-1, G, upm G 81 0 0, ?_, ?_, hT⟩
    · unfold m_X8_sees; rw [t8_yes hw hC hp, Option.bind_some, if_neg one_ne, t8_yes hw hC hq, Option.bind_some, if_neg one_ne]
      by_cases h0 : c < 0
      · rw [if_pos h0]
      · rw [if_neg h0, if_neg (Int32.not_le.mpr (hc.resolve_left h0))]
    · unfold m_X9_sees; rw [t9_yes hw hR' hp, Option.bind_some, if_neg one_ne, t9_yes hw hR' hq, Option.bind_some, if_neg one_ne, in_no hc, if_pos rfl]
  have c1 : ¬ nI r < 0 := nI_pos (by omega)
  have c2 : nI r ≤ 4 := nI_le (a := r) (b := 4) hr (by omega)
  have c3 : ¬ (4 : Int32) < nI r := Int32.not_lt.mpr c2
  by_cases hn : nz = 6
  · subst hn
    refine ⟨-3, G, upm G 81 0 0, ?_, ?_, hT⟩
    · unfold m_X8_sees m_X4_add; rw [t8_yes hw hC hp, Option.bind_some, if_neg one_ne, t8_yes hw hC hq, Option.bind_some, if_neg one_ne, if_neg c1, if_pos c2, z2, if_neg (nI_pos (by omega)), if_neg (show ¬ nI 6 < (6 : Int32) from nI_nlt (a := 6) (b := 6) (by omega) (by omega)), Option.bind_some, if_pos rfl]
    · unfold m_X9_sees; rw [t9_yes hw hR' hp, Option.bind_some, if_neg one_ne, t9_yes hw hR' hq, Option.bind_some, if_neg one_ne, in_yes c1 c3, if_neg one_ne, if_pos (show (upm G 81 0 0) 81 7 = 6 from z3)]
  · have hlt : nz < 6 := by omega
    have pe : ¬ nI nz = 6 := fun e => by have := (nI_eq (a := nz) (b := 6) (by omega) (by omega)).mp e; omega
    refine ⟨nI (nz + 1), upm (upm (upm (upm G 24 nz (nI p)) 25 nz (nI q)) 26 nz (nI r)) 23 3 (nI (nz + 1)), upm (upm (upm (upm (upm (upm (upm (upm (upm G 24 nz (nI p)) 25 nz (nI q)) 26 nz (nI r)) 23 3 (nI (nz + 1))) 81 0 0) 87 nz (nI p)) 88 nz (nI q)) 89 nz (nI r)) 81 7 (nI (nz + 1)), ?_, ?_, ?_⟩
    · unfold m_X8_sees m_X4_add m_X4_size
      rw [t8_yes hw hC hp, Option.bind_some, if_neg one_ne, t8_yes hw hC hq, Option.bind_some, if_neg one_ne, if_neg c1, if_pos c2, z2, if_neg (nI_pos (by omega)), if_pos (show nI nz < (6 : Int32) from nI_lt (a := nz) (b := 6) hlt (by omega)), ast_nI hlt (by omega), Option.bind_some]
      rw [show (upm G 24 nz (nI p)) 23 3 = nI nz from z2, ast_nI hlt (by omega), Option.bind_some]
      rw [show (upm (upm G 24 nz (nI p)) 25 nz (nI q)) 23 3 = nI nz from z2, ast_nI hlt (by omega), Option.bind_some]
      rw [show (upm (upm (upm G 24 nz (nI p)) 25 nz (nI q)) 26 nz (nI r)) 23 3 = nI nz from z2, Option.bind_some, if_neg one_ne, nI_1]
      rfl
    · unfold m_X9_sees
      have hR2 : RowR A ((upm (upm (upm (upm (upm G 24 nz (nI p)) 25 nz (nI q)) 26 nz (nI r)) 23 3 (nI (nz + 1))) 81 0 0) 82) := hR
      rw [t9_yes hw hR2 hp, Option.bind_some, if_neg one_ne, t9_yes hw hR2 hq, Option.bind_some, if_neg one_ne, in_yes c1 c3, if_neg one_ne]
      rw [show (upm (upm (upm (upm (upm G 24 nz (nI p)) 25 nz (nI q)) 26 nz (nI r)) 23 3 (nI (nz + 1))) 81 0 0) 81 7 = nI nz from z3, if_neg pe, ast_nI hlt (by omega), Option.bind_some]
      rw [show (upm (upm (upm (upm (upm (upm G 24 nz (nI p)) 25 nz (nI q)) 26 nz (nI r)) 23 3 (nI (nz + 1))) 81 0 0) 87 nz (nI p)) 81 7 = nI nz from z3, ast_nI hlt (by omega), Option.bind_some]
      rw [show (upm (upm (upm (upm (upm (upm (upm G 24 nz (nI p)) 25 nz (nI q)) 26 nz (nI r)) 23 3 (nI (nz + 1))) 81 0 0) 87 nz (nI p)) 88 nz (nI q)) 81 7 = nI nz from z3, ast_nI hlt (by omega), Option.bind_some]
      rw [show (upm (upm (upm (upm (upm (upm (upm (upm G 24 nz (nI p)) 25 nz (nI q)) 26 nz (nI r)) 23 3 (nI (nz + 1))) 81 0 0) 87 nz (nI p)) 88 nz (nI q)) 89 nz (nI r)) 81 7 = nI nz from z3, nI_1]
      rfl
    · refine ⟨nc, ⟨A, hw, hnc, hC, hR⟩, ht, PastOk.congr (G := G) rfl (fun k h1 h2 => by repeat rw [upm_n _ _ _ (by omega)]) rfl rfl hu, ImgOk.congr (G := G) rfl rfl rfl rfl rfl hi, ⟨nz + 1, by omega, rfl, rfl, fun i hi' => ?_⟩⟩
      by_cases e : i = nz
      · subst e
        exact ⟨p, q, r, by omega, by omega, by omega, upm_kj G 24 i (nI p), upm_kj _ 25 i (nI q), upm_kj _ 26 i (nI r), upm_kj _ 87 i (nI p), upm_kj _ 88 i (nI q), upm_kj _ 89 i (nI r)⟩
      · obtain ⟨p', q', r', y1, y2, y3, y4, y5, y6, y7, y8, y9⟩ := z4 i (by omega)
        exact ⟨p', q', r', y1, y2, y3, by rw [← y4]; exact upm_kn G 24 _ e, by rw [← y5]; exact upm_kn G 25 _ e, by rw [← y6]; exact upm_kn G 26 _ e, by rw [← y7]; exact upm_kn G 87 _ e, by rw [← y8]; exact upm_kn G 88 _ e, by rw [← y9]; exact upm_kn G 89 _ e⟩
