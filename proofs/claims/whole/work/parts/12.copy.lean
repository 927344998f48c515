/-! ===== 12 copies of rows, what may be undone ===== -/
/-- m ints copied from place p of cell a to place q of cell b -/
def cpy (G : Mem) (a p b q m : Nat) : Mem := fun k => if k = b then (fun j => if q ≤ j ∧ j < q + m then G a (p + (j - q)) else G b j) else G k
theorem cpy_0 (G : Mem) (a p b q : Nat) : cpy G a p b q 0 = G := by
  funext k
  unfold cpy
  by_cases h : k = b
  · rw [if_pos h, h]
    funext j
    rw [if_neg (by omega)]
  · rw [if_neg h]
theorem cpy_n {G : Mem} {a p b q m k : Nat} (h : k ≠ b) : cpy G a p b q m k = G k := if_neg h
theorem cpy_in {G : Mem} {a p b q m j : Nat} (h : q ≤ j) (h2 : j < q + m) : cpy G a p b q m b j = G a (p + (j - q)) := by
  unfold cpy
  rw [if_pos rfl, if_pos ⟨h, h2⟩]
theorem cpy_out {G : Mem} {a p b q m j : Nat} (h : ¬ (q ≤ j ∧ j < q + m)) : cpy G a p b q m b j = G b j := by
  unfold cpy
  rw [if_pos rfl, if_neg h]
theorem cpy_src {G : Mem} {a p b q x : Nat} (hab : a ≠ b ∨ q ≤ p) : cpy G a p b q x a (p + x) = G a (p + x) := by
  by_cases h : a = b
  · subst h
    exact cpy_out (by rcases hab with h | h <;> omega)
  · exact congrFun (cpy_n h) _
theorem cpy_s {G : Mem} {a p b q x : Nat} (hab : a ≠ b ∨ q ≤ p) : upm (cpy G a p b q x) b (q + x) (G a (p + x)) = cpy G a p b q (x + 1) := by
  funext k
  by_cases h : k = b
  · subst h
    rw [upm_k]
    funext j
    unfold upd
    by_cases hj : j = q + x
    · subst hj
      rw [if_pos rfl, cpy_in (by omega) (by omega), show q + x - q = x by omega]
    · rw [if_neg hj]
      by_cases h2 : q ≤ j ∧ j < q + x
      · rw [cpy_in h2.1 h2.2, cpy_in h2.1 (by omega)]
      · rw [cpy_out h2, cpy_out (by omega)]
  · rw [upm_n _ _ _ h, cpy_n h, cpy_n h]
theorem copy_loop (L : Nat → Int32 → Mem → Option Mem) (G : Mem) (a p b q m : Nat) (hab : a ≠ b ∨ q ≤ p)
    (hE : ∀ n, L (n + 1) (nI m) (cpy G a p b q m) = some (cpy G a p b q m))
    (hL : ∀ n x, x < m → L (n + 1) (nI x) (cpy G a p b q x) = L n (nI (x + 1)) (upm (cpy G a p b q x) b (q + x) (cpy G a p b q x a (p + x)))) :
    ∀ n, m < n → L n (nI 0) G = some (cpy G a p b q m) := by
  have key : ∀ d x n, x + d = m → d < n → L n (nI x) (cpy G a p b q x) = some (cpy G a p b q m) := by
    intro d
    induction d with
    | zero =>
      intro x n h1 h2
      obtain ⟨n, rfl⟩ : ∃ k, n = k + 1 := ⟨n - 1, by omega⟩
      have e : x = m := by omega
      subst e
      exact hE n
    | succ d ih =>
      intro x n h1 h2
      obtain ⟨n, rfl⟩ : ∃ k, n = k + 1 := ⟨n - 1, by omega⟩
      rw [hL n x (by omega), cpy_src hab, cpy_s hab]
      exact ih (x + 1) n (by omega) (by omega)
  intro n hn
  have h := key m 0 n (by omega) hn
  rwa [cpy_0] at h
theorem lit_le {m x : Nat} (h : x < m) (hm : m < 2147483648) : ¬ nI m ≤ nI x := nI_ge h hm
theorem copyRow_eq (G : Mem) {a b : Nat} (h : a ≠ b) : m_X6_copyRow G a b = some (cpy G a 0 b 0 74) := by
  unfold m_X6_copyRow
  have := copy_loop (L_X6_copyRow_2 a b) G a 0 b 0 74 (Or.inl h) (fun n => by
    rw [L_X6_copyRow_2, if_pos (show (74 : Int32) ≤ nI 74 from nI_le (a := 74) (b := 74) (by omega) (by omega))]) (fun n x hx => by
    have h1 : ¬ (74 : Int32) ≤ nI x := nI_ge (a := x) (b := 74) hx (by omega)
    rw [L_X6_copyRow_2, if_neg h1, if_neg h1, if_neg h1, ald_nI hx (by omega), Option.bind_some, ast_nI hx (by omega), Option.bind_some, nI_1, Nat.zero_add]) NF (NF_big (by omega))
  rw [show (0 : Int32) = nI 0 from rfl, this]
  rfl
theorem copyTo_eq (G : Mem) {a : Nat} (h : 2 ≠ a) : m_X6_copyTo G 1 a = some (cpy G 2 0 a 0 74) := by
  unfold m_X6_copyTo
  rw [copyRow_eq G h]
  rfl
theorem copyFrom_eq (G : Mem) {a : Nat} (h : a ≠ 2) : m_X6_copyFrom G 1 a = some (cpy G a 0 2 0 74) := by
  unfold m_X6_copyFrom
  rw [copyRow_eq G h]
  rfl
/-- what the class notes ahead of a change -/
def N8 (G : Mem) (nx nu : Nat) : Mem := upm (upm (cpy G 2 0 (9 + nx) 0 74) 7 1 (nI (if nx + 1 < 10 then nx + 1 else 0))) 7 2 (nI (if nu + 1 < 10 then nu + 1 else 10))
theorem note_eq {G : Mem} {nx nu : Nat} (h1 : nx < 10) (h2 : nu ≤ 10) (e1 : G 7 1 = nI nx) (e2 : G 7 2 = nI nu) : m_X2_note G = some (N8 G nx nu) := by
  unfold m_X2_note N8
  have f1 : (cpy G 2 0 (9 + nx) 0 74) 7 = G 7 := cpy_n (by omega)
  rw [e1, if_neg (nI_pos (by omega)), if_pos (show nI nx < (10 : Int32) from nI_lt (a := nx) (b := 10) h1 (by omega)), aal_nI h1 (by omega), Option.bind_some, copyTo_eq G (by omega), Option.bind_some, f1, e1, nI_1]
  by_cases h : nx + 1 < 10
  · rw [if_neg (show ¬ (10 : Int32) ≤ nI (nx + 1) from nI_ge (a := nx + 1) (b := 10) h (by omega)), if_pos h, Option.bind_some]
    have f2 : (upm (cpy G 2 0 (9 + nx) 0 74) 7 1 (nI (nx + 1))) 7 2 = nI nu := by rw [upm_kn _ _ _ (by omega), f1]; exact e2
    simp only [f2, nI_1]
    by_cases h3 : nu + 1 < 10
    · rw [if_neg (show ¬ (10 : Int32) < nI (nu + 1) from nI_nlt (a := 10) (b := nu + 1) (by omega) (by omega)), if_pos h3]
    · rw [if_neg h3]
      by_cases h4 : nu = 10
      · rw [if_pos (show (10 : Int32) < nI (nu + 1) from nI_lt (a := 10) (b := nu + 1) (by omega) (by omega))]
        rfl
      · rw [if_neg (show ¬ (10 : Int32) < nI (nu + 1) from nI_nlt (a := 10) (b := nu + 1) (by omega) (by omega)), show nu + 1 = 10 by omega]
  · rw [if_pos (show (10 : Int32) ≤ nI (nx + 1) from nI_le (a := 10) (b := nx + 1) (by omega) (by omega)), if_neg h, Option.bind_some]
    have f2 : (upm (cpy G 2 0 (9 + nx) 0 74) 7 1 0) 7 2 = nI nu := by rw [upm_kn _ _ _ (by omega), f1]; exact e2
    simp only [f2, nI_1]
    by_cases h3 : nu + 1 < 10
    · rw [if_neg (show ¬ (10 : Int32) < nI (nu + 1) from nI_nlt (a := 10) (b := nu + 1) (by omega) (by omega)), if_pos h3]
      rfl
    · rw [if_neg h3]
      by_cases h4 : nu = 10
      · rw [if_pos (show (10 : Int32) < nI (nu + 1) from nI_lt (a := 10) (b := nu + 1) (by omega) (by omega))]
        rfl
      · rw [if_neg (show ¬ (10 : Int32) < nI (nu + 1) from nI_nlt (a := 10) (b := nu + 1) (by omega) (by omega)), show nu + 1 = 10 by omega]
        rfl
/-- what the reference notes ahead of a change -/
def N9 (G : Mem) (nu : Nat) : Mem := if nu = 10 then upm (cpy (upm (cpy G 84 74 84 0 666) 81 4 (nI 9)) 82 0 84 666 74) 81 4 (nI 10) else upm (cpy G 82 0 84 (74 * nu) 74) 81 4 (nI (nu + 1))
theorem notes51_eq {G : Mem} {u : Nat} (hu : u < 10) (e : G 81 4 = nI u) : L_X9_notes_51 NF 0 G = some (cpy G 82 0 84 (74 * u) 74) := by
  refine copy_loop L_X9_notes_51 G 82 0 84 (74 * u) 74 (Or.inl (by omega)) (fun n => by
    rw [L_X9_notes_51, if_pos (show (74 : Int32) ≤ nI 74 from nI_le (a := 74) (b := 74) (by omega) (by omega))]) (fun n x hx => ?_) NF (NF_big (by omega))
  have h1 : ¬ (74 : Int32) ≤ nI x := nI_ge (a := x) (b := 74) hx (by omega)
  have f : (cpy G 82 0 84 (74 * u) x) 81 4 = nI u := by rw [cpy_n (by omega)]; exact e
  rw [L_X9_notes_51, if_neg h1, ald_nI hx (by omega), Option.bind_some, f, show (74 : Int32) = nI 74 from rfl, pk_mul, nI_add, ast_nI (by omega) (by omega), Option.bind_some, nI_1, Nat.zero_add]
theorem notes11_eq (G : Mem) : L_X9_notes_11 NF 0 G = some (cpy G 84 74 84 0 666) := by
  refine copy_loop L_X9_notes_11 G 84 74 84 0 666 (Or.inr (by omega)) (fun n => by
    rw [L_X9_notes_11, if_pos (show (666 : Int32) ≤ nI 666 from nI_le (a := 666) (b := 666) (by omega) (by omega))]) (fun n x hx => ?_) NF (NF_big (by omega))
  have h1 : ¬ (666 : Int32) ≤ nI x := nI_ge (a := x) (b := 666) hx (by omega)
  rw [L_X9_notes_11, if_neg h1, show nI x + 74 = nI (74 + x) by rw [show (74 : Int32) = nI 74 from rfl, nI_add, Nat.add_comm], ald_nI (by omega) (by omega), Option.bind_some, ast_nI (by omega) (by omega), Option.bind_some, nI_1, Nat.zero_add]
theorem notes_eq {G : Mem} {nu : Nat} (h2 : nu ≤ 10) (e2 : G 81 4 = nI nu) : m_X9_notes G = some (N9 G nu) := by
  unfold m_X9_notes N9
  by_cases h : nu = 10
  · subst h
    rw [if_pos (show G 81 4 = (10 : Int32) from e2), if_pos rfl, notes11_eq, Option.bind_some, Option.bind_some]
    have f : (cpy G 84 74 84 0 666) 81 4 - 1 = nI 9 := by rw [cpy_n (by omega), e2]; rfl
    rw [f, notes51_eq (u := 9) (by omega) (upm_kj _ _ _ _), Option.bind_some]
    have f2 : (cpy (upm (cpy G 84 74 84 0 666) 81 4 (nI 9)) 82 0 84 (74 * 9) 74) 81 4 + 1 = nI 10 := by
      rw [cpy_n (by omega), upm_kj]; rfl
    rw [f2]
  · have hne : ¬ G 81 4 = (10 : Int32) := by
      rw [e2]
      intro z
      have := (nI_eq (a := nu) (b := 10) (by omega) (by omega)).mp z
      omega
    rw [if_neg hne, if_neg h, Option.bind_some, notes51_eq (u := nu) (by omega) e2, Option.bind_some]
    have f2 : (cpy G 82 0 84 (74 * nu) 74) 81 4 + 1 = nI (nu + 1) := by rw [cpy_n (by omega), e2, nI_1]
    rw [f2]
/-- both have noted: what may be undone is one more (of ten), the latest as it was told -/
theorem PastOk.noted {nc : Nat} {G G' : Mem} {nx nu : Nat} (h1 : nx < 10) (h2 : nu ≤ 10) (hp : Pair nc (G 2) (G 82))
    (h6 : ∀ j, j < nu → Pair nc (G (9 + (nx + 9 - j) % 10)) (fun i => G 84 (74 * (nu - 1 - j) + i)))
    (a1 : G' 7 1 = nI (if nx + 1 < 10 then nx + 1 else 0)) (a2 : G' 7 2 = nI (if nu + 1 < 10 then nu + 1 else 10)) (a3 : G' 81 4 = nI (if nu + 1 < 10 then nu + 1 else 10))
    (a4 : ∀ i, i < 74 → G' (9 + nx) i = G 2 i) (a5 : ∀ k, 9 ≤ k → k < 19 → k ≠ 9 + nx → G' k = G k)
    (a6 : nu < 10 → (∀ i, i < 74 → G' 84 (74 * nu + i) = G 82 i) ∧ ∀ i, i < 74 * nu → G' 84 i = G 84 i)
    (a7 : nu = 10 → (∀ i, i < 74 → G' 84 (666 + i) = G 82 i) ∧ ∀ i, i < 666 → G' 84 i = G 84 (74 + i)) : PastOk nc G' := by
  refine ⟨if nx + 1 < 10 then nx + 1 else 0, if nu + 1 < 10 then nu + 1 else 10, by split <;> omega, by split <;> omega, a1, a2, a3, fun j hj => ?_⟩
  by_cases hj0 : j = 0
  · subst hj0
    have er : 9 + ((if nx + 1 < 10 then nx + 1 else 0) + 9 - 0) % 10 = 9 + nx := by split <;> omega
    rw [er]
    refine hp.congr a4 (fun i hi => ?_)
    by_cases hn : nu < 10
    · have e : 74 * ((if nu + 1 < 10 then nu + 1 else 10) - 1 - 0) + i = 74 * nu + i := by split <;> omega
      show G' 84 _ = _
      rw [e]
      exact (a6 hn).1 i hi
    · have e : 74 * ((if nu + 1 < 10 then nu + 1 else 10) - 1 - 0) + i = 666 + i := by split <;> omega
      show G' 84 _ = _
      rw [e]
      exact (a7 (by omega)).1 i hi
  · have hj2 : j ≤ 9 ∧ j - 1 < nu := by
      by_cases hn : nu + 1 < 10
      · rw [if_pos hn] at hj; omega
      · rw [if_neg hn] at hj; omega
    have er : 9 + ((if nx + 1 < 10 then nx + 1 else 0) + 9 - j) % 10 = 9 + (nx + 9 - (j - 1)) % 10 := by split <;> omega
    rw [er, a5 _ (by omega) (by omega) (by omega)]
    refine (h6 (j - 1) hj2.2).congr (fun _ _ => rfl) (fun i hi => ?_)
    by_cases hn : nu < 10
    · have e : 74 * ((if nu + 1 < 10 then nu + 1 else 10) - 1 - j) + i = 74 * (nu - 1 - (j - 1)) + i := by
        split
        · rw [show nu + 1 - 1 - j = nu - 1 - (j - 1) by omega]
        · rw [show 10 - 1 - j = nu - 1 - (j - 1) by omega]
      show G' 84 _ = G 84 _
      rw [e]
      refine (a6 hn).2 _ ?_
      have : nu - 1 - (j - 1) + 1 ≤ nu := by omega
      omega
    · have e : 74 * ((if nu + 1 < 10 then nu + 1 else 10) - 1 - j) + i = 74 * (9 - j) + i := by split <;> omega
      show G' 84 _ = G 84 _
      rw [e, (a7 (by omega)).2 _ (by omega)]
      congr 1
      omega
theorem N8_n {G : Mem} {nx nu k : Nat} (h : k ≠ 7) (h2 : k ≠ 9 + nx) : N8 G nx nu k = G k := by
  unfold N8
  rw [upm_n _ _ _ h, upm_n _ _ _ h, cpy_n h2]
theorem N9_n {G : Mem} {nu k : Nat} (h : k ≠ 81) (h2 : k ≠ 84) : N9 G nu k = G k := by
  unfold N9
  split
  · rw [upm_n _ _ _ h, cpy_n h2, upm_n _ _ _ h, cpy_n h2]
  · rw [upm_n _ _ _ h, cpy_n h2]
theorem N9_81 {G : Mem} {nu j : Nat} (h : j ≠ 4) : N9 G nu 81 j = G 81 j := by
  unfold N9
  split
  · rw [upm_kn _ _ _ h, cpy_n (by omega), upm_kn _ _ _ h, cpy_n (by omega)]
  · rw [upm_kn _ _ _ h, cpy_n (by omega)]
