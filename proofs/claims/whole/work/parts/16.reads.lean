/-! ===== 16 step: reads ===== -/
theorem upm_upm (G : Mem) (k j : Nat) (x y : Int32) : upm (upm G k j x) k j y = upm G k j y := by
  funext k'
  by_cases h : k' = k
  · subst h
    funext j'
    by_cases hj : j' = j
    · subst hj; rw [upm_kj, upm_kj]
    · rw [upm_kn _ _ _ hj, upm_kn _ _ _ hj, upm_kn _ _ _ hj]
  · rw [upm_n _ _ _ h, upm_n _ _ _ h, upm_n _ _ _ h]
theorem setc_upm (G : Mem) {k k' j : Nat} (x : Int32) (R : Nat → Int32) (h : k ≠ k') : setc (upm G k j x) k' R = upm (setc G k' R) k j x := by
  funext c
  by_cases h1 : c = k'
  · subst h1
    rw [setc_k, upm_n _ _ _ (Ne.symm h), setc_k]
  · rw [setc_n _ _ h1]
    by_cases h2 : c = k
    · subst h2
      rw [upm_k, upm_k, setc_n _ _ h1]
    · rw [upm_n _ _ _ h2, upm_n _ _ _ h2, setc_n _ _ h1]
def skf (tx : Nat → Nat) : Nat → Nat → Nat
  | 0, i => i
  | d + 1, i => if tx i = 32 then skf tx d (i + 1) else i
def sk (tx : Nat → Nat) (nt i : Nat) : Nat := skf tx (nt - i) i
theorem skf_b (tx : Nat → Nat) : ∀ d i, i ≤ skf tx d i ∧ skf tx d i ≤ i + d ∧ (skf tx d i < i + d → tx (skf tx d i) ≠ 32) := by
  intro d
  induction d with
  | zero => intro i; exact ⟨Nat.le_refl _, Nat.le_refl _, fun h => absurd h (Nat.lt_irrefl _)⟩
  | succ d ih =>
    intro i
    unfold skf
    by_cases h : tx i = 32
    · rw [if_pos h]
      have := ih (i + 1)
      exact ⟨by omega, by omega, fun z => this.2.2 (by omega)⟩
    · rw [if_neg h]; exact ⟨by omega, by omega, fun _ => h⟩
theorem sk_ge (tx : Nat → Nat) (nt i : Nat) : i ≤ sk tx nt i := (skf_b tx _ i).1
theorem sk_le (tx : Nat → Nat) {nt i : Nat} (h : i ≤ nt) : sk tx nt i ≤ nt := by have := (skf_b tx (nt - i) i).2.1; unfold sk; omega
theorem sk_ns (tx : Nat → Nat) {nt i : Nat} (h : i ≤ nt) (h2 : sk tx nt i < nt) : tx (sk tx nt i) ≠ 32 := (skf_b tx (nt - i) i).2.2 (by have : skf tx (nt - i) i < nt := h2; omega)
theorem sk_fix (tx : Nat → Nat) {nt j : Nat} (h : tx j ≠ 32) : sk tx nt j = j := by
  unfold sk
  cases nt - j with
  | zero => rfl
  | succ d => unfold skf; rw [if_neg h]
theorem sk_nt (tx : Nat → Nat) (nt : Nat) : sk tx nt nt = nt := by unfold sk; rw [Nat.sub_self]; rfl
def T8 (tx : Nat → Nat) (nt : Nat) (G : Mem) : Prop := G 5 1 = nI nt ∧ ∀ i, i < nt → G 6 i = nI (tx i)
def T9 (tx : Nat → Nat) (nt : Nat) (G : Mem) : Prop := G 81 11 = nI nt ∧ ∀ i, i < nt → G 90 i = nI (tx i)
def lt9 (tx : Nat → Nat) (nt j : Nat) : Int32 := if j < nt then nI (tx j) else -1
theorem v32 {v : Nat} (h : v < 256) : nI v = 32 ↔ v = 32 := nI_eq (a := v) (b := 32) (by omega) (by omega)
theorem here9 {tx : Nat → Nat} {nt : Nat} (hnt : nt ≤ 80) (htx : ∀ i, i < nt → tx i < 256) {G : Mem} (hT : T9 tx nt G) {i : Nat} (hi : i ≤ nt) : m_X9_here (upm G 81 13 (nI i)) = some (lt9 tx nt (sk tx nt i), upm G 81 13 (nI (sk tx nt i))) := by
  have e11 : ∀ x, (upm G 81 13 x) 81 11 = nI nt := fun x => by rw [upm_kn _ _ _ (by omega)]; exact hT.1
  have e90 : ∀ x, (upm G 81 13 x) 90 = G 90 := fun x => upm_n _ _ _ (by omega)
  have key : ∀ d i n, i + d = nt → d < n → L_X9_here_0 n (upm G 81 13 (nI i)) = some (upm G 81 13 (nI (skf tx d i))) := by
    intro d
    induction d with
    | zero =>
      intro i n h1 h2
      obtain ⟨n, rfl⟩ : ∃ k, n = k + 1 := ⟨n - 1, by omega⟩
      rw [L_X9_here_0, e11, upm_kj, if_pos (nI_le (by omega) (by omega))]
      rfl
    | succ d ih =>
      intro i n h1 h2
      obtain ⟨n, rfl⟩ : ∃ k, n = k + 1 := ⟨n - 1, by omega⟩
      rw [L_X9_here_0, e11, upm_kj, if_neg (nI_ge (by omega) (by omega)), ald_nI (by omega) (by omega), Option.bind_some, e90, hT.2 i (by omega)]
      unfold skf
      by_cases h : tx i = 32
      · rw [if_pos ((v32 (htx i (by omega))).mpr h), if_pos h, nI_1, upm_upm]
        exact ih (i + 1) n (by omega) (by omega)
      · rw [if_neg (fun z => h ((v32 (htx i (by omega))).mp z)), if_neg h]
  unfold m_X9_here
  rw [key (nt - i) i NF (by omega) (NF_big (by omega)), Option.bind_some, e11, upm_kj]
  have hs : skf tx (nt - i) i = sk tx nt i := rfl
  rw [hs]
  unfold lt9
  have hle := sk_le tx hi
  by_cases h : sk tx nt i < nt
  · rw [if_neg (nI_ge h (by omega)), if_pos h, ald_nI (by omega) (by omega), Option.bind_some, e90, hT.2 _ h]
  · rw [if_pos (nI_le (by omega) (by omega)), if_neg h]
def K8 (G G1 : Mem) : Prop := (∀ k, k ≠ 4 → k ≠ 5 → G1 k = G k) ∧ ∀ j, j < 2 → G1 5 j = G 5 j
def K9 (G G1 : Mem) : Prop := (∀ k, k ≠ 81 → k ≠ 83 → G1 k = G k) ∧ ∀ j, j ≠ 13 → G1 81 j = G 81 j
theorem K8.tr {G G1 G2 : Mem} (h : K8 G G1) (h' : K8 G1 G2) : K8 G G2 := ⟨fun k a b => (h'.1 k a b).trans (h.1 k a b), fun j a => (h'.2 j a).trans (h.2 j a)⟩
theorem K9.tr {G G1 G2 : Mem} (h : K9 G G1) (h' : K9 G1 G2) : K9 G G2 := ⟨fun k a b => (h'.1 k a b).trans (h.1 k a b), fun j a => (h'.2 j a).trans (h.2 j a)⟩
theorem K8.rf (G : Mem) : K8 G G := ⟨fun _ _ _ => rfl, fun _ _ => rfl⟩
theorem K8.up (G : Mem) {j : Nat} (x : Int32) (hj : 2 ≤ j) : K8 G (upm G 5 j x) := ⟨fun k a b => upm_n _ _ _ b, fun j' h => upm_kn _ _ _ (by omega)⟩
theorem K8.se (G : Mem) (R : Nat → Int32) : K8 G (setc G 4 R) := ⟨fun k a b => setc_n _ _ a, fun j' h => by rw [setc_n _ _ (by omega)]⟩
theorem K9.up (G : Mem) (x : Int32) : K9 G (upm G 81 13 x) := ⟨fun k a b => upm_n _ _ _ a, fun j' h => upm_kn _ _ _ h⟩
theorem K9.se (G : Mem) (R : Nat → Int32) : K9 G (setc G 83 R) := ⟨fun k a b => setc_n _ _ b, fun j' h => by rw [setc_n _ _ (by omega)]⟩
theorem T8.k {tx : Nat → Nat} {nt : Nat} {G G1 : Mem} (h : T8 tx nt G) (k : K8 G G1) : T8 tx nt G1 := ⟨by rw [k.2 1 (by omega)]; exact h.1, fun i hi => by rw [k.1 6 (by omega) (by omega)]; exact h.2 i hi⟩
theorem T9.k {tx : Nat → Nat} {nt : Nat} {G G1 : Mem} (h : T9 tx nt G) (k : K9 G G1) : T9 tx nt G1 := ⟨by rw [k.2 11 (by omega)]; exact h.1, fun i hi => by rw [k.1 90 (by omega) (by omega)]; exact h.2 i hi⟩
def E8 (nt i : Nat) (G : Mem) (R : Mem ⊕ (Int32 × Mem)) : Prop := ∀ n, nt - i < n → L_X7_readInto_11 n (nI i) G = some R
def E9 (nt i : Nat) (x : Int32) (G : Mem) (R : (Int32 × Mem) ⊕ (Int32 × Mem)) : Prop := ∀ n, nt - i < n → L_X9_reads_26 n x (upm G 81 13 (nI i)) = some R
theorem E8_end {tx : Nat → Nat} {nt : Nat} (hnt : nt ≤ 80) {G : Mem} (hT : T8 tx nt G) : E8 nt nt G (Sum.inl G) := by
  intro n hn
  obtain ⟨n, rfl⟩ : ∃ k, n = k + 1 := ⟨n - 1, by omega⟩
  rw [L_X7_readInto_11, hT.1, if_pos (nI_le (by omega) (by omega))]
theorem E8_sk {tx : Nat → Nat} {nt : Nat} (hnt : nt ≤ 80) (htx : ∀ i, i < nt → tx i < 256) {G : Mem} (hT : T8 tx nt G) {i : Nat} (hi : i ≤ nt) {R : Mem ⊕ (Int32 × Mem)} (h : E8 nt (sk tx nt i) G R) : E8 nt i G R := by
  have key : ∀ d i, i + d = nt → E8 nt (skf tx d i) G R → E8 nt i G R := by
    intro d
    induction d with
    | zero => intro i _ h; exact h
    | succ d ih =>
      intro i h1 h2
      by_cases hs : tx i = 32
      · have h3 : E8 nt (skf tx d (i + 1)) G R := by unfold skf at h2; rw [if_pos hs] at h2; exact h2
        have h4 := ih (i + 1) (by omega) h3
        intro n hn
        obtain ⟨n, rfl⟩ : ∃ k, n = k + 1 := ⟨n - 1, by omega⟩
        rw [L_X7_readInto_11, hT.1, if_neg (nI_ge (by omega) (by omega)), if_neg (show ¬ (80 : Int32) ≤ nI i from nI_ge (a := i) (b := 80) (by omega) (by omega)), ald_nI (by omega) (by omega), Option.bind_some, hT.2 i (by omega), if_pos ((v32 (htx i (by omega))).mpr hs), nI_1]
        exact h4 n (by omega)
      · unfold skf at h2; rw [if_neg hs] at h2; exact h2
  exact key (nt - i) i (by omega) h
theorem E8_no {tx : Nat → Nat} {nt : Nat} (hnt : nt ≤ 80) (htx : ∀ i, i < nt → tx i < 256) {G G1 : Mem} (hT : T8 tx nt G) {j : Nat} (hj : j < nt) (hs : tx j ≠ 32) (hp : m_X7_passes G (nI (tx j)) = some (0, G1)) : E8 nt j G (Sum.inr (nI j, G1)) := by
  intro n hn
  obtain ⟨n, rfl⟩ : ∃ k, n = k + 1 := ⟨n - 1, by omega⟩
  rw [L_X7_readInto_11, hT.1, if_neg (nI_ge (by omega) (by omega)), if_neg (show ¬ (80 : Int32) ≤ nI j from nI_ge (a := j) (b := 80) (by omega) (by omega)), ald_nI (by omega) (by omega), Option.bind_some, hT.2 j (by omega), if_neg (fun z => hs ((v32 (htx j (by omega))).mp z)), Option.bind_some, hp, Option.bind_some, if_pos rfl]
theorem E8_yes {tx : Nat → Nat} {nt : Nat} (hnt : nt ≤ 80) (htx : ∀ i, i < nt → tx i < 256) {G G1 : Mem} (hT : T8 tx nt G) {j : Nat} (hj : j < nt) (hs : tx j ≠ 32) (hp : m_X7_passes G (nI (tx j)) = some (1, G1)) {R : Mem ⊕ (Int32 × Mem)} (h : E8 nt (j + 1) G1 R) : E8 nt j G R := by
  intro n hn
  obtain ⟨n, rfl⟩ : ∃ k, n = k + 1 := ⟨n - 1, by omega⟩
  rw [L_X7_readInto_11, hT.1, if_neg (nI_ge (by omega) (by omega)), if_neg (show ¬ (80 : Int32) ≤ nI j from nI_ge (a := j) (b := 80) (by omega) (by omega)), ald_nI (by omega) (by omega), Option.bind_some, hT.2 j (by omega), if_neg (fun z => hs ((v32 (htx j (by omega))).mp z)), Option.bind_some, hp, Option.bind_some, if_neg one_ne, nI_1]
  exact h n (by omega)
/-- the class stops with a fault at f -/
def Fl (nt i : Nat) (G : Mem) (f : Nat) : Prop := ∃ G1, K8 G G1 ∧ (E8 nt i G (Sum.inr (nI f, G1)) ∨ (E8 nt i G (Sum.inl G1) ∧ G1 5 2 ≠ 0 ∧ f = nt))
theorem Fl_end {tx : Nat → Nat} {nt : Nat} (hnt : nt ≤ 80) {G : Mem} (hT : T8 tx nt G) (h : G 5 2 ≠ 0) : Fl nt nt G nt := ⟨G, K8.rf G, Or.inr ⟨E8_end hnt hT, h, rfl⟩⟩
theorem Fl_sk {tx : Nat → Nat} {nt : Nat} (hnt : nt ≤ 80) (htx : ∀ i, i < nt → tx i < 256) {G : Mem} (hT : T8 tx nt G) {i f : Nat} (hi : i ≤ nt) (h : Fl nt (sk tx nt i) G f) : Fl nt i G f := by
  obtain ⟨G1, h1, h2 | h2⟩ := h
  · exact ⟨G1, h1, Or.inl (E8_sk hnt htx hT hi h2)⟩
  · exact ⟨G1, h1, Or.inr ⟨E8_sk hnt htx hT hi h2.1, h2.2⟩⟩
theorem Fl_no {tx : Nat → Nat} {nt : Nat} (hnt : nt ≤ 80) (htx : ∀ i, i < nt → tx i < 256) {G G1 : Mem} (hT : T8 tx nt G) {j : Nat} (hj : j < nt) (hs : tx j ≠ 32) (hp : m_X7_passes G (nI (tx j)) = some (0, G1)) (hk : K8 G G1) : Fl nt j G j := ⟨G1, hk, Or.inl (E8_no hnt htx hT hj hs hp)⟩
theorem Fl_yes {tx : Nat → Nat} {nt : Nat} (hnt : nt ≤ 80) (htx : ∀ i, i < nt → tx i < 256) {G G1 : Mem} (hT : T8 tx nt G) {j f : Nat} (hj : j < nt) (hs : tx j ≠ 32) (hp : m_X7_passes G (nI (tx j)) = some (1, G1)) (hk : K8 G G1) (h : Fl nt (j + 1) G1 f) : Fl nt j G f := by
  obtain ⟨G2, h1, h2 | h2⟩ := h
  · exact ⟨G2, hk.tr h1, Or.inl (E8_yes hnt htx hT hj hs hp h2)⟩
  · exact ⟨G2, hk.tr h1, Or.inr ⟨E8_yes hnt htx hT hj hs hp h2.1, h2.2⟩⟩
theorem E9_end {tx : Nat → Nat} {nt : Nat} (hnt : nt ≤ 80) (htx : ∀ i, i < nt → tx i < 256) {G : Mem} (hT : T9 tx nt G) {i : Nat} (hi : i ≤ nt) (h : sk tx nt i = nt) (x : Int32) : E9 nt i x G (Sum.inl (x, upm G 81 13 (nI nt))) := by
  intro n hn
  obtain ⟨n, rfl⟩ : ∃ k, n = k + 1 := ⟨n - 1, by omega⟩
  rw [L_X9_reads_26, here9 hnt htx hT hi, Option.bind_some, h]
  have : lt9 tx nt nt = -1 := if_neg (by omega)
  simp only
  rw [this, if_pos (by decide)]
/-- an item of the reference -/
def It9 (v : Nat) (P : Mem) : Option (Int32 × Mem) := if (m_X9_in (nI v) 65 90) = 0 then m_X9_readsClause P else m_X9_readsSaying P
theorem E9_a {tx : Nat → Nat} {nt : Nat} (hnt : nt ≤ 80) (htx : ∀ i, i < nt → tx i < 256) {G : Mem} (hT : T9 tx nt G) {i : Nat} (hi : i ≤ nt) (h : sk tx nt i < nt) {x : Int32} {f : Nat} {G1 : Mem}
    (hM : It9 (tx (sk tx nt i)) (upm G 81 13 (nI (sk tx nt i))) = some (0, upm G1 81 13 (nI f))) : E9 nt i x G (Sum.inr (-10 - nI f, upm G1 81 13 (nI f))) := by
  intro n hn
  obtain ⟨n, rfl⟩ : ∃ k, n = k + 1 := ⟨n - 1, by omega⟩
  have hl : lt9 tx nt (sk tx nt i) = nI (tx (sk tx nt i)) := if_pos h
  have hv := htx _ h
  rw [L_X9_reads_26, here9 hnt htx hT hi, Option.bind_some]
  simp only
  rw [hl, if_neg (nI_pos (by omega)), here9 hnt htx hT (sk_le tx hi), Option.bind_some, sk_fix tx (sk_ns tx hi h)]
  simp only
  rw [hl]
  unfold It9 at hM
  by_cases hc : m_X9_in (nI (tx (sk tx nt i))) 65 90 = 0
  · rw [if_pos hc] at hM
    rw [if_pos hc, hM, Option.bind_some, if_pos rfl]; dsimp only; rw [upm_kj]
  · rw [if_neg hc] at hM
    rw [if_neg hc, hM, Option.bind_some, if_pos rfl]; dsimp only; rw [upm_kj]
theorem E9_b {tx : Nat → Nat} {nt : Nat} (hnt : nt ≤ 80) (htx : ∀ i, i < nt → tx i < 256) {G : Mem} (hT : T9 tx nt G) {i : Nat} (hi : i ≤ nt) (h : sk tx nt i < nt) {x : Int32} {f : Nat} {G1 : Mem} (hf : f ≤ nt) (hT1 : T9 tx nt G1)
    (hM : It9 (tx (sk tx nt i)) (upm G 81 13 (nI (sk tx nt i))) = some (1, upm G1 81 13 (nI f))) (hne : ¬ lt9 tx nt (sk tx nt f) = 59) : E9 nt i x G (Sum.inr (-10 - nI (sk tx nt f), upm G1 81 13 (nI (sk tx nt f)))) := by
  intro n hn
  obtain ⟨n, rfl⟩ : ∃ k, n = k + 1 := ⟨n - 1, by omega⟩
  have hl : lt9 tx nt (sk tx nt i) = nI (tx (sk tx nt i)) := if_pos h
  have hv := htx _ h
  rw [L_X9_reads_26, here9 hnt htx hT hi, Option.bind_some]
  simp only
  rw [hl, if_neg (nI_pos (by omega)), here9 hnt htx hT (sk_le tx hi), Option.bind_some, sk_fix tx (sk_ns tx hi h)]
  simp only
  rw [hl]
  unfold It9 at hM
  by_cases hc : m_X9_in (nI (tx (sk tx nt i))) 65 90 = 0
  · rw [if_pos hc] at hM
    rw [if_pos hc, hM, Option.bind_some, if_neg one_ne, here9 hnt htx hT1 hf, Option.bind_some, if_neg hne]; dsimp only; rw [upm_kj]
  · rw [if_neg hc] at hM
    rw [if_neg hc, hM, Option.bind_some, if_neg one_ne, here9 hnt htx hT1 hf, Option.bind_some, if_neg hne]; dsimp only; rw [upm_kj]
theorem E9_c {tx : Nat → Nat} {nt : Nat} (hnt : nt ≤ 80) (htx : ∀ i, i < nt → tx i < 256) {G : Mem} (hT : T9 tx nt G) {i : Nat} (hi : i ≤ nt) (h : sk tx nt i < nt) {x : Int32} {f : Nat} {G1 : Mem} (hf : f ≤ nt) (hif : i ≤ f) (hT1 : T9 tx nt G1)
    (hM : It9 (tx (sk tx nt i)) (upm G 81 13 (nI (sk tx nt i))) = some (1, upm G1 81 13 (nI f))) (h3 : sk tx nt f < nt) (h4 : tx (sk tx nt f) = 59) {R : (Int32 × Mem) ⊕ (Int32 × Mem)} (hr : E9 nt (sk tx nt f + 1) (x + 1) G1 R) : E9 nt i x G R := by
  intro n hn
  obtain ⟨n, rfl⟩ : ∃ k, n = k + 1 := ⟨n - 1, by omega⟩
  have hl : lt9 tx nt (sk tx nt i) = nI (tx (sk tx nt i)) := if_pos h
  have hl2 : lt9 tx nt (sk tx nt f) = 59 := by unfold lt9; rw [if_pos h3, h4]; rfl
  have hv := htx _ h
  have hge := sk_ge tx nt f
  rw [L_X9_reads_26, here9 hnt htx hT hi, Option.bind_some]
  simp only
  rw [hl, if_neg (nI_pos (by omega)), here9 hnt htx hT (sk_le tx hi), Option.bind_some, sk_fix tx (sk_ns tx hi h)]
  simp only
  rw [hl]
  unfold It9 at hM
  by_cases hc : m_X9_in (nI (tx (sk tx nt i))) 65 90 = 0
  · rw [if_pos hc] at hM
    rw [if_pos hc, hM, Option.bind_some, if_neg one_ne, here9 hnt htx hT1 hf, Option.bind_some, if_pos hl2]; dsimp only; rw [upm_kj, nI_1, upm_upm]
    exact hr n (by omega)
  · rw [if_neg hc] at hM
    rw [if_neg hc, hM, Option.bind_some, if_neg one_ne, here9 hnt htx hT1 hf, Option.bind_some, if_pos hl2]; dsimp only; rw [upm_kj, nI_1, upm_upm]
    exact hr n (by omega)
/-! letters -/
theorem tense_of (v : Fin 256) : (m_X9_tenseOf (nI v) = -9 ∧ m_J0_indexOf_0f7a4 0 (((nI v).toUInt32 % 65536).toInt32) = some (-1)) ∨ ∃ t : Fin 8, m_X9_tenseOf (nI v) = nI t ∧ m_J0_indexOf_0f7a4 0 (((nI v).toUInt32 % 65536).toInt32) = some (nI t) := by
  revert v
  decide +kernel
theorem link_of (v : Fin 256) : (m_X9_linkOf (nI v) = -9 ∧ m_J0_indexOf_0f7a4 1 (((nI v).toUInt32 % 65536).toInt32) = some (-1)) ∨ ∃ t : Fin 4, m_X9_linkOf (nI v) = nI t ∧ m_J0_indexOf_0f7a4 1 (((nI v).toUInt32 % 65536).toInt32) = some (nI t) := by
  revert v
  decide +kernel
theorem sign_of (v : Fin 256) : m_J0_indexOf_0f7a4 2 (((nI v).toUInt32 % 65536).toInt32) = some (if nI v = 60 then 0 else if nI v = 61 then 1 else -1) := by
  revert v
  decide +kernel
theorem cap_no (v : Fin 256) (h : 65 ≤ v.val ∧ v.val ≤ 90) : m_X9_tenseOf (nI v) = -9 ∧ m_X9_linkOf (nI v) = -9 := by
  revert v
  decide +kernel
/-- the time that a letter tells -/
def tmI (n v : Nat) : Int32 := if v = 78 then 0 else if 65 ≤ v ∧ v < 65 + n then nI (2 + 2 * (v - 65)) else -9
theorem tm8_eq {A : Told} {G : Mem} (h8 : A.nc ≤ 8) (h : RowC A (G 4)) {v : Nat} (hv : v < 256) : m_X7_timeOf G (nI v) = some (tmI A.nc v) := by
  unfold m_X7_timeOf tmI
  by_cases h1 : v = 78
  · rw [if_pos (by rw [h1]; rfl), if_pos h1]
  rw [if_neg (show ¬ nI v = (78 : Int32) from fun z => h1 ((nI_eq (a := v) (b := 78) (by omega) (by omega)).mp z)), if_neg h1]
  have hc : m_X6_clauses G 3 = some (nI A.nc) := by
    unfold m_X6_clauses
    rw [show (0 : Int32) = nI 0 from rfl, ald_nI (by omega) (by omega), Option.bind_some]
    exact congrArg some h.1.1
  by_cases h2 : v < 65
  · rw [if_pos (show nI v - (65 : Int32) < 0 from pk_sneg (a := v) (b := 65) (by omega) h2), if_neg (by omega)]
  · rw [show (65 : Int32) = nI 65 from rfl, pk_sub (by omega), if_neg (nI_pos (by omega)), hc, Option.bind_some]
    by_cases h3 : v < 65 + A.nc
    · rw [if_neg (nI_ge (by omega) (by omega)), if_pos ⟨by omega, h3⟩]
      unfold m_X8_eventOf
      rw [two_mul, show (2 : Int32) = nI 2 from rfl, nI_add]
    · rw [if_pos (nI_le (by omega) (by omega)), if_neg (by omega)]
theorem tm9_eq {A : Told} {G : Mem} (h8 : A.nc ≤ 8) (h : RowR A (G 83)) {v : Nat} (hv : v < 256) : m_X9_timeOf G (nI v) = some (tmI A.nc v) := by
  unfold m_X9_timeOf tmI
  by_cases h1 : v = 78
  · rw [if_pos (by rw [h1]; rfl), if_pos h1]
  rw [if_neg (show ¬ nI v = (78 : Int32) from fun z => h1 ((nI_eq (a := v) (b := 78) (by omega) (by omega)).mp z)), if_neg h1, show (0 : Int32) = nI 0 from rfl, ald_nI (by omega) (by omega), Option.bind_some, h.1.1, show (65 : Int32) = nI 65 from rfl, nI_add]
  by_cases h3 : 65 ≤ v ∧ v < 65 + A.nc
  · rw [in_yes (nI_nlt (by omega) (by omega)) (pred_nlt (by omega) h3.2), if_neg (show ¬ (1 : Int32) = nI 0 by decide), if_pos h3, pk_sub h3.1, two_mul, show (2 : Int32) = nI 2 from rfl, nI_add]
  · rw [if_neg h3]
    have : m_X9_in (nI v) (nI 65) (nI (65 + A.nc) - 1) = 0 := by
      by_cases h4 : v < 65
      · exact in_no (Or.inl (nI_lt h4 (by omega)))
      · refine in_no (Or.inr ?_)
        have := pred_lt (n := 65 + A.nc) (a := nI v) (by omega) (Or.inr (nI_le (by omega) (by omega)))
        exact this.resolve_left (nI_pos (by omega))
    rw [this]
    rfl
theorem tm9_m1 {A : Told} {G : Mem} (h8 : A.nc ≤ 8) (h : RowR A (G 83)) : m_X9_timeOf G (-1) = some (-9) := by
  unfold m_X9_timeOf
  rw [if_neg (by decide), show (0 : Int32) = nI 0 from rfl, ald_nI (by omega) (by omega), Option.bind_some, in_no (Or.inl (by decide)), if_pos (by decide)]
theorem tm_cases {n v : Nat} (h8 : n ≤ 8) (hv : v < 256) : tmI n v = -9 ∨ ∃ p, p ≤ 2 * n ∧ p % 2 = 0 ∧ tmI n v = nI p ∧ 65 ≤ v ∧ v ≤ 90 := by
  unfold tmI
  by_cases h1 : v = 78
  · rw [if_pos h1]; exact Or.inr ⟨0, by omega, rfl, rfl, by omega, by omega⟩
  rw [if_neg h1]
  by_cases h3 : 65 ≤ v ∧ v < 65 + n
  · rw [if_pos h3]; exact Or.inr ⟨2 + 2 * (v - 65), by omega, by omega, rfl, by omega, by omega⟩
  · rw [if_neg h3]; exact Or.inl rfl
/-! a clause more -/
def Told.moreC (A : Told) (t l : Nat) : Told := ((A.nc + 1, A.ns + 1), (fun i => if i = A.nc then t else A.ten i), (fun i => if i = A.nc then l else A.lnk i), (fun i => if i = A.ns then A.nc else A.cl i), (fun i => if i = A.ns then 0 else A.fi i), (fun i => if i = A.ns then 0 else A.sg i), (fun i => if i = A.ns then 0 else A.se i))
theorem moreC_WF {A : Told} (hw : WF A) {t l : Nat} (h8 : A.nc < 8) (ht : t < 8) (hl : l < 4) : WF (A.moreC t l) := by
  obtain ⟨⟨a1, a2, a3⟩, b, c, d, e, f⟩ := hw
  have ec : ∀ k, (A.moreC t l).cl k = if k = A.ns then A.nc else A.cl k := fun _ => rfl
  have es : (A.moreC t l).ns = A.ns + 1 := rfl
  have en : (A.moreC t l).nc = A.nc + 1 := rfl
  refine ⟨⟨by rw [en]; omega, by rw [es, en]; omega, by rw [es, en]; omega⟩, fun i hi => ?_, fun k hk h9 => ?_, fun k hk h9 => ?_, fun c' hc => ?_, fun k k' hk hk' he h9 => ?_⟩
  · rw [en] at hi
    show (if i = A.nc then t else A.ten i) < 8 ∧ (if i = A.nc then l else A.lnk i) < 4
    by_cases z : i = A.nc
    · rw [if_pos z, if_pos z]; exact ⟨ht, hl⟩
    · rw [if_neg z, if_neg z]; exact b i (by omega)
  · rw [ec] at h9
    rw [es] at hk
    by_cases z : k = A.ns
    · rw [if_pos z] at h9; omega
    · rw [if_neg z] at h9
      obtain ⟨c1, c2, c3, c4, c5, c6⟩ := c k (by omega) h9
      show (if k = A.ns then 0 else A.fi k) ≤ 2 * (A.nc + 1) ∧ (if k = A.ns then 0 else A.se k) ≤ 2 * (A.nc + 1) ∧ (if k = A.ns then 0 else A.fi k) % 2 = 0 ∧ (if k = A.ns then 0 else A.se k) % 2 = 0 ∧ (if k = A.ns then 0 else A.fi k) ≠ (if k = A.ns then 0 else A.se k) ∧ (if k = A.ns then 0 else A.sg k) < 2
      simp only [if_neg z]
      exact ⟨by omega, by omega, c3, c4, c5, c6⟩
  · rw [ec] at h9 ⊢
    rw [es] at hk
    rw [en]
    by_cases z : k = A.ns
    · rw [if_pos z]; omega
    · rw [if_neg z] at h9 ⊢
      have := d k (by omega) h9
      omega
  · rw [en] at hc
    by_cases z : c' = A.nc
    · exact ⟨A.ns, by rw [es]; omega, by rw [ec, if_pos rfl, z]⟩
    · obtain ⟨k, h1, h2⟩ := e c' (by omega)
      exact ⟨k, by rw [es]; omega, by rw [ec, if_neg (by omega)]; exact h2⟩
  · rw [ec] at h9 he
    rw [ec] at he
    rw [es] at hk hk'
    by_cases z : k = A.ns
    · rw [if_pos z] at h9 he
      by_cases z' : k' = A.ns
      · omega
      · rw [if_neg z'] at he
        have := d k' (by omega) (by omega)
        omega
    · rw [if_neg z] at h9 he
      by_cases z' : k' = A.ns
      · rw [if_pos z'] at he
        have := d k (by omega) h9
        omega
      · rw [if_neg z'] at he
        exact f k k' (by omega) (by omega) he h9
theorem moreC_I {A : Told} (h8 : A.nc < 8) {t l k : Nat} : (A.moreC t l).clI k = (if k = A.ns then nI A.nc else A.clI k) ∧ (A.moreC t l).fiI k = (if k = A.ns then -9 else A.fiI k) ∧ (A.moreC t l).sgI k = (if k = A.ns then -9 else A.sgI k) ∧ (A.moreC t l).seI k = (if k = A.ns then -9 else A.seI k) := by
  unfold Told.clI Told.fiI Told.sgI Told.seI
  have e1 : (A.moreC t l).cl k = if k = A.ns then A.nc else A.cl k := rfl
  have e2 : (A.moreC t l).fi k = if k = A.ns then 0 else A.fi k := rfl
  have e3 : (A.moreC t l).sg k = if k = A.ns then 0 else A.sg k := rfl
  have e4 : (A.moreC t l).se k = if k = A.ns then 0 else A.se k := rfl
  rw [e1, e2, e3, e4]
  by_cases h : k = A.ns
  · simp only [if_pos h, if_neg (show ¬ A.nc = 9 by omega)]; exact ⟨trivial, trivial, trivial, trivial⟩
  · simp only [if_neg h]; exact ⟨trivial, trivial, trivial, trivial⟩
def lkN (c l : Nat) : Int32 := if c = 0 then -9 else nI l
theorem moreC_lk {A : Told} {t l i : Nat} : (A.moreC t l).lkI i = if i = A.nc then lkN A.nc l else A.lkI i := by
  unfold Told.lkI lkN
  have e : (A.moreC t l).lnk i = if i = A.nc then l else A.lnk i := rfl
  rw [e]
  by_cases z : i = A.nc
  · subst z; simp only [if_true]
  · simp only [if_neg z]
def addCC (R : Nat → Int32) (n m : Nat) (t l : Int32) : Nat → Int32 := addC (upd (upd (upd R (2 + n) t) (10 + n) l) 0 (nI (n + 1))) m (nI n) (-9) (-9) (-9)
def addRC (R : Nat → Int32) (n m : Nat) (t l : Int32) : Nat → Int32 := upd (addR (upd (upd R (2 + 2 * n) t) (3 + 2 * n) l) m (nI n) (-9) (-9) (-9)) 0 (nI (n + 1))
theorem moreC_C {A : Told} {t l : Nat} {R : Nat → Int32} (h8 : A.nc < 8) (h14 : A.ns < 14) (hC : RowC A R) : RowC (A.moreC t l) (addCC R A.nc A.ns (nI t) (lkN A.nc l)) := by
  unfold addCC addC
  refine ⟨⟨?_, ?_⟩, fun i hi => ⟨?_, ?_⟩, fun k hk => ?_⟩
  · unfold upd
    rw [if_neg (by omega), if_neg (by omega), if_neg (by omega), if_neg (by omega), if_neg (by omega), if_pos rfl]
    rfl
  · unfold upd; rw [if_pos rfl]; rfl
  · have hi' : i < A.nc + 1 := hi
    show _ = nI (if i = A.nc then t else A.ten i)
    unfold upd
    rw [if_neg (by omega), if_neg (by omega), if_neg (by omega), if_neg (by omega), if_neg (by omega), if_neg (by omega), if_neg (by omega)]
    by_cases z : i = A.nc
    · rw [if_pos (by omega), if_pos z]
    · rw [if_neg (by omega), if_neg z]; exact (hC.2.1 i (by omega)).1
  · have hi' : i < A.nc + 1 := hi
    rw [moreC_lk]
    unfold upd
    rw [if_neg (by omega), if_neg (by omega), if_neg (by omega), if_neg (by omega), if_neg (by omega), if_neg (by omega)]
    by_cases z : i = A.nc
    · rw [if_pos (by omega), if_pos z]
    · rw [if_neg (by omega), if_neg (by omega), if_neg z]; exact (hC.2.1 i (by omega)).2
  · have hk' : k < A.ns + 1 := hk
    obtain ⟨m1, m2, m3, m4⟩ := moreC_I h8 (A := A) (t := t) (l := l) (k := k)
    rw [m1, m2, m3, m4]
    unfold upd
    by_cases e : k = A.ns
    · subst e
      simp only [if_true]
      refine ⟨?_, ?_, ?_, ?_⟩
      · rw [if_neg (by omega), if_neg (by omega), if_neg (by omega), if_neg (by omega)]
      · rw [if_neg (by omega), if_neg (by omega), if_neg (by omega)]
      · rw [if_neg (by omega), if_neg (by omega)]
      · rw [if_neg (by omega)]
    · have hk2 : k < A.ns := by omega
      simp only [if_neg e]
      obtain ⟨c1, c2, c3, c4⟩ := hC.2.2 k hk2
      refine ⟨?_, ?_, ?_, ?_⟩
      · iterate 8 rw [if_neg (by omega)]
        exact c1
      · iterate 8 rw [if_neg (by omega)]
        exact c2
      · iterate 8 rw [if_neg (by omega)]
        exact c3
      · iterate 8 rw [if_neg (by omega)]
        exact c4
theorem moreC_R {A : Told} {t l : Nat} {R : Nat → Int32} (h8 : A.nc < 8) (h14 : A.ns < 14) (hR : RowR A R) : RowR (A.moreC t l) (addRC R A.nc A.ns (nI t) (lkN A.nc l)) := by
  unfold addRC addR
  refine ⟨⟨?_, ?_⟩, fun i hi => ⟨?_, ?_⟩, fun k hk => ?_⟩
  · unfold upd; rw [if_pos rfl]; rfl
  · unfold upd; rw [if_neg (by omega), if_pos rfl]; rfl
  · have hi' : i < A.nc + 1 := hi
    show _ = nI (if i = A.nc then t else A.ten i)
    unfold upd
    rw [if_neg (by omega), if_neg (by omega), if_neg (by omega), if_neg (by omega), if_neg (by omega), if_neg (by omega), if_neg (by omega)]
    by_cases z : i = A.nc
    · rw [if_pos (by omega), if_pos z]
    · rw [if_neg (by omega), if_neg z]; exact (hR.2.1 i (by omega)).1
  · have hi' : i < A.nc + 1 := hi
    rw [moreC_lk]
    unfold upd
    rw [if_neg (by omega), if_neg (by omega), if_neg (by omega), if_neg (by omega), if_neg (by omega), if_neg (by omega)]
    by_cases z : i = A.nc
    · rw [if_pos (by omega), if_pos z]
    · rw [if_neg (by omega), if_neg (by omega), if_neg z]; exact (hR.2.1 i (by omega)).2
  · have hk' : k < A.ns + 1 := hk
    obtain ⟨m1, m2, m3, m4⟩ := moreC_I h8 (A := A) (t := t) (l := l) (k := k)
    rw [m1, m2, m3, m4]
    unfold upd
    by_cases e : k = A.ns
    · subst e
      simp only [if_true]
      refine ⟨?_, ?_, ?_, ?_⟩
      · rw [if_neg (by omega), if_neg (by omega), if_neg (by omega), if_neg (by omega), if_neg (by omega)]
      · rw [if_neg (by omega), if_neg (by omega), if_neg (by omega), if_neg (by omega)]
      · rw [if_neg (by omega), if_neg (by omega), if_neg (by omega)]
      · rw [if_neg (by omega), if_neg (by omega)]
    · have hk2 : k < A.ns := by omega
      simp only [if_neg e]
      obtain ⟨c1, c2, c3, c4⟩ := hR.2.2 k hk2
      refine ⟨?_, ?_, ?_, ?_⟩
      · iterate 8 rw [if_neg (by omega)]
        exact c1
      · iterate 8 rw [if_neg (by omega)]
        exact c2
      · iterate 8 rw [if_neg (by omega)]
        exact c3
      · iterate 8 rw [if_neg (by omega)]
        exact c4
