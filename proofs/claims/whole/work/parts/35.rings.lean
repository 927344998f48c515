/-! ===== 35 rings: walks by labels, no label twice ===== -/
/-- a walk, the last step's label first -/
def wk (R : Nat → Nat → Nat → Prop) : List Nat → Nat → Nat → Prop
  | [], x, y => x = y
  | k :: l, x, y => ∃ z, wk R l x z ∧ R k z y
/-- one of its steps is ahead -/
def wks (R S : Nat → Nat → Nat → Prop) : List Nat → Nat → Nat → Prop
  | [], _, _ => False
  | k :: l, x, y => ∃ z, (wks R S l x z ∧ R k z y) ∨ (wk R l x z ∧ S k z y)
theorem wk_app {R : Nat → Nat → Nat → Prop} {l l' : List Nat} {x y : Nat} : wk R (l ++ l') x y ↔ ∃ z, wk R l' x z ∧ wk R l z y := by
  induction l generalizing y with
  | nil => exact ⟨fun h => ⟨y, h, rfl⟩, fun ⟨z, h, e⟩ => by cases e; exact h⟩
  | cons k l ih =>
    constructor
    · rintro ⟨z, h1, h2⟩
      obtain ⟨u, u1, u2⟩ := ih.mp h1
      exact ⟨u, u1, z, u2, h2⟩
    · rintro ⟨u, u1, z, u2, h2⟩
      exact ⟨z, ih.mpr ⟨u, u1, u2⟩, h2⟩
theorem wks_wk {R S : Nat → Nat → Nat → Prop} (hSR : ∀ k x y, S k x y → R k x y) {l : List Nat} {x y : Nat} (h : wks R S l x y) : wk R l x y := by
  induction l generalizing y with
  | nil => exact h.elim
  | cons k l ih =>
    obtain ⟨z, ⟨h1, h2⟩ | ⟨h1, h2⟩⟩ := h
    · exact ⟨z, ih h1, h2⟩
    · exact ⟨z, h1, hSR _ _ _ h2⟩
theorem wks_app {R S : Nat → Nat → Nat → Prop} {l l' : List Nat} {x y : Nat} : wks R S (l ++ l') x y ↔ ∃ z, (wks R S l' x z ∧ wk R l z y) ∨ (wk R l' x z ∧ wks R S l z y) := by
  induction l generalizing y with
  | nil =>
    constructor
    · intro h; exact ⟨y, Or.inl ⟨h, rfl⟩⟩
    · rintro ⟨z, ⟨h, e⟩ | ⟨_, h⟩⟩
      · cases e; exact h
      · exact h.elim
  | cons k l ih =>
    constructor
    · rintro ⟨z, ⟨h1, h2⟩ | ⟨h1, h2⟩⟩
      · obtain ⟨u, ⟨a, b⟩ | ⟨a, b⟩⟩ := ih.mp h1
        · exact ⟨u, Or.inl ⟨a, z, b, h2⟩⟩
        · exact ⟨u, Or.inr ⟨a, z, Or.inl ⟨b, h2⟩⟩⟩
      · obtain ⟨u, a, b⟩ := wk_app.mp h1
        exact ⟨u, Or.inr ⟨a, z, Or.inr ⟨b, h2⟩⟩⟩
    · rintro ⟨u, ⟨a, z, b, h2⟩ | ⟨a, z, ⟨b, h2⟩ | ⟨b, h2⟩⟩⟩
      · exact ⟨z, Or.inl ⟨ih.mpr ⟨u, Or.inl ⟨a, b⟩⟩, h2⟩⟩
      · exact ⟨z, Or.inl ⟨ih.mpr ⟨u, Or.inr ⟨a, b⟩⟩, h2⟩⟩
      · exact ⟨z, Or.inr ⟨wk_app.mpr ⟨u, a, b⟩, h2⟩⟩
/-- two steps of one label can be changed for each other's ends -/
def XP (R S : Nat → Nat → Nat → Prop) : Prop := ∀ k a b c d, R k a b → a ≠ b → R k c d → c ≠ d → R k c b ∧ R k a d ∧ (S k a b → S k c b ∨ S k a d) ∧ (S k c d → S k c b ∨ S k a d)
theorem ring_cut {R S : Nat → Nat → Nat → Prop} (hSR : ∀ k x y, S k x y → R k x y) (hI : ∀ k x, ¬ S k x x) (hX : XP R S) {l1 l2 l3 : List Nat} {k x : Nat} (h : wks R S (l1 ++ k :: (l2 ++ k :: l3)) x x) :
    ∃ l' x', wks R S l' x' x' ∧ l'.length < (l1 ++ k :: (l2 ++ k :: l3)).length ∧ ∀ j, j ∈ l' → j ∈ l1 ++ k :: (l2 ++ k :: l3) := by
  have dec : ∃ a b c d, wk R l3 x a ∧ R k a b ∧ wk R l2 b c ∧ R k c d ∧ wk R l1 d x ∧ (wks R S l3 x a ∨ S k a b ∨ wks R S l2 b c ∨ S k c d ∨ wks R S l1 d x) := by
    obtain ⟨d, ⟨h1, h2⟩ | ⟨h1, h2⟩⟩ := wks_app.mp h
    · obtain ⟨c, ⟨h3, h4⟩ | ⟨h3, h4⟩⟩ := h1
      · obtain ⟨b, ⟨h5, h6⟩ | ⟨h5, h6⟩⟩ := wks_app.mp h3
        · obtain ⟨a, ⟨h7, h8⟩ | ⟨h7, h8⟩⟩ := h5
          · exact ⟨a, b, c, d, wks_wk hSR h7, h8, h6, h4, h2, Or.inl h7⟩
          · exact ⟨a, b, c, d, h7, hSR _ _ _ h8, h6, h4, h2, Or.inr (Or.inl h8)⟩
        · obtain ⟨a, h7, h8⟩ := h5
          exact ⟨a, b, c, d, h7, h8, wks_wk hSR h6, h4, h2, Or.inr (Or.inr (Or.inl h6))⟩
      · obtain ⟨b, h5, h6⟩ := wk_app.mp h3
        obtain ⟨a, h7, h8⟩ := h5
        exact ⟨a, b, c, d, h7, h8, h6, hSR _ _ _ h4, h2, Or.inr (Or.inr (Or.inr (Or.inl h4)))⟩
    · obtain ⟨c, h3, h4⟩ := h1
      obtain ⟨b, h5, h6⟩ := wk_app.mp h3
      obtain ⟨a, h7, h8⟩ := h5
      exact ⟨a, b, c, d, h7, h8, h6, h4, wks_wk hSR h2, Or.inr (Or.inr (Or.inr (Or.inr h2)))⟩
  obtain ⟨a, b, c, d, w3, ra, w2, rc, w1, hs⟩ := dec
  by_cases eab : a = b
  · subst eab
    refine ⟨l1 ++ k :: (l2 ++ l3), x, ?_, by simp only [List.length_append, List.length_cons]; omega, fun j hj => ?_⟩
    · rcases hs with hs | hs | hs | hs | hs
      · exact wks_app.mpr ⟨d, Or.inl ⟨⟨c, Or.inl ⟨wks_app.mpr ⟨a, Or.inl ⟨hs, w2⟩⟩, rc⟩⟩, w1⟩⟩
      · exact absurd hs (hI _ _)
      · exact wks_app.mpr ⟨d, Or.inl ⟨⟨c, Or.inl ⟨wks_app.mpr ⟨a, Or.inr ⟨w3, hs⟩⟩, rc⟩⟩, w1⟩⟩
      · exact wks_app.mpr ⟨d, Or.inl ⟨⟨c, Or.inr ⟨wk_app.mpr ⟨a, w3, w2⟩, hs⟩⟩, w1⟩⟩
      · exact wks_app.mpr ⟨d, Or.inr ⟨⟨c, wk_app.mpr ⟨a, w3, w2⟩, rc⟩, hs⟩⟩
    · simp only [List.mem_append, List.mem_cons] at hj ⊢
      rcases hj with h | h | h | h
      · exact Or.inl h
      · exact Or.inr (Or.inl h)
      · exact Or.inr (Or.inr (Or.inl h))
      · exact Or.inr (Or.inr (Or.inr (Or.inr h)))
  by_cases ecd : c = d
  · subst ecd
    refine ⟨l1 ++ (l2 ++ k :: l3), x, ?_, by simp only [List.length_append, List.length_cons]; omega, fun j hj => ?_⟩
    · rcases hs with hs | hs | hs | hs | hs
      · exact wks_app.mpr ⟨c, Or.inl ⟨wks_app.mpr ⟨b, Or.inl ⟨⟨a, Or.inl ⟨hs, ra⟩⟩, w2⟩⟩, w1⟩⟩
      · exact wks_app.mpr ⟨c, Or.inl ⟨wks_app.mpr ⟨b, Or.inl ⟨⟨a, Or.inr ⟨w3, hs⟩⟩, w2⟩⟩, w1⟩⟩
      · exact wks_app.mpr ⟨c, Or.inl ⟨wks_app.mpr ⟨b, Or.inr ⟨⟨a, w3, ra⟩, hs⟩⟩, w1⟩⟩
      · exact absurd hs (hI _ _)
      · exact wks_app.mpr ⟨c, Or.inr ⟨wk_app.mpr ⟨b, ⟨a, w3, ra⟩, w2⟩, hs⟩⟩
    · simp only [List.mem_append, List.mem_cons] at hj ⊢
      rcases hj with h | h | h | h
      · exact Or.inl h
      · exact Or.inr (Or.inr (Or.inl h))
      · exact Or.inr (Or.inl h)
      · exact Or.inr (Or.inr (Or.inr (Or.inr h)))
  obtain ⟨x1, x2, x3, x4⟩ := hX k a b c d ra eab rc ecd
  have one : (wks R S l2 b c ∨ S k c b) → ∃ l' x', wks R S l' x' x' ∧ l'.length < (l1 ++ k :: (l2 ++ k :: l3)).length ∧ ∀ j, j ∈ l' → j ∈ l1 ++ k :: (l2 ++ k :: l3) := fun h => by
    refine ⟨k :: l2, b, ?_, by simp only [List.length_append, List.length_cons]; omega, fun j hj => ?_⟩
    · rcases h with h | h
      · exact ⟨c, Or.inl ⟨h, x1⟩⟩
      · exact ⟨c, Or.inr ⟨w2, h⟩⟩
    · simp only [List.mem_append, List.mem_cons] at hj ⊢
      rcases hj with h | h
      · exact Or.inr (Or.inl h)
      · exact Or.inr (Or.inr (Or.inl h))
  have two : (wks R S l3 x a ∨ S k a d ∨ wks R S l1 d x) → ∃ l' x', wks R S l' x' x' ∧ l'.length < (l1 ++ k :: (l2 ++ k :: l3)).length ∧ ∀ j, j ∈ l' → j ∈ l1 ++ k :: (l2 ++ k :: l3) := fun h => by
    refine ⟨l1 ++ k :: l3, x, ?_, by simp only [List.length_append, List.length_cons]; omega, fun j hj => ?_⟩
    · rcases h with h | h | h
      · exact wks_app.mpr ⟨d, Or.inl ⟨⟨a, Or.inl ⟨h, x2⟩⟩, w1⟩⟩
      · exact wks_app.mpr ⟨d, Or.inl ⟨⟨a, Or.inr ⟨w3, h⟩⟩, w1⟩⟩
      · exact wks_app.mpr ⟨d, Or.inr ⟨⟨a, w3, x2⟩, h⟩⟩
    · simp only [List.mem_append, List.mem_cons] at hj ⊢
      rcases hj with h | h | h
      · exact Or.inl h
      · exact Or.inr (Or.inl h)
      · exact Or.inr (Or.inr (Or.inr (Or.inr h)))
  rcases hs with hs | hs | hs | hs | hs
  · exact two (Or.inl hs)
  · exact (x3 hs).elim (fun h => one (Or.inr h)) (fun h => two (Or.inr (Or.inl h)))
  · exact one (Or.inl hs)
  · exact (x4 hs).elim (fun h => one (Or.inr h)) (fun h => two (Or.inr (Or.inl h)))
  · exact two (Or.inr (Or.inr hs))
/-- no label twice -/
def nd : List Nat → Prop
  | [] => True
  | k :: l => ¬ k ∈ l ∧ nd l
theorem not_nd {l : List Nat} (h : ¬ nd l) : ∃ l1 k l2 l3, l = l1 ++ k :: (l2 ++ k :: l3) := by
  induction l with
  | nil => exact absurd trivial h
  | cons k l ih =>
    by_cases z : k ∈ l
    · obtain ⟨s, t, e⟩ := List.append_of_mem z
      exact ⟨[], k, s, t, by rw [e]; rfl⟩
    · obtain ⟨l1, k', l2, l3, e⟩ := ih (fun q => h ⟨z, q⟩)
      exact ⟨k :: l1, k', l2, l3, by rw [e]; rfl⟩
theorem ring_nd {R S : Nat → Nat → Nat → Prop} (hSR : ∀ k x y, S k x y → R k x y) (hI : ∀ k x, ¬ S k x x) (hX : XP R S) : ∀ (n : Nat) (l : List Nat) (x : Nat), l.length ≤ n → wks R S l x x → ∃ l' x', wks R S l' x' x' ∧ nd l' ∧ ∀ j, j ∈ l' → j ∈ l := by
  intro n
  induction n with
  | zero =>
    intro l x h1 h2
    have e : l = [] := List.eq_nil_of_length_eq_zero (by omega)
    subst e
    exact h2.elim
  | succ n ih =>
    intro l x h1 h2
    by_cases z : nd l
    · exact ⟨l, x, h2, z, fun _ h => h⟩
    · obtain ⟨l1, k, l2, l3, e⟩ := not_nd z
      subst e
      obtain ⟨l', x', a, b, c⟩ := ring_cut hSR hI hX h2
      obtain ⟨l2', x2', a2, b2, c2⟩ := ih l' x' (by omega) a
      exact ⟨l2', x2', a2, b2, fun j hj => c j (c2 j hj)⟩
/-- how many -/
def cn (b : Nat → Bool) : Nat → Nat
  | 0 => 0
  | n + 1 => cn b n + (if b n then 1 else 0)
theorem cn_congr {b b' : Nat → Bool} : ∀ n, (∀ i, i < n → b i = b' i) → cn b n = cn b' n := by
  intro n
  induction n with
  | zero => intro _; rfl
  | succ n ih => intro h; unfold cn; rw [ih (fun i hi => h i (by omega)), h n (by omega)]
theorem cn_le {b b' : Nat → Bool} : ∀ n, (∀ i, i < n → b i = true → b' i = true) → cn b n ≤ cn b' n := by
  intro n
  induction n with
  | zero => intro _; exact Nat.le_refl _
  | succ n ih =>
    intro h
    unfold cn
    have h1 := ih (fun i hi => h i (by omega))
    by_cases z : b n = true
    · rw [if_pos z, if_pos (h n (by omega) z)]; omega
    · rw [if_neg z]; omega
theorem cn_le_n (b : Nat → Bool) : ∀ n, cn b n ≤ n := by
  intro n
  induction n with
  | zero => exact Nat.le_refl _
  | succ n ih => unfold cn; split <;> omega
theorem cn_drop {b : Nat → Bool} {k : Nat} (hk : b k = true) : ∀ n, cn (fun i => b i && !(i == k)) n + (if k < n then 1 else 0) = cn b n := by
  intro n
  induction n with
  | zero => rfl
  | succ n ih =>
    unfold cn
    by_cases e : n = k
    · subst e
      rw [if_neg (show ¬ n < n by omega)] at ih
      rw [if_pos hk, if_pos (show n < n + 1 by omega)]
      simp
      omega
    · have : (n == k) = false := by simpa using e
      simp only [this, Bool.not_false, Bool.and_true]
      by_cases z : k < n
      · rw [if_pos z] at ih; rw [if_pos (show k < n + 1 by omega)]; omega
      · rw [if_neg z] at ih; rw [if_neg (show ¬ k < n + 1 by omega)]; omega
theorem nd_len : ∀ (l : List Nat) (b : Nat → Bool) (n : Nat), nd l → (∀ k, k ∈ l → k < n ∧ b k = true) → l.length ≤ cn b n := by
  intro l
  induction l with
  | nil => intro b n _ _; exact Nat.zero_le _
  | cons k l ih =>
    intro b n h1 h2
    obtain ⟨hk, hb⟩ := h2 k (List.mem_cons_self ..)
    have := ih (fun i => b i && !(i == k)) n h1.2 (fun j hj => by
      obtain ⟨a, c⟩ := h2 j (List.mem_cons_of_mem _ hj)
      refine ⟨a, ?_⟩
      have e : (j == k) = false := by
        have : j ≠ k := fun z => h1.1 (by rw [← z]; exact hj)
        simpa using this
      simp [c, e])
    have h3 := cn_drop hb n
    rw [if_pos hk] at h3
    show l.length + 1 ≤ cn b n
    omega
theorem cn_list (n : Nat) : ∀ l : List Nat, cn (fun i => decide (i ∈ l)) n ≤ l.length := by
  intro l
  induction l with
  | nil =>
    have : ∀ n, cn (fun i => decide (i ∈ ([] : List Nat))) n = 0 := by
      intro n
      induction n with
      | zero => rfl
      | succ n ih => unfold cn; rw [ih]; simp
    rw [this n]
    exact Nat.zero_le _
  | cons k l ih =>
    by_cases z : k ∈ l
    · have : cn (fun i => decide (i ∈ k :: l)) n = cn (fun i => decide (i ∈ l)) n := cn_congr n (fun i _ => by
        by_cases e : i = k
        · subst e; simp [z]
        · simp [e])
      rw [this]
      show _ ≤ l.length + 1
      omega
    · have h1 := cn_drop (b := fun i => decide (i ∈ k :: l)) (k := k) (by simp) n
      have h2 : cn (fun i => decide (i ∈ k :: l) && !(i == k)) n ≤ cn (fun i => decide (i ∈ l)) n := cn_le n (fun i _ h => by
        simp at h ⊢
        rcases h.1 with e | e
        · exact absurd e h.2
        · exact e)
      show _ ≤ l.length + 1
      split at h1 <;> omega
