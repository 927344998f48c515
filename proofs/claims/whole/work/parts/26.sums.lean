/-! ===== 26 sums, ways on and ways to ===== -/
noncomputable def iv (p : Prop) (x : Nat) : Nat := @ite _ p (Classical.propDecidable _) x 0
theorem iv_t {p : Prop} (h : p) (x : Nat) : iv p x = x := by unfold iv; rw [if_pos h]
theorem iv_f {p : Prop} (h : ¬ p) (x : Nat) : iv p x = 0 := by unfold iv; rw [if_neg h]
theorem iv_0 (p : Prop) : iv p 0 = 0 := by
  by_cases h : p
  · exact iv_t h 0
  · exact iv_f h 0
theorem iv_iff {p q : Prop} (h : p ↔ q) (x : Nat) : iv p x = iv q x := by
  by_cases hp : p
  · rw [iv_t hp, iv_t (h.mp hp)]
  · rw [iv_f hp, iv_f (fun z => hp (h.mpr z))]
theorem iv_mul (p : Prop) (x y : Nat) : y * iv p x = iv p (y * x) := by
  by_cases hp : p
  · rw [iv_t hp, iv_t hp]
  · rw [iv_f hp, iv_f hp, Nat.mul_zero]
theorem iv_le {p q : Prop} {x y : Nat} (h : p → q ∧ x ≤ y) : iv p x ≤ iv q y := by
  by_cases hp : p
  · rw [iv_t hp, iv_t (h hp).1]; exact (h hp).2
  · rw [iv_f hp]; exact Nat.zero_le _
def sm : Nat → (Nat → Nat) → Nat
  | 0, _ => 0
  | n + 1, h => sm n h + h n
theorem sm_congr {n : Nat} {h h' : Nat → Nat} (e : ∀ i, i < n → h i = h' i) : sm n h = sm n h' := by
  induction n with
  | zero => rfl
  | succ n ih => unfold sm; rw [ih (fun i hi => e i (by omega)), e n (by omega)]
theorem sm_add (n : Nat) (h h' : Nat → Nat) : sm n (fun i => h i + h' i) = sm n h + sm n h' := by
  induction n with
  | zero => rfl
  | succ n ih =>
    show sm n (fun i => h i + h' i) + (h n + h' n) = (sm n h + h n) + (sm n h' + h' n)
    rw [ih]
    omega
theorem sm_mul (n c : Nat) (h : Nat → Nat) : c * sm n h = sm n (fun i => c * h i) := by
  induction n with
  | zero => rfl
  | succ n ih => unfold sm; rw [Nat.mul_add, ih]
theorem sm_zero {n : Nat} {h : Nat → Nat} (e : ∀ i, i < n → h i = 0) : sm n h = 0 := by
  induction n with
  | zero => rfl
  | succ n ih => unfold sm; rw [ih (fun i hi => e i (by omega)), e n (by omega)]
theorem sm_le {n : Nat} {h h' : Nat → Nat} (e : ∀ i, i < n → h i ≤ h' i) : sm n h ≤ sm n h' := by
  induction n with
  | zero => exact Nat.le_refl _
  | succ n ih => unfold sm; have := ih (fun i hi => e i (by omega)); have := e n (by omega); omega
theorem sm_swap (n m : Nat) (F : Nat → Nat → Nat) : sm n (fun i => sm m (fun j => F i j)) = sm m (fun j => sm n (fun i => F i j)) := by
  induction n with
  | zero => exact (sm_zero (fun _ _ => rfl)).symm
  | succ n ih =>
    show sm n _ + sm m (fun j => F n j) = sm m (fun j => sm n (fun i => F i j) + F n j)
    rw [ih, sm_add]
theorem sm_one {n k : Nat} (hk : k < n) (h : Nat → Nat) : sm n (fun i => iv (i = k) (h i)) = h k := by
  induction n with
  | zero => omega
  | succ n ih =>
    show sm n _ + iv (n = k) (h n) = h k
    by_cases e : n = k
    · subst e
      rw [iv_t rfl, sm_zero (fun i hi => iv_f (by omega) _), Nat.zero_add]
    · rw [ih (by omega), iv_f e, Nat.add_zero]
theorem sm_bij {n m : Nat} {P Q : Nat → Prop} {φ ψ f g : Nat → Nat} (h1 : ∀ j, j < m → Q j → φ j < n ∧ P (φ j) ∧ ψ (φ j) = j) (h2 : ∀ i, i < n → P i → ψ i < m ∧ Q (ψ i) ∧ φ (ψ i) = i) (h3 : ∀ j, j < m → Q j → f (φ j) = g j) :
    sm n (fun i => iv (P i) (f i)) = sm m (fun j => iv (Q j) (g j)) := by
  have e1 : sm m (fun j => iv (Q j) (g j)) = sm m (fun j => sm n (fun i => iv (i = φ j) (iv (Q j) (f i)))) := sm_congr (fun j hj => by
    by_cases hq : Q j
    · rw [sm_one (h1 j hj hq).1 (fun i => iv (Q j) (f i)), iv_t hq, iv_t hq, h3 j hj hq]
    · rw [iv_f hq]
      exact (sm_zero (fun i _ => by rw [iv_f hq, iv_0])).symm)
  rw [e1, ← sm_swap]
  refine sm_congr (fun i hi => ?_)
  by_cases hp : P i
  · obtain ⟨a, b, c⟩ := h2 i hi hp
    rw [iv_t hp]
    have : sm m (fun j => iv (i = φ j) (iv (Q j) (f i))) = sm m (fun j => iv (j = ψ i) (f i)) := sm_congr (fun j hj => by
      by_cases e : j = ψ i
      · rw [iv_t e, e, iv_t c.symm, iv_t b]
      · rw [iv_f e]
        by_cases hq : Q j
        · rw [iv_f]
          intro z
          apply e
          rw [z]
          exact (h1 j hj hq).2.2.symm
        · rw [iv_f hq, iv_0])
    rw [this, sm_one a (fun _ => f i)]
  · rw [iv_f hp]
    refine (sm_zero (fun j hj => ?_)).symm
    by_cases hq : Q j
    · rw [iv_f]
      intro z
      apply hp
      rw [z]
      exact (h1 j hj hq).2.1
    · rw [iv_f hq, iv_0]
/-- states go up -/
def Up (T : Nat → Nat → Prop) : Prop := ∀ C C', T C C' → C < C' ∧ C' < 256
noncomputable def bwF (T : Nat → Nat → Prop) (w : Nat) : Nat → Nat → Nat
  | 0, _ => 0
  | k + 1, C => iv (C = w) 1 + sm 256 (fun C' => iv (T C C') (bwF T w k C'))
noncomputable def bw (T : Nat → Nat → Prop) (w C : Nat) : Nat := bwF T w 300 C
noncomputable def fwF (T : Nat → Nat → Prop) : Nat → Nat → Nat
  | 0, _ => 0
  | k + 1, C' => iv (C' = 0) 1 + sm 256 (fun C => iv (T C C') (fwF T k C))
noncomputable def fw (T : Nat → Nat → Prop) (C : Nat) : Nat := fwF T 300 C
theorem bwF_st {T : Nat → Nat → Prop} (hT : Up T) (w : Nat) : ∀ k k' C, 255 < C + k → 255 < C + k' → C < 256 → bwF T w k C = bwF T w k' C := by
  intro k
  induction k with
  | zero => intro k' C h1 h2 h3; omega
  | succ k ih =>
    intro k' C h1 h2 h3
    obtain ⟨k', rfl⟩ : ∃ j, k' = j + 1 := ⟨k' - 1, by omega⟩
    unfold bwF
    refine congrArg (HAdd.hAdd _) (sm_congr (fun C' hC => ?_))
    by_cases h : T C C'
    · rw [iv_t h, iv_t h]
      have := hT C C' h
      exact ih k' C' (by omega) (by omega) (by omega)
    · rw [iv_f h, iv_f h]
theorem bw_eq {T : Nat → Nat → Prop} (hT : Up T) (w : Nat) {C : Nat} (hC : C < 256) : bw T w C = iv (C = w) 1 + sm 256 (fun C' => iv (T C C') (bw T w C')) := by
  show bwF T w 300 C = _
  rw [bwF_st hT w 300 301 C (by omega) (by omega) hC]
  rfl
theorem fwF_st {T : Nat → Nat → Prop} (hT : Up T) : ∀ k k' C, C < k → C < k' → fwF T k C = fwF T k' C := by
  intro k
  induction k with
  | zero => intro k' C h1 h2; omega
  | succ k ih =>
    intro k' C h1 h2
    obtain ⟨k', rfl⟩ : ∃ j, k' = j + 1 := ⟨k' - 1, by omega⟩
    unfold fwF
    refine congrArg (HAdd.hAdd _) (sm_congr (fun C' hC => ?_))
    by_cases h : T C' C
    · rw [iv_t h, iv_t h]
      have := hT C' C h
      exact ih k' C' (by omega) (by omega)
    · rw [iv_f h, iv_f h]
theorem fw_eq {T : Nat → Nat → Prop} (hT : Up T) {C : Nat} (hC : C < 256) : fw T C = iv (C = 0) 1 + sm 256 (fun C' => iv (T C' C) (fw T C')) := by
  show fwF T 300 C = _
  rw [fwF_st hT 300 301 C (by omega) (by omega)]
  rfl
/-- ways to the end are ways on from the start -/
theorem fw_bw {T : Nat → Nat → Prop} (hT : Up T) {w : Nat} (hw : w < 256) : fw T w = bw T w 0 := by
  have x1 : sm 256 (fun C => fw T C * bw T w C) = fw T w + sm 256 (fun C => sm 256 (fun C' => iv (T C C') (fw T C * bw T w C'))) := by
    rw [← sm_one hw (fun C => fw T C), ← sm_add]
    refine sm_congr (fun C hC => ?_)
    rw [bw_eq hT w hC, Nat.mul_add, iv_mul, Nat.mul_one, sm_mul]
    exact congrArg (HAdd.hAdd _) (sm_congr (fun C' _ => iv_mul _ _ _))
  have x2 : sm 256 (fun C => fw T C * bw T w C) = bw T w 0 + sm 256 (fun C' => sm 256 (fun C => iv (T C C') (fw T C * bw T w C'))) := by
    rw [← sm_one (show 0 < 256 by omega) (fun C => bw T w C), ← sm_add]
    refine sm_congr (fun C' hC => ?_)
    rw [fw_eq hT hC, Nat.mul_comm, Nat.mul_add, iv_mul, Nat.mul_one, sm_mul]
    exact congrArg (HAdd.hAdd _) (sm_congr (fun C _ => by rw [iv_mul, Nat.mul_comm]))
  rw [sm_swap] at x2
  omega
/-- where two ways of going agree from some states on -/
theorem bw_agree {T T' : Nat → Nat → Prop} (hT : Up T) (hT' : Up T') (w : Nat) (P : Nat → Prop) (h : ∀ C C', P C → (T C C' ↔ T' C C')) (hP : ∀ C C', P C → T C C' → P C') : ∀ C, C < 256 → P C → bw T w C = bw T' w C := by
  have key : ∀ d C, 256 - C ≤ d → C < 256 → P C → bw T w C = bw T' w C := by
    intro d
    induction d with
    | zero => intro C h1 h2; omega
    | succ d ih =>
      intro C h1 h2 h3
      rw [bw_eq hT w h2, bw_eq hT' w h2]
      refine congrArg (HAdd.hAdd _) (sm_congr (fun C' hC => ?_))
      by_cases ht : T C C'
      · have := hT C C' ht
        rw [iv_t ht, iv_t ((h C C' h3).mp ht)]
        exact ih C' (by omega) (by omega) (hP C C' h3 ht)
      · rw [iv_f ht, iv_f (fun z => ht ((h C C' h3).mpr z))]
  intro C hC hp
  exact key 256 C (by omega) hC hp
/-- no way on -/
theorem bw_none {T : Nat → Nat → Prop} (hT : Up T) (w : Nat) (P : Nat → Prop) (h : ∀ C, P C → C ≠ w) (hP : ∀ C C', P C → T C C' → P C') : ∀ C, C < 256 → P C → bw T w C = 0 := by
  have key : ∀ d C, 256 - C ≤ d → C < 256 → P C → bw T w C = 0 := by
    intro d
    induction d with
    | zero => intro C h1 h2; omega
    | succ d ih =>
      intro C h1 h2 h3
      rw [bw_eq hT w h2, iv_f (h C h3), Nat.zero_add]
      refine sm_zero (fun C' hC => ?_)
      by_cases ht : T C C'
      · have := hT C C' ht
        rw [iv_t ht]
        exact ih C' (by omega) (by omega) (hP C C' h3 ht)
      · exact iv_f ht _
  intro C hC hp
  exact key 256 C (by omega) hC hp
def Sub (C C' : Nat) : Prop := ∀ i, C.testBit i = true → C'.testBit i = true
/-- y joins only behind x -/
def T1 (T : Nat → Nat → Prop) (x y : Nat) : Nat → Nat → Prop := fun C C' => T C C' ∧ (C'.testBit y = true → C.testBit y = false → C.testBit x = true)
def T3 (T : Nat → Nat → Prop) (x y : Nat) : Nat → Nat → Prop := fun C C' => T C C' ∧ ((C'.testBit x = true ∧ C.testBit x = false) ↔ (C'.testBit y = true ∧ C.testBit y = false))
theorem Up.t1 {T : Nat → Nat → Prop} (h : Up T) (x y : Nat) : Up (T1 T x y) := fun C C' z => h C C' z.1
theorem Up.t3 {T : Nat → Nat → Prop} (h : Up T) (x y : Nat) : Up (T3 T x y) := fun C C' z => h C C' z.1
theorem bw_t1 {T : Nat → Nat → Prop} (hT : Up T) (hS : ∀ C C', T C C' → Sub C C') (w x y : Nat) : ∀ C, C < 256 → (C.testBit x = true ∨ C.testBit y = true) → bw T w C = bw (T1 T x y) w C :=
  bw_agree hT (hT.t1 x y) w (fun C => C.testBit x = true ∨ C.testBit y = true) (fun C C' h => ⟨fun z => ⟨z, fun a b => h.elim id (fun q => by rw [q] at b; exact absurd b (by decide))⟩, fun z => z.1⟩) (fun C C' h z => h.elim (fun q => Or.inl (hS C C' z x q)) (fun q => Or.inr (hS C C' z y q)))
theorem bw_t3 {T : Nat → Nat → Prop} (hT : Up T) (hS : ∀ C C', T C C' → Sub C C') (w x y : Nat) : ∀ C, C < 256 → (C.testBit x = true ∧ C.testBit y = true) → bw T w C = bw (T3 T x y) w C :=
  bw_agree hT (hT.t3 x y) w (fun C => C.testBit x = true ∧ C.testBit y = true) (fun C C' h => ⟨fun z => ⟨z, by rw [h.1, h.2]; simp⟩, fun z => z.1⟩) (fun C C' h z => ⟨hS C C' z x h.1, hS C C' z y h.2⟩)
/-- in how many ways y joins behind x, by the state in which it joins -/
theorem bw_through {T : Nat → Nat → Prop} (hT : Up T) (hS : ∀ C C', T C C' → Sub C C') {w x y : Nat} (hy : w.testBit y = true) :
    bw (T1 T x y) w 0 = sm 256 (fun C => iv (C.testBit x = true) (sm 256 (fun C' => iv (T C C' ∧ C'.testBit y = true ∧ C.testBit y = false) (fw T C * bw T w C')))) := by
  have hT1 := hT.t1 x y
  let h : Nat → Nat := fun C => iv (C.testBit y = false) (bw (T1 T x y) w C)
  have hh : ∀ C, C < 256 → fw T C * h C = sm 256 (fun C' => iv (T C C') (fw T C * h C')) + iv (C.testBit x = true) (sm 256 (fun C' => iv (T C C' ∧ C'.testBit y = true ∧ C.testBit y = false) (fw T C * bw T w C'))) := by
    intro C hC
    by_cases hc : C.testBit y = false
    · show fw T C * iv (C.testBit y = false) (bw (T1 T x y) w C) = _
      have hCw : C ≠ w := fun z => by rw [z, hy] at hc; exact absurd hc (by decide)
      rw [iv_t hc, bw_eq hT1 w hC, iv_f hCw, Nat.zero_add, sm_mul]
      have e2 : iv (C.testBit x = true) (sm 256 (fun C' => iv (T C C' ∧ C'.testBit y = true ∧ C.testBit y = false) (fw T C * bw T w C'))) = sm 256 (fun C' => iv (C.testBit x = true) (iv (T C C' ∧ C'.testBit y = true ∧ C.testBit y = false) (fw T C * bw T w C'))) := by
        by_cases q : C.testBit x = true
        · rw [iv_t q]; exact sm_congr (fun _ _ => by rw [iv_t q])
        · rw [iv_f q]; exact (sm_zero (fun _ _ => by rw [iv_f q])).symm
      rw [e2, ← sm_add]
      refine sm_congr (fun C' hC' => ?_)
      by_cases ht : T C C'
      · by_cases hy' : C'.testBit y = true
        · have ez : h C' = 0 := iv_f (by rw [hy']; decide) _
          rw [iv_t ht, ez, Nat.mul_zero, Nat.zero_add, iv_t (show T C C' ∧ C'.testBit y = true ∧ C.testBit y = false from ⟨ht, hy', hc⟩)]
          by_cases q : C.testBit x = true
          · rw [iv_t q, iv_t (show T1 T x y C C' from ⟨ht, fun _ _ => q⟩), bw_t1 hT hS w x y C' hC' (Or.inr hy')]
          · rw [iv_f q, iv_f (show ¬ T1 T x y C C' from fun z => q (z.2 hy' hc)), Nat.mul_zero]
        · have hy2 : C'.testBit y = false := by simpa using hy'
          have ez : h C' = bw (T1 T x y) w C' := iv_t hy2 _
          rw [iv_t ht, ez, iv_f (show ¬ (T C C' ∧ C'.testBit y = true ∧ C.testBit y = false) from fun z => hy' z.2.1), iv_0, Nat.add_zero, iv_t (show T1 T x y C C' from ⟨ht, fun z => absurd z hy'⟩)]
      · rw [iv_f (show ¬ T1 T x y C C' from fun z => ht z.1), iv_f ht, iv_f (show ¬ (T C C' ∧ C'.testBit y = true ∧ C.testBit y = false) from fun z => ht z.1), iv_0, Nat.mul_zero]
    · have ez : h C = 0 := iv_f hc _
      have hc' : C.testBit y = true := by simpa using hc
      rw [ez, Nat.mul_zero, sm_zero (fun C' _ => ?_), sm_zero (fun C' _ => iv_f (fun z => hc z.2.2) _), iv_0]
      by_cases ht : T C C'
      · have : h C' = 0 := iv_f (by rw [hS C C' ht y hc']; decide) _
        rw [this, Nat.mul_zero, iv_0]
      · exact iv_f ht _
  have x1 : sm 256 (fun C => fw T C * h C) = sm 256 (fun C => sm 256 (fun C' => iv (T C C') (fw T C * h C'))) + sm 256 (fun C => iv (C.testBit x = true) (sm 256 (fun C' => iv (T C C' ∧ C'.testBit y = true ∧ C.testBit y = false) (fw T C * bw T w C')))) := by
    rw [← sm_add]
    exact sm_congr hh
  have x2 : sm 256 (fun C => fw T C * h C) = h 0 + sm 256 (fun C' => sm 256 (fun C => iv (T C C') (fw T C * h C'))) := by
    rw [← sm_one (show 0 < 256 by omega) h, ← sm_add]
    refine sm_congr (fun C' hC => ?_)
    rw [fw_eq hT hC, Nat.mul_comm, Nat.mul_add, iv_mul, Nat.mul_one, sm_mul]
    exact congrArg (HAdd.hAdd _) (sm_congr (fun C _ => by rw [iv_mul, Nat.mul_comm]))
  rw [sm_swap] at x2
  have e0 : h 0 = bw (T1 T x y) w 0 := iv_t (by simp) _
  omega
/-- ahead, behind, at once: all there is -/
theorem bw_three {T : Nat → Nat → Prop} (hT : Up T) (hS : ∀ C C', T C C' → Sub C C') {w x y : Nat} (hx : w.testBit x = true) (hxy : x ≠ y) : bw T w 0 = bw (T1 T x y) w 0 + bw (T1 T y x) w 0 + bw (T3 T x y) w 0 := by
  have key : ∀ d C, 256 - C ≤ d → C < 256 → C.testBit x = false → C.testBit y = false → bw T w C = bw (T1 T x y) w C + bw (T1 T y x) w C + bw (T3 T x y) w C := by
    intro d
    induction d with
    | zero => intro C h1 h2; omega
    | succ d ih =>
      intro C h1 h2 h3 h4
      have hCw : C ≠ w := fun z => by rw [z, hx] at h3; exact absurd h3 (by decide)
      rw [bw_eq hT w h2, bw_eq (hT.t1 x y) w h2, bw_eq (hT.t1 y x) w h2, bw_eq (hT.t3 x y) w h2, iv_f hCw, Nat.zero_add, Nat.zero_add, Nat.zero_add, Nat.zero_add, ← sm_add, ← sm_add]
      refine sm_congr (fun C' hC' => ?_)
      by_cases ht : T C C'
      case neg => rw [iv_f ht, iv_f (show ¬ T1 T x y C C' from fun z => ht z.1), iv_f (show ¬ T1 T y x C C' from fun z => ht z.1), iv_f (show ¬ T3 T x y C C' from fun z => ht z.1)]
      have hu := hT C C' ht
      rw [iv_t ht]
      by_cases cx : C'.testBit x = true
      · by_cases cy : C'.testBit y = true
        · rw [iv_f (show ¬ T1 T x y C C' from fun z => by have := z.2 cy h4; rw [h3] at this; exact absurd this (by decide)), iv_f (show ¬ T1 T y x C C' from fun z => by have := z.2 cx h3; rw [h4] at this; exact absurd this (by decide)), iv_t (show T3 T x y C C' from ⟨ht, by simp [cx, cy, h3, h4]⟩), Nat.zero_add]
          exact bw_t3 hT hS w x y C' hC' ⟨cx, cy⟩
        · rw [iv_t (show T1 T x y C C' from ⟨ht, fun z => absurd z cy⟩), iv_f (show ¬ T1 T y x C C' from fun z => by have := z.2 cx h3; rw [h4] at this; exact absurd this (by decide)), iv_f (show ¬ T3 T x y C C' from fun z => cy (z.2.mp ⟨cx, h3⟩).1), Nat.add_zero]
          exact bw_t1 hT hS w x y C' hC' (Or.inl cx)
      · by_cases cy : C'.testBit y = true
        · rw [iv_f (show ¬ T1 T x y C C' from fun z => by have := z.2 cy h4; rw [h3] at this; exact absurd this (by decide)), iv_t (show T1 T y x C C' from ⟨ht, fun z => absurd z cx⟩), iv_f (show ¬ T3 T x y C C' from fun z => cx (z.2.mpr ⟨cy, h4⟩).1), Nat.zero_add, Nat.add_zero]
          exact bw_t1 hT hS w y x C' hC' (Or.inl cy)
        · rw [iv_t (show T1 T x y C C' from ⟨ht, fun z => absurd z cy⟩), iv_t (show T1 T y x C C' from ⟨ht, fun z => absurd z cx⟩), iv_t (show T3 T x y C C' from ⟨ht, by simp [cx, cy]⟩)]
          exact ih C' (by omega) hC' (by simpa using cx) (by simpa using cy)
  exact key 256 0 (by omega) (by omega) (by simp) (by simp)
/-! bounds -/
def pc8 (C : Nat) : Nat := C % 2 + C / 2 % 2 + C / 4 % 2 + C / 8 % 2 + C / 16 % 2 + C / 32 % 2 + C / 64 % 2 + C / 128 % 2
def wtB (C : Nat) : Nat := 12 ^ (8 - pc8 C)
def wtF (C : Nat) : Nat := 12 ^ (pc8 C)
theorem wtB_ok : ∀ C, C < 256 → sm 256 (fun C' => if C &&& C' = C then (if C = C' then 0 else wtB C') else 0) ≤ wtB C := by
  decide +kernel
theorem wtF_ok : ∀ C', C' < 256 → sm 256 (fun C => if C &&& C' = C then (if C = C' then 0 else wtF C) else 0) ≤ wtF C' := by
  decide +kernel
