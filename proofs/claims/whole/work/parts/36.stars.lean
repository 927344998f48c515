/-! ===== 36 a statement is a star; the fewest statements and the shortest ring ===== -/
def StarH (L : Nat) (H : List Edge) : Prop := ∀ p b q, (p, b, q) ∈ H → p = L ∨ q = L
theorem StarH.app {L : Nat} {H H' : List Edge} (h : StarH L H) (h' : StarH L H') : StarH L (H ++ H') := fun p b q m => by
  rcases List.mem_append.mp m with m | m
  · exact h p b q m
  · exact h' p b q m
theorem StarH_hE1 (p r q : Nat) : StarH p (hE p r q) := by
  intro a b c m
  unfold hE at m
  split at m
  · simp at m; omega
  · split at m
    · simp at m; omega
    · split at m
      · simp at m; omega
      · simp at m
theorem StarH_hE2 (p r q : Nat) : StarH q (hE p r q) := by
  intro a b c m
  unfold hE at m
  split at m
  · simp at m; omega
  · split at m
    · simp at m; omega
    · split at m
      · simp at m; omega
      · simp at m
theorem StarH_st (A : Told) (k : Nat) : ∃ L, StarH L (stH A k) := by
  unfold stH
  by_cases h : A.cl k = 9
  · rw [if_pos h]; exact ⟨A.fi k, StarH_hE1 _ _ _⟩
  · rw [if_neg h]
    refine ⟨1 + 2 * A.cl k, ?_⟩
    unfold clH
    refine StarH.app ?_ (StarH.app (StarH_hE1 _ _ _) (StarH_hE2 _ _ _))
    split
    · intro p b q m; simp at m
    · exact StarH_hE2 _ _ _
theorem StarH.R {L : Nat} {H : List Edge} (h : StarH L H) {x y : Nat} (hr : Rq H x y) (hne : x ≠ y) : Rq H x L ∧ Rq H L y := by
  have := hr (fun x y => x = y ∨ (Rq H x L ∧ Rq H L y)) (fun x => Or.inl rfl) (fun x y z a b => by
    rcases a with a | a
    · subst a; exact b
    · rcases b with b | b
      · subst b; exact Or.inr a
      · exact Or.inr ⟨a.1, b.2⟩) (fun p b q m => by
    rcases h p b q m with e | e
    · subst e; exact Or.inr ⟨Rq.rf _ _, Rq.ed m⟩
    · subst e; exact Or.inr ⟨Rq.ed m, Rq.rf _ _⟩)
  exact this.resolve_left hne
theorem StarH.S {L : Nat} {H : List Edge} (h : StarH L H) {x y : Nat} (hs : Sq H x y) : Sq H x L ∨ Sq H L y := by
  obtain ⟨a, b, h1, h2, h3⟩ := hs
  rcases h a true b h2 with e | e
  · subst e; exact Or.inr ((Sq.ed h2).r h3)
  · subst e; exact Or.inl (Sq.l h1 (Sq.ed h2))
def Rk (A : Told) (k x y : Nat) : Prop := Rq (stH A k) x y
def Sk (A : Told) (k x y : Nat) : Prop := Sq (stH A k) x y
theorem XP_st (A : Told) : XP (Rk A) (Sk A) := by
  intro k a b c d r1 n1 r2 n2
  obtain ⟨L, h⟩ := StarH_st A k
  obtain ⟨a1, a2⟩ := h.R r1 n1
  obtain ⟨c1, c2⟩ := h.R r2 n2
  refine ⟨c1.tr a2, a1.tr c2, fun s => ?_, fun s => ?_⟩
  · rcases h.S s with z | z
    · exact Or.inr (z.r c2)
    · exact Or.inl (Sq.l c1 z)
  · rcases h.S s with z | z
    · exact Or.inl (z.r a2)
    · exact Or.inr (Sq.l a1 z)
/-! a statement alone can be -/
def Vd (v : Nat → Nat) (H : List Edge) : Prop := ∀ p b q, (p, b, q) ∈ H → v p ≤ v q ∧ (b = true → v p < v q)
theorem Vd.app {v : Nat → Nat} {H H' : List Edge} (h : Vd v H) (h' : Vd v H') : Vd v (H ++ H') := fun p b q m => by
  rcases List.mem_append.mp m with m | m
  · exact h p b q m
  · exact h' p b q m
theorem Vd.can {v : Nat → Nat} {H : List Edge} (h : Vd v H) : Can H := by
  have hR : ∀ {x y}, Rq H x y → v x ≤ v y := fun {x y} r => r (fun x y => v x ≤ v y) (fun _ => Nat.le_refl _) (fun _ _ _ a b => Nat.le_trans a b) (fun p b q m => (h p b q m).1)
  rintro ⟨x, a, b, h1, h2, h3⟩
  have := hR h1
  have := hR h3
  have := (h a true b h2).2 rfl
  omega
theorem Vd_hE {v : Nat → Nat} {p r q : Nat} (h0 : r = 0 → v p < v q) (h1 : r = 1 → v p = v q) (h2 : r = 2 → v q < v p) : Vd v (hE p r q) := by
  intro a b c m
  unfold hE at m
  split at m
  · rename_i e
    have := h0 e
    simp at m
    obtain ⟨rfl, rfl, rfl⟩ := m
    exact ⟨by omega, fun _ => this⟩
  · split at m
    · rename_i e
      have := h1 e
      simp at m
      rcases m with ⟨rfl, rfl, rfl⟩ | ⟨rfl, rfl, rfl⟩
      · exact ⟨by omega, fun z => absurd z (by decide)⟩
      · exact ⟨by omega, fun z => absurd z (by decide)⟩
    · split at m
      · rename_i e
        have := h2 e
        simp at m
        obtain ⟨rfl, rfl, rfl⟩ := m
        exact ⟨by omega, fun _ => this⟩
      · simp at m
def lv3 (r : Nat) : Nat := if r = 0 then 0 else if r = 2 then 2 else 1
theorem lv3_0 {r : Nat} (h : r = 0) : lv3 r = 0 := if_pos h
theorem lv3_1 {r : Nat} (h : r = 1) : lv3 r = 1 := by subst h; rfl
theorem lv3_2 {r : Nat} (h : r = 2) : lv3 r = 2 := by subst h; rfl
theorem Can_st {A : Told} (hw : WF A) {k : Nat} (hk : k < A.ns) : Can (stH A k) := by
  unfold stH
  by_cases h : A.cl k = 9
  · rw [if_pos h]
    obtain ⟨_, _, _, _, hne, hs⟩ := hw.2.2.1 k hk h
    refine Vd.can (v := fun x => if x = A.fi k then lv3 (A.sg k) else 1) (Vd_hE (fun e => ?_) (fun e => ?_) (fun e => ?_))
    · show (if A.fi k = A.fi k then lv3 (A.sg k) else 1) < (if A.se k = A.fi k then lv3 (A.sg k) else 1)
      rw [if_pos rfl, if_neg (fun z => hne z.symm), lv3_0 e]; omega
    · show (if A.fi k = A.fi k then lv3 (A.sg k) else 1) = (if A.se k = A.fi k then lv3 (A.sg k) else 1)
      rw [if_pos rfl, if_neg (fun z => hne z.symm), lv3_1 e]
    · omega
  · rw [if_neg h]
    generalize A.cl k = c
    unfold clH
    let v : Nat → Nat := fun x => if x = 1 + 2 * c then 1 else if x = 2 + 2 * c then lv3 (evr (A.ten c)) else if x = 0 then 2 - lv3 (lkr (A.ten c)) else lv3 (A.lnk c)
    have vL : v (1 + 2 * c) = 1 := if_pos rfl
    have vE : v (2 + 2 * c) = lv3 (evr (A.ten c)) := by show (if _ then _ else _) = _; rw [if_neg (by omega), if_pos rfl]
    have vN : v 0 = 2 - lv3 (lkr (A.ten c)) := by show (if _ then _ else _) = _; rw [if_neg (by omega), if_neg (by omega), if_pos rfl]
    refine Vd.can (v := v) (Vd.app ?_ (Vd.app (Vd_hE (fun e => ?_) (fun e => ?_) (fun e => ?_)) (Vd_hE (fun e => ?_) (fun e => ?_) (fun e => ?_))))
    · by_cases hc : c = 0
      · rw [if_pos hc]; intro p b q m; simp at m
      · rw [if_neg hc]
        have vP : v (1 + 2 * (c - 1)) = lv3 (A.lnk c) := by show (if _ then _ else _) = _; rw [if_neg (by omega), if_neg (by omega), if_neg (by omega)]
        refine Vd_hE (fun e => ?_) (fun e => ?_) (fun e => ?_)
        · rw [vP, vL, lv3_0 e]; omega
        · rw [vP, vL, lv3_1 e]
        · rw [vP, vL, lv3_2 e]; omega
    · rw [vL, vN, lv3_0 e]; omega
    · rw [vL, vN, lv3_1 e]
    · rw [vL, vN, lv3_2 e]; omega
    · rw [vL, vE, lv3_0 e]; omega
    · rw [vL, vE, lv3_1 e]
    · rw [vL, vE, lv3_2 e]; omega
theorem mem_setH {A : Told} {b : Nat → Bool} {e : Edge} : ∀ n, e ∈ setH A b n ↔ ∃ k, k < n ∧ b k = true ∧ e ∈ stH A k := by
  intro n
  induction n with
  | zero => exact ⟨fun h => by simp [setH] at h, fun ⟨k, h, _⟩ => absurd h (by omega)⟩
  | succ n ih =>
    unfold setH
    rw [List.mem_append, ih]
    constructor
    · rintro (h | ⟨k, h1, h2⟩)
      · by_cases z : b n = true
        · rw [if_pos z] at h; exact ⟨n, by omega, z, h⟩
        · rw [if_neg z] at h; simp at h
      · exact ⟨k, by omega, h2⟩
    · rintro ⟨k, h1, h2, h3⟩
      by_cases e' : k = n
      · subst e'; left; rw [if_pos h2]; exact h3
      · exact Or.inr ⟨k, by omega, h2, h3⟩
theorem setH_congr {A : Told} {b b' : Nat → Bool} : ∀ n, (∀ i, i < n → b i = b' i) → setH A b n = setH A b' n := by
  intro n
  induction n with
  | zero => intro _; rfl
  | succ n ih => intro h; unfold setH; rw [ih (fun i hi => h i (by omega)), h n (by omega)]
theorem Can_sub {A : Told} {b b' : Nat → Bool} {n : Nat} (h : ∀ i, i < n → b i = true → b' i = true) (hc : ¬ Can (setH A b n)) : ¬ Can (setH A b' n) := fun z => hc (fun ⟨x, s⟩ => z ⟨x, s.mono (fun e m => by
  obtain ⟨k, k1, k2, k3⟩ := (mem_setH n).mp m
  exact (mem_setH n).mpr ⟨k, k1, h k k1 k2, k3⟩)⟩)
/-- labels of a set -/
def Lb (n : Nat) (b : Nat → Bool) (l : List Nat) : Prop := ∀ k, k ∈ l → k < n ∧ b k = true
theorem wk_Rq {A : Told} {b : Nat → Bool} {n : Nat} : ∀ (l : List Nat) (x y : Nat), Lb n b l → wk (Rk A) l x y → Rq (setH A b n) x y := by
  intro l
  induction l with
  | nil => intro x y _ h; cases h; exact Rq.rf _ _
  | cons k l ih =>
    rintro x y h ⟨z, h1, h2⟩
    obtain ⟨k1, k2⟩ := h k (List.mem_cons_self ..)
    exact (ih x z (fun j hj => h j (List.mem_cons_of_mem _ hj)) h1).tr (h2.mono (fun e m => (mem_setH n).mpr ⟨k, k1, k2, m⟩))
theorem wks_Sq {A : Told} {b : Nat → Bool} {n : Nat} : ∀ (l : List Nat) (x y : Nat), Lb n b l → wks (Rk A) (Sk A) l x y → Sq (setH A b n) x y := by
  intro l
  induction l with
  | nil => intro x y _ h; exact h.elim
  | cons k l ih =>
    rintro x y h ⟨z, ⟨h1, h2⟩ | ⟨h1, h2⟩⟩
    · obtain ⟨k1, k2⟩ := h k (List.mem_cons_self ..)
      exact (ih x z (fun j hj => h j (List.mem_cons_of_mem _ hj)) h1).r (h2.mono (fun e m => (mem_setH n).mpr ⟨k, k1, k2, m⟩))
    · obtain ⟨k1, k2⟩ := h k (List.mem_cons_self ..)
      exact Sq.l (wk_Rq l x z (fun j hj => h j (List.mem_cons_of_mem _ hj)) h1) (h2.mono (fun e m => (mem_setH n).mpr ⟨k, k1, k2, m⟩))
theorem Rq_wk {A : Told} {b : Nat → Bool} {n x y : Nat} (h : Rq (setH A b n) x y) : ∃ l, Lb n b l ∧ wk (Rk A) l x y :=
  h (fun x y => ∃ l, Lb n b l ∧ wk (Rk A) l x y) (fun x => ⟨[], fun k m => by simp at m, rfl⟩) (fun x y z ⟨l1, a1, b1⟩ ⟨l2, a2, b2⟩ => ⟨l2 ++ l1, fun k m => (List.mem_append.mp m).elim (a2 k) (a1 k), wk_app.mpr ⟨y, b1, b2⟩⟩) (fun p b' q m => by
    obtain ⟨k, k1, k2, k3⟩ := (mem_setH n).mp m
    refine ⟨[k], fun j hj => ?_, p, rfl, Rq.ed k3⟩
    simp at hj
    subst hj
    exact ⟨k1, k2⟩)
theorem Sq_wks {A : Told} {b : Nat → Bool} {n x y : Nat} (h : Sq (setH A b n) x y) : ∃ l, Lb n b l ∧ wks (Rk A) (Sk A) l x y := by
  obtain ⟨p, q, h1, h2, h3⟩ := h
  obtain ⟨l1, a1, b1⟩ := Rq_wk h1
  obtain ⟨l2, a2, b2⟩ := Rq_wk h3
  obtain ⟨k, k1, k2, k3⟩ := (mem_setH n).mp h2
  refine ⟨l2 ++ k :: l1, fun j hj => ?_, wks_app.mpr ⟨q, Or.inl ⟨⟨p, Or.inr ⟨b1, Sq.ed k3⟩⟩, b2⟩⟩⟩
  rcases List.mem_append.mp hj with m | m
  · exact a2 j m
  · rcases List.mem_cons.mp m with e | m
    · subst e; exact ⟨k1, k2⟩
    · exact a1 j m
/-- walks of so many steps -/
def Wn (A : Told) (b : Nat → Bool) (n x y : Nat) : Prop := ∃ l : List Nat, l.length ≤ n ∧ Lb A.ns b l ∧ wk (Rk A) l x y
def Sn (A : Told) (b : Nat → Bool) (n x y : Nat) : Prop := ∃ l : List Nat, l.length ≤ n ∧ Lb A.ns b l ∧ wks (Rk A) (Sk A) l x y
theorem Sk_Rk (A : Told) : ∀ k x y, Sk A k x y → Rk A k x y := fun _ _ _ h => Sq.R h
theorem Sn_Wn {A : Told} {b : Nat → Bool} {n x y : Nat} (h : Sn A b n x y) : Wn A b n x y := by
  obtain ⟨l, h1, h2, h3⟩ := h
  exact ⟨l, h1, h2, wks_wk (Sk_Rk A) h3⟩
theorem Wn_up {A : Told} {b : Nat → Bool} {n m x y : Nat} (h : Wn A b n x y) (hm : n ≤ m) : Wn A b m x y := by
  obtain ⟨l, h1, h2⟩ := h
  exact ⟨l, by omega, h2⟩
theorem Sn_up {A : Told} {b : Nat → Bool} {n m x y : Nat} (h : Sn A b n x y) (hm : n ≤ m) : Sn A b m x y := by
  obtain ⟨l, h1, h2⟩ := h
  exact ⟨l, by omega, h2⟩
theorem Wn_0 {A : Told} {b : Nat → Bool} {x y : Nat} : Wn A b 0 x y ↔ x = y := by
  constructor
  · rintro ⟨l, h1, h2, h3⟩
    have e : l = [] := List.eq_nil_of_length_eq_zero (by omega)
    subst e
    exact h3
  · rintro rfl; exact ⟨[], Nat.le_refl _, fun k m => by simp at m, rfl⟩
theorem Sn_0 {A : Told} {b : Nat → Bool} {x y : Nat} : ¬ Sn A b 0 x y := by
  rintro ⟨l, h1, h2, h3⟩
  have e : l = [] := List.eq_nil_of_length_eq_zero (by omega)
  subst e
  exact h3
def Nst (A : Told) (b : Nat → Bool) (z y : Nat) : Prop := z = y ∨ ∃ k, k < A.ns ∧ b k = true ∧ Rk A k z y
def Sst (A : Told) (b : Nat → Bool) (z y : Nat) : Prop := ∃ k, k < A.ns ∧ b k = true ∧ Sk A k z y
theorem Lb_cons {n k : Nat} {b : Nat → Bool} {l : List Nat} (h : Lb n b l) (h1 : k < n) (h2 : b k = true) : Lb n b (k :: l) := fun j hj => by
  rcases List.mem_cons.mp hj with e | m
  · subst e; exact ⟨h1, h2⟩
  · exact h j m
theorem Wn_s {A : Told} {b : Nat → Bool} {n x y : Nat} : Wn A b (n + 1) x y ↔ ∃ z, Wn A b n x z ∧ Nst A b z y := by
  constructor
  · rintro ⟨l, h1, h2, h3⟩
    match l, h1, h2, h3 with
    | [], _, h2, h3 => exact ⟨x, ⟨[], Nat.zero_le _, h2, rfl⟩, Or.inl h3⟩
    | k :: l, h1, h2, ⟨z, h3, h4⟩ =>
      have := h2 k (List.mem_cons_self ..)
      exact ⟨z, ⟨l, by simp only [List.length_cons] at h1; omega, fun j hj => h2 j (List.mem_cons_of_mem _ hj), h3⟩, Or.inr ⟨k, this.1, this.2, h4⟩⟩
  · rintro ⟨z, h, e | ⟨k, k1, k2, k3⟩⟩
    · subst e; exact Wn_up h (by omega)
    · obtain ⟨l, h1, h2, h3⟩ := h
      exact ⟨k :: l, by simp only [List.length_cons]; omega, Lb_cons h2 k1 k2, z, h3, k3⟩
theorem Sn_s {A : Told} {b : Nat → Bool} {n x y : Nat} : Sn A b (n + 1) x y ↔ ∃ z, (Sn A b n x z ∧ Nst A b z y) ∨ (Wn A b n x z ∧ Sst A b z y) := by
  constructor
  · rintro ⟨l, h1, h2, h3⟩
    match l, h1, h2, h3 with
    | [], _, _, h3 => exact h3.elim
    | k :: l, h1, h2, ⟨z, Or.inl ⟨h3, h4⟩⟩ =>
      have := h2 k (List.mem_cons_self ..)
      exact ⟨z, Or.inl ⟨⟨l, by simp only [List.length_cons] at h1; omega, fun j hj => h2 j (List.mem_cons_of_mem _ hj), h3⟩, Or.inr ⟨k, this.1, this.2, h4⟩⟩⟩
    | k :: l, h1, h2, ⟨z, Or.inr ⟨h3, h4⟩⟩ =>
      have := h2 k (List.mem_cons_self ..)
      exact ⟨z, Or.inr ⟨⟨l, by simp only [List.length_cons] at h1; omega, fun j hj => h2 j (List.mem_cons_of_mem _ hj), h3⟩, ⟨k, this.1, this.2, h4⟩⟩⟩
  · rintro ⟨z, ⟨h, e | ⟨k, k1, k2, k3⟩⟩ | ⟨h, k, k1, k2, k3⟩⟩
    · subst e; exact Sn_up h (by omega)
    · obtain ⟨l, h1, h2, h3⟩ := h
      exact ⟨k :: l, by simp only [List.length_cons]; omega, Lb_cons h2 k1 k2, z, Or.inl ⟨h3, k3⟩⟩
    · obtain ⟨l, h1, h2, h3⟩ := h
      exact ⟨k :: l, by simp only [List.length_cons]; omega, Lb_cons h2 k1 k2, z, Or.inr ⟨h3, k3⟩⟩
/-- a ring of so many steps -/
def RG (A : Told) (b : Nat → Bool) (n : Nat) : Prop := ∃ x, Sn A b n x x
theorem RG_iff {A : Told} (hw : WF A) (b : Nat → Bool) (n : Nat) : RG A b n ↔ ∃ b' : Nat → Bool, (∀ i, i < A.ns → b' i = true → b i = true) ∧ cn b' A.ns ≤ n ∧ ¬ Can (setH A b' A.ns) := by
  constructor
  · rintro ⟨x, l, h1, h2, h3⟩
    refine ⟨fun i => decide (i ∈ l), fun i _ hi => (h2 i (of_decide_eq_true hi)).2, Nat.le_trans (cn_list A.ns l) h1, fun hc => hc ⟨x, ?_⟩⟩
    exact wks_Sq l x x (fun k hk => ⟨(h2 k hk).1, decide_eq_true hk⟩) h3
  · rintro ⟨b', h1, h2, h3⟩
    obtain ⟨x, hx⟩ : ∃ x, Sq (setH A b' A.ns) x x := Classical.byContradiction (fun z => h3 z)
    obtain ⟨l, l1, l2⟩ := Sq_wks hx
    -- labels beyond the statements don't come in: the exchange is asked of all, so cut to those told
    have hI : ∀ k x, ¬ (fun k x y => k < A.ns ∧ Sk A k x y) k x x := fun k x h => Can_st hw h.1 ⟨x, h.2⟩
    have hmono : ∀ (l : List Nat) (x y : Nat), Lb A.ns b' l → wks (Rk A) (Sk A) l x y → wks (Rk A) (fun k x y => k < A.ns ∧ Sk A k x y) l x y := by
      intro l
      induction l with
      | nil => intro x y _ h; exact h
      | cons k l ih =>
        rintro x y h ⟨z, ⟨a, c⟩ | ⟨a, c⟩⟩
        · exact ⟨z, Or.inl ⟨ih x z (fun j hj => h j (List.mem_cons_of_mem _ hj)) a, c⟩⟩
        · exact ⟨z, Or.inr ⟨a, (h k (List.mem_cons_self ..)).1, c⟩⟩
    have hback : ∀ (l : List Nat) (x y : Nat), wks (Rk A) (fun k x y => k < A.ns ∧ Sk A k x y) l x y → wks (Rk A) (Sk A) l x y := by
      intro l
      induction l with
      | nil => intro x y h; exact h
      | cons k l ih =>
        rintro x y ⟨z, ⟨a, c⟩ | ⟨a, c⟩⟩
        · exact ⟨z, Or.inl ⟨ih x z a, c⟩⟩
        · exact ⟨z, Or.inr ⟨a, c.2⟩⟩
    have hX : XP (Rk A) (fun k x y => k < A.ns ∧ Sk A k x y) := fun k a b c d r1 n1 r2 n2 => by
      obtain ⟨x1, x2, x3, x4⟩ := XP_st A k a b c d r1 n1 r2 n2
      exact ⟨x1, x2, fun s => (x3 s.2).elim (fun q => Or.inl ⟨s.1, q⟩) (fun q => Or.inr ⟨s.1, q⟩), fun s => (x4 s.2).elim (fun q => Or.inl ⟨s.1, q⟩) (fun q => Or.inr ⟨s.1, q⟩)⟩
    obtain ⟨l', x', a1, a2, a3⟩ := ring_nd (fun k x y h => Sk_Rk A k x y h.2) hI hX l.length l x (Nat.le_refl _) (hmono l x x l1 l2)
    have hL : Lb A.ns b' l' := fun k hk => l1 k (a3 k hk)
    have hlen := nd_len l' b' A.ns a2 hL
    exact ⟨x', l', by omega, fun k hk => ⟨(hL k hk).1, h1 k (hL k hk).1 (hL k hk).2⟩, hback l' x' x' a1⟩
