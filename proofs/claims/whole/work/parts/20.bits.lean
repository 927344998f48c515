/-! ===== 20 bits, and relations closed over chains ===== -/
def bt (x : Int32) (i : Nat) : Bool := x.toBitVec.getLsbD i
theorem bt_or (x y : Int32) (i : Nat) : bt (x ||| y) i = (bt x i || bt y i) := by
  unfold bt
  rw [Int32.toBitVec_or, BitVec.getLsbD_or]
theorem bt_and (x y : Int32) (i : Nat) : bt (x &&& y) i = (bt x i && bt y i) := by
  unfold bt
  rw [Int32.toBitVec_and, BitVec.getLsbD_and]
theorem bt_not (x : Int32) {i : Nat} (h : i < 32) : bt (x ^^^ (-1)) i = !bt x i := by
  unfold bt
  rw [Int32.toBitVec_xor, BitVec.getLsbD_xor]
  have : ((-1 : Int32)).toBitVec = BitVec.allOnes 32 := by decide
  rw [this, BitVec.getLsbD_allOnes]
  simp [h]
theorem bt_0 (i : Nat) : bt 0 i = false := by
  unfold bt
  simp
theorem bt_ext {x y : Int32} (h : ∀ i, i < 32 → bt x i = bt y i) : x = y := by
  apply Int32.toBitVec_inj.mp
  apply BitVec.eq_of_getLsbD_eq
  intro i hi
  exact h i hi
theorem sh_amt (b : Fin 32) : ((nI b &&& 31).toBitVec.smod 32).toNat = b := by
  revert b
  decide +kernel
theorem bt_one (b : Fin 32) (i : Fin 32) : bt (1 <<< (nI b &&& 31)) i = decide (i.val = b.val) := by
  revert b i
  decide +kernel
theorem bt_pow {b i : Nat} (hb : b < 32) (hi : i < 32) : bt (1 <<< (nI b &&& 31)) i = decide (i = b) := bt_one ⟨b, hb⟩ ⟨i, hi⟩
theorem bt_full (n : Fin 31) (i : Fin 32) : bt ((1 <<< (nI n &&& 31)) - 1) i = decide (i.val < n.val) := by
  revert n i
  decide +kernel
theorem bt_all {n i : Nat} (hn : n < 31) (hi : i < 32) : bt ((1 <<< (nI n &&& 31)) - 1) i = decide (i < n) := bt_full ⟨n, hn⟩ ⟨i, hi⟩
theorem and_one (y : Int32) : y &&& 1 = if bt y 0 then 1 else 0 := by
  apply bt_ext
  intro i hi
  rw [bt_and]
  have h1 : ∀ i : Fin 32, bt 1 i = decide (i.val = 0) := by decide +kernel
  have h2 := h1 ⟨i, hi⟩
  simp only at h2
  rw [h2]
  by_cases h0 : i = 0
  · subst h0
    cases hb : bt y 0
    · simp [bt_0]
    · simp [h2]
  · cases bt y 0 <;> simp [h0, bt_0, h2]
theorem shr_one (x : Int32) {b : Nat} (hb : b < 32) : (x >>> (nI b &&& 31)) &&& 1 = if bt x b then 1 else 0 := by
  rw [and_one]
  have : bt (x >>> (nI b &&& 31)) 0 = bt x b := by
    unfold bt
    have e : (x >>> (nI b &&& 31)).toBitVec = x.toBitVec.sshiftRight ((nI b &&& 31).toBitVec.smod 32).toNat := rfl
    rw [e, sh_amt ⟨b, hb⟩, BitVec.getLsbD_sshiftRight]
    simp [hb]
  rw [this]
theorem shr_1 (x : Int32) {b : Nat} (hb : b < 32) : ((x >>> (nI b &&& 31)) &&& 1 = 1) ↔ bt x b = true := by
  rw [shr_one x hb]
  cases bt x b <;> decide
theorem shr_0 (x : Int32) {b : Nat} (hb : b < 32) : ((x >>> (nI b &&& 31)) &&& 1 = 0) ↔ bt x b = false := by
  rw [shr_one x hb]
  cases bt x b <;> decide
theorem has_0 (x : Int32) {b : Nat} (hb : b < 32) : (m_X8_has x (nI b) = 0) ↔ bt x b = false := by
  unfold m_X8_has
  rw [shr_one x hb]
  cases bt x b <;> decide
/-- an edge: the first is not behind the second (true: it is ahead) -/
abbrev Edge : Type := Nat × Bool × Nat
def Rq (H : List Edge) (x y : Nat) : Prop := ∀ Q : Nat → Nat → Prop, (∀ x, Q x x) → (∀ x y z, Q x y → Q y z → Q x z) → (∀ p b q, (p, b, q) ∈ H → Q p q) → Q x y
def Sq (H : List Edge) (x y : Nat) : Prop := ∃ a b, Rq H x a ∧ (a, true, b) ∈ H ∧ Rq H b y
theorem Rq.rf (H : List Edge) (x : Nat) : Rq H x x := fun _ h _ _ => h x
theorem Rq.tr {H : List Edge} {x y z : Nat} (h : Rq H x y) (h' : Rq H y z) : Rq H x z := fun Q a b c => b x y z (h Q a b c) (h' Q a b c)
theorem Rq.ed {H : List Edge} {p q : Nat} {b : Bool} (h : (p, b, q) ∈ H) : Rq H p q := fun _ _ _ c => c p b q h
theorem Rq.mono {H H' : List Edge} (hs : ∀ e, e ∈ H → e ∈ H') {x y : Nat} (h : Rq H x y) : Rq H' x y := h (Rq H') (Rq.rf H') (fun _ _ _ a b => a.tr b) (fun _ _ _ a => Rq.ed (hs _ a))
theorem Sq.mono {H H' : List Edge} (hs : ∀ e, e ∈ H → e ∈ H') {x y : Nat} (h : Sq H x y) : Sq H' x y := by
  obtain ⟨a, b, h1, h2, h3⟩ := h
  exact ⟨a, b, h1.mono hs, hs _ h2, h3.mono hs⟩
theorem Sq.l {H : List Edge} {x y z : Nat} (h : Rq H x y) (h' : Sq H y z) : Sq H x z := by
  obtain ⟨a, b, h1, h2, h3⟩ := h'
  exact ⟨a, b, h.tr h1, h2, h3⟩
theorem Sq.r {H : List Edge} {x y z : Nat} (h : Sq H x y) (h' : Rq H y z) : Sq H x z := by
  obtain ⟨a, b, h1, h2, h3⟩ := h
  exact ⟨a, b, h1, h2, h3.tr h'⟩
theorem Sq.R {H : List Edge} {x y : Nat} (h : Sq H x y) : Rq H x y := by
  obtain ⟨a, b, h1, h2, h3⟩ := h
  exact h1.tr ((Rq.ed h2).tr h3)
theorem Sq.tr {H : List Edge} {x y z : Nat} (h : Sq H x y) (h' : Sq H y z) : Sq H x z := h.r h'.R
theorem Sq.ed {H : List Edge} {p q : Nat} (h : (p, true, q) ∈ H) : Sq H p q := ⟨p, q, Rq.rf H p, h, Rq.rf H q⟩
theorem Rq_nil {x y : Nat} : Rq [] x y ↔ x = y := by
  constructor
  · intro h
    exact h (fun a b => a = b) (fun _ => rfl) (fun _ _ _ a b => a.trans b) (fun _ _ _ h => absurd h (by simp))
  · rintro rfl; exact Rq.rf _ _
theorem Sq_nil {x y : Nat} : ¬ Sq [] x y := by
  rintro ⟨a, b, _, h, _⟩
  exact absurd h (by simp)
theorem Rq_cons {H : List Edge} {p q x y : Nat} {b : Bool} : Rq ((p, b, q) :: H) x y ↔ Rq H x y ∨ (Rq H x p ∧ Rq H q y) := by
  constructor
  · intro h
    refine h (fun x y => Rq H x y ∨ (Rq H x p ∧ Rq H q y)) (fun x => Or.inl (Rq.rf H x)) ?_ ?_
    · rintro x y z (h1 | h1) (h2 | h2)
      · exact Or.inl (h1.tr h2)
      · exact Or.inr ⟨h1.tr h2.1, h2.2⟩
      · exact Or.inr ⟨h1.1, h1.2.tr h2⟩
      · exact Or.inr ⟨h1.1, h2.2⟩
    · intro p' b' q' hm
      rcases List.mem_cons.mp hm with e | e
      · have e1 : p' = p := congrArg Prod.fst e
        have e2 : q' = q := congrArg (fun z => z.2.2) e
        subst e1; subst e2
        exact Or.inr ⟨Rq.rf _ _, Rq.rf _ _⟩
      · exact Or.inl (Rq.ed e)
  · have hs : ∀ e, e ∈ H → e ∈ (p, b, q) :: H := fun e h => List.mem_cons_of_mem _ h
    rintro (h | ⟨h1, h2⟩)
    · exact h.mono hs
    · exact (h1.mono hs).tr ((Rq.ed (b := b) (List.mem_cons_self ..)).tr (h2.mono hs))
theorem Sq_cons_t {H : List Edge} {p q x y : Nat} : Sq ((p, true, q) :: H) x y ↔ Sq H x y ∨ (Rq H x p ∧ Rq H q y) := by
  have hs : ∀ e, e ∈ H → e ∈ (p, true, q) :: H := fun e h => List.mem_cons_of_mem _ h
  constructor
  · rintro ⟨a, b, h1, h2, h3⟩
    rw [Rq_cons] at h1 h3
    have k1 : Rq H x p → Rq H q y → Sq H x y ∨ (Rq H x p ∧ Rq H q y) := fun u v => Or.inr ⟨u, v⟩
    rcases List.mem_cons.mp h2 with e | e
    · have e1 : a = p := congrArg Prod.fst e
      have e2 : b = q := congrArg (fun z => z.2.2) e
      subst e1; subst e2
      refine k1 ?_ ?_
      · rcases h1 with h | h
        · exact h
        · exact h.1
      · rcases h3 with h | h
        · exact h
        · exact h.2
    · rcases h1 with h1 | h1
      · rcases h3 with h3 | h3
        · exact Or.inl ⟨a, b, h1, e, h3⟩
        · exact k1 (h1.tr ((Rq.ed e).tr h3.1)) h3.2
      · rcases h3 with h3 | h3
        · exact k1 h1.1 (h1.2.tr ((Rq.ed e).tr h3))
        · exact k1 h1.1 h3.2
  · rintro (h | ⟨h1, h2⟩)
    · exact h.mono hs
    · exact ⟨p, q, h1.mono hs, List.mem_cons_self .., h2.mono hs⟩
theorem Sq_cons_f {H : List Edge} {p q x y : Nat} : Sq ((p, false, q) :: H) x y ↔ Sq H x y ∨ (Sq H x p ∧ Rq H q y) ∨ (Rq H x p ∧ Sq H q y) ∨ (Rq H x p ∧ Sq H q p ∧ Rq H q y) := by
  have hs : ∀ e, e ∈ H → e ∈ (p, false, q) :: H := fun e h => List.mem_cons_of_mem _ h
  have he : Rq ((p, false, q) :: H) p q := Rq.ed (b := false) (List.mem_cons_self ..)
  constructor
  · rintro ⟨a, b, h1, h2, h3⟩
    rw [Rq_cons] at h1 h3
    have e : (a, true, b) ∈ H := by
      rcases List.mem_cons.mp h2 with e | e
      · exact absurd (congrArg (fun z => z.2.1) e) (by simp)
      · exact e
    rcases h1 with h1 | h1
    · rcases h3 with h3 | h3
      · exact Or.inl ⟨a, b, h1, e, h3⟩
      · exact Or.inr (Or.inl ⟨⟨a, b, h1, e, h3.1⟩, h3.2⟩)
    · rcases h3 with h3 | h3
      · exact Or.inr (Or.inr (Or.inl ⟨h1.1, ⟨a, b, h1.2, e, h3⟩⟩))
      · exact Or.inr (Or.inr (Or.inr ⟨h1.1, ⟨a, b, h1.2, e, h3.1⟩, h3.2⟩))
  · rintro (h | ⟨h1, h2⟩ | ⟨h1, h2⟩ | ⟨h1, h2, h3⟩)
    · exact h.mono hs
    · exact (h1.mono hs).r (he.tr (h2.mono hs))
    · exact Sq.l ((h1.mono hs).tr he) (h2.mono hs)
    · exact Sq.l ((h1.mono hs).tr he) ((h2.mono hs).r (he.tr (h3.mono hs)))
def Can (H : List Edge) : Prop := ¬ ∃ x, Sq H x x
/-- what two times say to each other, edges newest first -/
def hE (p r q : Nat) : List Edge := if r = 0 then [(p, true, q)] else if r = 1 then [(q, false, p), (p, false, q)] else if r = 2 then [(q, true, p)] else []
def evr (t : Nat) : Nat := [1, 0, 2, 1, 0, 2, 1, 0].getD t 9
def lkr (t : Nat) : Nat := [0, 0, 0, 1, 1, 1, 2, 2].getD t 9
def clH (A : Told) (c : Nat) : List Edge := (if c = 0 then [] else hE (1 + 2 * (c - 1)) (A.lnk c) (1 + 2 * c)) ++ (hE (1 + 2 * c) (lkr (A.ten c)) 0 ++ hE (2 + 2 * c) (evr (A.ten c)) (1 + 2 * c))
def stH (A : Told) (k : Nat) : List Edge := if A.cl k = 9 then hE (A.fi k) (A.sg k) (A.se k) else clH A (A.cl k)
def setH (A : Told) (b : Nat → Bool) : Nat → List Edge
  | 0 => []
  | n + 1 => (if b n then stH A n else []) ++ setH A b n
def Wi (n : Nat) (H : List Edge) : Prop := ∀ p b q, (p, b, q) ∈ H → p < n ∧ q < n
theorem Wi.app {n : Nat} {H H' : List Edge} (h : Wi n H) (h' : Wi n H') : Wi n (H ++ H') := fun p b q m => by
  rcases List.mem_append.mp m with m | m
  · exact h p b q m
  · exact h' p b q m
theorem Wi.nil (n : Nat) : Wi n [] := fun _ _ _ m => absurd m (by simp)
theorem Wi_hE {n p r q : Nat} (hp : p < n) (hq : q < n) : Wi n (hE p r q) := by
  intro a b c m
  unfold hE at m
  split at m
  · simp at m; omega
  · split at m
    · simp at m; omega
    · split at m
      · simp at m; omega
      · simp at m
theorem Wi_stH {A : Told} (hw : WF A) {k : Nat} (hk : k < A.ns) : Wi (1 + 2 * A.nc) (stH A k) := by
  unfold stH
  by_cases h : A.cl k = 9
  · rw [if_pos h]
    obtain ⟨a, b, _⟩ := hw.2.2.1 k hk h
    exact Wi_hE (by omega) (by omega)
  · rw [if_neg h]
    have := hw.2.2.2.1 k hk h
    unfold clH
    refine Wi.app ?_ (Wi.app (Wi_hE (by omega) (by omega)) (Wi_hE (by omega) (by omega)))
    split
    · exact Wi.nil _
    · exact Wi_hE (by omega) (by omega)
theorem Wi_setH {A : Told} (hw : WF A) (b : Nat → Bool) : ∀ n, n ≤ A.ns → Wi (1 + 2 * A.nc) (setH A b n) := by
  intro n
  induction n with
  | zero => intro _; exact Wi.nil _
  | succ n ih =>
    intro hn
    unfold setH
    refine Wi.app ?_ (ih (by omega))
    split
    · exact Wi_stH hw (by omega)
    · exact Wi.nil _
theorem Rq.lt {n : Nat} {H : List Edge} (hw : Wi n H) {x y : Nat} (h : Rq H x y) : x < n → y < n :=
  h (fun x y => x < n → y < n) (fun _ h => h) (fun _ _ _ a b c => b (a c)) (fun p b q m _ => (hw p b q m).2)
theorem Rq.gt {n : Nat} {H : List Edge} (hw : Wi n H) {x y : Nat} (h : Rq H x y) : y < n → x < n :=
  h (fun x y => y < n → x < n) (fun _ h => h) (fun _ _ _ a b c => a (b c)) (fun p b q m _ => (hw p b q m).1)
theorem Sq.lt {n : Nat} {H : List Edge} (hw : Wi n H) {x y : Nat} (h : Sq H x y) : x < n ∧ y < n := by
  obtain ⟨a, b, h1, h2, h3⟩ := h
  have := hw a true b h2
  exact ⟨h1.gt hw this.1, h3.lt hw this.2⟩
