/-! ===== 31 rows of events: what a row must be; a question's answer; the lowest alone ===== -/
/-- so much has come, then so much: by what is told of events -/
def TG (H : List Edge) (nc C C' : Nat) : Prop := Sub C C' ∧ C ≠ C' ∧ C' < 2 ^ nc ∧ (∀ x y, x < nc → y < nc → Rq H (2 + 2 * x) (2 + 2 * y) → (C.testBit y = true → C.testBit x = true) ∧ (C'.testBit y = true → C'.testBit x = true)) ∧ (∀ x y, x < nc → y < nc → Sq H (2 + 2 * x) (2 + 2 * y) → C'.testBit y = true → C.testBit y = false → C.testBit x = true)
theorem pow256 {nc : Nat} (h : nc ≤ 8) : 2 ^ nc ≤ 256 := by
  show 2 ^ nc ≤ 2 ^ 8
  exact Nat.pow_le_pow_right (by omega) h
theorem whole_lt {nc : Nat} (h : nc ≤ 8) : 2 ^ nc - 1 < 256 := by
  have := pow256 h
  have : 0 < 2 ^ nc := Nat.two_pow_pos nc
  omega
theorem whole_b (nc i : Nat) : (2 ^ nc - 1).testBit i = true ↔ i < nc := by rw [Nat.testBit_two_pow_sub_one]; simp
theorem sub_whole {nc C : Nat} (h : C < 2 ^ nc) : Sub C (2 ^ nc - 1) := fun i hi => by
  rw [whole_b]
  exact Nat.lt_of_not_le (fun z => by rw [tb_out2 h z] at hi; exact absurd hi (by decide))
theorem TG_Gr (H : List Edge) {nc : Nat} (h : nc ≤ 8) : Gr (TG H nc) (2 ^ nc - 1) := fun C C' z => by
  have := pow256 h
  exact ⟨z.1, z.2.1, by have := z.2.2.1; omega, sub_whole z.2.2.1⟩
theorem TG_S (H : List Edge) (nc : Nat) : ∀ C C', TG H nc C C' → Sub C C' := fun _ _ z => z.1
theorem bf_of {a : Bool} (h : ¬ a = true) : a = false := by simpa using h
theorem bf_no {a : Bool} {P : Prop} (h : a = false) (h' : a = true) : P := by rw [h] at h'; exact absurd h' (by decide)
/-- no way where one would come ahead of itself -/
theorem TG_none {H : List Edge} {nc e : Nat} (h8 : nc ≤ 8) (he : e < nc) (hs : Sq H (2 + 2 * e) (2 + 2 * e)) : bw (TG H nc) (2 ^ nc - 1) 0 = 0 :=
  bw_none (TG_Gr H h8).up (2 ^ nc - 1) (fun C => C.testBit e = false) (fun C h z => by
    have := (whole_b nc e).mpr he
    rw [← z, h] at this
    exact absurd this (by decide)) (fun C C' h z => by
    refine bf_of (fun q => ?_)
    exact bf_no h (z.2.2.2.2 e e he he hs q h)) 0 (by omega) (by simp)
theorem TG_mono {H H' : List Edge} (hs : ∀ e, e ∈ H → e ∈ H') {nc C C' : Nat} (h : TG H' nc C C') : TG H nc C C' :=
  ⟨h.1, h.2.1, h.2.2.1, fun x y hx hy r => h.2.2.2.1 x y hx hy (r.mono hs), fun x y hx hy r => h.2.2.2.2 x y hx hy (r.mono hs)⟩
theorem TG_t {H : List Edge} {nc a b C C' : Nat} (ha : a < nc) (hb : b < nc) (hP : C.testBit b = true → C.testBit a = true) : T1 (TG H nc) a b C C' ↔ TG ((2 + 2 * a, true, 2 + 2 * b) :: H) nc C C' := by
  constructor
  · rintro ⟨⟨h1, h2, h3, h4, h5⟩, h6⟩
    have hP' : C'.testBit b = true → C'.testBit a = true := fun q => by
      by_cases z : C.testBit b = true
      · exact h1 a (hP z)
      · exact h1 a (h6 q (bf_of z))
    refine ⟨h1, h2, h3, fun x y hx hy r => ?_, fun x y hx hy s q1 q2 => ?_⟩
    · rcases Rq_cons.mp r with r | ⟨r1, r2⟩
      · exact h4 x y hx hy r
      · exact ⟨fun q => (h4 x a hx ha r1).1 (hP ((h4 b y hb hy r2).1 q)), fun q => (h4 x a hx ha r1).2 (hP' ((h4 b y hb hy r2).2 q))⟩
    · rcases Sq_cons_t.mp s with s | ⟨r1, r2⟩
      · exact h5 x y hx hy s q1 q2
      · refine (h4 x a hx ha r1).1 ?_
        by_cases z : C.testBit b = true
        · exact hP z
        · exact h6 ((h4 b y hb hy r2).2 q1) (bf_of z)
  · intro h
    refine ⟨TG_mono (fun e m => List.mem_cons_of_mem _ m) h, fun q1 q2 => h.2.2.2.2 a b ha hb (Sq.ed (List.mem_cons_self ..)) q1 q2⟩
/-- at once, one way -/
theorem TG_f1 {H : List Edge} {nc a b C C' : Nat} (ha : a < nc) (hb : b < nc) (hP : C.testBit b = true → C.testBit a = true) (hP' : C'.testBit b = true → C'.testBit a = true) (h : TG H nc C C') : TG ((2 + 2 * a, false, 2 + 2 * b) :: H) nc C C' := by
  obtain ⟨h1, h2, h3, h4, h5⟩ := h
  refine ⟨h1, h2, h3, fun x y hx hy r => ?_, fun x y hx hy s q1 q2 => ?_⟩
  · rcases Rq_cons.mp r with r | ⟨r1, r2⟩
    · exact h4 x y hx hy r
    · exact ⟨fun q => (h4 x a hx ha r1).1 (hP ((h4 b y hb hy r2).1 q)), fun q => (h4 x a hx ha r1).2 (hP' ((h4 b y hb hy r2).2 q))⟩
  · rcases Sq_cons_f.mp s with s | ⟨s1, r2⟩ | ⟨r1, s2⟩ | ⟨r1, s2, r3⟩
    · exact h5 x y hx hy s q1 q2
    · by_cases z : C.testBit a = true
      · exact (h4 x a hx ha s1.R).1 z
      · exact h5 x a hx ha s1 (hP' ((h4 b y hb hy r2).2 q1)) (bf_of z)
    · exact (h4 x a hx ha r1).1 (hP (h5 b y hb hy s2 q1 q2))
    · refine (h4 x a hx ha r1).1 ?_
      by_cases z : C.testBit a = true
      · exact z
      · exact hP (h5 b a hb ha s2 (hP' ((h4 b y hb hy r3).2 q1)) (bf_of z))
theorem TG_f {H : List Edge} {nc a b C C' : Nat} (ha : a < nc) (hb : b < nc) (hP : C.testBit a = true ↔ C.testBit b = true) : T3 (TG H nc) a b C C' ↔ TG ((2 + 2 * b, false, 2 + 2 * a) :: (2 + 2 * a, false, 2 + 2 * b) :: H) nc C C' := by
  constructor
  · rintro ⟨h, h6⟩
    have p1 : C'.testBit b = true → C'.testBit a = true := fun q => by
      by_cases z : C.testBit b = true
      · exact h.1 a (hP.mpr z)
      · exact (h6.mpr ⟨q, bf_of z⟩).1
    have p2 : C'.testBit a = true → C'.testBit b = true := fun q => by
      by_cases z : C.testBit a = true
      · exact h.1 b (hP.mp z)
      · exact (h6.mp ⟨q, bf_of z⟩).1
    exact TG_f1 hb ha hP.mp p2 (TG_f1 ha hb hP.mpr p1 h)
  · intro h
    have r1 := h.2.2.2.1 a b ha hb (Rq.ed (b := false) (List.mem_cons_of_mem _ (List.mem_cons_self ..)))
    have r2 := h.2.2.2.1 b a hb ha (Rq.ed (b := false) (List.mem_cons_self ..))
    refine ⟨TG_mono (fun e m => List.mem_cons_of_mem _ (List.mem_cons_of_mem _ m)) h, ⟨fun q => ⟨r2.2 q.1, bf_of (fun z => bf_no q.2 (r1.1 z))⟩, fun q => ⟨r1.2 q.1, bf_of (fun z => bf_no q.2 (r2.1 z))⟩⟩⟩
/-- all orders of events -/
noncomputable def OW (H : List Edge) (nc : Nat) : Nat := iv (Can H) (bw (TG H nc) (2 ^ nc - 1) 0)
theorem OW_t {H : List Edge} (hc : Can H) {nc a b : Nat} (h8 : nc ≤ 8) (ha : a < nc) (hb : b < nc) : OW ((2 + 2 * a, true, 2 + 2 * b) :: H) nc = bw (T1 (TG H nc) a b) (2 ^ nc - 1) 0 := by
  have e : bw (T1 (TG H nc) a b) (2 ^ nc - 1) 0 = bw (TG ((2 + 2 * a, true, 2 + 2 * b) :: H) nc) (2 ^ nc - 1) 0 :=
    bw_agree ((TG_Gr H h8).up.t1 a b) (TG_Gr _ h8).up (2 ^ nc - 1) (fun C => C.testBit b = true → C.testBit a = true) (fun C C' hP => TG_t ha hb hP) (fun C C' hP z q => by
      by_cases y : C.testBit b = true
      · exact z.1.1 a (hP y)
      · exact z.1.1 a (z.2 q (bf_of y))) 0 (by omega) (fun q => by simp at q)
  unfold OW
  by_cases z : Can ((2 + 2 * a, true, 2 + 2 * b) :: H)
  · rw [iv_t z, e]
  · rw [iv_f z, e]
    have r : Rq H (2 + 2 * b) (2 + 2 * a) := Classical.byContradiction (fun q => z ((Can_t hc).mpr q))
    exact (TG_none h8 hb (Sq_cons_t.mpr (Or.inr ⟨r, Rq.rf _ _⟩))).symm
theorem OW_f {H : List Edge} (hc : Can H) {nc a b : Nat} (h8 : nc ≤ 8) (ha : a < nc) (hb : b < nc) : OW ((2 + 2 * b, false, 2 + 2 * a) :: (2 + 2 * a, false, 2 + 2 * b) :: H) nc = bw (T3 (TG H nc) a b) (2 ^ nc - 1) 0 := by
  have e : bw (T3 (TG H nc) a b) (2 ^ nc - 1) 0 = bw (TG ((2 + 2 * b, false, 2 + 2 * a) :: (2 + 2 * a, false, 2 + 2 * b) :: H) nc) (2 ^ nc - 1) 0 :=
    bw_agree ((TG_Gr H h8).up.t3 a b) (TG_Gr _ h8).up (2 ^ nc - 1) (fun C => C.testBit a = true ↔ C.testBit b = true) (fun C C' hP => TG_f ha hb hP) (fun C C' hP z => by
      constructor
      · intro q
        by_cases y : C.testBit a = true
        · exact z.1.1 b (hP.mp y)
        · exact (z.2.mp ⟨q, bf_of y⟩).1
      · intro q
        by_cases y : C.testBit b = true
        · exact z.1.1 a (hP.mpr y)
        · exact (z.2.mpr ⟨q, bf_of y⟩).1) 0 (by omega) (by simp)
  unfold OW
  by_cases z : Can ((2 + 2 * b, false, 2 + 2 * a) :: (2 + 2 * a, false, 2 + 2 * b) :: H)
  · rw [iv_t z, e]
  · rw [iv_f z, e]
    have hs : ∀ e, e ∈ H → e ∈ (2 + 2 * b, false, 2 + 2 * a) :: (2 + 2 * a, false, 2 + 2 * b) :: H := fun e h => List.mem_cons_of_mem _ (List.mem_cons_of_mem _ h)
    have epq : Rq ((2 + 2 * b, false, 2 + 2 * a) :: (2 + 2 * a, false, 2 + 2 * b) :: H) (2 + 2 * a) (2 + 2 * b) := Rq.ed (b := false) (List.mem_cons_of_mem _ (List.mem_cons_self ..))
    have eqp : Rq ((2 + 2 * b, false, 2 + 2 * a) :: (2 + 2 * a, false, 2 + 2 * b) :: H) (2 + 2 * b) (2 + 2 * a) := Rq.ed (b := false) (List.mem_cons_self ..)
    have z2 : ¬ (¬ Sq H (2 + 2 * a) (2 + 2 * b) ∧ ¬ Sq H (2 + 2 * b) (2 + 2 * a)) := fun q => z ((Can_f hc).mpr q)
    by_cases q : Sq H (2 + 2 * a) (2 + 2 * b)
    · exact (TG_none h8 ha ((q.mono hs).r eqp)).symm
    · have q2 : Sq H (2 + 2 * b) (2 + 2 * a) := Classical.byContradiction (fun y => z2 ⟨q, y⟩)
      exact (TG_none h8 hb ((q2.mono hs).r epq)).symm
/-- ways on, by states that stand for others -/
theorem bw_map {T T' : Nat → Nat → Prop} (hT : Up T) (hT' : Up T') {w w' : Nat} (φ : Nat → Nat) (P : Nat → Prop) (h0 : ∀ C, P C → (C = w ↔ φ C = w')) (h1 : ∀ C, P C → φ C < 256) (h2 : ∀ C C', P C → T C C' → P C' ∧ T' (φ C) (φ C')) (h3 : ∀ C D, P C → T' (φ C) D → ∃ C', T C C' ∧ φ C' = D) (h4 : ∀ C C', P C → P C' → φ C = φ C' → C = C') : ∀ C, C < 256 → P C → bw T w C = bw T' w' (φ C) := by
  have key : ∀ d C, 256 - C ≤ d → C < 256 → P C → bw T w C = bw T' w' (φ C) := by
    intro d
    induction d with
    | zero => intro C a b; omega
    | succ d ih =>
      intro C a b hp
      rw [bw_eq hT w b, bw_eq hT' w' (h1 C hp), iv_iff (h0 C hp)]
      refine congrArg (HAdd.hAdd _) (Eq.symm ?_)
      have hex : ∀ D, ∃ C', T' (φ C) D → (T C C' ∧ φ C' = D) := fun D => by
        by_cases z : T' (φ C) D
        · obtain ⟨C', q⟩ := h3 C D hp z
          exact ⟨C', fun _ => q⟩
        · exact ⟨0, fun y => absurd y z⟩
      refine sm_bij (φ := φ) (ψ := fun D => Classical.choose (hex D)) (fun C' hC' z => ?_) (fun D hD z => ?_) (fun C' hC' z => ?_)
      · obtain ⟨p', t'⟩ := h2 C C' hp z
        obtain ⟨t1, t2⟩ := Classical.choose_spec (hex (φ C')) t'
        exact ⟨(hT' _ _ t').2, t', h4 _ _ (h2 C _ hp t1).1 p' t2⟩
      · obtain ⟨t1, t2⟩ := Classical.choose_spec (hex D) z
        exact ⟨(hT _ _ t1).2, t1, t2⟩
      · have := hT _ _ z
        exact (ih C' (by omega) hC' (h2 C C' hp z).1).symm
  intro C hC hp
  exact key 256 C (by omega) hC hp
/-- a state that has all that is not behind -/
def Cl (H : List Edge) (nc C : Nat) : Prop := C < 2 ^ nc ∧ ∀ x y, x < nc → y < nc → Rq H (2 + 2 * x) (2 + 2 * y) → C.testBit y = true → C.testBit x = true
theorem Cl_0 (H : List Edge) (nc : Nat) : Cl H nc 0 := ⟨Nat.two_pow_pos nc, fun x y _ _ _ h => by simp at h⟩
theorem TG_Cl {H : List Edge} {nc C C' : Nat} (h : TG H nc C C') : Cl H nc C' := ⟨h.2.2.1, fun x y hx hy r => (h.2.2.2.1 x y hx hy r).2⟩
theorem bit_lt {nc C i : Nat} (h : C < 2 ^ nc) (hi : C.testBit i = true) : i < nc := Nat.lt_of_not_le (fun z => by rw [tb_out2 h z] at hi; exact absurd hi (by decide))
theorem low_low {H : List Edge} {nc : Nat} {low bf : Nat → Nat} {U : Nat} (hD : TD H nc low bf U) {c : Nat} (hc : c < nc) : low c < nc ∧ U.testBit (low c) = true ∧ low (low c) = low c ∧ Eqq H (low c) c := by
  have h1 := hD.2.1 c hc
  have hl : low c < nc := by have := h1.1; omega
  exact ⟨hl, (hD.2.2.1 (low c)).mpr ⟨c, hc, rfl⟩, (hD.2.1 (low c) hl).eq h1 h1.2.1, h1.2.1⟩
theorem U_low {H : List Edge} {nc : Nat} {low bf : Nat → Nat} {U : Nat} (hD : TD H nc low bf U) {i : Nat} (hi : U.testBit i = true) : i < nc ∧ low i = i := by
  obtain ⟨c, hc, rfl⟩ := (hD.2.2.1 i).mp hi
  have := low_low hD hc
  exact ⟨this.1, this.2.2.1⟩
theorem Cl_low {H : List Edge} {nc : Nat} {low bf : Nat → Nat} {U : Nat} (hD : TD H nc low bf U) {C : Nat} (hC : Cl H nc C) {c : Nat} (hc : c < nc) : C.testBit c = true ↔ (C &&& U).testBit (low c) = true := by
  obtain ⟨l1, l2, l3, l4⟩ := low_low hD hc
  rw [Nat.testBit_and, l2, Bool.and_true]
  exact ⟨fun z => hC.2 _ _ l1 hc l4.1 z, fun z => hC.2 _ _ hc l1 l4.2 z⟩
theorem Cl_inj {H : List Edge} {nc : Nat} {low bf : Nat → Nat} {U : Nat} (hD : TD H nc low bf U) {C C' : Nat} (hC : Cl H nc C) (hC' : Cl H nc C') (e : C &&& U = C' &&& U) : C = C' := by
  apply Nat.eq_of_testBit_eq
  intro i
  by_cases hi : i < nc
  · have a := Cl_low hD hC hi
    have b := Cl_low hD hC' hi
    rw [e, ← b] at a
    cases u : C.testBit i <;> cases v : C'.testBit i
    · rfl
    · rw [u, v] at a; exact absurd (a.mpr rfl) (by decide)
    · rw [u, v] at a; exact absurd (a.mp rfl) (by decide)
    · rfl
  · rw [tb_out2 hC.1 (by omega), tb_out2 hC'.1 (by omega)]
theorem ne_bit {C C' : Nat} (hs : Sub C C') (hn : C ≠ C') : ∃ i, C'.testBit i = true ∧ C.testBit i = false := by
  refine Classical.byContradiction (fun h => hn (Nat.eq_of_testBit_eq (fun i => ?_)))
  cases u : C.testBit i <;> cases v : C'.testBit i
  · rfl
  · exact absurd ⟨i, v, u⟩ h
  · rw [hs i u] at v; exact absurd v (by decide)
  · rfl
theorem xor_b {C C' : Nat} (hs : Sub C C') (i : Nat) : (C' ^^^ C).testBit i = true ↔ (C'.testBit i = true ∧ C.testBit i = false) := by
  rw [Nat.testBit_xor]
  cases u : C.testBit i <;> cases v : C'.testBit i
  · simp
  · simp
  · rw [hs i u] at v; exact absurd v (by decide)
  · simp
theorem or_xor2 {C C' : Nat} (hs : Sub C C') : C' = C ||| (C' ^^^ C) := by
  apply Nat.eq_of_testBit_eq
  intro i
  rw [Nat.testBit_or, Nat.testBit_xor]
  cases u : C.testBit i <;> cases v : C'.testBit i
  · rfl
  · rfl
  · rw [hs i u] at v; exact absurd v (by decide)
  · rfl
theorem TG_TT8 {H : List Edge} {nc : Nat} {low bf : Nat → Nat} {U : Nat} (hD : TD H nc low bf U) {C C' : Nat} (hC : Cl H nc C) (h : TG H nc C C') : TT8 U bf (C &&& U) (C' &&& U) := by
  have hU := hD.1
  have hC' := TG_Cl h
  have hsub : Sub (C &&& U) (C' &&& U) := fun i hi => by
    rw [Nat.testBit_and, Bool.and_eq_true] at hi ⊢
    exact ⟨h.1 i hi.1, hi.2⟩
  have hne : C &&& U ≠ C' &&& U := fun e => h.2.1 (Cl_inj hD hC hC' e)
  have l1 : C &&& U < 256 := Nat.lt_of_le_of_lt Nat.and_le_right hU
  have l2 : C' &&& U < 256 := Nat.lt_of_le_of_lt Nat.and_le_right hU
  refine ⟨fun i hi => ?_, l1, (C' &&& U) ^^^ (C &&& U), fun e => ?_, Nat.xor_lt_two_pow (n := 8) l2 l1, fun i hi => ?_, or_xor2 hsub⟩
  · rw [Nat.testBit_and, Bool.and_eq_true] at hi
    exact hi.2
  · obtain ⟨i, hi⟩ := ne_bit hsub hne
    have := (xor_b hsub i).mpr hi
    rw [e] at this
    simp at this
  · obtain ⟨q1, q2⟩ := (xor_b hsub i).mp hi
    rw [Nat.testBit_and, Bool.and_eq_true] at q1
    obtain ⟨i1, i2⟩ := U_low hD q1.2
    refine ⟨q1.2, q2, fun d hd => ?_⟩
    obtain ⟨d1, d2⟩ := (hD.2.2.2.2 i i1 d).mp hd
    obtain ⟨d3, _⟩ := U_low hD d1
    rw [Nat.testBit_and, d1, Bool.and_true]
    refine h.2.2.2.2 d i d3 i1 d2 q1.1 (bf_of (fun z => ?_))
    rw [Nat.testBit_and, z, q1.2] at q2
    exact absurd q2 (by decide)
theorem TT8_TG {H : List Edge} {nc : Nat} (h8 : nc ≤ 8) (hs : SymE H (1 + 2 * nc)) {low bf : Nat → Nat} {U : Nat} (hD : TD H nc low bf U) {C D : Nat} (hC : Cl H nc C) (h : TT8 U bf (C &&& U) D) : ∃ C', TG H nc C C' ∧ C' &&& U = D := by
  have hU := hD.1
  obtain ⟨hsub, hne, hD8, hDU⟩ := TT8_Gr hU bf _ _ h
  obtain ⟨_, _, s, s1, s2, s3, rfl⟩ := h
  obtain ⟨C', c1, c2⟩ := mask_n (fun c => ((C &&& U) ||| s).testBit (low c) = true) nc
  have c3 : ∀ c, c < nc → (C'.testBit c = true ↔ ((C &&& U) ||| s).testBit (low c) = true) := c2
  -- what is told of the lowest
  have st : ∀ x y, x < nc → y < nc → Sq H (2 + 2 * x) (2 + 2 * y) → s.testBit (low y) = true → C.testBit x = true := by
    intro x y hx hy r q
    obtain ⟨x1, x2, x3, x4⟩ := low_low hD hx
    obtain ⟨y1, y2, y3, y4⟩ := low_low hD hy
    have r' : Ltq H (low x) (low y) := Sq.l x4.1 (r.r y4.2)
    have hb := (hD.2.2.2.2 (low y) y1 (low x)).mpr ⟨x2, r'⟩
    exact (Cl_low hD hC hx).mpr ((s3 _ q).2.2 _ hb)
  have inC : ∀ y, y < nc → C'.testBit y = true → C.testBit y = false → s.testBit (low y) = true := by
    intro y hy q1 q2
    have := (c3 y hy).mp q1
    rw [Nat.testBit_or, Bool.or_eq_true] at this
    rcases this with z | z
    · exact bf_no q2 ((Cl_low hD hC hy).mpr z)
    · exact z
  have hCC' : Sub C C' := fun i hi => by
    have hi' := bit_lt hC.1 hi
    rw [c3 i hi', Nat.testBit_or, (Cl_low hD hC hi').mp hi]
    rfl
  refine ⟨C', ⟨hCC', fun e => ?_, c1, fun x y hx hy r => ⟨hC.2 x y hx hy r, fun q => ?_⟩, fun x y hx hy r q1 q2 => st x y hx hy r (inC y hy q1 q2)⟩, ?_⟩
  · obtain ⟨i, i1, i2⟩ := ne_bit hsub hne
    obtain ⟨j1, j2⟩ := U_low hD (hDU i i1)
    have q : C'.testBit i = true := (c3 i j1).mpr (by rw [j2]; exact i1)
    rw [← e, Cl_low hD hC j1, j2, i2] at q
    exact absurd q (by decide)
  · by_cases z : C.testBit y = true
    · exact hCC' x (hC.2 x y hx hy r z)
    · have q2 := inC y hy q (bf_of z)
      by_cases w : Sq H (2 + 2 * x) (2 + 2 * y)
      · exact hCC' x (st x y hx hy w q2)
      · have e : Eqq H x y := ⟨r, hs _ _ (by omega) (by omega) r w⟩
        have el : low x = low y := (hD.2.1 x hx).eq (hD.2.1 y hy) e
        rw [c3 x hx, el]
        exact (c3 y hy).mp q
  · apply Nat.eq_of_testBit_eq
    intro i
    rw [Nat.testBit_and]
    by_cases hi : U.testBit i = true
    · obtain ⟨j1, j2⟩ := U_low hD hi
      have q := c3 i j1
      rw [j2] at q
      rw [hi, Bool.and_true]
      cases u : C'.testBit i <;> cases v : ((C &&& U) ||| s).testBit i
      · rfl
      · rw [u, v] at q; exact absurd (q.mpr rfl) (by decide)
      · rw [u, v] at q; exact absurd (q.mp rfl) (by decide)
      · rfl
    · rw [bf_of hi, Bool.and_false]
      exact (bf_of (fun z => hi (hDU i z))).symm
/-- ways of the events are ways of the lowest of them -/
theorem bw_low {H : List Edge} {nc : Nat} (h8 : nc ≤ 8) (hs : SymE H (1 + 2 * nc)) {low bf : Nat → Nat} {U : Nat} (hD : TD H nc low bf U) (E E' : Nat → Nat → Prop) (hE : ∀ C C', Cl H nc C → Cl H nc C' → (E C C' ↔ E' (C &&& U) (C' &&& U))) :
    bw (fun C C' => TG H nc C C' ∧ E C C') (2 ^ nc - 1) 0 = bw (fun g g' => TT8 U bf g g' ∧ E' g g') U 0 := by
  have hU := hD.1
  have hW : Cl H nc (2 ^ nc - 1) := ⟨by have := Nat.two_pow_pos nc; omega, fun x y hx _ _ _ => (whole_b nc x).mpr hx⟩
  have hWU : (2 ^ nc - 1) &&& U = U := by
    apply Nat.eq_of_testBit_eq
    intro i
    rw [Nat.testBit_and]
    cases u : U.testBit i
    · rw [Bool.and_false]
    · rw [(whole_b nc i).mpr (U_low hD u).1]; rfl
  have := bw_map (T := fun C C' => TG H nc C C' ∧ E C C') (T' := fun g g' => TT8 U bf g g' ∧ E' g g') (w := 2 ^ nc - 1) (w' := U) (fun C C' z => (TG_Gr H h8).up C C' z.1) (fun C C' z => (TT8_Gr hU bf).up C C' z.1) (fun C => C &&& U) (Cl H nc) (fun C hC => ⟨fun e => by rw [e]; exact hWU, fun e => Cl_inj hD hC hW (by rw [hWU]; exact e)⟩) (fun C _ => Nat.lt_of_le_of_lt Nat.and_le_right hU) (fun C C' hC z => ⟨TG_Cl z.1, TG_TT8 hD hC z.1, (hE C C' hC (TG_Cl z.1)).mp z.2⟩) (fun C D hC z => by
    obtain ⟨C', q1, q2⟩ := TT8_TG h8 hs hD hC z.1
    exact ⟨C', ⟨q1, (hE C C' hC (TG_Cl q1)).mpr (by rw [q2]; exact z.2)⟩, q2⟩) (fun C C' => Cl_inj hD) 0 (by omega) (Cl_0 H nc)
  rw [this, Nat.zero_and]
theorem bit_iff {P : Prop} {a b : Bool} (h : a = true ↔ b = true) : a = b := by
  cases a <;> cases b
  · rfl
  · exact absurd (h.mpr rfl) (by decide)
  · exact absurd (h.mp rfl) (by decide)
  · rfl
theorem low_0 {H : List Edge} {nc : Nat} (h8 : nc ≤ 8) (hs : SymE H (1 + 2 * nc)) {low bf : Nat → Nat} {U : Nat} (hD : TD H nc low bf U) : bw (TG H nc) (2 ^ nc - 1) 0 = bw (TT8 U bf) U 0 := by
  have := bw_low h8 hs hD (fun _ _ => True) (fun _ _ => True) (fun _ _ _ _ => Iff.rfl)
  have e1 : (fun C C' => TG H nc C C' ∧ True) = TG H nc := by funext C C'; exact propext (and_iff_left trivial)
  have e2 : (fun C C' => TT8 U bf C C' ∧ True) = TT8 U bf := by funext C C'; exact propext (and_iff_left trivial)
  rw [e1, e2] at this
  exact this
theorem low_1 {H : List Edge} {nc : Nat} (h8 : nc ≤ 8) (hs : SymE H (1 + 2 * nc)) {low bf : Nat → Nat} {U : Nat} (hD : TD H nc low bf U) {a b : Nat} (ha : a < nc) (hb : b < nc) : bw (T1 (TG H nc) a b) (2 ^ nc - 1) 0 = bw (T1 (TT8 U bf) (low a) (low b)) U 0 :=
  bw_low h8 hs hD (fun C C' => C'.testBit b = true → C.testBit b = false → C.testBit a = true) (fun C C' => C'.testBit (low b) = true → C.testBit (low b) = false → C.testBit (low a) = true) (fun C C' hC hC' => by
    rw [bit_iff (P := True) (Cl_low hD hC ha), bit_iff (P := True) (Cl_low hD hC hb), bit_iff (P := True) (Cl_low hD hC' hb)])
theorem low_3 {H : List Edge} {nc : Nat} (h8 : nc ≤ 8) (hs : SymE H (1 + 2 * nc)) {low bf : Nat → Nat} {U : Nat} (hD : TD H nc low bf U) {a b : Nat} (ha : a < nc) (hb : b < nc) : bw (T3 (TG H nc) a b) (2 ^ nc - 1) 0 = bw (T3 (TT8 U bf) (low a) (low b)) U 0 :=
  bw_low h8 hs hD (fun C C' => (C'.testBit a = true ∧ C.testBit a = false) ↔ (C'.testBit b = true ∧ C.testBit b = false)) (fun C C' => (C'.testBit (low a) = true ∧ C.testBit (low a) = false) ↔ (C'.testBit (low b) = true ∧ C.testBit (low b) = false)) (fun C C' hC hC' => by
    rw [bit_iff (P := True) (Cl_low hD hC ha), bit_iff (P := True) (Cl_low hD hC hb), bit_iff (P := True) (Cl_low hD hC' ha), bit_iff (P := True) (Cl_low hD hC' hb)])
