/-! ===== 10 the models, purely: Ok, places, what a telling is, the invariant ===== -/
/-- a model answers, and its answer is so -/
def Ok {α : Type} (m : Option α) (Q : α → Prop) : Prop := ∃ v, m = some v ∧ Q v
theorem Ok.pure {α : Type} {Q : α → Prop} {v : α} (h : Q v) : Ok (some v) Q := ⟨v, rfl, h⟩
theorem Ok.bind {α β : Type} {m : Option α} {f : α → Option β} {P : α → Prop} {Q : β → Prop} (h : Ok m P) (k : ∀ v, P v → Ok (f v) Q) : Ok (m.bind f) Q := by
  obtain ⟨v, rfl, hp⟩ := h
  exact k v hp
theorem Ok.mono {α : Type} {m : Option α} {P Q : α → Prop} (h : Ok m P) (k : ∀ v, P v → Q v) : Ok m Q := by
  obtain ⟨v, e, hp⟩ := h
  exact ⟨v, e, k v hp⟩
theorem Ok.ite {α : Type} {c : Prop} {d : Decidable c} {A B : Option α} {Q : α → Prop} (ht : c → Ok A Q) (hf : ¬ c → Ok B Q) : Ok (@ite _ c d A B) Q := by
  by_cases h : c
  · rw [if_pos h]; exact ht h
  · rw [if_neg h]; exact hf h
theorem Ok.eq {α : Type} {m : Option α} {v : α} (h : m = some v) : Ok m (fun x => x = v) := ⟨v, h, rfl⟩
/-- a loop that goes up: x from its start to B; what it leaves by an invariant -/
theorem up_loop {σ : Type} {ρ : Type} (L : Nat → Int32 → σ → Option ρ) (B : Nat) (I : Nat → σ → Prop) (Q : ρ → Prop)
    (hend : ∀ n s, I B s → Ok (L (n + 1) (nI B) s) Q)
    (hstep : ∀ n x s, x < B → I x s → (∀ s', I (x + 1) s' → Ok (L n (nI (x + 1)) s') Q) → Ok (L (n + 1) (nI x) s) Q) :
    ∀ n x s, x ≤ B → B - x < n → I x s → Ok (L n (nI x) s) Q := by
  intro n
  induction n with
  | zero => intro x s _ h; omega
  | succ n ih =>
    intro x s hx hn hI
    by_cases hB : x = B
    · subst hB; exact hend n s hI
    · exact hstep n x s (by omega) hI (fun s' h' => ih (x + 1) s' (by omega) (by omega) h')
theorem fa_lit (n : Nat) : (OfNat.ofNat n : Int32) = nI n := rfl
theorem fa_lt (a b : Int32) : a < b ↔ a.toInt < b.toInt := Int32.lt_iff_toInt_lt
theorem fa_le (a b : Int32) : a ≤ b ↔ a.toInt ≤ b.toInt := Int32.le_iff_toInt_le
theorem fa_eq (a b : Int32) : a = b ↔ a.toInt = b.toInt := Int32.toInt_inj.symm
theorem ald_nI {n k j : Nat} {G : Mem} (h : j < n) (hn : n < 2147483648) : ald n G k (nI j) = some (G k j) := by
  unfold ald
  rw [if_neg (nI_in h hn), nI_clamp (by omega)]
theorem ast_nI {n k j : Nat} {G : Mem} {x : Int32} (h : j < n) (hn : n < 2147483648) : ast n G k (nI j) x = some (upm G k j x) := by
  unfold ast
  rw [if_neg (nI_in h hn), nI_clamp (by omega)]
theorem aal_nI {n b j : Nat} (h : j < n) (hn : n < 2147483648) : aal n b (nI j) = some (b + j) := by
  unfold aal
  rw [if_neg (nI_in h hn), nI_clamp (by omega)]
theorem upm_k (G : Mem) (k j : Nat) (x : Int32) : upm G k j x k = upd (G k) j x := if_pos rfl
theorem upm_n (G : Mem) {k k' : Nat} (j : Nat) (x : Int32) (h : k' ≠ k) : upm G k j x k' = G k' := if_neg h
theorem upm_kj (G : Mem) (k j : Nat) (x : Int32) : upm G k j x k j = x := by rw [upm_k]; exact if_pos rfl
theorem upm_kn (G : Mem) (k : Nat) {j j' : Nat} (x : Int32) (h : j' ≠ j) : upm G k j x k j' = G k j' := by rw [upm_k]; exact if_neg h
theorem m9_ne {n : Nat} (h : n < 2147483648) : ¬ nI n = (-9 : Int32) := by
  rw [fa_eq, nI_toInt h]
  intro e
  have : ((-9 : Int32)).toInt = -9 := by decide
  omega
theorem NF_big {a : Nat} (h : a < 100000) : a < NF := h
/-- what is told: ((clauses, statements), tenses, links, and of each statement its clause (9: a saying), first time, sign, second time) -/
abbrev Told : Type := (Nat × Nat) × (Nat → Nat) × (Nat → Nat) × (Nat → Nat) × (Nat → Nat) × (Nat → Nat) × (Nat → Nat)
def Told.nc (A : Told) : Nat := A.1.1
def Told.ns (A : Told) : Nat := A.1.2
def Told.ten (A : Told) : Nat → Nat := A.2.1
def Told.lnk (A : Told) : Nat → Nat := A.2.2.1
def Told.cl (A : Told) : Nat → Nat := A.2.2.2.1
def Told.fi (A : Told) : Nat → Nat := A.2.2.2.2.1
def Told.sg (A : Told) : Nat → Nat := A.2.2.2.2.2.1
def Told.se (A : Told) : Nat → Nat := A.2.2.2.2.2.2
def Told.lkI (A : Told) (c : Nat) : Int32 := if c = 0 then -9 else nI (A.lnk c)
def Told.clI (A : Told) (k : Nat) : Int32 := if A.cl k = 9 then -9 else nI (A.cl k)
def Told.fiI (A : Told) (k : Nat) : Int32 := if A.cl k = 9 then nI (A.fi k) else -9
def Told.sgI (A : Told) (k : Nat) : Int32 := if A.cl k = 9 then nI (A.sg k) else -9
def Told.seI (A : Told) (k : Nat) : Int32 := if A.cl k = 9 then nI (A.se k) else -9
/-- the class's row -/
def RowC (A : Told) (R : Nat → Int32) : Prop := (R 0 = nI A.nc ∧ R 1 = nI A.ns) ∧ (∀ c, c < A.nc → R (2 + c) = nI (A.ten c) ∧ R (10 + c) = A.lkI c) ∧ (∀ k, k < A.ns → R (18 + k) = A.clI k ∧ R (32 + k) = A.fiI k ∧ R (46 + k) = A.sgI k ∧ R (60 + k) = A.seI k)
/-- the reference's row -/
def RowR (A : Told) (S : Nat → Int32) : Prop := (S 0 = nI A.nc ∧ S 1 = nI A.ns) ∧ (∀ c, c < A.nc → S (2 + 2 * c) = nI (A.ten c) ∧ S (3 + 2 * c) = A.lkI c) ∧ (∀ k, k < A.ns → S (18 + 4 * k) = A.clI k ∧ S (19 + 4 * k) = A.fiI k ∧ S (20 + 4 * k) = A.sgI k ∧ S (21 + 4 * k) = A.seI k)
def Said (A : Told) (k : Nat) : Prop := A.fi k ≤ 2 * A.nc ∧ A.se k ≤ 2 * A.nc ∧ A.fi k % 2 = 0 ∧ A.se k % 2 = 0 ∧ A.fi k ≠ A.se k ∧ A.sg k < 2
def WF (A : Told) : Prop := (A.nc ≤ 8 ∧ A.nc ≤ A.ns ∧ A.ns ≤ A.nc + 6) ∧ (∀ c, c < A.nc → A.ten c < 8 ∧ A.lnk c < 4) ∧ (∀ k, k < A.ns → A.cl k = 9 → Said A k) ∧ (∀ k, k < A.ns → A.cl k ≠ 9 → A.cl k < A.nc) ∧ (∀ c, c < A.nc → ∃ k, k < A.ns ∧ A.cl k = c) ∧ (∀ k k', k < A.ns → k' < A.ns → A.cl k = A.cl k' → A.cl k ≠ 9 → k = k')
theorem WF.ns14 {A : Told} (h : WF A) : A.ns ≤ 14 := by have := h.1; omega
theorem RowC.congr {A : Told} (h : WF A) {R R' : Nat → Int32} (e : ∀ j, j < 74 → R' j = R j) (hR : RowC A R) : RowC A R' := by
  have h1 := h.1
  refine ⟨⟨by rw [e 0 (by omega)]; exact hR.1.1, by rw [e 1 (by omega)]; exact hR.1.2⟩, fun c hc => ?_, fun k hk => ?_⟩
  · rw [e _ (by omega), e _ (by omega)]; exact hR.2.1 c hc
  · rw [e _ (by omega), e _ (by omega), e _ (by omega), e _ (by omega)]; exact hR.2.2 k hk
theorem RowR.congr {A : Told} (h : WF A) {R R' : Nat → Int32} (e : ∀ j, j < 74 → R' j = R j) (hR : RowR A R) : RowR A R' := by
  have h1 := h.1
  refine ⟨⟨by rw [e 0 (by omega)]; exact hR.1.1, by rw [e 1 (by omega)]; exact hR.1.2⟩, fun c hc => ?_, fun k hk => ?_⟩
  · rw [e _ (by omega), e _ (by omega)]; exact hR.2.1 c hc
  · rw [e _ (by omega), e _ (by omega), e _ (by omega), e _ (by omega)]; exact hR.2.2 k hk
/-- two rows that tell the same, of nc clauses -/
def Pair (nc : Nat) (R S : Nat → Int32) : Prop := ∃ A : Told, WF A ∧ A.nc = nc ∧ RowC A R ∧ RowR A S
theorem Pair.congr {nc : Nat} {R R' S S' : Nat → Int32} (e : ∀ j, j < 74 → R' j = R j) (e2 : ∀ j, j < 74 → S' j = S j) (h : Pair nc R S) : Pair nc R' S' := by
  obtain ⟨A, h1, h2, h3, h4⟩ := h
  exact ⟨A, h1, h2, h3.congr h1 e, h4.congr h1 e2⟩
def TextOk (G : Mem) : Prop := ∃ nt, nt ≤ 80 ∧ G 5 1 = nI nt ∧ G 81 11 = nI nt ∧ ∀ i, i < nt → ∃ v, v < 256 ∧ G 6 i = nI v ∧ G 90 i = nI v
def PastOk (nc : Nat) (G : Mem) : Prop := ∃ nx nu, nx < 10 ∧ nu ≤ 10 ∧ G 7 1 = nI nx ∧ G 7 2 = nI nu ∧ G 81 4 = nI nu ∧ ∀ j, j < nu → Pair nc (G (9 + (nx + 9 - j) % 10)) (fun i => G 84 (74 * (nu - 1 - j) + i))
def ImgOk (nc : Nat) (G : Mem) : Prop := ∃ kb, kb < 4 ∧ G 19 1 = nI kb ∧ ∀ i, i < 2 → G 86 i = (if kb.testBit i then 1 else 0) ∧ (kb.testBit i = true → Pair nc (G (21 + i)) (fun j => G 85 (74 * i + j)))
def SeenOk (nc : Nat) (G : Mem) : Prop := ∃ nz, nz ≤ 6 ∧ G 23 3 = nI nz ∧ G 81 7 = nI nz ∧ ∀ i, i < nz → ∃ p q r, p ≤ 2 * nc ∧ q ≤ 2 * nc ∧ r ≤ 4 ∧ G 24 i = nI p ∧ G 25 i = nI q ∧ G 26 i = nI r ∧ G 87 i = nI p ∧ G 88 i = nI q ∧ G 89 i = nI r
/-- THE INVARIANT: class and reference hold the same -/
def Inv (G : Mem) : Prop := ∃ nc, Pair nc (G 2) (G 82) ∧ TextOk G ∧ PastOk nc G ∧ ImgOk nc G ∧ SeenOk nc G
theorem Inv_0 : Inv G0 := by
  refine ⟨0, ⟨((0, 0), fun _ => 0, fun _ => 0, fun _ => 0, fun _ => 0, fun _ => 0, fun _ => 0), ?_, rfl, ?_, ?_⟩, ⟨0, by omega, rfl, rfl, fun i h => absurd h (by omega)⟩, ⟨0, 0, by omega, by omega, rfl, rfl, rfl, fun i h => absurd h (by omega)⟩, ⟨0, by omega, rfl, fun i _ => ⟨by simp [G0], fun h => by simp at h⟩⟩, ⟨0, by omega, rfl, rfl, fun i h => absurd h (by omega)⟩⟩
  · refine ⟨⟨Nat.zero_le _, Nat.zero_le _, Nat.zero_le _⟩, fun c h => absurd h (Nat.not_lt_zero c), fun c h => absurd h (Nat.not_lt_zero c), fun c h => absurd h (Nat.not_lt_zero c), fun c h => absurd h (Nat.not_lt_zero c), fun c _ h => absurd h (Nat.not_lt_zero c)⟩
  · exact ⟨⟨rfl, rfl⟩, fun c h => absurd h (Nat.not_lt_zero c), fun c h => absurd h (Nat.not_lt_zero c)⟩
  · exact ⟨⟨rfl, rfl⟩, fun c h => absurd h (Nat.not_lt_zero c), fun c h => absurd h (Nat.not_lt_zero c)⟩
/-- cells (and places) that the invariant reads -/
def Keeps (G G' : Mem) : Prop := G' 2 = G 2 ∧ G' 5 1 = G 5 1 ∧ G' 6 = G 6 ∧ G' 7 = G 7 ∧ (∀ k, 9 ≤ k → k < 19 → G' k = G k) ∧ G' 19 = G 19 ∧ G' 21 = G 21 ∧ G' 22 = G 22 ∧ G' 23 = G 23 ∧ G' 24 = G 24 ∧ G' 25 = G 25 ∧ G' 26 = G 26 ∧ G' 81 4 = G 81 4 ∧ G' 81 7 = G 81 7 ∧ G' 81 11 = G 81 11 ∧ G' 82 = G 82 ∧ (∀ k, 84 ≤ k → k < 91 → G' k = G k)
theorem Keeps.rf (G : Mem) : Keeps G G := ⟨rfl, rfl, rfl, rfl, fun _ _ _ => rfl, rfl, rfl, rfl, rfl, rfl, rfl, rfl, rfl, rfl, rfl, rfl, fun _ _ _ => rfl⟩
theorem Keeps.tr {G G' G'' : Mem} (h : Keeps G G') (h' : Keeps G' G'') : Keeps G G'' := by
  obtain ⟨a1, a2, a3, a4, a5, a6, a7, a8, a9, b1, b2, b3, b4, b5, b6, b7, b8⟩ := h
  obtain ⟨c1, c2, c3, c4, c5, c6, c7, c8, c9, d1, d2, d3, d4, d5, d6, d7, d8⟩ := h'
  exact ⟨c1.trans a1, c2.trans a2, c3.trans a3, c4.trans a4, fun k x y => (c5 k x y).trans (a5 k x y), c6.trans a6, c7.trans a7, c8.trans a8, c9.trans a9, d1.trans b1, d2.trans b2, d3.trans b3, d4.trans b4, d5.trans b5, d6.trans b6, d7.trans b7, fun k x y => (d8 k x y).trans (b8 k x y)⟩
theorem Inv.keeps {G G' : Mem} (hI : Inv G) (h : Keeps G G') : Inv G' := by
  obtain ⟨nc, hp, ht, hu, hi, hz⟩ := hI
  obtain ⟨a1, a2, a3, a4, a5, a6, a7, a8, a9, b1, b2, b3, b4, b5, b6, b7, b8⟩ := h
  have e84 := b8 84 (by omega) (by omega)
  have e85 := b8 85 (by omega) (by omega)
  have e86 := b8 86 (by omega) (by omega)
  have e87 := b8 87 (by omega) (by omega)
  have e88 := b8 88 (by omega) (by omega)
  have e89 := b8 89 (by omega) (by omega)
  have e90 := b8 90 (by omega) (by omega)
  refine ⟨nc, by rw [a1, b7]; exact hp, ?_, ?_, ?_, ?_⟩
  · unfold TextOk at ht ⊢; rw [a2, b6, a3, e90]; exact ht
  · obtain ⟨nx, nu, h1, h2, h3, h4, h5, h6⟩ := hu
    refine ⟨nx, nu, h1, h2, by rw [a4]; exact h3, by rw [a4]; exact h4, by rw [b4]; exact h5, fun j hj => ?_⟩
    rw [a5 _ (by omega) (by omega), e84]
    exact h6 j hj
  · obtain ⟨kb, h1, h2, h3⟩ := hi
    refine ⟨kb, h1, by rw [a6]; exact h2, fun i hi => ?_⟩
    rw [e86, e85]
    have h4 := h3 i hi
    rcases (show i = 0 ∨ i = 1 by omega) with rfl | rfl
    · rw [show 21 + 0 = 21 from rfl, a7]; exact h4
    · rw [show 21 + 1 = 22 from rfl, a8]; exact h4
  · unfold SeenOk at hz ⊢; rw [a9, b1, b2, b3, b5, e87, e88, e89]; exact hz
theorem PastOk.congr {nc : Nat} {G G' : Mem} (h7 : G' 7 = G 7) (h9 : ∀ k, 9 ≤ k → k < 19 → G' k = G k) (h4 : G' 81 4 = G 81 4) (h84 : G' 84 = G 84) (h : PastOk nc G) : PastOk nc G' := by
  obtain ⟨nx, nu, u1, u2, u3, u4, u5, u6⟩ := h
  refine ⟨nx, nu, u1, u2, by rw [h7]; exact u3, by rw [h7]; exact u4, by rw [h4]; exact u5, fun j hj => ?_⟩
  rw [h9 _ (by omega) (by omega), h84]
  exact u6 j hj
theorem ImgOk.congr {nc : Nat} {G G' : Mem} (h19 : G' 19 = G 19) (h21 : G' 21 = G 21) (h22 : G' 22 = G 22) (h85 : G' 85 = G 85) (h86 : G' 86 = G 86) (h : ImgOk nc G) : ImgOk nc G' := by
  obtain ⟨kb, h1, h2, h3⟩ := h
  refine ⟨kb, h1, by rw [h19]; exact h2, fun i hi => ?_⟩
  rw [h86, h85]
  have h4 := h3 i hi
  rcases (show i = 0 ∨ i = 1 by omega) with rfl | rfl
  · rw [show 21 + 0 = 21 from rfl, h21]; exact h4
  · rw [show 21 + 1 = 22 from rfl, h22]; exact h4
