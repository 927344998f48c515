/-! ===== 22 the reference's classes of times ===== -/
/-- a loop that gathers bits -/
theorem or_loop (L : Nat → Int32 → Int32 → Option Int32) (N : Nat) (v : Nat → Int32) (hE : ∀ n a, L (n + 1) a (nI N) = some a) (hS : ∀ n a x, x < N → L (n + 1) a (nI x) = L n (a ||| v x) (nI (x + 1))) (n : Nat) (hn : N < n) : ∃ m, L n 0 0 = some m ∧ ∀ y, bt m y = true ↔ ∃ x, x < N ∧ bt (v x) y = true := by
  have key : ∀ d x n a, x + d = N → d < n → (∀ y, bt a y = true ↔ ∃ z, z < x ∧ bt (v z) y = true) → ∃ m, L n a (nI x) = some m ∧ ∀ y, bt m y = true ↔ ∃ x, x < N ∧ bt (v x) y = true := by
    intro d
    induction d with
    | zero =>
      intro x n a h1 h2 h3
      obtain ⟨n, rfl⟩ : ∃ k, n = k + 1 := ⟨n - 1, by omega⟩
      have e : x = N := by omega
      subst e
      exact ⟨a, hE n a, h3⟩
    | succ d ih =>
      intro x n a h1 h2 h3
      obtain ⟨n, rfl⟩ : ∃ k, n = k + 1 := ⟨n - 1, by omega⟩
      rw [hS n a x (by omega)]
      refine ih (x + 1) n _ (by omega) (by omega) (fun y => ?_)
      rw [bt_or, Bool.or_eq_true, h3 y]
      constructor
      · rintro (⟨z, z1, z2⟩ | h)
        · exact ⟨z, by omega, z2⟩
        · exact ⟨x, by omega, h⟩
      · rintro ⟨z, z1, z2⟩
        by_cases e : z = x
        · subst e; exact Or.inr z2
        · exact Or.inl ⟨z, by omega, z2⟩
  exact key N 0 n 0 (by omega) hn (fun y => ⟨fun h => by rw [bt_0] at h; exact absurd h (by decide), fun ⟨z, z1, _⟩ => absurd z1 (by omega)⟩)
def smF (f : Nat → Int32) (p q m : Nat) : Nat → Int32 := fun k => if k < m ∧ f k = f p then f q else f k
theorem areSame_eq {G : Mem} {n p q : Nat} {f g : Nat → Int32} (hn : n ≤ 17) (ht : G 81 14 = nI n) (hp : p < n) (hq : q < n) : m_X9_areSame (or2 G 90 f g) (nI p) (nI q) = some (or2 G 90 (smF f p q n) g) := by
  have h14 : ∀ f g, (or2 G 90 f g) 81 14 = nI n := fun f g => by rw [or2_n _ _ _ (by omega) (by omega)]; exact ht
  have key : ∀ d x m, x + d = n → d < m → L_X9_areSame_18 (f p) (f q) m (nI x) (or2 G 90 (smF f p q x) g) = some (or2 G 90 (smF f p q n) g) := by
    intro d
    induction d with
    | zero =>
      intro x m h1 h2
      obtain ⟨m, rfl⟩ : ∃ k, m = k + 1 := ⟨m - 1, by omega⟩
      have e : x = n := by omega
      subst e
      rw [L_X9_areSame_18, h14, if_pos (nI_le (by omega) (by omega))]
    | succ d ih =>
      intro x m h1 h2
      obtain ⟨m, rfl⟩ : ∃ k, m = k + 1 := ⟨m - 1, by omega⟩
      have ef : smF f p q x x = f x := by unfold smF; rw [if_neg (by omega)]
      rw [L_X9_areSame_18, h14, if_neg (nI_ge (by omega) (by omega)), ald_nI (by omega) (by omega), Option.bind_some, Option.bind_some, or2_1 G 90, ef]
      have hv : ((if f x = f p then some (f q) else some (f x)) : Option Int32) = some (if f x = f p then f q else f x) := by split <;> rfl
      rw [hv, Option.bind_some, ast_nI (by omega) (by omega), Option.bind_some, nI_1]
      have e1 : upm (or2 G 90 (smF f p q x) g) 91 x (if f x = f p then f q else f x) = or2 G 90 (smF f p q (x + 1)) g := by
        rw [or2_u1 G 90]
        congr 1
        funext j
        unfold upd smF
        by_cases hj : j = x
        · subst hj
          rw [if_pos rfl]
          by_cases hk : f j = f p
          · rw [if_pos hk, if_pos ⟨by omega, hk⟩]
          · rw [if_neg hk, if_neg (fun z => hk z.2)]
        · rw [if_neg hj]
          by_cases hk : j < x ∧ f j = f p
          · rw [if_pos hk, if_pos ⟨by omega, hk.2⟩]
          · rw [if_neg hk, if_neg (fun z => hk ⟨by omega, z.2⟩)]
      rw [e1]
      exact ih (x + 1) m (by omega) (by omega)
  unfold m_X9_areSame
  rw [ald_nI (by omega) (by omega), Option.bind_some, ald_nI (by omega) (by omega), Option.bind_some, or2_1 G 90]
  have h0 := key n 0 NF (by omega) (NF_big (by omega))
  have e1 : smF f p q 0 = f := by funext j; unfold smF; rw [if_neg (by omega)]
  rw [e1] at h0
  rw [show (0 : Int32) = nI 0 from rfl, h0, Option.bind_some]
theorem isA_eq {G : Mem} {p q : Nat} {f g : Nat → Int32} (hq : q < 17) : m_X9_isAhead (or2 G 90 f g) (nI p) (nI q) = some (or2 G 90 f (upd g q (g q ||| (1 <<< (nI p &&& 31))))) := by
  unfold m_X9_isAhead
  rw [ald_nI (by omega) (by omega), Option.bind_some, or2_2 G 90, ast_nI (by omega) (by omega), Option.bind_some, or2_u2 G 90]
/-- the reference's rows hold what was laid -/
def RI (n : Nat) (H : List Edge) (f g : Nat → Int32) : Prop := Wi n H ∧ (∀ p q, (p, false, q) ∈ H → f p = f q) ∧ (∀ x y, x < n → y < n → f x = f y → Rq H x y) ∧ (∀ q, q < n → ∀ p, p < 32 → (bt (g q) p = true ↔ (p, true, q) ∈ H))
theorem RI.f {n : Nat} {H : List Edge} {f g : Nat → Int32} (h : RI n H f g) {p q : Nat} (hp : p < n) (hq : q < n) : RI n ((q, false, p) :: (p, false, q) :: H) (smF f p q n) g := by
  obtain ⟨w, h1, h2, h3⟩ := h
  have hs : ∀ e, e ∈ H → e ∈ (q, false, p) :: (p, false, q) :: H := fun e h => List.mem_cons_of_mem _ (List.mem_cons_of_mem _ h)
  have epq : Rq ((q, false, p) :: (p, false, q) :: H) p q := Rq.ed (b := false) (List.mem_cons_of_mem _ (List.mem_cons_self ..))
  have eqp : Rq ((q, false, p) :: (p, false, q) :: H) q p := Rq.ed (b := false) (List.mem_cons_self ..)
  have sp : smF f p q n p = f q := if_pos ⟨hp, rfl⟩
  have sq : smF f p q n q = f q := by unfold smF; by_cases z : q < n ∧ f q = f p <;> simp [z]
  have sv : ∀ x, x < n → (f x = f p ∧ smF f p q n x = f q) ∨ (f x ≠ f p ∧ smF f p q n x = f x) := fun x hx => by
    by_cases z : f x = f p
    · exact Or.inl ⟨z, if_pos ⟨hx, z⟩⟩
    · exact Or.inr ⟨z, if_neg (fun y => z y.2)⟩
  refine ⟨?_, ?_, ?_, ?_⟩
  · intro a b c m
    rcases List.mem_cons.mp m with e | m
    · have e1 : a = q := congrArg Prod.fst e
      have e2 : c = p := congrArg (fun z => z.2.2) e
      omega
    · rcases List.mem_cons.mp m with e | m
      · have e1 : a = p := congrArg Prod.fst e
        have e2 : c = q := congrArg (fun z => z.2.2) e
        omega
      · exact w a b c m
  · intro a c m
    rcases List.mem_cons.mp m with e | m
    · have e1 : a = q := congrArg Prod.fst e
      have e2 : c = p := congrArg (fun z => z.2.2) e
      rw [e1, e2, sp, sq]
    · rcases List.mem_cons.mp m with e | m
      · have e1 : a = p := congrArg Prod.fst e
        have e2 : c = q := congrArg (fun z => z.2.2) e
        rw [e1, e2, sp, sq]
      · have := w a false c m
        have e := h1 a c m
        unfold smF
        rw [e]
        by_cases z : f c = f p
        · rw [if_pos ⟨this.1, z⟩, if_pos ⟨this.2, z⟩]
        · rw [if_neg (fun y => z y.2), if_neg (fun y => z y.2)]
  · intro x y hx hy e
    rcases sv x hx with ⟨a, b⟩ | ⟨a, b⟩
    · rcases sv y hy with ⟨c, d⟩ | ⟨c, d⟩
      · exact (h2 x y hx hy (a.trans c.symm)).mono hs
      · rw [b, d] at e
        exact ((h2 x p hx hp a).mono hs).tr (epq.tr ((h2 q y hq hy e).mono hs))
    · rcases sv y hy with ⟨c, d⟩ | ⟨c, d⟩
      · rw [b, d] at e
        exact ((h2 x q hx hq e).mono hs).tr (eqp.tr ((h2 p y hp hy c.symm).mono hs))
      · rw [b, d] at e
        exact (h2 x y hx hy e).mono hs
  · intro a ha b hb
    rw [h3 a ha b hb]
    simp
theorem RI.t {n : Nat} (hn : n ≤ 17) {H : List Edge} {f g : Nat → Int32} (h : RI n H f g) {p q : Nat} (hp : p < n) (hq : q < n) : RI n ((p, true, q) :: H) f (upd g q (g q ||| (1 <<< (nI p &&& 31)))) := by
  obtain ⟨w, h1, h2, h3⟩ := h
  have hs : ∀ e, e ∈ H → e ∈ (p, true, q) :: H := fun e h => List.mem_cons_of_mem _ h
  refine ⟨?_, ?_, fun x y hx hy e => (h2 x y hx hy e).mono hs, ?_⟩
  · intro a b c m
    rcases List.mem_cons.mp m with e | m
    · have e1 : a = p := congrArg Prod.fst e
      have e2 : c = q := congrArg (fun z => z.2.2) e
      omega
    · exact w a b c m
  · intro a c m
    rcases List.mem_cons.mp m with e | m
    · exact absurd (congrArg (fun z => z.2.1) e) (by simp)
    · exact h1 a c m
  · intro a ha b hb
    unfold upd
    by_cases e : a = q
    · subst e
      rw [if_pos rfl, bt_or, bt_pow (by omega) hb, Bool.or_eq_true, h3 a ha b hb, List.mem_cons]
      constructor
      · rintro (h | h)
        · exact Or.inr h
        · have : b = p := by simpa using h
          exact Or.inl (by rw [this])
      · rintro (h | h)
        · have : b = p := congrArg Prod.fst h
          exact Or.inr (by simp [this])
        · exact Or.inl h
    · rw [if_neg e, h3 a ha b hb, List.mem_cons]
      constructor
      · exact Or.inr
      · rintro (h | h)
        · exact absurd (congrArg (fun z => z.2.2) h) e
        · exact h
theorem lay_t {G : Mem} {n p q : Nat} {H : List Edge} {f g : Nat → Int32} (hn : n ≤ 17) (h : RI n H f g) (hp : p < n) (hq : q < n) : ∃ f' g', m_X9_isAhead (or2 G 90 f g) (nI p) (nI q) = some (or2 G 90 f' g') ∧ RI n ((p, true, q) :: H) f' g' := ⟨_, _, isA_eq (by omega), h.t hn hp hq⟩
theorem lay_f {G : Mem} {n p q : Nat} {H : List Edge} {f g : Nat → Int32} (hn : n ≤ 17) (ht : G 81 14 = nI n) (h : RI n H f g) (hp : p < n) (hq : q < n) : ∃ f' g', m_X9_areSame (or2 G 90 f g) (nI p) (nI q) = some (or2 G 90 f' g') ∧ RI n ((q, false, p) :: (p, false, q) :: H) f' g' := ⟨_, _, areSame_eq hn ht hp hq, h.f hp hq⟩
theorem lays_eq {G : Mem} {n p q s : Nat} {H : List Edge} {f g : Nat → Int32} (hn : n ≤ 17) (ht : G 81 14 = nI n) (h : RI n H f g) (hp : p < n) (hq : q < n) (hs : s < 2) : ∃ f' g', m_X9_lays (or2 G 90 f g) (nI p) (nI s) (nI q) = some (or2 G 90 f' g') ∧ RI n (hE p s q ++ H) f' g' := by
  unfold m_X9_lays hE
  rcases (show s = 0 ∨ s = 1 by omega) with rfl | rfl
  · obtain ⟨f', g', e, r⟩ := lay_t (G := G) hn h hp hq
    exact ⟨f', g', by rw [if_pos (by decide), e, Option.bind_some], r⟩
  · obtain ⟨f', g', e, r⟩ := lay_f (G := G) hn ht h hp hq
    exact ⟨f', g', by rw [if_neg (by decide), e, Option.bind_some], r⟩
theorem lt_a {G : Mem} {n c t : Nat} {H : List Edge} {f g : Nat → Int32} (hn : n ≤ 17) (ht : G 81 14 = nI n) (h : RI n H f g) (hc : 2 + 2 * c < n) (h8 : t < 8) (x : Nat) (hx : x = if t = 0 ∨ t = 3 ∨ t = 6 then 1 else 0) (y : Nat) (hy : y = if t = 1 ∨ t = 4 ∨ t = 7 then 1 else 0) : ∃ f' g', ((if nI x = 0 then (if nI y = 0 then (m_X9_isAhead (or2 G 90 f g) (nI (1 + 2 * c)) (nI (2 + 2 * c))).bind (fun q_12 => some q_12) else (m_X9_isAhead (or2 G 90 f g) (nI (2 + 2 * c)) (nI (1 + 2 * c))).bind (fun q_13 => some q_13)) else (m_X9_areSame (or2 G 90 f g) (nI (2 + 2 * c)) (nI (1 + 2 * c))).bind (fun q_14 => some q_14)) : Option (Mem)) = some (or2 G 90 f' g') ∧ RI n (hE (2 + 2 * c) (evr t) (1 + 2 * c) ++ H) f' g' := by
  obtain ⟨fa, ga, ea, ra⟩ := lay_t (G := G) (p := 1 + 2 * c) (q := 2 + 2 * c) hn h (by omega) (by omega)
  obtain ⟨fb, gb, eb, rb⟩ := lay_t (G := G) (p := 2 + 2 * c) (q := 1 + 2 * c) hn h (by omega) (by omega)
  obtain ⟨fc, gc, ec, rc⟩ := lay_f (G := G) (p := 2 + 2 * c) (q := 1 + 2 * c) hn ht h (by omega) (by omega)
  rw [ea, eb, ec, Option.bind_some, Option.bind_some, Option.bind_some]
  have z0 : nI 0 = (0 : Int32) := rfl
  have z1 : ¬ nI 1 = (0 : Int32) := by decide
  rcases (show t = 0 ∨ t = 1 ∨ t = 2 ∨ t = 3 ∨ t = 4 ∨ t = 5 ∨ t = 6 ∨ t = 7 by omega) with rfl | rfl | rfl | rfl | rfl | rfl | rfl | rfl <;> simp at hx hy <;> subst hx <;> subst hy
  · exact ⟨fc, gc, by rw [if_neg z1], rc⟩
  · exact ⟨fb, gb, by rw [if_pos z0, if_neg z1], rb⟩
  · exact ⟨fa, ga, by rw [if_pos z0, if_pos z0], ra⟩
  · exact ⟨fc, gc, by rw [if_neg z1], rc⟩
  · exact ⟨fb, gb, by rw [if_pos z0, if_neg z1], rb⟩
  · exact ⟨fa, ga, by rw [if_pos z0, if_pos z0], ra⟩
  · exact ⟨fc, gc, by rw [if_neg z1], rc⟩
  · exact ⟨fb, gb, by rw [if_pos z0, if_neg z1], rb⟩
theorem lt_b {G : Mem} {n c t : Nat} {H : List Edge} {f g : Nat → Int32} (hn : n ≤ 17) (ht : G 81 14 = nI n) (h : RI n H f g) (hc : 2 + 2 * c < n) (h8 : t < 8) : ∃ f' g', ((if 3 ≤ nI t then (if 6 ≤ nI t then (m_X9_isAhead (or2 G 90 f g) 0 (nI (1 + 2 * c))).bind (fun q_7 => some q_7) else (m_X9_areSame (or2 G 90 f g) (nI (1 + 2 * c)) 0).bind (fun q_8 => some q_8)) else (m_X9_isAhead (or2 G 90 f g) (nI (1 + 2 * c)) 0).bind (fun q_9 => some q_9)) : Option Mem) = some (or2 G 90 f' g') ∧ RI n (hE (1 + 2 * c) (lkr t) 0 ++ H) f' g' := by
  obtain ⟨fa, ga, ea, ra⟩ := lay_t (G := G) (p := 0) (q := 1 + 2 * c) hn h (by omega) (by omega)
  obtain ⟨fb, gb, eb, rb⟩ := lay_t (G := G) (p := 1 + 2 * c) (q := 0) hn h (by omega) (by omega)
  obtain ⟨fc, gc, ec, rc⟩ := lay_f (G := G) (p := 1 + 2 * c) (q := 0) hn ht h (by omega) (by omega)
  rw [show (nI 0 : Int32) = 0 from rfl] at ea eb ec
  rw [ea, eb, ec, Option.bind_some, Option.bind_some, Option.bind_some]
  rcases (show t = 0 ∨ t = 1 ∨ t = 2 ∨ t = 3 ∨ t = 4 ∨ t = 5 ∨ t = 6 ∨ t = 7 by omega) with rfl | rfl | rfl | rfl | rfl | rfl | rfl | rfl
  · exact ⟨fb, gb, by rw [if_neg (by decide)], rb⟩
  · exact ⟨fb, gb, by rw [if_neg (by decide)], rb⟩
  · exact ⟨fb, gb, by rw [if_neg (by decide)], rb⟩
  · exact ⟨fc, gc, by rw [if_pos (by decide), if_neg (by decide)], rc⟩
  · exact ⟨fc, gc, by rw [if_pos (by decide), if_neg (by decide)], rc⟩
  · exact ⟨fc, gc, by rw [if_pos (by decide), if_neg (by decide)], rc⟩
  · exact ⟨fa, ga, by rw [if_pos (by decide), if_pos (by decide)], ra⟩
  · exact ⟨fa, ga, by rw [if_pos (by decide), if_pos (by decide)], ra⟩
theorem flagA : ∀ t : Fin 8, ((if nI t = 0 then some (nI t, 1) else (if nI t = 3 then some (nI t, 1) else (if nI t = 6 then some (nI t, 1) else some (nI t, 0)))) : Option (Int32 × Int32)) = some (nI t, nI (if t.val = 0 ∨ t.val = 3 ∨ t.val = 6 then 1 else 0)) ∧ ((if nI t = 1 then some 1 else (if nI t = 4 then some 1 else (if nI t = 7 then some 1 else some 0))) : Option (Int32)) = some (nI (if t.val = 1 ∨ t.val = 4 ∨ t.val = 7 then 1 else 0)) := by
  decide +kernel
theorem laysTense_eq {A : Told} {G : Mem} {n c : Nat} {H : List Edge} {f g : Nat → Int32} (hw : WF A) (hR : RowR A (G 82)) (hn : n = 1 + 2 * A.nc) (ht : G 81 14 = nI n) (h : RI n H f g) (hc : c < A.nc) : ∃ f' g', m_X9_laysTense (or2 G 90 f g) (nI c) = some (or2 G 90 f' g') ∧ RI n (hE (1 + 2 * c) (lkr (A.ten c)) 0 ++ (hE (2 + 2 * c) (evr (A.ten c)) (1 + 2 * c) ++ H)) f' g' := by
  have h1 := hw.1
  have hten := (hw.2.1 c hc).1
  obtain ⟨u1, u2⟩ := flagA ⟨A.ten c, hten⟩
  simp only at u1 u2
  obtain ⟨f1, g1, e1, r1⟩ := lt_a (G := G) (n := n) (c := c) (t := A.ten c) (by omega) ht h (by omega) hten _ rfl _ rfl
  obtain ⟨f2, g2, e2, r2⟩ := lt_b (G := G) (n := n) (c := c) (t := A.ten c) (by omega) ht r1 (by omega) hten
  refine ⟨f2, g2, ?_, r2⟩
  unfold m_X9_laysTense
  rw [two_mul, show (2 : Int32) + nI (2 * c) = nI (2 + 2 * c) from nI_add 2 (2 * c), show (1 : Int32) + nI (2 * c) = nI (1 + 2 * c) from nI_add 1 (2 * c), ald_nI (by omega) (by omega), Option.bind_some, or2_n _ _ _ (by omega) (by omega), (hR.2.1 c hc).1]
  rw [u1, Option.bind_some]
  dsimp only
  rw [u2, Option.bind_some, e1, Option.bind_some, e2]
theorem laysLink_eq {A : Told} {G : Mem} {n c : Nat} {H : List Edge} {f g : Nat → Int32} (hw : WF A) (hR : RowR A (G 82)) (hn : n = 1 + 2 * A.nc) (ht : G 81 14 = nI n) (h : RI n H f g) (hc : c < A.nc) : ∃ f' g', m_X9_laysLink (or2 G 90 f g) (nI c) = some (or2 G 90 f' g') ∧ RI n ((if c = 0 then [] else hE (1 + 2 * (c - 1)) (A.lnk c) (1 + 2 * c)) ++ H) f' g' := by
  have h1 := hw.1
  have hl := (hw.2.1 c hc).2
  unfold m_X9_laysLink
  rw [two_mul, show (2 : Int32) + nI (2 * c) + 1 = nI (3 + 2 * c) by rw [show (2 : Int32) = nI 2 from rfl, nI_add, nI_1]; congr 1; omega, show (1 : Int32) + nI (2 * c) = nI (1 + 2 * c) from nI_add 1 (2 * c), ald_nI (by omega) (by omega), Option.bind_some, or2_n _ _ _ (by omega) (by omega), (hR.2.1 c hc).2]
  by_cases hc0 : c = 0
  · refine ⟨f, g, ?_, by rw [if_pos hc0]; exact h⟩
    have : A.lkI c = -9 := if_pos hc0
    rw [this, if_neg (by decide), if_neg (by decide), if_neg (by decide)]
  · have el : A.lkI c = nI (A.lnk c) := if_neg hc0
    rw [el, if_neg hc0, show nI (1 + 2 * c) - 2 = nI (1 + 2 * (c - 1)) by rw [show (2 : Int32) = nI 2 from rfl, pk_sub (by omega)]; congr 1; omega]
    obtain ⟨fa, ga, ea, ra⟩ := lay_t (G := G) (p := 1 + 2 * (c - 1)) (q := 1 + 2 * c) (by omega) h (by omega) (by omega)
    obtain ⟨fb, gb, eb, rb⟩ := lay_t (G := G) (p := 1 + 2 * c) (q := 1 + 2 * (c - 1)) (by omega) h (by omega) (by omega)
    obtain ⟨fc, gc, ec, rc⟩ := lay_f (G := G) (p := 1 + 2 * (c - 1)) (q := 1 + 2 * c) (by omega) ht h (by omega) (by omega)
    rw [ea, eb, ec, Option.bind_some, Option.bind_some, Option.bind_some]
    generalize A.lnk c = l at hl
    rcases (show l = 0 ∨ l = 1 ∨ l = 2 ∨ l = 3 by omega) with rfl | rfl | rfl | rfl
    · exact ⟨fa, ga, by rw [if_pos (by decide)], ra⟩
    · exact ⟨fc, gc, by rw [if_neg (by decide), if_pos (by decide)], rc⟩
    · exact ⟨fb, gb, by rw [if_neg (by decide), if_neg (by decide), if_pos (by decide)], rb⟩
    · exact ⟨f, g, by rw [if_neg (by decide), if_neg (by decide), if_neg (by decide)], h⟩
theorem RI_0 {n : Nat} {f g : Nat → Int32} (hn : n ≤ 17) (h : ∀ j, j < n → f j = nI j ∧ g j = 0) : RI n [] f g := by
  refine ⟨Wi.nil n, fun p q m => absurd m (by simp), fun x y hx hy e => ?_, fun q hq p hp => ?_⟩
  · rw [(h x hx).1, (h y hy).1] at e
    rw [(nI_eq (by omega) (by omega)).mp e]
    exact Rq.rf _ _
  · rw [(h q hq).2, bt_0]
    simp
/-- the extra saying -/
def exH (p : Nat) (s : Option Nat) (q : Nat) : List Edge := match s with | none => [] | some s => hE p s q
def exI (s : Option Nat) : Int32 := match s with | none => -9 | some s => nI s
theorem laysAll_eq {A : Told} {G : Mem} (hw : WF A) (hR : RowR A (G 82)) (set : Int32) {p q : Nat} {s : Option Nat} (hp : p ≤ 2 * A.nc) (hq : q ≤ 2 * A.nc) (hs : ∀ x, s = some x → x < 2) : ∃ f g, m_X9_laysAll G set (nI p) (exI s) (nI q) = some (or2 (upm G 81 14 (nI (1 + 2 * A.nc))) 90 f g) ∧ RI (1 + 2 * A.nc) (exH p s q ++ setH A (bt set) A.ns) f g := by
  have h1 := hw.1
  have ht : (upm G 81 14 (nI (1 + 2 * A.nc))) 81 14 = nI (1 + 2 * A.nc) := upm_kj _ _ _ _
  have hR2 : RowR A ((upm G 81 14 (nI (1 + 2 * A.nc))) 82) := by rw [upm_n _ _ _ (by omega)]; exact hR
  unfold m_X9_laysAll
  rw [c9_0 hR, Option.bind_some, two_mul, show (1 : Int32) + nI (2 * A.nc) = nI (1 + 2 * A.nc) from nI_add 1 (2 * A.nc)]
  generalize hG0 : upm G 81 14 (nI (1 + 2 * A.nc)) = G0' at ht hR2
  generalize hn : 1 + 2 * A.nc = n at ht
  have h14 : ∀ f g, (or2 G0' 90 f g) 81 14 = nI n := fun f g => by rw [or2_n _ _ _ (by omega) (by omega)]; exact ht
  have hR3 : ∀ f g, RowR A ((or2 G0' 90 f g) 82) := fun f g => by rw [or2_n _ _ _ (by omega) (by omega)]; exact hR2
  have init : ∀ d x m f g, x + d = n → d < m → (∀ j, j < x → f j = nI j ∧ g j = 0) → ∃ f' g', L_X9_laysAll_17 m (nI x) (or2 G0' 90 f g) = some (or2 G0' 90 f' g') ∧ ∀ j, j < n → f' j = nI j ∧ g' j = 0 := by
    intro d
    induction d with
    | zero =>
      intro x m f g a1 a2 a3
      obtain ⟨m, rfl⟩ : ∃ k, m = k + 1 := ⟨m - 1, by omega⟩
      have e : x = n := by omega
      subst e
      exact ⟨f, g, by rw [L_X9_laysAll_17, h14, if_pos (nI_le (by omega) (by omega))], a3⟩
    | succ d ih =>
      intro x m f g a1 a2 a3
      obtain ⟨m, rfl⟩ : ∃ k, m = k + 1 := ⟨m - 1, by omega⟩
      rw [L_X9_laysAll_17, h14, if_neg (nI_ge (by omega) (by omega)), ast_nI (by omega) (by omega), Option.bind_some, ast_nI (by omega) (by omega), Option.bind_some, or2_u1 G0' 90, or2_u2 G0' 90, nI_1]
      refine ih (x + 1) m _ _ (by omega) (by omega) (fun j hj => ?_)
      unfold upd
      by_cases e : j = x
      · subst e; rw [if_pos rfl, if_pos rfl]; exact ⟨rfl, rfl⟩
      · rw [if_neg e, if_neg e]; exact a3 j (by omega)
  obtain ⟨f0, g0, e0, r0⟩ := init n 0 NF (G0' 91) (G0' 92) (by omega) (NF_big (by omega)) (fun j hj => absurd hj (by omega))
  rw [or2_self G0' 90] at e0
  rw [show (0 : Int32) = nI 0 from rfl, e0, Option.bind_some]
  have key : ∀ d x m f g, x + d = A.ns → d < m → RI n (setH A (bt set) x) f g → ∃ f' g', L_X9_laysAll_52 set m (nI x) (or2 G0' 90 f g) = some (or2 G0' 90 f' g') ∧ RI n (setH A (bt set) A.ns) f' g' := by
    intro d
    induction d with
    | zero =>
      intro x m f g a1 a2 a3
      obtain ⟨m, rfl⟩ : ∃ k, m = k + 1 := ⟨m - 1, by omega⟩
      have e : x = A.ns := by omega
      subst e
      exact ⟨f, g, by rw [L_X9_laysAll_52, c9_1 (hR3 _ _), Option.bind_some, if_pos (nI_le (by omega) (by omega))], a3⟩
    | succ d ih =>
      intro x m f g a1 a2 a3
      obtain ⟨m, rfl⟩ : ∃ k, m = k + 1 := ⟨m - 1, by omega⟩
      have hx : x < A.ns := by omega
      rw [L_X9_laysAll_52, c9_1 (hR3 _ _), Option.bind_some, if_neg (nI_ge (by omega) (by omega))]
      by_cases hb : bt set x = true
      · rw [if_pos ((shr_1 _ (by omega)).mpr hb)]
        have st : ∃ f1 g1, ((m_X9_ofStatement (or2 G0' 90 f g) (nI x) 0).bind (fun r_10 => (if r_10 = (-9) then (m_X9_ofStatement (or2 G0' 90 f g) (nI x) 1).bind (fun r_14 => (m_X9_ofStatement (or2 G0' 90 f g) (nI x) 2).bind (fun r_15 => (m_X9_ofStatement (or2 G0' 90 f g) (nI x) 3).bind (fun r_16 => (m_X9_lays (or2 G0' 90 f g) r_14 r_15 r_16).bind (fun q_17 => some q_17)))) else (m_X9_laysTense (or2 G0' 90 f g) r_10).bind (fun q_12 => (m_X9_laysLink q_12 r_10).bind (fun q_13 => some q_13))))) = some (or2 G0' 90 f1 g1) ∧ RI n (stH A x ++ setH A (bt set) x) f1 g1 := by
          obtain ⟨o0, o1, o2, o3⟩ := of9 hw (hR3 f g) hx
          rw [o0, o1, o2, o3, Option.bind_some]
          unfold stH
          by_cases h9 : A.cl x = 9
          · obtain ⟨b1, b2, _, _, _, b6⟩ := hw.2.2.1 x hx h9
            obtain ⟨f1, g1, e1, r1⟩ := lays_eq (G := G0') (p := A.fi x) (q := A.se x) (s := A.sg x) (show n ≤ 17 by omega) ht a3 (by omega) (by omega) b6
            refine ⟨f1, g1, ?_, by rw [if_pos h9]; exact r1⟩
            rw [show A.clI x = -9 from if_pos h9, if_pos rfl, Option.bind_some, Option.bind_some, Option.bind_some, show A.fiI x = nI (A.fi x) from if_pos h9, show A.sgI x = nI (A.sg x) from if_pos h9, show A.seI x = nI (A.se x) from if_pos h9, e1, Option.bind_some]
          · have hc := hw.2.2.2.1 x hx h9
            obtain ⟨f1, g1, e1, r1⟩ := laysTense_eq (G := G0') hw hR2 hn.symm ht a3 hc
            obtain ⟨f2, g2, e2, r2⟩ := laysLink_eq (G := G0') hw hR2 hn.symm ht r1 hc
            refine ⟨f2, g2, ?_, ?_⟩
            · rw [show A.clI x = nI (A.cl x) from if_neg h9, if_neg (m9_ne (by omega)), e1, Option.bind_some, e2, Option.bind_some]
            · rw [if_neg h9]; unfold clH; rw [List.append_assoc, List.append_assoc]; exact r2
        obtain ⟨f1, g1, e1, r1⟩ := st
        rw [show nI 0 = (0 : Int32) from rfl] at *
        rw [e1, Option.bind_some, nI_1]
        refine ih (x + 1) m f1 g1 (by omega) (by omega) ?_
        unfold setH
        rw [if_pos hb]
        exact r1
      · rw [if_neg (fun z => hb ((shr_1 _ (by omega)).mp z)), Option.bind_some, nI_1]
        refine ih (x + 1) m f g (by omega) (by omega) ?_
        unfold setH
        rw [if_neg hb]
        exact a3
  obtain ⟨f1, g1, e1, r1⟩ := key A.ns 0 NF f0 g0 (by omega) (NF_big (by omega)) (RI_0 (by omega) r0)
  rw [e1, Option.bind_some]
  cases s with
  | none => exact ⟨f1, g1, by rw [if_pos (show exI none = -9 from rfl)], r1⟩
  | some x =>
    have hx := hs x rfl
    obtain ⟨f2, g2, e2, r2⟩ := lays_eq (G := G0') (p := p) (q := q) (s := x) (show n ≤ 17 by omega) ht r1 (by omega) (by omega) hx
    refine ⟨f2, g2, ?_, r2⟩
    show (if nI x = -9 then _ else (m_X9_lays (or2 G0' 90 f1 g1) (nI p) (nI x) (nI q)).bind _) = _
    rw [if_neg (m9_ne (by omega)), e2, Option.bind_some]
