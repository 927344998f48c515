/-! ===== 21 the class's Order ===== -/
/-- an Order's two rows -/
def or2 (G : Mem) (o : Nat) (f g : Nat → Int32) : Mem := setc (setc G (o + 1) f) (o + 2) g
theorem or2_1 (G : Mem) (o : Nat) (f g : Nat → Int32) : or2 G o f g (o + 1) = f := by unfold or2; rw [setc_n _ _ (by omega), setc_k]
theorem or2_2 (G : Mem) (o : Nat) (f g : Nat → Int32) : or2 G o f g (o + 2) = g := by unfold or2; rw [setc_k]
theorem or2_n (G : Mem) {o k : Nat} (f g : Nat → Int32) (h1 : k ≠ o + 1) (h2 : k ≠ o + 2) : or2 G o f g k = G k := by unfold or2; rw [setc_n _ _ h2, setc_n _ _ h1]
theorem or2_or2 (G : Mem) (o : Nat) (f g f' g' : Nat → Int32) : or2 (or2 G o f g) o f' g' = or2 G o f' g' := by
  funext k
  by_cases h1 : k = o + 1
  · subst h1; rw [or2_1, or2_1]
  by_cases h2 : k = o + 2
  · subst h2; rw [or2_2, or2_2]
  · rw [or2_n _ _ _ h1 h2, or2_n _ _ _ h1 h2, or2_n _ _ _ h1 h2]
theorem or2_self (G : Mem) (o : Nat) : or2 G o (G (o + 1)) (G (o + 2)) = G := by
  funext k
  by_cases h1 : k = o + 1
  · subst h1; rw [or2_1]
  by_cases h2 : k = o + 2
  · subst h2; rw [or2_2]
  · rw [or2_n _ _ _ h1 h2]
theorem or2_u1 (G : Mem) (o : Nat) (f g : Nat → Int32) (j : Nat) (x : Int32) : upm (or2 G o f g) (o + 1) j x = or2 G o (upd f j x) g := by
  funext k
  by_cases h1 : k = o + 1
  · subst h1; rw [upm_k, or2_1, or2_1]
  rw [upm_n _ _ _ h1]
  by_cases h2 : k = o + 2
  · subst h2; rw [or2_2, or2_2]
  · rw [or2_n _ _ _ h1 h2, or2_n _ _ _ h1 h2]
theorem or2_u2 (G : Mem) (o : Nat) (f g : Nat → Int32) (j : Nat) (x : Int32) : upm (or2 G o f g) (o + 2) j x = or2 G o f (upd g j x) := by
  funext k
  by_cases h2 : k = o + 2
  · subst h2; rw [upm_k, or2_2, or2_2]
  rw [upm_n _ _ _ h2]
  by_cases h1 : k = o + 1
  · subst h1; rw [or2_1, or2_1]
  · rw [or2_n _ _ _ h1 h2, or2_n _ _ _ h1 h2]
def chF (f : Nat → Int32) (p q m : Nat) : Nat → Int32 := fun x => if x < m ∧ bt (f x) p = true then f x ||| f q else f x
def chG (f g : Nat → Int32) (p q : Nat) (ab : Int32) (m : Nat) : Nat → Int32 := fun x => if x < m ∧ bt (f x) p = true then g x ||| (if bt (g x) p then f q else ab) else g x
theorem within_1 {p : Nat} (h : p < 17) : ¬ m_X1_isWithin (nI p) = 0 := by
  unfold m_X1_isWithin
  rw [if_neg (nI_pos (by omega)), if_neg (show ¬ (17 : Int32) ≤ nI p from nI_ge (a := p) (b := 17) h (by omega))]
  exact one_ne
theorem chain_eq {G : Mem} {o p q : Nat} (f g : Nat → Int32) (ab : Int32) (hp : p < 17) (hq : q < 17) : m_X1_chain (or2 G o f g) o (nI p) (nI q) ab = some (or2 G o (chF f p q 17) (chG f g p q ab 17)) := by
  have key : ∀ d x n, x + d = 17 → d < n → L_X1_chain_26 o (nI p) ab (f q) n (nI x) (or2 G o (chF f p q x) (chG f g p q ab x)) = some (or2 G o (chF f p q 17) (chG f g p q ab 17)) := by
    intro d
    induction d with
    | zero =>
      intro x n h1 h2
      obtain ⟨n, rfl⟩ : ∃ k, n = k + 1 := ⟨n - 1, by omega⟩
      have e : x = 17 := by omega
      subst e
      rw [L_X1_chain_26, if_pos (show (17 : Int32) ≤ nI 17 from nI_le (a := 17) (b := 17) (by omega) (by omega))]
    | succ d ih =>
      intro x n h1 h2
      obtain ⟨n, rfl⟩ : ∃ k, n = k + 1 := ⟨n - 1, by omega⟩
      have ef : chF f p q x x = f x := by unfold chF; rw [if_neg (by omega)]
      have eg : chG f g p q ab x x = g x := by unfold chG; rw [if_neg (by omega)]
      rw [L_X1_chain_26, if_neg (show ¬ (17 : Int32) ≤ nI x from nI_ge (a := x) (b := 17) (by omega) (by omega)), ald_nI (by omega) (by omega), Option.bind_some, or2_1, ef]
      by_cases hb : bt (f x) p = true
      · rw [if_neg (fun z => by rw [(has_0 _ (by omega)).mp z] at hb; exact absurd hb (by decide)), ald_nI (by omega) (by omega), Option.bind_some, Option.bind_some, or2_2, eg]
        have hv : ((if m_X8_has (g x) (nI p) = 0 then some (ab, g x) else some (f q, g x)) : Option (Int32 × Int32)) = some ((if bt (g x) p then f q else ab), g x) := by
          by_cases hc : bt (g x) p = true
          · rw [if_neg (fun z => by rw [(has_0 _ (by omega)).mp z] at hc; exact absurd hc (by decide)), if_pos hc]
          · rw [if_pos ((has_0 _ (by omega)).mpr (by simpa using hc)), if_neg hc]
        rw [hv, Option.bind_some]
        dsimp only
        rw [ast_nI (by omega) (by omega), Option.bind_some, or2_u2, ald_nI (by omega) (by omega), Option.bind_some, or2_1, ef, ast_nI (by omega) (by omega), Option.bind_some, or2_u1, Option.bind_some, nI_1]
        have e1 : upd (chF f p q x) x (f x ||| f q) = chF f p q (x + 1) := by
          funext j
          unfold upd chF
          by_cases hj : j = x
          · subst hj; rw [if_pos rfl, if_pos ⟨by omega, hb⟩]
          · rw [if_neg hj]
            by_cases hk : j < x ∧ bt (f j) p = true
            · rw [if_pos hk, if_pos ⟨by omega, hk.2⟩]
            · rw [if_neg hk, if_neg (fun z => hk ⟨by omega, z.2⟩)]
        have e2 : upd (chG f g p q ab x) x (g x ||| if bt (g x) p then f q else ab) = chG f g p q ab (x + 1) := by
          funext j
          unfold upd chG
          by_cases hj : j = x
          · subst hj; rw [if_pos rfl, if_pos (show j < j + 1 ∧ bt (f j) p = true from ⟨by omega, hb⟩)]
          · rw [if_neg hj]
            by_cases hk : j < x ∧ bt (f j) p = true
            · rw [if_pos hk, if_pos (show j < x + 1 ∧ bt (f j) p = true from ⟨by omega, hk.2⟩)]
            · rw [if_neg hk, if_neg (fun z => hk ⟨by omega, z.2⟩)]
        rw [e1, e2]
        exact ih (x + 1) n (by omega) (by omega)
      · rw [if_pos ((has_0 _ (by omega)).mpr (by simpa using hb)), Option.bind_some, nI_1]
        have e1 : chF f p q x = chF f p q (x + 1) := by
          funext j
          unfold chF
          by_cases hk : j < x ∧ bt (f j) p = true
          · rw [if_pos hk, if_pos ⟨by omega, hk.2⟩]
          · rw [if_neg hk, if_neg]
            rintro ⟨z1, z2⟩
            by_cases hj : j = x
            · subst hj; exact hb z2
            · exact hk ⟨by omega, z2⟩
        have e2 : chG f g p q ab x = chG f g p q ab (x + 1) := by
          funext j
          unfold chG
          by_cases hk : j < x ∧ bt (f j) p = true
          · rw [if_pos hk, if_pos (show j < x + 1 ∧ bt (f j) p = true from ⟨by omega, hk.2⟩)]
          · rw [if_neg hk, if_neg]
            rintro ⟨z1, z2⟩
            by_cases hj : j = x
            · subst hj; exact hb z2
            · exact hk ⟨by omega, z2⟩
        rw [e1, e2]
        exact ih (x + 1) n (by omega) (by omega)
  unfold m_X1_chain
  rw [if_neg (within_1 hp), if_neg (within_1 hq), ald_nI (by omega) (by omega), Option.bind_some, or2_1]
  have h0 := key 17 0 NF (by omega) (NF_big (by omega))
  have e1 : chF f p q 0 = f := by funext j; unfold chF; rw [if_neg (by omega)]
  have e2 : chG f g p q ab 0 = g := by funext j; unfold chG; rw [if_neg (by omega)]
  rw [e1, e2] at h0
  rw [show (0 : Int32) = nI 0 from rfl, h0, Option.bind_some]
/-- an Order holds what its edges make sure -/
def OI (H : List Edge) (f g : Nat → Int32) : Prop := (∀ x, x < 17 → ∀ y, y < 32 → (bt (f x) y = true ↔ Rq H x y)) ∧ (∀ x, x < 17 → ∀ y, y < 32 → bt (g x) y = true → Sq H x y) ∧ ((∃ x, x < 17 ∧ bt (g x) x = true) ∨ ∀ x, x < 17 → ∀ y, y < 32 → Sq H x y → bt (g x) y = true)
theorem chF_b {f : Nat → Int32} {p q x y : Nat} (hx : x < 17) : bt (chF f p q 17 x) y = true ↔ (bt (f x) y = true ∨ (bt (f x) p = true ∧ bt (f q) y = true)) := by
  unfold chF
  by_cases h : bt (f x) p = true
  · rw [if_pos ⟨hx, h⟩, bt_or]; simp [h]
  · rw [if_neg (fun z => h z.2)]; simp [h]
theorem chG_b {f g : Nat → Int32} {p q x y : Nat} {ab : Int32} (hx : x < 17) : bt (chG f g p q ab 17 x) y = true ↔ (bt (g x) y = true ∨ (bt (f x) p = true ∧ ((bt (g x) p = true ∧ bt (f q) y = true) ∨ (¬ bt (g x) p = true ∧ bt ab y = true)))) := by
  unfold chG
  by_cases h : bt (f x) p = true
  · rw [if_pos ⟨hx, h⟩, bt_or]
    by_cases h2 : bt (g x) p = true
    · rw [if_pos h2]; simp [h, h2]
    · rw [if_neg h2]; simp [h, h2]
  · rw [if_neg (fun z => h z.2)]; simp [h]
theorem OI.t {H : List Edge} {f g : Nat → Int32} (h : OI H f g) {p q : Nat} (hp : p < 17) (hq : q < 17) : OI ((p, true, q) :: H) (chF f p q 17) (chG f g p q (f q) 17) := by
  obtain ⟨h1, h2, h3⟩ := h
  have key : ∀ x, x < 17 → ∀ y, bt (chG f g p q (f q) 17 x) y = true ↔ (bt (g x) y = true ∨ (bt (f x) p = true ∧ bt (f q) y = true)) := by
    intro x hx y
    rw [chG_b hx]
    by_cases h2 : bt (g x) p = true <;> simp [h2]
  refine ⟨fun x hx y hy => ?_, fun x hx y hy => ?_, ?_⟩
  · rw [chF_b hx, Rq_cons, h1 x hx y hy, h1 x hx p (by omega), h1 q hq y hy]
  · rw [key x hx, Sq_cons_t]
    rintro (h | ⟨a, b⟩)
    · exact Or.inl (h2 x hx y hy h)
    · exact Or.inr ⟨(h1 x hx p (by omega)).mp a, (h1 q hq y hy).mp b⟩
  · rcases h3 with ⟨x, hx, h⟩ | h3
    · exact Or.inl ⟨x, hx, (key x hx x).mpr (Or.inl h)⟩
    · refine Or.inr (fun x hx y hy => ?_)
      rw [key x hx, Sq_cons_t]
      rintro (h | ⟨a, b⟩)
      · exact Or.inl (h3 x hx y hy h)
      · exact Or.inr ⟨(h1 x hx p (by omega)).mpr a, (h1 q hq y hy).mpr b⟩
theorem OI.f {H : List Edge} {f g : Nat → Int32} (h : OI H f g) {p q : Nat} (hp : p < 17) (hq : q < 17) : OI ((p, false, q) :: H) (chF f p q 17) (chG f g p q (g q) 17) := by
  obtain ⟨h1, h2, h3⟩ := h
  refine ⟨fun x hx y hy => ?_, fun x hx y hy => ?_, ?_⟩
  · rw [chF_b hx, Rq_cons, h1 x hx y hy, h1 x hx p (by omega), h1 q hq y hy]
  · rw [chG_b hx, Sq_cons_f]
    rintro (h | ⟨a, ⟨b, c⟩ | ⟨_, c⟩⟩)
    · exact Or.inl (h2 x hx y hy h)
    · exact Or.inr (Or.inl ⟨h2 x hx p (by omega) b, (h1 q hq y hy).mp c⟩)
    · exact Or.inr (Or.inr (Or.inl ⟨(h1 x hx p (by omega)).mp a, h2 q hq y hy c⟩))
  · rcases h3 with ⟨x, hx, h⟩ | h3
    · exact Or.inl ⟨x, hx, (chG_b hx).mpr (Or.inl h)⟩
    · by_cases hqp : Sq H q p
      · refine Or.inl ⟨p, hp, (chG_b hp).mpr (Or.inr ⟨(h1 p hp p (by omega)).mpr (Rq.rf _ _), ?_⟩)⟩
        by_cases hpp : bt (g p) p = true
        · exact Or.inl ⟨hpp, (h1 q hq p (by omega)).mpr hqp.R⟩
        · exact Or.inr ⟨hpp, h3 q hq p (by omega) hqp⟩
      · refine Or.inr (fun x hx y hy => ?_)
        rw [chG_b hx, Sq_cons_f]
        rintro (h | ⟨a, b⟩ | ⟨a, b⟩ | ⟨_, b, _⟩)
        · exact Or.inl (h3 x hx y hy h)
        · exact Or.inr ⟨(h1 x hx p (by omega)).mpr a.R, Or.inl ⟨h3 x hx p (by omega) a, (h1 q hq y hy).mpr b⟩⟩
        · refine Or.inr ⟨(h1 x hx p (by omega)).mpr a, ?_⟩
          by_cases hpp : bt (g x) p = true
          · exact Or.inl ⟨hpp, (h1 q hq y hy).mpr b.R⟩
          · exact Or.inr ⟨hpp, h3 q hq y hy b⟩
        · exact absurd b hqp
theorem relate_eq {G : Mem} {o p q r : Nat} {H : List Edge} {f g : Nat → Int32} (h : OI H f g) (hp : p < 17) (hq : q < 17) (hr : r < 4) : ∃ f' g', m_X1_relate (or2 G o f g) o (nI p) (nI r) (nI q) = some (or2 G o f' g') ∧ OI (hE p r q ++ H) f' g' := by
  unfold m_X1_relate hE
  rw [if_neg (within_1 hp), if_neg (within_1 hq)]
  rcases (show r = 0 ∨ r = 1 ∨ r = 2 ∨ r = 3 by omega) with rfl | rfl | rfl | rfl
  · refine ⟨_, _, ?_, h.t hp hq⟩
    rw [if_pos (by decide), ald_nI (by omega) (by omega), Option.bind_some, or2_1, chain_eq _ _ _ hp hq, Option.bind_some]
  · refine ⟨_, _, ?_, (h.f hp hq).f hq hp⟩
    rw [if_neg (by decide), if_neg (by decide), if_pos (by decide), ald_nI (by omega) (by omega), Option.bind_some, or2_2, chain_eq _ _ _ hp hq, Option.bind_some, ald_nI (by omega) (by omega), Option.bind_some, or2_2, chain_eq _ _ _ hq hp, Option.bind_some]
  · refine ⟨_, _, ?_, h.t hq hp⟩
    rw [if_neg (by decide), if_pos (by decide), ald_nI (by omega) (by omega), Option.bind_some, or2_1, chain_eq _ _ _ hq hp, Option.bind_some]
  · exact ⟨f, g, by rw [if_neg (by decide), if_neg (by decide), if_neg (by decide)], h⟩
theorem empty_eq {G : Mem} {o : Nat} : ∃ f g, m_X1_empty G o = some (or2 G o f g) ∧ OI [] f g := by
  have key : ∀ d x n f g, x + d = 17 → d < n → (∀ j, j < x → f j = 1 <<< (nI j &&& 31) ∧ g j = 0) → ∃ f' g', L_X1_empty_2 o n (nI x) (or2 G o f g) = some (or2 G o f' g') ∧ ∀ j, j < 17 → f' j = 1 <<< (nI j &&& 31) ∧ g' j = 0 := by
    intro d
    induction d with
    | zero =>
      intro x n f g h1 h2 h3
      obtain ⟨n, rfl⟩ : ∃ k, n = k + 1 := ⟨n - 1, by omega⟩
      have e : x = 17 := by omega
      subst e
      exact ⟨f, g, by rw [L_X1_empty_2, if_pos (show (17 : Int32) ≤ nI 17 from nI_le (a := 17) (b := 17) (by omega) (by omega))], h3⟩
    | succ d ih =>
      intro x n f g h1 h2 h3
      obtain ⟨n, rfl⟩ : ∃ k, n = k + 1 := ⟨n - 1, by omega⟩
      rw [L_X1_empty_2, if_neg (show ¬ (17 : Int32) ≤ nI x from nI_ge (a := x) (b := 17) (by omega) (by omega)), ast_nI (by omega) (by omega), Option.bind_some, ast_nI (by omega) (by omega), Option.bind_some, or2_u1, or2_u2, nI_1]
      refine ih (x + 1) n _ _ (by omega) (by omega) (fun j hj => ?_)
      unfold upd
      by_cases e : j = x
      · subst e; rw [if_pos rfl, if_pos rfl]; exact ⟨rfl, rfl⟩
      · rw [if_neg e, if_neg e]; exact h3 j (by omega)
  obtain ⟨f, g, h1, h2⟩ := key 17 0 NF (G (o + 1)) (G (o + 2)) (by omega) (NF_big (by omega)) (fun j hj => absurd hj (by omega))
  rw [or2_self] at h1
  refine ⟨f, g, ?_, fun x hx y hy => ?_, fun x hx y hy => ?_, Or.inr (fun x hx y hy h => absurd h Sq_nil)⟩
  · unfold m_X1_empty
    rw [show (0 : Int32) = nI 0 from rfl, h1, Option.bind_some]
  · rw [(h2 x hx).1, bt_pow (by omega) hy, Rq_nil]
    simp [eq_comm]
  · rw [(h2 x hx).2, bt_0]
    intro h
    exact absurd h (by decide)
theorem tab_e (t : Fin 8) : tld ev_tab (nI t) = some (nI (evr t)) ∧ tld lk_tab (nI t) = some (nI (lkr t)) ∧ evr t < 4 ∧ lkr t < 4 := by
  revert t
  decide +kernel
theorem look_nI (c : Nat) : m_X8_lookOf (nI c) = nI (1 + 2 * c) := by unfold m_X8_lookOf; rw [two_mul, show (1 : Int32) = nI 1 from rfl, nI_add]
theorem event_nI (c : Nat) : m_X8_eventOf (nI c) = nI (2 + 2 * c) := by unfold m_X8_eventOf; rw [two_mul, show (2 : Int32) = nI 2 from rfl, nI_add]
theorem tellOne_eq {A : Told} {G : Mem} {o k : Nat} (hw : WF A) (hC : RowC A (G 2)) (ho : 2 ≠ o + 1 ∧ 2 ≠ o + 2) (hk : k < A.ns) {H : List Edge} {f g : Nat → Int32} (h : OI H f g) : ∃ f' g', m_X6_tellOne (or2 G o f g) 1 o (nI k) = some (or2 G o f' g') ∧ OI (stH A k ++ H) f' g' := by
  have h1 := hw.1
  have hC' : ∀ f g, RowC A ((or2 G o f g) 2) := fun f g => by rw [or2_n _ _ _ ho.1 ho.2]; exact hC
  unfold m_X6_tellOne stH
  rw [clauseAt_eq hw (hC' _ _) hk, Option.bind_some]
  by_cases h9 : A.cl k = 9
  · have e0 : A.clI k = -9 := if_pos h9
    have e1 : A.fiI k = nI (A.fi k) := if_pos h9
    have e2 : A.sgI k = nI (A.sg k) := if_pos h9
    have e3 : A.seI k = nI (A.se k) := if_pos h9
    obtain ⟨a, b, _, _, _, d⟩ := hw.2.2.1 k hk h9
    obtain ⟨f', g', r1, r2⟩ := relate_eq (G := G) (o := o) (p := A.fi k) (q := A.se k) (r := A.sg k) h (by omega) (by omega) (by omega)
    refine ⟨f', g', ?_, by rw [if_pos h9]; exact r2⟩
    rw [e0, if_pos rfl, firstAt_eq hw (hC' _ _) hk, Option.bind_some, signAt_eq hw (hC' _ _) hk, Option.bind_some, secondAt_eq hw (hC' _ _) hk, Option.bind_some, e1, e2, e3, r1, Option.bind_some]
  · have hc := hw.2.2.2.1 k hk h9
    have e0 : A.clI k = nI (A.cl k) := if_neg h9
    rw [if_neg h9]
    generalize A.cl k = c at hc e0
    have ht := (hw.2.1 c hc).1
    have hl := (hw.2.1 c hc).2
    obtain ⟨t1, t2, t3, t4⟩ := tab_e ⟨A.ten c, ht⟩
    simp only at t1 t2 t3 t4
    obtain ⟨f1, g1, r1, q1⟩ := relate_eq (G := G) (o := o) (p := 2 + 2 * c) (q := 1 + 2 * c) (r := evr (A.ten c)) h (by omega) (by omega) t3
    obtain ⟨f2, g2, r2, q2⟩ := relate_eq (G := G) (o := o) (p := 1 + 2 * c) (q := 0) (r := lkr (A.ten c)) q1 (by omega) (by omega) t4
    rw [e0, if_neg (m9_ne (by omega)), tenseOf_eq hw (hC' _ _) hc, Option.bind_some, if_neg (nI_pos (by omega)), if_pos (show nI (A.ten c) < (8 : Int32) from nI_lt (a := A.ten c) (b := 8) ht (by omega)), t1, Option.bind_some, event_nI, look_nI, r1, Option.bind_some, t2, Option.bind_some, show (0 : Int32) = nI 0 from rfl, r2, Option.bind_some]
    unfold clH
    by_cases hc0 : c = 0
    · refine ⟨f2, g2, ?_, ?_⟩
      · rw [if_pos (by rw [hc0]; decide)]
      · rw [if_pos hc0, List.nil_append, List.append_assoc]; exact q2
    · obtain ⟨f3, g3, r3, q3⟩ := relate_eq (G := G) (o := o) (p := 1 + 2 * (c - 1)) (q := 1 + 2 * c) (r := A.lnk c) q2 (by omega) (by omega) hl
      refine ⟨f3, g3, ?_, ?_⟩
      · have el : A.lkI c = nI (A.lnk c) := if_neg hc0
        rw [if_neg (show ¬ nI c ≤ nI 0 from nI_nle (by omega) (by omega)), linkOf_eq hw (hC' _ _) hc, Option.bind_some, el, show (1 : Int32) = nI 1 from rfl, pk_sub (by omega), look_nI, r3, Option.bind_some]
      · rw [if_neg hc0, List.append_assoc, List.append_assoc]; exact q3
theorem orderSet_eq {A : Told} {G : Mem} (hw : WF A) (hC : RowC A (G 2)) (s : Int32) : ∃ f g, m_X8_orderSet G s = some (or2 G 27 f g) ∧ OI (setH A (bt s) A.ns) f g := by
  have h1 := hw.1
  obtain ⟨f0, g0, e0, o0⟩ := empty_eq (G := G) (o := 27)
  have hC' : ∀ f g, RowC A ((or2 G 27 f g) 2) := fun f g => by rw [or2_n _ _ _ (by omega) (by omega)]; exact hC
  have key : ∀ d x n f g, x + d = A.ns → d < n → OI (setH A (bt s) x) f g → ∃ f' g', L_X8_orderSet_9 s n (nI x) (or2 G 27 f g) = some (or2 G 27 f' g') ∧ OI (setH A (bt s) A.ns) f' g' := by
    intro d
    induction d with
    | zero =>
      intro x n f g a1 a2 a3
      obtain ⟨n, rfl⟩ : ∃ k, n = k + 1 := ⟨n - 1, by omega⟩
      have e : x = A.ns := by omega
      subst e
      exact ⟨f, g, by rw [L_X8_orderSet_9, c8_1 (hC' _ _), Option.bind_some, if_pos (nI_le (by omega) (by omega))], a3⟩
    | succ d ih =>
      intro x n f g a1 a2 a3
      obtain ⟨n, rfl⟩ : ∃ k, n = k + 1 := ⟨n - 1, by omega⟩
      rw [L_X8_orderSet_9, c8_1 (hC' _ _), Option.bind_some, if_neg (nI_ge (by omega) (by omega))]
      by_cases hb : bt s x = true
      · obtain ⟨f1, g1, e1, o1⟩ := tellOne_eq (o := 27) hw hC ⟨by omega, by omega⟩ (show x < A.ns by omega) a3
        rw [if_neg (fun z => by rw [(has_0 _ (by omega)).mp z] at hb; exact absurd hb (by decide)), e1, Option.bind_some, Option.bind_some, nI_1]
        refine ih (x + 1) n f1 g1 (by omega) (by omega) ?_
        unfold setH
        rw [if_pos hb]
        exact o1
      · rw [if_pos ((has_0 _ (by omega)).mpr (by simpa using hb)), Option.bind_some, nI_1]
        refine ih (x + 1) n f g (by omega) (by omega) ?_
        unfold setH
        rw [if_neg hb]
        exact a3
  obtain ⟨f, g, r, q⟩ := key A.ns 0 NF f0 g0 (by omega) (NF_big (by omega)) o0
  refine ⟨f, g, ?_, q⟩
  unfold m_X8_orderSet
  rw [e0, Option.bind_some, show (0 : Int32) = nI 0 from rfl, r, Option.bind_some]
theorem isSound8 {G : Mem} {o : Nat} {H : List Edge} (hW : Wi 17 H) {f g : Nat → Int32} (h : OI H f g) (hf : G (o + 2) = g) : (Can H ∧ m_X1_isSound G o = some 1) ∨ (¬ Can H ∧ m_X1_isSound G o = some 0) := by
  obtain ⟨h1, h2, h3⟩ := h
  by_cases hx : ∃ x, x < 17 ∧ bt (g x) x = true
  · refine Or.inr ⟨fun hc => ?_, ?_⟩
    · obtain ⟨x, a, b⟩ := hx
      exact hc ⟨x, h2 x a x (by omega) b⟩
    · obtain ⟨x0, ⟨a, b⟩, hm⟩ := pk_least _ hx
      have key : ∀ d x n, x + d = x0 → d < n → L_X1_isSound_2 o G n (nI x) = some (Sum.inr 0) := by
        intro d
        induction d with
        | zero =>
          intro x n z1 z2
          obtain ⟨n, rfl⟩ : ∃ k, n = k + 1 := ⟨n - 1, by omega⟩
          have e : x = x0 := by omega
          subst e
          rw [L_X1_isSound_2, if_neg (show ¬ (17 : Int32) ≤ nI x from nI_ge (a := x) (b := 17) (by omega) (by omega)), ald_nI (by omega) (by omega), Option.bind_some, hf, if_neg (fun z => by rw [(has_0 _ (by omega)).mp z] at b; exact absurd b (by decide))]
        | succ d ih =>
          intro x n z1 z2
          obtain ⟨n, rfl⟩ : ∃ k, n = k + 1 := ⟨n - 1, by omega⟩
          have : ¬ bt (g x) x = true := fun z => hm x (by omega) ⟨by omega, z⟩
          rw [L_X1_isSound_2, if_neg (show ¬ (17 : Int32) ≤ nI x from nI_ge (a := x) (b := 17) (by omega) (by omega)), ald_nI (by omega) (by omega), Option.bind_some, hf, if_pos ((has_0 _ (by omega)).mpr (by simpa using this)), nI_1]
          exact ih (x + 1) n (by omega) (by omega)
      unfold m_X1_isSound
      rw [show (0 : Int32) = nI 0 from rfl, key x0 0 NF (by omega) (NF_big (by omega))]
      rfl
  · refine Or.inl ⟨fun hc => ?_, ?_⟩
    · obtain ⟨x, hx'⟩ := hc
      have := hx'.lt hW
      rcases h3 with h3 | h3
      · exact hx h3
      · exact hx ⟨x, this.1, h3 x this.1 x (by omega) hx'⟩
    · have key : ∀ d x n, x + d = 17 → d < n → L_X1_isSound_2 o G n (nI x) = some (Sum.inl ()) := by
        intro d
        induction d with
        | zero =>
          intro x n z1 z2
          obtain ⟨n, rfl⟩ : ∃ k, n = k + 1 := ⟨n - 1, by omega⟩
          have e : x = 17 := by omega
          subst e
          rw [L_X1_isSound_2, if_pos (show (17 : Int32) ≤ nI 17 from nI_le (a := 17) (b := 17) (by omega) (by omega))]
        | succ d ih =>
          intro x n z1 z2
          obtain ⟨n, rfl⟩ : ∃ k, n = k + 1 := ⟨n - 1, by omega⟩
          have : ¬ bt (g x) x = true := fun z => hx ⟨x, by omega, z⟩
          rw [L_X1_isSound_2, if_neg (show ¬ (17 : Int32) ≤ nI x from nI_ge (a := x) (b := 17) (by omega) (by omega)), ald_nI (by omega) (by omega), Option.bind_some, hf, if_pos ((has_0 _ (by omega)).mpr (by simpa using this)), nI_1]
          exact ih (x + 1) n (by omega) (by omega)
      unfold m_X1_isSound
      rw [show (0 : Int32) = nI 0 from rfl, key 17 0 NF (by omega) (NF_big (by omega))]
      rfl
theorem OI.can {H : List Edge} {f g : Nat → Int32} (h : OI H f g) (hc : Can H) : ∀ x, x < 17 → ∀ y, y < 32 → (bt (g x) y = true ↔ Sq H x y) := by
  obtain ⟨h1, h2, h3⟩ := h
  intro x hx y hy
  refine ⟨h2 x hx y hy, fun s => ?_⟩
  rcases h3 with ⟨z, hz, b⟩ | h3
  · exact absurd ⟨z, h2 z hz z (by omega) b⟩ hc
  · exact h3 x hx y hy s
/-- what is known of two times -/
noncomputable def KN (H : List Edge) (p q : Nat) : Int32 := by
  classical
  exact if ¬ Can H then 4 else if Sq H p q then 1 else if Sq H q p then 3 else if Rq H p q then 2 else 0
theorem isAhead8 {G : Mem} {o : Nat} {H : List Edge} {f g : Nat → Int32} (h : OI H f g) (hc : Can H) (hg : G (o + 2) = g) {p q : Nat} (hp : p < 17) (hq : q < 17) : (Sq H p q ∧ m_X1_isAhead G o (nI p) (nI q) = some 1) ∨ (¬ Sq H p q ∧ m_X1_isAhead G o (nI p) (nI q) = some 0) := by
  have k := h.can hc p hp q (by omega)
  unfold m_X1_isAhead
  rw [if_neg (within_1 hp), ald_nI (by omega) (by omega), Option.bind_some, hg]
  by_cases hb : bt (g p) q = true
  · exact Or.inl ⟨k.mp hb, by rw [if_neg (fun z => by rw [(has_0 _ (by omega)).mp z] at hb; exact absurd hb (by decide))]⟩
  · exact Or.inr ⟨fun z => hb (k.mpr z), by rw [if_pos ((has_0 _ (by omega)).mpr (by simpa using hb))]⟩
theorem tells8 {G : Mem} {o : Nat} {H : List Edge} (hW : Wi 17 H) {f g : Nat → Int32} (h : OI H f g) (hf : G (o + 1) = f) (hg : G (o + 2) = g) {p q : Nat} (hp : p < 17) (hq : q < 17) : m_X1_tells G o (nI p) (nI q) = some (KN H p q) := by
  unfold m_X1_tells KN
  rcases isSound8 hW h hg with ⟨hc, e⟩ | ⟨hc, e⟩
  case inr => rw [e, Option.bind_some, if_pos rfl, if_pos hc]
  rw [e, Option.bind_some, if_neg one_ne, if_neg (show ¬ ¬ Can H from fun z => z hc)]
  rcases isAhead8 h hc hg hp hq with ⟨a, e1⟩ | ⟨a, e1⟩
  · rw [e1, Option.bind_some, if_neg one_ne, if_pos a]
  rw [e1, Option.bind_some, if_pos rfl, if_neg a]
  rcases isAhead8 h hc hg hq hp with ⟨b, e2⟩ | ⟨b, e2⟩
  · rw [e2, Option.bind_some, if_neg one_ne, if_pos b]
  rw [e2, Option.bind_some, if_pos rfl, if_neg b, if_neg (within_1 hp), ald_nI (by omega) (by omega), Option.bind_some, hf]
  have k := h.1 p hp q (by omega)
  by_cases hb : bt (f p) q = true
  · rw [if_neg (fun z => by rw [(has_0 _ (by omega)).mp z] at hb; exact absurd hb (by decide)), if_pos (k.mp hb)]
  · rw [if_pos ((has_0 _ (by omega)).mpr (by simpa using hb)), if_neg (fun z => hb (k.mpr z))]
