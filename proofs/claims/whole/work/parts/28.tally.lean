/-! ===== 28 the class's Tally: what is together, what is before ===== -/
def FT (G G' : Mem) : Prop := ∀ k, k < 66 ∨ 81 ≤ k → G' k = G k
theorem FT.tr {G G' G'' : Mem} (h : FT G G') (h' : FT G' G'') : FT G G'' := fun k a => (h' k a).trans (h k a)
theorem le8 {a : Nat} (h : 8 ≤ a) (ha : a < 2147483648) : (8 : Int32) ≤ nI a := nI_le (a := 8) h ha
theorem nle8 {a : Nat} (h : a < 8) : ¬ (8 : Int32) ≤ nI a := nI_ge (b := 8) h (by omega)
theorem le256 {a : Nat} (h : 256 ≤ a) (ha : a < 2147483648) : (256 : Int32) ≤ nI a := nI_le (a := 256) h ha
theorem nle256 {a : Nat} (h : a < 256) : ¬ (256 : Int32) ≤ nI a := nI_ge (b := 256) h (by omega)
theorem w8_1 {c : Nat} (h : c < 8) : ¬ m_X5_isWithin (nI c) = 0 := by
  unfold m_X5_isWithin
  rw [if_neg (nI_pos (by omega)), if_neg (nle8 h)]
  exact one_ne
theorem add_m1 (a : Int32) : a + (-1) = a - 1 := by rw [Int32.sub_eq_add_neg]
theorem m1_nI (x : Nat) : nI (x + 1) + (-1) = nI x := pk_m1 x
theorem empty8 (G : Mem) : Ok (m_X5_empty G) (fun G' => FT G G' ∧ G' 66 6 = 0 ∧ G' 66 7 = 0 ∧ (∀ i, i < 256 → G' 69 i = 0 ∧ G' 70 i = 0) ∧ ∀ c, c < 8 → G' 67 c = nI c ∧ G' 68 c = 0 ∧ ∀ d, d < 8 → G' (73 + c) d = 0) := by
  unfold m_X5_empty
  have s1 : ∀ G, Ok (L_X5_empty_12 NF 0 G) (fun G' => (∀ k, k ≠ 69 → k ≠ 70 → G' k = G k) ∧ ∀ i, i < 256 → G' 69 i = 0 ∧ G' 70 i = 0) := fun G =>
    up_loop L_X5_empty_12 256 (fun x s => (∀ k, k ≠ 69 → k ≠ 70 → s k = G k) ∧ ∀ i, i < x → s 69 i = 0 ∧ s 70 i = 0) _ (fun n s h => by
      rw [L_X5_empty_12, if_pos (le256 (Nat.le_refl _) (by omega))]; exact Ok.pure h) (fun n x s hx h k => by
      rw [L_X5_empty_12, if_neg (nle256 hx), ast_nI (by omega) (by omega), Option.bind_some, ast_nI (by omega) (by omega), Option.bind_some, nI_1]
      refine k _ ⟨fun k a b => by rw [upm_n _ _ _ b, upm_n _ _ _ a]; exact h.1 k a b, fun i hi => ?_⟩
      by_cases e : i = x
      · subst e; exact ⟨by rw [upm_n _ _ _ (by omega), upm_kj], upm_kj _ _ _ _⟩
      · exact ⟨by rw [upm_n _ _ _ (by omega), upm_kn _ _ _ e]; exact (h.2 i (by omega)).1, by rw [upm_kn _ _ _ e, upm_n _ _ _ (by omega)]; exact (h.2 i (by omega)).2⟩) NF 0 G (by omega) (NF_big (by omega)) ⟨fun _ _ _ => rfl, fun i h => absurd h (by omega)⟩
  have s2 : ∀ G c, c < 8 → Ok (L_X5_empty_63 (nI c) NF 0 G) (fun G' => (∀ k, k ≠ 73 + c → G' k = G k) ∧ ∀ d, d < 8 → G' (73 + c) d = 0) := fun G c hc =>
    up_loop (L_X5_empty_63 (nI c)) 8 (fun x s => (∀ k, k ≠ 73 + c → s k = G k) ∧ ∀ d, d < x → s (73 + c) d = 0) _ (fun n s h => by
      rw [L_X5_empty_63, if_pos (le8 (Nat.le_refl _) (by omega))]; exact Ok.pure h) (fun n x s hx h k => by
      rw [L_X5_empty_63, if_neg (nle8 hx), aal_nI hc (by omega), Option.bind_some, ast_nI (by omega) (by omega), Option.bind_some, nI_1]
      refine k _ ⟨fun k a => by rw [upm_n _ _ _ a]; exact h.1 k a, fun i hi => ?_⟩
      by_cases e : i = x
      · subst e; exact upm_kj _ _ _ _
      · rw [upm_kn _ _ _ e]; exact h.2 i (by omega)) NF 0 G (by omega) (NF_big (by omega)) ⟨fun _ _ => rfl, fun i h => absurd h (by omega)⟩
  have s3 : ∀ G, Ok (L_X5_empty_41 NF 0 G) (fun G' => (∀ k, k ≠ 67 → k ≠ 68 → (k < 73 ∨ 81 ≤ k) → G' k = G k) ∧ ∀ c, c < 8 → G' 67 c = nI c ∧ G' 68 c = 0 ∧ ∀ d, d < 8 → G' (73 + c) d = 0) := fun G =>
    up_loop L_X5_empty_41 8 (fun x s => (∀ k, k ≠ 67 → k ≠ 68 → (k < 73 ∨ 81 ≤ k) → s k = G k) ∧ ∀ c, c < x → s 67 c = nI c ∧ s 68 c = 0 ∧ ∀ d, d < 8 → s (73 + c) d = 0) _ (fun n s h => by
      rw [L_X5_empty_41, if_pos (le8 (Nat.le_refl _) (by omega))]; exact Ok.pure h) (fun n x s hx h k => by
      rw [L_X5_empty_41, if_neg (nle8 hx), ast_nI (by omega) (by omega), Option.bind_some, ast_nI (by omega) (by omega), Option.bind_some]
      refine Ok.bind (s2 _ x hx) (fun G' hG' => ?_)
      rw [nI_1]
      refine k _ ⟨fun k a b c => by rw [hG'.1 k (by omega), upm_n _ _ _ b, upm_n _ _ _ a]; exact h.1 k a b c, fun c hc => ?_⟩
      by_cases e : c = x
      · subst e
        exact ⟨by rw [hG'.1 67 (by omega), upm_n _ _ _ (by omega), upm_kj], by rw [hG'.1 68 (by omega), upm_kj], hG'.2⟩
      · obtain ⟨h1, h2, h3⟩ := h.2 c (by omega)
        refine ⟨by rw [hG'.1 67 (by omega), upm_n _ _ _ (by omega), upm_kn _ _ _ e]; exact h1, by rw [hG'.1 68 (by omega), upm_kn _ _ _ e, upm_n _ _ _ (by omega)]; exact h2, fun d hd => ?_⟩
        rw [hG'.1 (73 + c) (by omega), upm_n _ _ _ (by omega), upm_n _ _ _ (by omega)]
        exact h3 d hd) NF 0 G (by omega) (NF_big (by omega)) ⟨fun _ _ _ _ => rfl, fun i h => absurd h (by omega)⟩
  refine Ok.bind (s1 _) (fun G1 h1 => Ok.bind (s3 G1) (fun G2 h2 => Ok.pure ?_))
  have e66 : G2 66 = (upm (upm G 66 6 0) 66 7 0) 66 := by rw [h2.1 66 (by omega) (by omega) (by omega), h1.1 66 (by omega) (by omega)]
  refine ⟨fun k hk => ?_, ?_, ?_, fun i hi => ?_, h2.2⟩
  · rw [h2.1 k (by omega) (by omega) (by omega), h1.1 k (by omega) (by omega), upm_n _ _ _ (by omega), upm_n _ _ _ (by omega)]
  · rw [e66, upm_kn _ _ _ (by omega), upm_kj]
  · rw [e66, upm_kj]
  · rw [h2.1 69 (by omega) (by omega) (by omega), h2.1 70 (by omega) (by omega) (by omega)]
    exact h1.2 i hi
def Eqq (H : List Edge) (c d : Nat) : Prop := Rq H (2 + 2 * c) (2 + 2 * d) ∧ Rq H (2 + 2 * d) (2 + 2 * c)
def Ltq (H : List Edge) (c d : Nat) : Prop := Sq H (2 + 2 * c) (2 + 2 * d)
/-- those not behind and not ahead are at once -/
def SymE (H : List Edge) (n : Nat) : Prop := ∀ p q, p < n → q < n → Rq H p q → ¬ Sq H p q → Rq H q p
theorem KN2 {H : List Edge} (hc : Can H) {n : Nat} (hs : SymE H n) {c d : Nat} (h1 : 2 + 2 * c < n) (h2 : 2 + 2 * d < n) : KN H (2 + 2 * c) (2 + 2 * d) = 2 ↔ Eqq H c d := by
  rcases KN_cases H (2 + 2 * c) (2 + 2 * d) with ⟨h, _⟩ | ⟨_, h⟩
  · exact absurd hc h
  rcases h with ⟨a, k⟩ | ⟨a, b, k⟩ | ⟨a, b, r, k⟩ | ⟨a, b, r, k⟩ <;> rw [k]
  · exact ⟨fun z => absurd z (by decide), fun z => absurd ⟨_, a.r z.2⟩ hc⟩
  · exact ⟨fun z => absurd z (by decide), fun z => absurd ⟨_, b.r z.1⟩ hc⟩
  · exact ⟨fun _ => ⟨r, hs _ _ h1 h2 r a⟩, fun _ => rfl⟩
  · exact ⟨fun z => absurd z (by decide), fun z => absurd z.1 r⟩
/-- the lowest of those at once -/
def LowOk (H : List Edge) (c l : Nat) : Prop := l ≤ c ∧ Eqq H l c ∧ ∀ d, d < l → ¬ Eqq H d c
theorem Eqq.rf (H : List Edge) (c : Nat) : Eqq H c c := ⟨Rq.rf _ _, Rq.rf _ _⟩
theorem Eqq.sy {H : List Edge} {c d : Nat} (h : Eqq H c d) : Eqq H d c := ⟨h.2, h.1⟩
theorem Eqq.tr {H : List Edge} {c d e : Nat} (h : Eqq H c d) (h' : Eqq H d e) : Eqq H c e := ⟨h.1.tr h'.1, h'.2.tr h.2⟩
theorem LowOk.eq {H : List Edge} {c c' l l' : Nat} (h : LowOk H c l) (h' : LowOk H c' l') (e : Eqq H c c') : l = l' := by
  rcases Nat.lt_trichotomy l l' with z | z | z
  · exact absurd (h.2.1.tr e) (h'.2.2 l z)
  · exact z
  · exact absurd (h'.2.1.tr e.sy) (h.2.2 l' z)
/-- where the Order of all statements lies -/
def OG (H : List Edge) (G : Mem) : Prop := ∃ f g, OI H f g ∧ G 28 = f ∧ G 29 = g
theorem OG.k {H : List Edge} {G G' : Mem} (h : OG H G) (e1 : G' 28 = G 28) (e2 : G' 29 = G 29) : OG H G' := by
  obtain ⟨f, g, a, b, c⟩ := h
  exact ⟨f, g, a, e1.trans b, e2.trans c⟩
theorem put8 {H : List Edge} (hW : Wi 17 H) (hc : Can H) {n : Nat} (hn : n ≤ 17) (hs : SymE H n) {c : Nat} (hc8 : 2 + 2 * c < n) {G : Mem} (hO : OG H G) (h67 : G 67 c = nI c) :
    ∃ l, LowOk H c l ∧ Ok (m_X5_putTogether G (nI c)) (fun G' => (∀ k, k ≠ 66 → k ≠ 67 → G' k = G k) ∧ (∀ j, j ≠ c → G' 67 j = G 67 j) ∧ G' 67 c = nI l ∧ (∀ j, j ≠ 6 → G' 66 j = G 66 j) ∧ G' 66 6 = (G 66 6) ||| (1 <<< (nI l &&& 31))) := by
  have key : ∀ x m s l, x < m → x ≤ c → (∀ k, k ≠ 67 → s k = G k) → (∀ j, j ≠ c → s 67 j = G 67 j) → s 67 c = nI l → l ≤ c → Eqq H l c → (∀ d, x ≤ d → d < l → ¬ Eqq H d c) → ∃ l', LowOk H c l' ∧ Ok (L_X5_putTogether_12 (nI c) m (nI x - 1) s) (fun s' => (∀ k, k ≠ 67 → s' k = G k) ∧ (∀ j, j ≠ c → s' 67 j = G 67 j) ∧ s' 67 c = nI l') := by
    intro x
    induction x with
    | zero =>
      intro m s l h1 h2 h3 h4 h5 h6 h7 h8
      obtain ⟨m, rfl⟩ : ∃ k, m = k + 1 := ⟨m - 1, by omega⟩
      refine ⟨l, ⟨h6, h7, fun d hd => h8 d (by omega) hd⟩, ?_⟩
      rw [L_X5_putTogether_12, if_pos (by decide)]
      exact Ok.pure ⟨h3, h4, h5⟩
    | succ x ih =>
      intro m s l h1 h2 h3 h4 h5 h6 h7 h8
      obtain ⟨m, rfl⟩ : ∃ k, m = k + 1 := ⟨m - 1, by omega⟩
      obtain ⟨f, g, o1, o2, o3⟩ := hO.k (h3 28 (by omega)) (h3 29 (by omega))
      rw [nI_pred, L_X5_putTogether_12, if_neg (nI_pos (by omega)), event_nI, event_nI, tells8 (o := 27) hW o1 o2 o3 (by omega) (by omega), Option.bind_some, add_m1]
      by_cases z : KN H (2 + 2 * x) (2 + 2 * c) = 2
      · rw [if_pos z, ast_nI (by omega) (by omega), Option.bind_some, Option.bind_some]
        refine ih m _ x (by omega) (by omega) (fun k a => by rw [upm_n _ _ _ a]; exact h3 k a) (fun j a => by rw [upm_kn _ _ _ a]; exact h4 j a) (upm_kj _ _ _ _) (by omega) ((KN2 hc hs (by omega) (by omega)).mp z) (fun d a b => by omega)
      · rw [if_neg z, Option.bind_some]
        refine ih m s l (by omega) (by omega) h3 h4 h5 h6 h7 (fun d a b => ?_)
        by_cases e : d = x
        · subst e; exact fun q => z ((KN2 hc hs (by omega) (by omega)).mpr q)
        · exact h8 d (by omega) b
  obtain ⟨l, hl, s, e, q1, q2, q3⟩ := key c NF G c (NF_big (by omega)) (Nat.le_refl _) (fun _ _ => rfl) (fun _ _ => rfl) h67 (Nat.le_refl _) (Eqq.rf H c) (fun d a b => by omega)
  refine ⟨l, hl, ?_⟩
  unfold m_X5_putTogether
  rw [if_neg (w8_1 (by omega)), e, Option.bind_some, ald_nI (by omega) (by omega), Option.bind_some, q3]
  refine Ok.pure ⟨fun k a b => by rw [upm_n _ _ _ a]; exact q1 k b, fun j a => by rw [upm_n _ _ _ (by omega)]; exact q2 j a, by rw [upm_n _ _ _ (by omega)]; exact q3, fun j a => by rw [upm_kn _ _ _ a, q1 66 (by omega)], by rw [upm_kj, q1 66 (by omega)]⟩
theorem note8 {H : List Edge} (hc : Can H) {c U : Nat} (hc8 : c < 8) (hU : U < 256) {G : Mem} (hO : OG H G) (h66 : G 66 6 = nI U) (h68 : G 68 c = 0) :
    Ok (m_X5_noteBefore G (nI c)) (fun G' => (∀ k, k ≠ 68 → G' k = G k) ∧ (∀ j, j ≠ c → G' 68 j = G 68 j) ∧ ∀ y, y < 32 → (bt (G' 68 c) y = true ↔ (y < 8 ∧ U.testBit y = true ∧ Ltq H y c))) := by
  unfold m_X5_noteBefore
  rw [if_neg (w8_1 hc8)]
  refine Ok.bind (up_loop (L_X5_noteBefore_10 (nI c)) 8 (fun x s => (∀ k, k ≠ 68 → s k = G k) ∧ (∀ j, j ≠ c → s 68 j = G 68 j) ∧ ∀ y, y < 32 → (bt (s 68 c) y = true ↔ (y < x ∧ U.testBit y = true ∧ Ltq H y c))) _ (fun n s h => by
    rw [L_X5_noteBefore_10, if_pos (le8 (Nat.le_refl _) (by omega))]; exact Ok.pure h) (fun n x s hx h k => ?_) NF 0 G (by omega) (NF_big (by omega)) ⟨fun _ _ => rfl, fun _ _ => rfl, fun y hy => by rw [h68, bt_0]; exact ⟨fun z => absurd z (by decide), fun z => absurd z.1 (by omega)⟩⟩) (fun G' h => Ok.pure h)
  obtain ⟨a1, a2, a3⟩ := h
  obtain ⟨f, g, o1, o2, o3⟩ := hO.k (a1 28 (by omega)) (a1 29 (by omega))
  rw [L_X5_noteBefore_10, if_neg (nle8 hx), a1 66 (by omega), h66, nI_1]
  have hb := bt_nI (n := U) (i := x) (by omega) (by omega)
  by_cases z : U.testBit x = true
  · rw [if_neg (fun q => by rw [(has_0 _ (by omega)).mp q] at hb; rw [← hb] at z; exact absurd z (by decide)), event_nI, event_nI]
    rcases isAhead8 (G := s) (o := 27) o1 hc o3 (p := 2 + 2 * x) (q := 2 + 2 * c) (by omega) (by omega) with ⟨u, v⟩ | ⟨u, v⟩
    · rw [v, Option.bind_some, if_neg one_ne, ald_nI (by omega) (by omega), Option.bind_some, ast_nI (by omega) (by omega), Option.bind_some, Option.bind_some]
      refine k _ ⟨fun k a => by rw [upm_n _ _ _ a]; exact a1 k a, fun j a => by rw [upm_kn _ _ _ a]; exact a2 j a, fun y hy => ?_⟩
      rw [upm_kj, bt_or, Bool.or_eq_true, bt_pow (by omega) hy, a3 y hy]
      constructor
      · rintro (⟨b1, b2⟩ | b)
        · exact ⟨by omega, b2⟩
        · have e : y = x := by simpa using b
          subst e
          exact ⟨by omega, z, u⟩
      · rintro ⟨b1, b2⟩
        by_cases e : y = x
        · right; simp [e]
        · exact Or.inl ⟨by omega, b2⟩
    · rw [v, Option.bind_some, if_pos rfl, Option.bind_some]
      refine k _ ⟨a1, a2, fun y hy => ?_⟩
      rw [a3 y hy]
      constructor
      · rintro ⟨b1, b2⟩; exact ⟨by omega, b2⟩
      · rintro ⟨b1, b2⟩
        by_cases e : y = x
        · subst e; exact absurd b2.2 u
        · exact ⟨by omega, b2⟩
  · rw [if_pos ((has_0 _ (by omega)).mpr (by rw [hb]; simpa using z)), Option.bind_some]
    refine k _ ⟨a1, a2, fun y hy => ?_⟩
    rw [a3 y hy]
    constructor
    · rintro ⟨b1, b2⟩; exact ⟨by omega, b2⟩
    · rintro ⟨b1, b2⟩
      by_cases e : y = x
      · subst e; exact absurd b2.1 z
      · exact ⟨by omega, b2⟩
/-- lowest, together, before -/
def TD (H : List Edge) (nc : Nat) (low bf : Nat → Nat) (U : Nat) : Prop := U < 256 ∧ (∀ c, c < nc → LowOk H c (low c)) ∧ (∀ i, U.testBit i = true ↔ ∃ c, c < nc ∧ low c = i) ∧ (∀ c, bf c < 256) ∧ (∀ c, c < nc → ∀ d, (bf c).testBit d = true ↔ (U.testBit d = true ∧ Ltq H d c))
/-- the parts that a Tally goes through -/
def TT8 (U : Nat) (bf : Nat → Nat) (g g' : Nat) : Prop := Sub g U ∧ g < 256 ∧ ∃ s, s ≠ 0 ∧ s < 256 ∧ (∀ i, s.testBit i = true → (U.testBit i = true ∧ g.testBit i = false ∧ Sub (bf i) g)) ∧ g' = g ||| s
theorem TT8_Gr {U : Nat} (hU : U < 256) (bf : Nat → Nat) : Gr (TT8 U bf) U := by
  rintro C C' ⟨h1, h2, s, h3, h4, h5, rfl⟩
  refine ⟨fun i hi => by rw [Nat.testBit_or, hi]; rfl, fun e => ?_, Nat.or_lt_two_pow (n := 8) h2 h4, fun i hi => ?_⟩
  · obtain ⟨i, hi⟩ : ∃ i, s.testBit i = true := by
      refine Classical.byContradiction (fun hn => h3 (Nat.eq_of_testBit_eq (fun i => ?_)))
      rw [Nat.zero_testBit]
      cases q : s.testBit i
      · rfl
      · exact absurd ⟨i, q⟩ hn
    have := (h5 i hi).2.1
    rw [e, Nat.testBit_or, hi] at this
    simp at this
  · rw [Nat.testBit_or, Bool.or_eq_true] at hi
    rcases hi with hi | hi
    · exact h1 i hi
    · exact (h5 i hi).1
