/-! ===== 29 the class's Tally: counting ===== -/
theorem low_ex (H : List Edge) (c : Nat) : ∃ l, LowOk H c l := by
  obtain ⟨l, ⟨h1, h2⟩, hm⟩ := pk_least (fun d => d ≤ c ∧ Eqq H d c) ⟨c, Nat.le_refl _, Eqq.rf H c⟩
  exact ⟨l, h1, h2, fun d hd z => hm d hd ⟨by omega, z⟩⟩
theorem fill_a {H : List Edge} (hW : Wi 17 H) (hc : Can H) {nc : Nat} (h8 : nc ≤ 8) (hs : SymE H (1 + 2 * nc)) {low : Nat → Nat} (hl : ∀ c, LowOk H c (low c)) {G : Mem} (hO : OG H G) (h66 : G 66 6 = 0) (h67 : ∀ c, c < 8 → G 67 c = nI c) :
    Ok (L_X5_fill_14 (nI nc) NF 0 G) (fun s => (∀ k, k ≠ 66 → k ≠ 67 → s k = G k) ∧ (∀ j, j ≠ 6 → s 66 j = G 66 j) ∧ (∀ c, c < nc → s 67 c = nI (low c)) ∧ ∀ y, y < 32 → (bt (s 66 6) y = true ↔ ∃ c, c < nc ∧ low c = y)) := by
  have := up_loop (L_X5_fill_14 (nI nc)) nc (fun x s => (∀ k, k ≠ 66 → k ≠ 67 → s k = G k) ∧ (∀ j, j ≠ 6 → s 66 j = G 66 j) ∧ (∀ c, c < x → s 67 c = nI (low c)) ∧ (∀ c, x ≤ c → c < 8 → s 67 c = nI c) ∧ ∀ y, y < 32 → (bt (s 66 6) y = true ↔ ∃ c, c < x ∧ low c = y)) (fun s => (∀ k, k ≠ 66 → k ≠ 67 → s k = G k) ∧ (∀ j, j ≠ 6 → s 66 j = G 66 j) ∧ (∀ c, c < nc → s 67 c = nI (low c)) ∧ ∀ y, y < 32 → (bt (s 66 6) y = true ↔ ∃ c, c < nc ∧ low c = y)) (fun n s h => by
    rw [L_X5_fill_14, if_pos (nI_le (Nat.le_refl _) (by omega))]; exact Ok.pure ⟨h.1, h.2.1, h.2.2.1, h.2.2.2.2⟩) (fun n x s hx h k => by
    obtain ⟨a1, a2, a3, a4, a5⟩ := h
    rw [L_X5_fill_14, if_neg (nI_ge hx (by omega)), if_neg (nle8 (by omega))]
    obtain ⟨l, hlo, hok⟩ := put8 hW hc (n := 1 + 2 * nc) (by omega) hs (c := x) (by omega) (G := s) (hO.k (a1 28 (by omega) (by omega)) (a1 29 (by omega) (by omega))) (a4 x (Nat.le_refl _) (by omega))
    have el : l = low x := hlo.eq (hl x) (Eqq.rf H x)
    subst el
    refine Ok.bind hok (fun s' h' => ?_)
    obtain ⟨b1, b2, b3, b4, b5⟩ := h'
    have hlx := (hl x).1
    rw [nI_1]
    refine k _ ⟨fun k p q => by rw [b1 k p q]; exact a1 k p q, fun j p => by rw [b4 j p]; exact a2 j p, fun c hc' => ?_, fun c p q => by rw [b2 c (by omega)]; exact a4 c (by omega) q, fun y hy => ?_⟩
    · by_cases e : c = x
      · subst e; exact b3
      · rw [b2 c e]; exact a3 c (by omega)
    · rw [b5, bt_or, Bool.or_eq_true, a5 y hy, bt_pow (by omega) hy]
      constructor
      · rintro (⟨c, p, q⟩ | z)
        · exact ⟨c, by omega, q⟩
        · exact ⟨x, by omega, (of_decide_eq_true z).symm⟩
      · rintro ⟨c, p, q⟩
        by_cases e : c = x
        · subst e; right; simp [q]
        · exact Or.inl ⟨c, by omega, q⟩) NF 0 G (by omega) (NF_big (by omega)) ⟨fun _ _ _ => rfl, fun _ _ => rfl, fun c h => absurd h (by omega), fun c _ h => h67 c h, fun y hy => by rw [h66, bt_0]; exact ⟨fun z => absurd z (by decide), fun ⟨c, z, _⟩ => absurd z (by omega)⟩⟩
  exact this
theorem fill_b {H : List Edge} (hc : Can H) {nc U : Nat} (h8 : nc ≤ 8) (hU : U < 256) {G : Mem} (hO : OG H G) (h66 : G 66 6 = nI U) (h68 : ∀ c, c < 8 → G 68 c = 0) :
    Ok (L_X5_fill_39 (nI nc) NF 0 G) (fun s => (∀ k, k ≠ 68 → s k = G k) ∧ ∀ c, c < 8 → ∀ y, y < 32 → (bt (s 68 c) y = true ↔ (c < nc ∧ y < 8 ∧ U.testBit y = true ∧ Ltq H y c))) :=
  up_loop (L_X5_fill_39 (nI nc)) nc (fun x s => (∀ k, k ≠ 68 → s k = G k) ∧ (∀ c, x ≤ c → c < 8 → s 68 c = 0) ∧ ∀ c, c < 8 → ∀ y, y < 32 → (bt (s 68 c) y = true ↔ (c < x ∧ y < 8 ∧ U.testBit y = true ∧ Ltq H y c))) _ (fun n s h => by
    rw [L_X5_fill_39, if_pos (nI_le (Nat.le_refl _) (by omega))]; exact Ok.pure ⟨h.1, h.2.2⟩) (fun n x s hx h k => by
    obtain ⟨a1, a2, a3⟩ := h
    rw [L_X5_fill_39, if_neg (nI_ge hx (by omega)), if_neg (nle8 (by omega))]
    refine Ok.bind (note8 hc (c := x) (by omega) hU (G := s) (hO.k (a1 28 (by omega)) (a1 29 (by omega))) (by rw [a1 66 (by omega)]; exact h66) (a2 x (Nat.le_refl _) (by omega))) (fun s' h' => ?_)
    obtain ⟨b1, b2, b3⟩ := h'
    rw [nI_1]
    refine k _ ⟨fun k p => by rw [b1 k p]; exact a1 k p, fun c p q => by rw [b2 c (by omega)]; exact a2 c (by omega) q, fun c hc' y hy => ?_⟩
    by_cases e : c = x
    · subst e
      rw [b3 y hy]
      exact ⟨fun z => ⟨by omega, z⟩, fun z => z.2⟩
    · rw [b2 c e, a3 c hc' y hy]
      exact ⟨fun z => ⟨by omega, z.2⟩, fun z => ⟨by omega, z.2⟩⟩) NF 0 G (by omega) (NF_big (by omega)) ⟨fun _ _ => rfl, fun c _ h => h68 c h, fun c h y _ => by rw [h68 c h, bt_0]; exact ⟨fun z => absurd z (by decide), fun z => absurd z.1 (by omega)⟩⟩
theorem ready_eq {U : Nat} {bf : Nat → Nat} (hU : U < 256) (hb : ∀ c, bf c < 256) {G : Mem} (h66 : G 66 6 = nI U) (h68 : ∀ c, c < 8 → G 68 c = nI (bf c)) {g : Nat} (hg : g < 256) :
    ∃ r, r < 256 ∧ m_X5_ready G (nI g) = some (nI r) ∧ ∀ i, (r.testBit i = true ↔ (U.testBit i = true ∧ g.testBit i = false ∧ Sub (bf i) g)) := by
  have hsub : ∀ x, (nI (bf x) &&& (nI g ^^^ (-1))) = 0 ↔ Sub (bf x) g := by
    intro x
    rw [sub_zero]
    have := hb x
    constructor
    · intro h i hi
      have hi8 : i < 8 := Nat.lt_of_not_le (fun z => by rw [tb_out (hb x) z] at hi; exact absurd hi (by decide))
      have := h i (by omega) (by rw [bt_nI (by omega) (by omega)]; exact hi)
      rwa [bt_nI (by omega) (by omega)] at this
    · intro h i hi hx
      rw [bt_nI (by omega) hi] at hx ⊢
      exact h i hx
  have hhas : ∀ x, x < 8 → (m_X8_has ((nI U) &&& (nI g ^^^ (-1))) (nI x) = 0 ↔ ¬ (U.testBit x = true ∧ g.testBit x = false)) := by
    intro x hx
    rw [has_0 _ (by omega), bt_and, bt_not _ (by omega), bt_nI (by omega) (by omega), bt_nI (by omega) (by omega)]
    cases U.testBit x <;> cases g.testBit x <;> simp
  obtain ⟨m, e, h⟩ := or_loop (L_X5_ready_4 (nI g) G) 8 (fun x => @ite _ (U.testBit x = true ∧ g.testBit x = false ∧ Sub (bf x) g) (Classical.propDecidable _) (1 <<< (nI x &&& 31)) 0) (fun k a => by
    rw [L_X5_ready_4, if_pos (le8 (Nat.le_refl _) (by omega))]) (fun k a x hx => by
    rw [L_X5_ready_4, if_neg (nle8 hx), h66, ald_nI (by omega) (by omega), Option.bind_some, h68 x hx, nI_1]
    by_cases z1 : U.testBit x = true ∧ g.testBit x = false
    · rw [if_neg (fun q => (hhas x hx).mp q z1)]
      by_cases z2 : Sub (bf x) g
      · rw [if_pos ((hsub x).mpr z2), Option.bind_some, if_pos ⟨z1.1, z1.2, z2⟩]
      · rw [if_neg (fun q => z2 ((hsub x).mp q)), Option.bind_some, if_neg (fun q => z2 q.2.2), or_zero']
    · rw [if_pos ((hhas x hx).mpr z1), Option.bind_some, if_neg (fun q => z1 ⟨q.1, q.2.1⟩), or_zero']) NF (NF_big (by omega))
  obtain ⟨r, r1, r2⟩ := mask_of (fun i => U.testBit i = true ∧ g.testBit i = false ∧ Sub (bf i) g)
  have r3 : ∀ i, (r.testBit i = true ↔ (U.testBit i = true ∧ g.testBit i = false ∧ Sub (bf i) g)) := by
    intro i
    by_cases hi : i < 8
    · exact r2 i hi
    · rw [tb_out r1 (by omega), tb_out hU (by omega)]
      exact ⟨fun z => absurd z (by decide), fun z => absurd z.1 (by decide)⟩
  refine ⟨r, r1, ?_, r3⟩
  unfold m_X5_ready
  rw [e, Option.bind_some]
  refine congrArg some (nI_of_bits (by omega) (fun i hi => ?_))
  have q : bt m i = true ↔ r.testBit i = true := by
    rw [h i, r3 i]
    constructor
    · rintro ⟨x, hx, z⟩
      by_cases w : U.testBit x = true ∧ g.testBit x = false ∧ Sub (bf x) g
      · rw [if_pos w, bt_pow (by omega) hi] at z
        have e : i = x := of_decide_eq_true z
        subst e; exact w
      · rw [if_neg w, bt_0] at z; exact absurd z (by decide)
    · intro w
      have hi8 : i < 8 := Nat.lt_of_not_le (fun z => by rw [tb_out hU z] at w; exact absurd w.1 (by decide))
      exact ⟨i, hi8, by rw [if_pos w, bt_pow (by omega) hi]; simp⟩
  cases u : bt m i <;> cases v : r.testBit i
  · rfl
  · rw [u, v] at q; exact absurd (q.mpr rfl) (by decide)
  · rw [u, v] at q; exact absurd (q.mp rfl) (by decide)
  · rfl
theorem or_xor {g s : Nat} (h : ∀ i, s.testBit i = true → g.testBit i = false) : (g ||| s) ^^^ g = s := by
  apply Nat.eq_of_testBit_eq
  intro i
  rw [Nat.testBit_xor, Nat.testBit_or]
  cases u : s.testBit i
  · cases g.testBit i <;> rfl
  · rw [h i u]; rfl
theorem TT8_sum {U : Nat} {bf : Nat → Nat} (hU : U < 256) {g r : Nat} (hgU : Sub g U) (hg : g < 256) (hr8 : r < 256) (hr : ∀ i, (r.testBit i = true ↔ (U.testBit i = true ∧ g.testBit i = false ∧ Sub (bf i) g))) (h : Nat → Nat) :
    sm 256 (fun C' => iv (TT8 U bf g C') (h C')) = sm 256 (fun s => iv (Sub s r ∧ s ≠ 0) (h (g ||| s))) := by
  refine sm_bij (φ := fun s => g ||| s) (ψ := fun C' => C' ^^^ g) (fun s hs q => ?_) (fun C' hC' q => ?_) (fun s hs q => rfl)
  · refine ⟨Nat.or_lt_two_pow (n := 8) hg hs, ⟨hgU, hg, s, q.2, hs, fun i hi => (hr i).mp (q.1 i hi), rfl⟩, or_xor (fun i hi => ((hr i).mp (q.1 i hi)).2.1)⟩
  · obtain ⟨_, _, s, s1, s2, s3, rfl⟩ := q
    have e : (g ||| s) ^^^ g = s := or_xor (fun i hi => (s3 i hi).2.1)
    show (g ||| s) ^^^ g < 256 ∧ _ ∧ g ||| ((g ||| s) ^^^ g) = _
    rw [e]
    exact ⟨s2, ⟨fun i hi => (hr i).mpr (s3 i hi), s1⟩, rfl⟩
theorem idx_eq {g s : Nat} (hg : g < 256) (hs : s < 256) : (nI g ||| nI s) &&& 255 = nI (g ||| s) := by
  have h : g ||| s < 256 := Nat.or_lt_two_pow (n := 8) hg hs
  rw [nI_or (by omega) (by omega), show (255 : Int32) = nI 255 from rfl, nI_and (by omega) (by omega)]
  congr 1
  rw [show (255 : Nat) = 2 ^ 8 - 1 from rfl, Nat.and_two_pow_sub_one_eq_mod]
  exact Nat.mod_eq_of_lt h
theorem nxt_eq {s r : Nat} (hs : s < 256) (h0 : s ≠ 0) (hr : r < 256) : (nI s - 1) &&& nI r = nI ((s - 1) &&& r) := by
  obtain ⟨t, rfl⟩ : ∃ t, s = t + 1 := ⟨s - 1, by omega⟩
  rw [nI_pred, nI_and (by omega) (by omega)]
  rfl
theorem on45 {g r : Nat} (hg : g < 256) (hr : r < 256) {G : Mem} {W : Nat → Nat} (acc0 : Nat) : ∀ k s n acc, s ≤ k → s < 256 → k < n → (∀ z, z ∈ enumf r k s → G 70 (g ||| z) = nI (W (g ||| z))) → L_X5_countOn_45 (nI g) (nI r) G n (nI acc) (nI s) = some (nI (acc + lsum (fun z => W (g ||| z)) (enumf r k s))) := by
  intro k
  induction k with
  | zero =>
    intro s n acc h1 h2 h3 h4
    obtain ⟨n, rfl⟩ : ∃ j, n = j + 1 := ⟨n - 1, by omega⟩
    have e : s = 0 := by omega
    subst e
    rw [L_X5_countOn_45, if_pos (by decide)]
    rfl
  | succ k ih =>
    intro s n acc h1 h2 h3 h4
    obtain ⟨n, rfl⟩ : ∃ j, n = j + 1 := ⟨n - 1, by omega⟩
    by_cases e : s = 0
    · subst e
      rw [L_X5_countOn_45, if_pos (by decide)]
      rfl
    · have ee : enumf r (k + 1) s = s :: enumf r k ((s - 1) &&& r) := by
        show (if s = 0 then [] else s :: enumf r k ((s - 1) &&& r)) = _
        rw [if_neg e]
      rw [ee] at h4 ⊢
      have hle : (s - 1) &&& r ≤ s - 1 := Nat.and_le_left
      have hgs : g ||| s < 256 := Nat.or_lt_two_pow (n := 8) hg h2
      rw [L_X5_countOn_45, if_neg (nI_nle (by omega) (by omega)), idx_eq hg h2, ald_nI hgs (by omega), Option.bind_some, h4 s (List.mem_cons_self ..), nI_add, nxt_eq h2 e hr, ih ((s - 1) &&& r) n (acc + W (g ||| s)) (by omega) (by omega) (by omega) (fun z hz => h4 z (List.mem_cons_of_mem _ hz))]
      show some (nI _) = some (nI (acc + (W (g ||| s) + lsum _ _)))
      rw [Nat.add_assoc]
theorem countOn8 {U : Nat} {bf : Nat → Nat} (hU : U < 256) (hb : ∀ c, bf c < 256) {G : Mem} (h66 : G 66 6 = nI U) (h68 : ∀ c, c < 8 → G 68 c = nI (bf c)) :
    Ok (m_X5_countOn G) (fun G' => (∀ k, k ≠ 70 → G' k = G k) ∧ ∀ g, g < 256 → Sub g U → G' 70 g = nI (bw (TT8 U bf) U g)) := by
  have hGr := TT8_Gr hU bf
  have key : ∀ x n s, x ≤ 256 → x < n → (∀ k, k ≠ 70 → s k = G k) → (∀ g, x ≤ g → g < 256 → Sub g U → s 70 g = nI (bw (TT8 U bf) U g)) → Ok (L_X5_countOn_4 n (nI x + (-1)) s) (fun G' => (∀ k, k ≠ 70 → G' k = G k) ∧ ∀ g, g < 256 → Sub g U → G' 70 g = nI (bw (TT8 U bf) U g)) := by
    intro x
    induction x with
    | zero =>
      intro n s h1 h2 h3 h4
      obtain ⟨n, rfl⟩ : ∃ j, n = j + 1 := ⟨n - 1, by omega⟩
      rw [L_X5_countOn_4, if_pos (by decide)]
      exact Ok.pure ⟨h3, fun g hg hs => h4 g (by omega) hg hs⟩
    | succ x ih =>
      intro n s h1 h2 h3 h4
      obtain ⟨n, rfl⟩ : ∃ j, n = j + 1 := ⟨n - 1, by omega⟩
      have s66 : s 66 6 = nI U := by rw [h3 66 (by omega)]; exact h66
      have s68 : ∀ c, c < 8 → s 68 c = nI (bf c) := fun c hc => by rw [h3 68 (by omega)]; exact h68 c hc
      rw [m1_nI, L_X5_countOn_4, if_neg (nI_pos (by omega)), s66]
      have hsub : (nI x &&& (nI U ^^^ (-1))) = 0 ↔ Sub x U := by
        rw [sub_zero]
        constructor
        · intro h i hi
          have hi8 : i < 8 := Nat.lt_of_not_le (fun z => by rw [tb_out (show x < 256 by omega) z] at hi; exact absurd hi (by decide))
          have := h i (by omega) (by rw [bt_nI (by omega) (by omega)]; exact hi)
          rwa [bt_nI (by omega) (by omega)] at this
        · intro h i hi hx
          rw [bt_nI (by omega) hi] at hx ⊢
          exact h i hx
      by_cases z : Sub x U
      · obtain ⟨r, r1, r2, r3⟩ := ready_eq hU hb s66 s68 (g := x) (by omega)
        rw [if_pos (hsub.mpr z), r2, Option.bind_some]
        have hv : ((if nI x = nI U then some (nI r, 1) else some (nI r, 0)) : Option (Int32 × Int32)) = some (nI r, nI (iv (x = U) 1)) := by
          by_cases q : x = U
          · rw [if_pos (by rw [q]), iv_t q]; rfl
          · rw [if_neg (fun w => q ((nI_eq (by omega) (by omega)).mp w)), iv_f q]; rfl
        have hsum := on45 (G := s) (W := bw (TT8 U bf) U) (g := x) (r := r) (by omega) r1 0 256 r NF (iv (x = U) 1) (by omega) r1 (NF_big (by omega)) (fun t ht => by
          obtain ⟨t1, t2, t3⟩ := enum_mem r1 ht
          have hlt : TT8 U bf x (x ||| t) := ⟨z, by omega, t, t2, t3, fun i hi => (r3 i).mp (t1 i hi), rfl⟩
          obtain ⟨g1, g2, g3, g4⟩ := hGr _ _ hlt
          have := g1.le
          exact h4 _ (by omega) g3 g4)
        rw [hv, Option.bind_some]
        dsimp only
        rw [hsum, Option.bind_some, ast_nI (by omega) (by omega), Option.bind_some, Option.bind_some]
        refine ih n _ (by omega) (by omega) (fun k a => by rw [upm_n _ _ _ a]; exact h3 k a) (fun g a b c => ?_)
        by_cases e : g = x
        · subst e
          rw [upm_kj, lsum_enum r1, bw_eq hGr.up U (by omega), TT8_sum hU z (by omega) r1 r3]
        · rw [upm_kn _ _ _ e]; exact h4 g (by omega) b c
      · rw [if_neg (fun q => z (hsub.mp q)), Option.bind_some]
        refine ih n s (by omega) (by omega) h3 (fun g a b c => ?_)
        by_cases e : g = x
        · subst e; exact absurd c z
        · exact h4 g (by omega) b c
  unfold m_X5_countOn
  refine Ok.bind (key 256 NF G (Nat.le_refl _) (NF_big (by omega)) (fun _ _ => rfl) (fun g a b => by omega)) (fun G' h => Ok.pure h)
/-- a Tally filled -/
def TF (U : Nat) (bf low : Nat → Nat) (nc : Nat) (G : Mem) : Prop := G 66 6 = nI U ∧ G 66 7 = nI (bw (TT8 U bf) U 0) ∧ (∀ c, c < nc → G 67 c = nI (low c)) ∧ (∀ c, c < 8 → G 68 c = nI (bf c)) ∧ (∀ i, i < 256 → G 69 i = 0) ∧ (∀ g, g < 256 → Sub g U → G 70 g = nI (bw (TT8 U bf) U g)) ∧ ∀ c, c < 8 → ∀ d, d < 8 → G (73 + c) d = 0
/-- a Tally of what can't be -/
def TZ (nc : Nat) (G : Mem) : Prop := G 66 7 = 0 ∧ (∀ c, c < 8 → G 67 c = nI c) ∧ (∀ i, i < 256 → G 69 i = 0) ∧ ∀ c, c < 8 → ∀ d, d < 8 → G (73 + c) d = 0
theorem fill8 {H : List Edge} (hW : Wi 17 H) {nc : Nat} (h8 : nc ≤ 8) (hs : SymE H (1 + 2 * nc)) {G : Mem} (hO : OG H G) :
    Ok (m_X5_fill G (nI nc)) (fun G' => FT G G' ∧ ((¬ Can H ∧ TZ nc G') ∨ (Can H ∧ ∃ low bf U, TD H nc low bf U ∧ TF U bf low nc G'))) := by
  unfold m_X5_fill
  refine Ok.bind (empty8 G) (fun G1 h1 => ?_)
  obtain ⟨f1, z6, z7, zw, zc⟩ := h1
  have hO1 : OG H G1 := hO.k (f1 28 (by omega)) (f1 29 (by omega))
  obtain ⟨f, g, o1, o2, o3⟩ := hO1
  rcases isSound8 (G := G1) (o := 27) hW o1 o3 with ⟨hc, e⟩ | ⟨hc, e⟩
  case inr =>
    rw [e, Option.bind_some, if_pos rfl]
    exact Ok.pure ⟨f1, Or.inl ⟨hc, z7, fun c h => (zc c h).1, fun i h => (zw i h).1, fun c h => (zc c h).2.2⟩⟩
  rw [e, Option.bind_some, if_neg one_ne]
  have hO1 : OG H G1 := ⟨f, g, o1, o2, o3⟩
  let low : Nat → Nat := fun c => Classical.choose (low_ex H c)
  have hl : ∀ c, LowOk H c (low c) := fun c => Classical.choose_spec (low_ex H c)
  refine Ok.bind (fill_a hW hc h8 hs hl hO1 z6 (fun c h => (zc c h).1)) (fun G2 h2 => ?_)
  obtain ⟨a1, a2, a3, a4⟩ := h2
  obtain ⟨U, hU, u1⟩ := mask_of (fun i => ∃ c, c < nc ∧ low c = i)
  have u2 : ∀ i, U.testBit i = true ↔ ∃ c, c < nc ∧ low c = i := by
    intro i
    by_cases hi : i < 8
    · exact u1 i hi
    · rw [tb_out hU (by omega)]
      exact ⟨fun z => absurd z (by decide), fun ⟨c, p, q⟩ => by have := (hl c).1; omega⟩
  have e66 : G2 66 6 = nI U := nI_of_bits (by omega) (fun i hi => by
    have p := a4 i hi
    rw [← u2 i] at p
    cases u : bt (G2 66 6) i <;> cases v : U.testBit i
    · rfl
    · rw [u, v] at p; exact absurd (p.mpr rfl) (by decide)
    · rw [u, v] at p; exact absurd (p.mp rfl) (by decide)
    · rfl)
  have hO2 : OG H G2 := hO1.k (a1 28 (by omega) (by omega)) (a1 29 (by omega) (by omega))
  refine Ok.bind (fill_b hc h8 hU hO2 e66 (fun c h => by rw [a1 68 (by omega) (by omega)]; exact (zc c h).2.1)) (fun G3 h3 => ?_)
  obtain ⟨b1, b2⟩ := h3
  have hbf : ∀ c, ∃ m, m < 256 ∧ ∀ i, i < 8 → (m.testBit i = true ↔ (c < nc ∧ U.testBit i = true ∧ Ltq H i c)) := fun c => mask_of (fun i => c < nc ∧ U.testBit i = true ∧ Ltq H i c)
  let bf : Nat → Nat := fun c => Classical.choose (hbf c)
  have hbf1 : ∀ c, bf c < 256 := fun c => (Classical.choose_spec (hbf c)).1
  have hbf2 : ∀ c i, ((bf c).testBit i = true ↔ (c < nc ∧ U.testBit i = true ∧ Ltq H i c)) := fun c i => by
    by_cases hi : i < 8
    · exact (Classical.choose_spec (hbf c)).2 i hi
    · rw [tb_out (hbf1 c) (by omega), tb_out hU (by omega)]
      exact ⟨fun z => absurd z (by decide), fun z => absurd z.2.1 (by decide)⟩
  have e68 : ∀ c, c < 8 → G3 68 c = nI (bf c) := fun c hc8 => nI_of_bits (by have := hbf1 c; omega) (fun i hi => by
    have p : bt (G3 68 c) i = true ↔ (bf c).testBit i = true := by
      rw [b2 c hc8 i hi, hbf2 c i]
      exact ⟨fun z => ⟨z.1, z.2.2⟩, fun z => ⟨z.1, Nat.lt_of_not_le (fun q => by rw [tb_out hU q] at z; exact absurd z.2.1 (by decide)), z.2⟩⟩
    cases u : bt (G3 68 c) i <;> cases v : (bf c).testBit i
    · rfl
    · rw [u, v] at p; exact absurd (p.mpr rfl) (by decide)
    · rw [u, v] at p; exact absurd (p.mp rfl) (by decide)
    · rfl)
  refine Ok.bind (countOn8 hU hbf1 (by rw [b1 66 (by omega)]; exact e66) e68) (fun G4 h4 => ?_)
  obtain ⟨c1, c2⟩ := h4
  have e0 := c2 0 (by omega) (fun i hi => by simp at hi)
  rw [show (0 : Int32) = nI 0 from rfl, ald_nI (by omega) (by omega), Option.bind_some, e0]
  refine Ok.pure ⟨fun k hk => ?_, Or.inr ⟨hc, low, bf, U, ⟨hU, fun c _ => hl c, u2, hbf1, fun c hc' d => ?_⟩, ?_, upm_kj _ _ _ _, fun c hc' => ?_, fun c hc' => ?_, fun i hi => ?_, fun g hg hsb => ?_, fun c hc' d hd => ?_⟩⟩
  · rw [upm_n _ _ _ (by omega), c1 k (by omega), b1 k (by omega), a1 k (by omega) (by omega), f1 k hk]
  · rw [hbf2 c d]; exact ⟨fun z => z.2, fun z => ⟨hc', z⟩⟩
  · rw [upm_kn _ _ _ (by omega), c1 66 (by omega), b1 66 (by omega)]; exact e66
  · rw [upm_n _ _ _ (by omega), c1 67 (by omega), b1 67 (by omega)]; exact a3 c hc'
  · rw [upm_n _ _ _ (by omega), c1 68 (by omega)]; exact e68 c hc'
  · rw [upm_n _ _ _ (by omega), c1 69 (by omega), b1 69 (by omega), a1 69 (by omega) (by omega)]; exact (zw i hi).1
  · rw [upm_n _ _ _ (by omega)]; exact c2 g hg hsb
  · rw [upm_n _ _ _ (by omega), c1 (73 + c) (by omega), b1 (73 + c) (by omega), a1 (73 + c) (by omega) (by omega)]; exact (zc c hc').2.2 d hd
