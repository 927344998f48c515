/-! ===== 30 the class's Tally: comparing ===== -/
theorem hasN {m i : Nat} (hm : m < 256) (hi : i < 32) : m_X8_has (nI m) (nI i) = 0 ↔ ¬ m.testBit i = true := by
  rw [has_0 _ hi, bt_nI (by omega) hi]
  simp
theorem join8 {s V : Nat} (hs : s < 256) {J : Nat → Nat} {G : Mem} (hJ : ∀ d, d < 8 → G 71 d = nI (J d)) :
    Ok (m_X5_noteJoining G (nI s) (nI V)) (fun G' => (∀ k, k ≠ 71 → G' k = G k) ∧ ∀ d, d < 8 → G' 71 d = nI (J d + iv (s.testBit d = true) V)) := by
  unfold m_X5_noteJoining
  refine Ok.bind (up_loop (L_X5_noteJoining_2 (nI s) (nI V)) 8 (fun x G' => (∀ k, k ≠ 71 → G' k = G k) ∧ (∀ d, d < x → G' 71 d = nI (J d + iv (s.testBit d = true) V)) ∧ ∀ d, x ≤ d → d < 8 → G' 71 d = nI (J d)) (fun G' => (∀ k, k ≠ 71 → G' k = G k) ∧ ∀ d, d < 8 → G' 71 d = nI (J d + iv (s.testBit d = true) V)) (fun n G' h => by
    rw [L_X5_noteJoining_2, if_pos (le8 (Nat.le_refl _) (by omega))]; exact Ok.pure ⟨h.1, h.2.1⟩) (fun n x G' hx h k => ?_) NF 0 G (by omega) (NF_big (by omega)) ⟨fun _ _ => rfl, fun d h => absurd h (by omega), fun d _ h => hJ d h⟩) (fun G' h => Ok.pure h)
  obtain ⟨a1, a2, a3⟩ := h
  rw [L_X5_noteJoining_2, if_neg (nle8 hx), nI_1]
  by_cases z : s.testBit x = true
  · rw [if_neg (fun q => (hasN hs (by omega)).mp q z), ald_nI (by omega) (by omega), Option.bind_some, a3 x (Nat.le_refl _) hx, nI_add, ast_nI (by omega) (by omega), Option.bind_some, Option.bind_some]
    refine k _ ⟨fun k p => by rw [upm_n _ _ _ p]; exact a1 k p, fun d hd => ?_, fun d p q => by rw [upm_kn _ _ _ (by omega)]; exact a3 d (by omega) q⟩
    by_cases e : d = x
    · subst e; rw [upm_kj, iv_t z]
    · rw [upm_kn _ _ _ e]; exact a2 d (by omega)
  · rw [if_pos ((hasN hs (by omega)).mpr z), Option.bind_some]
    refine k _ ⟨a1, fun d hd => ?_, fun d p q => a3 d (by omega) q⟩
    by_cases e : d = x
    · subst e; rw [iv_f z, Nat.add_zero]; exact a3 d (Nat.le_refl _) hx
    · exact a2 d (by omega)
theorem ahead8 {g : Nat} (hg : g < 256) {J : Nat → Nat} {Z : Nat → Nat → Nat} {G : Mem} (hJ : ∀ d, d < 8 → G 71 d = nI (J d)) (hZ : ∀ c, c < 8 → ∀ d, d < 8 → G (73 + c) d = nI (Z c d)) :
    Ok (m_X5_noteAhead G (nI g)) (fun G' => (∀ k, k < 73 ∨ 81 ≤ k → G' k = G k) ∧ ∀ c, c < 8 → ∀ d, d < 8 → G' (73 + c) d = nI (Z c d + iv (g.testBit c = true) (J d))) := by
  have s1 : ∀ c, c < 8 → ∀ X : Mem, X 71 = G 71 → (∀ d, d < 8 → X (73 + c) d = nI (Z c d)) → Ok (L_X5_noteAhead_18 (nI c) NF 0 X) (fun X' => (∀ k, k ≠ 73 + c → X' k = X k) ∧ ∀ d, d < 8 → X' (73 + c) d = nI (Z c d + J d)) := fun c hc X h71 hX =>
    up_loop (L_X5_noteAhead_18 (nI c)) 8 (fun x s => (∀ k, k ≠ 73 + c → s k = X k) ∧ (∀ d, d < x → s (73 + c) d = nI (Z c d + J d)) ∧ ∀ d, x ≤ d → d < 8 → s (73 + c) d = nI (Z c d)) (fun X' => (∀ k, k ≠ 73 + c → X' k = X k) ∧ ∀ d, d < 8 → X' (73 + c) d = nI (Z c d + J d)) (fun n s h => by
      rw [L_X5_noteAhead_18, if_pos (le8 (Nat.le_refl _) (by omega))]; exact Ok.pure ⟨h.1, h.2.1⟩) (fun n x s hx h k => by
      obtain ⟨a1, a2, a3⟩ := h
      rw [L_X5_noteAhead_18, if_neg (nle8 hx), aal_nI hc (by omega), Option.bind_some, ald_nI (by omega) (by omega), Option.bind_some, ald_nI (by omega) (by omega), Option.bind_some, a3 x (Nat.le_refl _) hx, a1 71 (by omega), h71, hJ x hx, nI_add, ast_nI (by omega) (by omega), Option.bind_some, nI_1]
      refine k _ ⟨fun k p => by rw [upm_n _ _ _ p]; exact a1 k p, fun d hd => ?_, fun d p q => by rw [upm_kn _ _ _ (by omega)]; exact a3 d (by omega) q⟩
      by_cases e : d = x
      · subst e; exact upm_kj _ _ _ _
      · rw [upm_kn _ _ _ e]; exact a2 d (by omega)) NF 0 X (by omega) (NF_big (by omega)) ⟨fun _ _ => rfl, fun d h => absurd h (by omega), fun d _ h => hX d h⟩
  unfold m_X5_noteAhead
  refine Ok.bind (up_loop (L_X5_noteAhead_2 (nI g)) 8 (fun x s => (∀ k, k < 73 ∨ 81 ≤ k → s k = G k) ∧ (∀ c, c < x → ∀ d, d < 8 → s (73 + c) d = nI (Z c d + iv (g.testBit c = true) (J d))) ∧ ∀ c, x ≤ c → c < 8 → ∀ d, d < 8 → s (73 + c) d = nI (Z c d)) (fun G' => (∀ k, k < 73 ∨ 81 ≤ k → G' k = G k) ∧ ∀ c, c < 8 → ∀ d, d < 8 → G' (73 + c) d = nI (Z c d + iv (g.testBit c = true) (J d))) (fun n s h => by
    rw [L_X5_noteAhead_2, if_pos (le8 (Nat.le_refl _) (by omega))]; exact Ok.pure ⟨h.1, h.2.1⟩) (fun n x s hx h k => ?_) NF 0 G (by omega) (NF_big (by omega)) ⟨fun _ _ => rfl, fun d h => absurd h (by omega), fun c _ h => hZ c h⟩) (fun G' h => Ok.pure h)
  obtain ⟨a1, a2, a3⟩ := h
  rw [L_X5_noteAhead_2, if_neg (nle8 hx), nI_1]
  by_cases z : g.testBit x = true
  · rw [if_neg (fun q => (hasN hg (by omega)).mp q z)]
    obtain ⟨X', e', b1, b2⟩ := s1 x hx s (a1 71 (by omega)) (a3 x (Nat.le_refl _) hx)
    rw [e', Option.bind_some, Option.bind_some]
    refine k _ ⟨fun k p => by rw [b1 k (by omega)]; exact a1 k p, fun c hc d hd => ?_, fun c p q d hd => by rw [b1 (73 + c) (by omega)]; exact a3 c (by omega) q d hd⟩
    by_cases e : c = x
    · subst e; rw [iv_t z]; exact b2 d hd
    · rw [b1 (73 + c) (by omega)]; exact a2 c (by omega) d hd
  · rw [if_pos ((hasN hg (by omega)).mpr z), Option.bind_some]
    refine k _ ⟨a1, fun c hc d hd => ?_, fun c p q => a3 c (by omega) q⟩
    by_cases e : c = x
    · subst e; rw [iv_f z, Nat.add_zero]; exact a3 c (Nat.le_refl _) hx d hd
    · exact a2 c (by omega) d hd
theorem or_ne {g s r : Nat} (h0 : s ≠ 0) (hs : Sub s r) (hg : ∀ i, r.testBit i = true → g.testBit i = false) : g ≠ g ||| s := by
  intro e
  apply h0
  apply Nat.eq_of_testBit_eq
  intro i
  rw [Nat.zero_testBit]
  cases q : s.testBit i
  · rfl
  · have h1 := hg i (hs i q)
    rw [e, Nat.testBit_or, q, Bool.or_true] at h1
    exact absurd h1 (by decide)
theorem cmp68 {g r : Nat} (hg : g < 256) (hr : r < 256) (hgr : ∀ i, r.testBit i = true → g.testBit i = false) {Wg : Nat} {B : Nat → Nat} :
    ∀ k s n (G : Mem) (Y J : Nat → Nat), s ≤ k → s < 256 → k < n → (∀ z, z ∈ enumf r k s → Sub z r ∧ G 70 (g ||| z) = nI (B (g ||| z))) → G 69 g = nI Wg → (∀ C, C < 256 → G 69 C = nI (Y C)) → (∀ d, d < 8 → G 71 d = nI (J d)) →
    Ok (L_X5_compare_68 (nI g) (nI r) n (nI s) G) (fun G' => (∀ k, k ≠ 69 → k ≠ 71 → G' k = G k) ∧ (∀ C, C < 256 → G' 69 C = nI (Y C + lsum (fun z => iv (C = g ||| z) Wg) (enumf r k s))) ∧ ∀ d, d < 8 → G' 71 d = nI (J d + lsum (fun z => iv (z.testBit d = true) (Wg * B (g ||| z))) (enumf r k s))) := by
  intro k
  induction k with
  | zero =>
    intro s n G Y J h1 h2 h3 h4 h5 h6 h7
    obtain ⟨n, rfl⟩ : ∃ j, n = j + 1 := ⟨n - 1, by omega⟩
    have e : s = 0 := by omega
    subst e
    rw [L_X5_compare_68, if_pos (by decide)]
    exact Ok.pure ⟨fun _ _ _ => rfl, h6, h7⟩
  | succ k ih =>
    intro s n G Y J h1 h2 h3 h4 h5 h6 h7
    obtain ⟨n, rfl⟩ : ∃ j, n = j + 1 := ⟨n - 1, by omega⟩
    by_cases e : s = 0
    · subst e
      rw [L_X5_compare_68, if_pos (by decide)]
      exact Ok.pure ⟨fun _ _ _ => rfl, h6, h7⟩
    · have ee : enumf r (k + 1) s = s :: enumf r k ((s - 1) &&& r) := by
        show (if s = 0 then [] else s :: enumf r k ((s - 1) &&& r)) = _
        rw [if_neg e]
      rw [ee] at h4 ⊢
      have hle : (s - 1) &&& r ≤ s - 1 := Nat.and_le_left
      have hgs : g ||| s < 256 := Nat.or_lt_two_pow (n := 8) hg h2
      obtain ⟨hsr, h70⟩ := h4 s (List.mem_cons_self ..)
      have hne : g ≠ g ||| s := or_ne e hsr hgr
      rw [L_X5_compare_68, if_neg (nI_nle (by omega) (by omega)), idx_eq hg h2, ald_nI hgs (by omega), Option.bind_some, ald_nI hg (by omega), Option.bind_some, h6 _ hgs, h5, nI_add, ast_nI hgs (by omega), Option.bind_some, ald_nI hg (by omega), Option.bind_some, ald_nI hgs (by omega), Option.bind_some, upm_kn _ _ _ hne, h5, upm_n _ _ _ (by omega), h70, pk_mul]
      refine Ok.bind (join8 (J := J) h2 (fun d hd => by rw [upm_n _ _ _ (by omega)]; exact h7 d hd)) (fun G1 q => ?_)
      obtain ⟨q1, q2⟩ := q
      rw [nxt_eq h2 e hr]
      refine Ok.mono (ih ((s - 1) &&& r) n G1 (fun C => Y C + iv (C = g ||| s) Wg) (fun d => J d + iv (s.testBit d = true) (Wg * B (g ||| s))) (by omega) (by omega) (by omega) (fun z hz => ?_) ?_ (fun C hC => ?_) q2) (fun G2 t => ?_)
      · obtain ⟨z1, z2⟩ := h4 z (List.mem_cons_of_mem _ hz)
        exact ⟨z1, by rw [q1 70 (by omega), upm_n _ _ _ (by omega)]; exact z2⟩
      · rw [q1 69 (by omega), upm_kn _ _ _ hne]; exact h5
      · rw [q1 69 (by omega)]
        by_cases eC : C = g ||| s
        · subst eC; rw [upm_kj]; show _ = nI (Y _ + iv _ Wg); rw [iv_t rfl]
        · rw [upm_kn _ _ _ eC]; show _ = nI (Y _ + iv _ Wg); rw [iv_f eC, Nat.add_zero]; exact h6 C hC
      · obtain ⟨t1, t2, t3⟩ := t
        refine ⟨fun k a b => by rw [t1 k a b, q1 k b, upm_n _ _ _ a], fun C hC => ?_, fun d hd => ?_⟩
        · rw [t2 C hC]; show nI (Y C + iv (C = g ||| s) Wg + lsum _ _) = nI (Y C + (iv (C = g ||| s) Wg + lsum _ _)); rw [Nat.add_assoc]
        · rw [t3 d hd]; show nI (J d + iv (s.testBit d = true) (Wg * B (g ||| s)) + lsum _ _) = nI (J d + (iv (s.testBit d = true) (Wg * B (g ||| s)) + lsum _ _)); rw [Nat.add_assoc]
theorem cmp47 (G : Mem) : Ok (L_X5_compare_47 NF 0 G) (fun G' => (∀ k, k ≠ 71 → G' k = G k) ∧ ∀ d, d < 8 → G' 71 d = nI 0) :=
  up_loop L_X5_compare_47 8 (fun x s => (∀ k, k ≠ 71 → s k = G k) ∧ ∀ d, d < x → s 71 d = nI 0) _ (fun n s h => by
    rw [L_X5_compare_47, if_pos (le8 (Nat.le_refl _) (by omega))]; exact Ok.pure h) (fun n x s hx h k => by
    rw [L_X5_compare_47, if_neg (nle8 hx), ast_nI (by omega) (by omega), Option.bind_some, nI_1]
    refine k _ ⟨fun k a => by rw [upm_n _ _ _ a]; exact h.1 k a, fun i hi => ?_⟩
    by_cases e : i = x
    · subst e; exact upm_kj _ _ _ _
    · rw [upm_kn _ _ _ e]; exact h.2 i (by omega)) NF 0 G (by omega) (NF_big (by omega)) ⟨fun _ _ => rfl, fun i h => absurd h (by omega)⟩
theorem sm_cut {n m : Nat} (h : n ≤ m) {f : Nat → Nat} (hz : ∀ i, n ≤ i → i < m → f i = 0) : sm m f = sm n f := by
  obtain ⟨d, rfl⟩ : ∃ d, m = n + d := ⟨m - n, by omega⟩
  clear h
  induction d with
  | zero => rfl
  | succ d ih =>
    show sm (n + d) f + f (n + d) = sm n f
    rw [ih (fun i a b => hz i a (by omega)), hz (n + d) (by omega) (by omega), Nat.add_zero]
/-- joined so far -/
noncomputable def TJp (T : Nat → Nat → Prop) (w c d x : Nat) : Nat := sm x (fun C => iv (C.testBit c = true) (sm 256 (fun C' => iv (T C C' ∧ C'.testBit d = true ∧ C.testBit d = false) (fw T C * bw T w C'))))
noncomputable def WaP (T : Nat → Nat → Prop) (x C : Nat) : Nat := iv (C = 0) 1 + sm x (fun C' => iv (T C' C) (fw T C'))
theorem WaP_fw {T : Nat → Nat → Prop} (hT : Up T) {x C : Nat} (hx : x ≤ 256) (h : C ≤ x) (hC : C < 256) : WaP T x C = fw T C := by
  rw [fw_eq hT hC]
  unfold WaP
  rw [sm_cut hx (f := fun C' => iv (T C' C) (fw T C')) (fun i a b => iv_f (fun z => by have := hT i C z; omega) _)]
theorem cmp_sum1 {U : Nat} {bf : Nat → Nat} (hU : U < 256) {g r : Nat} (hgU : Sub g U) (hg : g < 256) (hr8 : r < 256) (hr : ∀ i, (r.testBit i = true ↔ (U.testBit i = true ∧ g.testBit i = false ∧ Sub (bf i) g))) (Wg C : Nat) (hC : C < 256) :
    lsum (fun z => iv (C = g ||| z) Wg) (enumf r 256 r) = iv (TT8 U bf g C) Wg := by
  rw [lsum_enum hr8, ← TT8_sum hU hgU hg hr8 hr (fun D => iv (C = D) Wg)]
  rw [← sm_one hC (fun D => iv (TT8 U bf g D) Wg)]
  refine sm_congr (fun D _ => ?_)
  by_cases e : D = C
  · subst e; rw [iv_t rfl, iv_t rfl]
  · rw [iv_f e, iv_f (show ¬ C = D from fun z => e z.symm), iv_0]
theorem cmp_sum2 {U : Nat} {bf : Nat → Nat} (hU : U < 256) {g r : Nat} (hgU : Sub g U) (hg : g < 256) (hr8 : r < 256) (hr : ∀ i, (r.testBit i = true ↔ (U.testBit i = true ∧ g.testBit i = false ∧ Sub (bf i) g))) (B : Nat → Nat) (d : Nat) :
    lsum (fun z => iv (z.testBit d = true) (B (g ||| z))) (enumf r 256 r) = sm 256 (fun C' => iv (TT8 U bf g C' ∧ C'.testBit d = true ∧ g.testBit d = false) (B C')) := by
  have e1 : sm 256 (fun C' => iv (TT8 U bf g C' ∧ C'.testBit d = true ∧ g.testBit d = false) (B C')) = sm 256 (fun C' => iv (TT8 U bf g C') (iv (C'.testBit d = true ∧ g.testBit d = false) (B C'))) := sm_congr (fun C' _ => by
    by_cases z : TT8 U bf g C'
    · rw [iv_t z]; exact iv_iff ⟨fun q => q.2, fun q => ⟨z, q⟩⟩ _
    · rw [iv_f z, iv_f (fun q => z q.1)])
  rw [lsum_enum hr8, e1, TT8_sum hU hgU hg hr8 hr]
  refine sm_congr (fun s hs => ?_)
  by_cases z : Sub s r ∧ s ≠ 0
  · rw [iv_t z, iv_t z]
    refine iv_iff ?_ _
    rw [Nat.testBit_or, Bool.or_eq_true]
    constructor
    · intro q; exact ⟨Or.inr q, ((hr d).mp (z.1 d q)).2.1⟩
    · rintro ⟨q | q, q2⟩
      · rw [q] at q2; exact absurd q2 (by decide)
      · exact q
  · rw [iv_f z, iv_f z]
theorem compare8 {U : Nat} {bf : Nat → Nat} (hU : U < 256) (hb : ∀ c, bf c < 256) {G : Mem} (h66 : G 66 6 = nI U) (h66t : ¬ G 66 7 = 0) (h68 : ∀ c, c < 8 → G 68 c = nI (bf c)) (h69 : ∀ i, i < 256 → G 69 i = 0) (h70 : ∀ g, g < 256 → Sub g U → G 70 g = nI (bw (TT8 U bf) U g)) (h73 : ∀ c, c < 8 → ∀ d, d < 8 → G (73 + c) d = 0) :
    Ok (m_X5_compare G) (fun G' => (∀ k, k < 69 ∨ k = 70 ∨ 81 ≤ k → G' k = G k) ∧ ∀ c, c < 8 → ∀ d, d < 8 → G' (73 + c) d = nI (TJp (TT8 U bf) U c d 256)) := by
  have hGr := TT8_Gr hU bf
  have hUp := hGr.up
  unfold m_X5_compare
  rw [if_neg h66t, Option.bind_some, show (0 : Int32) = nI 0 from rfl, ast_nI (by omega) (by omega), Option.bind_some]
  refine Ok.bind (up_loop L_X5_compare_20 256 (fun x s => (∀ k, k < 69 ∨ k = 70 ∨ 81 ≤ k → s k = G k) ∧ (∀ C, C < 256 → s 69 C = nI (WaP (TT8 U bf) x C)) ∧ ∀ c, c < 8 → ∀ d, d < 8 → s (73 + c) d = nI (TJp (TT8 U bf) U c d x)) (fun G' => (∀ k, k < 69 ∨ k = 70 ∨ 81 ≤ k → G' k = G k) ∧ ∀ c, c < 8 → ∀ d, d < 8 → G' (73 + c) d = nI (TJp (TT8 U bf) U c d 256)) (fun n s h => by
    rw [L_X5_compare_20, if_pos (le256 (Nat.le_refl _) (by omega))]; exact Ok.pure ⟨h.1, h.2.2⟩) (fun n x s hx h k => ?_) NF 0 (upm G 69 0 1) (by omega) (NF_big (by omega)) ⟨fun k hk => upm_n _ _ _ (by omega), fun C hC => ?_, fun c hc d hd => ?_⟩) (fun G' h => Ok.pure h)
  · obtain ⟨a1, a2, a3⟩ := h
    have ex : s 69 x = nI (fw (TT8 U bf) x) := by rw [a2 x hx, WaP_fw hUp (by omega) (Nat.le_refl _) hx]
    have hlt := fw_lt hGr hx
    rw [L_X5_compare_20, if_neg (nle256 hx), ald_nI hx (by omega), Option.bind_some, ex, nI_1]
    by_cases z : fw (TT8 U bf) x = 0
    · rw [z, if_pos nI_0, Option.bind_some]
      refine k _ ⟨a1, fun C hC => ?_, fun c hc d hd => ?_⟩
      · rw [a2 C hC]
        show nI (iv (C = 0) 1 + sm x _) = nI (iv (C = 0) 1 + (sm x _ + iv (TT8 U bf x C) (fw (TT8 U bf) x)))
        rw [z, iv_0, Nat.add_zero]
      · rw [a3 c hc d hd]
        show nI (sm x _) = nI (sm x _ + iv (x.testBit c = true) (sm 256 (fun C' => iv (TT8 U bf x C' ∧ C'.testBit d = true ∧ x.testBit d = false) (fw (TT8 U bf) x * bw (TT8 U bf) U C'))))
        rw [sm_zero (n := 256) (fun i _ => by rw [z, Nat.zero_mul, iv_0]), iv_0, Nat.add_zero]
    · have hxU : Sub x U := fw_in hGr x hx z
      obtain ⟨r, r1, r2, r3⟩ := ready_eq hU hb (G := s) (by rw [a1 66 (by omega)]; exact h66) (fun c hc => by rw [a1 68 (by omega)]; exact h68 c hc) hx
      rw [if_neg (nI_ne0 (by omega) (by omega)), r2, Option.bind_some]
      obtain ⟨G1, e1, b1, b2⟩ := cmp47 s
      rw [e1, Option.bind_some]
      obtain ⟨G2, e2, c1, c2, c3⟩ := cmp68 (g := x) (r := r) (Wg := fw (TT8 U bf) x) (B := bw (TT8 U bf) U) hx r1 (fun i hi => ((r3 i).mp hi).2.1) 256 r NF G1 (WaP (TT8 U bf) x) (fun _ => 0) (by omega) r1 (NF_big (by omega)) (fun t ht => by
        obtain ⟨t1, t2, t3⟩ := enum_mem r1 ht
        refine ⟨t1, ?_⟩
        have hst : TT8 U bf x (x ||| t) := ⟨hxU, hx, t, t2, t3, fun i hi => (r3 i).mp (t1 i hi), rfl⟩
        obtain ⟨_, _, g3, g4⟩ := hGr _ _ hst
        rw [b1 70 (by omega), a1 70 (by omega)]
        exact h70 _ g3 g4) (by rw [b1 69 (by omega)]; exact ex) (fun C hC => by rw [b1 69 (by omega)]; exact a2 C hC) b2
      rw [e2, Option.bind_some]
      obtain ⟨G3, e3, d1, d2⟩ := ahead8 (g := x) hx (G := G2) (Z := fun c d => TJp (TT8 U bf) U c d x) c3 (fun c hc d hd => by rw [c1 (73 + c) (by omega) (by omega), b1 (73 + c) (by omega)]; exact a3 c hc d hd)
      rw [e3, Option.bind_some, Option.bind_some]
      refine k _ ⟨fun k hk => by rw [d1 k (by omega), c1 k (by omega) (by omega), b1 k (by omega)]; exact a1 k hk, fun C hC => ?_, fun c hc d hd => ?_⟩
      · rw [d1 69 (by omega), c2 C hC, cmp_sum1 hU hxU hx r1 r3 _ C hC]
        show nI (iv (C = 0) 1 + sm x _ + _) = nI (iv (C = 0) 1 + (sm x _ + iv (TT8 U bf x C) (fw (TT8 U bf) x)))
        rw [Nat.add_assoc]
      · rw [d2 c hc d hd, Nat.zero_add, cmp_sum2 hU hxU hx r1 r3 (fun D => fw (TT8 U bf) x * bw (TT8 U bf) U D) d]
        rfl
  · by_cases e : C = 0
    · subst e
      rw [upm_kj]
      show (1 : Int32) = nI (iv (0 = 0) 1 + 0)
      rw [iv_t rfl]
      rfl
    · rw [upm_kn _ _ _ e, h69 C hC]
      show (0 : Int32) = nI (iv (C = 0) 1 + 0)
      rw [iv_f e]
      rfl
  · rw [upm_n _ _ _ (by omega), h73 c hc d hd]
    rfl
theorem compareZ {G : Mem} (h66 : G 66 7 = 0) (h69 : ∀ i, i < 256 → G 69 i = 0) : Ok (m_X5_compare G) (fun G' => ∀ k, k ≠ 69 → G' k = G k) := by
  unfold m_X5_compare
  rw [if_pos h66, Option.bind_some, show (0 : Int32) = nI 0 from rfl, ast_nI (by omega) (by omega), Option.bind_some]
  refine Ok.bind (up_loop L_X5_compare_20 256 (fun x s => (∀ k, k ≠ 69 → s k = G k) ∧ ∀ C, C < 256 → s 69 C = 0) (fun G' => ∀ k, k ≠ 69 → G' k = G k) (fun n s h => by
    rw [L_X5_compare_20, if_pos (le256 (Nat.le_refl _) (by omega))]; exact Ok.pure h.1) (fun n x s hx h k => by
    rw [L_X5_compare_20, if_neg (nle256 hx), ald_nI hx (by omega), Option.bind_some, h.2 x hx, if_pos rfl, Option.bind_some, nI_1]
    exact k _ h) NF 0 (upm G 69 0 (nI 0)) (by omega) (NF_big (by omega)) ⟨fun k hk => upm_n _ _ _ hk, fun C hC => ?_⟩) (fun G' h => Ok.pure h)
  by_cases e : C = 0
  · subst e; rw [upm_kj]; rfl
  · rw [upm_kn _ _ _ e]; exact h69 C hC
/-- what is ahead, in all: by the ways in which one joins behind the other -/
theorem T1_self {T : Nat → Nat → Prop} (hT : Up T) (hS : ∀ C C', T C C' → Sub C C') {w x : Nat} (hx : w.testBit x = true) : bw (T1 T x x) w 0 = 0 := by
  rw [bw_through hT hS hx]
  refine sm_zero (fun C _ => ?_)
  by_cases z : C.testBit x = true
  · rw [iv_t z]
    exact sm_zero (fun C' _ => iv_f (fun q => by rw [z] at q; exact absurd q.2.2 (by decide)) _)
  · exact iv_f z _
theorem TT8_S {U : Nat} (hU : U < 256) (bf : Nat → Nat) : ∀ C C', TT8 U bf C C' → Sub C C' := fun C C' h => (TT8_Gr hU bf C C' h).1
/-- a Tally filled and compared -/
def TC (U : Nat) (bf low : Nat → Nat) (nc : Nat) (G : Mem) : Prop := G 66 7 = nI (bw (TT8 U bf) U 0) ∧ (∀ c, c < nc → G 67 c = nI (low c)) ∧ ∀ c d, U.testBit c = true → U.testBit d = true → G (73 + c) d = nI (bw (T1 (TT8 U bf) c d) U 0)
theorem compareF {U : Nat} {bf low : Nat → Nat} {nc : Nat} (hU : U < 256) (hb : ∀ c, bf c < 256) {G : Mem} (h : TF U bf low nc G) : Ok (m_X5_compare G) (fun G' => FT G G' ∧ TC U bf low nc G') := by
  obtain ⟨t1, t2, t3, t4, t5, t6, t7⟩ := h
  have hUp := (TT8_Gr hU bf).up
  have hS := TT8_S hU bf
  have hlt := bw_lt (TT8_Gr hU bf) (C := 0) (by omega)
  have b8 : ∀ {i}, U.testBit i = true → i < 8 := fun {i} h => Nat.lt_of_not_le (fun z => by rw [tb_out hU z] at h; exact absurd h (by decide))
  by_cases z : bw (TT8 U bf) U 0 = 0
  · have z7 : G 66 7 = 0 := by rw [t2, z]; rfl
    refine Ok.mono (compareZ z7 t5) (fun G' q => ⟨fun k hk => q k (by omega), by rw [q 66 (by omega)]; exact t2, fun c hc => by rw [q 67 (by omega)]; exact t3 c hc, fun c d hc hd => ?_⟩)
    rw [q (73 + c) (by omega), t7 c (b8 hc) d (b8 hd)]
    by_cases e : c = d
    · subst e; rw [T1_self hUp hS hc]; rfl
    · have := bw_three hUp hS (w := U) (x := c) (y := d) hc e
      have e0 : bw (T1 (TT8 U bf) c d) U 0 = 0 := by omega
      rw [e0]; rfl
  · refine Ok.mono (compare8 hU hb t1 (by rw [t2]; exact nI_ne0 (by omega) (by omega)) t4 t5 t6 t7) (fun G' q => ⟨fun k hk => q.1 k (by omega), by rw [q.1 66 (by omega)]; exact t2, fun c hc => by rw [q.1 67 (by omega)]; exact t3 c hc, fun c d hc hd => ?_⟩)
    rw [q.2 c (b8 hc) d (b8 hd), bw_through hUp hS hd]
    rfl
