/-! ===== 32 the reference's orders ===== -/
theorem wholeI {nc : Nat} (h : nc ≤ 8) : ((1 : Int32) <<< (nI nc &&& 31)) - 1 = nI (2 ^ nc - 1) := nI_of_bits (by have := whole_lt h; omega) (fun i hi => by rw [bt_all (by omega) hi, Nat.testBit_two_pow_sub_one])
theorem zsh (b : Fin 32) : (0 : Int32) <<< (nI b &&& 31) = 0 := by
  revert b
  decide +kernel
theorem shr_shl (x : Int32) {k e : Nat} (hk : k < 32) (he : e < 32) : (((x >>> (nI k &&& 31)) &&& 1) <<< (nI e &&& 31)) = if bt x k then 1 <<< (nI e &&& 31) else 0 := by
  rw [shr_one x hk]
  by_cases z : bt x k = true
  · rw [if_pos z, if_pos z]
  · rw [if_neg z, if_neg z]
    exact zsh ⟨e, he⟩
theorem ev_nI (c : Nat) : (2 : Int32) + 2 * nI c = nI (2 + 2 * c) := by rw [two_mul]; exact nI_add 2 (2 * c)
theorem nsub {a b : Nat} (ha : a < 256) (hb : b < 256) : (nI a &&& (nI b ^^^ (-1))) = 0 ↔ Sub a b := by
  rw [sub_zero]
  constructor
  · intro h i hi
    have hi8 : i < 8 := Nat.lt_of_not_le (fun z => by rw [tb_out ha z] at hi; exact absurd hi (by decide))
    have := h i (by omega) (by rw [bt_nI (by omega) (by omega)]; exact hi)
    rwa [bt_nI (by omega) (by omega)] at this
  · intro h i hi hx
    rw [bt_nI (by omega) hi] at hx ⊢
    exact h i hx
theorem ord61 {nc c : Nat} (h8 : nc ≤ 8) (hc : c < nc) {G : Mem} (h96 : G 96 c = 0) (h97 : G 97 c = 0) :
    Ok (L_X9_ordersWith_61 (nI nc) (nI c) NF 0 G) (fun s => (∀ k, k ≠ 96 → k ≠ 97 → s k = G k) ∧ (∀ j, j ≠ c → s 96 j = G 96 j ∧ s 97 j = G 97 j) ∧ (∀ y, y < 32 → (bt (s 96 c) y = true ↔ (y < nc ∧ bt (G 94 (2 + 2 * c)) (2 + 2 * y) = true))) ∧ (∀ y, y < 32 → (bt (s 97 c) y = true ↔ (y < nc ∧ G 91 (2 + 2 * c) = G 91 (2 + 2 * y))))) := by
  refine up_loop (L_X9_ordersWith_61 (nI nc) (nI c)) nc (fun x s => (∀ k, k ≠ 96 → k ≠ 97 → s k = G k) ∧ (∀ j, j ≠ c → s 96 j = G 96 j ∧ s 97 j = G 97 j) ∧ (∀ y, y < 32 → (bt (s 96 c) y = true ↔ (y < x ∧ bt (G 94 (2 + 2 * c)) (2 + 2 * y) = true))) ∧ (∀ y, y < 32 → (bt (s 97 c) y = true ↔ (y < x ∧ G 91 (2 + 2 * c) = G 91 (2 + 2 * y))))) _ (fun n s h => by
    rw [L_X9_ordersWith_61, if_pos (nI_le (Nat.le_refl _) (by omega))]; exact Ok.pure h) (fun n x s hx h k => ?_) NF 0 G (by omega) (NF_big (by omega)) ⟨fun _ _ _ => rfl, fun _ _ => ⟨rfl, rfl⟩, fun y hy => ?_, fun y hy => ?_⟩
  · obtain ⟨a1, a2, a3, a4⟩ := h
    have e94 : s 94 = G 94 := a1 94 (by omega) (by omega)
    have e91 : s 91 = G 91 := a1 91 (by omega) (by omega)
    rw [L_X9_ordersWith_61, if_neg (nI_ge hx (by omega)), ald_nI (by omega) (by omega), Option.bind_some, ev_nI c, ald_nI (by omega) (by omega), Option.bind_some, ev_nI x, shr_shl _ (by omega) (by omega), ast_nI (by omega) (by omega), Option.bind_some, ald_nI (by omega) (by omega), Option.bind_some, ald_nI (by omega) (by omega), Option.bind_some, ald_nI (by omega) (by omega), Option.bind_some, e94]
    generalize hV : s 96 c ||| (if bt (G 94 (2 + 2 * c)) (2 + 2 * x) = true then 1 <<< (nI x &&& 31) else 0) = V
    rw [upm_n _ _ _ (show (97 : Nat) ≠ 96 by omega), upm_n _ _ _ (show (91 : Nat) ≠ 96 by omega), e91]
    have hv : ((if G 91 (2 + 2 * c) = G 91 (2 + 2 * x) then some (1 <<< (nI x &&& 31), s 97 c, upm s 96 c V) else some (0, s 97 c, upm s 96 c V)) : Option (Int32 × Int32 × Mem)) = some ((if G 91 (2 + 2 * c) = G 91 (2 + 2 * x) then 1 <<< (nI x &&& 31) else 0), s 97 c, upm s 96 c V) := by split <;> rfl
    rw [hv, Option.bind_some]
    dsimp only
    rw [ast_nI (by omega) (by omega), Option.bind_some, nI_1]
    refine k _ ⟨fun k p q => by rw [upm_n _ _ _ q, upm_n _ _ _ p]; exact a1 k p q, fun j p => ⟨by rw [upm_n _ _ _ (by omega), upm_kn _ _ _ p]; exact (a2 j p).1, by rw [upm_kn _ _ _ p, upm_n _ _ _ (by omega)]; exact (a2 j p).2⟩, fun y hy => ?_, fun y hy => ?_⟩
    · rw [upm_n _ _ _ (by omega), upm_kj, ← hV, bt_or, Bool.or_eq_true, a3 y hy]
      constructor
      · rintro (⟨p, q⟩ | p)
        · exact ⟨by omega, q⟩
        · by_cases z : bt (G 94 (2 + 2 * c)) (2 + 2 * x) = true
          · rw [if_pos z, bt_pow (by omega) hy] at p
            have e : y = x := of_decide_eq_true p
            subst e
            exact ⟨by omega, z⟩
          · rw [if_neg z, bt_0] at p; exact absurd p (by decide)
      · rintro ⟨p, q⟩
        by_cases e : y = x
        · subst e; right; rw [if_pos q, bt_pow (by omega) hy]; simp
        · exact Or.inl ⟨by omega, q⟩
    · rw [upm_kj, bt_or, Bool.or_eq_true, a4 y hy]
      constructor
      · rintro (⟨p, q⟩ | p)
        · exact ⟨by omega, q⟩
        · by_cases z : G 91 (2 + 2 * c) = G 91 (2 + 2 * x)
          · rw [if_pos z, bt_pow (by omega) hy] at p
            have e : y = x := of_decide_eq_true p
            subst e
            exact ⟨by omega, z⟩
          · rw [if_neg z, bt_0] at p; exact absurd p (by decide)
      · rintro ⟨p, q⟩
        by_cases e : y = x
        · subst e; right; rw [if_pos q, bt_pow (by omega) hy]; simp
        · exact Or.inl ⟨by omega, q⟩
  · rw [h96, bt_0]; exact ⟨fun z => absurd z (by decide), fun z => absurd z.1 (by omega)⟩
  · rw [h97, bt_0]; exact ⟨fun z => absurd z (by decide), fun z => absurd z.1 (by omega)⟩
theorem ord35 {nc : Nat} (h8 : nc ≤ 8) (G : Mem) :
    Ok (L_X9_ordersWith_35 (nI nc) NF 0 G) (fun s => (∀ k, k ≠ 96 → k ≠ 97 → s k = G k) ∧ ∀ c, c < nc → (∀ y, y < 32 → (bt (s 96 c) y = true ↔ (y < nc ∧ bt (G 94 (2 + 2 * c)) (2 + 2 * y) = true))) ∧ (∀ y, y < 32 → (bt (s 97 c) y = true ↔ (y < nc ∧ G 91 (2 + 2 * c) = G 91 (2 + 2 * y))))) := by
  refine up_loop (L_X9_ordersWith_35 (nI nc)) nc (fun x s => (∀ k, k ≠ 96 → k ≠ 97 → s k = G k) ∧ ∀ c, c < x → (∀ y, y < 32 → (bt (s 96 c) y = true ↔ (y < nc ∧ bt (G 94 (2 + 2 * c)) (2 + 2 * y) = true))) ∧ (∀ y, y < 32 → (bt (s 97 c) y = true ↔ (y < nc ∧ G 91 (2 + 2 * c) = G 91 (2 + 2 * y))))) _ (fun n s h => by
    rw [L_X9_ordersWith_35, if_pos (nI_le (Nat.le_refl _) (by omega))]; exact Ok.pure h) (fun n x s hx h k => ?_) NF 0 G (by omega) (NF_big (by omega)) ⟨fun _ _ _ => rfl, fun c hc => absurd hc (by omega)⟩
  obtain ⟨a1, a2⟩ := h
  rw [L_X9_ordersWith_35, if_neg (nI_ge hx (by omega)), ast_nI (by omega) (by omega), Option.bind_some, ast_nI (by omega) (by omega), Option.bind_some]
  obtain ⟨s', e', b1, b2, b3, b4⟩ := ord61 h8 hx (G := upm (upm s 96 x 0) 97 x 0) (by rw [upm_n _ _ _ (by omega), upm_kj]) (upm_kj _ _ _ _)
  rw [e', Option.bind_some, nI_1]
  have e94 : upm (upm s 96 x 0) 97 x 0 94 = G 94 := by rw [upm_n _ _ _ (by omega), upm_n _ _ _ (by omega)]; exact a1 94 (by omega) (by omega)
  have e91 : upm (upm s 96 x 0) 97 x 0 91 = G 91 := by rw [upm_n _ _ _ (by omega), upm_n _ _ _ (by omega)]; exact a1 91 (by omega) (by omega)
  rw [e94] at b3
  rw [e91] at b4
  refine k _ ⟨fun k p q => by rw [b1 k p q, upm_n _ _ _ q, upm_n _ _ _ p]; exact a1 k p q, fun c hc => ?_⟩
  by_cases e : c = x
  · subst e; exact ⟨b3, b4⟩
  · have e96 : s' 96 c = s 96 c := by rw [(b2 c e).1, upm_n _ _ _ (by omega), upm_kn _ _ _ e]
    have e97 : s' 97 c = s 97 c := by rw [(b2 c e).2, upm_kn _ _ _ e, upm_n _ _ _ (by omega)]
    rw [e96, e97]
    exact a2 c (by omega)
/-- the events of a set can come -/
def Cp (fs on : Nat → Nat) (nc s C : Nat) : Prop := (∀ i, s.testBit i = true → C.testBit i = false) ∧ ∀ c, c < nc → s.testBit c = true → Sub (fs c) C ∧ Sub (on c) s
theorem canCome_eq {A : Told} {G : Mem} (hw : WF A) (hR : RowR A (G 82)) {fs on : Nat → Nat} (hf : ∀ c, c < A.nc → fs c < 256 ∧ on c < 256 ∧ G 96 c = nI (fs c) ∧ G 97 c = nI (on c)) {s C : Nat} (hs : s < 256) (hC : C < 256) :
    (Cp fs on A.nc s C ∧ m_X9_canCome G (nI s) (nI C) = some 1) ∨ (¬ Cp fs on A.nc s C ∧ m_X9_canCome G (nI s) (nI C) = some 0) := by
  have h1 := hw.1
  have zero : ∀ n x, L_X9_canCome_15 (nI s) (nI C) G (n + 1) 0 x = some 0 := by
    intro n x
    rw [L_X9_canCome_15, c9_0 hR, Option.bind_some]
    split
    · rfl
    · rw [if_pos rfl]
  have key : ∀ d x n, x + d = A.nc → d + 1 < n → ((∀ c, x ≤ c → c < A.nc → s.testBit c = true → Sub (fs c) C ∧ Sub (on c) s) ∧ L_X9_canCome_15 (nI s) (nI C) G n 1 (nI x) = some 1) ∨ (¬ (∀ c, x ≤ c → c < A.nc → s.testBit c = true → Sub (fs c) C ∧ Sub (on c) s) ∧ L_X9_canCome_15 (nI s) (nI C) G n 1 (nI x) = some 0) := by
    intro d
    induction d with
    | zero =>
      intro x n a1 a2
      obtain ⟨n, rfl⟩ : ∃ k, n = k + 1 := ⟨n - 1, by omega⟩
      exact Or.inl ⟨fun c p q => by omega, by rw [L_X9_canCome_15, c9_0 hR, Option.bind_some, if_pos (nI_le (by omega) (by omega))]⟩
    | succ d ih =>
      intro x n a1 a2
      obtain ⟨n, rfl⟩ : ∃ k, n = k + 1 := ⟨n - 1, by omega⟩
      obtain ⟨f1, f2, f3, f4⟩ := hf x (by omega)
      rw [L_X9_canCome_15, c9_0 hR, Option.bind_some, if_neg (nI_ge (by omega) (by omega)), if_neg one_ne, ald_nI (by omega) (by omega), Option.bind_some, ald_nI (by omega) (by omega), Option.bind_some, f3, f4]
      have hb := bt_nI (n := s) (i := x) (by omega) (by omega)
      have on1 : (s.testBit x = true → Sub (fs x) C ∧ Sub (on x) s) → ((∀ c, x ≤ c → c < A.nc → s.testBit c = true → Sub (fs c) C ∧ Sub (on c) s) ∧ L_X9_canCome_15 (nI s) (nI C) G n 1 (nI (x + 1)) = some 1) ∨ (¬ (∀ c, x ≤ c → c < A.nc → s.testBit c = true → Sub (fs c) C ∧ Sub (on c) s) ∧ L_X9_canCome_15 (nI s) (nI C) G n 1 (nI (x + 1)) = some 0) := by
        intro hx
        rcases ih (x + 1) n (by omega) (by omega) with ⟨u, v⟩ | ⟨u, v⟩
        · refine Or.inl ⟨fun c p q r => ?_, v⟩
          by_cases e : c = x
          · subst e; exact hx r
          · exact u c (by omega) q r
        · exact Or.inr ⟨fun w => u (fun c p q r => w c (by omega) q r), v⟩
      obtain ⟨n', rfl⟩ : ∃ k, n = k + 1 := ⟨n - 1, by omega⟩
      have no1 : s.testBit x = true → ¬ (Sub (fs x) C ∧ Sub (on x) s) → ((∀ c, x ≤ c → c < A.nc → s.testBit c = true → Sub (fs c) C ∧ Sub (on c) s) ∧ L_X9_canCome_15 (nI s) (nI C) G (n' + 1) 0 (nI (x + 1)) = some 1) ∨ (¬ (∀ c, x ≤ c → c < A.nc → s.testBit c = true → Sub (fs c) C ∧ Sub (on c) s) ∧ L_X9_canCome_15 (nI s) (nI C) G (n' + 1) 0 (nI (x + 1)) = some 0) := by
        intro hx hn
        exact Or.inr ⟨fun w => hn (w x (Nat.le_refl _) (by omega) hx), zero _ _⟩
      by_cases z : s.testBit x = true
      · rw [if_neg (fun q => by rw [(shr_0 _ (by omega)).mp q] at hb; rw [← hb] at z; exact absurd z (by decide))]
        by_cases z1 : Sub (fs x) C
        · rw [if_pos ((nsub f1 hC).mpr z1)]
          by_cases z2 : Sub (on x) s
          · rw [if_pos ((nsub f2 hs).mpr z2), Option.bind_some, nI_1]
            exact on1 (fun _ => ⟨z1, z2⟩)
          · rw [if_neg (fun q => z2 ((nsub f2 hs).mp q)), Option.bind_some, nI_1]
            exact no1 z (fun q => z2 q.2)
        · rw [if_neg (fun q => z1 ((nsub f1 hC).mp q)), Option.bind_some, nI_1]
          exact no1 z (fun q => z1 q.1)
      · rw [if_pos ((shr_0 _ (by omega)).mpr (by rw [hb]; exact bf_of z)), Option.bind_some, nI_1]
        exact on1 (fun q => absurd q z)
  have hand : nI s &&& nI C = 0 ↔ ∀ i, s.testBit i = true → C.testBit i = false := by
    rw [nI_and (by omega) (by omega)]
    have hle : s &&& C ≤ s := Nat.and_le_left
    constructor
    · intro h i hi
      have e : s &&& C = 0 := (nI_eq (b := 0) (by omega) (by omega)).mp h
      have : (s &&& C).testBit i = false := by rw [e]; simp
      rw [Nat.testBit_and, hi, Bool.true_and] at this
      exact this
    · intro h
      have e : s &&& C = 0 := by
        apply Nat.eq_of_testBit_eq
        intro i
        rw [Nat.testBit_and, Nat.zero_testBit]
        cases u : s.testBit i
        · rfl
        · rw [h i u]; rfl
      rw [e]; rfl
  unfold m_X9_canCome
  by_cases z : nI s &&& nI C = 0
  · rw [if_pos z, Option.bind_some]
    rcases key A.nc 0 NF (by omega) (NF_big (by omega)) with ⟨u, v⟩ | ⟨u, v⟩
    · refine Or.inl ⟨⟨hand.mp z, fun c p q => u c (by omega) p q⟩, ?_⟩
      rw [show (0 : Int32) = nI 0 from rfl, v]
      rfl
    · refine Or.inr ⟨fun w => u (fun c _ p q => w.2 c p q), ?_⟩
      rw [show (0 : Int32) = nI 0 from rfl, v]
      rfl
  · rw [if_neg z, Option.bind_some]
    refine Or.inr ⟨fun w => z (hand.mpr w.1), ?_⟩
    rw [show NF = 99999 + 1 from rfl, zero]
    rfl
/-- the parts that the reference goes through -/
def TT9 (fs on : Nat → Nat) (nc C C' : Nat) : Prop := ∃ s, s ≠ 0 ∧ s < 2 ^ nc ∧ C < 2 ^ nc ∧ Cp fs on nc s C ∧ C' = C ||| s
theorem or_ne2 {g s : Nat} (h0 : s ≠ 0) (hg : ∀ i, s.testBit i = true → g.testBit i = false) : g ≠ g ||| s := or_ne h0 (fun _ h => h) hg
theorem TT9_Gr (fs on : Nat → Nat) {nc : Nat} (h8 : nc ≤ 8) : Gr (TT9 fs on nc) (2 ^ nc - 1) := by
  rintro C C' ⟨s, s1, s2, s3, s4, rfl⟩
  have h := Nat.or_lt_two_pow s3 s2
  have := pow256 h8
  exact ⟨fun i hi => by rw [Nat.testBit_or, hi]; rfl, or_ne2 s1 s4.1, by omega, sub_whole h⟩
theorem TT9_sum (fs on : Nat → Nat) {nc x : Nat} (hx : x < 2 ^ nc) (F C : Nat) : sm (2 ^ nc) (fun z => iv (z ≠ 0 ∧ Cp fs on nc z x ∧ C = x ||| z) F) = iv (TT9 fs on nc x C) F := by
  by_cases h : TT9 fs on nc x C
  · rw [iv_t h]
    obtain ⟨s, s1, s2, s3, s4, rfl⟩ := h
    refine Eq.trans (sm_congr (fun z hz => iv_iff (q := z = s) ⟨fun q => ?_, fun q => by subst q; exact ⟨s1, s4, rfl⟩⟩ F)) (sm_one s2 (fun _ => F))
    rw [← or_xor (g := x) (s := z) q.2.1.1, ← q.2.2, or_xor s4.1]
  · rw [iv_f h]
    exact sm_zero (fun z hz => iv_f (fun q => h ⟨z, q.1, hz, hx, q.2.1, q.2.2⟩) F)
theorem ord210 {A : Told} {G : Mem} (hw : WF A) (hR : RowR A (G 82)) {fs on : Nat → Nat} (hf : ∀ c, c < A.nc → fs c < 256 ∧ on c < 256 ∧ G 96 c = nI (fs c) ∧ G 97 c = nI (on c)) {x : Nat} (hx : x < 2 ^ A.nc - 1) (h95 : ∀ C, C < 2 ^ A.nc → G 95 C = nI (WaP (TT9 fs on A.nc) x C)) :
    Ok (L_X9_ordersWith_210 (nI (2 ^ A.nc - 1)) (nI x) NF 1 G) (fun s => (∀ k, k ≠ 95 → s k = G k) ∧ ∀ C, C < 2 ^ A.nc → s 95 C = nI (WaP (TT9 fs on A.nc) (x + 1) C)) := by
  have h1 := hw.1
  have h8 : A.nc ≤ 8 := by omega
  have hp := pow256 h8
  have hGr := TT9_Gr fs on h8
  have hlt := fw_lt hGr (C := x) (by omega)
  have ex : G 95 x = nI (fw (TT9 fs on A.nc) x) := by rw [h95 x (by omega), WaP_fw hGr.up (by omega) (Nat.le_refl _) (by omega)]
  have fin : ∀ C, WaP (TT9 fs on A.nc) (x + 1) C = WaP (TT9 fs on A.nc) x C + sm (2 ^ A.nc) (fun z => iv (z ≠ 0 ∧ Cp fs on A.nc z x ∧ C = x ||| z) (fw (TT9 fs on A.nc) x)) := by
    intro C
    rw [TT9_sum fs on (by omega)]
    show iv (C = 0) 1 + (sm x _ + iv (TT9 fs on A.nc x C) (fw (TT9 fs on A.nc) x)) = iv (C = 0) 1 + sm x _ + _
    rw [Nat.add_assoc]
  by_cases z : fw (TT9 fs on A.nc) x = 0
  · rw [show NF = 99999 + 1 from rfl, L_X9_ordersWith_210, if_neg (show ¬ nI (2 ^ A.nc - 1) < (1 : Int32) from nI_nlt (b := 1) (by omega) (by omega)), ald_nI (by omega) (by omega), Option.bind_some, ex, z, if_pos (by decide)]
    refine Ok.pure ⟨fun _ _ => rfl, fun C hC => ?_⟩
    rw [fin C, z, sm_zero (fun i _ => iv_0 _), Nat.add_zero]
    exact h95 C hC
  · have hL := up_loop (L_X9_ordersWith_210 (nI (2 ^ A.nc - 1)) (nI x)) (2 ^ A.nc) (fun t s => 1 ≤ t ∧ (∀ k, k ≠ 95 → s k = G k) ∧ ∀ C, C < 2 ^ A.nc → s 95 C = nI (WaP (TT9 fs on A.nc) x C + sm t (fun z => iv (z ≠ 0 ∧ Cp fs on A.nc z x ∧ C = x ||| z) (fw (TT9 fs on A.nc) x)))) (fun s => (∀ k, k ≠ 95 → s k = G k) ∧ ∀ C, C < 2 ^ A.nc → s 95 C = nI (WaP (TT9 fs on A.nc) (x + 1) C)) (fun n s h => by
      rw [L_X9_ordersWith_210, if_pos (nI_lt (by omega) (by omega))]
      exact Ok.pure ⟨h.2.1, fun C hC => by rw [fin C]; exact h.2.2 C hC⟩) (fun n t s ht h k => by
      obtain ⟨a0, a1, a2⟩ := h
      have hxt : x ||| t < 2 ^ A.nc := Nat.or_lt_two_pow (by omega) ht
      have e0 : sm t (fun z => iv (z ≠ 0 ∧ Cp fs on A.nc z x ∧ x = x ||| z) (fw (TT9 fs on A.nc) x)) = 0 := sm_zero (fun i _ => iv_f (fun q => or_ne2 q.1 q.2.1.1 q.2.2) _)
      have esx : s 95 x = nI (fw (TT9 fs on A.nc) x) := by rw [a2 x (by omega), e0, Nat.add_zero, ← h95 x (by omega), ex]
      rw [L_X9_ordersWith_210, if_neg (nI_nlt (by omega) (by omega)), ald_nI (by omega) (by omega), Option.bind_some, esx, if_neg (nI_nle (by omega) (by omega)), nI_or (by omega) (by omega), ald_nI (by omega) (by omega), Option.bind_some, a2 _ hxt, nI_1]
      have upS : ∀ (v : Nat), (∀ C, C < 2 ^ A.nc → v = (iv (t ≠ 0 ∧ Cp fs on A.nc t x ∧ (x ||| t) = x ||| t) (fw (TT9 fs on A.nc) x))) → Ok (L_X9_ordersWith_210 (nI (2 ^ A.nc - 1)) (nI x) n (nI (t + 1)) (upm s 95 (x ||| t) (nI (WaP (TT9 fs on A.nc) x (x ||| t) + sm t (fun z => iv (z ≠ 0 ∧ Cp fs on A.nc z x ∧ (x ||| t) = x ||| z) (fw (TT9 fs on A.nc) x)) + v)))) (fun s => (∀ k, k ≠ 95 → s k = G k) ∧ ∀ C, C < 2 ^ A.nc → s 95 C = nI (WaP (TT9 fs on A.nc) (x + 1) C)) := by
        intro v hv
        refine k _ ⟨by omega, fun k p => by rw [upm_n _ _ _ p]; exact a1 k p, fun C hC => ?_⟩
        show upm s 95 (x ||| t) _ 95 C = nI (WaP (TT9 fs on A.nc) x C + (sm t (fun z => iv (z ≠ 0 ∧ Cp fs on A.nc z x ∧ C = x ||| z) (fw (TT9 fs on A.nc) x)) + iv (t ≠ 0 ∧ Cp fs on A.nc t x ∧ C = x ||| t) (fw (TT9 fs on A.nc) x)))
        by_cases e : C = x ||| t
        · subst e
          rw [upm_kj, hv _ hC, Nat.add_assoc]
        · rw [upm_kn _ _ _ e, iv_f (fun q => e q.2.2), Nat.add_zero]
          exact a2 C hC
      rcases canCome_eq (G := s) hw (by rw [a1 82 (by omega)]; exact hR) (fun c hc => by rw [a1 96 (by omega), a1 97 (by omega)]; exact hf c hc) (s := t) (C := x) (by omega) (by omega) with ⟨u, v⟩ | ⟨u, v⟩
      · rw [v, Option.bind_some, if_neg one_ne, Option.bind_some, Option.bind_some]
        dsimp only
        rw [nI_add, ast_nI (by omega) (by omega), Option.bind_some]
        exact upS _ (fun _ _ => by rw [iv_t ⟨by omega, u, rfl⟩])
      · rw [v, Option.bind_some, if_pos rfl, Option.bind_some]
        dsimp only
        rw [show (0 : Int32) = nI 0 from rfl, nI_add, ast_nI (by omega) (by omega), Option.bind_some]
        exact upS 0 (fun _ _ => by rw [iv_f (fun q => u q.2.1)])) NF 1 G (by omega) (NF_big (by omega))
    exact hL ⟨Nat.le_refl _, fun _ _ => rfl, fun C hC => by
      show _ = nI (WaP (TT9 fs on A.nc) x C + (0 + iv (0 ≠ 0 ∧ Cp fs on A.nc 0 x ∧ C = x ||| 0) (fw (TT9 fs on A.nc) x)))
      rw [iv_f (fun q => q.1 rfl)]
      exact h95 C hC⟩
