/-! ===== 38 the class's Search: the shortest ring ===== -/
theorem Wn_lt {A : Told} (hw : WF A) {b : Nat → Bool} {n x y : Nat} (h : Wn A b n x y) (hx : x < 17) : y < 17 := by
  have h1 := hw.1
  obtain ⟨l, _, l2, l3⟩ := h
  exact (wk_Rq l x y l2 l3).lt ((Wi_setH hw b A.ns (Nat.le_refl _)).up (by omega)) hx
theorem Sn_lt {A : Told} (hw : WF A) {b : Nat → Bool} {n x y : Nat} (h : Sn A b n x y) : x < 17 := by
  have h1 := hw.1
  obtain ⟨l, _, l2, l3⟩ := h
  exact ((wks_Sq l x y l2 l3).lt ((Wi_setH hw b A.ns (Nat.le_refl _)).up (by omega))).1
theorem back25 {G : Mem} (u v : Int32) : ∃ a c, L_X3_stepsBackTo_25 u v G NF 0 0 0 = some (a, c) ∧ (∀ y, bt a y = true ↔ ∃ z, z < 17 ∧ bt u z = true ∧ bt (G 64 z) y = true) ∧ (∀ y, bt c y = true ↔ ∃ z, z < 17 ∧ bt u z = true ∧ ((bt v z = true ∧ bt (G 64 z) y = true) ∨ (¬ bt v z = true ∧ bt (G 65 z) y = true))) := by
  have key : ∀ d x n a c, x + d = 17 → d < n → (∀ y, bt a y = true ↔ ∃ z, z < x ∧ bt u z = true ∧ bt (G 64 z) y = true) → (∀ y, bt c y = true ↔ ∃ z, z < x ∧ bt u z = true ∧ ((bt v z = true ∧ bt (G 64 z) y = true) ∨ (¬ bt v z = true ∧ bt (G 65 z) y = true))) → ∃ a' c', L_X3_stepsBackTo_25 u v G n a c (nI x) = some (a', c') ∧ (∀ y, bt a' y = true ↔ ∃ z, z < 17 ∧ bt u z = true ∧ bt (G 64 z) y = true) ∧ (∀ y, bt c' y = true ↔ ∃ z, z < 17 ∧ bt u z = true ∧ ((bt v z = true ∧ bt (G 64 z) y = true) ∨ (¬ bt v z = true ∧ bt (G 65 z) y = true))) := by
    intro d
    induction d with
    | zero =>
      intro x n a c h1 h2 h3 h4
      obtain ⟨n, rfl⟩ : ∃ k, n = k + 1 := ⟨n - 1, by omega⟩
      have e : x = 17 := by omega
      subst e
      exact ⟨a, c, by rw [L_X3_stepsBackTo_25, if_pos (le17 (Nat.le_refl _) (by omega))], h3, h4⟩
    | succ d ih =>
      intro x n a c h1 h2 h3 h4
      obtain ⟨n, rfl⟩ : ∃ k, n = k + 1 := ⟨n - 1, by omega⟩
      rw [L_X3_stepsBackTo_25, if_neg (nle17 (by omega)), nI_1]
      by_cases z : bt u x = true
      · rw [if_neg (fun q => by rw [(has_0 _ (by omega)).mp q] at z; exact absurd z (by decide)), ald_nI (by omega) (by omega), Option.bind_some]
        have up1 : ∀ y, bt (a ||| G 64 x) y = true ↔ ∃ z, z < x + 1 ∧ bt u z = true ∧ bt (G 64 z) y = true := by
          intro y
          rw [bt_or, Bool.or_eq_true, h3 y]
          constructor
          · rintro (⟨w, w1, w2⟩ | h)
            · exact ⟨w, by omega, w2⟩
            · exact ⟨x, by omega, z, h⟩
          · rintro ⟨w, w1, w2, w3⟩
            by_cases e : w = x
            · subst e; exact Or.inr w3
            · exact Or.inl ⟨w, by omega, w2, w3⟩
        by_cases z2 : bt v x = true
        · rw [if_neg (fun q => by rw [(has_0 _ (by omega)).mp q] at z2; exact absurd z2 (by decide)), Option.bind_some, Option.bind_some, Option.bind_some]
          dsimp only
          refine ih (x + 1) n _ _ (by omega) (by omega) up1 (fun y => ?_)
          rw [bt_or, Bool.or_eq_true, h4 y]
          constructor
          · rintro (⟨w, w1, w2⟩ | h)
            · exact ⟨w, by omega, w2⟩
            · exact ⟨x, by omega, z, Or.inl ⟨z2, h⟩⟩
          · rintro ⟨w, w1, w2, w3⟩
            by_cases e : w = x
            · subst e
              rcases w3 with w3 | w3
              · exact Or.inr w3.2
              · exact absurd z2 w3.1
            · exact Or.inl ⟨w, by omega, w2, w3⟩
        · rw [if_pos ((has_0 _ (by omega)).mpr (bf_of z2)), ald_nI (by omega) (by omega), Option.bind_some, Option.bind_some, Option.bind_some]
          dsimp only
          refine ih (x + 1) n _ _ (by omega) (by omega) up1 (fun y => ?_)
          rw [bt_or, Bool.or_eq_true, h4 y]
          constructor
          · rintro (⟨w, w1, w2⟩ | h)
            · exact ⟨w, by omega, w2⟩
            · exact ⟨x, by omega, z, Or.inr ⟨z2, h⟩⟩
          · rintro ⟨w, w1, w2, w3⟩
            by_cases e : w = x
            · subst e
              rcases w3 with w3 | w3
              · exact absurd w3.1 z2
              · exact Or.inr w3.2
            · exact Or.inl ⟨w, by omega, w2, w3⟩
      · rw [if_pos ((has_0 _ (by omega)).mpr (bf_of z)), Option.bind_some]
        have ext : ∀ (P : Nat → Prop), (∃ k, k < x + 1 ∧ bt u k = true ∧ P k) ↔ (∃ k, k < x ∧ bt u k = true ∧ P k) := fun P => by
          constructor
          · rintro ⟨k, k1, k2, k3⟩
            by_cases e : k = x
            · subst e; exact absurd k2 z
            · exact ⟨k, by omega, k2, k3⟩
          · rintro ⟨k, k1, k2⟩; exact ⟨k, by omega, k2⟩
        exact ih (x + 1) n _ _ (by omega) (by omega) (fun y => (h3 y).trans (ext (fun k => bt (G 64 k) y = true)).symm) (fun y => (h4 y).trans (ext (fun k => (bt v k = true ∧ bt (G 64 k) y = true) ∨ (¬ bt v k = true ∧ bt (G 65 k) y = true))).symm)
  exact key 17 0 NF 0 0 (by omega) (NF_big (by omega)) (fun y => by rw [bt_0]; exact ⟨fun h => absurd h (by decide), fun ⟨z, h, _⟩ => absurd h (by omega)⟩) (fun y => by rw [bt_0]; exact ⟨fun h => absurd h (by decide), fun ⟨z, h, _⟩ => absurd h (by omega)⟩)
theorem stepsBack8 {A : Told} (hw : WF A) {b : Nat → Bool} {G : Mem} (hJ : JS A b G) {p bd : Nat} (hp : p < 17) (hb : bd ≤ 14) : ∃ r, m_X3_stepsBackTo G (nI p) (nI bd) = some (nI r) ∧ ((r = 0 ∧ ∀ i, i ≤ bd → ¬ Sn A b i p p) ∨ (1 ≤ r ∧ r ≤ bd ∧ Sn A b r p p ∧ ∀ i, i < r → ¬ Sn A b i p p)) := by
  have key : ∀ d j n u v, j + d = bd → d < n → (∀ y, y < 32 → (bt u y = true ↔ Wn A b j p y)) → (∀ y, y < 32 → (bt v y = true ↔ Sn A b j p y)) → (L_X3_stepsBackTo_10 (nI p) (nI bd) G n u v (nI (j + 1)) = some (Sum.inl ()) ∧ ∀ i, j < i → i ≤ bd → ¬ Sn A b i p p) ∨ (∃ r, L_X3_stepsBackTo_10 (nI p) (nI bd) G n u v (nI (j + 1)) = some (Sum.inr (nI r)) ∧ j < r ∧ r ≤ bd ∧ Sn A b r p p ∧ ∀ i, j < i → i < r → ¬ Sn A b i p p) := by
    intro d
    induction d with
    | zero =>
      intro j n u v h1 h2 h3 h4
      obtain ⟨n, rfl⟩ : ∃ k, n = k + 1 := ⟨n - 1, by omega⟩
      exact Or.inl ⟨by rw [L_X3_stepsBackTo_10, if_pos (nI_lt (by omega) (by omega))], fun i a c => by omega⟩
    | succ d ih =>
      intro j n u v h1 h2 h3 h4
      obtain ⟨n, rfl⟩ : ∃ k, n = k + 1 := ⟨n - 1, by omega⟩
      obtain ⟨a, c, e, q1, q2⟩ := back25 (G := G) u v
      have r1 : ∀ y, y < 32 → (bt a y = true ↔ Wn A b (j + 1) p y) := by
        intro y hy
        rw [q1 y, Wn_s]
        constructor
        · rintro ⟨z, z1, z2, z3⟩
          exact ⟨z, (h3 z (by omega)).mp z2, (hJ z z1 y hy).1.mp z3⟩
        · rintro ⟨z, z1, z2⟩
          have hz := Wn_lt hw z1 hp
          exact ⟨z, hz, (h3 z (by omega)).mpr z1, (hJ z hz y hy).1.mpr z2⟩
      have r2 : ∀ y, y < 32 → (bt c y = true ↔ Sn A b (j + 1) p y) := by
        intro y hy
        rw [q2 y, Sn_s]
        constructor
        · rintro ⟨z, z1, z2, ⟨z3, z4⟩ | ⟨z3, z4⟩⟩
          · exact ⟨z, Or.inl ⟨(h4 z (by omega)).mp z3, (hJ z z1 y hy).1.mp z4⟩⟩
          · exact ⟨z, Or.inr ⟨(h3 z (by omega)).mp z2, (hJ z z1 y hy).2.mp z4⟩⟩
        · rintro ⟨z, ⟨z1, z2⟩ | ⟨z1, z2⟩⟩
          · have hz := Wn_lt hw (Sn_Wn z1) hp
            exact ⟨z, hz, (h3 z (by omega)).mpr (Sn_Wn z1), Or.inl ⟨(h4 z (by omega)).mpr z1, (hJ z hz y hy).1.mpr z2⟩⟩
          · have hz := Wn_lt hw z1 hp
            refine ⟨z, hz, (h3 z (by omega)).mpr z1, ?_⟩
            by_cases w : bt v z = true
            · obtain ⟨k, k1, k2, k3⟩ := z2
              exact Or.inl ⟨w, (hJ z hz y hy).1.mpr (Or.inr ⟨k, k1, k2, Sk_Rk A _ _ _ k3⟩)⟩
            · exact Or.inr ⟨w, (hJ z hz y hy).2.mpr z2⟩
      rw [L_X3_stepsBackTo_10, if_neg (nI_nlt (by omega) (by omega)), e, Option.bind_some]
      dsimp only
      by_cases w : bt c p = true
      · rw [if_neg (fun q => by rw [(has_0 _ (by omega)).mp q] at w; exact absurd w (by decide))]
        exact Or.inr ⟨j + 1, rfl, by omega, by omega, (r2 p (by omega)).mp w, fun i a1 a2 => by omega⟩
      · rw [if_pos ((has_0 _ (by omega)).mpr (bf_of w)), nI_1]
        have hno : ¬ Sn A b (j + 1) p p := fun q => w ((r2 p (by omega)).mpr q)
        rcases ih (j + 1) n a c (by omega) (by omega) r1 r2 with ⟨k1, k2⟩ | ⟨r, k1, k2, k3, k4, k5⟩
        · refine Or.inl ⟨k1, fun i a1 a2 => ?_⟩
          by_cases e' : i = j + 1
          · subst e'; exact hno
          · exact k2 i (by omega) a2
        · refine Or.inr ⟨r, k1, by omega, k3, k4, fun i a1 a2 => ?_⟩
          by_cases e' : i = j + 1
          · subst e'; exact hno
          · exact k5 i (by omega) a2
  unfold m_X3_stepsBackTo
  rcases key bd 0 NF (1 <<< (nI p &&& 31)) 0 (by omega) (NF_big (by omega)) (fun y hy => by rw [bt_pow (by omega) hy, Wn_0]; simp [eq_comm]) (fun y hy => by rw [bt_0]; exact ⟨fun h => absurd h (by decide), fun h => absurd h Sn_0⟩) with ⟨k1, k2⟩ | ⟨r, k1, k2, k3, k4, k5⟩
  · refine ⟨0, ?_, Or.inl ⟨rfl, fun i hi => ?_⟩⟩
    · rw [show L_X3_stepsBackTo_10 (nI p) (nI bd) G NF (1 <<< (nI p &&& 31)) 0 1 = some (Sum.inl ()) from k1]; rfl
    · by_cases e : i = 0
      · subst e; exact Sn_0
      · exact k2 i (by omega) hi
  · refine ⟨r, ?_, Or.inr ⟨by omega, k3, k4, fun i hi => ?_⟩⟩
    · rw [show L_X3_stepsBackTo_10 (nI p) (nI bd) G NF (1 <<< (nI p &&& 31)) 0 1 = some (Sum.inr (nI r)) from k1]; rfl
    · by_cases e : i = 0
      · subst e; exact Sn_0
      · exact k5 i (by omega) hi
theorem ring13 {A : Told} (hw : WF A) {b : Nat → Bool} {G : Mem} (hJ : JS A b G) {most : Nat} (hm : most ≤ 14) : ∃ r, L_X3_shortestRing_13 G NF 0 (nI most) 0 = some (nI r) ∧ ((r = 0 ∧ ¬ RG A b most) ∨ (1 ≤ r ∧ r ≤ most ∧ RG A b r ∧ ∀ i, i < r → ¬ RG A b i)) := by
  have key : ∀ d x n sh bd, x + d = 17 → d < n → bd ≤ 14 → ((sh = 0 ∧ bd = most ∧ ∀ q, q < x → ∀ i, i ≤ most → ¬ Sn A b i q q) ∨ (1 ≤ sh ∧ sh ≤ most ∧ bd = sh - 1 ∧ RG A b sh ∧ ∀ q, q < x → ∀ i, i < sh → ¬ Sn A b i q q)) → ∃ r, L_X3_shortestRing_13 G n (nI sh) (nI bd) (nI x) = some (nI r) ∧ ((r = 0 ∧ ¬ RG A b most) ∨ (1 ≤ r ∧ r ≤ most ∧ RG A b r ∧ ∀ i, i < r → ¬ RG A b i)) := by
    intro d
    induction d with
    | zero =>
      intro x n sh bd h1 h2 h3 h4
      obtain ⟨n, rfl⟩ : ∃ k, n = k + 1 := ⟨n - 1, by omega⟩
      have e : x = 17 := by omega
      subst e
      refine ⟨sh, by rw [L_X3_shortestRing_13, if_pos (le17 (Nat.le_refl _) (by omega))], ?_⟩
      rcases h4 with ⟨a1, a2, a3⟩ | ⟨a1, a2, a3, a4, a5⟩
      · exact Or.inl ⟨a1, fun ⟨q, hq⟩ => a3 q (Sn_lt hw hq) most (Nat.le_refl _) hq⟩
      · exact Or.inr ⟨a1, a2, a4, fun i hi ⟨q, hq⟩ => a5 q (Sn_lt hw hq) i hi hq⟩
    | succ d ih =>
      intro x n sh bd h1 h2 h3 h4
      obtain ⟨n, rfl⟩ : ∃ k, n = k + 1 := ⟨n - 1, by omega⟩
      obtain ⟨r, e, hr⟩ := stepsBack8 hw hJ (show x < 17 by omega) h3
      rw [L_X3_shortestRing_13, if_neg (nle17 (by omega)), e, Option.bind_some, nI_1]
      rcases hr with ⟨r0, hr⟩ | ⟨r1, r2, r3, r4⟩
      · subst r0
        rw [if_pos nI_0, Option.bind_some]
        refine ih (x + 1) n sh bd (by omega) (by omega) h3 ?_
        rcases h4 with ⟨a1, a2, a3⟩ | ⟨a1, a2, a3, a4, a5⟩
        · refine Or.inl ⟨a1, a2, fun q hq i hi => ?_⟩
          by_cases e : q = x
          · subst e; exact hr i (by omega)
          · exact a3 q (by omega) i hi
        · refine Or.inr ⟨a1, a2, a3, a4, fun q hq i hi => ?_⟩
          by_cases e : q = x
          · subst e; exact hr i (by omega)
          · exact a5 q (by omega) i hi
      · rw [if_neg (nI_ne0 (by omega) (by omega)), Option.bind_some]
        dsimp only
        rw [show nI r - 1 = nI (r - 1) from pk_sub (b := 1) r1]
        have hle : r ≤ most ∧ (∀ q, q < x → ∀ i, i < r → ¬ Sn A b i q q) := by
          rcases h4 with ⟨a1, a2, a3⟩ | ⟨a1, a2, a3, a4, a5⟩
          · exact ⟨by omega, fun q hq i hi => a3 q hq i (by omega)⟩
          · exact ⟨by omega, fun q hq i hi => a5 q hq i (by omega)⟩
        refine ih (x + 1) n r (r - 1) (by omega) (by omega) (by omega) (Or.inr ⟨r1, hle.1, rfl, ⟨x, r3⟩, fun q hq i hi => ?_⟩)
        by_cases e : q = x
        · subst e; exact r4 i hi
        · exact hle.2 q (by omega) i hi
  exact key 17 0 NF 0 most (by omega) (NF_big (by omega)) hm (Or.inl ⟨rfl, rfl, fun q h => absurd h (by omega)⟩)
theorem ring8 {A : Told} (hw : WF A) {G : Mem} (hN : NS A A.ns G) {m most : Nat} (hm : m < 2 ^ A.ns) (h14 : most ≤ 14) : ∃ r G', m_X3_shortestRing G (nI m) (nI most) = some (nI r, G') ∧ FS G G' ∧ NS A A.ns G' ∧ ((r = 0 ∧ ¬ RG A (fun i => m.testBit i) most) ∨ (1 ≤ r ∧ r ≤ most ∧ RG A (fun i => m.testBit i) r ∧ ∀ i, i < r → ¬ RG A (fun i => m.testBit i) i)) := by
  have hn14 := hw.ns14
  obtain ⟨G', e1, a1, a2⟩ := joinSteps8 hw hN hm
  obtain ⟨r, e2, hr⟩ := ring13 hw a2 h14
  refine ⟨r, G', ?_, fun k hk => a1 k (by omega) (by omega), fun k hk p hp y hy => ?_, hr⟩
  · unfold m_X3_shortestRing
    rw [e1, Option.bind_some, e2, Option.bind_some]
  · rw [a1 (35 + k) (by omega) (by omega), a1 (50 + k) (by omega) (by omega)]
    exact hN k hk p hp y hy
