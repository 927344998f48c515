/-! ===== 24 all that are ahead; what is known; the line ===== -/
theorem or_zero' (x : Int32) : x ||| 0 = x := bt_ext (fun i _ => by rw [bt_or, bt_0, Bool.or_false])
theorem below74 {G : Mem} {n p k : Nat} {b : Nat → Int32} (hn : n ≤ 17) (ht : G 81 14 = nI n) (hp : p < n) (hk : k < n) (its : Int32) (hne : ∀ e, bt its k = true → bt (G 92 k) e = true → e ≠ p) :
    ∃ a, L_X9_laysBelow_74 (nI p) its (nI k) NF 0 (setc G 94 b) = some (setc G 94 (upd b p a)) ∧ ∀ y, y < 32 → (bt a y = true ↔ (bt (b p) y = true ∨ ∃ e, e < n ∧ bt its k = true ∧ bt (G 92 k) e = true ∧ ((y < n ∧ G 91 y = G 91 e) ∨ bt (b e) y = true))) := by
  have h14 : ∀ b, (setc G 94 b) 81 14 = nI n := fun b => by rw [setc_n _ _ (by omega)]; exact ht
  have key : ∀ d x m a, x + d = n → d < m → (∀ y, y < 32 → (bt a y = true ↔ (bt (b p) y = true ∨ ∃ e, e < x ∧ bt its k = true ∧ bt (G 92 k) e = true ∧ ((y < n ∧ G 91 y = G 91 e) ∨ bt (b e) y = true)))) →
      ∃ a', L_X9_laysBelow_74 (nI p) its (nI k) m (nI x) (setc G 94 (upd b p a)) = some (setc G 94 (upd b p a')) ∧ ∀ y, y < 32 → (bt a' y = true ↔ (bt (b p) y = true ∨ ∃ e, e < n ∧ bt its k = true ∧ bt (G 92 k) e = true ∧ ((y < n ∧ G 91 y = G 91 e) ∨ bt (b e) y = true))) := by
    intro d
    induction d with
    | zero =>
      intro x m a h1 h2 h3
      obtain ⟨m, rfl⟩ : ∃ k, m = k + 1 := ⟨m - 1, by omega⟩
      have e : x = n := by omega
      subst e
      exact ⟨a, by rw [L_X9_laysBelow_74, h14, if_pos (nI_le (by omega) (by omega))], h3⟩
    | succ d ih =>
      intro x m a h1 h2 h3
      obtain ⟨m, rfl⟩ : ∃ k, m = k + 1 := ⟨m - 1, by omega⟩
      rw [L_X9_laysBelow_74, h14, if_neg (nI_ge (by omega) (by omega))]
      have e92 : ∀ b, (setc G 94 b) 92 = G 92 := fun b => setc_n _ _ (by omega)
      have e91 : ∀ b, (setc G 94 b) 91 = G 91 := fun b => setc_n _ _ (by omega)
      have hv : ((if ((its >>> (nI k &&& 31)) &&& 1) = 1 then (ald 17 (setc G 94 (upd b p a)) 92 (nI k)).bind (fun r_20 => (if ((r_20 >>> (nI x &&& 31)) &&& 1) = 1 then some 1 else some 0)) else some 0) : Option (Int32)) = some (if bt its k = true ∧ bt (G 92 k) x = true then 1 else 0) := by
        rw [ald_nI (by omega) (by omega), Option.bind_some, e92]
        by_cases z1 : bt its k = true
        · rw [if_pos ((shr_1 _ (by omega)).mpr z1)]
          by_cases z2 : bt (G 92 k) x = true
          · rw [if_pos ((shr_1 _ (by omega)).mpr z2), if_pos ⟨z1, z2⟩]
          · rw [if_neg (fun q => z2 ((shr_1 _ (by omega)).mp q)), if_neg (fun q => z2 q.2)]
        · rw [if_neg (fun q => z1 ((shr_1 _ (by omega)).mp q)), if_neg (fun q => z1 q.1)]
      rw [hv, Option.bind_some, ald_nI (by omega) (by omega), Option.bind_some, setc_k, pk_us]
      by_cases z : bt its k = true ∧ bt (G 92 k) x = true
      · have hxp := hne x z.1 z.2
        obtain ⟨mc, ec, qc⟩ := classOf_eq (G := setc G 94 (upd b p a)) (p := x) hn (h14 _) (by omega)
        rw [if_pos z, if_neg one_ne, ec, Option.bind_some, ald_nI (by omega) (by omega), Option.bind_some, Option.bind_some]
        dsimp only
        rw [setc_k, pk_un hxp, ast_nI (by omega) (by omega), Option.bind_some, nI_1, upm_setc]
        have eu : upd (upd b p a) p (a ||| (mc ||| b x)) = upd b p (a ||| (mc ||| b x)) := by
          funext j; unfold upd; split <;> rfl
        rw [eu]
        refine ih (x + 1) m _ (by omega) (by omega) (fun y hy => ?_)
        rw [bt_or, bt_or, Bool.or_eq_true, Bool.or_eq_true, h3 y hy, qc y hy, e91]
        constructor
        · rintro ((h | ⟨e, a1, a2⟩) | h)
          · exact Or.inl h
          · exact Or.inr ⟨e, by omega, a2⟩
          · exact Or.inr ⟨x, by omega, z.1, z.2, h⟩
        · rintro (h | ⟨e, a1, a2, a3, a4⟩)
          · exact Or.inl (Or.inl h)
          · by_cases q : e = x
            · subst q; exact Or.inr a4
            · exact Or.inl (Or.inr ⟨e, by omega, a2, a3, a4⟩)
      · rw [if_neg z, if_pos rfl, Option.bind_some]
        dsimp only
        rw [or_zero', ast_nI (by omega) (by omega), Option.bind_some, nI_1, upm_setc]
        have eu : upd (upd b p a) p a = upd b p a := by
          funext j; unfold upd; split <;> rfl
        rw [eu]
        refine ih (x + 1) m _ (by omega) (by omega) (fun y hy => ?_)
        rw [h3 y hy]
        constructor
        · rintro (h | ⟨e, a1, a2⟩)
          · exact Or.inl h
          · exact Or.inr ⟨e, by omega, a2⟩
        · rintro (h | ⟨e, a1, a2, a3, a4⟩)
          · exact Or.inl h
          · by_cases q : e = x
            · subst q; exact absurd ⟨a2, a3⟩ z
            · exact Or.inr ⟨e, by omega, a2, a3, a4⟩
  have := key n 0 NF (b p) (by omega) (NF_big (by omega)) (fun y hy => ⟨Or.inl, fun h => h.elim id (fun ⟨e, a, _⟩ => absurd a (by omega))⟩)
  have eu : upd b p (b p) = b := by funext j; unfold upd; split <;> simp_all
  rw [eu] at this
  exact this
theorem below62 {G : Mem} {n p : Nat} {b : Nat → Int32} (hn : n ≤ 17) (ht : G 81 14 = nI n) (hp : p < n) (its : Int32) (hne : ∀ k, k < n → ∀ e, bt its k = true → bt (G 92 k) e = true → e ≠ p) :
    ∃ a, L_X9_laysBelow_62 (nI p) its NF 0 (setc G 94 b) = some (setc G 94 (upd b p a)) ∧ ∀ y, y < 32 → (bt a y = true ↔ (bt (b p) y = true ∨ ∃ k, k < n ∧ ∃ e, e < n ∧ bt its k = true ∧ bt (G 92 k) e = true ∧ ((y < n ∧ G 91 y = G 91 e) ∨ bt (b e) y = true))) := by
  have h14 : ∀ b, (setc G 94 b) 81 14 = nI n := fun b => by rw [setc_n _ _ (by omega)]; exact ht
  have key : ∀ d x m a, x + d = n → d < m → (∀ y, y < 32 → (bt a y = true ↔ (bt (b p) y = true ∨ ∃ k, k < x ∧ ∃ e, e < n ∧ bt its k = true ∧ bt (G 92 k) e = true ∧ ((y < n ∧ G 91 y = G 91 e) ∨ bt (b e) y = true)))) →
      ∃ a', L_X9_laysBelow_62 (nI p) its m (nI x) (setc G 94 (upd b p a)) = some (setc G 94 (upd b p a')) ∧ ∀ y, y < 32 → (bt a' y = true ↔ (bt (b p) y = true ∨ ∃ k, k < n ∧ ∃ e, e < n ∧ bt its k = true ∧ bt (G 92 k) e = true ∧ ((y < n ∧ G 91 y = G 91 e) ∨ bt (b e) y = true))) := by
    intro d
    induction d with
    | zero =>
      intro x m a h1 h2 h3
      obtain ⟨m, rfl⟩ : ∃ k, m = k + 1 := ⟨m - 1, by omega⟩
      have e : x = n := by omega
      subst e
      exact ⟨a, by rw [L_X9_laysBelow_62, h14, if_pos (nI_le (by omega) (by omega))], h3⟩
    | succ d ih =>
      intro x m a h1 h2 h3
      obtain ⟨m, rfl⟩ : ∃ k, m = k + 1 := ⟨m - 1, by omega⟩
      obtain ⟨a', e1, q1⟩ := below74 (b := upd b p a) hn ht hp (show x < n by omega) its (hne x (by omega))
      rw [L_X9_laysBelow_62, h14, if_neg (nI_ge (by omega) (by omega)), e1, Option.bind_some, nI_1]
      have eu : upd (upd b p a) p a' = upd b p a' := by funext j; unfold upd; split <;> rfl
      rw [eu]
      refine ih (x + 1) m _ (by omega) (by omega) (fun y hy => ?_)
      rw [q1 y hy, pk_us, h3 y hy]
      constructor
      · rintro ((h | ⟨k, k1, k2⟩) | ⟨e, a1, a2, a3, a4⟩)
        · exact Or.inl h
        · exact Or.inr ⟨k, by omega, k2⟩
        · rw [pk_un (hne x (by omega) e a2 a3)] at a4
          exact Or.inr ⟨x, by omega, e, a1, a2, a3, a4⟩
      · rintro (h | ⟨k, k1, e, a1, a2, a3, a4⟩)
        · exact Or.inl (Or.inl h)
        · by_cases q : k = x
          · subst q
            refine Or.inr ⟨e, a1, a2, a3, ?_⟩
            rw [pk_un (hne k (by omega) e a2 a3)]
            exact a4
          · exact Or.inl (Or.inr ⟨k, by omega, e, a1, a2, a3, a4⟩)
  have := key n 0 NF (b p) (by omega) (NF_big (by omega)) (fun y hy => ⟨Or.inl, fun h => h.elim id (fun ⟨e, a, _⟩ => absurd a (by omega))⟩)
  have eu : upd b p (b p) = b := by funext j; unfold upd; split <;> simp_all
  rw [eu] at this
  exact this
theorem laysBelow_eq {G : Mem} {n : Nat} {H : List Edge} {f g : Nat → Int32} {lev : Nat → Nat} (hn : n ≤ 17) (ht : G 81 14 = nI n) (hR : RI n H f g) (hf : G 91 = f) (hg : G 92 = g) (hl : ∀ p, p < n → lev p < n ∧ G 93 p = nI (lev p) ∧ GN n H f (lev p + 1) p ∧ ¬ GN n H f (lev p) p) :
    ∃ b, m_X9_laysBelow G = some (setc G 94 b) ∧ ∀ p, p < n → ∀ y, y < 32 → (bt (b p) y = true ↔ Sq H y p) := by
  have h14 : ∀ b, (setc G 94 b) 81 14 = nI n := fun b => by rw [setc_n _ _ (by omega)]; exact ht
  have hlow : ∀ e p, e < n → p < n → Pd n H f e p → lev e < lev p := by
    intro e p he hp hpd
    obtain ⟨_, _, a, b⟩ := hl p hp
    have h1 := (a.resolve_left b).2 e hpd
    rcases Nat.lt_or_ge (lev e) (lev p) with h | h
    · exact h
    · exact absurd (GN_up h h1) (hl e he).2.2.2
  have init : ∀ d x m b, x + d = n → d < m → (∀ j, j < x → b j = 0) → ∃ b', L_X9_laysBelow_2 m (nI x) (setc G 94 b) = some (setc G 94 b') ∧ ∀ j, j < n → b' j = 0 := by
    intro d
    induction d with
    | zero =>
      intro x m b a1 a2 a3
      obtain ⟨m, rfl⟩ : ∃ k, m = k + 1 := ⟨m - 1, by omega⟩
      have e : x = n := by omega
      subst e
      exact ⟨b, by rw [L_X9_laysBelow_2, h14, if_pos (nI_le (by omega) (by omega))], a3⟩
    | succ d ih =>
      intro x m b a1 a2 a3
      obtain ⟨m, rfl⟩ : ∃ k, m = k + 1 := ⟨m - 1, by omega⟩
      rw [L_X9_laysBelow_2, h14, if_neg (nI_ge (by omega) (by omega)), ast_nI (by omega) (by omega), Option.bind_some, upm_setc, nI_1]
      refine ih (x + 1) m _ (by omega) (by omega) (fun j hj => ?_)
      unfold upd
      by_cases e : j = x
      · rw [if_pos e]
      · rw [if_neg e]; exact a3 j (by omega)
  obtain ⟨b0, e0, z0⟩ := init n 0 NF (G 94) (by omega) (NF_big (by omega)) (fun j h => absurd h (by omega))
  rw [setc_self] at e0
  -- a time of a level
  have row : ∀ j, j < n → ∀ x m b, ∀ d, x + d = n → d < m → (∀ p, p < n → (lev p < j ∨ (lev p = j ∧ p < x) → ∀ y, y < 32 → (bt (b p) y = true ↔ Sq H y p)) ∧ (¬ (lev p < j ∨ (lev p = j ∧ p < x)) → b p = 0)) →
      ∃ b', L_X9_laysBelow_35 (nI j) m (nI x) (setc G 94 b) = some (setc G 94 b') ∧ (∀ p, p < n → (lev p < j + 1 → ∀ y, y < 32 → (bt (b' p) y = true ↔ Sq H y p)) ∧ (¬ lev p < j + 1 → b' p = 0)) := by
    intro j hjn x m b d
    induction d generalizing x m b with
    | zero =>
      intro a1 a2 a3
      obtain ⟨m, rfl⟩ : ∃ k, m = k + 1 := ⟨m - 1, by omega⟩
      have e : x = n := by omega
      subst e
      refine ⟨b, by rw [L_X9_laysBelow_35, h14, if_pos (nI_le (by omega) (by omega))], fun p hp => ⟨fun h => (a3 p hp).1 (by omega), fun h => (a3 p hp).2 (by omega)⟩⟩
    | succ d ih =>
      intro a1 a2 a3
      obtain ⟨m, rfl⟩ : ∃ k, m = k + 1 := ⟨m - 1, by omega⟩
      have hx : x < n := by omega
      have hlx := hl x hx
      rw [L_X9_laysBelow_35, h14, if_neg (nI_ge (by omega) (by omega)), ald_nI (by omega) (by omega), Option.bind_some, setc_n _ _ (by omega), hlx.2.1]
      by_cases hj : lev x = j
      case neg =>
        have hjb : ¬ nI (lev x) = nI j := fun z => hj ((nI_eq (by omega) (by omega)).mp z)
        rw [if_neg hjb, Option.bind_some, nI_1]
        refine ih (x + 1) m b (by omega) (by omega) (fun p hp => ⟨fun h => (a3 p hp).1 ?_, fun h => (a3 p hp).2 (by omega)⟩)
        rcases h with h | ⟨h, h'⟩
        · exact Or.inl h
        · by_cases e : p = x
          · subst e; exact absurd h hj
          · exact Or.inr ⟨h, by omega⟩
      subst hj
      obtain ⟨its, ec, qc⟩ := classOf_eq (G := setc G 94 b) (p := x) hn (h14 _) hx
      have e91 : (setc G 94 b) 91 = f := by rw [setc_n _ _ (by omega)]; exact hf
      have pdk : ∀ k, k < n → ∀ e, e < 32 → bt its k = true → bt (G 92 k) e = true → e < n ∧ Pd n H f e x := by
        intro k hk e he b1 b2
        have := ((qc k (by omega)).mp b1).2
        rw [e91] at this
        rw [hg] at b2
        have b3 := (hR.2.2.2 k hk e he).mp b2
        exact ⟨(hR.1 e true k b3).1, k, hk, this, b3⟩
      obtain ⟨a, e2, q2⟩ := below62 (b := b) hn ht hx its (fun k hk e b1 b2 z => by
        subst z
        have := pdk k hk e (by omega) b1 b2
        exact absurd (hlow e e this.1 hx this.2) (by omega))
      rw [if_pos rfl, ec, Option.bind_some, e2, Option.bind_some, Option.bind_some, nI_1]
      refine ih (x + 1) m _ (by omega) (by omega) (fun p hp => ?_)
      by_cases e : p = x
      · subst e
        rw [pk_us]
        refine ⟨fun _ y hy => ?_, fun h => absurd (Or.inr ⟨rfl, by omega⟩) h⟩
        rw [q2 y hy, (a3 p hp).2 (by omega), bt_0]
        constructor
        · rintro (h | ⟨k, k1, e, a1, a2, a3', a4⟩)
          · exact absurd h (by decide)
          · have hpd := pdk k k1 e (by omega) a2 a3'
            have hs := hpd.2.S hR hp
            rcases a4 with ⟨u1, u2⟩ | u
            · rw [hf] at u2
              exact Sq.l (hR.2.2.1 y e u1 a1 u2) hs
            · exact (((a3 e a1).1 (Or.inl (hlow e p a1 hp hpd.2)) y hy).mp u).tr hs
        · intro hs
          obtain ⟨e, d1, d2⟩ := decS hR hs
          have hen : e < n := ((d1.S hR hp).lt hR.1).1
          have hyn : y < n := (hs.lt hR.1).1
          obtain ⟨k, k1, k2, k3⟩ := d1
          refine Or.inr ⟨k, k1, e, hen, (qc k (by omega)).mpr ⟨k1, by rw [e91]; exact k2⟩, by rw [hg]; exact (hR.2.2.2 k k1 e (by omega)).mpr k3, ?_⟩
          rcases d2 with d2 | d2
          · exact Or.inl ⟨hyn, by rw [hf]; exact d2⟩
          · exact Or.inr (((a3 e hen).1 (Or.inl (hlow e p hen hp ⟨k, k1, k2, k3⟩)) y hy).mpr d2)
      · rw [pk_un e]
        refine ⟨fun h => (a3 p hp).1 ?_, fun h => (a3 p hp).2 (by omega)⟩
        rcases h with h | ⟨h, h'⟩
        · exact Or.inl h
        · exact Or.inr ⟨h, by omega⟩
  have all : ∀ d j m b, j + d = n → d < m → (∀ p, p < n → (lev p < j → ∀ y, y < 32 → (bt (b p) y = true ↔ Sq H y p)) ∧ (¬ lev p < j → b p = 0)) →
      ∃ b', L_X9_laysBelow_25 m (nI j) (setc G 94 b) = some (setc G 94 b') ∧ (∀ p, p < n → ∀ y, y < 32 → (bt (b' p) y = true ↔ Sq H y p)) := by
    intro d
    induction d with
    | zero =>
      intro j m b a1 a2 a3
      obtain ⟨m, rfl⟩ : ∃ k, m = k + 1 := ⟨m - 1, by omega⟩
      have e : j = n := by omega
      subst e
      exact ⟨b, by rw [L_X9_laysBelow_25, h14, if_pos (nI_le (by omega) (by omega))], fun p hp => (a3 p hp).1 (hl p hp).1⟩
    | succ d ih =>
      intro j m b a1 a2 a3
      obtain ⟨m, rfl⟩ : ∃ k, m = k + 1 := ⟨m - 1, by omega⟩
      obtain ⟨b', e1, q1⟩ := row j (by omega) 0 NF b n (by omega) (NF_big (by omega)) (fun p hp => ⟨fun h => (a3 p hp).1 (by omega), fun h => (a3 p hp).2 (by omega)⟩)
      rw [L_X9_laysBelow_25, h14, if_neg (nI_ge (by omega) (by omega)), show (0 : Int32) = nI 0 from rfl, e1, Option.bind_some, nI_1]
      exact ih (j + 1) m b' (by omega) (by omega) q1
  obtain ⟨b, e1, q1⟩ := all n 0 NF b0 (by omega) (NF_big (by omega)) (fun p hp => ⟨fun h => absurd h (by omega), fun _ => z0 p hp⟩)
  refine ⟨b, ?_, q1⟩
  unfold m_X9_laysBelow
  rw [show (0 : Int32) = nI 0 from rfl, e0, Option.bind_some, e1, Option.bind_some]
theorem lev_of {n K : Nat} {H : List Edge} {f l : Nat → Int32} (hK : K ≤ n) (ha : ∀ p, p < n → GN n H f K p) (hl : LvOk n H f K l) : ∃ lev : Nat → Nat, ∀ p, p < n → lev p < n ∧ l p = nI (lev p) ∧ GN n H f (lev p + 1) p ∧ ¬ GN n H f (lev p) p := by
  have : ∀ p, ∃ j, p < n → (j < n ∧ l p = nI j ∧ GN n H f (j + 1) p ∧ ¬ GN n H f j p) := by
    intro p
    by_cases hp : p < n
    · obtain ⟨j, j1, j2⟩ := hl p hp (ha p hp)
      exact ⟨j, fun _ => ⟨by omega, j2⟩⟩
    · exact ⟨0, fun h => absurd h hp⟩
  exact ⟨fun p => Classical.choose (this p), fun p => Classical.choose_spec (this p)⟩
/-- cells that only the reference's reckoning uses -/
def K9r (G G' : Mem) : Prop := (∀ k, k < 91 → k ≠ 81 → G' k = G k) ∧ ∀ j, j ≠ 14 → G' 81 j = G 81 j
theorem K9r.tr {G G' G'' : Mem} (h : K9r G G') (h' : K9r G' G'') : K9r G G'' := ⟨fun k a b => (h'.1 k a b).trans (h.1 k a b), fun j a => (h'.2 j a).trans (h.2 j a)⟩
theorem K9r.or (G : Mem) (x : Int32) (f g : Nat → Int32) : K9r G (or2 (upm G 81 14 x) 90 f g) := ⟨fun k a b => by rw [or2_n _ _ _ (by omega) (by omega), upm_n _ _ _ b], fun j a => by rw [or2_n _ _ _ (by omega) (by omega), upm_kn _ _ _ a]⟩
theorem K9r.se (G : Mem) {c : Nat} (hc : 91 ≤ c) (l : Nat → Int32) : K9r G (setc G c l) := ⟨fun k a b => setc_n _ _ (by omega), fun j a => by rw [setc_n _ _ (by omega)]⟩
theorem sound9 {A : Told} {G : Mem} (hw : WF A) (hR : RowR A (G 82)) (set : Int32) {p q : Nat} {s : Option Nat} (hp : p ≤ 2 * A.nc) (hq : q ≤ 2 * A.nc) (hs : ∀ x, s = some x → x < 2) :
    ∃ G1 f g, m_X9_laysAll G set (nI p) (exI s) (nI q) = some G1 ∧ K9r G G1 ∧ RI (1 + 2 * A.nc) (exH p s q ++ setH A (bt set) A.ns) f g ∧ G1 91 = f ∧ G1 92 = g ∧ G1 81 14 = nI (1 + 2 * A.nc) ∧ ∃ l, (Can (exH p s q ++ setH A (bt set) A.ns) ∧ m_X9_isSound G1 = some (1, setc G1 93 l) ∧ ∃ lev : Nat → Nat, ∀ p', p' < 1 + 2 * A.nc → lev p' < 1 + 2 * A.nc ∧ l p' = nI (lev p') ∧ GN (1 + 2 * A.nc) (exH p s q ++ setH A (bt set) A.ns) f (lev p' + 1) p' ∧ ¬ GN (1 + 2 * A.nc) (exH p s q ++ setH A (bt set) A.ns) f (lev p') p') ∨ (¬ Can (exH p s q ++ setH A (bt set) A.ns) ∧ m_X9_isSound G1 = some (0, setc G1 93 l)) := by
  have h1 := hw.1
  obtain ⟨f, g, e, r⟩ := laysAll_eq hw hR set hp hq hs
  have x1 := or2_1 (upm G 81 14 (nI (1 + 2 * A.nc))) 90 f g
  have x2 := or2_2 (upm G 81 14 (nI (1 + 2 * A.nc))) 90 f g
  have x3 : (or2 (upm G 81 14 (nI (1 + 2 * A.nc))) 90 f g) 81 14 = nI (1 + 2 * A.nc) := by rw [or2_n _ _ _ (by omega) (by omega), upm_kj]
  obtain ⟨l, h⟩ := isSound9 (show 1 + 2 * A.nc ≤ 17 by omega) (by omega) x3 r x1 x2
  refine ⟨_, f, g, e, K9r.or _ _ _ _, r, x1, x2, x3, l, ?_⟩
  rcases h with ⟨a, b, K, k1, k2, k3⟩ | h
  · exact Or.inl ⟨a, b, lev_of k1 k2 k3⟩
  · exact Or.inr h
theorem knownBy_eq {A : Told} {G : Mem} (hw : WF A) (hR : RowR A (G 82)) (set : Int32) {p q : Nat} (hp : p ≤ 2 * A.nc) (hq : q ≤ 2 * A.nc) : ∃ G1, m_X9_knownBy G set (nI p) (nI q) = some (KN (setH A (bt set) A.ns) p q, G1) ∧ K9r G G1 := by
  have h1 := hw.1
  obtain ⟨G1, f, g, e1, k1, r, x1, x2, x3, l, h⟩ := sound9 hw hR set (p := 0) (q := 0) (s := none) (by omega) (by omega) (fun x h => by simp at h)
  rw [show exH 0 none 0 ++ setH A (bt set) A.ns = setH A (bt set) A.ns from rfl] at r h
  rw [show (nI 0 : Int32) = 0 from rfl, show exI none = -9 from rfl] at e1
  unfold m_X9_knownBy KN
  rw [e1, Option.bind_some]
  rcases h with ⟨hc, e2, lev, hl⟩ | ⟨hc, e2⟩
  case inr =>
    refine ⟨_, ?_, k1.tr (K9r.se G1 (c := 93) (by omega) l)⟩
    rw [e2, Option.bind_some, if_pos rfl, if_pos hc]
  obtain ⟨b, e3, q3⟩ := laysBelow_eq (G := setc G1 93 l) (show 1 + 2 * A.nc ≤ 17 by omega) (by rw [setc_n _ _ (by omega)]; exact x3) r (by rw [setc_n _ _ (by omega)]; exact x1) (by rw [setc_n _ _ (by omega)]; exact x2) (lev := lev) (by rw [setc_k]; exact hl)
  refine ⟨setc (setc G1 93 l) 94 b, ?_, (k1.tr (K9r.se G1 (c := 93) (by omega) l)).tr (K9r.se _ (c := 94) (by omega) b)⟩
  rw [e2, Option.bind_some, if_neg one_ne]
  dsimp only
  rw [e3, Option.bind_some, ald_nI (by omega) (by omega), Option.bind_some, ald_nI (by omega) (by omega), Option.bind_some, setc_n _ _ (by omega), setc_n _ _ (by omega), x1, if_neg (show ¬ ¬ Can _ from fun z => z hc)]
  have sR : f p = f q → Rq (setH A (bt set) A.ns) p q := r.2.2.1 p q (by omega) (by omega)
  have sR' : f p = f q → Rq (setH A (bt set) A.ns) q p := fun h => r.2.2.1 q p (by omega) (by omega) h.symm
  by_cases z1 : f p = f q
  · rw [if_pos z1, if_neg (fun z => hc ⟨p, z.r (sR' z1)⟩), if_neg (fun z => hc ⟨q, z.r (sR z1)⟩), if_pos (sR z1)]
  rw [if_neg z1, ald_nI (by omega) (by omega), Option.bind_some, ald_nI (by omega) (by omega), Option.bind_some, setc_k]
  have a1 := q3 q (by omega) p (by omega)
  have a2 := q3 p (by omega) q (by omega)
  by_cases z2 : Sq (setH A (bt set) A.ns) p q
  · rw [if_pos ((shr_1 _ (by omega)).mpr (a1.mpr z2)), if_pos z2]
  rw [if_neg (fun z => z2 (a1.mp ((shr_1 _ (by omega)).mp z))), if_neg z2]
  by_cases z3 : Sq (setH A (bt set) A.ns) q p
  · rw [if_pos ((shr_1 _ (by omega)).mpr (a2.mpr z3)), if_pos z3]
  rw [if_neg (fun z => z3 (a2.mp ((shr_1 _ (by omega)).mp z))), if_neg z3, if_neg]
  intro z
  rcases decR r z with h | ⟨e, h1, h2⟩
  · exact z1 h
  · exact z2 (Sq.l h1 (h2.S r (by omega)))
