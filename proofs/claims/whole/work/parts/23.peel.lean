/-! ===== 23 classes taken off, one behind the other ===== -/
def Pd (n : Nat) (H : List Edge) (f : Nat → Int32) (e y : Nat) : Prop := ∃ k, k < n ∧ f k = f y ∧ (e, true, k) ∈ H
theorem Pd.S {n : Nat} {H : List Edge} {f g : Nat → Int32} (h : RI n H f g) {e y : Nat} (hy : y < n) (hp : Pd n H f e y) : Sq H e y := by
  obtain ⟨k, h1, h2, h3⟩ := hp
  exact (Sq.ed h3).r (h.2.2.1 k y h1 hy h2)
theorem Pd.c {n : Nat} {H : List Edge} {f : Nat → Int32} {e y w : Nat} (hp : Pd n H f e y) (h : f y = f w) : Pd n H f e w := by
  obtain ⟨k, h1, h2, h3⟩ := hp
  exact ⟨k, h1, h2.trans h, h3⟩
theorem decR {n : Nat} {H : List Edge} {f g : Nat → Int32} (h : RI n H f g) {b y : Nat} (hr : Rq H b y) : f b = f y ∨ ∃ e, Rq H b e ∧ Pd n H f e y := by
  refine (hr (fun b y => Rq H b y ∧ (f b = f y ∨ ∃ e, Rq H b e ∧ Pd n H f e y)) (fun x => ⟨Rq.rf H x, Or.inl rfl⟩) ?_ ?_).2
  · rintro x y z ⟨a, b⟩ ⟨c, d⟩
    refine ⟨a.tr c, ?_⟩
    rcases d with d | ⟨e, d1, d2⟩
    · rcases b with b | ⟨e, b1, b2⟩
      · exact Or.inl (b.trans d)
      · exact Or.inr ⟨e, b1, b2.c d⟩
    · exact Or.inr ⟨e, a.tr d1, d2⟩
  · intro p b q m
    refine ⟨Rq.ed m, ?_⟩
    cases b with
    | false => exact Or.inl (h.2.1 p q m)
    | true => exact Or.inr ⟨p, Rq.rf H p, q, (h.1 p true q m).2, rfl, m⟩
theorem decS {n : Nat} {H : List Edge} {f g : Nat → Int32} (h : RI n H f g) {x y : Nat} (hs : Sq H x y) : ∃ e, Pd n H f e y ∧ (f x = f e ∨ Sq H x e) := by
  obtain ⟨a, b, h1, h2, h3⟩ := hs
  have hab := h.1 a true b h2
  rcases decR h h3 with e | ⟨e, e1, e2⟩
  · refine ⟨a, ⟨b, hab.2, e, h2⟩, ?_⟩
    rcases decR h h1 with d | ⟨d, d1, d2⟩
    · exact Or.inl d
    · exact Or.inr (Sq.l d1 (d2.S h hab.1))
  · exact ⟨e, e2, Or.inr ⟨a, b, h1, h2, e1⟩⟩
/-- gone after so many rounds -/
def GN (n : Nat) (H : List Edge) (f : Nat → Int32) : Nat → Nat → Prop
  | 0, _ => False
  | k + 1, p => GN n H f k p ∨ (p < n ∧ ∀ e, Pd n H f e p → GN n H f k e)
theorem GN_lt {n : Nat} {H : List Edge} {f : Nat → Int32} : ∀ k p, GN n H f k p → p < n := by
  intro k
  induction k with
  | zero => intro p h; exact h.elim
  | succ k ih => intro p h; exact h.elim (ih p) (fun h => h.1)
theorem GN_up {n : Nat} {H : List Edge} {f : Nat → Int32} {k k' p : Nat} (hk : k ≤ k') (h : GN n H f k p) : GN n H f k' p := by
  obtain ⟨d, rfl⟩ : ∃ d, k' = k + d := ⟨k' - k, by omega⟩
  induction d with
  | zero => exact h
  | succ d ih => exact Or.inl (ih (by omega))
theorem GN_c {n : Nat} {H : List Edge} {f : Nat → Int32} : ∀ k p q, p < n → q < n → f p = f q → GN n H f k p → GN n H f k q := by
  intro k
  induction k with
  | zero => intro p q _ _ _ h; exact h.elim
  | succ k ih =>
    intro p q hp hq e h
    rcases h with h | h
    · exact Or.inl (ih p q hp hq e h)
    · exact Or.inr ⟨hq, fun x hx => h.2 x (hx.c e.symm)⟩
theorem GN_dn {n : Nat} {H : List Edge} {f g : Nat → Int32} (hR : RI n H f g) : ∀ k x e, Sq H x e → GN n H f k e → GN n H f k x := by
  intro k
  induction k with
  | zero => intro x e _ h; exact h.elim
  | succ k ih =>
    intro x e hs h
    rcases h with h | h
    · exact Or.inl (ih x e hs h)
    · obtain ⟨e', p1, p2⟩ := decS hR hs
      have hg := h.2 e' p1
      rcases p2 with p2 | p2
      · exact Or.inl (GN_c k e' x (GN_lt k e' hg) (hs.lt hR.1).1 p2.symm hg)
      · exact Or.inl (ih x e' p2 hg)
theorem GN_no {n : Nat} {H : List Edge} {f g : Nat → Int32} (hR : RI n H f g) : ∀ k x, Sq H x x → ¬ GN n H f k x := by
  intro k
  induction k with
  | zero => intro x _ h; exact h
  | succ k ih =>
    intro x hs h
    rcases h with h | h
    · exact ih x hs h
    · obtain ⟨e, p1, p2⟩ := decS hR hs
      have h1 := p1.S hR h.1
      refine ih e ?_ (h.2 e p1)
      rcases p2 with p2 | p2
      · exact h1.r (hR.2.2.1 x e h.1 (h1.lt hR.1).1 p2)
      · exact h1.tr p2
/-- a round that takes nothing, with something left: there is a ring -/
theorem GN_ring {n : Nat} {H : List Edge} {f g : Nat → Int32} (hR : RI n H f g) {k : Nat} (hst : ∀ p, GN n H f (k + 1) p → GN n H f k p) {p : Nat} (hp : p < n) (hg : ¬ GN n H f k p) : ¬ Can H := by
  have nx : ∀ p, ∃ e, p < n → ¬ GN n H f k p → (e < n ∧ ¬ GN n H f k e ∧ Sq H e p) := by
    intro p
    by_cases h : p < n ∧ ¬ GN n H f k p
    · have : ¬ ∀ e, Pd n H f e p → GN n H f k e := fun z => h.2 (hst p (Or.inr ⟨h.1, z⟩))
      obtain ⟨e, he⟩ := Classical.not_forall.mp this
      have h2 := Classical.not_imp.mp he
      have h3 := h2.1.S hR h.1
      exact ⟨e, fun _ _ => ⟨(h3.lt hR.1).1, h2.2, h3⟩⟩
    · exact ⟨0, fun a b => absurd ⟨a, b⟩ h⟩
  let nxt : Nat → Nat := fun p => Classical.choose (nx p)
  have hn : ∀ p, p < n → ¬ GN n H f k p → (nxt p < n ∧ ¬ GN n H f k (nxt p) ∧ Sq H (nxt p) p) := fun p => Classical.choose_spec (nx p)
  let it : Nat → Nat := fun i => Nat.rec p (fun _ x => nxt x) i
  have hi : ∀ i, it i < n ∧ ¬ GN n H f k (it i) := by
    intro i
    induction i with
    | zero => exact ⟨hp, hg⟩
    | succ i ih => exact ⟨(hn _ ih.1 ih.2).1, (hn _ ih.1 ih.2).2.1⟩
  have hs : ∀ i d, Sq H (it (i + 1 + d)) (it i) := by
    intro i d
    induction d with
    | zero => exact (hn _ (hi i).1 (hi i).2).2.2
    | succ d ih => exact Sq.tr ((hn _ (hi (i + 1 + d)).1 (hi (i + 1 + d)).2).2.2) ih
  intro hc
  have := pigeon n (n + 1) it (fun c _ => (hi c).1) (fun c c' _ _ e => by
    rcases Nat.lt_trichotomy c c' with h | h | h
    · have := hs c (c' - c - 1)
      rw [show c + 1 + (c' - c - 1) = c' by omega, ← e] at this
      exact absurd ⟨_, this⟩ hc
    · exact h
    · have := hs c' (c - c' - 1)
      rw [show c' + 1 + (c - c' - 1) = c by omega, e] at this
      exact absurd ⟨_, this⟩ hc)
  omega
theorem classOf_eq {G : Mem} {n p : Nat} (hn : n ≤ 17) (ht : G 81 14 = nI n) (hp : p < n) : ∃ m, m_X9_classOf G (nI p) = some m ∧ ∀ y, y < 32 → (bt m y = true ↔ (y < n ∧ G 91 y = G 91 p)) := by
  obtain ⟨m, e, h⟩ := or_loop (L_X9_classOf_4 (nI p) G) n (fun x => if G 91 x = G 91 p then 1 <<< (nI x &&& 31) else 0) (fun k a => by
    rw [L_X9_classOf_4, ht, if_pos (nI_le (by omega) (by omega))]) (fun k a x hx => by
    rw [L_X9_classOf_4, ht, if_neg (nI_ge (by omega) (by omega)), ald_nI (by omega) (by omega), Option.bind_some, ald_nI (by omega) (by omega), Option.bind_some]
    have hv : ((if G 91 x = G 91 p then some (1 <<< (nI x &&& 31)) else some 0) : Option Int32) = some (if G 91 x = G 91 p then 1 <<< (nI x &&& 31) else 0) := by split <;> rfl
    rw [hv, Option.bind_some, nI_1]) NF (NF_big (by omega))
  refine ⟨m, by unfold m_X9_classOf; rw [e, Option.bind_some], fun y hy => ?_⟩
  rw [h y]
  constructor
  · rintro ⟨x, hx, hb⟩
    by_cases z : G 91 x = G 91 p
    · rw [if_pos z, bt_pow (by omega) hy] at hb
      have : y = x := by simpa using hb
      subst this
      exact ⟨hx, z⟩
    · rw [if_neg z, bt_0] at hb
      exact absurd hb (by decide)
  · rintro ⟨a, b⟩
    exact ⟨y, a, by rw [if_pos b, bt_pow (by omega) hy]; simp⟩
theorem due_eq {G : Mem} {n : Nat} (hn : n ≤ 17) (ht : G 81 14 = nI n) (its : Int32) : ∃ m, L_X9_isSound_50 its G NF 0 0 = some m ∧ ∀ y, bt m y = true ↔ ∃ k, k < n ∧ bt its k = true ∧ bt (G 92 k) y = true := by
  obtain ⟨m, e, h⟩ := or_loop (L_X9_isSound_50 its G) n (fun x => if bt its x then G 92 x else 0) (fun k a => by
    rw [L_X9_isSound_50, ht, if_pos (nI_le (by omega) (by omega))]) (fun k a x hx => by
    rw [L_X9_isSound_50, ht, if_neg (nI_ge (by omega) (by omega)), ald_nI (by omega) (by omega), Option.bind_some]
    have hv : ((if ((its >>> (nI x &&& 31)) &&& 1) = 1 then some (G 92 x) else some 0) : Option Int32) = some (if bt its x then G 92 x else 0) := by
      by_cases z : bt its x = true
      · rw [if_pos ((shr_1 _ (by omega)).mpr z), if_pos z]
      · rw [if_neg (fun q => z ((shr_1 _ (by omega)).mp q)), if_neg z]
    rw [hv, Option.bind_some, nI_1]) NF (NF_big (by omega))
  refine ⟨m, e, fun y => ?_⟩
  rw [h y]
  constructor
  · rintro ⟨x, hx, hb⟩
    by_cases z : bt its x = true
    · rw [if_pos z] at hb; exact ⟨x, hx, z, hb⟩
    · rw [if_neg z, bt_0] at hb; exact absurd hb (by decide)
  · rintro ⟨x, hx, a, b⟩
    exact ⟨x, hx, by rw [if_pos a]; exact b⟩
theorem sub_zero {x y : Int32} : (x &&& (y ^^^ (-1))) = 0 ↔ ∀ i, i < 32 → bt x i = true → bt y i = true := by
  constructor
  · intro h i hi hx
    have : bt (x &&& (y ^^^ (-1))) i = false := by rw [h, bt_0]
    rw [bt_and, bt_not _ hi, hx] at this
    simpa using this
  · intro h
    apply bt_ext
    intro i hi
    rw [bt_and, bt_not _ hi, bt_0]
    cases hx : bt x i
    · rfl
    · rw [h i hi hx]; rfl
theorem now_eq {G : Mem} {n k : Nat} {H : List Edge} {f g : Nat → Int32} (hn : n ≤ 17) (ht : G 81 14 = nI n) (hR : RI n H f g) (hf : G 91 = f) (hg : G 92 = g) {x1 : Int32} (hx : ∀ y, y < 32 → (bt x1 y = true ↔ GN n H f k y)) : ∃ m, L_X9_isSound_27 x1 G NF 0 0 = some m ∧ ∀ y, y < 32 → (bt m y = true ↔ (y < n ∧ ¬ GN n H f k y ∧ ∀ e, Pd n H f e y → GN n H f k e)) := by
  have st : ∀ x, ∃ v, x < n → ((m_X9_classOf G (nI x)).bind (fun r_3 => (L_X9_isSound_50 r_3 G NF 0 0).bind (fun v_8 => ((if ((x1 >>> (nI x &&& 31)) &&& 1) = 0 then (if (v_8 &&& (x1 ^^^ (-1))) = 0 then some (1 <<< (nI x &&& 31)) else some 0) else some 0) : Option (Int32)))) = some v ∧ (∀ y, y < 32 → (bt v y = true ↔ (y = x ∧ ¬ GN n H f k x ∧ ∀ e, Pd n H f e x → GN n H f k e)))) := by
    intro x
    by_cases hxn : x < n
    · obtain ⟨its, e1, q1⟩ := classOf_eq hn ht hxn
      obtain ⟨due, e2, q2⟩ := due_eq hn ht its
      have hd : (∀ i, i < 32 → bt due i = true → bt x1 i = true) ↔ ∀ e, Pd n H f e x → GN n H f k e := by
        constructor
        · rintro h e ⟨k', k1, k2, k3⟩
          have he := (hR.1 e true k' k3).1
          exact (hx e (by omega)).mp (h e (by omega) ((q2 e).mpr ⟨k', k1, (q1 k' (by omega)).mpr ⟨k1, by rw [hf]; exact k2⟩, by rw [hg]; exact (hR.2.2.2 k' k1 e (by omega)).mpr k3⟩))
        · intro h i hi hb
          obtain ⟨k', k1, k2, k3⟩ := (q2 i).mp hb
          rw [hg] at k3
          have k4 := ((q1 k' (by omega)).mp k2).2
          rw [hf] at k4
          exact (hx i hi).mpr (h i ⟨k', k1, k4, (hR.2.2.2 k' k1 i hi).mp k3⟩)
      by_cases z1 : bt x1 x = true
      · refine ⟨0, fun _ => ⟨?_, fun y hy => ?_⟩⟩
        · rw [e1, Option.bind_some, e2, Option.bind_some, if_neg (fun z => by rw [(shr_0 _ (by omega)).mp z] at z1; exact absurd z1 (by decide))]
        · rw [bt_0]
          constructor
          · intro h; exact absurd h (by decide)
          · rintro ⟨_, h, _⟩; exact absurd ((hx x (by omega)).mp z1) h
      · have z1' : ¬ GN n H f k x := fun h => z1 ((hx x (by omega)).mpr h)
        by_cases z2 : (due &&& (x1 ^^^ (-1))) = 0
        · refine ⟨1 <<< (nI x &&& 31), fun _ => ⟨?_, fun y hy => ?_⟩⟩
          · rw [e1, Option.bind_some, e2, Option.bind_some, if_pos ((shr_0 _ (by omega)).mpr (by simpa using z1)), if_pos z2]
          · rw [bt_pow (by omega) hy]
            constructor
            · intro h; exact ⟨by simpa using h, z1', hd.mp (sub_zero.mp z2)⟩
            · rintro ⟨h, _⟩; simp [h]
        · refine ⟨0, fun _ => ⟨?_, fun y hy => ?_⟩⟩
          · rw [e1, Option.bind_some, e2, Option.bind_some, if_pos ((shr_0 _ (by omega)).mpr (by simpa using z1)), if_neg z2]
          · rw [bt_0]
            constructor
            · intro h; exact absurd h (by decide)
            · rintro ⟨_, _, h⟩; exact absurd (sub_zero.mpr (hd.mpr h)) z2
    · exact ⟨0, fun h => absurd h hxn⟩
  obtain ⟨m, e, h⟩ := or_loop (L_X9_isSound_27 x1 G) n (fun x => Classical.choose (st x)) (fun k a => by
    rw [L_X9_isSound_27, ht, if_pos (nI_le (by omega) (by omega))]) (fun k a x hxn => by
    have q := (Classical.choose_spec (st x) hxn).1
    generalize Classical.choose (st x) = v at q
    rw [L_X9_isSound_27, ht, if_neg (nI_ge (by omega) (by omega))]
    cases h1 : m_X9_classOf G (nI x) with
    | none => rw [h1] at q; exact absurd q (by simp)
    | some its =>
      rw [h1, Option.bind_some] at q
      rw [Option.bind_some]
      cases h2 : L_X9_isSound_50 its G NF 0 0 with
      | none => rw [h2] at q; exact absurd q (by simp)
      | some due =>
        rw [h2, Option.bind_some] at q
        rw [Option.bind_some, q, Option.bind_some, nI_1]) NF (NF_big (by omega))
  refine ⟨m, e, fun y hy => ?_⟩
  rw [h y]
  constructor
  · rintro ⟨x, hxn, hb⟩
    obtain ⟨a, b, c⟩ := ((Classical.choose_spec (st x) hxn).2 y hy).mp hb
    subst a
    exact ⟨hxn, b, c⟩
  · rintro ⟨a, b, c⟩
    exact ⟨y, a, ((Classical.choose_spec (st y) a).2 y hy).mpr ⟨rfl, b, c⟩⟩
def lvF (l : Nat → Int32) (now num : Int32) (m : Nat) : Nat → Int32 := fun x => if x < m ∧ bt now x = true then num else l x
theorem lev_eq {G : Mem} {n : Nat} {l : Nat → Int32} (hn : n ≤ 17) (ht : G 81 14 = nI n) (num now : Int32) : L_X9_isSound_132 num now NF 0 (setc G 93 l) = some (setc G 93 (lvF l now num n)) := by
  have h14 : ∀ l, (setc G 93 l) 81 14 = nI n := fun l => by rw [setc_n _ _ (by omega)]; exact ht
  have key : ∀ d x m, x + d = n → d < m → L_X9_isSound_132 num now m (nI x) (setc G 93 (lvF l now num x)) = some (setc G 93 (lvF l now num n)) := by
    intro d
    induction d with
    | zero =>
      intro x m h1 h2
      obtain ⟨m, rfl⟩ : ∃ k, m = k + 1 := ⟨m - 1, by omega⟩
      have e : x = n := by omega
      subst e
      rw [L_X9_isSound_132, h14, if_pos (nI_le (by omega) (by omega))]
    | succ d ih =>
      intro x m h1 h2
      obtain ⟨m, rfl⟩ : ∃ k, m = k + 1 := ⟨m - 1, by omega⟩
      rw [L_X9_isSound_132, h14, if_neg (nI_ge (by omega) (by omega)), ald_nI (by omega) (by omega), Option.bind_some, setc_k]
      have ef : lvF l now num x x = l x := by unfold lvF; rw [if_neg (by omega)]
      have hv : ((if ((now >>> (nI x &&& 31)) &&& 1) = 1 then some num else some (lvF l now num x x)) : Option Int32) = some (if bt now x then num else l x) := by
        rw [ef]
        by_cases z : bt now x = true
        · rw [if_pos ((shr_1 _ (by omega)).mpr z), if_pos z]
        · rw [if_neg (fun q => z ((shr_1 _ (by omega)).mp q)), if_neg z]
      rw [hv, Option.bind_some, ast_nI (by omega) (by omega), Option.bind_some, nI_1, upm_setc]
      have e1 : upd (lvF l now num x) x (if bt now x then num else l x) = lvF l now num (x + 1) := by
        funext j
        unfold upd lvF
        by_cases hj : j = x
        · subst hj
          rw [if_pos rfl]
          by_cases z : bt now j = true
          · rw [if_pos z, if_pos ⟨by omega, z⟩]
          · rw [if_neg z, if_neg (fun q => z q.2)]
        · rw [if_neg hj]
          by_cases hk : j < x ∧ bt now j = true
          · rw [if_pos hk, if_pos ⟨by omega, hk.2⟩]
          · rw [if_neg hk, if_neg (fun q => hk ⟨by omega, q.2⟩)]
      rw [e1]
      exact ih (x + 1) m (by omega) (by omega)
  have h0 := key n 0 NF (by omega) (NF_big (by omega))
  have e1 : lvF l now num 0 = l := by funext j; unfold lvF; rw [if_neg (by omega)]
  rw [e1] at h0
  exact h0
/-- levels, of those gone -/
def LvOk (n : Nat) (H : List Edge) (f : Nat → Int32) (k : Nat) (l : Nat → Int32) : Prop := ∀ p, p < n → GN n H f k p → ∃ j, j < k ∧ l p = nI j ∧ GN n H f (j + 1) p ∧ ¬ GN n H f j p
theorem isSound9 {G : Mem} {n : Nat} {H : List Edge} {f g : Nat → Int32} (hn : n ≤ 17) (h0n : 0 < n) (ht : G 81 14 = nI n) (hR : RI n H f g) (hf : G 91 = f) (hg : G 92 = g) :
    ∃ l, (Can H ∧ m_X9_isSound G = some (1, setc G 93 l) ∧ ∃ K, K ≤ n ∧ (∀ p, p < n → GN n H f K p) ∧ LvOk n H f K l) ∨ (¬ Can H ∧ m_X9_isSound G = some (0, setc G 93 l)) := by
  have h14 : ∀ l, (setc G 93 l) 81 14 = nI n := fun l => by rw [setc_n _ _ (by omega)]; exact ht
  have hW : ∀ y, y < 32 → (bt ((1 <<< (nI n &&& 31)) - 1) y = true ↔ y < n) := fun y hy => by rw [bt_all (by omega) hy]; simp
  -- one round
  have key : ∀ d k m l x1, n - k ≤ d → d + 1 < m → (∀ j, j < k → ∃ p, p < n ∧ GN n H f (j + 1) p ∧ ¬ GN n H f j p) → (∃ p, p < n ∧ ¬ GN n H f k p) → (∀ y, y < 32 → (bt x1 y = true ↔ GN n H f k y)) → LvOk n H f k l →
      ∃ K l' x1', L_X9_isSound_16 ((1 <<< (nI n &&& 31)) - 1) m x1 (nI k) 1 (setc G 93 l) = some (x1', setc G 93 l') ∧ (∀ y, y < 32 → (bt x1' y = true ↔ GN n H f K y)) ∧ ((K ≤ n ∧ (∀ p, p < n → GN n H f K p) ∧ LvOk n H f K l') ∨ ((∀ p, GN n H f (K + 1) p → GN n H f K p) ∧ ∃ p, p < n ∧ ¬ GN n H f K p)) := by
    intro d
    induction d with
    | zero =>
      intro k m l x1 h1 h2 h3 h4 h5 h6
      exfalso
      obtain ⟨p, hp, hg⟩ := h4
      have := pigeon n (k + 1) (fun j => if h : j < k then Classical.choose (h3 j h) else p) (fun c _ => by
        by_cases h : c < k
        · simp only [dif_pos h]; exact (Classical.choose_spec (h3 c h)).1
        · simp only [dif_neg h]; exact hp) (fun c c' hc hc' e => by
        have key2 : ∀ c c', c < c' → c' < k + 1 → (if h : c < k then Classical.choose (h3 c h) else p) = (if h : c' < k then Classical.choose (h3 c' h) else p) → False := by
          intro c c' h h' e
          rw [dif_pos (show c < k by omega)] at e
          have a := (Classical.choose_spec (h3 c (by omega))).2.1
          by_cases z : c' < k
          · rw [dif_pos z] at e
            have b := (Classical.choose_spec (h3 c' z)).2.2
            rw [← e] at b
            exact b (GN_up (by omega) a)
          · rw [dif_neg z] at e
            rw [e] at a
            exact hg (GN_up (by omega) a)
        rcases Nat.lt_trichotomy c c' with h | h | h
        · exact (key2 c c' h hc' e).elim
        · exact h
        · exact (key2 c' c h hc e.symm).elim)
      omega
    | succ d ih =>
      intro k m l x1 h1 h2 h3 h4 h5 h6
      obtain ⟨m, rfl⟩ : ∃ j, m = j + 1 := ⟨m - 1, by omega⟩
      obtain ⟨now, e1, q1⟩ := now_eq (G := setc G 93 l) hn (h14 l) hR (by rw [setc_n _ _ (by omega)]; exact hf) (by rw [setc_n _ _ (by omega)]; exact hg) h5
      rw [L_X9_isSound_16, if_neg one_ne, e1, Option.bind_some, lev_eq hn ht, Option.bind_some, nI_1]
      have q2 : ∀ y, y < 32 → (bt (x1 ||| now) y = true ↔ GN n H f (k + 1) y) := by
        intro y hy
        rw [bt_or, Bool.or_eq_true, h5 y hy, q1 y hy]
        constructor
        · rintro (h | ⟨a, b, c⟩)
          · exact Or.inl h
          · exact Or.inr ⟨a, c⟩
        · rintro (h | ⟨a, c⟩)
          · exact Or.inl h
          · by_cases z : GN n H f k y
            · exact Or.inl z
            · exact Or.inr ⟨a, z, c⟩
      have q3 : LvOk n H f (k + 1) (lvF l now (nI k) n) := by
        intro p hp hg
        by_cases z : GN n H f k p
        · obtain ⟨j, j1, j2, j3⟩ := h6 p hp z
          refine ⟨j, by omega, ?_, j3⟩
          unfold lvF
          rw [if_neg (fun q => ((q1 p (by omega)).mp q.2).2.1 z)]
          exact j2
        · refine ⟨k, by omega, ?_, hg, z⟩
          unfold lvF
          rw [if_pos ⟨hp, (q1 p (by omega)).mpr ⟨hp, z, (hg.resolve_left z).2⟩⟩]
      by_cases z1 : now = 0
      · have hst : ∀ p, GN n H f (k + 1) p → GN n H f k p := by
          intro p h
          rcases h with h | h
          · exact h
          · by_cases z : GN n H f k p
            · exact z
            · have := (q1 p (by omega)).mpr ⟨h.1, z, h.2⟩
              rw [z1, bt_0] at this
              exact absurd this (by decide)
        rw [if_pos z1, Option.bind_some]
        obtain ⟨m, rfl⟩ : ∃ j, m = j + 1 := ⟨m - 1, by omega⟩
        refine ⟨k + 1, _, _, by rw [L_X9_isSound_16, if_pos rfl], q2, Or.inr ⟨?_, ?_⟩⟩
        · intro p h
          rcases h with h | h
          · exact h
          · exact Or.inr ⟨h.1, fun e he => hst e (h.2 e he)⟩
        · obtain ⟨p, hp, hg⟩ := h4
          exact ⟨p, hp, fun h => hg (hst p h)⟩
      rw [if_neg z1]
      have hen : ∃ p, p < n ∧ GN n H f (k + 1) p ∧ ¬ GN n H f k p := by
        by_cases hex : ∃ y, y < 32 ∧ bt now y = true
        · obtain ⟨y, y1, y2⟩ := hex
          obtain ⟨a, b, c⟩ := (q1 y y1).mp y2
          exact ⟨y, a, Or.inr ⟨a, c⟩, b⟩
        · refine absurd (bt_ext (fun i hi => ?_)) z1
          rw [bt_0]
          cases hb : bt now i
          · rfl
          · exact absurd ⟨i, hi, hb⟩ hex
      have h3' : ∀ j, j < k + 1 → ∃ p, p < n ∧ GN n H f (j + 1) p ∧ ¬ GN n H f j p := by
        intro j hj
        by_cases e : j = k
        · subst e; exact hen
        · exact h3 j (by omega)
      have hk1 : k + 1 ≤ n := by
        refine pigeon n (k + 1) (fun j => if h : j < k + 1 then Classical.choose (h3' j h) else 0) (fun c hc => by
          simp only [dif_pos hc]; exact (Classical.choose_spec (h3' c hc)).1) (fun c c' hc hc' e => ?_)
        simp only [dif_pos hc, dif_pos hc'] at e
        have a := (Classical.choose_spec (h3' c hc)).2
        have b := (Classical.choose_spec (h3' c' hc')).2
        rw [← e] at b
        rcases Nat.lt_trichotomy c c' with h | h | h
        · exact absurd (GN_up (by omega) a.1) b.2
        · exact h
        · exact absurd (GN_up (by omega) b.1) a.2
      by_cases z2 : x1 ||| now = (1 <<< (nI n &&& 31)) - 1
      · rw [if_pos z2, Option.bind_some]
        obtain ⟨m, rfl⟩ : ∃ j, m = j + 1 := ⟨m - 1, by omega⟩
        refine ⟨k + 1, _, _, by rw [L_X9_isSound_16, if_pos rfl], q2, Or.inl ⟨hk1, fun p hp => ?_, q3⟩⟩
        rw [← q2 p (by omega), z2, hW p (by omega)]
        exact hp
      · rw [if_neg z2, Option.bind_some]
        refine ih (k + 1) m _ _ (by omega) (by omega) h3' ?_ q2 q3
        refine Classical.byContradiction (fun hno => z2 (bt_ext (fun i hi => ?_)))
        have a := q2 i hi
        have b := hW i hi
        have c : GN n H f (k + 1) i ↔ i < n := ⟨GN_lt _ _, fun h => Classical.byContradiction (fun q => hno ⟨i, h, q⟩)⟩
        cases u : bt (x1 ||| now) i <;> cases v : bt ((1 <<< (nI n &&& 31)) - 1) i
        · rfl
        · rw [u, c, ← b, v] at a; exact absurd (a.mpr rfl) (by decide)
        · rw [u, c, ← b, v] at a; exact absurd (a.mp rfl) (by decide)
        · rfl
  obtain ⟨K, l', x1', e, q, r⟩ := key n 0 NF (G 93) 0 (by omega) (NF_big (by omega)) (fun j h => absurd h (by omega)) ⟨0, h0n, fun h => h⟩ (fun y hy => by rw [bt_0]; exact ⟨fun h => absurd h (by decide), fun h => h.elim⟩) (fun p _ h => h.elim)
  rw [setc_self] at e
  unfold m_X9_isSound
  rw [ht, show (0 : Int32) = nI 0 from rfl] at *
  rw [show (nI 0 : Int32) = 0 from rfl] at *
  rw [e, Option.bind_some]
  dsimp only
  refine ⟨l', ?_⟩
  rcases r with ⟨r1, r2, r3⟩ | ⟨r1, p, hp, r2⟩
  · have hc : Can H := fun ⟨x, hx⟩ => GN_no hR K x hx (r2 x (hx.lt hR.1).1)
    refine Or.inl ⟨hc, ?_, K, r1, r2, r3⟩
    rw [if_pos (bt_ext (fun i hi => ?_))]
    have a := q i hi
    have b := hW i hi
    have c : GN n H f K i ↔ i < n := ⟨GN_lt _ _, r2 i⟩
    cases u : bt x1' i <;> cases v : bt ((1 <<< (nI n &&& 31)) - 1) i
    · rfl
    · rw [u, c, ← b, v] at a; exact absurd (a.mpr rfl) (by decide)
    · rw [u, c, ← b, v] at a; exact absurd (a.mp rfl) (by decide)
    · rfl
  · refine Or.inr ⟨GN_ring hR r1 hp r2, ?_⟩
    rw [if_neg (fun z => ?_)]
    have a := q p (by omega)
    rw [z, hW p (by omega)] at a
    exact r2 (a.mp hp)
