/-! ===== 25 steps: sound, known, line, would, unseen ===== -/
def K8q (G G1 : Mem) : Prop := ∀ k, k < 27 ∨ 81 ≤ k → G1 k = G k
theorem K8q.or (G : Mem) (f g : Nat → Int32) : K8q G (or2 G 27 f g) := fun k h => or2_n _ _ _ (by omega) (by omega)
theorem K8q.tr {G G' G'' : Mem} (h : K8q G G') (h' : K8q G' G'') : K8q G G'' := fun k a => (h' k a).trans (h k a)
theorem K8q.rf (G : Mem) : K8q G G := fun _ _ => rfl
theorem K9r.rf (G : Mem) : K9r G G := ⟨fun _ _ _ => rfl, fun _ _ => rfl⟩
theorem Keeps_q {G G1 G2 : Mem} (h : K8q G G1) (h' : K9r (upm G1 81 0 0) G2) : Keeps G G2 := by
  have ke : ∀ k, k < 27 ∨ (82 ≤ k ∧ k < 91) → G2 k = G k := fun k hk => by rw [h'.1 k (by omega) (by omega), upm_n _ _ _ (by omega), h k (by omega)]
  have k81 : ∀ j, j ≠ 14 → j ≠ 0 → G2 81 j = G 81 j := fun j a b => by rw [h'.2 j a, upm_kn _ _ _ b, h 81 (by omega)]
  exact ⟨ke 2 (by omega), by rw [ke 5 (by omega)], ke 6 (by omega), ke 7 (by omega), fun k a b => ke k (by omega), ke 19 (by omega), ke 21 (by omega), ke 22 (by omega), ke 23 (by omega), ke 24 (by omega), ke 25 (by omega), ke 26 (by omega), k81 4 (by omega) (by omega), k81 7 (by omega) (by omega), k81 11 (by omega) (by omega), ke 82 (by omega), fun k a b => by
    by_cases e : k < 91
    · exact ke k (by omega)
    · omega⟩
theorem Wi.up {n m : Nat} (hnm : n ≤ m) {H : List Edge} (h : Wi n H) : Wi m H := fun p b q x => by have := h p b q x; omega
def ALL (n : Nat) : Int32 := (1 <<< (nI n &&& 31)) - 1
theorem every_eq {A : Told} {G : Mem} (h : RowC A (G 2)) : m_X6_everything G 1 = some (ALL A.ns) := by
  unfold m_X6_everything ALL
  rw [c8_1 h, Option.bind_some]
theorem all9_eq {A : Told} {G : Mem} (h : RowR A (G 82)) : m_X9_all G = some (ALL A.ns) := by
  unfold m_X9_all ALL
  rw [c9_1 h, Option.bind_some]
/-- all that is told -/
def H0 (A : Told) : List Edge := setH A (bt (ALL A.ns)) A.ns
theorem H0_W {A : Told} (hw : WF A) : Wi 17 (H0 A) := by have := hw.1; exact (Wi_setH hw _ A.ns (by omega)).up (by omega)
theorem orderAll_eq {A : Told} {G : Mem} (hw : WF A) (hC : RowC A (G 2)) : ∃ f g, m_X8_orderAll G = some (or2 G 27 f g) ∧ OI (H0 A) f g := by
  obtain ⟨f, g, e, h⟩ := orderSet_eq hw hC (ALL A.ns)
  exact ⟨f, g, by unfold m_X8_orderAll; rw [every_eq hC, Option.bind_some, e, Option.bind_some], h⟩
theorem sound9a {A : Told} {G : Mem} (hw : WF A) (hR : RowR A (G 82)) (set : Int32) :
    ∃ G1 f g, m_X9_laysAll G set 0 (-9) 0 = some G1 ∧ K9r G G1 ∧ RI (1 + 2 * A.nc) (setH A (bt set) A.ns) f g ∧ G1 91 = f ∧ G1 92 = g ∧ G1 81 14 = nI (1 + 2 * A.nc) ∧ ∃ l, (Can (setH A (bt set) A.ns) ∧ m_X9_isSound G1 = some (1, setc G1 93 l) ∧ ∃ lev : Nat → Nat, ∀ p', p' < 1 + 2 * A.nc → lev p' < 1 + 2 * A.nc ∧ l p' = nI (lev p') ∧ GN (1 + 2 * A.nc) (setH A (bt set) A.ns) f (lev p' + 1) p' ∧ ¬ GN (1 + 2 * A.nc) (setH A (bt set) A.ns) f (lev p') p') ∨ (¬ Can (setH A (bt set) A.ns) ∧ m_X9_isSound G1 = some (0, setc G1 93 l)) :=
  sound9 hw hR set (p := 0) (q := 0) (s := none) (by omega) (by omega) (fun x h => by simp at h)
theorem st_10 (G : Mem) (a b c : Int32) (hI : Inv G) : ∃ (r : Int32) (G1 G2 : Mem), op8 10 G a b c = some (r, G1) ∧ op9 10 G1 a b c = some (r, G2) ∧ Inv G2 := by
  have hI' := hI
  obtain ⟨nc, ⟨A, hw, hnc, hC, hR⟩, ht, hu, hi, hz⟩ := hI
  show ∃ (r : Int32) (G1 G2 : Mem), m_X8_sound G = some (r, G1) ∧ m_X9_sound G1 = some (r, G2) ∧ Inv G2
  obtain ⟨f, g, e, h⟩ := orderAll_eq hw hC
  have hR1 : RowR A ((upm (or2 G 27 f g) 81 0 0) 82) := by rw [upm_n _ _ _ (by omega), or2_n _ _ _ (by omega) (by omega)]; exact hR
  obtain ⟨G1, f1, g1, e1, k1, r, x1, x2, x3, l, h9⟩ := sound9a hw hR1 (ALL A.ns)
  have kp : Inv (setc G1 93 l) := hI'.keeps (Keeps_q (K8q.or G f g) (k1.tr (K9r.se G1 (c := 93) (by omega) l)))
  unfold m_X8_sound m_X9_sound
  rw [e, Option.bind_some]
  rcases isSound8 (G := or2 G 27 f g) (o := 27) (H0_W hw) h (or2_2 G 27 f g) with ⟨hc, e8⟩ | ⟨hc, e8⟩
  · rcases h9 with ⟨_, e9, _⟩ | ⟨hc', _⟩
    · exact ⟨1, _, _, by rw [e8, Option.bind_some, if_neg one_ne], by rw [all9_eq hR1, Option.bind_some, e1, Option.bind_some, e9, Option.bind_some, if_neg one_ne], kp⟩
    · exact absurd hc hc'
  · rcases h9 with ⟨hc', _⟩ | ⟨_, e9⟩
    · exact absurd hc' hc
    · exact ⟨0, _, _, by rw [e8, Option.bind_some, if_pos rfl], by rw [all9_eq hR1, Option.bind_some, e1, Option.bind_some, e9, Option.bind_some, if_pos rfl], kp⟩
theorem st_12 (G : Mem) (a b c : Int32) (hI : Inv G) : ∃ (r : Int32) (G1 G2 : Mem), op8 12 G a b c = some (r, G1) ∧ op9 12 G1 a b c = some (r, G2) ∧ Inv G2 := by
  have hI' := hI
  have hT := hI.keeps (keeps_thrown G)
  obtain ⟨nc, ⟨A, hw, hnc, hC, hR⟩, ht, hu, hi, hz⟩ := hI
  have h1 := hw.1
  have hR' : RowR A ((upm G 81 0 0) 82) := hR
  show ∃ (r : Int32) (G1 G2 : Mem), m_X8_known G a b = some (r, G1) ∧ m_X9_known G1 a b = some (r, G2) ∧ Inv G2
  rcases time_cases (2 * A.nc) rfl (by omega) a with ha | ⟨p, hp, rfl⟩
  · refine ⟨-1, G, upm G 81 0 0, ?_, ?_, hT⟩
    · unfold m_X8_known; rw [t8_no hw hC ha, Option.bind_some, if_pos rfl]
    · unfold m_X9_known; rw [t9_no hw hR' ha, Option.bind_some, if_pos rfl]
  rcases time_cases (2 * A.nc) rfl (by omega) b with hb | ⟨q, hq, rfl⟩
  · refine ⟨-1, G, upm G 81 0 0, ?_, ?_, hT⟩
    · unfold m_X8_known; rw [t8_yes hw hC hp, Option.bind_some, if_neg one_ne, t8_no hw hC hb, Option.bind_some, if_pos rfl]
    · unfold m_X9_known; rw [t9_yes hw hR' hp, Option.bind_some, if_neg one_ne, t9_no hw hR' hb, Option.bind_some, if_pos rfl]
  obtain ⟨f, g, e, h⟩ := orderAll_eq hw hC
  have hR1 : RowR A ((upm (or2 G 27 f g) 81 0 0) 82) := by rw [upm_n _ _ _ (by omega), or2_n _ _ _ (by omega) (by omega)]; exact hR
  obtain ⟨G1, e1, k1⟩ := knownBy_eq hw hR1 (ALL A.ns) hp hq
  refine ⟨KN (H0 A) p q, or2 G 27 f g, G1, ?_, ?_, hI'.keeps (Keeps_q (K8q.or G f g) k1)⟩
  · unfold m_X8_known
    rw [t8_yes hw hC hp, Option.bind_some, if_neg one_ne, t8_yes hw hC hq, Option.bind_some, if_neg one_ne, e, Option.bind_some, tells8 (H0_W hw) h (or2_1 G 27 f g) (or2_2 G 27 f g) (by omega) (by omega), Option.bind_some]
  · unfold m_X9_known
    rw [t9_yes hw hR1 hp, Option.bind_some, if_neg one_ne, t9_yes hw hR1 hq, Option.bind_some, if_neg one_ne, all9_eq hR1, Option.bind_some, e1, Option.bind_some]
    rfl
/-- what is left after so many rounds of the class's -/
def RS (H : List Edge) : Nat → Nat → Prop
  | 0, p => p < 17
  | k + 1, p => RS H k p ∧ ∃ x, RS H k x ∧ Sq H x p
theorem RS_GN {n : Nat} {H : List Edge} {f g : Nat → Int32} (hn : n ≤ 17) (hR : RI n H f g) : ∀ k p, p < n → (RS H k p ↔ ¬ GN n H f k p) := by
  intro k
  induction k with
  | zero => intro p hp; exact ⟨fun _ h => h, fun _ => by show p < 17; omega⟩
  | succ k ih =>
    intro p hp
    constructor
    · rintro ⟨a, x, b, s⟩ hg
      have hx := (s.lt hR.1).1
      have nx := (ih x hx).mp b
      rcases hg with hg | hg
      · exact (ih p hp).mp a hg
      · obtain ⟨e, d1, d2⟩ := decS hR s
        have ge := hg.2 e d1
        rcases d2 with d2 | d2
        · exact nx (GN_c k e x (GN_lt k e ge) hx d2.symm ge)
        · exact nx (GN_dn hR k x e d2 ge)
    · intro hg
      refine ⟨(ih p hp).mpr (fun z => hg (Or.inl z)), ?_⟩
      have : ¬ ∀ e, Pd n H f e p → GN n H f k e := fun z => hg (Or.inr ⟨hp, z⟩)
      obtain ⟨e, he⟩ := Classical.not_forall.mp this
      have h2 := Classical.not_imp.mp he
      have h3 := h2.1.S hR hp
      exact ⟨e, (ih e (h3.lt hR.1).1).mpr h2.2, h3⟩
theorem behind8 {G : Mem} {o : Nat} (set : Int32) : ∃ m, m_X1_behindSome G o set = some m ∧ ∀ y, bt m y = true ↔ ∃ x, x < 17 ∧ bt set x = true ∧ bt (G (o + 2) x) y = true := by
  obtain ⟨m, e, h⟩ := or_loop (L_X1_behindSome_4 o set G) 17 (fun x => if bt set x then G (o + 2) x else 0) (fun k a => by
    rw [L_X1_behindSome_4, if_pos (show (17 : Int32) ≤ nI 17 from nI_le (a := 17) (b := 17) (by omega) (by omega))]) (fun k a x hx => by
    rw [L_X1_behindSome_4, if_neg (show ¬ (17 : Int32) ≤ nI x from nI_ge (a := x) (b := 17) hx (by omega)), ald_nI (by omega) (by omega), Option.bind_some]
    by_cases z : bt set x = true
    · rw [if_neg (fun q => by rw [(has_0 _ (by omega)).mp q] at z; exact absurd z (by decide)), Option.bind_some, if_pos z, nI_1]
    · rw [if_pos ((has_0 _ (by omega)).mpr (by simpa using z)), Option.bind_some, if_neg z, or_zero', nI_1]) NF (NF_big (by omega))
  refine ⟨m, by unfold m_X1_behindSome; rw [e, Option.bind_some], fun y => ?_⟩
  rw [h y]
  constructor
  · rintro ⟨x, hx, hb⟩
    by_cases z : bt set x = true
    · rw [if_pos z] at hb; exact ⟨x, hx, z, hb⟩
    · rw [if_neg z, bt_0] at hb; exact absurd hb (by decide)
  · rintro ⟨x, hx, a, b⟩
    exact ⟨x, hx, by rw [if_pos a]; exact b⟩
theorem earliest8 {G : Mem} {o : Nat} {H : List Edge} {f g : Nat → Int32} (h : OI H f g) (hc : Can H) (hg : G (o + 2) = g) {p j : Nat} (hp : p < 17) (hj : j < 17) (hy : ∀ i, i ≤ j → RS H i p) (hz : ¬ RS H (j + 1) p) : m_X1_earliest G o (nI p) = some (nI j) := by
  have hcan := h.can hc
  have rs17 : ∀ k y, RS H k y → y < 17 := by
    intro k
    induction k with
    | zero => intro y h; exact h
    | succ k ih => intro y h; exact ih y h.1
  have key : ∀ d x n r, x + d = j → d < n → (∀ y, y < 32 → (bt r y = true ↔ RS H x y)) → L_X1_earliest_5 o (nI p) G n r (nI x) = some (Sum.inr (nI j)) := by
    intro d
    induction d with
    | zero =>
      intro x n r h1 h2 h3
      obtain ⟨n, rfl⟩ : ∃ k, n = k + 1 := ⟨n - 1, by omega⟩
      have e : x = j := by omega
      subst e
      obtain ⟨m, e, q⟩ := behind8 (G := G) (o := o) r
      rw [L_X1_earliest_5, if_neg (show ¬ (17 : Int32) ≤ nI x from nI_ge (a := x) (b := 17) hj (by omega)), e, Option.bind_some, if_pos]
      rw [has_0 _ (by omega), bt_and]
      cases u : bt r p
      · rfl
      · cases v : bt m p
        · rfl
        · exfalso
          obtain ⟨y, y1, y2, y3⟩ := (q p).mp v
          rw [hg] at y3
          exact hz ⟨(h3 p (by omega)).mp u, y, (h3 y (by omega)).mp y2, (hcan y y1 p (by omega)).mp y3⟩
    | succ d ih =>
      intro x n r h1 h2 h3
      obtain ⟨n, rfl⟩ : ∃ k, n = k + 1 := ⟨n - 1, by omega⟩
      obtain ⟨m, e, q⟩ := behind8 (G := G) (o := o) r
      have q2 : ∀ y, y < 32 → (bt (r &&& m) y = true ↔ RS H (x + 1) y) := by
        intro y hy'
        rw [bt_and, Bool.and_eq_true, h3 y hy', q y]
        constructor
        · rintro ⟨a, z, z1, z2, z3⟩
          rw [hg] at z3
          exact ⟨a, z, (h3 z (by omega)).mp z2, (hcan z z1 y hy').mp z3⟩
        · rintro ⟨a, z, z1, z2⟩
          have hz17 := rs17 x z z1
          exact ⟨a, z, hz17, (h3 z (by omega)).mpr z1, by rw [hg]; exact (hcan z hz17 y hy').mpr z2⟩
      rw [L_X1_earliest_5, if_neg (show ¬ (17 : Int32) ≤ nI x from nI_ge (a := x) (b := 17) (by omega) (by omega)), e, Option.bind_some, if_neg, nI_1]
      · exact ih (x + 1) n _ (by omega) (by omega) q2
      · rw [has_0 _ (by omega), (q2 p (by omega)).mpr (hy (x + 1) (by omega))]
        decide
  unfold m_X1_earliest
  have h0 : ∀ i : Fin 32, bt 131071 i = decide (i.val < 17) := by decide +kernel
  rw [show (0 : Int32) = nI 0 from rfl, key j 0 NF 131071 (by omega) (NF_big (by omega)) (fun y hy' => by
    have := h0 ⟨y, hy'⟩
    simp only at this
    rw [this]
    show decide (y < 17) = true ↔ y < 17
    simp), Option.bind_some]
theorem st_13 (G : Mem) (a b c : Int32) (hI : Inv G) : ∃ (r : Int32) (G1 G2 : Mem), op8 13 G a b c = some (r, G1) ∧ op9 13 G1 a b c = some (r, G2) ∧ Inv G2 := by
  have hI' := hI
  have hT := hI.keeps (keeps_thrown G)
  obtain ⟨nc, ⟨A, hw, hnc, hC, hR⟩, ht, hu, hi, hz⟩ := hI
  have h1 := hw.1
  have hR' : RowR A ((upm G 81 0 0) 82) := hR
  show ∃ (r : Int32) (G1 G2 : Mem), m_X8_line G a = some (r, G1) ∧ m_X9_line G1 a = some (r, G2) ∧ Inv G2
  rcases time_cases (2 * A.nc) rfl (by omega) a with ha | ⟨p, hp, rfl⟩
  · refine ⟨-1, G, upm G 81 0 0, ?_, ?_, hT⟩
    · unfold m_X8_line; rw [t8_no hw hC ha, Option.bind_some, if_pos rfl]
    · unfold m_X9_line; rw [t9_no hw hR' ha, Option.bind_some, if_pos rfl]
  obtain ⟨f, g, e, h⟩ := orderAll_eq hw hC
  have hR1 : RowR A ((upm (or2 G 27 f g) 81 0 0) 82) := by rw [upm_n _ _ _ (by omega), or2_n _ _ _ (by omega) (by omega)]; exact hR
  obtain ⟨G1, f1, g1, e1, k1, r, x1, x2, x3, l, h9⟩ := sound9a hw hR1 (ALL A.ns)
  have kp : Inv (setc G1 93 l) := hI'.keeps (Keeps_q (K8q.or G f g) (k1.tr (K9r.se G1 (c := 93) (by omega) l)))
  unfold m_X8_line m_X9_line
  rw [t8_yes hw hC hp, Option.bind_some, if_neg one_ne, e, Option.bind_some]
  rcases isSound8 (G := or2 G 27 f g) (o := 27) (H0_W hw) h (or2_2 G 27 f g) with ⟨hc, e8⟩ | ⟨hc, e8⟩
  · rcases h9 with ⟨_, e9, lev, hl⟩ | ⟨hc', _⟩
    · obtain ⟨l1, l2, l3, l4⟩ := hl p (by omega)
      have rg := RS_GN (show 1 + 2 * A.nc ≤ 17 by omega) r
      have e10 := earliest8 (G := or2 G 27 f g) (o := 27) h hc (or2_2 G 27 f g) (p := p) (j := lev p) (by omega) (by omega) (fun i hi => (rg i p (by omega)).mpr (fun z => l4 (GN_up hi z))) (fun z => (rg (lev p + 1) p (by omega)).mp z l3)
      refine ⟨nI (lev p), _, _, by rw [e8, Option.bind_some, if_neg one_ne, e10, Option.bind_some], ?_, kp⟩
      rw [t9_yes hw hR1 hp, Option.bind_some, if_neg one_ne, all9_eq hR1, Option.bind_some, e1, Option.bind_some, e9, Option.bind_some, if_neg one_ne]
      dsimp only
      rw [ald_nI (by omega) (by omega), Option.bind_some, setc_k, l2]
    · exact absurd hc hc'
  · rcases h9 with ⟨hc', _⟩ | ⟨_, e9⟩
    · exact absurd hc' hc
    · refine ⟨-9, _, _, by rw [e8, Option.bind_some, if_pos rfl], ?_, kp⟩
      rw [t9_yes hw hR1 hp, Option.bind_some, if_neg one_ne, all9_eq hR1, Option.bind_some, e1, Option.bind_some, e9, Option.bind_some, if_pos rfl]
theorem Can_t {H : List Edge} {p q : Nat} (hc : Can H) : Can ((p, true, q) :: H) ↔ ¬ Rq H q p := by
  constructor
  · intro h z
    exact h ⟨p, Sq_cons_t.mpr (Or.inr ⟨Rq.rf _ _, z⟩)⟩
  · rintro h ⟨x, hx⟩
    rcases Sq_cons_t.mp hx with z | ⟨a, b⟩
    · exact hc ⟨x, z⟩
    · exact h (b.tr a)
theorem Can_f1 {H : List Edge} {p q : Nat} (hc : Can H) (h : ¬ Sq H q p) : Can ((p, false, q) :: H) := by
  rintro ⟨x, hx⟩
  rcases Sq_cons_f.mp hx with z | ⟨a, b⟩ | ⟨a, b⟩ | ⟨_, b, _⟩
  · exact hc ⟨x, z⟩
  · exact h (Sq.l b a)
  · exact h (b.r a)
  · exact h b
theorem Can_f {H : List Edge} {p q : Nat} (hc : Can H) : Can ((q, false, p) :: (p, false, q) :: H) ↔ (¬ Sq H p q ∧ ¬ Sq H q p) := by
  have hs : ∀ e, e ∈ H → e ∈ (q, false, p) :: (p, false, q) :: H := fun e h => List.mem_cons_of_mem _ (List.mem_cons_of_mem _ h)
  have epq : Rq ((q, false, p) :: (p, false, q) :: H) p q := Rq.ed (b := false) (List.mem_cons_of_mem _ (List.mem_cons_self ..))
  have eqp : Rq ((q, false, p) :: (p, false, q) :: H) q p := Rq.ed (b := false) (List.mem_cons_self ..)
  constructor
  · intro h
    exact ⟨fun z => h ⟨p, (z.mono hs).r eqp⟩, fun z => h ⟨q, (z.mono hs).r epq⟩⟩
  · rintro ⟨a, b⟩
    refine Can_f1 (Can_f1 hc b) ?_
    intro z
    rcases Sq_cons_f.mp z with z | ⟨z, _⟩ | ⟨_, z⟩ | ⟨_, z, _⟩
    · exact a z
    · exact hc ⟨p, z⟩
    · exact hc ⟨q, z⟩
    · exact b z
theorem KN_cases (H : List Edge) (p q : Nat) : (¬ Can H ∧ KN H p q = 4) ∨ (Can H ∧ ((Sq H p q ∧ KN H p q = 1) ∨ (¬ Sq H p q ∧ Sq H q p ∧ KN H p q = 3) ∨ (¬ Sq H p q ∧ ¬ Sq H q p ∧ Rq H p q ∧ KN H p q = 2) ∨ (¬ Sq H p q ∧ ¬ Sq H q p ∧ ¬ Rq H p q ∧ KN H p q = 0))) := by
  unfold KN
  by_cases hc : Can H
  · refine Or.inr ⟨hc, ?_⟩
    rw [if_neg (show ¬ ¬ Can H from fun z => z hc)]
    by_cases a : Sq H p q
    · exact Or.inl ⟨a, by rw [if_pos a]⟩
    by_cases b : Sq H q p
    · exact Or.inr (Or.inl ⟨a, b, by rw [if_neg a, if_pos b]⟩)
    by_cases c : Rq H p q
    · exact Or.inr (Or.inr (Or.inl ⟨a, b, c, by rw [if_neg a, if_neg b, if_pos c]⟩))
    · exact Or.inr (Or.inr (Or.inr ⟨a, b, c, by rw [if_neg a, if_neg b, if_neg c]⟩))
  · exact Or.inl ⟨hc, by rw [if_pos hc]⟩
theorem RI.sym {n : Nat} {H : List Edge} {f g : Nat → Int32} (r : RI n H f g) {p q : Nat} (hp : p < n) (hq : q < n) (h : Rq H p q) (hs : ¬ Sq H p q) : Rq H q p := by
  rcases decR r h with e | ⟨e, h1, h2⟩
  · exact r.2.2.1 q p hq hp e.symm
  · exact absurd (Sq.l h1 (h2.S r hq)) hs
def w9t (X : Mem) (p s q : Int32) : Option (Int32 × Mem) := (m_X9_all X).bind (fun r_7 => (m_X9_knownBy X r_7 p q).bind (fun q_8 => (if q_8.1 = 4 then some (4, q_8.2) else (if q_8.1 = (1 + s) then some (0, q_8.2) else (m_X9_all q_8.2).bind (fun r_11 => (m_X9_laysAll q_8.2 r_11 p s q).bind (fun q_12 => (m_X9_isSound q_12).bind (fun q_13 => (if q_13.1 = 0 then some (2, q_13.2) else some (1, q_13.2)))))))))
def w8t (k s : Int32) (M : Mem) : Option (Int32 × Mem) := (if k = 4 then some (4, M) else (if k = 0 then some (1, M) else ((if s = 0 then some (k, 1, M) else some (k, 2, M)) : Option (Int32 × Int32 × Mem)).bind (fun (v_7 : Int32 × Int32 × Mem) => (if v_7.1 = v_7.2.1 then some (0, v_7.2.2) else some (2, v_7.2.2)))))
theorem st_14 (G : Mem) (a b c : Int32) (hI : Inv G) : ∃ (r : Int32) (G1 G2 : Mem), op8 14 G a b c = some (r, G1) ∧ op9 14 G1 a b c = some (r, G2) ∧ Inv G2 := by
  have hI' := hI
  have hT := hI.keeps (keeps_thrown G)
  obtain ⟨nc, ⟨A, hw, hnc, hC, hR⟩, ht, hu, hi, hz⟩ := hI
  have h1 := hw.1
  have hR' : RowR A ((upm G 81 0 0) 82) := hR
  show ∃ (r : Int32) (G1 G2 : Mem), m_X8_would G a b c = some (r, G1) ∧ m_X9_would G1 a b c = some (r, G2) ∧ Inv G2
  rcases said_cases hw hC hR' a b c with ⟨e8, e9⟩ | ⟨p, s, q, rfl, rfl, rfl, hp, hq, ep, eq, hne, hs, e8, e9⟩
  · refine ⟨-1, G, upm G 81 0 0, ?_, ?_, hT⟩
    · unfold m_X8_would; rw [e8, Option.bind_some, if_pos rfl]
    · unfold m_X9_would; exact e9 _ _
  obtain ⟨f, g, e, h⟩ := orderAll_eq hw hC
  have hR1 : RowR A ((upm (or2 G 27 f g) 81 0 0) 82) := by rw [upm_n _ _ _ (by omega), or2_n _ _ _ (by omega) (by omega)]; exact hR
  obtain ⟨G1, e1, k1⟩ := knownBy_eq hw hR1 (ALL A.ns) hp hq
  have hR2 : RowR A (G1 82) := by rw [k1.1 82 (by omega) (by omega)]; exact hR1
  obtain ⟨G2, f2, g2, e2, k2, r2, x1, x2, x3, l, h9⟩ := sound9 hw hR2 (ALL A.ns) (p := p) (q := q) (s := some s) hp hq (fun x h => by injection h with h; omega)
  obtain ⟨_, f3, g3, _, _, r3, _⟩ := sound9a hw hR2 (ALL A.ns)
  rw [show exI (some s) = nI s from rfl] at e2
  rw [show exH p (some s) q ++ setH A (bt (ALL A.ns)) A.ns = hE p s q ++ H0 A from rfl] at h9
  have r3' : RI (1 + 2 * A.nc) (H0 A) f3 g3 := r3
  have t8 := tells8 (G := or2 G 27 f g) (o := 27) (H0_W hw) h (or2_1 G 27 f g) (or2_2 G 27 f g) (p := p) (q := q) (by omega) (by omega)
  have kq1 : Inv G1 := hI'.keeps (Keeps_q (K8q.or G f g) k1)
  have kq2 : Inv (setc G2 93 l) := hI'.keeps (Keeps_q (K8q.or G f g) (k1.tr (k2.tr (K9r.se G2 (c := 93) (by omega) l))))
  have f9 : ∀ {β : Type} (X Y : Option β), (m_X9_isSaid (upm (or2 G 27 f g) 81 0 0) (nI p)).bind (fun r_1 => (if r_1 = 0 then X else (m_X9_isSaid (upm (or2 G 27 f g) 81 0 0) (nI q)).bind (fun r_3 => (if r_3 = 0 then X else (if nI p = nI q then X else (if (m_X9_in (nI s) 0 1) = 0 then X else Y)))))) = Y := by
    rcases said_cases hw hC hR1 (nI p) (nI s) (nI q) with ⟨f8, _⟩ | ⟨_, _, _, _, _, _, _, _, _, _, _, _, _, f9⟩
    · rw [e8] at f8; exact absurd (Option.some.inj f8) one_ne
    · exact f9
  have w8 : m_X8_would G (nI p) (nI s) (nI q) = w8t (KN (H0 A) p q) (nI s) (or2 G 27 f g) := by
    unfold m_X8_would w8t
    rw [e8, Option.bind_some, if_neg one_ne, e, Option.bind_some, t8, Option.bind_some]
  have w9 : ∀ (R : Int32 × Mem), w9t (upm (or2 G 27 f g) 81 0 0) (nI p) (nI s) (nI q) = some R → m_X9_would (or2 G 27 f g) (nI p) (nI s) (nI q) = some R := fun R hR => by
    unfold m_X9_would
    exact (f9 _ _).trans hR
  have hKN : KN (setH A (bt (ALL A.ns)) A.ns) p q = KN (H0 A) p q := rfl
  rw [hKN] at e1
  -- the three ends of the reference
  have o4 : KN (H0 A) p q = 4 → w9t (upm (or2 G 27 f g) 81 0 0) (nI p) (nI s) (nI q) = some (4, G1) := by
    intro z
    unfold w9t
    rw [all9_eq hR1, Option.bind_some, e1, Option.bind_some]
    dsimp only
    rw [if_pos z]
  have o0 : ¬ KN (H0 A) p q = 4 → KN (H0 A) p q = 1 + nI s → w9t (upm (or2 G 27 f g) 81 0 0) (nI p) (nI s) (nI q) = some (0, G1) := by
    intro z z2
    unfold w9t
    rw [all9_eq hR1, Option.bind_some, e1, Option.bind_some]
    dsimp only
    rw [if_neg z, if_pos z2]
  have oX : ∀ x, ¬ KN (H0 A) p q = 4 → ¬ KN (H0 A) p q = 1 + nI s → m_X9_isSound G2 = some (x, setc G2 93 l) → w9t (upm (or2 G 27 f g) 81 0 0) (nI p) (nI s) (nI q) = some ((if x = 0 then 2 else 1), setc G2 93 l) := by
    intro x z z2 z3
    unfold w9t
    rw [all9_eq hR1, Option.bind_some, e1, Option.bind_some]
    dsimp only
    rw [if_neg z, if_neg z2, all9_eq hR2, Option.bind_some, e2, Option.bind_some, z3, Option.bind_some]
    dsimp only
    split <;> rfl
  rw [w8]
  rcases KN_cases (H0 A) p q with ⟨hc, k⟩ | ⟨hc, hk⟩
  · exact ⟨4, or2 G 27 f g, G1, by unfold w8t; rw [k, if_pos rfl], w9 _ (o4 k), kq1⟩
  have x8 : ∀ v : Int32, v ≠ 4 → v ≠ 0 → KN (H0 A) p q = v → w8t (KN (H0 A) p q) (nI s) (or2 G 27 f g) = some ((if v = 1 + nI s then 0 else 2), or2 G 27 f g) := by
    intro v v4 v0 hv
    unfold w8t
    rw [hv, if_neg v4, if_neg v0]
    rcases (show s = 0 ∨ s = 1 by omega) with rfl | rfl
    · rw [if_pos (by decide), Option.bind_some]
      dsimp only
      rw [show (1 : Int32) + nI 0 = 1 by decide]
      split <;> rfl
    · rw [if_neg (by decide), Option.bind_some]
      dsimp only
      rw [show (1 : Int32) + nI 1 = 2 by decide]
      split <;> rfl
  have hcanS : Can (hE p s q ++ H0 A) ↔ (if s = 0 then ¬ Rq (H0 A) q p else (¬ Sq (H0 A) p q ∧ ¬ Sq (H0 A) q p)) := by
    rcases (show s = 0 ∨ s = 1 by omega) with rfl | rfl
    · exact Can_t hc
    · exact Can_f hc
  have fin : ∀ v : Int32, KN (H0 A) p q = v → v ≠ 4 → v ≠ 1 + nI s → (Can (hE p s q ++ H0 A) → v = 0) → (¬ Can (hE p s q ++ H0 A) → v ≠ 0) → ∃ (r : Int32) (G1 G2 : Mem), w8t (KN (H0 A) p q) (nI s) (or2 G 27 f g) = some (r, G1) ∧ m_X9_would G1 (nI p) (nI s) (nI q) = some (r, G2) ∧ Inv G2 := by
    intro v hv v4 vs vc vn
    rcases h9 with ⟨hc', e9, _⟩ | ⟨hc', e9⟩
    · refine ⟨1, or2 G 27 f g, _, ?_, w9 _ (oX 1 (by rw [hv]; exact v4) (by rw [hv]; exact vs) e9), kq2⟩
      unfold w8t
      rw [hv, if_neg v4, if_pos (vc hc')]
    · refine ⟨2, or2 G 27 f g, _, ?_, w9 _ (oX 0 (by rw [hv]; exact v4) (by rw [hv]; exact vs) e9), kq2⟩
      rw [x8 v v4 (vn hc') hv, if_neg vs]
  rcases hk with ⟨a1, k⟩ | ⟨a1, a2, k⟩ | ⟨a1, a2, a3, k⟩ | ⟨a1, a2, a3, k⟩
  · rcases (show s = 0 ∨ s = 1 by omega) with rfl | rfl
    · exact ⟨0, or2 G 27 f g, _, by rw [x8 1 (by decide) (by decide) k, if_pos (by decide)], w9 _ (o0 (by rw [k]; decide) (by rw [k]; decide)), kq1⟩
    · refine fin 1 k (by decide) (by decide) (fun z => ?_) (fun _ => by decide)
      rw [hcanS, if_neg (by omega)] at z
      exact absurd a1 z.1
  · refine fin 3 k (by decide) (by rcases (show s = 0 ∨ s = 1 by omega) with rfl | rfl <;> decide) (fun z => ?_) (fun _ => by decide)
    rw [hcanS] at z
    rcases (show s = 0 ∨ s = 1 by omega) with rfl | rfl
    · rw [if_pos rfl] at z; exact absurd a2.R z
    · rw [if_neg (by omega)] at z; exact absurd a2 z.2
  · rcases (show s = 0 ∨ s = 1 by omega) with rfl | rfl
    · refine fin 2 k (by decide) (by decide) (fun z => ?_) (fun _ => by decide)
      rw [hcanS, if_pos rfl] at z
      exact absurd (r3'.sym (by omega) (by omega) a3 a1) z
    · exact ⟨0, or2 G 27 f g, _, by rw [x8 2 (by decide) (by decide) k, if_pos (by decide)], w9 _ (o0 (by rw [k]; decide) (by rw [k]; decide)), kq1⟩
  · refine fin 0 k (by decide) (by rcases (show s = 0 ∨ s = 1 by omega) with rfl | rfl <;> decide) (fun _ => rfl) (fun z => ?_)
    rw [hcanS] at z
    rcases (show s = 0 ∨ s = 1 by omega) with rfl | rfl
    · rw [if_pos rfl] at z
      exact absurd (fun w => a3 (r3'.sym (by omega) (by omega) w a2)) z
    · rw [if_neg (by omega)] at z; exact absurd ⟨a1, a2⟩ z
theorem isSo8 {A : Told} {G : Mem} {H : List Edge} {f g : Nat → Int32} (hW : Wi 17 H) (h : OI H f g) (hf : G 28 = f) (hg : G 29 = g) {nz : Nat} {P Q R : Nat → Nat} (hz : nz ≤ 6) (z2 : G 23 3 = nI nz) (hp : ∀ i, i < nz → P i < 17 ∧ Q i < 17 ∧ R i ≤ 4 ∧ G 24 i = nI (P i) ∧ G 25 i = nI (Q i) ∧ G 26 i = nI (R i)) :
    ((∀ i, i < nz → KN H (P i) (Q i) = nI (R i)) ∧ m_X4_isSoBy G = some 1) ∨ (¬ (∀ i, i < nz → KN H (P i) (Q i) = nI (R i)) ∧ m_X4_isSoBy G = some 0) := by
  have key : ∀ d x n, x + d = nz → d < n → ((∀ i, x ≤ i → i < nz → KN H (P i) (Q i) = nI (R i)) ∧ L_X4_isSoBy_2 G n (nI x) = some (Sum.inl ())) ∨ (¬ (∀ i, x ≤ i → i < nz → KN H (P i) (Q i) = nI (R i)) ∧ L_X4_isSoBy_2 G n (nI x) = some (Sum.inr 0)) := by
    intro d
    induction d with
    | zero =>
      intro x n h1 h2
      obtain ⟨n, rfl⟩ : ∃ k, n = k + 1 := ⟨n - 1, by omega⟩
      refine Or.inl ⟨fun i a b => by omega, ?_⟩
      rw [L_X4_isSoBy_2, z2, if_pos (nI_le (by omega) (by omega))]
    | succ d ih =>
      intro x n h1 h2
      obtain ⟨n, rfl⟩ : ∃ k, n = k + 1 := ⟨n - 1, by omega⟩
      obtain ⟨a1, a2, a3, a4, a5, a6⟩ := hp x (by omega)
      rw [L_X4_isSoBy_2, z2, if_neg (nI_ge (by omega) (by omega)), if_neg (show ¬ (6 : Int32) ≤ nI x from nI_ge (a := x) (b := 6) (by omega) (by omega)), ald_nI (by omega) (by omega), Option.bind_some, ald_nI (by omega) (by omega), Option.bind_some, a4, a5, tells8 hW h hf hg a1 a2, Option.bind_some, ald_nI (by omega) (by omega), Option.bind_some, a6, nI_1]
      by_cases z : KN H (P x) (Q x) = nI (R x)
      · rw [if_pos z]
        rcases ih (x + 1) n (by omega) (by omega) with ⟨u, v⟩ | ⟨u, v⟩
        · refine Or.inl ⟨fun i b1 b2 => ?_, v⟩
          by_cases e : i = x
          · subst e; exact z
          · exact u i (by omega) b2
        · exact Or.inr ⟨fun w => u (fun i b1 b2 => w i (by omega) b2), v⟩
      · rw [if_neg z]
        exact Or.inr ⟨fun w => z (w x (by omega) (by omega)), rfl⟩
  unfold m_X4_isSoBy
  rcases key nz 0 NF (by omega) (NF_big (by omega)) with ⟨u, v⟩ | ⟨u, v⟩
  · refine Or.inl ⟨fun i b => u i (by omega) b, ?_⟩
    rw [show (0 : Int32) = nI 0 from rfl, v]
    rfl
  · refine Or.inr ⟨fun w => u (fun i _ b => w i b), ?_⟩
    rw [show (0 : Int32) = nI 0 from rfl, v]
    rfl
noncomputable def accf (V : Nat → Prop) : Nat → Int32
  | 0 => 0
  | k + 1 => accf V k ||| (@ite _ (V k) (Classical.propDecidable _) (1 <<< (nI k &&& 31)) 0)
theorem st_20 (G : Mem) (a b c : Int32) (hI : Inv G) : ∃ (r : Int32) (G1 G2 : Mem), op8 20 G a b c = some (r, G1) ∧ op9 20 G1 a b c = some (r, G2) ∧ Inv G2 := by
  have hI' := hI
  obtain ⟨nc, ⟨A, hw, hnc, hC, hR⟩, ht, hu, hi, ⟨nz, z1, z2, z3, z4⟩⟩ := hI
  have h1 := hw.1
  show ∃ (r : Int32) (G1 G2 : Mem), m_X8_unseen G = some (r, G1) ∧ m_X9_unseen G1 = some (r, G2) ∧ Inv G2
  have z5 : ∀ i, ∃ t : Nat × Nat × Nat, i < nz → (t.1 ≤ 2 * nc ∧ t.2.1 ≤ 2 * nc ∧ t.2.2 ≤ 4 ∧ G 24 i = nI t.1 ∧ G 25 i = nI t.2.1 ∧ G 26 i = nI t.2.2 ∧ G 87 i = nI t.1 ∧ G 88 i = nI t.2.1 ∧ G 89 i = nI t.2.2) := by
    intro i
    by_cases h : i < nz
    · obtain ⟨p, q, r, h'⟩ := z4 i h
      exact ⟨(p, q, r), fun _ => h'⟩
    · exact ⟨(0, 0, 0), fun z => absurd z h⟩
  obtain ⟨T, hT⟩ : ∃ T : Nat → Nat × Nat × Nat, ∀ i, i < nz → ((T i).1 ≤ 2 * nc ∧ (T i).2.1 ≤ 2 * nc ∧ (T i).2.2 ≤ 4 ∧ G 24 i = nI (T i).1 ∧ G 25 i = nI (T i).2.1 ∧ G 26 i = nI (T i).2.2 ∧ G 87 i = nI (T i).1 ∧ G 88 i = nI (T i).2.1 ∧ G 89 i = nI (T i).2.2) := ⟨fun i => Classical.choose (z5 i), fun i => Classical.choose_spec (z5 i)⟩
  let SK : Nat → Int32 := fun k => ALL A.ns &&& ((1 <<< (nI k &&& 31)) ^^^ (-1))
  let V : Nat → Prop := fun k => ∀ i, i < nz → KN (setH A (bt (SK k)) A.ns) (T i).1 (T i).2.1 = nI (T i).2.2
  -- the class
  have c8 : ∀ d x n X, x + d = A.ns → d < n → K8q G X → ∃ X', L_X8_unseen_4 n (accf V x) (nI x) X = some (accf V A.ns, X') ∧ K8q G X' := by
    intro d
    induction d with
    | zero =>
      intro x n X a1 a2 a3
      obtain ⟨n, rfl⟩ : ∃ k, n = k + 1 := ⟨n - 1, by omega⟩
      have e : x = A.ns := by omega
      subst e
      exact ⟨X, by rw [L_X8_unseen_4, c8_1 (A := A) (by rw [a3 2 (by omega)]; exact hC), Option.bind_some, if_pos (nI_le (by omega) (by omega))], a3⟩
    | succ d ih =>
      intro x n X a1 a2 a3
      obtain ⟨n, rfl⟩ : ∃ k, n = k + 1 := ⟨n - 1, by omega⟩
      have hCX : RowC A (X 2) := by rw [a3 2 (by omega)]; exact hC
      obtain ⟨f, g, e, h⟩ := orderSet_eq hw hCX (SK x)
      have hW : Wi 17 (setH A (bt (SK x)) A.ns) := (Wi_setH hw _ A.ns (by omega)).up (by omega)
      have kX : K8q G (or2 X 27 f g) := a3.tr (K8q.or X f g)
      rw [L_X8_unseen_4, c8_1 hCX, Option.bind_some, if_neg (nI_ge (by omega) (by omega)), every_eq hCX, Option.bind_some, show ALL A.ns &&& ((1 <<< (nI x &&& 31)) ^^^ (-1)) = SK x from rfl, e, Option.bind_some]
      have hacc : accf V (x + 1) = accf V x ||| (@ite _ (V x) (Classical.propDecidable _) (1 <<< (nI x &&& 31)) 0) := rfl
      rcases isSo8 (A := A) (G := or2 X 27 f g) (P := fun i => (T i).1) (Q := fun i => (T i).2.1) (R := fun i => (T i).2.2) hW h (or2_1 X 27 f g) (or2_2 X 27 f g) z1 (by rw [kX 23 (by omega)]; exact z2) (fun i hi => by
          obtain ⟨t1, t2, t3, t4, t5, t6, _⟩ := hT i hi
          exact ⟨by omega, by omega, t3, by rw [kX 24 (by omega)]; exact t4, by rw [kX 25 (by omega)]; exact t5, by rw [kX 26 (by omega)]; exact t6⟩) with ⟨u, v⟩ | ⟨u, v⟩
      · rw [v, Option.bind_some, if_neg one_ne, Option.bind_some, nI_1]
        dsimp only
        rw [if_pos (show V x from u)] at hacc
        rw [← hacc]
        exact ih (x + 1) n _ (by omega) (by omega) kX
      · rw [v, Option.bind_some, if_pos rfl, Option.bind_some, nI_1]
        dsimp only
        rw [if_neg (show ¬ V x from u), or_zero'] at hacc
        rw [← hacc]
        exact ih (x + 1) n _ (by omega) (by omega) kX
  obtain ⟨G1, e8, k8⟩ := c8 A.ns 0 NF G (by omega) (NF_big (by omega)) (K8q.rf G)
  -- the reference
  have hT9 : ∀ X, K9r (upm G1 81 0 0) X → ∀ i, i < nz → (X 87 i = nI (T i).1 ∧ X 88 i = nI (T i).2.1 ∧ X 89 i = nI (T i).2.2) := by
    intro X hX i hi
    obtain ⟨_, _, _, _, _, _, t7, t8, t9⟩ := hT i hi
    refine ⟨?_, ?_, ?_⟩
    · rw [hX.1 87 (by omega) (by omega), upm_n _ _ _ (by omega), k8 87 (by omega)]; exact t7
    · rw [hX.1 88 (by omega) (by omega), upm_n _ _ _ (by omega), k8 88 (by omega)]; exact t8
    · rw [hX.1 89 (by omega) (by omega), upm_n _ _ _ (by omega), k8 89 (by omega)]; exact t9
  have hRX : ∀ X, K9r (upm G1 81 0 0) X → RowR A (X 82) := fun X hX => by rw [hX.1 82 (by omega) (by omega), upm_n _ _ _ (by omega), k8 82 (by omega)]; exact hR
  have h7X : ∀ X, K9r (upm G1 81 0 0) X → X 81 7 = nI nz := fun X hX => by rw [hX.2 7 (by omega), upm_kn _ _ _ (by omega), k8 81 (by omega)]; exact z3
  have in9 : ∀ x, x < A.ns → ∀ d e n X, e + d = nz → d < n → K9r (upm G1 81 0 0) X → (∀ i, i < e → KN (setH A (bt (SK x)) A.ns) (T i).1 (T i).2.1 = nI (T i).2.2) → ∃ X', K9r (upm G1 81 0 0) X' ∧ ((V x ∧ L_X9_unseen_24 (nI x) n 1 (nI e) X = some (1, X')) ∨ (¬ V x ∧ L_X9_unseen_24 (nI x) n 1 (nI e) X = some (0, X'))) := by
    intro x hx d
    induction d with
    | zero =>
      intro e n X a1 a2 a3 a4
      obtain ⟨n, rfl⟩ : ∃ k, n = k + 1 := ⟨n - 1, by omega⟩
      have ee : e = nz := by omega
      subst ee
      exact ⟨X, a3, Or.inl ⟨a4, by rw [L_X9_unseen_24, h7X X a3, if_pos (nI_le (by omega) (by omega))]⟩⟩
    | succ d ih =>
      intro e n X a1 a2 a3 a4
      obtain ⟨n, rfl⟩ : ∃ k, n = k + 1 := ⟨n - 1, by omega⟩
      obtain ⟨t1, t2, t3, _⟩ := hT e (by omega)
      obtain ⟨s1, s2, s3⟩ := hT9 X a3 e (by omega)
      obtain ⟨X1, e1, k1⟩ := knownBy_eq hw (hRX X a3) (SK x) (p := (T e).1) (q := (T e).2.1) (by omega) (by omega)
      have a3' := a3.tr k1
      rw [L_X9_unseen_24, h7X X a3, if_neg (nI_ge (by omega) (by omega)), if_neg one_ne, all9_eq (hRX X a3), Option.bind_some, ald_nI (by omega) (by omega), Option.bind_some, ald_nI (by omega) (by omega), Option.bind_some, s1, s2, show ALL A.ns &&& ((1 <<< (nI x &&& 31)) ^^^ (-1)) = SK x from rfl, e1, Option.bind_some]
      dsimp only
      rw [ald_nI (by omega) (by omega), Option.bind_some, (hT9 X1 a3' e (by omega)).2.2, nI_1]
      by_cases z : KN (setH A (bt (SK x)) A.ns) (T e).1 (T e).2.1 = nI (T e).2.2
      · rw [if_pos z, Option.bind_some]
        refine ih (e + 1) n X1 (by omega) (by omega) a3' (fun i hi => ?_)
        by_cases q : i = e
        · subst q; exact z
        · exact a4 i (by omega)
      · rw [if_neg z, Option.bind_some]
        dsimp only
        obtain ⟨n, rfl⟩ : ∃ k, n = k + 1 := ⟨n - 1, by omega⟩
        refine ⟨X1, a3', Or.inr ⟨fun w => z (w e (by omega)), ?_⟩⟩
        rw [L_X9_unseen_24, if_pos rfl]
        split <;> rfl
  have c9 : ∀ d x n X, x + d = A.ns → d < n → K9r (upm G1 81 0 0) X → ∃ X', L_X9_unseen_9 n (accf V x) (nI x) X = some (accf V A.ns, X') ∧ K9r (upm G1 81 0 0) X' := by
    intro d
    induction d with
    | zero =>
      intro x n X a1 a2 a3
      obtain ⟨n, rfl⟩ : ∃ k, n = k + 1 := ⟨n - 1, by omega⟩
      have e : x = A.ns := by omega
      subst e
      exact ⟨X, by rw [L_X9_unseen_9, c9_1 (hRX X a3), Option.bind_some, if_pos (nI_le (by omega) (by omega))], a3⟩
    | succ d ih =>
      intro x n X a1 a2 a3
      obtain ⟨n, rfl⟩ : ∃ k, n = k + 1 := ⟨n - 1, by omega⟩
      obtain ⟨X1, k1, h⟩ := in9 x (by omega) nz 0 NF X (by omega) (NF_big (by omega)) a3 (fun i h => absurd h (by omega))
      have hacc : accf V (x + 1) = accf V x ||| (@ite _ (V x) (Classical.propDecidable _) (1 <<< (nI x &&& 31)) 0) := rfl
      rw [L_X9_unseen_9, c9_1 (hRX X a3), Option.bind_some, if_neg (nI_ge (by omega) (by omega)), show (0 : Int32) = nI 0 from rfl]
      rcases h with ⟨u, v⟩ | ⟨u, v⟩
      · rw [v, Option.bind_some, if_neg (show ¬ (1 : Int32) = nI 0 by decide), Option.bind_some, nI_1]
        rw [if_pos (show V x from u)] at hacc
        rw [← hacc]
        exact ih (x + 1) n X1 (by omega) (by omega) k1
      · rw [v, Option.bind_some, if_pos (show (0 : Int32) = nI 0 by decide), Option.bind_some, nI_1]
        rw [if_neg (show ¬ V x from u)] at hacc
        rw [show (nI 0 : Int32) = 0 from rfl, ← hacc]
        exact ih (x + 1) n X1 (by omega) (by omega) k1
  obtain ⟨G2, e9, k9⟩ := c9 A.ns 0 NF (upm G1 81 0 0) (by omega) (NF_big (by omega)) (K9r.rf _)
  refine ⟨accf V A.ns, G1, G2, ?_, ?_, hI'.keeps (Keeps_q k8 k9)⟩
  · unfold m_X8_unseen
    rw [show (L_X8_unseen_4 NF 0 0 G) = some (accf V A.ns, G1) from e8, Option.bind_some]
  · unfold m_X9_unseen
    rw [show (L_X9_unseen_9 NF 0 0 (upm G1 81 0 0)) = some (accf V A.ns, G2) from e9, Option.bind_some]
