/-! ===== 33 orders, both sides ===== -/
theorem ord167 {nc : Nat} (h8 : nc ≤ 8) (G : Mem) : Ok (L_X9_ordersWith_167 (nI (2 ^ nc - 1)) NF 0 G) (fun s => (∀ k, k ≠ 95 → s k = G k) ∧ ∀ C, C < 2 ^ nc → s 95 C = nI (iv (C = 0) 1)) := by
  have hp := pow256 h8
  have h0 := Nat.two_pow_pos nc
  refine up_loop (L_X9_ordersWith_167 (nI (2 ^ nc - 1))) (2 ^ nc) (fun x s => (∀ k, k ≠ 95 → s k = G k) ∧ ∀ C, C < x → s 95 C = nI (iv (C = 0) 1)) _ (fun n s h => by
    rw [L_X9_ordersWith_167, if_pos (nI_lt (by omega) (by omega))]; exact Ok.pure h) (fun n x s hx h k => ?_) NF 0 G (by omega) (NF_big (by omega)) ⟨fun _ _ => rfl, fun C hC => absurd hC (by omega)⟩
  have hv : ((if nI x = 0 then some 1 else some 0) : Option Int32) = some (nI (iv (x = 0) 1)) := by
    by_cases z : x = 0
    · rw [if_pos (by rw [z]; rfl), iv_t z]; rfl
    · rw [if_neg (nI_ne0 (by omega) (by omega)), iv_f z]; rfl
  rw [L_X9_ordersWith_167, if_neg (nI_nlt (by omega) (by omega)), hv, Option.bind_some, ast_nI (by omega) (by omega), Option.bind_some, nI_1]
  refine k _ ⟨fun k p => by rw [upm_n _ _ _ p]; exact h.1 k p, fun C hC => ?_⟩
  by_cases e : C = x
  · subst e; exact upm_kj _ _ _ _
  · rw [upm_kn _ _ _ e]; exact h.2 C (by omega)
theorem ord200 {A : Told} {G : Mem} (hw : WF A) (hR : RowR A (G 82)) {fs on : Nat → Nat} (hf : ∀ c, c < A.nc → fs c < 256 ∧ on c < 256 ∧ G 96 c = nI (fs c) ∧ G 97 c = nI (on c)) (h95 : ∀ C, C < 2 ^ A.nc → G 95 C = nI (iv (C = 0) 1)) :
    Ok (L_X9_ordersWith_200 (nI (2 ^ A.nc - 1)) NF 0 G) (fun s => (∀ k, k ≠ 95 → s k = G k) ∧ s 95 (2 ^ A.nc - 1) = nI (bw (TT9 fs on A.nc) (2 ^ A.nc - 1) 0)) := by
  have h1 := hw.1
  have h8 : A.nc ≤ 8 := by omega
  have hp := pow256 h8
  have h0 := Nat.two_pow_pos A.nc
  have hGr := TT9_Gr fs on h8
  refine up_loop (L_X9_ordersWith_200 (nI (2 ^ A.nc - 1))) (2 ^ A.nc - 1) (fun x s => (∀ k, k ≠ 95 → s k = G k) ∧ ∀ C, C < 2 ^ A.nc → s 95 C = nI (WaP (TT9 fs on A.nc) x C)) _ (fun n s h => by
    rw [L_X9_ordersWith_200, if_pos (nI_le (by omega) (by omega))]
    refine Ok.pure ⟨h.1, ?_⟩
    rw [h.2 _ (by omega), WaP_fw hGr.up (by omega) (Nat.le_refl _) (by omega), fw_bw hGr.up (by omega)]) (fun n x s hx h k => ?_) NF 0 G (by omega) (NF_big (by omega)) ⟨fun _ _ => rfl, fun C hC => ?_⟩
  · rw [L_X9_ordersWith_200, if_neg (nI_ge hx (by omega))]
    obtain ⟨s', e', b1, b2⟩ := ord210 (G := s) hw (by rw [h.1 82 (by omega)]; exact hR) (fun c hc => by rw [h.1 96 (by omega), h.1 97 (by omega)]; exact hf c hc) hx h.2
    rw [e', Option.bind_some, nI_1]
    exact k _ ⟨fun k p => by rw [b1 k p]; exact h.1 k p, b2⟩
  · rw [h95 C hC]
    rfl
theorem TT9_TG {H : List Edge} {nc : Nat} (hs : SymE H (1 + 2 * nc)) {fs on : Nat → Nat} (hfs : ∀ c, c < nc → ∀ y, ((fs c).testBit y = true ↔ (y < nc ∧ Sq H (2 + 2 * y) (2 + 2 * c)))) (hon : ∀ c, c < nc → ∀ y, ((on c).testBit y = true ↔ (y < nc ∧ Eqq H y c))) {C C' : Nat} (hC : Cl H nc C) : TT9 fs on nc C C' ↔ TG H nc C C' := by
  constructor
  · rintro ⟨s, s1, s2, s3, s4, rfl⟩
    have hS : Sub C (C ||| s) := fun i hi => by rw [Nat.testBit_or, hi]; rfl
    have inS : ∀ y, (C ||| s).testBit y = true → C.testBit y = false → s.testBit y = true := fun y q1 q2 => by
      rw [Nat.testBit_or, q2, Bool.false_or] at q1
      exact q1
    have str : ∀ x y, x < nc → y < nc → Sq H (2 + 2 * x) (2 + 2 * y) → s.testBit y = true → C.testBit x = true := fun x y hx hy r q => (s4.2 y hy q).1 x ((hfs y hy x).mpr ⟨hx, r⟩)
    refine ⟨hS, or_ne2 s1 s4.1, Nat.or_lt_two_pow s3 s2, fun x y hx hy r => ⟨hC.2 x y hx hy r, fun q => ?_⟩, fun x y hx hy r q1 q2 => str x y hx hy r (inS y q1 q2)⟩
    by_cases z : C.testBit y = true
    · exact hS x (hC.2 x y hx hy r z)
    · have q2 := inS y q (bf_of z)
      by_cases w : Sq H (2 + 2 * x) (2 + 2 * y)
      · exact hS x (str x y hx hy w q2)
      · have e : Eqq H x y := ⟨r, hs _ _ (by omega) (by omega) r w⟩
        have := (s4.2 y hy q2).2 x ((hon y hy x).mpr ⟨hx, e⟩)
        rw [Nat.testBit_or, this, Bool.or_true]
  · intro h
    have hx := xor_b h.1
    refine ⟨C' ^^^ C, fun e => ?_, Nat.xor_lt_two_pow h.2.2.1 hC.1, hC.1, ⟨fun i hi => ((hx i).mp hi).2, fun c hc hi => ⟨fun y hy => ?_, fun y hy => ?_⟩⟩, or_xor2 h.1⟩
    · obtain ⟨i, hi⟩ := ne_bit h.1 h.2.1
      have := (hx i).mpr hi
      rw [e] at this
      simp at this
    · obtain ⟨y1, y2⟩ := (hfs c hc y).mp hy
      obtain ⟨q1, q2⟩ := (hx c).mp hi
      exact h.2.2.2.2 y c y1 hc y2 q1 q2
    · obtain ⟨y1, y2⟩ := (hon c hc y).mp hy
      obtain ⟨q1, q2⟩ := (hx c).mp hi
      refine (hx y).mpr ⟨(h.2.2.2.1 y c y1 hc y2.1).2 q1, bf_of (fun z => bf_no q2 ((h.2.2.2.1 c y hc y1 y2.2).1 z))⟩
theorem RI.same {n : Nat} {H : List Edge} {f g : Nat → Int32} (r : RI n H f g) (hc : Can H) {p q : Nat} (hp : p < n) (hq : q < n) : f p = f q ↔ (Rq H p q ∧ Rq H q p) := by
  constructor
  · intro h
    exact ⟨r.2.2.1 p q hp hq h, r.2.2.1 q p hq hp h.symm⟩
  · rintro ⟨a, b⟩
    rcases decR r a with h | ⟨e, h1, h2⟩
    · exact h
    · exact absurd ⟨p, (Sq.l h1 (h2.S r hq)).r b⟩ hc
theorem ord9 {A : Told} {G : Mem} (hw : WF A) (hR : RowR A (G 82)) {p q : Nat} {s : Option Nat} (hp : p ≤ 2 * A.nc) (hq : q ≤ 2 * A.nc) (hs : ∀ x, s = some x → x < 2) :
    ∃ G1, m_X9_ordersWith G (nI p) (exI s) (nI q) = some (nI (OW (exH p s q ++ H0 A) A.nc), G1) ∧ K9r G G1 := by
  have h1 := hw.1
  have h8 : A.nc ≤ 8 := by omega
  have hp256 := pow256 h8
  have h0p := Nat.two_pow_pos A.nc
  obtain ⟨G1, f, g, e1, k1, r, x1, x2, x3, l, h⟩ := sound9 hw hR (ALL A.ns) hp hq hs
  rw [show setH A (bt (ALL A.ns)) A.ns = H0 A from rfl] at r h
  unfold m_X9_ordersWith
  rw [all9_eq hR, Option.bind_some, e1, Option.bind_some]
  unfold OW
  rcases h with ⟨hc, e2, lev, hl⟩ | ⟨hc, e2⟩
  case inr =>
    refine ⟨_, ?_, k1.tr (K9r.se G1 (c := 93) (by omega) l)⟩
    rw [e2, Option.bind_some, if_pos rfl, iv_f hc]
    rfl
  generalize exH p s q ++ H0 A = H at r hc hl
  have hsy : SymE H (1 + 2 * A.nc) := fun p q hp hq => r.sym hp hq
  obtain ⟨b, e3, q3⟩ := laysBelow_eq (G := setc G1 93 l) (show 1 + 2 * A.nc ≤ 17 by omega) (by rw [setc_n _ _ (by omega)]; exact x3) r (by rw [setc_n _ _ (by omega)]; exact x1) (by rw [setc_n _ _ (by omega)]; exact x2) (lev := lev) (by rw [setc_k]; exact hl)
  have k3 : K9r G (setc (setc G1 93 l) 94 b) := (k1.tr (K9r.se G1 (c := 93) (by omega) l)).tr (K9r.se _ (c := 94) (by omega) b)
  have hR3 : RowR A ((setc (setc G1 93 l) 94 b) 82) := by rw [k3.1 82 (by omega) (by omega)]; exact hR
  rw [e2, Option.bind_some, if_neg one_ne]
  dsimp only
  rw [e3, Option.bind_some, c9_0 hR3, Option.bind_some, wholeI h8]
  obtain ⟨G4, e4, a1, a2⟩ := ord35 h8 (setc (setc G1 93 l) 94 b)
  rw [setc_k, setc_n _ _ (show (91 : Nat) ≠ 94 by omega), setc_n _ _ (show (91 : Nat) ≠ 93 by omega), x1] at a2
  rw [e4, Option.bind_some]
  have mk : ∀ c, ∃ m : Nat × Nat, c < A.nc → (m.1 < 256 ∧ m.2 < 256 ∧ (∀ y, (m.1.testBit y = true ↔ (y < A.nc ∧ Sq H (2 + 2 * y) (2 + 2 * c)))) ∧ (∀ y, (m.2.testBit y = true ↔ (y < A.nc ∧ Eqq H y c))) ∧ G4 96 c = nI m.1 ∧ G4 97 c = nI m.2) := by
    intro c
    by_cases hcn : c < A.nc
    · obtain ⟨m1, p1, p2⟩ := mask_n (fun y => Sq H (2 + 2 * y) (2 + 2 * c)) A.nc
      obtain ⟨m2, p3, p4⟩ := mask_n (fun y => Eqq H y c) A.nc
      have f1 : ∀ y, (m1.testBit y = true ↔ (y < A.nc ∧ Sq H (2 + 2 * y) (2 + 2 * c))) := fun y => by
        by_cases hy : y < A.nc
        · rw [p2 y hy]; exact ⟨fun z => ⟨hy, z⟩, fun z => z.2⟩
        · rw [tb_out2 p1 (by omega)]; exact ⟨fun z => absurd z (by decide), fun z => absurd z.1 hy⟩
      have f2 : ∀ y, (m2.testBit y = true ↔ (y < A.nc ∧ Eqq H y c)) := fun y => by
        by_cases hy : y < A.nc
        · rw [p4 y hy]; exact ⟨fun z => ⟨hy, z⟩, fun z => z.2⟩
        · rw [tb_out2 p3 (by omega)]; exact ⟨fun z => absurd z (by decide), fun z => absurd z.1 hy⟩
      refine ⟨(m1, m2), fun _ => ⟨by omega, by omega, f1, f2, nI_of_bits (by omega) (fun i hi => bit_iff (P := True) ?_), nI_of_bits (by omega) (fun i hi => bit_iff (P := True) ?_)⟩⟩
      · rw [(a2 c hcn).1 i hi, f1 i]
        exact ⟨fun z => ⟨z.1, (q3 _ (by omega) _ (by omega)).mp z.2⟩, fun z => ⟨z.1, (q3 _ (by omega) _ (by omega)).mpr z.2⟩⟩
      · rw [(a2 c hcn).2 i hi, f2 i]
        exact ⟨fun z => ⟨z.1, by have := (r.same hc (by omega) (by omega)).mp z.2; exact ⟨this.2, this.1⟩⟩, fun z => ⟨z.1, (r.same hc (by omega) (by omega)).mpr ⟨z.2.2, z.2.1⟩⟩⟩
    · exact ⟨(0, 0), fun z => absurd z hcn⟩
  let fs : Nat → Nat := fun c => (Classical.choose (mk c)).1
  let on : Nat → Nat := fun c => (Classical.choose (mk c)).2
  have mk' : ∀ c, c < A.nc → (fs c < 256 ∧ on c < 256 ∧ (∀ y, ((fs c).testBit y = true ↔ (y < A.nc ∧ Sq H (2 + 2 * y) (2 + 2 * c)))) ∧ (∀ y, ((on c).testBit y = true ↔ (y < A.nc ∧ Eqq H y c))) ∧ G4 96 c = nI (fs c) ∧ G4 97 c = nI (on c)) := fun c hcn => Classical.choose_spec (mk c) hcn
  obtain ⟨G5, e5, b1, b2⟩ := ord167 h8 G4
  rw [e5, Option.bind_some]
  obtain ⟨G6, e6, c1, c2⟩ := ord200 (G := G5) (fs := fs) (on := on) hw (by rw [b1 82 (by omega), a1 82 (by omega) (by omega)]; exact hR3) (fun c hcn => by
    obtain ⟨m1, m2, _, _, m5, m6⟩ := mk' c hcn
    exact ⟨m1, m2, by rw [b1 96 (by omega)]; exact m5, by rw [b1 97 (by omega)]; exact m6⟩) b2
  rw [e6, Option.bind_some, ald_nI (by omega) (by omega), Option.bind_some, c2, iv_t hc]
  have eb : bw (TT9 fs on A.nc) (2 ^ A.nc - 1) 0 = bw (TG H A.nc) (2 ^ A.nc - 1) 0 :=
    bw_agree (TT9_Gr fs on h8).up (TG_Gr H h8).up (2 ^ A.nc - 1) (Cl H A.nc) (fun C C' hC => TT9_TG hsy (fun c hcn => (mk' c hcn).2.2.1) (fun c hcn => (mk' c hcn).2.2.2.1) hC) (fun C C' hC z => TG_Cl ((TT9_TG hsy (fun c hcn => (mk' c hcn).2.2.1) (fun c hcn => (mk' c hcn).2.2.2.1) hC).mp z)) 0 (by omega) (Cl_0 H A.nc)
  rw [eb]
  refine ⟨G6, rfl, k3.tr ⟨fun k u v => ?_, fun j u => ?_⟩⟩
  · rw [c1 k (by omega), b1 k (by omega), a1 k (by omega) (by omega)]
  · rw [c1 81 (by omega), b1 81 (by omega), a1 81 (by omega) (by omega)]
/-! the class -/
theorem symE0 {A : Told} {G : Mem} (hw : WF A) (hR : RowR A (G 82)) : SymE (H0 A) (1 + 2 * A.nc) := by
  obtain ⟨_, f, g, _, _, r, _⟩ := sound9a hw hR (ALL A.ns)
  exact fun p q hp hq => RI.sym r hp hq
/-- what an answer tells -/
def ansH (a b t : Nat) : List Edge := if t = 2 then hE (2 + 2 * b) 0 (2 + 2 * a) else hE (2 + 2 * a) t (2 + 2 * b)
theorem OW_mono {H H' : List Edge} {nc : Nat} (hs : ∀ e, e ∈ H → e ∈ H') (hc : ¬ Can H) : OW H' nc = 0 := iv_f (fun z => hc (fun ⟨x, q⟩ => z ⟨x, q.mono hs⟩)) _
theorem OW_lt (H : List Edge) {nc : Nat} (h8 : nc ≤ 8) : OW H nc < 2147483648 := by
  unfold OW
  by_cases z : Can H
  · rw [iv_t z]; exact bw_lt (TG_Gr H h8) (by omega)
  · rw [iv_f z]; omega
def RemOk (A : Told) (G : Mem) : Prop := ∀ a b t, a < A.nc → b < A.nc → t < 3 → m_X5_remaining G (nI a) (nI t) (nI b) = some (nI (OW (ansH a b t ++ H0 A) A.nc))
theorem rem_go {G : Mem} {a b t la lb : Nat} (ha : a < 8) (hb : b < 8) (hla : la < 8) (hlb : lb < 8) (ht : t < 3) (e1 : G 67 a = nI la) (e2 : G 67 b = nI lb) : m_X5_remaining G (nI a) (nI t) (nI b) = some (if t = 0 then G (73 + la) lb else if t = 2 then G (73 + lb) la else G 66 7 - G (73 + la) lb - G (73 + lb) la) := by
  unfold m_X5_remaining
  rw [if_neg (w8_1 ha), if_neg (w8_1 hb), ald_nI ha (by omega), Option.bind_some, ald_nI hb (by omega), Option.bind_some, e1, e2, if_neg (w8_1 hla), if_neg (w8_1 hlb), aal_nI hla (by omega), aal_nI hlb (by omega), Option.bind_some, Option.bind_some, Option.bind_some, ald_nI hlb (by omega)]
  have eb : (ald 8 G (73 + lb) (nI la)) = some (G (73 + lb) la) := ald_nI hla (by omega)
  simp only [eb, Option.bind_some]
  rcases (show t = 0 ∨ t = 1 ∨ t = 2 by omega) with rfl | rfl | rfl
  · rw [if_pos (by decide), if_pos rfl]
  · rw [if_neg (by decide), if_neg (by decide), if_neg (by omega), if_neg (by omega)]
  · rw [if_neg (by decide), if_pos (by decide), if_neg (by omega), if_pos rfl]
theorem remF {A : Told} {G : Mem} (hw : WF A) (hc : Can (H0 A)) (hs : SymE (H0 A) (1 + 2 * A.nc)) {low bf : Nat → Nat} {U : Nat} (hD : TD (H0 A) A.nc low bf U) (hT : TC U bf low A.nc G) : RemOk A G := by
  have h1 := hw.1
  have h8 : A.nc ≤ 8 := by omega
  obtain ⟨t1, t2, t3⟩ := hT
  have hU := hD.1
  have hUp := (TT8_Gr hU bf).up
  have hS := TT8_S hU bf
  intro a b t ha hb ht
  obtain ⟨a1, a2, a3, a4⟩ := low_low hD ha
  obtain ⟨b1, b2, b3, b4⟩ := low_low hD hb
  rw [rem_go (by omega) (by omega) (by omega) (by omega) ht (t2 a ha) (t2 b hb), t3 _ _ a2 b2, t3 _ _ b2 a2, t1]
  rcases (show t = 0 ∨ t = 1 ∨ t = 2 by omega) with rfl | rfl | rfl
  · rw [if_pos rfl, show ansH a b 0 ++ H0 A = (2 + 2 * a, true, 2 + 2 * b) :: H0 A from rfl, OW_t hc h8 ha hb, low_1 h8 hs hD ha hb]
  · rw [if_neg (by omega), if_neg (by omega), show ansH a b 1 ++ H0 A = (2 + 2 * b, false, 2 + 2 * a) :: (2 + 2 * a, false, 2 + 2 * b) :: H0 A from rfl, OW_f hc h8 ha hb, low_3 h8 hs hD ha hb]
    by_cases e : low a = low b
    · rw [e, T1_self hUp hS b2]
      have e3 : T3 (TT8 U bf) (low b) (low b) = TT8 U bf := by funext C C'; exact propext (and_iff_left Iff.rfl)
      rw [e3, pk_sub (Nat.zero_le _), pk_sub (Nat.zero_le _)]
      rfl
    · have h3 := bw_three hUp hS (w := U) (x := low a) (y := low b) a2 e
      rw [pk_sub (by omega), pk_sub (by omega)]
      congr 2
      omega
  · rw [if_neg (by omega), if_pos rfl, show ansH a b 2 ++ H0 A = (2 + 2 * b, true, 2 + 2 * a) :: H0 A from rfl, OW_t hc h8 hb ha, low_1 h8 hs hD hb ha]
theorem remZ {A : Told} {G : Mem} (hw : WF A) (hc : ¬ Can (H0 A)) (h66 : G 66 7 = 0) (h67 : ∀ c, c < 8 → G 67 c = nI c) (h73 : ∀ c, c < 8 → ∀ d, d < 8 → G (73 + c) d = 0) : RemOk A G := by
  have h1 := hw.1
  intro a b t ha hb ht
  rw [rem_go (by omega) (by omega) (by omega) (by omega) ht (h67 a (by omega)) (h67 b (by omega)), h73 a (by omega) b (by omega), h73 b (by omega) a (by omega), h66, OW_mono (fun e m => List.mem_append_right _ m) hc]
  split
  · rfl
  · split <;> rfl
theorem tally8 {A : Told} {G : Mem} (hw : WF A) (hC : RowC A (G 2)) (hR : RowR A (G 82)) : ∃ G1 G2, m_X8_tallyAll G = some G1 ∧ m_X5_compare G1 = some G2 ∧ K8q G G1 ∧ K8q G G2 ∧ G1 66 7 = nI (OW (H0 A) A.nc) ∧ OG (H0 A) G2 ∧ RemOk A G2 := by
  have h1 := hw.1
  have h8 : A.nc ≤ 8 := by omega
  have hs := symE0 hw hR
  obtain ⟨f, g, e, h⟩ := orderSet_eq hw hC (ALL A.ns)
  have hC' : RowC A ((or2 G 27 f g) 2) := by rw [or2_n _ _ _ (by omega) (by omega)]; exact hC
  have hO : OG (H0 A) (or2 G 27 f g) := ⟨f, g, h, or2_1 G 27 f g, or2_2 G 27 f g⟩
  obtain ⟨G1, e1, k1, c1⟩ := fill8 (H0_W hw) h8 hs hO
  have eT : m_X8_tallyAll G = some G1 := by
    unfold m_X8_tallyAll
    rw [every_eq hC, Option.bind_some, e, Option.bind_some, c8_0 hC', Option.bind_some, e1, Option.bind_some]
  have kk : K8q G G1 := fun k hk => by rw [k1 k (by omega), or2_n _ _ _ (by omega) (by omega)]
  rcases c1 with ⟨hc, z1, z2, z3, z4⟩ | ⟨hc, low, bf, U, hD, hF⟩
  · obtain ⟨G2, e2, k2⟩ := compareZ z1 z3
    refine ⟨G1, G2, eT, e2, kk, fun k hk => by rw [k2 k (by omega)]; exact kk k hk, ?_, hO.k (by rw [k2 28 (by omega), k1 28 (by omega)]) (by rw [k2 29 (by omega), k1 29 (by omega)]), remZ hw hc (by rw [k2 66 (by omega)]; exact z1) (fun c hc' => by rw [k2 67 (by omega)]; exact z2 c hc') (fun c hc' d hd => by rw [k2 (73 + c) (by omega)]; exact z4 c hc' d hd)⟩
    rw [z1, OW_mono (fun e m => m) hc]
    rfl
  · obtain ⟨G2, e2, k2, c2⟩ := compareF hD.1 hD.2.2.2.1 hF
    refine ⟨G1, G2, eT, e2, kk, fun k hk => by rw [k2 k (by omega)]; exact kk k hk, ?_, hO.k (by rw [k2 28 (by omega), k1 28 (by omega)]) (by rw [k2 29 (by omega), k1 29 (by omega)]), remF hw hc hs hD c2⟩
    rw [hF.2.1]
    unfold OW
    rw [iv_t hc, low_0 h8 hs hD]
theorem leftBy9 {A : Told} {G : Mem} (hw : WF A) (hR : RowR A (G 82)) {a b t : Nat} (ha : a < A.nc) (hb : b < A.nc) (ht : t < 3) : ∃ G1, m_X9_leftBy G (nI a) (nI b) (nI t) = some (nI (OW (ansH a b t ++ H0 A) A.nc), G1) ∧ K9r G G1 := by
  unfold m_X9_leftBy
  rw [ev_nI a, ev_nI b]
  by_cases z : t = 2
  · subst z
    obtain ⟨G1, e1, k1⟩ := ord9 hw hR (p := 2 + 2 * b) (q := 2 + 2 * a) (s := some 0) (by omega) (by omega) (fun x h => by injection h with h; omega)
    refine ⟨G1, ?_, k1⟩
    rw [if_pos (by decide)]
    rw [show exI (some 0) = 0 from rfl] at e1
    rw [e1, Option.bind_some]
    rfl
  · obtain ⟨G1, e1, k1⟩ := ord9 hw hR (p := 2 + 2 * a) (q := 2 + 2 * b) (s := some t) (by omega) (by omega) (fun x h => by injection h with h; omega)
    refine ⟨G1, ?_, k1⟩
    rw [if_neg (show ¬ nI t = 2 from fun q => z ((nI_eq (b := 2) (by omega) (by omega)).mp q))]
    rw [show exI (some t) = nI t from rfl] at e1
    rw [e1, Option.bind_some]
    unfold ansH
    rw [if_neg z]
    rfl
