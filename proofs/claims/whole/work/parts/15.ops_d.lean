/-! ===== 15 steps: says, takes ===== -/
theorem even_iff {j : Nat} (hj : j ≤ 16) : (nI j - nI j / 2 * 2 = 0) ↔ j % 2 = 0 := by
  rw [show (2 : Int32) = nI 2 from rfl, pk_rem (by omega) (by omega) (by omega), show (0 : Int32) = nI 0 from rfl]
  exact nI_eq (by omega) (by omega)
theorem e8_eq {A : Told} {G : Mem} (hw : WF A) (h : RowC A (G 2)) {j : Nat} (hj : j ≤ 2 * A.nc) : m_X8_isNowOrEvent G (nI j) = some (if j % 2 = 0 then 1 else 0) := by
  have h1 := hw.1
  unfold m_X8_isNowOrEvent
  rw [t8_yes hw h hj, Option.bind_some, if_neg one_ne]
  by_cases e : j % 2 = 0
  · rw [if_pos e, if_pos ((even_iff (by omega)).mpr e)]
  · rw [if_neg e, if_neg (fun z => e ((even_iff (by omega)).mp z))]
theorem e9_eq {A : Told} {G : Mem} (hw : WF A) (h : RowR A (G 82)) {j : Nat} (hj : j ≤ 2 * A.nc) : m_X9_isSaid G (nI j) = some (if j % 2 = 0 then 1 else 0) := by
  have h1 := hw.1
  unfold m_X9_isSaid
  rw [t9_yes hw h hj, Option.bind_some, if_neg one_ne]
  by_cases e : j % 2 = 0
  · rw [if_pos e, if_pos ((even_iff (by omega)).mpr e)]
  · rw [if_neg e, if_neg (fun z => e ((even_iff (by omega)).mp z))]
/-- what may be said: both ask alike -/
theorem said_cases {A : Told} {G G' : Mem} (hw : WF A) (hC : RowC A (G 2)) (hR : RowR A (G' 82)) (a b c : Int32) :
    (m_X8_canBeSaid G a b c = some 0 ∧ ∀ {β : Type} (X Y : Option β), (m_X9_isSaid G' a).bind (fun r_1 => (if r_1 = 0 then X else (m_X9_isSaid G' c).bind (fun r_3 => (if r_3 = 0 then X else (if a = c then X else (if (m_X9_in b 0 1) = 0 then X else Y)))))) = X) ∨
    (∃ p s q, a = nI p ∧ b = nI s ∧ c = nI q ∧ p ≤ 2 * A.nc ∧ q ≤ 2 * A.nc ∧ p % 2 = 0 ∧ q % 2 = 0 ∧ p ≠ q ∧ s < 2 ∧ m_X8_canBeSaid G a b c = some 1 ∧ ∀ {β : Type} (X Y : Option β), (m_X9_isSaid G' a).bind (fun r_1 => (if r_1 = 0 then X else (m_X9_isSaid G' c).bind (fun r_3 => (if r_3 = 0 then X else (if a = c then X else (if (m_X9_in b 0 1) = 0 then X else Y)))))) = Y) := by
  have h1 := hw.1
  unfold m_X8_canBeSaid
  rcases time_cases (2 * A.nc) rfl (by omega) a with ha | ⟨p, hp, rfl⟩
  · refine Or.inl ⟨?_, fun X Y => ?_⟩
    · unfold m_X8_isNowOrEvent; rw [t8_no hw hC ha]; rfl
    · unfold m_X9_isSaid; rw [t9_no hw hR ha]; rfl
  rw [e8_eq hw hC hp, e9_eq hw hR hp]
  by_cases ep : p % 2 = 0
  case neg => rw [if_neg ep]; exact Or.inl ⟨rfl, fun X Y => rfl⟩
  rw [if_pos ep]
  simp only [Option.bind_some, if_neg one_ne]
  rcases time_cases (2 * A.nc) rfl (by omega) c with ha | ⟨q, hq, rfl⟩
  · refine Or.inl ⟨?_, fun X Y => ?_⟩
    · unfold m_X8_isNowOrEvent; rw [t8_no hw hC ha]; rfl
    · unfold m_X9_isSaid; rw [t9_no hw hR ha]; rfl
  rw [e8_eq hw hC hq, e9_eq hw hR hq]
  by_cases eq : q % 2 = 0
  case neg => rw [if_neg eq]; exact Or.inl ⟨rfl, fun X Y => rfl⟩
  rw [if_pos eq]
  simp only [Option.bind_some, if_neg one_ne]
  by_cases hpq : p = q
  · subst hpq; simp only [if_true]; exact Or.inl ⟨trivial, fun X Y => trivial⟩
  have hne : ¬ nI p = nI q := fun z => hpq ((nI_eq (by omega) (by omega)).mp z)
  simp only [if_neg hne]
  rcases time_cases (M := 1) 1 rfl (by omega) b with hb | ⟨s, hs, rfl⟩
  · refine Or.inl ⟨?_, fun X Y => by rw [in_no hb, if_pos rfl]⟩
    by_cases h0 : b < 0
    · rw [if_pos h0]
    · rw [if_neg h0, if_pos]
      have := hb.resolve_left h0
      rw [fa_lt] at this
      rw [fa_le]
      have e1 : ((1 : Int32)).toInt = 1 := by decide
      have e2 : ((2 : Int32)).toInt = 2 := by decide
      omega
  · refine Or.inr ⟨p, s, q, rfl, rfl, rfl, hp, hq, ep, eq, hpq, by omega, ?_, fun X Y => ?_⟩
    · rw [if_neg (nI_pos (by omega)), if_neg (show ¬ (2 : Int32) ≤ nI s from nI_ge (a := s) (b := 2) (by omega) (by omega))]
    · rw [in_yes (nI_pos (by omega)) (show ¬ (1 : Int32) < nI s from nI_nlt (a := 1) (b := s) hs (by omega)), if_neg one_ne]
def Told.more (A : Told) (c p s q : Nat) : Told := ((A.nc, A.ns + 1), A.ten, A.lnk, (fun i => if i = A.ns then c else A.cl i), (fun i => if i = A.ns then p else A.fi i), (fun i => if i = A.ns then s else A.sg i), (fun i => if i = A.ns then q else A.se i))
def Told.less (A : Told) (k : Nat) : Told := ((A.nc, A.ns - 1), A.ten, A.lnk, (fun i => if i < k then A.cl i else A.cl (i + 1)), (fun i => if i < k then A.fi i else A.fi (i + 1)), (fun i => if i < k then A.sg i else A.sg (i + 1)), (fun i => if i < k then A.se i else A.se (i + 1)))
def addC (R : Nat → Int32) (n : Nat) (c p s q : Int32) : Nat → Int32 := upd (upd (upd (upd (upd R (18 + n) c) (32 + n) p) (46 + n) s) (60 + n) q) 1 (nI (n + 1))
def addR (R : Nat → Int32) (n : Nat) (c p s q : Int32) : Nat → Int32 := upd (upd (upd (upd (upd R (18 + 4 * n) c) (19 + 4 * n) p) (20 + 4 * n) s) (21 + 4 * n) q) 1 (nI (n + 1))
theorem more_I {A : Told} {c p s q k : Nat} : (A.more c p s q).clI k = (if k = A.ns then (if c = 9 then -9 else nI c) else A.clI k) ∧ (A.more c p s q).fiI k = (if k = A.ns then (if c = 9 then nI p else -9) else A.fiI k) ∧ (A.more c p s q).sgI k = (if k = A.ns then (if c = 9 then nI s else -9) else A.sgI k) ∧ (A.more c p s q).seI k = (if k = A.ns then (if c = 9 then nI q else -9) else A.seI k) := by
  unfold Told.clI Told.fiI Told.sgI Told.seI
  have e1 : (A.more c p s q).cl k = if k = A.ns then c else A.cl k := rfl
  have e2 : (A.more c p s q).fi k = if k = A.ns then p else A.fi k := rfl
  have e3 : (A.more c p s q).sg k = if k = A.ns then s else A.sg k := rfl
  have e4 : (A.more c p s q).se k = if k = A.ns then q else A.se k := rfl
  rw [e1, e2, e3, e4]
  by_cases h : k = A.ns
  · simp only [if_pos h]; exact ⟨trivial, trivial, trivial, trivial⟩
  · simp only [if_neg h]; exact ⟨trivial, trivial, trivial, trivial⟩
theorem more_C {A : Told} {c p s q : Nat} {R : Nat → Int32} (h8 : A.nc ≤ 8) (h14 : A.ns < 14) (hC : RowC A R) : RowC (A.more c p s q) (addC R A.ns (if c = 9 then -9 else nI c) (if c = 9 then nI p else -9) (if c = 9 then nI s else -9) (if c = 9 then nI q else -9)) := by
  unfold addC
  refine ⟨⟨?_, ?_⟩, fun i hi => ⟨?_, ?_⟩, fun k hk => ?_⟩
  · unfold upd; repeat rw [if_neg (by omega)]
    exact hC.1.1
  · unfold upd; rw [if_pos rfl]; rfl
  · have hi' : i < A.nc := hi
    unfold upd; repeat rw [if_neg (by omega)]
    exact (hC.2.1 i hi).1
  · have hi' : i < A.nc := hi
    unfold upd; repeat rw [if_neg (by omega)]
    exact (hC.2.1 i hi).2
  · have hk' : k < A.ns + 1 := hk
    obtain ⟨m1, m2, m3, m4⟩ := more_I (A := A) (c := c) (p := p) (s := s) (q := q) (k := k)
    rw [m1, m2, m3, m4]
    unfold upd
    by_cases e : k = A.ns
    · subst e
      simp only [if_true]
      refine ⟨?_, ?_, ?_, ?_⟩
      · rw [if_neg (by omega), if_neg (by omega), if_neg (by omega), if_neg (by omega)]
      · rw [if_neg (by omega), if_neg (by omega), if_neg (by omega)]
      · rw [if_neg (by omega), if_neg (by omega)]
      · rw [if_neg (by omega)]
    · have hk2 : k < A.ns := by omega
      simp only [if_neg e]
      obtain ⟨c1, c2, c3, c4⟩ := hC.2.2 k hk2
      refine ⟨?_, ?_, ?_, ?_⟩
      · rw [if_neg (by omega), if_neg (by omega), if_neg (by omega), if_neg (by omega), if_neg (by omega)]; exact c1
      · rw [if_neg (by omega), if_neg (by omega), if_neg (by omega), if_neg (by omega), if_neg (by omega)]; exact c2
      · rw [if_neg (by omega), if_neg (by omega), if_neg (by omega), if_neg (by omega), if_neg (by omega)]; exact c3
      · rw [if_neg (by omega), if_neg (by omega), if_neg (by omega), if_neg (by omega), if_neg (by omega)]; exact c4
theorem more_R {A : Told} {c p s q : Nat} {R : Nat → Int32} (h8 : A.nc ≤ 8) (h14 : A.ns < 14) (hR : RowR A R) : RowR (A.more c p s q) (addR R A.ns (if c = 9 then -9 else nI c) (if c = 9 then nI p else -9) (if c = 9 then nI s else -9) (if c = 9 then nI q else -9)) := by
  unfold addR
  refine ⟨⟨?_, ?_⟩, fun i hi => ⟨?_, ?_⟩, fun k hk => ?_⟩
  · unfold upd; repeat rw [if_neg (by omega)]
    exact hR.1.1
  · unfold upd; rw [if_pos rfl]; rfl
  · have hi' : i < A.nc := hi
    unfold upd; repeat rw [if_neg (by omega)]
    exact (hR.2.1 i hi).1
  · have hi' : i < A.nc := hi
    unfold upd; repeat rw [if_neg (by omega)]
    exact (hR.2.1 i hi).2
  · have hk' : k < A.ns + 1 := hk
    obtain ⟨m1, m2, m3, m4⟩ := more_I (A := A) (c := c) (p := p) (s := s) (q := q) (k := k)
    rw [m1, m2, m3, m4]
    unfold upd
    by_cases e : k = A.ns
    · subst e
      simp only [if_true]
      refine ⟨?_, ?_, ?_, ?_⟩
      · rw [if_neg (by omega), if_neg (by omega), if_neg (by omega), if_neg (by omega)]
      · rw [if_neg (by omega), if_neg (by omega), if_neg (by omega)]
      · rw [if_neg (by omega), if_neg (by omega)]
      · rw [if_neg (by omega)]
    · have hk2 : k < A.ns := by omega
      simp only [if_neg e]
      obtain ⟨c1, c2, c3, c4⟩ := hR.2.2 k hk2
      refine ⟨?_, ?_, ?_, ?_⟩
      · rw [if_neg (by omega), if_neg (by omega), if_neg (by omega), if_neg (by omega), if_neg (by omega)]; exact c1
      · rw [if_neg (by omega), if_neg (by omega), if_neg (by omega), if_neg (by omega), if_neg (by omega)]; exact c2
      · rw [if_neg (by omega), if_neg (by omega), if_neg (by omega), if_neg (by omega), if_neg (by omega)]; exact c3
      · rw [if_neg (by omega), if_neg (by omega), if_neg (by omega), if_neg (by omega), if_neg (by omega)]; exact c4
theorem more_WF {A : Told} (hw : WF A) {p s q : Nat} (h6 : A.ns < A.nc + 6) (hp : p ≤ 2 * A.nc) (hq : q ≤ 2 * A.nc) (ep : p % 2 = 0) (eq : q % 2 = 0) (hne : p ≠ q) (hs : s < 2) : WF (A.more 9 p s q) := by
  obtain ⟨⟨a1, a2, a3⟩, b, c, d, e, f⟩ := hw
  have ec : ∀ k, (A.more 9 p s q).cl k = if k = A.ns then 9 else A.cl k := fun _ => rfl
  have es : (A.more 9 p s q).ns = A.ns + 1 := rfl
  have en : (A.more 9 p s q).nc = A.nc := rfl
  refine ⟨⟨a1, by rw [es, en]; omega, by rw [es, en]; omega⟩, b, fun k hk h9 => ?_, fun k hk h9 => ?_, fun c' hc => ?_, fun k k' hk hk' he h9 => ?_⟩
  · rw [ec] at h9
    by_cases z : k = A.ns
    · subst z
      show (if A.ns = A.ns then p else _) ≤ _ ∧ (if A.ns = A.ns then q else _) ≤ _ ∧ (if A.ns = A.ns then p else _) % 2 = 0 ∧ (if A.ns = A.ns then q else _) % 2 = 0 ∧ (if A.ns = A.ns then p else _) ≠ (if A.ns = A.ns then q else _) ∧ (if A.ns = A.ns then s else _) < 2
      simp only [if_true]
      exact ⟨hp, hq, ep, eq, hne, hs⟩
    · rw [if_neg z] at h9
      have := c k (by rw [es] at hk; omega) h9
      show (if k = A.ns then p else _) ≤ _ ∧ (if k = A.ns then q else _) ≤ _ ∧ (if k = A.ns then p else _) % 2 = 0 ∧ (if k = A.ns then q else _) % 2 = 0 ∧ (if k = A.ns then p else _) ≠ (if k = A.ns then q else _) ∧ (if k = A.ns then s else _) < 2
      simp only [if_neg z]
      exact this
  · rw [ec] at h9 ⊢
    by_cases z : k = A.ns
    · rw [if_pos z] at h9; exact absurd rfl h9
    · rw [if_neg z] at h9 ⊢
      exact d k (by rw [es] at hk; omega) h9
  · obtain ⟨k, h1, h2⟩ := e c' hc
    exact ⟨k, by rw [es]; omega, by rw [ec, if_neg (by omega)]; exact h2⟩
  · rw [ec] at h9 he
    rw [ec] at he
    rw [es] at hk hk'
    by_cases z : k = A.ns
    · rw [if_pos z] at h9; exact absurd rfl h9
    · rw [if_neg z] at h9 he
      by_cases z' : k' = A.ns
      · rw [if_pos z'] at he; exact absurd he h9
      · rw [if_neg z'] at he
        exact f k k' (by omega) (by omega) he h9
theorem addStatement_eq {A : Told} {G : Mem} {d : Nat} (hns : A.ns < 14) (hs : m_X6_statements G d = some (nI A.ns)) {c p s q : Int32} : m_X6_addStatement G d c p s q = some (setc G (d + 1) (addC (G (d + 1)) A.ns c p s q)) := by
  unfold m_X6_addStatement addC
  rw [hs, Option.bind_some, if_neg (nI_pos (by omega)), if_pos (show nI A.ns < (14 : Int32) from nI_lt (a := A.ns) (b := 14) hns (by omega))]
  rw [show (18 : Int32) = nI 18 from rfl, show (32 : Int32) = nI 32 from rfl, show (46 : Int32) = nI 46 from rfl, show (60 : Int32) = nI 60 from rfl, nI_add, nI_add, nI_add, nI_add, nI_1]
  rw [ast_nI (by omega) (by omega), Option.bind_some, ast_nI (by omega) (by omega), Option.bind_some, ast_nI (by omega) (by omega), Option.bind_some, ast_nI (by omega) (by omega), Option.bind_some, show (1 : Int32) = nI 1 from rfl, ast_nI (by omega) (by omega), Option.bind_some]
  rw [upm_as G, upm_setc, upm_setc, upm_setc, upm_setc]
theorem st_5 (G : Mem) (a b c : Int32) (hI : Inv G) : ∃ (r : Int32) (G1 G2 : Mem), op8 5 G a b c = some (r, G1) ∧ op9 5 G1 a b c = some (r, G2) ∧ Inv G2 := by
  have hT := hI.keeps (keeps_thrown G)
  obtain ⟨nc, ⟨A, hw, hnc, hC, hR⟩, ht, ⟨nx, nu, u1, u2, u3, u4, u5, u6⟩, hi0, hz⟩ := hI
  have h1 := hw.1
  have hR' : RowR A ((upm G 81 0 0) 82) := hR
  show ∃ (r : Int32) (G1 G2 : Mem), m_X8_says G a b c = some (r, G1) ∧ m_X9_says G1 a b c = some (r, G2) ∧ Inv G2
  rcases said_cases hw hC hR' a b c with ⟨e8, e9⟩ | ⟨p, s, q, rfl, rfl, rfl, hp, hq, ep, eq, hne, hs, e8, e9⟩
  · refine ⟨-1, G, upm G 81 0 0, ?_, ?_, hT⟩
    · unfold m_X8_says; rw [e8, Option.bind_some, if_pos rfl]
    · unfold m_X9_says; exact e9 _ _
  by_cases h6 : A.ns = A.nc + 6
  · refine ⟨-3, G, upm G 81 0 0, ?_, ?_, hT⟩
    · unfold m_X8_says; rw [e8, Option.bind_some, if_neg one_ne, c8_2 hw hC, Option.bind_some, if_neg (show ¬ nI (A.ns - A.nc) < (6 : Int32) from nI_nlt (a := A.ns - A.nc) (b := 6) (by omega) (by omega))]
    · unfold m_X9_says; rw [e9, c9_2 hw hR', Option.bind_some, if_pos (by rw [h6, show A.nc + 6 - A.nc = 6 by omega]; rfl)]
  have hlt : A.ns < A.nc + 6 := by omega
  have g8 : RowC (A.more 9 p s q) (addC (G 2) A.ns (-9) (nI p) (nI s) (nI q)) := more_C (c := 9) h1.1 (by omega) hC
  have g9 : RowR (A.more 9 p s q) (addR (G 82) A.ns (-9) (nI p) (nI s) (nI q)) := more_R (c := 9) h1.1 (by omega) hR
  have gw := more_WF hw hlt hp hq ep eq hne hs
  have e82 : (upm (setc (N8 G nx nu) 2 (addC (G 2) A.ns (-9) (nI p) (nI s) (nI q))) 81 0 0) 82 = G 82 := by rw [upm_n _ _ _ (by omega), setc_n _ _ (by omega), N8_n (by omega) (by omega)]
  have e4 : (upm (setc (N8 G nx nu) 2 (addC (G 2) A.ns (-9) (nI p) (nI s) (nI q))) 81 0 0) 81 4 = nI nu := by rw [upm_kn _ _ _ (by omega), setc_n _ _ (by omega), N8_n (by omega) (by omega)]; exact u5
  have hRa : RowR A ((upm (setc (N8 G nx nu) 2 (addC (G 2) A.ns (-9) (nI p) (nI s) (nI q))) 81 0 0) 82) := by rw [e82]; exact hR
  have hRb : (N9 (upm (setc (N8 G nx nu) 2 (addC (G 2) A.ns (-9) (nI p) (nI s) (nI q))) 81 0 0) nu) 82 = G 82 := by rw [N9_n (by omega) (by omega)]; exact e82
  refine ⟨nI (A.ns + 1), setc (N8 G nx nu) 2 (addC (G 2) A.ns (-9) (nI p) (nI s) (nI q)), setc (N9 (upm (setc (N8 G nx nu) 2 (addC (G 2) A.ns (-9) (nI p) (nI s) (nI q))) 81 0 0) nu) 82 (addR (G 82) A.ns (-9) (nI p) (nI s) (nI q)), ?_, ?_, Inv.change ⟨A, hw, hnc, hC, hR⟩ ht u1 u2 u6 hi0 hz ⟨A.more 9 p s q, gw, hnc, g8, g9⟩⟩
  · unfold m_X8_says m_X6_addSaying
    have n2 : N8 G nx nu 2 = G 2 := N8_2 u1
    rw [e8, Option.bind_some, if_neg one_ne, c8_2 hw hC, Option.bind_some, if_pos (show nI (A.ns - A.nc) < (6 : Int32) from nI_lt (a := A.ns - A.nc) (b := 6) (by omega) (by omega)), note_eq u1 u2 u3 u4, Option.bind_some, addStatement_eq (A := A) (by omega) (c8_1 (by rw [n2]; exact hC)), Option.bind_some, Option.bind_some, n2]
    rw [c8_1 (A := A.more 9 p s q) (by rw [setc_k]; exact g8), Option.bind_some]
    rfl
  · unfold m_X9_says
    rcases said_cases hw hC hRa (nI p) (nI s) (nI q) with ⟨f8, _⟩ | ⟨_, _, _, _, _, _, _, _, _, _, _, _, _, f9⟩
    · rw [e8] at f8; exact absurd (Option.some.inj f8) one_ne
    rw [f9, c9_2 hw hRa, Option.bind_some, if_neg (fun z => by have := (nI_eq (a := A.ns - A.nc) (b := 6) (by omega) (by omega)).mp z; omega), notes_eq u2 e4, Option.bind_some, c9_1 (A := A) (by rw [hRb]; exact hR), Option.bind_some]
    rw [show (18 : Int32) + 4 * nI A.ns = nI (18 + 4 * A.ns) by rw [show (4 : Int32) = nI 4 from rfl, pk_mul, show (18 : Int32) = nI 18 from rfl, nI_add], nI_1, show (2 : Int32) = nI 2 from rfl, show (3 : Int32) = nI 3 from rfl, nI_add, nI_add]
    rw [ast_nI (by omega) (by omega), Option.bind_some, ast_nI (by omega) (by omega), Option.bind_some, ast_nI (by omega) (by omega), Option.bind_some, ast_nI (by omega) (by omega), Option.bind_some, upm_as (N9 _ _), upm_setc, upm_setc, upm_setc, hRb]
    rw [show 18 + 4 * A.ns + 1 = 19 + 4 * A.ns by omega, show 18 + 4 * A.ns + 2 = 20 + 4 * A.ns by omega, show 18 + 4 * A.ns + 3 = 21 + 4 * A.ns by omega]
    rw [show (1 : Int32) = nI 1 from rfl, ald_nI (by omega) (by omega), Option.bind_some, setc_k]
    have q1 : upd (upd (upd (upd (G 82) (18 + 4 * A.ns) (-9)) (19 + 4 * A.ns) (nI p)) (20 + 4 * A.ns) (nI s)) (21 + 4 * A.ns) (nI q) 1 = nI A.ns := by
      unfold upd
      rw [if_neg (by omega), if_neg (by omega), if_neg (by omega), if_neg (by omega)]
      exact hR.1.2
    rw [q1, nI_add, ast_nI (by omega) (by omega), Option.bind_some, upm_setc, ald_nI (by omega) (by omega), Option.bind_some, setc_k, pk_us]
    rfl
theorem pigeon : ∀ m n (g : Nat → Nat), (∀ c, c < n → g c < m) → (∀ c c', c < n → c' < n → g c = g c' → c = c') → n ≤ m := by
  intro m
  induction m with
  | zero =>
    intro n g h _
    rcases Nat.eq_zero_or_pos n with h0 | h0
    · omega
    · exact absurd (h 0 h0) (by omega)
  | succ m ih =>
    intro n g h hi
    by_cases hx : ∃ c0, c0 < n ∧ g c0 = m
    · obtain ⟨c0, h0, e0⟩ := hx
      have := ih (n - 1) (fun c => g (if c < c0 then c else c + 1)) (fun c hc => by
        have h1 : (if c < c0 then c else c + 1) < n := by split <;> omega
        have h2 := h _ h1
        have h3 : g (if c < c0 then c else c + 1) ≠ m := fun z => by
          have := hi _ _ h1 h0 (by rw [z, e0])
          split at this <;> omega
        show g _ < m
        omega) (fun c c' hc hc' e => by
        have h1 : (if c < c0 then c else c + 1) < n := by split <;> omega
        have h2 : (if c' < c0 then c' else c' + 1) < n := by split <;> omega
        have := hi _ _ h1 h2 e
        split at this <;> split at this <;> omega)
      omega
    · have := ih n g (fun c hc => by
        have := h c hc
        have h3 : g c ≠ m := fun z => hx ⟨c, hc, z⟩
        omega) hi
      omega
theorem onto_le {n m : Nat} {f : Nat → Nat} (h : ∀ c, c < n → ∃ k, k < m ∧ f k = c) : n ≤ m := by
  have h' : ∀ c, ∃ k, c < n → (k < m ∧ f k = c) := fun c => by
    by_cases hc : c < n
    · obtain ⟨k, hk⟩ := h c hc; exact ⟨k, fun _ => hk⟩
    · exact ⟨0, fun z => absurd z hc⟩
  refine pigeon m n (fun c => Classical.choose (h' c)) (fun c hc => (Classical.choose_spec (h' c) hc).1) (fun c c' hc hc' e => ?_)
  have e1 := (Classical.choose_spec (h' c) hc).2
  have e2 := (Classical.choose_spec (h' c') hc').2
  rw [← e1, ← e2]
  exact congrArg f e
theorem less_WF {A : Told} (hw : WF A) {k : Nat} (hk : k < A.ns) (h9 : A.cl k = 9) : WF (A.less k) := by
  obtain ⟨⟨a1, a2, a3⟩, b, c, d, e, f⟩ := hw
  have ec : ∀ i, (A.less k).cl i = if i < k then A.cl i else A.cl (i + 1) := fun _ => rfl
  have es : (A.less k).ns = A.ns - 1 := rfl
  have en : (A.less k).nc = A.nc := rfl
  have e' : ∀ c, c < A.nc → ∃ i, i < A.ns - 1 ∧ (A.less k).cl i = c := fun c' hc => by
    obtain ⟨i, h1, h2⟩ := e c' hc
    have hik : i ≠ k := fun z => by rw [z, h9] at h2; omega
    by_cases hlt : i < k
    · exact ⟨i, by omega, by rw [ec, if_pos hlt]; exact h2⟩
    · exact ⟨i - 1, by omega, by rw [ec, if_neg (by omega), show i - 1 + 1 = i by omega]; exact h2⟩
  refine ⟨⟨a1, by rw [es, en]; exact onto_le e', by rw [es, en]; omega⟩, b, fun i hi h9' => ?_, fun i hi h9' => ?_, e', fun i i' hi hi' he h9' => ?_⟩
  · rw [es] at hi
    rw [ec] at h9'
    show (if i < k then A.fi i else A.fi (i + 1)) ≤ _ ∧ (if i < k then A.se i else A.se (i + 1)) ≤ _ ∧ (if i < k then A.fi i else A.fi (i + 1)) % 2 = 0 ∧ (if i < k then A.se i else A.se (i + 1)) % 2 = 0 ∧ (if i < k then A.fi i else A.fi (i + 1)) ≠ (if i < k then A.se i else A.se (i + 1)) ∧ (if i < k then A.sg i else A.sg (i + 1)) < 2
    by_cases z : i < k
    · simp only [if_pos z] at h9' ⊢
      exact c i (by omega) h9'
    · simp only [if_neg z] at h9' ⊢
      exact c (i + 1) (by omega) h9'
  · rw [es] at hi
    rw [ec] at h9' ⊢
    by_cases z : i < k
    · simp only [if_pos z] at h9' ⊢
      exact d i (by omega) h9'
    · simp only [if_neg z] at h9' ⊢
      exact d (i + 1) (by omega) h9'
  · rw [es] at hi hi'
    rw [ec] at h9' he
    rw [ec] at he
    have key : ∀ x y, x < A.ns → y < A.ns → A.cl x = A.cl y → A.cl x ≠ 9 → x = y := f
    by_cases z : i < k
    · rw [if_pos z] at h9' he
      by_cases z' : i' < k
      · rw [if_pos z'] at he; exact key _ _ (by omega) (by omega) he h9'
      · rw [if_neg z'] at he; have := key _ _ (by omega) (by omega) he h9'; omega
    · rw [if_neg z] at h9' he
      by_cases z' : i' < k
      · rw [if_pos z'] at he; have := key _ _ (by omega) (by omega) he h9'; omega
      · rw [if_neg z'] at he; have := key _ _ (by omega) (by omega) he h9'; omega
/-- the class's four blocks, moved by one from k to x -/
def shC (R : Nat → Int32) (k x : Nat) : Nat → Int32 := fun j => if (18 + k ≤ j ∧ j < 18 + x) ∨ (32 + k ≤ j ∧ j < 32 + x) ∨ (46 + k ≤ j ∧ j < 46 + x) ∨ (60 + k ≤ j ∧ j < 60 + x) then R (j + 1) else R j
theorem shC_0 (R : Nat → Int32) (k : Nat) : shC R k k = R := by
  funext j
  unfold shC
  rw [if_neg (by omega)]
theorem shC_s (R : Nat → Int32) {k x : Nat} (hkx : k ≤ x) (hx : x < 13) : upd (upd (upd (upd (shC R k x) (18 + x) (R (18 + x + 1))) (32 + x) (R (32 + x + 1))) (46 + x) (R (46 + x + 1))) (60 + x) (R (60 + x + 1)) = shC R k (x + 1) := by
  funext j
  unfold upd
  by_cases h4 : j = 60 + x
  · subst h4; rw [if_pos rfl]; unfold shC; rw [if_pos (by omega)]
  rw [if_neg h4]
  by_cases h3 : j = 46 + x
  · subst h3; rw [if_pos rfl]; unfold shC; rw [if_pos (by omega)]
  rw [if_neg h3]
  by_cases h2 : j = 32 + x
  · subst h2; rw [if_pos rfl]; unfold shC; rw [if_pos (by omega)]
  rw [if_neg h2]
  by_cases h1 : j = 18 + x
  · subst h1; rw [if_pos rfl]; unfold shC; rw [if_pos (by omega)]
  rw [if_neg h1]
  unfold shC
  by_cases h : (18 + k ≤ j ∧ j < 18 + x) ∨ (32 + k ≤ j ∧ j < 32 + x) ∨ (46 + k ≤ j ∧ j < 46 + x) ∨ (60 + k ≤ j ∧ j < 60 + x)
  · rw [if_pos h, if_pos (by omega)]
  · rw [if_neg h, if_neg (by omega)]
theorem removeLoop_eq (G : Mem) {k : Nat} (hk : k ≤ 13) : L_X6_removeSaying_15 1 NF (nI k) G = some (setc G 2 (shC (G 2) k 13)) := by
  have key : ∀ d x n, x + d = 13 → k ≤ x → d < n → L_X6_removeSaying_15 1 n (nI x) (setc G 2 (shC (G 2) k x)) = some (setc G 2 (shC (G 2) k 13)) := by
    intro d
    induction d with
    | zero =>
      intro x n h1 h2 h3
      obtain ⟨n, rfl⟩ : ∃ k, n = k + 1 := ⟨n - 1, by omega⟩
      have e : x = 13 := by omega
      subst e
      rw [L_X6_removeSaying_15, nI_1, if_pos (show (14 : Int32) ≤ nI (13 + 1) from nI_le (a := 14) (b := 14) (by omega) (by omega))]
    | succ d ih =>
      intro x n h1 h2 h3
      obtain ⟨n, rfl⟩ : ∃ k, n = k + 1 := ⟨n - 1, by omega⟩
      rw [L_X6_removeSaying_15, nI_1, if_neg (show ¬ (14 : Int32) ≤ nI (x + 1) from nI_ge (a := x + 1) (b := 14) (by omega) (by omega))]
      have r0 : ∀ b, shC (G 2) k x (b + x + 1) = G 2 (b + x + 1) ∨ ¬ (b = 18 ∨ b = 32 ∨ b = 46 ∨ b = 60) := by
        intro b
        by_cases hb : b = 18 ∨ b = 32 ∨ b = 46 ∨ b = 60
        · left; unfold shC; rw [if_neg (by omega)]
        · exact Or.inr hb
      rw [show (18 : Int32) = nI 18 from rfl, show (32 : Int32) = nI 32 from rfl, show (46 : Int32) = nI 46 from rfl, show (60 : Int32) = nI 60 from rfl]
      simp only [nI_add, nI_1]
      rw [ald_nI (by omega) (by omega), Option.bind_some, ast_nI (by omega) (by omega), Option.bind_some, ald_nI (by omega) (by omega), Option.bind_some, ast_nI (by omega) (by omega), Option.bind_some, ald_nI (by omega) (by omega), Option.bind_some, ast_nI (by omega) (by omega), Option.bind_some, ald_nI (by omega) (by omega), Option.bind_some, ast_nI (by omega) (by omega), Option.bind_some]
      simp only [show 1 + 1 = 2 from rfl, upm_setc, setc_k]
      rw [pk_un (j := 32 + x + 1) (k := 18 + x) (by omega), pk_un (j := 46 + x + 1) (k := 32 + x) (by omega), pk_un (j := 46 + x + 1) (k := 18 + x) (by omega), pk_un (j := 60 + x + 1) (k := 46 + x) (by omega), pk_un (j := 60 + x + 1) (k := 32 + x) (by omega), pk_un (j := 60 + x + 1) (k := 18 + x) (by omega)]
      rw [(r0 18).resolve_right (by omega), (r0 32).resolve_right (by omega), (r0 46).resolve_right (by omega), (r0 60).resolve_right (by omega), shC_s _ h2 (by omega)]
      exact ih (x + 1) n (by omega) (by omega) (by omega)
  have := key (13 - k) k NF (by omega) (by omega) (NF_big (by omega))
  rwa [shC_0, setc_self] at this
theorem less_I {A : Told} {k i : Nat} : (A.less k).clI i = (if i < k then A.clI i else A.clI (i + 1)) ∧ (A.less k).fiI i = (if i < k then A.fiI i else A.fiI (i + 1)) ∧ (A.less k).sgI i = (if i < k then A.sgI i else A.sgI (i + 1)) ∧ (A.less k).seI i = (if i < k then A.seI i else A.seI (i + 1)) := by
  unfold Told.clI Told.fiI Told.sgI Told.seI
  have e1 : (A.less k).cl i = if i < k then A.cl i else A.cl (i + 1) := rfl
  have e2 : (A.less k).fi i = if i < k then A.fi i else A.fi (i + 1) := rfl
  have e3 : (A.less k).sg i = if i < k then A.sg i else A.sg (i + 1) := rfl
  have e4 : (A.less k).se i = if i < k then A.se i else A.se (i + 1) := rfl
  rw [e1, e2, e3, e4]
  by_cases h : i < k
  · simp only [if_pos h]; exact ⟨trivial, trivial, trivial, trivial⟩
  · simp only [if_neg h]; exact ⟨trivial, trivial, trivial, trivial⟩
theorem less_C {A : Told} (hw : WF A) {k : Nat} (hk : k < A.ns) {R : Nat → Int32} (hC : RowC A R) : RowC (A.less k) (upd (shC R k 13) 1 (nI (A.ns - 1))) := by
  have h1 := hw.1
  refine ⟨⟨?_, ?_⟩, fun i hi => ⟨?_, ?_⟩, fun i hi => ?_⟩
  · unfold upd shC; rw [if_neg (by omega), if_neg (by omega)]; exact hC.1.1
  · unfold upd; rw [if_pos rfl]; rfl
  · have hi' : i < A.nc := hi
    unfold upd shC; rw [if_neg (by omega), if_neg (by omega)]; exact (hC.2.1 i hi).1
  · have hi' : i < A.nc := hi
    unfold upd shC; rw [if_neg (by omega), if_neg (by omega)]; exact (hC.2.1 i hi).2
  · have hi' : i < A.ns - 1 := hi
    obtain ⟨m1, m2, m3, m4⟩ := less_I (A := A) (k := k) (i := i)
    rw [m1, m2, m3, m4]
    unfold upd shC
    by_cases z : i < k
    · simp only [if_pos z]
      obtain ⟨c1, c2, c3, c4⟩ := hC.2.2 i (by omega)
      refine ⟨?_, ?_, ?_, ?_⟩
      · rw [if_neg (by omega), if_neg (by omega)]; exact c1
      · rw [if_neg (by omega), if_neg (by omega)]; exact c2
      · rw [if_neg (by omega), if_neg (by omega)]; exact c3
      · rw [if_neg (by omega), if_neg (by omega)]; exact c4
    · simp only [if_neg z]
      obtain ⟨c1, c2, c3, c4⟩ := hC.2.2 (i + 1) (by omega)
      refine ⟨?_, ?_, ?_, ?_⟩
      · rw [if_neg (by omega), if_pos (by omega)]; exact c1
      · rw [if_neg (by omega), if_pos (by omega)]; exact c2
      · rw [if_neg (by omega), if_pos (by omega)]; exact c3
      · rw [if_neg (by omega), if_pos (by omega)]; exact c4
theorem takes47_eq {G : Mem} {k m : Nat} (hk : k ≤ m) (hm : m < 14) (e : G 82 1 = nI m) : L_X9_takes_47 NF (nI (18 + 4 * k)) G = some (cpy G 82 (22 + 4 * k) 82 (18 + 4 * k) (4 * (m - k))) := by
  have := copy_loop (fun n i G' => L_X9_takes_47 n (nI (18 + 4 * k) + i) G') G 82 (22 + 4 * k) 82 (18 + 4 * k) (4 * (m - k)) (Or.inr (by omega)) (fun n => ?_) (fun n x hx => ?_) NF (NF_big (by omega))
  · simp only [nI_add, Nat.add_zero] at this
    exact this
  · have f : (cpy G 82 (22 + 4 * k) 82 (18 + 4 * k) (4 * (m - k))) 82 1 = nI m := by rw [cpy_out (by omega)]; exact e
    rw [L_X9_takes_47, show (1 : Int32) = nI 1 from rfl, ald_nI (by omega) (by omega), Option.bind_some, f, show (4 : Int32) = nI 4 from rfl, pk_mul, show (18 : Int32) = nI 18 from rfl, nI_add, nI_add, if_pos (nI_le (by omega) (by omega))]
  · have f : (cpy G 82 (22 + 4 * k) 82 (18 + 4 * k) x) 82 1 = nI m := by rw [cpy_out (by omega)]; exact e
    rw [L_X9_takes_47, show (1 : Int32) = nI 1 from rfl, ald_nI (by omega) (by omega), Option.bind_some, f, show (4 : Int32) = nI 4 from rfl, pk_mul, show (18 : Int32) = nI 18 from rfl, nI_add, nI_add, if_neg (nI_ge (by omega) (by omega)), nI_add, ald_nI (by omega) (by omega), Option.bind_some, ast_nI (by omega) (by omega), Option.bind_some, nI_add, nI_add, show 18 + 4 * k + x + 4 = 22 + 4 * k + x by omega, show 18 + 4 * k + (x + 1) = 18 + 4 * k + x + 1 by omega]
theorem less_R {A : Told} (hw : WF A) {k : Nat} (hk : k < A.ns) {R S : Nat → Int32} (hR : RowR A R) (s1 : S 1 = nI (A.ns - 1)) (s2 : ∀ j, j ≠ 1 → j < 18 + 4 * k → S j = R j) (s3 : ∀ j, 18 + 4 * k ≤ j → j < 18 + 4 * (A.ns - 1) → S j = R (j + 4)) : RowR (A.less k) S := by
  have h1 := hw.1
  refine ⟨⟨?_, s1⟩, fun i hi => ⟨?_, ?_⟩, fun i hi => ?_⟩
  · rw [s2 _ (by omega) (by omega)]; exact hR.1.1
  · have hi' : i < A.nc := hi
    rw [s2 _ (by omega) (by omega)]; exact (hR.2.1 i hi).1
  · have hi' : i < A.nc := hi
    rw [s2 _ (by omega) (by omega)]; exact (hR.2.1 i hi).2
  · have hi' : i < A.ns - 1 := hi
    obtain ⟨m1, m2, m3, m4⟩ := less_I (A := A) (k := k) (i := i)
    rw [m1, m2, m3, m4]
    by_cases z : i < k
    · simp only [if_pos z]
      rw [s2 _ (by omega) (by omega), s2 _ (by omega) (by omega), s2 _ (by omega) (by omega), s2 _ (by omega) (by omega)]
      exact hR.2.2 i (by omega)
    · simp only [if_neg z]
      rw [s3 _ (by omega) (by omega), s3 _ (by omega) (by omega), s3 _ (by omega) (by omega), s3 _ (by omega) (by omega)]
      have := hR.2.2 (i + 1) (by omega)
      rw [show 18 + 4 * i + 4 = 18 + 4 * (i + 1) by omega, show 19 + 4 * i + 4 = 19 + 4 * (i + 1) by omega, show 20 + 4 * i + 4 = 20 + 4 * (i + 1) by omega, show 21 + 4 * i + 4 = 21 + 4 * (i + 1) by omega]
      exact this
theorem cpy_as {G : Mem} {a p b q m : Nat} : cpy G a p b q m = setc G b (cpy G a p b q m b) := by
  funext k
  by_cases h : k = b
  · subst h; rw [setc_k]
  · rw [setc_n _ _ h, cpy_n h]
theorem st_6 (G : Mem) (a b c : Int32) (hI : Inv G) : ∃ (r : Int32) (G1 G2 : Mem), op8 6 G a b c = some (r, G1) ∧ op9 6 G1 a b c = some (r, G2) ∧ Inv G2 := by
  have hT := hI.keeps (keeps_thrown G)
  obtain ⟨nc, ⟨A, hw, hnc, hC, hR⟩, ht, ⟨nx, nu, u1, u2, u3, u4, u5, u6⟩, hi0, hz⟩ := hI
  have h1 := hw.1
  have hR' : RowR A ((upm G 81 0 0) 82) := hR
  show ∃ (r : Int32) (G1 G2 : Mem), m_X8_takes G a = some (r, G1) ∧ m_X9_takes G1 a = some (r, G2) ∧ Inv G2
  rcases below_cases A.ns rfl (by omega) a with ha | ⟨k, hk, rfl⟩
  · refine ⟨-1, G, upm G 81 0 0, ?_, ?_, hT⟩
    · unfold m_X8_takes; rw [s8_no hw hC ha, Option.bind_some, if_pos rfl]
    · unfold m_X9_takes; rw [s9_no hw hR' ha, Option.bind_some, if_pos rfl]
  by_cases h9 : A.cl k = 9
  case neg =>
    have hcl := hw.2.2.2.1 k hk h9
    have e : A.clI k = nI (A.cl k) := if_neg h9
    refine ⟨-1, G, upm G 81 0 0, ?_, ?_, hT⟩
    · unfold m_X8_takes; rw [s8_yes hw hC hk, Option.bind_some, if_neg one_ne, clauseAt_eq hw hC hk, Option.bind_some, e, if_neg (m9_ne (by omega))]
    · unfold m_X9_takes; rw [s9_yes hw hR' hk, Option.bind_some, if_neg one_ne, (of9 hw hR' hk).1, Option.bind_some, e, if_neg (m9_ne (by omega))]
  have e : A.clI k = -9 := if_pos h9
  have gw := less_WF hw hk h9
  have g8 := less_C hw hk hC
  have e82 : (upm (setc (N8 G nx nu) 2 (upd (shC (G 2) k 13) 1 (nI (A.ns - 1)))) 81 0 0) 82 = G 82 := by rw [upm_n _ _ _ (by omega), setc_n _ _ (by omega), N8_n (by omega) (by omega)]
  have e4 : (upm (setc (N8 G nx nu) 2 (upd (shC (G 2) k 13) 1 (nI (A.ns - 1)))) 81 0 0) 81 4 = nI nu := by rw [upm_kn _ _ _ (by omega), setc_n _ _ (by omega), N8_n (by omega) (by omega)]; exact u5
  have hRa : RowR A ((upm (setc (N8 G nx nu) 2 (upd (shC (G 2) k 13) 1 (nI (A.ns - 1)))) 81 0 0) 82) := by rw [e82]; exact hR
  generalize hGn : (upm (setc (N8 G nx nu) 2 (upd (shC (G 2) k 13) 1 (nI (A.ns - 1)))) 81 0 0) = Gn at e82 e4 hRa
  have hRb : (N9 Gn nu) 82 = G 82 := by rw [N9_n (by omega) (by omega)]; exact e82
  generalize hS : cpy (upm (N9 Gn nu) 82 1 (nI (A.ns - 1))) 82 (22 + 4 * k) 82 (18 + 4 * k) (4 * (A.ns - 1 - k)) 82 = S
  have s1 : S 1 = nI (A.ns - 1) := by rw [← hS, cpy_out (by omega), upm_kj]
  have g9 : RowR (A.less k) S := by
    refine less_R hw hk hR s1 (fun j j1 j2 => ?_) (fun j j1 j2 => ?_)
    · rw [← hS, cpy_out (by omega), upm_kn _ _ _ j1, hRb]
    · rw [← hS, cpy_in (by omega) (by omega), upm_kn _ _ _ (by omega), hRb]
      congr 1
      omega
  have hI2 := Inv.change ⟨A, hw, hnc, hC, hR⟩ ht u1 u2 u6 hi0 hz ⟨A.less k, gw, hnc, g8, g9⟩
  rw [hGn] at hI2
  refine ⟨nI (A.ns - 1), setc (N8 G nx nu) 2 (upd (shC (G 2) k 13) 1 (nI (A.ns - 1))), setc (N9 Gn nu) 82 S, ?_, ?_, hI2⟩
  · unfold m_X8_takes m_X6_removeSaying
    have n2 : N8 G nx nu 2 = G 2 := N8_2 u1
    rw [s8_yes hw hC hk, Option.bind_some, if_neg one_ne, clauseAt_eq hw hC hk, Option.bind_some, e, if_pos rfl, note_eq u1 u2 u3 u4, Option.bind_some, if_neg (nI_pos (by omega)), c8_1 (A := A) (by rw [n2]; exact hC), Option.bind_some, if_pos (nI_lt hk (by omega)), removeLoop_eq _ (by omega), Option.bind_some, n2]
    have q1 : m_X6_statements (setc (N8 G nx nu) 2 (shC (G 2) k 13)) 1 = some (nI A.ns) := by
      unfold m_X6_statements
      rw [show (1 : Int32) = nI 1 from rfl, ald_nI (by omega) (by omega), Option.bind_some]
      show some (setc (N8 G nx nu) 2 (shC (G 2) k 13) 2 1) = _
      rw [setc_k]
      unfold shC
      rw [if_neg (by omega), hC.1.2]
    rw [q1, Option.bind_some, show (1 : Int32) = nI 1 from rfl, pk_sub (by omega), ast_nI (by omega) (by omega), Option.bind_some, Option.bind_some, upm_setc]
    rw [c8_1 (A := A.less k) (by rw [setc_k]; exact g8), Option.bind_some]
    rfl
  · unfold m_X9_takes
    rw [hGn, s9_yes hw hRa hk, Option.bind_some, if_neg one_ne, (of9 hw hRa hk).1, Option.bind_some, e, if_pos rfl, notes_eq u2 e4, Option.bind_some, c9_1 (A := A) (by rw [hRb]; exact hR), Option.bind_some, show (1 : Int32) = nI 1 from rfl, pk_sub (by omega), ast_nI (by omega) (by omega), Option.bind_some]
    rw [show (18 : Int32) + 4 * nI k = nI (18 + 4 * k) by rw [show (4 : Int32) = nI 4 from rfl, pk_mul, show (18 : Int32) = nI 18 from rfl, nI_add], takes47_eq (m := A.ns - 1) (by omega) (by omega) (upm_kj _ _ _ _), Option.bind_some, cpy_as, hS, ald_nI (by omega) (by omega), Option.bind_some, setc_k, s1, upm_as, setc_setc]
