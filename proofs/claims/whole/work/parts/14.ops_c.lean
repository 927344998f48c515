/-! ===== 14 steps: back, undo, tenses, links, says ===== -/
theorem Inv.mk' {G G2 : Mem} {nc : Nat} (hp : Pair nc (G2 2) (G2 82)) (ht : TextOk G) (hu : PastOk nc G2) (hi : ImgOk nc G) (hz : SeenOk nc G)
    (ke : ∀ k, (5 ≤ k ∧ k ≤ 6) ∨ (19 ≤ k ∧ k ≤ 26) ∨ (85 ≤ k ∧ k ≤ 90) → G2 k = G k) (k81 : ∀ j, j ≠ 0 → j ≠ 4 → G2 81 j = G 81 j) : Inv G2 := by
  refine ⟨nc, hp, ?_, hu, hi.congr (ke 19 (by omega)) (ke 21 (by omega)) (ke 22 (by omega)) (ke 85 (by omega)) (ke 86 (by omega)), ?_⟩
  · unfold TextOk at ht ⊢
    rw [ke 5 (by omega), ke 6 (by omega), ke 90 (by omega), k81 11 (by omega) (by omega)]
    exact ht
  · unfold SeenOk at hz ⊢
    rw [ke 23 (by omega), ke 24 (by omega), ke 25 (by omega), ke 26 (by omega), ke 87 (by omega), ke 88 (by omega), ke 89 (by omega), k81 7 (by omega) (by omega)]
    exact hz
theorem testBit_if {kb i : Nat} {x : Int32} (h : x = if kb.testBit i then 1 else 0) : (x = 0 ↔ kb.testBit i = false) ∧ (x &&& 1 = x) := by
  subst h
  cases kb.testBit i <;> decide
theorem st_22 (G : Mem) (a b c : Int32) (hI : Inv G) : ∃ (r : Int32) (G1 G2 : Mem), op8 22 G a b c = some (r, G1) ∧ op9 22 G1 a b c = some (r, G2) ∧ Inv G2 := by
  have hT := hI.keeps (keeps_thrown G)
  obtain ⟨nc, hp, ht, hu, hi0, hz⟩ := hI
  obtain ⟨kb, k1, k2, k3⟩ := hi0
  show ∃ (r : Int32) (G1 G2 : Mem), m_X8_back G a = some (r, G1) ∧ m_X9_back G1 a = some (r, G2) ∧ Inv G2
  rcases time_cases (M := 1) 1 rfl (by omega) a with ha | ⟨i, hi, rfl⟩
  · refine ⟨-1, G, upm G 81 0 0, ?_, ?_, hT⟩
    · unfold m_X8_back
      by_cases h0 : a < 0
      · rw [if_pos h0]
      · rw [if_neg h0, if_neg]
        have := ha.resolve_left h0
        rw [fa_lt] at this ⊢
        have e1 : ((1 : Int32)).toInt = 1 := by decide
        have e2 : ((2 : Int32)).toInt = 2 := by decide
        omega
    · unfold m_X9_back
      rw [in_no ha, if_pos rfl]
  have hi2 : i < 2 := by omega
  have hk8 : m_X0_isKept G (nI i) = (if kb.testBit i then 1 else 0) := by
    unfold m_X0_isKept
    rw [k2, bit4 kb k1 i hi2]
    exact (testBit_if rfl).2
  have hk9 : ald 2 (upm G 81 0 0) 86 (nI i) = some (if kb.testBit i then 1 else 0) := by
    rw [ald_nI hi2 (by omega)]
    exact congrArg some (k3 i hi2).1
  by_cases hb : kb.testBit i = true
  · obtain ⟨A, hw, hnc, hC, hR⟩ := (k3 i hi2).2 hb
    have h1 := hw.1
    rw [if_pos hb] at hk8 hk9
    have eC : RowC A ((upm (cpy G (21 + i) 0 2 0 74) 7 2 0) 2) := hC.congr hw (fun j hj => by
      rw [upm_n _ _ _ (by omega), cpy_in (by omega) (by omega)]; congr 1; omega)
    have eR : ∀ G', G' 85 = G 85 → RowR A (cpy G' 85 (74 * i) 82 0 74 82) := fun G' e => hR.congr hw (fun j hj => by
      rw [cpy_in (by omega) (by omega), e]; congr 1)
    refine ⟨nI A.ns, upm (cpy G (21 + i) 0 2 0 74) 7 2 0, upm (cpy (upm (upm (cpy G (21 + i) 0 2 0 74) 7 2 0) 81 0 0) 85 (74 * i) 82 0 74) 81 4 0, ?_, ?_, ?_⟩
    · unfold m_X8_back m_X0_restore m_X2_lose
      rw [if_neg (nI_pos (by omega)), if_pos (show nI i < (2 : Int32) from nI_lt (a := i) (b := 2) hi2 (by omega)), hk8, if_neg one_ne, if_neg (nI_pos (by omega)), if_neg (show ¬ (2 : Int32) ≤ nI i from nI_ge (a := i) (b := 2) hi2 (by omega)), aal_nI hi2 (by omega), Option.bind_some, copyFrom_eq G (by omega), Option.bind_some, Option.bind_some, c8_1 eC, Option.bind_some]
    · unfold m_X9_back
      have hk9' : ald 2 (upm (upm (cpy G (21 + i) 0 2 0 74) 7 2 0) 81 0 0) 86 (nI i) = some 1 := by
        rw [ald_nI hi2 (by omega), upm_n _ _ _ (by omega), upm_n _ _ _ (by omega), cpy_n (by omega)]
        have := (k3 i hi2).1
        rw [if_pos hb] at this
        exact congrArg some this
      rw [in_yes (nI_pos (by omega)) (show ¬ (1 : Int32) < nI i from nI_nlt (a := 1) (b := i) hi (by omega)), if_neg one_ne, hk9', Option.bind_some, if_neg one_ne, back30_eq hi2, Option.bind_some]
      rw [c9_1 (A := A) (by rw [upm_n _ _ _ (by omega)]; exact eR _ (by rw [upm_n _ _ _ (by omega), upm_n _ _ _ (by omega), cpy_n (by omega)])), Option.bind_some]
    · generalize hG2 : upm (cpy (upm (upm (cpy G (21 + i) 0 2 0 74) 7 2 0) 81 0 0) 85 (74 * i) 82 0 74) 81 4 0 = G2
      have ke : ∀ k, k ≠ 82 → k ≠ 81 → k ≠ 7 → k ≠ 2 → G2 k = G k := by
        intro k a1 a2 a3 a4
        rw [← hG2, upm_n _ _ _ a2, cpy_n a1, upm_n _ _ _ a2, upm_n _ _ _ a3, cpy_n a4]
      refine Inv.mk' (nc := nc) (G := G) ⟨A, hw, hnc, ?_, ?_⟩ ht ?_ ⟨kb, k1, k2, k3⟩ hz (fun k hk => ke k (by omega) (by omega) (by omega) (by omega)) (fun j j0 j4 => ?_)
      · have : G2 2 = (upm (cpy G (21 + i) 0 2 0 74) 7 2 0) 2 := by rw [← hG2, upm_n _ _ _ (by omega), cpy_n (by omega), upm_n _ _ _ (by omega)]
        rw [this]
        exact eC
      · have : G2 82 = cpy (upm (upm (cpy G (21 + i) 0 2 0 74) 7 2 0) 81 0 0) 85 (74 * i) 82 0 74 82 := by rw [← hG2, upm_n _ _ _ (by omega)]
        rw [this]
        exact eR _ (by rw [upm_n _ _ _ (by omega), upm_n _ _ _ (by omega), cpy_n (by omega)])
      · obtain ⟨nx, nu, u1, u2, u3, u4, u5, u6⟩ := hu
        refine ⟨nx, 0, u1, by omega, ?_, ?_, ?_, fun j hj => absurd hj (by omega)⟩
        · rw [← hG2, upm_n _ _ _ (by omega), cpy_n (by omega), upm_n _ _ _ (by omega), upm_kn _ _ _ (by omega), cpy_n (by omega)]
          exact u3
        · rw [← hG2, upm_n _ _ _ (by omega), cpy_n (by omega), upm_n _ _ _ (by omega), upm_kj]
          rfl
        · rw [← hG2, upm_kj]
          rfl
      · rw [← hG2, upm_kn _ _ _ j4, cpy_n (by omega), upm_kn _ _ _ j0, upm_n _ _ _ (by omega), cpy_n (by omega)]
  · rw [if_neg hb] at hk8 hk9
    refine ⟨-2, G, upm G 81 0 0, ?_, ?_, hT⟩
    · unfold m_X8_back
      rw [if_neg (nI_pos (by omega)), if_pos (show nI i < (2 : Int32) from nI_lt (a := i) (b := 2) hi2 (by omega)), hk8, if_pos rfl]
    · unfold m_X9_back
      rw [in_yes (nI_pos (by omega)) (show ¬ (1 : Int32) < nI i from nI_nlt (a := 1) (b := i) hi (by omega)), if_neg one_ne, hk9, Option.bind_some, if_pos rfl]
theorem st_9 (G : Mem) (a b c : Int32) (hI : Inv G) : ∃ (r : Int32) (G1 G2 : Mem), op8 9 G a b c = some (r, G1) ∧ op9 9 G1 a b c = some (r, G2) ∧ Inv G2 := by
  have hT := hI.keeps (keeps_thrown G)
  obtain ⟨nc, hp, ht, ⟨nx, nu, u1, u2, u3, u4, u5, u6⟩, hi0, hz⟩ := hI
  show ∃ (r : Int32) (G1 G2 : Mem), m_X8_undo G = some (r, G1) ∧ m_X9_undo G1 = some (r, G2) ∧ Inv G2
  by_cases hn : nu = 0
  · subst hn
    refine ⟨-2, G, upm G 81 0 0, ?_, ?_, hT⟩
    · unfold m_X8_undo m_X2_size
      rw [u4, if_pos (by decide)]
    · unfold m_X9_undo
      rw [if_pos (show (upm G 81 0 0) 81 4 = 0 from u5)]
  · have hne : ¬ nI nu = 0 := nI_ne0 (by omega) (by omega)
    have hlast : ((if nI nx ≤ 0 then some (10 - 1) else some (nI nx - 1)) : Option Int32) = some (nI ((nx + 9) % 10)) := by
      by_cases h0 : nx = 0
      · subst h0
        rw [if_pos (by decide)]
        decide
      · rw [if_neg (nI_nle (by omega) (by omega))]
        congr 1
        obtain ⟨y, rfl⟩ : ∃ y, nx = y + 1 := ⟨nx - 1, by omega⟩
        rw [nI_pred]
        congr 1
        omega
    obtain ⟨lx, hlx⟩ : ∃ lx, lx = (nx + 9) % 10 := ⟨_, rfl⟩
    rw [← hlx] at hlast
    have hl : lx < 10 := by omega
    have hp0 := u6 0 (by omega)
    obtain ⟨y, rfl⟩ : ∃ y, nu = y + 1 := ⟨nu - 1, by omega⟩
    have hy : y < 10 := by omega
    refine ⟨nI y, upm (upm (cpy G (9 + lx) 0 2 0 74) 7 1 (nI lx)) 7 2 (nI y), cpy (upm (upm (upm (upm (cpy G (9 + lx) 0 2 0 74) 7 1 (nI lx)) 7 2 (nI y)) 81 0 0) 81 4 (nI y)) 84 (74 * y) 82 0 74, ?_, ?_, ?_⟩
    · unfold m_X8_undo m_X2_size m_X2_restore
      rw [u4, if_neg hne, u3, hlast, Option.bind_some, if_neg (nI_nle (by omega) (by omega)), if_pos (show nI lx < (10 : Int32) from nI_lt (a := lx) (b := 10) hl (by omega)), aal_nI hl (by omega), Option.bind_some, copyFrom_eq G (by omega), Option.bind_some, Option.bind_some]
      have f : (upm (cpy G (9 + lx) 0 2 0 74) 7 1 (nI lx)) 7 2 - 1 = nI y := by rw [upm_kn _ _ _ (by omega), cpy_n (by omega), u4, nI_pred]
      rw [f, upm_kj]
    · unfold m_X9_undo
      have e : (upm (upm (upm (cpy G (9 + lx) 0 2 0 74) 7 1 (nI lx)) 7 2 (nI y)) 81 0 0) 81 4 = nI (y + 1) := by
        rw [upm_kn _ _ _ (by omega), upm_n _ _ _ (by omega), upm_n _ _ _ (by omega), cpy_n (by omega)]; exact u5
      rw [e, if_neg hne, nI_pred, undo27_eq hy (upm_kj _ _ _ _), Option.bind_some]
      congr 2
    · generalize hG2 : cpy (upm (upm (upm (upm (cpy G (9 + lx) 0 2 0 74) 7 1 (nI lx)) 7 2 (nI y)) 81 0 0) 81 4 (nI y)) 84 (74 * y) 82 0 74 = G2
      have ke : ∀ k, k ≠ 82 → k ≠ 81 → k ≠ 7 → k ≠ 2 → G2 k = G k := by
        intro k a1 a2 a3 a4
        rw [← hG2, cpy_n a1, upm_n _ _ _ a2, upm_n _ _ _ a2, upm_n _ _ _ a3, upm_n _ _ _ a3, cpy_n a4]
      refine Inv.mk' (nc := nc) (G := G) ?_ ht ⟨lx, y, hl, by omega, ?_, ?_, ?_, fun j hj => ?_⟩ hi0 hz (fun k hk => ke k (by omega) (by omega) (by omega) (by omega)) (fun j j0 j4 => ?_)
      · refine hp0.congr (fun j hj => ?_) (fun j hj => ?_)
        · rw [← hG2, cpy_n (by omega), upm_n _ _ _ (by omega), upm_n _ _ _ (by omega), upm_n _ _ _ (by omega), upm_n _ _ _ (by omega), cpy_in (by omega) (by omega), show (nx + 9 - 0) % 10 = lx by omega]
          congr 1
          omega
        · rw [← hG2, cpy_in (by omega) (by omega), upm_n _ _ _ (by omega), upm_n _ _ _ (by omega), upm_n _ _ _ (by omega), upm_n _ _ _ (by omega), cpy_n (by omega)]
          show G 84 _ = G 84 _
          congr 1
      · rw [← hG2, cpy_n (by omega), upm_n _ _ _ (by omega), upm_n _ _ _ (by omega), upm_kn _ _ _ (by omega), upm_kj]
      · rw [← hG2, cpy_n (by omega), upm_n _ _ _ (by omega), upm_n _ _ _ (by omega), upm_kj]
      · rw [← hG2, cpy_n (by omega), upm_kj]
      · have h6 := u6 (j + 1) (by omega)
        have er : (lx + 9 - j) % 10 = (nx + 9 - (j + 1)) % 10 := by omega
        rw [er, ke _ (by omega) (by omega) (by omega) (by omega), ke 84 (by omega) (by omega) (by omega) (by omega), show y - 1 - j = y + 1 - 1 - (j + 1) by omega]
        exact h6
      · rw [← hG2, cpy_n (by omega), upm_kn _ _ _ j4, upm_kn _ _ _ j0, upm_n _ _ _ (by omega), upm_n _ _ _ (by omega), cpy_n (by omega)]
/-- a row put in a cell's place -/
def setc (G : Mem) (k : Nat) (R : Nat → Int32) : Mem := fun k' => if k' = k then R else G k'
theorem setc_k (G : Mem) (k : Nat) (R : Nat → Int32) : setc G k R k = R := if_pos rfl
theorem setc_n (G : Mem) {k k' : Nat} (R : Nat → Int32) (h : k' ≠ k) : setc G k R k' = G k' := if_neg h
theorem upm_setc (G : Mem) (k : Nat) (R : Nat → Int32) (j : Nat) (x : Int32) : upm (setc G k R) k j x = setc G k (upd R j x) := by
  funext k'
  by_cases h : k' = k
  · subst h; rw [upm_k, setc_k, setc_k]
  · rw [upm_n _ _ _ h, setc_n _ _ h, setc_n _ _ h]
theorem upm_as (G : Mem) (k j : Nat) (x : Int32) : upm G k j x = setc G k (upd (G k) j x) := rfl
theorem setc_self (G : Mem) (k : Nat) : setc G k (G k) = G := by
  funext k'
  by_cases h : k' = k
  · subst h; exact setc_k _ _ _
  · exact setc_n _ _ h
theorem setc_setc (G : Mem) (k : Nat) (R R' : Nat → Int32) : setc (setc G k R) k R' = setc G k R' := by
  funext k'
  by_cases h : k' = k
  · subst h; rw [setc_k, setc_k]
  · rw [setc_n _ _ h, setc_n _ _ h, setc_n _ _ h]
/-- both have noted and then changed what is told -/
theorem Inv.change {G : Mem} {nc nx nu : Nat} (hp : Pair nc (G 2) (G 82)) (ht : TextOk G) (u1 : nx < 10) (u2 : nu ≤ 10)
    (u6 : ∀ j, j < nu → Pair nc (G (9 + (nx + 9 - j) % 10)) (fun i => G 84 (74 * (nu - 1 - j) + i))) (hi : ImgOk nc G) (hz : SeenOk nc G) {R' S' : Nat → Int32} (hp2 : Pair nc R' S') :
    Inv (setc (N9 (upm (setc (N8 G nx nu) 2 R') 81 0 0) nu) 82 S') := by
  generalize hG2 : setc (N9 (upm (setc (N8 G nx nu) 2 R') 81 0 0) nu) 82 S' = G2
  have ke : ∀ k, k ≠ 82 → k ≠ 81 → k ≠ 84 → k ≠ 2 → k ≠ 7 → k ≠ 9 + nx → G2 k = G k := by
    intro k a1 a2 a3 a4 a5 a6
    rw [← hG2, setc_n _ _ a1, N9_n a2 a3, upm_n _ _ _ a2, setc_n _ _ a4, N8_n a5 a6]
  have e2 : G2 2 = R' := by rw [← hG2, setc_n _ _ (by omega), N9_n (by omega) (by omega), upm_n _ _ _ (by omega), setc_k]
  have e82 : G2 82 = S' := by rw [← hG2, setc_k]
  have b82 : (upm (setc (N8 G nx nu) 2 R') 81 0 0) 82 = G 82 := by rw [upm_n _ _ _ (by omega), setc_n _ _ (by omega), N8_n (by omega) (by omega)]
  have b84 : (upm (setc (N8 G nx nu) 2 R') 81 0 0) 84 = G 84 := by rw [upm_n _ _ _ (by omega), setc_n _ _ (by omega), N8_n (by omega) (by omega)]
  have e7 : G2 7 = N8 G nx nu 7 := by rw [← hG2, setc_n _ _ (by omega), N9_n (by omega) (by omega), upm_n _ _ _ (by omega), setc_n _ _ (by omega)]
  have e84 : G2 84 = N9 (upm (setc (N8 G nx nu) 2 R') 81 0 0) nu 84 := by rw [← hG2, setc_n _ _ (by omega)]
  refine Inv.mk' (nc := nc) (G := G) (by rw [e2, e82]; exact hp2) ht (PastOk.noted (nx := nx) (nu := nu) u1 u2 hp u6 ?_ ?_ ?_ ?_ ?_ ?_ ?_) hi hz (fun k hk => ke k (by omega) (by omega) (by omega) (by omega) (by omega) (by omega)) (fun j j0 j4 => ?_)
  · rw [e7]; unfold N8; rw [upm_kn _ _ _ (by omega), upm_kj]
  · rw [e7]; unfold N8; rw [upm_kj]
  · rw [← hG2, setc_n _ _ (by omega)]
    unfold N9
    by_cases h : nu = 10
    · rw [if_pos h, upm_kj, if_neg (by omega)]
    · rw [if_neg h, upm_kj]
      by_cases h2 : nu + 1 < 10
      · rw [if_pos h2]
      · rw [if_neg h2, show nu + 1 = 10 by omega]
  · intro i hi'
    have e : G2 (9 + nx) = N8 G nx nu (9 + nx) := by rw [← hG2, setc_n _ _ (by omega), N9_n (by omega) (by omega), upm_n _ _ _ (by omega), setc_n _ _ (by omega)]
    rw [e]
    unfold N8
    rw [upm_n _ _ _ (by omega), upm_n _ _ _ (by omega), cpy_in (by omega) (by omega)]
    congr 1
    omega
  · intro k a1 a2 a3
    exact ke k (by omega) (by omega) (by omega) (by omega) (by omega) a3
  · intro h
    rw [e84]
    unfold N9
    rw [if_neg (by omega)]
    refine ⟨fun i hi' => ?_, fun i hi' => ?_⟩
    · rw [upm_n _ _ _ (by omega), cpy_in (by omega) (by omega), b82, show 0 + (74 * nu + i - 74 * nu) = i by omega]
    · rw [upm_n _ _ _ (by omega), cpy_out (by omega), b84]
  · intro h
    rw [e84]
    unfold N9
    rw [if_pos h]
    refine ⟨fun i hi' => ?_, fun i hi' => ?_⟩
    · rw [upm_n _ _ _ (by omega), cpy_in (by omega) (by omega), upm_n _ _ _ (by omega), cpy_n (by omega), b82, show 0 + (666 + i - 666) = i by omega]
    · rw [upm_n _ _ _ (by omega), cpy_out (by omega), upm_n _ _ _ (by omega), cpy_in (by omega) (by omega), b84]
      rfl
  · rw [← hG2, setc_n _ _ (by omega), N9_81 j4, upm_kn _ _ _ j0, setc_n _ _ (by omega), N8_n (by omega) (by omega)]
def Told.setTen (A : Told) (c t : Nat) : Told := (A.1, fun i => if i = c then t else A.ten i, A.2.2)
def Told.setLnk (A : Told) (c t : Nat) : Told := (A.1, A.2.1, fun i => if i = c then t else A.lnk i, A.2.2.2)
theorem setTen_ok {A : Told} (hw : WF A) {c t : Nat} (hc : c < A.nc) (ht : t < 8) {R S : Nat → Int32} (hC : RowC A R) (hR : RowR A S) : WF (A.setTen c t) ∧ RowC (A.setTen c t) (upd R (2 + c) (nI t)) ∧ RowR (A.setTen c t) (upd S (2 + 2 * c) (nI t)) := by
  have h1 := hw.1
  refine ⟨⟨hw.1, fun i hi => ⟨?_, (hw.2.1 i hi).2⟩, hw.2.2⟩, ⟨⟨?_, ?_⟩, fun i hi => ⟨?_, ?_⟩, fun k hk => ?_⟩, ⟨⟨?_, ?_⟩, fun i hi => ⟨?_, ?_⟩, fun k hk => ?_⟩⟩
  · show (if i = c then t else A.ten i) < 8
    split
    · exact ht
    · exact (hw.2.1 i hi).1
  · unfold upd; rw [if_neg (by omega)]; exact hC.1.1
  · unfold upd; rw [if_neg (by omega)]; exact hC.1.2
  · show upd R (2 + c) (nI t) (2 + i) = nI (if i = c then t else A.ten i)
    unfold upd
    by_cases e : i = c
    · rw [if_pos (by omega), if_pos e]
    · rw [if_neg (by omega), if_neg e]; exact (hC.2.1 i hi).1
  · have hi' : i < A.nc := hi
    unfold upd; rw [if_neg (by omega)]; exact (hC.2.1 i hi).2
  · have hk' : k < A.ns := hk
    unfold upd
    rw [if_neg (by omega), if_neg (by omega), if_neg (by omega), if_neg (by omega)]
    exact hC.2.2 k hk
  · unfold upd; rw [if_neg (by omega)]; exact hR.1.1
  · unfold upd; rw [if_neg (by omega)]; exact hR.1.2
  · show upd S (2 + 2 * c) (nI t) (2 + 2 * i) = nI (if i = c then t else A.ten i)
    unfold upd
    by_cases e : i = c
    · rw [if_pos (by omega), if_pos e]
    · rw [if_neg (by omega), if_neg e]; exact (hR.2.1 i hi).1
  · unfold upd; rw [if_neg (by omega)]; exact (hR.2.1 i hi).2
  · unfold upd
    rw [if_neg (by omega), if_neg (by omega), if_neg (by omega), if_neg (by omega)]
    exact hR.2.2 k hk
theorem setLnk_ok {A : Told} (hw : WF A) {c t : Nat} (hc : c < A.nc) (hc0 : c ≠ 0) (ht : t < 4) {R S : Nat → Int32} (hC : RowC A R) (hR : RowR A S) : WF (A.setLnk c t) ∧ RowC (A.setLnk c t) (upd R (10 + c) (nI t)) ∧ RowR (A.setLnk c t) (upd S (3 + 2 * c) (nI t)) := by
  have h1 := hw.1
  have key : ∀ i, (A.setLnk c t).lkI i = if i = c then nI t else A.lkI i := by
    intro i
    show (if i = 0 then -9 else nI (if i = c then t else A.lnk i)) = _
    unfold Told.lkI
    by_cases e : i = c
    · rw [if_pos e, if_pos e, if_neg (by omega)]
    · rw [if_neg e, if_neg e]
  refine ⟨⟨hw.1, fun i hi => ⟨(hw.2.1 i hi).1, ?_⟩, hw.2.2⟩, ⟨⟨?_, ?_⟩, fun i hi => ⟨?_, ?_⟩, fun k hk => ?_⟩, ⟨⟨?_, ?_⟩, fun i hi => ⟨?_, ?_⟩, fun k hk => ?_⟩⟩
  · show (if i = c then t else A.lnk i) < 4
    split
    · exact ht
    · exact (hw.2.1 i hi).2
  · unfold upd; rw [if_neg (by omega)]; exact hC.1.1
  · unfold upd; rw [if_neg (by omega)]; exact hC.1.2
  · have hi' : i < A.nc := hi
    unfold upd; rw [if_neg (by omega)]; exact (hC.2.1 i hi).1
  · rw [key]
    unfold upd
    by_cases e : i = c
    · rw [if_pos (by omega), if_pos e]
    · rw [if_neg (by omega), if_neg e]; exact (hC.2.1 i hi).2
  · have hk' : k < A.ns := hk
    unfold upd
    rw [if_neg (by omega), if_neg (by omega), if_neg (by omega), if_neg (by omega)]
    exact hC.2.2 k hk
  · unfold upd; rw [if_neg (by omega)]; exact hR.1.1
  · unfold upd; rw [if_neg (by omega)]; exact hR.1.2
  · unfold upd; rw [if_neg (by omega)]; exact (hR.2.1 i hi).1
  · rw [key]
    unfold upd
    by_cases e : i = c
    · rw [if_pos (by omega), if_pos e]
    · rw [if_neg (by omega), if_neg e]; exact (hR.2.1 i hi).2
  · unfold upd
    rw [if_neg (by omega), if_neg (by omega), if_neg (by omega), if_neg (by omega)]
    exact hR.2.2 k hk
theorem N8_2 {G : Mem} {nx nu : Nat} (h : nx < 10) : N8 G nx nu 2 = G 2 := N8_n (by omega) (by omega)
theorem st_7 (G : Mem) (a b c : Int32) (hI : Inv G) : ∃ (r : Int32) (G1 G2 : Mem), op8 7 G a b c = some (r, G1) ∧ op9 7 G1 a b c = some (r, G2) ∧ Inv G2 := by
  have hT := hI.keeps (keeps_thrown G)
  obtain ⟨nc, ⟨A, hw, hnc, hC, hR⟩, ht, ⟨nx, nu, u1, u2, u3, u4, u5, u6⟩, hi0, hz⟩ := hI
  have h1 := hw.1
  have hR' : RowR A ((upm G 81 0 0) 82) := hR
  show ∃ (r : Int32) (G1 G2 : Mem), m_X8_tenses G a b = some (r, G1) ∧ m_X9_tenses G1 a b = some (r, G2) ∧ Inv G2
  rcases below_cases A.nc rfl (by omega) a with ha | ⟨k, hk, rfl⟩
  · refine ⟨-1, G, upm G 81 0 0, ?_, ?_, hT⟩
    · unfold m_X8_tenses; rw [k8_no hw hC ha, Option.bind_some, if_pos rfl]
    · unfold m_X9_tenses; rw [k9_no hw hR' ha, Option.bind_some, if_pos rfl]
  rcases time_cases (M := 7) 7 rfl (by omega) b with hb | ⟨t, htt, rfl⟩
  · refine ⟨-1, G, upm G 81 0 0, ?_, ?_, hT⟩
    · unfold m_X8_tenses; rw [k8_yes hw hC hk, Option.bind_some, if_neg one_ne]
      by_cases h0 : b < 0
      · rw [if_pos h0]
      · rw [if_neg h0, if_neg]
        have := hb.resolve_left h0
        rw [fa_lt] at this ⊢
        have e1 : ((7 : Int32)).toInt = 7 := by decide
        have e2 : ((8 : Int32)).toInt = 8 := by decide
        omega
    · unfold m_X9_tenses; rw [k9_yes hw hR' hk, Option.bind_some, if_neg one_ne, in_no hb, if_pos rfl]
  have t1 : ¬ nI t < 0 := nI_pos (by omega)
  have t2 : nI t < (8 : Int32) := nI_lt (a := t) (b := 8) (by omega) (by omega)
  have t3 : ¬ (7 : Int32) < nI t := nI_nlt (a := 7) (b := t) htt (by omega)
  have ix : (2 : Int32) + 2 * nI k = nI (2 + 2 * k) := by rw [two_mul, show (2 : Int32) = nI 2 from rfl, nI_add]
  have g9 : ∀ G', G' 82 = G 82 → ald 74 G' 82 (2 + 2 * nI k) = some (nI (A.ten k)) := by
    intro G' e
    rw [ix, ald_nI (by omega) (by omega), e, (hR.2.1 k hk).1]
  by_cases hs : A.ten k = t
  · refine ⟨-2, G, upm G 81 0 0, ?_, ?_, hT⟩
    · unfold m_X8_tenses; rw [k8_yes hw hC hk, Option.bind_some, if_neg one_ne, if_neg t1, if_pos t2, tenseOf_eq hw hC hk, Option.bind_some, if_pos (by rw [hs])]
    · unfold m_X9_tenses m_X9_becomes; rw [k9_yes hw hR' hk, Option.bind_some, if_neg one_ne, in_yes t1 t3, if_neg one_ne, g9 (upm G 81 0 0) rfl, Option.bind_some, if_pos (by rw [hs])]; rfl
  · have hk8 := (hw.2.1 k hk).1
    have hne : ¬ nI (A.ten k) = nI t := fun e => hs ((nI_eq (by omega) (by omega)).mp e)
    obtain ⟨s1, s2, s3⟩ := setTen_ok hw hk (show t < 8 by omega) hC hR
    refine ⟨nI (A.ten k), setc (N8 G nx nu) 2 (upd (G 2) (2 + k) (nI t)), setc (N9 (upm (setc (N8 G nx nu) 2 (upd (G 2) (2 + k) (nI t))) 81 0 0) nu) 82 (upd (G 82) (2 + 2 * k) (nI t)), ?_, ?_, Inv.change ⟨A, hw, hnc, hC, hR⟩ ht u1 u2 u6 hi0 hz ⟨A.setTen k t, s1, hnc, s2, s3⟩⟩
    · unfold m_X8_tenses m_X6_setTense
      rw [k8_yes hw hC hk, Option.bind_some, if_neg one_ne, if_neg t1, if_pos t2, tenseOf_eq hw hC hk, Option.bind_some, if_neg hne, note_eq u1 u2 u3 u4, Option.bind_some, if_neg (nI_pos (by omega)), if_neg (show ¬ (8 : Int32) ≤ nI k from nI_ge (a := k) (b := 8) (by omega) (by omega)), show (2 : Int32) = nI 2 from rfl, nI_add, ast_nI (by omega) (by omega), Option.bind_some, Option.bind_some, upm_as, N8_2 u1]
    · unfold m_X9_tenses m_X9_becomes
      have hRa : RowR A ((upm (setc (N8 G nx nu) 2 (upd (G 2) (2 + k) (nI t))) 81 0 0) 82) := by rw [upm_n _ _ _ (by omega), setc_n _ _ (by omega), N8_n (by omega) (by omega)]; exact hR
      have e82 : (upm (setc (N8 G nx nu) 2 (upd (G 2) (2 + k) (nI t))) 81 0 0) 82 = G 82 := by rw [upm_n _ _ _ (by omega), setc_n _ _ (by omega), N8_n (by omega) (by omega)]
      have e4 : (upm (setc (N8 G nx nu) 2 (upd (G 2) (2 + k) (nI t))) 81 0 0) 81 4 = nI nu := by rw [upm_kn _ _ _ (by omega), setc_n _ _ (by omega), N8_n (by omega) (by omega)]; exact u5
      rw [k9_yes hw hRa hk, Option.bind_some, if_neg one_ne, in_yes t1 t3, if_neg one_ne, g9 _ e82, Option.bind_some, if_neg hne, notes_eq u2 e4, Option.bind_some, ix, ast_nI (by omega) (by omega), Option.bind_some, Option.bind_some, upm_as, N9_n (by omega) (by omega), e82]
theorem st_8 (G : Mem) (a b c : Int32) (hI : Inv G) : ∃ (r : Int32) (G1 G2 : Mem), op8 8 G a b c = some (r, G1) ∧ op9 8 G1 a b c = some (r, G2) ∧ Inv G2 := by
  have hT := hI.keeps (keeps_thrown G)
  obtain ⟨nc, ⟨A, hw, hnc, hC, hR⟩, ht, ⟨nx, nu, u1, u2, u3, u4, u5, u6⟩, hi0, hz⟩ := hI
  have h1 := hw.1
  have hR' : RowR A ((upm G 81 0 0) 82) := hR
  show ∃ (r : Int32) (G1 G2 : Mem), m_X8_links G a b = some (r, G1) ∧ m_X9_links G1 a b = some (r, G2) ∧ Inv G2
  rcases below_cases A.nc rfl (by omega) a with ha | ⟨k, hk, rfl⟩
  · refine ⟨-1, G, upm G 81 0 0, ?_, ?_, hT⟩
    · unfold m_X8_links; rw [k8_no hw hC ha, Option.bind_some, if_pos rfl]
    · unfold m_X9_links; rw [k9_no hw hR' ha, Option.bind_some, if_pos rfl]
  by_cases hk0 : k = 0
  · subst hk0
    refine ⟨-1, G, upm G 81 0 0, ?_, ?_, hT⟩
    · unfold m_X8_links; rw [k8_yes hw hC hk, Option.bind_some, if_neg one_ne, if_pos (by decide)]
    · unfold m_X9_links; rw [k9_yes hw hR' hk, Option.bind_some, if_neg one_ne, if_pos (by decide)]
  have q1 : ¬ nI k = 0 := nI_ne0 (by omega) (by omega)
  have q2 : ¬ nI k ≤ 0 := nI_nle (by omega) (by omega)
  rcases time_cases (M := 3) 3 rfl (by omega) b with hb | ⟨t, htt, rfl⟩
  · refine ⟨-1, G, upm G 81 0 0, ?_, ?_, hT⟩
    · unfold m_X8_links; rw [k8_yes hw hC hk, Option.bind_some, if_neg one_ne, if_neg q1]
      by_cases h0 : b < 0
      · rw [if_pos h0]
      · rw [if_neg h0, if_neg]
        have := hb.resolve_left h0
        rw [fa_lt] at this ⊢
        have e1 : ((3 : Int32)).toInt = 3 := by decide
        have e2 : ((4 : Int32)).toInt = 4 := by decide
        omega
    · unfold m_X9_links; rw [k9_yes hw hR' hk, Option.bind_some, if_neg one_ne, if_neg q2, in_no hb, if_pos rfl]
  have t1 : ¬ nI t < 0 := nI_pos (by omega)
  have t2 : nI t < (4 : Int32) := nI_lt (a := t) (b := 4) (by omega) (by omega)
  have t3 : ¬ (3 : Int32) < nI t := nI_nlt (a := 3) (b := t) htt (by omega)
  have ix : (2 : Int32) + 2 * nI k + 1 = nI (3 + 2 * k) := by
    rw [two_mul, show (2 : Int32) = nI 2 from rfl, nI_add, nI_1]
    congr 1
    omega
  have hlk : A.lkI k = nI (A.lnk k) := if_neg hk0
  have g9 : ∀ G', G' 82 = G 82 → ald 74 G' 82 (2 + 2 * nI k + 1) = some (nI (A.lnk k)) := by
    intro G' e
    rw [ix, ald_nI (by omega) (by omega), e, (hR.2.1 k hk).2, hlk]
  by_cases hs : A.lnk k = t
  · refine ⟨-2, G, upm G 81 0 0, ?_, ?_, hT⟩
    · unfold m_X8_links; rw [k8_yes hw hC hk, Option.bind_some, if_neg one_ne, if_neg q1, if_neg t1, if_pos t2, linkOf_eq hw hC hk, Option.bind_some, if_pos (by rw [hlk, hs])]
    · unfold m_X9_links m_X9_becomes; rw [k9_yes hw hR' hk, Option.bind_some, if_neg one_ne, if_neg q2, in_yes t1 t3, if_neg one_ne, g9 (upm G 81 0 0) rfl, Option.bind_some, if_pos (by rw [hs])]; rfl
  · have hk8 := (hw.2.1 k hk).2
    have hne : ¬ nI (A.lnk k) = nI t := fun e => hs ((nI_eq (by omega) (by omega)).mp e)
    obtain ⟨s1, s2, s3⟩ := setLnk_ok hw hk hk0 (show t < 4 by omega) hC hR
    refine ⟨nI (A.lnk k), setc (N8 G nx nu) 2 (upd (G 2) (10 + k) (nI t)), setc (N9 (upm (setc (N8 G nx nu) 2 (upd (G 2) (10 + k) (nI t))) 81 0 0) nu) 82 (upd (G 82) (3 + 2 * k) (nI t)), ?_, ?_, Inv.change ⟨A, hw, hnc, hC, hR⟩ ht u1 u2 u6 hi0 hz ⟨A.setLnk k t, s1, hnc, s2, s3⟩⟩
    · unfold m_X8_links m_X6_setLink
      rw [k8_yes hw hC hk, Option.bind_some, if_neg one_ne, if_neg q1, if_neg t1, if_pos t2, linkOf_eq hw hC hk, Option.bind_some, hlk, if_neg hne, note_eq u1 u2 u3 u4, Option.bind_some, if_neg (nI_pos (by omega)), if_neg (show ¬ (8 : Int32) ≤ nI k from nI_ge (a := k) (b := 8) (by omega) (by omega)), show (10 : Int32) = nI 10 from rfl, nI_add, ast_nI (by omega) (by omega), Option.bind_some, Option.bind_some, upm_as, N8_2 u1]
    · unfold m_X9_links m_X9_becomes
      have hRa : RowR A ((upm (setc (N8 G nx nu) 2 (upd (G 2) (10 + k) (nI t))) 81 0 0) 82) := by rw [upm_n _ _ _ (by omega), setc_n _ _ (by omega), N8_n (by omega) (by omega)]; exact hR
      have e82 : (upm (setc (N8 G nx nu) 2 (upd (G 2) (10 + k) (nI t))) 81 0 0) 82 = G 82 := by rw [upm_n _ _ _ (by omega), setc_n _ _ (by omega), N8_n (by omega) (by omega)]
      have e4 : (upm (setc (N8 G nx nu) 2 (upd (G 2) (10 + k) (nI t))) 81 0 0) 81 4 = nI nu := by rw [upm_kn _ _ _ (by omega), setc_n _ _ (by omega), N8_n (by omega) (by omega)]; exact u5
      rw [k9_yes hw hRa hk, Option.bind_some, if_neg one_ne, if_neg q2, in_yes t1 t3, if_neg one_ne, g9 _ e82, Option.bind_some, if_neg hne, notes_eq u2 e4, Option.bind_some, ix, ast_nI (by omega) (by omega), Option.bind_some, Option.bind_some, upm_as, N9_n (by omega) (by omega), e82]
