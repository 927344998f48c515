/-! ===== 18 step: reads, the reference's items and both together ===== -/
theorem rs_gen {tx : Nat → Nat} {nt : Nat} (hnt : nt ≤ 80) (htx : ∀ i, i < nt → tx i < 256) {A : Told} {G : Mem} (hw : WF A) (hT : T9 tx nt G) (hR : RowR A (G 83)) {s0 : Nat} (h0 : s0 < nt) (hs : tx s0 ≠ 32) :
    m_X9_readsSaying (upm G 81 13 (nI s0)) = (if tmI A.nc (tx s0) = -9 ∨ A.ns = A.nc + 6 then some (0, upm G 81 13 (nI s0)) else
      if sgI9 (lt9 tx nt (sk tx nt (s0 + 1))) = -9 then some (0, upm G 81 13 (nI (sk tx nt (s0 + 1)))) else
      if tmL tx nt A.nc (sk tx nt (sk tx nt (s0 + 1) + 1)) = -9 ∨ tmL tx nt A.nc (sk tx nt (sk tx nt (s0 + 1) + 1)) = tmI A.nc (tx s0) then some (0, upm G 81 13 (nI (sk tx nt (sk tx nt (s0 + 1) + 1)))) else
      some (1, upm (setc G 83 (addR (G 83) A.ns (-9) (tmI A.nc (tx s0)) (sgI9 (lt9 tx nt (sk tx nt (s0 + 1)))) (tmL tx nt A.nc (sk tx nt (sk tx nt (s0 + 1) + 1))))) 81 13 (nI (sk tx nt (sk tx nt (s0 + 1) + 1) + 1)))) := by
  have h1 := hw.1
  have hR' : ∀ x, RowR A ((upm G 81 13 x) 83) := fun x => by rw [upm_n _ _ _ (by omega)]; exact hR
  have e0 : sk tx nt s0 = s0 := sk_fix tx hs
  have l0 : lt9 tx nt s0 = nI (tx s0) := if_pos h0
  have hs1 := sk_le tx (show s0 + 1 ≤ nt by omega)
  unfold m_X9_readsSaying
  rw [here9 hnt htx hT (by omega), Option.bind_some, e0]
  dsimp only
  rw [l0, tm9_eq h1.1 (hR' _) (htx _ h0), Option.bind_some]
  by_cases z1 : tmI A.nc (tx s0) = -9
  · rw [if_pos z1, if_pos (Or.inl z1)]
  rw [if_neg z1, show (1 : Int32) = nI 1 from rfl, ald_nI (by omega) (by omega), Option.bind_some, show (0 : Int32) = nI 0 from rfl, ald_nI (by omega) (by omega), Option.bind_some, (hR' _).1.1, (hR' _).1.2, pk_sub h1.2.1]
  by_cases z2 : A.ns = A.nc + 6
  · rw [if_pos (show nI (A.ns - A.nc) = (6 : Int32) from (m9_sub (by omega)).mpr (by omega)), if_pos (Or.inr z2)]
  rw [if_neg (show ¬ nI (A.ns - A.nc) = (6 : Int32) from fun z => by have := (m9_sub (by omega)).mp z; omega), if_neg (fun z => z.elim z1 z2), upm_kj, nI_add, upm_upm, here9 hnt htx hT (by omega), Option.bind_some]
  generalize hj1 : sk tx nt (s0 + 1) = s1 at hs1
  have e1 : sk tx nt s1 = s1 := by
    by_cases q : s1 < nt
    · rw [← hj1] at q ⊢; exact sk_fix tx (sk_ns tx (by omega) q)
    · rw [show s1 = nt by omega, sk_nt]
  dsimp only
  have hsg : ((if lt9 tx nt s1 = 60 then some (tmI A.nc (tx s0), (0 : Int32), upm G 81 13 (nI s1)) else (m_X9_here (upm G 81 13 (nI s1))).bind (fun q_16 => (if q_16.1 = 61 then some (tmI A.nc (tx s0), (1 : Int32), q_16.2) else some (tmI A.nc (tx s0), (-9 : Int32), q_16.2)))) : Option (Int32 × Int32 × Mem)) = some (tmI A.nc (tx s0), sgI9 (lt9 tx nt s1), upm G 81 13 (nI s1)) := by
    unfold sgI9
    rw [here9 hnt htx hT (by omega), e1, Option.bind_some]
    dsimp only
    by_cases q1 : lt9 tx nt s1 = 60
    · rw [if_pos q1, if_pos q1]
    · rw [if_neg q1, if_neg q1]
      by_cases q2 : lt9 tx nt s1 = 61
      · rw [if_pos q2, if_pos q2]
      · rw [if_neg q2, if_neg q2]
  refine Eq.trans (congrArg (fun o => Option.bind o _) hsg) ?_
  rw [Option.bind_some]
  dsimp only
  by_cases z3 : sgI9 (lt9 tx nt s1) = -9
  · rw [if_pos z3, if_pos z3]
  have hs1' : s1 < nt := by
    by_cases q : s1 < nt
    · exact q
    · refine absurd ?_ z3
      have : lt9 tx nt s1 = -1 := if_neg q
      rw [this]; decide
  rw [if_neg z3, if_neg z3, upm_kj, nI_add, upm_upm, here9 hnt htx hT (by omega), Option.bind_some]
  dsimp only
  rw [tmL_eq htx h1.1 (hR' _), Option.bind_some]
  generalize sk tx nt (s1 + 1) = s2
  by_cases z4 : tmL tx nt A.nc s2 = -9
  · rw [if_pos z4, if_pos (Or.inl z4)]
  rw [if_neg z4]
  by_cases z5 : tmL tx nt A.nc s2 = tmI A.nc (tx s0)
  · rw [if_pos z5, if_pos (Or.inr z5)]
  rw [if_neg z5, if_neg (fun z => z.elim z4 z5), upm_kj, nI_add, upm_upm, adds_eq (hR' _) (by omega), Option.bind_some, setc_upm _ _ _ (by omega), upm_n _ _ _ (by omega)]
theorem rc_0 {tx : Nat → Nat} {nt : Nat} (hnt : nt ≤ 80) (htx : ∀ i, i < nt → tx i < 256) {A : Told} {G : Mem} (hw : WF A) (hT : T9 tx nt G) (hR : RowR A (G 83)) {s0 : Nat} (h0 : s0 < nt) (hs : tx s0 ≠ 32) (hn : A.nc = 0) :
    m_X9_readsClause (upm G 81 13 (nI s0)) = (if m_X9_tenseOf (nI (tx s0)) = -9 then some (0, upm G 81 13 (nI s0)) else some (1, upm (setc G 83 (addRC (G 83) A.nc A.ns (m_X9_tenseOf (nI (tx s0))) (-9))) 81 13 (nI (s0 + 1)))) := by
  have h1 := hw.1
  have hR' : ∀ x, RowR A ((upm G 81 13 x) 83) := fun x => by rw [upm_n _ _ _ (by omega)]; exact hR
  have e0 : sk tx nt s0 = s0 := sk_fix tx hs
  have l0 : lt9 tx nt s0 = nI (tx s0) := if_pos h0
  unfold m_X9_readsClause
  rw [show (0 : Int32) = nI 0 from rfl, ald_nI (by omega) (by omega), Option.bind_some, (hR' _).1.1, hn, if_pos (nI_le (Nat.le_refl 0) (by omega)), here9 hnt htx hT (by omega), Option.bind_some, e0]
  dsimp only
  rw [l0]
  by_cases z : m_X9_tenseOf (nI (tx s0)) = -9
  · rw [if_pos z, if_pos z]
  have t := cl_tail (G := upm G 81 13 (nI (s0 + 1))) (hR' _).1.1 (hR' _).1.2 (by omega) (by omega) (m_X9_tenseOf (nI (tx s0))) (-9)
  rw [setc_upm _ _ _ (by omega), upm_n G 13 (nI (s0 + 1)) (show 83 ≠ 81 by omega), hn] at t
  rw [if_neg z, if_neg z, upm_kj, nI_1, upm_upm]
  exact t
theorem rc_1 {tx : Nat → Nat} {nt : Nat} (hnt : nt ≤ 80) (htx : ∀ i, i < nt → tx i < 256) {A : Told} {G : Mem} (hw : WF A) (hT : T9 tx nt G) (hR : RowR A (G 83)) {s0 : Nat} (h0 : s0 < nt) (hs : tx s0 ≠ 32) (hn : A.nc ≠ 0) :
    m_X9_readsClause (upm G 81 13 (nI s0)) = (if m_X9_linkOf (nI (tx s0)) = -9 ∨ A.nc = 8 then some (0, upm G 81 13 (nI s0)) else if m_X9_tenseOf (lt9 tx nt (sk tx nt (s0 + 1))) = -9 then some (0, upm G 81 13 (nI (sk tx nt (s0 + 1)))) else
      some (1, upm (setc G 83 (addRC (G 83) A.nc A.ns (m_X9_tenseOf (lt9 tx nt (sk tx nt (s0 + 1)))) (m_X9_linkOf (nI (tx s0))))) 81 13 (nI (sk tx nt (s0 + 1) + 1)))) := by
  have h1 := hw.1
  have hR' : ∀ x, RowR A ((upm G 81 13 x) 83) := fun x => by rw [upm_n _ _ _ (by omega)]; exact hR
  have e0 : sk tx nt s0 = s0 := sk_fix tx hs
  have l0 : lt9 tx nt s0 = nI (tx s0) := if_pos h0
  unfold m_X9_readsClause
  rw [show (ald 74 (upm G 81 13 (nI s0)) 83 0) = some (nI A.nc) by rw [show (0 : Int32) = nI 0 from rfl, ald_nI (by omega) (by omega), (hR' _).1.1], Option.bind_some, if_neg (nI_nle (by omega) (by omega)), here9 hnt htx hT (by omega), Option.bind_some, e0]
  dsimp only
  rw [l0]
  by_cases z : m_X9_linkOf (nI (tx s0)) = -9
  · rw [if_pos z, if_pos (Or.inl z)]
  rw [if_neg z]
  by_cases z2 : A.nc = 8
  · rw [if_pos (by rw [z2]; rfl), if_pos (Or.inr z2)]
  rw [if_neg (show ¬ nI A.nc = (8 : Int32) from fun q => z2 ((nI_eq (a := A.nc) (b := 8) (by omega) (by omega)).mp q)), if_neg (fun q => q.elim z z2), upm_kj, nI_1, upm_upm, here9 hnt htx hT (by omega), Option.bind_some]
  dsimp only
  generalize sk tx nt (s0 + 1) = s1
  by_cases z3 : m_X9_tenseOf (lt9 tx nt s1) = -9
  · rw [if_pos z3, if_pos z3]
  have t := cl_tail (G := upm G 81 13 (nI (s1 + 1))) (hR' _).1.1 (hR' _).1.2 (by omega) (by omega) (m_X9_tenseOf (lt9 tx nt s1)) (m_X9_linkOf (nI (tx s0)))
  rw [setc_upm _ _ _ (by omega), upm_n G 13 (nI (s1 + 1)) (show 83 ≠ 81 by omega)] at t
  rw [if_neg z3, if_neg z3, upm_kj, nI_1, upm_upm]
  exact t
theorem it_no {v : Nat} (hv : v < 256) (h : ¬ (65 ≤ v ∧ v ≤ 90)) (P : Mem) : It9 v P = m_X9_readsClause P := by
  unfold It9
  rw [if_pos]
  by_cases h4 : v < 65
  · exact in_no (Or.inl (show nI v < (65 : Int32) from nI_lt (a := v) (b := 65) h4 (by omega)))
  · exact in_no (Or.inr (show (90 : Int32) < nI v from nI_lt (a := 90) (b := v) (by omega) (by omega)))
theorem it_yes {v : Nat} (hv : v < 256) (h : 65 ≤ v ∧ v ≤ 90) (P : Mem) : It9 v P = m_X9_readsSaying P := by
  unfold It9
  rw [in_yes (show ¬ nI v < (65 : Int32) from nI_nlt (a := v) (b := 65) (by omega) (by omega)) (show ¬ (90 : Int32) < nI v from nI_nlt (a := 90) (b := v) (by omega) (by omega)), if_neg one_ne]
theorem lt9_59 {tx : Nat → Nat} {nt j : Nat} (htx : ∀ i, i < nt → tx i < 256) : lt9 tx nt j = 59 ↔ j < nt ∧ tx j = 59 := by
  unfold lt9
  by_cases h : j < nt
  · rw [if_pos h]
    have := htx j h
    constructor
    · intro z; exact ⟨h, (nI_eq (a := tx j) (b := 59) (by omega) (by omega)).mp z⟩
    · intro z; rw [z.2]; rfl
  · rw [if_neg h]
    constructor
    · intro z; exact absurd z (by decide)
    · intro z; exact absurd z.1 h
theorem ten_m1 : m_X9_tenseOf (-1) = -9 := by decide
theorem sg_m1 : sgI9 (-1) = -9 := by decide
