/-! ===== 17 step: reads, letter by letter and item by item ===== -/
theorem d8_0 {A : Told} {G : Mem} (h : RowC A (G 4)) : m_X6_clauses G 3 = some (nI A.nc) := by
  unfold m_X6_clauses
  rw [show (0 : Int32) = nI 0 from rfl, ald_nI (by omega) (by omega), Option.bind_some]
  exact congrArg some h.1.1
theorem d8_1 {A : Told} {G : Mem} (h : RowC A (G 4)) : m_X6_statements G 3 = some (nI A.ns) := by
  unfold m_X6_statements
  rw [show (1 : Int32) = nI 1 from rfl, ald_nI (by omega) (by omega), Option.bind_some]
  exact congrArg some h.1.2
theorem d8_2 {A : Told} {G : Mem} (hw : WF A) (h : RowC A (G 4)) : m_X6_sayings G 3 = some (nI (A.ns - A.nc)) := by
  unfold m_X6_sayings
  rw [d8_1 h, Option.bind_some, d8_0 h, Option.bind_some, pk_sub hw.1.2.1]
theorem a01 : (0 : Int32) &&& 1 = 0 := by decide
theorem a11 : (1 : Int32) &&& 1 = 1 := by decide
theorem K8.u2 (G : Mem) {j j' : Nat} (x y : Int32) (hj : 2 ≤ j) (hj' : 2 ≤ j') : K8 G (upm (upm G 5 j x) 5 j' y) := (K8.up G x hj).tr (K8.up _ y hj')
theorem pa_bs {A : Told} {G : Mem} (hw : WF A) (hC : RowC A (G 4)) {v : Nat} (hv : v < 256) : m_X7_beginsSaying G (nI v) = some ((if tmI A.nc v = -9 ∨ A.ns = A.nc + 6 then 0 else 1), upm (upm G 5 5 (tmI A.nc v)) 5 2 2) := by
  have h1 := hw.1
  unfold m_X7_beginsSaying
  rw [tm8_eq h1.1 hC hv, Option.bind_some, upm_kn _ _ _ (by omega), upm_kj]
  by_cases h9 : tmI A.nc v = -9
  · rw [if_pos h9, if_pos (Or.inl h9)]
  rw [if_neg h9, d8_2 hw (by rw [upm_n _ _ _ (by omega), upm_n _ _ _ (by omega)]; exact hC), Option.bind_some]
  by_cases h6 : A.ns = A.nc + 6
  · rw [if_pos (show (6 : Int32) ≤ nI (A.ns - A.nc) from nI_le (a := 6) (b := A.ns - A.nc) (by omega) (by omega)), if_pos (Or.inr h6)]
  · rw [if_neg (show ¬ (6 : Int32) ≤ nI (A.ns - A.nc) from nI_ge (a := A.ns - A.nc) (b := 6) (by omega) (by omega)), if_neg (fun z => z.elim h9 h6)]
theorem pa_say {A : Told} {G : Mem} (hw : WF A) (hC : RowC A (G 4)) (h0 : G 5 2 = 0) {v : Nat} (hv : v < 256) (h9 : ¬ tmI A.nc v = -9) (h6 : ¬ A.ns = A.nc + 6) : ∃ G1, m_X7_passes G (nI v) = some (1, G1) ∧ K8 G G1 ∧ G1 4 = G 4 ∧ G1 5 2 = 2 ∧ G1 5 5 = tmI A.nc v := by
  refine ⟨upm (upm G 5 5 (tmI A.nc v)) 5 2 2, ?_, K8.u2 G _ _ (by omega) (by omega), by rw [upm_n _ _ _ (by omega), upm_n _ _ _ (by omega)], upm_kj _ _ _ _, by rw [upm_kn _ _ _ (by omega), upm_kj]⟩
  unfold m_X7_passes m_X7_beginsItem
  rw [if_pos h0, pa_bs hw hC hv, if_neg (fun z => z.elim h9 h6)]
  simp only [Option.bind_some, if_neg one_ne, a11]
theorem gt_eq {G : Mem} {v : Nat} (hv : v < 256) : (m_X9_tenseOf (nI v) = -9 ∧ ∃ G1, m_X7_givesTense G (nI v) = some (0, G1) ∧ K8 G G1) ∨ (∃ t, t < 8 ∧ m_X9_tenseOf (nI v) = nI t ∧ ∃ G1, m_X7_givesTense G (nI v) = some (1, G1) ∧ K8 G G1 ∧ G1 4 = G 4 ∧ G1 5 2 = 4 ∧ G1 5 4 = nI t ∧ G1 5 3 = G 5 3) := by
  unfold m_X7_givesTense
  rcases tense_of ⟨v, hv⟩ with ⟨h1, h2⟩ | ⟨t, h1, h2⟩
  · refine Or.inl ⟨h1, upm (upm G 5 4 (-1)) 5 2 4, ?_, K8.u2 G _ _ (by omega) (by omega)⟩
    simp only at h2
    rw [h2, Option.bind_some, upm_kn _ _ _ (by omega), upm_kj, if_pos (by decide)]
  · refine Or.inr ⟨t, t.2, h1, upm (upm G 5 4 (nI t)) 5 2 4, ?_, K8.u2 G _ _ (by omega) (by omega), by rw [upm_n _ _ _ (by omega), upm_n _ _ _ (by omega)], upm_kj _ _ _ _, by rw [upm_kn _ _ _ (by omega), upm_kj], by rw [upm_kn _ _ _ (by omega), upm_kn _ _ _ (by omega)]⟩
    simp only at h2
    have := t.2
    rw [h2, Option.bind_some, upm_kn _ _ _ (by omega), upm_kj, if_neg (nI_pos (by omega))]
theorem pa_cap {A : Told} {G : Mem} (hw : WF A) (hC : RowC A (G 4)) (h0 : G 5 2 = 0) {v : Nat} (hv : v < 256) (hcap : 65 ≤ v ∧ v ≤ 90) (h : tmI A.nc v = -9 ∨ A.ns = A.nc + 6) : ∃ G1, m_X7_passes G (nI v) = some (0, G1) ∧ K8 G G1 := by
  have h1 := hw.1
  obtain ⟨c1, c2⟩ := cap_no ⟨v, hv⟩ hcap
  simp only at c1 c2
  have hk := K8.u2 G (j := 5) (j' := 2) (tmI A.nc v) 2 (by omega) (by omega)
  have hC2 : RowC A ((upm (upm G 5 5 (tmI A.nc v)) 5 2 2) 4) := by rw [upm_n _ _ _ (by omega), upm_n _ _ _ (by omega)]; exact hC
  have hb := pa_bs hw hC hv
  rw [if_pos h] at hb
  unfold m_X7_passes m_X7_beginsItem
  rw [if_pos h0, hb, Option.bind_some, if_pos rfl]
  generalize upm (upm G 5 5 (tmI A.nc v)) 5 2 2 = Gs at hk hC2
  rw [d8_0 hC2, Option.bind_some]
  by_cases hn : A.nc = 0
  · rw [if_pos (by rw [hn]; rfl)]
    rcases gt_eq (G := upm Gs 5 3 (-9)) hv with ⟨_, G1, e, k⟩ | ⟨t, ht, z, _⟩
    · rw [e]
      exact ⟨G1, by simp only [Option.bind_some, a01], hk.tr ((K8.up Gs _ (by omega)).tr k)⟩
    · rw [c1] at z; exact absurd z.symm (m9_ne (by omega))
  · rw [if_neg (nI_ne0 (by omega) (by omega))]
    rcases link_of ⟨v, hv⟩ with ⟨_, h2⟩ | ⟨t, z, _⟩
    · simp only at h2
      rw [h2, Option.bind_some, upm_kn _ _ _ (by omega), upm_kj, if_pos (by decide)]
      exact ⟨upm (upm Gs 5 3 (-1)) 5 2 1, by simp only [Option.bind_some, a01], hk.tr (K8.u2 Gs (j := 3) (j' := 2) _ _ (by omega) (by omega))⟩
    · simp only at z; rw [c2] at z; have := t.2; exact absurd z.symm (m9_ne (by omega))
theorem pa_t0 {A : Told} {G : Mem} (hw : WF A) (hC : RowC A (G 4)) (h0 : G 5 2 = 0) (hn : A.nc = 0) {v : Nat} (hv : v < 256) (h9 : tmI A.nc v = -9) : (m_X9_tenseOf (nI v) = -9 ∧ ∃ G1, m_X7_passes G (nI v) = some (0, G1) ∧ K8 G G1) ∨ (∃ t, t < 8 ∧ m_X9_tenseOf (nI v) = nI t ∧ ∃ G1, m_X7_passes G (nI v) = some (1, G1) ∧ K8 G G1 ∧ G1 4 = G 4 ∧ G1 5 2 = 4 ∧ G1 5 4 = nI t ∧ G1 5 3 = -9) := by
  have hk := K8.u2 G (j := 5) (j' := 2) (tmI A.nc v) 2 (by omega) (by omega)
  have hC2 : RowC A ((upm (upm G 5 5 (tmI A.nc v)) 5 2 2) 4) := by rw [upm_n _ _ _ (by omega), upm_n _ _ _ (by omega)]; exact hC
  have e4 : (upm (upm G 5 5 (tmI A.nc v)) 5 2 2) 4 = G 4 := by rw [upm_n _ _ _ (by omega), upm_n _ _ _ (by omega)]
  have hb := pa_bs hw hC hv
  rw [if_pos (Or.inl h9)] at hb
  unfold m_X7_passes m_X7_beginsItem
  rw [if_pos h0, hb, Option.bind_some, if_pos rfl]
  generalize upm (upm G 5 5 (tmI A.nc v)) 5 2 2 = Gs at hk hC2 e4
  rw [d8_0 hC2, Option.bind_some, if_pos (by rw [hn]; rfl)]
  rcases gt_eq (G := upm Gs 5 3 (-9)) hv with ⟨a, G1, e, k⟩ | ⟨t, ht, a, G1, e, k, g1, g2, g3, g4⟩
  · rw [e]
    exact Or.inl ⟨a, G1, by simp only [Option.bind_some, a01], hk.tr ((K8.up Gs _ (by omega)).tr k)⟩
  · rw [e]
    refine Or.inr ⟨t, ht, a, G1, by simp only [Option.bind_some, a11], hk.tr ((K8.up Gs _ (by omega)).tr k), ?_, g2, g3, by rw [g4, upm_kj]⟩
    rw [g1, upm_n _ _ _ (by omega), e4]
theorem pa_link {A : Told} {G : Mem} (hw : WF A) (hC : RowC A (G 4)) (h0 : G 5 2 = 0) (hn : A.nc ≠ 0) {v : Nat} (hv : v < 256) (h9 : tmI A.nc v = -9) : ((m_X9_linkOf (nI v) = -9 ∨ A.nc = 8) ∧ ∃ G1, m_X7_passes G (nI v) = some (0, G1) ∧ K8 G G1) ∨ (∃ l, l < 4 ∧ A.nc < 8 ∧ m_X9_linkOf (nI v) = nI l ∧ ∃ G1, m_X7_passes G (nI v) = some (1, G1) ∧ K8 G G1 ∧ G1 4 = G 4 ∧ G1 5 2 = 1 ∧ G1 5 3 = nI l) := by
  have h1 := hw.1
  have hk := K8.u2 G (j := 5) (j' := 2) (tmI A.nc v) 2 (by omega) (by omega)
  have hC2 : RowC A ((upm (upm G 5 5 (tmI A.nc v)) 5 2 2) 4) := by rw [upm_n _ _ _ (by omega), upm_n _ _ _ (by omega)]; exact hC
  have e4 : (upm (upm G 5 5 (tmI A.nc v)) 5 2 2) 4 = G 4 := by rw [upm_n _ _ _ (by omega), upm_n _ _ _ (by omega)]
  have hb := pa_bs hw hC hv
  rw [if_pos (Or.inl h9)] at hb
  unfold m_X7_passes m_X7_beginsItem
  rw [if_pos h0, hb, Option.bind_some, if_pos rfl]
  generalize upm (upm G 5 5 (tmI A.nc v)) 5 2 2 = Gs at hk hC2 e4
  rw [d8_0 hC2, Option.bind_some, if_neg (nI_ne0 (by omega) (by omega))]
  rcases link_of ⟨v, hv⟩ with ⟨a, h2⟩ | ⟨t, a, h2⟩
  · simp only at h2 a
    rw [h2, Option.bind_some, upm_kn _ _ _ (by omega), upm_kj, if_pos (by decide)]
    exact Or.inl ⟨Or.inl a, upm (upm Gs 5 3 (-1)) 5 2 1, by simp only [Option.bind_some, a01], hk.tr (K8.u2 Gs (j := 3) (j' := 2) _ _ (by omega) (by omega))⟩
  · simp only at h2 a
    have ht := t.2
    have hC3 : ∀ x, RowC A ((upm (upm Gs 5 3 x) 5 2 1) 4) := fun x => by rw [upm_n _ _ _ (by omega), upm_n _ _ _ (by omega)]; exact hC2
    rw [h2, Option.bind_some, upm_kn _ _ _ (by omega), upm_kj, if_neg (nI_pos (by omega)), d8_0 (hC3 _), Option.bind_some]
    by_cases hn8 : A.nc = 8
    · rw [if_pos (show (8 : Int32) ≤ nI A.nc from nI_le (a := 8) (b := A.nc) (by omega) (by omega))]
      exact Or.inl ⟨Or.inr hn8, upm (upm Gs 5 3 (nI t)) 5 2 1, by simp only [Option.bind_some, a01], hk.tr (K8.u2 Gs (j := 3) (j' := 2) _ _ (by omega) (by omega))⟩
    · rw [if_neg (show ¬ (8 : Int32) ≤ nI A.nc from nI_ge (a := A.nc) (b := 8) (by omega) (by omega))]
      refine Or.inr ⟨t, ht, by omega, a, upm (upm Gs 5 3 (nI t)) 5 2 1, by simp only [Option.bind_some, a11], hk.tr (K8.u2 Gs _ _ (by omega) (by omega)), ?_, upm_kj _ _ _ _, by rw [upm_kn _ _ _ (by omega), upm_kj]⟩
      rw [upm_n _ _ _ (by omega), upm_n _ _ _ (by omega), e4]
theorem pa_tense {G : Mem} (h0 : G 5 2 = 1) {v : Nat} (hv : v < 256) : (m_X9_tenseOf (nI v) = -9 ∧ ∃ G1, m_X7_passes G (nI v) = some (0, G1) ∧ K8 G G1) ∨ (∃ t, t < 8 ∧ m_X9_tenseOf (nI v) = nI t ∧ ∃ G1, m_X7_passes G (nI v) = some (1, G1) ∧ K8 G G1 ∧ G1 4 = G 4 ∧ G1 5 2 = 4 ∧ G1 5 4 = nI t ∧ G1 5 3 = G 5 3) := by
  unfold m_X7_passes
  rw [h0, if_neg one_ne, if_pos rfl]
  rcases gt_eq (G := G) hv with ⟨a, G1, e, k⟩ | ⟨t, ht, a, G1, e, k⟩
  · rw [e]; exact Or.inl ⟨a, G1, by simp only [Option.bind_some, a01], k⟩
  · rw [e]; exact Or.inr ⟨t, ht, a, G1, by simp only [Option.bind_some, a11], k⟩
def sgI9 (x : Int32) : Int32 := if x = 60 then 0 else if x = 61 then 1 else -9
theorem pa_sign {G : Mem} (h0 : G 5 2 = 2) {v : Nat} (hv : v < 256) : (sgI9 (nI v) = -9 ∧ ∃ G1, m_X7_passes G (nI v) = some (0, G1) ∧ K8 G G1) ∨ (∃ t, t < 2 ∧ sgI9 (nI v) = nI t ∧ ∃ G1, m_X7_passes G (nI v) = some (1, G1) ∧ K8 G G1 ∧ G1 4 = G 4 ∧ G1 5 2 = 3 ∧ G1 5 6 = nI t ∧ G1 5 5 = G 5 5) := by
  have hs := sign_of ⟨v, hv⟩
  simp only at hs
  have key : ∀ x : Int32, x < 0 ∨ ¬ x < 0 → ∃ b, m_X7_givesSign G (nI v) = some (b, upm (upm G 5 6 (if nI v = 60 then 0 else if nI v = 61 then 1 else -1)) 5 2 3) ∧ b = if (if nI v = 60 then (0 : Int32) else if nI v = 61 then 1 else -1) < 0 then 0 else 1 := by
    intro x _
    unfold m_X7_givesSign
    rw [hs, Option.bind_some, upm_kn _ _ _ (by omega), upm_kj]
    by_cases z : (if nI v = 60 then (0 : Int32) else if nI v = 61 then 1 else -1) < 0
    · rw [if_pos z]; exact ⟨0, rfl, by rw [if_pos z]⟩
    · rw [if_neg z]; exact ⟨1, rfl, by rw [if_neg z]⟩
  obtain ⟨b, e, hb⟩ := key 0 (Or.inr (by decide))
  have hk : ∀ x, K8 G (upm (upm G 5 6 x) 5 2 3) := fun x => K8.u2 G _ _ (by omega) (by omega)
  have e4 : ∀ x, (upm (upm G 5 6 x) 5 2 3) 4 = G 4 := fun x => by rw [upm_n _ _ _ (by omega), upm_n _ _ _ (by omega)]
  have e6 : ∀ x, (upm (upm G 5 6 x) 5 2 3) 5 6 = x := fun x => by rw [upm_kn _ _ _ (by omega), upm_kj]
  have e5 : ∀ x, (upm (upm G 5 6 x) 5 2 3) 5 5 = G 5 5 := fun x => by rw [upm_kn _ _ _ (by omega), upm_kn _ _ _ (by omega)]
  have hp : m_X7_passes G (nI v) = some (b &&& 1, upm (upm G 5 6 (if nI v = 60 then 0 else if nI v = 61 then 1 else -1)) 5 2 3) := by
    unfold m_X7_passes
    rw [h0, if_neg (by decide), if_neg (by decide), if_pos rfl, e]
    rfl
  rw [hp]
  unfold sgI9
  by_cases z1 : nI v = 60
  · rw [if_pos z1, if_neg (by decide)] at hb
    simp only [if_pos z1]
    exact Or.inr ⟨0, by omega, rfl, upm (upm G 5 6 0) 5 2 3, by rw [hb, a11], hk _, e4 _, upm_kj _ _ _ _, e6 _, e5 _⟩
  · by_cases z2 : nI v = 61
    · rw [if_neg z1, if_pos z2, if_neg (by decide)] at hb
      simp only [if_neg z1, if_pos z2]
      exact Or.inr ⟨1, by omega, rfl, upm (upm G 5 6 1) 5 2 3, by rw [hb, a11], hk _, e4 _, upm_kj _ _ _ _, e6 _, e5 _⟩
    · rw [if_neg z1, if_neg z2, if_pos (by decide)] at hb
      simp only [if_neg z1, if_neg z2]
      exact Or.inl ⟨trivial, upm (upm G 5 6 (-1)) 5 2 3, by rw [hb, a01], hk _⟩
theorem pa_sec {A : Told} {G : Mem} (hw : WF A) (hC : RowC A (G 4)) (h0 : G 5 2 = 3) {v : Nat} (hv : v < 256) : ((tmI A.nc v = -9 ∨ tmI A.nc v = G 5 5) ∧ ∃ G1, m_X7_passes G (nI v) = some (0, G1) ∧ K8 G G1) ∨ (¬ tmI A.nc v = -9 ∧ ¬ tmI A.nc v = G 5 5 ∧ ∃ G1, m_X7_passes G (nI v) = some (1, G1) ∧ K8 G G1 ∧ G1 4 = G 4 ∧ G1 5 2 = 5 ∧ G1 5 7 = tmI A.nc v ∧ G1 5 5 = G 5 5 ∧ G1 5 6 = G 5 6) := by
  have h1 := hw.1
  unfold m_X7_passes m_X7_givesSecond
  have hk : K8 G (upm (upm G 5 7 (tmI A.nc v)) 5 2 5) := K8.u2 G _ _ (by omega) (by omega)
  have e7 : (upm (upm G 5 7 (tmI A.nc v)) 5 2 5) 5 7 = tmI A.nc v := by rw [upm_kn _ _ _ (by omega), upm_kj]
  have e5 : (upm (upm G 5 7 (tmI A.nc v)) 5 2 5) 5 5 = G 5 5 := by rw [upm_kn _ _ _ (by omega), upm_kn _ _ _ (by omega)]
  have e6 : (upm (upm G 5 7 (tmI A.nc v)) 5 2 5) 5 6 = G 5 6 := by rw [upm_kn _ _ _ (by omega), upm_kn _ _ _ (by omega)]
  have e4 : (upm (upm G 5 7 (tmI A.nc v)) 5 2 5) 4 = G 4 := by rw [upm_n _ _ _ (by omega), upm_n _ _ _ (by omega)]
  have e2 : (upm (upm G 5 7 (tmI A.nc v)) 5 2 5) 5 2 = 5 := upm_kj _ _ _ _
  rw [h0, if_neg (by decide), if_neg (by decide), if_neg (by decide), if_pos rfl, tm8_eq h1.1 hC hv, Option.bind_some]
  generalize upm (upm G 5 7 (tmI A.nc v)) 5 2 5 = Gs at hk e7 e5 e6 e4 e2
  rw [e7, e5]
  by_cases z1 : tmI A.nc v = -9
  · rw [if_pos z1]; exact Or.inl ⟨Or.inl z1, _, by simp only [Option.bind_some, a01], hk⟩
  rw [if_neg z1]
  by_cases z2 : tmI A.nc v = G 5 5
  · rw [if_pos z2]; exact Or.inl ⟨Or.inr z2, _, by simp only [Option.bind_some, a01], hk⟩
  rw [if_neg z2]
  exact Or.inr ⟨z1, z2, _, by simp only [Option.bind_some, a11], hk, e4, e2, e7, e5, e6⟩
theorem pa_end_no {G : Mem} (h0 : G 5 2 = 4 ∨ G 5 2 = 5) {v : Nat} (hv : v < 256) (h : v ≠ 59) : m_X7_passes G (nI v) = some (0, G) := by
  have h59 : ¬ nI v = (59 : Int32) := fun z => h ((nI_eq (a := v) (b := 59) (by omega) (by omega)).mp z)
  unfold m_X7_passes m_X7_endsItem
  rcases h0 with h0 | h0 <;> rw [h0, if_neg (by decide), if_neg (by decide), if_neg (by decide), if_neg (by decide), if_neg h59] <;> simp only [Option.bind_some, a01]
theorem pa_end_s {A : Told} {G : Mem} (hw : WF A) (hC : RowC A (G 4)) (h0 : G 5 2 = 5) (h14 : A.ns < 14) : ∃ G1, m_X7_passes G (nI 59) = some (1, G1) ∧ K8 G G1 ∧ G1 4 = addC (G 4) A.ns (-9) (G 5 5) (G 5 6) (G 5 7) ∧ G1 5 2 = 0 := by
  refine ⟨upm (setc G 4 (addC (G 4) A.ns (-9) (G 5 5) (G 5 6) (G 5 7))) 5 2 0, ?_, (K8.se G _).tr (K8.up _ _ (by omega)), by rw [upm_n _ _ _ (by omega), setc_k], upm_kj _ _ _ _⟩
  unfold m_X7_passes m_X7_endsItem m_X6_addSaying
  rw [h0, if_neg (by decide), if_neg (by decide), if_neg (by decide), if_neg (by decide), if_pos (by decide), if_neg (by decide), addStatement_eq (A := A) h14 (d8_1 hC)]
  simp only [Option.bind_some, a11]
theorem pa_end_c {A : Told} {G : Mem} (hw : WF A) (hC : RowC A (G 4)) (h0 : G 5 2 = 4) (h8 : A.nc < 8) : ∃ G1, m_X7_passes G (nI 59) = some (1, G1) ∧ K8 G G1 ∧ G1 4 = addCC (G 4) A.nc A.ns (G 5 4) (G 5 3) ∧ G1 5 2 = 0 := by
  have h1 := hw.1
  refine ⟨upm (setc G 4 (addCC (G 4) A.nc A.ns (G 5 4) (G 5 3))) 5 2 0, ?_, (K8.se G _).tr (K8.up _ _ (by omega)), by rw [upm_n _ _ _ (by omega), setc_k], upm_kj _ _ _ _⟩
  unfold m_X7_passes m_X7_endsItem m_X6_addClause m_X6_setTense m_X6_setLink
  rw [h0, if_neg (by decide), if_neg (by decide), if_neg (by decide), if_neg (by decide), if_pos (by decide), if_pos rfl, d8_0 hC, Option.bind_some, if_pos (show nI A.nc < (8 : Int32) from nI_lt (a := A.nc) (b := 8) h8 (by omega)), if_neg (nI_pos (by omega)), if_neg (show ¬ (8 : Int32) ≤ nI A.nc from nI_ge (a := A.nc) (b := 8) h8 (by omega))]
  rw [show (2 : Int32) = nI 2 from rfl, nI_add, ast_nI (by omega) (by omega), Option.bind_some, Option.bind_some, if_neg (nI_pos (by omega)), if_neg (show ¬ (8 : Int32) ≤ nI A.nc from nI_ge (a := A.nc) (b := 8) h8 (by omega)), show (10 : Int32) = nI 10 from rfl, nI_add, ast_nI (by omega) (by omega), Option.bind_some, Option.bind_some, show ((0 : Int32)) = nI 0 from rfl, ast_nI (by omega) (by omega), Option.bind_some, nI_1, upm_as G, upm_setc, upm_setc]
  have hs : m_X6_statements (setc G (3 + 1) (upd (upd (upd (G (3 + 1)) (2 + A.nc) (G 5 4)) (10 + A.nc) (G 5 3)) 0 (nI (A.nc + 1)))) 3 = some (nI A.ns) := by
    unfold m_X6_statements
    rw [show (1 : Int32) = nI 1 from rfl, ald_nI (by omega) (by omega), Option.bind_some, setc_k]
    unfold upd
    rw [if_neg (by omega), if_neg (by omega), if_neg (by omega)]
    exact congrArg some hC.1.2
  rw [addStatement_eq (A := A) (by omega) hs, setc_setc, setc_k]
  simp only [Option.bind_some, a11]
  rfl
/-! the reference's items -/
def tmL (tx : Nat → Nat) (nt n j : Nat) : Int32 := if j < nt then tmI n (tx j) else -9
theorem tmL_eq {tx : Nat → Nat} {nt : Nat} (htx : ∀ i, i < nt → tx i < 256) {A : Told} {G : Mem} (h8 : A.nc ≤ 8) (h : RowR A (G 83)) (j : Nat) : m_X9_timeOf G (lt9 tx nt j) = some (tmL tx nt A.nc j) := by
  unfold lt9 tmL
  by_cases hj : j < nt
  · rw [if_pos hj, if_pos hj, tm9_eq h8 h (htx j hj)]
  · rw [if_neg hj, if_neg hj, tm9_m1 h8 h]
theorem m9_sub {n : Nat} (h : n ≤ 14) : nI n = (6 : Int32) ↔ n = 6 := nI_eq (a := n) (b := 6) (by omega) (by omega)
theorem adds_n {n : Nat} {G : Mem} (e1 : G 83 1 = nI n) (h14 : n < 14) (c p s q : Int32) : m_X9_adds G c p s q = some (setc G 83 (addR (G 83) n c p s q)) := by
  unfold m_X9_adds
  rw [show (1 : Int32) = nI 1 from rfl, ald_nI (by omega) (by omega), Option.bind_some, e1]
  rw [show (18 : Int32) + 4 * nI n = nI (18 + 4 * n) by rw [show (4 : Int32) = nI 4 from rfl, pk_mul, show (18 : Int32) = nI 18 from rfl, nI_add], show (2 : Int32) = nI 2 from rfl, show (3 : Int32) = nI 3 from rfl, nI_add, nI_add, nI_add]
  rw [ast_nI (by omega) (by omega), Option.bind_some, ast_nI (by omega) (by omega), Option.bind_some, ast_nI (by omega) (by omega), Option.bind_some, ast_nI (by omega) (by omega), Option.bind_some, upm_as G, upm_setc, upm_setc, upm_setc]
  rw [show 18 + 4 * n + 1 = 19 + 4 * n by omega, show 18 + 4 * n + 2 = 20 + 4 * n by omega, show 18 + 4 * n + 3 = 21 + 4 * n by omega]
  rw [ald_nI (by omega) (by omega), Option.bind_some, setc_k]
  have q1 : upd (upd (upd (upd (G 83) (18 + 4 * n) c) (19 + 4 * n) p) (20 + 4 * n) s) (21 + 4 * n) q 1 = nI n := by
    unfold upd
    rw [if_neg (by omega), if_neg (by omega), if_neg (by omega), if_neg (by omega)]
    exact e1
  rw [q1, nI_add, ast_nI (by omega) (by omega), Option.bind_some, upm_setc]
  rfl
theorem adds_eq {A : Told} {G : Mem} (hR : RowR A (G 83)) (h14 : A.ns < 14) (c p s q : Int32) : m_X9_adds G c p s q = some (setc G 83 (addR (G 83) A.ns c p s q)) := adds_n hR.1.2 h14 c p s q
theorem cl_tail {G : Mem} {nc ns : Nat} (e0 : G 83 0 = nI nc) (e1 : G 83 1 = nI ns) (h8 : nc < 8) (h14 : ns < 14) (T Lk : Int32) :
    (ast 74 G 83 (2 + (2 * nI nc)) T).bind (fun q_5 => (ast 74 q_5 83 ((2 + (2 * nI nc)) + 1) Lk).bind (fun q_6 => (m_X9_adds q_6 (nI nc) (-9) (-9) (-9)).bind (fun q_7 => (ald 74 q_7 83 0).bind (fun r_8 => (ast 74 q_7 83 0 (r_8 + 1)).bind (fun q_9 => some ((1 : Int32), q_9)))))) = some (1, setc G 83 (addRC (G 83) nc ns T Lk)) := by
  rw [two_mul, show (2 : Int32) = nI 2 from rfl, nI_add, nI_1, ast_nI (by omega) (by omega), Option.bind_some, ast_nI (by omega) (by omega), Option.bind_some, upm_as G, upm_setc, show 2 + 2 * nc + 1 = 3 + 2 * nc by omega]
  rw [adds_n (n := ns) (by rw [setc_k]; unfold upd; rw [if_neg (by omega), if_neg (by omega)]; exact e1) h14, Option.bind_some, setc_setc, setc_k, show (0 : Int32) = nI 0 from rfl, ald_nI (by omega) (by omega), Option.bind_some, setc_k]
  have q0 : addR (upd (upd (G 83) (2 + 2 * nc) T) (3 + 2 * nc) Lk) ns (nI nc) (-9) (-9) (-9) 0 = nI nc := by
    unfold addR upd
    rw [if_neg (by omega), if_neg (by omega), if_neg (by omega), if_neg (by omega), if_neg (by omega), if_neg (by omega), if_neg (by omega)]
    exact e0
  rw [q0, nI_1, ast_nI (by omega) (by omega), Option.bind_some, upm_setc]
  rfl
