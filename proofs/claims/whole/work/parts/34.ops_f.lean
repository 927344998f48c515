/-! ===== 34 steps: orders, left, best ===== -/
theorem st_15 (G : Mem) (a b c : Int32) (hI : Inv G) : ∃ (r : Int32) (G1 G2 : Mem), op8 15 G a b c = some (r, G1) ∧ op9 15 G1 a b c = some (r, G2) ∧ Inv G2 := by
  have hI' := hI
  obtain ⟨nc, ⟨A, hw, hnc, hC, hR⟩, ht, hu, hi, hz⟩ := hI
  show ∃ (r : Int32) (G1 G2 : Mem), m_X8_orders G = some (r, G1) ∧ m_X9_orders G1 = some (r, G2) ∧ Inv G2
  obtain ⟨G1, G2, e1, e2, k1, k2, t, o, rm⟩ := tally8 hw hC hR
  have hR1 : RowR A ((upm G1 81 0 0) 82) := by rw [upm_n _ _ _ (by omega), k1 82 (by omega)]; exact hR
  obtain ⟨G3, e3, k3⟩ := ord9 hw hR1 (p := 0) (q := 0) (s := none) (by omega) (by omega) (fun x h => by simp at h)
  have e4 : m_X9_ordersWith (upm G1 81 0 0) 0 (-9) 0 = some (nI (OW (H0 A) A.nc), G3) := e3
  refine ⟨nI (OW (H0 A) A.nc), G1, G3, ?_, ?_, hI'.keeps (Keeps_q k1 k3)⟩
  · unfold m_X8_orders m_X5_all; rw [e1, Option.bind_some, t]
  · unfold m_X9_orders; rw [e4, Option.bind_some]
theorem three_two {c : Int32} (h : c < 0 ∨ (3 : Int32) ≤ c) : c < 0 ∨ (2 : Int32) < c := by
  rcases h with h | h
  · exact Or.inl h
  · right
    rw [fa_le] at h
    rw [fa_lt]
    have e3 : ((3 : Int32)).toInt = 3 := by decide
    have e2 : ((2 : Int32)).toInt = 2 := by decide
    omega
theorem st_16 (G : Mem) (a b c : Int32) (hI : Inv G) : ∃ (r : Int32) (G1 G2 : Mem), op8 16 G a b c = some (r, G1) ∧ op9 16 G1 a b c = some (r, G2) ∧ Inv G2 := by
  have hI' := hI
  have hT := hI.keeps (keeps_thrown G)
  obtain ⟨nc, ⟨A, hw, hnc, hC, hR⟩, ht, hu, hi, hz⟩ := hI
  have h1 := hw.1
  have hR' : RowR A ((upm G 81 0 0) 82) := hR
  show ∃ (r : Int32) (G1 G2 : Mem), m_X8_left G a b c = some (r, G1) ∧ m_X9_left G1 a b c = some (r, G2) ∧ Inv G2
  rcases below_cases A.nc rfl (by omega) a with ha | ⟨i, hi1, rfl⟩
  · refine ⟨-1, G, upm G 81 0 0, ?_, ?_, hT⟩
    · unfold m_X8_left; rw [k8_no hw hC ha, Option.bind_some, if_pos rfl]
    · unfold m_X9_left; rw [k9_no hw hR' ha, Option.bind_some, if_pos rfl]
  rcases below_cases A.nc rfl (by omega) b with hb | ⟨j, hj1, rfl⟩
  · refine ⟨-1, G, upm G 81 0 0, ?_, ?_, hT⟩
    · unfold m_X8_left; rw [k8_yes hw hC hi1, Option.bind_some, if_neg one_ne, k8_no hw hC hb, Option.bind_some, if_pos rfl]
    · unfold m_X9_left; rw [k9_yes hw hR' hi1, Option.bind_some, if_neg one_ne, k9_no hw hR' hb, Option.bind_some, if_pos rfl]
  by_cases hij : i = j
  · refine ⟨-1, G, upm G 81 0 0, ?_, ?_, hT⟩
    · unfold m_X8_left; rw [k8_yes hw hC hi1, Option.bind_some, if_neg one_ne, k8_yes hw hC hj1, Option.bind_some, if_neg one_ne, if_pos (by rw [hij])]
    · unfold m_X9_left; rw [k9_yes hw hR' hi1, Option.bind_some, if_neg one_ne, k9_yes hw hR' hj1, Option.bind_some, if_neg one_ne, if_pos (by rw [hij])]
  have hne : ¬ nI i = nI j := fun z => hij ((nI_eq (by omega) (by omega)).mp z)
  rcases below_cases (M := 3) 3 rfl (by omega) c with hc | ⟨t, ht1, rfl⟩
  · refine ⟨-1, G, upm G 81 0 0, ?_, ?_, hT⟩
    · unfold m_X8_left; rw [k8_yes hw hC hi1, Option.bind_some, if_neg one_ne, k8_yes hw hC hj1, Option.bind_some, if_neg one_ne, if_neg hne]
      by_cases h0 : c < 0
      · rw [if_pos h0]
      · rw [if_neg h0, if_neg (Int32.not_lt.mpr (hc.resolve_left h0))]
    · unfold m_X9_left; rw [k9_yes hw hR' hi1, Option.bind_some, if_neg one_ne, k9_yes hw hR' hj1, Option.bind_some, if_neg one_ne, if_neg hne, in_no (three_two hc), if_pos rfl]
  obtain ⟨G1, G2, e1, e2, k1, k2, _, o, rm⟩ := tally8 hw hC hR
  have hR1 : RowR A ((upm G2 81 0 0) 82) := by rw [upm_n _ _ _ (by omega), k2 82 (by omega)]; exact hR
  obtain ⟨G3, e3, k3⟩ := leftBy9 hw hR1 hi1 hj1 ht1
  refine ⟨nI (OW (ansH i j t ++ H0 A) A.nc), G2, G3, ?_, ?_, hI'.keeps (Keeps_q k2 k3)⟩
  · unfold m_X8_left
    rw [k8_yes hw hC hi1, Option.bind_some, if_neg one_ne, k8_yes hw hC hj1, Option.bind_some, if_neg one_ne, if_neg hne, if_neg (nI_pos (by omega)), if_pos (show nI t < (3 : Int32) from nI_lt (b := 3) ht1 (by omega)), e1, Option.bind_some, e2, Option.bind_some, rm i j t hi1 hj1 ht1, Option.bind_some]
  · unfold m_X9_left
    rw [k9_yes hw hR1 hi1, Option.bind_some, if_neg one_ne, k9_yes hw hR1 hj1, Option.bind_some, if_neg one_ne, if_neg hne, in_yes (nI_pos (by omega)) (show ¬ (2 : Int32) < nI t from nI_nlt (a := 2) (by omega) (by omega)), if_neg one_ne, e3, Option.bind_some]
/-! best -/
abbrev Bst : Type := Option (Nat × Nat × Nat)
noncomputable def bst (V : Nat → Nat → Prop) (Wt : Nat → Nat → Nat) (σ : Bst) (a b : Nat) : Bst := @ite _ (V a b) (Classical.propDecidable _) (match σ with | none => some (a, b, Wt a b) | some (a0, b0, w0) => if w0 ≤ Wt a b then some (a0, b0, w0) else some (a, b, Wt a b)) σ
noncomputable def bsF (V : Nat → Nat → Prop) (Wt : Nat → Nat → Nat) (a : Nat) : Nat → Nat → Bst → Bst
  | 0, _, σ => σ
  | d + 1, x, σ => bsF V Wt a d (x + 1) (bst V Wt σ a x)
noncomputable def bsO (V : Nat → Nat → Prop) (Wt : Nat → Nat → Nat) (nc : Nat) : Nat → Nat → Bst → Bst
  | 0, _, σ => σ
  | d + 1, x, σ => bsO V Wt nc d (x + 1) (bsF V Wt x (nc - (x + 1)) (x + 1) σ)
theorem bst_no {V : Nat → Nat → Prop} {Wt : Nat → Nat → Nat} {a b : Nat} (z : V a b) : bst V Wt none a b = some (a, b, Wt a b) := if_pos z
theorem bst_le {V : Nat → Nat → Prop} {Wt : Nat → Nat → Nat} {a b a0 b0 w0 : Nat} (z : V a b) (y : w0 ≤ Wt a b) : bst V Wt (some (a0, b0, w0)) a b = some (a0, b0, w0) := (if_pos z).trans (if_pos y)
theorem bst_gt {V : Nat → Nat → Prop} {Wt : Nat → Nat → Nat} {a b a0 b0 w0 : Nat} (z : V a b) (y : ¬ w0 ≤ Wt a b) : bst V Wt (some (a0, b0, w0)) a b = some (a, b, Wt a b) := (if_pos z).trans (if_neg y)
theorem if3 {β : Type} (p : Int32) (u v w : β) : ((if p = 0 then some u else (if p = 1 then some v else some w)) : Option β) = some (if p = 0 then u else if p = 1 then v else w) := by
  split
  · rfl
  · split <;> rfl
def bs1 (σ : Bst) : Int32 := match σ with | none => -9 | some (a, _, _) => nI a
def bs2 (σ : Bst) : Int32 := match σ with | none => -9 | some (_, b, _) => nI b
def bs3 (σ : Bst) : Int32 := match σ with | none => -9 | some (_, _, w) => nI w
def rs2 (σ : Bst) : Int32 := match σ with | none => -1 | some (_, _, w) => nI w
def rs3 (p : Int32) (σ : Bst) : Int32 := match σ with | none => -9 | some (a, b, w) => if p = 0 then nI a else if p = 1 then nI b else nI w
def BG (σ : Bst) : Prop := ∀ a b w, σ = some (a, b, w) → w < 2147483648
theorem BG_bst {V : Nat → Nat → Prop} {Wt : Nat → Nat → Nat} (hW : ∀ a b, Wt a b < 2147483648) {σ : Bst} (h : BG σ) (a b : Nat) : BG (bst V Wt σ a b) := by
  unfold bst
  by_cases z : V a b
  · rw [if_pos z]
    intro a' b' w' e
    match σ, h with
    | none, h => simp at e; rw [← e.2.2]; exact hW a b
    | some (a0, b0, w0), h =>
      simp only at e
      split at e
      · exact h a' b' w' e
      · simp at e; rw [← e.2.2]; exact hW a b
  · rw [if_neg z]; exact h
theorem BG_bsF {V : Nat → Nat → Prop} {Wt : Nat → Nat → Nat} (hW : ∀ a b, Wt a b < 2147483648) (a : Nat) : ∀ d x σ, BG σ → BG (bsF V Wt a d x σ) := by
  intro d
  induction d with
  | zero => intro x σ h; exact h
  | succ d ih => intro x σ h; exact ih (x + 1) _ (BG_bst hW h a x)
noncomputable def rT (A : Told) (a b t : Nat) : Nat := OW (ansH a b t ++ H0 A) A.nc
noncomputable def WtA (A : Told) (a b : Nat) : Nat := max (max (rT A a b 0) (rT A a b 2)) (rT A a b 1)
theorem rT_lt {A : Told} (hw : WF A) (a b t : Nat) : rT A a b t < 2147483648 := OW_lt _ (by have := hw.1; omega)
theorem WtA_lt {A : Told} (hw : WF A) (a b : Nat) : WtA A a b < 2147483648 := by
  have h0 := rT_lt hw a b 0
  have h1 := rT_lt hw a b 1
  have h2 := rT_lt hw a b 2
  unfold WtA
  omega
theorem imax {a b : Nat} (ha : a < 2147483648) (hb : b < 2147483648) : (if nI a < nI b then nI b else nI a) = nI (max a b) := by
  by_cases z : a < b
  · rw [if_pos (nI_lt z hb)]; congr 1; omega
  · rw [if_neg (nI_nlt (by omega) ha)]; congr 1; omega
theorem worst8 {A : Told} {G : Mem} (hw : WF A) (rm : RemOk A G) {a b : Nat} (ha : a < A.nc) (hb : b < A.nc) : m_X5_worst G (nI a) (nI b) = some (nI (WtA A a b)) := by
  have h0 := rT_lt hw a b 0
  have h1 := rT_lt hw a b 1
  have h2 := rT_lt hw a b 2
  have e0 : m_X5_remaining G (nI a) 0 (nI b) = some (nI (rT A a b 0)) := rm a b 0 ha hb (by omega)
  have e1 : m_X5_remaining G (nI a) 1 (nI b) = some (nI (rT A a b 1)) := rm a b 1 ha hb (by omega)
  have e2 : m_X5_remaining G (nI a) 2 (nI b) = some (nI (rT A a b 2)) := rm a b 2 ha hb (by omega)
  unfold m_X5_worst
  rw [e0, Option.bind_some, e2, Option.bind_some, e1, Option.bind_some, imax h0 h2, imax (by omega) h1]
  rfl
def VA (A : Told) (a b : Nat) : Prop := KN (H0 A) (2 + 2 * a) (2 + 2 * b) = 0
theorem best53 {A : Told} {G : Mem} (hw : WF A) (hC : RowC A (G 2)) (hO : OG (H0 A) G) (rm : RemOk A G) {a : Nat} (ha : a < A.nc) : ∀ d x n σ, x + d = A.nc → d < n → BG σ → L_X8_best_53 (nI a) G n (bs1 σ) (bs2 σ) (bs3 σ) (nI x) = some (bs1 (bsF (VA A) (WtA A) a d x σ), bs2 (bsF (VA A) (WtA A) a d x σ), bs3 (bsF (VA A) (WtA A) a d x σ)) := by
  have h1 := hw.1
  obtain ⟨f, g, o1, o2, o3⟩ := hO
  intro d
  induction d with
  | zero =>
    intro x n σ p1 p2 p3
    obtain ⟨n, rfl⟩ : ∃ k, n = k + 1 := ⟨n - 1, by omega⟩
    rw [L_X8_best_53, c8_0 hC, Option.bind_some, if_pos (nI_le (by omega) (by omega))]
    rfl
  | succ d ih =>
    intro x n σ p1 p2 p3
    obtain ⟨n, rfl⟩ : ∃ k, n = k + 1 := ⟨n - 1, by omega⟩
    have hWx := WtA_lt hw a x
    rw [L_X8_best_53, c8_0 hC, Option.bind_some, if_neg (nI_ge (by omega) (by omega)), event_nI, event_nI, tells8 (o := 27) (H0_W hw) o1 o2 o3 (by omega) (by omega), Option.bind_some, nI_1]
    have st : ((if KN (H0 A) (2 + 2 * a) (2 + 2 * x) = 0 then (m_X5_worst G (nI a) (nI x)).bind (fun r_12 => (if bs3 σ = (-9) then some (nI a, nI x, r_12) else (if bs3 σ ≤ r_12 then some (bs1 σ, bs2 σ, bs3 σ) else some (nI a, nI x, r_12)))) else some (bs1 σ, bs2 σ, bs3 σ)) : Option (Int32 × Int32 × Int32)) = some (bs1 (bst (VA A) (WtA A) σ a x), bs2 (bst (VA A) (WtA A) σ a x), bs3 (bst (VA A) (WtA A) σ a x)) := by
      unfold bst
      by_cases z : VA A a x
      · rw [if_pos z, if_pos (show KN (H0 A) (2 + 2 * a) (2 + 2 * x) = 0 from z), worst8 hw rm ha (by omega), Option.bind_some]
        match σ, p3 with
        | none, _ => rw [if_pos (show bs3 none = -9 from rfl)]; rfl
        | some (a0, b0, w0), p3 =>
          have hw0 := p3 a0 b0 w0 rfl
          show (if nI w0 = -9 then _ else (if nI w0 ≤ nI (WtA A a x) then _ else _)) = _
          rw [if_neg (m9_ne hw0)]
          by_cases y : w0 ≤ WtA A a x
          · simp only [if_pos y]
            rw [if_pos (nI_le y hWx)]
          · simp only [if_neg y]
            rw [if_neg (nI_ge (by omega) hw0)]
            rfl
      · rw [if_neg z, if_neg (show ¬ KN (H0 A) (2 + 2 * a) (2 + 2 * x) = 0 from z)]
    rw [st, Option.bind_some]
    exact ih (x + 1) n _ (by omega) (by omega) (BG_bst (WtA_lt hw) p3 a x)
theorem best35 {A : Told} {G : Mem} (hw : WF A) (hC : RowC A (G 2)) (hO : OG (H0 A) G) (rm : RemOk A G) : ∀ d x n σ, x + d = A.nc → d < n → BG σ → L_X8_best_35 G n (bs1 σ) (bs2 σ) (bs3 σ) (nI x) = some (bs1 (bsO (VA A) (WtA A) A.nc d x σ), bs2 (bsO (VA A) (WtA A) A.nc d x σ), bs3 (bsO (VA A) (WtA A) A.nc d x σ)) := by
  have h1 := hw.1
  intro d
  induction d with
  | zero =>
    intro x n σ p1 p2 p3
    obtain ⟨n, rfl⟩ : ∃ k, n = k + 1 := ⟨n - 1, by omega⟩
    rw [L_X8_best_35, c8_0 hC, Option.bind_some, if_pos (nI_le (by omega) (by omega))]
    rfl
  | succ d ih =>
    intro x n σ p1 p2 p3
    obtain ⟨n, rfl⟩ : ∃ k, n = k + 1 := ⟨n - 1, by omega⟩
    rw [L_X8_best_35, c8_0 hC, Option.bind_some, if_neg (nI_ge (by omega) (by omega)), nI_1, best53 hw hC hO rm (show x < A.nc by omega) (A.nc - (x + 1)) (x + 1) NF σ (by omega) (NF_big (by omega)) p3, Option.bind_some]
    exact ih (x + 1) n _ (by omega) (by omega) (BG_bsF (WtA_lt hw) x _ _ _ p3)
noncomputable def mxT (r : Nat → Nat) : Nat → Nat → Nat → Nat
  | 0, _, m => m
  | d + 1, t, m => mxT r d (t + 1) (max m (r t))
theorem best81 {A : Told} {G0 : Mem} (hw : WF A) (hR : RowR A (G0 82)) {a b : Nat} (ha : a < A.nc) (hb : b < A.nc) : ∀ d t n m X, t + d = 3 → d < n → m < 2147483648 → K9r G0 X → ∃ X', L_X9_best_81 (nI a) (nI b) n (nI m) (nI t) X = some (nI (mxT (rT A a b) d t m), X') ∧ K9r G0 X' := by
  intro d
  induction d with
  | zero =>
    intro t n m X p1 p2 p3 p4
    obtain ⟨n, rfl⟩ : ∃ k, n = k + 1 := ⟨n - 1, by omega⟩
    exact ⟨X, by rw [L_X9_best_81, if_pos (show (3 : Int32) ≤ nI t from nI_le (a := 3) (by omega) (by omega))]; rfl, p4⟩
  | succ d ih =>
    intro t n m X p1 p2 p3 p4
    obtain ⟨n, rfl⟩ : ∃ k, n = k + 1 := ⟨n - 1, by omega⟩
    have hr := rT_lt hw a b t
    obtain ⟨X1, e1, k1⟩ := leftBy9 (G := X) hw (by rw [p4.1 82 (by omega) (by omega)]; exact hR) ha hb (show t < 3 by omega)
    have e1' : m_X9_leftBy X (nI a) (nI b) (nI t) = some (nI (rT A a b t), X1) := e1
    have hv : ((if nI (rT A a b t) ≤ nI m then some (nI m, X1) else some (nI (rT A a b t), X1)) : Option (Int32 × Mem)) = some (nI (max m (rT A a b t)), X1) := by
      by_cases z : rT A a b t ≤ m
      · rw [if_pos (nI_le z p3)]; congr 3; omega
      · rw [if_neg (nI_ge (by omega) hr)]; congr 3; omega
    rw [L_X9_best_81, if_neg (show ¬ (3 : Int32) ≤ nI t from nI_ge (b := 3) (by omega) (by omega)), e1', Option.bind_some]
    dsimp only
    rw [hv, Option.bind_some, nI_1]
    exact ih (t + 1) n _ X1 (by omega) (by omega) (by omega) (p4.tr k1)
theorem best41 {A : Told} {G0 : Mem} (hw : WF A) (hR : RowR A (G0 82)) (p : Int32) {a : Nat} (ha : a < A.nc) : ∀ d x n σ X, x + d = A.nc → d < n → BG σ → K9r G0 X → ∃ X', L_X9_best_41 p (nI a) n (rs2 σ) (rs3 p σ) (nI x) X = some (rs2 (bsF (VA A) (WtA A) a d x σ), rs3 p (bsF (VA A) (WtA A) a d x σ), X') ∧ K9r G0 X' := by
  have h1 := hw.1
  intro d
  induction d with
  | zero =>
    intro x n σ X p1 p2 p3 p4
    obtain ⟨n, rfl⟩ : ∃ k, n = k + 1 := ⟨n - 1, by omega⟩
    have hRX : RowR A (X 82) := by rw [p4.1 82 (by omega) (by omega)]; exact hR
    exact ⟨X, by rw [L_X9_best_41, c9_0 hRX, Option.bind_some, if_pos (nI_le (by omega) (by omega))]; rfl, p4⟩
  | succ d ih =>
    intro x n σ X p1 p2 p3 p4
    obtain ⟨n, rfl⟩ : ∃ k, n = k + 1 := ⟨n - 1, by omega⟩
    have hRX : RowR A (X 82) := by rw [p4.1 82 (by omega) (by omega)]; exact hR
    obtain ⟨X1, e1, k1⟩ := knownBy_eq hw hRX (ALL A.ns) (p := 2 + 2 * a) (q := 2 + 2 * x) (by omega) (by omega)
    have hWx := WtA_lt hw a x
    rw [L_X9_best_41, c9_0 hRX, Option.bind_some, if_neg (nI_ge (by omega) (by omega)), all9_eq hRX, Option.bind_some, ev_nI a, ev_nI x, e1, Option.bind_some, nI_1]
    dsimp only
    rw [show KN (setH A (bt (ALL A.ns)) A.ns) (2 + 2 * a) (2 + 2 * x) = KN (H0 A) (2 + 2 * a) (2 + 2 * x) from rfl]
    by_cases z : VA A a x
    · obtain ⟨X2, e2, k2⟩ := best81 hw hR ha (show x < A.nc by omega) 3 0 NF 0 X1 (by omega) (NF_big (by omega)) (by omega) (p4.tr k1)
      have em : mxT (rT A a x) 3 0 0 = WtA A a x := by
        show max (max (max 0 (rT A a x 0)) (rT A a x 1)) (rT A a x 2) = WtA A a x
        unfold WtA
        omega
      rw [em] at e2
      have e2' : L_X9_best_81 (nI a) (nI x) NF 0 0 X1 = some (nI (WtA A a x), X2) := e2
      have hB := BG_bst (V := VA A) (WtA_lt hw) p3 a x
      rw [if_pos (show KN (H0 A) (2 + 2 * a) (2 + 2 * x) = 0 from z), e2', Option.bind_some]
      dsimp only
      obtain ⟨X3, e3, k3⟩ := ih (x + 1) n (bst (VA A) (WtA A) σ a x) X2 (by omega) (by omega) hB k2
      refine ⟨X3, ?_, k3⟩
      show _ = some (rs2 (bsF (VA A) (WtA A) a d (x + 1) (bst (VA A) (WtA A) σ a x)), rs3 p (bsF (VA A) (WtA A) a d (x + 1) (bst (VA A) (WtA A) σ a x)), X3)
      rw [← e3, if3]
      clear e3 hB
      match σ, p3 with
      | none, _ =>
        rw [bst_no z, if_pos (show rs2 none < 0 by decide), Option.bind_some, if_neg one_ne, if_neg one_ne, Option.bind_some, Option.bind_some, Option.bind_some]
        rfl
      | some (a0, b0, w0), p3 =>
        have hw0 := p3 a0 b0 w0 rfl
        rw [if_neg (show ¬ rs2 (some (a0, b0, w0)) < 0 from nI_pos hw0)]
        by_cases y : w0 ≤ WtA A a x
        · rw [bst_le z y, if_pos (show rs2 (some (a0, b0, w0)) ≤ nI (WtA A a x) from nI_le y hWx), Option.bind_some, if_pos rfl, if_pos rfl, Option.bind_some, Option.bind_some, Option.bind_some]
        · rw [bst_gt z y, if_neg (show ¬ rs2 (some (a0, b0, w0)) ≤ nI (WtA A a x) from nI_ge (by omega) hw0), Option.bind_some, if_neg one_ne, if_neg one_ne, Option.bind_some, Option.bind_some, Option.bind_some]
          rfl
    · rw [if_neg (show ¬ KN (H0 A) (2 + 2 * a) (2 + 2 * x) = 0 from z), Option.bind_some]
      have ebs : bst (VA A) (WtA A) σ a x = σ := if_neg z
      obtain ⟨X3, e3, k3⟩ := ih (x + 1) n σ X1 (by omega) (by omega) p3 (p4.tr k1)
      refine ⟨X3, ?_, k3⟩
      show _ = some (rs2 (bsF (VA A) (WtA A) a d (x + 1) (bst (VA A) (WtA A) σ a x)), rs3 p (bsF (VA A) (WtA A) a d (x + 1) (bst (VA A) (WtA A) σ a x)), X3)
      rw [ebs]
      exact e3
theorem best24 {A : Told} {G0 : Mem} (hw : WF A) (hR : RowR A (G0 82)) (p : Int32) : ∀ d x n σ X, x + d = A.nc → d < n → BG σ → K9r G0 X → ∃ X', L_X9_best_24 p n (rs2 σ) (rs3 p σ) (nI x) X = some (rs3 p (bsO (VA A) (WtA A) A.nc d x σ), X') ∧ K9r G0 X' := by
  have h1 := hw.1
  intro d
  induction d with
  | zero =>
    intro x n σ X p1 p2 p3 p4
    obtain ⟨n, rfl⟩ : ∃ k, n = k + 1 := ⟨n - 1, by omega⟩
    have hRX : RowR A (X 82) := by rw [p4.1 82 (by omega) (by omega)]; exact hR
    exact ⟨X, by rw [L_X9_best_24, c9_0 hRX, Option.bind_some, if_pos (nI_le (by omega) (by omega))]; rfl, p4⟩
  | succ d ih =>
    intro x n σ X p1 p2 p3 p4
    obtain ⟨n, rfl⟩ : ∃ k, n = k + 1 := ⟨n - 1, by omega⟩
    have hRX : RowR A (X 82) := by rw [p4.1 82 (by omega) (by omega)]; exact hR
    obtain ⟨X1, e1, k1⟩ := best41 hw hR p (show x < A.nc by omega) (A.nc - (x + 1)) (x + 1) NF σ X (by omega) (NF_big (by omega)) p3 p4
    rw [L_X9_best_24, c9_0 hRX, Option.bind_some, if_neg (nI_ge (by omega) (by omega)), nI_1, e1, Option.bind_some]
    exact ih (x + 1) n _ X1 (by omega) (by omega) (BG_bsF (WtA_lt hw) x _ _ _ p3) k1
theorem st_17 (G : Mem) (a b c : Int32) (hI : Inv G) : ∃ (r : Int32) (G1 G2 : Mem), op8 17 G a b c = some (r, G1) ∧ op9 17 G1 a b c = some (r, G2) ∧ Inv G2 := by
  have hI' := hI
  have hT := hI.keeps (keeps_thrown G)
  obtain ⟨nc, ⟨A, hw, hnc, hC, hR⟩, ht, hu, hi, hz⟩ := hI
  have h1 := hw.1
  show ∃ (r : Int32) (G1 G2 : Mem), m_X8_best G a = some (r, G1) ∧ m_X9_best G1 a = some (r, G2) ∧ Inv G2
  rcases time_cases (M := 2) 2 rfl (by omega) a with ha | ⟨p, hp, rfl⟩
  · refine ⟨-1, G, upm G 81 0 0, ?_, ?_, hT⟩
    · unfold m_X8_best
      by_cases h0 : a < 0
      · rw [if_pos h0]
      · rw [if_neg h0, if_neg (Int32.not_le.mpr (ha.resolve_left h0))]
    · unfold m_X9_best; rw [in_no ha, if_pos rfl]
  obtain ⟨G1, G2, e1, e2, k1, k2, _, o, rm⟩ := tally8 hw hC hR
  have hC2 : RowC A (G2 2) := by rw [k2 2 (by omega)]; exact hC
  have hR1 : RowR A ((upm G2 81 0 0) 82) := by rw [upm_n _ _ _ (by omega), k2 82 (by omega)]; exact hR
  have hB : BG none := fun _ _ _ h => by simp at h
  have e3 : L_X8_best_35 G2 NF (-9) (-9) (-9) 0 = some (bs1 (bsO (VA A) (WtA A) A.nc A.nc 0 none), bs2 (bsO (VA A) (WtA A) A.nc A.nc 0 none), bs3 (bsO (VA A) (WtA A) A.nc A.nc 0 none)) := best35 hw hC2 o rm A.nc 0 NF none (by omega) (NF_big (by omega)) hB
  obtain ⟨G3, e4, k3⟩ := best24 hw hR1 (nI p) A.nc 0 NF none (upm G2 81 0 0) (by omega) (NF_big (by omega)) hB (K9r.rf _)
  have e4' : L_X9_best_24 (nI p) NF (-1) (-9) 0 (upm G2 81 0 0) = some (rs3 (nI p) (bsO (VA A) (WtA A) A.nc A.nc 0 none), G3) := e4
  refine ⟨rs3 (nI p) (bsO (VA A) (WtA A) A.nc A.nc 0 none), G2, G3, ?_, ?_, hI'.keeps (Keeps_q k2 k3)⟩
  · unfold m_X8_best
    rw [if_neg (nI_pos (by omega)), if_pos (show nI p ≤ (2 : Int32) from nI_le (b := 2) hp (by omega)), e1, Option.bind_some, e2, Option.bind_some, e3, Option.bind_some]
    dsimp only
    generalize bsO (VA A) (WtA A) A.nc A.nc 0 none = σ
    match σ with
    | none =>
      show (if nI p = 0 then some (-9, G2) else (if nI p = 1 then some (-9, G2) else some (-9, G2))) = some (-9, G2)
      split
      · rfl
      · split <;> rfl
    | some (a0, b0, w0) =>
      show (if nI p = 0 then some (nI a0, G2) else (if nI p = 1 then some (nI b0, G2) else some (nI w0, G2))) = some ((if nI p = 0 then nI a0 else if nI p = 1 then nI b0 else nI w0), G2)
      split
      · rfl
      · split <;> rfl
  · unfold m_X9_best
    rw [in_yes (nI_pos (by omega)) (show ¬ (2 : Int32) < nI p from nI_nlt (a := 2) hp (by omega)), if_neg one_ne, e4', Option.bind_some]
