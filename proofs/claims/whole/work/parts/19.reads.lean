/-! ===== 19 step: reads, both together ===== -/
def Go (nt i : Nat) (G : Mem) (j : Nat) (G1 : Mem) : Prop := K8 G G1 ∧ ∀ R, E8 nt j G1 R → E8 nt i G R
theorem Go.tr {nt i j k : Nat} {G G1 G2 : Mem} (h : Go nt i G j G1) (h' : Go nt j G1 k G2) : Go nt i G k G2 := ⟨h.1.tr h'.1, fun R r => h.2 R (h'.2 R r)⟩
theorem Go.fl {nt i j f : Nat} {G G1 : Mem} (h : Go nt i G j G1) (h' : Fl nt j G1 f) : Fl nt i G f := by
  obtain ⟨G2, h1, h2 | h2⟩ := h'
  · exact ⟨G2, h.1.tr h1, Or.inl (h.2 _ h2)⟩
  · exact ⟨G2, h.1.tr h1, Or.inr ⟨h.2 _ h2.1, h2.2⟩⟩
theorem Go_sk {tx : Nat → Nat} {nt : Nat} (hnt : nt ≤ 80) (htx : ∀ i, i < nt → tx i < 256) {G : Mem} (hT : T8 tx nt G) {i : Nat} (hi : i ≤ nt) : Go nt i G (sk tx nt i) G := ⟨K8.rf G, fun _ h => E8_sk hnt htx hT hi h⟩
theorem Go_yes {tx : Nat → Nat} {nt : Nat} (hnt : nt ≤ 80) (htx : ∀ i, i < nt → tx i < 256) {G G1 : Mem} (hT : T8 tx nt G) {j : Nat} (hj : j < nt) (hs : tx j ≠ 32) (hp : m_X7_passes G (nI (tx j)) = some (1, G1)) (hk : K8 G G1) : Go nt j G (j + 1) G1 := ⟨hk, fun _ h => E8_yes hnt htx hT hj hs hp h⟩
def Res (nt i : Nat) (A : Told) (G G' : Mem) : Prop := (∃ A' G1 G2, WF A' ∧ RowC A' (G1 4) ∧ RowR A' (G2 83) ∧ G1 5 2 = 0 ∧ K8 G G1 ∧ K9 G' G2 ∧ E8 nt i G (Sum.inl G1) ∧ E9 nt i (nI A.ns) G' (Sum.inl (nI A'.ns, G2))) ∨ (∃ f G2, f ≤ nt ∧ K9 G' G2 ∧ Fl nt i G f ∧ E9 nt i (nI A.ns) G' (Sum.inr (-10 - nI f, G2)))
theorem Res.go {nt i j : Nat} {A A' : Told} {G G1 G' G'' : Mem} (h : Go nt i G j G1) (k : K9 G' G'') (e : ∀ R, E9 nt j (nI A'.ns) G'' R → E9 nt i (nI A.ns) G' R) (r : Res nt j A' G1 G'') : Res nt i A G G' := by
  rcases r with ⟨B, G2, G3, w, c, d, d0, k8, k9, e8, e9⟩ | ⟨f, G2, hf, k9, fl, e9⟩
  · exact Or.inl ⟨B, G2, G3, w, c, d, d0, h.1.tr k8, k.tr k9, h.2 _ e8, e _ e9⟩
  · exact Or.inr ⟨f, G2, hf, k.tr k9, h.fl fl, e _ e9⟩
/-- the end of an item, both ways -/
theorem item_end {tx : Nat → Nat} {nt : Nat} (hnt : nt ≤ 80) (htx : ∀ i, i < nt → tx i < 256) {A B : Told} {G G1 G' : Mem} {S : Nat → Int32} {i j : Nat} (hi : i ≤ nt) (h0 : sk tx nt i < nt) (hij : sk tx nt i < j) (hj : j ≤ nt)
    (hT9 : T9 tx nt G') (hT8 : T8 tx nt G) (go : Go nt i G j G1) (hd : G1 5 2 = 4 ∨ G1 5 2 = 5) (hBn : B.ns = A.ns + 1) (hR : RowR B S) (hw : WF B)
    (hM : It9 (tx (sk tx nt i)) (upm G' 81 13 (nI (sk tx nt i))) = some (1, upm (setc G' 83 S) 81 13 (nI j)))
    (hend : ∃ G2, m_X7_passes G1 (nI 59) = some (1, G2) ∧ K8 G1 G2 ∧ RowC B (G2 4) ∧ G2 5 2 = 0)
    (ih : ∀ i' G2 G3, i < i' → i' ≤ nt → RowC B (G2 4) → T8 tx nt G2 → G2 5 2 = 0 → RowR B (G3 83) → T9 tx nt G3 → Res nt i' B G2 G3) : Res nt i A G G' := by
  have hT1 : T8 tx nt G1 := hT8.k go.1
  have hk9 : K9 G' (setc G' 83 S) := K9.se G' S
  have hT2 : T9 tx nt (setc G' 83 S) := hT9.k hk9
  have hge := sk_ge tx nt i
  have hge2 := sk_ge tx nt j
  have hle := sk_le tx hj
  have go2 := go.tr (Go_sk hnt htx hT1 hj)
  by_cases q : sk tx nt j < nt ∧ tx (sk tx nt j) = 59
  · obtain ⟨G2, hp, k2, hC2, d2⟩ := hend
    have go3 := go2.tr (Go_yes hnt htx hT1 q.1 (sk_ns tx hj q.1) (by rw [q.2]; exact hp) k2)
    refine Res.go go3 hk9 (fun R r => E9_c hnt htx hT9 hi h0 hj (by omega) hT2 hM q.1 q.2 ?_) (ih _ G2 _ (by omega) (by omega) hC2 (hT1.k k2) d2 (by rw [setc_k]; exact hR) hT2)
    rw [nI_1, ← hBn]
    exact r
  · refine Or.inr ⟨sk tx nt j, _, hle, hk9.tr (K9.up _ _), go2.fl ?_, E9_b hnt htx hT9 hi h0 hj hT2 hM (fun z => q ((lt9_59 htx).mp z))⟩
    by_cases q1 : sk tx nt j < nt
    · exact Fl_no hnt htx hT1 q1 (sk_ns tx hj q1) (pa_end_no hd (htx _ q1) (fun z => q ⟨q1, z⟩)) (K8.rf _)
    · rw [show sk tx nt j = nt by omega]
      exact Fl_end hnt hT1 (by rcases hd with hd | hd <;> rw [hd] <;> decide)
theorem reads_main {tx : Nat → Nat} {nt : Nat} (hnt : nt ≤ 80) (htx : ∀ i, i < nt → tx i < 256) : ∀ d i (A : Told) (G G' : Mem), nt - i ≤ d → i ≤ nt → WF A → RowC A (G 4) → T8 tx nt G → G 5 2 = 0 → RowR A (G' 83) → T9 tx nt G' → Res nt i A G G' := by
  intro d
  induction d with
  | zero =>
    intro i A G G' hd hi hw hC hT8 h0 hR hT9
    have e : i = nt := by omega
    subst e
    exact Or.inl ⟨A, G, _, hw, hC, by rw [upm_n _ _ _ (by omega)]; exact hR, h0, K8.rf G, K9.up G' _, E8_end hnt hT8, E9_end hnt htx hT9 hi (sk_nt tx i) _⟩
  | succ d ih =>
    intro i A G G' hd hi hw hC hT8 h0 hR hT9
    have h1 := hw.1
    have hge := sk_ge tx nt i
    have hle := sk_le tx hi
    have go0 := Go_sk hnt htx hT8 hi
    by_cases hs0 : sk tx nt i < nt
    case neg =>
      have e : sk tx nt i = nt := by omega
      exact Or.inl ⟨A, G, _, hw, hC, by rw [upm_n _ _ _ (by omega)]; exact hR, h0, K8.rf G, K9.up G' _, by rw [e] at go0; exact go0.2 _ (E8_end hnt hT8), E9_end hnt htx hT9 hi e _⟩
    have hns := sk_ns tx hi hs0
    have hv := htx _ hs0
    by_cases cap : 65 ≤ tx (sk tx nt i) ∧ tx (sk tx nt i) ≤ 90
    · have hM := (it_yes hv cap (upm G' 81 13 (nI (sk tx nt i)))).trans (rs_gen hnt htx hw hT9 hR hs0 hns)
      by_cases z1 : tmI A.nc (tx (sk tx nt i)) = -9 ∨ A.ns = A.nc + 6
      · rw [if_pos z1] at hM
        obtain ⟨G1, hp, hk⟩ := pa_cap hw hC h0 hv cap z1
        exact Or.inr ⟨sk tx nt i, _, hle, K9.up _ _, go0.fl (Fl_no hnt htx hT8 hs0 hns hp hk), E9_a hnt htx hT9 hi hs0 hM⟩
      rw [if_neg z1] at hM
      have z1a : ¬ tmI A.nc (tx (sk tx nt i)) = -9 := fun z => z1 (Or.inl z)
      have z1b : ¬ A.ns = A.nc + 6 := fun z => z1 (Or.inr z)
      obtain ⟨G1, hp1, k1, g14, g12, g15⟩ := pa_say hw hC h0 hv z1a z1b
      have hT1 := hT8.k k1
      have go1 := (go0.tr (Go_yes hnt htx hT8 hs0 hns hp1 k1)).tr (Go_sk hnt htx hT1 (by omega))
      have hle1 := sk_le tx (show sk tx nt i + 1 ≤ nt by omega)
      have hge1 := sk_ge tx nt (sk tx nt i + 1)
      by_cases q1 : sk tx nt (sk tx nt i + 1) < nt
      case neg =>
        have e : sk tx nt (sk tx nt i + 1) = nt := by omega
        have l : lt9 tx nt (sk tx nt (sk tx nt i + 1)) = -1 := if_neg q1
        rw [l, if_pos sg_m1] at hM
        refine Or.inr ⟨_, _, hle1, K9.up _ _, go1.fl ?_, E9_a hnt htx hT9 hi hs0 hM⟩
        rw [e]
        exact Fl_end hnt hT1 (by rw [g12]; decide)
      have hns1 := sk_ns tx (show sk tx nt i + 1 ≤ nt by omega) q1
      have hv1 := htx _ q1
      have l1 : lt9 tx nt (sk tx nt (sk tx nt i + 1)) = nI (tx (sk tx nt (sk tx nt i + 1))) := if_pos q1
      rw [l1] at hM
      rcases pa_sign g12 hv1 with ⟨a, G2, hp2, k2⟩ | ⟨t, ht, a, G2, hp2, k2, g24, g22, g26, g25⟩
      · rw [if_pos a] at hM
        exact Or.inr ⟨_, _, hle1, K9.up _ _, go1.fl (Fl_no hnt htx hT1 q1 hns1 hp2 k2), E9_a hnt htx hT9 hi hs0 hM⟩
      rw [a, if_neg (m9_ne (by omega))] at hM
      have hT2 := hT1.k k2
      have go2 := (go1.tr (Go_yes hnt htx hT1 q1 hns1 hp2 k2)).tr (Go_sk hnt htx hT2 (by omega))
      have hC2 : RowC A (G2 4) := by rw [g24, g14]; exact hC
      have hle2 := sk_le tx (show sk tx nt (sk tx nt i + 1) + 1 ≤ nt by omega)
      have hge2 := sk_ge tx nt (sk tx nt (sk tx nt i + 1) + 1)
      generalize sk tx nt (sk tx nt i + 1) = s1 at *
      by_cases q2 : sk tx nt (s1 + 1) < nt
      case neg =>
        have e : sk tx nt (s1 + 1) = nt := by omega
        have l : tmL tx nt A.nc (sk tx nt (s1 + 1)) = -9 := if_neg q2
        rw [if_pos (Or.inl l)] at hM
        refine Or.inr ⟨_, _, hle2, K9.up _ _, go2.fl ?_, E9_a hnt htx hT9 hi hs0 hM⟩
        rw [e]
        exact Fl_end hnt hT2 (by rw [g22]; decide)
      have hns2 := sk_ns tx (show s1 + 1 ≤ nt by omega) q2
      have hv2 := htx _ q2
      have l2 : tmL tx nt A.nc (sk tx nt (s1 + 1)) = tmI A.nc (tx (sk tx nt (s1 + 1))) := if_pos q2
      rw [l2] at hM
      rcases pa_sec hw hC2 g22 hv2 with ⟨b, G3, hp3, k3⟩ | ⟨b1, b2, G3, hp3, k3, g34, g32, g37, g35, g36⟩
      · rw [g25, g15] at b
        rw [if_pos b] at hM
        exact Or.inr ⟨_, _, hle2, K9.up _ _, go2.fl (Fl_no hnt htx hT2 q2 hns2 hp3 k3), E9_a hnt htx hT9 hi hs0 hM⟩
      rw [g25, g15] at b2
      rw [if_neg (fun z => z.elim b1 b2)] at hM
      have hT3 := hT2.k k3
      have go3 := go2.tr (Go_yes hnt htx hT2 q2 hns2 hp3 k3)
      obtain ⟨p, p1, p2, p3, _⟩ := (tm_cases h1.1 hv).resolve_left z1a
      obtain ⟨q, r1, r2, r3, _⟩ := (tm_cases h1.1 hv2).resolve_left b1
      have hpq : p ≠ q := fun z => b2 (by rw [r3, p3, z])
      rw [p3, r3] at hM
      have gw := more_WF hw (by omega) p1 r1 p2 r2 hpq ht
      have hC3 : RowC A (G3 4) := by rw [g34]; exact hC2
      refine item_end hnt htx (A := A) (B := A.more 9 p t q) hi hs0 (by omega) (by omega) hT9 hT8 go3 (Or.inr g32) rfl (more_R (c := 9) h1.1 (by omega) hR) gw hM ?_ (fun i' Ga Gb a1 a2 a3 a4 a5 a6 a7 => ih i' _ Ga Gb (by omega) a2 gw a3 a4 a5 a6 a7)
      obtain ⟨G4, hp4, k4, g44, g42⟩ := pa_end_s hw hC3 g32 (by omega)
      refine ⟨G4, hp4, k4, ?_, g42⟩
      rw [g44, g35, g25, g15, g36, g26, g37, p3, r3]
      exact more_C (c := 9) h1.1 (by omega) hC3
    · have hIt := it_no hv cap (upm G' 81 13 (nI (sk tx nt i)))
      have h9 : tmI A.nc (tx (sk tx nt i)) = -9 := by
        rcases tm_cases h1.1 hv with h | ⟨p, _, _, _, x, y⟩
        · exact h
        · exact absurd ⟨x, y⟩ cap
      by_cases hn : A.nc = 0
      · have hM := hIt.trans (rc_0 hnt htx hw hT9 hR hs0 hns hn)
        rcases pa_t0 hw hC h0 hn hv h9 with ⟨a, G1, hp, hk⟩ | ⟨t, ht, a, G1, hp1, k1, g14, g12, g1t, g1l⟩
        · rw [if_pos a] at hM
          exact Or.inr ⟨_, _, hle, K9.up _ _, go0.fl (Fl_no hnt htx hT8 hs0 hns hp hk), E9_a hnt htx hT9 hi hs0 hM⟩
        rw [a, if_neg (m9_ne (by omega))] at hM
        have go1 := go0.tr (Go_yes hnt htx hT8 hs0 hns hp1 k1)
        have hC1 : RowC A (G1 4) := by rw [g14]; exact hC
        have gw := moreC_WF hw (t := t) (l := 0) (by omega) ht (by omega)
        have hl : lkN A.nc 0 = -9 := if_pos hn
        refine item_end hnt htx (A := A) (B := A.moreC t 0) hi hs0 (by omega) (by omega) hT9 hT8 go1 (Or.inl g12) rfl (by have := moreC_R (t := t) (l := 0) (by omega) (by omega) hR; rw [hl] at this; exact this) gw hM ?_ (fun i' Ga Gb a1 a2 a3 a4 a5 a6 a7 => ih i' _ Ga Gb (by omega) a2 gw a3 a4 a5 a6 a7)
        obtain ⟨G4, hp4, k4, g44, g42⟩ := pa_end_c hw hC1 g12 (by omega)
        refine ⟨G4, hp4, k4, ?_, g42⟩
        have := moreC_C (t := t) (l := 0) (by omega) (by omega) hC1
        rw [g44, g1t, g1l]
        rw [hl] at this
        exact this
      · have hM := hIt.trans (rc_1 hnt htx hw hT9 hR hs0 hns hn)
        rcases pa_link hw hC h0 hn hv h9 with ⟨a, G1, hp, hk⟩ | ⟨l, hl, hn8, a, G1, hp1, k1, g14, g12, g1l⟩
        · rw [if_pos a] at hM
          exact Or.inr ⟨_, _, hle, K9.up _ _, go0.fl (Fl_no hnt htx hT8 hs0 hns hp hk), E9_a hnt htx hT9 hi hs0 hM⟩
        rw [a, if_neg (fun z => z.elim (m9_ne (by omega)) (by omega))] at hM
        have hT1 := hT8.k k1
        have go1 := (go0.tr (Go_yes hnt htx hT8 hs0 hns hp1 k1)).tr (Go_sk hnt htx hT1 (by omega))
        have hle1 := sk_le tx (show sk tx nt i + 1 ≤ nt by omega)
        have hge1 := sk_ge tx nt (sk tx nt i + 1)
        by_cases q1 : sk tx nt (sk tx nt i + 1) < nt
        case neg =>
          have e : sk tx nt (sk tx nt i + 1) = nt := by omega
          have l : lt9 tx nt (sk tx nt (sk tx nt i + 1)) = -1 := if_neg q1
          rw [l, if_pos ten_m1] at hM
          refine Or.inr ⟨_, _, hle1, K9.up _ _, go1.fl ?_, E9_a hnt htx hT9 hi hs0 hM⟩
          rw [e]
          exact Fl_end hnt hT1 (by rw [g12]; decide)
        have hns1 := sk_ns tx (show sk tx nt i + 1 ≤ nt by omega) q1
        have hv1 := htx _ q1
        have l1 : lt9 tx nt (sk tx nt (sk tx nt i + 1)) = nI (tx (sk tx nt (sk tx nt i + 1))) := if_pos q1
        rw [l1] at hM
        rcases pa_tense g12 hv1 with ⟨b, G2, hp2, k2⟩ | ⟨t, ht, b, G2, hp2, k2, g24, g22, g2t, g2l⟩
        · rw [if_pos b] at hM
          exact Or.inr ⟨_, _, hle1, K9.up _ _, go1.fl (Fl_no hnt htx hT1 q1 hns1 hp2 k2), E9_a hnt htx hT9 hi hs0 hM⟩
        rw [b, if_neg (m9_ne (by omega))] at hM
        have hT2 := hT1.k k2
        have go2 := go1.tr (Go_yes hnt htx hT1 q1 hns1 hp2 k2)
        have hC2 : RowC A (G2 4) := by rw [g24, g14]; exact hC
        have gw := moreC_WF hw (t := t) (l := l) hn8 ht hl
        have hl : lkN A.nc l = nI l := if_neg hn
        refine item_end hnt htx (A := A) (B := A.moreC t l) hi hs0 (by omega) (by omega) hT9 hT8 go2 (Or.inl g22) rfl (by have := moreC_R (t := t) (l := l) hn8 (by omega) hR; rw [hl] at this; exact this) gw hM ?_ (fun i' Ga Gb a1 a2 a3 a4 a5 a6 a7 => ih i' _ Ga Gb (by omega) a2 gw a3 a4 a5 a6 a7)
        obtain ⟨G4, hp4, k4, g44, g42⟩ := pa_end_c hw hC2 g22 hn8
        refine ⟨G4, hp4, k4, ?_, g42⟩
        have := moreC_C (t := t) (l := l) hn8 (by omega) hC2
        rw [g44, g2t, g2l, g1l]
        rw [hl] at this
        exact this
theorem reads101_eq (G : Mem) : L_X9_reads_101 NF 0 G = some (cpy G 83 0 82 0 74) := by
  refine copy_loop L_X9_reads_101 G 83 0 82 0 74 (Or.inl (by omega)) (fun n => by
    rw [L_X9_reads_101, if_pos (show (74 : Int32) ≤ nI 74 from nI_le (a := 74) (b := 74) (by omega) (by omega))]) (fun n x hx => ?_) NF (NF_big (by omega))
  have h1 : ¬ (74 : Int32) ≤ nI x := nI_ge (a := x) (b := 74) hx (by omega)
  rw [L_X9_reads_101, if_neg h1, ald_nI hx (by omega), Option.bind_some, ast_nI hx (by omega), Option.bind_some, nI_1, Nat.zero_add]
theorem st_2 (G : Mem) (a b c : Int32) (hI : Inv G) : ∃ (r : Int32) (G1 G2 : Mem), op8 2 G a b c = some (r, G1) ∧ op9 2 G1 a b c = some (r, G2) ∧ Inv G2 := by
  have hI' := hI
  obtain ⟨nc, hp, ⟨nt, t1, t2, t3, t4⟩, ⟨nx, nu, u1, u2, u3, u4, u5, u6⟩, hi0, hz⟩ := hI
  show ∃ (r : Int32) (G1 G2 : Mem), m_X8_reads G = some (r, G1) ∧ m_X9_reads G1 = some (r, G2) ∧ Inv G2
  have t5 : ∀ i, ∃ v, i < nt → (v < 256 ∧ G 6 i = nI v ∧ G 90 i = nI v) := fun i => by
    by_cases h : i < nt
    · obtain ⟨v, hv⟩ := t4 i h; exact ⟨v, fun _ => hv⟩
    · exact ⟨0, fun z => absurd z h⟩
  obtain ⟨tx, htx'⟩ : ∃ tx : Nat → Nat, ∀ i, i < nt → (tx i < 256 ∧ G 6 i = nI (tx i) ∧ G 90 i = nI (tx i)) := ⟨fun i => Classical.choose (t5 i), fun i => Classical.choose_spec (t5 i)⟩
  have htx : ∀ i, i < nt → tx i < 256 := fun i h => (htx' i h).1
  have eG : ∀ X : Mem, ∀ k, k ≠ 83 → k ≠ 81 → (upm (upm (upm (upm X 81 0 0) 83 0 0) 83 1 0) 81 13 0) k = X k := fun X k x y => by rw [upm_n _ _ _ y, upm_n _ _ _ x, upm_n _ _ _ x, upm_n _ _ _ y]
  -- the class's start
  generalize hGa : upm (upm (upm G 4 0 0) 4 1 0) 5 2 0 = Ga
  have ka : K8 G Ga := by
    rw [← hGa]
    refine ⟨fun k x y => ?_, fun j hj => ?_⟩
    · rw [upm_n _ _ _ y, upm_n _ _ _ x, upm_n _ _ _ x]
    · rw [upm_kn _ _ _ (by omega), upm_n _ _ _ (by omega), upm_n _ _ _ (by omega)]
  have e8 : m_X7_readInto G = (L_X7_readInto_11 NF 0 Ga).bind (fun o_v_9 => (match o_v_9 with | Sum.inl v_9 => (if (v_9 5 2) = 0 then some ((-9), v_9) else some (v_9 5 1, v_9)) | Sum.inr v_11 => some v_11)) := by
    unfold m_X7_readInto m_X6_empty
    rw [show (0 : Int32) = nI 0 from rfl, ast_nI (by omega) (by omega), Option.bind_some, show (1 : Int32) = nI 1 from rfl, ast_nI (by omega) (by omega), Option.bind_some, Option.bind_some]
    rw [← hGa]
    rfl
  let A0 : Told := ((0, 0), fun _ => 0, fun _ => 0, fun _ => 0, fun _ => 0, fun _ => 0, fun _ => 0)
  have w0 : WF A0 := ⟨⟨Nat.zero_le _, Nat.zero_le _, Nat.zero_le _⟩, fun c h => absurd h (Nat.not_lt_zero c), fun c h => absurd h (Nat.not_lt_zero c), fun c h => absurd h (Nat.not_lt_zero c), fun c h => absurd h (Nat.not_lt_zero c), fun c _ h => absurd h (Nat.not_lt_zero c)⟩
  have hT8 : T8 tx nt Ga := T8.k (G := G) ⟨t2, fun i hi => (htx' i hi).2.1⟩ ka
  have hC0 : RowC A0 (Ga 4) := by
    refine ⟨⟨?_, ?_⟩, fun c h => absurd h (Nat.not_lt_zero c), fun c h => absurd h (Nat.not_lt_zero c)⟩
    · rw [← hGa, upm_n _ _ _ (by omega), upm_kn _ _ _ (by omega), upm_kj]; rfl
    · rw [← hGa, upm_n _ _ _ (by omega), upm_kj]; rfl
  have hd0 : Ga 5 2 = 0 := by rw [← hGa, upm_kj]
  have main : ∀ Gb : Mem, RowR A0 (Gb 83) → T9 tx nt Gb → Res nt 0 A0 Ga Gb := fun Gb x y => reads_main t1 htx nt 0 A0 Ga Gb (by omega) (by omega) w0 hC0 hT8 hd0 x y
  -- the reference's start, on any memory that has its text
  have st9 : ∀ X : Mem, m_X9_reads X = (L_X9_reads_26 NF (nI A0.ns) (upm (upm (upm (upm X 81 0 0) 83 0 0) 83 1 0) 81 13 (nI 0))).bind (fun o_v_15 => (match o_v_15 with | Sum.inl v_15 => (L_X9_reads_101 NF 0 v_15.2).bind (fun v_19 => (ast 2 (upm (upm (upm v_19 81 11 0) 81 4 0) 81 7 0) 86 0 0).bind (fun q_20 => (ast 2 q_20 86 1 0).bind (fun q_21 => some (v_15.1, q_21)))) | Sum.inr v_22 => some v_22)) := by
    intro X
    unfold m_X9_reads
    rw [show (ast 74 (upm X 81 0 0) 83 0 0) = some (upm (upm X 81 0 0) 83 0 0) from ast_nI (j := 0) (by omega) (by omega), Option.bind_some, show (ast 74 (upm (upm X 81 0 0) 83 0 0) 83 1 0) = some (upm (upm (upm X 81 0 0) 83 0 0) 83 1 0) from ast_nI (j := 1) (by omega) (by omega), Option.bind_some]
    rfl
  have b83 : ∀ X : Mem, RowR A0 ((upm (upm (upm X 81 0 0) 83 0 0) 83 1 0) 83) := fun X => by
    refine ⟨⟨?_, ?_⟩, fun c h => absurd h (Nat.not_lt_zero c), fun c h => absurd h (Nat.not_lt_zero c)⟩
    · rw [upm_kn _ _ _ (by omega), upm_kj]; rfl
    · rw [upm_kj]; rfl
  have bT : ∀ X : Mem, X 81 11 = nI nt → X 90 = G 90 → T9 tx nt (upm (upm (upm X 81 0 0) 83 0 0) 83 1 0) := fun X x y => by
    refine ⟨?_, fun i hi => ?_⟩
    · rw [upm_n _ _ _ (by omega), upm_n _ _ _ (by omega), upm_kn _ _ _ (by omega)]; exact x
    · rw [upm_n _ _ _ (by omega), upm_n _ _ _ (by omega), upm_n _ _ _ (by omega), y]; exact (htx' i hi).2.2
  have bK : ∀ X : Mem, (∀ k, k ≠ 81 → k ≠ 83 → (upm (upm (upm X 81 0 0) 83 0 0) 83 1 0) k = X k) ∧ ∀ j, j ≠ 0 → (upm (upm (upm X 81 0 0) 83 0 0) 83 1 0) 81 j = X 81 j := fun X => ⟨fun k x y => by rw [upm_n _ _ _ y, upm_n _ _ _ y, upm_n _ _ _ x], fun j x => by rw [upm_n _ _ _ (by omega), upm_n _ _ _ (by omega), upm_kn _ _ _ x]⟩
  have outF : ∀ f, f ≤ nt → Fl nt 0 Ga f → ∃ G1, K8 G G1 ∧ m_X7_readInto G = some (nI f, G1) := by
    intro f hf h
    obtain ⟨G1, k, h | ⟨h, h2, h3⟩⟩ := h
    · exact ⟨G1, ka.tr k, by rw [e8, show (0 : Int32) = nI 0 from rfl, h NF (NF_big (by omega))]; rfl⟩
    · refine ⟨G1, ka.tr k, ?_⟩
      rw [e8, show (0 : Int32) = nI 0 from rfl, h NF (NF_big (by omega)), Option.bind_some]
      dsimp only
      rw [show nI 0 = (0 : Int32) from rfl, if_neg h2, (ka.tr k).2 1 (by omega), t2, h3]
  have outO : ∀ G1, E8 nt 0 Ga (Sum.inl G1) → G1 5 2 = 0 → m_X7_readInto G = some (-9, G1) := by
    intro G1 h h2
    rw [e8, show (0 : Int32) = nI 0 from rfl, h NF (NF_big (by omega)), Option.bind_some]
    dsimp only
    rw [show nI 0 = (0 : Int32) from rfl, if_pos h2]
  rcases main _ (b83 G) (bT G t3 rfl) with ⟨A1, G1, _, w1, c1, _, d1, k1, _, x8, _⟩ | ⟨f, _, hf, _, fl, _⟩
  · have o1 := outO G1 x8 d1
    have kG := ka.tr k1
    generalize hGc : upm (upm (upm (upm (cpy G1 4 0 2 0 74) 5 1 0) 23 3 0) 7 2 0) 19 1 0 = Gc
    have kc : ∀ k, k ≠ 2 → k ≠ 4 → k ≠ 5 → k ≠ 23 → k ≠ 7 → k ≠ 19 → Gc k = G k := fun k a0 a1 a2 a3 a4 a5 => by
      rw [← hGc, upm_n _ _ _ a5, upm_n _ _ _ a4, upm_n _ _ _ a3, upm_n _ _ _ a2, cpy_n a0, kG.1 k a1 a2]
    have hC2 : RowC A1 (Gc 2) := by
      rw [← hGc, upm_n _ _ _ (by omega), upm_n _ _ _ (by omega), upm_n _ _ _ (by omega), upm_n _ _ _ (by omega)]
      exact c1.congr w1 (fun j hj => by rw [cpy_in (by omega) (by omega)]; congr 1; omega)
    rcases main _ (b83 Gc) (bT Gc (by rw [kc 81 (by omega) (by omega) (by omega) (by omega) (by omega) (by omega)]; exact t3) (kc 90 (by omega) (by omega) (by omega) (by omega) (by omega) (by omega))) with ⟨A2, G1', G2, w2, c2, r2, d2, k2, k9, y8, y9⟩ | ⟨f, _, hf, _, fl, _⟩
    case inr =>
      obtain ⟨_, _, z⟩ := outF f hf fl
      rw [o1] at z
      exact absurd (congrArg Prod.fst (Option.some.inj z)).symm (m9_ne (by omega))
    have eG1 : G1' = G1 := by
      have z := outO G1' y8 d2
      rw [o1] at z
      exact (congrArg Prod.snd (Option.some.inj z)).symm
    subst eG1
    have ens : nI A1.ns = nI A2.ns := by rw [← c1.1.2, ← c2.1.2]
    generalize hGd : upm (upm (upm (upm (upm (cpy G2 83 0 82 0 74) 81 11 0) 81 4 0) 81 7 0) 86 0 0) 86 1 0 = Gd
    refine ⟨nI A1.ns, Gc, Gd, ?_, ?_, ?_⟩
    · unfold m_X8_reads m_X6_become m_X0_lose m_X2_lose m_X4_empty m_X7_empty
      rw [o1, Option.bind_some, if_pos rfl, copyRow_eq _ (by omega), Option.bind_some, Option.bind_some]
      rw [hGc, c8_1 hC2, Option.bind_some]
    · rw [st9, y9 NF (NF_big (by omega)), Option.bind_some]
      dsimp only
      rw [reads101_eq, Option.bind_some, show (ast 2 (upm (upm (upm (cpy G2 83 0 82 0 74) 81 11 0) 81 4 0) 81 7 0) 86 0 0) = some (upm (upm (upm (upm (cpy G2 83 0 82 0 74) 81 11 0) 81 4 0) 81 7 0) 86 0 0) from ast_nI (j := 0) (by omega) (by omega), Option.bind_some, show (ast 2 (upm (upm (upm (upm (cpy G2 83 0 82 0 74) 81 11 0) 81 4 0) 81 7 0) 86 0 0) 86 1 0) = some (upm (upm (upm (upm (upm (cpy G2 83 0 82 0 74) 81 11 0) 81 4 0) 81 7 0) 86 0 0) 86 1 0) from ast_nI (j := 1) (by omega) (by omega), Option.bind_some, hGd, ens]
    · have kd : ∀ k, k ≠ 82 → k ≠ 81 → k ≠ 86 → k ≠ 83 → Gd k = Gc k := fun k a0 a1 a2 a3 => by
        rw [← hGd, upm_n _ _ _ a2, upm_n _ _ _ a2, upm_n _ _ _ a1, upm_n _ _ _ a1, upm_n _ _ _ a1, cpy_n a0, k9.1 k a1 a3, (bK Gc).1 k a1 a3]
      have d82 : RowR A2 (Gd 82) := by
        rw [← hGd, upm_n _ _ _ (by omega), upm_n _ _ _ (by omega), upm_n _ _ _ (by omega), upm_n _ _ _ (by omega), upm_n _ _ _ (by omega)]
        exact r2.congr w2 (fun j hj => by rw [cpy_in (by omega) (by omega)]; congr 1; omega)
      have hC3 : RowC A2 (Gd 2) := by
        rw [kd 2 (by omega) (by omega) (by omega) (by omega), ← hGc, upm_n _ _ _ (by omega), upm_n _ _ _ (by omega), upm_n _ _ _ (by omega), upm_n _ _ _ (by omega)]
        exact c2.congr w2 (fun j hj => by rw [cpy_in (by omega) (by omega)]; congr 1; omega)
      have d81 : ∀ j, j = 11 ∨ j = 4 ∨ j = 7 → Gd 81 j = 0 := fun j hj => by
        rw [← hGd, upm_n _ _ _ (by omega), upm_n _ _ _ (by omega)]
        rcases hj with rfl | rfl | rfl
        · rw [upm_kn _ _ _ (by omega), upm_kn _ _ _ (by omega), upm_kj]
        · rw [upm_kn _ _ _ (by omega), upm_kj]
        · rw [upm_kj]
      refine ⟨A2.nc, ⟨A2, w2, rfl, hC3, d82⟩, ⟨0, by omega, ?_, d81 11 (Or.inl rfl), fun i h => absurd h (by omega)⟩, ⟨nx, 0, u1, by omega, ?_, ?_, d81 4 (Or.inr (Or.inl rfl)), fun i h => absurd h (by omega)⟩, ⟨0, by omega, ?_, fun i hi => ⟨?_, fun z => by simp at z⟩⟩, ⟨0, by omega, ?_, d81 7 (Or.inr (Or.inr rfl)), fun i h => absurd h (by omega)⟩⟩
      · rw [kd 5 (by omega) (by omega) (by omega) (by omega), ← hGc, upm_n _ _ _ (by omega), upm_n _ _ _ (by omega), upm_n _ _ _ (by omega), upm_kj]; rfl
      · rw [kd 7 (by omega) (by omega) (by omega) (by omega), ← hGc, upm_n _ _ _ (by omega), upm_kn _ _ _ (by omega), upm_n _ _ _ (by omega), upm_n _ _ _ (by omega), cpy_n (by omega), kG.1 7 (by omega) (by omega)]; exact u3
      · rw [kd 7 (by omega) (by omega) (by omega) (by omega), ← hGc, upm_n _ _ _ (by omega), upm_kj]; rfl
      · rw [kd 19 (by omega) (by omega) (by omega) (by omega), ← hGc, upm_kj]; rfl
      · have : Gd 86 i = 0 := by
          rw [← hGd]
          rcases (show i = 0 ∨ i = 1 by omega) with rfl | rfl
          · rw [upm_kn _ _ _ (by omega), upm_kj]
          · rw [upm_kj]
        rw [this]
        simp
      · rw [kd 23 (by omega) (by omega) (by omega) (by omega), ← hGc, upm_n _ _ _ (by omega), upm_n _ _ _ (by omega), upm_kj]; rfl
  · obtain ⟨G1, kG, o1⟩ := outF f hf fl
    rcases main _ (b83 G1) (bT G1 (by rw [kG.1 81 (by omega) (by omega)]; exact t3) (kG.1 90 (by omega) (by omega))) with ⟨A2, G1', G2, w2, c2, r2, d2, k2, k9, y8, y9⟩ | ⟨f', G2, hf', k9, fl', y9⟩
    · have z := outO G1' y8 d2
      rw [o1] at z
      exact absurd (congrArg Prod.fst (Option.some.inj z)) (m9_ne (by omega))
    obtain ⟨G1', _, z⟩ := outF f' hf' fl'
    rw [o1] at z
    have ef : nI f = nI f' := congrArg Prod.fst (Option.some.inj z)
    refine ⟨-10 - nI f, G1, G2, ?_, ?_, ?_⟩
    · unfold m_X8_reads
      rw [o1, Option.bind_some, if_neg (m9_ne (by omega))]
    · rw [st9, y9 NF (NF_big (by omega)), Option.bind_some, ef]
    · refine hI'.keeps ?_
      have ke : ∀ k, k ≠ 81 → k ≠ 83 → k ≠ 4 → k ≠ 5 → G2 k = G k := fun k a0 a1 a2 a3 => by rw [k9.1 k a0 a1, (bK G1).1 k a0 a1, kG.1 k a2 a3]
      have k81 : ∀ j, j ≠ 13 → j ≠ 0 → G2 81 j = G 81 j := fun j a0 a1 => by rw [k9.2 j a0, (bK G1).2 j a1, kG.1 81 (by omega) (by omega)]
      refine ⟨ke 2 (by omega) (by omega) (by omega) (by omega), ?_, ke 6 (by omega) (by omega) (by omega) (by omega), ke 7 (by omega) (by omega) (by omega) (by omega), fun k x y => ke k (by omega) (by omega) (by omega) (by omega), ke 19 (by omega) (by omega) (by omega) (by omega), ke 21 (by omega) (by omega) (by omega) (by omega), ke 22 (by omega) (by omega) (by omega) (by omega), ke 23 (by omega) (by omega) (by omega) (by omega), ke 24 (by omega) (by omega) (by omega) (by omega), ke 25 (by omega) (by omega) (by omega) (by omega), ke 26 (by omega) (by omega) (by omega) (by omega), k81 4 (by omega) (by omega), k81 7 (by omega) (by omega), k81 11 (by omega) (by omega), ke 82 (by omega) (by omega) (by omega) (by omega), fun k x y => ke k (by omega) (by omega) (by omega) (by omega)⟩
      rw [k9.1 5 (by omega) (by omega), (bK G1).1 5 (by omega) (by omega)]
      exact kG.2 1 (by omega)
