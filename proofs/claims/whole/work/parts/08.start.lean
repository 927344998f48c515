/-! ===== 08 from the law's entry to its loop ===== -/
def G0 : Mem := fun _ _ => 0
def st_tm (i : Nat) : Term := Term.string "TenseLines$Text" (([75, 57, 80] : List Nat).getD i 0)
def ad_of (q0 q1 : Nat) (u8 : (Nat) × ((Nat)) × (Nat) × ((Nat)) × (Nat) × ((Nat)) × (Nat) × ((Nat) × (Nat → Nat)) × (Nat) × ((Nat) × (Nat → Nat)) × (Nat) × ((Nat) × (Nat) × (Nat)) × (Nat) × ((Nat) × (Nat)) × (Nat) × ((Nat) × ((Nat) × (Nat)) × (Nat) × (Nat → Nat) × (Nat) × (Nat → Nat) × (Nat) × (Nat)) × (Nat) × ((Nat) × (Nat) × (Nat) × (Nat) × (Nat) × (Nat) × (Nat → Nat))) (u9 : (Nat) × (Nat) × (Nat) × (Nat) × (Nat) × (Nat) × (Nat) × (Nat) × (Nat) × (Nat) × (Nat) × (Nat) × (Nat) × (Nat) × (Nat) × (Nat)) : Nat → Nat := fun k => ([q0, u8.1, u8.2.1, u8.2.2.1, u8.2.2.2.1, u8.2.2.2.2.1, u8.2.2.2.2.2.1, u8.2.2.2.2.2.2.1, u8.2.2.2.2.2.2.2.1.1, (u8.2.2.2.2.2.2.2.1.2 0), (u8.2.2.2.2.2.2.2.1.2 1), (u8.2.2.2.2.2.2.2.1.2 2), (u8.2.2.2.2.2.2.2.1.2 3), (u8.2.2.2.2.2.2.2.1.2 4), (u8.2.2.2.2.2.2.2.1.2 5), (u8.2.2.2.2.2.2.2.1.2 6), (u8.2.2.2.2.2.2.2.1.2 7), (u8.2.2.2.2.2.2.2.1.2 8), (u8.2.2.2.2.2.2.2.1.2 9), u8.2.2.2.2.2.2.2.2.1, u8.2.2.2.2.2.2.2.2.2.1.1, (u8.2.2.2.2.2.2.2.2.2.1.2 0), (u8.2.2.2.2.2.2.2.2.2.1.2 1), u8.2.2.2.2.2.2.2.2.2.2.1, u8.2.2.2.2.2.2.2.2.2.2.2.1.1, u8.2.2.2.2.2.2.2.2.2.2.2.1.2.1, u8.2.2.2.2.2.2.2.2.2.2.2.1.2.2, u8.2.2.2.2.2.2.2.2.2.2.2.2.1, u8.2.2.2.2.2.2.2.2.2.2.2.2.2.1.1, u8.2.2.2.2.2.2.2.2.2.2.2.2.2.1.2, u8.2.2.2.2.2.2.2.2.2.2.2.2.2.2.1, u8.2.2.2.2.2.2.2.2.2.2.2.2.2.2.2.1.1, u8.2.2.2.2.2.2.2.2.2.2.2.2.2.2.2.1.2.1.1, u8.2.2.2.2.2.2.2.2.2.2.2.2.2.2.2.1.2.1.2, u8.2.2.2.2.2.2.2.2.2.2.2.2.2.2.2.1.2.2.1, (u8.2.2.2.2.2.2.2.2.2.2.2.2.2.2.2.1.2.2.2.1 0), (u8.2.2.2.2.2.2.2.2.2.2.2.2.2.2.2.1.2.2.2.1 1), (u8.2.2.2.2.2.2.2.2.2.2.2.2.2.2.2.1.2.2.2.1 2), (u8.2.2.2.2.2.2.2.2.2.2.2.2.2.2.2.1.2.2.2.1 3), (u8.2.2.2.2.2.2.2.2.2.2.2.2.2.2.2.1.2.2.2.1 4), (u8.2.2.2.2.2.2.2.2.2.2.2.2.2.2.2.1.2.2.2.1 5), (u8.2.2.2.2.2.2.2.2.2.2.2.2.2.2.2.1.2.2.2.1 6), (u8.2.2.2.2.2.2.2.2.2.2.2.2.2.2.2.1.2.2.2.1 7), (u8.2.2.2.2.2.2.2.2.2.2.2.2.2.2.2.1.2.2.2.1 8), (u8.2.2.2.2.2.2.2.2.2.2.2.2.2.2.2.1.2.2.2.1 9), (u8.2.2.2.2.2.2.2.2.2.2.2.2.2.2.2.1.2.2.2.1 10), (u8.2.2.2.2.2.2.2.2.2.2.2.2.2.2.2.1.2.2.2.1 11), (u8.2.2.2.2.2.2.2.2.2.2.2.2.2.2.2.1.2.2.2.1 12), (u8.2.2.2.2.2.2.2.2.2.2.2.2.2.2.2.1.2.2.2.1 13), u8.2.2.2.2.2.2.2.2.2.2.2.2.2.2.2.1.2.2.2.2.1, (u8.2.2.2.2.2.2.2.2.2.2.2.2.2.2.2.1.2.2.2.2.2.1 0), (u8.2.2.2.2.2.2.2.2.2.2.2.2.2.2.2.1.2.2.2.2.2.1 1), (u8.2.2.2.2.2.2.2.2.2.2.2.2.2.2.2.1.2.2.2.2.2.1 2), (u8.2.2.2.2.2.2.2.2.2.2.2.2.2.2.2.1.2.2.2.2.2.1 3), (u8.2.2.2.2.2.2.2.2.2.2.2.2.2.2.2.1.2.2.2.2.2.1 4), (u8.2.2.2.2.2.2.2.2.2.2.2.2.2.2.2.1.2.2.2.2.2.1 5), (u8.2.2.2.2.2.2.2.2.2.2.2.2.2.2.2.1.2.2.2.2.2.1 6), (u8.2.2.2.2.2.2.2.2.2.2.2.2.2.2.2.1.2.2.2.2.2.1 7), (u8.2.2.2.2.2.2.2.2.2.2.2.2.2.2.2.1.2.2.2.2.2.1 8), (u8.2.2.2.2.2.2.2.2.2.2.2.2.2.2.2.1.2.2.2.2.2.1 9), (u8.2.2.2.2.2.2.2.2.2.2.2.2.2.2.2.1.2.2.2.2.2.1 10), (u8.2.2.2.2.2.2.2.2.2.2.2.2.2.2.2.1.2.2.2.2.2.1 11), (u8.2.2.2.2.2.2.2.2.2.2.2.2.2.2.2.1.2.2.2.2.2.1 12), (u8.2.2.2.2.2.2.2.2.2.2.2.2.2.2.2.1.2.2.2.2.2.1 13), u8.2.2.2.2.2.2.2.2.2.2.2.2.2.2.2.1.2.2.2.2.2.2.1, u8.2.2.2.2.2.2.2.2.2.2.2.2.2.2.2.1.2.2.2.2.2.2.2, u8.2.2.2.2.2.2.2.2.2.2.2.2.2.2.2.2.1, u8.2.2.2.2.2.2.2.2.2.2.2.2.2.2.2.2.2.1, u8.2.2.2.2.2.2.2.2.2.2.2.2.2.2.2.2.2.2.1, u8.2.2.2.2.2.2.2.2.2.2.2.2.2.2.2.2.2.2.2.1, u8.2.2.2.2.2.2.2.2.2.2.2.2.2.2.2.2.2.2.2.2.1, u8.2.2.2.2.2.2.2.2.2.2.2.2.2.2.2.2.2.2.2.2.2.1, u8.2.2.2.2.2.2.2.2.2.2.2.2.2.2.2.2.2.2.2.2.2.2.1, (u8.2.2.2.2.2.2.2.2.2.2.2.2.2.2.2.2.2.2.2.2.2.2.2 0), (u8.2.2.2.2.2.2.2.2.2.2.2.2.2.2.2.2.2.2.2.2.2.2.2 1), (u8.2.2.2.2.2.2.2.2.2.2.2.2.2.2.2.2.2.2.2.2.2.2.2 2), (u8.2.2.2.2.2.2.2.2.2.2.2.2.2.2.2.2.2.2.2.2.2.2.2 3), (u8.2.2.2.2.2.2.2.2.2.2.2.2.2.2.2.2.2.2.2.2.2.2.2 4), (u8.2.2.2.2.2.2.2.2.2.2.2.2.2.2.2.2.2.2.2.2.2.2.2 5), (u8.2.2.2.2.2.2.2.2.2.2.2.2.2.2.2.2.2.2.2.2.2.2.2 6), (u8.2.2.2.2.2.2.2.2.2.2.2.2.2.2.2.2.2.2.2.2.2.2.2 7), q1, u9.1, u9.2.1, u9.2.2.1, u9.2.2.2.1, u9.2.2.2.2.1, u9.2.2.2.2.2.1, u9.2.2.2.2.2.2.1, u9.2.2.2.2.2.2.2.1, u9.2.2.2.2.2.2.2.2.1, u9.2.2.2.2.2.2.2.2.2.1, u9.2.2.2.2.2.2.2.2.2.2.1, u9.2.2.2.2.2.2.2.2.2.2.2.1, u9.2.2.2.2.2.2.2.2.2.2.2.2.1, u9.2.2.2.2.2.2.2.2.2.2.2.2.2.1, u9.2.2.2.2.2.2.2.2.2.2.2.2.2.2.1, u9.2.2.2.2.2.2.2.2.2.2.2.2.2.2.2] : List Nat).getD k 0
theorem ad_0 {q0 q1 : Nat} {u8 : (Nat) × ((Nat)) × (Nat) × ((Nat)) × (Nat) × ((Nat)) × (Nat) × ((Nat) × (Nat → Nat)) × (Nat) × ((Nat) × (Nat → Nat)) × (Nat) × ((Nat) × (Nat) × (Nat)) × (Nat) × ((Nat) × (Nat)) × (Nat) × ((Nat) × ((Nat) × (Nat)) × (Nat) × (Nat → Nat) × (Nat) × (Nat → Nat) × (Nat) × (Nat)) × (Nat) × ((Nat) × (Nat) × (Nat) × (Nat) × (Nat) × (Nat) × (Nat → Nat))} {u9 : (Nat) × (Nat) × (Nat) × (Nat) × (Nat) × (Nat) × (Nat) × (Nat) × (Nat) × (Nat) × (Nat) × (Nat) × (Nat) × (Nat) × (Nat) × (Nat)} : ad_of q0 q1 u8 u9 0 = q0 := rfl
theorem ad_1 {q0 q1 : Nat} {u8 : (Nat) × ((Nat)) × (Nat) × ((Nat)) × (Nat) × ((Nat)) × (Nat) × ((Nat) × (Nat → Nat)) × (Nat) × ((Nat) × (Nat → Nat)) × (Nat) × ((Nat) × (Nat) × (Nat)) × (Nat) × ((Nat) × (Nat)) × (Nat) × ((Nat) × ((Nat) × (Nat)) × (Nat) × (Nat → Nat) × (Nat) × (Nat → Nat) × (Nat) × (Nat)) × (Nat) × ((Nat) × (Nat) × (Nat) × (Nat) × (Nat) × (Nat) × (Nat → Nat))} {u9 : (Nat) × (Nat) × (Nat) × (Nat) × (Nat) × (Nat) × (Nat) × (Nat) × (Nat) × (Nat) × (Nat) × (Nat) × (Nat) × (Nat) × (Nat) × (Nat)} : ad_of q0 q1 u8 u9 1 = u8.1 := rfl
theorem ad_2 {q0 q1 : Nat} {u8 : (Nat) × ((Nat)) × (Nat) × ((Nat)) × (Nat) × ((Nat)) × (Nat) × ((Nat) × (Nat → Nat)) × (Nat) × ((Nat) × (Nat → Nat)) × (Nat) × ((Nat) × (Nat) × (Nat)) × (Nat) × ((Nat) × (Nat)) × (Nat) × ((Nat) × ((Nat) × (Nat)) × (Nat) × (Nat → Nat) × (Nat) × (Nat → Nat) × (Nat) × (Nat)) × (Nat) × ((Nat) × (Nat) × (Nat) × (Nat) × (Nat) × (Nat) × (Nat → Nat))} {u9 : (Nat) × (Nat) × (Nat) × (Nat) × (Nat) × (Nat) × (Nat) × (Nat) × (Nat) × (Nat) × (Nat) × (Nat) × (Nat) × (Nat) × (Nat) × (Nat)} : ad_of q0 q1 u8 u9 2 = u8.2.1 := rfl
theorem ad_3 {q0 q1 : Nat} {u8 : (Nat) × ((Nat)) × (Nat) × ((Nat)) × (Nat) × ((Nat)) × (Nat) × ((Nat) × (Nat → Nat)) × (Nat) × ((Nat) × (Nat → Nat)) × (Nat) × ((Nat) × (Nat) × (Nat)) × (Nat) × ((Nat) × (Nat)) × (Nat) × ((Nat) × ((Nat) × (Nat)) × (Nat) × (Nat → Nat) × (Nat) × (Nat → Nat) × (Nat) × (Nat)) × (Nat) × ((Nat) × (Nat) × (Nat) × (Nat) × (Nat) × (Nat) × (Nat → Nat))} {u9 : (Nat) × (Nat) × (Nat) × (Nat) × (Nat) × (Nat) × (Nat) × (Nat) × (Nat) × (Nat) × (Nat) × (Nat) × (Nat) × (Nat) × (Nat) × (Nat)} : ad_of q0 q1 u8 u9 3 = u8.2.2.1 := rfl
theorem ad_4 {q0 q1 : Nat} {u8 : (Nat) × ((Nat)) × (Nat) × ((Nat)) × (Nat) × ((Nat)) × (Nat) × ((Nat) × (Nat → Nat)) × (Nat) × ((Nat) × (Nat → Nat)) × (Nat) × ((Nat) × (Nat) × (Nat)) × (Nat) × ((Nat) × (Nat)) × (Nat) × ((Nat) × ((Nat) × (Nat)) × (Nat) × (Nat → Nat) × (Nat) × (Nat → Nat) × (Nat) × (Nat)) × (Nat) × ((Nat) × (Nat) × (Nat) × (Nat) × (Nat) × (Nat) × (Nat → Nat))} {u9 : (Nat) × (Nat) × (Nat) × (Nat) × (Nat) × (Nat) × (Nat) × (Nat) × (Nat) × (Nat) × (Nat) × (Nat) × (Nat) × (Nat) × (Nat) × (Nat)} : ad_of q0 q1 u8 u9 4 = u8.2.2.2.1 := rfl
theorem ad_5 {q0 q1 : Nat} {u8 : (Nat) × ((Nat)) × (Nat) × ((Nat)) × (Nat) × ((Nat)) × (Nat) × ((Nat) × (Nat → Nat)) × (Nat) × ((Nat) × (Nat → Nat)) × (Nat) × ((Nat) × (Nat) × (Nat)) × (Nat) × ((Nat) × (Nat)) × (Nat) × ((Nat) × ((Nat) × (Nat)) × (Nat) × (Nat → Nat) × (Nat) × (Nat → Nat) × (Nat) × (Nat)) × (Nat) × ((Nat) × (Nat) × (Nat) × (Nat) × (Nat) × (Nat) × (Nat → Nat))} {u9 : (Nat) × (Nat) × (Nat) × (Nat) × (Nat) × (Nat) × (Nat) × (Nat) × (Nat) × (Nat) × (Nat) × (Nat) × (Nat) × (Nat) × (Nat) × (Nat)} : ad_of q0 q1 u8 u9 5 = u8.2.2.2.2.1 := rfl
theorem ad_6 {q0 q1 : Nat} {u8 : (Nat) × ((Nat)) × (Nat) × ((Nat)) × (Nat) × ((Nat)) × (Nat) × ((Nat) × (Nat → Nat)) × (Nat) × ((Nat) × (Nat → Nat)) × (Nat) × ((Nat) × (Nat) × (Nat)) × (Nat) × ((Nat) × (Nat)) × (Nat) × ((Nat) × ((Nat) × (Nat)) × (Nat) × (Nat → Nat) × (Nat) × (Nat → Nat) × (Nat) × (Nat)) × (Nat) × ((Nat) × (Nat) × (Nat) × (Nat) × (Nat) × (Nat) × (Nat → Nat))} {u9 : (Nat) × (Nat) × (Nat) × (Nat) × (Nat) × (Nat) × (Nat) × (Nat) × (Nat) × (Nat) × (Nat) × (Nat) × (Nat) × (Nat) × (Nat) × (Nat)} : ad_of q0 q1 u8 u9 6 = u8.2.2.2.2.2.1 := rfl
theorem ad_7 {q0 q1 : Nat} {u8 : (Nat) × ((Nat)) × (Nat) × ((Nat)) × (Nat) × ((Nat)) × (Nat) × ((Nat) × (Nat → Nat)) × (Nat) × ((Nat) × (Nat → Nat)) × (Nat) × ((Nat) × (Nat) × (Nat)) × (Nat) × ((Nat) × (Nat)) × (Nat) × ((Nat) × ((Nat) × (Nat)) × (Nat) × (Nat → Nat) × (Nat) × (Nat → Nat) × (Nat) × (Nat)) × (Nat) × ((Nat) × (Nat) × (Nat) × (Nat) × (Nat) × (Nat) × (Nat → Nat))} {u9 : (Nat) × (Nat) × (Nat) × (Nat) × (Nat) × (Nat) × (Nat) × (Nat) × (Nat) × (Nat) × (Nat) × (Nat) × (Nat) × (Nat) × (Nat) × (Nat)} : ad_of q0 q1 u8 u9 7 = u8.2.2.2.2.2.2.1 := rfl
theorem ad_8 {q0 q1 : Nat} {u8 : (Nat) × ((Nat)) × (Nat) × ((Nat)) × (Nat) × ((Nat)) × (Nat) × ((Nat) × (Nat → Nat)) × (Nat) × ((Nat) × (Nat → Nat)) × (Nat) × ((Nat) × (Nat) × (Nat)) × (Nat) × ((Nat) × (Nat)) × (Nat) × ((Nat) × ((Nat) × (Nat)) × (Nat) × (Nat → Nat) × (Nat) × (Nat → Nat) × (Nat) × (Nat)) × (Nat) × ((Nat) × (Nat) × (Nat) × (Nat) × (Nat) × (Nat) × (Nat → Nat))} {u9 : (Nat) × (Nat) × (Nat) × (Nat) × (Nat) × (Nat) × (Nat) × (Nat) × (Nat) × (Nat) × (Nat) × (Nat) × (Nat) × (Nat) × (Nat) × (Nat)} : ad_of q0 q1 u8 u9 8 = u8.2.2.2.2.2.2.2.1.1 := rfl
theorem ad_9 {q0 q1 : Nat} {u8 : (Nat) × ((Nat)) × (Nat) × ((Nat)) × (Nat) × ((Nat)) × (Nat) × ((Nat) × (Nat → Nat)) × (Nat) × ((Nat) × (Nat → Nat)) × (Nat) × ((Nat) × (Nat) × (Nat)) × (Nat) × ((Nat) × (Nat)) × (Nat) × ((Nat) × ((Nat) × (Nat)) × (Nat) × (Nat → Nat) × (Nat) × (Nat → Nat) × (Nat) × (Nat)) × (Nat) × ((Nat) × (Nat) × (Nat) × (Nat) × (Nat) × (Nat) × (Nat → Nat))} {u9 : (Nat) × (Nat) × (Nat) × (Nat) × (Nat) × (Nat) × (Nat) × (Nat) × (Nat) × (Nat) × (Nat) × (Nat) × (Nat) × (Nat) × (Nat) × (Nat)} : ad_of q0 q1 u8 u9 9 = (u8.2.2.2.2.2.2.2.1.2 0) := rfl
theorem ad_10 {q0 q1 : Nat} {u8 : (Nat) × ((Nat)) × (Nat) × ((Nat)) × (Nat) × ((Nat)) × (Nat) × ((Nat) × (Nat → Nat)) × (Nat) × ((Nat) × (Nat → Nat)) × (Nat) × ((Nat) × (Nat) × (Nat)) × (Nat) × ((Nat) × (Nat)) × (Nat) × ((Nat) × ((Nat) × (Nat)) × (Nat) × (Nat → Nat) × (Nat) × (Nat → Nat) × (Nat) × (Nat)) × (Nat) × ((Nat) × (Nat) × (Nat) × (Nat) × (Nat) × (Nat) × (Nat → Nat))} {u9 : (Nat) × (Nat) × (Nat) × (Nat) × (Nat) × (Nat) × (Nat) × (Nat) × (Nat) × (Nat) × (Nat) × (Nat) × (Nat) × (Nat) × (Nat) × (Nat)} : ad_of q0 q1 u8 u9 10 = (u8.2.2.2.2.2.2.2.1.2 1) := rfl
theorem ad_11 {q0 q1 : Nat} {u8 : (Nat) × ((Nat)) × (Nat) × ((Nat)) × (Nat) × ((Nat)) × (Nat) × ((Nat) × (Nat → Nat)) × (Nat) × ((Nat) × (Nat → Nat)) × (Nat) × ((Nat) × (Nat) × (Nat)) × (Nat) × ((Nat) × (Nat)) × (Nat) × ((Nat) × ((Nat) × (Nat)) × (Nat) × (Nat → Nat) × (Nat) × (Nat → Nat) × (Nat) × (Nat)) × (Nat) × ((Nat) × (Nat) × (Nat) × (Nat) × (Nat) × (Nat) × (Nat → Nat))} {u9 : (Nat) × (Nat) × (Nat) × (Nat) × (Nat) × (Nat) × (Nat) × (Nat) × (Nat) × (Nat) × (Nat) × (Nat) × (Nat) × (Nat) × (Nat) × (Nat)} : ad_of q0 q1 u8 u9 11 = (u8.2.2.2.2.2.2.2.1.2 2) := rfl
theorem ad_12 {q0 q1 : Nat} {u8 : (Nat) × ((Nat)) × (Nat) × ((Nat)) × (Nat) × ((Nat)) × (Nat) × ((Nat) × (Nat → Nat)) × (Nat) × ((Nat) × (Nat → Nat)) × (Nat) × ((Nat) × (Nat) × (Nat)) × (Nat) × ((Nat) × (Nat)) × (Nat) × ((Nat) × ((Nat) × (Nat)) × (Nat) × (Nat → Nat) × (Nat) × (Nat → Nat) × (Nat) × (Nat)) × (Nat) × ((Nat) × (Nat) × (Nat) × (Nat) × (Nat) × (Nat) × (Nat → Nat))} {u9 : (Nat) × (Nat) × (Nat) × (Nat) × (Nat) × (Nat) × (Nat) × (Nat) × (Nat) × (Nat) × (Nat) × (Nat) × (Nat) × (Nat) × (Nat) × (Nat)} : ad_of q0 q1 u8 u9 12 = (u8.2.2.2.2.2.2.2.1.2 3) := rfl
theorem ad_13 {q0 q1 : Nat} {u8 : (Nat) × ((Nat)) × (Nat) × ((Nat)) × (Nat) × ((Nat)) × (Nat) × ((Nat) × (Nat → Nat)) × (Nat) × ((Nat) × (Nat → Nat)) × (Nat) × ((Nat) × (Nat) × (Nat)) × (Nat) × ((Nat) × (Nat)) × (Nat) × ((Nat) × ((Nat) × (Nat)) × (Nat) × (Nat → Nat) × (Nat) × (Nat → Nat) × (Nat) × (Nat)) × (Nat) × ((Nat) × (Nat) × (Nat) × (Nat) × (Nat) × (Nat) × (Nat → Nat))} {u9 : (Nat) × (Nat) × (Nat) × (Nat) × (Nat) × (Nat) × (Nat) × (Nat) × (Nat) × (Nat) × (Nat) × (Nat) × (Nat) × (Nat) × (Nat) × (Nat)} : ad_of q0 q1 u8 u9 13 = (u8.2.2.2.2.2.2.2.1.2 4) := rfl
theorem ad_14 {q0 q1 : Nat} {u8 : (Nat) × ((Nat)) × (Nat) × ((Nat)) × (Nat) × ((Nat)) × (Nat) × ((Nat) × (Nat → Nat)) × (Nat) × ((Nat) × (Nat → Nat)) × (Nat) × ((Nat) × (Nat) × (Nat)) × (Nat) × ((Nat) × (Nat)) × (Nat) × ((Nat) × ((Nat) × (Nat)) × (Nat) × (Nat → Nat) × (Nat) × (Nat → Nat) × (Nat) × (Nat)) × (Nat) × ((Nat) × (Nat) × (Nat) × (Nat) × (Nat) × (Nat) × (Nat → Nat))} {u9 : (Nat) × (Nat) × (Nat) × (Nat) × (Nat) × (Nat) × (Nat) × (Nat) × (Nat) × (Nat) × (Nat) × (Nat) × (Nat) × (Nat) × (Nat) × (Nat)} : ad_of q0 q1 u8 u9 14 = (u8.2.2.2.2.2.2.2.1.2 5) := rfl
theorem ad_15 {q0 q1 : Nat} {u8 : (Nat) × ((Nat)) × (Nat) × ((Nat)) × (Nat) × ((Nat)) × (Nat) × ((Nat) × (Nat → Nat)) × (Nat) × ((Nat) × (Nat → Nat)) × (Nat) × ((Nat) × (Nat) × (Nat)) × (Nat) × ((Nat) × (Nat)) × (Nat) × ((Nat) × ((Nat) × (Nat)) × (Nat) × (Nat → Nat) × (Nat) × (Nat → Nat) × (Nat) × (Nat)) × (Nat) × ((Nat) × (Nat) × (Nat) × (Nat) × (Nat) × (Nat) × (Nat → Nat))} {u9 : (Nat) × (Nat) × (Nat) × (Nat) × (Nat) × (Nat) × (Nat) × (Nat) × (Nat) × (Nat) × (Nat) × (Nat) × (Nat) × (Nat) × (Nat) × (Nat)} : ad_of q0 q1 u8 u9 15 = (u8.2.2.2.2.2.2.2.1.2 6) := rfl
theorem ad_16 {q0 q1 : Nat} {u8 : (Nat) × ((Nat)) × (Nat) × ((Nat)) × (Nat) × ((Nat)) × (Nat) × ((Nat) × (Nat → Nat)) × (Nat) × ((Nat) × (Nat → Nat)) × (Nat) × ((Nat) × (Nat) × (Nat)) × (Nat) × ((Nat) × (Nat)) × (Nat) × ((Nat) × ((Nat) × (Nat)) × (Nat) × (Nat → Nat) × (Nat) × (Nat → Nat) × (Nat) × (Nat)) × (Nat) × ((Nat) × (Nat) × (Nat) × (Nat) × (Nat) × (Nat) × (Nat → Nat))} {u9 : (Nat) × (Nat) × (Nat) × (Nat) × (Nat) × (Nat) × (Nat) × (Nat) × (Nat) × (Nat) × (Nat) × (Nat) × (Nat) × (Nat) × (Nat) × (Nat)} : ad_of q0 q1 u8 u9 16 = (u8.2.2.2.2.2.2.2.1.2 7) := rfl
theorem ad_17 {q0 q1 : Nat} {u8 : (Nat) × ((Nat)) × (Nat) × ((Nat)) × (Nat) × ((Nat)) × (Nat) × ((Nat) × (Nat → Nat)) × (Nat) × ((Nat) × (Nat → Nat)) × (Nat) × ((Nat) × (Nat) × (Nat)) × (Nat) × ((Nat) × (Nat)) × (Nat) × ((Nat) × ((Nat) × (Nat)) × (Nat) × (Nat → Nat) × (Nat) × (Nat → Nat) × (Nat) × (Nat)) × (Nat) × ((Nat) × (Nat) × (Nat) × (Nat) × (Nat) × (Nat) × (Nat → Nat))} {u9 : (Nat) × (Nat) × (Nat) × (Nat) × (Nat) × (Nat) × (Nat) × (Nat) × (Nat) × (Nat) × (Nat) × (Nat) × (Nat) × (Nat) × (Nat) × (Nat)} : ad_of q0 q1 u8 u9 17 = (u8.2.2.2.2.2.2.2.1.2 8) := rfl
theorem ad_18 {q0 q1 : Nat} {u8 : (Nat) × ((Nat)) × (Nat) × ((Nat)) × (Nat) × ((Nat)) × (Nat) × ((Nat) × (Nat → Nat)) × (Nat) × ((Nat) × (Nat → Nat)) × (Nat) × ((Nat) × (Nat) × (Nat)) × (Nat) × ((Nat) × (Nat)) × (Nat) × ((Nat) × ((Nat) × (Nat)) × (Nat) × (Nat → Nat) × (Nat) × (Nat → Nat) × (Nat) × (Nat)) × (Nat) × ((Nat) × (Nat) × (Nat) × (Nat) × (Nat) × (Nat) × (Nat → Nat))} {u9 : (Nat) × (Nat) × (Nat) × (Nat) × (Nat) × (Nat) × (Nat) × (Nat) × (Nat) × (Nat) × (Nat) × (Nat) × (Nat) × (Nat) × (Nat) × (Nat)} : ad_of q0 q1 u8 u9 18 = (u8.2.2.2.2.2.2.2.1.2 9) := rfl
theorem ad_19 {q0 q1 : Nat} {u8 : (Nat) × ((Nat)) × (Nat) × ((Nat)) × (Nat) × ((Nat)) × (Nat) × ((Nat) × (Nat → Nat)) × (Nat) × ((Nat) × (Nat → Nat)) × (Nat) × ((Nat) × (Nat) × (Nat)) × (Nat) × ((Nat) × (Nat)) × (Nat) × ((Nat) × ((Nat) × (Nat)) × (Nat) × (Nat → Nat) × (Nat) × (Nat → Nat) × (Nat) × (Nat)) × (Nat) × ((Nat) × (Nat) × (Nat) × (Nat) × (Nat) × (Nat) × (Nat → Nat))} {u9 : (Nat) × (Nat) × (Nat) × (Nat) × (Nat) × (Nat) × (Nat) × (Nat) × (Nat) × (Nat) × (Nat) × (Nat) × (Nat) × (Nat) × (Nat) × (Nat)} : ad_of q0 q1 u8 u9 19 = u8.2.2.2.2.2.2.2.2.1 := rfl
theorem ad_20 {q0 q1 : Nat} {u8 : (Nat) × ((Nat)) × (Nat) × ((Nat)) × (Nat) × ((Nat)) × (Nat) × ((Nat) × (Nat → Nat)) × (Nat) × ((Nat) × (Nat → Nat)) × (Nat) × ((Nat) × (Nat) × (Nat)) × (Nat) × ((Nat) × (Nat)) × (Nat) × ((Nat) × ((Nat) × (Nat)) × (Nat) × (Nat → Nat) × (Nat) × (Nat → Nat) × (Nat) × (Nat)) × (Nat) × ((Nat) × (Nat) × (Nat) × (Nat) × (Nat) × (Nat) × (Nat → Nat))} {u9 : (Nat) × (Nat) × (Nat) × (Nat) × (Nat) × (Nat) × (Nat) × (Nat) × (Nat) × (Nat) × (Nat) × (Nat) × (Nat) × (Nat) × (Nat) × (Nat)} : ad_of q0 q1 u8 u9 20 = u8.2.2.2.2.2.2.2.2.2.1.1 := rfl
theorem ad_21 {q0 q1 : Nat} {u8 : (Nat) × ((Nat)) × (Nat) × ((Nat)) × (Nat) × ((Nat)) × (Nat) × ((Nat) × (Nat → Nat)) × (Nat) × ((Nat) × (Nat → Nat)) × (Nat) × ((Nat) × (Nat) × (Nat)) × (Nat) × ((Nat) × (Nat)) × (Nat) × ((Nat) × ((Nat) × (Nat)) × (Nat) × (Nat → Nat) × (Nat) × (Nat → Nat) × (Nat) × (Nat)) × (Nat) × ((Nat) × (Nat) × (Nat) × (Nat) × (Nat) × (Nat) × (Nat → Nat))} {u9 : (Nat) × (Nat) × (Nat) × (Nat) × (Nat) × (Nat) × (Nat) × (Nat) × (Nat) × (Nat) × (Nat) × (Nat) × (Nat) × (Nat) × (Nat) × (Nat)} : ad_of q0 q1 u8 u9 21 = (u8.2.2.2.2.2.2.2.2.2.1.2 0) := rfl
theorem ad_22 {q0 q1 : Nat} {u8 : (Nat) × ((Nat)) × (Nat) × ((Nat)) × (Nat) × ((Nat)) × (Nat) × ((Nat) × (Nat → Nat)) × (Nat) × ((Nat) × (Nat → Nat)) × (Nat) × ((Nat) × (Nat) × (Nat)) × (Nat) × ((Nat) × (Nat)) × (Nat) × ((Nat) × ((Nat) × (Nat)) × (Nat) × (Nat → Nat) × (Nat) × (Nat → Nat) × (Nat) × (Nat)) × (Nat) × ((Nat) × (Nat) × (Nat) × (Nat) × (Nat) × (Nat) × (Nat → Nat))} {u9 : (Nat) × (Nat) × (Nat) × (Nat) × (Nat) × (Nat) × (Nat) × (Nat) × (Nat) × (Nat) × (Nat) × (Nat) × (Nat) × (Nat) × (Nat) × (Nat)} : ad_of q0 q1 u8 u9 22 = (u8.2.2.2.2.2.2.2.2.2.1.2 1) := rfl
theorem ad_23 {q0 q1 : Nat} {u8 : (Nat) × ((Nat)) × (Nat) × ((Nat)) × (Nat) × ((Nat)) × (Nat) × ((Nat) × (Nat → Nat)) × (Nat) × ((Nat) × (Nat → Nat)) × (Nat) × ((Nat) × (Nat) × (Nat)) × (Nat) × ((Nat) × (Nat)) × (Nat) × ((Nat) × ((Nat) × (Nat)) × (Nat) × (Nat → Nat) × (Nat) × (Nat → Nat) × (Nat) × (Nat)) × (Nat) × ((Nat) × (Nat) × (Nat) × (Nat) × (Nat) × (Nat) × (Nat → Nat))} {u9 : (Nat) × (Nat) × (Nat) × (Nat) × (Nat) × (Nat) × (Nat) × (Nat) × (Nat) × (Nat) × (Nat) × (Nat) × (Nat) × (Nat) × (Nat) × (Nat)} : ad_of q0 q1 u8 u9 23 = u8.2.2.2.2.2.2.2.2.2.2.1 := rfl
theorem ad_24 {q0 q1 : Nat} {u8 : (Nat) × ((Nat)) × (Nat) × ((Nat)) × (Nat) × ((Nat)) × (Nat) × ((Nat) × (Nat → Nat)) × (Nat) × ((Nat) × (Nat → Nat)) × (Nat) × ((Nat) × (Nat) × (Nat)) × (Nat) × ((Nat) × (Nat)) × (Nat) × ((Nat) × ((Nat) × (Nat)) × (Nat) × (Nat → Nat) × (Nat) × (Nat → Nat) × (Nat) × (Nat)) × (Nat) × ((Nat) × (Nat) × (Nat) × (Nat) × (Nat) × (Nat) × (Nat → Nat))} {u9 : (Nat) × (Nat) × (Nat) × (Nat) × (Nat) × (Nat) × (Nat) × (Nat) × (Nat) × (Nat) × (Nat) × (Nat) × (Nat) × (Nat) × (Nat) × (Nat)} : ad_of q0 q1 u8 u9 24 = u8.2.2.2.2.2.2.2.2.2.2.2.1.1 := rfl
theorem ad_25 {q0 q1 : Nat} {u8 : (Nat) × ((Nat)) × (Nat) × ((Nat)) × (Nat) × ((Nat)) × (Nat) × ((Nat) × (Nat → Nat)) × (Nat) × ((Nat) × (Nat → Nat)) × (Nat) × ((Nat) × (Nat) × (Nat)) × (Nat) × ((Nat) × (Nat)) × (Nat) × ((Nat) × ((Nat) × (Nat)) × (Nat) × (Nat → Nat) × (Nat) × (Nat → Nat) × (Nat) × (Nat)) × (Nat) × ((Nat) × (Nat) × (Nat) × (Nat) × (Nat) × (Nat) × (Nat → Nat))} {u9 : (Nat) × (Nat) × (Nat) × (Nat) × (Nat) × (Nat) × (Nat) × (Nat) × (Nat) × (Nat) × (Nat) × (Nat) × (Nat) × (Nat) × (Nat) × (Nat)} : ad_of q0 q1 u8 u9 25 = u8.2.2.2.2.2.2.2.2.2.2.2.1.2.1 := rfl
theorem ad_26 {q0 q1 : Nat} {u8 : (Nat) × ((Nat)) × (Nat) × ((Nat)) × (Nat) × ((Nat)) × (Nat) × ((Nat) × (Nat → Nat)) × (Nat) × ((Nat) × (Nat → Nat)) × (Nat) × ((Nat) × (Nat) × (Nat)) × (Nat) × ((Nat) × (Nat)) × (Nat) × ((Nat) × ((Nat) × (Nat)) × (Nat) × (Nat → Nat) × (Nat) × (Nat → Nat) × (Nat) × (Nat)) × (Nat) × ((Nat) × (Nat) × (Nat) × (Nat) × (Nat) × (Nat) × (Nat → Nat))} {u9 : (Nat) × (Nat) × (Nat) × (Nat) × (Nat) × (Nat) × (Nat) × (Nat) × (Nat) × (Nat) × (Nat) × (Nat) × (Nat) × (Nat) × (Nat) × (Nat)} : ad_of q0 q1 u8 u9 26 = u8.2.2.2.2.2.2.2.2.2.2.2.1.2.2 := rfl
theorem ad_27 {q0 q1 : Nat} {u8 : (Nat) × ((Nat)) × (Nat) × ((Nat)) × (Nat) × ((Nat)) × (Nat) × ((Nat) × (Nat → Nat)) × (Nat) × ((Nat) × (Nat → Nat)) × (Nat) × ((Nat) × (Nat) × (Nat)) × (Nat) × ((Nat) × (Nat)) × (Nat) × ((Nat) × ((Nat) × (Nat)) × (Nat) × (Nat → Nat) × (Nat) × (Nat → Nat) × (Nat) × (Nat)) × (Nat) × ((Nat) × (Nat) × (Nat) × (Nat) × (Nat) × (Nat) × (Nat → Nat))} {u9 : (Nat) × (Nat) × (Nat) × (Nat) × (Nat) × (Nat) × (Nat) × (Nat) × (Nat) × (Nat) × (Nat) × (Nat) × (Nat) × (Nat) × (Nat) × (Nat)} : ad_of q0 q1 u8 u9 27 = u8.2.2.2.2.2.2.2.2.2.2.2.2.1 := rfl
theorem ad_28 {q0 q1 : Nat} {u8 : (Nat) × ((Nat)) × (Nat) × ((Nat)) × (Nat) × ((Nat)) × (Nat) × ((Nat) × (Nat → Nat)) × (Nat) × ((Nat) × (Nat → Nat)) × (Nat) × ((Nat) × (Nat) × (Nat)) × (Nat) × ((Nat) × (Nat)) × (Nat) × ((Nat) × ((Nat) × (Nat)) × (Nat) × (Nat → Nat) × (Nat) × (Nat → Nat) × (Nat) × (Nat)) × (Nat) × ((Nat) × (Nat) × (Nat) × (Nat) × (Nat) × (Nat) × (Nat → Nat))} {u9 : (Nat) × (Nat) × (Nat) × (Nat) × (Nat) × (Nat) × (Nat) × (Nat) × (Nat) × (Nat) × (Nat) × (Nat) × (Nat) × (Nat) × (Nat) × (Nat)} : ad_of q0 q1 u8 u9 28 = u8.2.2.2.2.2.2.2.2.2.2.2.2.2.1.1 := rfl
theorem ad_29 {q0 q1 : Nat} {u8 : (Nat) × ((Nat)) × (Nat) × ((Nat)) × (Nat) × ((Nat)) × (Nat) × ((Nat) × (Nat → Nat)) × (Nat) × ((Nat) × (Nat → Nat)) × (Nat) × ((Nat) × (Nat) × (Nat)) × (Nat) × ((Nat) × (Nat)) × (Nat) × ((Nat) × ((Nat) × (Nat)) × (Nat) × (Nat → Nat) × (Nat) × (Nat → Nat) × (Nat) × (Nat)) × (Nat) × ((Nat) × (Nat) × (Nat) × (Nat) × (Nat) × (Nat) × (Nat → Nat))} {u9 : (Nat) × (Nat) × (Nat) × (Nat) × (Nat) × (Nat) × (Nat) × (Nat) × (Nat) × (Nat) × (Nat) × (Nat) × (Nat) × (Nat) × (Nat) × (Nat)} : ad_of q0 q1 u8 u9 29 = u8.2.2.2.2.2.2.2.2.2.2.2.2.2.1.2 := rfl
theorem ad_30 {q0 q1 : Nat} {u8 : (Nat) × ((Nat)) × (Nat) × ((Nat)) × (Nat) × ((Nat)) × (Nat) × ((Nat) × (Nat → Nat)) × (Nat) × ((Nat) × (Nat → Nat)) × (Nat) × ((Nat) × (Nat) × (Nat)) × (Nat) × ((Nat) × (Nat)) × (Nat) × ((Nat) × ((Nat) × (Nat)) × (Nat) × (Nat → Nat) × (Nat) × (Nat → Nat) × (Nat) × (Nat)) × (Nat) × ((Nat) × (Nat) × (Nat) × (Nat) × (Nat) × (Nat) × (Nat → Nat))} {u9 : (Nat) × (Nat) × (Nat) × (Nat) × (Nat) × (Nat) × (Nat) × (Nat) × (Nat) × (Nat) × (Nat) × (Nat) × (Nat) × (Nat) × (Nat) × (Nat)} : ad_of q0 q1 u8 u9 30 = u8.2.2.2.2.2.2.2.2.2.2.2.2.2.2.1 := rfl
theorem ad_31 {q0 q1 : Nat} {u8 : (Nat) × ((Nat)) × (Nat) × ((Nat)) × (Nat) × ((Nat)) × (Nat) × ((Nat) × (Nat → Nat)) × (Nat) × ((Nat) × (Nat → Nat)) × (Nat) × ((Nat) × (Nat) × (Nat)) × (Nat) × ((Nat) × (Nat)) × (Nat) × ((Nat) × ((Nat) × (Nat)) × (Nat) × (Nat → Nat) × (Nat) × (Nat → Nat) × (Nat) × (Nat)) × (Nat) × ((Nat) × (Nat) × (Nat) × (Nat) × (Nat) × (Nat) × (Nat → Nat))} {u9 : (Nat) × (Nat) × (Nat) × (Nat) × (Nat) × (Nat) × (Nat) × (Nat) × (Nat) × (Nat) × (Nat) × (Nat) × (Nat) × (Nat) × (Nat) × (Nat)} : ad_of q0 q1 u8 u9 31 = u8.2.2.2.2.2.2.2.2.2.2.2.2.2.2.2.1.1 := rfl
theorem ad_32 {q0 q1 : Nat} {u8 : (Nat) × ((Nat)) × (Nat) × ((Nat)) × (Nat) × ((Nat)) × (Nat) × ((Nat) × (Nat → Nat)) × (Nat) × ((Nat) × (Nat → Nat)) × (Nat) × ((Nat) × (Nat) × (Nat)) × (Nat) × ((Nat) × (Nat)) × (Nat) × ((Nat) × ((Nat) × (Nat)) × (Nat) × (Nat → Nat) × (Nat) × (Nat → Nat) × (Nat) × (Nat)) × (Nat) × ((Nat) × (Nat) × (Nat) × (Nat) × (Nat) × (Nat) × (Nat → Nat))} {u9 : (Nat) × (Nat) × (Nat) × (Nat) × (Nat) × (Nat) × (Nat) × (Nat) × (Nat) × (Nat) × (Nat) × (Nat) × (Nat) × (Nat) × (Nat) × (Nat)} : ad_of q0 q1 u8 u9 32 = u8.2.2.2.2.2.2.2.2.2.2.2.2.2.2.2.1.2.1.1 := rfl
theorem ad_33 {q0 q1 : Nat} {u8 : (Nat) × ((Nat)) × (Nat) × ((Nat)) × (Nat) × ((Nat)) × (Nat) × ((Nat) × (Nat → Nat)) × (Nat) × ((Nat) × (Nat → Nat)) × (Nat) × ((Nat) × (Nat) × (Nat)) × (Nat) × ((Nat) × (Nat)) × (Nat) × ((Nat) × ((Nat) × (Nat)) × (Nat) × (Nat → Nat) × (Nat) × (Nat → Nat) × (Nat) × (Nat)) × (Nat) × ((Nat) × (Nat) × (Nat) × (Nat) × (Nat) × (Nat) × (Nat → Nat))} {u9 : (Nat) × (Nat) × (Nat) × (Nat) × (Nat) × (Nat) × (Nat) × (Nat) × (Nat) × (Nat) × (Nat) × (Nat) × (Nat) × (Nat) × (Nat) × (Nat)} : ad_of q0 q1 u8 u9 33 = u8.2.2.2.2.2.2.2.2.2.2.2.2.2.2.2.1.2.1.2 := rfl
theorem ad_34 {q0 q1 : Nat} {u8 : (Nat) × ((Nat)) × (Nat) × ((Nat)) × (Nat) × ((Nat)) × (Nat) × ((Nat) × (Nat → Nat)) × (Nat) × ((Nat) × (Nat → Nat)) × (Nat) × ((Nat) × (Nat) × (Nat)) × (Nat) × ((Nat) × (Nat)) × (Nat) × ((Nat) × ((Nat) × (Nat)) × (Nat) × (Nat → Nat) × (Nat) × (Nat → Nat) × (Nat) × (Nat)) × (Nat) × ((Nat) × (Nat) × (Nat) × (Nat) × (Nat) × (Nat) × (Nat → Nat))} {u9 : (Nat) × (Nat) × (Nat) × (Nat) × (Nat) × (Nat) × (Nat) × (Nat) × (Nat) × (Nat) × (Nat) × (Nat) × (Nat) × (Nat) × (Nat) × (Nat)} : ad_of q0 q1 u8 u9 34 = u8.2.2.2.2.2.2.2.2.2.2.2.2.2.2.2.1.2.2.1 := rfl
theorem ad_35 {q0 q1 : Nat} {u8 : (Nat) × ((Nat)) × (Nat) × ((Nat)) × (Nat) × ((Nat)) × (Nat) × ((Nat) × (Nat → Nat)) × (Nat) × ((Nat) × (Nat → Nat)) × (Nat) × ((Nat) × (Nat) × (Nat)) × (Nat) × ((Nat) × (Nat)) × (Nat) × ((Nat) × ((Nat) × (Nat)) × (Nat) × (Nat → Nat) × (Nat) × (Nat → Nat) × (Nat) × (Nat)) × (Nat) × ((Nat) × (Nat) × (Nat) × (Nat) × (Nat) × (Nat) × (Nat → Nat))} {u9 : (Nat) × (Nat) × (Nat) × (Nat) × (Nat) × (Nat) × (Nat) × (Nat) × (Nat) × (Nat) × (Nat) × (Nat) × (Nat) × (Nat) × (Nat) × (Nat)} : ad_of q0 q1 u8 u9 35 = (u8.2.2.2.2.2.2.2.2.2.2.2.2.2.2.2.1.2.2.2.1 0) := rfl
theorem ad_36 {q0 q1 : Nat} {u8 : (Nat) × ((Nat)) × (Nat) × ((Nat)) × (Nat) × ((Nat)) × (Nat) × ((Nat) × (Nat → Nat)) × (Nat) × ((Nat) × (Nat → Nat)) × (Nat) × ((Nat) × (Nat) × (Nat)) × (Nat) × ((Nat) × (Nat)) × (Nat) × ((Nat) × ((Nat) × (Nat)) × (Nat) × (Nat → Nat) × (Nat) × (Nat → Nat) × (Nat) × (Nat)) × (Nat) × ((Nat) × (Nat) × (Nat) × (Nat) × (Nat) × (Nat) × (Nat → Nat))} {u9 : (Nat) × (Nat) × (Nat) × (Nat) × (Nat) × (Nat) × (Nat) × (Nat) × (Nat) × (Nat) × (Nat) × (Nat) × (Nat) × (Nat) × (Nat) × (Nat)} : ad_of q0 q1 u8 u9 36 = (u8.2.2.2.2.2.2.2.2.2.2.2.2.2.2.2.1.2.2.2.1 1) := rfl
theorem ad_37 {q0 q1 : Nat} {u8 : (Nat) × ((Nat)) × (Nat) × ((Nat)) × (Nat) × ((Nat)) × (Nat) × ((Nat) × (Nat → Nat)) × (Nat) × ((Nat) × (Nat → Nat)) × (Nat) × ((Nat) × (Nat) × (Nat)) × (Nat) × ((Nat) × (Nat)) × (Nat) × ((Nat) × ((Nat) × (Nat)) × (Nat) × (Nat → Nat) × (Nat) × (Nat → Nat) × (Nat) × (Nat)) × (Nat) × ((Nat) × (Nat) × (Nat) × (Nat) × (Nat) × (Nat) × (Nat → Nat))} {u9 : (Nat) × (Nat) × (Nat) × (Nat) × (Nat) × (Nat) × (Nat) × (Nat) × (Nat) × (Nat) × (Nat) × (Nat) × (Nat) × (Nat) × (Nat) × (Nat)} : ad_of q0 q1 u8 u9 37 = (u8.2.2.2.2.2.2.2.2.2.2.2.2.2.2.2.1.2.2.2.1 2) := rfl
theorem ad_38 {q0 q1 : Nat} {u8 : (Nat) × ((Nat)) × (Nat) × ((Nat)) × (Nat) × ((Nat)) × (Nat) × ((Nat) × (Nat → Nat)) × (Nat) × ((Nat) × (Nat → Nat)) × (Nat) × ((Nat) × (Nat) × (Nat)) × (Nat) × ((Nat) × (Nat)) × (Nat) × ((Nat) × ((Nat) × (Nat)) × (Nat) × (Nat → Nat) × (Nat) × (Nat → Nat) × (Nat) × (Nat)) × (Nat) × ((Nat) × (Nat) × (Nat) × (Nat) × (Nat) × (Nat) × (Nat → Nat))} {u9 : (Nat) × (Nat) × (Nat) × (Nat) × (Nat) × (Nat) × (Nat) × (Nat) × (Nat) × (Nat) × (Nat) × (Nat) × (Nat) × (Nat) × (Nat) × (Nat)} : ad_of q0 q1 u8 u9 38 = (u8.2.2.2.2.2.2.2.2.2.2.2.2.2.2.2.1.2.2.2.1 3) := rfl
theorem ad_39 {q0 q1 : Nat} {u8 : (Nat) × ((Nat)) × (Nat) × ((Nat)) × (Nat) × ((Nat)) × (Nat) × ((Nat) × (Nat → Nat)) × (Nat) × ((Nat) × (Nat → Nat)) × (Nat) × ((Nat) × (Nat) × (Nat)) × (Nat) × ((Nat) × (Nat)) × (Nat) × ((Nat) × ((Nat) × (Nat)) × (Nat) × (Nat → Nat) × (Nat) × (Nat → Nat) × (Nat) × (Nat)) × (Nat) × ((Nat) × (Nat) × (Nat) × (Nat) × (Nat) × (Nat) × (Nat → Nat))} {u9 : (Nat) × (Nat) × (Nat) × (Nat) × (Nat) × (Nat) × (Nat) × (Nat) × (Nat) × (Nat) × (Nat) × (Nat) × (Nat) × (Nat) × (Nat) × (Nat)} : ad_of q0 q1 u8 u9 39 = (u8.2.2.2.2.2.2.2.2.2.2.2.2.2.2.2.1.2.2.2.1 4) := rfl
theorem ad_40 {q0 q1 : Nat} {u8 : (Nat) × ((Nat)) × (Nat) × ((Nat)) × (Nat) × ((Nat)) × (Nat) × ((Nat) × (Nat → Nat)) × (Nat) × ((Nat) × (Nat → Nat)) × (Nat) × ((Nat) × (Nat) × (Nat)) × (Nat) × ((Nat) × (Nat)) × (Nat) × ((Nat) × ((Nat) × (Nat)) × (Nat) × (Nat → Nat) × (Nat) × (Nat → Nat) × (Nat) × (Nat)) × (Nat) × ((Nat) × (Nat) × (Nat) × (Nat) × (Nat) × (Nat) × (Nat → Nat))} {u9 : (Nat) × (Nat) × (Nat) × (Nat) × (Nat) × (Nat) × (Nat) × (Nat) × (Nat) × (Nat) × (Nat) × (Nat) × (Nat) × (Nat) × (Nat) × (Nat)} : ad_of q0 q1 u8 u9 40 = (u8.2.2.2.2.2.2.2.2.2.2.2.2.2.2.2.1.2.2.2.1 5) := rfl
theorem ad_41 {q0 q1 : Nat} {u8 : (Nat) × ((Nat)) × (Nat) × ((Nat)) × (Nat) × ((Nat)) × (Nat) × ((Nat) × (Nat → Nat)) × (Nat) × ((Nat) × (Nat → Nat)) × (Nat) × ((Nat) × (Nat) × (Nat)) × (Nat) × ((Nat) × (Nat)) × (Nat) × ((Nat) × ((Nat) × (Nat)) × (Nat) × (Nat → Nat) × (Nat) × (Nat → Nat) × (Nat) × (Nat)) × (Nat) × ((Nat) × (Nat) × (Nat) × (Nat) × (Nat) × (Nat) × (Nat → Nat))} {u9 : (Nat) × (Nat) × (Nat) × (Nat) × (Nat) × (Nat) × (Nat) × (Nat) × (Nat) × (Nat) × (Nat) × (Nat) × (Nat) × (Nat) × (Nat) × (Nat)} : ad_of q0 q1 u8 u9 41 = (u8.2.2.2.2.2.2.2.2.2.2.2.2.2.2.2.1.2.2.2.1 6) := rfl
theorem ad_42 {q0 q1 : Nat} {u8 : (Nat) × ((Nat)) × (Nat) × ((Nat)) × (Nat) × ((Nat)) × (Nat) × ((Nat) × (Nat → Nat)) × (Nat) × ((Nat) × (Nat → Nat)) × (Nat) × ((Nat) × (Nat) × (Nat)) × (Nat) × ((Nat) × (Nat)) × (Nat) × ((Nat) × ((Nat) × (Nat)) × (Nat) × (Nat → Nat) × (Nat) × (Nat → Nat) × (Nat) × (Nat)) × (Nat) × ((Nat) × (Nat) × (Nat) × (Nat) × (Nat) × (Nat) × (Nat → Nat))} {u9 : (Nat) × (Nat) × (Nat) × (Nat) × (Nat) × (Nat) × (Nat) × (Nat) × (Nat) × (Nat) × (Nat) × (Nat) × (Nat) × (Nat) × (Nat) × (Nat)} : ad_of q0 q1 u8 u9 42 = (u8.2.2.2.2.2.2.2.2.2.2.2.2.2.2.2.1.2.2.2.1 7) := rfl
theorem ad_43 {q0 q1 : Nat} {u8 : (Nat) × ((Nat)) × (Nat) × ((Nat)) × (Nat) × ((Nat)) × (Nat) × ((Nat) × (Nat → Nat)) × (Nat) × ((Nat) × (Nat → Nat)) × (Nat) × ((Nat) × (Nat) × (Nat)) × (Nat) × ((Nat) × (Nat)) × (Nat) × ((Nat) × ((Nat) × (Nat)) × (Nat) × (Nat → Nat) × (Nat) × (Nat → Nat) × (Nat) × (Nat)) × (Nat) × ((Nat) × (Nat) × (Nat) × (Nat) × (Nat) × (Nat) × (Nat → Nat))} {u9 : (Nat) × (Nat) × (Nat) × (Nat) × (Nat) × (Nat) × (Nat) × (Nat) × (Nat) × (Nat) × (Nat) × (Nat) × (Nat) × (Nat) × (Nat) × (Nat)} : ad_of q0 q1 u8 u9 43 = (u8.2.2.2.2.2.2.2.2.2.2.2.2.2.2.2.1.2.2.2.1 8) := rfl
theorem ad_44 {q0 q1 : Nat} {u8 : (Nat) × ((Nat)) × (Nat) × ((Nat)) × (Nat) × ((Nat)) × (Nat) × ((Nat) × (Nat → Nat)) × (Nat) × ((Nat) × (Nat → Nat)) × (Nat) × ((Nat) × (Nat) × (Nat)) × (Nat) × ((Nat) × (Nat)) × (Nat) × ((Nat) × ((Nat) × (Nat)) × (Nat) × (Nat → Nat) × (Nat) × (Nat → Nat) × (Nat) × (Nat)) × (Nat) × ((Nat) × (Nat) × (Nat) × (Nat) × (Nat) × (Nat) × (Nat → Nat))} {u9 : (Nat) × (Nat) × (Nat) × (Nat) × (Nat) × (Nat) × (Nat) × (Nat) × (Nat) × (Nat) × (Nat) × (Nat) × (Nat) × (Nat) × (Nat) × (Nat)} : ad_of q0 q1 u8 u9 44 = (u8.2.2.2.2.2.2.2.2.2.2.2.2.2.2.2.1.2.2.2.1 9) := rfl
theorem ad_45 {q0 q1 : Nat} {u8 : (Nat) × ((Nat)) × (Nat) × ((Nat)) × (Nat) × ((Nat)) × (Nat) × ((Nat) × (Nat → Nat)) × (Nat) × ((Nat) × (Nat → Nat)) × (Nat) × ((Nat) × (Nat) × (Nat)) × (Nat) × ((Nat) × (Nat)) × (Nat) × ((Nat) × ((Nat) × (Nat)) × (Nat) × (Nat → Nat) × (Nat) × (Nat → Nat) × (Nat) × (Nat)) × (Nat) × ((Nat) × (Nat) × (Nat) × (Nat) × (Nat) × (Nat) × (Nat → Nat))} {u9 : (Nat) × (Nat) × (Nat) × (Nat) × (Nat) × (Nat) × (Nat) × (Nat) × (Nat) × (Nat) × (Nat) × (Nat) × (Nat) × (Nat) × (Nat) × (Nat)} : ad_of q0 q1 u8 u9 45 = (u8.2.2.2.2.2.2.2.2.2.2.2.2.2.2.2.1.2.2.2.1 10) := rfl
theorem ad_46 {q0 q1 : Nat} {u8 : (Nat) × ((Nat)) × (Nat) × ((Nat)) × (Nat) × ((Nat)) × (Nat) × ((Nat) × (Nat → Nat)) × (Nat) × ((Nat) × (Nat → Nat)) × (Nat) × ((Nat) × (Nat) × (Nat)) × (Nat) × ((Nat) × (Nat)) × (Nat) × ((Nat) × ((Nat) × (Nat)) × (Nat) × (Nat → Nat) × (Nat) × (Nat → Nat) × (Nat) × (Nat)) × (Nat) × ((Nat) × (Nat) × (Nat) × (Nat) × (Nat) × (Nat) × (Nat → Nat))} {u9 : (Nat) × (Nat) × (Nat) × (Nat) × (Nat) × (Nat) × (Nat) × (Nat) × (Nat) × (Nat) × (Nat) × (Nat) × (Nat) × (Nat) × (Nat) × (Nat)} : ad_of q0 q1 u8 u9 46 = (u8.2.2.2.2.2.2.2.2.2.2.2.2.2.2.2.1.2.2.2.1 11) := rfl
theorem ad_47 {q0 q1 : Nat} {u8 : (Nat) × ((Nat)) × (Nat) × ((Nat)) × (Nat) × ((Nat)) × (Nat) × ((Nat) × (Nat → Nat)) × (Nat) × ((Nat) × (Nat → Nat)) × (Nat) × ((Nat) × (Nat) × (Nat)) × (Nat) × ((Nat) × (Nat)) × (Nat) × ((Nat) × ((Nat) × (Nat)) × (Nat) × (Nat → Nat) × (Nat) × (Nat → Nat) × (Nat) × (Nat)) × (Nat) × ((Nat) × (Nat) × (Nat) × (Nat) × (Nat) × (Nat) × (Nat → Nat))} {u9 : (Nat) × (Nat) × (Nat) × (Nat) × (Nat) × (Nat) × (Nat) × (Nat) × (Nat) × (Nat) × (Nat) × (Nat) × (Nat) × (Nat) × (Nat) × (Nat)} : ad_of q0 q1 u8 u9 47 = (u8.2.2.2.2.2.2.2.2.2.2.2.2.2.2.2.1.2.2.2.1 12) := rfl
theorem ad_48 {q0 q1 : Nat} {u8 : (Nat) × ((Nat)) × (Nat) × ((Nat)) × (Nat) × ((Nat)) × (Nat) × ((Nat) × (Nat → Nat)) × (Nat) × ((Nat) × (Nat → Nat)) × (Nat) × ((Nat) × (Nat) × (Nat)) × (Nat) × ((Nat) × (Nat)) × (Nat) × ((Nat) × ((Nat) × (Nat)) × (Nat) × (Nat → Nat) × (Nat) × (Nat → Nat) × (Nat) × (Nat)) × (Nat) × ((Nat) × (Nat) × (Nat) × (Nat) × (Nat) × (Nat) × (Nat → Nat))} {u9 : (Nat) × (Nat) × (Nat) × (Nat) × (Nat) × (Nat) × (Nat) × (Nat) × (Nat) × (Nat) × (Nat) × (Nat) × (Nat) × (Nat) × (Nat) × (Nat)} : ad_of q0 q1 u8 u9 48 = (u8.2.2.2.2.2.2.2.2.2.2.2.2.2.2.2.1.2.2.2.1 13) := rfl
theorem ad_49 {q0 q1 : Nat} {u8 : (Nat) × ((Nat)) × (Nat) × ((Nat)) × (Nat) × ((Nat)) × (Nat) × ((Nat) × (Nat → Nat)) × (Nat) × ((Nat) × (Nat → Nat)) × (Nat) × ((Nat) × (Nat) × (Nat)) × (Nat) × ((Nat) × (Nat)) × (Nat) × ((Nat) × ((Nat) × (Nat)) × (Nat) × (Nat → Nat) × (Nat) × (Nat → Nat) × (Nat) × (Nat)) × (Nat) × ((Nat) × (Nat) × (Nat) × (Nat) × (Nat) × (Nat) × (Nat → Nat))} {u9 : (Nat) × (Nat) × (Nat) × (Nat) × (Nat) × (Nat) × (Nat) × (Nat) × (Nat) × (Nat) × (Nat) × (Nat) × (Nat) × (Nat) × (Nat) × (Nat)} : ad_of q0 q1 u8 u9 49 = u8.2.2.2.2.2.2.2.2.2.2.2.2.2.2.2.1.2.2.2.2.1 := rfl
theorem ad_50 {q0 q1 : Nat} {u8 : (Nat) × ((Nat)) × (Nat) × ((Nat)) × (Nat) × ((Nat)) × (Nat) × ((Nat) × (Nat → Nat)) × (Nat) × ((Nat) × (Nat → Nat)) × (Nat) × ((Nat) × (Nat) × (Nat)) × (Nat) × ((Nat) × (Nat)) × (Nat) × ((Nat) × ((Nat) × (Nat)) × (Nat) × (Nat → Nat) × (Nat) × (Nat → Nat) × (Nat) × (Nat)) × (Nat) × ((Nat) × (Nat) × (Nat) × (Nat) × (Nat) × (Nat) × (Nat → Nat))} {u9 : (Nat) × (Nat) × (Nat) × (Nat) × (Nat) × (Nat) × (Nat) × (Nat) × (Nat) × (Nat) × (Nat) × (Nat) × (Nat) × (Nat) × (Nat) × (Nat)} : ad_of q0 q1 u8 u9 50 = (u8.2.2.2.2.2.2.2.2.2.2.2.2.2.2.2.1.2.2.2.2.2.1 0) := rfl
theorem ad_51 {q0 q1 : Nat} {u8 : (Nat) × ((Nat)) × (Nat) × ((Nat)) × (Nat) × ((Nat)) × (Nat) × ((Nat) × (Nat → Nat)) × (Nat) × ((Nat) × (Nat → Nat)) × (Nat) × ((Nat) × (Nat) × (Nat)) × (Nat) × ((Nat) × (Nat)) × (Nat) × ((Nat) × ((Nat) × (Nat)) × (Nat) × (Nat → Nat) × (Nat) × (Nat → Nat) × (Nat) × (Nat)) × (Nat) × ((Nat) × (Nat) × (Nat) × (Nat) × (Nat) × (Nat) × (Nat → Nat))} {u9 : (Nat) × (Nat) × (Nat) × (Nat) × (Nat) × (Nat) × (Nat) × (Nat) × (Nat) × (Nat) × (Nat) × (Nat) × (Nat) × (Nat) × (Nat) × (Nat)} : ad_of q0 q1 u8 u9 51 = (u8.2.2.2.2.2.2.2.2.2.2.2.2.2.2.2.1.2.2.2.2.2.1 1) := rfl
theorem ad_52 {q0 q1 : Nat} {u8 : (Nat) × ((Nat)) × (Nat) × ((Nat)) × (Nat) × ((Nat)) × (Nat) × ((Nat) × (Nat → Nat)) × (Nat) × ((Nat) × (Nat → Nat)) × (Nat) × ((Nat) × (Nat) × (Nat)) × (Nat) × ((Nat) × (Nat)) × (Nat) × ((Nat) × ((Nat) × (Nat)) × (Nat) × (Nat → Nat) × (Nat) × (Nat → Nat) × (Nat) × (Nat)) × (Nat) × ((Nat) × (Nat) × (Nat) × (Nat) × (Nat) × (Nat) × (Nat → Nat))} {u9 : (Nat) × (Nat) × (Nat) × (Nat) × (Nat) × (Nat) × (Nat) × (Nat) × (Nat) × (Nat) × (Nat) × (Nat) × (Nat) × (Nat) × (Nat) × (Nat)} : ad_of q0 q1 u8 u9 52 = (u8.2.2.2.2.2.2.2.2.2.2.2.2.2.2.2.1.2.2.2.2.2.1 2) := rfl
theorem ad_53 {q0 q1 : Nat} {u8 : (Nat) × ((Nat)) × (Nat) × ((Nat)) × (Nat) × ((Nat)) × (Nat) × ((Nat) × (Nat → Nat)) × (Nat) × ((Nat) × (Nat → Nat)) × (Nat) × ((Nat) × (Nat) × (Nat)) × (Nat) × ((Nat) × (Nat)) × (Nat) × ((Nat) × ((Nat) × (Nat)) × (Nat) × (Nat → Nat) × (Nat) × (Nat → Nat) × (Nat) × (Nat)) × (Nat) × ((Nat) × (Nat) × (Nat) × (Nat) × (Nat) × (Nat) × (Nat → Nat))} {u9 : (Nat) × (Nat) × (Nat) × (Nat) × (Nat) × (Nat) × (Nat) × (Nat) × (Nat) × (Nat) × (Nat) × (Nat) × (Nat) × (Nat) × (Nat) × (Nat)} : ad_of q0 q1 u8 u9 53 = (u8.2.2.2.2.2.2.2.2.2.2.2.2.2.2.2.1.2.2.2.2.2.1 3) := rfl
theorem ad_54 {q0 q1 : Nat} {u8 : (Nat) × ((Nat)) × (Nat) × ((Nat)) × (Nat) × ((Nat)) × (Nat) × ((Nat) × (Nat → Nat)) × (Nat) × ((Nat) × (Nat → Nat)) × (Nat) × ((Nat) × (Nat) × (Nat)) × (Nat) × ((Nat) × (Nat)) × (Nat) × ((Nat) × ((Nat) × (Nat)) × (Nat) × (Nat → Nat) × (Nat) × (Nat → Nat) × (Nat) × (Nat)) × (Nat) × ((Nat) × (Nat) × (Nat) × (Nat) × (Nat) × (Nat) × (Nat → Nat))} {u9 : (Nat) × (Nat) × (Nat) × (Nat) × (Nat) × (Nat) × (Nat) × (Nat) × (Nat) × (Nat) × (Nat) × (Nat) × (Nat) × (Nat) × (Nat) × (Nat)} : ad_of q0 q1 u8 u9 54 = (u8.2.2.2.2.2.2.2.2.2.2.2.2.2.2.2.1.2.2.2.2.2.1 4) := rfl
theorem ad_55 {q0 q1 : Nat} {u8 : (Nat) × ((Nat)) × (Nat) × ((Nat)) × (Nat) × ((Nat)) × (Nat) × ((Nat) × (Nat → Nat)) × (Nat) × ((Nat) × (Nat → Nat)) × (Nat) × ((Nat) × (Nat) × (Nat)) × (Nat) × ((Nat) × (Nat)) × (Nat) × ((Nat) × ((Nat) × (Nat)) × (Nat) × (Nat → Nat) × (Nat) × (Nat → Nat) × (Nat) × (Nat)) × (Nat) × ((Nat) × (Nat) × (Nat) × (Nat) × (Nat) × (Nat) × (Nat → Nat))} {u9 : (Nat) × (Nat) × (Nat) × (Nat) × (Nat) × (Nat) × (Nat) × (Nat) × (Nat) × (Nat) × (Nat) × (Nat) × (Nat) × (Nat) × (Nat) × (Nat)} : ad_of q0 q1 u8 u9 55 = (u8.2.2.2.2.2.2.2.2.2.2.2.2.2.2.2.1.2.2.2.2.2.1 5) := rfl
theorem ad_56 {q0 q1 : Nat} {u8 : (Nat) × ((Nat)) × (Nat) × ((Nat)) × (Nat) × ((Nat)) × (Nat) × ((Nat) × (Nat → Nat)) × (Nat) × ((Nat) × (Nat → Nat)) × (Nat) × ((Nat) × (Nat) × (Nat)) × (Nat) × ((Nat) × (Nat)) × (Nat) × ((Nat) × ((Nat) × (Nat)) × (Nat) × (Nat → Nat) × (Nat) × (Nat → Nat) × (Nat) × (Nat)) × (Nat) × ((Nat) × (Nat) × (Nat) × (Nat) × (Nat) × (Nat) × (Nat → Nat))} {u9 : (Nat) × (Nat) × (Nat) × (Nat) × (Nat) × (Nat) × (Nat) × (Nat) × (Nat) × (Nat) × (Nat) × (Nat) × (Nat) × (Nat) × (Nat) × (Nat)} : ad_of q0 q1 u8 u9 56 = (u8.2.2.2.2.2.2.2.2.2.2.2.2.2.2.2.1.2.2.2.2.2.1 6) := rfl
theorem ad_57 {q0 q1 : Nat} {u8 : (Nat) × ((Nat)) × (Nat) × ((Nat)) × (Nat) × ((Nat)) × (Nat) × ((Nat) × (Nat → Nat)) × (Nat) × ((Nat) × (Nat → Nat)) × (Nat) × ((Nat) × (Nat) × (Nat)) × (Nat) × ((Nat) × (Nat)) × (Nat) × ((Nat) × ((Nat) × (Nat)) × (Nat) × (Nat → Nat) × (Nat) × (Nat → Nat) × (Nat) × (Nat)) × (Nat) × ((Nat) × (Nat) × (Nat) × (Nat) × (Nat) × (Nat) × (Nat → Nat))} {u9 : (Nat) × (Nat) × (Nat) × (Nat) × (Nat) × (Nat) × (Nat) × (Nat) × (Nat) × (Nat) × (Nat) × (Nat) × (Nat) × (Nat) × (Nat) × (Nat)} : ad_of q0 q1 u8 u9 57 = (u8.2.2.2.2.2.2.2.2.2.2.2.2.2.2.2.1.2.2.2.2.2.1 7) := rfl
theorem ad_58 {q0 q1 : Nat} {u8 : (Nat) × ((Nat)) × (Nat) × ((Nat)) × (Nat) × ((Nat)) × (Nat) × ((Nat) × (Nat → Nat)) × (Nat) × ((Nat) × (Nat → Nat)) × (Nat) × ((Nat) × (Nat) × (Nat)) × (Nat) × ((Nat) × (Nat)) × (Nat) × ((Nat) × ((Nat) × (Nat)) × (Nat) × (Nat → Nat) × (Nat) × (Nat → Nat) × (Nat) × (Nat)) × (Nat) × ((Nat) × (Nat) × (Nat) × (Nat) × (Nat) × (Nat) × (Nat → Nat))} {u9 : (Nat) × (Nat) × (Nat) × (Nat) × (Nat) × (Nat) × (Nat) × (Nat) × (Nat) × (Nat) × (Nat) × (Nat) × (Nat) × (Nat) × (Nat) × (Nat)} : ad_of q0 q1 u8 u9 58 = (u8.2.2.2.2.2.2.2.2.2.2.2.2.2.2.2.1.2.2.2.2.2.1 8) := rfl
theorem ad_59 {q0 q1 : Nat} {u8 : (Nat) × ((Nat)) × (Nat) × ((Nat)) × (Nat) × ((Nat)) × (Nat) × ((Nat) × (Nat → Nat)) × (Nat) × ((Nat) × (Nat → Nat)) × (Nat) × ((Nat) × (Nat) × (Nat)) × (Nat) × ((Nat) × (Nat)) × (Nat) × ((Nat) × ((Nat) × (Nat)) × (Nat) × (Nat → Nat) × (Nat) × (Nat → Nat) × (Nat) × (Nat)) × (Nat) × ((Nat) × (Nat) × (Nat) × (Nat) × (Nat) × (Nat) × (Nat → Nat))} {u9 : (Nat) × (Nat) × (Nat) × (Nat) × (Nat) × (Nat) × (Nat) × (Nat) × (Nat) × (Nat) × (Nat) × (Nat) × (Nat) × (Nat) × (Nat) × (Nat)} : ad_of q0 q1 u8 u9 59 = (u8.2.2.2.2.2.2.2.2.2.2.2.2.2.2.2.1.2.2.2.2.2.1 9) := rfl
theorem ad_60 {q0 q1 : Nat} {u8 : (Nat) × ((Nat)) × (Nat) × ((Nat)) × (Nat) × ((Nat)) × (Nat) × ((Nat) × (Nat → Nat)) × (Nat) × ((Nat) × (Nat → Nat)) × (Nat) × ((Nat) × (Nat) × (Nat)) × (Nat) × ((Nat) × (Nat)) × (Nat) × ((Nat) × ((Nat) × (Nat)) × (Nat) × (Nat → Nat) × (Nat) × (Nat → Nat) × (Nat) × (Nat)) × (Nat) × ((Nat) × (Nat) × (Nat) × (Nat) × (Nat) × (Nat) × (Nat → Nat))} {u9 : (Nat) × (Nat) × (Nat) × (Nat) × (Nat) × (Nat) × (Nat) × (Nat) × (Nat) × (Nat) × (Nat) × (Nat) × (Nat) × (Nat) × (Nat) × (Nat)} : ad_of q0 q1 u8 u9 60 = (u8.2.2.2.2.2.2.2.2.2.2.2.2.2.2.2.1.2.2.2.2.2.1 10) := rfl
theorem ad_61 {q0 q1 : Nat} {u8 : (Nat) × ((Nat)) × (Nat) × ((Nat)) × (Nat) × ((Nat)) × (Nat) × ((Nat) × (Nat → Nat)) × (Nat) × ((Nat) × (Nat → Nat)) × (Nat) × ((Nat) × (Nat) × (Nat)) × (Nat) × ((Nat) × (Nat)) × (Nat) × ((Nat) × ((Nat) × (Nat)) × (Nat) × (Nat → Nat) × (Nat) × (Nat → Nat) × (Nat) × (Nat)) × (Nat) × ((Nat) × (Nat) × (Nat) × (Nat) × (Nat) × (Nat) × (Nat → Nat))} {u9 : (Nat) × (Nat) × (Nat) × (Nat) × (Nat) × (Nat) × (Nat) × (Nat) × (Nat) × (Nat) × (Nat) × (Nat) × (Nat) × (Nat) × (Nat) × (Nat)} : ad_of q0 q1 u8 u9 61 = (u8.2.2.2.2.2.2.2.2.2.2.2.2.2.2.2.1.2.2.2.2.2.1 11) := rfl
theorem ad_62 {q0 q1 : Nat} {u8 : (Nat) × ((Nat)) × (Nat) × ((Nat)) × (Nat) × ((Nat)) × (Nat) × ((Nat) × (Nat → Nat)) × (Nat) × ((Nat) × (Nat → Nat)) × (Nat) × ((Nat) × (Nat) × (Nat)) × (Nat) × ((Nat) × (Nat)) × (Nat) × ((Nat) × ((Nat) × (Nat)) × (Nat) × (Nat → Nat) × (Nat) × (Nat → Nat) × (Nat) × (Nat)) × (Nat) × ((Nat) × (Nat) × (Nat) × (Nat) × (Nat) × (Nat) × (Nat → Nat))} {u9 : (Nat) × (Nat) × (Nat) × (Nat) × (Nat) × (Nat) × (Nat) × (Nat) × (Nat) × (Nat) × (Nat) × (Nat) × (Nat) × (Nat) × (Nat) × (Nat)} : ad_of q0 q1 u8 u9 62 = (u8.2.2.2.2.2.2.2.2.2.2.2.2.2.2.2.1.2.2.2.2.2.1 12) := rfl
theorem ad_63 {q0 q1 : Nat} {u8 : (Nat) × ((Nat)) × (Nat) × ((Nat)) × (Nat) × ((Nat)) × (Nat) × ((Nat) × (Nat → Nat)) × (Nat) × ((Nat) × (Nat → Nat)) × (Nat) × ((Nat) × (Nat) × (Nat)) × (Nat) × ((Nat) × (Nat)) × (Nat) × ((Nat) × ((Nat) × (Nat)) × (Nat) × (Nat → Nat) × (Nat) × (Nat → Nat) × (Nat) × (Nat)) × (Nat) × ((Nat) × (Nat) × (Nat) × (Nat) × (Nat) × (Nat) × (Nat → Nat))} {u9 : (Nat) × (Nat) × (Nat) × (Nat) × (Nat) × (Nat) × (Nat) × (Nat) × (Nat) × (Nat) × (Nat) × (Nat) × (Nat) × (Nat) × (Nat) × (Nat)} : ad_of q0 q1 u8 u9 63 = (u8.2.2.2.2.2.2.2.2.2.2.2.2.2.2.2.1.2.2.2.2.2.1 13) := rfl
theorem ad_64 {q0 q1 : Nat} {u8 : (Nat) × ((Nat)) × (Nat) × ((Nat)) × (Nat) × ((Nat)) × (Nat) × ((Nat) × (Nat → Nat)) × (Nat) × ((Nat) × (Nat → Nat)) × (Nat) × ((Nat) × (Nat) × (Nat)) × (Nat) × ((Nat) × (Nat)) × (Nat) × ((Nat) × ((Nat) × (Nat)) × (Nat) × (Nat → Nat) × (Nat) × (Nat → Nat) × (Nat) × (Nat)) × (Nat) × ((Nat) × (Nat) × (Nat) × (Nat) × (Nat) × (Nat) × (Nat → Nat))} {u9 : (Nat) × (Nat) × (Nat) × (Nat) × (Nat) × (Nat) × (Nat) × (Nat) × (Nat) × (Nat) × (Nat) × (Nat) × (Nat) × (Nat) × (Nat) × (Nat)} : ad_of q0 q1 u8 u9 64 = u8.2.2.2.2.2.2.2.2.2.2.2.2.2.2.2.1.2.2.2.2.2.2.1 := rfl
theorem ad_65 {q0 q1 : Nat} {u8 : (Nat) × ((Nat)) × (Nat) × ((Nat)) × (Nat) × ((Nat)) × (Nat) × ((Nat) × (Nat → Nat)) × (Nat) × ((Nat) × (Nat → Nat)) × (Nat) × ((Nat) × (Nat) × (Nat)) × (Nat) × ((Nat) × (Nat)) × (Nat) × ((Nat) × ((Nat) × (Nat)) × (Nat) × (Nat → Nat) × (Nat) × (Nat → Nat) × (Nat) × (Nat)) × (Nat) × ((Nat) × (Nat) × (Nat) × (Nat) × (Nat) × (Nat) × (Nat → Nat))} {u9 : (Nat) × (Nat) × (Nat) × (Nat) × (Nat) × (Nat) × (Nat) × (Nat) × (Nat) × (Nat) × (Nat) × (Nat) × (Nat) × (Nat) × (Nat) × (Nat)} : ad_of q0 q1 u8 u9 65 = u8.2.2.2.2.2.2.2.2.2.2.2.2.2.2.2.1.2.2.2.2.2.2.2 := rfl
theorem ad_66 {q0 q1 : Nat} {u8 : (Nat) × ((Nat)) × (Nat) × ((Nat)) × (Nat) × ((Nat)) × (Nat) × ((Nat) × (Nat → Nat)) × (Nat) × ((Nat) × (Nat → Nat)) × (Nat) × ((Nat) × (Nat) × (Nat)) × (Nat) × ((Nat) × (Nat)) × (Nat) × ((Nat) × ((Nat) × (Nat)) × (Nat) × (Nat → Nat) × (Nat) × (Nat → Nat) × (Nat) × (Nat)) × (Nat) × ((Nat) × (Nat) × (Nat) × (Nat) × (Nat) × (Nat) × (Nat → Nat))} {u9 : (Nat) × (Nat) × (Nat) × (Nat) × (Nat) × (Nat) × (Nat) × (Nat) × (Nat) × (Nat) × (Nat) × (Nat) × (Nat) × (Nat) × (Nat) × (Nat)} : ad_of q0 q1 u8 u9 66 = u8.2.2.2.2.2.2.2.2.2.2.2.2.2.2.2.2.1 := rfl
theorem ad_67 {q0 q1 : Nat} {u8 : (Nat) × ((Nat)) × (Nat) × ((Nat)) × (Nat) × ((Nat)) × (Nat) × ((Nat) × (Nat → Nat)) × (Nat) × ((Nat) × (Nat → Nat)) × (Nat) × ((Nat) × (Nat) × (Nat)) × (Nat) × ((Nat) × (Nat)) × (Nat) × ((Nat) × ((Nat) × (Nat)) × (Nat) × (Nat → Nat) × (Nat) × (Nat → Nat) × (Nat) × (Nat)) × (Nat) × ((Nat) × (Nat) × (Nat) × (Nat) × (Nat) × (Nat) × (Nat → Nat))} {u9 : (Nat) × (Nat) × (Nat) × (Nat) × (Nat) × (Nat) × (Nat) × (Nat) × (Nat) × (Nat) × (Nat) × (Nat) × (Nat) × (Nat) × (Nat) × (Nat)} : ad_of q0 q1 u8 u9 67 = u8.2.2.2.2.2.2.2.2.2.2.2.2.2.2.2.2.2.1 := rfl
theorem ad_68 {q0 q1 : Nat} {u8 : (Nat) × ((Nat)) × (Nat) × ((Nat)) × (Nat) × ((Nat)) × (Nat) × ((Nat) × (Nat → Nat)) × (Nat) × ((Nat) × (Nat → Nat)) × (Nat) × ((Nat) × (Nat) × (Nat)) × (Nat) × ((Nat) × (Nat)) × (Nat) × ((Nat) × ((Nat) × (Nat)) × (Nat) × (Nat → Nat) × (Nat) × (Nat → Nat) × (Nat) × (Nat)) × (Nat) × ((Nat) × (Nat) × (Nat) × (Nat) × (Nat) × (Nat) × (Nat → Nat))} {u9 : (Nat) × (Nat) × (Nat) × (Nat) × (Nat) × (Nat) × (Nat) × (Nat) × (Nat) × (Nat) × (Nat) × (Nat) × (Nat) × (Nat) × (Nat) × (Nat)} : ad_of q0 q1 u8 u9 68 = u8.2.2.2.2.2.2.2.2.2.2.2.2.2.2.2.2.2.2.1 := rfl
theorem ad_69 {q0 q1 : Nat} {u8 : (Nat) × ((Nat)) × (Nat) × ((Nat)) × (Nat) × ((Nat)) × (Nat) × ((Nat) × (Nat → Nat)) × (Nat) × ((Nat) × (Nat → Nat)) × (Nat) × ((Nat) × (Nat) × (Nat)) × (Nat) × ((Nat) × (Nat)) × (Nat) × ((Nat) × ((Nat) × (Nat)) × (Nat) × (Nat → Nat) × (Nat) × (Nat → Nat) × (Nat) × (Nat)) × (Nat) × ((Nat) × (Nat) × (Nat) × (Nat) × (Nat) × (Nat) × (Nat → Nat))} {u9 : (Nat) × (Nat) × (Nat) × (Nat) × (Nat) × (Nat) × (Nat) × (Nat) × (Nat) × (Nat) × (Nat) × (Nat) × (Nat) × (Nat) × (Nat) × (Nat)} : ad_of q0 q1 u8 u9 69 = u8.2.2.2.2.2.2.2.2.2.2.2.2.2.2.2.2.2.2.2.1 := rfl
theorem ad_70 {q0 q1 : Nat} {u8 : (Nat) × ((Nat)) × (Nat) × ((Nat)) × (Nat) × ((Nat)) × (Nat) × ((Nat) × (Nat → Nat)) × (Nat) × ((Nat) × (Nat → Nat)) × (Nat) × ((Nat) × (Nat) × (Nat)) × (Nat) × ((Nat) × (Nat)) × (Nat) × ((Nat) × ((Nat) × (Nat)) × (Nat) × (Nat → Nat) × (Nat) × (Nat → Nat) × (Nat) × (Nat)) × (Nat) × ((Nat) × (Nat) × (Nat) × (Nat) × (Nat) × (Nat) × (Nat → Nat))} {u9 : (Nat) × (Nat) × (Nat) × (Nat) × (Nat) × (Nat) × (Nat) × (Nat) × (Nat) × (Nat) × (Nat) × (Nat) × (Nat) × (Nat) × (Nat) × (Nat)} : ad_of q0 q1 u8 u9 70 = u8.2.2.2.2.2.2.2.2.2.2.2.2.2.2.2.2.2.2.2.2.1 := rfl
theorem ad_71 {q0 q1 : Nat} {u8 : (Nat) × ((Nat)) × (Nat) × ((Nat)) × (Nat) × ((Nat)) × (Nat) × ((Nat) × (Nat → Nat)) × (Nat) × ((Nat) × (Nat → Nat)) × (Nat) × ((Nat) × (Nat) × (Nat)) × (Nat) × ((Nat) × (Nat)) × (Nat) × ((Nat) × ((Nat) × (Nat)) × (Nat) × (Nat → Nat) × (Nat) × (Nat → Nat) × (Nat) × (Nat)) × (Nat) × ((Nat) × (Nat) × (Nat) × (Nat) × (Nat) × (Nat) × (Nat → Nat))} {u9 : (Nat) × (Nat) × (Nat) × (Nat) × (Nat) × (Nat) × (Nat) × (Nat) × (Nat) × (Nat) × (Nat) × (Nat) × (Nat) × (Nat) × (Nat) × (Nat)} : ad_of q0 q1 u8 u9 71 = u8.2.2.2.2.2.2.2.2.2.2.2.2.2.2.2.2.2.2.2.2.2.1 := rfl
theorem ad_72 {q0 q1 : Nat} {u8 : (Nat) × ((Nat)) × (Nat) × ((Nat)) × (Nat) × ((Nat)) × (Nat) × ((Nat) × (Nat → Nat)) × (Nat) × ((Nat) × (Nat → Nat)) × (Nat) × ((Nat) × (Nat) × (Nat)) × (Nat) × ((Nat) × (Nat)) × (Nat) × ((Nat) × ((Nat) × (Nat)) × (Nat) × (Nat → Nat) × (Nat) × (Nat → Nat) × (Nat) × (Nat)) × (Nat) × ((Nat) × (Nat) × (Nat) × (Nat) × (Nat) × (Nat) × (Nat → Nat))} {u9 : (Nat) × (Nat) × (Nat) × (Nat) × (Nat) × (Nat) × (Nat) × (Nat) × (Nat) × (Nat) × (Nat) × (Nat) × (Nat) × (Nat) × (Nat) × (Nat)} : ad_of q0 q1 u8 u9 72 = u8.2.2.2.2.2.2.2.2.2.2.2.2.2.2.2.2.2.2.2.2.2.2.1 := rfl
theorem ad_73 {q0 q1 : Nat} {u8 : (Nat) × ((Nat)) × (Nat) × ((Nat)) × (Nat) × ((Nat)) × (Nat) × ((Nat) × (Nat → Nat)) × (Nat) × ((Nat) × (Nat → Nat)) × (Nat) × ((Nat) × (Nat) × (Nat)) × (Nat) × ((Nat) × (Nat)) × (Nat) × ((Nat) × ((Nat) × (Nat)) × (Nat) × (Nat → Nat) × (Nat) × (Nat → Nat) × (Nat) × (Nat)) × (Nat) × ((Nat) × (Nat) × (Nat) × (Nat) × (Nat) × (Nat) × (Nat → Nat))} {u9 : (Nat) × (Nat) × (Nat) × (Nat) × (Nat) × (Nat) × (Nat) × (Nat) × (Nat) × (Nat) × (Nat) × (Nat) × (Nat) × (Nat) × (Nat) × (Nat)} : ad_of q0 q1 u8 u9 73 = (u8.2.2.2.2.2.2.2.2.2.2.2.2.2.2.2.2.2.2.2.2.2.2.2 0) := rfl
theorem ad_74 {q0 q1 : Nat} {u8 : (Nat) × ((Nat)) × (Nat) × ((Nat)) × (Nat) × ((Nat)) × (Nat) × ((Nat) × (Nat → Nat)) × (Nat) × ((Nat) × (Nat → Nat)) × (Nat) × ((Nat) × (Nat) × (Nat)) × (Nat) × ((Nat) × (Nat)) × (Nat) × ((Nat) × ((Nat) × (Nat)) × (Nat) × (Nat → Nat) × (Nat) × (Nat → Nat) × (Nat) × (Nat)) × (Nat) × ((Nat) × (Nat) × (Nat) × (Nat) × (Nat) × (Nat) × (Nat → Nat))} {u9 : (Nat) × (Nat) × (Nat) × (Nat) × (Nat) × (Nat) × (Nat) × (Nat) × (Nat) × (Nat) × (Nat) × (Nat) × (Nat) × (Nat) × (Nat) × (Nat)} : ad_of q0 q1 u8 u9 74 = (u8.2.2.2.2.2.2.2.2.2.2.2.2.2.2.2.2.2.2.2.2.2.2.2 1) := rfl
theorem ad_75 {q0 q1 : Nat} {u8 : (Nat) × ((Nat)) × (Nat) × ((Nat)) × (Nat) × ((Nat)) × (Nat) × ((Nat) × (Nat → Nat)) × (Nat) × ((Nat) × (Nat → Nat)) × (Nat) × ((Nat) × (Nat) × (Nat)) × (Nat) × ((Nat) × (Nat)) × (Nat) × ((Nat) × ((Nat) × (Nat)) × (Nat) × (Nat → Nat) × (Nat) × (Nat → Nat) × (Nat) × (Nat)) × (Nat) × ((Nat) × (Nat) × (Nat) × (Nat) × (Nat) × (Nat) × (Nat → Nat))} {u9 : (Nat) × (Nat) × (Nat) × (Nat) × (Nat) × (Nat) × (Nat) × (Nat) × (Nat) × (Nat) × (Nat) × (Nat) × (Nat) × (Nat) × (Nat) × (Nat)} : ad_of q0 q1 u8 u9 75 = (u8.2.2.2.2.2.2.2.2.2.2.2.2.2.2.2.2.2.2.2.2.2.2.2 2) := rfl
theorem ad_76 {q0 q1 : Nat} {u8 : (Nat) × ((Nat)) × (Nat) × ((Nat)) × (Nat) × ((Nat)) × (Nat) × ((Nat) × (Nat → Nat)) × (Nat) × ((Nat) × (Nat → Nat)) × (Nat) × ((Nat) × (Nat) × (Nat)) × (Nat) × ((Nat) × (Nat)) × (Nat) × ((Nat) × ((Nat) × (Nat)) × (Nat) × (Nat → Nat) × (Nat) × (Nat → Nat) × (Nat) × (Nat)) × (Nat) × ((Nat) × (Nat) × (Nat) × (Nat) × (Nat) × (Nat) × (Nat → Nat))} {u9 : (Nat) × (Nat) × (Nat) × (Nat) × (Nat) × (Nat) × (Nat) × (Nat) × (Nat) × (Nat) × (Nat) × (Nat) × (Nat) × (Nat) × (Nat) × (Nat)} : ad_of q0 q1 u8 u9 76 = (u8.2.2.2.2.2.2.2.2.2.2.2.2.2.2.2.2.2.2.2.2.2.2.2 3) := rfl
theorem ad_77 {q0 q1 : Nat} {u8 : (Nat) × ((Nat)) × (Nat) × ((Nat)) × (Nat) × ((Nat)) × (Nat) × ((Nat) × (Nat → Nat)) × (Nat) × ((Nat) × (Nat → Nat)) × (Nat) × ((Nat) × (Nat) × (Nat)) × (Nat) × ((Nat) × (Nat)) × (Nat) × ((Nat) × ((Nat) × (Nat)) × (Nat) × (Nat → Nat) × (Nat) × (Nat → Nat) × (Nat) × (Nat)) × (Nat) × ((Nat) × (Nat) × (Nat) × (Nat) × (Nat) × (Nat) × (Nat → Nat))} {u9 : (Nat) × (Nat) × (Nat) × (Nat) × (Nat) × (Nat) × (Nat) × (Nat) × (Nat) × (Nat) × (Nat) × (Nat) × (Nat) × (Nat) × (Nat) × (Nat)} : ad_of q0 q1 u8 u9 77 = (u8.2.2.2.2.2.2.2.2.2.2.2.2.2.2.2.2.2.2.2.2.2.2.2 4) := rfl
theorem ad_78 {q0 q1 : Nat} {u8 : (Nat) × ((Nat)) × (Nat) × ((Nat)) × (Nat) × ((Nat)) × (Nat) × ((Nat) × (Nat → Nat)) × (Nat) × ((Nat) × (Nat → Nat)) × (Nat) × ((Nat) × (Nat) × (Nat)) × (Nat) × ((Nat) × (Nat)) × (Nat) × ((Nat) × ((Nat) × (Nat)) × (Nat) × (Nat → Nat) × (Nat) × (Nat → Nat) × (Nat) × (Nat)) × (Nat) × ((Nat) × (Nat) × (Nat) × (Nat) × (Nat) × (Nat) × (Nat → Nat))} {u9 : (Nat) × (Nat) × (Nat) × (Nat) × (Nat) × (Nat) × (Nat) × (Nat) × (Nat) × (Nat) × (Nat) × (Nat) × (Nat) × (Nat) × (Nat) × (Nat)} : ad_of q0 q1 u8 u9 78 = (u8.2.2.2.2.2.2.2.2.2.2.2.2.2.2.2.2.2.2.2.2.2.2.2 5) := rfl
theorem ad_79 {q0 q1 : Nat} {u8 : (Nat) × ((Nat)) × (Nat) × ((Nat)) × (Nat) × ((Nat)) × (Nat) × ((Nat) × (Nat → Nat)) × (Nat) × ((Nat) × (Nat → Nat)) × (Nat) × ((Nat) × (Nat) × (Nat)) × (Nat) × ((Nat) × (Nat)) × (Nat) × ((Nat) × ((Nat) × (Nat)) × (Nat) × (Nat → Nat) × (Nat) × (Nat → Nat) × (Nat) × (Nat)) × (Nat) × ((Nat) × (Nat) × (Nat) × (Nat) × (Nat) × (Nat) × (Nat → Nat))} {u9 : (Nat) × (Nat) × (Nat) × (Nat) × (Nat) × (Nat) × (Nat) × (Nat) × (Nat) × (Nat) × (Nat) × (Nat) × (Nat) × (Nat) × (Nat) × (Nat)} : ad_of q0 q1 u8 u9 79 = (u8.2.2.2.2.2.2.2.2.2.2.2.2.2.2.2.2.2.2.2.2.2.2.2 6) := rfl
theorem ad_80 {q0 q1 : Nat} {u8 : (Nat) × ((Nat)) × (Nat) × ((Nat)) × (Nat) × ((Nat)) × (Nat) × ((Nat) × (Nat → Nat)) × (Nat) × ((Nat) × (Nat → Nat)) × (Nat) × ((Nat) × (Nat) × (Nat)) × (Nat) × ((Nat) × (Nat)) × (Nat) × ((Nat) × ((Nat) × (Nat)) × (Nat) × (Nat → Nat) × (Nat) × (Nat → Nat) × (Nat) × (Nat)) × (Nat) × ((Nat) × (Nat) × (Nat) × (Nat) × (Nat) × (Nat) × (Nat → Nat))} {u9 : (Nat) × (Nat) × (Nat) × (Nat) × (Nat) × (Nat) × (Nat) × (Nat) × (Nat) × (Nat) × (Nat) × (Nat) × (Nat) × (Nat) × (Nat) × (Nat)} : ad_of q0 q1 u8 u9 80 = (u8.2.2.2.2.2.2.2.2.2.2.2.2.2.2.2.2.2.2.2.2.2.2.2 7) := rfl
theorem ad_81 {q0 q1 : Nat} {u8 : (Nat) × ((Nat)) × (Nat) × ((Nat)) × (Nat) × ((Nat)) × (Nat) × ((Nat) × (Nat → Nat)) × (Nat) × ((Nat) × (Nat → Nat)) × (Nat) × ((Nat) × (Nat) × (Nat)) × (Nat) × ((Nat) × (Nat)) × (Nat) × ((Nat) × ((Nat) × (Nat)) × (Nat) × (Nat → Nat) × (Nat) × (Nat → Nat) × (Nat) × (Nat)) × (Nat) × ((Nat) × (Nat) × (Nat) × (Nat) × (Nat) × (Nat) × (Nat → Nat))} {u9 : (Nat) × (Nat) × (Nat) × (Nat) × (Nat) × (Nat) × (Nat) × (Nat) × (Nat) × (Nat) × (Nat) × (Nat) × (Nat) × (Nat) × (Nat) × (Nat)} : ad_of q0 q1 u8 u9 81 = q1 := rfl
theorem ad_82 {q0 q1 : Nat} {u8 : (Nat) × ((Nat)) × (Nat) × ((Nat)) × (Nat) × ((Nat)) × (Nat) × ((Nat) × (Nat → Nat)) × (Nat) × ((Nat) × (Nat → Nat)) × (Nat) × ((Nat) × (Nat) × (Nat)) × (Nat) × ((Nat) × (Nat)) × (Nat) × ((Nat) × ((Nat) × (Nat)) × (Nat) × (Nat → Nat) × (Nat) × (Nat → Nat) × (Nat) × (Nat)) × (Nat) × ((Nat) × (Nat) × (Nat) × (Nat) × (Nat) × (Nat) × (Nat → Nat))} {u9 : (Nat) × (Nat) × (Nat) × (Nat) × (Nat) × (Nat) × (Nat) × (Nat) × (Nat) × (Nat) × (Nat) × (Nat) × (Nat) × (Nat) × (Nat) × (Nat)} : ad_of q0 q1 u8 u9 82 = u9.1 := rfl
theorem ad_83 {q0 q1 : Nat} {u8 : (Nat) × ((Nat)) × (Nat) × ((Nat)) × (Nat) × ((Nat)) × (Nat) × ((Nat) × (Nat → Nat)) × (Nat) × ((Nat) × (Nat → Nat)) × (Nat) × ((Nat) × (Nat) × (Nat)) × (Nat) × ((Nat) × (Nat)) × (Nat) × ((Nat) × ((Nat) × (Nat)) × (Nat) × (Nat → Nat) × (Nat) × (Nat → Nat) × (Nat) × (Nat)) × (Nat) × ((Nat) × (Nat) × (Nat) × (Nat) × (Nat) × (Nat) × (Nat → Nat))} {u9 : (Nat) × (Nat) × (Nat) × (Nat) × (Nat) × (Nat) × (Nat) × (Nat) × (Nat) × (Nat) × (Nat) × (Nat) × (Nat) × (Nat) × (Nat) × (Nat)} : ad_of q0 q1 u8 u9 83 = u9.2.1 := rfl
theorem ad_84 {q0 q1 : Nat} {u8 : (Nat) × ((Nat)) × (Nat) × ((Nat)) × (Nat) × ((Nat)) × (Nat) × ((Nat) × (Nat → Nat)) × (Nat) × ((Nat) × (Nat → Nat)) × (Nat) × ((Nat) × (Nat) × (Nat)) × (Nat) × ((Nat) × (Nat)) × (Nat) × ((Nat) × ((Nat) × (Nat)) × (Nat) × (Nat → Nat) × (Nat) × (Nat → Nat) × (Nat) × (Nat)) × (Nat) × ((Nat) × (Nat) × (Nat) × (Nat) × (Nat) × (Nat) × (Nat → Nat))} {u9 : (Nat) × (Nat) × (Nat) × (Nat) × (Nat) × (Nat) × (Nat) × (Nat) × (Nat) × (Nat) × (Nat) × (Nat) × (Nat) × (Nat) × (Nat) × (Nat)} : ad_of q0 q1 u8 u9 84 = u9.2.2.1 := rfl
theorem ad_85 {q0 q1 : Nat} {u8 : (Nat) × ((Nat)) × (Nat) × ((Nat)) × (Nat) × ((Nat)) × (Nat) × ((Nat) × (Nat → Nat)) × (Nat) × ((Nat) × (Nat → Nat)) × (Nat) × ((Nat) × (Nat) × (Nat)) × (Nat) × ((Nat) × (Nat)) × (Nat) × ((Nat) × ((Nat) × (Nat)) × (Nat) × (Nat → Nat) × (Nat) × (Nat → Nat) × (Nat) × (Nat)) × (Nat) × ((Nat) × (Nat) × (Nat) × (Nat) × (Nat) × (Nat) × (Nat → Nat))} {u9 : (Nat) × (Nat) × (Nat) × (Nat) × (Nat) × (Nat) × (Nat) × (Nat) × (Nat) × (Nat) × (Nat) × (Nat) × (Nat) × (Nat) × (Nat) × (Nat)} : ad_of q0 q1 u8 u9 85 = u9.2.2.2.1 := rfl
theorem ad_86 {q0 q1 : Nat} {u8 : (Nat) × ((Nat)) × (Nat) × ((Nat)) × (Nat) × ((Nat)) × (Nat) × ((Nat) × (Nat → Nat)) × (Nat) × ((Nat) × (Nat → Nat)) × (Nat) × ((Nat) × (Nat) × (Nat)) × (Nat) × ((Nat) × (Nat)) × (Nat) × ((Nat) × ((Nat) × (Nat)) × (Nat) × (Nat → Nat) × (Nat) × (Nat → Nat) × (Nat) × (Nat)) × (Nat) × ((Nat) × (Nat) × (Nat) × (Nat) × (Nat) × (Nat) × (Nat → Nat))} {u9 : (Nat) × (Nat) × (Nat) × (Nat) × (Nat) × (Nat) × (Nat) × (Nat) × (Nat) × (Nat) × (Nat) × (Nat) × (Nat) × (Nat) × (Nat) × (Nat)} : ad_of q0 q1 u8 u9 86 = u9.2.2.2.2.1 := rfl
theorem ad_87 {q0 q1 : Nat} {u8 : (Nat) × ((Nat)) × (Nat) × ((Nat)) × (Nat) × ((Nat)) × (Nat) × ((Nat) × (Nat → Nat)) × (Nat) × ((Nat) × (Nat → Nat)) × (Nat) × ((Nat) × (Nat) × (Nat)) × (Nat) × ((Nat) × (Nat)) × (Nat) × ((Nat) × ((Nat) × (Nat)) × (Nat) × (Nat → Nat) × (Nat) × (Nat → Nat) × (Nat) × (Nat)) × (Nat) × ((Nat) × (Nat) × (Nat) × (Nat) × (Nat) × (Nat) × (Nat → Nat))} {u9 : (Nat) × (Nat) × (Nat) × (Nat) × (Nat) × (Nat) × (Nat) × (Nat) × (Nat) × (Nat) × (Nat) × (Nat) × (Nat) × (Nat) × (Nat) × (Nat)} : ad_of q0 q1 u8 u9 87 = u9.2.2.2.2.2.1 := rfl
theorem ad_88 {q0 q1 : Nat} {u8 : (Nat) × ((Nat)) × (Nat) × ((Nat)) × (Nat) × ((Nat)) × (Nat) × ((Nat) × (Nat → Nat)) × (Nat) × ((Nat) × (Nat → Nat)) × (Nat) × ((Nat) × (Nat) × (Nat)) × (Nat) × ((Nat) × (Nat)) × (Nat) × ((Nat) × ((Nat) × (Nat)) × (Nat) × (Nat → Nat) × (Nat) × (Nat → Nat) × (Nat) × (Nat)) × (Nat) × ((Nat) × (Nat) × (Nat) × (Nat) × (Nat) × (Nat) × (Nat → Nat))} {u9 : (Nat) × (Nat) × (Nat) × (Nat) × (Nat) × (Nat) × (Nat) × (Nat) × (Nat) × (Nat) × (Nat) × (Nat) × (Nat) × (Nat) × (Nat) × (Nat)} : ad_of q0 q1 u8 u9 88 = u9.2.2.2.2.2.2.1 := rfl
theorem ad_89 {q0 q1 : Nat} {u8 : (Nat) × ((Nat)) × (Nat) × ((Nat)) × (Nat) × ((Nat)) × (Nat) × ((Nat) × (Nat → Nat)) × (Nat) × ((Nat) × (Nat → Nat)) × (Nat) × ((Nat) × (Nat) × (Nat)) × (Nat) × ((Nat) × (Nat)) × (Nat) × ((Nat) × ((Nat) × (Nat)) × (Nat) × (Nat → Nat) × (Nat) × (Nat → Nat) × (Nat) × (Nat)) × (Nat) × ((Nat) × (Nat) × (Nat) × (Nat) × (Nat) × (Nat) × (Nat → Nat))} {u9 : (Nat) × (Nat) × (Nat) × (Nat) × (Nat) × (Nat) × (Nat) × (Nat) × (Nat) × (Nat) × (Nat) × (Nat) × (Nat) × (Nat) × (Nat) × (Nat)} : ad_of q0 q1 u8 u9 89 = u9.2.2.2.2.2.2.2.1 := rfl
theorem ad_90 {q0 q1 : Nat} {u8 : (Nat) × ((Nat)) × (Nat) × ((Nat)) × (Nat) × ((Nat)) × (Nat) × ((Nat) × (Nat → Nat)) × (Nat) × ((Nat) × (Nat → Nat)) × (Nat) × ((Nat) × (Nat) × (Nat)) × (Nat) × ((Nat) × (Nat)) × (Nat) × ((Nat) × ((Nat) × (Nat)) × (Nat) × (Nat → Nat) × (Nat) × (Nat → Nat) × (Nat) × (Nat)) × (Nat) × ((Nat) × (Nat) × (Nat) × (Nat) × (Nat) × (Nat) × (Nat → Nat))} {u9 : (Nat) × (Nat) × (Nat) × (Nat) × (Nat) × (Nat) × (Nat) × (Nat) × (Nat) × (Nat) × (Nat) × (Nat) × (Nat) × (Nat) × (Nat) × (Nat)} : ad_of q0 q1 u8 u9 90 = u9.2.2.2.2.2.2.2.2.1 := rfl
theorem ad_91 {q0 q1 : Nat} {u8 : (Nat) × ((Nat)) × (Nat) × ((Nat)) × (Nat) × ((Nat)) × (Nat) × ((Nat) × (Nat → Nat)) × (Nat) × ((Nat) × (Nat → Nat)) × (Nat) × ((Nat) × (Nat) × (Nat)) × (Nat) × ((Nat) × (Nat)) × (Nat) × ((Nat) × ((Nat) × (Nat)) × (Nat) × (Nat → Nat) × (Nat) × (Nat → Nat) × (Nat) × (Nat)) × (Nat) × ((Nat) × (Nat) × (Nat) × (Nat) × (Nat) × (Nat) × (Nat → Nat))} {u9 : (Nat) × (Nat) × (Nat) × (Nat) × (Nat) × (Nat) × (Nat) × (Nat) × (Nat) × (Nat) × (Nat) × (Nat) × (Nat) × (Nat) × (Nat) × (Nat)} : ad_of q0 q1 u8 u9 91 = u9.2.2.2.2.2.2.2.2.2.1 := rfl
theorem ad_92 {q0 q1 : Nat} {u8 : (Nat) × ((Nat)) × (Nat) × ((Nat)) × (Nat) × ((Nat)) × (Nat) × ((Nat) × (Nat → Nat)) × (Nat) × ((Nat) × (Nat → Nat)) × (Nat) × ((Nat) × (Nat) × (Nat)) × (Nat) × ((Nat) × (Nat)) × (Nat) × ((Nat) × ((Nat) × (Nat)) × (Nat) × (Nat → Nat) × (Nat) × (Nat → Nat) × (Nat) × (Nat)) × (Nat) × ((Nat) × (Nat) × (Nat) × (Nat) × (Nat) × (Nat) × (Nat → Nat))} {u9 : (Nat) × (Nat) × (Nat) × (Nat) × (Nat) × (Nat) × (Nat) × (Nat) × (Nat) × (Nat) × (Nat) × (Nat) × (Nat) × (Nat) × (Nat) × (Nat)} : ad_of q0 q1 u8 u9 92 = u9.2.2.2.2.2.2.2.2.2.2.1 := rfl
theorem ad_93 {q0 q1 : Nat} {u8 : (Nat) × ((Nat)) × (Nat) × ((Nat)) × (Nat) × ((Nat)) × (Nat) × ((Nat) × (Nat → Nat)) × (Nat) × ((Nat) × (Nat → Nat)) × (Nat) × ((Nat) × (Nat) × (Nat)) × (Nat) × ((Nat) × (Nat)) × (Nat) × ((Nat) × ((Nat) × (Nat)) × (Nat) × (Nat → Nat) × (Nat) × (Nat → Nat) × (Nat) × (Nat)) × (Nat) × ((Nat) × (Nat) × (Nat) × (Nat) × (Nat) × (Nat) × (Nat → Nat))} {u9 : (Nat) × (Nat) × (Nat) × (Nat) × (Nat) × (Nat) × (Nat) × (Nat) × (Nat) × (Nat) × (Nat) × (Nat) × (Nat) × (Nat) × (Nat) × (Nat)} : ad_of q0 q1 u8 u9 93 = u9.2.2.2.2.2.2.2.2.2.2.2.1 := rfl
theorem ad_94 {q0 q1 : Nat} {u8 : (Nat) × ((Nat)) × (Nat) × ((Nat)) × (Nat) × ((Nat)) × (Nat) × ((Nat) × (Nat → Nat)) × (Nat) × ((Nat) × (Nat → Nat)) × (Nat) × ((Nat) × (Nat) × (Nat)) × (Nat) × ((Nat) × (Nat)) × (Nat) × ((Nat) × ((Nat) × (Nat)) × (Nat) × (Nat → Nat) × (Nat) × (Nat → Nat) × (Nat) × (Nat)) × (Nat) × ((Nat) × (Nat) × (Nat) × (Nat) × (Nat) × (Nat) × (Nat → Nat))} {u9 : (Nat) × (Nat) × (Nat) × (Nat) × (Nat) × (Nat) × (Nat) × (Nat) × (Nat) × (Nat) × (Nat) × (Nat) × (Nat) × (Nat) × (Nat) × (Nat)} : ad_of q0 q1 u8 u9 94 = u9.2.2.2.2.2.2.2.2.2.2.2.2.1 := rfl
theorem ad_95 {q0 q1 : Nat} {u8 : (Nat) × ((Nat)) × (Nat) × ((Nat)) × (Nat) × ((Nat)) × (Nat) × ((Nat) × (Nat → Nat)) × (Nat) × ((Nat) × (Nat → Nat)) × (Nat) × ((Nat) × (Nat) × (Nat)) × (Nat) × ((Nat) × (Nat)) × (Nat) × ((Nat) × ((Nat) × (Nat)) × (Nat) × (Nat → Nat) × (Nat) × (Nat → Nat) × (Nat) × (Nat)) × (Nat) × ((Nat) × (Nat) × (Nat) × (Nat) × (Nat) × (Nat) × (Nat → Nat))} {u9 : (Nat) × (Nat) × (Nat) × (Nat) × (Nat) × (Nat) × (Nat) × (Nat) × (Nat) × (Nat) × (Nat) × (Nat) × (Nat) × (Nat) × (Nat) × (Nat)} : ad_of q0 q1 u8 u9 95 = u9.2.2.2.2.2.2.2.2.2.2.2.2.2.1 := rfl
theorem ad_96 {q0 q1 : Nat} {u8 : (Nat) × ((Nat)) × (Nat) × ((Nat)) × (Nat) × ((Nat)) × (Nat) × ((Nat) × (Nat → Nat)) × (Nat) × ((Nat) × (Nat → Nat)) × (Nat) × ((Nat) × (Nat) × (Nat)) × (Nat) × ((Nat) × (Nat)) × (Nat) × ((Nat) × ((Nat) × (Nat)) × (Nat) × (Nat → Nat) × (Nat) × (Nat → Nat) × (Nat) × (Nat)) × (Nat) × ((Nat) × (Nat) × (Nat) × (Nat) × (Nat) × (Nat) × (Nat → Nat))} {u9 : (Nat) × (Nat) × (Nat) × (Nat) × (Nat) × (Nat) × (Nat) × (Nat) × (Nat) × (Nat) × (Nat) × (Nat) × (Nat) × (Nat) × (Nat) × (Nat)} : ad_of q0 q1 u8 u9 96 = u9.2.2.2.2.2.2.2.2.2.2.2.2.2.2.1 := rfl
theorem ad_97 {q0 q1 : Nat} {u8 : (Nat) × ((Nat)) × (Nat) × ((Nat)) × (Nat) × ((Nat)) × (Nat) × ((Nat) × (Nat → Nat)) × (Nat) × ((Nat) × (Nat → Nat)) × (Nat) × ((Nat) × (Nat) × (Nat)) × (Nat) × ((Nat) × (Nat)) × (Nat) × ((Nat) × ((Nat) × (Nat)) × (Nat) × (Nat → Nat) × (Nat) × (Nat → Nat) × (Nat) × (Nat)) × (Nat) × ((Nat) × (Nat) × (Nat) × (Nat) × (Nat) × (Nat) × (Nat → Nat))} {u9 : (Nat) × (Nat) × (Nat) × (Nat) × (Nat) × (Nat) × (Nat) × (Nat) × (Nat) × (Nat) × (Nat) × (Nat) × (Nat) × (Nat) × (Nat) × (Nat)} : ad_of q0 q1 u8 u9 97 = u9.2.2.2.2.2.2.2.2.2.2.2.2.2.2.2 := rfl
theorem ad_map {cs : ClassId × ClassId × ClassId} {q0 q1 : Nat} {u8 : (Nat) × ((Nat)) × (Nat) × ((Nat)) × (Nat) × ((Nat)) × (Nat) × ((Nat) × (Nat → Nat)) × (Nat) × ((Nat) × (Nat → Nat)) × (Nat) × ((Nat) × (Nat) × (Nat)) × (Nat) × ((Nat) × (Nat)) × (Nat) × ((Nat) × ((Nat) × (Nat)) × (Nat) × (Nat → Nat) × (Nat) × (Nat → Nat) × (Nat) × (Nat)) × (Nat) × ((Nat) × (Nat) × (Nat) × (Nat) × (Nat) × (Nat) × (Nat → Nat))} {u9 : (Nat) × (Nat) × (Nat) × (Nat) × (Nat) × (Nat) × (Nat) × (Nat) × (Nat) × (Nat) × (Nat) × (Nat) × (Nat) × (Nat) × (Nat) × (Nat)} : (wI_X8 cs q0 u8 ++ wI_X9 cs q1 u9).map Prod.fst = [q0, u8.1, u8.2.1, u8.2.2.1, u8.2.2.2.1, u8.2.2.2.2.1, u8.2.2.2.2.2.1, u8.2.2.2.2.2.2.1, u8.2.2.2.2.2.2.2.1.1, (u8.2.2.2.2.2.2.2.1.2 0), (u8.2.2.2.2.2.2.2.1.2 1), (u8.2.2.2.2.2.2.2.1.2 2), (u8.2.2.2.2.2.2.2.1.2 3), (u8.2.2.2.2.2.2.2.1.2 4), (u8.2.2.2.2.2.2.2.1.2 5), (u8.2.2.2.2.2.2.2.1.2 6), (u8.2.2.2.2.2.2.2.1.2 7), (u8.2.2.2.2.2.2.2.1.2 8), (u8.2.2.2.2.2.2.2.1.2 9), u8.2.2.2.2.2.2.2.2.1, u8.2.2.2.2.2.2.2.2.2.1.1, (u8.2.2.2.2.2.2.2.2.2.1.2 0), (u8.2.2.2.2.2.2.2.2.2.1.2 1), u8.2.2.2.2.2.2.2.2.2.2.1, u8.2.2.2.2.2.2.2.2.2.2.2.1.1, u8.2.2.2.2.2.2.2.2.2.2.2.1.2.1, u8.2.2.2.2.2.2.2.2.2.2.2.1.2.2, u8.2.2.2.2.2.2.2.2.2.2.2.2.1, u8.2.2.2.2.2.2.2.2.2.2.2.2.2.1.1, u8.2.2.2.2.2.2.2.2.2.2.2.2.2.1.2, u8.2.2.2.2.2.2.2.2.2.2.2.2.2.2.1, u8.2.2.2.2.2.2.2.2.2.2.2.2.2.2.2.1.1, u8.2.2.2.2.2.2.2.2.2.2.2.2.2.2.2.1.2.1.1, u8.2.2.2.2.2.2.2.2.2.2.2.2.2.2.2.1.2.1.2, u8.2.2.2.2.2.2.2.2.2.2.2.2.2.2.2.1.2.2.1, (u8.2.2.2.2.2.2.2.2.2.2.2.2.2.2.2.1.2.2.2.1 0), (u8.2.2.2.2.2.2.2.2.2.2.2.2.2.2.2.1.2.2.2.1 1), (u8.2.2.2.2.2.2.2.2.2.2.2.2.2.2.2.1.2.2.2.1 2), (u8.2.2.2.2.2.2.2.2.2.2.2.2.2.2.2.1.2.2.2.1 3), (u8.2.2.2.2.2.2.2.2.2.2.2.2.2.2.2.1.2.2.2.1 4), (u8.2.2.2.2.2.2.2.2.2.2.2.2.2.2.2.1.2.2.2.1 5), (u8.2.2.2.2.2.2.2.2.2.2.2.2.2.2.2.1.2.2.2.1 6), (u8.2.2.2.2.2.2.2.2.2.2.2.2.2.2.2.1.2.2.2.1 7), (u8.2.2.2.2.2.2.2.2.2.2.2.2.2.2.2.1.2.2.2.1 8), (u8.2.2.2.2.2.2.2.2.2.2.2.2.2.2.2.1.2.2.2.1 9), (u8.2.2.2.2.2.2.2.2.2.2.2.2.2.2.2.1.2.2.2.1 10), (u8.2.2.2.2.2.2.2.2.2.2.2.2.2.2.2.1.2.2.2.1 11), (u8.2.2.2.2.2.2.2.2.2.2.2.2.2.2.2.1.2.2.2.1 12), (u8.2.2.2.2.2.2.2.2.2.2.2.2.2.2.2.1.2.2.2.1 13), u8.2.2.2.2.2.2.2.2.2.2.2.2.2.2.2.1.2.2.2.2.1, (u8.2.2.2.2.2.2.2.2.2.2.2.2.2.2.2.1.2.2.2.2.2.1 0), (u8.2.2.2.2.2.2.2.2.2.2.2.2.2.2.2.1.2.2.2.2.2.1 1), (u8.2.2.2.2.2.2.2.2.2.2.2.2.2.2.2.1.2.2.2.2.2.1 2), (u8.2.2.2.2.2.2.2.2.2.2.2.2.2.2.2.1.2.2.2.2.2.1 3), (u8.2.2.2.2.2.2.2.2.2.2.2.2.2.2.2.1.2.2.2.2.2.1 4), (u8.2.2.2.2.2.2.2.2.2.2.2.2.2.2.2.1.2.2.2.2.2.1 5), (u8.2.2.2.2.2.2.2.2.2.2.2.2.2.2.2.1.2.2.2.2.2.1 6), (u8.2.2.2.2.2.2.2.2.2.2.2.2.2.2.2.1.2.2.2.2.2.1 7), (u8.2.2.2.2.2.2.2.2.2.2.2.2.2.2.2.1.2.2.2.2.2.1 8), (u8.2.2.2.2.2.2.2.2.2.2.2.2.2.2.2.1.2.2.2.2.2.1 9), (u8.2.2.2.2.2.2.2.2.2.2.2.2.2.2.2.1.2.2.2.2.2.1 10), (u8.2.2.2.2.2.2.2.2.2.2.2.2.2.2.2.1.2.2.2.2.2.1 11), (u8.2.2.2.2.2.2.2.2.2.2.2.2.2.2.2.1.2.2.2.2.2.1 12), (u8.2.2.2.2.2.2.2.2.2.2.2.2.2.2.2.1.2.2.2.2.2.1 13), u8.2.2.2.2.2.2.2.2.2.2.2.2.2.2.2.1.2.2.2.2.2.2.1, u8.2.2.2.2.2.2.2.2.2.2.2.2.2.2.2.1.2.2.2.2.2.2.2, u8.2.2.2.2.2.2.2.2.2.2.2.2.2.2.2.2.1, u8.2.2.2.2.2.2.2.2.2.2.2.2.2.2.2.2.2.1, u8.2.2.2.2.2.2.2.2.2.2.2.2.2.2.2.2.2.2.1, u8.2.2.2.2.2.2.2.2.2.2.2.2.2.2.2.2.2.2.2.1, u8.2.2.2.2.2.2.2.2.2.2.2.2.2.2.2.2.2.2.2.2.1, u8.2.2.2.2.2.2.2.2.2.2.2.2.2.2.2.2.2.2.2.2.2.1, u8.2.2.2.2.2.2.2.2.2.2.2.2.2.2.2.2.2.2.2.2.2.2.1, (u8.2.2.2.2.2.2.2.2.2.2.2.2.2.2.2.2.2.2.2.2.2.2.2 0), (u8.2.2.2.2.2.2.2.2.2.2.2.2.2.2.2.2.2.2.2.2.2.2.2 1), (u8.2.2.2.2.2.2.2.2.2.2.2.2.2.2.2.2.2.2.2.2.2.2.2 2), (u8.2.2.2.2.2.2.2.2.2.2.2.2.2.2.2.2.2.2.2.2.2.2.2 3), (u8.2.2.2.2.2.2.2.2.2.2.2.2.2.2.2.2.2.2.2.2.2.2.2 4), (u8.2.2.2.2.2.2.2.2.2.2.2.2.2.2.2.2.2.2.2.2.2.2.2 5), (u8.2.2.2.2.2.2.2.2.2.2.2.2.2.2.2.2.2.2.2.2.2.2.2 6), (u8.2.2.2.2.2.2.2.2.2.2.2.2.2.2.2.2.2.2.2.2.2.2.2 7), q1, u9.1, u9.2.1, u9.2.2.1, u9.2.2.2.1, u9.2.2.2.2.1, u9.2.2.2.2.2.1, u9.2.2.2.2.2.2.1, u9.2.2.2.2.2.2.2.1, u9.2.2.2.2.2.2.2.2.1, u9.2.2.2.2.2.2.2.2.2.1, u9.2.2.2.2.2.2.2.2.2.2.1, u9.2.2.2.2.2.2.2.2.2.2.2.1, u9.2.2.2.2.2.2.2.2.2.2.2.2.1, u9.2.2.2.2.2.2.2.2.2.2.2.2.2.1, u9.2.2.2.2.2.2.2.2.2.2.2.2.2.2.1, u9.2.2.2.2.2.2.2.2.2.2.2.2.2.2.2] := rfl
theorem ad_at {β : Type} (ws : List (Nat × β)) {i : Nat} (h : i < ws.length) : ∃ e, ws[i]? = some ((ws.map Prod.fst).getD i 0, e) := by
  refine ⟨ws[i].2, ?_⟩
  rw [List.getElem?_eq_getElem h]
  simp [List.getD, h]
theorem rz_eq {c : ClassId} {n : Nat} {f g : Nat → Nat} (h : ∀ i, i < n → f i = g i) : rz c n f = rz c n g := by
  have e : (fun i => if i < n then some (f i) else none) = (fun i => if i < n then some (g i) else none) := by
    funext i
    by_cases hi : i < n
    · rw [if_pos hi, if_pos hi, h i hi]
    · rw [if_neg hi, if_neg hi]
  show (Sum.inl (c, n, .inr (.inr (.inr (.inr (fun i => if i < n then some (f i) else none))))) : va_E) = Sum.inl (c, n, .inr (.inr (.inr (.inr (fun i => if i < n then some (g i) else none)))))
  rw [e]
theorem gr_eq_8 {q0 q1 : Nat} {u8 : (Nat) × ((Nat)) × (Nat) × ((Nat)) × (Nat) × ((Nat)) × (Nat) × ((Nat) × (Nat → Nat)) × (Nat) × ((Nat) × (Nat → Nat)) × (Nat) × ((Nat) × (Nat) × (Nat)) × (Nat) × ((Nat) × (Nat)) × (Nat) × ((Nat) × ((Nat) × (Nat)) × (Nat) × (Nat → Nat) × (Nat) × (Nat → Nat) × (Nat) × (Nat)) × (Nat) × ((Nat) × (Nat) × (Nat) × (Nat) × (Nat) × (Nat) × (Nat → Nat))} {u9 : (Nat) × (Nat) × (Nat) × (Nat) × (Nat) × (Nat) × (Nat) × (Nat) × (Nat) × (Nat) × (Nat) × (Nat) × (Nat) × (Nat) × (Nat) × (Nat)} {c : ClassId} : rz c 10 (fun i => ad_of q0 q1 u8 u9 (9 + i)) = rz c 10 u8.2.2.2.2.2.2.2.1.2 := rz_eq (fun i hi => by
  match i, hi with
  | 0, _ => rfl
  | 1, _ => rfl
  | 2, _ => rfl
  | 3, _ => rfl
  | 4, _ => rfl
  | 5, _ => rfl
  | 6, _ => rfl
  | 7, _ => rfl
  | 8, _ => rfl
  | 9, _ => rfl
  | i + 10, hi => exact absurd hi (by omega))
theorem gr_eq_20 {q0 q1 : Nat} {u8 : (Nat) × ((Nat)) × (Nat) × ((Nat)) × (Nat) × ((Nat)) × (Nat) × ((Nat) × (Nat → Nat)) × (Nat) × ((Nat) × (Nat → Nat)) × (Nat) × ((Nat) × (Nat) × (Nat)) × (Nat) × ((Nat) × (Nat)) × (Nat) × ((Nat) × ((Nat) × (Nat)) × (Nat) × (Nat → Nat) × (Nat) × (Nat → Nat) × (Nat) × (Nat)) × (Nat) × ((Nat) × (Nat) × (Nat) × (Nat) × (Nat) × (Nat) × (Nat → Nat))} {u9 : (Nat) × (Nat) × (Nat) × (Nat) × (Nat) × (Nat) × (Nat) × (Nat) × (Nat) × (Nat) × (Nat) × (Nat) × (Nat) × (Nat) × (Nat) × (Nat)} {c : ClassId} : rz c 2 (fun i => ad_of q0 q1 u8 u9 (21 + i)) = rz c 2 u8.2.2.2.2.2.2.2.2.2.1.2 := rz_eq (fun i hi => by
  match i, hi with
  | 0, _ => rfl
  | 1, _ => rfl
  | i + 2, hi => exact absurd hi (by omega))
theorem gr_eq_34 {q0 q1 : Nat} {u8 : (Nat) × ((Nat)) × (Nat) × ((Nat)) × (Nat) × ((Nat)) × (Nat) × ((Nat) × (Nat → Nat)) × (Nat) × ((Nat) × (Nat → Nat)) × (Nat) × ((Nat) × (Nat) × (Nat)) × (Nat) × ((Nat) × (Nat)) × (Nat) × ((Nat) × ((Nat) × (Nat)) × (Nat) × (Nat → Nat) × (Nat) × (Nat → Nat) × (Nat) × (Nat)) × (Nat) × ((Nat) × (Nat) × (Nat) × (Nat) × (Nat) × (Nat) × (Nat → Nat))} {u9 : (Nat) × (Nat) × (Nat) × (Nat) × (Nat) × (Nat) × (Nat) × (Nat) × (Nat) × (Nat) × (Nat) × (Nat) × (Nat) × (Nat) × (Nat) × (Nat)} {c : ClassId} : rz c 14 (fun i => ad_of q0 q1 u8 u9 (35 + i)) = rz c 14 u8.2.2.2.2.2.2.2.2.2.2.2.2.2.2.2.1.2.2.2.1 := rz_eq (fun i hi => by
  match i, hi with
  | 0, _ => rfl
  | 1, _ => rfl
  | 2, _ => rfl
  | 3, _ => rfl
  | 4, _ => rfl
  | 5, _ => rfl
  | 6, _ => rfl
  | 7, _ => rfl
  | 8, _ => rfl
  | 9, _ => rfl
  | 10, _ => rfl
  | 11, _ => rfl
  | 12, _ => rfl
  | 13, _ => rfl
  | i + 14, hi => exact absurd hi (by omega))
theorem gr_eq_49 {q0 q1 : Nat} {u8 : (Nat) × ((Nat)) × (Nat) × ((Nat)) × (Nat) × ((Nat)) × (Nat) × ((Nat) × (Nat → Nat)) × (Nat) × ((Nat) × (Nat → Nat)) × (Nat) × ((Nat) × (Nat) × (Nat)) × (Nat) × ((Nat) × (Nat)) × (Nat) × ((Nat) × ((Nat) × (Nat)) × (Nat) × (Nat → Nat) × (Nat) × (Nat → Nat) × (Nat) × (Nat)) × (Nat) × ((Nat) × (Nat) × (Nat) × (Nat) × (Nat) × (Nat) × (Nat → Nat))} {u9 : (Nat) × (Nat) × (Nat) × (Nat) × (Nat) × (Nat) × (Nat) × (Nat) × (Nat) × (Nat) × (Nat) × (Nat) × (Nat) × (Nat) × (Nat) × (Nat)} {c : ClassId} : rz c 14 (fun i => ad_of q0 q1 u8 u9 (50 + i)) = rz c 14 u8.2.2.2.2.2.2.2.2.2.2.2.2.2.2.2.1.2.2.2.2.2.1 := rz_eq (fun i hi => by
  match i, hi with
  | 0, _ => rfl
  | 1, _ => rfl
  | 2, _ => rfl
  | 3, _ => rfl
  | 4, _ => rfl
  | 5, _ => rfl
  | 6, _ => rfl
  | 7, _ => rfl
  | 8, _ => rfl
  | 9, _ => rfl
  | 10, _ => rfl
  | 11, _ => rfl
  | 12, _ => rfl
  | 13, _ => rfl
  | i + 14, hi => exact absurd hi (by omega))
theorem gr_eq_72 {q0 q1 : Nat} {u8 : (Nat) × ((Nat)) × (Nat) × ((Nat)) × (Nat) × ((Nat)) × (Nat) × ((Nat) × (Nat → Nat)) × (Nat) × ((Nat) × (Nat → Nat)) × (Nat) × ((Nat) × (Nat) × (Nat)) × (Nat) × ((Nat) × (Nat)) × (Nat) × ((Nat) × ((Nat) × (Nat)) × (Nat) × (Nat → Nat) × (Nat) × (Nat → Nat) × (Nat) × (Nat)) × (Nat) × ((Nat) × (Nat) × (Nat) × (Nat) × (Nat) × (Nat) × (Nat → Nat))} {u9 : (Nat) × (Nat) × (Nat) × (Nat) × (Nat) × (Nat) × (Nat) × (Nat) × (Nat) × (Nat) × (Nat) × (Nat) × (Nat) × (Nat) × (Nat) × (Nat)} {c : ClassId} : rz c 8 (fun i => ad_of q0 q1 u8 u9 (73 + i)) = rz c 8 u8.2.2.2.2.2.2.2.2.2.2.2.2.2.2.2.2.2.2.2.2.2.2.2 := rz_eq (fun i hi => by
  match i, hi with
  | 0, _ => rfl
  | 1, _ => rfl
  | 2, _ => rfl
  | 3, _ => rfl
  | 4, _ => rfl
  | 5, _ => rfl
  | 6, _ => rfl
  | 7, _ => rfl
  | i + 8, hi => exact absurd hi (by omega))
theorem fl_81 (ad : Nat → Nat) (r : Nat → Int32) : fw_fl ad [none, some 82, some 83, some 84, none, some 85, some 86, none, some 87, some 88, some 89, none, some 90, none, none, some 91, some 92, some 93, some 94, some 95, some 96, some 97] r = [.int (r 0), .ref (ad 82), .ref (ad 83), .ref (ad 84), .int (r 4), .ref (ad 85), .ref (ad 86), .int (r 7), .ref (ad 87), .ref (ad 88), .ref (ad 89), .int (r 11), .ref (ad 90), .int (r 13), .int (r 14), .ref (ad 91), .ref (ad 92), .ref (ad 93), .ref (ad 94), .ref (ad 95), .ref (ad 96), .ref (ad 97)] := by
  simp [fw_fl]
set_option maxRecDepth 100000 in
theorem sp_0 {D : va_G} {cs : ClassId × ClassId × ClassId} {q0 q1 : Nat} {u8 : (Nat) × ((Nat)) × (Nat) × ((Nat)) × (Nat) × ((Nat)) × (Nat) × ((Nat) × (Nat → Nat)) × (Nat) × ((Nat) × (Nat → Nat)) × (Nat) × ((Nat) × (Nat) × (Nat)) × (Nat) × ((Nat) × (Nat)) × (Nat) × ((Nat) × ((Nat) × (Nat)) × (Nat) × (Nat → Nat) × (Nat) × (Nat → Nat) × (Nat) × (Nat)) × (Nat) × ((Nat) × (Nat) × (Nat) × (Nat) × (Nat) × (Nat) × (Nat → Nat))} {u9 : (Nat) × (Nat) × (Nat) × (Nat) × (Nat) × (Nat) × (Nat) × (Nat) × (Nat) × (Nat) × (Nat) × (Nat) × (Nat) × (Nat) × (Nat) × (Nat)} {tt : Nat × Nat} {adK adV : Nat → Nat} {H : Heap} (hP : va_P D vwCl (wI_X8 cs q0 u8 ++ wI_X9 cs q1 u9) H) : ∀ sh, fw_lay[0]? = some sh → va_at D vwCl (ad_of q0 q1 u8 u9 0, fw_cell (ad_of q0 q1 u8 u9, D, cs, tt, adK, adV) sh (G0 0)) H := by
  intro sh h
  cases s_0.symm.trans h
  have h := hP 0 (q0, .inr (8, [.ref u8.1, .ref u8.2.2.1, .ref u8.2.2.2.2.1, .ref u8.2.2.2.2.2.2.1, .ref u8.2.2.2.2.2.2.2.2.1, .ref u8.2.2.2.2.2.2.2.2.2.2.1, .ref u8.2.2.2.2.2.2.2.2.2.2.2.2.1, .ref u8.2.2.2.2.2.2.2.2.2.2.2.2.2.2.1, .ref u8.2.2.2.2.2.2.2.2.2.2.2.2.2.2.2.2.1])) rfl
  exact h
set_option maxRecDepth 100000 in
theorem sp_1 {D : va_G} {cs : ClassId × ClassId × ClassId} {q0 q1 : Nat} {u8 : (Nat) × ((Nat)) × (Nat) × ((Nat)) × (Nat) × ((Nat)) × (Nat) × ((Nat) × (Nat → Nat)) × (Nat) × ((Nat) × (Nat → Nat)) × (Nat) × ((Nat) × (Nat) × (Nat)) × (Nat) × ((Nat) × (Nat)) × (Nat) × ((Nat) × ((Nat) × (Nat)) × (Nat) × (Nat → Nat) × (Nat) × (Nat → Nat) × (Nat) × (Nat)) × (Nat) × ((Nat) × (Nat) × (Nat) × (Nat) × (Nat) × (Nat) × (Nat → Nat))} {u9 : (Nat) × (Nat) × (Nat) × (Nat) × (Nat) × (Nat) × (Nat) × (Nat) × (Nat) × (Nat) × (Nat) × (Nat) × (Nat) × (Nat) × (Nat) × (Nat)} {tt : Nat × Nat} {adK adV : Nat → Nat} {H : Heap} (hP : va_P D vwCl (wI_X8 cs q0 u8 ++ wI_X9 cs q1 u9) H) : ∀ sh, fw_lay[1]? = some sh → va_at D vwCl (ad_of q0 q1 u8 u9 1, fw_cell (ad_of q0 q1 u8 u9, D, cs, tt, adK, adV) sh (G0 1)) H := by
  intro sh h
  cases s_1.symm.trans h
  have h := hP 1 (u8.1, .inr (6, [.ref u8.2.1])) rfl
  exact h
set_option maxRecDepth 100000 in
theorem sp_2 {D : va_G} {cs : ClassId × ClassId × ClassId} {q0 q1 : Nat} {u8 : (Nat) × ((Nat)) × (Nat) × ((Nat)) × (Nat) × ((Nat)) × (Nat) × ((Nat) × (Nat → Nat)) × (Nat) × ((Nat) × (Nat → Nat)) × (Nat) × ((Nat) × (Nat) × (Nat)) × (Nat) × ((Nat) × (Nat)) × (Nat) × ((Nat) × ((Nat) × (Nat)) × (Nat) × (Nat → Nat) × (Nat) × (Nat → Nat) × (Nat) × (Nat)) × (Nat) × ((Nat) × (Nat) × (Nat) × (Nat) × (Nat) × (Nat) × (Nat → Nat))} {u9 : (Nat) × (Nat) × (Nat) × (Nat) × (Nat) × (Nat) × (Nat) × (Nat) × (Nat) × (Nat) × (Nat) × (Nat) × (Nat) × (Nat) × (Nat) × (Nat)} {tt : Nat × Nat} {adK adV : Nat → Nat} {H : Heap} (hP : va_P D vwCl (wI_X8 cs q0 u8 ++ wI_X9 cs q1 u9) H) : ∀ sh, fw_lay[2]? = some sh → va_at D vwCl (ad_of q0 q1 u8 u9 2, fw_cell (ad_of q0 q1 u8 u9, D, cs, tt, adK, adV) sh (G0 2)) H := by
  intro sh h
  cases s_2.symm.trans h
  have h := hP 2 (u8.2.1, az cs.1 74) rfl
  exact h
set_option maxRecDepth 100000 in
theorem sp_3 {D : va_G} {cs : ClassId × ClassId × ClassId} {q0 q1 : Nat} {u8 : (Nat) × ((Nat)) × (Nat) × ((Nat)) × (Nat) × ((Nat)) × (Nat) × ((Nat) × (Nat → Nat)) × (Nat) × ((Nat) × (Nat → Nat)) × (Nat) × ((Nat) × (Nat) × (Nat)) × (Nat) × ((Nat) × (Nat)) × (Nat) × ((Nat) × ((Nat) × (Nat)) × (Nat) × (Nat → Nat) × (Nat) × (Nat → Nat) × (Nat) × (Nat)) × (Nat) × ((Nat) × (Nat) × (Nat) × (Nat) × (Nat) × (Nat) × (Nat → Nat))} {u9 : (Nat) × (Nat) × (Nat) × (Nat) × (Nat) × (Nat) × (Nat) × (Nat) × (Nat) × (Nat) × (Nat) × (Nat) × (Nat) × (Nat) × (Nat) × (Nat)} {tt : Nat × Nat} {adK adV : Nat → Nat} {H : Heap} (hP : va_P D vwCl (wI_X8 cs q0 u8 ++ wI_X9 cs q1 u9) H) : ∀ sh, fw_lay[3]? = some sh → va_at D vwCl (ad_of q0 q1 u8 u9 3, fw_cell (ad_of q0 q1 u8 u9, D, cs, tt, adK, adV) sh (G0 3)) H := by
  intro sh h
  cases s_3.symm.trans h
  have h := hP 3 (u8.2.2.1, .inr (6, [.ref u8.2.2.2.1])) rfl
  exact h
set_option maxRecDepth 100000 in
theorem sp_4 {D : va_G} {cs : ClassId × ClassId × ClassId} {q0 q1 : Nat} {u8 : (Nat) × ((Nat)) × (Nat) × ((Nat)) × (Nat) × ((Nat)) × (Nat) × ((Nat) × (Nat → Nat)) × (Nat) × ((Nat) × (Nat → Nat)) × (Nat) × ((Nat) × (Nat) × (Nat)) × (Nat) × ((Nat) × (Nat)) × (Nat) × ((Nat) × ((Nat) × (Nat)) × (Nat) × (Nat → Nat) × (Nat) × (Nat → Nat) × (Nat) × (Nat)) × (Nat) × ((Nat) × (Nat) × (Nat) × (Nat) × (Nat) × (Nat) × (Nat → Nat))} {u9 : (Nat) × (Nat) × (Nat) × (Nat) × (Nat) × (Nat) × (Nat) × (Nat) × (Nat) × (Nat) × (Nat) × (Nat) × (Nat) × (Nat) × (Nat) × (Nat)} {tt : Nat × Nat} {adK adV : Nat → Nat} {H : Heap} (hP : va_P D vwCl (wI_X8 cs q0 u8 ++ wI_X9 cs q1 u9) H) : ∀ sh, fw_lay[4]? = some sh → va_at D vwCl (ad_of q0 q1 u8 u9 4, fw_cell (ad_of q0 q1 u8 u9, D, cs, tt, adK, adV) sh (G0 4)) H := by
  intro sh h
  cases s_4.symm.trans h
  have h := hP 4 (u8.2.2.2.1, az cs.1 74) rfl
  exact h
set_option maxRecDepth 100000 in
theorem sp_5 {D : va_G} {cs : ClassId × ClassId × ClassId} {q0 q1 : Nat} {u8 : (Nat) × ((Nat)) × (Nat) × ((Nat)) × (Nat) × ((Nat)) × (Nat) × ((Nat) × (Nat → Nat)) × (Nat) × ((Nat) × (Nat → Nat)) × (Nat) × ((Nat) × (Nat) × (Nat)) × (Nat) × ((Nat) × (Nat)) × (Nat) × ((Nat) × ((Nat) × (Nat)) × (Nat) × (Nat → Nat) × (Nat) × (Nat → Nat) × (Nat) × (Nat)) × (Nat) × ((Nat) × (Nat) × (Nat) × (Nat) × (Nat) × (Nat) × (Nat → Nat))} {u9 : (Nat) × (Nat) × (Nat) × (Nat) × (Nat) × (Nat) × (Nat) × (Nat) × (Nat) × (Nat) × (Nat) × (Nat) × (Nat) × (Nat) × (Nat) × (Nat)} {tt : Nat × Nat} {adK adV : Nat → Nat} {H : Heap} (hP : va_P D vwCl (wI_X8 cs q0 u8 ++ wI_X9 cs q1 u9) H) : ∀ sh, fw_lay[5]? = some sh → va_at D vwCl (ad_of q0 q1 u8 u9 5, fw_cell (ad_of q0 q1 u8 u9, D, cs, tt, adK, adV) sh (G0 5)) H := by
  intro sh h
  cases s_5.symm.trans h
  have h := hP 5 (u8.2.2.2.2.1, .inr (7, [.ref u8.2.2.2.2.2.1, .int 0, .int 0, .int 0, .int 0, .int 0, .int 0, .int 0])) rfl
  exact h
set_option maxRecDepth 100000 in
theorem sp_6 {D : va_G} {cs : ClassId × ClassId × ClassId} {q0 q1 : Nat} {u8 : (Nat) × ((Nat)) × (Nat) × ((Nat)) × (Nat) × ((Nat)) × (Nat) × ((Nat) × (Nat → Nat)) × (Nat) × ((Nat) × (Nat → Nat)) × (Nat) × ((Nat) × (Nat) × (Nat)) × (Nat) × ((Nat) × (Nat)) × (Nat) × ((Nat) × ((Nat) × (Nat)) × (Nat) × (Nat → Nat) × (Nat) × (Nat → Nat) × (Nat) × (Nat)) × (Nat) × ((Nat) × (Nat) × (Nat) × (Nat) × (Nat) × (Nat) × (Nat → Nat))} {u9 : (Nat) × (Nat) × (Nat) × (Nat) × (Nat) × (Nat) × (Nat) × (Nat) × (Nat) × (Nat) × (Nat) × (Nat) × (Nat) × (Nat) × (Nat) × (Nat)} {tt : Nat × Nat} {adK adV : Nat → Nat} {H : Heap} (hP : va_P D vwCl (wI_X8 cs q0 u8 ++ wI_X9 cs q1 u9) H) : ∀ sh, fw_lay[6]? = some sh → va_at D vwCl (ad_of q0 q1 u8 u9 6, fw_cell (ad_of q0 q1 u8 u9, D, cs, tt, adK, adV) sh (G0 6)) H := by
  intro sh h
  cases s_6.symm.trans h
  have h := hP 6 (u8.2.2.2.2.2.1, az cs.1 80) rfl
  exact h
set_option maxRecDepth 100000 in
theorem sp_7 {D : va_G} {cs : ClassId × ClassId × ClassId} {q0 q1 : Nat} {u8 : (Nat) × ((Nat)) × (Nat) × ((Nat)) × (Nat) × ((Nat)) × (Nat) × ((Nat) × (Nat → Nat)) × (Nat) × ((Nat) × (Nat → Nat)) × (Nat) × ((Nat) × (Nat) × (Nat)) × (Nat) × ((Nat) × (Nat)) × (Nat) × ((Nat) × ((Nat) × (Nat)) × (Nat) × (Nat → Nat) × (Nat) × (Nat → Nat) × (Nat) × (Nat)) × (Nat) × ((Nat) × (Nat) × (Nat) × (Nat) × (Nat) × (Nat) × (Nat → Nat))} {u9 : (Nat) × (Nat) × (Nat) × (Nat) × (Nat) × (Nat) × (Nat) × (Nat) × (Nat) × (Nat) × (Nat) × (Nat) × (Nat) × (Nat) × (Nat) × (Nat)} {tt : Nat × Nat} {adK adV : Nat → Nat} {H : Heap} (hP : va_P D vwCl (wI_X8 cs q0 u8 ++ wI_X9 cs q1 u9) H) : ∀ sh, fw_lay[7]? = some sh → va_at D vwCl (ad_of q0 q1 u8 u9 7, fw_cell (ad_of q0 q1 u8 u9, D, cs, tt, adK, adV) sh (G0 7)) H := by
  intro sh h
  cases s_7.symm.trans h
  have h := hP 7 (u8.2.2.2.2.2.2.1, .inr (2, [.ref u8.2.2.2.2.2.2.2.1.1, .int 0, .int 0])) rfl
  exact h
set_option maxRecDepth 100000 in
theorem sp_8 {D : va_G} {cs : ClassId × ClassId × ClassId} {q0 q1 : Nat} {u8 : (Nat) × ((Nat)) × (Nat) × ((Nat)) × (Nat) × ((Nat)) × (Nat) × ((Nat) × (Nat → Nat)) × (Nat) × ((Nat) × (Nat → Nat)) × (Nat) × ((Nat) × (Nat) × (Nat)) × (Nat) × ((Nat) × (Nat)) × (Nat) × ((Nat) × ((Nat) × (Nat)) × (Nat) × (Nat → Nat) × (Nat) × (Nat → Nat) × (Nat) × (Nat)) × (Nat) × ((Nat) × (Nat) × (Nat) × (Nat) × (Nat) × (Nat) × (Nat → Nat))} {u9 : (Nat) × (Nat) × (Nat) × (Nat) × (Nat) × (Nat) × (Nat) × (Nat) × (Nat) × (Nat) × (Nat) × (Nat) × (Nat) × (Nat) × (Nat) × (Nat)} {tt : Nat × Nat} {adK adV : Nat → Nat} {H : Heap} (hP : va_P D vwCl (wI_X8 cs q0 u8 ++ wI_X9 cs q1 u9) H) : ∀ sh, fw_lay[8]? = some sh → va_at D vwCl (ad_of q0 q1 u8 u9 8, fw_cell (ad_of q0 q1 u8 u9, D, cs, tt, adK, adV) sh (G0 8)) H := by
  intro sh h
  cases s_8.symm.trans h
  have h := hP 8 (u8.2.2.2.2.2.2.2.1.1, rz cs.2.2 10 u8.2.2.2.2.2.2.2.1.2) rfl
  rw [← gr_eq_8 (q0 := q0) (q1 := q1) (u8 := u8) (u9 := u9)] at h
  exact h
set_option maxRecDepth 100000 in
theorem sp_9 {D : va_G} {cs : ClassId × ClassId × ClassId} {q0 q1 : Nat} {u8 : (Nat) × ((Nat)) × (Nat) × ((Nat)) × (Nat) × ((Nat)) × (Nat) × ((Nat) × (Nat → Nat)) × (Nat) × ((Nat) × (Nat → Nat)) × (Nat) × ((Nat) × (Nat) × (Nat)) × (Nat) × ((Nat) × (Nat)) × (Nat) × ((Nat) × ((Nat) × (Nat)) × (Nat) × (Nat → Nat) × (Nat) × (Nat → Nat) × (Nat) × (Nat)) × (Nat) × ((Nat) × (Nat) × (Nat) × (Nat) × (Nat) × (Nat) × (Nat → Nat))} {u9 : (Nat) × (Nat) × (Nat) × (Nat) × (Nat) × (Nat) × (Nat) × (Nat) × (Nat) × (Nat) × (Nat) × (Nat) × (Nat) × (Nat) × (Nat) × (Nat)} {tt : Nat × Nat} {adK adV : Nat → Nat} {H : Heap} (hP : va_P D vwCl (wI_X8 cs q0 u8 ++ wI_X9 cs q1 u9) H) : ∀ sh, fw_lay[9]? = some sh → va_at D vwCl (ad_of q0 q1 u8 u9 9, fw_cell (ad_of q0 q1 u8 u9, D, cs, tt, adK, adV) sh (G0 9)) H := by
  intro sh h
  cases s_9.symm.trans h
  have h := hP 9 ((u8.2.2.2.2.2.2.2.1.2 0), az cs.1 74) rfl
  exact h
set_option maxRecDepth 100000 in
theorem sp_10 {D : va_G} {cs : ClassId × ClassId × ClassId} {q0 q1 : Nat} {u8 : (Nat) × ((Nat)) × (Nat) × ((Nat)) × (Nat) × ((Nat)) × (Nat) × ((Nat) × (Nat → Nat)) × (Nat) × ((Nat) × (Nat → Nat)) × (Nat) × ((Nat) × (Nat) × (Nat)) × (Nat) × ((Nat) × (Nat)) × (Nat) × ((Nat) × ((Nat) × (Nat)) × (Nat) × (Nat → Nat) × (Nat) × (Nat → Nat) × (Nat) × (Nat)) × (Nat) × ((Nat) × (Nat) × (Nat) × (Nat) × (Nat) × (Nat) × (Nat → Nat))} {u9 : (Nat) × (Nat) × (Nat) × (Nat) × (Nat) × (Nat) × (Nat) × (Nat) × (Nat) × (Nat) × (Nat) × (Nat) × (Nat) × (Nat) × (Nat) × (Nat)} {tt : Nat × Nat} {adK adV : Nat → Nat} {H : Heap} (hP : va_P D vwCl (wI_X8 cs q0 u8 ++ wI_X9 cs q1 u9) H) : ∀ sh, fw_lay[10]? = some sh → va_at D vwCl (ad_of q0 q1 u8 u9 10, fw_cell (ad_of q0 q1 u8 u9, D, cs, tt, adK, adV) sh (G0 10)) H := by
  intro sh h
  cases s_10.symm.trans h
  have h := hP 10 ((u8.2.2.2.2.2.2.2.1.2 1), az cs.1 74) rfl
  exact h
set_option maxRecDepth 100000 in
theorem sp_11 {D : va_G} {cs : ClassId × ClassId × ClassId} {q0 q1 : Nat} {u8 : (Nat) × ((Nat)) × (Nat) × ((Nat)) × (Nat) × ((Nat)) × (Nat) × ((Nat) × (Nat → Nat)) × (Nat) × ((Nat) × (Nat → Nat)) × (Nat) × ((Nat) × (Nat) × (Nat)) × (Nat) × ((Nat) × (Nat)) × (Nat) × ((Nat) × ((Nat) × (Nat)) × (Nat) × (Nat → Nat) × (Nat) × (Nat → Nat) × (Nat) × (Nat)) × (Nat) × ((Nat) × (Nat) × (Nat) × (Nat) × (Nat) × (Nat) × (Nat → Nat))} {u9 : (Nat) × (Nat) × (Nat) × (Nat) × (Nat) × (Nat) × (Nat) × (Nat) × (Nat) × (Nat) × (Nat) × (Nat) × (Nat) × (Nat) × (Nat) × (Nat)} {tt : Nat × Nat} {adK adV : Nat → Nat} {H : Heap} (hP : va_P D vwCl (wI_X8 cs q0 u8 ++ wI_X9 cs q1 u9) H) : ∀ sh, fw_lay[11]? = some sh → va_at D vwCl (ad_of q0 q1 u8 u9 11, fw_cell (ad_of q0 q1 u8 u9, D, cs, tt, adK, adV) sh (G0 11)) H := by
  intro sh h
  cases s_11.symm.trans h
  have h := hP 11 ((u8.2.2.2.2.2.2.2.1.2 2), az cs.1 74) rfl
  exact h
set_option maxRecDepth 100000 in
theorem sp_12 {D : va_G} {cs : ClassId × ClassId × ClassId} {q0 q1 : Nat} {u8 : (Nat) × ((Nat)) × (Nat) × ((Nat)) × (Nat) × ((Nat)) × (Nat) × ((Nat) × (Nat → Nat)) × (Nat) × ((Nat) × (Nat → Nat)) × (Nat) × ((Nat) × (Nat) × (Nat)) × (Nat) × ((Nat) × (Nat)) × (Nat) × ((Nat) × ((Nat) × (Nat)) × (Nat) × (Nat → Nat) × (Nat) × (Nat → Nat) × (Nat) × (Nat)) × (Nat) × ((Nat) × (Nat) × (Nat) × (Nat) × (Nat) × (Nat) × (Nat → Nat))} {u9 : (Nat) × (Nat) × (Nat) × (Nat) × (Nat) × (Nat) × (Nat) × (Nat) × (Nat) × (Nat) × (Nat) × (Nat) × (Nat) × (Nat) × (Nat) × (Nat)} {tt : Nat × Nat} {adK adV : Nat → Nat} {H : Heap} (hP : va_P D vwCl (wI_X8 cs q0 u8 ++ wI_X9 cs q1 u9) H) : ∀ sh, fw_lay[12]? = some sh → va_at D vwCl (ad_of q0 q1 u8 u9 12, fw_cell (ad_of q0 q1 u8 u9, D, cs, tt, adK, adV) sh (G0 12)) H := by
  intro sh h
  cases s_12.symm.trans h
  have h := hP 12 ((u8.2.2.2.2.2.2.2.1.2 3), az cs.1 74) rfl
  exact h
set_option maxRecDepth 100000 in
theorem sp_13 {D : va_G} {cs : ClassId × ClassId × ClassId} {q0 q1 : Nat} {u8 : (Nat) × ((Nat)) × (Nat) × ((Nat)) × (Nat) × ((Nat)) × (Nat) × ((Nat) × (Nat → Nat)) × (Nat) × ((Nat) × (Nat → Nat)) × (Nat) × ((Nat) × (Nat) × (Nat)) × (Nat) × ((Nat) × (Nat)) × (Nat) × ((Nat) × ((Nat) × (Nat)) × (Nat) × (Nat → Nat) × (Nat) × (Nat → Nat) × (Nat) × (Nat)) × (Nat) × ((Nat) × (Nat) × (Nat) × (Nat) × (Nat) × (Nat) × (Nat → Nat))} {u9 : (Nat) × (Nat) × (Nat) × (Nat) × (Nat) × (Nat) × (Nat) × (Nat) × (Nat) × (Nat) × (Nat) × (Nat) × (Nat) × (Nat) × (Nat) × (Nat)} {tt : Nat × Nat} {adK adV : Nat → Nat} {H : Heap} (hP : va_P D vwCl (wI_X8 cs q0 u8 ++ wI_X9 cs q1 u9) H) : ∀ sh, fw_lay[13]? = some sh → va_at D vwCl (ad_of q0 q1 u8 u9 13, fw_cell (ad_of q0 q1 u8 u9, D, cs, tt, adK, adV) sh (G0 13)) H := by
  intro sh h
  cases s_13.symm.trans h
  have h := hP 13 ((u8.2.2.2.2.2.2.2.1.2 4), az cs.1 74) rfl
  exact h
set_option maxRecDepth 100000 in
theorem sp_14 {D : va_G} {cs : ClassId × ClassId × ClassId} {q0 q1 : Nat} {u8 : (Nat) × ((Nat)) × (Nat) × ((Nat)) × (Nat) × ((Nat)) × (Nat) × ((Nat) × (Nat → Nat)) × (Nat) × ((Nat) × (Nat → Nat)) × (Nat) × ((Nat) × (Nat) × (Nat)) × (Nat) × ((Nat) × (Nat)) × (Nat) × ((Nat) × ((Nat) × (Nat)) × (Nat) × (Nat → Nat) × (Nat) × (Nat → Nat) × (Nat) × (Nat)) × (Nat) × ((Nat) × (Nat) × (Nat) × (Nat) × (Nat) × (Nat) × (Nat → Nat))} {u9 : (Nat) × (Nat) × (Nat) × (Nat) × (Nat) × (Nat) × (Nat) × (Nat) × (Nat) × (Nat) × (Nat) × (Nat) × (Nat) × (Nat) × (Nat) × (Nat)} {tt : Nat × Nat} {adK adV : Nat → Nat} {H : Heap} (hP : va_P D vwCl (wI_X8 cs q0 u8 ++ wI_X9 cs q1 u9) H) : ∀ sh, fw_lay[14]? = some sh → va_at D vwCl (ad_of q0 q1 u8 u9 14, fw_cell (ad_of q0 q1 u8 u9, D, cs, tt, adK, adV) sh (G0 14)) H := by
  intro sh h
  cases s_14.symm.trans h
  have h := hP 14 ((u8.2.2.2.2.2.2.2.1.2 5), az cs.1 74) rfl
  exact h
set_option maxRecDepth 100000 in
theorem sp_15 {D : va_G} {cs : ClassId × ClassId × ClassId} {q0 q1 : Nat} {u8 : (Nat) × ((Nat)) × (Nat) × ((Nat)) × (Nat) × ((Nat)) × (Nat) × ((Nat) × (Nat → Nat)) × (Nat) × ((Nat) × (Nat → Nat)) × (Nat) × ((Nat) × (Nat) × (Nat)) × (Nat) × ((Nat) × (Nat)) × (Nat) × ((Nat) × ((Nat) × (Nat)) × (Nat) × (Nat → Nat) × (Nat) × (Nat → Nat) × (Nat) × (Nat)) × (Nat) × ((Nat) × (Nat) × (Nat) × (Nat) × (Nat) × (Nat) × (Nat → Nat))} {u9 : (Nat) × (Nat) × (Nat) × (Nat) × (Nat) × (Nat) × (Nat) × (Nat) × (Nat) × (Nat) × (Nat) × (Nat) × (Nat) × (Nat) × (Nat) × (Nat)} {tt : Nat × Nat} {adK adV : Nat → Nat} {H : Heap} (hP : va_P D vwCl (wI_X8 cs q0 u8 ++ wI_X9 cs q1 u9) H) : ∀ sh, fw_lay[15]? = some sh → va_at D vwCl (ad_of q0 q1 u8 u9 15, fw_cell (ad_of q0 q1 u8 u9, D, cs, tt, adK, adV) sh (G0 15)) H := by
  intro sh h
  cases s_15.symm.trans h
  have h := hP 15 ((u8.2.2.2.2.2.2.2.1.2 6), az cs.1 74) rfl
  exact h
set_option maxRecDepth 100000 in
theorem sp_16 {D : va_G} {cs : ClassId × ClassId × ClassId} {q0 q1 : Nat} {u8 : (Nat) × ((Nat)) × (Nat) × ((Nat)) × (Nat) × ((Nat)) × (Nat) × ((Nat) × (Nat → Nat)) × (Nat) × ((Nat) × (Nat → Nat)) × (Nat) × ((Nat) × (Nat) × (Nat)) × (Nat) × ((Nat) × (Nat)) × (Nat) × ((Nat) × ((Nat) × (Nat)) × (Nat) × (Nat → Nat) × (Nat) × (Nat → Nat) × (Nat) × (Nat)) × (Nat) × ((Nat) × (Nat) × (Nat) × (Nat) × (Nat) × (Nat) × (Nat → Nat))} {u9 : (Nat) × (Nat) × (Nat) × (Nat) × (Nat) × (Nat) × (Nat) × (Nat) × (Nat) × (Nat) × (Nat) × (Nat) × (Nat) × (Nat) × (Nat) × (Nat)} {tt : Nat × Nat} {adK adV : Nat → Nat} {H : Heap} (hP : va_P D vwCl (wI_X8 cs q0 u8 ++ wI_X9 cs q1 u9) H) : ∀ sh, fw_lay[16]? = some sh → va_at D vwCl (ad_of q0 q1 u8 u9 16, fw_cell (ad_of q0 q1 u8 u9, D, cs, tt, adK, adV) sh (G0 16)) H := by
  intro sh h
  cases s_16.symm.trans h
  have h := hP 16 ((u8.2.2.2.2.2.2.2.1.2 7), az cs.1 74) rfl
  exact h
set_option maxRecDepth 100000 in
theorem sp_17 {D : va_G} {cs : ClassId × ClassId × ClassId} {q0 q1 : Nat} {u8 : (Nat) × ((Nat)) × (Nat) × ((Nat)) × (Nat) × ((Nat)) × (Nat) × ((Nat) × (Nat → Nat)) × (Nat) × ((Nat) × (Nat → Nat)) × (Nat) × ((Nat) × (Nat) × (Nat)) × (Nat) × ((Nat) × (Nat)) × (Nat) × ((Nat) × ((Nat) × (Nat)) × (Nat) × (Nat → Nat) × (Nat) × (Nat → Nat) × (Nat) × (Nat)) × (Nat) × ((Nat) × (Nat) × (Nat) × (Nat) × (Nat) × (Nat) × (Nat → Nat))} {u9 : (Nat) × (Nat) × (Nat) × (Nat) × (Nat) × (Nat) × (Nat) × (Nat) × (Nat) × (Nat) × (Nat) × (Nat) × (Nat) × (Nat) × (Nat) × (Nat)} {tt : Nat × Nat} {adK adV : Nat → Nat} {H : Heap} (hP : va_P D vwCl (wI_X8 cs q0 u8 ++ wI_X9 cs q1 u9) H) : ∀ sh, fw_lay[17]? = some sh → va_at D vwCl (ad_of q0 q1 u8 u9 17, fw_cell (ad_of q0 q1 u8 u9, D, cs, tt, adK, adV) sh (G0 17)) H := by
  intro sh h
  cases s_17.symm.trans h
  have h := hP 17 ((u8.2.2.2.2.2.2.2.1.2 8), az cs.1 74) rfl
  exact h
set_option maxRecDepth 100000 in
theorem sp_18 {D : va_G} {cs : ClassId × ClassId × ClassId} {q0 q1 : Nat} {u8 : (Nat) × ((Nat)) × (Nat) × ((Nat)) × (Nat) × ((Nat)) × (Nat) × ((Nat) × (Nat → Nat)) × (Nat) × ((Nat) × (Nat → Nat)) × (Nat) × ((Nat) × (Nat) × (Nat)) × (Nat) × ((Nat) × (Nat)) × (Nat) × ((Nat) × ((Nat) × (Nat)) × (Nat) × (Nat → Nat) × (Nat) × (Nat → Nat) × (Nat) × (Nat)) × (Nat) × ((Nat) × (Nat) × (Nat) × (Nat) × (Nat) × (Nat) × (Nat → Nat))} {u9 : (Nat) × (Nat) × (Nat) × (Nat) × (Nat) × (Nat) × (Nat) × (Nat) × (Nat) × (Nat) × (Nat) × (Nat) × (Nat) × (Nat) × (Nat) × (Nat)} {tt : Nat × Nat} {adK adV : Nat → Nat} {H : Heap} (hP : va_P D vwCl (wI_X8 cs q0 u8 ++ wI_X9 cs q1 u9) H) : ∀ sh, fw_lay[18]? = some sh → va_at D vwCl (ad_of q0 q1 u8 u9 18, fw_cell (ad_of q0 q1 u8 u9, D, cs, tt, adK, adV) sh (G0 18)) H := by
  intro sh h
  cases s_18.symm.trans h
  have h := hP 18 ((u8.2.2.2.2.2.2.2.1.2 9), az cs.1 74) rfl
  exact h
set_option maxRecDepth 100000 in
theorem sp_19 {D : va_G} {cs : ClassId × ClassId × ClassId} {q0 q1 : Nat} {u8 : (Nat) × ((Nat)) × (Nat) × ((Nat)) × (Nat) × ((Nat)) × (Nat) × ((Nat) × (Nat → Nat)) × (Nat) × ((Nat) × (Nat → Nat)) × (Nat) × ((Nat) × (Nat) × (Nat)) × (Nat) × ((Nat) × (Nat)) × (Nat) × ((Nat) × ((Nat) × (Nat)) × (Nat) × (Nat → Nat) × (Nat) × (Nat → Nat) × (Nat) × (Nat)) × (Nat) × ((Nat) × (Nat) × (Nat) × (Nat) × (Nat) × (Nat) × (Nat → Nat))} {u9 : (Nat) × (Nat) × (Nat) × (Nat) × (Nat) × (Nat) × (Nat) × (Nat) × (Nat) × (Nat) × (Nat) × (Nat) × (Nat) × (Nat) × (Nat) × (Nat)} {tt : Nat × Nat} {adK adV : Nat → Nat} {H : Heap} (hP : va_P D vwCl (wI_X8 cs q0 u8 ++ wI_X9 cs q1 u9) H) : ∀ sh, fw_lay[19]? = some sh → va_at D vwCl (ad_of q0 q1 u8 u9 19, fw_cell (ad_of q0 q1 u8 u9, D, cs, tt, adK, adV) sh (G0 19)) H := by
  intro sh h
  cases s_19.symm.trans h
  have h := hP 19 (u8.2.2.2.2.2.2.2.2.1, .inr (0, [.ref u8.2.2.2.2.2.2.2.2.2.1.1, .int 0])) rfl
  exact h
set_option maxRecDepth 100000 in
theorem sp_20 {D : va_G} {cs : ClassId × ClassId × ClassId} {q0 q1 : Nat} {u8 : (Nat) × ((Nat)) × (Nat) × ((Nat)) × (Nat) × ((Nat)) × (Nat) × ((Nat) × (Nat → Nat)) × (Nat) × ((Nat) × (Nat → Nat)) × (Nat) × ((Nat) × (Nat) × (Nat)) × (Nat) × ((Nat) × (Nat)) × (Nat) × ((Nat) × ((Nat) × (Nat)) × (Nat) × (Nat → Nat) × (Nat) × (Nat → Nat) × (Nat) × (Nat)) × (Nat) × ((Nat) × (Nat) × (Nat) × (Nat) × (Nat) × (Nat) × (Nat → Nat))} {u9 : (Nat) × (Nat) × (Nat) × (Nat) × (Nat) × (Nat) × (Nat) × (Nat) × (Nat) × (Nat) × (Nat) × (Nat) × (Nat) × (Nat) × (Nat) × (Nat)} {tt : Nat × Nat} {adK adV : Nat → Nat} {H : Heap} (hP : va_P D vwCl (wI_X8 cs q0 u8 ++ wI_X9 cs q1 u9) H) : ∀ sh, fw_lay[20]? = some sh → va_at D vwCl (ad_of q0 q1 u8 u9 20, fw_cell (ad_of q0 q1 u8 u9, D, cs, tt, adK, adV) sh (G0 20)) H := by
  intro sh h
  cases s_20.symm.trans h
  have h := hP 20 (u8.2.2.2.2.2.2.2.2.2.1.1, rz cs.2.2 2 u8.2.2.2.2.2.2.2.2.2.1.2) rfl
  rw [← gr_eq_20 (q0 := q0) (q1 := q1) (u8 := u8) (u9 := u9)] at h
  exact h
set_option maxRecDepth 100000 in
theorem sp_21 {D : va_G} {cs : ClassId × ClassId × ClassId} {q0 q1 : Nat} {u8 : (Nat) × ((Nat)) × (Nat) × ((Nat)) × (Nat) × ((Nat)) × (Nat) × ((Nat) × (Nat → Nat)) × (Nat) × ((Nat) × (Nat → Nat)) × (Nat) × ((Nat) × (Nat) × (Nat)) × (Nat) × ((Nat) × (Nat)) × (Nat) × ((Nat) × ((Nat) × (Nat)) × (Nat) × (Nat → Nat) × (Nat) × (Nat → Nat) × (Nat) × (Nat)) × (Nat) × ((Nat) × (Nat) × (Nat) × (Nat) × (Nat) × (Nat) × (Nat → Nat))} {u9 : (Nat) × (Nat) × (Nat) × (Nat) × (Nat) × (Nat) × (Nat) × (Nat) × (Nat) × (Nat) × (Nat) × (Nat) × (Nat) × (Nat) × (Nat) × (Nat)} {tt : Nat × Nat} {adK adV : Nat → Nat} {H : Heap} (hP : va_P D vwCl (wI_X8 cs q0 u8 ++ wI_X9 cs q1 u9) H) : ∀ sh, fw_lay[21]? = some sh → va_at D vwCl (ad_of q0 q1 u8 u9 21, fw_cell (ad_of q0 q1 u8 u9, D, cs, tt, adK, adV) sh (G0 21)) H := by
  intro sh h
  cases s_21.symm.trans h
  have h := hP 21 ((u8.2.2.2.2.2.2.2.2.2.1.2 0), az cs.1 74) rfl
  exact h
set_option maxRecDepth 100000 in
theorem sp_22 {D : va_G} {cs : ClassId × ClassId × ClassId} {q0 q1 : Nat} {u8 : (Nat) × ((Nat)) × (Nat) × ((Nat)) × (Nat) × ((Nat)) × (Nat) × ((Nat) × (Nat → Nat)) × (Nat) × ((Nat) × (Nat → Nat)) × (Nat) × ((Nat) × (Nat) × (Nat)) × (Nat) × ((Nat) × (Nat)) × (Nat) × ((Nat) × ((Nat) × (Nat)) × (Nat) × (Nat → Nat) × (Nat) × (Nat → Nat) × (Nat) × (Nat)) × (Nat) × ((Nat) × (Nat) × (Nat) × (Nat) × (Nat) × (Nat) × (Nat → Nat))} {u9 : (Nat) × (Nat) × (Nat) × (Nat) × (Nat) × (Nat) × (Nat) × (Nat) × (Nat) × (Nat) × (Nat) × (Nat) × (Nat) × (Nat) × (Nat) × (Nat)} {tt : Nat × Nat} {adK adV : Nat → Nat} {H : Heap} (hP : va_P D vwCl (wI_X8 cs q0 u8 ++ wI_X9 cs q1 u9) H) : ∀ sh, fw_lay[22]? = some sh → va_at D vwCl (ad_of q0 q1 u8 u9 22, fw_cell (ad_of q0 q1 u8 u9, D, cs, tt, adK, adV) sh (G0 22)) H := by
  intro sh h
  cases s_22.symm.trans h
  have h := hP 22 ((u8.2.2.2.2.2.2.2.2.2.1.2 1), az cs.1 74) rfl
  exact h
set_option maxRecDepth 100000 in
theorem sp_23 {D : va_G} {cs : ClassId × ClassId × ClassId} {q0 q1 : Nat} {u8 : (Nat) × ((Nat)) × (Nat) × ((Nat)) × (Nat) × ((Nat)) × (Nat) × ((Nat) × (Nat → Nat)) × (Nat) × ((Nat) × (Nat → Nat)) × (Nat) × ((Nat) × (Nat) × (Nat)) × (Nat) × ((Nat) × (Nat)) × (Nat) × ((Nat) × ((Nat) × (Nat)) × (Nat) × (Nat → Nat) × (Nat) × (Nat → Nat) × (Nat) × (Nat)) × (Nat) × ((Nat) × (Nat) × (Nat) × (Nat) × (Nat) × (Nat) × (Nat → Nat))} {u9 : (Nat) × (Nat) × (Nat) × (Nat) × (Nat) × (Nat) × (Nat) × (Nat) × (Nat) × (Nat) × (Nat) × (Nat) × (Nat) × (Nat) × (Nat) × (Nat)} {tt : Nat × Nat} {adK adV : Nat → Nat} {H : Heap} (hP : va_P D vwCl (wI_X8 cs q0 u8 ++ wI_X9 cs q1 u9) H) : ∀ sh, fw_lay[23]? = some sh → va_at D vwCl (ad_of q0 q1 u8 u9 23, fw_cell (ad_of q0 q1 u8 u9, D, cs, tt, adK, adV) sh (G0 23)) H := by
  intro sh h
  cases s_23.symm.trans h
  have h := hP 23 (u8.2.2.2.2.2.2.2.2.2.2.1, .inr (4, [.ref u8.2.2.2.2.2.2.2.2.2.2.2.1.1, .ref u8.2.2.2.2.2.2.2.2.2.2.2.1.2.1, .ref u8.2.2.2.2.2.2.2.2.2.2.2.1.2.2, .int 0])) rfl
  exact h
set_option maxRecDepth 100000 in
theorem sp_24 {D : va_G} {cs : ClassId × ClassId × ClassId} {q0 q1 : Nat} {u8 : (Nat) × ((Nat)) × (Nat) × ((Nat)) × (Nat) × ((Nat)) × (Nat) × ((Nat) × (Nat → Nat)) × (Nat) × ((Nat) × (Nat → Nat)) × (Nat) × ((Nat) × (Nat) × (Nat)) × (Nat) × ((Nat) × (Nat)) × (Nat) × ((Nat) × ((Nat) × (Nat)) × (Nat) × (Nat → Nat) × (Nat) × (Nat → Nat) × (Nat) × (Nat)) × (Nat) × ((Nat) × (Nat) × (Nat) × (Nat) × (Nat) × (Nat) × (Nat → Nat))} {u9 : (Nat) × (Nat) × (Nat) × (Nat) × (Nat) × (Nat) × (Nat) × (Nat) × (Nat) × (Nat) × (Nat) × (Nat) × (Nat) × (Nat) × (Nat) × (Nat)} {tt : Nat × Nat} {adK adV : Nat → Nat} {H : Heap} (hP : va_P D vwCl (wI_X8 cs q0 u8 ++ wI_X9 cs q1 u9) H) : ∀ sh, fw_lay[24]? = some sh → va_at D vwCl (ad_of q0 q1 u8 u9 24, fw_cell (ad_of q0 q1 u8 u9, D, cs, tt, adK, adV) sh (G0 24)) H := by
  intro sh h
  cases s_24.symm.trans h
  have h := hP 24 (u8.2.2.2.2.2.2.2.2.2.2.2.1.1, az cs.1 6) rfl
  exact h
set_option maxRecDepth 100000 in
theorem sp_25 {D : va_G} {cs : ClassId × ClassId × ClassId} {q0 q1 : Nat} {u8 : (Nat) × ((Nat)) × (Nat) × ((Nat)) × (Nat) × ((Nat)) × (Nat) × ((Nat) × (Nat → Nat)) × (Nat) × ((Nat) × (Nat → Nat)) × (Nat) × ((Nat) × (Nat) × (Nat)) × (Nat) × ((Nat) × (Nat)) × (Nat) × ((Nat) × ((Nat) × (Nat)) × (Nat) × (Nat → Nat) × (Nat) × (Nat → Nat) × (Nat) × (Nat)) × (Nat) × ((Nat) × (Nat) × (Nat) × (Nat) × (Nat) × (Nat) × (Nat → Nat))} {u9 : (Nat) × (Nat) × (Nat) × (Nat) × (Nat) × (Nat) × (Nat) × (Nat) × (Nat) × (Nat) × (Nat) × (Nat) × (Nat) × (Nat) × (Nat) × (Nat)} {tt : Nat × Nat} {adK adV : Nat → Nat} {H : Heap} (hP : va_P D vwCl (wI_X8 cs q0 u8 ++ wI_X9 cs q1 u9) H) : ∀ sh, fw_lay[25]? = some sh → va_at D vwCl (ad_of q0 q1 u8 u9 25, fw_cell (ad_of q0 q1 u8 u9, D, cs, tt, adK, adV) sh (G0 25)) H := by
  intro sh h
  cases s_25.symm.trans h
  have h := hP 25 (u8.2.2.2.2.2.2.2.2.2.2.2.1.2.1, az cs.1 6) rfl
  exact h
set_option maxRecDepth 100000 in
theorem sp_26 {D : va_G} {cs : ClassId × ClassId × ClassId} {q0 q1 : Nat} {u8 : (Nat) × ((Nat)) × (Nat) × ((Nat)) × (Nat) × ((Nat)) × (Nat) × ((Nat) × (Nat → Nat)) × (Nat) × ((Nat) × (Nat → Nat)) × (Nat) × ((Nat) × (Nat) × (Nat)) × (Nat) × ((Nat) × (Nat)) × (Nat) × ((Nat) × ((Nat) × (Nat)) × (Nat) × (Nat → Nat) × (Nat) × (Nat → Nat) × (Nat) × (Nat)) × (Nat) × ((Nat) × (Nat) × (Nat) × (Nat) × (Nat) × (Nat) × (Nat → Nat))} {u9 : (Nat) × (Nat) × (Nat) × (Nat) × (Nat) × (Nat) × (Nat) × (Nat) × (Nat) × (Nat) × (Nat) × (Nat) × (Nat) × (Nat) × (Nat) × (Nat)} {tt : Nat × Nat} {adK adV : Nat → Nat} {H : Heap} (hP : va_P D vwCl (wI_X8 cs q0 u8 ++ wI_X9 cs q1 u9) H) : ∀ sh, fw_lay[26]? = some sh → va_at D vwCl (ad_of q0 q1 u8 u9 26, fw_cell (ad_of q0 q1 u8 u9, D, cs, tt, adK, adV) sh (G0 26)) H := by
  intro sh h
  cases s_26.symm.trans h
  have h := hP 26 (u8.2.2.2.2.2.2.2.2.2.2.2.1.2.2, az cs.1 6) rfl
  exact h
set_option maxRecDepth 100000 in
theorem sp_27 {D : va_G} {cs : ClassId × ClassId × ClassId} {q0 q1 : Nat} {u8 : (Nat) × ((Nat)) × (Nat) × ((Nat)) × (Nat) × ((Nat)) × (Nat) × ((Nat) × (Nat → Nat)) × (Nat) × ((Nat) × (Nat → Nat)) × (Nat) × ((Nat) × (Nat) × (Nat)) × (Nat) × ((Nat) × (Nat)) × (Nat) × ((Nat) × ((Nat) × (Nat)) × (Nat) × (Nat → Nat) × (Nat) × (Nat → Nat) × (Nat) × (Nat)) × (Nat) × ((Nat) × (Nat) × (Nat) × (Nat) × (Nat) × (Nat) × (Nat → Nat))} {u9 : (Nat) × (Nat) × (Nat) × (Nat) × (Nat) × (Nat) × (Nat) × (Nat) × (Nat) × (Nat) × (Nat) × (Nat) × (Nat) × (Nat) × (Nat) × (Nat)} {tt : Nat × Nat} {adK adV : Nat → Nat} {H : Heap} (hP : va_P D vwCl (wI_X8 cs q0 u8 ++ wI_X9 cs q1 u9) H) : ∀ sh, fw_lay[27]? = some sh → va_at D vwCl (ad_of q0 q1 u8 u9 27, fw_cell (ad_of q0 q1 u8 u9, D, cs, tt, adK, adV) sh (G0 27)) H := by
  intro sh h
  cases s_27.symm.trans h
  have h := hP 27 (u8.2.2.2.2.2.2.2.2.2.2.2.2.1, .inr (1, [.ref u8.2.2.2.2.2.2.2.2.2.2.2.2.2.1.1, .ref u8.2.2.2.2.2.2.2.2.2.2.2.2.2.1.2])) rfl
  exact h
set_option maxRecDepth 100000 in
theorem sp_28 {D : va_G} {cs : ClassId × ClassId × ClassId} {q0 q1 : Nat} {u8 : (Nat) × ((Nat)) × (Nat) × ((Nat)) × (Nat) × ((Nat)) × (Nat) × ((Nat) × (Nat → Nat)) × (Nat) × ((Nat) × (Nat → Nat)) × (Nat) × ((Nat) × (Nat) × (Nat)) × (Nat) × ((Nat) × (Nat)) × (Nat) × ((Nat) × ((Nat) × (Nat)) × (Nat) × (Nat → Nat) × (Nat) × (Nat → Nat) × (Nat) × (Nat)) × (Nat) × ((Nat) × (Nat) × (Nat) × (Nat) × (Nat) × (Nat) × (Nat → Nat))} {u9 : (Nat) × (Nat) × (Nat) × (Nat) × (Nat) × (Nat) × (Nat) × (Nat) × (Nat) × (Nat) × (Nat) × (Nat) × (Nat) × (Nat) × (Nat) × (Nat)} {tt : Nat × Nat} {adK adV : Nat → Nat} {H : Heap} (hP : va_P D vwCl (wI_X8 cs q0 u8 ++ wI_X9 cs q1 u9) H) : ∀ sh, fw_lay[28]? = some sh → va_at D vwCl (ad_of q0 q1 u8 u9 28, fw_cell (ad_of q0 q1 u8 u9, D, cs, tt, adK, adV) sh (G0 28)) H := by
  intro sh h
  cases s_28.symm.trans h
  have h := hP 28 (u8.2.2.2.2.2.2.2.2.2.2.2.2.2.1.1, az cs.1 17) rfl
  exact h
set_option maxRecDepth 100000 in
theorem sp_29 {D : va_G} {cs : ClassId × ClassId × ClassId} {q0 q1 : Nat} {u8 : (Nat) × ((Nat)) × (Nat) × ((Nat)) × (Nat) × ((Nat)) × (Nat) × ((Nat) × (Nat → Nat)) × (Nat) × ((Nat) × (Nat → Nat)) × (Nat) × ((Nat) × (Nat) × (Nat)) × (Nat) × ((Nat) × (Nat)) × (Nat) × ((Nat) × ((Nat) × (Nat)) × (Nat) × (Nat → Nat) × (Nat) × (Nat → Nat) × (Nat) × (Nat)) × (Nat) × ((Nat) × (Nat) × (Nat) × (Nat) × (Nat) × (Nat) × (Nat → Nat))} {u9 : (Nat) × (Nat) × (Nat) × (Nat) × (Nat) × (Nat) × (Nat) × (Nat) × (Nat) × (Nat) × (Nat) × (Nat) × (Nat) × (Nat) × (Nat) × (Nat)} {tt : Nat × Nat} {adK adV : Nat → Nat} {H : Heap} (hP : va_P D vwCl (wI_X8 cs q0 u8 ++ wI_X9 cs q1 u9) H) : ∀ sh, fw_lay[29]? = some sh → va_at D vwCl (ad_of q0 q1 u8 u9 29, fw_cell (ad_of q0 q1 u8 u9, D, cs, tt, adK, adV) sh (G0 29)) H := by
  intro sh h
  cases s_29.symm.trans h
  have h := hP 29 (u8.2.2.2.2.2.2.2.2.2.2.2.2.2.1.2, az cs.1 17) rfl
  exact h
set_option maxRecDepth 100000 in
theorem sp_30 {D : va_G} {cs : ClassId × ClassId × ClassId} {q0 q1 : Nat} {u8 : (Nat) × ((Nat)) × (Nat) × ((Nat)) × (Nat) × ((Nat)) × (Nat) × ((Nat) × (Nat → Nat)) × (Nat) × ((Nat) × (Nat → Nat)) × (Nat) × ((Nat) × (Nat) × (Nat)) × (Nat) × ((Nat) × (Nat)) × (Nat) × ((Nat) × ((Nat) × (Nat)) × (Nat) × (Nat → Nat) × (Nat) × (Nat → Nat) × (Nat) × (Nat)) × (Nat) × ((Nat) × (Nat) × (Nat) × (Nat) × (Nat) × (Nat) × (Nat → Nat))} {u9 : (Nat) × (Nat) × (Nat) × (Nat) × (Nat) × (Nat) × (Nat) × (Nat) × (Nat) × (Nat) × (Nat) × (Nat) × (Nat) × (Nat) × (Nat) × (Nat)} {tt : Nat × Nat} {adK adV : Nat → Nat} {H : Heap} (hP : va_P D vwCl (wI_X8 cs q0 u8 ++ wI_X9 cs q1 u9) H) : ∀ sh, fw_lay[30]? = some sh → va_at D vwCl (ad_of q0 q1 u8 u9 30, fw_cell (ad_of q0 q1 u8 u9, D, cs, tt, adK, adV) sh (G0 30)) H := by
  intro sh h
  cases s_30.symm.trans h
  have h := hP 30 (u8.2.2.2.2.2.2.2.2.2.2.2.2.2.2.1, .inr (3, [.ref u8.2.2.2.2.2.2.2.2.2.2.2.2.2.2.2.1.1, .ref u8.2.2.2.2.2.2.2.2.2.2.2.2.2.2.2.1.2.2.1, .ref u8.2.2.2.2.2.2.2.2.2.2.2.2.2.2.2.1.2.2.2.2.1, .ref u8.2.2.2.2.2.2.2.2.2.2.2.2.2.2.2.1.2.2.2.2.2.2.1, .ref u8.2.2.2.2.2.2.2.2.2.2.2.2.2.2.2.1.2.2.2.2.2.2.2])) rfl
  exact h
set_option maxRecDepth 100000 in
theorem sp_31 {D : va_G} {cs : ClassId × ClassId × ClassId} {q0 q1 : Nat} {u8 : (Nat) × ((Nat)) × (Nat) × ((Nat)) × (Nat) × ((Nat)) × (Nat) × ((Nat) × (Nat → Nat)) × (Nat) × ((Nat) × (Nat → Nat)) × (Nat) × ((Nat) × (Nat) × (Nat)) × (Nat) × ((Nat) × (Nat)) × (Nat) × ((Nat) × ((Nat) × (Nat)) × (Nat) × (Nat → Nat) × (Nat) × (Nat → Nat) × (Nat) × (Nat)) × (Nat) × ((Nat) × (Nat) × (Nat) × (Nat) × (Nat) × (Nat) × (Nat → Nat))} {u9 : (Nat) × (Nat) × (Nat) × (Nat) × (Nat) × (Nat) × (Nat) × (Nat) × (Nat) × (Nat) × (Nat) × (Nat) × (Nat) × (Nat) × (Nat) × (Nat)} {tt : Nat × Nat} {adK adV : Nat → Nat} {H : Heap} (hP : va_P D vwCl (wI_X8 cs q0 u8 ++ wI_X9 cs q1 u9) H) : ∀ sh, fw_lay[31]? = some sh → va_at D vwCl (ad_of q0 q1 u8 u9 31, fw_cell (ad_of q0 q1 u8 u9, D, cs, tt, adK, adV) sh (G0 31)) H := by
  intro sh h
  cases s_31.symm.trans h
  have h := hP 31 (u8.2.2.2.2.2.2.2.2.2.2.2.2.2.2.2.1.1, .inr (1, [.ref u8.2.2.2.2.2.2.2.2.2.2.2.2.2.2.2.1.2.1.1, .ref u8.2.2.2.2.2.2.2.2.2.2.2.2.2.2.2.1.2.1.2])) rfl
  exact h
set_option maxRecDepth 100000 in
theorem sp_32 {D : va_G} {cs : ClassId × ClassId × ClassId} {q0 q1 : Nat} {u8 : (Nat) × ((Nat)) × (Nat) × ((Nat)) × (Nat) × ((Nat)) × (Nat) × ((Nat) × (Nat → Nat)) × (Nat) × ((Nat) × (Nat → Nat)) × (Nat) × ((Nat) × (Nat) × (Nat)) × (Nat) × ((Nat) × (Nat)) × (Nat) × ((Nat) × ((Nat) × (Nat)) × (Nat) × (Nat → Nat) × (Nat) × (Nat → Nat) × (Nat) × (Nat)) × (Nat) × ((Nat) × (Nat) × (Nat) × (Nat) × (Nat) × (Nat) × (Nat → Nat))} {u9 : (Nat) × (Nat) × (Nat) × (Nat) × (Nat) × (Nat) × (Nat) × (Nat) × (Nat) × (Nat) × (Nat) × (Nat) × (Nat) × (Nat) × (Nat) × (Nat)} {tt : Nat × Nat} {adK adV : Nat → Nat} {H : Heap} (hP : va_P D vwCl (wI_X8 cs q0 u8 ++ wI_X9 cs q1 u9) H) : ∀ sh, fw_lay[32]? = some sh → va_at D vwCl (ad_of q0 q1 u8 u9 32, fw_cell (ad_of q0 q1 u8 u9, D, cs, tt, adK, adV) sh (G0 32)) H := by
  intro sh h
  cases s_32.symm.trans h
  have h := hP 32 (u8.2.2.2.2.2.2.2.2.2.2.2.2.2.2.2.1.2.1.1, az cs.1 17) rfl
  exact h
set_option maxRecDepth 100000 in
theorem sp_33 {D : va_G} {cs : ClassId × ClassId × ClassId} {q0 q1 : Nat} {u8 : (Nat) × ((Nat)) × (Nat) × ((Nat)) × (Nat) × ((Nat)) × (Nat) × ((Nat) × (Nat → Nat)) × (Nat) × ((Nat) × (Nat → Nat)) × (Nat) × ((Nat) × (Nat) × (Nat)) × (Nat) × ((Nat) × (Nat)) × (Nat) × ((Nat) × ((Nat) × (Nat)) × (Nat) × (Nat → Nat) × (Nat) × (Nat → Nat) × (Nat) × (Nat)) × (Nat) × ((Nat) × (Nat) × (Nat) × (Nat) × (Nat) × (Nat) × (Nat → Nat))} {u9 : (Nat) × (Nat) × (Nat) × (Nat) × (Nat) × (Nat) × (Nat) × (Nat) × (Nat) × (Nat) × (Nat) × (Nat) × (Nat) × (Nat) × (Nat) × (Nat)} {tt : Nat × Nat} {adK adV : Nat → Nat} {H : Heap} (hP : va_P D vwCl (wI_X8 cs q0 u8 ++ wI_X9 cs q1 u9) H) : ∀ sh, fw_lay[33]? = some sh → va_at D vwCl (ad_of q0 q1 u8 u9 33, fw_cell (ad_of q0 q1 u8 u9, D, cs, tt, adK, adV) sh (G0 33)) H := by
  intro sh h
  cases s_33.symm.trans h
  have h := hP 33 (u8.2.2.2.2.2.2.2.2.2.2.2.2.2.2.2.1.2.1.2, az cs.1 17) rfl
  exact h
set_option maxRecDepth 100000 in
theorem sp_34 {D : va_G} {cs : ClassId × ClassId × ClassId} {q0 q1 : Nat} {u8 : (Nat) × ((Nat)) × (Nat) × ((Nat)) × (Nat) × ((Nat)) × (Nat) × ((Nat) × (Nat → Nat)) × (Nat) × ((Nat) × (Nat → Nat)) × (Nat) × ((Nat) × (Nat) × (Nat)) × (Nat) × ((Nat) × (Nat)) × (Nat) × ((Nat) × ((Nat) × (Nat)) × (Nat) × (Nat → Nat) × (Nat) × (Nat → Nat) × (Nat) × (Nat)) × (Nat) × ((Nat) × (Nat) × (Nat) × (Nat) × (Nat) × (Nat) × (Nat → Nat))} {u9 : (Nat) × (Nat) × (Nat) × (Nat) × (Nat) × (Nat) × (Nat) × (Nat) × (Nat) × (Nat) × (Nat) × (Nat) × (Nat) × (Nat) × (Nat) × (Nat)} {tt : Nat × Nat} {adK adV : Nat → Nat} {H : Heap} (hP : va_P D vwCl (wI_X8 cs q0 u8 ++ wI_X9 cs q1 u9) H) : ∀ sh, fw_lay[34]? = some sh → va_at D vwCl (ad_of q0 q1 u8 u9 34, fw_cell (ad_of q0 q1 u8 u9, D, cs, tt, adK, adV) sh (G0 34)) H := by
  intro sh h
  cases s_34.symm.trans h
  have h := hP 34 (u8.2.2.2.2.2.2.2.2.2.2.2.2.2.2.2.1.2.2.1, rz cs.2.2 14 u8.2.2.2.2.2.2.2.2.2.2.2.2.2.2.2.1.2.2.2.1) rfl
  rw [← gr_eq_34 (q0 := q0) (q1 := q1) (u8 := u8) (u9 := u9)] at h
  exact h
set_option maxRecDepth 100000 in
theorem sp_35 {D : va_G} {cs : ClassId × ClassId × ClassId} {q0 q1 : Nat} {u8 : (Nat) × ((Nat)) × (Nat) × ((Nat)) × (Nat) × ((Nat)) × (Nat) × ((Nat) × (Nat → Nat)) × (Nat) × ((Nat) × (Nat → Nat)) × (Nat) × ((Nat) × (Nat) × (Nat)) × (Nat) × ((Nat) × (Nat)) × (Nat) × ((Nat) × ((Nat) × (Nat)) × (Nat) × (Nat → Nat) × (Nat) × (Nat → Nat) × (Nat) × (Nat)) × (Nat) × ((Nat) × (Nat) × (Nat) × (Nat) × (Nat) × (Nat) × (Nat → Nat))} {u9 : (Nat) × (Nat) × (Nat) × (Nat) × (Nat) × (Nat) × (Nat) × (Nat) × (Nat) × (Nat) × (Nat) × (Nat) × (Nat) × (Nat) × (Nat) × (Nat)} {tt : Nat × Nat} {adK adV : Nat → Nat} {H : Heap} (hP : va_P D vwCl (wI_X8 cs q0 u8 ++ wI_X9 cs q1 u9) H) : ∀ sh, fw_lay[35]? = some sh → va_at D vwCl (ad_of q0 q1 u8 u9 35, fw_cell (ad_of q0 q1 u8 u9, D, cs, tt, adK, adV) sh (G0 35)) H := by
  intro sh h
  cases s_35.symm.trans h
  have h := hP 35 ((u8.2.2.2.2.2.2.2.2.2.2.2.2.2.2.2.1.2.2.2.1 0), az cs.1 17) rfl
  exact h
set_option maxRecDepth 100000 in
theorem sp_36 {D : va_G} {cs : ClassId × ClassId × ClassId} {q0 q1 : Nat} {u8 : (Nat) × ((Nat)) × (Nat) × ((Nat)) × (Nat) × ((Nat)) × (Nat) × ((Nat) × (Nat → Nat)) × (Nat) × ((Nat) × (Nat → Nat)) × (Nat) × ((Nat) × (Nat) × (Nat)) × (Nat) × ((Nat) × (Nat)) × (Nat) × ((Nat) × ((Nat) × (Nat)) × (Nat) × (Nat → Nat) × (Nat) × (Nat → Nat) × (Nat) × (Nat)) × (Nat) × ((Nat) × (Nat) × (Nat) × (Nat) × (Nat) × (Nat) × (Nat → Nat))} {u9 : (Nat) × (Nat) × (Nat) × (Nat) × (Nat) × (Nat) × (Nat) × (Nat) × (Nat) × (Nat) × (Nat) × (Nat) × (Nat) × (Nat) × (Nat) × (Nat)} {tt : Nat × Nat} {adK adV : Nat → Nat} {H : Heap} (hP : va_P D vwCl (wI_X8 cs q0 u8 ++ wI_X9 cs q1 u9) H) : ∀ sh, fw_lay[36]? = some sh → va_at D vwCl (ad_of q0 q1 u8 u9 36, fw_cell (ad_of q0 q1 u8 u9, D, cs, tt, adK, adV) sh (G0 36)) H := by
  intro sh h
  cases s_36.symm.trans h
  have h := hP 36 ((u8.2.2.2.2.2.2.2.2.2.2.2.2.2.2.2.1.2.2.2.1 1), az cs.1 17) rfl
  exact h
set_option maxRecDepth 100000 in
theorem sp_37 {D : va_G} {cs : ClassId × ClassId × ClassId} {q0 q1 : Nat} {u8 : (Nat) × ((Nat)) × (Nat) × ((Nat)) × (Nat) × ((Nat)) × (Nat) × ((Nat) × (Nat → Nat)) × (Nat) × ((Nat) × (Nat → Nat)) × (Nat) × ((Nat) × (Nat) × (Nat)) × (Nat) × ((Nat) × (Nat)) × (Nat) × ((Nat) × ((Nat) × (Nat)) × (Nat) × (Nat → Nat) × (Nat) × (Nat → Nat) × (Nat) × (Nat)) × (Nat) × ((Nat) × (Nat) × (Nat) × (Nat) × (Nat) × (Nat) × (Nat → Nat))} {u9 : (Nat) × (Nat) × (Nat) × (Nat) × (Nat) × (Nat) × (Nat) × (Nat) × (Nat) × (Nat) × (Nat) × (Nat) × (Nat) × (Nat) × (Nat) × (Nat)} {tt : Nat × Nat} {adK adV : Nat → Nat} {H : Heap} (hP : va_P D vwCl (wI_X8 cs q0 u8 ++ wI_X9 cs q1 u9) H) : ∀ sh, fw_lay[37]? = some sh → va_at D vwCl (ad_of q0 q1 u8 u9 37, fw_cell (ad_of q0 q1 u8 u9, D, cs, tt, adK, adV) sh (G0 37)) H := by
  intro sh h
  cases s_37.symm.trans h
  have h := hP 37 ((u8.2.2.2.2.2.2.2.2.2.2.2.2.2.2.2.1.2.2.2.1 2), az cs.1 17) rfl
  exact h
set_option maxRecDepth 100000 in
theorem sp_38 {D : va_G} {cs : ClassId × ClassId × ClassId} {q0 q1 : Nat} {u8 : (Nat) × ((Nat)) × (Nat) × ((Nat)) × (Nat) × ((Nat)) × (Nat) × ((Nat) × (Nat → Nat)) × (Nat) × ((Nat) × (Nat → Nat)) × (Nat) × ((Nat) × (Nat) × (Nat)) × (Nat) × ((Nat) × (Nat)) × (Nat) × ((Nat) × ((Nat) × (Nat)) × (Nat) × (Nat → Nat) × (Nat) × (Nat → Nat) × (Nat) × (Nat)) × (Nat) × ((Nat) × (Nat) × (Nat) × (Nat) × (Nat) × (Nat) × (Nat → Nat))} {u9 : (Nat) × (Nat) × (Nat) × (Nat) × (Nat) × (Nat) × (Nat) × (Nat) × (Nat) × (Nat) × (Nat) × (Nat) × (Nat) × (Nat) × (Nat) × (Nat)} {tt : Nat × Nat} {adK adV : Nat → Nat} {H : Heap} (hP : va_P D vwCl (wI_X8 cs q0 u8 ++ wI_X9 cs q1 u9) H) : ∀ sh, fw_lay[38]? = some sh → va_at D vwCl (ad_of q0 q1 u8 u9 38, fw_cell (ad_of q0 q1 u8 u9, D, cs, tt, adK, adV) sh (G0 38)) H := by
  intro sh h
  cases s_38.symm.trans h
  have h := hP 38 ((u8.2.2.2.2.2.2.2.2.2.2.2.2.2.2.2.1.2.2.2.1 3), az cs.1 17) rfl
  exact h
set_option maxRecDepth 100000 in
theorem sp_39 {D : va_G} {cs : ClassId × ClassId × ClassId} {q0 q1 : Nat} {u8 : (Nat) × ((Nat)) × (Nat) × ((Nat)) × (Nat) × ((Nat)) × (Nat) × ((Nat) × (Nat → Nat)) × (Nat) × ((Nat) × (Nat → Nat)) × (Nat) × ((Nat) × (Nat) × (Nat)) × (Nat) × ((Nat) × (Nat)) × (Nat) × ((Nat) × ((Nat) × (Nat)) × (Nat) × (Nat → Nat) × (Nat) × (Nat → Nat) × (Nat) × (Nat)) × (Nat) × ((Nat) × (Nat) × (Nat) × (Nat) × (Nat) × (Nat) × (Nat → Nat))} {u9 : (Nat) × (Nat) × (Nat) × (Nat) × (Nat) × (Nat) × (Nat) × (Nat) × (Nat) × (Nat) × (Nat) × (Nat) × (Nat) × (Nat) × (Nat) × (Nat)} {tt : Nat × Nat} {adK adV : Nat → Nat} {H : Heap} (hP : va_P D vwCl (wI_X8 cs q0 u8 ++ wI_X9 cs q1 u9) H) : ∀ sh, fw_lay[39]? = some sh → va_at D vwCl (ad_of q0 q1 u8 u9 39, fw_cell (ad_of q0 q1 u8 u9, D, cs, tt, adK, adV) sh (G0 39)) H := by
  intro sh h
  cases s_39.symm.trans h
  have h := hP 39 ((u8.2.2.2.2.2.2.2.2.2.2.2.2.2.2.2.1.2.2.2.1 4), az cs.1 17) rfl
  exact h
set_option maxRecDepth 100000 in
theorem sp_40 {D : va_G} {cs : ClassId × ClassId × ClassId} {q0 q1 : Nat} {u8 : (Nat) × ((Nat)) × (Nat) × ((Nat)) × (Nat) × ((Nat)) × (Nat) × ((Nat) × (Nat → Nat)) × (Nat) × ((Nat) × (Nat → Nat)) × (Nat) × ((Nat) × (Nat) × (Nat)) × (Nat) × ((Nat) × (Nat)) × (Nat) × ((Nat) × ((Nat) × (Nat)) × (Nat) × (Nat → Nat) × (Nat) × (Nat → Nat) × (Nat) × (Nat)) × (Nat) × ((Nat) × (Nat) × (Nat) × (Nat) × (Nat) × (Nat) × (Nat → Nat))} {u9 : (Nat) × (Nat) × (Nat) × (Nat) × (Nat) × (Nat) × (Nat) × (Nat) × (Nat) × (Nat) × (Nat) × (Nat) × (Nat) × (Nat) × (Nat) × (Nat)} {tt : Nat × Nat} {adK adV : Nat → Nat} {H : Heap} (hP : va_P D vwCl (wI_X8 cs q0 u8 ++ wI_X9 cs q1 u9) H) : ∀ sh, fw_lay[40]? = some sh → va_at D vwCl (ad_of q0 q1 u8 u9 40, fw_cell (ad_of q0 q1 u8 u9, D, cs, tt, adK, adV) sh (G0 40)) H := by
  intro sh h
  cases s_40.symm.trans h
  have h := hP 40 ((u8.2.2.2.2.2.2.2.2.2.2.2.2.2.2.2.1.2.2.2.1 5), az cs.1 17) rfl
  exact h
set_option maxRecDepth 100000 in
theorem sp_41 {D : va_G} {cs : ClassId × ClassId × ClassId} {q0 q1 : Nat} {u8 : (Nat) × ((Nat)) × (Nat) × ((Nat)) × (Nat) × ((Nat)) × (Nat) × ((Nat) × (Nat → Nat)) × (Nat) × ((Nat) × (Nat → Nat)) × (Nat) × ((Nat) × (Nat) × (Nat)) × (Nat) × ((Nat) × (Nat)) × (Nat) × ((Nat) × ((Nat) × (Nat)) × (Nat) × (Nat → Nat) × (Nat) × (Nat → Nat) × (Nat) × (Nat)) × (Nat) × ((Nat) × (Nat) × (Nat) × (Nat) × (Nat) × (Nat) × (Nat → Nat))} {u9 : (Nat) × (Nat) × (Nat) × (Nat) × (Nat) × (Nat) × (Nat) × (Nat) × (Nat) × (Nat) × (Nat) × (Nat) × (Nat) × (Nat) × (Nat) × (Nat)} {tt : Nat × Nat} {adK adV : Nat → Nat} {H : Heap} (hP : va_P D vwCl (wI_X8 cs q0 u8 ++ wI_X9 cs q1 u9) H) : ∀ sh, fw_lay[41]? = some sh → va_at D vwCl (ad_of q0 q1 u8 u9 41, fw_cell (ad_of q0 q1 u8 u9, D, cs, tt, adK, adV) sh (G0 41)) H := by
  intro sh h
  cases s_41.symm.trans h
  have h := hP 41 ((u8.2.2.2.2.2.2.2.2.2.2.2.2.2.2.2.1.2.2.2.1 6), az cs.1 17) rfl
  exact h
set_option maxRecDepth 100000 in
theorem sp_42 {D : va_G} {cs : ClassId × ClassId × ClassId} {q0 q1 : Nat} {u8 : (Nat) × ((Nat)) × (Nat) × ((Nat)) × (Nat) × ((Nat)) × (Nat) × ((Nat) × (Nat → Nat)) × (Nat) × ((Nat) × (Nat → Nat)) × (Nat) × ((Nat) × (Nat) × (Nat)) × (Nat) × ((Nat) × (Nat)) × (Nat) × ((Nat) × ((Nat) × (Nat)) × (Nat) × (Nat → Nat) × (Nat) × (Nat → Nat) × (Nat) × (Nat)) × (Nat) × ((Nat) × (Nat) × (Nat) × (Nat) × (Nat) × (Nat) × (Nat → Nat))} {u9 : (Nat) × (Nat) × (Nat) × (Nat) × (Nat) × (Nat) × (Nat) × (Nat) × (Nat) × (Nat) × (Nat) × (Nat) × (Nat) × (Nat) × (Nat) × (Nat)} {tt : Nat × Nat} {adK adV : Nat → Nat} {H : Heap} (hP : va_P D vwCl (wI_X8 cs q0 u8 ++ wI_X9 cs q1 u9) H) : ∀ sh, fw_lay[42]? = some sh → va_at D vwCl (ad_of q0 q1 u8 u9 42, fw_cell (ad_of q0 q1 u8 u9, D, cs, tt, adK, adV) sh (G0 42)) H := by
  intro sh h
  cases s_42.symm.trans h
  have h := hP 42 ((u8.2.2.2.2.2.2.2.2.2.2.2.2.2.2.2.1.2.2.2.1 7), az cs.1 17) rfl
  exact h
set_option maxRecDepth 100000 in
theorem sp_43 {D : va_G} {cs : ClassId × ClassId × ClassId} {q0 q1 : Nat} {u8 : (Nat) × ((Nat)) × (Nat) × ((Nat)) × (Nat) × ((Nat)) × (Nat) × ((Nat) × (Nat → Nat)) × (Nat) × ((Nat) × (Nat → Nat)) × (Nat) × ((Nat) × (Nat) × (Nat)) × (Nat) × ((Nat) × (Nat)) × (Nat) × ((Nat) × ((Nat) × (Nat)) × (Nat) × (Nat → Nat) × (Nat) × (Nat → Nat) × (Nat) × (Nat)) × (Nat) × ((Nat) × (Nat) × (Nat) × (Nat) × (Nat) × (Nat) × (Nat → Nat))} {u9 : (Nat) × (Nat) × (Nat) × (Nat) × (Nat) × (Nat) × (Nat) × (Nat) × (Nat) × (Nat) × (Nat) × (Nat) × (Nat) × (Nat) × (Nat) × (Nat)} {tt : Nat × Nat} {adK adV : Nat → Nat} {H : Heap} (hP : va_P D vwCl (wI_X8 cs q0 u8 ++ wI_X9 cs q1 u9) H) : ∀ sh, fw_lay[43]? = some sh → va_at D vwCl (ad_of q0 q1 u8 u9 43, fw_cell (ad_of q0 q1 u8 u9, D, cs, tt, adK, adV) sh (G0 43)) H := by
  intro sh h
  cases s_43.symm.trans h
  have h := hP 43 ((u8.2.2.2.2.2.2.2.2.2.2.2.2.2.2.2.1.2.2.2.1 8), az cs.1 17) rfl
  exact h
set_option maxRecDepth 100000 in
theorem sp_44 {D : va_G} {cs : ClassId × ClassId × ClassId} {q0 q1 : Nat} {u8 : (Nat) × ((Nat)) × (Nat) × ((Nat)) × (Nat) × ((Nat)) × (Nat) × ((Nat) × (Nat → Nat)) × (Nat) × ((Nat) × (Nat → Nat)) × (Nat) × ((Nat) × (Nat) × (Nat)) × (Nat) × ((Nat) × (Nat)) × (Nat) × ((Nat) × ((Nat) × (Nat)) × (Nat) × (Nat → Nat) × (Nat) × (Nat → Nat) × (Nat) × (Nat)) × (Nat) × ((Nat) × (Nat) × (Nat) × (Nat) × (Nat) × (Nat) × (Nat → Nat))} {u9 : (Nat) × (Nat) × (Nat) × (Nat) × (Nat) × (Nat) × (Nat) × (Nat) × (Nat) × (Nat) × (Nat) × (Nat) × (Nat) × (Nat) × (Nat) × (Nat)} {tt : Nat × Nat} {adK adV : Nat → Nat} {H : Heap} (hP : va_P D vwCl (wI_X8 cs q0 u8 ++ wI_X9 cs q1 u9) H) : ∀ sh, fw_lay[44]? = some sh → va_at D vwCl (ad_of q0 q1 u8 u9 44, fw_cell (ad_of q0 q1 u8 u9, D, cs, tt, adK, adV) sh (G0 44)) H := by
  intro sh h
  cases s_44.symm.trans h
  have h := hP 44 ((u8.2.2.2.2.2.2.2.2.2.2.2.2.2.2.2.1.2.2.2.1 9), az cs.1 17) rfl
  exact h
set_option maxRecDepth 100000 in
theorem sp_45 {D : va_G} {cs : ClassId × ClassId × ClassId} {q0 q1 : Nat} {u8 : (Nat) × ((Nat)) × (Nat) × ((Nat)) × (Nat) × ((Nat)) × (Nat) × ((Nat) × (Nat → Nat)) × (Nat) × ((Nat) × (Nat → Nat)) × (Nat) × ((Nat) × (Nat) × (Nat)) × (Nat) × ((Nat) × (Nat)) × (Nat) × ((Nat) × ((Nat) × (Nat)) × (Nat) × (Nat → Nat) × (Nat) × (Nat → Nat) × (Nat) × (Nat)) × (Nat) × ((Nat) × (Nat) × (Nat) × (Nat) × (Nat) × (Nat) × (Nat → Nat))} {u9 : (Nat) × (Nat) × (Nat) × (Nat) × (Nat) × (Nat) × (Nat) × (Nat) × (Nat) × (Nat) × (Nat) × (Nat) × (Nat) × (Nat) × (Nat) × (Nat)} {tt : Nat × Nat} {adK adV : Nat → Nat} {H : Heap} (hP : va_P D vwCl (wI_X8 cs q0 u8 ++ wI_X9 cs q1 u9) H) : ∀ sh, fw_lay[45]? = some sh → va_at D vwCl (ad_of q0 q1 u8 u9 45, fw_cell (ad_of q0 q1 u8 u9, D, cs, tt, adK, adV) sh (G0 45)) H := by
  intro sh h
  cases s_45.symm.trans h
  have h := hP 45 ((u8.2.2.2.2.2.2.2.2.2.2.2.2.2.2.2.1.2.2.2.1 10), az cs.1 17) rfl
  exact h
set_option maxRecDepth 100000 in
theorem sp_46 {D : va_G} {cs : ClassId × ClassId × ClassId} {q0 q1 : Nat} {u8 : (Nat) × ((Nat)) × (Nat) × ((Nat)) × (Nat) × ((Nat)) × (Nat) × ((Nat) × (Nat → Nat)) × (Nat) × ((Nat) × (Nat → Nat)) × (Nat) × ((Nat) × (Nat) × (Nat)) × (Nat) × ((Nat) × (Nat)) × (Nat) × ((Nat) × ((Nat) × (Nat)) × (Nat) × (Nat → Nat) × (Nat) × (Nat → Nat) × (Nat) × (Nat)) × (Nat) × ((Nat) × (Nat) × (Nat) × (Nat) × (Nat) × (Nat) × (Nat → Nat))} {u9 : (Nat) × (Nat) × (Nat) × (Nat) × (Nat) × (Nat) × (Nat) × (Nat) × (Nat) × (Nat) × (Nat) × (Nat) × (Nat) × (Nat) × (Nat) × (Nat)} {tt : Nat × Nat} {adK adV : Nat → Nat} {H : Heap} (hP : va_P D vwCl (wI_X8 cs q0 u8 ++ wI_X9 cs q1 u9) H) : ∀ sh, fw_lay[46]? = some sh → va_at D vwCl (ad_of q0 q1 u8 u9 46, fw_cell (ad_of q0 q1 u8 u9, D, cs, tt, adK, adV) sh (G0 46)) H := by
  intro sh h
  cases s_46.symm.trans h
  have h := hP 46 ((u8.2.2.2.2.2.2.2.2.2.2.2.2.2.2.2.1.2.2.2.1 11), az cs.1 17) rfl
  exact h
set_option maxRecDepth 100000 in
theorem sp_47 {D : va_G} {cs : ClassId × ClassId × ClassId} {q0 q1 : Nat} {u8 : (Nat) × ((Nat)) × (Nat) × ((Nat)) × (Nat) × ((Nat)) × (Nat) × ((Nat) × (Nat → Nat)) × (Nat) × ((Nat) × (Nat → Nat)) × (Nat) × ((Nat) × (Nat) × (Nat)) × (Nat) × ((Nat) × (Nat)) × (Nat) × ((Nat) × ((Nat) × (Nat)) × (Nat) × (Nat → Nat) × (Nat) × (Nat → Nat) × (Nat) × (Nat)) × (Nat) × ((Nat) × (Nat) × (Nat) × (Nat) × (Nat) × (Nat) × (Nat → Nat))} {u9 : (Nat) × (Nat) × (Nat) × (Nat) × (Nat) × (Nat) × (Nat) × (Nat) × (Nat) × (Nat) × (Nat) × (Nat) × (Nat) × (Nat) × (Nat) × (Nat)} {tt : Nat × Nat} {adK adV : Nat → Nat} {H : Heap} (hP : va_P D vwCl (wI_X8 cs q0 u8 ++ wI_X9 cs q1 u9) H) : ∀ sh, fw_lay[47]? = some sh → va_at D vwCl (ad_of q0 q1 u8 u9 47, fw_cell (ad_of q0 q1 u8 u9, D, cs, tt, adK, adV) sh (G0 47)) H := by
  intro sh h
  cases s_47.symm.trans h
  have h := hP 47 ((u8.2.2.2.2.2.2.2.2.2.2.2.2.2.2.2.1.2.2.2.1 12), az cs.1 17) rfl
  exact h
set_option maxRecDepth 100000 in
theorem sp_48 {D : va_G} {cs : ClassId × ClassId × ClassId} {q0 q1 : Nat} {u8 : (Nat) × ((Nat)) × (Nat) × ((Nat)) × (Nat) × ((Nat)) × (Nat) × ((Nat) × (Nat → Nat)) × (Nat) × ((Nat) × (Nat → Nat)) × (Nat) × ((Nat) × (Nat) × (Nat)) × (Nat) × ((Nat) × (Nat)) × (Nat) × ((Nat) × ((Nat) × (Nat)) × (Nat) × (Nat → Nat) × (Nat) × (Nat → Nat) × (Nat) × (Nat)) × (Nat) × ((Nat) × (Nat) × (Nat) × (Nat) × (Nat) × (Nat) × (Nat → Nat))} {u9 : (Nat) × (Nat) × (Nat) × (Nat) × (Nat) × (Nat) × (Nat) × (Nat) × (Nat) × (Nat) × (Nat) × (Nat) × (Nat) × (Nat) × (Nat) × (Nat)} {tt : Nat × Nat} {adK adV : Nat → Nat} {H : Heap} (hP : va_P D vwCl (wI_X8 cs q0 u8 ++ wI_X9 cs q1 u9) H) : ∀ sh, fw_lay[48]? = some sh → va_at D vwCl (ad_of q0 q1 u8 u9 48, fw_cell (ad_of q0 q1 u8 u9, D, cs, tt, adK, adV) sh (G0 48)) H := by
  intro sh h
  cases s_48.symm.trans h
  have h := hP 48 ((u8.2.2.2.2.2.2.2.2.2.2.2.2.2.2.2.1.2.2.2.1 13), az cs.1 17) rfl
  exact h
set_option maxRecDepth 100000 in
theorem sp_49 {D : va_G} {cs : ClassId × ClassId × ClassId} {q0 q1 : Nat} {u8 : (Nat) × ((Nat)) × (Nat) × ((Nat)) × (Nat) × ((Nat)) × (Nat) × ((Nat) × (Nat → Nat)) × (Nat) × ((Nat) × (Nat → Nat)) × (Nat) × ((Nat) × (Nat) × (Nat)) × (Nat) × ((Nat) × (Nat)) × (Nat) × ((Nat) × ((Nat) × (Nat)) × (Nat) × (Nat → Nat) × (Nat) × (Nat → Nat) × (Nat) × (Nat)) × (Nat) × ((Nat) × (Nat) × (Nat) × (Nat) × (Nat) × (Nat) × (Nat → Nat))} {u9 : (Nat) × (Nat) × (Nat) × (Nat) × (Nat) × (Nat) × (Nat) × (Nat) × (Nat) × (Nat) × (Nat) × (Nat) × (Nat) × (Nat) × (Nat) × (Nat)} {tt : Nat × Nat} {adK adV : Nat → Nat} {H : Heap} (hP : va_P D vwCl (wI_X8 cs q0 u8 ++ wI_X9 cs q1 u9) H) : ∀ sh, fw_lay[49]? = some sh → va_at D vwCl (ad_of q0 q1 u8 u9 49, fw_cell (ad_of q0 q1 u8 u9, D, cs, tt, adK, adV) sh (G0 49)) H := by
  intro sh h
  cases s_49.symm.trans h
  have h := hP 49 (u8.2.2.2.2.2.2.2.2.2.2.2.2.2.2.2.1.2.2.2.2.1, rz cs.2.2 14 u8.2.2.2.2.2.2.2.2.2.2.2.2.2.2.2.1.2.2.2.2.2.1) rfl
  rw [← gr_eq_49 (q0 := q0) (q1 := q1) (u8 := u8) (u9 := u9)] at h
  exact h
set_option maxRecDepth 100000 in
theorem sp_50 {D : va_G} {cs : ClassId × ClassId × ClassId} {q0 q1 : Nat} {u8 : (Nat) × ((Nat)) × (Nat) × ((Nat)) × (Nat) × ((Nat)) × (Nat) × ((Nat) × (Nat → Nat)) × (Nat) × ((Nat) × (Nat → Nat)) × (Nat) × ((Nat) × (Nat) × (Nat)) × (Nat) × ((Nat) × (Nat)) × (Nat) × ((Nat) × ((Nat) × (Nat)) × (Nat) × (Nat → Nat) × (Nat) × (Nat → Nat) × (Nat) × (Nat)) × (Nat) × ((Nat) × (Nat) × (Nat) × (Nat) × (Nat) × (Nat) × (Nat → Nat))} {u9 : (Nat) × (Nat) × (Nat) × (Nat) × (Nat) × (Nat) × (Nat) × (Nat) × (Nat) × (Nat) × (Nat) × (Nat) × (Nat) × (Nat) × (Nat) × (Nat)} {tt : Nat × Nat} {adK adV : Nat → Nat} {H : Heap} (hP : va_P D vwCl (wI_X8 cs q0 u8 ++ wI_X9 cs q1 u9) H) : ∀ sh, fw_lay[50]? = some sh → va_at D vwCl (ad_of q0 q1 u8 u9 50, fw_cell (ad_of q0 q1 u8 u9, D, cs, tt, adK, adV) sh (G0 50)) H := by
  intro sh h
  cases s_50.symm.trans h
  have h := hP 50 ((u8.2.2.2.2.2.2.2.2.2.2.2.2.2.2.2.1.2.2.2.2.2.1 0), az cs.1 17) rfl
  exact h
set_option maxRecDepth 100000 in
theorem sp_51 {D : va_G} {cs : ClassId × ClassId × ClassId} {q0 q1 : Nat} {u8 : (Nat) × ((Nat)) × (Nat) × ((Nat)) × (Nat) × ((Nat)) × (Nat) × ((Nat) × (Nat → Nat)) × (Nat) × ((Nat) × (Nat → Nat)) × (Nat) × ((Nat) × (Nat) × (Nat)) × (Nat) × ((Nat) × (Nat)) × (Nat) × ((Nat) × ((Nat) × (Nat)) × (Nat) × (Nat → Nat) × (Nat) × (Nat → Nat) × (Nat) × (Nat)) × (Nat) × ((Nat) × (Nat) × (Nat) × (Nat) × (Nat) × (Nat) × (Nat → Nat))} {u9 : (Nat) × (Nat) × (Nat) × (Nat) × (Nat) × (Nat) × (Nat) × (Nat) × (Nat) × (Nat) × (Nat) × (Nat) × (Nat) × (Nat) × (Nat) × (Nat)} {tt : Nat × Nat} {adK adV : Nat → Nat} {H : Heap} (hP : va_P D vwCl (wI_X8 cs q0 u8 ++ wI_X9 cs q1 u9) H) : ∀ sh, fw_lay[51]? = some sh → va_at D vwCl (ad_of q0 q1 u8 u9 51, fw_cell (ad_of q0 q1 u8 u9, D, cs, tt, adK, adV) sh (G0 51)) H := by
  intro sh h
  cases s_51.symm.trans h
  have h := hP 51 ((u8.2.2.2.2.2.2.2.2.2.2.2.2.2.2.2.1.2.2.2.2.2.1 1), az cs.1 17) rfl
  exact h
set_option maxRecDepth 100000 in
theorem sp_52 {D : va_G} {cs : ClassId × ClassId × ClassId} {q0 q1 : Nat} {u8 : (Nat) × ((Nat)) × (Nat) × ((Nat)) × (Nat) × ((Nat)) × (Nat) × ((Nat) × (Nat → Nat)) × (Nat) × ((Nat) × (Nat → Nat)) × (Nat) × ((Nat) × (Nat) × (Nat)) × (Nat) × ((Nat) × (Nat)) × (Nat) × ((Nat) × ((Nat) × (Nat)) × (Nat) × (Nat → Nat) × (Nat) × (Nat → Nat) × (Nat) × (Nat)) × (Nat) × ((Nat) × (Nat) × (Nat) × (Nat) × (Nat) × (Nat) × (Nat → Nat))} {u9 : (Nat) × (Nat) × (Nat) × (Nat) × (Nat) × (Nat) × (Nat) × (Nat) × (Nat) × (Nat) × (Nat) × (Nat) × (Nat) × (Nat) × (Nat) × (Nat)} {tt : Nat × Nat} {adK adV : Nat → Nat} {H : Heap} (hP : va_P D vwCl (wI_X8 cs q0 u8 ++ wI_X9 cs q1 u9) H) : ∀ sh, fw_lay[52]? = some sh → va_at D vwCl (ad_of q0 q1 u8 u9 52, fw_cell (ad_of q0 q1 u8 u9, D, cs, tt, adK, adV) sh (G0 52)) H := by
  intro sh h
  cases s_52.symm.trans h
  have h := hP 52 ((u8.2.2.2.2.2.2.2.2.2.2.2.2.2.2.2.1.2.2.2.2.2.1 2), az cs.1 17) rfl
  exact h
set_option maxRecDepth 100000 in
theorem sp_53 {D : va_G} {cs : ClassId × ClassId × ClassId} {q0 q1 : Nat} {u8 : (Nat) × ((Nat)) × (Nat) × ((Nat)) × (Nat) × ((Nat)) × (Nat) × ((Nat) × (Nat → Nat)) × (Nat) × ((Nat) × (Nat → Nat)) × (Nat) × ((Nat) × (Nat) × (Nat)) × (Nat) × ((Nat) × (Nat)) × (Nat) × ((Nat) × ((Nat) × (Nat)) × (Nat) × (Nat → Nat) × (Nat) × (Nat → Nat) × (Nat) × (Nat)) × (Nat) × ((Nat) × (Nat) × (Nat) × (Nat) × (Nat) × (Nat) × (Nat → Nat))} {u9 : (Nat) × (Nat) × (Nat) × (Nat) × (Nat) × (Nat) × (Nat) × (Nat) × (Nat) × (Nat) × (Nat) × (Nat) × (Nat) × (Nat) × (Nat) × (Nat)} {tt : Nat × Nat} {adK adV : Nat → Nat} {H : Heap} (hP : va_P D vwCl (wI_X8 cs q0 u8 ++ wI_X9 cs q1 u9) H) : ∀ sh, fw_lay[53]? = some sh → va_at D vwCl (ad_of q0 q1 u8 u9 53, fw_cell (ad_of q0 q1 u8 u9, D, cs, tt, adK, adV) sh (G0 53)) H := by
  intro sh h
  cases s_53.symm.trans h
  have h := hP 53 ((u8.2.2.2.2.2.2.2.2.2.2.2.2.2.2.2.1.2.2.2.2.2.1 3), az cs.1 17) rfl
  exact h
set_option maxRecDepth 100000 in
theorem sp_54 {D : va_G} {cs : ClassId × ClassId × ClassId} {q0 q1 : Nat} {u8 : (Nat) × ((Nat)) × (Nat) × ((Nat)) × (Nat) × ((Nat)) × (Nat) × ((Nat) × (Nat → Nat)) × (Nat) × ((Nat) × (Nat → Nat)) × (Nat) × ((Nat) × (Nat) × (Nat)) × (Nat) × ((Nat) × (Nat)) × (Nat) × ((Nat) × ((Nat) × (Nat)) × (Nat) × (Nat → Nat) × (Nat) × (Nat → Nat) × (Nat) × (Nat)) × (Nat) × ((Nat) × (Nat) × (Nat) × (Nat) × (Nat) × (Nat) × (Nat → Nat))} {u9 : (Nat) × (Nat) × (Nat) × (Nat) × (Nat) × (Nat) × (Nat) × (Nat) × (Nat) × (Nat) × (Nat) × (Nat) × (Nat) × (Nat) × (Nat) × (Nat)} {tt : Nat × Nat} {adK adV : Nat → Nat} {H : Heap} (hP : va_P D vwCl (wI_X8 cs q0 u8 ++ wI_X9 cs q1 u9) H) : ∀ sh, fw_lay[54]? = some sh → va_at D vwCl (ad_of q0 q1 u8 u9 54, fw_cell (ad_of q0 q1 u8 u9, D, cs, tt, adK, adV) sh (G0 54)) H := by
  intro sh h
  cases s_54.symm.trans h
  have h := hP 54 ((u8.2.2.2.2.2.2.2.2.2.2.2.2.2.2.2.1.2.2.2.2.2.1 4), az cs.1 17) rfl
  exact h
set_option maxRecDepth 100000 in
theorem sp_55 {D : va_G} {cs : ClassId × ClassId × ClassId} {q0 q1 : Nat} {u8 : (Nat) × ((Nat)) × (Nat) × ((Nat)) × (Nat) × ((Nat)) × (Nat) × ((Nat) × (Nat → Nat)) × (Nat) × ((Nat) × (Nat → Nat)) × (Nat) × ((Nat) × (Nat) × (Nat)) × (Nat) × ((Nat) × (Nat)) × (Nat) × ((Nat) × ((Nat) × (Nat)) × (Nat) × (Nat → Nat) × (Nat) × (Nat → Nat) × (Nat) × (Nat)) × (Nat) × ((Nat) × (Nat) × (Nat) × (Nat) × (Nat) × (Nat) × (Nat → Nat))} {u9 : (Nat) × (Nat) × (Nat) × (Nat) × (Nat) × (Nat) × (Nat) × (Nat) × (Nat) × (Nat) × (Nat) × (Nat) × (Nat) × (Nat) × (Nat) × (Nat)} {tt : Nat × Nat} {adK adV : Nat → Nat} {H : Heap} (hP : va_P D vwCl (wI_X8 cs q0 u8 ++ wI_X9 cs q1 u9) H) : ∀ sh, fw_lay[55]? = some sh → va_at D vwCl (ad_of q0 q1 u8 u9 55, fw_cell (ad_of q0 q1 u8 u9, D, cs, tt, adK, adV) sh (G0 55)) H := by
  intro sh h
  cases s_55.symm.trans h
  have h := hP 55 ((u8.2.2.2.2.2.2.2.2.2.2.2.2.2.2.2.1.2.2.2.2.2.1 5), az cs.1 17) rfl
  exact h
set_option maxRecDepth 100000 in
theorem sp_56 {D : va_G} {cs : ClassId × ClassId × ClassId} {q0 q1 : Nat} {u8 : (Nat) × ((Nat)) × (Nat) × ((Nat)) × (Nat) × ((Nat)) × (Nat) × ((Nat) × (Nat → Nat)) × (Nat) × ((Nat) × (Nat → Nat)) × (Nat) × ((Nat) × (Nat) × (Nat)) × (Nat) × ((Nat) × (Nat)) × (Nat) × ((Nat) × ((Nat) × (Nat)) × (Nat) × (Nat → Nat) × (Nat) × (Nat → Nat) × (Nat) × (Nat)) × (Nat) × ((Nat) × (Nat) × (Nat) × (Nat) × (Nat) × (Nat) × (Nat → Nat))} {u9 : (Nat) × (Nat) × (Nat) × (Nat) × (Nat) × (Nat) × (Nat) × (Nat) × (Nat) × (Nat) × (Nat) × (Nat) × (Nat) × (Nat) × (Nat) × (Nat)} {tt : Nat × Nat} {adK adV : Nat → Nat} {H : Heap} (hP : va_P D vwCl (wI_X8 cs q0 u8 ++ wI_X9 cs q1 u9) H) : ∀ sh, fw_lay[56]? = some sh → va_at D vwCl (ad_of q0 q1 u8 u9 56, fw_cell (ad_of q0 q1 u8 u9, D, cs, tt, adK, adV) sh (G0 56)) H := by
  intro sh h
  cases s_56.symm.trans h
  have h := hP 56 ((u8.2.2.2.2.2.2.2.2.2.2.2.2.2.2.2.1.2.2.2.2.2.1 6), az cs.1 17) rfl
  exact h
set_option maxRecDepth 100000 in
theorem sp_57 {D : va_G} {cs : ClassId × ClassId × ClassId} {q0 q1 : Nat} {u8 : (Nat) × ((Nat)) × (Nat) × ((Nat)) × (Nat) × ((Nat)) × (Nat) × ((Nat) × (Nat → Nat)) × (Nat) × ((Nat) × (Nat → Nat)) × (Nat) × ((Nat) × (Nat) × (Nat)) × (Nat) × ((Nat) × (Nat)) × (Nat) × ((Nat) × ((Nat) × (Nat)) × (Nat) × (Nat → Nat) × (Nat) × (Nat → Nat) × (Nat) × (Nat)) × (Nat) × ((Nat) × (Nat) × (Nat) × (Nat) × (Nat) × (Nat) × (Nat → Nat))} {u9 : (Nat) × (Nat) × (Nat) × (Nat) × (Nat) × (Nat) × (Nat) × (Nat) × (Nat) × (Nat) × (Nat) × (Nat) × (Nat) × (Nat) × (Nat) × (Nat)} {tt : Nat × Nat} {adK adV : Nat → Nat} {H : Heap} (hP : va_P D vwCl (wI_X8 cs q0 u8 ++ wI_X9 cs q1 u9) H) : ∀ sh, fw_lay[57]? = some sh → va_at D vwCl (ad_of q0 q1 u8 u9 57, fw_cell (ad_of q0 q1 u8 u9, D, cs, tt, adK, adV) sh (G0 57)) H := by
  intro sh h
  cases s_57.symm.trans h
  have h := hP 57 ((u8.2.2.2.2.2.2.2.2.2.2.2.2.2.2.2.1.2.2.2.2.2.1 7), az cs.1 17) rfl
  exact h
set_option maxRecDepth 100000 in
theorem sp_58 {D : va_G} {cs : ClassId × ClassId × ClassId} {q0 q1 : Nat} {u8 : (Nat) × ((Nat)) × (Nat) × ((Nat)) × (Nat) × ((Nat)) × (Nat) × ((Nat) × (Nat → Nat)) × (Nat) × ((Nat) × (Nat → Nat)) × (Nat) × ((Nat) × (Nat) × (Nat)) × (Nat) × ((Nat) × (Nat)) × (Nat) × ((Nat) × ((Nat) × (Nat)) × (Nat) × (Nat → Nat) × (Nat) × (Nat → Nat) × (Nat) × (Nat)) × (Nat) × ((Nat) × (Nat) × (Nat) × (Nat) × (Nat) × (Nat) × (Nat → Nat))} {u9 : (Nat) × (Nat) × (Nat) × (Nat) × (Nat) × (Nat) × (Nat) × (Nat) × (Nat) × (Nat) × (Nat) × (Nat) × (Nat) × (Nat) × (Nat) × (Nat)} {tt : Nat × Nat} {adK adV : Nat → Nat} {H : Heap} (hP : va_P D vwCl (wI_X8 cs q0 u8 ++ wI_X9 cs q1 u9) H) : ∀ sh, fw_lay[58]? = some sh → va_at D vwCl (ad_of q0 q1 u8 u9 58, fw_cell (ad_of q0 q1 u8 u9, D, cs, tt, adK, adV) sh (G0 58)) H := by
  intro sh h
  cases s_58.symm.trans h
  have h := hP 58 ((u8.2.2.2.2.2.2.2.2.2.2.2.2.2.2.2.1.2.2.2.2.2.1 8), az cs.1 17) rfl
  exact h
set_option maxRecDepth 100000 in
theorem sp_59 {D : va_G} {cs : ClassId × ClassId × ClassId} {q0 q1 : Nat} {u8 : (Nat) × ((Nat)) × (Nat) × ((Nat)) × (Nat) × ((Nat)) × (Nat) × ((Nat) × (Nat → Nat)) × (Nat) × ((Nat) × (Nat → Nat)) × (Nat) × ((Nat) × (Nat) × (Nat)) × (Nat) × ((Nat) × (Nat)) × (Nat) × ((Nat) × ((Nat) × (Nat)) × (Nat) × (Nat → Nat) × (Nat) × (Nat → Nat) × (Nat) × (Nat)) × (Nat) × ((Nat) × (Nat) × (Nat) × (Nat) × (Nat) × (Nat) × (Nat → Nat))} {u9 : (Nat) × (Nat) × (Nat) × (Nat) × (Nat) × (Nat) × (Nat) × (Nat) × (Nat) × (Nat) × (Nat) × (Nat) × (Nat) × (Nat) × (Nat) × (Nat)} {tt : Nat × Nat} {adK adV : Nat → Nat} {H : Heap} (hP : va_P D vwCl (wI_X8 cs q0 u8 ++ wI_X9 cs q1 u9) H) : ∀ sh, fw_lay[59]? = some sh → va_at D vwCl (ad_of q0 q1 u8 u9 59, fw_cell (ad_of q0 q1 u8 u9, D, cs, tt, adK, adV) sh (G0 59)) H := by
  intro sh h
  cases s_59.symm.trans h
  have h := hP 59 ((u8.2.2.2.2.2.2.2.2.2.2.2.2.2.2.2.1.2.2.2.2.2.1 9), az cs.1 17) rfl
  exact h
set_option maxRecDepth 100000 in
theorem sp_60 {D : va_G} {cs : ClassId × ClassId × ClassId} {q0 q1 : Nat} {u8 : (Nat) × ((Nat)) × (Nat) × ((Nat)) × (Nat) × ((Nat)) × (Nat) × ((Nat) × (Nat → Nat)) × (Nat) × ((Nat) × (Nat → Nat)) × (Nat) × ((Nat) × (Nat) × (Nat)) × (Nat) × ((Nat) × (Nat)) × (Nat) × ((Nat) × ((Nat) × (Nat)) × (Nat) × (Nat → Nat) × (Nat) × (Nat → Nat) × (Nat) × (Nat)) × (Nat) × ((Nat) × (Nat) × (Nat) × (Nat) × (Nat) × (Nat) × (Nat → Nat))} {u9 : (Nat) × (Nat) × (Nat) × (Nat) × (Nat) × (Nat) × (Nat) × (Nat) × (Nat) × (Nat) × (Nat) × (Nat) × (Nat) × (Nat) × (Nat) × (Nat)} {tt : Nat × Nat} {adK adV : Nat → Nat} {H : Heap} (hP : va_P D vwCl (wI_X8 cs q0 u8 ++ wI_X9 cs q1 u9) H) : ∀ sh, fw_lay[60]? = some sh → va_at D vwCl (ad_of q0 q1 u8 u9 60, fw_cell (ad_of q0 q1 u8 u9, D, cs, tt, adK, adV) sh (G0 60)) H := by
  intro sh h
  cases s_60.symm.trans h
  have h := hP 60 ((u8.2.2.2.2.2.2.2.2.2.2.2.2.2.2.2.1.2.2.2.2.2.1 10), az cs.1 17) rfl
  exact h
set_option maxRecDepth 100000 in
theorem sp_61 {D : va_G} {cs : ClassId × ClassId × ClassId} {q0 q1 : Nat} {u8 : (Nat) × ((Nat)) × (Nat) × ((Nat)) × (Nat) × ((Nat)) × (Nat) × ((Nat) × (Nat → Nat)) × (Nat) × ((Nat) × (Nat → Nat)) × (Nat) × ((Nat) × (Nat) × (Nat)) × (Nat) × ((Nat) × (Nat)) × (Nat) × ((Nat) × ((Nat) × (Nat)) × (Nat) × (Nat → Nat) × (Nat) × (Nat → Nat) × (Nat) × (Nat)) × (Nat) × ((Nat) × (Nat) × (Nat) × (Nat) × (Nat) × (Nat) × (Nat → Nat))} {u9 : (Nat) × (Nat) × (Nat) × (Nat) × (Nat) × (Nat) × (Nat) × (Nat) × (Nat) × (Nat) × (Nat) × (Nat) × (Nat) × (Nat) × (Nat) × (Nat)} {tt : Nat × Nat} {adK adV : Nat → Nat} {H : Heap} (hP : va_P D vwCl (wI_X8 cs q0 u8 ++ wI_X9 cs q1 u9) H) : ∀ sh, fw_lay[61]? = some sh → va_at D vwCl (ad_of q0 q1 u8 u9 61, fw_cell (ad_of q0 q1 u8 u9, D, cs, tt, adK, adV) sh (G0 61)) H := by
  intro sh h
  cases s_61.symm.trans h
  have h := hP 61 ((u8.2.2.2.2.2.2.2.2.2.2.2.2.2.2.2.1.2.2.2.2.2.1 11), az cs.1 17) rfl
  exact h
set_option maxRecDepth 100000 in
theorem sp_62 {D : va_G} {cs : ClassId × ClassId × ClassId} {q0 q1 : Nat} {u8 : (Nat) × ((Nat)) × (Nat) × ((Nat)) × (Nat) × ((Nat)) × (Nat) × ((Nat) × (Nat → Nat)) × (Nat) × ((Nat) × (Nat → Nat)) × (Nat) × ((Nat) × (Nat) × (Nat)) × (Nat) × ((Nat) × (Nat)) × (Nat) × ((Nat) × ((Nat) × (Nat)) × (Nat) × (Nat → Nat) × (Nat) × (Nat → Nat) × (Nat) × (Nat)) × (Nat) × ((Nat) × (Nat) × (Nat) × (Nat) × (Nat) × (Nat) × (Nat → Nat))} {u9 : (Nat) × (Nat) × (Nat) × (Nat) × (Nat) × (Nat) × (Nat) × (Nat) × (Nat) × (Nat) × (Nat) × (Nat) × (Nat) × (Nat) × (Nat) × (Nat)} {tt : Nat × Nat} {adK adV : Nat → Nat} {H : Heap} (hP : va_P D vwCl (wI_X8 cs q0 u8 ++ wI_X9 cs q1 u9) H) : ∀ sh, fw_lay[62]? = some sh → va_at D vwCl (ad_of q0 q1 u8 u9 62, fw_cell (ad_of q0 q1 u8 u9, D, cs, tt, adK, adV) sh (G0 62)) H := by
  intro sh h
  cases s_62.symm.trans h
  have h := hP 62 ((u8.2.2.2.2.2.2.2.2.2.2.2.2.2.2.2.1.2.2.2.2.2.1 12), az cs.1 17) rfl
  exact h
set_option maxRecDepth 100000 in
theorem sp_63 {D : va_G} {cs : ClassId × ClassId × ClassId} {q0 q1 : Nat} {u8 : (Nat) × ((Nat)) × (Nat) × ((Nat)) × (Nat) × ((Nat)) × (Nat) × ((Nat) × (Nat → Nat)) × (Nat) × ((Nat) × (Nat → Nat)) × (Nat) × ((Nat) × (Nat) × (Nat)) × (Nat) × ((Nat) × (Nat)) × (Nat) × ((Nat) × ((Nat) × (Nat)) × (Nat) × (Nat → Nat) × (Nat) × (Nat → Nat) × (Nat) × (Nat)) × (Nat) × ((Nat) × (Nat) × (Nat) × (Nat) × (Nat) × (Nat) × (Nat → Nat))} {u9 : (Nat) × (Nat) × (Nat) × (Nat) × (Nat) × (Nat) × (Nat) × (Nat) × (Nat) × (Nat) × (Nat) × (Nat) × (Nat) × (Nat) × (Nat) × (Nat)} {tt : Nat × Nat} {adK adV : Nat → Nat} {H : Heap} (hP : va_P D vwCl (wI_X8 cs q0 u8 ++ wI_X9 cs q1 u9) H) : ∀ sh, fw_lay[63]? = some sh → va_at D vwCl (ad_of q0 q1 u8 u9 63, fw_cell (ad_of q0 q1 u8 u9, D, cs, tt, adK, adV) sh (G0 63)) H := by
  intro sh h
  cases s_63.symm.trans h
  have h := hP 63 ((u8.2.2.2.2.2.2.2.2.2.2.2.2.2.2.2.1.2.2.2.2.2.1 13), az cs.1 17) rfl
  exact h
set_option maxRecDepth 100000 in
theorem sp_64 {D : va_G} {cs : ClassId × ClassId × ClassId} {q0 q1 : Nat} {u8 : (Nat) × ((Nat)) × (Nat) × ((Nat)) × (Nat) × ((Nat)) × (Nat) × ((Nat) × (Nat → Nat)) × (Nat) × ((Nat) × (Nat → Nat)) × (Nat) × ((Nat) × (Nat) × (Nat)) × (Nat) × ((Nat) × (Nat)) × (Nat) × ((Nat) × ((Nat) × (Nat)) × (Nat) × (Nat → Nat) × (Nat) × (Nat → Nat) × (Nat) × (Nat)) × (Nat) × ((Nat) × (Nat) × (Nat) × (Nat) × (Nat) × (Nat) × (Nat → Nat))} {u9 : (Nat) × (Nat) × (Nat) × (Nat) × (Nat) × (Nat) × (Nat) × (Nat) × (Nat) × (Nat) × (Nat) × (Nat) × (Nat) × (Nat) × (Nat) × (Nat)} {tt : Nat × Nat} {adK adV : Nat → Nat} {H : Heap} (hP : va_P D vwCl (wI_X8 cs q0 u8 ++ wI_X9 cs q1 u9) H) : ∀ sh, fw_lay[64]? = some sh → va_at D vwCl (ad_of q0 q1 u8 u9 64, fw_cell (ad_of q0 q1 u8 u9, D, cs, tt, adK, adV) sh (G0 64)) H := by
  intro sh h
  cases s_64.symm.trans h
  have h := hP 64 (u8.2.2.2.2.2.2.2.2.2.2.2.2.2.2.2.1.2.2.2.2.2.2.1, az cs.1 17) rfl
  exact h
set_option maxRecDepth 100000 in
theorem sp_65 {D : va_G} {cs : ClassId × ClassId × ClassId} {q0 q1 : Nat} {u8 : (Nat) × ((Nat)) × (Nat) × ((Nat)) × (Nat) × ((Nat)) × (Nat) × ((Nat) × (Nat → Nat)) × (Nat) × ((Nat) × (Nat → Nat)) × (Nat) × ((Nat) × (Nat) × (Nat)) × (Nat) × ((Nat) × (Nat)) × (Nat) × ((Nat) × ((Nat) × (Nat)) × (Nat) × (Nat → Nat) × (Nat) × (Nat → Nat) × (Nat) × (Nat)) × (Nat) × ((Nat) × (Nat) × (Nat) × (Nat) × (Nat) × (Nat) × (Nat → Nat))} {u9 : (Nat) × (Nat) × (Nat) × (Nat) × (Nat) × (Nat) × (Nat) × (Nat) × (Nat) × (Nat) × (Nat) × (Nat) × (Nat) × (Nat) × (Nat) × (Nat)} {tt : Nat × Nat} {adK adV : Nat → Nat} {H : Heap} (hP : va_P D vwCl (wI_X8 cs q0 u8 ++ wI_X9 cs q1 u9) H) : ∀ sh, fw_lay[65]? = some sh → va_at D vwCl (ad_of q0 q1 u8 u9 65, fw_cell (ad_of q0 q1 u8 u9, D, cs, tt, adK, adV) sh (G0 65)) H := by
  intro sh h
  cases s_65.symm.trans h
  have h := hP 65 (u8.2.2.2.2.2.2.2.2.2.2.2.2.2.2.2.1.2.2.2.2.2.2.2, az cs.1 17) rfl
  exact h
set_option maxRecDepth 100000 in
theorem sp_66 {D : va_G} {cs : ClassId × ClassId × ClassId} {q0 q1 : Nat} {u8 : (Nat) × ((Nat)) × (Nat) × ((Nat)) × (Nat) × ((Nat)) × (Nat) × ((Nat) × (Nat → Nat)) × (Nat) × ((Nat) × (Nat → Nat)) × (Nat) × ((Nat) × (Nat) × (Nat)) × (Nat) × ((Nat) × (Nat)) × (Nat) × ((Nat) × ((Nat) × (Nat)) × (Nat) × (Nat → Nat) × (Nat) × (Nat → Nat) × (Nat) × (Nat)) × (Nat) × ((Nat) × (Nat) × (Nat) × (Nat) × (Nat) × (Nat) × (Nat → Nat))} {u9 : (Nat) × (Nat) × (Nat) × (Nat) × (Nat) × (Nat) × (Nat) × (Nat) × (Nat) × (Nat) × (Nat) × (Nat) × (Nat) × (Nat) × (Nat) × (Nat)} {tt : Nat × Nat} {adK adV : Nat → Nat} {H : Heap} (hP : va_P D vwCl (wI_X8 cs q0 u8 ++ wI_X9 cs q1 u9) H) : ∀ sh, fw_lay[66]? = some sh → va_at D vwCl (ad_of q0 q1 u8 u9 66, fw_cell (ad_of q0 q1 u8 u9, D, cs, tt, adK, adV) sh (G0 66)) H := by
  intro sh h
  cases s_66.symm.trans h
  have h := hP 66 (u8.2.2.2.2.2.2.2.2.2.2.2.2.2.2.2.2.1, .inr (5, [.ref u8.2.2.2.2.2.2.2.2.2.2.2.2.2.2.2.2.2.1, .ref u8.2.2.2.2.2.2.2.2.2.2.2.2.2.2.2.2.2.2.1, .ref u8.2.2.2.2.2.2.2.2.2.2.2.2.2.2.2.2.2.2.2.1, .ref u8.2.2.2.2.2.2.2.2.2.2.2.2.2.2.2.2.2.2.2.2.1, .ref u8.2.2.2.2.2.2.2.2.2.2.2.2.2.2.2.2.2.2.2.2.2.1, .ref u8.2.2.2.2.2.2.2.2.2.2.2.2.2.2.2.2.2.2.2.2.2.2.1, .int 0, .int 0])) rfl
  exact h
set_option maxRecDepth 100000 in
theorem sp_67 {D : va_G} {cs : ClassId × ClassId × ClassId} {q0 q1 : Nat} {u8 : (Nat) × ((Nat)) × (Nat) × ((Nat)) × (Nat) × ((Nat)) × (Nat) × ((Nat) × (Nat → Nat)) × (Nat) × ((Nat) × (Nat → Nat)) × (Nat) × ((Nat) × (Nat) × (Nat)) × (Nat) × ((Nat) × (Nat)) × (Nat) × ((Nat) × ((Nat) × (Nat)) × (Nat) × (Nat → Nat) × (Nat) × (Nat → Nat) × (Nat) × (Nat)) × (Nat) × ((Nat) × (Nat) × (Nat) × (Nat) × (Nat) × (Nat) × (Nat → Nat))} {u9 : (Nat) × (Nat) × (Nat) × (Nat) × (Nat) × (Nat) × (Nat) × (Nat) × (Nat) × (Nat) × (Nat) × (Nat) × (Nat) × (Nat) × (Nat) × (Nat)} {tt : Nat × Nat} {adK adV : Nat → Nat} {H : Heap} (hP : va_P D vwCl (wI_X8 cs q0 u8 ++ wI_X9 cs q1 u9) H) : ∀ sh, fw_lay[67]? = some sh → va_at D vwCl (ad_of q0 q1 u8 u9 67, fw_cell (ad_of q0 q1 u8 u9, D, cs, tt, adK, adV) sh (G0 67)) H := by
  intro sh h
  cases s_67.symm.trans h
  have h := hP 67 (u8.2.2.2.2.2.2.2.2.2.2.2.2.2.2.2.2.2.1, az cs.1 8) rfl
  exact h
set_option maxRecDepth 100000 in
theorem sp_68 {D : va_G} {cs : ClassId × ClassId × ClassId} {q0 q1 : Nat} {u8 : (Nat) × ((Nat)) × (Nat) × ((Nat)) × (Nat) × ((Nat)) × (Nat) × ((Nat) × (Nat → Nat)) × (Nat) × ((Nat) × (Nat → Nat)) × (Nat) × ((Nat) × (Nat) × (Nat)) × (Nat) × ((Nat) × (Nat)) × (Nat) × ((Nat) × ((Nat) × (Nat)) × (Nat) × (Nat → Nat) × (Nat) × (Nat → Nat) × (Nat) × (Nat)) × (Nat) × ((Nat) × (Nat) × (Nat) × (Nat) × (Nat) × (Nat) × (Nat → Nat))} {u9 : (Nat) × (Nat) × (Nat) × (Nat) × (Nat) × (Nat) × (Nat) × (Nat) × (Nat) × (Nat) × (Nat) × (Nat) × (Nat) × (Nat) × (Nat) × (Nat)} {tt : Nat × Nat} {adK adV : Nat → Nat} {H : Heap} (hP : va_P D vwCl (wI_X8 cs q0 u8 ++ wI_X9 cs q1 u9) H) : ∀ sh, fw_lay[68]? = some sh → va_at D vwCl (ad_of q0 q1 u8 u9 68, fw_cell (ad_of q0 q1 u8 u9, D, cs, tt, adK, adV) sh (G0 68)) H := by
  intro sh h
  cases s_68.symm.trans h
  have h := hP 68 (u8.2.2.2.2.2.2.2.2.2.2.2.2.2.2.2.2.2.2.1, az cs.1 8) rfl
  exact h
set_option maxRecDepth 100000 in
theorem sp_69 {D : va_G} {cs : ClassId × ClassId × ClassId} {q0 q1 : Nat} {u8 : (Nat) × ((Nat)) × (Nat) × ((Nat)) × (Nat) × ((Nat)) × (Nat) × ((Nat) × (Nat → Nat)) × (Nat) × ((Nat) × (Nat → Nat)) × (Nat) × ((Nat) × (Nat) × (Nat)) × (Nat) × ((Nat) × (Nat)) × (Nat) × ((Nat) × ((Nat) × (Nat)) × (Nat) × (Nat → Nat) × (Nat) × (Nat → Nat) × (Nat) × (Nat)) × (Nat) × ((Nat) × (Nat) × (Nat) × (Nat) × (Nat) × (Nat) × (Nat → Nat))} {u9 : (Nat) × (Nat) × (Nat) × (Nat) × (Nat) × (Nat) × (Nat) × (Nat) × (Nat) × (Nat) × (Nat) × (Nat) × (Nat) × (Nat) × (Nat) × (Nat)} {tt : Nat × Nat} {adK adV : Nat → Nat} {H : Heap} (hP : va_P D vwCl (wI_X8 cs q0 u8 ++ wI_X9 cs q1 u9) H) : ∀ sh, fw_lay[69]? = some sh → va_at D vwCl (ad_of q0 q1 u8 u9 69, fw_cell (ad_of q0 q1 u8 u9, D, cs, tt, adK, adV) sh (G0 69)) H := by
  intro sh h
  cases s_69.symm.trans h
  have h := hP 69 (u8.2.2.2.2.2.2.2.2.2.2.2.2.2.2.2.2.2.2.2.1, az cs.1 256) rfl
  exact h
set_option maxRecDepth 100000 in
theorem sp_70 {D : va_G} {cs : ClassId × ClassId × ClassId} {q0 q1 : Nat} {u8 : (Nat) × ((Nat)) × (Nat) × ((Nat)) × (Nat) × ((Nat)) × (Nat) × ((Nat) × (Nat → Nat)) × (Nat) × ((Nat) × (Nat → Nat)) × (Nat) × ((Nat) × (Nat) × (Nat)) × (Nat) × ((Nat) × (Nat)) × (Nat) × ((Nat) × ((Nat) × (Nat)) × (Nat) × (Nat → Nat) × (Nat) × (Nat → Nat) × (Nat) × (Nat)) × (Nat) × ((Nat) × (Nat) × (Nat) × (Nat) × (Nat) × (Nat) × (Nat → Nat))} {u9 : (Nat) × (Nat) × (Nat) × (Nat) × (Nat) × (Nat) × (Nat) × (Nat) × (Nat) × (Nat) × (Nat) × (Nat) × (Nat) × (Nat) × (Nat) × (Nat)} {tt : Nat × Nat} {adK adV : Nat → Nat} {H : Heap} (hP : va_P D vwCl (wI_X8 cs q0 u8 ++ wI_X9 cs q1 u9) H) : ∀ sh, fw_lay[70]? = some sh → va_at D vwCl (ad_of q0 q1 u8 u9 70, fw_cell (ad_of q0 q1 u8 u9, D, cs, tt, adK, adV) sh (G0 70)) H := by
  intro sh h
  cases s_70.symm.trans h
  have h := hP 70 (u8.2.2.2.2.2.2.2.2.2.2.2.2.2.2.2.2.2.2.2.2.1, az cs.1 256) rfl
  exact h
set_option maxRecDepth 100000 in
theorem sp_71 {D : va_G} {cs : ClassId × ClassId × ClassId} {q0 q1 : Nat} {u8 : (Nat) × ((Nat)) × (Nat) × ((Nat)) × (Nat) × ((Nat)) × (Nat) × ((Nat) × (Nat → Nat)) × (Nat) × ((Nat) × (Nat → Nat)) × (Nat) × ((Nat) × (Nat) × (Nat)) × (Nat) × ((Nat) × (Nat)) × (Nat) × ((Nat) × ((Nat) × (Nat)) × (Nat) × (Nat → Nat) × (Nat) × (Nat → Nat) × (Nat) × (Nat)) × (Nat) × ((Nat) × (Nat) × (Nat) × (Nat) × (Nat) × (Nat) × (Nat → Nat))} {u9 : (Nat) × (Nat) × (Nat) × (Nat) × (Nat) × (Nat) × (Nat) × (Nat) × (Nat) × (Nat) × (Nat) × (Nat) × (Nat) × (Nat) × (Nat) × (Nat)} {tt : Nat × Nat} {adK adV : Nat → Nat} {H : Heap} (hP : va_P D vwCl (wI_X8 cs q0 u8 ++ wI_X9 cs q1 u9) H) : ∀ sh, fw_lay[71]? = some sh → va_at D vwCl (ad_of q0 q1 u8 u9 71, fw_cell (ad_of q0 q1 u8 u9, D, cs, tt, adK, adV) sh (G0 71)) H := by
  intro sh h
  cases s_71.symm.trans h
  have h := hP 71 (u8.2.2.2.2.2.2.2.2.2.2.2.2.2.2.2.2.2.2.2.2.2.1, az cs.1 8) rfl
  exact h
set_option maxRecDepth 100000 in
theorem sp_72 {D : va_G} {cs : ClassId × ClassId × ClassId} {q0 q1 : Nat} {u8 : (Nat) × ((Nat)) × (Nat) × ((Nat)) × (Nat) × ((Nat)) × (Nat) × ((Nat) × (Nat → Nat)) × (Nat) × ((Nat) × (Nat → Nat)) × (Nat) × ((Nat) × (Nat) × (Nat)) × (Nat) × ((Nat) × (Nat)) × (Nat) × ((Nat) × ((Nat) × (Nat)) × (Nat) × (Nat → Nat) × (Nat) × (Nat → Nat) × (Nat) × (Nat)) × (Nat) × ((Nat) × (Nat) × (Nat) × (Nat) × (Nat) × (Nat) × (Nat → Nat))} {u9 : (Nat) × (Nat) × (Nat) × (Nat) × (Nat) × (Nat) × (Nat) × (Nat) × (Nat) × (Nat) × (Nat) × (Nat) × (Nat) × (Nat) × (Nat) × (Nat)} {tt : Nat × Nat} {adK adV : Nat → Nat} {H : Heap} (hP : va_P D vwCl (wI_X8 cs q0 u8 ++ wI_X9 cs q1 u9) H) : ∀ sh, fw_lay[72]? = some sh → va_at D vwCl (ad_of q0 q1 u8 u9 72, fw_cell (ad_of q0 q1 u8 u9, D, cs, tt, adK, adV) sh (G0 72)) H := by
  intro sh h
  cases s_72.symm.trans h
  have h := hP 72 (u8.2.2.2.2.2.2.2.2.2.2.2.2.2.2.2.2.2.2.2.2.2.2.1, rz cs.2.2 8 u8.2.2.2.2.2.2.2.2.2.2.2.2.2.2.2.2.2.2.2.2.2.2.2) rfl
  rw [← gr_eq_72 (q0 := q0) (q1 := q1) (u8 := u8) (u9 := u9)] at h
  exact h
set_option maxRecDepth 100000 in
theorem sp_73 {D : va_G} {cs : ClassId × ClassId × ClassId} {q0 q1 : Nat} {u8 : (Nat) × ((Nat)) × (Nat) × ((Nat)) × (Nat) × ((Nat)) × (Nat) × ((Nat) × (Nat → Nat)) × (Nat) × ((Nat) × (Nat → Nat)) × (Nat) × ((Nat) × (Nat) × (Nat)) × (Nat) × ((Nat) × (Nat)) × (Nat) × ((Nat) × ((Nat) × (Nat)) × (Nat) × (Nat → Nat) × (Nat) × (Nat → Nat) × (Nat) × (Nat)) × (Nat) × ((Nat) × (Nat) × (Nat) × (Nat) × (Nat) × (Nat) × (Nat → Nat))} {u9 : (Nat) × (Nat) × (Nat) × (Nat) × (Nat) × (Nat) × (Nat) × (Nat) × (Nat) × (Nat) × (Nat) × (Nat) × (Nat) × (Nat) × (Nat) × (Nat)} {tt : Nat × Nat} {adK adV : Nat → Nat} {H : Heap} (hP : va_P D vwCl (wI_X8 cs q0 u8 ++ wI_X9 cs q1 u9) H) : ∀ sh, fw_lay[73]? = some sh → va_at D vwCl (ad_of q0 q1 u8 u9 73, fw_cell (ad_of q0 q1 u8 u9, D, cs, tt, adK, adV) sh (G0 73)) H := by
  intro sh h
  cases s_73.symm.trans h
  have h := hP 73 ((u8.2.2.2.2.2.2.2.2.2.2.2.2.2.2.2.2.2.2.2.2.2.2.2 0), az cs.1 8) rfl
  exact h
set_option maxRecDepth 100000 in
theorem sp_74 {D : va_G} {cs : ClassId × ClassId × ClassId} {q0 q1 : Nat} {u8 : (Nat) × ((Nat)) × (Nat) × ((Nat)) × (Nat) × ((Nat)) × (Nat) × ((Nat) × (Nat → Nat)) × (Nat) × ((Nat) × (Nat → Nat)) × (Nat) × ((Nat) × (Nat) × (Nat)) × (Nat) × ((Nat) × (Nat)) × (Nat) × ((Nat) × ((Nat) × (Nat)) × (Nat) × (Nat → Nat) × (Nat) × (Nat → Nat) × (Nat) × (Nat)) × (Nat) × ((Nat) × (Nat) × (Nat) × (Nat) × (Nat) × (Nat) × (Nat → Nat))} {u9 : (Nat) × (Nat) × (Nat) × (Nat) × (Nat) × (Nat) × (Nat) × (Nat) × (Nat) × (Nat) × (Nat) × (Nat) × (Nat) × (Nat) × (Nat) × (Nat)} {tt : Nat × Nat} {adK adV : Nat → Nat} {H : Heap} (hP : va_P D vwCl (wI_X8 cs q0 u8 ++ wI_X9 cs q1 u9) H) : ∀ sh, fw_lay[74]? = some sh → va_at D vwCl (ad_of q0 q1 u8 u9 74, fw_cell (ad_of q0 q1 u8 u9, D, cs, tt, adK, adV) sh (G0 74)) H := by
  intro sh h
  cases s_74.symm.trans h
  have h := hP 74 ((u8.2.2.2.2.2.2.2.2.2.2.2.2.2.2.2.2.2.2.2.2.2.2.2 1), az cs.1 8) rfl
  exact h
set_option maxRecDepth 100000 in
theorem sp_75 {D : va_G} {cs : ClassId × ClassId × ClassId} {q0 q1 : Nat} {u8 : (Nat) × ((Nat)) × (Nat) × ((Nat)) × (Nat) × ((Nat)) × (Nat) × ((Nat) × (Nat → Nat)) × (Nat) × ((Nat) × (Nat → Nat)) × (Nat) × ((Nat) × (Nat) × (Nat)) × (Nat) × ((Nat) × (Nat)) × (Nat) × ((Nat) × ((Nat) × (Nat)) × (Nat) × (Nat → Nat) × (Nat) × (Nat → Nat) × (Nat) × (Nat)) × (Nat) × ((Nat) × (Nat) × (Nat) × (Nat) × (Nat) × (Nat) × (Nat → Nat))} {u9 : (Nat) × (Nat) × (Nat) × (Nat) × (Nat) × (Nat) × (Nat) × (Nat) × (Nat) × (Nat) × (Nat) × (Nat) × (Nat) × (Nat) × (Nat) × (Nat)} {tt : Nat × Nat} {adK adV : Nat → Nat} {H : Heap} (hP : va_P D vwCl (wI_X8 cs q0 u8 ++ wI_X9 cs q1 u9) H) : ∀ sh, fw_lay[75]? = some sh → va_at D vwCl (ad_of q0 q1 u8 u9 75, fw_cell (ad_of q0 q1 u8 u9, D, cs, tt, adK, adV) sh (G0 75)) H := by
  intro sh h
  cases s_75.symm.trans h
  have h := hP 75 ((u8.2.2.2.2.2.2.2.2.2.2.2.2.2.2.2.2.2.2.2.2.2.2.2 2), az cs.1 8) rfl
  exact h
set_option maxRecDepth 100000 in
theorem sp_76 {D : va_G} {cs : ClassId × ClassId × ClassId} {q0 q1 : Nat} {u8 : (Nat) × ((Nat)) × (Nat) × ((Nat)) × (Nat) × ((Nat)) × (Nat) × ((Nat) × (Nat → Nat)) × (Nat) × ((Nat) × (Nat → Nat)) × (Nat) × ((Nat) × (Nat) × (Nat)) × (Nat) × ((Nat) × (Nat)) × (Nat) × ((Nat) × ((Nat) × (Nat)) × (Nat) × (Nat → Nat) × (Nat) × (Nat → Nat) × (Nat) × (Nat)) × (Nat) × ((Nat) × (Nat) × (Nat) × (Nat) × (Nat) × (Nat) × (Nat → Nat))} {u9 : (Nat) × (Nat) × (Nat) × (Nat) × (Nat) × (Nat) × (Nat) × (Nat) × (Nat) × (Nat) × (Nat) × (Nat) × (Nat) × (Nat) × (Nat) × (Nat)} {tt : Nat × Nat} {adK adV : Nat → Nat} {H : Heap} (hP : va_P D vwCl (wI_X8 cs q0 u8 ++ wI_X9 cs q1 u9) H) : ∀ sh, fw_lay[76]? = some sh → va_at D vwCl (ad_of q0 q1 u8 u9 76, fw_cell (ad_of q0 q1 u8 u9, D, cs, tt, adK, adV) sh (G0 76)) H := by
  intro sh h
  cases s_76.symm.trans h
  have h := hP 76 ((u8.2.2.2.2.2.2.2.2.2.2.2.2.2.2.2.2.2.2.2.2.2.2.2 3), az cs.1 8) rfl
  exact h
set_option maxRecDepth 100000 in
theorem sp_77 {D : va_G} {cs : ClassId × ClassId × ClassId} {q0 q1 : Nat} {u8 : (Nat) × ((Nat)) × (Nat) × ((Nat)) × (Nat) × ((Nat)) × (Nat) × ((Nat) × (Nat → Nat)) × (Nat) × ((Nat) × (Nat → Nat)) × (Nat) × ((Nat) × (Nat) × (Nat)) × (Nat) × ((Nat) × (Nat)) × (Nat) × ((Nat) × ((Nat) × (Nat)) × (Nat) × (Nat → Nat) × (Nat) × (Nat → Nat) × (Nat) × (Nat)) × (Nat) × ((Nat) × (Nat) × (Nat) × (Nat) × (Nat) × (Nat) × (Nat → Nat))} {u9 : (Nat) × (Nat) × (Nat) × (Nat) × (Nat) × (Nat) × (Nat) × (Nat) × (Nat) × (Nat) × (Nat) × (Nat) × (Nat) × (Nat) × (Nat) × (Nat)} {tt : Nat × Nat} {adK adV : Nat → Nat} {H : Heap} (hP : va_P D vwCl (wI_X8 cs q0 u8 ++ wI_X9 cs q1 u9) H) : ∀ sh, fw_lay[77]? = some sh → va_at D vwCl (ad_of q0 q1 u8 u9 77, fw_cell (ad_of q0 q1 u8 u9, D, cs, tt, adK, adV) sh (G0 77)) H := by
  intro sh h
  cases s_77.symm.trans h
  have h := hP 77 ((u8.2.2.2.2.2.2.2.2.2.2.2.2.2.2.2.2.2.2.2.2.2.2.2 4), az cs.1 8) rfl
  exact h
set_option maxRecDepth 100000 in
theorem sp_78 {D : va_G} {cs : ClassId × ClassId × ClassId} {q0 q1 : Nat} {u8 : (Nat) × ((Nat)) × (Nat) × ((Nat)) × (Nat) × ((Nat)) × (Nat) × ((Nat) × (Nat → Nat)) × (Nat) × ((Nat) × (Nat → Nat)) × (Nat) × ((Nat) × (Nat) × (Nat)) × (Nat) × ((Nat) × (Nat)) × (Nat) × ((Nat) × ((Nat) × (Nat)) × (Nat) × (Nat → Nat) × (Nat) × (Nat → Nat) × (Nat) × (Nat)) × (Nat) × ((Nat) × (Nat) × (Nat) × (Nat) × (Nat) × (Nat) × (Nat → Nat))} {u9 : (Nat) × (Nat) × (Nat) × (Nat) × (Nat) × (Nat) × (Nat) × (Nat) × (Nat) × (Nat) × (Nat) × (Nat) × (Nat) × (Nat) × (Nat) × (Nat)} {tt : Nat × Nat} {adK adV : Nat → Nat} {H : Heap} (hP : va_P D vwCl (wI_X8 cs q0 u8 ++ wI_X9 cs q1 u9) H) : ∀ sh, fw_lay[78]? = some sh → va_at D vwCl (ad_of q0 q1 u8 u9 78, fw_cell (ad_of q0 q1 u8 u9, D, cs, tt, adK, adV) sh (G0 78)) H := by
  intro sh h
  cases s_78.symm.trans h
  have h := hP 78 ((u8.2.2.2.2.2.2.2.2.2.2.2.2.2.2.2.2.2.2.2.2.2.2.2 5), az cs.1 8) rfl
  exact h
set_option maxRecDepth 100000 in
theorem sp_79 {D : va_G} {cs : ClassId × ClassId × ClassId} {q0 q1 : Nat} {u8 : (Nat) × ((Nat)) × (Nat) × ((Nat)) × (Nat) × ((Nat)) × (Nat) × ((Nat) × (Nat → Nat)) × (Nat) × ((Nat) × (Nat → Nat)) × (Nat) × ((Nat) × (Nat) × (Nat)) × (Nat) × ((Nat) × (Nat)) × (Nat) × ((Nat) × ((Nat) × (Nat)) × (Nat) × (Nat → Nat) × (Nat) × (Nat → Nat) × (Nat) × (Nat)) × (Nat) × ((Nat) × (Nat) × (Nat) × (Nat) × (Nat) × (Nat) × (Nat → Nat))} {u9 : (Nat) × (Nat) × (Nat) × (Nat) × (Nat) × (Nat) × (Nat) × (Nat) × (Nat) × (Nat) × (Nat) × (Nat) × (Nat) × (Nat) × (Nat) × (Nat)} {tt : Nat × Nat} {adK adV : Nat → Nat} {H : Heap} (hP : va_P D vwCl (wI_X8 cs q0 u8 ++ wI_X9 cs q1 u9) H) : ∀ sh, fw_lay[79]? = some sh → va_at D vwCl (ad_of q0 q1 u8 u9 79, fw_cell (ad_of q0 q1 u8 u9, D, cs, tt, adK, adV) sh (G0 79)) H := by
  intro sh h
  cases s_79.symm.trans h
  have h := hP 79 ((u8.2.2.2.2.2.2.2.2.2.2.2.2.2.2.2.2.2.2.2.2.2.2.2 6), az cs.1 8) rfl
  exact h
set_option maxRecDepth 100000 in
theorem sp_80 {D : va_G} {cs : ClassId × ClassId × ClassId} {q0 q1 : Nat} {u8 : (Nat) × ((Nat)) × (Nat) × ((Nat)) × (Nat) × ((Nat)) × (Nat) × ((Nat) × (Nat → Nat)) × (Nat) × ((Nat) × (Nat → Nat)) × (Nat) × ((Nat) × (Nat) × (Nat)) × (Nat) × ((Nat) × (Nat)) × (Nat) × ((Nat) × ((Nat) × (Nat)) × (Nat) × (Nat → Nat) × (Nat) × (Nat → Nat) × (Nat) × (Nat)) × (Nat) × ((Nat) × (Nat) × (Nat) × (Nat) × (Nat) × (Nat) × (Nat → Nat))} {u9 : (Nat) × (Nat) × (Nat) × (Nat) × (Nat) × (Nat) × (Nat) × (Nat) × (Nat) × (Nat) × (Nat) × (Nat) × (Nat) × (Nat) × (Nat) × (Nat)} {tt : Nat × Nat} {adK adV : Nat → Nat} {H : Heap} (hP : va_P D vwCl (wI_X8 cs q0 u8 ++ wI_X9 cs q1 u9) H) : ∀ sh, fw_lay[80]? = some sh → va_at D vwCl (ad_of q0 q1 u8 u9 80, fw_cell (ad_of q0 q1 u8 u9, D, cs, tt, adK, adV) sh (G0 80)) H := by
  intro sh h
  cases s_80.symm.trans h
  have h := hP 80 ((u8.2.2.2.2.2.2.2.2.2.2.2.2.2.2.2.2.2.2.2.2.2.2.2 7), az cs.1 8) rfl
  exact h
set_option maxRecDepth 100000 in
theorem sp_81 {D : va_G} {cs : ClassId × ClassId × ClassId} {q0 q1 : Nat} {u8 : (Nat) × ((Nat)) × (Nat) × ((Nat)) × (Nat) × ((Nat)) × (Nat) × ((Nat) × (Nat → Nat)) × (Nat) × ((Nat) × (Nat → Nat)) × (Nat) × ((Nat) × (Nat) × (Nat)) × (Nat) × ((Nat) × (Nat)) × (Nat) × ((Nat) × ((Nat) × (Nat)) × (Nat) × (Nat → Nat) × (Nat) × (Nat → Nat) × (Nat) × (Nat)) × (Nat) × ((Nat) × (Nat) × (Nat) × (Nat) × (Nat) × (Nat) × (Nat → Nat))} {u9 : (Nat) × (Nat) × (Nat) × (Nat) × (Nat) × (Nat) × (Nat) × (Nat) × (Nat) × (Nat) × (Nat) × (Nat) × (Nat) × (Nat) × (Nat) × (Nat)} {tt : Nat × Nat} {adK adV : Nat → Nat} {H : Heap} (hP : va_P D vwCl (wI_X8 cs q0 u8 ++ wI_X9 cs q1 u9) H) : ∀ sh, fw_lay[81]? = some sh → va_at D vwCl (ad_of q0 q1 u8 u9 81, fw_cell (ad_of q0 q1 u8 u9, D, cs, tt, adK, adV) sh (G0 81)) H := by
  intro sh h
  cases s_81.symm.trans h
  have h := hP 81 (q1, .inr (9, [.int 0, .ref u9.1, .ref u9.2.1, .ref u9.2.2.1, .int 0, .ref u9.2.2.2.1, .ref u9.2.2.2.2.1, .int 0, .ref u9.2.2.2.2.2.1, .ref u9.2.2.2.2.2.2.1, .ref u9.2.2.2.2.2.2.2.1, .int 0, .ref u9.2.2.2.2.2.2.2.2.1, .int 0, .int 0, .ref u9.2.2.2.2.2.2.2.2.2.1, .ref u9.2.2.2.2.2.2.2.2.2.2.1, .ref u9.2.2.2.2.2.2.2.2.2.2.2.1, .ref u9.2.2.2.2.2.2.2.2.2.2.2.2.1, .ref u9.2.2.2.2.2.2.2.2.2.2.2.2.2.1, .ref u9.2.2.2.2.2.2.2.2.2.2.2.2.2.2.1, .ref u9.2.2.2.2.2.2.2.2.2.2.2.2.2.2.2])) rfl
  show va_at D vwCl (ad_of q0 q1 u8 u9 81, .inr (9, fw_fl (ad_of q0 q1 u8 u9) [none, some 82, some 83, some 84, none, some 85, some 86, none, some 87, some 88, some 89, none, some 90, none, none, some 91, some 92, some 93, some 94, some 95, some 96, some 97] (G0 81))) H
  rw [fl_81]
  exact h
set_option maxRecDepth 100000 in
theorem sp_82 {D : va_G} {cs : ClassId × ClassId × ClassId} {q0 q1 : Nat} {u8 : (Nat) × ((Nat)) × (Nat) × ((Nat)) × (Nat) × ((Nat)) × (Nat) × ((Nat) × (Nat → Nat)) × (Nat) × ((Nat) × (Nat → Nat)) × (Nat) × ((Nat) × (Nat) × (Nat)) × (Nat) × ((Nat) × (Nat)) × (Nat) × ((Nat) × ((Nat) × (Nat)) × (Nat) × (Nat → Nat) × (Nat) × (Nat → Nat) × (Nat) × (Nat)) × (Nat) × ((Nat) × (Nat) × (Nat) × (Nat) × (Nat) × (Nat) × (Nat → Nat))} {u9 : (Nat) × (Nat) × (Nat) × (Nat) × (Nat) × (Nat) × (Nat) × (Nat) × (Nat) × (Nat) × (Nat) × (Nat) × (Nat) × (Nat) × (Nat) × (Nat)} {tt : Nat × Nat} {adK adV : Nat → Nat} {H : Heap} (hP : va_P D vwCl (wI_X8 cs q0 u8 ++ wI_X9 cs q1 u9) H) : ∀ sh, fw_lay[82]? = some sh → va_at D vwCl (ad_of q0 q1 u8 u9 82, fw_cell (ad_of q0 q1 u8 u9, D, cs, tt, adK, adV) sh (G0 82)) H := by
  intro sh h
  cases s_82.symm.trans h
  have h := hP 82 (u9.1, az cs.1 74) rfl
  exact h
set_option maxRecDepth 100000 in
theorem sp_83 {D : va_G} {cs : ClassId × ClassId × ClassId} {q0 q1 : Nat} {u8 : (Nat) × ((Nat)) × (Nat) × ((Nat)) × (Nat) × ((Nat)) × (Nat) × ((Nat) × (Nat → Nat)) × (Nat) × ((Nat) × (Nat → Nat)) × (Nat) × ((Nat) × (Nat) × (Nat)) × (Nat) × ((Nat) × (Nat)) × (Nat) × ((Nat) × ((Nat) × (Nat)) × (Nat) × (Nat → Nat) × (Nat) × (Nat → Nat) × (Nat) × (Nat)) × (Nat) × ((Nat) × (Nat) × (Nat) × (Nat) × (Nat) × (Nat) × (Nat → Nat))} {u9 : (Nat) × (Nat) × (Nat) × (Nat) × (Nat) × (Nat) × (Nat) × (Nat) × (Nat) × (Nat) × (Nat) × (Nat) × (Nat) × (Nat) × (Nat) × (Nat)} {tt : Nat × Nat} {adK adV : Nat → Nat} {H : Heap} (hP : va_P D vwCl (wI_X8 cs q0 u8 ++ wI_X9 cs q1 u9) H) : ∀ sh, fw_lay[83]? = some sh → va_at D vwCl (ad_of q0 q1 u8 u9 83, fw_cell (ad_of q0 q1 u8 u9, D, cs, tt, adK, adV) sh (G0 83)) H := by
  intro sh h
  cases s_83.symm.trans h
  have h := hP 83 (u9.2.1, az cs.1 74) rfl
  exact h
set_option maxRecDepth 100000 in
theorem sp_84 {D : va_G} {cs : ClassId × ClassId × ClassId} {q0 q1 : Nat} {u8 : (Nat) × ((Nat)) × (Nat) × ((Nat)) × (Nat) × ((Nat)) × (Nat) × ((Nat) × (Nat → Nat)) × (Nat) × ((Nat) × (Nat → Nat)) × (Nat) × ((Nat) × (Nat) × (Nat)) × (Nat) × ((Nat) × (Nat)) × (Nat) × ((Nat) × ((Nat) × (Nat)) × (Nat) × (Nat → Nat) × (Nat) × (Nat → Nat) × (Nat) × (Nat)) × (Nat) × ((Nat) × (Nat) × (Nat) × (Nat) × (Nat) × (Nat) × (Nat → Nat))} {u9 : (Nat) × (Nat) × (Nat) × (Nat) × (Nat) × (Nat) × (Nat) × (Nat) × (Nat) × (Nat) × (Nat) × (Nat) × (Nat) × (Nat) × (Nat) × (Nat)} {tt : Nat × Nat} {adK adV : Nat → Nat} {H : Heap} (hP : va_P D vwCl (wI_X8 cs q0 u8 ++ wI_X9 cs q1 u9) H) : ∀ sh, fw_lay[84]? = some sh → va_at D vwCl (ad_of q0 q1 u8 u9 84, fw_cell (ad_of q0 q1 u8 u9, D, cs, tt, adK, adV) sh (G0 84)) H := by
  intro sh h
  cases s_84.symm.trans h
  have h := hP 84 (u9.2.2.1, az cs.1 740) rfl
  exact h
set_option maxRecDepth 100000 in
theorem sp_85 {D : va_G} {cs : ClassId × ClassId × ClassId} {q0 q1 : Nat} {u8 : (Nat) × ((Nat)) × (Nat) × ((Nat)) × (Nat) × ((Nat)) × (Nat) × ((Nat) × (Nat → Nat)) × (Nat) × ((Nat) × (Nat → Nat)) × (Nat) × ((Nat) × (Nat) × (Nat)) × (Nat) × ((Nat) × (Nat)) × (Nat) × ((Nat) × ((Nat) × (Nat)) × (Nat) × (Nat → Nat) × (Nat) × (Nat → Nat) × (Nat) × (Nat)) × (Nat) × ((Nat) × (Nat) × (Nat) × (Nat) × (Nat) × (Nat) × (Nat → Nat))} {u9 : (Nat) × (Nat) × (Nat) × (Nat) × (Nat) × (Nat) × (Nat) × (Nat) × (Nat) × (Nat) × (Nat) × (Nat) × (Nat) × (Nat) × (Nat) × (Nat)} {tt : Nat × Nat} {adK adV : Nat → Nat} {H : Heap} (hP : va_P D vwCl (wI_X8 cs q0 u8 ++ wI_X9 cs q1 u9) H) : ∀ sh, fw_lay[85]? = some sh → va_at D vwCl (ad_of q0 q1 u8 u9 85, fw_cell (ad_of q0 q1 u8 u9, D, cs, tt, adK, adV) sh (G0 85)) H := by
  intro sh h
  cases s_85.symm.trans h
  have h := hP 85 (u9.2.2.2.1, az cs.1 148) rfl
  exact h
set_option maxRecDepth 100000 in
theorem sp_86 {D : va_G} {cs : ClassId × ClassId × ClassId} {q0 q1 : Nat} {u8 : (Nat) × ((Nat)) × (Nat) × ((Nat)) × (Nat) × ((Nat)) × (Nat) × ((Nat) × (Nat → Nat)) × (Nat) × ((Nat) × (Nat → Nat)) × (Nat) × ((Nat) × (Nat) × (Nat)) × (Nat) × ((Nat) × (Nat)) × (Nat) × ((Nat) × ((Nat) × (Nat)) × (Nat) × (Nat → Nat) × (Nat) × (Nat → Nat) × (Nat) × (Nat)) × (Nat) × ((Nat) × (Nat) × (Nat) × (Nat) × (Nat) × (Nat) × (Nat → Nat))} {u9 : (Nat) × (Nat) × (Nat) × (Nat) × (Nat) × (Nat) × (Nat) × (Nat) × (Nat) × (Nat) × (Nat) × (Nat) × (Nat) × (Nat) × (Nat) × (Nat)} {tt : Nat × Nat} {adK adV : Nat → Nat} {H : Heap} (hP : va_P D vwCl (wI_X8 cs q0 u8 ++ wI_X9 cs q1 u9) H) : ∀ sh, fw_lay[86]? = some sh → va_at D vwCl (ad_of q0 q1 u8 u9 86, fw_cell (ad_of q0 q1 u8 u9, D, cs, tt, adK, adV) sh (G0 86)) H := by
  intro sh h
  cases s_86.symm.trans h
  have h := hP 86 (u9.2.2.2.2.1, az cs.2.1 2) rfl
  exact h
set_option maxRecDepth 100000 in
theorem sp_87 {D : va_G} {cs : ClassId × ClassId × ClassId} {q0 q1 : Nat} {u8 : (Nat) × ((Nat)) × (Nat) × ((Nat)) × (Nat) × ((Nat)) × (Nat) × ((Nat) × (Nat → Nat)) × (Nat) × ((Nat) × (Nat → Nat)) × (Nat) × ((Nat) × (Nat) × (Nat)) × (Nat) × ((Nat) × (Nat)) × (Nat) × ((Nat) × ((Nat) × (Nat)) × (Nat) × (Nat → Nat) × (Nat) × (Nat → Nat) × (Nat) × (Nat)) × (Nat) × ((Nat) × (Nat) × (Nat) × (Nat) × (Nat) × (Nat) × (Nat → Nat))} {u9 : (Nat) × (Nat) × (Nat) × (Nat) × (Nat) × (Nat) × (Nat) × (Nat) × (Nat) × (Nat) × (Nat) × (Nat) × (Nat) × (Nat) × (Nat) × (Nat)} {tt : Nat × Nat} {adK adV : Nat → Nat} {H : Heap} (hP : va_P D vwCl (wI_X8 cs q0 u8 ++ wI_X9 cs q1 u9) H) : ∀ sh, fw_lay[87]? = some sh → va_at D vwCl (ad_of q0 q1 u8 u9 87, fw_cell (ad_of q0 q1 u8 u9, D, cs, tt, adK, adV) sh (G0 87)) H := by
  intro sh h
  cases s_87.symm.trans h
  have h := hP 87 (u9.2.2.2.2.2.1, az cs.1 6) rfl
  exact h
set_option maxRecDepth 100000 in
theorem sp_88 {D : va_G} {cs : ClassId × ClassId × ClassId} {q0 q1 : Nat} {u8 : (Nat) × ((Nat)) × (Nat) × ((Nat)) × (Nat) × ((Nat)) × (Nat) × ((Nat) × (Nat → Nat)) × (Nat) × ((Nat) × (Nat → Nat)) × (Nat) × ((Nat) × (Nat) × (Nat)) × (Nat) × ((Nat) × (Nat)) × (Nat) × ((Nat) × ((Nat) × (Nat)) × (Nat) × (Nat → Nat) × (Nat) × (Nat → Nat) × (Nat) × (Nat)) × (Nat) × ((Nat) × (Nat) × (Nat) × (Nat) × (Nat) × (Nat) × (Nat → Nat))} {u9 : (Nat) × (Nat) × (Nat) × (Nat) × (Nat) × (Nat) × (Nat) × (Nat) × (Nat) × (Nat) × (Nat) × (Nat) × (Nat) × (Nat) × (Nat) × (Nat)} {tt : Nat × Nat} {adK adV : Nat → Nat} {H : Heap} (hP : va_P D vwCl (wI_X8 cs q0 u8 ++ wI_X9 cs q1 u9) H) : ∀ sh, fw_lay[88]? = some sh → va_at D vwCl (ad_of q0 q1 u8 u9 88, fw_cell (ad_of q0 q1 u8 u9, D, cs, tt, adK, adV) sh (G0 88)) H := by
  intro sh h
  cases s_88.symm.trans h
  have h := hP 88 (u9.2.2.2.2.2.2.1, az cs.1 6) rfl
  exact h
set_option maxRecDepth 100000 in
theorem sp_89 {D : va_G} {cs : ClassId × ClassId × ClassId} {q0 q1 : Nat} {u8 : (Nat) × ((Nat)) × (Nat) × ((Nat)) × (Nat) × ((Nat)) × (Nat) × ((Nat) × (Nat → Nat)) × (Nat) × ((Nat) × (Nat → Nat)) × (Nat) × ((Nat) × (Nat) × (Nat)) × (Nat) × ((Nat) × (Nat)) × (Nat) × ((Nat) × ((Nat) × (Nat)) × (Nat) × (Nat → Nat) × (Nat) × (Nat → Nat) × (Nat) × (Nat)) × (Nat) × ((Nat) × (Nat) × (Nat) × (Nat) × (Nat) × (Nat) × (Nat → Nat))} {u9 : (Nat) × (Nat) × (Nat) × (Nat) × (Nat) × (Nat) × (Nat) × (Nat) × (Nat) × (Nat) × (Nat) × (Nat) × (Nat) × (Nat) × (Nat) × (Nat)} {tt : Nat × Nat} {adK adV : Nat → Nat} {H : Heap} (hP : va_P D vwCl (wI_X8 cs q0 u8 ++ wI_X9 cs q1 u9) H) : ∀ sh, fw_lay[89]? = some sh → va_at D vwCl (ad_of q0 q1 u8 u9 89, fw_cell (ad_of q0 q1 u8 u9, D, cs, tt, adK, adV) sh (G0 89)) H := by
  intro sh h
  cases s_89.symm.trans h
  have h := hP 89 (u9.2.2.2.2.2.2.2.1, az cs.1 6) rfl
  exact h
set_option maxRecDepth 100000 in
theorem sp_90 {D : va_G} {cs : ClassId × ClassId × ClassId} {q0 q1 : Nat} {u8 : (Nat) × ((Nat)) × (Nat) × ((Nat)) × (Nat) × ((Nat)) × (Nat) × ((Nat) × (Nat → Nat)) × (Nat) × ((Nat) × (Nat → Nat)) × (Nat) × ((Nat) × (Nat) × (Nat)) × (Nat) × ((Nat) × (Nat)) × (Nat) × ((Nat) × ((Nat) × (Nat)) × (Nat) × (Nat → Nat) × (Nat) × (Nat → Nat) × (Nat) × (Nat)) × (Nat) × ((Nat) × (Nat) × (Nat) × (Nat) × (Nat) × (Nat) × (Nat → Nat))} {u9 : (Nat) × (Nat) × (Nat) × (Nat) × (Nat) × (Nat) × (Nat) × (Nat) × (Nat) × (Nat) × (Nat) × (Nat) × (Nat) × (Nat) × (Nat) × (Nat)} {tt : Nat × Nat} {adK adV : Nat → Nat} {H : Heap} (hP : va_P D vwCl (wI_X8 cs q0 u8 ++ wI_X9 cs q1 u9) H) : ∀ sh, fw_lay[90]? = some sh → va_at D vwCl (ad_of q0 q1 u8 u9 90, fw_cell (ad_of q0 q1 u8 u9, D, cs, tt, adK, adV) sh (G0 90)) H := by
  intro sh h
  cases s_90.symm.trans h
  have h := hP 90 (u9.2.2.2.2.2.2.2.2.1, az cs.1 80) rfl
  exact h
set_option maxRecDepth 100000 in
theorem sp_91 {D : va_G} {cs : ClassId × ClassId × ClassId} {q0 q1 : Nat} {u8 : (Nat) × ((Nat)) × (Nat) × ((Nat)) × (Nat) × ((Nat)) × (Nat) × ((Nat) × (Nat → Nat)) × (Nat) × ((Nat) × (Nat → Nat)) × (Nat) × ((Nat) × (Nat) × (Nat)) × (Nat) × ((Nat) × (Nat)) × (Nat) × ((Nat) × ((Nat) × (Nat)) × (Nat) × (Nat → Nat) × (Nat) × (Nat → Nat) × (Nat) × (Nat)) × (Nat) × ((Nat) × (Nat) × (Nat) × (Nat) × (Nat) × (Nat) × (Nat → Nat))} {u9 : (Nat) × (Nat) × (Nat) × (Nat) × (Nat) × (Nat) × (Nat) × (Nat) × (Nat) × (Nat) × (Nat) × (Nat) × (Nat) × (Nat) × (Nat) × (Nat)} {tt : Nat × Nat} {adK adV : Nat → Nat} {H : Heap} (hP : va_P D vwCl (wI_X8 cs q0 u8 ++ wI_X9 cs q1 u9) H) : ∀ sh, fw_lay[91]? = some sh → va_at D vwCl (ad_of q0 q1 u8 u9 91, fw_cell (ad_of q0 q1 u8 u9, D, cs, tt, adK, adV) sh (G0 91)) H := by
  intro sh h
  cases s_91.symm.trans h
  have h := hP 91 (u9.2.2.2.2.2.2.2.2.2.1, az cs.1 17) rfl
  exact h
set_option maxRecDepth 100000 in
theorem sp_92 {D : va_G} {cs : ClassId × ClassId × ClassId} {q0 q1 : Nat} {u8 : (Nat) × ((Nat)) × (Nat) × ((Nat)) × (Nat) × ((Nat)) × (Nat) × ((Nat) × (Nat → Nat)) × (Nat) × ((Nat) × (Nat → Nat)) × (Nat) × ((Nat) × (Nat) × (Nat)) × (Nat) × ((Nat) × (Nat)) × (Nat) × ((Nat) × ((Nat) × (Nat)) × (Nat) × (Nat → Nat) × (Nat) × (Nat → Nat) × (Nat) × (Nat)) × (Nat) × ((Nat) × (Nat) × (Nat) × (Nat) × (Nat) × (Nat) × (Nat → Nat))} {u9 : (Nat) × (Nat) × (Nat) × (Nat) × (Nat) × (Nat) × (Nat) × (Nat) × (Nat) × (Nat) × (Nat) × (Nat) × (Nat) × (Nat) × (Nat) × (Nat)} {tt : Nat × Nat} {adK adV : Nat → Nat} {H : Heap} (hP : va_P D vwCl (wI_X8 cs q0 u8 ++ wI_X9 cs q1 u9) H) : ∀ sh, fw_lay[92]? = some sh → va_at D vwCl (ad_of q0 q1 u8 u9 92, fw_cell (ad_of q0 q1 u8 u9, D, cs, tt, adK, adV) sh (G0 92)) H := by
  intro sh h
  cases s_92.symm.trans h
  have h := hP 92 (u9.2.2.2.2.2.2.2.2.2.2.1, az cs.1 17) rfl
  exact h
set_option maxRecDepth 100000 in
theorem sp_93 {D : va_G} {cs : ClassId × ClassId × ClassId} {q0 q1 : Nat} {u8 : (Nat) × ((Nat)) × (Nat) × ((Nat)) × (Nat) × ((Nat)) × (Nat) × ((Nat) × (Nat → Nat)) × (Nat) × ((Nat) × (Nat → Nat)) × (Nat) × ((Nat) × (Nat) × (Nat)) × (Nat) × ((Nat) × (Nat)) × (Nat) × ((Nat) × ((Nat) × (Nat)) × (Nat) × (Nat → Nat) × (Nat) × (Nat → Nat) × (Nat) × (Nat)) × (Nat) × ((Nat) × (Nat) × (Nat) × (Nat) × (Nat) × (Nat) × (Nat → Nat))} {u9 : (Nat) × (Nat) × (Nat) × (Nat) × (Nat) × (Nat) × (Nat) × (Nat) × (Nat) × (Nat) × (Nat) × (Nat) × (Nat) × (Nat) × (Nat) × (Nat)} {tt : Nat × Nat} {adK adV : Nat → Nat} {H : Heap} (hP : va_P D vwCl (wI_X8 cs q0 u8 ++ wI_X9 cs q1 u9) H) : ∀ sh, fw_lay[93]? = some sh → va_at D vwCl (ad_of q0 q1 u8 u9 93, fw_cell (ad_of q0 q1 u8 u9, D, cs, tt, adK, adV) sh (G0 93)) H := by
  intro sh h
  cases s_93.symm.trans h
  have h := hP 93 (u9.2.2.2.2.2.2.2.2.2.2.2.1, az cs.1 17) rfl
  exact h
set_option maxRecDepth 100000 in
theorem sp_94 {D : va_G} {cs : ClassId × ClassId × ClassId} {q0 q1 : Nat} {u8 : (Nat) × ((Nat)) × (Nat) × ((Nat)) × (Nat) × ((Nat)) × (Nat) × ((Nat) × (Nat → Nat)) × (Nat) × ((Nat) × (Nat → Nat)) × (Nat) × ((Nat) × (Nat) × (Nat)) × (Nat) × ((Nat) × (Nat)) × (Nat) × ((Nat) × ((Nat) × (Nat)) × (Nat) × (Nat → Nat) × (Nat) × (Nat → Nat) × (Nat) × (Nat)) × (Nat) × ((Nat) × (Nat) × (Nat) × (Nat) × (Nat) × (Nat) × (Nat → Nat))} {u9 : (Nat) × (Nat) × (Nat) × (Nat) × (Nat) × (Nat) × (Nat) × (Nat) × (Nat) × (Nat) × (Nat) × (Nat) × (Nat) × (Nat) × (Nat) × (Nat)} {tt : Nat × Nat} {adK adV : Nat → Nat} {H : Heap} (hP : va_P D vwCl (wI_X8 cs q0 u8 ++ wI_X9 cs q1 u9) H) : ∀ sh, fw_lay[94]? = some sh → va_at D vwCl (ad_of q0 q1 u8 u9 94, fw_cell (ad_of q0 q1 u8 u9, D, cs, tt, adK, adV) sh (G0 94)) H := by
  intro sh h
  cases s_94.symm.trans h
  have h := hP 94 (u9.2.2.2.2.2.2.2.2.2.2.2.2.1, az cs.1 17) rfl
  exact h
set_option maxRecDepth 100000 in
theorem sp_95 {D : va_G} {cs : ClassId × ClassId × ClassId} {q0 q1 : Nat} {u8 : (Nat) × ((Nat)) × (Nat) × ((Nat)) × (Nat) × ((Nat)) × (Nat) × ((Nat) × (Nat → Nat)) × (Nat) × ((Nat) × (Nat → Nat)) × (Nat) × ((Nat) × (Nat) × (Nat)) × (Nat) × ((Nat) × (Nat)) × (Nat) × ((Nat) × ((Nat) × (Nat)) × (Nat) × (Nat → Nat) × (Nat) × (Nat → Nat) × (Nat) × (Nat)) × (Nat) × ((Nat) × (Nat) × (Nat) × (Nat) × (Nat) × (Nat) × (Nat → Nat))} {u9 : (Nat) × (Nat) × (Nat) × (Nat) × (Nat) × (Nat) × (Nat) × (Nat) × (Nat) × (Nat) × (Nat) × (Nat) × (Nat) × (Nat) × (Nat) × (Nat)} {tt : Nat × Nat} {adK adV : Nat → Nat} {H : Heap} (hP : va_P D vwCl (wI_X8 cs q0 u8 ++ wI_X9 cs q1 u9) H) : ∀ sh, fw_lay[95]? = some sh → va_at D vwCl (ad_of q0 q1 u8 u9 95, fw_cell (ad_of q0 q1 u8 u9, D, cs, tt, adK, adV) sh (G0 95)) H := by
  intro sh h
  cases s_95.symm.trans h
  have h := hP 95 (u9.2.2.2.2.2.2.2.2.2.2.2.2.2.1, az cs.1 256) rfl
  exact h
set_option maxRecDepth 100000 in
theorem sp_96 {D : va_G} {cs : ClassId × ClassId × ClassId} {q0 q1 : Nat} {u8 : (Nat) × ((Nat)) × (Nat) × ((Nat)) × (Nat) × ((Nat)) × (Nat) × ((Nat) × (Nat → Nat)) × (Nat) × ((Nat) × (Nat → Nat)) × (Nat) × ((Nat) × (Nat) × (Nat)) × (Nat) × ((Nat) × (Nat)) × (Nat) × ((Nat) × ((Nat) × (Nat)) × (Nat) × (Nat → Nat) × (Nat) × (Nat → Nat) × (Nat) × (Nat)) × (Nat) × ((Nat) × (Nat) × (Nat) × (Nat) × (Nat) × (Nat) × (Nat → Nat))} {u9 : (Nat) × (Nat) × (Nat) × (Nat) × (Nat) × (Nat) × (Nat) × (Nat) × (Nat) × (Nat) × (Nat) × (Nat) × (Nat) × (Nat) × (Nat) × (Nat)} {tt : Nat × Nat} {adK adV : Nat → Nat} {H : Heap} (hP : va_P D vwCl (wI_X8 cs q0 u8 ++ wI_X9 cs q1 u9) H) : ∀ sh, fw_lay[96]? = some sh → va_at D vwCl (ad_of q0 q1 u8 u9 96, fw_cell (ad_of q0 q1 u8 u9, D, cs, tt, adK, adV) sh (G0 96)) H := by
  intro sh h
  cases s_96.symm.trans h
  have h := hP 96 (u9.2.2.2.2.2.2.2.2.2.2.2.2.2.2.1, az cs.1 8) rfl
  exact h
set_option maxRecDepth 100000 in
theorem sp_97 {D : va_G} {cs : ClassId × ClassId × ClassId} {q0 q1 : Nat} {u8 : (Nat) × ((Nat)) × (Nat) × ((Nat)) × (Nat) × ((Nat)) × (Nat) × ((Nat) × (Nat → Nat)) × (Nat) × ((Nat) × (Nat → Nat)) × (Nat) × ((Nat) × (Nat) × (Nat)) × (Nat) × ((Nat) × (Nat)) × (Nat) × ((Nat) × ((Nat) × (Nat)) × (Nat) × (Nat → Nat) × (Nat) × (Nat → Nat) × (Nat) × (Nat)) × (Nat) × ((Nat) × (Nat) × (Nat) × (Nat) × (Nat) × (Nat) × (Nat → Nat))} {u9 : (Nat) × (Nat) × (Nat) × (Nat) × (Nat) × (Nat) × (Nat) × (Nat) × (Nat) × (Nat) × (Nat) × (Nat) × (Nat) × (Nat) × (Nat) × (Nat)} {tt : Nat × Nat} {adK adV : Nat → Nat} {H : Heap} (hP : va_P D vwCl (wI_X8 cs q0 u8 ++ wI_X9 cs q1 u9) H) : ∀ sh, fw_lay[97]? = some sh → va_at D vwCl (ad_of q0 q1 u8 u9 97, fw_cell (ad_of q0 q1 u8 u9, D, cs, tt, adK, adV) sh (G0 97)) H := by
  intro sh h
  cases s_97.symm.trans h
  have h := hP 97 (u9.2.2.2.2.2.2.2.2.2.2.2.2.2.2.2, az cs.1 8) rfl
  exact h
set_option maxRecDepth 100000 in
set_option maxHeartbeats 2000000 in
theorem start_P {D : va_G} {cs : ClassId × ClassId × ClassId} {q0 q1 : Nat} {u8 : (Nat) × ((Nat)) × (Nat) × ((Nat)) × (Nat) × ((Nat)) × (Nat) × ((Nat) × (Nat → Nat)) × (Nat) × ((Nat) × (Nat → Nat)) × (Nat) × ((Nat) × (Nat) × (Nat)) × (Nat) × ((Nat) × (Nat)) × (Nat) × ((Nat) × ((Nat) × (Nat)) × (Nat) × (Nat → Nat) × (Nat) × (Nat → Nat) × (Nat) × (Nat)) × (Nat) × ((Nat) × (Nat) × (Nat) × (Nat) × (Nat) × (Nat) × (Nat → Nat))} {u9 : (Nat) × (Nat) × (Nat) × (Nat) × (Nat) × (Nat) × (Nat) × (Nat) × (Nat) × (Nat) × (Nat) × (Nat) × (Nat) × (Nat) × (Nat) × (Nat)} {tt : Nat × Nat} {adK adV : Nat → Nat} {H : Heap} (hP : va_P D vwCl (wI_X8 cs q0 u8 ++ wI_X9 cs q1 u9) H) : va_P D vwCl (fw_cells (ad_of q0 q1 u8 u9, D, cs, tt, adK, adV) G0) H := by
  have key : ∀ k, k < 98 → ∀ sh, fw_lay[k]? = some sh → va_at D vwCl (ad_of q0 q1 u8 u9 k, fw_cell (ad_of q0 q1 u8 u9, D, cs, tt, adK, adV) sh (G0 k)) H := lt_s (lt_s (lt_s (lt_s (lt_s (lt_s (lt_s (lt_s (lt_s (lt_s (lt_s (lt_s (lt_s (lt_s (lt_s (lt_s (lt_s (lt_s (lt_s (lt_s (lt_s (lt_s (lt_s (lt_s (lt_s (lt_s (lt_s (lt_s (lt_s (lt_s (lt_s (lt_s (lt_s (lt_s (lt_s (lt_s (lt_s (lt_s (lt_s (lt_s (lt_s (lt_s (lt_s (lt_s (lt_s (lt_s (lt_s (lt_s (lt_s (lt_s (lt_s (lt_s (lt_s (lt_s (lt_s (lt_s (lt_s (lt_s (lt_s (lt_s (lt_s (lt_s (lt_s (lt_s (lt_s (lt_s (lt_s (lt_s (lt_s (lt_s (lt_s (lt_s (lt_s (lt_s (lt_s (lt_s (lt_s (lt_s (lt_s (lt_s (lt_s (lt_s (lt_s (lt_s (lt_s (lt_s (lt_s (lt_s (lt_s (lt_s (lt_s (lt_s (lt_s (lt_s (lt_s (lt_s (lt_s (lt_s (lt_0) (sp_0 hP)) (sp_1 hP)) (sp_2 hP)) (sp_3 hP)) (sp_4 hP)) (sp_5 hP)) (sp_6 hP)) (sp_7 hP)) (sp_8 hP)) (sp_9 hP)) (sp_10 hP)) (sp_11 hP)) (sp_12 hP)) (sp_13 hP)) (sp_14 hP)) (sp_15 hP)) (sp_16 hP)) (sp_17 hP)) (sp_18 hP)) (sp_19 hP)) (sp_20 hP)) (sp_21 hP)) (sp_22 hP)) (sp_23 hP)) (sp_24 hP)) (sp_25 hP)) (sp_26 hP)) (sp_27 hP)) (sp_28 hP)) (sp_29 hP)) (sp_30 hP)) (sp_31 hP)) (sp_32 hP)) (sp_33 hP)) (sp_34 hP)) (sp_35 hP)) (sp_36 hP)) (sp_37 hP)) (sp_38 hP)) (sp_39 hP)) (sp_40 hP)) (sp_41 hP)) (sp_42 hP)) (sp_43 hP)) (sp_44 hP)) (sp_45 hP)) (sp_46 hP)) (sp_47 hP)) (sp_48 hP)) (sp_49 hP)) (sp_50 hP)) (sp_51 hP)) (sp_52 hP)) (sp_53 hP)) (sp_54 hP)) (sp_55 hP)) (sp_56 hP)) (sp_57 hP)) (sp_58 hP)) (sp_59 hP)) (sp_60 hP)) (sp_61 hP)) (sp_62 hP)) (sp_63 hP)) (sp_64 hP)) (sp_65 hP)) (sp_66 hP)) (sp_67 hP)) (sp_68 hP)) (sp_69 hP)) (sp_70 hP)) (sp_71 hP)) (sp_72 hP)) (sp_73 hP)) (sp_74 hP)) (sp_75 hP)) (sp_76 hP)) (sp_77 hP)) (sp_78 hP)) (sp_79 hP)) (sp_80 hP)) (sp_81 hP)) (sp_82 hP)) (sp_83 hP)) (sp_84 hP)) (sp_85 hP)) (sp_86 hP)) (sp_87 hP)) (sp_88 hP)) (sp_89 hP)) (sp_90 hP)) (sp_91 hP)) (sp_92 hP)) (sp_93 hP)) (sp_94 hP)) (sp_95 hP)) (sp_96 hP)) (sp_97 hP)
  intro k q hk
  unfold fw_cells at hk
  rw [List.getElem?_mapIdx] at hk
  obtain ⟨a, ha, rfl⟩ := Option.map_eq_some_iff.mp hk
  exact key k (fw_ltC ha) a ha
theorem start_J {D : va_G} {cs : ClassId × ClassId × ClassId} {q0 q1 : Nat} {u8 : (Nat) × ((Nat)) × (Nat) × ((Nat)) × (Nat) × ((Nat)) × (Nat) × ((Nat) × (Nat → Nat)) × (Nat) × ((Nat) × (Nat → Nat)) × (Nat) × ((Nat) × (Nat) × (Nat)) × (Nat) × ((Nat) × (Nat)) × (Nat) × ((Nat) × ((Nat) × (Nat)) × (Nat) × (Nat → Nat) × (Nat) × (Nat → Nat) × (Nat) × (Nat)) × (Nat) × ((Nat) × (Nat) × (Nat) × (Nat) × (Nat) × (Nat) × (Nat → Nat))} {u9 : (Nat) × (Nat) × (Nat) × (Nat) × (Nat) × (Nat) × (Nat) × (Nat) × (Nat) × (Nat) × (Nat) × (Nat) × (Nat) × (Nat) × (Nat) × (Nat)} {tt : Nat × Nat} {adK adV : Nat → Nat} {A : Nat → Prop} (hD : va_D A (wI_X8 cs q0 u8 ++ wI_X9 cs q1 u9)) : fw_inj (ad_of q0 q1 u8 u9, D, cs, tt, adK, adV) ∧ ∀ k, k < fw_lay.length → A (ad_of q0 q1 u8 u9 k) := by
  have hlen : (wI_X8 cs q0 u8 ++ wI_X9 cs q1 u9).length = 98 := rfl
  have hl2 : fw_lay.length = 98 := rfl
  have key : ∀ k, k < fw_lay.length → ∃ e, (wI_X8 cs q0 u8 ++ wI_X9 cs q1 u9)[k]? = some (ad_of q0 q1 u8 u9 k, e) := fun k hk => by
    obtain ⟨e, he⟩ := ad_at (wI_X8 cs q0 u8 ++ wI_X9 cs q1 u9) (i := k) (by rw [hlen]; rw [hl2] at hk; exact hk)
    rw [ad_map] at he
    exact ⟨e, he⟩
  refine ⟨fun i j hi hj e => ?_, fun k hk => ?_⟩
  · obtain ⟨a, ha⟩ := key i hi
    obtain ⟨b, hb⟩ := key j hj
    exact hD.1 i j _ _ ha hb e
  · obtain ⟨a, ha⟩ := key k hk
    exact hD.2 k _ ha
set_option maxRecDepth 100000 in
set_option maxHeartbeats 4000000 in
theorem start_St {p : Program} {s : State} {m : MethodId} {meth : Method} {c : Code} {b L : Nat} {xs : Nat → Int32} (C0 : lw_At p s m meth c b L xs) : ∃ (tt : Nat × Nat) (adK adV : Nat → Nat), ∀ (ad : Nat → Nat) (D : va_G) (cs : ClassId × ClassId × ClassId), (∀ k, k < fw_lay.length → s.heap.size ≤ ad k) → fw_St (ad, D, cs, tt, adK, adV) s s.heap := by
  obtain ⟨hx, hb, hr, hml, hown, hts, hX, hbl, hlocks, hgv⟩ := C0
  have hs := flat_of_before _ hgv
  have key : ∀ (A : Nat → Prop), (∀ a : Nat, a < s.heap.size → ¬ A a) → ((∃ t, (Term.static "TenseLines" "EVENT_TO_LOOK" "[I").eval #[Value.ref b] s none [] s = some (.ref t) ∧ va_T .int t 8 (fun j => .int (ev_tab j)) A s s.heap) ∧ (∃ t, (Term.static "TenseLines" "LOOK_TO_NOW" "[I").eval #[Value.ref b] s none [] s = some (.ref t) ∧ va_T .int t 8 (fun j => .int (lk_tab j)) A s s.heap) ∧ (∃ adK adV : Nat → Nat, vk_S 3 st_len st_byt adK adV A s s.heap ∧ ∀ i : Nat, i < 3 → (st_tm i).eval #[Value.ref b] s none [] s = some (.ref (adK i)))) := by
    intro A hA
    refine ⟨va_Tof (by decide) (hs (.arrayOf (.static "TenseLines" "EVENT_TO_LOOK" "[I") .int) (by decide +kernel)) (va_eqt (hs (.eq (.length (.static "TenseLines" "EVENT_TO_LOOK" "[I")) (.int 8)) (by decide +kernel))) (fun j hj => ?_) hA, va_Tof (by decide) (hs (.arrayOf (.static "TenseLines" "LOOK_TO_NOW" "[I") .int) (by decide +kernel)) (va_eqt (hs (.eq (.length (.static "TenseLines" "LOOK_TO_NOW" "[I")) (.int 8)) (by decide +kernel))) (fun j hj => ?_) hA, vk_Sof (tm := st_tm) (fun i hi => ?_) (fun i hi => ?_) (fun i hi => ?_) (fun i hi => ?_) (fun i hi => ?_) (fun i hi j hj => ?_) (fun i j hi hj hij => ?_) hA⟩
    · match j, hj with
      | 0, _ => exact va_eqt (hs (.eq (.elem (.static "TenseLines" "EVENT_TO_LOOK" "[I") (.int 0)) (.int 1)) (by decide +kernel))
      | 1, _ => exact va_eqt (hs (.eq (.elem (.static "TenseLines" "EVENT_TO_LOOK" "[I") (.int 1)) (.int 0)) (by decide +kernel))
      | 2, _ => exact va_eqt (hs (.eq (.elem (.static "TenseLines" "EVENT_TO_LOOK" "[I") (.int 2)) (.int 2)) (by decide +kernel))
      | 3, _ => exact va_eqt (hs (.eq (.elem (.static "TenseLines" "EVENT_TO_LOOK" "[I") (.int 3)) (.int 1)) (by decide +kernel))
      | 4, _ => exact va_eqt (hs (.eq (.elem (.static "TenseLines" "EVENT_TO_LOOK" "[I") (.int 4)) (.int 0)) (by decide +kernel))
      | 5, _ => exact va_eqt (hs (.eq (.elem (.static "TenseLines" "EVENT_TO_LOOK" "[I") (.int 5)) (.int 2)) (by decide +kernel))
      | 6, _ => exact va_eqt (hs (.eq (.elem (.static "TenseLines" "EVENT_TO_LOOK" "[I") (.int 6)) (.int 1)) (by decide +kernel))
      | 7, _ => exact va_eqt (hs (.eq (.elem (.static "TenseLines" "EVENT_TO_LOOK" "[I") (.int 7)) (.int 0)) (by decide +kernel))
      | j + 8, hj => exact absurd hj (by omega)
    · match j, hj with
      | 0, _ => exact va_eqt (hs (.eq (.elem (.static "TenseLines" "LOOK_TO_NOW" "[I") (.int 0)) (.int 0)) (by decide +kernel))
      | 1, _ => exact va_eqt (hs (.eq (.elem (.static "TenseLines" "LOOK_TO_NOW" "[I") (.int 1)) (.int 0)) (by decide +kernel))
      | 2, _ => exact va_eqt (hs (.eq (.elem (.static "TenseLines" "LOOK_TO_NOW" "[I") (.int 2)) (.int 0)) (by decide +kernel))
      | 3, _ => exact va_eqt (hs (.eq (.elem (.static "TenseLines" "LOOK_TO_NOW" "[I") (.int 3)) (.int 1)) (by decide +kernel))
      | 4, _ => exact va_eqt (hs (.eq (.elem (.static "TenseLines" "LOOK_TO_NOW" "[I") (.int 4)) (.int 1)) (by decide +kernel))
      | 5, _ => exact va_eqt (hs (.eq (.elem (.static "TenseLines" "LOOK_TO_NOW" "[I") (.int 5)) (.int 1)) (by decide +kernel))
      | 6, _ => exact va_eqt (hs (.eq (.elem (.static "TenseLines" "LOOK_TO_NOW" "[I") (.int 6)) (.int 2)) (by decide +kernel))
      | 7, _ => exact va_eqt (hs (.eq (.elem (.static "TenseLines" "LOOK_TO_NOW" "[I") (.int 7)) (.int 2)) (by decide +kernel))
      | j + 8, hj => exact absurd hj (by omega)
    · match i, hi with
      | 0, _ => decide
      | 1, _ => decide
      | 2, _ => decide
      | i + 3, hi => exact absurd hi (by omega)
    · match i, hi with
      | 0, _ => exact hs (.exactly (.string "TenseLines$Text" 75) "java/lang/String") (by decide +kernel)
      | 1, _ => exact hs (.exactly (.string "TenseLines$Text" 57) "java/lang/String") (by decide +kernel)
      | 2, _ => exact hs (.exactly (.string "TenseLines$Text" 80) "java/lang/String") (by decide +kernel)
      | i + 3, hi => exact absurd hi (by omega)
    · match i, hi with
      | 0, _ => exact hs (.eq (.field (.string "TenseLines$Text" 75) "java/lang/String" "coder" "B") (.int 0)) (by decide +kernel)
      | 1, _ => exact hs (.eq (.field (.string "TenseLines$Text" 57) "java/lang/String" "coder" "B") (.int 0)) (by decide +kernel)
      | 2, _ => exact hs (.eq (.field (.string "TenseLines$Text" 80) "java/lang/String" "coder" "B") (.int 0)) (by decide +kernel)
      | i + 3, hi => exact absurd hi (by omega)
    · match i, hi with
      | 0, _ => exact hs (.arrayOf (.field (.string "TenseLines$Text" 75) "java/lang/String" "value" "[B") .byte) (by decide +kernel)
      | 1, _ => exact hs (.arrayOf (.field (.string "TenseLines$Text" 57) "java/lang/String" "value" "[B") .byte) (by decide +kernel)
      | 2, _ => exact hs (.arrayOf (.field (.string "TenseLines$Text" 80) "java/lang/String" "value" "[B") .byte) (by decide +kernel)
      | i + 3, hi => exact absurd hi (by omega)
    · match i, hi with
      | 0, _ => exact hs (.eq (.length (.field (.string "TenseLines$Text" 75) "java/lang/String" "value" "[B")) (.int 8)) (by decide +kernel)
      | 1, _ => exact hs (.eq (.length (.field (.string "TenseLines$Text" 57) "java/lang/String" "value" "[B")) (.int 4)) (by decide +kernel)
      | 2, _ => exact hs (.eq (.length (.field (.string "TenseLines$Text" 80) "java/lang/String" "value" "[B")) (.int 2)) (by decide +kernel)
      | i + 3, hi => exact absurd hi (by omega)
    · match i, hi with
      | 0, _ =>
        match j, hj with
        | 0, _ => exact hs (.eq (.elem (.field (.string "TenseLines$Text" 75) "java/lang/String" "value" "[B") (.int 0)) (.int 100)) (by decide +kernel)
        | 1, _ => exact hs (.eq (.elem (.field (.string "TenseLines$Text" 75) "java/lang/String" "value" "[B") (.int 1)) (.int 104)) (by decide +kernel)
        | 2, _ => exact hs (.eq (.elem (.field (.string "TenseLines$Text" 75) "java/lang/String" "value" "[B") (.int 2)) (.int 119)) (by decide +kernel)
        | 3, _ => exact hs (.eq (.elem (.field (.string "TenseLines$Text" 75) "java/lang/String" "value" "[B") (.int 3)) (.int 112)) (by decide +kernel)
        | 4, _ => exact hs (.eq (.elem (.field (.string "TenseLines$Text" 75) "java/lang/String" "value" "[B") (.int 4)) (.int 118)) (by decide +kernel)
        | 5, _ => exact hs (.eq (.elem (.field (.string "TenseLines$Text" 75) "java/lang/String" "value" "[B") (.int 5)) (.int 103)) (by decide +kernel)
        | 6, _ => exact hs (.eq (.elem (.field (.string "TenseLines$Text" 75) "java/lang/String" "value" "[B") (.int 6)) (.int 102)) (by decide +kernel)
        | 7, _ => exact hs (.eq (.elem (.field (.string "TenseLines$Text" 75) "java/lang/String" "value" "[B") (.int 7)) (.int 117)) (by decide +kernel)
        | j + 8, hj => exact absurd (show j + 8 < 8 from hj) (by omega)
      | 1, _ =>
        match j, hj with
        | 0, _ => exact hs (.eq (.elem (.field (.string "TenseLines$Text" 57) "java/lang/String" "value" "[B") (.int 0)) (.int 43)) (by decide +kernel)
        | 1, _ => exact hs (.eq (.elem (.field (.string "TenseLines$Text" 57) "java/lang/String" "value" "[B") (.int 1)) (.int 61)) (by decide +kernel)
        | 2, _ => exact hs (.eq (.elem (.field (.string "TenseLines$Text" 57) "java/lang/String" "value" "[B") (.int 2)) (.int 45)) (by decide +kernel)
        | 3, _ => exact hs (.eq (.elem (.field (.string "TenseLines$Text" 57) "java/lang/String" "value" "[B") (.int 3)) (.int 47)) (by decide +kernel)
        | j + 4, hj => exact absurd (show j + 4 < 4 from hj) (by omega)
      | 2, _ =>
        match j, hj with
        | 0, _ => exact hs (.eq (.elem (.field (.string "TenseLines$Text" 80) "java/lang/String" "value" "[B") (.int 0)) (.int 60)) (by decide +kernel)
        | 1, _ => exact hs (.eq (.elem (.field (.string "TenseLines$Text" 80) "java/lang/String" "value" "[B") (.int 1)) (.int 61)) (by decide +kernel)
        | j + 2, hj => exact absurd (show j + 2 < 2 from hj) (by omega)
      | i + 3, hi => exact absurd hi (by omega)
    · match i, j, hi, hj, hij with
      | 0, 0, _, _, hij => exact absurd rfl hij
      | 0, 1, _, _, _ => exact Or.inl (hs (.not (.eq (.string "TenseLines$Text" 75) (.string "TenseLines$Text" 57))) (by decide +kernel))
      | 0, 2, _, _, _ => exact Or.inl (hs (.not (.eq (.string "TenseLines$Text" 75) (.string "TenseLines$Text" 80))) (by decide +kernel))
      | 1, 0, _, _, _ => exact Or.inr (hs (.not (.eq (.string "TenseLines$Text" 75) (.string "TenseLines$Text" 57))) (by decide +kernel))
      | 1, 1, _, _, hij => exact absurd rfl hij
      | 1, 2, _, _, _ => exact Or.inl (hs (.not (.eq (.string "TenseLines$Text" 57) (.string "TenseLines$Text" 80))) (by decide +kernel))
      | 2, 0, _, _, _ => exact Or.inr (hs (.not (.eq (.string "TenseLines$Text" 75) (.string "TenseLines$Text" 80))) (by decide +kernel))
      | 2, 1, _, _, _ => exact Or.inr (hs (.not (.eq (.string "TenseLines$Text" 57) (.string "TenseLines$Text" 80))) (by decide +kernel))
      | 2, 2, _, _, hij => exact absurd rfl hij
      | i + 3, _, hi, _, _ => exact absurd hi (by omega)
      | _, j + 3, _, hj, _ => exact absurd hj (by omega)
  obtain ⟨⟨t1, ht1, -⟩, ⟨t2, ht2, -⟩, ⟨adK, adV, -, hK3⟩⟩ := key (fun a => s.heap.size ≤ a) (fun a h => Nat.not_le.mpr h)
  obtain ⟨-, -, ⟨adK, adV, hS0, hK3⟩⟩ := key (fun a => s.heap.size ≤ a) (fun a h => Nat.not_le.mpr h)
  refine ⟨(t1, t2), adK, adV, fun ad D cs hnew => ?_⟩
  have hA : ∀ a : Nat, a < s.heap.size → ¬ fw_A (ad, D, cs, (t1, t2), adK, adV) a := fun a ha h => by
    obtain ⟨k, hk, e⟩ := h
    have h2 := hnew k hk
    have h3 : a = ad k := e
    omega
  have hAi : ∀ q, fw_A (ad, D, cs, (t1, t2), adK, adV) q → s.heap.size ≤ q := fun q h => by
    obtain ⟨k, hk, e⟩ := h
    have h2 := hnew k hk
    have h3 : q = ad k := e
    omega
  obtain ⟨⟨t1', e1, hT1⟩, ⟨t2', e2, hT2⟩, -⟩ := key _ hA
  cases ht1.symm.trans e1
  cases ht2.symm.trans e2
  refine ⟨⟨va_Zof (hts (.laysStatic "TenseLines" "EVENT_TO_LOOK" "[I") (List.mem_of_getElem? (i := 644) (by decide +kernel))) (hts (.initialized "TenseLines") (List.mem_of_getElem? (i := 59) (by decide +kernel))) ht1 hA, hT1⟩, ⟨va_Zof (hts (.laysStatic "TenseLines" "LOOK_TO_NOW" "[I") (List.mem_of_getElem? (i := 649) (by decide +kernel))) (hts (.initialized "TenseLines") (List.mem_of_getElem? (i := 59) (by decide +kernel))) ht2 hA, hT2⟩, va_Zof (hts (.laysStatic "java/lang/String" "COMPACT_STRINGS" "Z") (List.mem_of_getElem? (i := 356) (by decide +kernel))) (hts (.initialized "java/lang/String") (List.mem_of_getElem? (i := 69) (by decide +kernel))) (va_eqi (hs (.eq (.static "java/lang/String" "COMPACT_STRINGS" "Z") (.int 1)) (by decide +kernel))) hA, hS0.narrow hAi, ⟨vk_R.of (hts (.stringRef "TenseLines$Text" 75 "dhwpvgfu") (List.mem_of_getElem? (i := 342) (by decide +kernel))) (hK3 0 (by decide)), vk_R.of (hts (.stringRef "TenseLines$Text" 57 "+=-/") (List.mem_of_getElem? (i := 429) (by decide +kernel))) (hK3 1 (by decide)), vk_R.of (hts (.stringRef "TenseLines$Text" 80 "<=") (List.mem_of_getElem? (i := 434) (by decide +kernel))) (hK3 2 (by decide))⟩, fun q hq => ?_, fun q hq => ?_⟩
  · simp only [fw_nm, List.mem_cons, List.not_mem_nil, or_false] at hq
    rcases hq with rfl | rfl | rfl | rfl | rfl | rfl | rfl | rfl
    · exact va_Nw.of rfl (hts _ (List.mem_of_getElem? (i := 326) (by decide +kernel)))
    · exact va_Nw.of rfl (hts _ (List.mem_of_getElem? (i := 640) (by decide +kernel)))
    · exact va_Nw.of rfl (hts _ (List.mem_of_getElem? (i := 642) (by decide +kernel)))
    · exact va_Nw.of rfl (hts _ (List.mem_of_getElem? (i := 645) (by decide +kernel)))
    · exact va_Nw.of rfl (hts _ (List.mem_of_getElem? (i := 688) (by decide +kernel)))
    · exact va_Nw.of rfl (hts _ (List.mem_of_getElem? (i := 753) (by decide +kernel)))
    · exact va_Nw.of rfl (hts _ (List.mem_of_getElem? (i := 759) (by decide +kernel)))
    · exact va_Nw.of rfl (hts _ (List.mem_of_getElem? (i := 846) (by decide +kernel)))
  · simp only [fw_nf, List.mem_cons, List.not_mem_nil, or_false] at hq
    rcases hq with rfl | rfl
    · exact va_Nw.of rfl (hts _ (List.mem_of_getElem? (i := 643) (by decide +kernel)))
    · exact va_Nw.of rfl (hts _ (List.mem_of_getElem? (i := 648) (by decide +kernel)))
theorem start_K {p : Program} {s : State} {m : MethodId} {meth : Method} {c : Code} {b L : Nat} {xs : Nat → Int32} (C0 : lw_At p s m meth c b L xs) : ∃ (D : va_G) (cs : ClassId × ClassId × ClassId), va_K D vwCl (tys3 cs) s := by
  obtain ⟨hx, hb, hr, hml, hown, hts, hX, hbl, hlocks, hgv⟩ := C0
  have htg : ∀ w ∈ lw_tg, w.before #[Value.ref b] s = true := fun w hw => hts w (List.mem_filter.mp hw).1
  obtain ⟨c0, i0, h0⟩ := u_known (C := RX0) (T := TX0) (N := 2) (n := 2) htg hin_X0 (hts (.instantiable RX0 2) (List.mem_of_getElem? (i := 145) (by decide +kernel)))
  obtain ⟨c1, i1, h1⟩ := u_known (C := RX1) (T := TX1) (N := 2) (n := 2) htg hin_X1 (hts (.instantiable RX1 2) (List.mem_of_getElem? (i := 178) (by decide +kernel)))
  obtain ⟨c2, i2, h2⟩ := u_known (C := RX2) (T := TX2) (N := 3) (n := 3) htg hin_X2 (hts (.instantiable RX2 3) (List.mem_of_getElem? (i := 127) (by decide +kernel)))
  obtain ⟨c3, i3, h3⟩ := u_known (C := RX3) (T := TX3) (N := 5) (n := 5) htg hin_X3 (hts (.instantiable RX3 5) (List.mem_of_getElem? (i := 191) (by decide +kernel)))
  obtain ⟨c4, i4, h4⟩ := u_known (C := RX4) (T := TX4) (N := 4) (n := 4) htg hin_X4 (hts (.instantiable RX4 4) (List.mem_of_getElem? (i := 159) (by decide +kernel)))
  obtain ⟨c5, i5, h5⟩ := u_known (C := RX5) (T := TX5) (N := 8) (n := 8) htg hin_X5 (hts (.instantiable RX5 8) (List.mem_of_getElem? (i := 216) (by decide +kernel)))
  obtain ⟨c6, i6, h6⟩ := u_known (C := RX6) (T := TX6) (N := 1) (n := 1) htg hin_X6 (hts (.instantiable RX6 1) (List.mem_of_getElem? (i := 85) (by decide +kernel)))
  obtain ⟨c7, i7, h7⟩ := u_known (C := RX7) (T := TX7) (N := 8) (n := 8) htg hin_X7 (hts (.instantiable RX7 8) (List.mem_of_getElem? (i := 96) (by decide +kernel)))
  obtain ⟨c8, i8, h8⟩ := u_known (C := RX8) (T := TX8) (N := 9) (n := 9) htg hin_X8 (hts (.instantiable RX8 9) (List.mem_of_getElem? (i := 77) (by decide +kernel)))
  obtain ⟨c9, i9, h9⟩ := u_known (C := RX9) (T := TX9) (N := 22) (n := 22) htg hin_X9 (hts (.instantiable RX9 22) (List.mem_of_getElem? (i := 857) (by decide +kernel)))
  obtain ⟨a0, k0, p0, f0, g0, e0⟩ := Cond.arrayClass_spec (hts (.arrayClass .int) (List.mem_of_getElem? (i := 94) (by decide +kernel)))
  obtain ⟨a1, k1, p1, f1, g1, e1⟩ := Cond.arrayClass_spec (hts (.arrayClass .boolean) (List.mem_of_getElem? (i := 929) (by decide +kernel)))
  obtain ⟨p2, a2, k2, f2, g2, e2, n2⟩ := Cond.arrayOver_specA (hts (.arrayOver (.array .int)) (List.mem_of_getElem? (i := 133) (by decide +kernel)))
  refine ⟨(fun k => ([c0, c1, c2, c3, c4, c5, c6, c7, c8, c9] : List ClassId).getD k c0, fun k => ([i0, i1, i2, i3, i4, i5, i6, i7, i8, i9] : List (Nat → Nat)).getD k i0), (a0, a1, a2), ?_, ?_⟩
  · intro k q hq
    match k, hq with
    | 0, hq => cases hq; exact h0
    | 1, hq => cases hq; exact h1
    | 2, hq => cases hq; exact h2
    | 3, hq => cases hq; exact h3
    | 4, hq => cases hq; exact h4
    | 5, hq => cases hq; exact h5
    | 6, hq => cases hq; exact h6
    | 7, hq => cases hq; exact h7
    | 8, hq => cases hq; exact h8
    | 9, hq => cases hq; exact h9
    | k + 10, hq => simp [vwCl] at hq
  · intro k q hq
    match k, hq with
    | 0, hq => cases hq; exact ⟨fun n z => ⟨fun k h => (by cases h), k0, g0, p0, e0⟩, f0⟩
    | 1, hq => cases hq; exact ⟨fun n z => ⟨fun k h => (by cases h), k1, g1, p1, e1⟩, f1⟩
    | 2, hq => cases hq; exact ⟨fun n z => ⟨fun k h => (by cases h), k2, g2, p2, e2⟩, n2⟩
    | k + 3, hq => simp [tys3] at hq
theorem v_59 : Cond.initialized RX8 ∈ lw_tg := tg 59 (by decide +kernel) (by decide +kernel)
theorem v_68 : Cond.initialized RX9 ∈ lw_tg := tg 68 (by decide +kernel) (by decide +kernel)
theorem v_76 : Cond.classLink RL 7 RX8 ∈ lw_tg := tg 76 (by decide +kernel) (by decide +kernel)
theorem v_77 : Cond.instantiable RX8 9 ∈ lw_tg := tg 77 (by decide +kernel) (by decide +kernel)
theorem v_78 : Cond.methodLink RL 9 yX8_init ∈ lw_tg := tg 78 (by decide +kernel) (by decide +kernel)
theorem v_79 : Cond.instanceMethod yX8_init ∈ lw_tg := tg 79 (by decide +kernel) (by decide +kernel)
theorem v_80 : Cond.code yX8_init cX8_init 1 none ∈ lw_tg := tg 80 (by decide +kernel) (by decide +kernel)
theorem v_856 : Cond.classLink RL 10 RX9 ∈ lw_tg := tg 856 (by decide +kernel) (by decide +kernel)
theorem v_857 : Cond.instantiable RX9 22 ∈ lw_tg := tg 857 (by decide +kernel) (by decide +kernel)
theorem v_858 : Cond.methodLink RL 12 yX9_init ∈ lw_tg := tg 858 (by decide +kernel) (by decide +kernel)
theorem v_859 : Cond.instanceMethod yX9_init ∈ lw_tg := tg 859 (by decide +kernel) (by decide +kernel)
theorem v_860 : Cond.code yX9_init cX9_init 1 none ∈ lw_tg := tg 860 (by decide +kernel) (by decide +kernel)
set_option maxRecDepth 100000 in
set_option maxHeartbeats 4000000 in
/-- THE LAW, from its entry, over an invariant that holds at the start and that the 24 steps keep -/
theorem whole_open {Inv : Mem → Prop} (hI0 : Inv G0) (hst : ∀ k, k < 24 → ∀ (G : Mem) (a b c : Int32), Inv G → ∃ (r : Int32) (G1 G2 : Mem), op8 k G a b c = some (r, G1) ∧ op9 k G1 a b c = some (r, G2) ∧ Inv G2)
    {p : Program} {e : Env} {s : State} {m : MethodId} {below : List Frame} {meth : Method} {c : Code} (l : Launch) {b L : Nat} {xs : Nat → Int32} (hL : L ≤ 2048) (C0 : lw_At p s m meth c b L xs) : W p l e room_1 s m #[Value.ref b] below meth c s.heap [] 0 0 (lw_Z below #[Value.ref b] s) (entryFrame m ([Value.ref b] : List Value).toArray 4) := by
  obtain ⟨tt, adK, adV, hSt⟩ := start_St C0
  obtain ⟨D, cs, hK⟩ := start_K C0
  obtain ⟨hx, hb, hr, hml, hown, hts, hX, hbl, hlocks, hgv⟩ := C0
  have htg : ∀ w ∈ lw_tg, w.before #[Value.ref b] s = true := fun w hw => hts w (List.mem_filter.mp hw).1
  have XC : ci_X p s m #[Value.ref b] meth c code 4 RL D cs (fun q => s.heap.size ≤ q) := ⟨⟨hx, hb, hml, hown, htg⟩, hK, fun _ h => h, hts (.arrayOver (.array .int)) (List.mem_of_getElem? (i := 133) (by decide +kernel))⟩
  have hl := lv_entry ([.ref b]) (n := 4) (Nat.le_of_ble_eq_true rfl)
  rw [lg_entry_eq]
  generalize (lg_sl ([.ref b]) ++ List.replicate (4 - (lg_sl ([.ref b])).length) Slot.unset).toArray = ls at hl ⊢
  have hP : va_P D vwCl [] s.heap := fun k q h => by simp at h
  have hD : va_D (fun q : Nat => s.heap.size ≤ q) [] := ⟨fun i j p q h => by simp at h, fun k q h => by simp at h⟩
  suffices hJ : JC p l e room_1 s m #[Value.ref b] below meth c (lw_Z below #[Value.ref b] s) D (fun q : Nat => s.heap.size ≤ q) 4 [] 0 0 0 [(0, .ref b)] [] from hJ s.heap [] ls hP hD va_S.rf hl
  refine jc_new (C := RX8) (T := TX8) (N := 9) (ci := 8) XC tyX8 tyX8_ok hin_X8 v_76 v_77 v_59 rfl [.null, .null, .null, .null, .null, .null, .null, .null, .null] (fun j hj => by match j, hj with | 0, _ => rfl | 1, _ => rfl | 2, _ => rfl | 3, _ => rfl | 4, _ => rfl | 5, _ => rfl | 6, _ => rfl | 7, _ => rfl | 8, _ => rfl | j + 9, hj => exact absurd hj (by omega)) (Nat.le_of_ble_eq_true rfl) (Nat.le_of_ble_eq_true rfl) dL_law_0 (fun q0 => ?_)
  refine jc_dup XC dL_law_3 rfl ?_
  refine jc_call XC [] (c_X8_init l D cs q0) rfl rfl pn_X8_init v_78 v_79 v_59 v_80 ⟨Nat.le_of_ble_eq_true rfl, Nat.le_of_ble_eq_true rfl⟩ ⟨Nat.le_of_ble_eq_true rfl, Nat.le_of_ble_eq_true rfl⟩ (Nat.le_of_ble_eq_true rfl) dL_law_4 (fun u8 => ?_)
  refine jc_astore_n XC [(1, .ref q0), (0, .ref b)] dL_law_7 rfl (by decide) rfl ?_
  refine jc_new (C := RX9) (T := TX9) (N := 22) (ci := 9) XC tyX9 tyX9_ok hin_X9 v_856 v_857 v_68 rfl [.int 0, .null, .null, .null, .int 0, .null, .null, .int 0, .null, .null, .null, .int 0, .null, .int 0, .int 0, .null, .null, .null, .null, .null, .null, .null] (fun j hj => by match j, hj with | 0, _ => rfl | 1, _ => rfl | 2, _ => rfl | 3, _ => rfl | 4, _ => rfl | 5, _ => rfl | 6, _ => rfl | 7, _ => rfl | 8, _ => rfl | 9, _ => rfl | 10, _ => rfl | 11, _ => rfl | 12, _ => rfl | 13, _ => rfl | 14, _ => rfl | 15, _ => rfl | 16, _ => rfl | 17, _ => rfl | 18, _ => rfl | 19, _ => rfl | 20, _ => rfl | 21, _ => rfl | j + 22, hj => exact absurd hj (by omega)) (Nat.le_of_ble_eq_true rfl) (Nat.le_of_ble_eq_true rfl) dL_law_8 (fun q1 => ?_)
  refine jc_dup XC dL_law_11 rfl ?_
  refine jc_call XC (wI_X8 cs q0 u8) (c_X9_init l D cs q1) rfl rfl pn_X9_init v_858 v_859 v_68 v_860 ⟨Nat.le_of_ble_eq_true rfl, Nat.le_of_ble_eq_true rfl⟩ ⟨Nat.le_of_ble_eq_true rfl, Nat.le_of_ble_eq_true rfl⟩ (Nat.le_of_ble_eq_true rfl) dL_law_12 (fun u9 => ?_)
  refine jc_astore_n XC [(2, .ref q1), (1, .ref q0), (0, .ref b)] dL_law_15 rfl (by decide) rfl ?_
  refine jc_iconst (v := 0) XC dL_law_16 (by decide) ?_
  refine jc_istore_n XC [(3, .int 0), (2, .ref q1), (1, .ref q0), (0, .ref b)] dL_law_17 rfl (by decide) rfl ?_
  intro H locs ls hP hD hS hl
  obtain ⟨hinj, hA2⟩ := start_J (tt := tt) (adK := adK) (adV := adV) (D := D) hD
  have hPw := start_P (tt := tt) (adK := adK) (adV := adV) hP
  refine va_forget (fun q hq => hS.2.2 q hq) ?_
  have hS2 : va_S (fw_A (ad_of q0 q1 u8 u9, D, cs, tt, adK, adV)) s.heap H [] := ⟨hS.1, fun q h1 _ => hS.2.1 q h1 (Nat.not_le.mpr h1), fun _ h => by cases h⟩
  exact law_loop hL (w := (ad_of q0 q1 u8 u9, D, cs, tt, adK, adV)) ⟨⟨hx, hb, hml, hown, htg⟩, hK, hinj, hSt _ _ _ hA2⟩ hr hlocks hX hbl hA2 hst (L + 4) 0 0 G0 (by omega) (by omega) rfl hI0 H [] ls hPw hS2 (lv_sub hl [3, 2, 1, 0] rfl)
