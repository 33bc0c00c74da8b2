noncomputable def A_shown (N : NET) (m c : Int32) : Int32 := 0
theorem c_shown {B n : Nat} {I : Nat → Nat → Int32} {L : Nat → Nat → Int64} {Q : Nat → Nat → Option Nat} {R : Nat → RDt} {s : STT} (h : IsC B n I L Q R s) (m c : Int32) : RunC B I L (fX9_shown B m c (MK B n I L Q R)) (A_shown (stN s) m c, s) := by
  sorry
theorem d_shown {B n : Nat} {I : Nat → Nat → Int32} {L : Nat → Nat → Int64} {Q : Nat → Nat → Option Nat} {R : Nat → RDt} {s : STT} (h : IsM I L s) (hs : OkS s) (m c : Int32) : RunM B n I L Q R (fX10_shown (B + 108) m c (MK B n I L Q R)) (A_shown (stN s) m c, s) := by
  sorry
