theorem rows_le {N : NET} {A : Nat → Bool} (hO : NetOK N) : (rowsOf N A).length ≤ 211 := sorry
