/-- the law's predicate holds of every script (open) -/
theorem pure_law {xs : Nat → Int32} {L : Nat} (hL : L ≤ 2048) (q1 q2 : Nat) : p_X6_clear mInit (fun M => p_law_23 xs L (cInit q1 q2) (fun _ => 0) M 0 43 121935) := sorry
