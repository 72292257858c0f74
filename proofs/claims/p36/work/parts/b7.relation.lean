/-! HOW FILTERS ARE RELATED, in the reference -/
theorem lit_m2 : (-2 : Int64) = rc [35] := by decide
theorem okL0_35 : okL0 [35] := Or.inr (Or.inr (Or.inr rfl))
theorem okL0_43 : okL0 [43] := Or.inr (Or.inr (Or.inl rfl))
theorem m1_rc {x : Txt} (h : okTx x) (d : Nat) : (lcmpE (rc (lvA x d)) (-1 : Int64) = nW 0) = (lvA x d = [43]) := by
  rw [lcmp0, rc_eqm1 (okL0_lvA h d)]
