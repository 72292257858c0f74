/-! GIVING, in the reference -/
def spHold (g : GS) (r : Row) : GS := if (cL g.2 2).1 < 8 then (g.1, uL g.2 2 (lpush (cL g.2 2) r)) else if g.1 13 = nW 0 then (tot g.1 2, g.2) else (tot g.1 2, uL g.2 2 (lpush (ldel (cL g.2 2) 0) r))
def spGive0 (g : GS) (r : Row) : GS := if r.2 1 = nW 0 then (if cB g.2 0 = true then spSend g (mkPk r.1 (nW 0) (nW 0) (nW 0) (r.2 2) (r.2 3)) else (tot g.1 2, g.2)) else if (cL g.2 2).1 = 0 ∧ spMay g = true then spFly g r else spHold g r
def spGive (g : GS) (r : Row) : GS := spGive0 (tot g.1 1, g.2) r
def spSignR (g : GS) (kind id : Int32) : GS := spSend g (mkPk [] kind id (nW 0) (nW 0) (nW 0))
def spAgain (g : GS) (r : Row) : GS := if r.2 5 = nW 4 then spSignR g (nW 3) (r.2 4) else spSend g (mkPk r.1 (nW 0) (r.2 4) (r.2 1) (r.2 2) (r.2 3 + nW 1))
def spResend (g : GS) (i : Nat) : GS := ((spAgain (tot g.1 4, g.2) ((cL g.2 1).2 i)).1, uL (spAgain (tot g.1 4, g.2) ((cL g.2 1).2 i)).2 1 (lset (cL g.2 1) i (setSent ((cL g.2 1).2 i) (g.1 14))))
