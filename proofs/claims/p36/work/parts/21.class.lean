/-! LIFTED: class: each method as a function over the memory, by program out of its bytecode -/
def f_X1_init (l0 : Nat) (l1 : Nat) (M : Mem) : Option Mem :=
  (pR 1 0 l0 l1 M).bind (fun M1 => some M1)
def f_X3_init (l0 : Nat) (l1 : Nat) (M : Mem) : Option Mem :=
  (pR 3 5 l0 l1 M).bind (fun M1 => some M1)
def f_X4_init_L15 : Nat → Nat → Nat → Int32 → Mem → Option Mem
  | 0, _, _, _, _ => none
  | n + 1, l0, l1, l2, M => if (30 : Int32) ≤ l2 then some M else (gR 4 0 l0 M).bind (fun v1 => bindP (nO 3 6 M) (fun v2 M3 => (f_X3_init v2 l1 M3).bind (fun M4 => (wR 20 3 v1 l2 v2 M4).bind (fun M5 => f_X4_init_L15 n l0 l1 (l2 + 1) M5))))
def f_X4_init (l0 : Nat) (l1 : Nat) (M : Mem) : Option Mem :=
  bindP (nA 20 (30 : Int32) M) (fun v1 M2 => (pR 4 0 l0 v1 M2).bind (fun M3 => f_X4_init_L15 FU l0 l1 (0 : Int32) M3))
def f_X8_init (l0 : Nat) (l1 : Nat) (M : Mem) : Option Mem :=
  (pR 8 0 l0 l1 M).bind (fun M1 => some M1)
def f_X2_init_L18 : Nat → Nat → Nat → Int32 → Mem → Option Mem
  | 0, _, _, _, _ => none
  | n + 1, l0, l2, l3, M => (gR 2 0 l0 M).bind (fun v1 => (aN v1 M).bind (fun v2 => if v2 ≤ l3 then some M else (gR 2 0 l0 M).bind (fun v3 => bindP (nO 1 7 M) (fun v4 M5 => (f_X1_init v4 l2 M5).bind (fun M6 => (wR 19 1 v3 l3 v4 M6).bind (fun M7 => f_X2_init_L18 n l0 l2 (l3 + 1) M7))))))
def f_X2_init (l0 : Nat) (l1 : Int32) (l2 : Nat) (M : Mem) : Option Mem :=
  bindP (nA 19 (imaxE (1 : Int32) l1) M) (fun v1 M2 => (pR 2 0 l0 v1 M2).bind (fun M3 => f_X2_init_L18 FU l0 l2 (0 : Int32) M3))
def f_X5_init_L23 : Nat → Nat → Nat → Int32 → Mem → Option Mem
  | 0, _, _, _, _ => none
  | n + 1, l0, l1, l2, M => if (6 : Int32) ≤ l2 then bindP (nO 2 2 M) (fun v1 M2 => (f_X2_init v1 (5 : Int32) l1 M2).bind (fun M3 => (pR 5 8 l0 v1 M3).bind (fun M4 => bindP (nO 2 2 M4) (fun v5 M6 => (f_X2_init v5 (8 : Int32) l1 M6).bind (fun M7 => (pR 5 9 l0 v5 M7).bind (fun M8 => some M8)))))) else (gR 5 6 l0 M).bind (fun v1 => bindP (nO 8 4 M) (fun v2 M3 => (f_X8_init v2 l1 M3).bind (fun M4 => (wR 22 8 v1 l2 v2 M4).bind (fun M5 => f_X5_init_L23 n l0 l1 (l2 + 1) M5))))
def f_X5_init (l0 : Nat) (l1 : Nat) (M : Mem) : Option Mem :=
  bindP (nA 17 (51 : Int32) M) (fun v1 M2 => (pR 5 4 l0 v1 M2).bind (fun M3 => bindP (nA 22 (6 : Int32) M3) (fun v4 M5 => (pR 5 6 l0 v4 M5).bind (fun M6 => f_X5_init_L23 FU l0 l1 (0 : Int32) M6))))
def f_X0_init (l0 : Nat) (l1 : Nat) (M : Mem) : Option Mem :=
  bindP (nO 1 7 M) (fun v1 M2 => (f_X1_init v1 l1 M2).bind (fun M3 => (pR 0 3 l0 v1 M3).bind (fun M4 => bindP (nO 4 3 M4) (fun v5 M6 => (f_X4_init v5 l1 M6).bind (fun M7 => (pR 0 4 l0 v5 M7).bind (fun M8 => bindP (nO 5 10 M8) (fun v9 M10 => (f_X5_init v9 l1 M10).bind (fun M11 => (pR 0 5 l0 v9 M11).bind (fun M12 => some M12)))))))))
def f_X1_copyFrom (l0 : Nat) (l1 : Nat) (M : Mem) : Option Mem :=
  if (mK M l0).1 = 1 then (gR 1 0 l1 M).bind (fun v1 => (pR 1 0 l0 v1 M).bind (fun M2 => (gI 1 1 l1 M2).bind (fun v3 => (pI 1 1 l0 v3 M2).bind (fun M4 => (gI 1 2 l1 M4).bind (fun v5 => (pI 1 2 l0 v5 M4).bind (fun M6 => (gI 1 3 l1 M6).bind (fun v7 => (pI 1 3 l0 v7 M6).bind (fun M8 => (gI 1 4 l1 M8).bind (fun v9 => (pI 1 4 l0 v9 M8).bind (fun M10 => (gI 1 5 l1 M10).bind (fun v11 => (pI 1 5 l0 v11 M10).bind (fun M12 => (gI 1 6 l1 M12).bind (fun v13 => (pI 1 6 l0 v13 M12).bind (fun M14 => some M14)))))))))))))) else none
def f_X3_copyFrom (l0 : Nat) (l1 : Nat) (M : Mem) : Option Mem :=
  if (mK M l0).1 = 3 then (gI 3 0 l1 M).bind (fun v1 => (pI 3 0 l0 v1 M).bind (fun M2 => (gI 3 1 l1 M2).bind (fun v3 => (pI 3 1 l0 v3 M2).bind (fun M4 => (gI 3 2 l1 M4).bind (fun v5 => (pI 3 2 l0 v5 M4).bind (fun M6 => (gI 3 3 l1 M6).bind (fun v7 => (pI 3 3 l0 v7 M6).bind (fun M8 => (gI 3 4 l1 M8).bind (fun v9 => (pI 3 4 l0 v9 M8).bind (fun M10 => (gR 3 5 l1 M10).bind (fun v11 => (pR 3 5 l0 v11 M10).bind (fun M12 => some M12)))))))))))) else none
def f_X4_copyFrom_L15 : Nat → Nat → Nat → Int32 → Mem → Option Mem
  | 0, _, _, _, _ => none
  | n + 1, l0, l1, l2, M => (gI 4 2 l0 M).bind (fun v1 => if v1 ≤ l2 then some M else if (30 : Int32) ≤ l2 then some M else (gR 4 0 l0 M).bind (fun v2 => (aR 20 v2 l2 M).bind (fun v3 => (gR 4 0 l1 M).bind (fun v4 => (gI 4 1 l1 M).bind (fun v5 => (aR 20 v4 (iremE (v5 + l2) (30 : Int32)) M).bind (fun v6 => (f_X3_copyFrom v3 v6 M).bind (fun M7 => f_X4_copyFrom_L15 n l0 l1 (l2 + 1) M7)))))))
def f_X4_copyFrom (l0 : Nat) (l1 : Nat) (M : Mem) : Option Mem :=
  if (mK M l0).1 = 4 then (pI 4 1 l0 (0 : Int32) M).bind (fun M1 => (gI 4 2 l1 M1).bind (fun v2 => (pI 4 2 l0 v2 M1).bind (fun M3 => f_X4_copyFrom_L15 FU l0 l1 (0 : Int32) M3))) else none
def f_X8_copyFrom (l0 : Nat) (l1 : Nat) (M : Mem) : Option Mem :=
  if (mK M l0).1 = 8 then (gR 8 0 l1 M).bind (fun v1 => (pR 8 0 l0 v1 M).bind (fun M2 => (gI 8 1 l1 M2).bind (fun v3 => (pI 8 1 l0 v3 M2).bind (fun M4 => (gI 8 2 l1 M4).bind (fun v5 => (pI 8 2 l0 v5 M4).bind (fun M6 => (gI 8 3 l1 M6).bind (fun v7 => (pI 8 3 l0 v7 M6).bind (fun M8 => some M8)))))))) else none
def f_X2_copyFrom_L10 : Nat → Nat → Nat → Int32 → Mem → Option Mem
  | 0, _, _, _, _ => none
  | n + 1, l0, l1, l2, M => (gI 2 1 l0 M).bind (fun v1 => if v1 ≤ l2 then some M else (gR 2 0 l0 M).bind (fun v2 => (aN v2 M).bind (fun v3 => if v3 ≤ l2 then some M else (gR 2 0 l1 M).bind (fun v4 => (aN v4 M).bind (fun v5 => if v5 ≤ l2 then some M else (gR 2 0 l0 M).bind (fun v6 => (aR 19 v6 l2 M).bind (fun v7 => (gR 2 0 l1 M).bind (fun v8 => (aR 19 v8 l2 M).bind (fun v9 => (f_X1_copyFrom v7 v9 M).bind (fun M10 => f_X2_copyFrom_L10 n l0 l1 (l2 + 1) M10))))))))))
def f_X2_copyFrom (l0 : Nat) (l1 : Nat) (M : Mem) : Option Mem :=
  if (mK M l0).1 = 2 then (gI 2 1 l1 M).bind (fun v1 => (pI 2 1 l0 v1 M).bind (fun M2 => f_X2_copyFrom_L10 FU l0 l1 (0 : Int32) M2)) else none
def f_X5_copyFrom_J114 (l0 : Nat) (l1 : Nat) (M : Mem) : Option Mem :=
  (gR 5 8 l0 M).bind (fun v1 => (gR 5 8 l1 M).bind (fun v2 => (f_X2_copyFrom v1 v2 M).bind (fun M3 => (gR 5 9 l0 M3).bind (fun v4 => (gR 5 9 l1 M3).bind (fun v5 => (f_X2_copyFrom v4 v5 M3).bind (fun M6 => some M6))))))
def f_X5_copyFrom_L79 : Nat → Nat → Nat → Int32 → Mem → Option Mem
  | 0, _, _, _, _ => none
  | n + 1, l0, l1, l2, M => (gI 5 7 l0 M).bind (fun v1 => if v1 ≤ l2 then f_X5_copyFrom_J114 l0 l1 M else if (6 : Int32) ≤ l2 then f_X5_copyFrom_J114 l0 l1 M else (gR 5 6 l0 M).bind (fun v2 => (aR 22 v2 l2 M).bind (fun v3 => (gR 5 6 l1 M).bind (fun v4 => (aR 22 v4 l2 M).bind (fun v5 => (f_X8_copyFrom v3 v5 M).bind (fun M6 => f_X5_copyFrom_L79 n l0 l1 (l2 + 1) M6))))))
def f_X5_copyFrom_L34 : Nat → Nat → Nat → Int32 → Mem → Option Mem
  | 0, _, _, _, _ => none
  | n + 1, l0, l1, l2, M => (gR 5 4 l0 M).bind (fun v1 => (aN v1 M).bind (fun v2 => if v2 ≤ l2 then (gI 5 5 l1 M).bind (fun v3 => (pI 5 5 l0 v3 M).bind (fun M4 => (gI 5 7 l1 M4).bind (fun v5 => (pI 5 7 l0 v5 M4).bind (fun M6 => f_X5_copyFrom_L79 FU l0 l1 (0 : Int32) M6)))) else (gR 5 4 l0 M).bind (fun v3 => (gR 5 4 l1 M).bind (fun v4 => (aI 17 v4 l2 M).bind (fun v5 => (wI 17 v3 l2 v5 M).bind (fun M6 => f_X5_copyFrom_L34 n l0 l1 (l2 + 1) M6))))))
def f_X5_copyFrom (l0 : Nat) (l1 : Nat) (M : Mem) : Option Mem :=
  if (mK M l0).1 = 5 then (gI 5 0 l1 M).bind (fun v1 => (pZ 5 0 l0 v1 M).bind (fun M2 => (gI 5 1 l1 M2).bind (fun v3 => (pZ 5 1 l0 v3 M2).bind (fun M4 => (gI 5 2 l1 M4).bind (fun v5 => (pI 5 2 l0 v5 M4).bind (fun M6 => (gI 5 3 l1 M6).bind (fun v7 => (pI 5 3 l0 v7 M6).bind (fun M8 => f_X5_copyFrom_L34 FU l0 l1 (0 : Int32) M8)))))))) else none
def f_X0_copyFrom (l0 : Nat) (l1 : Nat) (M : Mem) : Option Mem :=
  if (mK M l0).1 = 0 then (gI 0 0 l1 M).bind (fun v1 => (pZ 0 0 l0 v1 M).bind (fun M2 => (gI 0 1 l1 M2).bind (fun v3 => (pZ 0 1 l0 v3 M2).bind (fun M4 => (gI 0 2 l1 M4).bind (fun v5 => (pZ 0 2 l0 v5 M4).bind (fun M6 => (gR 0 3 l0 M6).bind (fun v7 => (gR 0 3 l1 M6).bind (fun v8 => (f_X1_copyFrom v7 v8 M6).bind (fun M9 => (gR 0 4 l0 M9).bind (fun v10 => (gR 0 4 l1 M9).bind (fun v11 => (f_X4_copyFrom v10 v11 M9).bind (fun M12 => (gR 0 5 l0 M12).bind (fun v13 => (gR 0 5 l1 M12).bind (fun v14 => (f_X5_copyFrom v13 v14 M12).bind (fun M15 => (gF 0 6 l1 M15).bind (fun v16 => (pF 0 6 l0 v16 M15).bind (fun M17 => (gI 0 7 l1 M17).bind (fun v18 => (pI 0 7 l0 v18 M17).bind (fun M19 => some M19))))))))))))))))))) else none
def f_X1_fill (l0 : Nat) (l1 : Nat) (l2 : Int32) (l3 : Int32) (M : Mem) : Option Mem :=
  if (mK M l0).1 = 1 then (pR 1 0 l0 l1 M).bind (fun M1 => (pI 1 1 l0 l2 M1).bind (fun M2 => (pI 1 2 l0 l3 M2).bind (fun M3 => (pI 1 3 l0 (0 : Int32) M3).bind (fun M4 => (pI 1 4 l0 (0 : Int32) M4).bind (fun M5 => (pI 1 5 l0 (0 : Int32) M5).bind (fun M6 => (pI 1 6 l0 (0 : Int32) M6).bind (fun M7 => some M7))))))) else none
def f_X2_add (l0 : Nat) (l1 : Nat) (M : Mem) : Option Mem :=
  if (mK M l0).1 = 2 then (gI 2 1 l0 M).bind (fun v1 => if v1 < 0 then some M else (gI 2 1 l0 M).bind (fun v2 => (gR 2 0 l0 M).bind (fun v3 => (aN v3 M).bind (fun v4 => if v4 ≤ v2 then some M else (gR 2 0 l0 M).bind (fun v5 => (gI 2 1 l0 M).bind (fun v6 => (aR 19 v5 v6 M).bind (fun v7 => (f_X1_copyFrom v7 l1 M).bind (fun M8 => (gI 2 1 l0 M8).bind (fun v9 => (pI 2 1 l0 (v9 + (1 : Int32)) M8).bind (fun M10 => some M10)))))))))) else none
def f_X2_removeAt_L34 : Nat → Nat → Nat → Int32 → Mem → Option Mem
  | 0, _, _, _, _ => none
  | n + 1, l0, l2, l3, M => (gI 2 1 l0 M).bind (fun v1 => if v1 ≤ (l3 + (1 : Int32)) then (gR 2 0 l0 M).bind (fun v2 => (gI 2 1 l0 M).bind (fun v3 => (wR 19 1 v2 (v3 - (1 : Int32)) l2 M).bind (fun M4 => (gI 2 1 l0 M4).bind (fun v5 => (pI 2 1 l0 (v5 - (1 : Int32)) M4).bind (fun M6 => some M6))))) else (gR 2 0 l0 M).bind (fun v2 => (gR 2 0 l0 M).bind (fun v3 => (aR 19 v3 (l3 + (1 : Int32)) M).bind (fun v4 => (wR 19 1 v2 l3 v4 M).bind (fun M5 => f_X2_removeAt_L34 n l0 l2 (l3 + 1) M5)))))
def f_X2_removeAt (l0 : Nat) (l1 : Int32) (M : Mem) : Option Mem :=
  if (mK M l0).1 = 2 then if l1 < 0 then some M else (gI 2 1 l0 M).bind (fun v1 => if v1 ≤ l1 then some M else (gI 2 1 l0 M).bind (fun v2 => (gR 2 0 l0 M).bind (fun v3 => (aN v3 M).bind (fun v4 => if v2 ≤ v4 then (gR 2 0 l0 M).bind (fun v5 => (aR 19 v5 l1 M).bind (fun v6 => f_X2_removeAt_L34 FU l0 v6 l1 M)) else some M)))) else none
def f_X2_placeOf_L2 : Nat → Nat → Int32 → Int32 → Mem → Option (Int32 × Mem)
  | 0, _, _, _, _ => none
  | n + 1, l0, l1, l2, M => (gI 2 1 l0 M).bind (fun v1 => if v1 ≤ l2 then some ((-1 : Int32), M) else (gR 2 0 l0 M).bind (fun v2 => (aN v2 M).bind (fun v3 => if v3 ≤ l2 then some ((-1 : Int32), M) else (gR 2 0 l0 M).bind (fun v4 => (aR 19 v4 l2 M).bind (fun v5 => (gI 1 4 v5 M).bind (fun v6 => if v6 = l1 then some (l2, M) else f_X2_placeOf_L2 n l0 l1 (l2 + 1) M))))))
def f_X2_placeOf (l0 : Nat) (l1 : Int32) (M : Mem) : Option (Int32 × Mem) :=
  if (mK M l0).1 = 2 then f_X2_placeOf_L2 FU l0 l1 (0 : Int32) M else none
def f_X4_head (l0 : Nat) (M : Mem) : Option (Nat × Mem) :=
  if (mK M l0).1 = 4 then (gR 4 0 l0 M).bind (fun v1 => (gI 4 1 l0 M).bind (fun v2 => (aR 20 v1 v2 M).bind (fun v3 => some (v3, M)))) else none
def f_X4_extend_J19 (l0 : Nat) (M : Mem) : Option (Nat × Mem) :=
  (gR 4 0 l0 M).bind (fun v1 => (gI 4 1 l0 M).bind (fun v2 => (gI 4 2 l0 M).bind (fun v3 => (aR 20 v1 (iremE ((v2 + v3) - (1 : Int32)) (30 : Int32)) M).bind (fun v4 => some (v4, M)))))
def f_X4_extend (l0 : Nat) (M : Mem) : Option (Nat × Mem) :=
  if (mK M l0).1 = 4 then (gI 4 2 l0 M).bind (fun v1 => if (30 : Int32) ≤ v1 then f_X4_extend_J19 l0 M else (gI 4 2 l0 M).bind (fun v2 => (pI 4 2 l0 (v2 + (1 : Int32)) M).bind (fun M3 => f_X4_extend_J19 l0 M3))) else none
def f_X4_dropFirst (l0 : Nat) (M : Mem) : Option Mem :=
  if (mK M l0).1 = 4 then (gI 4 2 l0 M).bind (fun v1 => if v1 ≤ 0 then some M else (gI 4 1 l0 M).bind (fun v2 => (pI 4 1 l0 (iremE (v2 + (1 : Int32)) (30 : Int32)) M).bind (fun M3 => (gI 4 2 l0 M3).bind (fun v4 => (pI 4 2 l0 (v4 - (1 : Int32)) M3).bind (fun M5 => some M5))))) else none
def f_X4_clear (l0 : Nat) (M : Mem) : Option Mem :=
  if (mK M l0).1 = 4 then (pI 4 1 l0 (0 : Int32) M).bind (fun M1 => (pI 4 2 l0 (0 : Int32) M1).bind (fun M2 => some M2)) else none
def f_X5_clear_L22 : Nat → Nat → Int32 → Mem → Option Mem
  | 0, _, _, _ => none
  | n + 1, l0, l1, M => (gR 5 4 l0 M).bind (fun v1 => (aN v1 M).bind (fun v2 => if v2 ≤ l1 then (pI 5 5 l0 (0 : Int32) M).bind (fun M3 => (pI 5 7 l0 (0 : Int32) M3).bind (fun M4 => (gR 5 8 l0 M4).bind (fun v5 => (pI 2 1 v5 (0 : Int32) M4).bind (fun M6 => (gR 5 9 l0 M6).bind (fun v7 => (pI 2 1 v7 (0 : Int32) M6).bind (fun M8 => some M8)))))) else (gR 5 4 l0 M).bind (fun v3 => (wI 17 v3 l1 (0 : Int32) M).bind (fun M4 => f_X5_clear_L22 n l0 (l1 + 1) M4))))
def f_X5_clear (l0 : Nat) (M : Mem) : Option Mem :=
  if (mK M l0).1 = 5 then (pZ 5 0 l0 (0 : Int32) M).bind (fun M1 => (pZ 5 1 l0 (0 : Int32) M1).bind (fun M2 => (pI 5 2 l0 (0 : Int32) M2).bind (fun M3 => (pI 5 3 l0 (1 : Int32) M3).bind (fun M4 => f_X5_clear_L22 FU l0 (0 : Int32) M4)))) else none
def f_X5_begin (l0 : Nat) (l1 : Int32) (M : Mem) : Option Mem :=
  if (mK M l0).1 = 5 then (f_X5_clear l0 M).bind (fun M1 => (pZ 5 0 l0 (1 : Int32) M1).bind (fun M2 => (pZ 5 1 l0 l1 M2).bind (fun M3 => some M3))) else none
def f_X5_keeps (l0 : Nat) (l1 : Int32) (M : Mem) : Option (Int32 × Mem) :=
  if (mK M l0).1 = 5 then if l1 < 0 then okZ (0 : Int32) M else (gR 5 4 l0 M).bind (fun v1 => (aN v1 M).bind (fun v2 => if v2 ≤ l1 then okZ (0 : Int32) M else (gR 5 4 l0 M).bind (fun v3 => (aI 17 v3 l1 M).bind (fun v4 => if v4 = 0 then okZ (0 : Int32) M else okZ (1 : Int32) M)))) else none
def f_X5_keep (l0 : Nat) (l1 : Int32) (M : Mem) : Option Mem :=
  if (mK M l0).1 = 5 then if l1 < 0 then some M else (gR 5 4 l0 M).bind (fun v1 => (aN v1 M).bind (fun v2 => if v2 ≤ l1 then some M else (gR 5 4 l0 M).bind (fun v3 => (aI 17 v3 l1 M).bind (fun v4 => if v4 = 0 then (gR 5 4 l0 M).bind (fun v5 => (wI 17 v5 l1 (1 : Int32) M).bind (fun M6 => (gI 5 5 l0 M6).bind (fun v7 => (pI 5 5 l0 (v7 + (1 : Int32)) M6).bind (fun M8 => some M8)))) else some M)))) else none
def f_X5_forget (l0 : Nat) (l1 : Int32) (M : Mem) : Option Mem :=
  if (mK M l0).1 = 5 then bindP (f_X5_keeps l0 l1 M) (fun v2 M1 => if v2 = 0 then some M1 else (gR 5 4 l0 M1).bind (fun v3 => (wI 17 v3 l1 (0 : Int32) M1).bind (fun M4 => (gI 5 5 l0 M4).bind (fun v5 => (pI 5 5 l0 (v5 - (1 : Int32)) M4).bind (fun M6 => some M6))))) else none
def f_X10_sameAs_L2 : Nat → Nat → Nat → Int32 → Mem → Option (Int32 × Mem)
  | 0, _, _, _, _ => none
  | n + 1, l0, l1, l2, M => if (4 : Int32) ≤ l2 then okZ (1 : Int32) M else (gR 10 1 l0 M).bind (fun v1 => (aL v1 l2 M).bind (fun v2 => (gR 10 1 l1 M).bind (fun v3 => (aL v3 l2 M).bind (fun v4 => if (lcmpE v2 v4) = 0 then f_X10_sameAs_L2 n l0 l1 (l2 + 1) M else okZ (0 : Int32) M))))
def f_X10_sameAs (l0 : Nat) (l1 : Nat) (M : Mem) : Option (Int32 × Mem) :=
  if (mK M l0).1 = 10 then f_X10_sameAs_L2 FU l0 l1 (0 : Int32) M else none
def f_X5_placeOf_L2 : Nat → Nat → Nat → Int32 → Int32 → Mem → Option (Int32 × Mem)
  | 0, _, _, _, _, _ => none
  | n + 1, l0, l1, l2, l3, M => (gI 5 7 l0 M).bind (fun v1 => if v1 ≤ l3 then some ((-1 : Int32), M) else if (6 : Int32) ≤ l3 then some ((-1 : Int32), M) else (gR 5 6 l0 M).bind (fun v2 => (aR 22 v2 l3 M).bind (fun v3 => (gI 8 1 v3 M).bind (fun v4 => if v4 = l2 then (gR 5 6 l0 M).bind (fun v5 => (aR 22 v5 l3 M).bind (fun v6 => (gR 8 0 v6 M).bind (fun v7 => bindP (f_X10_sameAs v7 l1 M) (fun v9 M8 => if v9 = 0 then f_X5_placeOf_L2 n l0 l1 l2 (l3 + 1) M8 else some (l3, M8))))) else f_X5_placeOf_L2 n l0 l1 l2 (l3 + 1) M))))
def f_X5_placeOf (l0 : Nat) (l1 : Nat) (l2 : Int32) (M : Mem) : Option (Int32 × Mem) :=
  if (mK M l0).1 = 5 then f_X5_placeOf_L2 FU l0 l1 l2 (0 : Int32) M else none
def f_X5_gradeOf (l0 : Nat) (l1 : Nat) (l2 : Int32) (M : Mem) : Option (Int32 × Mem) :=
  if (mK M l0).1 = 5 then bindP (f_X5_placeOf l0 l1 l2 M) (fun v2 M1 => if 0 ≤ v2 then (gR 5 6 l0 M1).bind (fun v3 => (aR 22 v3 v2 M1).bind (fun v4 => (gI 8 2 v4 M1).bind (fun v5 => some (v5, M1)))) else some ((0 : Int32), M1)) else none
def f_X5_addSubscription (l0 : Nat) (l1 : Nat) (l2 : Int32) (M : Mem) : Option Mem :=
  if (mK M l0).1 = 5 then (gI 5 7 l0 M).bind (fun v1 => if v1 < 0 then some M else (gI 5 7 l0 M).bind (fun v2 => if (6 : Int32) ≤ v2 then some M else (gR 5 6 l0 M).bind (fun v3 => (gI 5 7 l0 M).bind (fun v4 => (aR 22 v3 v4 M).bind (fun v5 => (pR 8 0 v5 l1 M).bind (fun M6 => (pI 8 1 v5 l2 M6).bind (fun M7 => (pI 8 2 v5 (0 : Int32) M7).bind (fun M8 => (pI 8 3 v5 (0 : Int32) M8).bind (fun M9 => (gI 5 7 l0 M9).bind (fun v10 => (pI 5 7 l0 (v10 + (1 : Int32)) M9).bind (fun M11 => some M11))))))))))) else none
def f_X5_removeSubscriptionAt_L31 : Nat → Nat → Nat → Int32 → Mem → Option Mem
  | 0, _, _, _, _ => none
  | n + 1, l0, l2, l3, M => (gI 5 7 l0 M).bind (fun v1 => if v1 ≤ (l3 + (1 : Int32)) then (gR 5 6 l0 M).bind (fun v2 => (gI 5 7 l0 M).bind (fun v3 => (wR 22 8 v2 (v3 - (1 : Int32)) l2 M).bind (fun M4 => (gI 5 7 l0 M4).bind (fun v5 => (pI 5 7 l0 (v5 - (1 : Int32)) M4).bind (fun M6 => some M6))))) else (gR 5 6 l0 M).bind (fun v2 => (gR 5 6 l0 M).bind (fun v3 => (aR 22 v3 (l3 + (1 : Int32)) M).bind (fun v4 => (wR 22 8 v2 l3 v4 M).bind (fun M5 => f_X5_removeSubscriptionAt_L31 n l0 l2 (l3 + 1) M5)))))
def f_X5_removeSubscriptionAt (l0 : Nat) (l1 : Int32) (M : Mem) : Option Mem :=
  if (mK M l0).1 = 5 then if l1 < 0 then some M else (gI 5 7 l0 M).bind (fun v1 => if v1 ≤ l1 then some M else (gI 5 7 l0 M).bind (fun v2 => if v2 ≤ (6 : Int32) then (gR 5 6 l0 M).bind (fun v3 => (aR 22 v3 l1 M).bind (fun v4 => f_X5_removeSubscriptionAt_L31 FU l0 v4 l1 M)) else some M)) else none
def f_X10_fits (l0 : Nat) (l1 : Int32) (M : Mem) : Option (Int32 × Mem) :=
  if (mK M l0).1 = 10 then (gI 10 3 l0 M).bind (fun v1 => if v1 = 0 then (gI 10 4 l0 M).bind (fun v2 => if l1 = v2 then okZ (1 : Int32) M else okZ (0 : Int32) M) else (gI 10 4 l0 M).bind (fun v2 => if l1 < v2 then okZ (0 : Int32) M else okZ (1 : Int32) M)) else none
def f_X10_levelAt (l0 : Nat) (l1 : Int32) (M : Mem) : Option (Int64 × Mem) :=
  if (mK M l0).1 = 10 then if l1 < 0 then some ((43 : Int64), M) else (gI 10 4 l0 M).bind (fun v1 => if v1 ≤ l1 then some ((43 : Int64), M) else if (4 : Int32) ≤ l1 then some ((43 : Int64), M) else (gR 10 1 l0 M).bind (fun v2 => (aL v2 l1 M).bind (fun v3 => some (v3, M)))) else none
def f_X10_coversWith_L12 : Nat → Nat → Nat → Int32 → Int32 → Mem → Option (Int32 × Mem)
  | 0, _, _, _, _, _ => none
  | n + 1, l0, l1, l2, l3, M => if l2 ≤ l3 then okZ (1 : Int32) M else bindP (f_X10_levelAt l0 l3 M) (fun v2 M1 => if (lcmpE v2 (43 : Int64)) = 0 then f_X10_coversWith_L12 n l0 l1 l2 (l3 + 1) M1 else bindP (f_X10_levelAt l1 l3 M1) (fun v4 M3 => if (lcmpE v2 v4) = 0 then f_X10_coversWith_L12 n l0 l1 l2 (l3 + 1) M3 else okZ (0 : Int32) M3))
def f_X10_coversWith (l0 : Nat) (l1 : Nat) (l2 : Int32) (M : Mem) : Option (Int32 × Mem) :=
  if (mK M l0).1 = 10 then bindP (f_X10_fits l0 l2 M) (fun v2 M1 => if v2 = 0 then okZ (0 : Int32) M1 else f_X10_coversWith_L12 FU l0 l1 l2 (0 : Int32) M1) else none
def f_X10_matches (l0 : Nat) (l1 : Nat) (M : Mem) : Option (Int32 × Mem) :=
  if (mK M l0).1 = 10 then (gI 10 2 l1 M).bind (fun v1 => bindP (f_X10_coversWith l0 l1 v1 M) (fun v3 M2 => okZ v3 M2)) else none
def f_X5_greatestGrade_J49 (k5 : Nat → Nat → Int32 → Int32 → Int32 → Mem → Option (Int32 × Mem)) (l0 : Nat) (l1 : Nat) (l2 : Int32) (l3 : Int32) (l4 : Int32) (l5 : Nat) (s0 : Int32) (M : Mem) : Option (Int32 × Mem) :=
  (gI 8 1 l5 M).bind (fun v1 => if v1 = 0 then if s0 = 0 then (gR 8 0 l5 M).bind (fun v2 => bindP (f_X10_matches v2 l1 M) (fun v4 M3 => if v4 = 0 then k5 l0 l1 l2 l3 (l4 + 1) M3 else (gI 8 2 l5 M3).bind (fun v5 => k5 l0 l1 l2 (imaxE l3 v5) (l4 + 1) M3))) else k5 l0 l1 l2 l3 (l4 + 1) M else k5 l0 l1 l2 l3 (l4 + 1) M)
def f_X5_greatestGrade_J48 (k5 : Nat → Nat → Int32 → Int32 → Int32 → Mem → Option (Int32 × Mem)) (l0 : Nat) (l1 : Nat) (l2 : Int32) (l3 : Int32) (l4 : Int32) (l5 : Nat) (M : Mem) : Option (Int32 × Mem) :=
  f_X5_greatestGrade_J49 k5 l0 l1 l2 l3 l4 l5 (0 : Int32) M
def f_X5_greatestGrade_L5 : Nat → Nat → Nat → Int32 → Int32 → Int32 → Mem → Option (Int32 × Mem)
  | 0, _, _, _, _, _, _ => none
  | n + 1, l0, l1, l2, l3, l4, M => (gI 5 7 l0 M).bind (fun v1 => if v1 ≤ l4 then some (l3, M) else if (6 : Int32) ≤ l4 then some (l3, M) else (gR 5 6 l0 M).bind (fun v2 => (aR 22 v2 l4 M).bind (fun v3 => if l2 = 0 then f_X5_greatestGrade_J48 (f_X5_greatestGrade_L5 n) l0 l1 l2 l3 l4 v3 M else (gI 8 3 v3 M).bind (fun v4 => if (v4 &&& (1 : Int32)) = 0 then f_X5_greatestGrade_J48 (f_X5_greatestGrade_L5 n) l0 l1 l2 l3 l4 v3 M else f_X5_greatestGrade_J49 (f_X5_greatestGrade_L5 n) l0 l1 l2 l3 l4 v3 (1 : Int32) M))))
def f_X5_greatestGrade (l0 : Nat) (l1 : Nat) (l2 : Int32) (M : Mem) : Option (Int32 × Mem) :=
  if (mK M l0).1 = 5 then f_X5_greatestGrade_L5 FU l0 l1 l2 (-1 : Int32) (0 : Int32) M else none
def f_X5_stepIdentifier_J28 (k2 : Nat → Int32 → Mem → Option Mem) (l0 : Nat) (l1 : Int32) (s0 : Int32) (s1 : Nat) (M : Mem) : Option Mem :=
  (pI 5 3 s1 s0 M).bind (fun M1 => (gR 5 8 l0 M1).bind (fun v2 => (gI 5 3 l0 M1).bind (fun v3 => bindP (f_X2_placeOf v2 v3 M1) (fun v5 M4 => if 0 ≤ v5 then k2 l0 (l1 + 1) M4 else some M4))))
def f_X5_stepIdentifier_L2 : Nat → Nat → Int32 → Mem → Option Mem
  | 0, _, _, _ => none
  | n + 1, l0, l1, M => if (50 : Int32) ≤ l1 then some M else (gI 5 3 l0 M).bind (fun v1 => if v1 < (50 : Int32) then (gI 5 3 l0 M).bind (fun v2 => f_X5_stepIdentifier_J28 (f_X5_stepIdentifier_L2 n) l0 l1 (v2 + (1 : Int32)) l0 M) else f_X5_stepIdentifier_J28 (f_X5_stepIdentifier_L2 n) l0 l1 (1 : Int32) l0 M)
def f_X5_stepIdentifier (l0 : Nat) (M : Mem) : Option Mem :=
  if (mK M l0).1 = 5 then f_X5_stepIdentifier_L2 FU l0 (0 : Int32) M else none
def f_X6_init (l0 : Nat) (l1 : Nat) (M : Mem) : Option Mem :=
  (pR 6 0 l0 l1 M).bind (fun M1 => bindP (nA 13 (6 : Int32) M1) (fun v2 M3 => (pR 6 2 l0 v2 M3).bind (fun M4 => some M4)))
def f_X6_addMember (l0 : Nat) (l1 : Int32) (M : Mem) : Option Mem :=
  if (mK M l0).1 = 6 then (gI 6 3 l0 M).bind (fun v1 => if v1 < 0 then some M else (gI 6 3 l0 M).bind (fun v2 => if (6 : Int32) ≤ v2 then some M else (gR 6 2 l0 M).bind (fun v3 => (gI 6 3 l0 M).bind (fun v4 => (wI 13 v3 v4 l1 M).bind (fun M5 => (gI 6 3 l0 M5).bind (fun v6 => (pI 6 3 l0 (v6 + (1 : Int32)) M5).bind (fun M7 => some M7))))))) else none
def f_X6_removeMember_J49 (l0 : Nat) (l2 : Int32) (M : Mem) : Option Mem :=
  (pI 6 3 l0 l2 M).bind (fun M1 => some M1)
def f_X6_removeMember_L4 : Nat → Nat → Int32 → Int32 → Int32 → Mem → Option Mem
  | 0, _, _, _, _, _ => none
  | n + 1, l0, l1, l2, l3, M => (gI 6 3 l0 M).bind (fun v1 => if v1 ≤ l3 then f_X6_removeMember_J49 l0 l2 M else if (6 : Int32) ≤ l3 then f_X6_removeMember_J49 l0 l2 M else (gR 6 2 l0 M).bind (fun v2 => (aI 13 v2 l3 M).bind (fun v3 => if v3 = l1 then f_X6_removeMember_L4 n l0 l1 l2 (l3 + 1) M else (gR 6 2 l0 M).bind (fun v4 => (gR 6 2 l0 M).bind (fun v5 => (aI 13 v5 l3 M).bind (fun v6 => (wI 13 v4 l2 v6 M).bind (fun M7 => f_X6_removeMember_L4 n l0 l1 (l2 + 1) (l3 + 1) M7)))))))
def f_X6_removeMember (l0 : Nat) (l1 : Int32) (M : Mem) : Option Mem :=
  if (mK M l0).1 = 6 then f_X6_removeMember_L4 FU l0 l1 (0 : Int32) (0 : Int32) M else none
def f_X6_copyFrom_L18 : Nat → Nat → Nat → Int32 → Mem → Option Mem
  | 0, _, _, _, _ => none
  | n + 1, l0, l1, l2, M => if (6 : Int32) ≤ l2 then (gI 6 3 l1 M).bind (fun v1 => (pI 6 3 l0 v1 M).bind (fun M2 => some M2)) else (gR 6 2 l0 M).bind (fun v1 => (gR 6 2 l1 M).bind (fun v2 => (aI 13 v2 l2 M).bind (fun v3 => (wI 13 v1 l2 v3 M).bind (fun M4 => f_X6_copyFrom_L18 n l0 l1 (l2 + 1) M4))))
def f_X6_copyFrom (l0 : Nat) (l1 : Nat) (M : Mem) : Option Mem :=
  if (mK M l0).1 = 6 then (gR 6 0 l1 M).bind (fun v1 => (pR 6 0 l0 v1 M).bind (fun M2 => (gI 6 1 l1 M2).bind (fun v3 => (pI 6 1 l0 v3 M2).bind (fun M4 => f_X6_copyFrom_L18 FU l0 l1 (0 : Int32) M4)))) else none
def f_X9_init_L25 : Nat → Nat → Nat → Int32 → Mem → Option Mem
  | 0, _, _, _, _ => none
  | n + 1, l0, l1, l2, M => if (512 : Int32) ≤ l2 then some M else (gR 9 0 l0 M).bind (fun v1 => (wR 23 10 v1 l2 l1 M).bind (fun M2 => f_X9_init_L25 n l0 l1 (l2 + 1) M2))
def f_X9_init (l0 : Nat) (l1 : Nat) (M : Mem) : Option Mem :=
  bindP (nA 23 (512 : Int32) M) (fun v1 M2 => (pR 9 0 l0 v1 M2).bind (fun M3 => bindP (nA 13 (512 : Int32) M3) (fun v4 M5 => (pR 9 1 l0 v4 M5).bind (fun M6 => f_X9_init_L25 FU l0 l1 (0 : Int32) M6))))
def f_X7_init_L132 : Nat → Nat → Nat → Int32 → Mem → Option Mem
  | 0, _, _, _, _ => none
  | n + 1, l0, l1, l2, M => if (4 : Int32) ≤ l2 then bindP (nA 13 (10 : Int32) M) (fun v1 M2 => (pR 7 7 l0 v1 M2).bind (fun M3 => bindP (nO 9 3 M3) (fun v4 M5 => (f_X9_init v4 l1 M5).bind (fun M6 => (pR 7 8 l0 v4 M6).bind (fun M7 => bindP (nO 1 7 M7) (fun v8 M9 => (f_X1_init v8 l1 M9).bind (fun M10 => (pR 7 10 l0 v8 M10).bind (fun M11 => some M11)))))))) else (gR 7 6 l0 M).bind (fun v1 => (stI 2 l2).bind (fun v2 => (wI 13 v1 l2 v2 M).bind (fun M3 => f_X7_init_L132 n l0 l1 (l2 + 1) M3)))
def f_X7_init_L94 : Nat → Nat → Nat → Int32 → Mem → Option Mem
  | 0, _, _, _, _ => none
  | n + 1, l0, l1, l2, M => if (8 : Int32) ≤ l2 then bindP (nA 13 (4 : Int32) M) (fun v1 M2 => (pR 7 6 l0 v1 M2).bind (fun M3 => f_X7_init_L132 FU l0 l1 (0 : Int32) M3)) else (gR 7 4 l0 M).bind (fun v1 => bindP (nO 1 7 M) (fun v2 M3 => (f_X1_init v2 l1 M3).bind (fun M4 => (wR 19 1 v1 l2 v2 M4).bind (fun M5 => f_X7_init_L94 n l0 l1 (l2 + 1) M5))))
def f_X7_init_L57 : Nat → Nat → Nat → Int32 → Mem → Option Mem
  | 0, _, _, _, _ => none
  | n + 1, l0, l1, l2, M => if (36 : Int32) ≤ l2 then bindP (nA 19 (8 : Int32) M) (fun v1 M2 => (pR 7 4 l0 v1 M2).bind (fun M3 => f_X7_init_L94 FU l0 l1 (0 : Int32) M3)) else (gR 7 2 l0 M).bind (fun v1 => bindP (nO 6 4 M) (fun v2 M3 => (f_X6_init v2 l1 M3).bind (fun M4 => (wR 21 6 v1 l2 v2 M4).bind (fun M5 => f_X7_init_L57 n l0 l1 (l2 + 1) M5))))
def f_X7_init_L20 : Nat → Nat → Nat → Int32 → Mem → Option Mem
  | 0, _, _, _, _ => none
  | n + 1, l0, l1, l2, M => if (6 : Int32) ≤ l2 then bindP (nA 21 (36 : Int32) M) (fun v1 M2 => (pR 7 2 l0 v1 M2).bind (fun M3 => f_X7_init_L57 FU l0 l1 (0 : Int32) M3)) else (gR 7 1 l0 M).bind (fun v1 => bindP (nO 0 8 M) (fun v2 M3 => (f_X0_init v2 l1 M3).bind (fun M4 => (wR 18 0 v1 l2 v2 M4).bind (fun M5 => f_X7_init_L20 n l0 l1 (l2 + 1) M5))))
def f_X7_init (l0 : Nat) (l1 : Nat) (M : Mem) : Option Mem :=
  (pR 7 0 l0 l1 M).bind (fun M1 => bindP (nA 18 (6 : Int32) M1) (fun v2 M3 => (pR 7 1 l0 v2 M3).bind (fun M4 => f_X7_init_L20 FU l0 l1 (0 : Int32) M4)))
def f_X9_copyFrom_L10 : Nat → Nat → Nat → Int32 → Mem → Option Mem
  | 0, _, _, _, _ => none
  | n + 1, l0, l1, l2, M => (gI 9 2 l0 M).bind (fun v1 => if v1 ≤ l2 then some M else if (512 : Int32) ≤ l2 then some M else (gR 9 0 l0 M).bind (fun v2 => (gR 9 0 l1 M).bind (fun v3 => (aR 23 v3 l2 M).bind (fun v4 => (wR 23 10 v2 l2 v4 M).bind (fun M5 => (gR 9 1 l0 M5).bind (fun v6 => (gR 9 1 l1 M5).bind (fun v7 => (aI 13 v7 l2 M5).bind (fun v8 => (wI 13 v6 l2 v8 M5).bind (fun M9 => f_X9_copyFrom_L10 n l0 l1 (l2 + 1) M9)))))))))
def f_X9_copyFrom (l0 : Nat) (l1 : Nat) (M : Mem) : Option Mem :=
  if (mK M l0).1 = 9 then (gI 9 2 l1 M).bind (fun v1 => (pI 9 2 l0 v1 M).bind (fun M2 => f_X9_copyFrom_L10 FU l0 l1 (0 : Int32) M2)) else none
def f_X7_copyFrom_L150 : Nat → Nat → Nat → Int32 → Mem → Option Mem
  | 0, _, _, _, _ => none
  | n + 1, l0, l1, l2, M => if (10 : Int32) ≤ l2 then (gR 7 8 l0 M).bind (fun v1 => (gR 7 8 l1 M).bind (fun v2 => (f_X9_copyFrom v1 v2 M).bind (fun M3 => (gI 7 9 l1 M3).bind (fun v4 => (pI 7 9 l0 v4 M3).bind (fun M5 => some M5))))) else (gR 7 7 l0 M).bind (fun v1 => (gR 7 7 l1 M).bind (fun v2 => (aI 13 v2 l2 M).bind (fun v3 => (wI 13 v1 l2 v3 M).bind (fun M4 => f_X7_copyFrom_L150 n l0 l1 (l2 + 1) M4))))
def f_X7_copyFrom_L121 : Nat → Nat → Nat → Int32 → Mem → Option Mem
  | 0, _, _, _, _ => none
  | n + 1, l0, l1, l2, M => (gR 7 6 l0 M).bind (fun v1 => (aN v1 M).bind (fun v2 => if v2 ≤ l2 then f_X7_copyFrom_L150 FU l0 l1 (0 : Int32) M else (gR 7 6 l0 M).bind (fun v3 => (gR 7 6 l1 M).bind (fun v4 => (aI 13 v4 l2 M).bind (fun v5 => (wI 13 v3 l2 v5 M).bind (fun M6 => f_X7_copyFrom_L121 n l0 l1 (l2 + 1) M6))))))
def f_X7_copyFrom_L84 : Nat → Nat → Nat → Int32 → Mem → Option Mem
  | 0, _, _, _, _ => none
  | n + 1, l0, l1, l2, M => (gI 7 5 l0 M).bind (fun v1 => if v1 ≤ l2 then f_X7_copyFrom_L121 FU l0 l1 (0 : Int32) M else if (8 : Int32) ≤ l2 then f_X7_copyFrom_L121 FU l0 l1 (0 : Int32) M else (gR 7 4 l0 M).bind (fun v2 => (aR 19 v2 l2 M).bind (fun v3 => (gR 7 4 l1 M).bind (fun v4 => (aR 19 v4 l2 M).bind (fun v5 => (f_X1_copyFrom v3 v5 M).bind (fun M6 => f_X7_copyFrom_L84 n l0 l1 (l2 + 1) M6))))))
def f_X7_copyFrom_J74 (l0 : Nat) (l1 : Nat) (M : Mem) : Option Mem :=
  (gI 7 5 l1 M).bind (fun v1 => (pI 7 5 l0 v1 M).bind (fun M2 => f_X7_copyFrom_L84 FU l0 l1 (0 : Int32) M2))
def f_X7_copyFrom_L39 : Nat → Nat → Nat → Int32 → Mem → Option Mem
  | 0, _, _, _, _ => none
  | n + 1, l0, l1, l2, M => (gI 7 3 l0 M).bind (fun v1 => if v1 ≤ l2 then f_X7_copyFrom_J74 l0 l1 M else if (36 : Int32) ≤ l2 then f_X7_copyFrom_J74 l0 l1 M else (gR 7 2 l0 M).bind (fun v2 => (aR 21 v2 l2 M).bind (fun v3 => (gR 7 2 l1 M).bind (fun v4 => (aR 21 v4 l2 M).bind (fun v5 => (f_X6_copyFrom v3 v5 M).bind (fun M6 => f_X7_copyFrom_L39 n l0 l1 (l2 + 1) M6))))))
def f_X7_copyFrom_L2 : Nat → Nat → Nat → Int32 → Mem → Option Mem
  | 0, _, _, _, _ => none
  | n + 1, l0, l1, l2, M => if (6 : Int32) ≤ l2 then (gI 7 3 l1 M).bind (fun v1 => (pI 7 3 l0 v1 M).bind (fun M2 => f_X7_copyFrom_L39 FU l0 l1 (0 : Int32) M2)) else (gR 7 1 l0 M).bind (fun v1 => (aR 18 v1 l2 M).bind (fun v2 => (gR 7 1 l1 M).bind (fun v3 => (aR 18 v3 l2 M).bind (fun v4 => (f_X0_copyFrom v2 v4 M).bind (fun M5 => f_X7_copyFrom_L2 n l0 l1 (l2 + 1) M5)))))
def f_X7_copyFrom (l0 : Nat) (l1 : Nat) (M : Mem) : Option Mem :=
  if (mK M l0).1 = 7 then f_X7_copyFrom_L2 FU l0 l1 (0 : Int32) M else none
def f_X7_leaveShare_L45 : Nat → Nat → Nat → Int32 → Mem → Option Mem
  | 0, _, _, _, _ => none
  | n + 1, l0, l3, l4, M => (gI 7 3 l0 M).bind (fun v1 => if v1 ≤ (l4 + (1 : Int32)) then (gR 7 2 l0 M).bind (fun v2 => (gI 7 3 l0 M).bind (fun v3 => (wR 21 6 v2 (v3 - (1 : Int32)) l3 M).bind (fun M4 => (gI 7 3 l0 M4).bind (fun v5 => (pI 7 3 l0 (v5 - (1 : Int32)) M4).bind (fun M6 => some M6))))) else (gR 7 2 l0 M).bind (fun v2 => (gR 7 2 l0 M).bind (fun v3 => (aR 21 v3 (l4 + (1 : Int32)) M).bind (fun v4 => (wR 21 6 v2 l4 v4 M).bind (fun M5 => f_X7_leaveShare_L45 n l0 l3 (l4 + 1) M5)))))
def f_X7_leaveShare (l0 : Nat) (l1 : Int32) (l2 : Int32) (M : Mem) : Option Mem :=
  if (mK M l0).1 = 7 then if l1 < 0 then some M else (gI 7 3 l0 M).bind (fun v1 => if v1 ≤ l1 then some M else (gI 7 3 l0 M).bind (fun v2 => if v2 ≤ (36 : Int32) then (gR 7 2 l0 M).bind (fun v3 => (aR 21 v3 l1 M).bind (fun v4 => (f_X6_removeMember v4 l2 M).bind (fun M5 => (gI 6 3 v4 M5).bind (fun v6 => if v6 ≤ 0 then f_X7_leaveShare_L45 FU l0 v4 l1 M5 else some M5)))) else some M)) else none
def f_X7_removeSession_L24 : Nat → Nat → Int32 → Int32 → Mem → Option Mem
  | 0, _, _, _, _ => none
  | n + 1, l0, l1, l2, M => if l2 < 0 then some M else (f_X7_leaveShare l0 l2 l1 M).bind (fun M1 => f_X7_removeSession_L24 n l0 l1 (l2 + (-1)) M1)
def f_X7_removeSession (l0 : Nat) (l1 : Int32) (M : Mem) : Option Mem :=
  if (mK M l0).1 = 7 then (gR 7 1 l0 M).bind (fun v1 => (aR 18 v1 l1 M).bind (fun v2 => (gR 0 5 v2 M).bind (fun v3 => (f_X5_clear v3 M).bind (fun M4 => (gI 7 3 l0 M4).bind (fun v5 => f_X7_removeSession_L24 FU l0 l1 ((iminE v5 (36 : Int32)) - (1 : Int32)) M4))))) else none
def f_X7_endConnection (l0 : Nat) (l1 : Int32) (M : Mem) : Option Mem :=
  if (mK M l0).1 = 7 then (gR 7 1 l0 M).bind (fun v1 => (aR 18 v1 l1 M).bind (fun v2 => (pZ 0 0 v2 (0 : Int32) M).bind (fun M3 => (gR 0 4 v2 M3).bind (fun v4 => (f_X4_clear v4 M3).bind (fun M5 => (gR 0 5 v2 M5).bind (fun v6 => (gI 5 1 v6 M5).bind (fun v7 => if v7 = 0 then (gR 0 5 v2 M5).bind (fun v8 => (gI 7 9 l0 M5).bind (fun v9 => (pI 5 2 v8 v9 M5).bind (fun M10 => some M10))) else (f_X7_removeSession l0 l1 M5).bind (fun M8 => some M8)))))))) else none
def f_X9_placeOf_L2 : Nat → Nat → Nat → Int32 → Mem → Option (Int32 × Mem)
  | 0, _, _, _, _ => none
  | n + 1, l0, l1, l2, M => (gI 9 2 l0 M).bind (fun v1 => if v1 ≤ l2 then some ((-1 : Int32), M) else if (512 : Int32) ≤ l2 then some ((-1 : Int32), M) else (gR 9 0 l0 M).bind (fun v2 => (aR 23 v2 l2 M).bind (fun v3 => bindP (f_X10_sameAs v3 l1 M) (fun v5 M4 => if v5 = 0 then f_X9_placeOf_L2 n l0 l1 (l2 + 1) M4 else some (l2, M4)))))
def f_X9_placeOf (l0 : Nat) (l1 : Nat) (M : Mem) : Option (Int32 × Mem) :=
  if (mK M l0).1 = 9 then f_X9_placeOf_L2 FU l0 l1 (0 : Int32) M else none
def f_X9_count_J56 (l0 : Nat) (l2 : Int32) (M : Mem) : Option Mem :=
  if l2 < 0 then some M else (gR 9 1 l0 M).bind (fun v1 => (aI 13 v1 l2 M).bind (fun v2 => (wI 13 v1 l2 (v2 + (1 : Int32)) M).bind (fun M3 => some M3)))
def f_X9_count (l0 : Nat) (l1 : Nat) (M : Mem) : Option Mem :=
  if (mK M l0).1 = 9 then bindP (f_X9_placeOf l0 l1 M) (fun v2 M1 => if 0 ≤ v2 then f_X9_count_J56 l0 v2 M1 else (gI 9 2 l0 M1).bind (fun v3 => if v3 < 0 then f_X9_count_J56 l0 v2 M1 else (gI 9 2 l0 M1).bind (fun v4 => if (512 : Int32) ≤ v4 then f_X9_count_J56 l0 v2 M1 else (gI 9 2 l0 M1).bind (fun v5 => (gR 9 0 l0 M1).bind (fun v6 => (wR 23 10 v6 v5 l1 M1).bind (fun M7 => (gR 9 1 l0 M7).bind (fun v8 => (wI 13 v8 v5 (0 : Int32) M7).bind (fun M9 => (gI 9 2 l0 M9).bind (fun v10 => (pI 9 2 l0 (v10 + (1 : Int32)) M9).bind (fun M11 => f_X9_count_J56 l0 v5 M11)))))))))) else none
def f_X10_order_L16 : Nat → Nat → Nat → Int32 → Int32 → Mem → Option (Int32 × Mem)
  | 0, _, _, _, _, _ => none
  | n + 1, l0, l1, l2, l3, M => if l2 ≤ l3 then (gR 10 0 l0 M).bind (fun v1 => (aN v1 M).bind (fun v2 => (gR 10 0 l1 M).bind (fun v3 => (aN v3 M).bind (fun v4 => some ((v2 - v4), M))))) else (gR 10 0 l0 M).bind (fun v1 => (aI 16 v1 l3 M).bind (fun v2 => (gR 10 0 l1 M).bind (fun v3 => (aI 16 v3 l3 M).bind (fun v4 => if v2 = v4 then f_X10_order_L16 n l0 l1 l2 (l3 + 1) M else (gR 10 0 l0 M).bind (fun v5 => (aI 16 v5 l3 M).bind (fun v6 => (gR 10 0 l1 M).bind (fun v7 => (aI 16 v7 l3 M).bind (fun v8 => some ((v6 - v8), M)))))))))
def f_X10_order (l0 : Nat) (l1 : Nat) (M : Mem) : Option (Int32 × Mem) :=
  if (mK M l0).1 = 10 then (gR 10 0 l0 M).bind (fun v1 => (aN v1 M).bind (fun v2 => (gR 10 0 l1 M).bind (fun v3 => (aN v3 M).bind (fun v4 => f_X10_order_L16 FU l0 l1 (iminE v2 v4) (0 : Int32) M)))) else none
def f_X7_dropRetained_L9 : Nat → Nat → Nat → Int32 → Mem → Option Mem
  | 0, _, _, _, _ => none
  | n + 1, l0, l2, l3, M => (gI 7 5 l0 M).bind (fun v1 => if v1 ≤ (l3 + (1 : Int32)) then (gR 7 4 l0 M).bind (fun v2 => (gI 7 5 l0 M).bind (fun v3 => (wR 19 1 v2 (v3 - (1 : Int32)) l2 M).bind (fun M4 => (gI 7 5 l0 M4).bind (fun v5 => (pI 7 5 l0 (v5 - (1 : Int32)) M4).bind (fun M6 => some M6))))) else (gR 7 4 l0 M).bind (fun v2 => (gR 7 4 l0 M).bind (fun v3 => (aR 19 v3 (l3 + (1 : Int32)) M).bind (fun v4 => (wR 19 1 v2 l3 v4 M).bind (fun M5 => f_X7_dropRetained_L9 n l0 l2 (l3 + 1) M5)))))
def f_X7_dropRetained (l0 : Nat) (l1 : Int32) (M : Mem) : Option Mem :=
  if (mK M l0).1 = 7 then (gR 7 4 l0 M).bind (fun v1 => (aR 19 v1 l1 M).bind (fun v2 => f_X7_dropRetained_L9 FU l0 v2 l1 M)) else none
def f_X7_openRetained_L15 : Nat → Nat → Int32 → Nat → Int32 → Mem → Option Mem
  | 0, _, _, _, _, _ => none
  | n + 1, l0, l1, l2, l3, M => if l3 ≤ l1 then (gR 7 4 l0 M).bind (fun v1 => (wR 19 1 v1 l1 l2 M).bind (fun M2 => (gI 7 5 l0 M2).bind (fun v3 => (pI 7 5 l0 (v3 + (1 : Int32)) M2).bind (fun M4 => some M4)))) else (gR 7 4 l0 M).bind (fun v1 => (gR 7 4 l0 M).bind (fun v2 => (aR 19 v2 (l3 - (1 : Int32)) M).bind (fun v3 => (wR 19 1 v1 l3 v3 M).bind (fun M4 => f_X7_openRetained_L15 n l0 l1 l2 (l3 + (-1)) M4))))
def f_X7_openRetained (l0 : Nat) (l1 : Int32) (M : Mem) : Option Mem :=
  if (mK M l0).1 = 7 then (gR 7 4 l0 M).bind (fun v1 => (gI 7 5 l0 M).bind (fun v2 => (aR 19 v1 v2 M).bind (fun v3 => (gI 7 5 l0 M).bind (fun v4 => f_X7_openRetained_L15 FU l0 l1 v3 v4 M)))) else none
def f_X7_keepRetained_J116 (l0 : Nat) (l1 : Nat) (l2 : Int32) (M : Mem) : Option Mem :=
  (gR 7 4 l0 M).bind (fun v1 => (aR 19 v1 l2 M).bind (fun v2 => (f_X1_copyFrom v2 l1 M).bind (fun M3 => some M3)))
def f_X7_keepRetained_J79 (l0 : Nat) (l1 : Nat) (l2 : Int32) (s0 : Int32) (M : Mem) : Option Mem :=
  (gI 1 2 l1 M).bind (fun v1 => if v1 = 0 then if s0 = 0 then some M else (f_X7_dropRetained l0 l2 M).bind (fun M2 => some M2) else if s0 = 0 then (gI 7 5 l0 M).bind (fun v2 => if v2 < (8 : Int32) then (f_X7_openRetained l0 l2 M).bind (fun M3 => f_X7_keepRetained_J116 l0 l1 l2 M3) else some M) else f_X7_keepRetained_J116 l0 l1 l2 M)
def f_X7_keepRetained_J78 (l0 : Nat) (l1 : Nat) (l2 : Int32) (M : Mem) : Option Mem :=
  f_X7_keepRetained_J79 l0 l1 l2 (0 : Int32) M
def f_X7_keepRetained_J41 (l0 : Nat) (l1 : Nat) (l2 : Int32) (M : Mem) : Option Mem :=
  (gI 7 5 l0 M).bind (fun v1 => if v1 ≤ l2 then f_X7_keepRetained_J78 l0 l1 l2 M else if (8 : Int32) ≤ l2 then f_X7_keepRetained_J78 l0 l1 l2 M else (gR 7 4 l0 M).bind (fun v2 => (aR 19 v2 l2 M).bind (fun v3 => (gR 1 0 v3 M).bind (fun v4 => (gR 1 0 l1 M).bind (fun v5 => bindP (f_X10_sameAs v4 v5 M) (fun v7 M6 => if v7 = 0 then f_X7_keepRetained_J78 l0 l1 l2 M6 else f_X7_keepRetained_J79 l0 l1 l2 (1 : Int32) M6))))))
def f_X7_keepRetained_L2 : Nat → Nat → Nat → Int32 → Mem → Option Mem
  | 0, _, _, _, _ => none
  | n + 1, l0, l1, l2, M => (gI 7 5 l0 M).bind (fun v1 => if v1 ≤ l2 then f_X7_keepRetained_J41 l0 l1 l2 M else if (8 : Int32) ≤ l2 then f_X7_keepRetained_J41 l0 l1 l2 M else (gR 7 4 l0 M).bind (fun v2 => (aR 19 v2 l2 M).bind (fun v3 => (gR 1 0 v3 M).bind (fun v4 => (gR 1 0 l1 M).bind (fun v5 => bindP (f_X10_order v4 v5 M) (fun v7 M6 => if 0 ≤ v7 then f_X7_keepRetained_J41 l0 l1 l2 M6 else f_X7_keepRetained_L2 n l0 l1 (l2 + 1) M6))))))
def f_X7_keepRetained (l0 : Nat) (l1 : Nat) (M : Mem) : Option Mem :=
  if (mK M l0).1 = 7 then f_X7_keepRetained_L2 FU l0 l1 (0 : Int32) M else none
def f_X7_countSent (l0 : Nat) (l1 : Nat) (M : Mem) : Option (Int32 × Mem) :=
  if (mK M l0).1 = 7 then (gI 0 7 l1 M).bind (fun v1 => (pI 0 7 l1 (v1 + (1 : Int32)) M).bind (fun M2 => (gR 0 4 l1 M2).bind (fun v3 => (gI 4 2 v3 M2).bind (fun v4 => if v4 < (30 : Int32) then okZ (1 : Int32) M2 else (gR 7 7 l0 M2).bind (fun v5 => (aI 13 v5 (8 : Int32) M2).bind (fun v6 => (wI 13 v5 (8 : Int32) (v6 + (1 : Int32)) M2).bind (fun M7 => okZ (0 : Int32) M7))))))) else none
def f_X7_sendMessage (l0 : Nat) (l1 : Nat) (l2 : Nat) (l3 : Int32) (M : Mem) : Option Mem :=
  if (mK M l0).1 = 7 then (gI 7 9 l0 M).bind (fun v1 => (pI 1 6 l2 v1 M).bind (fun M2 => bindP (f_X7_countSent l0 l1 M2) (fun v4 M3 => if v4 = 0 then some M3 else (gR 0 4 l1 M3).bind (fun v5 => bindP (f_X4_extend v5 M3) (fun v7 M6 => (pI 3 0 v7 (0 : Int32) M6).bind (fun M8 => (gI 1 4 l2 M8).bind (fun v9 => (pI 3 1 v7 v9 M8).bind (fun M10 => (gI 1 1 l2 M10).bind (fun v11 => (pI 3 2 v7 v11 M10).bind (fun M12 => (gI 1 2 l2 M12).bind (fun v13 => (pI 3 3 v7 v13 M12).bind (fun M14 => (gI 1 3 l2 M14).bind (fun v15 => (pI 3 4 v7 (v15 + l3) M14).bind (fun M16 => (gR 1 0 l2 M16).bind (fun v17 => (pR 3 5 v7 v17 M16).bind (fun M18 => some M18)))))))))))))))) else none
def f_X7_mayStart (l0 : Nat) (l1 : Nat) (M : Mem) : Option (Int32 × Mem) :=
  if (mK M l0).1 = 7 then (gI 0 0 l1 M).bind (fun v1 => if v1 = 0 then okZ (0 : Int32) M else (gR 0 5 l1 M).bind (fun v2 => (gR 5 8 v2 M).bind (fun v3 => (gI 2 1 v3 M).bind (fun v4 => (gR 7 6 l0 M).bind (fun v5 => (aI 13 v5 (0 : Int32) M).bind (fun v6 => if v6 ≤ v4 then okZ (0 : Int32) M else okZ (1 : Int32) M)))))) else none
def f_X7_startFlight_J27 (l0 : Nat) (l1 : Nat) (l2 : Nat) (l3 : Nat) (s0 : Int32) (s1 : Nat) (M : Mem) : Option Mem :=
  (pI 1 5 s1 s0 M).bind (fun M1 => (f_X7_sendMessage l0 l1 l2 (0 : Int32) M1).bind (fun M2 => (gR 5 8 l3 M2).bind (fun v3 => (f_X2_add v3 l2 M2).bind (fun M4 => (f_X5_stepIdentifier l3 M4).bind (fun M5 => some M5)))))
def f_X7_startFlight (l0 : Nat) (l1 : Nat) (l2 : Nat) (M : Mem) : Option Mem :=
  if (mK M l0).1 = 7 then (gR 0 5 l1 M).bind (fun v1 => (gI 5 3 v1 M).bind (fun v2 => (pI 1 4 l2 v2 M).bind (fun M3 => (gI 1 1 l2 M3).bind (fun v4 => if v4 = (1 : Int32) then f_X7_startFlight_J27 l0 l1 l2 v1 (1 : Int32) l2 M3 else f_X7_startFlight_J27 l0 l1 l2 v1 (2 : Int32) l2 M3)))) else none
def f_X7_hold_J34 (l1 : Nat) (l2 : Nat) (M : Mem) : Option Mem :=
  (f_X2_add l1 l2 M).bind (fun M1 => some M1)
def f_X7_hold (l0 : Nat) (l1 : Nat) (l2 : Nat) (M : Mem) : Option Mem :=
  if (mK M l0).1 = 7 then (gI 2 1 l1 M).bind (fun v1 => if v1 < (8 : Int32) then f_X7_hold_J34 l1 l2 M else (gR 7 7 l0 M).bind (fun v2 => (aI 13 v2 (2 : Int32) M).bind (fun v3 => (wI 13 v2 (2 : Int32) (v3 + (1 : Int32)) M).bind (fun M4 => (gR 7 6 l0 M4).bind (fun v5 => (aI 13 v5 (3 : Int32) M4).bind (fun v6 => if v6 = 0 then some M4 else (f_X2_removeAt l1 (0 : Int32) M4).bind (fun M7 => f_X7_hold_J34 l1 l2 M7))))))) else none
def f_X7_give_J105 (l0 : Nat) (l1 : Nat) (M : Mem) : Option Mem :=
  (gR 0 5 l1 M).bind (fun v1 => (gR 5 9 v1 M).bind (fun v2 => (gR 7 10 l0 M).bind (fun v3 => (f_X7_hold l0 v2 v3 M).bind (fun M4 => some M4))))
def f_X7_give (l0 : Nat) (l1 : Nat) (l2 : Nat) (l3 : Int32) (l4 : Int32) (M : Mem) : Option Mem :=
  if (mK M l0).1 = 7 then (gR 7 7 l0 M).bind (fun v1 => (aI 13 v1 (1 : Int32) M).bind (fun v2 => (wI 13 v1 (1 : Int32) (v2 + (1 : Int32)) M).bind (fun M3 => (gR 7 10 l0 M3).bind (fun v4 => (gR 1 0 l2 M3).bind (fun v5 => (gI 1 2 l2 M3).bind (fun v6 => (f_X1_fill v4 v5 l3 v6 M3).bind (fun M7 => (gR 7 10 l0 M7).bind (fun v8 => (pI 1 3 v8 l4 M7).bind (fun M9 => if l3 = 0 then (gI 0 0 l1 M9).bind (fun v10 => if v10 = 0 then (gR 7 7 l0 M9).bind (fun v11 => (aI 13 v11 (2 : Int32) M9).bind (fun v12 => (wI 13 v11 (2 : Int32) (v12 + (1 : Int32)) M9).bind (fun M13 => some M13))) else (gR 7 10 l0 M9).bind (fun v11 => (f_X7_sendMessage l0 l1 v11 (0 : Int32) M9).bind (fun M12 => some M12))) else (gR 0 5 l1 M9).bind (fun v10 => (gR 5 9 v10 M9).bind (fun v11 => (gI 2 1 v11 M9).bind (fun v12 => if v12 = 0 then bindP (f_X7_mayStart l0 l1 M9) (fun v14 M13 => if v14 = 0 then f_X7_give_J105 l0 l1 M13 else (gR 7 10 l0 M13).bind (fun v15 => (f_X7_startFlight l0 l1 v15 M13).bind (fun M16 => some M16))) else f_X7_give_J105 l0 l1 M9)))))))))))) else none
def f_X7_takeMember_J56 (l1 : Nat) (l2 : Int32) (M : Mem) : Option (Int32 × Mem) :=
  (f_X6_removeMember l1 l2 M).bind (fun M1 => (f_X6_addMember l1 l2 M1).bind (fun M2 => some (l2, M2)))
def f_X7_takeMember_L9 : Nat → Nat → Nat → Int32 → Int32 → Mem → Option (Int32 × Mem)
  | 0, _, _, _, _, _ => none
  | n + 1, l0, l1, l2, l3, M => (gI 6 3 l1 M).bind (fun v1 => if v1 ≤ l3 then f_X7_takeMember_J56 l1 l2 M else if (6 : Int32) ≤ l3 then f_X7_takeMember_J56 l1 l2 M else (gR 7 1 l0 M).bind (fun v2 => (gR 6 2 l1 M).bind (fun v3 => (aI 13 v3 l3 M).bind (fun v4 => (aR 18 v2 v4 M).bind (fun v5 => (gI 0 0 v5 M).bind (fun v6 => if v6 = 0 then f_X7_takeMember_L9 n l0 l1 l2 (l3 + 1) M else (gR 6 2 l1 M).bind (fun v7 => (aI 13 v7 l3 M).bind (fun v8 => f_X7_takeMember_J56 l1 v8 M))))))))
def f_X7_takeMember (l0 : Nat) (l1 : Nat) (M : Mem) : Option (Int32 × Mem) :=
  if (mK M l0).1 = 7 then (gR 6 2 l1 M).bind (fun v1 => (aI 13 v1 (0 : Int32) M).bind (fun v2 => f_X7_takeMember_L9 FU l0 l1 v2 (0 : Int32) M)) else none
def f_X7_spread_L112 : Nat → Nat → Nat → Int32 → Int32 → Mem → Option (Int32 × Mem)
  | 0, _, _, _, _, _ => none
  | n + 1, l0, l2, l4, l5, M => (gI 7 3 l0 M).bind (fun v1 => if v1 ≤ l5 then some (l4, M) else if (36 : Int32) ≤ l5 then some (l4, M) else (gR 7 2 l0 M).bind (fun v2 => (aR 21 v2 l5 M).bind (fun v3 => (gR 6 0 v3 M).bind (fun v4 => (gR 1 0 l2 M).bind (fun v5 => bindP (f_X10_matches v4 v5 M) (fun v7 M6 => if v7 = 0 then f_X7_spread_L112 n l0 l2 l4 (l5 + 1) M6 else (gR 7 1 l0 M6).bind (fun v8 => bindP (f_X7_takeMember l0 v3 M6) (fun v10 M9 => (aR 18 v8 v10 M9).bind (fun v11 => (gR 0 5 v11 M9).bind (fun v12 => (gR 6 0 v3 M9).bind (fun v13 => (gI 6 1 v3 M9).bind (fun v14 => bindP (f_X5_gradeOf v12 v13 v14 M9) (fun v16 M15 => (gI 1 1 l2 M15).bind (fun v17 => (f_X7_give l0 v11 l2 (iminE v17 v16) (0 : Int32) M15).bind (fun M18 => f_X7_spread_L112 n l0 l2 (l4 + 1) (l5 + 1) M18)))))))))))))))
def f_X7_spread_J68 (k36 : Nat → Int32 → Nat → Int32 → Int32 → Mem → Option (Int32 × Mem)) (l0 : Nat) (l1 : Int32) (l2 : Nat) (l4 : Int32) (l5 : Int32) (s0 : Int32) (s1 : Nat) (s2 : Nat) (M : Mem) : Option (Int32 × Mem) :=
  bindP (f_X5_greatestGrade s2 s1 s0 M) (fun v2 M1 => if v2 < 0 then k36 l0 l1 l2 l4 (l5 + 1) M1 else (gR 7 1 l0 M1).bind (fun v3 => (aR 18 v3 l5 M1).bind (fun v4 => (gI 1 1 l2 M1).bind (fun v5 => (f_X7_give l0 v4 l2 (iminE v5 v2) (0 : Int32) M1).bind (fun M6 => k36 l0 l1 l2 (l4 + 1) (l5 + 1) M6)))))
def f_X7_spread_L36 : Nat → Nat → Int32 → Nat → Int32 → Int32 → Mem → Option (Int32 × Mem)
  | 0, _, _, _, _, _, _ => none
  | n + 1, l0, l1, l2, l4, l5, M => if (6 : Int32) ≤ l5 then f_X7_spread_L112 FU l0 l2 l4 (0 : Int32) M else (gR 7 1 l0 M).bind (fun v1 => (aR 18 v1 l5 M).bind (fun v2 => (gR 0 5 v2 M).bind (fun v3 => (gR 1 0 l2 M).bind (fun v4 => if l5 = l1 then f_X7_spread_J68 (f_X7_spread_L36 n) l0 l1 l2 l4 l5 (1 : Int32) v4 v3 M else f_X7_spread_J68 (f_X7_spread_L36 n) l0 l1 l2 l4 l5 (0 : Int32) v4 v3 M))))
def f_X7_spread (l0 : Nat) (l1 : Int32) (l2 : Nat) (l3 : Int32) (M : Mem) : Option (Int32 × Mem) :=
  if (mK M l0).1 = 7 then (gR 7 7 l0 M).bind (fun v1 => (aI 13 v1 (0 : Int32) M).bind (fun v2 => (wI 13 v1 (0 : Int32) (v2 + (1 : Int32)) M).bind (fun M3 => (gR 7 8 l0 M3).bind (fun v4 => (gR 1 0 l2 M3).bind (fun v5 => (f_X9_count v4 v5 M3).bind (fun M6 => if l3 = 0 then f_X7_spread_L36 FU l0 l1 l2 (0 : Int32) (0 : Int32) M6 else (f_X7_keepRetained l0 l2 M6).bind (fun M7 => f_X7_spread_L36 FU l0 l1 l2 (0 : Int32) (0 : Int32) M7))))))) else none
def f_X7_failConnection (l0 : Nat) (l1 : Int32) (M : Mem) : Option (Int32 × Mem) :=
  if (mK M l0).1 = 7 then (f_X7_endConnection l0 l1 M).bind (fun M1 => (gR 7 1 l0 M1).bind (fun v2 => (aR 18 v2 l1 M1).bind (fun v3 => (gI 0 1 v3 M1).bind (fun v4 => if v4 = 0 then some ((0 : Int32), M1) else (pZ 0 1 v3 (0 : Int32) M1).bind (fun M5 => (gR 7 7 l0 M5).bind (fun v6 => (aI 13 v6 (6 : Int32) M5).bind (fun v7 => (wI 13 v6 (6 : Int32) (v7 + (1 : Int32)) M5).bind (fun M8 => (gR 0 3 v3 M8).bind (fun v9 => (gI 0 2 v3 M8).bind (fun v10 => bindP (f_X7_spread l0 l1 v9 v10 M8) (fun v12 M11 => some ((1 : Int32), M11)))))))))))) else none
def f_X7_sendSign (l0 : Nat) (l1 : Nat) (l2 : Int32) (l3 : Int32) (M : Mem) : Option Mem :=
  if (mK M l0).1 = 7 then bindP (f_X7_countSent l0 l1 M) (fun v2 M1 => if v2 = 0 then some M1 else (gR 0 4 l1 M1).bind (fun v3 => bindP (f_X4_extend v3 M1) (fun v5 M4 => (pI 3 0 v5 l2 M4).bind (fun M6 => (pI 3 1 v5 l3 M6).bind (fun M7 => (pI 3 2 v5 (0 : Int32) M7).bind (fun M8 => (pI 3 3 v5 (0 : Int32) M8).bind (fun M9 => (pI 3 4 v5 (0 : Int32) M9).bind (fun M10 => (gR 7 0 l0 M10).bind (fun v11 => (pR 3 5 v5 v11 M10).bind (fun M12 => some M12)))))))))) else none
def f_X7_sendRelease (l0 : Nat) (l1 : Nat) (l2 : Nat) (M : Mem) : Option Mem :=
  if (mK M l0).1 = 7 then (gI 7 9 l0 M).bind (fun v1 => (pI 1 6 l2 v1 M).bind (fun M2 => (gI 1 4 l2 M2).bind (fun v3 => (f_X7_sendSign l0 l1 (3 : Int32) v3 M2).bind (fun M4 => some M4)))) else none
def f_X7_resend (l0 : Nat) (l1 : Nat) (l2 : Nat) (M : Mem) : Option Mem :=
  if (mK M l0).1 = 7 then (gR 7 7 l0 M).bind (fun v1 => (aI 13 v1 (4 : Int32) M).bind (fun v2 => (wI 13 v1 (4 : Int32) (v2 + (1 : Int32)) M).bind (fun M3 => (gI 1 5 l2 M3).bind (fun v4 => if v4 = (4 : Int32) then (f_X7_sendRelease l0 l1 l2 M3).bind (fun M5 => some M5) else (f_X7_sendMessage l0 l1 l2 (1 : Int32) M3).bind (fun M5 => some M5))))) else none
def f_X7_startPending_L10 : Nat → Nat → Nat → Nat → Int32 → Mem → Option Mem
  | 0, _, _, _, _, _ => none
  | n + 1, l0, l1, l2, l3, M => if (8 : Int32) ≤ l3 then some M else (gI 2 1 l2 M).bind (fun v1 => if v1 ≤ 0 then some M else bindP (f_X7_mayStart l0 l1 M) (fun v3 M2 => if v3 = 0 then some M2 else (gR 2 0 l2 M2).bind (fun v4 => (aR 19 v4 (0 : Int32) M2).bind (fun v5 => (f_X7_startFlight l0 l1 v5 M2).bind (fun M6 => (f_X2_removeAt l2 (0 : Int32) M6).bind (fun M7 => f_X7_startPending_L10 n l0 l1 l2 (l3 + 1) M7))))))
def f_X7_startPending (l0 : Nat) (l1 : Nat) (M : Mem) : Option Mem :=
  if (mK M l0).1 = 7 then (gR 0 5 l1 M).bind (fun v1 => (gR 5 9 v1 M).bind (fun v2 => f_X7_startPending_L10 FU l0 l1 v2 (0 : Int32) M)) else none
def f_X7_resume_J44 (l0 : Nat) (l1 : Nat) (M : Mem) : Option Mem :=
  (f_X7_startPending l0 l1 M).bind (fun M1 => some M1)
def f_X7_resume_L10 : Nat → Nat → Nat → Nat → Int32 → Mem → Option Mem
  | 0, _, _, _, _, _ => none
  | n + 1, l0, l1, l2, l3, M => (gI 2 1 l2 M).bind (fun v1 => if v1 ≤ l3 then f_X7_resume_J44 l0 l1 M else (gR 2 0 l2 M).bind (fun v2 => (aN v2 M).bind (fun v3 => if v3 ≤ l3 then f_X7_resume_J44 l0 l1 M else (gR 2 0 l2 M).bind (fun v4 => (aR 19 v4 l3 M).bind (fun v5 => (f_X7_resend l0 l1 v5 M).bind (fun M6 => f_X7_resume_L10 n l0 l1 l2 (l3 + 1) M6))))))
def f_X7_resume (l0 : Nat) (l1 : Nat) (M : Mem) : Option Mem :=
  if (mK M l0).1 = 7 then (gR 0 5 l1 M).bind (fun v1 => (gR 5 8 v1 M).bind (fun v2 => f_X7_resume_L10 FU l0 l1 v2 (0 : Int32) M)) else none
def f_X7_placeOfShare_L2 : Nat → Nat → Nat → Int32 → Int32 → Mem → Option (Int32 × Mem)
  | 0, _, _, _, _, _ => none
  | n + 1, l0, l1, l2, l3, M => (gI 7 3 l0 M).bind (fun v1 => if v1 ≤ l3 then some ((-1 : Int32), M) else if (36 : Int32) ≤ l3 then some ((-1 : Int32), M) else (gR 7 2 l0 M).bind (fun v2 => (aR 21 v2 l3 M).bind (fun v3 => (gI 6 1 v3 M).bind (fun v4 => if v4 = l2 then (gR 7 2 l0 M).bind (fun v5 => (aR 21 v5 l3 M).bind (fun v6 => (gR 6 0 v6 M).bind (fun v7 => bindP (f_X10_sameAs v7 l1 M) (fun v9 M8 => if v9 = 0 then f_X7_placeOfShare_L2 n l0 l1 l2 (l3 + 1) M8 else some (l3, M8))))) else f_X7_placeOfShare_L2 n l0 l1 l2 (l3 + 1) M))))
def f_X7_placeOfShare (l0 : Nat) (l1 : Nat) (l2 : Int32) (M : Mem) : Option (Int32 × Mem) :=
  if (mK M l0).1 = 7 then f_X7_placeOfShare_L2 FU l0 l1 l2 (0 : Int32) M else none
def f_X7_addSubscription_J97 (l0 : Nat) (l1 : Int32) (l4 : Int32) (M : Mem) : Option Mem :=
  if l4 < 0 then some M else (gR 7 2 l0 M).bind (fun v1 => (aR 21 v1 l4 M).bind (fun v2 => (f_X6_addMember v2 l1 M).bind (fun M3 => some M3)))
def f_X7_addSubscription (l0 : Nat) (l1 : Int32) (l2 : Nat) (l3 : Int32) (M : Mem) : Option Mem :=
  if (mK M l0).1 = 7 then (gR 7 1 l0 M).bind (fun v1 => (aR 18 v1 l1 M).bind (fun v2 => (gR 0 5 v2 M).bind (fun v3 => (f_X5_addSubscription v3 l2 l3 M).bind (fun M4 => if l3 = 0 then some M4 else bindP (f_X7_placeOfShare l0 l2 l3 M4) (fun v6 M5 => if 0 ≤ v6 then f_X7_addSubscription_J97 l0 l1 v6 M5 else (gI 7 3 l0 M5).bind (fun v7 => if v7 < 0 then f_X7_addSubscription_J97 l0 l1 v6 M5 else (gI 7 3 l0 M5).bind (fun v8 => if (36 : Int32) ≤ v8 then f_X7_addSubscription_J97 l0 l1 v6 M5 else (gI 7 3 l0 M5).bind (fun v9 => (gR 7 2 l0 M5).bind (fun v10 => (aR 21 v10 v9 M5).bind (fun v11 => (pR 6 0 v11 l2 M5).bind (fun M12 => (gR 7 2 l0 M12).bind (fun v13 => (aR 21 v13 v9 M12).bind (fun v14 => (pI 6 1 v14 l3 M12).bind (fun M15 => (gR 7 2 l0 M15).bind (fun v16 => (aR 21 v16 v9 M15).bind (fun v17 => (pI 6 3 v17 (0 : Int32) M15).bind (fun M18 => (gI 7 3 l0 M18).bind (fun v19 => (pI 7 3 l0 (v19 + (1 : Int32)) M18).bind (fun M20 => f_X7_addSubscription_J97 l0 l1 v9 M20))))))))))))))))))) else none
def f_X7_removeSubscription (l0 : Nat) (l1 : Int32) (l2 : Nat) (l3 : Int32) (M : Mem) : Option (Int32 × Mem) :=
  if (mK M l0).1 = 7 then (gR 7 1 l0 M).bind (fun v1 => (aR 18 v1 l1 M).bind (fun v2 => (gR 0 5 v2 M).bind (fun v3 => bindP (f_X5_placeOf v3 l2 l3 M) (fun v5 M4 => if 0 ≤ v5 then (f_X5_removeSubscriptionAt v3 v5 M4).bind (fun M6 => if l3 = 0 then okZ (1 : Int32) M6 else bindP (f_X7_placeOfShare l0 l2 l3 M6) (fun v8 M7 => (f_X7_leaveShare l0 v8 l1 M7).bind (fun M9 => okZ (1 : Int32) M9))) else okZ (0 : Int32) M4)))) else none
def f_X7_countAudience_L52 : Nat → Nat → Nat → Int32 → Int32 → Mem → Option (Int32 × Mem)
  | 0, _, _, _, _, _ => none
  | n + 1, l0, l2, l3, l4, M => (gI 7 3 l0 M).bind (fun v1 => if v1 ≤ l4 then some (l3, M) else if (36 : Int32) ≤ l4 then some (l3, M) else (gR 7 2 l0 M).bind (fun v2 => (aR 21 v2 l4 M).bind (fun v3 => (gR 6 0 v3 M).bind (fun v4 => bindP (f_X10_matches v4 l2 M) (fun v6 M5 => if v6 = 0 then f_X7_countAudience_L52 n l0 l2 l3 (l4 + 1) M5 else f_X7_countAudience_L52 n l0 l2 (l3 + 1) (l4 + 1) M5)))))
def f_X7_countAudience_J34 (k5 : Nat → Int32 → Nat → Int32 → Int32 → Mem → Option (Int32 × Mem)) (l0 : Nat) (l1 : Int32) (l2 : Nat) (l3 : Int32) (l4 : Int32) (s0 : Int32) (s1 : Nat) (s2 : Nat) (M : Mem) : Option (Int32 × Mem) :=
  bindP (f_X5_greatestGrade s2 s1 s0 M) (fun v2 M1 => if v2 < 0 then k5 l0 l1 l2 l3 (l4 + 1) M1 else k5 l0 l1 l2 (l3 + 1) (l4 + 1) M1)
def f_X7_countAudience_L5 : Nat → Nat → Int32 → Nat → Int32 → Int32 → Mem → Option (Int32 × Mem)
  | 0, _, _, _, _, _, _ => none
  | n + 1, l0, l1, l2, l3, l4, M => if (6 : Int32) ≤ l4 then f_X7_countAudience_L52 FU l0 l2 l3 (0 : Int32) M else (gR 7 1 l0 M).bind (fun v1 => (aR 18 v1 l4 M).bind (fun v2 => (gR 0 5 v2 M).bind (fun v3 => if l4 = l1 then f_X7_countAudience_J34 (f_X7_countAudience_L5 n) l0 l1 l2 l3 l4 (1 : Int32) l2 v3 M else f_X7_countAudience_J34 (f_X7_countAudience_L5 n) l0 l1 l2 l3 l4 (0 : Int32) l2 v3 M)))
def f_X7_countAudience (l0 : Nat) (l1 : Int32) (l2 : Nat) (M : Mem) : Option (Int32 × Mem) :=
  if (mK M l0).1 = 7 then f_X7_countAudience_L5 FU l0 l1 l2 (0 : Int32) (0 : Int32) M else none
def f_X7_giveRetained_L3 : Nat → Nat → Int32 → Nat → Int32 → Int32 → Mem → Option Mem
  | 0, _, _, _, _, _, _ => none
  | n + 1, l0, l1, l2, l3, l4, M => (gI 7 5 l0 M).bind (fun v1 => if v1 ≤ l4 then some M else if (8 : Int32) ≤ l4 then some M else (gR 7 4 l0 M).bind (fun v2 => (aR 19 v2 l4 M).bind (fun v3 => (gR 1 0 v3 M).bind (fun v4 => bindP (f_X10_matches l2 v4 M) (fun v6 M5 => if v6 = 0 then f_X7_giveRetained_L3 n l0 l1 l2 l3 (l4 + 1) M5 else (gR 7 1 l0 M5).bind (fun v7 => (aR 18 v7 l1 M5).bind (fun v8 => (gI 1 1 v3 M5).bind (fun v9 => (f_X7_give l0 v8 v3 (iminE v9 l3) (2 : Int32) M5).bind (fun M10 => f_X7_giveRetained_L3 n l0 l1 l2 l3 (l4 + 1) M10)))))))))
def f_X7_giveRetained (l0 : Nat) (l1 : Int32) (l2 : Nat) (l3 : Int32) (M : Mem) : Option Mem :=
  if (mK M l0).1 = 7 then f_X7_giveRetained_L3 FU l0 l1 l2 l3 (0 : Int32) M else none
def f_X7_takeAnswer_J63 (l0 : Nat) (l1 : Nat) (l2 : Int32) (l4 : Nat) (l5 : Int32) (l6 : Nat) (M : Mem) : Option (Int32 × Mem) :=
  (gI 1 5 l6 M).bind (fun v1 => if v1 = l2 then (gR 7 7 l0 M).bind (fun v2 => (aI 13 v2 (9 : Int32) M).bind (fun v3 => (wI 13 v2 (9 : Int32) (v3 + (1 : Int32)) M).bind (fun M4 => (f_X2_removeAt l4 l5 M4).bind (fun M5 => (f_X7_startPending l0 l1 M5).bind (fun M6 => okZ (1 : Int32) M6))))) else okZ (0 : Int32) M)
def f_X7_takeAnswer (l0 : Nat) (l1 : Nat) (l2 : Int32) (l3 : Int32) (M : Mem) : Option (Int32 × Mem) :=
  if (mK M l0).1 = 7 then (gR 0 5 l1 M).bind (fun v1 => (gR 5 8 v1 M).bind (fun v2 => bindP (f_X2_placeOf v2 l3 M) (fun v4 M3 => if 0 ≤ v4 then (gR 2 0 v2 M3).bind (fun v5 => (aR 19 v5 v4 M3).bind (fun v6 => if l2 = (2 : Int32) then (gI 1 1 v6 M3).bind (fun v7 => if v7 = (2 : Int32) then (pI 1 5 v6 (4 : Int32) M3).bind (fun M8 => (f_X7_sendRelease l0 l1 v6 M8).bind (fun M9 => okZ (1 : Int32) M9)) else f_X7_takeAnswer_J63 l0 l1 l2 v2 v4 v6 M3) else f_X7_takeAnswer_J63 l0 l1 l2 v2 v4 v6 M3)) else okZ (0 : Int32) M3))) else none
def f_X7_resendLate_L10 : Nat → Nat → Nat → Nat → Int32 → Mem → Option Mem
  | 0, _, _, _, _, _ => none
  | n + 1, l0, l1, l2, l3, M => (gI 2 1 l2 M).bind (fun v1 => if v1 ≤ l3 then some M else (gR 2 0 l2 M).bind (fun v2 => (aN v2 M).bind (fun v3 => if v3 ≤ l3 then some M else (gI 7 9 l0 M).bind (fun v4 => (gR 2 0 l2 M).bind (fun v5 => (aR 19 v5 l3 M).bind (fun v6 => (gI 1 6 v6 M).bind (fun v7 => (gR 7 6 l0 M).bind (fun v8 => (aI 13 v8 (1 : Int32) M).bind (fun v9 => if (v4 - v7) < v9 then f_X7_resendLate_L10 n l0 l1 l2 (l3 + 1) M else (gR 2 0 l2 M).bind (fun v10 => (aR 19 v10 l3 M).bind (fun v11 => (f_X7_resend l0 l1 v11 M).bind (fun M12 => f_X7_resendLate_L10 n l0 l1 l2 (l3 + 1) M12))))))))))))
def f_X7_resendLate (l0 : Nat) (l1 : Nat) (M : Mem) : Option Mem :=
  if (mK M l0).1 = 7 then (gR 0 5 l1 M).bind (fun v1 => (gR 5 8 v1 M).bind (fun v2 => f_X7_resendLate_L10 FU l0 l1 v2 (0 : Int32) M)) else none
def f_X7_expire_J29 (l0 : Nat) (l1 : Int32) (l2 : Nat) (s0 : Int32) (M : Mem) : Option Mem :=
  if s0 = 0 then some M else (gI 7 9 l0 M).bind (fun v1 => (gR 0 5 l2 M).bind (fun v2 => (gI 5 2 v2 M).bind (fun v3 => (gR 7 6 l0 M).bind (fun v4 => (aI 13 v4 (2 : Int32) M).bind (fun v5 => if (v1 - v3) < v5 then some M else (f_X7_removeSession l0 l1 M).bind (fun M6 => (gR 7 7 l0 M6).bind (fun v7 => (aI 13 v7 (7 : Int32) M6).bind (fun v8 => (wI 13 v7 (7 : Int32) (v8 + (1 : Int32)) M6).bind (fun M9 => some M9)))))))))
def f_X7_expire_J28 (l0 : Nat) (l1 : Int32) (l2 : Nat) (M : Mem) : Option Mem :=
  f_X7_expire_J29 l0 l1 l2 (0 : Int32) M
def f_X7_expire (l0 : Nat) (l1 : Int32) (M : Mem) : Option Mem :=
  if (mK M l0).1 = 7 then (gR 7 1 l0 M).bind (fun v1 => (aR 18 v1 l1 M).bind (fun v2 => (gR 0 5 v2 M).bind (fun v3 => (gI 5 0 v3 M).bind (fun v4 => if v4 = 0 then f_X7_expire_J28 l0 l1 v2 M else (gI 0 0 v2 M).bind (fun v5 => if v5 = 0 then f_X7_expire_J29 l0 l1 v2 (1 : Int32) M else f_X7_expire_J28 l0 l1 v2 M))))) else none
def f_X7_tick_L105 : Nat → Nat → Int32 → Mem → Option Mem
  | 0, _, _, _ => none
  | n + 1, l0, l1, M => if (6 : Int32) ≤ l1 then some M else (f_X7_expire l0 l1 M).bind (fun M1 => f_X7_tick_L105 n l0 (l1 + 1) M1)
def f_X7_tick_L57 : Nat → Nat → Int32 → Mem → Option Mem
  | 0, _, _, _ => none
  | n + 1, l0, l1, M => if (6 : Int32) ≤ l1 then f_X7_tick_L105 FU l0 (0 : Int32) M else (gR 7 1 l0 M).bind (fun v1 => (aR 18 v1 l1 M).bind (fun v2 => (gF 0 6 v2 M).bind (fun v3 => (fmulO v3 (1061158912 : UInt32)).bind (fun v4 => (gI 0 7 v2 M).bind (fun v5 => (fmulO (FP.i2f v5) (1048576000 : UInt32)).bind (fun v6 => (faddO v4 v6).bind (fun v7 => (pF 0 6 v2 v7 M).bind (fun M8 => (pI 0 7 v2 (0 : Int32) M8).bind (fun M9 => f_X7_tick_L57 n l0 (l1 + 1) M9)))))))))
def f_X7_tick_L12 : Nat → Nat → Int32 → Mem → Option Mem
  | 0, _, _, _ => none
  | n + 1, l0, l1, M => if (6 : Int32) ≤ l1 then f_X7_tick_L57 FU l0 (0 : Int32) M else (gR 7 1 l0 M).bind (fun v1 => (aR 18 v1 l1 M).bind (fun v2 => (gI 0 0 v2 M).bind (fun v3 => if v3 = 0 then f_X7_tick_L12 n l0 (l1 + 1) M else (gR 7 6 l0 M).bind (fun v4 => (aI 13 v4 (1 : Int32) M).bind (fun v5 => if v5 = 0 then f_X7_tick_L12 n l0 (l1 + 1) M else (gR 7 1 l0 M).bind (fun v6 => (aR 18 v6 l1 M).bind (fun v7 => (f_X7_resendLate l0 v7 M).bind (fun M8 => f_X7_tick_L12 n l0 (l1 + 1) M8))))))))
def f_X7_tick (l0 : Nat) (M : Mem) : Option Mem :=
  if (mK M l0).1 = 7 then (gI 7 9 l0 M).bind (fun v1 => (pI 7 9 l0 (v1 + (1 : Int32)) M).bind (fun M2 => f_X7_tick_L12 FU l0 (0 : Int32) M2)) else none
def f_X10_init_J165 (s0 : Int32) (s1 : Nat) (M : Mem) : Option Mem :=
  (pI 10 4 s1 s0 M).bind (fun M1 => some M1)
def f_X10_init_J141 (l0 : Nat) (s0 : Int32) (s1 : Nat) (M : Mem) : Option Mem :=
  (pZ 10 3 s1 s0 M).bind (fun M1 => (gI 10 3 l0 M1).bind (fun v2 => if v2 = 0 then (gI 10 2 l0 M1).bind (fun v3 => f_X10_init_J165 v3 l0 M1) else (gI 10 2 l0 M1).bind (fun v3 => f_X10_init_J165 (v3 - (1 : Int32)) l0 M1)))
def f_X10_init_J140 (l0 : Nat) (s0 : Nat) (M : Mem) : Option Mem :=
  f_X10_init_J141 l0 (0 : Int32) s0 M
def f_X10_init_J117 (l0 : Nat) (l3 : Int32) (l4 : Nat) (s0 : Int32) (s1 : Nat) (M : Mem) : Option Mem :=
  (pI 10 2 s1 s0 M).bind (fun M1 => if l3 ≤ 0 then f_X10_init_J140 l0 l0 M1 else (aI 16 l4 (l3 - (1 : Int32)) M1).bind (fun v2 => if v2 = (35 : Int32) then f_X10_init_J141 l0 (1 : Int32) l0 M1 else f_X10_init_J140 l0 l0 M1))
def f_X10_init_L31 : Nat → Nat → Nat → Int32 → Nat → Nat → Int32 → Int32 → Mem → Option Mem
  | 0, _, _, _, _, _, _, _, _ => none
  | n + 1, l0, l1, l3, l4, l5, l6, l7, M => if l3 ≤ l7 then (pR 10 0 l0 l4 M).bind (fun M1 => (pR 10 1 l0 l5 M1).bind (fun M2 => if l3 = 0 then f_X10_init_J117 l0 l3 l4 (0 : Int32) l0 M2 else f_X10_init_J117 l0 l3 l4 (l6 + (1 : Int32)) l0 M2)) else (aI 16 l1 l7 M).bind (fun v1 => (wI 16 l4 l7 v1 M).bind (fun M2 => if v1 = (47 : Int32) then f_X10_init_L31 n l0 l1 l3 l4 l5 (l6 + 1) (l7 + 1) M2 else if (4 : Int32) ≤ l6 then f_X10_init_L31 n l0 l1 l3 l4 l5 l6 (l7 + 1) M2 else (aL l5 l6 M2).bind (fun v3 => (wL l5 l6 ((lshlE v3 (7 : Int32)) ||| (v1.toInt64)) M2).bind (fun M4 => f_X10_init_L31 n l0 l1 l3 l4 l5 l6 (l7 + 1) M4))))
def f_X10_init (l0 : Nat) (l1 : Nat) (l2 : Int32) (M : Mem) : Option Mem :=
  (aN l1 M).bind (fun v1 => bindP (nA 16 (imaxE (0 : Int32) (iminE l2 v1)) M) (fun v2 M3 => bindP (nA 14 (4 : Int32) M3) (fun v4 M5 => f_X10_init_L31 FU l0 l1 (imaxE (0 : Int32) (iminE l2 v1)) v2 v4 (0 : Int32) (0 : Int32) M5)))
def f_X10_isPlain_J12 (l0 : Int32) (M : Mem) : Option (Int32 × Mem) :=
  if l0 < (48 : Int32) then okZ (0 : Int32) M else if (57 : Int32) < l0 then okZ (0 : Int32) M else okZ (1 : Int32) M
def f_X10_isPlain (l0 : Int32) (M : Mem) : Option (Int32 × Mem) :=
  if l0 < (97 : Int32) then f_X10_isPlain_J12 l0 M else if l0 ≤ (122 : Int32) then okZ (1 : Int32) M else f_X10_isPlain_J12 l0 M
def f_X10_findError_J137 (l1 : Int32) (l4 : Int32) (M : Mem) : Option (Int32 × Mem) :=
  if l4 = 0 then some (l1, M) else some ((-1 : Int32), M)
def f_X10_findError_J83 (k11 : Nat → Int32 → Int32 → Int32 → Int32 → Int32 → Int32 → Mem → Option (Int32 × Mem)) (l0 : Nat) (l1 : Int32) (l2 : Int32) (l3 : Int32) (l4 : Int32) (l6 : Int32) (l7 : Int32) (M : Mem) : Option (Int32 × Mem) :=
  if l2 = 0 then some (l6, M) else if l4 = 0 then k11 l0 l1 l2 l3 (1 : Int32) l7 (l6 + 1) M else some (l6, M)
def f_X10_findError_L11 : Nat → Nat → Int32 → Int32 → Int32 → Int32 → Int32 → Int32 → Mem → Option (Int32 × Mem)
  | 0, _, _, _, _, _, _, _, _ => none
  | n + 1, l0, l1, l2, l3, l4, l5, l6, M => if l1 ≤ l6 then f_X10_findError_J137 l1 l4 M else (aN l0 M).bind (fun v1 => if v1 ≤ l6 then f_X10_findError_J137 l1 l4 M else (aI 16 l0 l6 M).bind (fun v2 => if v2 = (47 : Int32) then if l4 = 0 then some (l6, M) else if l5 = (35 : Int32) then some (l6, M) else if l3 = (4 : Int32) then some (l6, M) else f_X10_findError_L11 n l0 l1 l2 (l3 + 1) (0 : Int32) (0 : Int32) (l6 + 1) M else if v2 = (43 : Int32) then f_X10_findError_J83 (f_X10_findError_L11 n) l0 l1 l2 l3 l4 l6 v2 M else if v2 = (35 : Int32) then f_X10_findError_J83 (f_X10_findError_L11 n) l0 l1 l2 l3 l4 l6 v2 M else bindP (f_X10_isPlain v2 M) (fun v4 M3 => if v4 = 0 then some (l6, M3) else if l5 = 0 then if l4 = (6 : Int32) then some (l6, M3) else f_X10_findError_L11 n l0 l1 l2 l3 (l4 + 1) l5 (l6 + 1) M3 else some (l6, M3))))
def f_X10_findError (l0 : Nat) (l1 : Int32) (l2 : Int32) (M : Mem) : Option (Int32 × Mem) :=
  f_X10_findError_L11 FU l0 l1 l2 (1 : Int32) (0 : Int32) (0 : Int32) (0 : Int32) M
def f_X11_init (l0 : Nat) (M : Mem) : Option Mem :=
  bindP (nO 10 5 M) (fun v1 M2 => bindP (nA 16 (0 : Int32) M2) (fun v3 M4 => (f_X10_init v1 v3 (0 : Int32) M4).bind (fun M5 => bindP (nA 16 (30 : Int32) M5) (fun v6 M7 => (pR 11 0 l0 v6 M7).bind (fun M8 => (pI 11 2 l0 (-1 : Int32) M8).bind (fun M9 => bindP (nO 3 6 M9) (fun v10 M11 => (f_X3_init v10 v1 M11).bind (fun M12 => (pR 11 4 l0 v10 M12).bind (fun M13 => bindP (nO 1 7 M13) (fun v14 M15 => (f_X1_init v14 v1 M15).bind (fun M16 => (pR 11 5 l0 v14 M16).bind (fun M17 => bindP (nO 7 11 M17) (fun v18 M19 => (f_X7_init v18 v1 M19).bind (fun M20 => (pR 11 6 l0 v18 M20).bind (fun M21 => bindP (nO 7 11 M21) (fun v22 M23 => (f_X7_init v22 v1 M23).bind (fun M24 => (pR 11 8 l0 v22 M24).bind (fun M25 => some M25))))))))))))))))))
def f_X11_append_L76 : Nat → Nat → Int32 → Int32 → Mem → Option ((Int32 ⊕ Nat) × Mem)
  | 0, _, _, _, _ => none
  | n + 1, l0, l1, l3, M => if l3 < 0 then (gI 11 1 l0 M).bind (fun v1 => some (.inl v1, M)) else if ((iushrE l1 l3) &&& (255 : Int32)) = 0 then f_X11_append_L76 n l0 l1 (l3 + (-8)) M else (gI 11 1 l0 M).bind (fun v1 => if v1 < 0 then f_X11_append_L76 n l0 l1 (l3 + (-8)) M else (gI 11 1 l0 M).bind (fun v2 => (gR 11 0 l0 M).bind (fun v3 => (aN v3 M).bind (fun v4 => if v4 ≤ v2 then f_X11_append_L76 n l0 l1 (l3 + (-8)) M else (gR 11 0 l0 M).bind (fun v5 => (gI 11 1 l0 M).bind (fun v6 => (wI 16 v5 v6 (i2cE ((iushrE l1 l3) &&& (255 : Int32))) M).bind (fun M7 => (gI 11 1 l0 M7).bind (fun v8 => (pI 11 1 l0 (v8 + (1 : Int32)) M7).bind (fun M9 => f_X11_append_L76 n l0 l1 (l3 + (-8)) M9)))))))))
def f_X11_append_J37 (M : Mem) : Option ((Int32 ⊕ Nat) × Mem) :=
  some (.inr 1, xM M)
def f_X11_append_L5 : Nat → Nat → Int32 → Int32 → Int32 → Mem → Option ((Int32 ⊕ Nat) × Mem)
  | 0, _, _, _, _, _ => none
  | n + 1, l0, l1, l2, l3, M => if l3 < 0 then (gI 11 1 l0 M).bind (fun v1 => if (v1 + l2) ≤ (30 : Int32) then f_X11_append_L76 FU l0 l1 (24 : Int32) M else some (.inr 2, xM M)) else if ((iushrE l1 l3) &&& (255 : Int32)) = 0 then f_X11_append_L5 n l0 l1 l2 (l3 + (-8)) M else if ((iushrE l1 l3) &&& (255 : Int32)) < (33 : Int32) then f_X11_append_J37 M else if ((iushrE l1 l3) &&& (255 : Int32)) ≤ (126 : Int32) then f_X11_append_L5 n l0 l1 (l2 + 1) (l3 + (-8)) M else f_X11_append_J37 M
def f_X11_append (l0 : Nat) (l1 : Int32) (M : Mem) : Option ((Int32 ⊕ Nat) × Mem) :=
  if (mK M l0).1 = 11 then f_X11_append_L5 FU l0 l1 (0 : Int32) (24 : Int32) M else none
def f_X11_errorPosition (l0 : Nat) (M : Mem) : Option (Int32 × Mem) :=
  if (mK M l0).1 = 11 then (gI 11 2 l0 M).bind (fun v1 => some (v1, M)) else none
def f_X11_setOption_J38 (M : Mem) : Option ((Int32 ⊕ Nat) × Mem) :=
  some (.inr 1, xM M)
def f_X11_setOption_J12 (M : Mem) : Option ((Int32 ⊕ Nat) × Mem) :=
  some (.inr 3, xM M)
def f_X11_setOption (l0 : Nat) (l1 : Int32) (l2 : Int32) (M : Mem) : Option ((Int32 ⊕ Nat) × Mem) :=
  if (mK M l0).1 = 11 then if l1 < 0 then f_X11_setOption_J12 M else if l1 < (4 : Int32) then (stI 0 l1).bind (fun v1 => if l2 < v1 then f_X11_setOption_J38 M else (stI 1 l1).bind (fun v2 => if l2 ≤ v2 then (gR 11 6 l0 M).bind (fun v3 => (gR 7 6 v3 M).bind (fun v4 => (aI 13 v4 l1 M).bind (fun v5 => (gR 11 6 l0 M).bind (fun v6 => (gR 7 6 v6 M).bind (fun v7 => (wI 13 v7 l1 l2 M).bind (fun M8 => some (.inl v5, M8))))))) else f_X11_setOption_J38 M)) else f_X11_setOption_J12 M else none
def f_X11_requireClient_J10 (M : Mem) : Option ((Unit ⊕ Nat) × Mem) :=
  some (.inr 3, xM M)
def f_X11_requireClient (l0 : Int32) (M : Mem) : Option ((Unit ⊕ Nat) × Mem) :=
  if l0 < 0 then f_X11_requireClient_J10 M else if l0 < (6 : Int32) then some (.inl (), M) else f_X11_requireClient_J10 M
def f_X11_connect_J65 (l0 : Nat) (l2 : Int32) (l3 : Nat) (M : Mem) : Option ((Int32 ⊕ Nat) × Mem) :=
  (pZ 0 0 l3 (1 : Int32) M).bind (fun M1 => (gR 0 5 l3 M1).bind (fun v2 => (gI 5 0 v2 M1).bind (fun v3 => if v3 = 0 then (gR 0 5 l3 M1).bind (fun v4 => (f_X5_begin v4 l2 M1).bind (fun M5 => some (.inl (0 : Int32), M5))) else (gR 11 6 l0 M1).bind (fun v4 => (f_X7_resume v4 l3 M1).bind (fun M5 => some (.inl (1 : Int32), M5))))))
def f_X11_connect_J43 (l0 : Nat) (l1 : Int32) (l2 : Int32) (l3 : Nat) (M : Mem) : Option ((Int32 ⊕ Nat) × Mem) :=
  if l2 = 0 then f_X11_connect_J65 l0 l2 l3 M else (gR 0 5 l3 M).bind (fun v1 => (gI 5 0 v1 M).bind (fun v2 => if v2 = 0 then f_X11_connect_J65 l0 l2 l3 M else (gR 11 6 l0 M).bind (fun v3 => (f_X7_removeSession v3 l1 M).bind (fun M4 => f_X11_connect_J65 l0 l2 l3 M4))))
def f_X11_connect (l0 : Nat) (l1 : Int32) (l2 : Int32) (M : Mem) : Option ((Int32 ⊕ Nat) × Mem) :=
  if (mK M l0).1 = 11 then bindX (f_X11_requireClient l1 M) (fun _ M1 => (gR 11 6 l0 M1).bind (fun v3 => (gR 7 1 v3 M1).bind (fun v4 => (aR 18 v4 l1 M1).bind (fun v5 => (gI 0 0 v5 M1).bind (fun v6 => if v6 = 0 then f_X11_connect_J43 l0 l1 l2 v5 M1 else (gR 11 6 l0 M1).bind (fun v7 => (gR 7 7 v7 M1).bind (fun v8 => (aI 13 v8 (5 : Int32) M1).bind (fun v9 => (wI 13 v8 (5 : Int32) (v9 + (1 : Int32)) M1).bind (fun M10 => (gR 11 6 l0 M10).bind (fun v11 => bindP (f_X7_failConnection v11 l1 M10) (fun v13 M12 => f_X11_connect_J43 l0 l1 l2 v5 M12))))))))))) else none
def f_X11_requireConnection (l0 : Nat) (l1 : Int32) (M : Mem) : Option ((Unit ⊕ Nat) × Mem) :=
  if (mK M l0).1 = 11 then (gR 11 6 l0 M).bind (fun v1 => (gR 7 1 v1 M).bind (fun v2 => (aR 18 v2 l1 M).bind (fun v3 => (gI 0 0 v3 M).bind (fun v4 => if v4 = 0 then some (.inr 2, xM M) else some (.inl (), M))))) else none
def f_X11_breakConnection (l0 : Nat) (l1 : Int32) (M : Mem) : Option ((Int32 ⊕ Nat) × Mem) :=
  if (mK M l0).1 = 11 then bindX (f_X11_requireClient l1 M) (fun _ M1 => bindX (f_X11_requireConnection l0 l1 M1) (fun _ M3 => (gR 11 6 l0 M3).bind (fun v5 => bindP (f_X7_failConnection v5 l1 M3) (fun v7 M6 => some (.inl v7, M6))))) else none
def f_X11_takeBuffer (l0 : Nat) (M : Mem) : Option (Int32 × Mem) :=
  if (mK M l0).1 = 11 then (gI 11 1 l0 M).bind (fun v1 => (pI 11 1 l0 (0 : Int32) M).bind (fun M2 => some (v1, M2))) else none
def f_X11_readText (l0 : Nat) (l1 : Int32) (l2 : Int32) (M : Mem) : Option ((Nat ⊕ Nat) × Mem) :=
  if (mK M l0).1 = 11 then (gR 11 0 l0 M).bind (fun v1 => bindP (f_X10_findError v1 l1 l2 M) (fun v3 M2 => (pI 11 2 l0 v3 M2).bind (fun M4 => (gI 11 2 l0 M4).bind (fun v5 => if v5 < 0 then bindP (nO 10 5 M4) (fun v6 M7 => (gR 11 0 l0 M7).bind (fun v8 => (f_X10_init v6 v8 l1 M7).bind (fun M9 => some (.inl v6, M9)))) else some (.inr 1, xM M4))))) else none
def f_X11_readTopic (l0 : Nat) (l1 : Int32) (M : Mem) : Option ((Nat ⊕ Nat) × Mem) :=
  if (mK M l0).1 = 11 then bindX (f_X11_readText l0 l1 (0 : Int32) M) (fun v2 M1 => some (.inl v2, M1)) else none
def f_X11_requireRange_J10 (M : Mem) : Option ((Unit ⊕ Nat) × Mem) :=
  some (.inr 1, xM M)
def f_X11_requireRange (l0 : Int32) (l1 : Int32) (l2 : Int32) (M : Mem) : Option ((Unit ⊕ Nat) × Mem) :=
  if l0 < l1 then f_X11_requireRange_J10 M else if l0 ≤ l2 then some (.inl (), M) else f_X11_requireRange_J10 M
def f_X11_setWill (l0 : Nat) (l1 : Int32) (l2 : Int32) (l3 : Int32) (l4 : Int32) (M : Mem) : Option ((Int32 ⊕ Nat) × Mem) :=
  if (mK M l0).1 = 11 then bindP (f_X11_takeBuffer l0 M) (fun v2 M1 => bindX (f_X11_requireClient l1 M1) (fun _ M3 => bindX (f_X11_readTopic l0 v2 M3) (fun v6 M5 => bindX (f_X11_requireRange l2 (0 : Int32) (2 : Int32) M5) (fun _ M7 => bindX (f_X11_requireRange l4 (0 : Int32) (9999 : Int32) M7) (fun _ M9 => bindX (f_X11_requireConnection l0 l1 M9) (fun _ M11 => (gR 11 6 l0 M11).bind (fun v13 => (gR 7 1 v13 M11).bind (fun v14 => (aR 18 v14 l1 M11).bind (fun v15 => (gI 0 1 v15 M11).bind (fun v16 => (pZ 0 1 v15 (1 : Int32) M11).bind (fun M17 => (pZ 0 2 v15 l3 M17).bind (fun M18 => (gR 0 3 v15 M18).bind (fun v19 => (f_X1_fill v19 v6 l2 l4 M18).bind (fun M20 => if v16 = 0 then some (.inl (0 : Int32), M20) else some (.inl (1 : Int32), M20))))))))))))))) else none
def f_X11_sessionState (l0 : Nat) (l1 : Int32) (M : Mem) : Option ((Int32 ⊕ Nat) × Mem) :=
  if (mK M l0).1 = 11 then bindX (f_X11_requireClient l1 M) (fun _ M1 => (gR 11 6 l0 M1).bind (fun v3 => (gR 7 1 v3 M1).bind (fun v4 => (aR 18 v4 l1 M1).bind (fun v5 => (gR 0 5 v5 M1).bind (fun v6 => (gI 5 0 v6 M1).bind (fun v7 => if v7 = 0 then some (.inl (0 : Int32), M1) else (gI 0 0 v5 M1).bind (fun v8 => if v8 = 0 then some (.inl (1 : Int32), M1) else (gR 0 5 v5 M1).bind (fun v9 => (gI 5 1 v9 M1).bind (fun v10 => if v10 = 0 then some (.inl (2 : Int32), M1) else some (.inl (3 : Int32), M1)))))))))) else none
def f_X11_readFilter (l0 : Nat) (l1 : Int32) (M : Mem) : Option ((Nat ⊕ Nat) × Mem) :=
  if (mK M l0).1 = 11 then bindX (f_X11_readText l0 l1 (1 : Int32) M) (fun v2 M1 => some (.inl v2, M1)) else none
def f_X11_subscribe_J233 (l7 : Nat) (M : Mem) : Option ((Int32 ⊕ Nat) × Mem) :=
  (gI 5 7 l7 M).bind (fun v1 => some (.inl v1, M))
def f_X11_subscribe_J211 (l0 : Nat) (l1 : Int32) (l2 : Int32) (l3 : Int32) (l6 : Nat) (l7 : Nat) (s0 : Int32) (M : Mem) : Option ((Int32 ⊕ Nat) × Mem) :=
  if l3 = 0 then if s0 = 0 then f_X11_subscribe_J233 l7 M else (gR 11 6 l0 M).bind (fun v1 => (f_X7_giveRetained v1 l1 l6 l2 M).bind (fun M2 => f_X11_subscribe_J233 l7 M2)) else f_X11_subscribe_J233 l7 M
def f_X11_subscribe_J210 (l0 : Nat) (l1 : Int32) (l2 : Int32) (l3 : Int32) (l6 : Nat) (l7 : Nat) (M : Mem) : Option ((Int32 ⊕ Nat) × Mem) :=
  f_X11_subscribe_J211 l0 l1 l2 l3 l6 l7 (0 : Int32) M
def f_X11_subscribe_J206 (l0 : Nat) (l1 : Int32) (l2 : Int32) (l3 : Int32) (l6 : Nat) (l7 : Nat) (M : Mem) : Option ((Int32 ⊕ Nat) × Mem) :=
  f_X11_subscribe_J211 l0 l1 l2 l3 l6 l7 (1 : Int32) M
def f_X11_subscribe_J187 (l0 : Nat) (l1 : Int32) (l2 : Int32) (l3 : Int32) (l4 : Int32) (l6 : Nat) (l7 : Nat) (l9 : Int32) (M : Mem) : Option ((Int32 ⊕ Nat) × Mem) :=
  if (l4 &&& (2 : Int32)) = 0 then if l9 = 0 then if (l4 &&& (4 : Int32)) = 0 then f_X11_subscribe_J206 l0 l1 l2 l3 l6 l7 M else f_X11_subscribe_J210 l0 l1 l2 l3 l6 l7 M else f_X11_subscribe_J206 l0 l1 l2 l3 l6 l7 M else f_X11_subscribe_J210 l0 l1 l2 l3 l6 l7 M
def f_X11_subscribe_J146 (l0 : Nat) (l1 : Int32) (l2 : Int32) (l3 : Int32) (l4 : Int32) (l6 : Nat) (l7 : Nat) (l8 : Int32) (l9 : Int32) (M : Mem) : Option ((Int32 ⊕ Nat) × Mem) :=
  if l8 < 0 then f_X11_subscribe_J187 l0 l1 l2 l3 l4 l6 l7 l9 M else (gR 5 6 l7 M).bind (fun v1 => (aN v1 M).bind (fun v2 => if v2 ≤ l8 then f_X11_subscribe_J187 l0 l1 l2 l3 l4 l6 l7 l9 M else (gR 5 6 l7 M).bind (fun v3 => (aR 22 v3 l8 M).bind (fun v4 => (pI 8 2 v4 l2 M).bind (fun M5 => (gR 5 6 l7 M5).bind (fun v6 => (aR 22 v6 l8 M5).bind (fun v7 => (pI 8 3 v7 l4 M5).bind (fun M8 => f_X11_subscribe_J187 l0 l1 l2 l3 l4 l6 l7 l9 M8))))))))
def f_X11_subscribe_J121 (l0 : Nat) (l1 : Int32) (l2 : Int32) (l3 : Int32) (l4 : Int32) (l6 : Nat) (l7 : Nat) (l8 : Int32) (l9 : Int32) (M : Mem) : Option ((Int32 ⊕ Nat) × Mem) :=
  if l9 = 0 then f_X11_subscribe_J146 l0 l1 l2 l3 l4 l6 l7 l8 l9 M else (gR 11 6 l0 M).bind (fun v1 => (f_X7_addSubscription v1 l1 l6 l3 M).bind (fun M2 => (gI 5 7 l7 M2).bind (fun v3 => f_X11_subscribe_J146 l0 l1 l2 l3 l4 l6 l7 (v3 - (1 : Int32)) l9 M2)))
def f_X11_subscribe_J96 (l0 : Nat) (l1 : Int32) (l2 : Int32) (l3 : Int32) (l4 : Int32) (l6 : Nat) (l7 : Nat) (l8 : Int32) (s0 : Int32) (M : Mem) : Option ((Int32 ⊕ Nat) × Mem) :=
  if s0 = 0 then f_X11_subscribe_J121 l0 l1 l2 l3 l4 l6 l7 l8 s0 M else (gI 5 7 l7 M).bind (fun v1 => if v1 < (6 : Int32) then f_X11_subscribe_J121 l0 l1 l2 l3 l4 l6 l7 l8 s0 M else some (.inr 2, xM M))
def f_X11_subscribe_J57 (l0 : Nat) (l1 : Int32) (l2 : Int32) (l3 : Int32) (l4 : Int32) (l6 : Nat) (M : Mem) : Option ((Int32 ⊕ Nat) × Mem) :=
  bindX (f_X11_requireConnection l0 l1 M) (fun _ M1 => (gR 11 6 l0 M1).bind (fun v3 => (gR 7 1 v3 M1).bind (fun v4 => (aR 18 v4 l1 M1).bind (fun v5 => (gR 0 5 v5 M1).bind (fun v6 => bindP (f_X5_placeOf v6 l6 l3 M1) (fun v8 M7 => if 0 ≤ v8 then f_X11_subscribe_J96 l0 l1 l2 l3 l4 l6 v6 v8 (0 : Int32) M7 else f_X11_subscribe_J96 l0 l1 l2 l3 l4 l6 v6 v8 (1 : Int32) M7))))))
def f_X11_subscribe (l0 : Nat) (l1 : Int32) (l2 : Int32) (l3 : Int32) (l4 : Int32) (M : Mem) : Option ((Int32 ⊕ Nat) × Mem) :=
  if (mK M l0).1 = 11 then bindP (f_X11_takeBuffer l0 M) (fun v2 M1 => bindX (f_X11_requireClient l1 M1) (fun _ M3 => bindX (f_X11_readFilter l0 v2 M3) (fun v6 M5 => bindX (f_X11_requireRange l2 (0 : Int32) (2 : Int32) M5) (fun _ M7 => bindX (f_X11_requireRange l3 (0 : Int32) (3 : Int32) M7) (fun _ M9 => bindX (f_X11_requireRange l4 (0 : Int32) (7 : Int32) M9) (fun _ M11 => if l3 = 0 then f_X11_subscribe_J57 l0 l1 l2 l3 l4 v6 M11 else if (l4 &&& (1 : Int32)) = 0 then f_X11_subscribe_J57 l0 l1 l2 l3 l4 v6 M11 else some (.inr 1, xM M11))))))) else none
def f_X11_unsubscribe (l0 : Nat) (l1 : Int32) (l2 : Int32) (M : Mem) : Option ((Int32 ⊕ Nat) × Mem) :=
  if (mK M l0).1 = 11 then bindP (f_X11_takeBuffer l0 M) (fun v2 M1 => bindX (f_X11_requireClient l1 M1) (fun _ M3 => bindX (f_X11_readFilter l0 v2 M3) (fun v6 M5 => bindX (f_X11_requireRange l2 (0 : Int32) (3 : Int32) M5) (fun _ M7 => bindX (f_X11_requireConnection l0 l1 M7) (fun _ M9 => (gR 11 6 l0 M9).bind (fun v11 => bindP (f_X7_removeSubscription v11 l1 v6 l2 M9) (fun v13 M12 => if v13 = 0 then some (.inl (0 : Int32), M12) else some (.inl (1 : Int32), M12)))))))) else none
def f_X11_requireSubscription_J34 (M : Mem) : Option ((Unit ⊕ Nat) × Mem) :=
  some (.inr 3, xM M)
def f_X11_requireSubscription (l0 : Nat) (l1 : Int32) (l2 : Int32) (M : Mem) : Option ((Unit ⊕ Nat) × Mem) :=
  if (mK M l0).1 = 11 then (gR 11 6 l0 M).bind (fun v1 => (gR 7 1 v1 M).bind (fun v2 => (aR 18 v2 l1 M).bind (fun v3 => (gR 0 5 v3 M).bind (fun v4 => if l2 < 0 then f_X11_requireSubscription_J34 M else (gI 5 7 v4 M).bind (fun v5 => if v5 ≤ l2 then f_X11_requireSubscription_J34 M else (gR 5 6 v4 M).bind (fun v6 => (aN v6 M).bind (fun v7 => if l2 < v7 then some (.inl (), M) else f_X11_requireSubscription_J34 M))))))) else none
def f_X11_subscription (l0 : Nat) (l1 : Int32) (l2 : Int32) (l3 : Int32) (M : Mem) : Option ((Int32 ⊕ Nat) × Mem) :=
  if (mK M l0).1 = 11 then bindX (f_X11_requireClient l1 M) (fun _ M1 => bindX (f_X11_requireSubscription l0 l1 l2 M1) (fun _ M3 => (gR 11 6 l0 M3).bind (fun v5 => (gR 7 1 v5 M3).bind (fun v6 => (aR 18 v6 l1 M3).bind (fun v7 => (gR 0 5 v7 M3).bind (fun v8 => (gR 5 6 v8 M3).bind (fun v9 => (aR 22 v9 l2 M3).bind (fun v10 => if l3 = 0 then (gI 8 2 v10 M3).bind (fun v11 => some (.inl v11, M3)) else if l3 = 1 then (gI 8 1 v10 M3).bind (fun v11 => some (.inl v11, M3)) else if l3 = 2 then (gI 8 3 v10 M3).bind (fun v11 => some (.inl v11, M3)) else if l3 = 3 then (gR 8 0 v10 M3).bind (fun v11 => (gI 10 2 v11 M3).bind (fun v12 => some (.inl v12, M3))) else some (.inr 1, xM M3))))))))) else none
def f_X11_publish_J124 (l0 : Nat) (l2 : Int32) (l3 : Int32) (l8 : Nat) (l9 : Int32) (M : Mem) : Option ((Int32 ⊕ Nat) × Mem) :=
  if l2 = (2 : Int32) then (gR 0 5 l8 M).bind (fun v1 => (f_X5_keep v1 l3 M).bind (fun M2 => (gR 11 6 l0 M2).bind (fun v3 => (f_X7_sendSign v3 l8 (2 : Int32) l3 M2).bind (fun M4 => some (.inl l9, M4))))) else if l2 = (1 : Int32) then (gR 11 6 l0 M).bind (fun v1 => (f_X7_sendSign v1 l8 (1 : Int32) l3 M).bind (fun M2 => some (.inl l9, M2))) else some (.inl l9, M)
def f_X11_publish_J96 (l0 : Nat) (l1 : Int32) (l2 : Int32) (l3 : Int32) (l4 : Int32) (l5 : Int32) (l7 : Nat) (l8 : Nat) (M : Mem) : Option ((Int32 ⊕ Nat) × Mem) :=
  (gR 11 5 l0 M).bind (fun v1 => (f_X1_fill v1 l7 l2 l5 M).bind (fun M2 => (gR 11 6 l0 M2).bind (fun v3 => (gR 11 5 l0 M2).bind (fun v4 => bindP (f_X7_spread v3 l1 v4 l4 M2) (fun v6 M5 => f_X11_publish_J124 l0 l2 l3 l8 v6 M5)))))
def f_X11_publish_J35 (l0 : Nat) (l1 : Int32) (l2 : Int32) (l3 : Int32) (l4 : Int32) (l5 : Int32) (l7 : Nat) (M : Mem) : Option ((Int32 ⊕ Nat) × Mem) :=
  bindX (f_X11_requireRange l5 (0 : Int32) (9999 : Int32) M) (fun _ M1 => bindX (f_X11_requireConnection l0 l1 M1) (fun _ M3 => (gR 11 6 l0 M3).bind (fun v5 => (gR 7 1 v5 M3).bind (fun v6 => (aR 18 v6 l1 M3).bind (fun v7 => if l2 = (2 : Int32) then (gR 0 5 v7 M3).bind (fun v8 => bindP (f_X5_keeps v8 l3 M3) (fun v10 M9 => if v10 = 0 then f_X11_publish_J96 l0 l1 l2 l3 l4 l5 l7 v7 M9 else (gR 11 6 l0 M9).bind (fun v11 => (gR 7 7 v11 M9).bind (fun v12 => (aI 13 v12 (3 : Int32) M9).bind (fun v13 => (wI 13 v12 (3 : Int32) (v13 + (1 : Int32)) M9).bind (fun M14 => f_X11_publish_J124 l0 l2 l3 v7 (0 : Int32) M14)))))) else f_X11_publish_J96 l0 l1 l2 l3 l4 l5 l7 v7 M3)))))
def f_X11_publish (l0 : Nat) (l1 : Int32) (l2 : Int32) (l3 : Int32) (l4 : Int32) (l5 : Int32) (M : Mem) : Option ((Int32 ⊕ Nat) × Mem) :=
  if (mK M l0).1 = 11 then bindP (f_X11_takeBuffer l0 M) (fun v2 M1 => bindX (f_X11_requireClient l1 M1) (fun _ M3 => bindX (f_X11_readTopic l0 v2 M3) (fun v6 M5 => bindX (f_X11_requireRange l2 (0 : Int32) (2 : Int32) M5) (fun _ M7 => if l2 = 0 then f_X11_publish_J35 l0 l1 l2 l3 l4 l5 v6 M7 else bindX (f_X11_requireRange l3 (1 : Int32) (50 : Int32) M7) (fun _ M9 => f_X11_publish_J35 l0 l1 l2 l3 l4 l5 v6 M9))))) else none
def f_X11_release (l0 : Nat) (l1 : Int32) (l2 : Int32) (M : Mem) : Option ((Int32 ⊕ Nat) × Mem) :=
  if (mK M l0).1 = 11 then bindX (f_X11_requireClient l1 M) (fun _ M1 => bindX (f_X11_requireRange l2 (1 : Int32) (50 : Int32) M1) (fun _ M3 => bindX (f_X11_requireConnection l0 l1 M3) (fun _ M5 => (gR 11 6 l0 M5).bind (fun v7 => (gR 7 1 v7 M5).bind (fun v8 => (aR 18 v8 l1 M5).bind (fun v9 => (gR 0 5 v9 M5).bind (fun v10 => bindP (f_X5_keeps v10 l2 M5) (fun v12 M11 => (gR 0 5 v9 M11).bind (fun v13 => (f_X5_forget v13 l2 M11).bind (fun M14 => (gR 11 6 l0 M14).bind (fun v15 => (f_X7_sendSign v15 v9 (4 : Int32) l2 M14).bind (fun M16 => if v12 = 0 then some (.inl (0 : Int32), M16) else some (.inl (1 : Int32), M16))))))))))))) else none
def f_X11_answer_J27 (l0 : Nat) (l1 : Int32) (l2 : Int32) (l3 : Int32) (M : Mem) : Option ((Int32 ⊕ Nat) × Mem) :=
  bindX (f_X11_requireRange l3 (1 : Int32) (50 : Int32) M) (fun _ M1 => bindX (f_X11_requireConnection l0 l1 M1) (fun _ M3 => (gR 11 6 l0 M3).bind (fun v5 => (gR 11 6 l0 M3).bind (fun v6 => (gR 7 1 v6 M3).bind (fun v7 => (aR 18 v7 l1 M3).bind (fun v8 => bindP (f_X7_takeAnswer v5 v8 l2 l3 M3) (fun v10 M9 => if v10 = 0 then some (.inl (0 : Int32), M9) else some (.inl (1 : Int32), M9))))))))
def f_X11_answer (l0 : Nat) (l1 : Int32) (l2 : Int32) (l3 : Int32) (M : Mem) : Option ((Int32 ⊕ Nat) × Mem) :=
  if (mK M l0).1 = 11 then bindX (f_X11_requireClient l1 M) (fun _ M1 => if l2 = (1 : Int32) then f_X11_answer_J27 l0 l1 l2 l3 M1 else if l2 = (2 : Int32) then f_X11_answer_J27 l0 l1 l2 l3 M1 else if l2 = (4 : Int32) then f_X11_answer_J27 l0 l1 l2 l3 M1 else some (.inr 1, xM M1)) else none
def f_X11_audience (l0 : Nat) (l1 : Int32) (M : Mem) : Option ((Int32 ⊕ Nat) × Mem) :=
  if (mK M l0).1 = 11 then bindP (f_X11_takeBuffer l0 M) (fun v2 M1 => bindX (f_X11_requireClient l1 M1) (fun _ M3 => bindX (f_X11_readTopic l0 v2 M3) (fun v6 M5 => (gR 11 6 l0 M5).bind (fun v7 => bindP (f_X7_countAudience v7 l1 v6 M5) (fun v9 M8 => some (.inl v9, M8)))))) else none
def f_X11_receive (l0 : Nat) (l1 : Int32) (M : Mem) : Option ((Int32 ⊕ Nat) × Mem) :=
  if (mK M l0).1 = 11 then bindX (f_X11_requireClient l1 M) (fun _ M1 => bindX (f_X11_requireConnection l0 l1 M1) (fun _ M3 => (gR 11 6 l0 M3).bind (fun v5 => (gR 7 1 v5 M3).bind (fun v6 => (aR 18 v6 l1 M3).bind (fun v7 => (gR 0 4 v7 M3).bind (fun v8 => (gI 4 2 v8 M3).bind (fun v9 => if v9 = 0 then some (.inl (-1 : Int32), M3) else (gR 11 4 l0 M3).bind (fun v10 => bindP (f_X4_head v8 M3) (fun v12 M11 => (f_X3_copyFrom v10 v12 M11).bind (fun M13 => (pZ 11 3 l0 (1 : Int32) M13).bind (fun M14 => (f_X4_dropFirst v8 M14).bind (fun M15 => (gR 11 4 l0 M15).bind (fun v16 => (gI 3 0 v16 M15).bind (fun v17 => some (.inl v17, M15))))))))))))))) else none
def f_X11_length (l0 : Nat) (l1 : Int32) (l2 : Int32) (M : Mem) : Option ((Int32 ⊕ Nat) × Mem) :=
  if (mK M l0).1 = 11 then bindX (f_X11_requireClient l1 M) (fun _ M1 => (gR 11 6 l0 M1).bind (fun v3 => (gR 7 1 v3 M1).bind (fun v4 => (aR 18 v4 l1 M1).bind (fun v5 => if l2 = 0 then (gR 0 4 v5 M1).bind (fun v6 => (gI 4 2 v6 M1).bind (fun v7 => some (.inl v7, M1))) else if l2 = 1 then (gR 0 5 v5 M1).bind (fun v6 => (gR 5 8 v6 M1).bind (fun v7 => (gI 2 1 v7 M1).bind (fun v8 => some (.inl v8, M1)))) else if l2 = 2 then (gR 0 5 v5 M1).bind (fun v6 => (gR 5 9 v6 M1).bind (fun v7 => (gI 2 1 v7 M1).bind (fun v8 => some (.inl v8, M1)))) else if l2 = 3 then (gR 0 5 v5 M1).bind (fun v6 => (gI 5 5 v6 M1).bind (fun v7 => some (.inl v7, M1))) else if l2 = 4 then (gR 0 5 v5 M1).bind (fun v6 => (gI 5 7 v6 M1).bind (fun v7 => some (.inl v7, M1))) else some (.inr 1, xM M1))))) else none
def f_X11_inFlight_J44 (M : Mem) : Option ((Int32 ⊕ Nat) × Mem) :=
  some (.inr 3, xM M)
def f_X11_inFlight (l0 : Nat) (l1 : Int32) (l2 : Int32) (l3 : Int32) (M : Mem) : Option ((Int32 ⊕ Nat) × Mem) :=
  if (mK M l0).1 = 11 then bindX (f_X11_requireClient l1 M) (fun _ M1 => (gR 11 6 l0 M1).bind (fun v3 => (gR 7 1 v3 M1).bind (fun v4 => (aR 18 v4 l1 M1).bind (fun v5 => (gR 0 5 v5 M1).bind (fun v6 => (gR 5 8 v6 M1).bind (fun v7 => if l2 < 0 then f_X11_inFlight_J44 M1 else (gI 2 1 v7 M1).bind (fun v8 => if v8 ≤ l2 then f_X11_inFlight_J44 M1 else (gR 2 0 v7 M1).bind (fun v9 => (aN v9 M1).bind (fun v10 => if l2 < v10 then (gR 2 0 v7 M1).bind (fun v11 => (aR 19 v11 l2 M1).bind (fun v12 => if l3 = 0 then (gI 1 4 v12 M1).bind (fun v13 => some (.inl v13, M1)) else if l3 = 1 then (gI 1 1 v12 M1).bind (fun v13 => some (.inl v13, M1)) else if l3 = 2 then (gI 1 2 v12 M1).bind (fun v13 => some (.inl v13, M1)) else if l3 = 3 then (gI 1 5 v12 M1).bind (fun v13 => some (.inl v13, M1)) else if l3 = 4 then (gI 1 6 v12 M1).bind (fun v13 => some (.inl v13, M1)) else some (.inr 1, xM M1))) else f_X11_inFlight_J44 M1))))))))) else none
def f_X11_advance_L9 : Nat → Nat → Int32 → Int32 → Mem → Option ((Int32 ⊕ Nat) × Mem)
  | 0, _, _, _, _ => none
  | n + 1, l0, l1, l2, M => if l1 ≤ l2 then (gR 11 6 l0 M).bind (fun v1 => (gI 7 9 v1 M).bind (fun v2 => some (.inl v2, M))) else (gR 11 6 l0 M).bind (fun v1 => (f_X7_tick v1 M).bind (fun M2 => f_X11_advance_L9 n l0 l1 (l2 + 1) M2))
def f_X11_advance (l0 : Nat) (l1 : Int32) (M : Mem) : Option ((Int32 ⊕ Nat) × Mem) :=
  if (mK M l0).1 = 11 then bindX (f_X11_requireRange l1 (1 : Int32) (100 : Int32) M) (fun _ M1 => f_X11_advance_L9 FU l0 l1 (0 : Int32) M1) else none
def f_X11_load (l0 : Nat) (l1 : Int32) (M : Mem) : Option ((Int32 ⊕ Nat) × Mem) :=
  if (mK M l0).1 = 11 then bindX (f_X11_requireClient l1 M) (fun _ M1 => (gR 11 6 l0 M1).bind (fun v3 => (gR 7 1 v3 M1).bind (fun v4 => (aR 18 v4 l1 M1).bind (fun v5 => (gF 0 6 v5 M1).bind (fun v6 => (fmulO v6 (1148846080 : UInt32)).bind (fun v7 => some (.inl (FP.f2i v7), M1))))))) else none
def f_X11_retainedCount (l0 : Nat) (M : Mem) : Option (Int32 × Mem) :=
  if (mK M l0).1 = 11 then (gR 11 6 l0 M).bind (fun v1 => (gI 7 5 v1 M).bind (fun v2 => some (v2, M))) else none
def f_X11_retained_J27 (M : Mem) : Option ((Int32 ⊕ Nat) × Mem) :=
  some (.inr 3, xM M)
def f_X11_retained (l0 : Nat) (l1 : Int32) (l2 : Int32) (M : Mem) : Option ((Int32 ⊕ Nat) × Mem) :=
  if (mK M l0).1 = 11 then if l1 < 0 then f_X11_retained_J27 M else (gR 11 6 l0 M).bind (fun v1 => (gI 7 5 v1 M).bind (fun v2 => if v2 ≤ l1 then f_X11_retained_J27 M else (gR 11 6 l0 M).bind (fun v3 => (gR 7 4 v3 M).bind (fun v4 => (aN v4 M).bind (fun v5 => if l1 < v5 then (gR 11 6 l0 M).bind (fun v6 => (gR 7 4 v6 M).bind (fun v7 => (aR 19 v7 l1 M).bind (fun v8 => if l2 = 0 then (gI 1 1 v8 M).bind (fun v9 => some (.inl v9, M)) else if l2 = 1 then (gI 1 2 v8 M).bind (fun v9 => some (.inl v9, M)) else if l2 = 2 then (gR 1 0 v8 M).bind (fun v9 => (gR 10 0 v9 M).bind (fun v10 => (aN v10 M).bind (fun v11 => some (.inl v11, M)))) else some (.inr 1, xM M)))) else f_X11_retained_J27 M))))) else none
def f_X11_total (l0 : Nat) (l1 : Int32) (M : Mem) : Option ((Int32 ⊕ Nat) × Mem) :=
  if (mK M l0).1 = 11 then bindX (f_X11_requireRange l1 (0 : Int32) (9 : Int32) M) (fun _ M1 => (gR 11 6 l0 M1).bind (fun v3 => (gR 7 7 v3 M1).bind (fun v4 => (aI 13 v4 l1 M1).bind (fun v5 => some (.inl v5, M1))))) else none
def f_X11_save (l0 : Nat) (M : Mem) : Option (Int32 × Mem) :=
  if (mK M l0).1 = 11 then (gR 11 8 l0 M).bind (fun v1 => (gR 11 6 l0 M).bind (fun v2 => (f_X7_copyFrom v1 v2 M).bind (fun M3 => (pZ 11 7 l0 (1 : Int32) M3).bind (fun M4 => (gR 11 6 l0 M4).bind (fun v5 => (gI 7 9 v5 M4).bind (fun v6 => some (v6, M4))))))) else none
def f_X11_restore (l0 : Nat) (M : Mem) : Option ((Int32 ⊕ Nat) × Mem) :=
  if (mK M l0).1 = 11 then (gI 11 7 l0 M).bind (fun v1 => if v1 = 0 then some (.inr 2, xM M) else (gR 11 6 l0 M).bind (fun v2 => (gR 11 8 l0 M).bind (fun v3 => (f_X7_copyFrom v2 v3 M).bind (fun M4 => (gR 11 6 l0 M4).bind (fun v5 => (gI 7 9 v5 M4).bind (fun v6 => some (.inl v6, M4))))))) else none
