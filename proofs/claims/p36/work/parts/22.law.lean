/-! LIFTED: the law -/
def f_L_restore (l0 : Nat) (M : Mem) : Option (Int32 × Mem) :=
  bindH (f_X11_restore l0 M) (fun v2 M1 => some (v2, M1)) (fun e9 M1 => if e9 = 2 then some ((-1 : Int32), M1) else none)
def f_L_cell (L : Nat) (xs : Nat → Int32) (l1 : Int32) (M : Mem) : Option (Int32 × Mem) :=
  if (Int32.ofNat L) ≤ l1 then some (((40503 : Int32) * l1), M) else (scI L xs l1).bind (fun v1 => some (v1, M))
def f_L_pick (L : Nat) (xs : Nat → Int32) (l1 : Int32) (l2 : Int32) (M : Mem) : Option (Int32 × Mem) :=
  bindP (f_L_cell L xs l1 M) (fun v2 M1 => (iremO (iushrE v2 (1 : Int32)) l2).bind (fun v3 => some (v3, M1)))
def f_L_connects_J113 (s0 : Int32) (s1 : Int32) (M : Mem) : Option ((Int32 ⊕ Nat) × Mem) :=
  if s0 < s1 then okZX (0 : Int32) M else okZX (1 : Int32) M
def f_L_connects_J91 (l0 : Nat) (l1 : Int32) (l5 : Int32) (s0 : Int32) (s1 : Int32) (s2 : Int32) (M : Mem) : Option ((Int32 ⊕ Nat) × Mem) :=
  if s2 = (s1 + s0) then bindX (f_X11_length l0 l1 (4 : Int32) M) (fun v2 M1 => if l5 = (1 : Int32) then f_L_connects_J113 (6 : Int32) v2 M1 else f_L_connects_J113 (0 : Int32) v2 M1) else okZX (0 : Int32) M
def f_L_connects_J71 (l0 : Nat) (l1 : Int32) (l3 : Int32) (l4 : Int32) (l5 : Int32) (s0 : Int32) (s1 : Int32) (M : Mem) : Option ((Int32 ⊕ Nat) × Mem) :=
  if s1 = s0 then bindX (f_X11_total l0 (5 : Int32) M) (fun v2 M1 => if l3 ≤ (1 : Int32) then f_L_connects_J91 l0 l1 l5 (0 : Int32) l4 v2 M1 else f_L_connects_J91 l0 l1 l5 (1 : Int32) l4 v2 M1) else okZX (0 : Int32) M
def f_L_connects_J50 (l0 : Nat) (l1 : Int32) (l2 : Int32) (l3 : Int32) (l4 : Int32) (l5 : Int32) (s0 : Int32) (M : Mem) : Option ((Int32 ⊕ Nat) × Mem) :=
  if s0 = 0 then okZX (0 : Int32) M else bindX (f_X11_sessionState l0 l1 M) (fun v2 M1 => if l2 = 0 then f_L_connects_J71 l0 l1 l3 l4 l5 (2 : Int32) v2 M1 else f_L_connects_J71 l0 l1 l3 l4 l5 (3 : Int32) v2 M1)
def f_L_connects_J42 (l0 : Nat) (l1 : Int32) (l2 : Int32) (l3 : Int32) (l4 : Int32) (l5 : Int32) (s0 : Int32) (s1 : Int32) (M : Mem) : Option ((Int32 ⊕ Nat) × Mem) :=
  if s1 = s0 then f_L_connects_J50 l0 l1 l2 l3 l4 l5 (1 : Int32) M else f_L_connects_J50 l0 l1 l2 l3 l4 l5 (0 : Int32) M
def f_L_connects_J41 (l0 : Nat) (l1 : Int32) (l2 : Int32) (l3 : Int32) (l4 : Int32) (l5 : Int32) (s0 : Int32) (M : Mem) : Option ((Int32 ⊕ Nat) × Mem) :=
  f_L_connects_J42 l0 l1 l2 l3 l4 l5 (0 : Int32) s0 M
def f_L_connects_J37 (l0 : Nat) (l1 : Int32) (l2 : Int32) (l3 : Int32) (l4 : Int32) (l5 : Int32) (s0 : Int32) (M : Mem) : Option ((Int32 ⊕ Nat) × Mem) :=
  f_L_connects_J42 l0 l1 l2 l3 l4 l5 (1 : Int32) s0 M
def f_L_connects (l0 : Nat) (l1 : Int32) (l2 : Int32) (M : Mem) : Option ((Int32 ⊕ Nat) × Mem) :=
  bindX (f_X11_sessionState l0 l1 M) (fun v2 M1 => bindX (f_X11_total l0 (5 : Int32) M1) (fun v4 M3 => bindX (f_X11_connect l0 l1 l2 M3) (fun v6 M5 => if l2 = 0 then if v2 = (1 : Int32) then f_L_connects_J37 l0 l1 l2 v2 v4 v6 v6 M5 else if v2 = (2 : Int32) then f_L_connects_J37 l0 l1 l2 v2 v4 v6 v6 M5 else f_L_connects_J41 l0 l1 l2 v2 v4 v6 v6 M5 else f_L_connects_J41 l0 l1 l2 v2 v4 v6 v6 M5)))
def f_L_append (l0 : Nat) (l1 : Int32) (M : Mem) : Option (Int32 × Mem) :=
  bindH (f_X11_append l0 l1 M) (fun v2 M1 => some (v2, M1)) (fun e9 M1 => if e9 = 1 then some ((-1 : Int32), M1) else if e9 = 2 then some ((-2 : Int32), M1) else none)
def f_L_type_J55 (k4 : Nat → Nat → Int32 → Int32 → Mem → Option (Int32 × Mem)) (l0 : Nat) (l1 : Nat) (l2 : Int32) (l3 : Int32) (l4 : Int32) (M : Mem) : Option (Int32 × Mem) :=
  bindP (f_L_append l0 l4 M) (fun v2 M1 => (sLen l1).bind (fun v3 => if v2 = (iminE (l3 + (4 : Int32)) v3) then k4 l0 l1 (l2 &&& (1 : Int32)) (l3 + 4) M1 else k4 l0 l1 (l2 &&& (0 : Int32)) (l3 + 4) M1))
def f_L_type_L18 : Nat → (Nat → Nat → Int32 → Int32 → Mem → Option (Int32 × Mem)) → Nat → Nat → Int32 → Int32 → Int32 → Int32 → Mem → Option (Int32 × Mem)
  | 0, _, _, _, _, _, _, _, _ => none
  | n + 1, k4, l0, l1, l2, l3, l4, l5, M => if (l3 + (4 : Int32)) ≤ l5 then f_L_type_J55 k4 l0 l1 l2 l3 l4 M else (sLen l1).bind (fun v1 => if v1 ≤ l5 then f_L_type_J55 k4 l0 l1 l2 l3 l4 M else (sChr l1 l5).bind (fun v2 => f_L_type_L18 n k4 l0 l1 l2 l3 ((ishlE l4 (8 : Int32)) ||| v2) (l5 + 1) M))
def f_L_type_L4 : Nat → Nat → Nat → Int32 → Int32 → Mem → Option (Int32 × Mem)
  | 0, _, _, _, _, _ => none
  | n + 1, l0, l1, l2, l3, M => (sLen l1).bind (fun v1 => if v1 ≤ l3 then okZ l2 M else f_L_type_L18 FU (f_L_type_L4 n) l0 l1 l2 l3 (0 : Int32) l3 M)
def f_L_type (l0 : Nat) (l1 : Nat) (M : Mem) : Option (Int32 × Mem) :=
  f_L_type_L4 FU l0 l1 (1 : Int32) (0 : Int32) M
def f_L_subscribe (l0 : Nat) (l1 : Int32) (l2 : Int32) (l3 : Int32) (l4 : Int32) (M : Mem) : Option (Int32 × Mem) :=
  bindH (f_X11_subscribe l0 l1 l2 l3 l4 M) (fun v2 M1 => some (v2, M1)) (fun e9 M1 => if e9 = 3 then some ((-1 : Int32), M1) else if e9 = 1 then some ((-2 : Int32), M1) else if e9 = 2 then some ((-3 : Int32), M1) else none)
def f_L_subscribes_J75 (l6 : Int32) (l7 : Int32) (l8 : Int32) (s0 : Int32) (M : Mem) : Option ((Int32 ⊕ Nat) × Mem) :=
  if s0 = 0 then okZX (0 : Int32) M else if l7 = 0 then if l8 = (-3 : Int32) then okZX (1 : Int32) M else okZX (0 : Int32) M else if l8 = l6 then okZX (1 : Int32) M else if l8 = (l6 + (1 : Int32)) then okZX (1 : Int32) M else if l8 = (-3 : Int32) then if l6 = (6 : Int32) then okZX (1 : Int32) M else okZX (0 : Int32) M else okZX (0 : Int32) M
def f_L_subscribes_J67 (l6 : Int32) (l7 : Int32) (l8 : Int32) (s0 : Int32) (s1 : Int32) (M : Mem) : Option ((Int32 ⊕ Nat) × Mem) :=
  if s1 = s0 then f_L_subscribes_J75 l6 l7 l8 (1 : Int32) M else f_L_subscribes_J75 l6 l7 l8 (0 : Int32) M
def f_L_subscribes_J47 (l0 : Nat) (l2 : Int32) (l6 : Int32) (l7 : Int32) (s0 : Int32) (M : Mem) : Option ((Int32 ⊕ Nat) × Mem) :=
  bindX (f_X11_length l0 l2 (4 : Int32) M) (fun v2 M1 => if 0 ≤ s0 then f_L_subscribes_J67 l6 l7 s0 s0 v2 M1 else f_L_subscribes_J67 l6 l7 s0 l6 v2 M1)
def f_L_subscribes_J22 (l0 : Nat) (l1 : Nat) (l2 : Int32) (l3 : Int32) (l4 : Int32) (l5 : Int32) (l6 : Int32) (s0 : Int32) (M : Mem) : Option ((Int32 ⊕ Nat) × Mem) :=
  bindP (f_L_type l0 l1 M) (fun v2 M1 => if v2 = 0 then f_L_subscribes_J47 l0 l2 l6 s0 (-7 : Int32) M1 else bindP (f_L_subscribe l0 l2 l3 l4 l5 M1) (fun v4 M3 => f_L_subscribes_J47 l0 l2 l6 s0 v4 M3))
def f_L_subscribes (l0 : Nat) (l1 : Nat) (l2 : Int32) (l3 : Int32) (l4 : Int32) (l5 : Int32) (M : Mem) : Option ((Int32 ⊕ Nat) × Mem) :=
  bindX (f_X11_length l0 l2 (4 : Int32) M) (fun v2 M1 => bindX (f_X11_sessionState l0 l2 M1) (fun v4 M3 => if v4 ≤ (1 : Int32) then f_L_subscribes_J22 l0 l1 l2 l3 l4 l5 v2 (0 : Int32) M3 else f_L_subscribes_J22 l0 l1 l2 l3 l4 l5 v2 (1 : Int32) M3))
def f_L_unsubscribe (l0 : Nat) (l1 : Int32) (l2 : Int32) (M : Mem) : Option (Int32 × Mem) :=
  bindH (f_X11_unsubscribe l0 l1 l2 M) (fun v2 M1 => some (v2, M1)) (fun e9 M1 => if e9 = 3 then some ((-1 : Int32), M1) else if e9 = 1 then some ((-2 : Int32), M1) else if e9 = 2 then some ((-3 : Int32), M1) else none)
def f_L_breaks (l0 : Nat) (l1 : Int32) (M : Mem) : Option (Int32 × Mem) :=
  bindH (f_X11_breakConnection l0 l1 M) (fun v2 M1 => some (v2, M1)) (fun e9 M1 => if e9 = 3 then some ((-1 : Int32), M1) else if e9 = 2 then some ((-2 : Int32), M1) else none)
def f_L_setOption (l0 : Nat) (l1 : Int32) (l2 : Int32) (M : Mem) : Option (Int32 × Mem) :=
  bindH (f_X11_setOption l0 l1 l2 M) (fun v2 M1 => some (v2, M1)) (fun e9 M1 => if e9 = 3 then some ((-1 : Int32), M1) else if e9 = 1 then some ((-2 : Int32), M1) else none)
def f_L_answer (l0 : Nat) (l1 : Int32) (l2 : Int32) (l3 : Int32) (M : Mem) : Option (Int32 × Mem) :=
  bindH (f_X11_answer l0 l1 l2 l3 M) (fun v2 M1 => some (v2, M1)) (fun e9 M1 => if e9 = 3 then some ((-1 : Int32), M1) else if e9 = 1 then some ((-2 : Int32), M1) else if e9 = 2 then some ((-3 : Int32), M1) else none)
def f_L_answers_J152 (s0 : Int32) (s1 : Int32) (s2 : Int32) (M : Mem) : Option ((Int32 ⊕ Nat) × Mem) :=
  if s2 = (s1 - s0) then okZX (1 : Int32) M else okZX (0 : Int32) M
def f_L_answers_J119 (l0 : Nat) (l1 : Int32) (l4 : Int32) (l5 : Int32) (s0 : Int32) (M : Mem) : Option ((Int32 ⊕ Nat) × Mem) :=
  if s0 = 0 then okZX (0 : Int32) M else bindX (f_X11_length l0 l1 (1 : Int32) M) (fun v2 M1 => bindX (f_X11_length l0 l1 (2 : Int32) M1) (fun v4 M3 => if l5 = (2 : Int32) then f_L_answers_J152 (0 : Int32) l4 (v2 + v4) M3 else f_L_answers_J152 (1 : Int32) l4 (v2 + v4) M3))
def f_L_answers_J118 (l0 : Nat) (l1 : Int32) (l4 : Int32) (l5 : Int32) (M : Mem) : Option ((Int32 ⊕ Nat) × Mem) :=
  f_L_answers_J119 l0 l1 l4 l5 (0 : Int32) M
def f_L_answers_J110 (l0 : Nat) (l1 : Int32) (l4 : Int32) (l5 : Int32) (s0 : Int32) (s1 : Int32) (s2 : Int32) (M : Mem) : Option ((Int32 ⊕ Nat) × Mem) :=
  if s2 = (s1 + s0) then f_L_answers_J119 l0 l1 l4 l5 (1 : Int32) M else f_L_answers_J118 l0 l1 l4 l5 M
def f_L_answers_J30 (s0 : Int32) (s1 : Int32) (M : Mem) : Option ((Int32 ⊕ Nat) × Mem) :=
  if s1 = s0 then okZX (1 : Int32) M else okZX (0 : Int32) M
def f_L_answers_J13 (l0 : Nat) (l1 : Int32) (l2 : Int32) (M : Mem) : Option ((Int32 ⊕ Nat) × Mem) :=
  bindP (f_L_answer l0 l1 (1 : Int32) (1 : Int32) M) (fun v2 M1 => if l2 = 0 then f_L_answers_J30 (-3 : Int32) v2 M1 else f_L_answers_J30 (0 : Int32) v2 M1)
def f_L_answers (l0 : Nat) (l1 : Int32) (l2 : Int32) (M : Mem) : Option ((Int32 ⊕ Nat) × Mem) :=
  if l2 = 0 then f_L_answers_J13 l0 l1 l2 M else bindX (f_X11_length l0 l1 (1 : Int32) M) (fun v2 M1 => if v2 = 0 then f_L_answers_J13 l0 l1 l2 M1 else bindX (f_X11_inFlight l0 l1 (0 : Int32) (0 : Int32) M1) (fun v4 M3 => bindX (f_X11_length l0 l1 (1 : Int32) M3) (fun v6 M5 => bindX (f_X11_length l0 l1 (2 : Int32) M5) (fun v8 M7 => bindX (f_X11_inFlight l0 l1 (0 : Int32) (3 : Int32) M7) (fun v10 M9 => bindX (f_X11_total l0 (9 : Int32) M9) (fun v12 M11 => bindP (f_L_answer l0 l1 v10 v4 M11) (fun v14 M13 => if v14 = (1 : Int32) then bindX (f_X11_total l0 (9 : Int32) M13) (fun v16 M15 => if v10 = (2 : Int32) then f_L_answers_J110 l0 l1 (v6 + v8) v10 (0 : Int32) v12 v16 M15 else f_L_answers_J110 l0 l1 (v6 + v8) v10 (1 : Int32) v12 v16 M15) else f_L_answers_J118 l0 l1 (v6 + v8) v10 M13)))))))
def f_L_setWill (l0 : Nat) (l1 : Int32) (l2 : Int32) (l3 : Int32) (l4 : Int32) (M : Mem) : Option (Int32 × Mem) :=
  bindH (f_X11_setWill l0 l1 l2 l3 l4 M) (fun v2 M1 => some (v2, M1)) (fun e9 M1 => if e9 = 3 then some ((-1 : Int32), M1) else if e9 = 1 then some ((-2 : Int32), M1) else if e9 = 2 then some ((-3 : Int32), M1) else none)
def f_L_audience (l0 : Nat) (l1 : Int32) (M : Mem) : Option (Int32 × Mem) :=
  bindH (f_X11_audience l0 l1 M) (fun v2 M1 => some (v2, M1)) (fun e9 M1 => if e9 = 3 then some ((-1 : Int32), M1) else if e9 = 1 then some ((-2 : Int32), M1) else none)
def f_L_publish (l0 : Nat) (l1 : Int32) (l2 : Int32) (l3 : Int32) (l4 : Int32) (l5 : Int32) (M : Mem) : Option (Int32 × Mem) :=
  bindH (f_X11_publish l0 l1 l2 l3 l4 l5 M) (fun v2 M1 => some (v2, M1)) (fun e9 M1 => if e9 = 3 then some ((-1 : Int32), M1) else if e9 = 1 then some ((-2 : Int32), M1) else if e9 = 2 then some ((-3 : Int32), M1) else none)
def f_L_send (l0 : Nat) (l1 : Nat) (l2 : Int32) (l3 : Int32) (l4 : Int32) (l5 : Int32) (l6 : Int32) (M : Mem) : Option (Int32 × Mem) :=
  bindP (f_L_type l0 l1 M) (fun v2 M1 => if v2 = 0 then some ((-7 : Int32), M1) else bindP (f_L_publish l0 l2 l3 l4 l5 l6 M1) (fun v4 M3 => some (v4, M3)))
def f_L_release (l0 : Nat) (l1 : Int32) (l2 : Int32) (M : Mem) : Option (Int32 × Mem) :=
  bindH (f_X11_release l0 l1 l2 M) (fun v2 M1 => some (v2, M1)) (fun e9 M1 => if e9 = 3 then some ((-1 : Int32), M1) else if e9 = 1 then some ((-2 : Int32), M1) else if e9 = 2 then some ((-3 : Int32), M1) else none)
def f_L_publishes_J307 (L : Nat) (xs : Nat → Int32) (l1 : Int32) (l2 : Nat) (l3 : Int32) (l4 : Int32) (l7 : Int32) (s0 : Int32) (s1 : Int32) (M : Mem) : Option ((Int32 ⊕ Nat) × Mem) :=
  if (s1 &&& s0) = 0 then okZX (0 : Int32) M else if l4 < (2 : Int32) then okZX (1 : Int32) M else bindP (f_L_pick L xs (l1 + (2 : Int32)) (2 : Int32) M) (fun v2 M1 => if v2 = 0 then okZX (1 : Int32) M1 else bindP (f_L_release l2 l3 l7 M1) (fun v4 M3 => if v4 = (1 : Int32) then okZX (1 : Int32) M3 else okZX (0 : Int32) M3))
def f_L_publishes_J306 (L : Nat) (xs : Nat → Int32) (l1 : Int32) (l2 : Nat) (l3 : Int32) (l4 : Int32) (l7 : Int32) (s0 : Int32) (M : Mem) : Option ((Int32 ⊕ Nat) × Mem) :=
  f_L_publishes_J307 L xs l1 l2 l3 l4 l7 (0 : Int32) s0 M
def f_L_publishes_J302 (L : Nat) (xs : Nat → Int32) (l1 : Int32) (l2 : Nat) (l3 : Int32) (l4 : Int32) (l7 : Int32) (s0 : Int32) (M : Mem) : Option ((Int32 ⊕ Nat) × Mem) :=
  f_L_publishes_J307 L xs l1 l2 l3 l4 l7 (1 : Int32) s0 M
def f_L_publishes_J298 (L : Nat) (xs : Nat → Int32) (l1 : Int32) (l2 : Nat) (l3 : Int32) (l4 : Int32) (l7 : Int32) (s0 : Int32) (s1 : Int32) (s2 : Int32) (s3 : Int32) (M : Mem) : Option ((Int32 ⊕ Nat) × Mem) :=
  if s2 = (s1 + s0) then f_L_publishes_J302 L xs l1 l2 l3 l4 l7 s3 M else f_L_publishes_J306 L xs l1 l2 l3 l4 l7 s3 M
def f_L_publishes_J257 (L : Nat) (xs : Nat → Int32) (l1 : Int32) (l2 : Nat) (l3 : Int32) (l4 : Int32) (l7 : Int32) (l9 : Int32) (l12 : Int32) (l13 : Int32) (l14 : Int32) (s0 : Int32) (M : Mem) : Option ((Int32 ⊕ Nat) × Mem) :=
  bindX (f_X11_total l2 (1 : Int32) M) (fun v2 M1 => if v2 = (l9 + l13) then if l14 = 0 then bindX (f_X11_length l2 l3 (3 : Int32) M1) (fun v4 M3 => if l4 = (2 : Int32) then f_L_publishes_J298 L xs l1 l2 l3 l4 l7 (1 : Int32) l12 v4 s0 M3 else f_L_publishes_J298 L xs l1 l2 l3 l4 l7 (0 : Int32) l12 v4 s0 M3) else f_L_publishes_J302 L xs l1 l2 l3 l4 l7 s0 M1 else f_L_publishes_J306 L xs l1 l2 l3 l4 l7 s0 M1)
def f_L_publishes_J256 (L : Nat) (xs : Nat → Int32) (l1 : Int32) (l2 : Nat) (l3 : Int32) (l4 : Int32) (l7 : Int32) (l9 : Int32) (l12 : Int32) (l13 : Int32) (l14 : Int32) (M : Mem) : Option ((Int32 ⊕ Nat) × Mem) :=
  f_L_publishes_J257 L xs l1 l2 l3 l4 l7 l9 l12 l13 l14 (0 : Int32) M
def f_L_publishes_J229 (L : Nat) (xs : Nat → Int32) (l1 : Int32) (l2 : Nat) (l3 : Int32) (l4 : Int32) (l7 : Int32) (l9 : Int32) (l12 : Int32) (l13 : Int32) (l14 : Int32) (M : Mem) : Option ((Int32 ⊕ Nat) × Mem) :=
  f_L_publishes_J257 L xs l1 l2 l3 l4 l7 l9 l12 l13 l14 (0 : Int32) M
def f_L_publishes_J186 (L : Nat) (xs : Nat → Int32) (l1 : Int32) (l2 : Nat) (l3 : Int32) (l4 : Int32) (l7 : Int32) (l8 : Int32) (l9 : Int32) (l10 : Int32) (l12 : Int32) (l13 : Int32) (s0 : Int32) (M : Mem) : Option ((Int32 ⊕ Nat) × Mem) :=
  if s0 = 0 then if l13 = l8 then bindX (f_X11_total l2 (0 : Int32) M) (fun v2 M1 => if v2 = (l10 + (1 : Int32)) then f_L_publishes_J257 L xs l1 l2 l3 l4 l7 l9 l12 l13 s0 (1 : Int32) M1 else f_L_publishes_J256 L xs l1 l2 l3 l4 l7 l9 l12 l13 s0 M1) else f_L_publishes_J256 L xs l1 l2 l3 l4 l7 l9 l12 l13 s0 M else if l13 = 0 then if l4 = (2 : Int32) then bindX (f_X11_total l2 (0 : Int32) M) (fun v2 M1 => if v2 = l10 then bindX (f_X11_length l2 l3 (3 : Int32) M1) (fun v4 M3 => if v4 = l12 then f_L_publishes_J257 L xs l1 l2 l3 l4 l7 l9 l12 l13 s0 (1 : Int32) M3 else f_L_publishes_J229 L xs l1 l2 l3 l4 l7 l9 l12 l13 s0 M3) else f_L_publishes_J229 L xs l1 l2 l3 l4 l7 l9 l12 l13 s0 M1) else f_L_publishes_J229 L xs l1 l2 l3 l4 l7 l9 l12 l13 s0 M else f_L_publishes_J229 L xs l1 l2 l3 l4 l7 l9 l12 l13 s0 M
def f_L_publishes_J117 (L : Nat) (xs : Nat → Int32) (l1 : Int32) (l2 : Nat) (l3 : Int32) (l4 : Int32) (l5 : Int32) (l7 : Int32) (l8 : Int32) (l9 : Int32) (l10 : Int32) (l11 : Int32) (l12 : Int32) (s0 : Int32) (s1 : Int32) (s2 : Int32) (s3 : Int32) (s4 : Nat) (s5 : Nat) (M : Mem) : Option ((Int32 ⊕ Nat) × Mem) :=
  bindP (f_L_pick L xs (l1 + (5 : Int32)) (30 : Int32) M) (fun v2 M1 => bindP (f_L_send s5 s4 s3 s2 s1 s0 v2 M1) (fun v4 M3 => if l5 = 0 then if v4 = (-3 : Int32) then bindX (f_X11_total l2 (0 : Int32) M3) (fun v6 M5 => if v6 = l10 then bindX (f_X11_total l2 (1 : Int32) M5) (fun v8 M7 => if v8 = l9 then okZX (1 : Int32) M7 else okZX (0 : Int32) M7) else okZX (0 : Int32) M5) else okZX (0 : Int32) M3 else bindX (f_X11_total l2 (3 : Int32) M3) (fun v6 M5 => if v6 = (l11 + (1 : Int32)) then f_L_publishes_J186 L xs l1 l2 l3 l4 l7 l8 l9 l10 l12 v4 (1 : Int32) M5 else f_L_publishes_J186 L xs l1 l2 l3 l4 l7 l8 l9 l10 l12 v4 (0 : Int32) M5)))
def f_L_publishes_J62 (L : Nat) (xs : Nat → Int32) (l1 : Int32) (l2 : Nat) (l3 : Int32) (l4 : Int32) (l5 : Int32) (l6 : Nat) (l7 : Int32) (s0 : Int32) (M : Mem) : Option ((Int32 ⊕ Nat) × Mem) :=
  bindX (f_X11_total l2 (1 : Int32) M) (fun v2 M1 => bindX (f_X11_total l2 (0 : Int32) M1) (fun v4 M3 => bindX (f_X11_total l2 (3 : Int32) M3) (fun v6 M5 => bindX (f_X11_length l2 l3 (3 : Int32) M5) (fun v8 M7 => bindP (f_L_pick L xs (l1 + (5 : Int32)) (3 : Int32) M7) (fun v10 M9 => if v10 = 0 then f_L_publishes_J117 L xs l1 l2 l3 l4 l5 l7 s0 v2 v4 v6 v8 (1 : Int32) l7 l4 l3 l6 l2 M9 else f_L_publishes_J117 L xs l1 l2 l3 l4 l5 l7 s0 v2 v4 v6 v8 (0 : Int32) l7 l4 l3 l6 l2 M9)))))
def f_L_publishes_J14 (L : Nat) (xs : Nat → Int32) (l1 : Int32) (l2 : Nat) (l3 : Int32) (l4 : Int32) (s0 : Int32) (M : Mem) : Option ((Int32 ⊕ Nat) × Mem) :=
  bindP (f_L_pick L xs (l1 + (3 : Int32)) (16 : Int32) M) (fun v2 M1 => (sFl 1 v2).bind (fun v3 => bindP (f_L_pick L xs (l1 + (4 : Int32)) (5 : Int32) M1) (fun v5 M4 => bindP (f_L_type l2 v3 M4) (fun v7 M6 => if v7 = 0 then f_L_publishes_J62 L xs l1 l2 l3 l4 s0 v3 ((1 : Int32) + v5) (-7 : Int32) M6 else bindP (f_L_audience l2 l3 M6) (fun v9 M8 => f_L_publishes_J62 L xs l1 l2 l3 l4 s0 v3 ((1 : Int32) + v5) v9 M8)))))
def f_L_publishes (L : Nat) (xs : Nat → Int32) (l1 : Int32) (l2 : Nat) (l3 : Int32) (l4 : Int32) (M : Mem) : Option ((Int32 ⊕ Nat) × Mem) :=
  bindX (f_X11_sessionState l2 l3 M) (fun v2 M1 => if v2 ≤ (1 : Int32) then f_L_publishes_J14 L xs l1 l2 l3 l4 (0 : Int32) M1 else f_L_publishes_J14 L xs l1 l2 l3 l4 (1 : Int32) M1)
def f_L_step_J358 (L : Nat) (xs : Nat → Int32) (s0 : Int32) (s1 : Int32) (M : Mem) : Option ((Int32 ⊕ Nat) × Mem) :=
  if s1 < s0 then okZX (0 : Int32) M else okZX (1 : Int32) M
def f_L_step_J335 (L : Nat) (xs : Nat → Int32) (l1 : Int32) (l4 : Int32) (s0 : Int32) (s1 : Int32) (s2 : Int32) (s3 : Nat) (M : Mem) : Option ((Int32 ⊕ Nat) × Mem) :=
  bindP (f_L_pick L xs (l1 + (5 : Int32)) (20 : Int32) M) (fun v2 M1 => bindP (f_L_setWill s3 s2 s1 s0 v2 M1) (fun v4 M3 => if l4 = 0 then f_L_step_J358 L xs (-3 : Int32) v4 M3 else f_L_step_J358 L xs (0 : Int32) v4 M3))
def f_L_step_J239 (L : Nat) (xs : Nat → Int32) (s0 : Int32) (s1 : Int32) (M : Mem) : Option ((Int32 ⊕ Nat) × Mem) :=
  if s1 = s0 then okZX (1 : Int32) M else okZX (0 : Int32) M
def f_L_step_J229 (L : Nat) (xs : Nat → Int32) (l4 : Int32) (s0 : Int32) (M : Mem) : Option ((Int32 ⊕ Nat) × Mem) :=
  if l4 = 0 then f_L_step_J239 L xs (1 : Int32) s0 M else f_L_step_J239 L xs (0 : Int32) s0 M
def f_L_step_J205 (L : Nat) (xs : Nat → Int32) (s0 : Int32) (s1 : Int32) (M : Mem) : Option ((Int32 ⊕ Nat) × Mem) :=
  if s1 < s0 then okZX (0 : Int32) M else okZX (1 : Int32) M
def f_L_step_J118 (L : Nat) (xs : Nat → Int32) (s0 : Int32) (s1 : Int32) (s2 : Nat) (M : Mem) : Option ((Int32 ⊕ Nat) × Mem) :=
  bindX (f_L_connects s2 s1 s0 M) (fun v2 M1 => okZX v2 M1)
def f_L_step_J23 (L : Nat) (xs : Nat → Int32) (l1 : Int32) (l2 : Nat) (l3 : Int32) (s0 : Int32) (M : Mem) : Option ((Int32 ⊕ Nat) × Mem) :=
  bindP (f_L_pick L xs (l1 + (2 : Int32)) (3 : Int32) M) (fun v2 M1 => bindP (f_L_pick L xs l1 (14 : Int32) M1) (fun v4 M3 => if v4 = 0 then bindP (f_L_pick L xs (l1 + (2 : Int32)) (2 : Int32) M3) (fun v6 M5 => if v6 = 0 then f_L_step_J118 L xs (1 : Int32) l3 l2 M5 else f_L_step_J118 L xs (0 : Int32) l3 l2 M5) else if v4 = 1 then bindP (f_L_pick L xs (l1 + (2 : Int32)) (2 : Int32) M3) (fun v6 M5 => if v6 = 0 then f_L_step_J118 L xs (1 : Int32) l3 l2 M5 else f_L_step_J118 L xs (0 : Int32) l3 l2 M5) else if v4 = 2 then bindP (f_L_pick L xs (l1 + (3 : Int32)) (16 : Int32) M3) (fun v6 M5 => (sFl 0 v6).bind (fun v7 => bindP (f_L_pick L xs (l1 + (4 : Int32)) (3 : Int32) M5) (fun v9 M8 => bindP (f_L_pick L xs (l1 + (5 : Int32)) (4 : Int32) M8) (fun v11 M10 => bindX (f_L_subscribes l2 v7 l3 v2 v9 (v11 * (2 : Int32)) M10) (fun v13 M12 => okZX v13 M12))))) else if v4 = 3 then bindP (f_L_pick L xs (l1 + (3 : Int32)) (16 : Int32) M3) (fun v6 M5 => (sFl 0 v6).bind (fun v7 => bindP (f_L_pick L xs (l1 + (4 : Int32)) (3 : Int32) M5) (fun v9 M8 => bindP (f_L_pick L xs (l1 + (5 : Int32)) (4 : Int32) M8) (fun v11 M10 => bindX (f_L_subscribes l2 v7 l3 v2 v9 (v11 * (2 : Int32)) M10) (fun v13 M12 => okZX v13 M12))))) else if v4 = 4 then bindP (f_L_pick L xs (l1 + (3 : Int32)) (16 : Int32) M3) (fun v6 M5 => (sFl 0 v6).bind (fun v7 => bindP (f_L_pick L xs (l1 + (4 : Int32)) (3 : Int32) M5) (fun v9 M8 => bindP (f_L_pick L xs (l1 + (5 : Int32)) (4 : Int32) M8) (fun v11 M10 => bindX (f_L_subscribes l2 v7 l3 v2 v9 (v11 * (2 : Int32)) M10) (fun v13 M12 => okZX v13 M12))))) else if v4 = 5 then bindP (f_L_pick L xs (l1 + (3 : Int32)) (16 : Int32) M3) (fun v6 M5 => (sFl 0 v6).bind (fun v7 => bindP (f_L_type l2 v7 M5) (fun v9 M8 => if v9 = 0 then okZX (0 : Int32) M8 else bindP (f_L_pick L xs (l1 + (4 : Int32)) (3 : Int32) M8) (fun v11 M10 => bindP (f_L_unsubscribe l2 l3 v11 M10) (fun v13 M12 => if s0 = 0 then f_L_step_J205 L xs (-3 : Int32) v13 M12 else f_L_step_J205 L xs (0 : Int32) v13 M12))))) else if v4 = 6 then bindP (f_L_breaks l2 l3 M3) (fun v6 M5 => if v6 = (-2 : Int32) then f_L_step_J229 L xs s0 (1 : Int32) M5 else f_L_step_J229 L xs s0 (0 : Int32) M5) else if v4 = 7 then bindP (f_L_pick L xs (l1 + (2 : Int32)) (4 : Int32) M3) (fun v6 M5 => bindP (f_L_pick L xs (l1 + (3 : Int32)) (2 : Int32) M5) (fun v8 M7 => bindP (f_L_pick L xs (l1 + (4 : Int32)) (3 : Int32) M7) (fun v10 M9 => bindP (f_L_setOption l2 v6 (v8 + v10) M9) (fun v12 M11 => if v12 = (-1 : Int32) then okZX (0 : Int32) M11 else okZX (1 : Int32) M11)))) else if v4 = 8 then bindX (f_L_answers l2 l3 s0 M3) (fun v6 M5 => okZX v6 M5) else if v4 = 9 then bindP (f_L_pick L xs (l1 + (3 : Int32)) (16 : Int32) M3) (fun v6 M5 => (sFl 1 v6).bind (fun v7 => bindP (f_L_type l2 v7 M5) (fun v9 M8 => if v9 = 0 then okZX (0 : Int32) M8 else bindP (f_L_pick L xs (l1 + (4 : Int32)) (2 : Int32) M8) (fun v11 M10 => if v11 = 0 then f_L_step_J335 L xs l1 s0 (1 : Int32) v2 l3 l2 M10 else f_L_step_J335 L xs l1 s0 (0 : Int32) v2 l3 l2 M10)))) else if v4 = 10 then bindP (f_L_pick L xs (l1 + (2 : Int32)) (5 : Int32) M3) (fun v6 M5 => bindX (f_X11_advance l2 ((1 : Int32) + v6) M5) (fun v8 M7 => if v8 ≤ 0 then okZX (0 : Int32) M7 else okZX (1 : Int32) M7)) else bindX (f_L_publishes L xs l1 l2 l3 v2 M3) (fun v6 M5 => okZX v6 M5)))
def f_L_step (L : Nat) (xs : Nat → Int32) (l1 : Int32) (l2 : Nat) (M : Mem) : Option ((Int32 ⊕ Nat) × Mem) :=
  bindP (f_L_pick L xs (l1 + (1 : Int32)) (4 : Int32) M) (fun v2 M1 => bindX (f_X11_sessionState l2 v2 M1) (fun v4 M3 => if v4 ≤ (1 : Int32) then f_L_step_J23 L xs l1 l2 v2 (0 : Int32) M3 else f_L_step_J23 L xs l1 l2 v2 (1 : Int32) M3))
def f_L_isSound_L324 : Nat → Nat → Int32 → Int32 → Mem → Option ((Int32 ⊕ Nat) × Mem)
  | 0, _, _, _, _ => none
  | n + 1, l0, l1, l2, M => bindP (f_X11_retainedCount l0 M) (fun v2 M1 => if v2 ≤ l2 then okZX l1 M1 else bindX (f_X11_retained l0 l2 (1 : Int32) M1) (fun v4 M3 => if v4 < (1 : Int32) then f_L_isSound_L324 n l0 (l1 &&& (0 : Int32)) (l2 + 1) M3 else bindX (f_X11_retained l0 l2 (2 : Int32) M3) (fun v6 M5 => if v6 < (1 : Int32) then f_L_isSound_L324 n l0 (l1 &&& (0 : Int32)) (l2 + 1) M5 else bindX (f_X11_retained l0 l2 (0 : Int32) M5) (fun v8 M7 => if (2 : Int32) < v8 then f_L_isSound_L324 n l0 (l1 &&& (0 : Int32)) (l2 + 1) M7 else f_L_isSound_L324 n l0 (l1 &&& (1 : Int32)) (l2 + 1) M7))))
def f_L_isSound_L177 : Nat → (Nat → Int32 → Int32 → Mem → Option ((Int32 ⊕ Nat) × Mem)) → (Nat → Int32 → Int32 → Int32 → Int32 → Mem → Option ((Int32 ⊕ Nat) × Mem)) → Nat → Int32 → Int32 → Int32 → Int32 → Int32 → Int32 → Mem → Option ((Int32 ⊕ Nat) × Mem)
  | 0, _, _, _, _, _, _, _, _, _, _ => none
  | n + 1, k25, k153, l0, l1, l2, l4, l5, l6, l7, M => if l5 ≤ l7 then if l6 < (1 : Int32) then k153 l0 (l1 &&& (0 : Int32)) l2 (l4 + l6) (l5 + 1) M else if (50 : Int32) < l6 then k153 l0 (l1 &&& (0 : Int32)) l2 (l4 + l6) (l5 + 1) M else bindX (f_X11_inFlight l0 l2 l5 (1 : Int32) M) (fun v2 M1 => if v2 < (1 : Int32) then k153 l0 (l1 &&& (0 : Int32)) l2 (l4 + l6) (l5 + 1) M1 else bindX (f_X11_inFlight l0 l2 l5 (3 : Int32) M1) (fun v4 M3 => bindX (f_X11_inFlight l0 l2 l5 (1 : Int32) M3) (fun v6 M5 => if v4 = v6 then k153 l0 (l1 &&& (1 : Int32)) l2 (l4 + l6) (l5 + 1) M5 else bindX (f_X11_inFlight l0 l2 l5 (1 : Int32) M5) (fun v8 M7 => if v8 = (2 : Int32) then bindX (f_X11_inFlight l0 l2 l5 (3 : Int32) M7) (fun v10 M9 => if v10 = (4 : Int32) then k153 l0 (l1 &&& (1 : Int32)) l2 (l4 + l6) (l5 + 1) M9 else k153 l0 (l1 &&& (0 : Int32)) l2 (l4 + l6) (l5 + 1) M9) else k153 l0 (l1 &&& (0 : Int32)) l2 (l4 + l6) (l5 + 1) M7)))) else bindX (f_X11_inFlight l0 l2 l7 (0 : Int32) M) (fun v2 M1 => if v2 = l6 then f_L_isSound_L177 n k25 k153 l0 (l1 &&& (0 : Int32)) l2 l4 l5 l6 (l7 + 1) M1 else f_L_isSound_L177 n k25 k153 l0 (l1 &&& (1 : Int32)) l2 l4 l5 l6 (l7 + 1) M1)
def f_L_isSound_L153 : Nat → (Nat → Int32 → Int32 → Mem → Option ((Int32 ⊕ Nat) × Mem)) → Nat → Int32 → Int32 → Int32 → Int32 → Mem → Option ((Int32 ⊕ Nat) × Mem)
  | 0, _, _, _, _, _, _, _ => none
  | n + 1, k25, l0, l1, l2, l4, l5, M => bindX (f_X11_length l0 l2 (1 : Int32) M) (fun v2 M1 => if v2 ≤ l5 then if (250 : Int32) < l4 then k25 l0 (l1 &&& (0 : Int32)) (l2 + 1) M1 else k25 l0 (l1 &&& (1 : Int32)) (l2 + 1) M1 else bindX (f_X11_inFlight l0 l2 l5 (0 : Int32) M1) (fun v4 M3 => f_L_isSound_L177 FU k25 (f_L_isSound_L153 n k25) l0 l1 l2 l4 l5 v4 (0 : Int32) M3))
def f_L_isSound_J140 (k25 : Nat → Int32 → Int32 → Mem → Option ((Int32 ⊕ Nat) × Mem)) (l0 : Nat) (l2 : Int32) (s0 : Int32) (M : Mem) : Option ((Int32 ⊕ Nat) × Mem) :=
  f_L_isSound_L153 FU k25 l0 (s0 &&& (1 : Int32)) l2 (0 : Int32) (0 : Int32) M
def f_L_isSound_J103 (k25 : Nat → Int32 → Int32 → Mem → Option ((Int32 ⊕ Nat) × Mem)) (l0 : Nat) (l2 : Int32) (l3 : Int32) (s0 : Int32) (s1 : Int32) (M : Mem) : Option ((Int32 ⊕ Nat) × Mem) :=
  if 0 < l3 then f_L_isSound_J140 k25 l0 l2 (s1 &&& s0) M else bindX (f_X11_length l0 l2 (1 : Int32) M) (fun v2 M1 => bindX (f_X11_length l0 l2 (2 : Int32) M1) (fun v4 M3 => bindX (f_X11_length l0 l2 (3 : Int32) M3) (fun v6 M5 => bindX (f_X11_length l0 l2 (4 : Int32) M5) (fun v8 M7 => if (((v2 + v4) + v6) + v8) = 0 then f_L_isSound_J140 k25 l0 l2 (s1 &&& s0) M7 else f_L_isSound_L153 FU k25 l0 ((s1 &&& s0) &&& (0 : Int32)) l2 (0 : Int32) (0 : Int32) M7))))
def f_L_isSound_J102 (k25 : Nat → Int32 → Int32 → Mem → Option ((Int32 ⊕ Nat) × Mem)) (l0 : Nat) (l2 : Int32) (l3 : Int32) (s0 : Int32) (M : Mem) : Option ((Int32 ⊕ Nat) × Mem) :=
  f_L_isSound_J103 k25 l0 l2 l3 (0 : Int32) s0 M
def f_L_isSound_J55 (k25 : Nat → Int32 → Int32 → Mem → Option ((Int32 ⊕ Nat) × Mem)) (l0 : Nat) (l2 : Int32) (l3 : Int32) (s0 : Int32) (s1 : Int32) (s2 : Int32) (M : Mem) : Option ((Int32 ⊕ Nat) × Mem) :=
  if s0 < s1 then f_L_isSound_J102 k25 l0 l2 l3 s2 M else bindX (f_X11_length l0 l2 (1 : Int32) M) (fun v2 M1 => if (5 : Int32) < v2 then f_L_isSound_J102 k25 l0 l2 l3 s2 M1 else bindX (f_X11_length l0 l2 (2 : Int32) M1) (fun v4 M3 => if (8 : Int32) < v4 then f_L_isSound_J102 k25 l0 l2 l3 s2 M3 else bindX (f_X11_length l0 l2 (4 : Int32) M3) (fun v6 M5 => if (6 : Int32) < v6 then f_L_isSound_J102 k25 l0 l2 l3 s2 M5 else bindX (f_X11_load l0 l2 M5) (fun v8 M7 => if v8 < 0 then f_L_isSound_J102 k25 l0 l2 l3 s2 M7 else f_L_isSound_J103 k25 l0 l2 l3 (1 : Int32) s2 M7))))
def f_L_isSound_L25 : Nat → Nat → Int32 → Int32 → Mem → Option ((Int32 ⊕ Nat) × Mem)
  | 0, _, _, _, _ => none
  | n + 1, l0, l1, l2, M => if (6 : Int32) ≤ l2 then f_L_isSound_L324 FU l0 l1 (0 : Int32) M else bindX (f_X11_sessionState l0 l2 M) (fun v2 M1 => bindX (f_X11_length l0 l2 (0 : Int32) M1) (fun v4 M3 => if v2 ≤ (1 : Int32) then f_L_isSound_J55 (f_L_isSound_L25 n) l0 l2 v2 (0 : Int32) v4 l1 M3 else f_L_isSound_J55 (f_L_isSound_L25 n) l0 l2 v2 (30 : Int32) v4 l1 M3))
def f_L_isSound (l0 : Nat) (M : Mem) : Option ((Int32 ⊕ Nat) × Mem) :=
  bindP (f_X11_retainedCount l0 M) (fun v2 M1 => if (8 : Int32) < v2 then f_L_isSound_L25 FU l0 (0 : Int32) (0 : Int32) M1 else bindP (f_X11_errorPosition l0 M1) (fun v4 M3 => if v4 = (-1 : Int32) then f_L_isSound_L25 FU l0 (1 : Int32) (0 : Int32) M3 else f_L_isSound_L25 FU l0 (0 : Int32) (0 : Int32) M3))
def f_L_sum_L213 : Nat → Nat → Int32 → Int32 → Mem → Option ((Int32 ⊕ Nat) × Mem)
  | 0, _, _, _, _ => none
  | n + 1, l0, l1, l2, M => bindP (f_X11_retainedCount l0 M) (fun v2 M1 => if v2 ≤ l2 then some (.inl l1, M1) else bindX (f_X11_retained l0 l2 (0 : Int32) M1) (fun v4 M3 => bindX (f_X11_retained l0 l2 (1 : Int32) M3) (fun v6 M5 => bindX (f_X11_retained l0 l2 (2 : Int32) M5) (fun v8 M7 => f_L_sum_L213 n l0 (((((31 : Int32) * l1) + v4) + ((3 : Int32) * v6)) + ((40000 : Int32) * v8)) (l2 + 1) M7))))
def f_L_sum_L143 : Nat → (Nat → Int32 → Int32 → Mem → Option ((Int32 ⊕ Nat) × Mem)) → Nat → Int32 → Int32 → Int32 → Mem → Option ((Int32 ⊕ Nat) × Mem)
  | 0, _, _, _, _, _, _ => none
  | n + 1, k30, l0, l1, l2, l3, M => bindX (f_X11_length l0 l2 (4 : Int32) M) (fun v2 M1 => if v2 ≤ l3 then k30 l0 l1 (l2 + 1) M1 else bindX (f_X11_subscription l0 l2 l3 (0 : Int32) M1) (fun v4 M3 => bindX (f_X11_subscription l0 l2 l3 (1 : Int32) M3) (fun v6 M5 => bindX (f_X11_subscription l0 l2 l3 (2 : Int32) M5) (fun v8 M7 => bindX (f_X11_subscription l0 l2 l3 (3 : Int32) M7) (fun v10 M9 => f_L_sum_L143 n k30 l0 ((((((31 : Int32) * l1) + v4) + ((5 : Int32) * v6)) + ((25 : Int32) * v8)) + ((300 : Int32) * v10)) l2 (l3 + 1) M9)))))
def f_L_sum_L82 : Nat → (Nat → Int32 → Int32 → Mem → Option ((Int32 ⊕ Nat) × Mem)) → Nat → Int32 → Int32 → Int32 → Mem → Option ((Int32 ⊕ Nat) × Mem)
  | 0, _, _, _, _, _, _ => none
  | n + 1, k30, l0, l1, l2, l3, M => bindX (f_X11_length l0 l2 (1 : Int32) M) (fun v2 M1 => if v2 ≤ l3 then f_L_sum_L143 FU k30 l0 l1 l2 (0 : Int32) M1 else bindX (f_X11_inFlight l0 l2 l3 (0 : Int32) M1) (fun v4 M3 => bindX (f_X11_inFlight l0 l2 l3 (2 : Int32) M3) (fun v6 M5 => bindX (f_X11_inFlight l0 l2 l3 (3 : Int32) M5) (fun v8 M7 => bindX (f_X11_inFlight l0 l2 l3 (4 : Int32) M7) (fun v10 M9 => f_L_sum_L82 n k30 l0 ((((((31 : Int32) * l1) + v4) + ((60 : Int32) * v6)) + v8) + ((7 : Int32) * v10)) l2 (l3 + 1) M9)))))
def f_L_sum_L57 : Nat → (Nat → Int32 → Int32 → Mem → Option ((Int32 ⊕ Nat) × Mem)) → Nat → Int32 → Int32 → Int32 → Mem → Option ((Int32 ⊕ Nat) × Mem)
  | 0, _, _, _, _, _, _ => none
  | n + 1, k30, l0, l1, l2, l3, M => if (5 : Int32) ≤ l3 then f_L_sum_L82 FU k30 l0 l1 l2 (0 : Int32) M else bindX (f_X11_length l0 l2 l3 M) (fun v2 M1 => f_L_sum_L57 n k30 l0 (((31 : Int32) * l1) + v2) l2 (l3 + 1) M1)
def f_L_sum_L30 : Nat → Nat → Int32 → Int32 → Mem → Option ((Int32 ⊕ Nat) × Mem)
  | 0, _, _, _, _ => none
  | n + 1, l0, l1, l2, M => if (6 : Int32) ≤ l2 then f_L_sum_L213 FU l0 l1 (0 : Int32) M else bindX (f_X11_sessionState l0 l2 M) (fun v2 M1 => bindX (f_X11_load l0 l2 M1) (fun v4 M3 => f_L_sum_L57 FU (f_L_sum_L30 n) l0 ((((31 : Int32) * l1) + v2) + ((4 : Int32) * v4)) l2 (0 : Int32) M3))
def f_L_sum_L5 : Nat → Nat → Int32 → Int32 → Mem → Option ((Int32 ⊕ Nat) × Mem)
  | 0, _, _, _, _ => none
  | n + 1, l0, l1, l2, M => if (10 : Int32) ≤ l2 then f_L_sum_L30 FU l0 l1 (0 : Int32) M else bindX (f_X11_total l0 l2 M) (fun v2 M1 => f_L_sum_L5 n l0 (((31 : Int32) * l1) + v2) (l2 + 1) M1)
def f_L_sum (l0 : Nat) (M : Mem) : Option ((Int32 ⊕ Nat) × Mem) :=
  f_L_sum_L5 FU l0 (7 : Int32) (0 : Int32) M
def f_L_receive (l0 : Nat) (l1 : Int32) (M : Mem) : Option (Int32 × Mem) :=
  bindH (f_X11_receive l0 l1 M) (fun v2 M1 => some (v2, M1)) (fun e9 M1 => if e9 = 3 then some ((-8 : Int32), M1) else if e9 = 2 then some ((-9 : Int32), M1) else none)
def f_L_areRefused_J141 (l0 : Nat) (l1 : Int32) (s0 : Int32) (s1 : Int32) (M : Mem) : Option ((Int32 ⊕ Nat) × Mem) :=
  if (s1 &&& s0) = 0 then okZX (0 : Int32) M else bindX (f_L_sum l0 M) (fun v2 M1 => if v2 = l1 then okZX (1 : Int32) M1 else okZX (0 : Int32) M1)
def f_L_areRefused_J140 (l0 : Nat) (l1 : Int32) (s0 : Int32) (M : Mem) : Option ((Int32 ⊕ Nat) × Mem) :=
  f_L_areRefused_J141 l0 l1 (0 : Int32) s0 M
def f_L_areRefused_J68 (l0 : Nat) (l1 : Int32) (s0 : Int32) (M : Mem) : Option ((Int32 ⊕ Nat) × Mem) :=
  bindP (f_L_type l0 (SCR + 16 + 0) M) (fun v2 M1 => if v2 = 0 then f_L_areRefused_J140 l0 l1 s0 M1 else bindP (f_L_subscribe l0 (0 : Int32) (0 : Int32) (1 : Int32) (1 : Int32) M1) (fun v4 M3 => if v4 = (-2 : Int32) then bindP (f_L_answer l0 (0 : Int32) (3 : Int32) (1 : Int32) M3) (fun v6 M5 => if v6 = (-2 : Int32) then bindP (f_L_setOption l0 (0 : Int32) (0 : Int32) M5) (fun v8 M7 => if v8 = (-2 : Int32) then bindP (f_L_receive l0 (6 : Int32) M7) (fun v10 M9 => if v10 = (-8 : Int32) then bindP (f_L_receive l0 (5 : Int32) M9) (fun v12 M11 => if v12 = (-9 : Int32) then f_L_areRefused_J141 l0 l1 (1 : Int32) s0 M11 else f_L_areRefused_J140 l0 l1 s0 M11) else f_L_areRefused_J140 l0 l1 s0 M9) else f_L_areRefused_J140 l0 l1 s0 M7) else f_L_areRefused_J140 l0 l1 s0 M5) else f_L_areRefused_J140 l0 l1 s0 M3))
def f_L_areRefused_J67 (l0 : Nat) (l1 : Int32) (M : Mem) : Option ((Int32 ⊕ Nat) × Mem) :=
  f_L_areRefused_J68 l0 l1 (0 : Int32) M
def f_L_areRefused (l0 : Nat) (M : Mem) : Option ((Int32 ⊕ Nat) × Mem) :=
  bindX (f_L_sum l0 M) (fun v2 M1 => bindP (f_L_type l0 (SCR + 16 + 0) M1) (fun v4 M3 => if v4 = 0 then f_L_areRefused_J67 l0 v2 M3 else bindP (f_L_subscribe l0 (6 : Int32) (0 : Int32) (0 : Int32) (0 : Int32) M3) (fun v6 M5 => if v6 = (-1 : Int32) then bindP (f_L_send l0 (SCR + 16 + 0) (5 : Int32) (1 : Int32) (1 : Int32) (1 : Int32) (5 : Int32) M5) (fun v8 M7 => if v8 = (-3 : Int32) then bindP (f_L_breaks l0 (6 : Int32) M7) (fun v10 M9 => if v10 = (-1 : Int32) then bindP (f_L_breaks l0 (5 : Int32) M9) (fun v12 M11 => if v12 = (-2 : Int32) then f_L_areRefused_J68 l0 v2 (1 : Int32) M11 else f_L_areRefused_J67 l0 v2 M11) else f_L_areRefused_J67 l0 v2 M9) else f_L_areRefused_J67 l0 v2 M7) else f_L_areRefused_J67 l0 v2 M5)))
def f_L_isKept_L17 (L : Nat) (xs : Nat → Int32) : Nat → Int32 → Nat → Int32 → Int32 → Int32 → Int32 → Mem → Option ((Int32 ⊕ Nat) × Mem)
  | 0, _, _, _, _, _, _, _ => none
  | n + 1, l1, l2, l3, l4, l5, l6, M => if (5 : Int32) ≤ l6 then if l5 = 0 then okZX (0 : Int32) M else bindP (f_L_restore l2 M) (fun v2 M1 => if v2 = l3 then bindX (f_L_sum l2 M1) (fun v4 M3 => if v4 = l4 then bindX (f_X11_advance l2 (1 : Int32) M3) (fun v6 M5 => if v6 = (l3 + (1 : Int32)) then okZX (1 : Int32) M5 else okZX (0 : Int32) M5) else okZX (0 : Int32) M3) else okZX (0 : Int32) M1) else bindX (f_L_step L xs ((l1 + ((6 : Int32) * l6)) + (3 : Int32)) l2 M) (fun v2 M1 => f_L_isKept_L17 L xs n l1 l2 l3 l4 (l5 &&& v2) (l6 + 1) M1)
def f_L_isKept (L : Nat) (xs : Nat → Int32) (l1 : Int32) (l2 : Nat) (M : Mem) : Option ((Int32 ⊕ Nat) × Mem) :=
  bindP (f_X11_save l2 M) (fun v2 M1 => bindX (f_L_sum l2 M1) (fun v4 M3 => f_L_isKept_L17 L xs FU l1 l2 v2 v4 (1 : Int32) (0 : Int32) M3))
def f_L_law_L22 (L : Nat) (xs : Nat → Int32) : Nat → Nat → Int32 → Int32 → Mem → Option ((Int32 ⊕ Nat) × Mem)
  | 0, _, _, _, _ => none
  | n + 1, l1, l2, l3, M => if (40 : Int32) ≤ l3 then okZX (1 : Int32) M else bindX (f_L_step L xs l2 l1 M) (fun v2 M1 => if v2 = 0 then okZX (0 : Int32) M1 else bindX (f_L_isSound l1 M1) (fun v4 M3 => if v4 = 0 then okZX (0 : Int32) M3 else bindX (f_L_areRefused l1 M3) (fun v6 M5 => if v6 = 0 then okZX (0 : Int32) M5 else if (iremE l3 (13 : Int32)) = (12 : Int32) then bindX (f_L_isKept L xs (l2 + 6) l1 M5) (fun v8 M7 => if v8 = 0 then okZX (0 : Int32) M7 else f_L_law_L22 L xs n l1 (l2 + 6) (l3 + 1) M7) else f_L_law_L22 L xs n l1 (l2 + 6) (l3 + 1) M5)))
def f_L_law (L : Nat) (xs : Nat → Int32) (M : Mem) : Option ((Int32 ⊕ Nat) × Mem) :=
  bindP (nO 11 9 M) (fun v1 M2 => (f_X11_init v1 M2).bind (fun M3 => bindP (f_L_restore v1 M3) (fun v5 M4 => if v5 = (-1 : Int32) then f_L_law_L22 L xs FU v1 (0 : Int32) (0 : Int32) M4 else okZX (0 : Int32) M4)))
