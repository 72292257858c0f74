/-! READS: what the getters answer, said of the abstract state -/
def ssV (x : Cl) : Int32 := if cB x 3 = false then nW 0 else if cB x 0 = false then nW 1 else if cB x 4 = false then nW 2 else nW 3
def ldV (x : Cl) : Int32 := FP.f2i (FP.fmul (cF x) (1148846080 : UInt32))
def lnV (x : Cl) (w : Nat) : Nat := if w = 0 then (cL x 0).1 else if w = 1 then (cL x 1).1 else if w = 2 then (cL x 2).1 else if w = 3 then kcnt (cK x) 50 else (cL x 3).1
def flV (r : Row) (w : Nat) : Int32 := if w = 0 then r.2 4 else if w = 1 then r.2 1 else if w = 2 then r.2 2 else if w = 3 then r.2 5 else r.2 6
def suV (r : Row) (w : Nat) : Int32 := if w = 0 then r.2 2 else if w = 1 then r.2 1 else if w = 2 then r.2 3 else nW r.1.length
def reV (r : Row) (w : Nat) : Int32 := if w = 0 then r.2 1 else if w = 1 then r.2 2 else nW (txS r.1).length
theorem c_cl {c : Nat} (hc : c < 6) (M : Mem) : f_X11_requireClient (nW c) M = some (.inl (), M) := by
  have cc := c_client (nW c) M
  rwa [if_pos (inB_of (by omega) (by omega) (by omega))] at cc
theorem c_rng {i a b : Nat} (h1 : a ≤ i) (h2 : i ≤ b) (hb : b < 2147483648) (M : Mem) : f_X11_requireRange (nW i) (nW a) (nW b) M = some (.inl (), M) := by
  have cc := c_range (nW i) (nW a) (nW b) M
  rwa [if_pos (inB_of hb h1 h2)] at cc
theorem X_ss {M : Mem} {A : Wh} (h : BrR M A) {c : Nat} (hc : c < 6) : f_X11_sessionState 0 (nW c) M = some (.inl (ssV (gCl (oS A) c)), M) := by
  obtain ⟨k1, k2, _⟩ := BrR_k h
  obtain ⟨r1, r2, r3, r4, r5⟩ := BrR_c h hc
  obtain ⟨s0, s1, _⟩ := BrR_s h hc
  simp only [f_X11_sessionState, k1, ↓reduceIte, c_cl hc, bindX, k2, r1, r2, r3, r4, s0, s1, Option.bind_some, nW_lit, zI_eq0, ssV]
  cases cB (gCl (oS A) c) 3 <;> cases cB (gCl (oS A) c) 0 <;> cases cB (gCl (oS A) c) 4 <;> rfl
theorem X_total {M : Mem} {A : Wh} (h : BrR M A) {i : Nat} (hi : i < 10) : f_X11_total 0 (nW i) M = some (.inl (gSc (oS A) i), M) := by
  obtain ⟨k1, k2, _⟩ := BrR_k h
  obtain ⟨t1, t2, _⟩ := StR_inc (S := 8) ⟨by omega, by omega⟩ h.2.2.2.2.2.2 hi
  simp only [f_X11_total, k1, ↓reduceIte, nW_lit, c_rng (show 0 ≤ i by omega) (show i ≤ 9 by omega) (by omega), bindX, k2, t1, t2, Option.bind_some]
theorem X_load {M : Mem} {A : Wh} (h : BrR M A) {c : Nat} (hc : c < 6) (hl : LdOk (cF (gCl (oS A) c))) : f_X11_load 0 (nW c) M = some (.inl (ldV (gCl (oS A) c)), M) := by
  obtain ⟨k1, k2, _⟩ := BrR_k h
  obtain ⟨r1, r2, r3, r4, r5⟩ := BrR_c h hc
  obtain ⟨y, ey⟩ := LdOk_1000 hl
  have g6 : gF 0 6 (8 + 2 + 60 * c) M = some (cF (gCl (oS A) c)) := by
    have o := (h.2.2.2.2.2.2.2.1 c hc).1
    simp only [gF, o.1.1, ↓reduceIte, o.2.2.2.2.1]
  have e9 : y = FP.fmul (cF (gCl (oS A) c)) (1148846080 : UInt32) := by
    unfold fmulO at ey
    split at ey
    · exact (Option.some.inj ey).symm
    · cases ey
  simp only [f_X11_load, k1, ↓reduceIte, c_cl hc, bindX, k2, r1, r2, g6, ey, Option.bind_some, nW_lit, ldV]
  rw [e9]
theorem X_len {M : Mem} {A : Wh} (h : BrR M A) {c w : Nat} (hc : c < 6) (hw : w < 5) : f_X11_length 0 (nW c) (nW w) M = some (.inl (nW (lnV (gCl (oS A) c) w)), M) := by
  obtain ⟨k1, k2, _⟩ := BrR_k h
  obtain ⟨r1, r2, r3, r4, r5⟩ := BrR_c h hc
  obtain ⟨s0, s1, s5, s7, _, s8, s9⟩ := BrR_s h hc
  have hCl := h.2.2.2.2.2.2.2.1 c hc
  have gq : gI 4 2 (8 + 2 + 60 * c + 2) M = some (nW (cL (gCl (oS A) c) 0).1) := by
    have q := hCl.2.2.1
    simp only [gI, q.1.1, ↓reduceIte, q.2.2.2.1]
  have gf : gI 2 1 (8 + 2 + 60 * c + 34 + 9) M = some (nW (cL (gCl (oS A) c) 1).1) := MLR_cnt hCl.2.2.2.2.2.2.1
  have gp : gI 2 1 (8 + 2 + 60 * c + 34 + 16) M = some (nW (cL (gCl (oS A) c) 2).1) := MLR_cnt hCl.2.2.2.2.2.2.2
  have h5 : w = 0 ∨ w = 1 ∨ w = 2 ∨ w = 3 ∨ w = 4 := by omega
  rcases h5 with rfl | rfl | rfl | rfl | rfl
  · simp only [f_X11_length, k1, ↓reduceIte, c_cl hc, bindX, k2, r1, r2, r4, r5, nW_lit, Option.bind_some, gq, lnV]
  · simp only [f_X11_length, k1, ↓reduceIte, c_cl hc, bindX, k2, r1, r2, r4, r5, nW_lit, Option.bind_some, d10, s8, gf, lnV]; rfl
  · simp only [f_X11_length, k1, ↓reduceIte, c_cl hc, bindX, k2, r1, r2, r4, r5, nW_lit, Option.bind_some, d20, d21, s9, gp, lnV]; rfl
  · simp only [f_X11_length, k1, ↓reduceIte, c_cl hc, bindX, k2, r1, r2, r4, r5, nW_lit, Option.bind_some, d30, d31, d32, s5, lnV]; rfl
  · simp only [f_X11_length, k1, ↓reduceIte, c_cl hc, bindX, k2, r1, r2, r4, r5, nW_lit, Option.bind_some, d40, d41, d42, d43, s7, lnV]; rfl
theorem X_fly {M : Mem} {A : Wh} (h : BrR M A) {c j w : Nat} (hc : c < 6) (hj : j < (cL (gCl (oS A) c) 1).1) (hw : w < 5) : f_X11_inFlight 0 (nW c) (nW j) (nW w) M = some (.inl (flV ((cL (gCl (oS A) c) 1).2 j) w), M) := by
  obtain ⟨k1, k2, _⟩ := BrR_k h
  obtain ⟨r1, r2, r3, r4, r5⟩ := BrR_c h hc
  obtain ⟨s0, s1, s5, s7, _, s8, s9⟩ := BrR_s h hc
  have hML := (h.2.2.2.2.2.2.2.1 c hc).2.2.2.2.2.2.1
  have gf : gI 2 1 (8 + 2 + 60 * c + 34 + 9) M = some (nW (cL (gCl (oS A) c) 1).1) := MLR_cnt hML
  have gr : gR 2 0 (8 + 2 + 60 * c + 34 + 9) M = some (8 + 2 + 60 * c + 34 + 9 + 1) := MLR_arr hML
  have l5 : (cL (gCl (oS A) c) 1).1 ≤ 5 := hML.2.1
  have gn : aN (8 + 2 + 60 * c + 34 + 9 + 1) M = some (nW 5) := by
    obtain ⟨_, _, _, p, hp, _⟩ := hML
    simp only [aN, hp.1]; rfl
  obtain ⟨a, ea, hra, hm, _⟩ := MLR_rowP hML hj
  have ga := MLR_at hML (by omega) (show j < 5 by omega) ea
  obtain ⟨m1, ⟨g1, g2, g3, g4, g5, g6⟩, _⟩ := hm
  have q1 : gI 1 1 a M = some (((cL (gCl (oS A) c) 1).2 j).2 1) := by simp only [gI, m1, g1, ↓reduceIte]
  have q2 : gI 1 2 a M = some (((cL (gCl (oS A) c) 1).2 j).2 2) := by simp only [gI, m1, g2, ↓reduceIte]
  have q4 : gI 1 4 a M = some (((cL (gCl (oS A) c) 1).2 j).2 4) := by simp only [gI, m1, g4, ↓reduceIte]
  have q5 : gI 1 5 a M = some (((cL (gCl (oS A) c) 1).2 j).2 5) := by simp only [gI, m1, g5, ↓reduceIte]
  have q6 : gI 1 6 a M = some (((cL (gCl (oS A) c) 1).2 j).2 6) := by simp only [gI, m1, g6, ↓reduceIte]
  have n0 : ¬ nW j < nW 0 := by rw [nW_lt (by omega) (by omega)]; omega
  have n1 : ¬ nW (cL (gCl (oS A) c) 1).1 ≤ nW j := by rw [nW_le (by omega) (by omega)]; omega
  have n5 : nW j < nW 5 := by rw [nW_lt (by omega) (by omega)]; omega
  have base : ∀ f, f_X11_inFlight 0 (nW c) (nW j) f M = (if f = nW 0 then some (.inl (((cL (gCl (oS A) c) 1).2 j).2 4), M) else if f = nW 1 then some (.inl (((cL (gCl (oS A) c) 1).2 j).2 1), M) else if f = nW 2 then some (.inl (((cL (gCl (oS A) c) 1).2 j).2 2), M) else if f = nW 3 then some (.inl (((cL (gCl (oS A) c) 1).2 j).2 5), M) else if f = nW 4 then some (.inl (((cL (gCl (oS A) c) 1).2 j).2 6), M) else some (.inr 1, xM M)) := fun f => by
    simp only [f_X11_inFlight, k1, ↓reduceIte, c_cl hc, bindX, k2, r1, r2, r4, s8, nW_lit, Option.bind_some, n0, gf, n1, gr, gn, n5, ga, q1, q2, q4, q5, q6]
  rw [base]
  have h5 : w = 0 ∨ w = 1 ∨ w = 2 ∨ w = 3 ∨ w = 4 := by omega
  rcases h5 with rfl | rfl | rfl | rfl | rfl
  · rw [if_pos rfl]; rfl
  · rw [if_neg d10, if_pos rfl]; rfl
  · rw [if_neg d20, if_neg d21, if_pos rfl]; rfl
  · rw [if_neg d30, if_neg d31, if_neg d32, if_pos rfl]; rfl
  · rw [if_neg d40, if_neg d41, if_neg d42, if_neg d43, if_pos rfl]; rfl
theorem X_sub {M : Mem} {A : Wh} (h : BrR M A) {c j w : Nat} (hc : c < 6) (hj : j < (cL (gCl (oS A) c) 3).1) (hw : w < 4) : f_X11_subscription 0 (nW c) (nW j) (nW w) M = some (.inl (suV ((cL (gCl (oS A) c) 3).2 j) w), M) := by
  obtain ⟨k1, k2, _⟩ := BrR_k h
  obtain ⟨r1, r2, r3, r4, r5⟩ := BrR_c h hc
  obtain ⟨s0, s1, s5, s7, s6, s8, s9⟩ := BrR_s h hc
  have cs := c_sub h hc (nW j)
  have l6 : (cL (gCl (oS A) c) 3).1 ≤ 6 := (h.2.2.2.2.2.2.2.1 c hc).2.2.2.2.2.1.1
  have hi : inB (nW j) (nW 0) (nW (cL (gCl (oS A) c) 3).1 - nW 1) = true := by
    rw [nW_sub (by omega)]; exact inB_of (by omega) (by omega) (by omega)
  rw [hi, if_pos rfl] at cs
  obtain ⟨p, q, ep, g1, g2, g3, gy, hy⟩ := c_subRow h hc hj
  obtain ⟨sa, t1, t2, t3, _⟩ := TextR_n hy
  have base : ∀ f, f_X11_subscription 0 (nW c) (nW j) f M = (if f = nW 0 then some (.inl (((cL (gCl (oS A) c) 3).2 j).2 2), M) else if f = nW 1 then some (.inl (((cL (gCl (oS A) c) 3).2 j).2 1), M) else if f = nW 2 then some (.inl (((cL (gCl (oS A) c) 3).2 j).2 3), M) else if f = nW 3 then some (.inl (nW ((cL (gCl (oS A) c) 3).2 j).1.length), M) else some (.inr 1, xM M)) := fun f => by
    simp only [f_X11_subscription, k1, ↓reduceIte, c_cl hc, cs, bindX, k2, r1, r2, r4, s6, ep, nW_lit, Option.bind_some, g1, g2, g3, gy, t3]
  rw [base]
  have h5 : w = 0 ∨ w = 1 ∨ w = 2 ∨ w = 3 := by omega
  rcases h5 with rfl | rfl | rfl | rfl
  · rw [if_pos rfl]; rfl
  · rw [if_neg d10, if_pos rfl]; rfl
  · rw [if_neg d20, if_neg d21, if_pos rfl]; rfl
  · rw [if_neg d30, if_neg d31, if_neg d32, if_pos rfl]; rfl
theorem X_ret {M : Mem} {A : Wh} (h : BrR M A) {j w : Nat} (hj : j < (gRe (oS A)).1) (hw : w < 3) : f_X11_retained 0 (nW j) (nW w) M = some (.inl (reV ((gRe (oS A)).2 j) w), M) := by
  obtain ⟨k1, k2, k3, k4, k5, k6, _⟩ := BrR_k h
  obtain ⟨_, _, _, e4, _, _, e5, _⟩ := StR_k h.2.2.2.2.2.2
  have hRe := h.2.2.2.2.2.2.2.2.2.1
  have l8 : (gRe (oS A)).1 ≤ 8 := hRe.2.1
  have gn : aN (8 + 435) M = some (nW 8) := by
    obtain ⟨_, _, p, hp, _⟩ := hRe
    simp only [aN, hp.1]; rfl
  obtain ⟨a, ga, hra, hm⟩ := RetR_at hRe hj
  obtain ⟨yt, gt, ht⟩ := MsR_top hm
  obtain ⟨m1, ⟨g1, g2, g3, g4, g5, g6⟩, _⟩ := hm
  obtain ⟨sa, t1, t2, _⟩ := TextR_n ht
  have q1 : gI 1 1 a M = some (((gRe (oS A)).2 j).2 1) := by simp only [gI, m1, g1, ↓reduceIte]
  have q2 : gI 1 2 a M = some (((gRe (oS A)).2 j).2 2) := by simp only [gI, m1, g2, ↓reduceIte]
  have n0 : ¬ nW j < nW 0 := by rw [nW_lt (by omega) (by omega)]; omega
  have n1 : ¬ nW (gRe (oS A)).1 ≤ nW j := by rw [nW_le (by omega) (by omega)]; omega
  have n5 : nW j < nW 8 := by rw [nW_lt (by omega) (by omega)]; omega
  have base : ∀ f, f_X11_retained 0 (nW j) f M = (if f = nW 0 then some (.inl (((gRe (oS A)).2 j).2 1), M) else if f = nW 1 then some (.inl (((gRe (oS A)).2 j).2 2), M) else if f = nW 2 then some (.inl (nW (txS ((gRe (oS A)).2 j).1).length), M) else some (.inr 1, xM M)) := fun f => by
    simp only [f_X11_retained, k1, ↓reduceIte, k2, e4, e5, nW_lit, Option.bind_some, n0, n1, gn, n5, ga, q1, q2, gt, t1, t2]
  rw [base]
  have h5 : w = 0 ∨ w = 1 ∨ w = 2 := by omega
  rcases h5 with rfl | rfl | rfl
  · rw [if_pos rfl]; rfl
  · rw [if_neg d10, if_pos rfl]; rfl
  · rw [if_neg d20, if_neg d21, if_pos rfl]; rfl
theorem X_retN {M : Mem} {A : Wh} (h : BrR M A) : f_X11_retainedCount 0 M = some (nW (gRe (oS A)).1, M) := by
  obtain ⟨k1, k2, k3, k4, k5, _⟩ := BrR_k h
  have e5 := (StR_k h.2.2.2.2.2.2).2.2.2.2.2.2.1
  simp only [f_X11_retainedCount, k1, ↓reduceIte, k2, e5, Option.bind_some]
theorem X_err {M : Mem} {A : Wh} (h : BrR M A) : f_X11_errorPosition 0 M = some (oE A, M) := by
  obtain ⟨k1, k2, k3, k4, k5, _⟩ := BrR_k h
  simp only [f_X11_errorPosition, k1, ↓reduceIte, k5, Option.bind_some]
