/-! BETWEEN THE CALLS: what holds; the calls without a text -/
def Jv (k n : Nat) (M : Mem) (A : Wh) : Prop := BrR M A ∧ WI k A ∧ Fz M ∧ (PX k (oS A) ∧ PX k (oT A).2) ∧ mN M ≤ 908 + n ∧ mC M ≤ 908 + n ∧ mS M ≤ 8235 + 13 * n
theorem Jv.mono {j k m n : Nat} {M : Mem} {A : Wh} (h : Jv j m M A) (h1 : j ≤ k) (h2 : m ≤ n) : Jv k n M A := by
  obtain ⟨a, b, c, ⟨d, e⟩, f, g, i⟩ := h
  exact ⟨a, b.mono h1, c, ⟨d.mono h1, e.mono h1⟩, by omega, by omega, by omega⟩
theorem Jv_x {k n : Nat} {M : Mem} {A : Wh} (h : Jv k n M A) : Jv k (n + 1) (xM M) A := by
  obtain ⟨a, b, c, d, f, g, i⟩ := h
  exact ⟨BrR_x a, b, c, d, by show mN M ≤ _; omega, by show mC M + 1 ≤ _; omega, by show mS M + 6 ≤ _; omega⟩
theorem Jv_S {k k' n : Nat} {M M' : Mem} {A : Wh} {σ : Sg} {P : Nat → Prop} (h : Jv k n M A) (F : Fr P M M') (hP : ∀ a, P a → a = 7 ∨ SZ 8 a) (hS : StR M' 8 σ) (hI : SgI (k + 1) σ) (hk : k + 1 ≤ k') (hX : PX k' σ) : Jv k' n M' (pS A σ) := by
  obtain ⟨a, b, c, ⟨d, e⟩, f, g, i⟩ := h
  refine ⟨BrR_S a F.gr hP hS, (WI_S b hI).mono hk, ?_, ⟨hX, e.mono (by omega)⟩, ?_, ?_, ?_⟩
  · unfold Fz at *; rw [F.1, F.2.1.1]; exact c
  · rw [F.2.1.1]; exact f
  · rw [F.2.1.2.1]; exact g
  · rw [F.2.1.2.2]; exact i
theorem Jv_gk {k n w : Nat} {M M' : Mem} {A A' : Wh} (h : Jv k n M A) (G : Gk w M M') (hB : BrR M' A') (hW : WI k A') (e1 : oS A' = oS A) (e2 : (oT A').2 = (oT A).2) : Jv k (n + w) M' A' := by
  obtain ⟨a, b, c, d, f, g, i⟩ := h
  obtain ⟨g1, g2, g3, g4, g5⟩ := G
  exact ⟨hB, hW, g5 c, by rw [e1, e2]; exact d, by omega, by omega, by omega⟩
theorem Jv.on {k n : Nat} {M : Mem} {A : Wh} (h : Jv k n M A) {c : Nat} (hc : c < 6) (hon : cB (gCl (oS A) c) 0 = true) : cB (gCl (oS A) c) 3 = true := (h.2.1.1.1.1.2 c hc).2.2.1 hon
theorem Jv.len {k n : Nat} {M : Mem} {A : Wh} (h : Jv k n M A) {c : Nat} (hc : c < 6) : lim1 (gCl (oS A) c) := (h.2.1.1.1.1.2 c hc).2.1
theorem zInc : inZ 8 := ⟨by omega, by omega⟩
/-- setOption -/
theorem Cq_setOption {k n : Nat} {M : Mem} {A : Wh} (h : Jv k n M A) {o v : Nat} (ho : o < 4) (hv : v < 100) : (∃ M' σ x, f_X11_setOption 0 (nW o) (nW v) M = some (.inl (nW x), M') ∧ x ≤ 100 ∧ Jv (k + 2) n M' (pS A σ)) ∨ f_X11_setOption 0 (nW o) (nW v) M = some (.inr 1, xM M) := by
  have hB := h.1
  obtain ⟨k1, k2, _⟩ := BrR_k hB
  have n0 : ¬ nW o < nW 0 := by rw [nW_lt (by omega) (by omega)]; omega
  have n4 : nW o < nW 4 := by rw [nW_lt (by omega) (by omega)]; omega
  have main : ∀ lo hi : Nat, lo ≤ hi → hi < 1000 → stI 0 (nW o) = some (nW lo) → stI 1 (nW o) = some (nW hi) → (∃ x, x ≤ 100 ∧ gSc (oS A) (10 + o) = nW x) → (∀ x, lo ≤ x → x ≤ hi → OpOk (fset (gSc (oS A)) (10 + o) (nW x))) → (∃ M' σ x, f_X11_setOption 0 (nW o) (nW v) M = some (.inl (nW x), M') ∧ x ≤ 100 ∧ Jv (k + 2) n M' (pS A σ)) ∨ f_X11_setOption 0 (nW o) (nW v) M = some (.inr 1, xM M) := by
    intro lo hi hlh hh s0 s1 hx hok
    by_cases hr : lo ≤ v ∧ v ≤ hi
    · have h1 : ¬ nW v < nW lo := by rw [nW_lt (by omega) (by omega)]; omega
      have h2 : nW v ≤ nW hi := by rw [nW_le (by omega) (by omega)]; exact hr.2
      obtain ⟨e6, ea, M1, e1, F1, R1⟩ := StR_opt (nW v) zInc hB.2.2.2.2.2.2 ho
      obtain ⟨x, hx1, hx2⟩ := hx
      have hOp := hok v hr.1 hr.2
      refine Or.inl ⟨M1, _, x, ?_, hx1, Jv_S h F1 (fun a h => Or.inr (by unfold SZ; omega)) R1 ⟨SI_opt h.2.1.1.1 hOp, h.2.1.1.2.1, h.2.1.1.2.2.1, h.2.1.1.2.2.2.1, Nat.le_succ_of_le h.2.1.1.2.2.2.2⟩ (by omega) (PX.mono (j := k + 1) ?_ (by omega))⟩
      · rw [← hx2]
        simp only [f_X11_setOption, k1, ↓reduceIte, nW_lit, n0, n4, s0, s1, Option.bind_some, h1, h2, k2, e6, ea, e1]
      · exact PX_of h.2.2.2.1.1 (fun _ => rfl) (fun _ => ⟨0, by omega, (add_w0 _).symm⟩) (fset_ne _ _ (by omega)) h.2.2.2.1.1.2.2.2.1 h.2.2.2.1.1.2.2.2.2.1 h.2.2.2.1.1.2.2.2.2.2
    · refine Or.inr ?_
      simp only [f_X11_setOption, f_X11_setOption_J38, k1, ↓reduceIte, nW_lit, n0, n4, s0, s1, Option.bind_some]
      by_cases hl : v < lo
      · have : nW v < nW lo := by rw [nW_lt (by omega) (by omega)]; exact hl
        simp only [this, ↓reduceIte]
      · have h2 : ¬ nW v ≤ nW hi := by rw [nW_le (by omega) (by omega)]; omega
        simp only [h2, ↓reduceIte, ite_self]
  obtain ⟨⟨w, w1, w2, w3⟩, o1, o2, o3⟩ := h.2.1.1.1.1.1
  have hj4 : o = 0 ∨ o = 1 ∨ o = 2 ∨ o = 3 := by omega
  rcases hj4 with rfl | rfl | rfl | rfl
  · refine main 1 5 (by omega) (by omega) (by decide) (by decide) ⟨w, by omega, w1⟩ (fun x h1 h2 => ⟨⟨x, fset_eq _ _ _, h1, h2⟩, ?_, ?_, ?_⟩)
    · rw [fset_ne _ _ (by omega)]; exact o1
    · rw [fset_ne _ _ (by omega)]; exact o2
    · rw [fset_ne _ _ (by omega)]; exact o3
  · refine main 0 20 (by omega) (by omega) (by decide) (by decide) (by obtain ⟨a, b, c⟩ := o1; exact ⟨a, by omega, c⟩) (fun x h1 h2 => ⟨⟨w, by rw [fset_ne _ _ (by omega)]; exact w1, w2, w3⟩, ⟨x, h2, fset_eq _ _ _⟩, ?_, ?_⟩)
    · rw [fset_ne _ _ (by omega)]; exact o2
    · rw [fset_ne _ _ (by omega)]; exact o3
  · refine main 1 100 (by omega) (by omega) (by decide) (by decide) (by obtain ⟨a, b, c⟩ := o2; exact ⟨a, by omega, c⟩) (fun x h1 h2 => ⟨⟨w, by rw [fset_ne _ _ (by omega)]; exact w1, w2, w3⟩, ?_, ⟨x, h2, fset_eq _ _ _⟩, ?_⟩)
    · rw [fset_ne _ _ (by omega)]; exact o1
    · rw [fset_ne _ _ (by omega)]; exact o3
  · refine main 0 1 (by omega) (by omega) (by decide) (by decide) (by obtain ⟨a, b, c⟩ := o3; exact ⟨a, by omega, c⟩) (fun x h1 h2 => ⟨⟨w, by rw [fset_ne _ _ (by omega)]; exact w1, w2, w3⟩, ?_, ?_, ⟨x, h2, fset_eq _ _ _⟩⟩)
    · rw [fset_ne _ _ (by omega)]; exact o1
    · rw [fset_ne _ _ (by omega)]; exact o2
/-- connect -/
theorem Cq_connect {k n : Nat} {M : Mem} {A : Wh} (h : Jv k n M A) (hk : k < 500) {c : Nat} (hc : c < 5) (clean : Bool) : ∃ M' σ r, f_X11_connect 0 (nW c) (zI clean) M = some (.inl (zI r), M') ∧ Jv (k + 2) n M' (pS A σ) ∧ r = (!clean && (cB (gCl (oS A) c) 3 && !(cB (gCl (oS A) c) 0 && cB (gCl (oS A) c) 4))) ∧ ssV (gCl σ c) = (if clean = true then nW 3 else nW 2) ∧ gSc σ 5 = gSc (oS A) 5 + (if cB (gCl (oS A) c) 0 = true then nW 1 else nW 0) ∧ (cL (gCl σ c) 3).1 ≤ (if r = true then 6 else 0) := by
  have hc6 : c < 6 := by omega
  have hB := h.1
  have hW := h.2.1
  obtain ⟨k1, k2, _⟩ := BrR_k hB
  have cc := c_cl hc6 M
  obtain ⟨r1, r2, r3, r4, r5⟩ := BrR_c hB hc6
  have hSt := hB.2.2.2.2.2.2
  have hB0 : (mK M 0).1 = 11 ∧ mR M 0 6 = some 8 := ⟨hB.1.1, hB.1.2.2.2.2.1⟩
  cases hon : cB (gCl (oS A) c) 0 with
  | false =>
    rw [hon, zI_f] at r3
    obtain ⟨M2, e2, F2, R2⟩ := B_connect clean hB0 hSt hW.1.1 hc6 hon
    obtain ⟨x1, x2, x3, x4, x5⟩ := conn_facts clean h.2.2.2.1.1 hW.1.1 hW.1.2.1 hc6 (by omega) hon
    refine ⟨M2, _, (spConn (oS A) c clean).1, ?_, Jv_S h F2 (fun a h => Or.inr h) R2 (SgI_of hW.1 (SI_conn hW.1.1 hc6 hon clean) (Pe_conn clean hW.1.2.1) (NL_conn _ c clean) (by rw [gTa_conn]; exact Nat.le_succ _)) (by omega) (x1.mono (by omega)), ?_, x3, ?_, x5⟩
    · simp only [f_X11_connect, k1, ↓reduceIte, cc, bindX, k2, r1, r2, r3, nW_lit, e2, Option.bind_some]
    · rw [x2]; simp
    · rw [x4 5 (by omega) (by omega) (by omega) (by omega), if_neg (by decide), add_w0]
  | true =>
    rw [hon, zI_t] at r3
    have hex := h.on hc6 hon
    obtain ⟨t1, t2, M1, t3, F1, R1, _⟩ := StR_inc zInc hSt (i := 5) (by omega)
    have B1 := BrR_S hB F1.gr (fun a h => Or.inr h) R1
    have S1 := SI_tot hW.1.1 (i := 5) (by omega)
    have hta : (gTa (uSc (oS A) (tot (gSc (oS A)) 5))).1 < 512 := by
      have := hW.1.2.2.2.2
      show (gTa (oS A)).1 < 512
      omega
    obtain ⟨M2, e2, F2, R2⟩ := St_fail zInc R1 S1 hc6 hta
    obtain ⟨Me, _, _, Re⟩ := St_endC zInc R1 S1 hc6
    have h36 : (gSh (spEndC (uSc (oS A) (tot (gSc (oS A)) 5)) c)).length ≤ 36 := Re.2.2.1.2.1
    have S2 : SI (spFail (uSc (oS A) (tot (gSc (oS A)) 5)) c).2 := SI_failP S1 hc6
    have hB2 := fr_0 F2 (by unfold SZ; omega) (fr_0 F1 (by unfold SZ; omega) hB0)
    obtain ⟨M3, e3, F3, R3⟩ := B_connect clean hB2 R2 S2 hc6 off_fail
    have P1 : Pe (uSc (oS A) (tot (gSc (oS A)) 5)) := hW.1.2.1
    have P2 := Pe_fail (c := c) P1
    have NLx : NL (oS A) (spConn (spFail (uSc (oS A) (tot (gSc (oS A)) 5)) c).2 c clean).2 := NL.trans (σ' := (spFail (uSc (oS A) (tot (gSc (oS A)) 5)) c).2) (NL_fail (uSc (oS A) (tot (gSc (oS A)) 5)) c) (NL_conn _ c clean)
    have kk := (BrR_k B1).2.1
    have X1 : PX k (uSc (oS A) (tot (gSc (oS A)) 5)) := by
      obtain ⟨a, b, d, e⟩ := h.2.2.2.1.1
      exact ⟨a, b, by show ∃ n, n ≤ 100 * k ∧ tot (gSc (oS A)) 5 14 = nW n; rw [tot_ne _ (by omega)]; exact d, e⟩
    obtain ⟨y1, y2, y3⟩ := fail_facts (c := c) X1 hc6 (by omega) h36
    obtain ⟨x1, x2, x3, x4, x5⟩ := conn_facts clean y1 S2 P2 hc6 (by omega) off_fail
    refine ⟨M3, _, (spConn (spFail (uSc (oS A) (tot (gSc (oS A)) 5)) c).2 c clean).1, ?_, Jv_S h ((F1.trans F2).trans F3) (fun a h => Or.inr h) R3 (SgI_of hW.1 (SI_conn S2 hc6 off_fail clean) (Pe_conn clean P2) NLx (by rw [gTa_conn]; exact gTa_fail (uSc (oS A) (tot (gSc (oS A)) 5)) c)) (by omega) x1, ?_, x3, ?_, x5⟩
    · simp only [f_X11_connect, k1, ↓reduceIte, cc, bindX, k2, r1, r2, r3, z1n0, nW_lit, t1, t2, t3, kk, e2, bindP, e3, Option.bind_some]
    · rw [x2, y3]
      show (!clean && (cB (gCl (oS A) c) 3 && !(cB (gCl (oS A) c) 4))) = _
      simp
    · rw [x4 5 (by omega) (by omega) (by omega) (by omega), y2 5 (by omega) (by omega) (by omega) (by omega) (by omega) (by omega), if_pos rfl]
      show tot (gSc (oS A)) 5 5 = _
      exact tot_eq _ _
/-- breakConnection -/
theorem Cq_break {k n : Nat} {M : Mem} {A : Wh} (h : Jv k n M A) (hk : k < 500) {c : Nat} (hc : c < 5) (hon : cB (gCl (oS A) c) 0 = true) : ∃ M' σ r, f_X11_breakConnection 0 (nW c) M = some (.inl (zI r), M') ∧ Jv (k + 2) n M' (pS A σ) := by
  have hc6 : c < 6 := by omega
  have hB := h.1
  have hW := h.2.1
  obtain ⟨k1, k2, _⟩ := BrR_k hB
  have cc := c_cl hc6 M
  have cn := c_conn hB hc6
  rw [hon, if_pos rfl] at cn
  have hSt := hB.2.2.2.2.2.2
  have hta : (gTa (oS A)).1 < 512 := by have := hW.1.2.2.2.2; omega
  obtain ⟨M2, e2, F2, R2⟩ := St_fail zInc hSt hW.1.1 hc6 hta
  obtain ⟨Me, _, _, Re⟩ := St_endC zInc hSt hW.1.1 hc6
  have S2 : SI (spFail (oS A) c).2 := SI_failP hW.1.1 hc6
  obtain ⟨y1, y2, y3⟩ := fail_facts (c := c) h.2.2.2.1.1 hc6 (by omega) Re.2.2.1.2.1
  refine ⟨M2, _, (spFail (oS A) c).1, ?_, Jv_S h F2 (fun a h => Or.inr h) R2 (SgI_of hW.1 S2 (Pe_fail hW.1.2.1) (NL_fail _ c) (gTa_fail _ c)) (by omega) (y1.mono (by omega))⟩
  simp only [f_X11_breakConnection, k1, ↓reduceIte, cc, cn, bindX, k2, e2, bindP, Option.bind_some]
theorem Cq_breakOff {k n : Nat} {M : Mem} {A : Wh} (h : Jv k n M A) {c : Nat} (hc : c < 6) (hon : cB (gCl (oS A) c) 0 = false) : f_X11_breakConnection 0 (nW c) M = some (.inr 2, xM M) := by
  obtain ⟨k1, k2, _⟩ := BrR_k h.1
  have cn := c_conn h.1 hc
  rw [hon, if_neg (by decide)] at cn
  simp only [f_X11_breakConnection, k1, ↓reduceIte, c_cl hc, cn, bindX]
theorem c_cl6 (M : Mem) : f_X11_requireClient (nW 6) M = some (.inr 3, xM M) := by
  have cc := c_client (nW 6) M
  rwa [if_neg (by decide)] at cc
theorem Cq_break6 {k n : Nat} {M : Mem} {A : Wh} (h : Jv k n M A) : f_X11_breakConnection 0 (nW 6) M = some (.inr 3, xM M) := by
  obtain ⟨k1, k2, _⟩ := BrR_k h.1
  simp only [f_X11_breakConnection, k1, ↓reduceIte, c_cl6, bindX]
theorem Cq_receive6 {k n : Nat} {M : Mem} {A : Wh} (h : Jv k n M A) : f_X11_receive 0 (nW 6) M = some (.inr 3, xM M) := by
  obtain ⟨k1, k2, _⟩ := BrR_k h.1
  simp only [f_X11_receive, k1, ↓reduceIte, c_cl6, bindX]
theorem Cq_receiveOff {k n : Nat} {M : Mem} {A : Wh} (h : Jv k n M A) {c : Nat} (hc : c < 6) (hon : cB (gCl (oS A) c) 0 = false) : f_X11_receive 0 (nW c) M = some (.inr 2, xM M) := by
  obtain ⟨k1, k2, _⟩ := BrR_k h.1
  have cn := c_conn h.1 hc
  rw [hon, if_neg (by decide)] at cn
  simp only [f_X11_receive, k1, ↓reduceIte, c_cl hc, cn, bindX]
/-- release -/
theorem Cq_release {k n : Nat} {M : Mem} {A : Wh} (h : Jv k n M A) {c i : Nat} (hc : c < 6) (hi1 : 1 ≤ i) (hi2 : i ≤ 50) (hon : cB (gCl (oS A) c) 0 = true) : ∃ M' σ, f_X11_release 0 (nW c) (nW i) M = some (.inl (zI (cK (gCl (oS A) c) i)), M') ∧ Jv (k + 2) n M' (pS A σ) := by
  have hB := h.1
  have hW := h.2.1
  obtain ⟨k1, k2, _⟩ := BrR_k hB
  have cc := c_cl hc M
  have cr := c_rng (a := 1) (b := 50) hi1 hi2 (by omega) M
  have cn := c_conn hB hc
  rw [hon, if_pos rfl] at cn
  obtain ⟨r1, r2, r3, r4, r5⟩ := BrR_c hB hc
  have hSt := hB.2.2.2.2.2.2
  have hZ : inZ 8 := zInc
  have hex := h.on hc hon
  have ek := Cl_keeps (hSt.2.1 c hc) (show i < 51 by omega)
  obtain ⟨M1, e1, F1, R1⟩ := Cl_forget (hZ.c hc) (hSt.2.1 c hc) hi1 hi2
  obtain ⟨H1, F1'⟩ := St_cl hSt hc F1 (fun a h => by omega) R1
  have S1 := SI_forget (i := i) hW.1.1 hc hex
  obtain ⟨M2, e2, F2, R2⟩ := St_sign (nW 4) (nW i) hZ H1 hc
  have B1 := BrR_S hB F1'.gr (fun a h => Or.inr h) H1
  have kk := (BrR_k B1).2.1
  have S2 := SI_sign (nW 4) (nW i) S1 hc (by rw [gCl_putG]; exact hon)
  rw [getG_putG, putG_putG] at R2 S2
  have sm := sign_same (gSc (oS A), spForget (gCl (oS A) c) i) (nW 4) (nW i)
  have q := PrG_sign (gSc (oS A), spForget (gCl (oS A) c) i) (nW 4) (nW i)
  refine ⟨M2, _, ?_, Jv_S h (F1'.trans F2) (fun a h => Or.inr h) R2 (SgI_of hW.1 S2 (Pe_put hW.1.2.1 (fun _ h0 => ?_)) (NL_put sm.2.2.2.1 (Or.inl sm.2.2.1)) (Nat.le_succ _)) (by omega) (PX.mono (j := k + 1) (PX_Pr h.2.2.2.1.1 (Pr_put' (n := 1) q.1 (fun i _ b d e => q.2 i b d e)) (by omega) (fun c' => ?_) (fun c' => ?_)) (by omega))⟩
  · simp only [f_X11_release, k1, ↓reduceIte, cc, nW_lit, cr, cn, bindX, k2, r1, r2, r4, ek, bindP, e1, kk, e2, Option.bind_some, zI_eq0]
    cases cK (gCl (oS A) c) i <;> rfl
  · rw [sm.1] at h0
    exact absurd (hon.symm.trans h0) (by decide)
  · rw [gCl_put]
    by_cases e : c' = c
    · subst e; rw [if_pos rfl]; exact sm.2.2.2.1
    · rw [if_neg e]
  · rw [gCl_put]
    by_cases e : c' = c
    · subst e; rw [if_pos rfl]; exact ⟨sm.1, sm.2.1⟩
    · rw [if_neg e]; exact ⟨rfl, rfl⟩
/-- answer -/
theorem Cq_answer {k n : Nat} {M : Mem} {A : Wh} (h : Jv k n M A) {c i : Nat} {y : Int32} (hc : c < 6) (hy : y = nW 1 ∨ y = nW 2 ∨ y = nW 4) (hi1 : 1 ≤ i) (hi2 : i ≤ 50) (hon : cB (gCl (oS A) c) 0 = true) : ∃ M', f_X11_answer 0 (nW c) y (nW i) M = some (.inl (zI (spAns (getG (oS A) c) y (nW i)).1), M') ∧ Jv (k + 2) n M' (pS A (putG (oS A) c (spAns (getG (oS A) c) y (nW i)).2)) := by
  have hB := h.1
  have hW := h.2.1
  obtain ⟨k1, k2, _⟩ := BrR_k hB
  have cc := c_cl hc M
  have ef : f_X11_answer 0 (nW c) y (nW i) M = f_X11_answer_J27 0 (nW c) y (nW i) M := by
    rcases hy with rfl | rfl | rfl
    · simp only [f_X11_answer, k1, ↓reduceIte, cc, bindX, nW_lit]
    · simp only [f_X11_answer, k1, ↓reduceIte, cc, bindX, nW_lit, d21]
    · simp only [f_X11_answer, k1, ↓reduceIte, cc, bindX, nW_lit, d41, d42]
  have cr := c_rng (a := 1) (b := 50) hi1 hi2 (by omega) M
  have cn := c_conn hB hc
  rw [hon, if_pos rfl] at cn
  obtain ⟨r1, r2, r3, r4, r5⟩ := BrR_c hB hc
  have hSt := hB.2.2.2.2.2.2
  have hZ : inZ 8 := zInc
  have hG := hW.1.1.1.2 c hc
  obtain ⟨M1, e1, F1, R1⟩ := C_answer y (nW i) (hZ.s hc) (StR_get hSt hc) hG
  have H1 := StR_put hSt hc F1 R1
  have sm := ans_same (getG (oS A) c) y (nW i)
  have S1 : SI (putG (oS A) c (spAns (getG (oS A) c) y (nW i)).2) := SI_put hW.1.1 hc (GI_ans hG hon) (fun j h1 h2 => sm.2.2.2.2 j h1) sm.2.2.1 (by
    have := hW.1.1.2.2.2.2.2.2 c hc
    unfold WiOk at this ⊢
    rw [sm.1, sm.2.1]; exact this)
  have NLx : NL (oS A) (putG (oS A) c (spAns (getG (oS A) c) y (nW i)).2) := NL_put sm.2.2.2.1 (Or.inl sm.2.2.1)
  obtain ⟨q1, q2⟩ := ans_facts (getG (oS A) c) y (nW i)
  refine ⟨M1, ?_, Jv_S h (F1.mono (fun a h => CZ_SZ hc h)) (fun a h => Or.inr h) H1 (SgI_of hW.1 S1 (Pe_put hW.1.2.1 (fun _ h0 => ?_)) NLx (Nat.le_succ _)) (by omega) (PX.mono (j := k + 1) (PX_of h.2.2.2.1.1 (fun c' => (NLx c').1) (fun c' => ?_) (q2 14 (by omega) (by omega) (by omega) (by omega)) h.2.2.2.1.1.2.2.2.1 (fun c' hc' => ?_) ?_) (by omega))⟩
  · rw [ef]
    simp only [f_X11_answer_J27, cc, nW_lit, cr, cn, bindX, k2, r1, r2, e1, bindP, Option.bind_some, zI_eq0]
    cases (spAns (getG (oS A) c) y (nW i)).1 <;> rfl
  · rw [sm.1] at h0
    exact absurd (hon.symm.trans h0) (by decide)
  · rw [gCl_put]
    by_cases e : c' = c
    · subst e
      rw [if_pos rfl]
      obtain ⟨m, hm, em⟩ := q1
      exact ⟨m, by omega, em⟩
    · rw [if_neg e]; exact ⟨0, by omega, (add_w0 _).symm⟩
  · rw [gCl_put]
    by_cases e : c' = c
    · subst e
      rw [if_pos rfl]
      exact WiP_of (h.2.2.2.1.1.2.2.2.2.1 c' hc') (fun e => by rw [sm.1] at e; exact e) sm.2.1
    · rw [if_neg e]; exact h.2.2.2.1.1.2.2.2.2.1 c' hc'
  · rw [gCl_put]
    by_cases e : 5 = c
    · subst e
      rw [if_pos rfl, sm.1]; exact h.2.2.2.1.1.2.2.2.2.2
    · rw [if_neg e]; exact h.2.2.2.1.1.2.2.2.2.2
theorem Cq_answerOff {k n : Nat} {M : Mem} {A : Wh} (h : Jv k n M A) {c : Nat} (hc : c < 6) (hon : cB (gCl (oS A) c) 0 = false) : f_X11_answer 0 (nW c) (nW 1) (nW 1) M = some (.inr 2, xM M) := by
  obtain ⟨k1, k2, _⟩ := BrR_k h.1
  have cn := c_conn h.1 hc
  rw [hon, if_neg (by decide)] at cn
  have cr := c_rng (i := 1) (a := 1) (b := 50) (by omega) (by omega) (by omega) M
  simp only [f_X11_answer, f_X11_answer_J27, k1, ↓reduceIte, c_cl hc, cn, bindX, nW_lit, cr]
theorem Cq_answer3 {k n : Nat} {M : Mem} {A : Wh} (h : Jv k n M A) : f_X11_answer 0 (nW 0) (nW 3) (nW 1) M = some (.inr 1, xM M) := by
  obtain ⟨k1, k2, _⟩ := BrR_k h.1
  have d34 : ¬ nW 3 = nW 4 := by decide
  simp only [f_X11_answer, k1, ↓reduceIte, c_cl (show 0 < 6 by omega), bindX, nW_lit, d31, d32, d34]
/-- advance -/
theorem Cq_advance {k n : Nat} {M : Mem} {A : Wh} (h : Jv k n M A) (hk : k < 500) {m : Nat} (h1 : 1 ≤ m) (h2 : m ≤ 5) : ∃ M' σ, f_X11_advance 0 (nW m) M = some (.inl (gSc (oS A) 14 + nW m), M') ∧ Jv (k + 5) n M' (pS A σ) := by
  have hB := h.1
  have hW := h.2.1
  have k1 := hB.1.1
  have cr := c_rng (i := m) (a := 1) (b := 100) h1 (by omega) (by omega) M
  obtain ⟨M', e, F, R⟩ := c_adv_L9 (k := k) (A := A) (m := m) (by omega) ⟨hB.1.1, hB.1.2.2.2.2.1⟩ FU 0 M (oS A) (by omega) (by simp only [FU]; omega) ⟨hB.1.1, hB.1.2.2.2.2.1⟩ hB.2.2.2.2.2.2 hW.1
  rw [Nat.sub_zero] at e R
  have S' := SgI_itT m (oS A) hW.1
  obtain ⟨x1, x2⟩ := PX_itT m (oS A) hW.1 h.2.2.2.1.1 (by omega)
  refine ⟨M', itT m (oS A), ?_, Jv_S h F (fun a h => Or.inr h) R (S'.mono (Nat.le_succ _)) (by omega) (x1.mono (by omega))⟩
  simp only [f_X11_advance, k1, ↓reduceIte, nW_lit, cr, bindX]
  rw [← x2]
  exact e
/-- save, restore -/
theorem Cq_save {k n : Nat} {M : Mem} {A : Wh} (h : Jv k n M A) : ∃ M', f_X11_save 0 M = some (gSc (oS A) 14, M') ∧ Jv k n M' (oB A, oE A, oP A, oS A, (true, oS A)) := by
  have hB := h.1
  have hW := h.2.1
  obtain ⟨k1, k2, k3, _⟩ := BrR_k hB
  obtain ⟨M1, e1, F1, R1⟩ := X7_copyFrom (show inZ 458 by unfold inZ; omega) (show 458 + 450 ≤ 8 ∨ 8 + 450 ≤ 458 by omega) hB.2.2.2.2.2.1.2 hB.2.2.2.2.2.2
  have x0 := F1.2.2 0 (Or.inr (by unfold SZ; omega))
  have k1' : (mK M1 0).1 = 11 := by rw [F1.1]; exact k1
  have hz : pZ 11 7 0 (nW 1) M1 = some (sI M1 (up2 (mI M1) 0 7 (nW 1))) := pZ_z true k1'
  have F2 := fq_I M1 7 (nW 1) (show ¬ tz 0 by simp only [tz]; omega)
  have F12 : Fr (fun a => a = 0 ∨ SZ 458 a) M (sI M1 (up2 (mI M1) 0 7 (nW 1))) := (F1.mono (fun a h => Or.inr h)).trans (F2.mono (fun a h => Or.inl h))
  have R2 := R1.gr F2.gr (fun a h => by unfold SZ at h; omega)
  have B2 := BrR_T hB F12 (by simp only [sI_mI, sI_mL, sI_mF, sI_mR, sI_mK, sI_mN, sI_mC, sI_mS, sL_mI, sL_mL, sL_mF, sL_mR, sL_mK, sL_mN, sL_mC, sL_mS, sF_mI, sF_mL, sF_mF, sF_mR, sF_mK, sF_mN, sF_mC, sF_mS, sR_mI, sR_mL, sR_mF, sR_mR, sR_mK, sR_mN, sR_mC, sR_mS, up2_eq]) (fun j hj => by simp only [sI_mI, sI_mL, sI_mF, sI_mR, sI_mK, sI_mN, sI_mC, sI_mS, sL_mI, sL_mL, sL_mF, sL_mR, sL_mK, sL_mN, sL_mC, sL_mS, sF_mI, sF_mL, sF_mF, sF_mR, sF_mK, sF_mN, sF_mC, sF_mS, sR_mI, sR_mL, sR_mF, sR_mR, sR_mK, sR_mN, sR_mC, sR_mS]; rw [up2_nj _ _ _ _ hj, x0.1]) (by simp only [sI_mI, sI_mL, sI_mF, sI_mR, sI_mK, sI_mN, sI_mC, sI_mS, sL_mI, sL_mL, sL_mF, sL_mR, sL_mK, sL_mN, sL_mC, sL_mS, sF_mI, sF_mL, sF_mF, sF_mR, sF_mK, sF_mN, sF_mC, sF_mS, sR_mI, sR_mL, sR_mF, sR_mR, sR_mK, sR_mN, sR_mC, sR_mS]; rw [x0.2.2.2]) R2
  have g9 := BaR_clock B2.2.2.2.2.2.2.1
  have g6 := (BrR_k B2).2.1
  refine ⟨_, ?_, B2, ⟨hW.1, hW.1, hW.2.2⟩, ?_, ⟨h.2.2.2.1.1, h.2.2.2.1.1⟩, ?_, ?_, ?_⟩
  · simp only [f_X11_save, k1, ↓reduceIte, k3, k2, e1, nW_lit, hz, g6, g9, Option.bind_some]
  · have := h.2.2.1
    unfold Fz at *; rw [F12.1, F12.2.1.1]; exact this
  · rw [F12.2.1.1]; exact h.2.2.2.2.1
  · rw [F12.2.1.2.1]; exact h.2.2.2.2.2.1
  · rw [F12.2.1.2.2]; exact h.2.2.2.2.2.2
theorem Cq_restore {k n : Nat} {M : Mem} {A : Wh} (h : Jv k n M A) (hp : (oT A).1 = true) : ∃ M', f_X11_restore 0 M = some (.inl (gSc (oT A).2 14), M') ∧ Jv k n M' (pS A (oT A).2) := by
  have hB := h.1
  have hW := h.2.1
  obtain ⟨k1, k2, k3, k4, k5, k6, k7⟩ := BrR_k hB
  rw [hp, zI_t] at k7
  obtain ⟨M1, e1, F1, R1⟩ := X7_copyFrom (show inZ 8 by unfold inZ; omega) (show 8 + 450 ≤ 458 ∨ 458 + 450 ≤ 8 by omega) hB.2.2.2.2.2.2 hB.2.2.2.2.2.1.2
  have B1 := BrR_S hB F1.gr (fun a h => Or.inr h) R1
  have g9 := BaR_clock R1.1
  have g6 := (BrR_k B1).2.1
  refine ⟨M1, ?_, B1, ⟨hW.2.1, hW.2.1, hW.2.2⟩, ?_, ⟨h.2.2.2.1.2, h.2.2.2.1.2⟩, ?_, ?_, ?_⟩
  · simp only [f_X11_restore, k1, ↓reduceIte, k7, Option.bind_some, nW_lit, z1n0, k2, k3, e1, g6, g9]
  · have := h.2.2.1
    unfold Fz at *; rw [F1.1, F1.2.1.1]; exact this
  · rw [F1.2.1.1]; exact h.2.2.2.2.1
  · rw [F1.2.1.2.1]; exact h.2.2.2.2.2.1
  · rw [F1.2.1.2.2]; exact h.2.2.2.2.2.2
theorem Cq_restore0 {M : Mem} {A : Wh} (h : BrR M A) (hp : (oT A).1 = false) : f_X11_restore 0 M = some (.inr 2, xM M) := by
  obtain ⟨k1, k2, k3, k4, k5, k6, k7⟩ := BrR_k h
  rw [hp, zI_f] at k7
  simp only [f_X11_restore, k1, ↓reduceIte, k7, Option.bind_some, nW_lit]
