/-! TICKS -/
def itS (f : Nat → Sg → Sg) : Nat → Nat → Sg → Sg
  | 0, _, σ => σ
  | n + 1, c, σ => itS f n (c + 1) (f c σ)
def tkLate (c : Nat) (σ : Sg) : Sg := if cB (gCl σ c) 0 = true ∧ gSc σ 11 ≠ nW 0 then putG σ c (spLate (cL (gCl σ c) 1).1 0 (getG σ c)) else σ
def ldv (x : UInt32) (n : Int32) : UInt32 := FP.fadd (FP.fmul x (1061158912 : UInt32)) (FP.fmul (FP.i2f n) (1048576000 : UInt32))
def tkLoad (c : Nat) (σ : Sg) : Sg := putG σ c (gSc σ, uI (uF (gCl σ c) (ldv (cF (gCl σ c)) (cI (gCl σ c) 0))) 0 (nW 0))
def tkExp (c : Nat) (σ : Sg) : Sg := if cB (gCl σ c) 3 = true ∧ cB (gCl σ c) 0 = false ∧ ¬ gSc σ 14 - cI (gCl σ c) 1 < gSc σ 12 then uSc (spRemove σ c) (tot (gSc σ) 7) else σ
def tkClock (σ : Sg) : Sg := uSc σ (fset (gSc σ) 14 (gSc σ 14 + nW 1))
def spTick (σ : Sg) : Sg := itS tkExp 6 0 (itS tkLoad 6 0 (itS tkLate 6 0 (tkClock σ)))
theorem fmulO_eq {x y z : UInt32} (h : fmulO x y = some z) : z = FP.fmul x y := by
  unfold fmulO at h
  split at h
  · exact (Option.some.inj h).symm
  · cases h
theorem faddO_eq {x y z : UInt32} (h : faddO x y = some z) : z = FP.fadd x y := by
  unfold faddO at h
  split at h
  · exact (Option.some.inj h).symm
  · cases h
theorem ldv_ok {x : UInt32} (n : Int32) (h : LdOk x) : fmulO x (1061158912 : UInt32) = some (FP.fmul x (1061158912 : UInt32)) ∧ fmulO (FP.i2f n) (1048576000 : UInt32) = some (FP.fmul (FP.i2f n) (1048576000 : UInt32)) ∧ faddO (FP.fmul x (1061158912 : UInt32)) (FP.fmul (FP.i2f n) (1048576000 : UInt32)) = some (ldv x n) ∧ LdOk (ldv x n) := by
  obtain ⟨a, b, z, e1, e2, e3, e4⟩ := ld_step n h
  have q1 := fmulO_eq e1
  have q2 := fmulO_eq e2
  have q3 := faddO_eq e3
  subst q1; subst q2; subst q3
  exact ⟨e1, e2, e3, e4⟩
theorem late_same : ∀ n i (g : GS), cB (spLate n i g).2 = cB g.2 ∧ cW (spLate n i g).2 = cW g.2 ∧ cL (spLate n i g).2 3 = cL g.2 3 ∧ cF (spLate n i g).2 = cF g.2 ∧ ∀ j, 10 ≤ j → (spLate n i g).1 j = g.1 j
  | 0, i, g => ⟨rfl, rfl, rfl, rfl, fun _ _ => rfl⟩
  | n + 1, i, g => by
    rw [spLate]
    split
    · obtain ⟨a1, a2, a3, a4, a5⟩ := late_same n (i + 1) (spResend g i)
      obtain ⟨b1, b2, b3, b4, b5⟩ := spResend_same g i
      exact ⟨a1.trans b1, a2.trans b2, a3.trans b3, a4.trans b4, fun j hj => (a5 j hj).trans (b5 j hj)⟩
    · exact late_same n (i + 1) g
theorem SgI_late {k c : Nat} {σ : Sg} (h : SgI k σ) (hc : c < 6) : SgI k (tkLate c σ) := by
  unfold tkLate
  split
  · rename_i hon
    obtain ⟨a1, a2, a3, a4, a5⟩ := late_same (cL (gCl σ c) 1).1 0 (getG σ c)
    have hS : SI (putG σ c (spLate (cL (gCl σ c) 1).1 0 (getG σ c))) := SI_put h.1 hc (GI_late _ _ (h.1.1.2 c hc) hon.1 (by show 0 + (cL (gCl σ c) 1).1 ≤ (cL (gCl σ c) 1).1; omega)) (fun j h1 _ => a5 j h1) a3 (by
      have := h.1.2.2.2.2.2.2 c hc
      unfold WiOk at this ⊢
      rw [a1, a2]; exact this)
    have N : NL σ (putG σ c (spLate (cL (gCl σ c) 1).1 0 (getG σ c))) := NL_put a4 (Or.inl a3)
    exact ⟨hS, Pe_put h.2.1 (fun h3 h0 => by rw [a1] at h3 h0 ⊢; exact h.2.1 c hc h3 h0), fun c' hc' => by rw [(N c').1]; exact h.2.2.1 c' hc', N.ne h.2.2.2.1, h.2.2.2.2⟩
  · exact h
theorem SgI_load {k c : Nat} {σ : Sg} (h : SgI k σ) (hc : c < 6) : SgI k (tkLoad c σ) := by
  unfold tkLoad
  refine ⟨SI_put h.1 hc (h.1.1.2 c hc) (fun _ _ _ => rfl) rfl (h.1.2.2.2.2.2.2 c hc), Pe_put h.2.1 (h.2.1 c hc), fun c' hc' => ?_, fun c' hc' j hj => ?_, h.2.2.2.2⟩
  · have ecl : ∀ g : GS, gCl (putG σ c g) c' = if c' = c then g.2 else gCl σ c' := fun _ => rfl
    rw [ecl]
    by_cases e : c' = c
    · subst e
      rw [if_pos rfl]
      exact (ldv_ok _ (h.2.2.1 c' hc')).2.2.2
    · rw [if_neg e]; exact h.2.2.1 c' hc'
  · have ecl : ∀ g : GS, gCl (putG σ c g) c' = if c' = c then g.2 else gCl σ c' := fun _ => rfl
    rw [ecl] at hj ⊢
    by_cases e : c' = c
    · subst e
      rw [if_pos rfl] at hj ⊢
      exact h.2.2.2.1 c' hc' j hj
    · rw [if_neg e] at hj ⊢; exact h.2.2.2.1 c' hc' j hj
theorem SgI_exp {k c : Nat} {σ : Sg} (h : SgI k σ) (hc : c < 6) : SgI k (tkExp c σ) := by
  unfold tkExp
  split
  · rename_i hx
    have S1 := SI_remove h.1 hc hx.2.1
    have N := NL_remove σ c
    have S2 : SI (uSc (spRemove σ c) (tot (gSc σ) 7)) := SI_tot (σ := spRemove σ c) S1 (i := 7) (by omega)
    have P1 := Pe_remove (c := c) h.2.1
    exact ⟨S2, P1, fun c' hc' => by
      have := (N c').1
      show LdOk (cF (gCl (spRemove σ c) c'))
      rw [this]; exact h.2.2.1 c' hc', N.ne h.2.2.2.1, h.2.2.2.2⟩
  · exact h
theorem SgI_it {k : Nat} {f : Nat → Sg → Sg} (hf : ∀ c σ, c < 6 → SgI k σ → SgI k (f c σ)) : ∀ n c σ, c + n ≤ 6 → SgI k σ → SgI k (itS f n c σ)
  | 0, c, σ, _, h => h
  | n + 1, c, σ, hn, h => SgI_it hf n (c + 1) (f c σ) (by omega) (hf c σ (by omega) h)
theorem SgI_clock {k : Nat} {σ : Sg} (h : SgI k σ) : SgI k (tkClock σ) := ⟨SI_sc h.1 (fun i h1 h2 => fset_ne _ _ (by omega)), h.2.1, h.2.2.1, h.2.2.2.1, h.2.2.2.2⟩
theorem SgI_tick {k : Nat} {σ : Sg} (h : SgI k σ) : SgI k (spTick σ) := SgI_it (fun _ _ hc h => SgI_exp h hc) 6 0 _ (by omega) (SgI_it (fun _ _ hc h => SgI_load h hc) 6 0 _ (by omega) (SgI_it (fun _ _ hc h => SgI_late h hc) 6 0 _ (by omega) (SgI_clock h)))
/-! the class -/
theorem StR_clock {M : Mem} {S : Nat} {σ : Sg} (v : Int32) (hZ : inZ S) (h : StR M S σ) : gI 7 9 S M = some (gSc σ 14) ∧ ∃ M1, pI 7 9 S v M = some M1 ∧ Fr (SZ S) M M1 ∧ StR M1 S (uSc σ (fset (gSc σ) 14 v)) := by
  have hz : ¬ tz S := by unfold inZ at hZ; simp only [tz]; omega
  have F := fq_I M 9 v hz
  obtain ⟨⟨⟨h1, ⟨x, h2, h2'⟩, h3⟩, h4, h5, h6, h7, h8⟩, hc, hs, hr, ht⟩ := h
  have e1 : pI 7 9 S v M = some (sI M (up2 (mI M) S 9 v)) := by simp only [pI, h1, ↓reduceIte]
  refine ⟨by simp only [gI, h1, h4, ↓reduceIte], _, e1, F.mono (fun a h => by subst h; unfold SZ; omega), ⟨⟨h1, ⟨x, h2, h2'.gr F.gr⟩, h3⟩, ?_, h5, ⟨h6.1, fun j hj => ?_⟩, ⟨h7.1, fun j hj => ?_⟩, h8⟩, fun c hc6 => (hc c hc6).gr F.gr (fun b _ _ => by omega), ?_, ?_, ht.gr F.gr (by omega)⟩
  · show up2 (mI M) S 9 v S 9 = fset (gSc σ) 14 v 14
    rw [up2_eq, fset_eq]
  · show up2 (mI M) S 9 v (S + 444) j = fset (gSc σ) 14 v (10 + j)
    rw [up2_ne _ _ _ _ (by omega), fset_ne _ _ (by omega), h6.2 j hj]
  · show up2 (mI M) S 9 v (S + 445) j = fset (gSc σ) 14 v j
    rw [up2_ne _ _ _ _ (by omega), fset_ne _ _ (by omega), h7.2 j hj]
  · obtain ⟨s1, s2, p, s3, s4, s5⟩ := hs
    refine ⟨?_, s2, p, s3.gr F.gr (by decide) (by decide) (by omega), fun j hj => ?_, fun j hj => ?_⟩
    · show up2 (mI M) S 9 v S 3 = _
      rw [up2_nj _ _ _ _ (by omega)]; exact s1
    · have := (s3.2.1 j hj).2.2
      exact ⟨(s4 j hj).1, (s4 j hj).2.gr F.gr (by omega)⟩
    · have := (s3.2.1 j (by have : j < (gSh σ).length := hj; have : (gSh σ).length ≤ 36 := s2; omega)).2.2
      exact (s5 j hj).gr F.gr (s4 j (by have : j < (gSh σ).length := hj; have : (gSh σ).length ≤ 36 := s2; omega)).2 (by omega)
  · obtain ⟨r1, r2, p, r3, r4⟩ := hr
    refine ⟨?_, r2, p, r3.gr F.gr (by decide) (by decide) (by omega), fun j hj => ?_⟩
    · show up2 (mI M) S 9 v S 5 = _
      rw [up2_nj _ _ _ _ (by omega)]; exact r1
    · have := (r3.2.1 j (by have : j < (gRe σ).1 := hj; have : (gRe σ).1 ≤ 8 := r2; omega)).2.2
      exact (r4 j hj).gr F.gr (by omega)
theorem c_tk_L12 {S k : Nat} (hZ : inZ S) : ∀ n c M σ, c ≤ 6 → 6 - c < n → StR M S σ → SgI k σ → ∃ M', f_X7_tick_L12 n S (nW c) M = f_X7_tick_L57 FU S (nW 0) M' ∧ Fr (SZ S) M M' ∧ StR M' S (itS tkLate (6 - c) c σ)
  | 0, c, M, σ, _, hn, _, _ => absurd hn (by omega)
  | n + 1, c, M, σ, hc, hn, hR, hS => by
    by_cases he : c = 6
    · subst he
      exact ⟨M, by simp (disch := omega) only [f_X7_tick_L12, nW_lit, nW_le, Nat.le_refl, ↓reduceIte], Fr.refl _ _, hR⟩
    · have hc6 : c < 6 := by omega
      have n6 : ¬ 6 ≤ c := by omega
      obtain ⟨k0, k1, k2, k4, k8, k3, k5, kc⟩ := StR_k hR
      have hCR := StR_get hR hc6
      obtain ⟨_, _, _, _, _, q0, _, _, q6⟩ := CR_k hCR
      have q0 : gI 0 0 (S + 2 + 60 * c) M = some (zI (cB (gCl σ c) 0)) := q0
      have eo := CR_opt hCR (show 1 < 4 by omega)
      have eo : aI 13 (S + 444) (nW 1) M = some (gSc σ 11) := eo
      rw [show 6 - c = (6 - (c + 1)) + 1 by omega, itS]
      cases hon : cB (gCl σ c) 0 with
      | false =>
        have es : tkLate c σ = σ := by unfold tkLate; rw [if_neg (by rw [hon]; simp)]
        rw [es]
        obtain ⟨M', e, F, R⟩ := c_tk_L12 hZ n (c + 1) M σ (by omega) (by omega) hR hS
        refine ⟨M', ?_, F, R⟩
        rw [hon, zI_f] at q0
        simp (disch := omega) only [f_X7_tick_L12, nW_lit, nW_le, n6, ↓reduceIte, k1, kc c hc6, q0, Option.bind_some, nW_add, e]
      | true =>
        rw [hon, zI_t] at q0
        by_cases h11 : gSc σ 11 = nW 0
        · have es : tkLate c σ = σ := by unfold tkLate; rw [if_neg (fun h => h.2 h11)]
          rw [es]
          obtain ⟨M', e, F, R⟩ := c_tk_L12 hZ n (c + 1) M σ (by omega) (by omega) hR hS
          refine ⟨M', ?_, F, R⟩
          simp (disch := omega) only [f_X7_tick_L12, nW_lit, nW_le, n6, ↓reduceIte, k1, kc c hc6, q0, z1n0, q6, eo, h11, Option.bind_some, nW_add, e]
        · have es : tkLate c σ = putG σ c (spLate (cL (gCl σ c) 1).1 0 (getG σ c)) := by unfold tkLate; rw [if_pos ⟨hon, h11⟩]
          have hS1 := SgI_late hS hc6
          rw [es] at hS1 ⊢
          obtain ⟨M1, e1, F1, R1⟩ := C_late (hZ.s hc6) hCR (hS.1.1.2 c hc6) hon
          have H1 := StR_put hR hc6 F1 R1
          obtain ⟨M', e, F, R⟩ := c_tk_L12 hZ n (c + 1) M1 _ (by omega) (by omega) H1 hS1
          refine ⟨M', ?_, (F1.mono (fun a h => CZ_SZ hc6 h)).trans F, R⟩
          simp (disch := omega) only [f_X7_tick_L12, nW_lit, nW_le, n6, ↓reduceIte, k1, kc c hc6, q0, z1n0, q6, eo, h11, e1, Option.bind_some, nW_add, e]
theorem c_tk_L57 {S k : Nat} (hZ : inZ S) : ∀ n c M σ, c ≤ 6 → 6 - c < n → StR M S σ → SgI k σ → ∃ M', f_X7_tick_L57 n S (nW c) M = f_X7_tick_L105 FU S (nW 0) M' ∧ Fr (SZ S) M M' ∧ StR M' S (itS tkLoad (6 - c) c σ)
  | 0, c, M, σ, _, hn, _, _ => absurd hn (by omega)
  | n + 1, c, M, σ, hc, hn, hR, hS => by
    by_cases he : c = 6
    · subst he
      exact ⟨M, by simp (disch := omega) only [f_X7_tick_L57, nW_lit, nW_le, Nat.le_refl, ↓reduceIte], Fr.refl _ _, hR⟩
    · have hc6 : c < 6 := by omega
      have n6 : ¬ 6 ≤ c := by omega
      obtain ⟨k0, k1, k2, k4, k8, k3, k5, kc⟩ := StR_k hR
      have hCl := hR.2.1 c hc6
      have gf : gF 0 6 (S + 2 + 60 * c) M = some (cF (gCl σ c)) := by simp only [gF, hCl.1.1.1, ↓reduceIte, hCl.1.2.2.2.2.1]
      have gi : gI 0 7 (S + 2 + 60 * c) M = some (cI (gCl σ c) 0) := by simp only [gI, hCl.1.1.1, ↓reduceIte, hCl.1.2.2.2.2.2]
      obtain ⟨l1, l2, l3, _⟩ := ldv_ok (cI (gCl σ c) 0) (hS.2.2.1 c hc6)
      obtain ⟨M1, M2, e1, e2, F1, R1⟩ := Cl_load (ldv (cF (gCl σ c)) (cI (gCl σ c) 0)) (hZ.c hc6) hCl
      obtain ⟨H1, F1'⟩ := St_cl hR hc6 F1 (fun a h => by omega) R1
      have H1' : StR M2 S (tkLoad c σ) := H1
      obtain ⟨M', e, F, R⟩ := c_tk_L57 hZ n (c + 1) M2 (tkLoad c σ) (by omega) (by omega) H1' (SgI_load hS hc6)
      rw [show 6 - c = (6 - (c + 1)) + 1 by omega, itS]
      refine ⟨M', ?_, F1'.trans F, R⟩
      simp (disch := omega) only [f_X7_tick_L57, nW_lit, nW_le, n6, ↓reduceIte, k1, kc c hc6, gf, gi, l1, l2, l3, e1, e2, Option.bind_some, nW_add, e]
theorem St_expire {M : Mem} {S c k : Nat} {σ : Sg} (hZ : inZ S) (hR : StR M S σ) (hS : SgI k σ) (hc : c < 6) : ∃ M', f_X7_expire S (nW c) M = some M' ∧ Fr (SZ S) M M' ∧ StR M' S (tkExp c σ) := by
  obtain ⟨k0, k1, k2, k4, k8, k3, k5, kc⟩ := StR_k hR
  have hCR := StR_get hR hc
  obtain ⟨_, p5, _, _, _, q0, q7, _, q6⟩ := CR_k hCR
  have q0 : gI 0 0 (S + 2 + 60 * c) M = some (zI (cB (gCl σ c) 0)) := q0
  obtain ⟨⟨z1, z2, z3, z4, z5⟩, e0, e1, e2, _⟩ := (hR.2.1 c hc).2.2.2.1
  have g50 : gI 5 0 (S + 2 + 60 * c + 34) M = some (zI (cB (gCl σ c) 3)) := by simp only [gI, z1, ↓reduceIte, e0]
  have g52 : gI 5 2 (S + 2 + 60 * c + 34) M = some (cI (gCl σ c) 1) := by simp only [gI, z1, ↓reduceIte, e2]
  have eo : aI 13 (S + 444) (nW 2) M = some (gSc σ 12) := CR_opt hCR (show 2 < 4 by omega)
  have g79 : gI 7 9 S M = some (gSc σ 14) := BaR_clock hR.1
  cases h3 : cB (gCl σ c) 3 with
  | false =>
    have es : tkExp c σ = σ := by unfold tkExp; rw [if_neg (by rw [h3]; simp)]
    rw [es]
    rw [h3, zI_f] at g50
    exact ⟨M, by simp only [f_X7_expire, f_X7_expire_J28, f_X7_expire_J29, nW_lit, k0, ↓reduceIte, k1, kc c hc, p5, g50, Option.bind_some], Fr.refl _ _, hR⟩
  | true =>
    rw [h3, zI_t] at g50
    cases h0 : cB (gCl σ c) 0 with
    | true =>
      have es : tkExp c σ = σ := by unfold tkExp; rw [if_neg (by rw [h0]; simp)]
      rw [es]
      rw [h0, zI_t] at q0
      exact ⟨M, by simp only [f_X7_expire, f_X7_expire_J28, f_X7_expire_J29, nW_lit, k0, ↓reduceIte, k1, kc c hc, p5, g50, z1n0, q0, Option.bind_some], Fr.refl _ _, hR⟩
    | false =>
      rw [h0, zI_f] at q0
      by_cases ht : gSc σ 14 - cI (gCl σ c) 1 < gSc σ 12
      · have es : tkExp c σ = σ := by unfold tkExp; rw [if_neg (fun h => h.2.2 ht)]
        rw [es]
        exact ⟨M, by simp only [f_X7_expire, f_X7_expire_J29, nW_lit, k0, ↓reduceIte, k1, kc c hc, p5, g50, z1n0, q0, g79, g52, q6, eo, ht, Option.bind_some], Fr.refl _ _, hR⟩
      · have es : tkExp c σ = uSc (spRemove σ c) (tot (gSc σ) 7) := by unfold tkExp; rw [if_pos ⟨h3, h0, ht⟩]
        rw [es]
        obtain ⟨M1, e1, F1, R1⟩ := St_remove hZ hR hc hS.1.2.2.1.1
        obtain ⟨t1, t2, M2, t3, F2, R2, _⟩ := StR_inc hZ R1 (i := 7) (by omega)
        refine ⟨M2, ?_, F1.trans F2, R2⟩
        simp only [f_X7_expire, f_X7_expire_J29, nW_lit, k0, ↓reduceIte, k1, kc c hc, p5, g50, z1n0, q0, g79, g52, q6, eo, ht, e1, t1, t2, t3, Option.bind_some]
theorem c_tk_L105 {S k : Nat} (hZ : inZ S) : ∀ n c M σ, c ≤ 6 → 6 - c < n → StR M S σ → SgI k σ → ∃ M', f_X7_tick_L105 n S (nW c) M = some M' ∧ Fr (SZ S) M M' ∧ StR M' S (itS tkExp (6 - c) c σ)
  | 0, c, M, σ, _, hn, _, _ => absurd hn (by omega)
  | n + 1, c, M, σ, hc, hn, hR, hS => by
    by_cases he : c = 6
    · subst he
      exact ⟨M, by simp (disch := omega) only [f_X7_tick_L105, nW_lit, nW_le, Nat.le_refl, ↓reduceIte], Fr.refl _ _, hR⟩
    · have hc6 : c < 6 := by omega
      have n6 : ¬ 6 ≤ c := by omega
      obtain ⟨M1, e1, F1, R1⟩ := St_expire hZ hR hS hc6
      obtain ⟨M', e, F, R⟩ := c_tk_L105 hZ n (c + 1) M1 (tkExp c σ) (by omega) (by omega) R1 (SgI_exp hS hc6)
      rw [show 6 - c = (6 - (c + 1)) + 1 by omega, itS]
      refine ⟨M', ?_, F1.trans F, R⟩
      simp (disch := omega) only [f_X7_tick_L105, nW_lit, nW_le, n6, ↓reduceIte, e1, Option.bind_some, nW_add, e]
theorem St_tick {M : Mem} {S k : Nat} {σ : Sg} (hZ : inZ S) (hR : StR M S σ) (hS : SgI k σ) : ∃ M', f_X7_tick S M = some M' ∧ Fr (SZ S) M M' ∧ StR M' S (spTick σ) := by
  have k0 := (StR_k hR).1
  obtain ⟨e1, M1, e2, F1, R1⟩ := StR_clock (gSc σ 14 + nW 1) hZ hR
  have S1 := SgI_clock hS
  obtain ⟨M2, e3, F2, R2⟩ := c_tk_L12 (k := k) hZ FU 0 M1 (tkClock σ) (by omega) (by simp only [FU]; omega) R1 S1
  have S2 := SgI_it (k := k) (fun _ _ hc h => SgI_late h hc) 6 0 (tkClock σ) (by omega) S1
  obtain ⟨M3, e4, F3, R3⟩ := c_tk_L57 (k := k) hZ FU 0 M2 _ (by omega) (by simp only [FU]; omega) R2 S2
  have S3 := SgI_it (k := k) (fun _ _ hc h => SgI_load h hc) 6 0 _ (by omega) S2
  obtain ⟨M4, e5, F4, R4⟩ := c_tk_L105 (k := k) hZ FU 0 M3 _ (by omega) (by simp only [FU]; omega) R3 S3
  refine ⟨M4, ?_, ((F1.trans F2).trans F3).trans F4, R4⟩
  simp only [f_X7_tick, k0, ↓reduceIte, e1, nW_lit, e2, Option.bind_some, e3, e4, e5]
