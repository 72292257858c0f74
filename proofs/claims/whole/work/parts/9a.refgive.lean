/-! GIVING, in the reference -/
def spHold (g : GS) (r : Row) : GS := if (cL g.2 2).1 < 8 then (g.1, uL g.2 2 (lpush (cL g.2 2) r)) else if g.1 13 = nW 0 then (tot g.1 2, g.2) else (tot g.1 2, uL g.2 2 (lpush (ldel (cL g.2 2) 0) r))
def spGive0 (g : GS) (r : Row) : GS := if r.2 1 = nW 0 then (if cB g.2 0 = true then spSend g (mkPk r.1 (nW 0) (nW 0) (nW 0) (r.2 2) (r.2 3)) else (tot g.1 2, g.2)) else if (cL g.2 2).1 = 0 ∧ spMay g = true then spFly g r else spHold g r
def spGive (g : GS) (r : Row) : GS := spGive0 (tot g.1 1, g.2) r
def spSignR (g : GS) (kind id : Int32) : GS := spSend g (mkPk [] kind id (nW 0) (nW 0) (nW 0))
def spAgain (g : GS) (r : Row) : GS := if r.2 5 = nW 4 then spSignR g (nW 3) (r.2 4) else spSend g (mkPk r.1 (nW 0) (r.2 4) (r.2 1) (r.2 2) (r.2 3 + nW 1))
def spResend (g : GS) (i : Nat) : GS := ((spAgain (tot g.1 4, g.2) ((cL g.2 1).2 i)).1, uL (spAgain (tot g.1 4, g.2) ((cL g.2 1).2 i)).2 1 (lset (cL g.2 1) i (setSent ((cL g.2 1).2 i) (g.1 14))))
theorem RG_tot {s : Nat → Int32} {t : Nat → Int64} {c : Nat} {g : GS} (h : RG s t c g) (hc : c < 6) {i : Nat} (hi : i < 10) : RG (fset s (5 + i) (s (5 + i) + nW 1)) t c (tot g.1 i, g.2) ∧ FT c s (fset s (5 + i) (s (5 + i) + nW 1)) := by
  obtain ⟨hsc, hcl⟩ := h
  exact ⟨⟨R_sc_tot hsc hi, hcl.fr hc (fun j hj => by unfold cs at hj; rw [fset_ne _ _ (by omega)]) (fun _ _ => rfl)⟩, fun j h1 _ => by rw [fset_ne _ _ (by omega)]⟩
theorem ref_isOn {N : Mem} {V : VR} {s : Nat → Int32} {t : Nat → Int64} (hk : KR N) {c : Nat} {b : Bool} (hc : c < 6) (h : s (32 + c) = zI b) : f_X12_isOn 908 (nW c) (QW N V s t) = some (zI b, QW N V s t) := by
  have t1 : ¬ nW 0 = nW 1 := by decide
  cases b with
  | false =>
    rw [zI_f] at h
    simp (disch := omega) only [f_X12_isOn, q_k hk, q_gR1 hk, q_gR2 hk, q_gR8 hk, q_gR11 hk, q_gR13 hk, q_gR14 hk, q_gR15 hk, q_gR16 hk, q_gI hk, q_pI hk, q_a hk, q_w hk, q_l hk, nW_add, nW_mul, nW_sub, nW_le, nW_lt, nW_inj, irem_nW, ix_nW, nW_lit, h, t1, ↓reduceIte, Option.bind_some, zI_f, okZ_0]
  | true =>
    rw [zI_t] at h
    simp (disch := omega) only [f_X12_isOn, q_k hk, q_gR1 hk, q_gR2 hk, q_gR8 hk, q_gR11 hk, q_gR13 hk, q_gR14 hk, q_gR15 hk, q_gR16 hk, q_gI hk, q_pI hk, q_a hk, q_w hk, q_l hk, nW_add, nW_mul, nW_sub, nW_le, nW_lt, nW_inj, irem_nW, ix_nW, nW_lit, h, ↓reduceIte, Option.bind_some, zI_t, okZ_1]
theorem ref_takesPending {N : Mem} {V : VR} {s : Nat → Int32} {t : Nat → Int64} (hk : KR N) {c : Nat} {g : GS} (hc : c < 6) (h : RG s t c g) (hp : 0 < (cL g.2 2).1) : ∃ s' t', f_X12_takesPending 908 (nW c) (nW 0) (QW N V s t) = some (QW N V s' t') ∧ RG s' t' c (g.1, uL g.2 2 (ldel (cL g.2 2) 0)) ∧ FT c s s' ∧ Ft c t t' := by
  obtain ⟨hsc, ⟨l1, l2, l3, l4⟩, ⟨a1, a2, a3, a4, a5, a6, a7, a8⟩, b, w, k, u, f, p, q⟩ := h
  obtain ⟨s', t', e, r0, r1, r2, r3⟩ := sh_takesPending_L7 (N := N) (V := V) hk hc l3 FU 0 s t hp (by simp only [FU]; omega) a5
  refine ⟨s', t', ?_, ⟨hsc.fr (fun i hi => r2 i (by omega) (by omega) (by omega) (by omega)), ⟨l1, l2, by show (ldel (cL g.2 2) 0).1 ≤ 8; simp only [ldel]; omega, l4⟩, ?_, b.fr hc (fun i h1 h2 => r2 i (by omega) (by omega) (by omega) (by omega)), w.fr hc (fun i h1 h2 => r2 i (by omega) (by omega) (by omega) (by omega)) (fun i h1 => r3 i (by omega)), k.fr hc (fun i h1 h2 => r2 i (by omega) (by omega) (by omega) (by omega)), u.fr hc l4 (fun i h1 h2 => r2 i (by omega) (by omega) (by omega) (by omega)) (fun i h1 h2 => r3 i (by omega)), f.fr hc l2 (fun i h1 h2 => r2 i (by omega) (by omega) (by omega) (by omega)) (fun i h1 h2 => r3 i (by omega)), ?_, q.fr hc l1 (fun i h1 h2 => r2 i (by omega) (by omega) (by omega) (by omega)) (fun i h1 h2 => r3 i (by omega))⟩, ?_, ?_⟩
  · simp (disch := omega) only [f_X12_takesPending, q_k hk, q_gR1 hk, q_gR2 hk, q_gR8 hk, q_gR11 hk, q_gR13 hk, q_gR14 hk, q_gR15 hk, q_gR16 hk, q_gI hk, q_pI hk, q_a hk, q_w hk, q_l hk, nW_add, nW_mul, nW_sub, nW_le, nW_lt, nW_inj, irem_nW, ix_nW, nW_lit, ↓reduceIte]; exact e
  · unfold R_c1
    simp (disch := omega) only [uB_B, uB_I, uB_F, uB_W, uB_K, uB_N, uB_L, uI_B, uI_I, uI_F, uI_W, uI_K, uI_N, uI_L, uF_B, uF_I, uF_F, uF_W, uF_K, uF_N, uF_L, uW_B, uW_I, uW_F, uW_W, uW_K, uW_N, uW_L, uK_B, uK_I, uK_F, uK_W, uK_K, uK_N, uK_L, uN_B, uN_I, uN_F, uN_W, uN_K, uN_N, uN_L, uL_B, uL_I, uL_F, uL_W, uL_K, uL_N, uL_L, fset_ne, fset_eq, ldel]
    rw [r2 (20 + c) (by omega) (by omega) (by omega) (by omega), r2 (32 + c) (by omega) (by omega) (by omega) (by omega), r2 (50 + c) (by omega) (by omega) (by omega) (by omega), r2 (56 + c) (by omega) (by omega) (by omega) (by omega), r0, r2 (68 + c) (by omega) (by omega) (by omega) (by omega), r2 (74 + c) (by omega) (by omega) (by omega) (by omega), r2 (80 + c) (by omega) (by omega) (by omega) (by omega)]
    exact ⟨a1, a2, a3, a4, rfl, a6, a7, a8⟩
  · intro j hj
    simp only [uB_B, uB_I, uB_F, uB_W, uB_K, uB_N, uB_L, uI_B, uI_I, uI_F, uI_W, uI_K, uI_N, uI_L, uF_B, uF_I, uF_F, uF_W, uF_K, uF_N, uF_L, uW_B, uW_I, uW_F, uW_W, uW_K, uW_N, uW_L, uK_B, uK_I, uK_F, uK_W, uK_K, uK_N, uK_L, uN_B, uN_I, uN_F, uN_W, uN_K, uN_N, uN_L, uL_B, uL_I, uL_F, uL_W, uL_K, uL_N, uL_L, fset_eq, ldel] at hj ⊢
    obtain ⟨x1, x2, x3, x4⟩ := r1 j (by omega) (by omega)
    obtain ⟨y1, y2, y3, y4⟩ := p (j + 1) (by omega)
    simp only [Nat.not_lt_zero, ↓reduceIte]
    exact ⟨by rw [x1]; exact y1, by rw [x2]; exact y2, by rw [x3]; exact y3, fun k hk => by rw [x4 k hk]; exact y4 k hk⟩
  · intro i h1 h2
    simp only [cs] at h2; exact r2 i (by omega) (by omega) (by omega) (by omega)
  · intro i h2
    simp only [ct] at h2; exact r3 i (by omega)
theorem ref_goesOn {N : Mem} {V : VR} (hk : KR N) {c : Nat} (hc : c < 6) : ∀ n m s t g, (cL g.2 2).1 < n → (cL g.2 2).1 ≤ m → RG s t c g → GI g → ∃ s' t', f_X12_goesOn_L0 n 908 (nW c) (QW N V s t) = some (QW N V s' t') ∧ RG s' t' c (spPend m g) ∧ FT c s s' ∧ Ft c t t'
  | 0, m, s, t, g, hn, _, _, _ => absurd hn (by omega)
  | n + 1, m, s, t, g, hn, hm, h, hG => by
    have hh := h
    obtain ⟨hsc, ⟨l1, l2, l3, l4⟩, ⟨a1, a2, a3, a4, a5, a6, a7, a8⟩, b, w, k, u, f, p, q⟩ := h
    have e1 := ref_isOn (N := N) (V := V) (t := t) hk hc a2
    obtain ⟨x, w1, w2, w3⟩ := hG.1
    have s1 : s 1 = nW x := by have := hsc.2.1 0 (by omega); rw [w1] at this; exact this
    by_cases hp : 0 < (cL g.2 2).1
    · have np : ¬ (cL g.2 2).1 ≤ 0 := by omega
      have e2 := spMay_iff w1 w3 l2
      match m, hm with
      | 0, hm => omega
      | m + 1, hm =>
        cases hon : cB g.2 0 with
        | false =>
          have : ¬ spMay g = true := by rw [e2, hon]; rintro ⟨x, _⟩; cases x
          refine ⟨s, t, ?_, ?_, FT.refl _ _, Ft.refl _ _⟩
          · simp (disch := omega) only [f_X12_goesOn_L0, e1, bindP, hon, zI_f, nW_lit, ↓reduceIte]
          · rw [spPend, if_neg (fun hh => this hh.2)]; exact hh
        | true =>
          have t1 : ¬ nW 1 = nW 0 := by decide
          by_cases hw : (cL g.2 1).1 < x
          · have hmay : spMay g = true := by rw [e2]; exact ⟨hon, hw⟩
            have hex := hG.2.2.1 hon
            obtain ⟨⟨n1, n2⟩, n3⟩ := hG.2.2.2.1 hex
            obtain ⟨p1, p2, p3, p4⟩ := p 0 hp
            have og := hG.2.2.2.2.2.2.2.1 0 hp
            obtain ⟨s2, t2, e3, G3, F3, Ft3⟩ := ref_flies (N := N) (V := V) (s (830 + (8 * c + 0))) hk hc hh hex ⟨n1, n2⟩ (by omega) og.2 p3 (Src_t (i := 312 + 4 * (8 * c + 0)) hk (by omega) p4) (fun _ => by omega)
            have hp2 : 0 < (cL (spFly g ((cL g.2 2).2 0)).2 2).1 := by rw [spFly_L2 _ _ (by omega) (by omega)]; exact hp
            obtain ⟨s3, t3, e4, G4, F4, Ft4⟩ := ref_takesPending (N := N) (V := V) hk hc G3 hp2
            rw [spFly_pend] at G4
            have GI4 := GI_ldel2 (GI_fly hG og hon (by omega)) 0
            rw [spFly_pend] at GI4
            obtain ⟨s4, t4, e5, G5, F5, Ft5⟩ := ref_goesOn (N := N) (V := V) hk hc n m s3 t3 _ (by simp only [uB_B, uB_I, uB_F, uB_W, uB_K, uB_N, uB_L, uI_B, uI_I, uI_F, uI_W, uI_K, uI_N, uI_L, uF_B, uF_I, uF_F, uF_W, uF_K, uF_N, uF_L, uW_B, uW_I, uW_F, uW_W, uW_K, uW_N, uW_L, uK_B, uK_I, uK_F, uK_W, uK_K, uK_N, uK_L, uN_B, uN_I, uN_F, uN_W, uN_K, uN_N, uN_L, uL_B, uL_I, uL_F, uL_W, uL_K, uL_N, uL_L, fset_eq, ldel]; omega) (by simp only [uB_B, uB_I, uB_F, uB_W, uB_K, uB_N, uB_L, uI_B, uI_I, uI_F, uI_W, uI_K, uI_N, uI_L, uF_B, uF_I, uF_F, uF_W, uF_K, uF_N, uF_L, uW_B, uW_I, uW_F, uW_W, uW_K, uW_N, uW_L, uK_B, uK_I, uK_F, uK_W, uK_K, uK_N, uK_L, uN_B, uN_I, uN_F, uN_W, uN_K, uN_N, uN_L, uL_B, uL_I, uL_F, uL_W, uL_K, uL_N, uL_L, fset_eq, ldel]; omega) G4 GI4
            have nx : ¬ x ≤ (cL g.2 1).1 := by omega
            refine ⟨s4, t4, ?_, ?_, (F3.trans F4).trans F5, (Ft3.trans Ft4).trans Ft5⟩
            · rw [← p1, ← p2] at e3
              simp only [Nat.add_zero] at e3
              simp (disch := omega) only [f_X12_goesOn_L0, e1, bindP, hon, zI_t, t1, q_k hk, q_gR1 hk, q_gR2 hk, q_gR8 hk, q_gR11 hk, q_gR13 hk, q_gR14 hk, q_gR15 hk, q_gR16 hk, q_gI hk, q_pI hk, q_a hk, q_w hk, q_l hk, nW_add, nW_mul, nW_sub, nW_le, nW_lt, nW_inj, irem_nW, ix_nW, nW_lit, ↓reduceIte, a5, np, a4, s1, nx, Option.bind_some, e3, e4, e5]
            · rw [spPend, if_pos ⟨hp, hmay⟩]; exact G5
          · have : ¬ spMay g = true := by rw [e2]; exact fun hh => hw hh.2
            have nx : x ≤ (cL g.2 1).1 := by omega
            refine ⟨s, t, ?_, ?_, FT.refl _ _, Ft.refl _ _⟩
            · simp (disch := omega) only [f_X12_goesOn_L0, e1, bindP, hon, zI_t, t1, q_k hk, q_gR1 hk, q_gR2 hk, q_gR8 hk, q_gR11 hk, q_gR13 hk, q_gR14 hk, q_gR15 hk, q_gR16 hk, q_gI hk, q_pI hk, q_a hk, q_w hk, q_l hk, nW_add, nW_mul, nW_sub, nW_le, nW_lt, nW_inj, irem_nW, ix_nW, nW_lit, ↓reduceIte, a5, np, a4, s1, nx, Option.bind_some]
            · rw [spPend, if_neg (fun hh => this hh.2)]; exact hh
    · have np : (cL g.2 2).1 ≤ 0 := by omega
      have ep : spPend m g = g := by
        match m with
        | 0 => rfl
        | m + 1 => rw [spPend, if_neg (fun hh => hp hh.1)]
      refine ⟨s, t, ?_, by rw [ep]; exact hh, FT.refl _ _, Ft.refl _ _⟩
      cases hon : cB g.2 0 with
      | false => simp (disch := omega) only [f_X12_goesOn_L0, e1, bindP, hon, zI_f, nW_lit, ↓reduceIte]
      | true =>
        have t1 : ¬ nW 1 = nW 0 := by decide
        simp (disch := omega) only [f_X12_goesOn_L0, e1, bindP, hon, zI_t, t1, q_k hk, q_gR1 hk, q_gR2 hk, q_gR8 hk, q_gR11 hk, q_gR13 hk, q_gR14 hk, q_gR15 hk, q_gR16 hk, q_gI hk, q_pI hk, q_a hk, q_w hk, q_l hk, nW_add, nW_mul, nW_sub, nW_le, nW_lt, nW_inj, irem_nW, ix_nW, nW_lit, ↓reduceIte, a5, np, Option.bind_some]
theorem ref_pend {N : Mem} {V : VR} {s : Nat → Int32} {t : Nat → Int64} (hk : KR N) {c : Nat} {g : GS} (hc : c < 6) (h : RG s t c g) (hG : GI g) : ∃ s' t', f_X12_goesOn 908 (nW c) (QW N V s t) = some (QW N V s' t') ∧ RG s' t' c (spPend 8 g) ∧ FT c s s' ∧ Ft c t t' := by
  obtain ⟨s', t', e, r⟩ := ref_goesOn (N := N) (V := V) hk hc FU 8 s t g (by have := hG.2.1.2.2.1; simp only [FU]; omega) hG.2.1.2.2.1 h hG
  exact ⟨s', t', by simp only [f_X12_goesOn, q_k hk, ↓reduceIte, e], r⟩
theorem ref_hold {N : Mem} {V : VR} {s : Nat → Int32} {t : Nat → Int64} {c : Nat} {g : GS} {r : Row} (ret : Int32) (hk : KR N) (hc : c < 6) (h : RG s t c g) (hret : r.2 3 = nW 2 * ret) (hT : TB (V.2.1 9) 0 r.1) : ∃ s' t', f_X12_waits 908 (nW c) (r.2 1) (r.2 2) ret (QW N V s t) = some (QW N V s' t') ∧ RG s' t' c (spHold g r) ∧ FT c s s' ∧ Ft c t t' := by
  have push : ∀ s t g, RG s t c g → (cL g.2 2).1 < 8 → ∃ s' t', f_X12_waits_J41 908 (nW c) (r.2 1) (r.2 2) ret (QW N V s t) = some (QW N V s' t') ∧ RG s' t' c (g.1, uL g.2 2 (lpush (cL g.2 2) r)) ∧ FT c s s' ∧ Ft c t t' := by
    intro s t g h hn
    obtain ⟨hsc, ⟨l1, l2, l3, l4⟩, ⟨a1, a2, a3, a4, a5, a6, a7, a8⟩, b, w, k, u, f, p, q⟩ := h
    refine ⟨fset (fset (fset (fset s (734 + (8 * c + (cL g.2 2).1)) (r.2 1)) (782 + (8 * c + (cL g.2 2).1)) (r.2 2)) (830 + (8 * c + (cL g.2 2).1)) ret) (62 + c) (nW ((cL g.2 2).1 + 1)), blk t (312 + 4 * (8 * c + (cL g.2 2).1)) (fun x => V.2.1 9 (0 + x)), ?_, ⟨hsc.fr (fun i hi => by simp (disch := omega) only [fset_ne]), ⟨l1, l2, by show (lpush (cL g.2 2) r).1 ≤ 8; simp only [lpush]; omega, l4⟩, ?_, b.fr hc (fun i h1 h2 => by simp (disch := omega) only [fset_ne]), w.fr hc (fun i h1 h2 => by simp (disch := omega) only [fset_ne]) (fun i h1 => by simp (disch := omega) only [blk_out]), k.fr hc (fun i h1 h2 => by simp (disch := omega) only [fset_ne]), u.fr hc l4 (fun i h1 h2 => by simp (disch := omega) only [fset_ne]) (fun i h1 h2 => by simp (disch := omega) only [blk_out]), f.fr hc l2 (fun i h1 h2 => by simp (disch := omega) only [fset_ne]) (fun i h1 h2 => by simp (disch := omega) only [blk_out]), ?_, q.fr hc l1 (fun i h1 h2 => by simp (disch := omega) only [fset_ne]) (fun i h1 h2 => by simp (disch := omega) only [blk_out])⟩, ?_, ?_⟩
    · simp (disch := omega) only [f_X12_waits_J41, q_k hk, q_gR1 hk, q_gR2 hk, q_gR8 hk, q_gR11 hk, q_gR13 hk, q_gR14 hk, q_gR15 hk, q_gR16 hk, q_gI hk, q_pI hk, q_a hk, q_w hk, q_l hk, nW_add, nW_mul, nW_sub, nW_le, nW_lt, nW_inj, irem_nW, ix_nW, nW_lit, a5, ↓reduceIte, Option.bind_some, fset_ne, q_mv9 hk]
    · unfold R_c1
      simp (disch := omega) only [uB_B, uB_I, uB_F, uB_W, uB_K, uB_N, uB_L, uI_B, uI_I, uI_F, uI_W, uI_K, uI_N, uI_L, uF_B, uF_I, uF_F, uF_W, uF_K, uF_N, uF_L, uW_B, uW_I, uW_F, uW_W, uW_K, uW_N, uW_L, uK_B, uK_I, uK_F, uK_W, uK_K, uK_N, uK_L, uN_B, uN_I, uN_F, uN_W, uN_K, uN_N, uN_L, uL_B, uL_I, uL_F, uL_W, uL_K, uL_N, uL_L, fset_ne, fset_eq, a1, a2, a3, a4, a5, a6, a7, a8, lpush, and_self]
    · intro j hj
      simp only [uB_B, uB_I, uB_F, uB_W, uB_K, uB_N, uB_L, uI_B, uI_I, uI_F, uI_W, uI_K, uI_N, uI_L, uF_B, uF_I, uF_F, uF_W, uF_K, uF_N, uF_L, uW_B, uW_I, uW_F, uW_W, uW_K, uW_N, uW_L, uK_B, uK_I, uK_F, uK_W, uK_K, uK_N, uK_L, uN_B, uN_I, uN_F, uN_W, uN_K, uN_N, uN_L, uL_B, uL_I, uL_F, uL_W, uL_K, uL_N, uL_L, fset_eq, lpush] at hj ⊢
      by_cases e : j = (cL g.2 2).1
      · subst e
        simp (disch := omega) only [fset_ne, fset_eq, ↓reduceIte, hret, true_and]
        exact TB.blk hT
      · obtain ⟨h1, h2, h3, h4⟩ := p j (by omega)
        simp (disch := omega) only [fset_ne, e, ↓reduceIte, h1, h2, h3, true_and]
        exact h4.fr (fun k hk => blk_out _ _ (by omega))
    · intro i h1 h2
      simp only [cs] at h2; simp (disch := omega) only [fset_ne]
    · intro i h2
      simp only [ct] at h2; exact blk_out _ _ (by omega)
  have a5 := h.2.2.1.2.2.2.2.1
  have l3 := h.2.1.2.2.1
  by_cases h8 : (cL g.2 2).1 < 8
  · have n8 : ¬ (cL g.2 2).1 = 8 := by omega
    obtain ⟨s', t', e, G, F⟩ := push s t g h h8
    refine ⟨s', t', ?_, by rw [spHold, if_pos h8]; exact G, F⟩
    simp (disch := omega) only [f_X12_waits, q_k hk, q_gR1 hk, q_gR2 hk, q_gR8 hk, q_gR11 hk, q_gR13 hk, q_gR14 hk, q_gR15 hk, q_gR16 hk, q_gI hk, q_pI hk, q_a hk, q_w hk, q_l hk, nW_add, nW_mul, nW_sub, nW_le, nW_lt, nW_inj, irem_nW, ix_nW, nW_lit, a5, n8, ↓reduceIte, Option.bind_some, e]
  · have n8 : (cL g.2 2).1 = 8 := by omega
    obtain ⟨G1, F1⟩ := RG_tot h hc (i := 2) (by omega)
    have e13 : s 4 = g.1 13 := h.1.2.1 3 (by omega)
    by_cases ho : g.1 13 = nW 0
    · refine ⟨_, t, ?_, by rw [spHold, if_neg h8, if_pos ho]; exact G1, F1, Ft.refl _ _⟩
      simp (disch := omega) only [f_X12_waits, q_k hk, q_gR1 hk, q_gR2 hk, q_gR8 hk, q_gR11 hk, q_gR13 hk, q_gR14 hk, q_gR15 hk, q_gR16 hk, q_gI hk, q_pI hk, q_a hk, q_w hk, q_l hk, nW_add, nW_mul, nW_sub, nW_le, nW_lt, nW_inj, irem_nW, ix_nW, nW_lit, a5, n8, ↓reduceIte, Option.bind_some, fset_ne, e13, ho]
    · obtain ⟨s2, t2, e2, G2, F2, Ft2⟩ := ref_takesPending (N := N) (V := V) hk hc G1 (by show 0 < (cL g.2 2).1; omega)
      obtain ⟨s3, t3, e3, G3, F3, Ft3⟩ := push s2 t2 _ G2 (by simp only [uB_B, uB_I, uB_F, uB_W, uB_K, uB_N, uB_L, uI_B, uI_I, uI_F, uI_W, uI_K, uI_N, uI_L, uF_B, uF_I, uF_F, uF_W, uF_K, uF_N, uF_L, uW_B, uW_I, uW_F, uW_W, uW_K, uW_N, uW_L, uK_B, uK_I, uK_F, uK_W, uK_K, uK_N, uK_L, uN_B, uN_I, uN_F, uN_W, uN_K, uN_N, uN_L, uL_B, uL_I, uL_F, uL_W, uL_K, uL_N, uL_L, fset_eq, ldel]; omega)
      refine ⟨s3, t3, ?_, ?_, (F1.trans F2).trans F3, Ft2.trans Ft3⟩
      · simp (disch := omega) only [f_X12_waits, q_k hk, q_gR1 hk, q_gR2 hk, q_gR8 hk, q_gR11 hk, q_gR13 hk, q_gR14 hk, q_gR15 hk, q_gR16 hk, q_gI hk, q_pI hk, q_a hk, q_w hk, q_l hk, nW_add, nW_mul, nW_sub, nW_le, nW_lt, nW_inj, irem_nW, ix_nW, nW_lit, a5, n8, ↓reduceIte, Option.bind_some, fset_ne, e13, ho, e2, e3]
      · rw [spHold, if_neg h8, if_neg ho]
        simp only [uB_B, uB_I, uB_F, uB_W, uB_K, uB_N, uB_L, uI_B, uI_I, uI_F, uI_W, uI_K, uI_N, uI_L, uF_B, uF_I, uF_F, uF_W, uF_K, uF_N, uF_L, uW_B, uW_I, uW_F, uW_W, uW_K, uW_N, uW_L, uK_B, uK_I, uK_F, uK_W, uK_K, uK_N, uK_L, uN_B, uN_I, uN_F, uN_W, uN_K, uN_N, uN_L, uL_B, uL_I, uL_F, uL_W, uL_K, uL_N, uL_L, fset_eq] at G3
        have : fset (fset (cL g.2) 2 (ldel (cL g.2 2) 0)) 2 (lpush (ldel (cL g.2 2) 0) r) = fset (cL g.2) 2 (lpush (ldel (cL g.2 2) 0) r) := by
          funext j; by_cases e : j = 2
          · subst e; rw [fset_eq, fset_eq]
          · rw [fset_ne _ _ e, fset_ne _ _ e, fset_ne _ _ e]
        simp only [uL] at G3 ⊢
        rw [this] at G3; exact G3
theorem ref_give {N : Mem} {V : VR} {s : Nat → Int32} {t : Nat → Int64} {c : Nat} {g : GS} {r : Row} (ret : Int32) (hk : KR N) (hc : c < 6) (h : RG s t c g) (hG : GI g) (hg : r.2 1 = nW 0 ∨ r.2 1 = nW 1 ∨ r.2 1 = nW 2) (hret : r.2 3 = nW 2 * ret) (hT : TB (V.2.1 9) 0 r.1) : ∃ s' t', f_X12_gives 908 (nW c) (r.2 1) (r.2 2) ret (QW N V s t) = some (QW N V s' t') ∧ RG s' t' c (spGive g r) ∧ FT c s s' ∧ Ft c t t' := by
  obtain ⟨G1, F1⟩ := RG_tot h hc (i := 1) (by omega)
  have hG1 := hG.tot (i := 1) (by omega)
  have hh := G1
  obtain ⟨hsc, ⟨l1, l2, l3, l4⟩, ⟨a1, a2, a3, a4, a5, a6, a7, a8⟩, b, w, k, u, f, p, q⟩ := G1
  have e1 := ref_isOn (N := N) (V := V) (t := t) hk hc a2
  have t1 : ¬ nW 1 = nW 0 := by decide
  unfold spGive spGive0
  by_cases h0 : r.2 1 = nW 0
  · cases hon : cB g.2 0 with
    | true =>
      rw [hon] at e1
      obtain ⟨s2, t2, e2, G2, F2, Ft2⟩ := ref_sends (N := N) (V := V) (nW 0) (nW 0) (nW 0) (r.2 2) (nW 2 * ret) hk hc hh (Src_9 hk hT) (fun e => by cases e)
      refine ⟨s2, t2, ?_, by rw [if_pos h0, if_pos rfl, hret]; exact G2, F1.trans F2, Ft2⟩
      simp (disch := omega) only [f_X12_gives, q_k hk, q_gR1 hk, q_gR2 hk, q_gR8 hk, q_gR11 hk, q_gR13 hk, q_gR14 hk, q_gR15 hk, q_gR16 hk, q_gI hk, q_pI hk, q_a hk, q_w hk, q_l hk, nW_add, nW_mul, nW_sub, nW_le, nW_lt, nW_inj, irem_nW, ix_nW, nW_lit, h0, ↓reduceIte, Option.bind_some, e1, bindP, zI_t, t1, e2]
    | false =>
      rw [hon] at e1
      obtain ⟨G2, F2⟩ := RG_tot hh hc (i := 2) (by omega)
      refine ⟨_, t, ?_, by rw [if_pos h0, if_neg (by decide)]; exact G2, F1.trans F2, Ft.refl _ _⟩
      simp (disch := omega) only [f_X12_gives, q_k hk, q_gR1 hk, q_gR2 hk, q_gR8 hk, q_gR11 hk, q_gR13 hk, q_gR14 hk, q_gR15 hk, q_gR16 hk, q_gI hk, q_pI hk, q_a hk, q_w hk, q_l hk, nW_add, nW_mul, nW_sub, nW_le, nW_lt, nW_inj, irem_nW, ix_nW, nW_lit, h0, ↓reduceIte, Option.bind_some, e1, bindP, zI_f]
  · obtain ⟨x, w1, w2, w3⟩ := hG1.1
    have s1 : s 1 = nW x := by
      have := h.1.2.1 0 (by omega)
      have e : (tot g.1 1, g.2).1 10 = g.1 10 := fset_ne g.1 (g.1 1 + nW 1) (show (10 : Nat) ≠ 1 by omega)
      rw [← e, w1] at this; exact this
    have e2 := spMay_iff w1 w3 l2
    have l2' : (cL g.2 1).1 ≤ 5 := l2
    have l3' : (cL g.2 2).1 ≤ 8 := l3
    have c4 : s (56 + c) = nW (cL g.2 1).1 := h.2.2.1.2.2.2.1
    have c5 : s (62 + c) = nW (cL g.2 2).1 := h.2.2.1.2.2.2.2.1
    obtain ⟨s2, t2, e3, G3, F3, Ft3⟩ := ref_hold (N := N) (V := V) (r := r) ret hk hc hh hret hT
    rw [if_neg h0]
    have hwait : ¬ ((cL g.2 2).1 = 0 ∧ spMay (tot g.1 1, g.2) = true) → f_X12_gives 908 (nW c) (r.2 1) (r.2 2) ret (QW N V s t) = some (QW N V s2 t2) := by
      intro hno
      cases hon : cB g.2 0 with
      | false =>
        rw [hon] at e1
        simp (disch := omega) only [f_X12_gives, f_X12_gives_J113, q_k hk, q_gR1 hk, q_gR2 hk, q_gR8 hk, q_gR11 hk, q_gR13 hk, q_gR14 hk, q_gR15 hk, q_gR16 hk, q_gI hk, q_pI hk, q_a hk, q_w hk, q_l hk, nW_add, nW_mul, nW_sub, nW_le, nW_lt, nW_inj, irem_nW, ix_nW, nW_lit, h0, ↓reduceIte, Option.bind_some, e1, bindP, zI_f, e3]
      | true =>
        rw [hon] at e1
        by_cases hw : (cL g.2 1).1 < x
        · have hmay : spMay (tot g.1 1, g.2) = true := by rw [e2]; exact ⟨hon, hw⟩
          have np : ¬ (cL g.2 2).1 = 0 := fun e => hno ⟨e, hmay⟩
          have nx : ¬ x ≤ (cL g.2 1).1 := by omega
          simp (disch := omega) only [f_X12_gives, f_X12_gives_J113, q_k hk, q_gR1 hk, q_gR2 hk, q_gR8 hk, q_gR11 hk, q_gR13 hk, q_gR14 hk, q_gR15 hk, q_gR16 hk, q_gI hk, q_pI hk, q_a hk, q_w hk, q_l hk, nW_add, nW_mul, nW_sub, nW_le, nW_lt, nW_inj, irem_nW, ix_nW, nW_lit, h0, ↓reduceIte, Option.bind_some, e1, bindP, zI_t, t1, fset_ne, c4, c5, s1, nx, np, e3]
        · have nx : x ≤ (cL g.2 1).1 := by omega
          simp (disch := omega) only [f_X12_gives, f_X12_gives_J113, q_k hk, q_gR1 hk, q_gR2 hk, q_gR8 hk, q_gR11 hk, q_gR13 hk, q_gR14 hk, q_gR15 hk, q_gR16 hk, q_gI hk, q_pI hk, q_a hk, q_w hk, q_l hk, nW_add, nW_mul, nW_sub, nW_le, nW_lt, nW_inj, irem_nW, ix_nW, nW_lit, h0, ↓reduceIte, Option.bind_some, e1, bindP, zI_t, t1, fset_ne, c4, c5, s1, nx, e3]
    by_cases hcond : (cL g.2 2).1 = 0 ∧ spMay (tot g.1 1, g.2) = true
    · have m1 := e2.mp hcond.2
      have hon : cB g.2 0 = true := m1.1
      have hw : (cL g.2 1).1 < x := m1.2
      have nx : ¬ x ≤ (cL g.2 1).1 := by omega
      have hex := hG1.2.2.1 hon
      obtain ⟨s3, t3, e4, G4, F4, Ft4⟩ := ref_flies (N := N) (V := V) (r := r) ret hk hc hh hex (hG1.2.2.2.1 hex).1 (by show (cL g.2 1).1 < 5; omega) (hg.resolve_left h0) hret (Src_9 hk hT) (fun e => by cases e)
      rw [hon] at e1
      refine ⟨s3, t3, ?_, by rw [if_pos hcond]; exact G4, F1.trans F4, Ft4⟩
      have hp0 := hcond.1
      simp (disch := omega) only [f_X12_gives, f_X12_gives_J113, q_k hk, q_gR1 hk, q_gR2 hk, q_gR8 hk, q_gR11 hk, q_gR13 hk, q_gR14 hk, q_gR15 hk, q_gR16 hk, q_gI hk, q_pI hk, q_a hk, q_w hk, q_l hk, nW_add, nW_mul, nW_sub, nW_le, nW_lt, nW_inj, irem_nW, ix_nW, nW_lit, h0, ↓reduceIte, Option.bind_some, e1, bindP, zI_t, t1, fset_ne, c4, c5, s1, nx, hp0, e4]
    · exact ⟨s2, t2, hwait hcond, by rw [if_neg hcond]; exact G3, F1.trans F3, Ft3⟩
