/-! RETAINED MESSAGES GIVEN to a new subscription -/
def spGR (c : Nat) (t : Txt) (g : Int32) : Nat → Nat → Sg → Sg
  | 0, _, σ => σ
  | n + 1, i, σ => spGR c t g n (i + 1) (if spMatch t ((gRe σ).2 i).1 = true then putG σ c (spGive (getG σ c) (msg ((gRe σ).2 i).1 (iminE (((gRe σ).2 i).2 1) g) (((gRe σ).2 i).2 2) (nW 2))) else σ)
theorem gr_step {σ : Sg} {c i : Nat} {t : Txt} {g : Int32} (hS : SI σ) (hc : c < 6) (hi : i < (gRe σ).1) (hg : ∃ n, n ≤ 2 ∧ g = nW n) (hne : (cL (gCl σ c) 3).1 ≠ 0) : SI (if spMatch t ((gRe σ).2 i).1 = true then putG σ c (spGive (getG σ c) (msg ((gRe σ).2 i).1 (iminE (((gRe σ).2 i).2 1) g) (((gRe σ).2 i).2 2) (nW 2))) else σ) ∧ cL (gCl (if spMatch t ((gRe σ).2 i).1 = true then putG σ c (spGive (getG σ c) (msg ((gRe σ).2 i).1 (iminE (((gRe σ).2 i).2 1) g) (((gRe σ).2 i).2 2) (nW 2))) else σ) c) 3 = cL (gCl σ c) 3 ∧ gRe (if spMatch t ((gRe σ).2 i).1 = true then putG σ c (spGive (getG σ c) (msg ((gRe σ).2 i).1 (iminE (((gRe σ).2 i).2 1) g) (((gRe σ).2 i).2 2) (nW 2))) else σ) = gRe σ := by
  obtain ⟨_, o2, n, n1, n2⟩ := hS.2.2.2.2.1 i hi
  obtain ⟨m, m1, m2⟩ := hg
  split
  · refine ⟨SI_giveC hS hc o2 (by rw [n2, m2]; exact imin_nW n1 m1) hne, ?_, rfl⟩
    rw [gCl_putG]; exact (spGive_same _ _).2.2.2.1
  · exact ⟨hS, rfl, rfl⟩
theorem St_giveRetained_L3 {S x c : Nat} {t : Txt} {g : Int32} (hZ : inZ S) (hc : c < 6) (hg : ∃ n, n ≤ 2 ∧ g = nW n) : ∀ n i M σ, i ≤ (gRe σ).1 → (gRe σ).1 - i < n → StR M S σ → SI σ → (cL (gCl σ c) 3).1 ≠ 0 → TextR M x t → ∃ M', f_X7_giveRetained_L3 n S (nW c) x g (nW i) M = some M' ∧ Fr (SZ S) M M' ∧ StR M' S (spGR c t g ((gRe σ).1 - i) i σ) ∧ SI (spGR c t g ((gRe σ).1 - i) i σ)
  | 0, i, M, σ, _, hn, _, _, _, _ => absurd hn (by omega)
  | n + 1, i, M, σ, hi, hn, hR, hS, hne, hx => by
    obtain ⟨s1, s2, s3, s4, s5, s6, s7, s8⟩ := StR_k hR
    have l8 : (gRe σ).1 ≤ 8 := hR.2.2.2.1.2.1
    by_cases he : i = (gRe σ).1
    · have n1 : (gRe σ).1 ≤ i := by omega
      refine ⟨M, ?_, Fr.refl _ _, by rw [he, Nat.sub_self]; exact hR, by rw [he, Nat.sub_self]; exact hS⟩
      simp (disch := omega) only [f_X7_giveRetained_L3, s7, Option.bind_some, nW_le, n1, ↓reduceIte]
    · have hil : i < (gRe σ).1 := by omega
      have n1 : ¬ (gRe σ).1 ≤ i := by omega
      have n2 : ¬ 8 ≤ i := by omega
      obtain ⟨a, ea, ⟨a1, a2⟩, hm⟩ := RetR_at hR.2.2.2.1 hil
      obtain ⟨y, gy, hy⟩ := MsR_top hm
      have mt := X10_matches hx hy
      obtain ⟨q1, q2, q3⟩ := gr_step (t := t) hS hc hil hg hne
      rw [show (gRe σ).1 - i = ((gRe σ).1 - (i + 1)) + 1 by omega, spGR]
      have next : ∀ M1, Fr (SZ S) M M1 → StR M1 S (if spMatch t ((gRe σ).2 i).1 = true then putG σ c (spGive (getG σ c) (msg ((gRe σ).2 i).1 (iminE (((gRe σ).2 i).2 1) g) (((gRe σ).2 i).2 2) (nW 2))) else σ) → ∃ M', f_X7_giveRetained_L3 n S (nW c) x g (nW (i + 1)) M1 = some M' ∧ Fr (SZ S) M M' ∧ StR M' S (spGR c t g ((gRe σ).1 - (i + 1)) (i + 1) (if spMatch t ((gRe σ).2 i).1 = true then putG σ c (spGive (getG σ c) (msg ((gRe σ).2 i).1 (iminE (((gRe σ).2 i).2 1) g) (((gRe σ).2 i).2 2) (nW 2))) else σ)) ∧ SI (spGR c t g ((gRe σ).1 - (i + 1)) (i + 1) (if spMatch t ((gRe σ).2 i).1 = true then putG σ c (spGive (getG σ c) (msg ((gRe σ).2 i).1 (iminE (((gRe σ).2 i).2 1) g) (((gRe σ).2 i).2 2) (nW 2))) else σ)) := by
        intro M1 F1 R1
        obtain ⟨M', e, F, R⟩ := St_giveRetained_L3 hZ hc hg n (i + 1) M1 _ (by rw [q3]; omega) (by rw [q3]; omega) R1 q1 (by rw [q2]; exact hne) (hx.gr F1.gr)
        rw [q3] at R
        exact ⟨M', e, F1.trans F, R⟩
      cases hb : spMatch t ((gRe σ).2 i).1 with
      | false =>
        rw [hb, zI_f] at mt
        obtain ⟨M', e, F, R⟩ := next M (Fr.refl _ _) (by rw [if_neg (by rw [hb]; decide)]; exact hR)
        rw [hb] at R
        refine ⟨M', ?_, F, R⟩
        simp (disch := omega) only [f_X7_giveRetained_L3, s7, s4, Option.bind_some, nW_lit, nW_le, nW_add, n1, n2, ↓reduceIte, ea, gy, mt, bindP, e]
      | true =>
        have t1 : ¬ nW 1 = nW 0 := by decide
        rw [hb, zI_t] at mt
        have g1 : gI 1 1 a M = some (((gRe σ).2 i).2 1) := by
          obtain ⟨k, f, _⟩ := hm
          simp only [gI, k, ↓reduceIte, f]
        obtain ⟨M1, e1, F1, R1⟩ := C_give (iminE (((gRe σ).2 i).2 1) g) (nW 2) (hZ.s hc) (StR_get hR hc) (hS.1.2 c hc) hm (by omega)
        have F1' : Fr (SZ S) M M1 := F1.mono (fun a h => CZ_SZ hc h)
        have R1' := StR_put hR hc F1 R1
        obtain ⟨M', e, F, R⟩ := next M1 F1' (by rw [if_pos hb]; exact R1')
        rw [hb] at R
        refine ⟨M', ?_, F, R⟩
        simp (disch := omega) only [f_X7_giveRetained_L3, s7, s4, s2, s8 c hc, Option.bind_some, nW_lit, nW_le, nW_add, n1, n2, t1, ↓reduceIte, ea, gy, mt, bindP, g1, e1, e]
theorem St_giveRetained {M : Mem} {S x c : Nat} {σ : Sg} {t : Txt} {g : Int32} (hZ : inZ S) (hR : StR M S σ) (hS : SI σ) (hc : c < 6) (hg : ∃ n, n ≤ 2 ∧ g = nW n) (hne : (cL (gCl σ c) 3).1 ≠ 0) (hx : TextR M x t) : ∃ M', f_X7_giveRetained S (nW c) x g M = some M' ∧ Fr (SZ S) M M' ∧ StR M' S (spGR c t g (gRe σ).1 0 σ) ∧ SI (spGR c t g (gRe σ).1 0 σ) := by
  obtain ⟨s1, _⟩ := StR_k hR
  have l8 : (gRe σ).1 ≤ 8 := hR.2.2.2.1.2.1
  obtain ⟨M', e, F, R⟩ := St_giveRetained_L3 (x := x) (t := t) hZ hc hg FU 0 M σ (Nat.zero_le _) (by simp only [FU]; omega) hR hS hne hx
  exact ⟨M', by simp only [f_X7_giveRetained, s1, ↓reduceIte, nW_lit, e], F, R⟩
