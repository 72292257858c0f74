/-! PUBLICATION, in the reference -/
theorem ref_lesser (a b : Int32) (M : Mem) : f_X12_lesser a b M = some (iminE a b, M) := by
  unfold f_X12_lesser iminE
  by_cases h : b ≤ a
  · rw [if_pos h]
    by_cases h2 : b < a
    · rw [if_pos h2]
    · rw [if_neg h2]
      have := Int32.le_antisymm h (Int32.not_lt.mp h2)
      rw [this]
  · rw [if_neg h, if_neg (fun h2 => h (Int32.le_of_lt h2))]
theorem ref_gives_S {N : Mem} {V : VR} {s : Nat → Int32} {t : Nat → Int64} {σ : Sg} {c : Nat} {tx : Txt} (gr pay ret fl : Int32) (hk : KR N) (hc : c < 6) (h : RSt s t σ) (hS : SI σ) (hg : ∃ n, n ≤ 2 ∧ gr = nW n) (hfl : fl = nW 2 * ret) (hT : TB (V.2.1 9) 0 tx) : ∃ s' t', f_X12_gives 908 (nW c) gr pay ret (QW N V s t) = some (QW N V s' t') ∧ RSt s' t' (putG σ c (spGive (getG σ c) (msg tx gr pay fl))) := by
  obtain ⟨s', t', e, G, F, Ft⟩ := ref_give (N := N) (V := V) (r := msg tx gr pay fl) ret hk hc (RSt_get h hc) (hS.1.2 c hc) (grade3 hg) hfl hT
  exact ⟨s', t', e, RSt_put h G F Ft hc⟩
theorem nodup_getD {m : List Nat} (hd : m.Nodup) {i j : Nat} (hi : i < j) (hj : j < m.length) : m.getD i 0 ≠ m.getD j 0 := by
  rw [gd_in _ _ (show i < m.length by omega), gd_in _ _ hj]
  exact List.pairwise_iff_getElem.mp hd i j (by omega) hj hi
theorem ref_L79 {N : Mem} {V : VR} {t : Nat → Int64} (hk : KR N) {h cnt : Nat} (v : Int32) (hh : h < 36) (hcnt : cnt ≤ 6) : ∀ n i s, i < cnt → cnt - i < n + 1 → s (1866 + h) = nW cnt → ∃ s', f_X12_chooses_L79 n 908 (nW h) (nW (1902 + 6 * h)) v (nW i) (QW N V s t) = some (v, QW N V s' t) ∧ (∀ j, i ≤ j → j + 1 < cnt → s' (1902 + (6 * h + j)) = s (1902 + (6 * h + (j + 1)))) ∧ s' (1902 + (6 * h + (cnt - 1))) = v ∧ ∀ j, (j < 1902 + 6 * h + i ∨ 1902 + 6 * h + 6 ≤ j) → s' j = s j
  | 0, i, s, _, hn, _ => absurd hn (by omega)
  | n + 1, i, s, hi, hn, hs => by
    by_cases he : i + 1 = cnt
    · have n1 : cnt - 1 ≤ i := by omega
      have x1 : 1902 + 6 * h + cnt - 1 = 1902 + (6 * h + (cnt - 1)) := by omega
      refine ⟨fset s (1902 + (6 * h + (cnt - 1))) v, ?_, fun j h1 h2 => by omega, fset_eq _ _ _, fun j h1 => fset_ne _ _ (by omega)⟩
      simp (disch := omega) only [f_X12_chooses_L79, q_k hk, q_gR1 hk, q_gR2 hk, q_gR8 hk, q_gR11 hk, q_gR13 hk, q_gR14 hk, q_gR15 hk, q_gR16 hk, q_gI hk, q_pI hk, q_a hk, q_w hk, q_l hk, nW_add, nW_mul, nW_sub, nW_le, nW_lt, nW_inj, irem_nW, ix_nW, nW_lit, hs, n1, ↓reduceIte, Option.bind_some, x1]
    · have n1 : ¬ cnt - 1 ≤ i := by omega
      have x1 : 1902 + 6 * h + i + 1 = 1902 + 6 * h + (i + 1) := by omega
      obtain ⟨s', e, r1, r2, r3⟩ := ref_L79 (N := N) (V := V) (t := t) hk v hh hcnt n (i + 1) (fset s (1902 + 6 * h + i) (s (1902 + 6 * h + (i + 1)))) (by omega) (by omega) (by rw [fset_ne _ _ (by omega)]; exact hs)
      refine ⟨s', ?_, fun j h1 h2 => ?_, r2, fun j h1 => ?_⟩
      · simp (disch := omega) only [f_X12_chooses_L79, q_k hk, q_gR1 hk, q_gR2 hk, q_gR8 hk, q_gR11 hk, q_gR13 hk, q_gR14 hk, q_gR15 hk, q_gR16 hk, q_gI hk, q_pI hk, q_a hk, q_w hk, q_l hk, nW_add, nW_mul, nW_sub, nW_le, nW_lt, nW_inj, irem_nW, ix_nW, nW_lit, hs, n1, ↓reduceIte, Option.bind_some, x1, e]
      · by_cases ej : j = i
        · subst ej
          have e9 : 1902 + (6 * h + j) = 1902 + 6 * h + j := by omega
          rw [r3 _ (by omega), e9, fset_eq]; congr 1; omega
        · rw [r1 j (by omega) h2, fset_ne _ _ (by omega)]
      · rw [r3 j (by omega), fset_ne _ _ (by omega)]
theorem ref_L11 {N : Mem} {V : VR} {s : Nat → Int32} {t : Nat → Int64} (hk : KR N) {h : Nat} {m : List Nat} {on : Nat → Bool} (hh : h < 36) (hm : ∀ i, i < m.length → s (1902 + 6 * h + i) = nW (m.getD i 0)) (hlen : s (1866 + h) = nW m.length) (h6 : ∀ y ∈ m, y < 6) (hl : m.length ≤ 6) (hne : m ≠ []) (hon : ∀ c, c < 6 → s (32 + c) = zI (on c)) : ∀ n i, i ≤ m.length → m.length - i < n → ffind (fun i => on (m.getD i 0)) (m.length - i) i = ffind (fun i => on (m.getD i 0)) m.length 0 → f_X12_chooses_L11 n 908 (nW h) (nW (1902 + 6 * h)) (nW i) (QW N V s t) = f_X12_chooses_J65 908 (nW h) (nW (1902 + 6 * h)) (nW ((ffind (fun i => on (m.getD i 0)) m.length 0).getD 0)) (QW N V s t)
  | 0, i, _, hn, _ => absurd hn (by omega)
  | n + 1, i, hi, hn, hf => by
    by_cases he : i = m.length
    · have n1 : m.length ≤ i := by omega
      rw [he, Nat.sub_self, ffind] at hf
      rw [← hf]
      simp (disch := omega) only [f_X12_chooses_L11, f_X12_chooses_J46, q_k hk, q_gR1 hk, q_gR2 hk, q_gR8 hk, q_gR11 hk, q_gR13 hk, q_gR14 hk, q_gR15 hk, q_gR16 hk, q_gI hk, q_pI hk, q_a hk, q_w hk, q_l hk, nW_add, nW_mul, nW_sub, nW_le, nW_lt, nW_inj, irem_nW, ix_nW, nW_lit, hlen, he, Nat.le_refl, ↓reduceIte, Option.bind_some, Option.getD_none]
    · have n1 : ¬ m.length ≤ i := by omega
      have hv := hm i (by omega)
      have hlt : m.getD i 0 < 6 := by rw [gd_in _ _ (show i < m.length by omega)]; exact h6 _ (List.getElem_mem _)
      have io := ref_isOn (N := N) (V := V) (t := t) hk hlt (hon _ hlt)
      rw [show m.length - i = (m.length - (i + 1)) + 1 by omega, ffind] at hf
      cases hb : on (m.getD i 0) with
      | true =>
        rw [hb, if_pos rfl] at hf
        rw [← hf]
        rw [hb, zI_t] at io
        have t1 : ¬ nW 1 = nW 0 := by decide
        simp (disch := omega) only [f_X12_chooses_L11, f_X12_chooses_J46, q_k hk, q_gR1 hk, q_gR2 hk, q_gR8 hk, q_gR11 hk, q_gR13 hk, q_gR14 hk, q_gR15 hk, q_gR16 hk, q_gI hk, q_pI hk, q_a hk, q_w hk, q_l hk, nW_add, nW_mul, nW_sub, nW_le, nW_lt, nW_inj, irem_nW, ix_nW, nW_lit, hlen, n1, ↓reduceIte, Option.bind_some, hv, io, bindP, t1, he, Option.getD_some]
      | false =>
        rw [hb, if_neg (by decide)] at hf
        rw [hb, zI_f] at io
        have ih := ref_L11 (N := N) (V := V) (s := s) (t := t) hk hh hm hlen h6 hl hne hon n (i + 1) (by omega) (by omega) hf
        simp (disch := omega) only [f_X12_chooses_L11, q_k hk, q_gR1 hk, q_gR2 hk, q_gR8 hk, q_gR11 hk, q_gR13 hk, q_gR14 hk, q_gR15 hk, q_gR16 hk, q_gI hk, q_pI hk, q_a hk, q_w hk, q_l hk, nW_add, nW_mul, nW_sub, nW_le, nW_lt, nW_inj, irem_nW, ix_nW, nW_lit, hlen, n1, ↓reduceIte, Option.bind_some, hv, io, bindP, ih]
theorem turn_at {on : Nat → Bool} {m : List Nat} (hd : m.Nodup) (hp : (ffind (fun i => on (m.getD i 0)) m.length 0).getD 0 < m.length) : shTurn on m = m.eraseIdx ((ffind (fun i => on (m.getD i 0)) m.length 0).getD 0) ++ [shPick on m] := by
  have h := erase_at (c := shPick on m) hp rfl (fun j hj => nodup_getD hd hj hp)
  unfold shTurn
  rw [h]
theorem ref_chooses {N : Mem} {V : VR} {s : Nat → Int32} {t : Nat → Int64} {σ : Sg} {h : Nat} (hk : KR N) (hR : RSt s t σ) (hS : SI σ) (hh : h < (gSh σ).length) : pickS σ h < 6 ∧ ∃ s', f_X12_chooses 908 (nW h) (QW N V s t) = some (nW (pickS σ h), QW N V s' t) ∧ RSt s' t (turnS σ h) := by
  have h36 : (gSh σ).length ≤ 36 := hR.2.2.2.2.2.2.1
  have s6 := sh6 hR
  have hx := shAt_get hh
  obtain ⟨m1, m2, m3⟩ := hS.2.2.1.1 _ hx
  have k6 : (shMem σ h).length ≤ 6 := s6 _ hx
  have k6' : ((gSh σ).getD h shD).2.2.length ≤ 6 := k6
  obtain ⟨y1, y2, y3, y4, y5⟩ := hR.2.2.2.1.2 h hh
  have hl := len_pos m3
  have hp : (ffind (fun i => onS σ ((shMem σ h).getD i 0)) (shMem σ h).length 0).getD 0 < (shMem σ h).length := by
    cases e : ffind (fun i => onS σ ((shMem σ h).getD i 0)) (shMem σ h).length 0 with
    | none => exact hl
    | some i => have := (ffind_some e).2.1; simp only [Option.getD_some]; omega
  have pm := shPick_mem (on := onS σ) m3
  have p6 : pickS σ h < 6 := m1 _ pm
  have e1 := ref_L11 (N := N) (V := V) (s := s) (t := t) (on := onS σ) hk (show h < 36 by omega) (fun i hi => by rw [Nat.add_assoc]; exact y5 i hi) y3 m1 k6 m3 (fun c hc => (hR.2.1 c hc).2.1.2.1) FU 0 (by omega) (by simp only [FU]; omega) rfl
  obtain ⟨s', e2, r1, r2, r3⟩ := ref_L79 (N := N) (V := V) (t := t) hk (nW (pickS σ h)) (show h < 36 by omega) k6 FU _ s hp (by simp only [FU]; omega) y3
  refine ⟨p6, s', ?_, ?_⟩
  · have hv := y5 _ hp
    have e9 : 1902 + (6 * h + (ffind (fun i => onS σ ((shMem σ h).getD i 0)) (shMem σ h).length 0).getD 0) = 1902 + 6 * h + (ffind (fun i => onS σ ((shMem σ h).getD i 0)) (shMem σ h).length 0).getD 0 := by omega
    have hv' : s (1902 + 6 * h + (ffind (fun i => onS σ ((shMem σ h).getD i 0)) (shMem σ h).length 0).getD 0) = nW (pickS σ h) := by rw [← e9]; exact hv
    have e0 : f_X12_chooses 908 (nW h) (QW N V s t) = f_X12_chooses_L11 FU 908 (nW h) (nW (1902 + 6 * h)) (nW 0) (QW N V s t) := by
      simp (disch := omega) only [f_X12_chooses, q_k hk, ↓reduceIte, nW_lit, nW_add, nW_mul, nW_sub, nW_le, nW_lt, nW_inj, irem_nW, ix_nW]
    rw [e0]
    refine e1.trans ?_
    have e5 : f_X12_chooses_J65 908 (nW h) (nW (1902 + 6 * h)) (nW ((ffind (fun i => onS σ ((shMem σ h).getD i 0)) (shMem σ h).length 0).getD 0)) (QW N V s t) = f_X12_chooses_L79 FU 908 (nW h) (nW (1902 + 6 * h)) (nW (pickS σ h)) (nW ((ffind (fun i => onS σ ((shMem σ h).getD i 0)) (shMem σ h).length 0).getD 0)) (QW N V s t) := by
      simp (disch := omega) only [f_X12_chooses_J65, q_k hk, q_gR1 hk, q_gR2 hk, q_gR8 hk, q_gR11 hk, q_gR13 hk, q_gR14 hk, q_gR15 hk, q_gR16 hk, q_gI hk, q_pI hk, q_a hk, q_w hk, q_l hk, nW_add, nW_mul, nW_sub, nW_le, nW_lt, nW_inj, irem_nW, ix_nW, nW_lit, Option.bind_some, hv']
    exact e5.trans e2
  · have lt : (shTurn (onS σ) (shMem σ h)).length = (shMem σ h).length := by
      rw [turn_at (m := shMem σ h) m2 hp, List.length_append, len_eraseIdx _ hp]; simp only [List.length_singleton]; omega
    obtain ⟨R1, F1⟩ := R_sh_put (s' := s') (m := shTurn (onS σ) (shMem σ h)) hR.2.2.2.1 h36 s6 hh (fun i a b => r3 i (by omega)) (by rw [r3 _ (by omega), lt]; exact y3) (fun i hi => by
      rw [lt] at hi
      rw [turn_at (m := shMem σ h) m2 hp, gd_snoc _ _ _ _ (by rw [len_eraseIdx _ hp]; omega), len_eraseIdx _ hp]
      by_cases q : i = (shMem σ h).length - 1
      · rw [if_pos q, q]; exact r2
      · rw [if_neg q, gd_erase]
        by_cases q2 : i < (ffind (fun i => onS σ ((shMem σ h).getD i 0)) (shMem σ h).length 0).getD 0
        · rw [if_pos q2, r3 _ (by omega)]; exact y5 i hi
        · rw [if_neg q2, r1 i (by omega) (by omega)]; exact y5 (i + 1) (by show i + 1 < (shMem σ h).length; omega))
    refine RSt_sh hR F1 (fun _ _ => rfl) R1 (by rw [shPut, len_setL]; exact h36) (fun x hx' => ?_)
    rcases List.mem_or_eq_of_mem_set hx' with hx' | rfl
    · exact s6 x hx'
    · show (shTurn (onS σ) (shMem σ h)).length ≤ 6; rw [lt]; exact k6
theorem SI_giveC {σ : Sg} {c : Nat} {tx : Txt} {gr pay fl : Int32} (h : SI σ) (hc : c < 6) (hx : topical tx) (hg : ∃ n, n ≤ 2 ∧ gr = nW n) (hne : (cL (gCl σ c) 3).1 ≠ 0) : SI (putG σ c (spGive (getG σ c) (msg tx gr pay fl))) := by
  refine SI_give h hc hx (grade3 hg) ?_
  have := (h.1.2 c hc).2.2.2.2.2.2.2.2.2
  cases e : cB (gCl σ c) 3 with
  | true => rfl
  | false => exact absurd (this e).2.2.1 hne
theorem ref_spreadC {N : Mem} {V : VR} {tx : Txt} {p : Int32} (hk : KR N) (hT : TB (V.2.1 9) 0 tx) (ht : okTx tx) (htop : topical tx) {g by' : Nat} (hg : g ≤ 2) (hby : by' < 6) : ∀ n c k s t σ, c ≤ 6 → 6 - c < n → RSt s t σ → SI σ → (spC tx (nW g) p by' (6 - c) c (σ, k)).2 ≤ k + (6 - c) ∧ gSh (spC tx (nW g) p by' (6 - c) c (σ, k)).1 = gSh σ ∧ SI (spC tx (nW g) p by' (6 - c) c (σ, k)).1 ∧ ∃ s' t', f_X12_publishes_L21 n 908 (nW by') (nW g) p (nW k) (nW c) (QW N V s t) = f_X12_publishes_L88 FU 908 (nW g) p (nW (spC tx (nW g) p by' (6 - c) c (σ, k)).2) (nW 0) (QW N V s' t') ∧ RSt s' t' (spC tx (nW g) p by' (6 - c) c (σ, k)).1
  | 0, c, k, s, t, σ, _, hn, _, _ => absurd hn (by omega)
  | n + 1, c, k, s, t, σ, hc, hn, hR, hS => by
    by_cases he : c = 6
    · subst he
      refine ⟨by simp only [Nat.sub_self, spC]; omega, rfl, hS, s, t, ?_, hR⟩
      simp (disch := omega) only [f_X12_publishes_L21, nW_lit, nW_le, Nat.le_refl, ↓reduceIte, Nat.sub_self, spC]
    · have hc6 : c < 6 := by omega
      have n1 : ¬ 6 ≤ c := by omega
      have hcl := hR.2.1 c hc6
      have hex := hcl.2.1.1
      have hsub := hS.2.1 c hc6
      rw [show 6 - c = (6 - (c + 1)) + 1 by omega, spC]
      have skip : spBest (cL (gCl σ c) 3) tx (decide (c = by')) = -nW 1 → f_X12_publishes_L21 (n + 1) 908 (nW by') (nW g) p (nW k) (nW c) (QW N V s t) = f_X12_publishes_L21 n 908 (nW by') (nW g) p (nW k) (nW (c + 1)) (QW N V s t) := by
        intro hb
        have mm : -nW 1 = -nW 1 := rfl
        cases hx : cB (gCl σ c) 3 with
        | false =>
          have t1 : ¬ nW 0 = nW 1 := by decide
          rw [hx, zI_f] at hex
          simp (disch := omega) only [f_X12_publishes_L21, f_X12_publishes_J53, q_k hk, q_gR1 hk, q_gR2 hk, q_gR8 hk, q_gR11 hk, q_gR13 hk, q_gR14 hk, q_gR15 hk, q_gR16 hk, q_gI hk, q_pI hk, q_a hk, q_w hk, q_l hk, nW_add, nW_mul, nW_sub, nW_le, nW_lt, nW_inj, irem_nW, ix_nW, nW_lit, lit_m1i, n1, ↓reduceIte, Option.bind_some, hex, t1]
        | true =>
          rw [hx, zI_t] at hex
          have bo := ref_bestOf (N := N) (V := V) (l := cL (gCl σ c) 3) hk hc6 hby hcl.1.2.2.2 hcl.2.1.2.2.1 hcl.2.2.2.2.2.1 hsub.1 hT ht htop
          rw [hb] at bo
          simp (disch := omega) only [f_X12_publishes_L21, f_X12_publishes_J53, q_k hk, q_gR1 hk, q_gR2 hk, q_gR8 hk, q_gR11 hk, q_gR13 hk, q_gR14 hk, q_gR15 hk, q_gR16 hk, q_gI hk, q_pI hk, q_a hk, q_w hk, q_l hk, nW_add, nW_mul, nW_sub, nW_le, nW_lt, nW_inj, irem_nW, ix_nW, nW_lit, lit_m1i, n1, ↓reduceIte, Option.bind_some, hex, bo, bindP]
      by_cases hb : spBest (cL (gCl σ c) 3) tx (decide (c = by')) = -nW 1
      · rw [if_pos hb]
        obtain ⟨a1, a2, a3, s', t', e, R⟩ := ref_spreadC (p := p) hk hT ht htop hg hby n (c + 1) k s t σ (by omega) (by omega) hR hS
        exact ⟨by omega, a2, a3, s', t', by rw [skip hb]; exact e, R⟩
      · rw [if_neg hb]
        obtain ⟨b, b1, b2⟩ := (spBest_val tx (decide (c = by')) hsub.1).resolve_left hb
        have hne : (cL (gCl σ c) 3).1 ≠ 0 := fun h0 => hb (spBest_zero _ _ h0)
        have hgr : ∃ n, n ≤ 2 ∧ iminE (nW g) (spBest (cL (gCl σ c) 3) tx (decide (c = by'))) = nW n := by rw [b2]; exact imin_nW hg b1
        have hxx : cB (gCl σ c) 3 = true := by
          cases e : cB (gCl σ c) 3 with
          | true => rfl
          | false => exact absurd ((hS.1.2 c hc6).2.2.2.2.2.2.2.2.2 e).2.2.1 hne
        obtain ⟨s1, t1, e1, R1⟩ := ref_gives_S (N := N) (V := V) (tx := tx) (iminE (nW g) (spBest (cL (gCl σ c) 3) tx (decide (c = by')))) p (nW 0) (nW 0) hk hc6 hR hS hgr (by decide) hT
        have S1 := SI_giveC (pay := p) (fl := nW 0) hS hc6 htop hgr hne
        obtain ⟨a1, a2, a3, s', t', e, R⟩ := ref_spreadC (p := p) hk hT ht htop hg hby n (c + 1) (k + 1) s1 t1 _ (by omega) (by omega) R1 S1
        refine ⟨Nat.le_trans a1 (by omega), a2, a3, s', t', ?_, R⟩
        rw [hxx, zI_t] at hex
        have bo := ref_bestOf (N := N) (V := V) (l := cL (gCl σ c) 3) hk hc6 hby hcl.1.2.2.2 hcl.2.1.2.2.1 hcl.2.2.2.2.2.1 hsub.1 hT ht htop
        have stp : f_X12_publishes_L21 (n + 1) 908 (nW by') (nW g) p (nW k) (nW c) (QW N V s t) = f_X12_publishes_L21 n 908 (nW by') (nW g) p (nW (k + 1)) (nW (c + 1)) (QW N V s1 t1) := by
          simp (disch := omega) only [f_X12_publishes_L21, f_X12_publishes_J53, q_k hk, q_gR1 hk, q_gR2 hk, q_gR8 hk, q_gR11 hk, q_gR13 hk, q_gR14 hk, q_gR15 hk, q_gR16 hk, q_gI hk, q_pI hk, q_a hk, q_w hk, q_l hk, nW_add, nW_mul, nW_sub, nW_le, nW_lt, nW_inj, irem_nW, ix_nW, nW_lit, lit_m1i, n1, ↓reduceIte, Option.bind_some, hex, bo, bindP, eq_false hb, ref_lesser, e1]
        rw [stp]; exact e
theorem ref_spreadH {N : Mem} {V : VR} {tx : Txt} {p : Int32} (hk : KR N) (hT : TB (V.2.1 9) 0 tx) (ht : okTx tx) (htop : topical tx) {g : Nat} (hg : g ≤ 2) : ∀ n h k s t σ, h ≤ (gSh σ).length → (gSh σ).length - h < n → RSt s t σ → SI σ → SI (spH tx (nW g) p ((gSh σ).length - h) h (σ, k)).1 ∧ (spH tx (nW g) p ((gSh σ).length - h) h (σ, k)).2 ≤ k + ((gSh σ).length - h) ∧ ∃ s' t', f_X12_publishes_L88 n 908 (nW g) p (nW k) (nW h) (QW N V s t) = some (nW (spH tx (nW g) p ((gSh σ).length - h) h (σ, k)).2, QW N V s' t') ∧ RSt s' t' (spH tx (nW g) p ((gSh σ).length - h) h (σ, k)).1
  | 0, h, k, s, t, σ, _, hn, _, _ => absurd hn (by omega)
  | n + 1, h, k, s, t, σ, hh, hn, hR, hS => by
    have h36 : (gSh σ).length ≤ 36 := hR.2.2.2.2.2.2.1
    have c16 : s 16 = nW (gSh σ).length := hR.2.2.2.1.1
    by_cases he : h = (gSh σ).length
    · have n1 : (gSh σ).length ≤ h := by omega
      rw [he, Nat.sub_self]
      refine ⟨hS, Nat.le_refl _, s, t, ?_, hR⟩
      simp (disch := omega) only [f_X12_publishes_L88, q_k hk, q_gR1 hk, q_gR2 hk, q_gR8 hk, q_gR11 hk, q_gR13 hk, q_gR14 hk, q_gR15 hk, q_gR16 hk, q_gI hk, q_pI hk, q_a hk, q_w hk, q_l hk, nW_add, nW_mul, nW_sub, nW_le, nW_lt, nW_inj, irem_nW, ix_nW, nW_lit, c16, Nat.le_refl, ↓reduceIte, Option.bind_some, spH]
    · have hlt : h < (gSh σ).length := by omega
      have n1 : ¬ (gSh σ).length ≤ h := by omega
      obtain ⟨y1, y2, y3, y4, y5⟩ := hR.2.2.2.1.2 h hlt
      have ox := (hS.2.2.1.2.1 _ (shAt_get hlt)).1
      have sm : f_X12_matches 908 (nW (1256 + 4 * h)) (nW ((gSh σ).getD h shD).1.length) (QW N V s t) = some (zI (spMatch ((gSh σ).getD h shD).1 tx), QW N V s t) := ref_matches (N := N) (V := VS V s t) (i := 1256 + 4 * h) hk (by omega) y4 hT ox ht htop
      rw [show (gSh σ).length - h = ((gSh σ).length - (h + 1)) + 1 by omega, spH]
      cases hm : spMatch ((gSh σ).getD h shD).1 tx with
      | false =>
        rw [if_neg (by decide)]
        rw [hm, zI_f] at sm
        obtain ⟨a1, a2, s', t', e, R⟩ := ref_spreadH (p := p) hk hT ht htop hg n (h + 1) k s t σ (by omega) (by omega) hR hS
        refine ⟨a1, by omega, s', t', ?_, R⟩
        simp (disch := omega) only [f_X12_publishes_L88, q_k hk, q_gR1 hk, q_gR2 hk, q_gR8 hk, q_gR11 hk, q_gR13 hk, q_gR14 hk, q_gR15 hk, q_gR16 hk, q_gI hk, q_pI hk, q_a hk, q_w hk, q_l hk, nW_add, nW_mul, nW_sub, nW_le, nW_lt, nW_inj, irem_nW, ix_nW, nW_lit, c16, n1, ↓reduceIte, Option.bind_some, y2, sm, bindP, e]
      | true =>
        rw [if_pos rfl]
        rw [hm, zI_t] at sm
        have t1 : ¬ nW 1 = nW 0 := by decide
        obtain ⟨p6, s1, e1, R1⟩ := ref_chooses (N := N) (V := V) hk hR hS hlt
        have S1 := SI_turn hS hlt
        have hcl : R_cl s1 t (pickS σ h) (gCl σ (pickS σ h)) := R1.2.1 (pickS σ h) p6
        have hsub := hS.2.1 (pickS σ h) p6
        have hl1 : (gSh (turnS σ h)).length = (gSh σ).length := len_setL _ _ _
        have hgd : (gSh (turnS σ h)).getD h shD = (((gSh σ).getD h shD).1, ((gSh σ).getD h shD).2.1, shTurn (onS σ) (shMem σ h)) := by
          show (shPut (gSh σ) h _).getD h shD = _
          rw [shPut, gd_set _ _ _ _ _ hlt, if_pos rfl]
        obtain ⟨z1, z2, z3, z4, z5⟩ := R1.2.2.2.1.2 h (by rw [hl1]; exact hlt)
        rw [hgd] at z1 z4
        have gi := ref_gradeIn (N := N) (V := V) (x := (((gSh σ).getD h shD).1, ((gSh σ).getD h shD).2.1, shTurn (onS σ) (shMem σ h))) hk p6 (show h < 36 by omega) hcl.1.2.2.2 hcl.2.1.2.2.1 hcl.2.2.2.2.2.1 hsub.1 z1 z4 ox hsub.2
        -- the member has the subscription
        have mem : pickS σ h ∈ ((gSh σ).getD h shD).2.2 := shPick_mem (hS.2.2.1.1 _ (shAt_get hlt)).2.2
        obtain ⟨j, j1, j2⟩ := ((hS.2.2.2.1 (pickS σ h) p6).1 _ (shAt_get hlt)).mp mem
        have hne : (cL (gCl σ (pickS σ h)) 3).1 ≠ 0 := by omega
        have hgg : ∃ n, n ≤ 2 ∧ spGradeOf (cL (gCl σ (pickS σ h)) 3) ((gSh σ).getD h shD).1 ((gSh σ).getD h shD).2.1 = nW n := by
          rw [spGradeOf_grd]
          cases e : subAt (cL (gCl σ (pickS σ h)) 3) ((gSh σ).getD h shD).1 ((gSh σ).getD h shD).2.1 with
          | none => exact ⟨0, by omega, rfl⟩
          | some k => exact (hsub.1 k (subAt_lt e).1).2.2.1
        obtain ⟨b, b1, b2⟩ := hgg
        have hgr : ∃ n, n ≤ 2 ∧ iminE (nW g) (spGradeOf (cL (gCl σ (pickS σ h)) 3) ((gSh σ).getD h shD).1 ((gSh σ).getD h shD).2.1) = nW n := by rw [b2]; exact imin_nW hg b1
        obtain ⟨s2, t2, e2, R2⟩ := ref_gives_S (N := N) (V := V) (tx := tx) (iminE (nW g) (spGradeOf (cL (gCl σ (pickS σ h)) 3) ((gSh σ).getD h shD).1 ((gSh σ).getD h shD).2.1)) p (nW 0) (nW 0) hk p6 R1 S1 hgr (by decide) hT
        have S2 : SI (giveH σ tx (nW g) p h) := SI_giveC (σ := turnS σ h) (pay := p) (fl := nW 0) S1 p6 htop hgr hne
        have hl2 : (gSh (giveH σ tx (nW g) p h)).length = (gSh σ).length := hl1
        obtain ⟨a1, a2, s', t', e, R⟩ := ref_spreadH (p := p) hk hT ht htop hg n (h + 1) (k + 1) s2 t2 (giveH σ tx (nW g) p h) (by omega) (by omega) R2 S2
        rw [hl2] at a1 a2 e R
        refine ⟨a1, Nat.le_trans a2 (by omega), s', t', ?_, R⟩
        simp (disch := omega) only [f_X12_publishes_L88, q_k hk, q_gR1 hk, q_gR2 hk, q_gR8 hk, q_gR11 hk, q_gR13 hk, q_gR14 hk, q_gR15 hk, q_gR16 hk, q_gI hk, q_pI hk, q_a hk, q_w hk, q_l hk, nW_add, nW_mul, nW_sub, nW_le, nW_lt, nW_inj, irem_nW, ix_nW, nW_lit, c16, n1, ↓reduceIte, Option.bind_some, y2, sm, bindP, t1, e1, gi, ref_lesser, e2, e]
theorem SI_pub0 {σ : Sg} {r : Row} {ret : Bool} (h : SI σ) (hx : okTx r.1) (htop : topical r.1) (hg : ∃ n, n ≤ 2 ∧ r.2 1 = nW n) : SI (spPub0 σ r ret) := by
  have h1 : SI (uSc (uTa σ (spCount (gTa σ) r.1)) (tot (gSc σ) 0)) := by
    refine SI_tot (σ := uTa σ (spCount (gTa σ) r.1)) ?_ (by omega)
    obtain ⟨a, b, c, d, e, f, g⟩ := h
    exact ⟨a, b, c, d, e, (TaOk_count f hx).1, g⟩
  unfold spPub0
  split
  · obtain ⟨a, b, c, d, e, f, g⟩ := h1
    exact ⟨a, b, c, d, ReOk_retain (l := gRe σ) h.2.2.2.2.1 hx htop hg, f, g⟩
  · exact h1
theorem ref_publishes {N : Mem} {V : VR} {s : Nat → Int32} {t : Nat → Int64} {σ : Sg} {r : Row} {by' : Nat} (ret : Bool) (hk : KR N) (hR : RSt s t σ) (hS : SI σ) (hT : TB (V.2.1 9) 0 r.1) (hx : okTx r.1) (htop : topical r.1) (hg : ∃ n, n ≤ 2 ∧ r.2 1 = nW n) (hby : by' < 6) (hta : (gTa σ).1 < 512) : ∃ s' t', f_X12_publishes 908 (nW by') (r.2 1) (zI ret) (r.2 2) (QW N V s t) = some (nW (spPubl σ r ret by').2, QW N V s' t') ∧ RSt s' t' (spPubl σ r ret by').1 ∧ SI (spPubl σ r ret by').1 ∧ (spPubl σ r ret by').2 ≤ 42 := by
  obtain ⟨g, g1, g2⟩ := hg
  obtain ⟨s1, t1, e1, R1⟩ := ref_counts (N := N) (V := V) hk hR hS.2.2.2.2.2.1 hT hx hta
  have S1 : SI (spPub0 σ r ret) := SI_pub0 hS hx htop ⟨g, g1, g2⟩
  have main : ∀ s2 t2, RSt s2 t2 (spPub0 σ r ret) → ∃ s' t', f_X12_publishes_L21 FU 908 (nW by') (r.2 1) (r.2 2) (nW 0) (nW 0) (QW N V s2 t2) = some (nW (spPubl σ r ret by').2, QW N V s' t') ∧ RSt s' t' (spPubl σ r ret by').1 ∧ SI (spPubl σ r ret by').1 ∧ (spPubl σ r ret by').2 ≤ 42 := by
    intro s2 t2 R2
    obtain ⟨a1, a2, a3, s3, t3, e3, R3⟩ := ref_spreadC (N := N) (V := V) (p := r.2 2) hk hT hx htop g1 hby FU 0 0 s2 t2 (spPub0 σ r ret) (by omega) (by simp only [FU]; omega) R2 S1
    simp only [Nat.sub_zero] at a1 a2 a3 e3 R3
    have hsh0 : gSh (spPub0 σ r ret) = gSh σ := by unfold spPub0; split <;> rfl
    have h36 : (gSh σ).length ≤ 36 := hR.2.2.2.2.2.2.1
    have ll : (gSh (spC r.1 (nW g) (r.2 2) by' 6 0 (spPub0 σ r ret, 0)).1).length = (gSh σ).length := by rw [a2, hsh0]
    obtain ⟨b1, b2, s4, t4, e4, R4⟩ := ref_spreadH (N := N) (V := V) (p := r.2 2) hk hT hx htop g1 FU 0 (spC r.1 (nW g) (r.2 2) by' 6 0 (spPub0 σ r ret, 0)).2 s3 t3 (spC r.1 (nW g) (r.2 2) by' 6 0 (spPub0 σ r ret, 0)).1 (Nat.zero_le _) (by rw [ll]; simp only [FU]; omega) R3 a3
    rw [Nat.sub_zero, ll] at b1 b2 e4 R4
    have epp : spPubl σ r ret by' = spH r.1 (nW g) (r.2 2) (gSh σ).length 0 ((spC r.1 (nW g) (r.2 2) by' 6 0 (spPub0 σ r ret, 0)).1, (spC r.1 (nW g) (r.2 2) by' 6 0 (spPub0 σ r ret, 0)).2) := by
      unfold spPubl
      rw [g2]
    rw [epp]
    exact ⟨s4, t4, by rw [g2, e3]; exact e4, R4, b1, by omega⟩
  cases ret with
  | true =>
    obtain ⟨s2, t2, e2, R2⟩ := ref_retains (N := N) (V := V) (r := r) hk R1 hS.2.2.2.2.1 hT hx htop
    obtain ⟨s', t', e3, R3⟩ := main s2 t2 R2
    refine ⟨s', t', ?_, R3⟩
    have t1 : ¬ nW 1 = nW 0 := by decide
    simp only [f_X12_publishes, q_k hk, ↓reduceIte, e1, Option.bind_some, zI_t, nW_lit, t1, e2, e3]
  | false =>
    obtain ⟨s', t', e3, R3⟩ := main s1 t1 R1
    refine ⟨s', t', ?_, R3⟩
    simp only [f_X12_publishes, q_k hk, ↓reduceIte, e1, Option.bind_some, zI_f, nW_lit, e3]
