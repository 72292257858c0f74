/-! SHARES ASKED FOR, WILLS, UNSUBSCRIBE -/
theorem ShDi_at {l : List Sh} (h : ShDi l) {i j : Nat} (hi : i < l.length) (hj : j < l.length) (e : shKey (l.getD i shD) = shKey (l.getD j shD)) : i = j := by
  unfold ShDi at h
  have h' := List.nodup_iff_pairwise_ne.mp h
  rw [List.pairwise_iff_getElem] at h'
  apply Decidable.byContradiction; intro hne
  have gi : (l.map shKey)[i]'(by simpa using hi) = shKey (l.getD i shD) := by rw [List.getElem_map, gd_in _ _ hi]
  have gj : (l.map shKey)[j]'(by simpa using hj) = shKey (l.getD j shD) := by rw [List.getElem_map, gd_in _ _ hj]
  by_cases hlt : i < j
  · exact h' i j (by simpa using hi) (by simpa using hj) hlt (by rw [gi, gj, e])
  · exact h' j i (by simpa using hj) (by simpa using hi) (by omega) (by rw [gi, gj, e])
theorem ref_shareOf_L4 {N : Mem} {V : VR} {s : Nat → Int32} {t : Nat → Int64} (hk : KR N) {l : List Sh} {x : Txt} (gr : Int32) (hl : l.length ≤ 36) (hR : R_sh s t l) (hG : ShG l) (hT : TB (V.2.1 8) 0 x) (hx : okTx x) : ∀ n i a, i ≤ l.length → l.length - i < n → (∀ k, a = some k → k < i ∧ shP l x gr k = true) → f_X12_shareOf_L4 n 908 gr (posI a) (nW i) (QW N V s t) = some (posI (a.or (ffind (shP l x gr) (l.length - i) i)), QW N V s t)
  | 0, i, a, _, hn, _ => absurd hn (by omega)
  | n + 1, i, a, hi, hn, ha => by
    by_cases he : i = l.length
    · rw [he, Nat.sub_self]
      cases a with
      | none => simp (disch := omega) only [f_X12_shareOf_L4, q_k hk, q_gR1 hk, q_gR2 hk, q_gR8 hk, q_gR11 hk, q_gR13 hk, q_gR14 hk, q_gR15 hk, q_gR16 hk, q_gI hk, q_pI hk, q_a hk, q_w hk, q_l hk, nW_le, nW_lit, hR.1, Nat.le_refl, ↓reduceIte, Option.bind_some, ffind, Option.none_or]
      | some k => simp (disch := omega) only [f_X12_shareOf_L4, q_k hk, q_gR1 hk, q_gR2 hk, q_gR8 hk, q_gR11 hk, q_gR13 hk, q_gR14 hk, q_gR15 hk, q_gR16 hk, q_gI hk, q_pI hk, q_a hk, q_w hk, q_l hk, nW_le, nW_lit, hR.1, Nat.le_refl, ↓reduceIte, Option.bind_some, Option.some_or]
    · have n1 : ¬ l.length ≤ i := by omega
      obtain ⟨y1, y2, _, y4, _⟩ := hR.2 i (by omega)
      have hok := (hG.2.1 (l.getD i shD) (by rw [gd_in _ _ (by omega)]; exact List.getElem_mem _)).1
      have A := LB_of (k := 2) (n := 3800) (i := 1256 + 4 * i) (V := VS V s t) hk (by omega) rfl (by omega) (by omega) y4
      have B := LB_of (k := 8) (n := 4) (i := 0) (t := x) (V := VS V s t) hk (by omega) rfl (by omega) (by omega) (by rw [VS_Lo _ _ _ (by omega)]; exact hT)
      have sa : f_X12_isSame 910 (nW (1256 + 4 * i)) 916 (nW 0) (QW N V s t) = some (zI (decide ((l.getD i shD).1 = x)), QW N V s t) := ref_isSame A B hok hx
      rw [show l.length - i = (l.length - (i + 1)) + 1 by omega, ffind]
      have ihn : shP l x gr i = false → f_X12_shareOf_L4 n 908 gr (posI a) (nW (i + 1)) (QW N V s t) = some (posI (a.or (ffind (shP l x gr) (l.length - (i + 1)) (i + 1))), QW N V s t) := fun _ => ref_shareOf_L4 hk gr hl hR hG hT hx n (i + 1) a (by omega) (by omega) (fun k e => ⟨by have := (ha k e).1; omega, (ha k e).2⟩)
      by_cases hg : (l.getD i shD).2.1 = gr
      · by_cases h : (l.getD i shD).1 = x
        · have hp : shP l x gr i = true := by unfold shP; rw [decide_eq_true hg, decide_eq_true h]; rfl
          have an : a = none := by
            cases a with
            | none => rfl
            | some k =>
              obtain ⟨h1, h2⟩ := ha k rfl
              unfold shP at h2
              rw [Bool.and_eq_true, decide_eq_true_eq, decide_eq_true_eq] at h2
              have := ShDi_at hG.2.2 (i := k) (j := i) (by omega) (by omega) (by unfold shKey; rw [h2.1, h2.2, hg, h])
              omega
          subst an
          have ih := ref_shareOf_L4 (N := N) hk gr hl hR hG hT hx n (i + 1) (some i) (by omega) (by omega) (fun k e => by cases e; exact ⟨by omega, hp⟩)
          simp only [posI, Option.some_or] at ih
          rw [hp, if_pos rfl]
          rw [decide_eq_true h, zI_t] at sa
          simp (disch := omega) only [f_X12_shareOf_L4, q_k hk, q_gR1 hk, q_gR2 hk, q_gR8 hk, q_gR11 hk, q_gR13 hk, q_gR14 hk, q_gR15 hk, q_gR16 hk, q_gI hk, q_pI hk, q_a hk, q_w hk, q_l hk, nW_le, nW_mul, nW_add, nW_lit, hR.1, n1, ↓reduceIte, Option.bind_some, y1, hg, sa, bindP, z1n0, posI, ih, Option.none_or]
        · have hp : shP l x gr i = false := by unfold shP; rw [decide_eq_false h, Bool.and_false]
          have ih := ihn hp
          rw [hp, if_neg (by decide)]
          rw [decide_eq_false h, zI_f] at sa
          simp (disch := omega) only [f_X12_shareOf_L4, q_k hk, q_gR1 hk, q_gR2 hk, q_gR8 hk, q_gR11 hk, q_gR13 hk, q_gR14 hk, q_gR15 hk, q_gR16 hk, q_gI hk, q_pI hk, q_a hk, q_w hk, q_l hk, nW_le, nW_mul, nW_add, nW_lit, hR.1, n1, ↓reduceIte, Option.bind_some, y1, hg, sa, bindP, ih]
      · have hp : shP l x gr i = false := by unfold shP; rw [decide_eq_false hg, Bool.false_and]
        have ih := ihn hp
        rw [hp, if_neg (by decide)]
        simp (disch := omega) only [f_X12_shareOf_L4, q_k hk, q_gR1 hk, q_gR2 hk, q_gR8 hk, q_gR11 hk, q_gR13 hk, q_gR14 hk, q_gR15 hk, q_gR16 hk, q_gI hk, q_pI hk, q_a hk, q_w hk, q_l hk, nW_le, nW_mul, nW_add, nW_lit, hR.1, n1, ↓reduceIte, Option.bind_some, y1, hg, ih]
theorem ref_shareOf {N : Mem} {V : VR} {s : Nat → Int32} {t : Nat → Int64} (hk : KR N) {l : List Sh} {x : Txt} (gr : Int32) (hl : l.length ≤ 36) (hR : R_sh s t l) (hG : ShG l) (hT : TB (V.2.1 8) 0 x) (hx : okTx x) : f_X12_shareOf 908 gr (QW N V s t) = some (posI (shAt l x gr), QW N V s t) := by
  have := ref_shareOf_L4 (N := N) hk gr hl hR hG hT hx FU 0 none (by omega) (by simp only [FU]; omega) (fun k e => by cases e)
  simp only [posI, Option.none_or, Nat.sub_zero] at this
  simp only [f_X12_shareOf, q_k hk, ↓reduceIte, lit_m1i, nW_lit, this]; rfl
theorem Op_shareSize (x : Int32) : OpOK (cdA 1) (f_X11_shareSize 0 x) (f_X12_shareSize 908 x) := by
  intro k M A hk5 hB hF hN hW hX
  have k1 := hB.1.1
  refine Op_text0 (F := fun v4 M3 => bindX (f_X11_requireRange x (nW 1) (nW 3) M3) (fun _ M5 => (gR 11 6 0 M5).bind (fun v7 => bindP (f_X7_placeOfShare v7 v4 x M5) (fun v9 M8 => if nW 0 ≤ v9 then (gR 11 6 0 M8).bind (fun v10 => (gR 7 2 v10 M8).bind (fun v11 => (aR 21 v11 v9 M8).bind (fun v12 => (gI 6 3 v12 M8).bind (fun v13 => some (.inl v13, M8))))) else some (.inl (nW 0), M8))))) (G := fun v3 M2 => if v3 = nW 0 then f_X12_shareSize_J22 908 M2 else bindP (f_X12_in x (nW 1) (nW 3) M2) (fun v5 M4 => if v5 = nW 0 then f_X12_shareSize_J22 908 M4 else bindP (f_X12_shareOf 908 x M4) (fun v7 M6 => if v7 = -nW 1 then some (nW 0, M6) else (gR 12 1 908 M6).bind (fun v8 => (aI 13 v8 (nW 1866 + v7) M6).bind (fun v9 => some (v9, M6)))))) true hB hF hN hW ?_ (fun N V s t hk => ?_) (fun N V s t hk => ?_) (fun t x' M5 hp hx hB5 => ?_)
  · obtain ⟨M1, ek, F1, B1, _⟩ := c_take hB
    simp only [f_X11_shareSize, k1, ↓reduceIte, ek, bindP, c_filter B1.1.1, nW_lit]
    try rfl
  · simp only [f_X12_shareSize, q_k hk, ↓reduceIte, q_pI hk, Option.bind_some, nW_lit, zI_t, lit_m1i]
    try rfl
  · simp only [f_X12_shareSize_J22, ↓reduceIte, nW_lit, r_fails hk, bindP]; rfl
  · obtain ⟨_, _, _, pok, _⟩ := parse_ok hp
    have hW5 := WI_clr hW (-nW 1)
    have k2 := (BrR_k hB5).2.1
    have hSt := hB5.2.2.2.2.2.2
    have kS := StR_k hSt
    have ep := X7_placeOfShare x (BaR_O hSt.1) hSt.2.2.1 hx
    have l36 : (gSh (oS A)).length ≤ 36 := hSt.2.2.1.2.1
    have cr := c_range x (nW 1) (nW 3) M5
    by_cases hr : inB x (nW 1) (nW 3) = true
    · rw [if_pos hr] at cr
      have RR : ∀ N V s t', KR N → RfR V s t' (clr A (-nW 1)) → QT t V → f_X12_shareOf 908 x (QW N V s t') = some (posI (shAt (gSh (oS A)) t x), QW N V s t') := fun N V s t' hk hR hQ => ref_shareOf hk x l36 hR.2.2.2.2.2.1.2.2.2.1 hW.1.1.2.2.1 hQ.2.2 pok
      cases ht : shAt (gSh (oS A)) t x with
      | none =>
        rw [show oS (clr A (-nW 1)) = oS A from rfl, ht] at ep
        have n0 : ¬ nW 0 ≤ -nW 1 := by decide
        refine Op_tellT (nW 0) hB5 hW5 ?_ (fun N V s t' hk hR hQ => ?_)
        · simp only [cr, bindX, k2, Option.bind_some, ep, bindP, posI, n0, ↓reduceIte]
        · have e := RR N V s t' hk hR hQ
          rw [ht] at e
          simp only [z1n0, ↓reduceIte, r_in, hr, zI_t, e, bindP, posI]
      | some j =>
        rw [show oS (clr A (-nW 1)) = oS A from rfl, ht] at ep
        obtain ⟨hj, _⟩ := shAt_some ht
        have n0 : nW 0 ≤ nW j := by rw [nW_le (by omega) (by omega)]; omega
        have nm : ¬ nW j = -nW 1 := nW_neg (by omega) (by omega) (by omega)
        obtain ⟨a, ea, _, hK, hV, _⟩ := ShsR_at hSt.2.2.1 (show j < (gSh (oS (clr A (-nW 1)))).length from hj)
        have g3 : gI 6 3 a M5 = some (nW ((gSh (oS A)).getD j shD).2.2.length) := by
          have h2 : mI M5 a 3 = nW ((gSh (oS A)).getD j shD).2.2.length := hV.2.1
          simp only [gI, hK.1, ↓reduceIte, h2]
        refine Op_tellT (nW ((gSh (oS A)).getD j shD).2.2.length) hB5 hW5 ?_ (fun N V s t' hk hR hQ => ?_)
        · simp only [cr, bindX, k2, Option.bind_some, ep, bindP, posI, n0, ↓reduceIte, kS.2.2.1, ea, g3]
        · have e := RR N V s t' hk hR hQ
          rw [ht] at e
          have e2 : s (1866 + j) = nW ((gSh (oS A)).getD j shD).2.2.length := (hR.2.2.2.2.2.1.2.2.2.1.2 j hj).2.2.1
          simp (disch := omega) only [z1n0, ↓reduceIte, r_in, hr, zI_t, e, bindP, posI, nm, q_k hk, q_gR1 hk, q_gR2 hk, q_gR8 hk, q_gR11 hk, q_gR13 hk, q_gR14 hk, q_gR15 hk, q_gR16 hk, q_gI hk, q_pI hk, q_a hk, q_w hk, q_l hk, Option.bind_some, nW_add, e2]
    · rw [if_neg hr] at cr
      have hr0 : inB x (nW 1) (nW 3) = false := by simpa using hr
      refine Op_refT 1 hB5 hW5 ?_ (fun N V s t' hk hR hQ => ?_)
      · simp only [cr, bindX]
      · simp only [f_X12_shareSize_J22, z1n0, ↓reduceIte, r_in, hr0, zI_f, nW_lit, r_fails hk, bindP]; rfl
theorem Op_shareMember (x y : Int32) : OpOK (cdB 1 3) (f_X11_shareMember 0 x y) (f_X12_shareMember 908 x y) := by
  intro k M A hk5 hB hF hN hW hX
  have k1 := hB.1.1
  refine Op_text0 (F := fun v4 M3 => bindX (f_X11_requireRange x (nW 1) (nW 3) M3) (fun _ M5 => (gR 11 6 0 M5).bind (fun v7 => bindP (f_X7_placeOfShare v7 v4 x M5) (fun v9 M8 => if v9 < nW 0 then f_X11_shareMember_J56 M8 else if y < nW 0 then f_X11_shareMember_J56 M8 else (gR 11 6 0 M8).bind (fun v10 => (gR 7 2 v10 M8).bind (fun v11 => (aR 21 v11 v9 M8).bind (fun v12 => (gI 6 3 v12 M8).bind (fun v13 => if y < v13 then (gR 11 6 0 M8).bind (fun v14 => (gR 7 2 v14 M8).bind (fun v15 => (aR 21 v15 v9 M8).bind (fun v16 => (gR 6 2 v16 M8).bind (fun v17 => (aI 13 v17 y M8).bind (fun v18 => some (.inl v18, M8)))))) else f_X11_shareMember_J56 M8))))))))  (G := fun v3 M2 => if v3 = nW 0 then f_X12_shareMember_J22 908 M2 else bindP (f_X12_in x (nW 1) (nW 3) M2) (fun v5 M4 => if v5 = nW 0 then f_X12_shareMember_J22 908 M4 else bindP (f_X12_shareOf 908 x M4) (fun v7 M6 => if v7 = -nW 1 then f_X12_shareMember_J59 908 M6 else (gR 12 1 908 M6).bind (fun v8 => (aI 13 v8 (nW 1866 + v7) M6).bind (fun v9 => bindP (f_X12_in y (nW 0) (v9 - nW 1) M6) (fun v11 M10 => if v11 = nW 0 then f_X12_shareMember_J59 908 M10 else (gR 12 1 908 M10).bind (fun v12 => (aI 13 v12 ((nW 1902 + (nW 6 * v7)) + y) M10).bind (fun v13 => some (v13, M10))))))))) true hB hF hN hW ?_ (fun N V s t hk => ?_) (fun N V s t hk => ?_) (fun t x' M5 hp hx hB5 => ?_)
  · obtain ⟨M1, ek, F1, B1, _⟩ := c_take hB
    simp only [f_X11_shareMember, k1, ↓reduceIte, ek, bindP, c_filter B1.1.1, nW_lit]
    try rfl
  · simp only [f_X12_shareMember, q_k hk, ↓reduceIte, q_pI hk, Option.bind_some, nW_lit, zI_t, lit_m1i]
    try rfl
  · simp only [f_X12_shareMember_J22, ↓reduceIte, nW_lit, r_fails hk, bindP]; rfl
  · obtain ⟨_, _, _, pok, _⟩ := parse_ok hp
    have hW5 := WI_clr hW (-nW 1)
    have k2 := (BrR_k hB5).2.1
    have hSt := hB5.2.2.2.2.2.2
    have kS := StR_k hSt
    have ep := X7_placeOfShare x (BaR_O hSt.1) hSt.2.2.1 hx
    have l36 : (gSh (oS A)).length ≤ 36 := hSt.2.2.1.2.1
    have cr := c_range x (nW 1) (nW 3) M5
    by_cases hr : inB x (nW 1) (nW 3) = true
    · rw [if_pos hr] at cr
      have RR : ∀ N V s t', KR N → RfR V s t' (clr A (-nW 1)) → QT t V → f_X12_shareOf 908 x (QW N V s t') = some (posI (shAt (gSh (oS A)) t x), QW N V s t') := fun N V s t' hk hR hQ => ref_shareOf hk x l36 hR.2.2.2.2.2.1.2.2.2.1 hW.1.1.2.2.1 hQ.2.2 pok
      cases ht : shAt (gSh (oS A)) t x with
      | none =>
        rw [show oS (clr A (-nW 1)) = oS A from rfl, ht] at ep
        have n0 : -nW 1 < nW 0 := by decide
        refine Op_refT 3 hB5 hW5 ?_ (fun N V s t' hk hR hQ => ?_)
        · simp only [cr, bindX, k2, Option.bind_some, ep, bindP, posI, n0, ↓reduceIte, f_X11_shareMember_J56]
        · have e := RR N V s t' hk hR hQ
          rw [ht] at e
          simp only [z1n0, ↓reduceIte, r_in, hr, zI_t, e, bindP, posI, f_X12_shareMember_J59, nW_lit, r_fails hk]; rfl
      | some j =>
        rw [show oS (clr A (-nW 1)) = oS A from rfl, ht] at ep
        obtain ⟨hj, _⟩ := shAt_some ht
        have n0 : ¬ nW j < nW 0 := by rw [nW_lt (by omega) (by omega)]; omega
        have nm : ¬ nW j = -nW 1 := nW_neg (by omega) (by omega) (by omega)
        obtain ⟨a, ea, _, hK, hV, _⟩ := ShsR_at hSt.2.2.1 (show j < (gSh (oS (clr A (-nW 1)))).length from hj)
        obtain ⟨v1, v2, v3, _, v5⟩ := hV
        have v2' : mI M5 a 3 = nW ((gSh (oS A)).getD j shD).2.2.length := v2
        have v3' : ((gSh (oS A)).getD j shD).2.2.length ≤ 6 := v3
        have v5' : ∀ i, i < ((gSh (oS A)).getD j shD).2.2.length → mI M5 (a + 1) i = nW (((gSh (oS A)).getD j shD).2.2.getD i 0) := v5
        have g3 : gI 6 3 a M5 = some (nW ((gSh (oS A)).getD j shD).2.2.length) := by simp only [gI, hK.1, ↓reduceIte, v2']
        have g2 : gR 6 2 a M5 = some (a + 1) := by simp only [gR, hK.1, ↓reduceIte, hK.2.1]
        have RS : ∀ N V s t', KR N → RfR V s t' (clr A (-nW 1)) → s (1866 + j) = nW ((gSh (oS A)).getD j shD).2.2.length ∧ ∀ i, i < ((gSh (oS A)).getD j shD).2.2.length → s (1902 + (6 * j + i)) = nW (((gSh (oS A)).getD j shD).2.2.getD i 0) := fun N V s t' hk hR => by
          have := hR.2.2.2.2.2.1.2.2.2.1.2 j hj
          exact ⟨this.2.2.1, this.2.2.2.2⟩
        rcases idx (x := y) (show ((gSh (oS A)).getD j shD).2.2.length < 100000 by omega) with ⟨i, hi, rfl, hin⟩ | ⟨hin, hn⟩
        · have m0 : ¬ nW i < nW 0 := by rw [nW_lt (by omega) (by omega)]; omega
          have m1 : nW i < nW ((gSh (oS A)).getD j shD).2.2.length := by rw [nW_lt (by omega) (by omega)]; omega
          have ga : aI 13 (a + 1) (nW i) M5 = some (nW (((gSh (oS A)).getD j shD).2.2.getD i 0)) := by
            simp (disch := omega) only [aI, hK.2.2, ↓reduceIte, ix_nW, Option.map_some, v5' i hi]
          refine Op_tellT (nW (((gSh (oS A)).getD j shD).2.2.getD i 0)) hB5 hW5 ?_ (fun N V s t' hk hR hQ => ?_)
          · simp only [cr, bindX, k2, Option.bind_some, ep, bindP, posI, n0, m0, m1, ↓reduceIte, kS.2.2.1, ea, g3, g2, ga]
          · have e := RR N V s t' hk hR hQ
            rw [ht] at e
            obtain ⟨e2, e3⟩ := RS N V s t' hk hR
            have e4 := e3 i hi
            rw [← Nat.add_assoc] at e4
            simp (disch := omega) only [z1n0, ↓reduceIte, r_in, hr, zI_t, e, bindP, posI, nm, q_k hk, q_gR1 hk, q_gR2 hk, q_gR8 hk, q_gR11 hk, q_gR13 hk, q_gR14 hk, q_gR15 hk, q_gR16 hk, q_gI hk, q_pI hk, q_a hk, q_w hk, q_l hk, Option.bind_some, nW_mul, nW_add, e2, hin, e4]
        · refine Op_refT 3 hB5 hW5 ?_ (fun N V s t' hk hR hQ => ?_)
          · rcases hn with h | ⟨h, h'⟩
            · simp only [cr, bindX, k2, Option.bind_some, ep, bindP, posI, n0, h, ↓reduceIte, f_X11_shareMember_J56]
            · have h'' : ¬ y < nW ((gSh (oS A)).getD j shD).2.2.length := Int32.not_lt.mpr h'
              simp only [cr, bindX, k2, Option.bind_some, ep, bindP, posI, n0, h, h'', ↓reduceIte, kS.2.2.1, ea, g3, f_X11_shareMember_J56]
          · have e := RR N V s t' hk hR hQ
            rw [ht] at e
            obtain ⟨e2, e3⟩ := RS N V s t' hk hR
            simp (disch := omega) only [z1n0, ↓reduceIte, r_in, hr, zI_t, e, bindP, posI, nm, q_k hk, q_gR1 hk, q_gR2 hk, q_gR8 hk, q_gR11 hk, q_gR13 hk, q_gR14 hk, q_gR15 hk, q_gR16 hk, q_gI hk, q_pI hk, q_a hk, q_w hk, q_l hk, Option.bind_some, nW_add, e2, hin, zI_f, f_X12_shareMember_J59, nW_lit, r_fails hk]; rfl
    · rw [if_neg hr] at cr
      have hr0 : inB x (nW 1) (nW 3) = false := by simpa using hr
      refine Op_refT 1 hB5 hW5 ?_ (fun N V s t' hk hR hQ => ?_)
      · simp only [cr, bindX]
      · simp only [f_X12_shareMember_J22, z1n0, ↓reduceIte, r_in, hr0, zI_f, nW_lit, r_fails hk, bindP]; rfl
