/-! SUBSCRIBE -/
theorem tail_f (σ : Sg) (c k : Nat) (gr o : Int32) (b : Bool) : SB σ (spTail σ c k gr o b) ∧ gTa (spTail σ c k gr o b) = gTa σ := by
  unfold spTail
  split
  · exact SB_GR _ _ _ _ _ _
  · exact ⟨SB.refl σ, rfl⟩
theorem subset_f {σ : Sg} {c k : Nat} {g o : Int32} (h : NeS σ) (hk : k < (cL (gCl σ c) 3).1) : NeS (spSubSet σ c k g o) ∧ ∀ c', cB (gCl (spSubSet σ c k g o) c') = cB (gCl σ c') ∧ cF (gCl (spSubSet σ c k g o) c') = cF (gCl σ c') := by
  have e : ∀ c', gCl (spSubSet σ c k g o) c' = if c' = c then uL (gCl σ c) 3 (lset (cL (gCl σ c) 3) k (((cL (gCl σ c) 3).2 k).1, fset (fset ((cL (gCl σ c) 3).2 k).2 2 g) 3 o)) else gCl σ c' := fun _ => rfl
  refine ⟨fun c' hc' j hj => ?_, fun c' => ?_⟩
  · rw [e] at hj ⊢
    by_cases hcc : c' = c
    · subst hcc
      rw [if_pos rfl] at hj ⊢
      have e3 : ∀ l, cL (uL (gCl σ c') 3 l) 3 = l := fun l => by
        show fset (cL (gCl σ c')) 3 l 3 = _
        exact fset_eq _ _ _
      rw [e3] at hj ⊢
      simp only [lset] at hj ⊢
      by_cases e : j = k
      · subst e; simp only [↓reduceIte]; exact h c' hc' j hj
      · simp only [e, ↓reduceIte]; exact h c' hc' j hj
    · rw [if_neg hcc] at hj ⊢; exact h c' hc' j hj
  · rw [e]
    by_cases hcc : c' = c
    · subst hcc; rw [if_pos rfl]; exact ⟨rfl, rfl⟩
    · rw [if_neg hcc]; exact ⟨rfl, rfl⟩
theorem subnew_f {σ : Sg} {c : Nat} {r : Row} (h : NeS σ) (hr : r.1 ≠ []) : NeS (spSubNew σ c r) ∧ ∀ c', cB (gCl (spSubNew σ c r) c') = cB (gCl σ c') ∧ cF (gCl (spSubNew σ c r) c') = cF (gCl σ c') := by
  have e : ∀ c', gCl (spSubNew σ c r) c' = if c' = c then uL (gCl σ c) 3 (lpush (cL (gCl σ c) 3) r) else gCl σ c' := fun _ => rfl
  refine ⟨fun c' hc' j hj => ?_, fun c' => ?_⟩
  · rw [e] at hj ⊢
    by_cases hcc : c' = c
    · subst hcc
      rw [if_pos rfl] at hj ⊢
      have e3 : ∀ l, cL (uL (gCl σ c') 3 l) 3 = l := fun l => by
        show fset (cL (gCl σ c')) 3 l 3 = _
        exact fset_eq _ _ _
      rw [e3] at hj ⊢
      simp only [lpush] at hj ⊢
      by_cases e : j = (cL (gCl σ c') 3).1
      · simp only [e, ↓reduceIte]; exact hr
      · simp only [e, ↓reduceIte]; exact h c' hc' j (by omega)
    · rw [if_neg hcc] at hj ⊢; exact h c' hc' j hj
  · rw [e]
    by_cases hcc : c' = c
    · subst hcc; rw [if_pos rfl]; exact ⟨rfl, rfl⟩
    · rw [if_neg hcc]; exact ⟨rfl, rfl⟩
theorem SgI_sub {k : Nat} {σ σ1 : Sg} {c j : Nat} {gr o : Int32} {b : Bool} (h : SgI k σ) (hN : NeS σ1) (hf : ∀ c', cB (gCl σ1 c') = cB (gCl σ c') ∧ cF (gCl σ1 c') = cF (gCl σ c')) (hT : gTa σ1 = gTa σ) (hS : SI (spTail σ1 c j gr o b)) : SgI (k + 1) (spTail σ1 c j gr o b) ∧ ∀ c', cF (gCl (spTail σ1 c j gr o b) c') = cF (gCl σ c') := by
  obtain ⟨t1, t2⟩ := tail_f σ1 c j gr o b
  refine ⟨⟨hS, Pe_SB (Pe_B h.2.1 (fun c' _ _ _ => (hf c').1)) t1, fun c' hc' => ?_, t1.nl.ne hN, ?_⟩, fun c' => ?_⟩
  · rw [(t1.nl c').1, (hf c').2]; exact h.2.2.1 c' hc'
  · rw [t2, hT]; exact Nat.le_succ_of_le h.2.2.2.2
  · rw [(t1.nl c').1, (hf c').2]
theorem odd_bits : ∀ n : Fin 8, ((nW n.val &&& nW 1 = nW 0) ↔ ¬ iremE (nW n.val) (nW 2) = nW 1) := by decide
theorem Op_subscribe (x g gr o : Int32) : OpOK (cdC 3 1 2) (f_X11_subscribe 0 x g gr o) (f_X12_subscribe 908 x g gr o) := by
  intro k M A hk5 hB hF hN hW hX
  have k1 := hB.1.1
  refine Op_text (x := x) (F := fun v6 M5 => bindX (f_X11_requireRange g (nW 0) (nW 2) M5) (fun _ M7 => bindX (f_X11_requireRange gr (nW 0) (nW 3) M7) (fun _ M9 => bindX (f_X11_requireRange o (nW 0) (nW 7) M9) (fun _ M11 => if gr = nW 0 then f_X11_subscribe_J57 0 x g gr o v6 M11 else if (o &&& nW 1) = nW 0 then f_X11_subscribe_J57 0 x g gr o v6 M11 else some (.inr 1, xM M11)))))
    (G := fun v5 M4 => if v5 = nW 0 then f_X12_subscribe_J67 908 M4 else bindP (f_X12_in g (nW 0) (nW 2) M4) (fun v7 M6 => if v7 = nW 0 then f_X12_subscribe_J67 908 M6 else bindP (f_X12_in gr (nW 0) (nW 3) M6) (fun v9 M8 => if v9 = nW 0 then f_X12_subscribe_J67 908 M8 else bindP (f_X12_in o (nW 0) (nW 7) M8) (fun v11 M10 => if v11 = nW 0 then f_X12_subscribe_J67 908 M10 else if gr ≤ nW 0 then f_X12_subscribe_J73 908 x g gr o M10 else if (iremE o (nW 2)) = nW 1 then f_X12_subscribe_J67 908 M10 else f_X12_subscribe_J73 908 x g gr o M10)))) true hB hF hN hW rfl ?_ (fun N V s t hk => ?_) (fun N V s t hk => ?_) (fun c t x' M5 hc ec hp hx hB5 => ?_)
  · obtain ⟨M1, ek, F1, B1, _⟩ := c_take hB
    have cc := c_client x M1
    by_cases hx : inB x (nW 0) (nW 5) = true
    · rw [if_pos hx] at cc
      simp only [f_X11_subscribe, k1, ↓reduceIte, ek, bindP, cc, bindX, c_filter B1.1.1, nW_lit]
      try rfl
    · rw [if_neg hx] at cc
      simp only [f_X11_subscribe, k1, ↓reduceIte, ek, bindP, cc, bindX, nW_lit]
      try rfl
  · simp only [f_X12_subscribe, q_k hk, ↓reduceIte, q_pI hk, Option.bind_some, nW_lit, r_client, bindP, zI_t]
    cases inB x (nW 0) (nW 5)
    · simp only [zI_f, ↓reduceIte, r_unread hk, Bool.false_eq_true]
    · simp only [zI_t, z1n0, ↓reduceIte]
      try rfl
  · simp only [f_X12_subscribe_J67, ↓reduceIte, nW_lit, r_fails hk, bindP]; rfl
  · subst ec
    obtain ⟨_, _, pne, pok, _⟩ := parse_ok hp
    have hW5 := WI_clr hW (-nW 1)
    have hSt := hB5.2.2.2.2.2.2
    have k2 := (BrR_k hB5).2.1
    have cg := c_range g (nW 0) (nW 2) M5
    have cq := c_range gr (nW 0) (nW 3) M5
    have co := c_range o (nW 0) (nW 7) M5
    by_cases hg : inB g (nW 0) (nW 2) = true
    · rw [if_pos hg] at cg
      by_cases hq : inB gr (nW 0) (nW 3) = true
      · rw [if_pos hq] at cq
        by_cases ho : inB o (nW 0) (nW 7) = true
        · rw [if_pos ho] at co
          obtain ⟨gn, _, hgn, egn⟩ := inB_nat (by omega) hg (by omega)
          obtain ⟨qn, _, hqn, eqn⟩ := inB_nat (by omega) hq (by omega)
          obtain ⟨on, _, hon7, eon⟩ := inB_nat (by omega) ho (by omega)
          have bits := odd_bits ⟨on, by omega⟩
          simp only at bits
          rw [← eon] at bits
          have qz : (gr = nW 0) ↔ gr ≤ nW 0 := by rw [eqn, nW_inj (by omega) (by omega), nW_le (by omega) (by omega)]; omega
          by_cases hb : gr = nW 0 ∨ o &&& nW 1 = nW 0
          · -- allowed
            have eF : (bindX (f_X11_requireRange g (nW 0) (nW 2) M5) (fun _ M7 => bindX (f_X11_requireRange gr (nW 0) (nW 3) M7) (fun _ M9 => bindX (f_X11_requireRange o (nW 0) (nW 7) M9) (fun _ M11 => if gr = nW 0 then f_X11_subscribe_J57 0 (nW c) g gr o x' M11 else if (o &&& nW 1) = nW 0 then f_X11_subscribe_J57 0 (nW c) g gr o x' M11 else some (.inr 1, xM M11))))) = f_X11_subscribe_J57 0 (nW c) g gr o x' M5 := by
              by_cases h0 : gr = nW 0
              · subst h0; simp only [cg, cq, co, bindX, ↓reduceIte]
              · have h1 := hb.resolve_left h0
                simp only [cg, cq, co, bindX, h0, h1, ↓reduceIte]
            have eG : ∀ N V s t', KR N → (if nW 1 = nW 0 then f_X12_subscribe_J67 908 (QW N V s t') else bindP (f_X12_in g (nW 0) (nW 2) (QW N V s t')) (fun v7 M6 => if v7 = nW 0 then f_X12_subscribe_J67 908 M6 else bindP (f_X12_in gr (nW 0) (nW 3) M6) (fun v9 M8 => if v9 = nW 0 then f_X12_subscribe_J67 908 M8 else bindP (f_X12_in o (nW 0) (nW 7) M8) (fun v11 M10 => if v11 = nW 0 then f_X12_subscribe_J67 908 M10 else if gr ≤ nW 0 then f_X12_subscribe_J73 908 (nW c) g gr o M10 else if (iremE o (nW 2)) = nW 1 then f_X12_subscribe_J67 908 M10 else f_X12_subscribe_J73 908 (nW c) g gr o M10)))) = f_X12_subscribe_J73 908 (nW c) g gr o (QW N V s t') := fun N V s t' hk => by
              by_cases h0 : gr = nW 0
              · have h0' := qz.mp h0
                simp only [r_in, hg, hq, ho, zI_t, bindP, z1n0, ↓reduceIte, h0']
              · have h1 := bits.mp (hb.resolve_left h0)
                have h0' : ¬ gr ≤ nW 0 := fun h => h0 (qz.mpr h)
                simp only [r_in, hg, hq, ho, zI_t, bindP, z1n0, ↓reduceIte, h0', h1]
            have cn := c_conn hB5 hc
            rw [show oS (clr A (-nW 1)) = oS A from rfl] at cn
            cases hon : cB (gCl (oS A) c) 0 with
            | false =>
              rw [hon, if_neg (by decide)] at cn
              refine Op_refT 2 hB5 hW5 (eF.trans ?_) (fun N V s t' hk hR hQ => ?_)
              · simp only [f_X11_subscribe_J57, cn, bindX]
              · have e := ref_isOn (N := N) (V := V) (t := t') hk hc (RfR_on hR hc).1
                rw [show oS (clr A (-nW 1)) = oS A from rfl, hon, zI_f] at e
                refine (eG N V s t' hk).trans ?_
                simp only [f_X12_subscribe_J73, nW_lit, e, bindP, ↓reduceIte, r_fails hk]; rfl
            | true =>
              rw [hon, if_pos rfl] at cn
              obtain ⟨r1, r2, r3, r4, r5⟩ := BrR_c hB5 hc
              have hCl := hSt.2.1 c hc
              have hex := (hW.1.1.1.2 c hc).2.2.1 hon
              have hB0 : (mK M5 0).1 = 11 ∧ mR M5 0 6 = some 8 := ⟨hB5.1.1, hB5.1.2.2.2.2.1⟩
              have okk : okS (mkSu t gr g o) := ⟨pok, ⟨qn, hqn, eqn⟩, ⟨gn, hgn, egn⟩, ⟨on, hon7, eon⟩⟩
              have epl := X5_placeOf gr hCl.2.2.2.1 hCl.2.2.2.2.2.1 hx
              have epl : f_X5_placeOf (8 + 2 + 60 * c + 34) x' gr M5 = some (posI (subAt (cL (gCl (oS A) c) 3) t gr), M5) := epl
              have l6 : (cL (gCl (oS A) c) 3).1 ≤ 6 := (hW.1.1.1.2 c hc).2.1.2.2.2
              have BS := B_subscribe (σ := oS A) (g := g) (gr := gr) (o := o) hB0 hSt hW.1.1 hc hx hex okk
              have RP : ∀ N V s t', KR N → RfR V s t' (clr A (-nW 1)) → QT t V → f_X12_placeOf 908 (nW c) gr (QW N V s t') = some (posK (6 * c) (subAt (cL (gCl (oS A) c) 3) t gr), QW N V s t') := fun N V s t' hk hR hQ => by
                have hcl := hR.2.2.2.2.2.1.2.1 c hc
                exact ref_placeOf gr hk hc l6 hcl.2.1.2.2.1 hcl.2.2.2.2.2.1 (hW.1.1.2.1 c hc).1 hQ.2.2 pok (hW.1.1.2.1 c hc).2
              have e1 : ∀ N V s t', KR N → RfR V s t' (clr A (-nW 1)) → f_X12_isOn 908 (nW c) (QW N V s t') = some (nW 1, QW N V s t') := fun N V s t' hk hR => by
                have e := ref_isOn (N := N) (V := V) (t := t') hk hc (RfR_on hR hc).1
                rw [show oS (clr A (-nW 1)) = oS A from rfl, hon, zI_t] at e
                exact e
              cases hs : subAt (cL (gCl (oS A) c) 3) t gr with
              | some j =>
                have hj := (subAt_lt hs).1
                simp only [spSub, hs] at BS
                obtain ⟨M1, eb, F1, R1, S1⟩ := BS
                rw [hs] at epl
                obtain ⟨fN, ff⟩ := subset_f (g := g) (o := o) hW.1.2.2.2.1 hj
                obtain ⟨H1, H2⟩ := SgI_sub (c := c) (j := j) (gr := gr) (o := o) (b := false) hW.1 fN ff rfl S1
                have n0 : nW 0 ≤ nW j := by rw [nW_le (by omega) (by omega)]; omega
                have nm : ¬ nW (6 * c + j) = -nW 1 := nW_neg (by omega) (by omega) (by omega)
                have e3 : cL (gCl (spTail (spSubSet (oS A) c j g o) c j gr o false) c) 3 = cL (gCl (spSubSet (oS A) c j g o) c) 3 := spTail_L3 _ _ _ _ _ _
                have e3n : (cL (gCl (spSubSet (oS A) c j g o) c) 3).1 = (cL (gCl (oS A) c) 3).1 := by
                  have : gCl (spSubSet (oS A) c j g o) c = uL (gCl (oS A) c) 3 (lset (cL (gCl (oS A) c) 3) j (((cL (gCl (oS A) c) 3).2 j).1, fset (fset ((cL (gCl (oS A) c) 3).2 j).2 2 g) 3 o)) := gCl_putG _ _ _
                  rw [this]
                  show (fset (cL (gCl (oS A) c)) 3 _ 3).1 = _
                  rw [fset_eq]; rfl
                rw [e3, e3n] at eb
                refine Op_S (nW (cL (gCl (oS A) c) 3).1) hB5 hW5 (M' := M1) (eF.trans ?_) F1 (fun a h => Or.inr h) R1 H1 (fun c' _ => H2 c') (fun N V s t' hk hR hQ => ?_)
                · simp only [f_X11_subscribe_J57, nW_lit, cn, bindX, k2, r1, r2, r4, Option.bind_some, epl, bindP, posI, n0, ↓reduceIte]
                  exact eb
                · have ep := RP N V s t' hk hR hQ
                  rw [hs] at ep
                  obtain ⟨V', s', t2, er, hE, R2⟩ := ref_sub_old (N := N) (V := V) (gr := gr) hk hR.2.2.2.2.2.1 hW.1.1 hc hj ⟨gn, hgn, egn⟩ ⟨on, hon7, eon⟩
                  refine ⟨V', s', t2, (eG N V s t' hk).trans ?_, hE.vq, by rw [hE.1]; exact hQ.1, R2⟩
                  simp only [f_X12_subscribe_J73, nW_lit, e1 N V s t' hk hR, bindP, z1n0, ↓reduceIte, ep, posK, lit_m1i, nm]
                  exact er
              | none =>
                rw [hs] at epl
                have n0 : ¬ nW 0 ≤ -nW 1 := by decide
                by_cases h6 : (cL (gCl (oS A) c) 3).1 = 6
                · simp only [spSub, hs, h6, ↓reduceIte] at BS
                  refine Op_refT 2 hB5 hW5 (eF.trans ?_) (fun N V s t' hk hR hQ => ?_)
                  · simp only [f_X11_subscribe_J57, nW_lit, cn, bindX, k2, r1, r2, r4, Option.bind_some, epl, bindP, posI, n0, ↓reduceIte]
                    exact BS
                  · have ep := RP N V s t' hk hR hQ
                    rw [hs] at ep
                    have a3 : s (50 + c) = nW (cL (gCl (oS A) c) 3).1 := (hR.2.2.2.2.2.1.2.1 c hc).2.1.2.2.1
                    rw [h6] at a3
                    refine (eG N V s t' hk).trans ?_
                    simp (disch := omega) only [f_X12_subscribe_J73, f_X12_subscribe_J106, q_k hk, q_gR1 hk, q_gR2 hk, q_gR8 hk, q_gR11 hk, q_gR13 hk, q_gR14 hk, q_gR15 hk, q_gR16 hk, q_gI hk, q_pI hk, q_a hk, q_w hk, q_l hk, nW_add, nW_lit, e1 N V s t' hk hR, bindP, z1n0, ↓reduceIte, ep, posK, lit_m1i, a3, Option.bind_some, r_fails hk]
                    rfl
                · have h6' : (cL (gCl (oS A) c) 3).1 < 6 := by omega
                  simp only [spSub, hs, h6, ↓reduceIte] at BS
                  obtain ⟨M1, eb, F1, R1, S1⟩ := BS
                  obtain ⟨fN, ff⟩ := subnew_f (c := c) (r := mkSu t gr g o) hW.1.2.2.2.1 pne
                  obtain ⟨H1, H2⟩ := SgI_sub (c := c) (j := (cL (gCl (oS A) c) 3).1) (gr := gr) (o := o) (b := true) hW.1 fN ff rfl S1
                  have e3 : cL (gCl (spTail (spSubNew (oS A) c (mkSu t gr g o)) c (cL (gCl (oS A) c) 3).1 gr o true) c) 3 = cL (gCl (spSubNew (oS A) c (mkSu t gr g o)) c) 3 := spTail_L3 _ _ _ _ _ _
                  have e3n : (cL (gCl (spSubNew (oS A) c (mkSu t gr g o)) c) 3).1 = (cL (gCl (oS A) c) 3).1 + 1 := by
                    have : gCl (spSubNew (oS A) c (mkSu t gr g o)) c = uL (gCl (oS A) c) 3 (lpush (cL (gCl (oS A) c) 3) (mkSu t gr g o)) := gCl_putG _ _ _
                    rw [this]
                    show (fset (cL (gCl (oS A) c)) 3 _ 3).1 = _
                    rw [fset_eq]; rfl
                  rw [e3, e3n] at eb
                  refine Op_S (nW ((cL (gCl (oS A) c) 3).1 + 1)) hB5 hW5 (M' := M1) (eF.trans ?_) F1 (fun a h => Or.inr h) R1 H1 (fun c' _ => H2 c') (fun N V s t' hk hR hQ => ?_)
                  · simp only [f_X11_subscribe_J57, nW_lit, cn, bindX, k2, r1, r2, r4, Option.bind_some, epl, bindP, posI, n0, ↓reduceIte]
                    exact eb
                  · have ep := RP N V s t' hk hR hQ
                    rw [hs] at ep
                    obtain ⟨V', s', t2, er, hE, R2, _⟩ := ref_sub_new (N := N) (V := V) (x := t) (g := g) (gr := gr) (o := o) hk hR.2.2.2.2.2.1 hW.1.1 hc hex h6' okk hs hQ.2.2 hQ.2.1
                    refine ⟨V', s', t2, (eG N V s t' hk).trans ?_, hE.vq, by rw [hE.1]; exact hQ.1, R2⟩
                    simp only [f_X12_subscribe_J73, nW_lit, e1 N V s t' hk hR, bindP, z1n0, ↓reduceIte, ep, posK, lit_m1i]
                    exact er
          · -- option 1 with a group
            have h0 : ¬ gr = nW 0 := fun h => hb (Or.inl h)
            have h1 : ¬ o &&& nW 1 = nW 0 := fun h => hb (Or.inr h)
            have h0' : ¬ gr ≤ nW 0 := fun h => h0 (qz.mpr h)
            have h1' : iremE o (nW 2) = nW 1 := Decidable.byContradiction (fun h => h1 (bits.mpr h))
            refine Op_refT 1 hB5 hW5 ?_ (fun N V s t' hk hR hQ => ?_)
            · simp only [cg, cq, co, bindX, h0, h1, ↓reduceIte]
            · simp only [f_X12_subscribe_J67, z1n0, ↓reduceIte, r_in, hg, hq, ho, zI_t, h0', h1', nW_lit, r_fails hk, bindP]; rfl
        · rw [if_neg ho] at co
          have ho0 : inB o (nW 0) (nW 7) = false := by simpa using ho
          refine Op_refT 1 hB5 hW5 ?_ (fun N V s t' hk hR hQ => ?_)
          · simp only [cg, cq, co, bindX]
          · simp only [f_X12_subscribe_J67, z1n0, ↓reduceIte, r_in, hg, hq, ho0, zI_t, zI_f, nW_lit, r_fails hk, bindP]; rfl
      · rw [if_neg hq] at cq
        have hq0 : inB gr (nW 0) (nW 3) = false := by simpa using hq
        refine Op_refT 1 hB5 hW5 ?_ (fun N V s t' hk hR hQ => ?_)
        · simp only [cg, cq, bindX]
        · simp only [f_X12_subscribe_J67, z1n0, ↓reduceIte, r_in, hg, hq0, zI_t, zI_f, nW_lit, r_fails hk, bindP]; rfl
    · rw [if_neg hg] at cg
      have hg0 : inB g (nW 0) (nW 2) = false := by simpa using hg
      refine Op_refT 1 hB5 hW5 ?_ (fun N V s t' hk hR hQ => ?_)
      · simp only [cg, bindX]
      · simp only [f_X12_subscribe_J67, z1n0, ↓reduceIte, r_in, hg0, zI_f, nW_lit, r_fails hk, bindP]; rfl
