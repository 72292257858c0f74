/-! PUBLISH -/
theorem nW_any (x : Int32) : ∃ n, x = nW n := ⟨x.toBitVec.toNat, (Int32.ofNat_bitVecToNat x.toBitVec).symm⟩
theorem SI_publ {σ : Sg} {r : Row} {by' : Nat} (ret : Bool) (hw : WtR σ) (hS : SI σ) (hx : okTx r.1) (htop : topical r.1) (hg : ∃ n, n ≤ 2 ∧ r.2 1 = nW n) (hby : by' < 6) (hta : (gTa σ).1 < 512) : SI (spPubl σ r ret by').1 := by
  obtain ⟨N, s, t, hk, hR⟩ := hw
  obtain ⟨s', t', _, _, h, _⟩ := ref_publishes (N := N) (V := (fun _ _ => nW 0, fun _ j => rc (r.1.getD j []), fun _ _ => 0)) (by' := by') ret hk hR hS (fun k hk => by rw [Nat.zero_add]) hx htop hg hby hta
  exact h
theorem ack_f (σ : Sg) (c g id : Nat) : NL σ (spAck σ c g id) ∧ gTa (spAck σ c g id) = gTa σ ∧ ∀ c', cB (gCl (spAck σ c g id) c') = cB (gCl σ c') := by
  unfold spAck
  split
  · exact ⟨NL.refl σ, rfl, fun _ => rfl⟩
  · have sm := sign_same (gSc σ, if g = 2 then spKeep (gCl σ c) id else gCl σ c) (nW g) (nW id)
    have e : cB (if g = 2 then spKeep (gCl σ c) id else gCl σ c) = cB (gCl σ c) ∧ cL (if g = 2 then spKeep (gCl σ c) id else gCl σ c) = cL (gCl σ c) ∧ cF (if g = 2 then spKeep (gCl σ c) id else gCl σ c) = cF (gCl σ c) := by
      split
      · exact ⟨rfl, rfl, rfl⟩
      · exact ⟨rfl, rfl, rfl⟩
    refine ⟨NL_put (sm.2.2.2.1.trans e.2.2) (Or.inl (sm.2.2.1.trans (congrFun e.2.1 3))), rfl, fun c' => ?_⟩
    have ecl : ∀ gg : GS, gCl (putG σ c gg) c' = if c' = c then gg.2 else gCl σ c' := fun _ => rfl
    rw [ecl]
    by_cases hcc : c' = c
    · subst hcc; rw [if_pos rfl]; exact sm.1.trans e.1
    · rw [if_neg hcc]
theorem SgI_ack {k : Nat} {σ : Sg} {c g id : Nat} (h : SgI k σ) (hc : c < 6) (hon : cB (gCl σ c) 0 = true) : SgI k (spAck σ c g id) := by
  obtain ⟨f1, f2, f3⟩ := ack_f σ c g id
  exact ⟨SI_ack h.1 hc hon, Pe_B h.2.1 (fun c' _ _ _ => f3 c'), fun c' hc' => by rw [(f1 c').1]; exact h.2.2.1 c' hc', f1.ne h.2.2.2.1, by rw [f2]; exact h.2.2.2.2⟩
theorem SgI_pubBy {k : Nat} {σ : Sg} {c g id : Nat} {ret : Bool} {pay : Int32} {x : Txt} (h : SgI k σ) (hw : WtR σ) (hc : c < 6) (hg : g ≤ 2) (hon : cB (gCl σ c) 0 = true) (hx : okTx x) (htop : topical x) (hta : (gTa σ).1 < 512) : SgI (k + 1) (spPubBy σ c g id ret pay x).2 ∧ NL σ (spPubBy σ c g id ret pay x).2 := by
  unfold spPubBy
  by_cases hn : g = 2 ∧ cK (gCl σ c) id = true
  · rw [if_pos hn]
    have h1 : SgI k (uSc σ (tot (gSc σ) 3)) := ⟨SI_tot h.1 (by omega), h.2.1, h.2.2.1, h.2.2.2.1, h.2.2.2.2⟩
    have := SgI_ack (g := g) (id := id) h1 hc hon
    exact ⟨this.mono (Nat.le_succ _), (ack_f (uSc σ (tot (gSc σ) 3)) c g id).1⟩
  · rw [if_neg hn]
    obtain ⟨b1, b2⟩ := SB_publ σ (msg x (nW g) pay (nW 0)) ret c
    have S1 := SI_publ (r := msg x (nW g) pay (nW 0)) (by' := c) ret hw h.1 hx htop ⟨g, hg, rfl⟩ hc hta
    have h1 : SgI (k + 1) (spPubl σ (msg x (nW g) pay (nW 0)) ret c).1 := SgI_of h S1 (Pe_SB h.2.1 b1) b1.nl (by rw [b2]; exact spCount_le _ _)
    have hon' : cB (gCl (spPubl σ (msg x (nW g) pay (nW 0)) ret c).1 c) 0 = true := by rw [(b1 c).1]; exact hon
    exact ⟨SgI_ack h1 hc hon', b1.nl.trans (ack_f _ c g id).1⟩
theorem BrR_O {M : Mem} {A : Wh} (h : BrR M A) : BrO M := ⟨h.1.1, h.1.2.2.2.1, h.1.2.2.2.2.1, h.2.2.2.2.1⟩
theorem pub_J35 {M : Mem} {A : Wh} {c g id x : Nat} {p : Int32} {t : Txt} (ret : Bool) (hB : BrR M A) (hS : SI (oS A)) (hc : c < 6) (hg : g ≤ 2) (hid : 1 ≤ g → 1 ≤ id ∧ id ≤ 50) (hx : TextR M x t) (ht : okTx t) (htop : topical t) (hta : (gTa (oS A)).1 < 512) (hp : inB p (nW 0) (nW 9999) = true) (hon : cB (gCl (oS A) c) 0 = true) : ∃ M', f_X11_publish_J35 0 (nW c) (nW g) (nW id) (zI ret) p x M = some (.inl (nW (spPubBy (oS A) c g id ret p t).1), M') ∧ Fr (fun a => a = 7 ∨ SZ 8 a) M M' ∧ StR M' 8 (spPubBy (oS A) c g id ret p t).2 := by
  have cp := c_range p (nW 0) (nW 9999) M
  rw [if_pos hp] at cp
  have cn := c_conn hB hc
  rw [hon, if_pos rfl] at cn
  have k2 := (BrR_k hB).2.1
  obtain ⟨r1, r2, r3, r4, r5⟩ := BrR_c hB hc
  have hSt := hB.2.2.2.2.2.2
  have hO := BrR_O hB
  have hZ : inZ 8 := ⟨by omega, by omega⟩
  by_cases g2 : g = 2
  · obtain ⟨i1, i2⟩ := hid (by omega)
    have ek := Cl_keeps (hSt.2.1 c hc) (show id < 51 by omega)
    cases hb : cK (gCl (oS A) c) id with
    | false =>
      obtain ⟨M', e, F, R⟩ := B_publish ret hO hSt hS hc hg hid hx ht htop hta (pay := p) (fun h => by rw [hb] at h; cases h.2)
      refine ⟨M', ?_, F, R⟩
      rw [hb, zI_f] at ek
      subst g2
      simp only [f_X11_publish_J35, nW_lit, cp, cn, bindX, k2, r1, r2, r4, Option.bind_some, ↓reduceIte, ek, bindP]
      exact e
    | true =>
      rw [hb, zI_t] at ek
      obtain ⟨t1, t2, M1, t3, F1, R1, _⟩ := StR_inc hZ hSt (i := 3) (by omega)
      have hO1 := hO.fr F1 (by unfold SZ; omega)
      obtain ⟨M2, e2, F2, R2⟩ := B_ack (nW 0) hO1 R1 hc hg hid
      have es : spPubBy (oS A) c g id ret p t = (0, spAck (uSc (oS A) (tot (gSc (oS A)) 3)) c g id) := by
        unfold spPubBy; rw [if_pos ⟨g2, hb⟩]
      rw [es]
      refine ⟨M2, ?_, (F1.trans F2).mono (fun a h => Or.inr h), R2⟩
      subst g2
      simp only [f_X11_publish_J35, nW_lit, cp, cn, bindX, k2, r1, r2, r4, Option.bind_some, ↓reduceIte, ek, bindP, z1n0, t1, t2, t3]
      exact e2
  · obtain ⟨M', e, F, R⟩ := B_publish ret hO hSt hS hc hg hid hx ht htop hta (pay := p) (fun h => g2 h.1)
    refine ⟨M', ?_, F, R⟩
    have d : ¬ nW g = nW 2 := by rw [nW_inj (by omega) (by omega)]; exact g2
    simp only [f_X11_publish_J35, nW_lit, cp, cn, bindX, k2, r1, r2, Option.bind_some, d, ↓reduceIte]
    exact e
theorem Op_publish (x g y : Int32) (b : Bool) (p : Int32) : OpOK (cdC 3 1 2) (f_X11_publish 0 x g y (zI b) p) (f_X12_publish 908 x g y (zI b) p) := by
  intro k M A hk5 hB hF hN hW hX
  have k1 := hB.1.1
  refine Op_text (x := x) (F := fun v6 M5 => bindX (f_X11_requireRange g (nW 0) (nW 2) M5) (fun _ M7 => if g = nW 0 then f_X11_publish_J35 0 x g y (zI b) p v6 M7 else bindX (f_X11_requireRange y (nW 1) (nW 50) M7) (fun _ M9 => f_X11_publish_J35 0 x g y (zI b) p v6 M9)))
    (G := fun v5 M4 => if v5 = nW 0 then f_X12_publish_J61 908 M4 else bindP (f_X12_in g (nW 0) (nW 2) M4) (fun v7 M6 => if v7 = nW 0 then f_X12_publish_J61 908 M6 else if g ≤ nW 0 then f_X12_publish_J49 908 x g y (zI b) p M6 else bindP (f_X12_in y (nW 1) (nW 50) M6) (fun v9 M8 => if v9 = nW 0 then f_X12_publish_J61 908 M8 else f_X12_publish_J49 908 x g y (zI b) p M8))) false hB hF hN hW rfl ?_ (fun N V s t hk => ?_) (fun N V s t hk => ?_) (fun c t x' M5 hc ec hp hx hB5 => ?_)
  · obtain ⟨M1, ek, F1, B1, _⟩ := c_take hB
    have cc := c_client x M1
    by_cases hx : inB x (nW 0) (nW 5) = true
    · rw [if_pos hx] at cc
      simp only [f_X11_publish, k1, ↓reduceIte, ek, bindP, cc, bindX, c_topic B1.1.1, nW_lit]
      try rfl
    · rw [if_neg hx] at cc
      simp only [f_X11_publish, k1, ↓reduceIte, ek, bindP, cc, bindX, nW_lit]
      try rfl
  · simp only [f_X12_publish, q_k hk, ↓reduceIte, q_pI hk, Option.bind_some, nW_lit, r_client, bindP, zI_f]
    cases inB x (nW 0) (nW 5)
    · simp only [zI_f, ↓reduceIte, r_unread hk, Bool.false_eq_true]
    · simp only [zI_t, z1n0, ↓reduceIte]
      try rfl
  · simp only [f_X12_publish_J61, ↓reduceIte, nW_lit, r_fails hk, bindP]; rfl
  · subst ec
    obtain ⟨_, _, _, pok, ptop⟩ := parse_ok hp
    have ptop := ptop rfl
    have hW5 := WI_clr hW (-nW 1)
    have hSt := hB5.2.2.2.2.2.2
    have cg := c_range g (nW 0) (nW 2) M5
    by_cases hg : inB g (nW 0) (nW 2) = true
    · rw [if_pos hg] at cg
      obtain ⟨gn, _, hgn, rfl⟩ := inB_nat (by omega) hg (by omega)
      have cy := c_range y (nW 1) (nW 50) M5
      by_cases hy : gn = 0 ∨ inB y (nW 1) (nW 50) = true
      · -- the identifier is in range, or ignored
        obtain ⟨id, hid, eid⟩ : ∃ id, (1 ≤ gn → 1 ≤ id ∧ id ≤ 50) ∧ y = nW id := by
          rcases hy with h0 | h1
          · obtain ⟨n, hn⟩ := nW_any y
            exact ⟨n, fun h => by omega, hn⟩
          · obtain ⟨n, h1, h2, h3⟩ := inB_nat (by omega) h1 (by omega)
            exact ⟨n, fun _ => ⟨h1, h2⟩, h3⟩
        subst eid
        have eF : (bindX (f_X11_requireRange (nW gn) (nW 0) (nW 2) M5) (fun _ M7 => if nW gn = nW 0 then f_X11_publish_J35 0 (nW c) (nW gn) (nW id) (zI b) p x' M7 else bindX (f_X11_requireRange (nW id) (nW 1) (nW 50) M7) (fun _ M9 => f_X11_publish_J35 0 (nW c) (nW gn) (nW id) (zI b) p x' M9))) = f_X11_publish_J35 0 (nW c) (nW gn) (nW id) (zI b) p x' M5 := by
          by_cases h0 : gn = 0
          · subst h0; simp only [cg, bindX, ↓reduceIte]
          · have hy' := hy.resolve_left h0
            rw [if_pos hy'] at cy
            have d : ¬ nW gn = nW 0 := by rw [nW_inj (by omega) (by omega)]; exact h0
            simp only [cg, bindX, d, ↓reduceIte, cy]
        have eG : ∀ N V s t', KR N → (bindP (f_X12_in (nW gn) (nW 0) (nW 2) (QW N V s t')) (fun v7 M6 => if v7 = nW 0 then f_X12_publish_J61 908 M6 else if nW gn ≤ nW 0 then f_X12_publish_J49 908 (nW c) (nW gn) (nW id) (zI b) p M6 else bindP (f_X12_in (nW id) (nW 1) (nW 50) M6) (fun v9 M8 => if v9 = nW 0 then f_X12_publish_J61 908 M8 else f_X12_publish_J49 908 (nW c) (nW gn) (nW id) (zI b) p M8))) = f_X12_publish_J49 908 (nW c) (nW gn) (nW id) (zI b) p (QW N V s t') := fun N V s t' hk => by
          by_cases h0 : gn = 0
          · subst h0
            have d : nW 0 ≤ nW 0 := by decide
            simp only [r_in, hg, zI_t, bindP, z1n0, ↓reduceIte, d]
          · have hy' := hy.resolve_left h0
            have d : ¬ nW gn ≤ nW 0 := by rw [nW_le (by omega) (by omega)]; omega
            simp only [r_in, hg, hy', zI_t, bindP, z1n0, ↓reduceIte, d]
        by_cases hpp : inB p (nW 0) (nW 9999) = true
        · have cp := c_range p (nW 0) (nW 9999) M5
          rw [if_pos hpp] at cp
          have cn := c_conn hB5 hc
          rw [show oS (clr A (-nW 1)) = oS A from rfl] at cn
          cases hon : cB (gCl (oS A) c) 0 with
          | false =>
            rw [hon, if_neg (by decide)] at cn
            refine Op_refT 2 hB5 hW5 (eF.trans ?_) (fun N V s t' hk hR hQ => ?_)
            · simp only [f_X11_publish_J35, nW_lit, cp, cn, bindX]
            · have e := ref_isOn (N := N) (V := V) (t := t') hk hc (RfR_on hR hc).1
              rw [show oS (clr A (-nW 1)) = oS A from rfl, hon, zI_f] at e
              refine Eq.trans (b := f_X12_publish_J49 908 (nW c) (nW gn) (nW id) (zI b) p (QW N V s t')) ?_ ?_
              · have := eG N V s t' hk
                simp only [z1n0, ↓reduceIte]
                exact this
              · simp only [f_X12_publish_J49, nW_lit, r_in, hpp, zI_t, z1n0, ↓reduceIte, bindP, e, r_fails hk]; rfl
          | true =>
            have hta : (gTa (oS A)).1 < 512 := by have := hW.1.2.2.2.2; omega
            obtain ⟨M1, e1, F1, R1⟩ := pub_J35 (id := id) b hB5 hW.1.1 hc hgn hid hx pok ptop hta hpp hon
            have H := SgI_pubBy (id := id) (ret := b) (pay := p) hW.1 hX hc hgn hon pok ptop hta
            refine Op_S (nW (spPubBy (oS A) c gn id b p t).1) hB5 hW5 (M' := M1) (eF.trans e1) F1 (fun a h => h) R1 H.1 (fun c' _ => (H.2 c').1) (fun N V s t' hk hR hQ => ?_)
            have e := ref_isOn (N := N) (V := V) (t := t') hk hc (RfR_on hR hc).1
            rw [show oS (clr A (-nW 1)) = oS A from rfl, hon, zI_t] at e
            obtain ⟨V', s', t2, er, hE, R2⟩ := ref_publish (N := N) (V := V) (id := id) (pay := p) b hk hR.2.2.2.2.2.1 hW.1.1 hc hgn hid hQ.2.2 pok ptop hta hR.2.2.2.2.1
            refine ⟨V', s', t2, ?_, hE.vq, by rw [hE.1]; exact hQ.1, R2⟩
            refine Eq.trans (b := f_X12_publish_J49 908 (nW c) (nW gn) (nW id) (zI b) p (QW N V s t')) ?_ ?_
            · have := eG N V s t' hk
              simp only [z1n0, ↓reduceIte]
              exact this
            · by_cases g2 : gn = 2
              · subst g2
                rw [if_pos rfl] at er
                simp only [f_X12_publish_J49, nW_lit, r_in, hpp, zI_t, z1n0, ↓reduceIte, bindP, e, nW_mul, nW_add]
                exact er
              · have d : ¬ nW gn = nW 2 := by rw [nW_inj (by omega) (by omega)]; exact g2
                rw [if_neg g2] at er
                simp only [f_X12_publish_J49, nW_lit, r_in, hpp, zI_t, z1n0, ↓reduceIte, bindP, e, nW_mul, nW_add, d]
                exact er
        · have hp0 : inB p (nW 0) (nW 9999) = false := by simpa using hpp
          have cp := c_range p (nW 0) (nW 9999) M5
          rw [if_neg hpp] at cp
          refine Op_refT 1 hB5 hW5 (eF.trans ?_) (fun N V s t' hk hR hQ => ?_)
          · simp only [f_X11_publish_J35, nW_lit, cp, bindX]
          · refine Eq.trans (b := f_X12_publish_J49 908 (nW c) (nW gn) (nW id) (zI b) p (QW N V s t')) ?_ ?_
            · have := eG N V s t' hk
              simp only [z1n0, ↓reduceIte]
              exact this
            · simp only [f_X12_publish_J49, f_X12_publish_J61, nW_lit, r_in, hp0, zI_f, ↓reduceIte, bindP, r_fails hk]; rfl
      · have h0 : ¬ gn = 0 := fun h => hy (Or.inl h)
        have hy1 : ¬ inB y (nW 1) (nW 50) = true := fun h => hy (Or.inr h)
        have hy0 : inB y (nW 1) (nW 50) = false := by simpa using hy1
        rw [if_neg hy1] at cy
        have d : ¬ nW gn = nW 0 := by rw [nW_inj (by omega) (by omega)]; exact h0
        have d2 : ¬ nW gn ≤ nW 0 := by rw [nW_le (by omega) (by omega)]; omega
        refine Op_refT 1 hB5 hW5 ?_ (fun N V s t' hk hR hQ => ?_)
        · simp only [cg, bindX, d, ↓reduceIte, cy]
        · simp only [f_X12_publish_J61, z1n0, ↓reduceIte, r_in, hg, hy0, zI_t, zI_f, d2, nW_lit, r_fails hk, bindP]; rfl
    · rw [if_neg hg] at cg
      have hg0 : inB g (nW 0) (nW 2) = false := by simpa using hg
      refine Op_refT 1 hB5 hW5 ?_ (fun N V s t' hk hR hQ => ?_)
      · simp only [cg, bindX]
      · simp only [f_X12_publish_J61, z1n0, ↓reduceIte, r_in, hg0, zI_f, nW_lit, r_fails hk, bindP]; rfl
