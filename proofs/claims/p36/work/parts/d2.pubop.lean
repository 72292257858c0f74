/-! PUBLISH -/
theorem nW_any (x : Int32) : ∃ n, x = nW n := ⟨x.toBitVec.toNat, (Int32.ofNat_bitVecToNat x.toBitVec).symm⟩
theorem ack_f (σ : Sg) (c g id : Nat) : NL σ (spAck σ c g id) ∧ gTa (spAck σ c g id) = gTa σ ∧ ∀ c', cB (gCl (spAck σ c g id) c') = cB (gCl σ c') := by
  unfold spAck
  split
  · exact ⟨NL.refl σ, rfl, fun _ => rfl⟩
  · have sm := sign_same (gSc σ, if g = 2 then spKeep (gCl σ c) id else gCl σ c) (nW g) (nW id)
    have e : cB (if g = 2 then spKeep (gCl σ c) id else gCl σ c) = cB (gCl σ c) ∧ cL (if g = 2 then spKeep (gCl σ c) id else gCl σ c) = cL (gCl σ c) ∧ cF (if g = 2 then spKeep (gCl σ c) id else gCl σ c) = cF (gCl σ c) := by
      split
      · exact ⟨rfl, rfl, rfl⟩
      · exact ⟨rfl, rfl, rfl⟩
    refine ⟨NL_put (sm.2.2.2.1.trans e.2.2) (Or.inl (sm.2.2.1.trans (congrFun e.2.1 3))), rfl, fun c' => ?_⟩
    have ecl : ∀ gg : GS, gCl (putG σ c gg) c' = if c' = c then gg.2 else gCl σ c' := fun _ => rfl
    rw [ecl]
    by_cases hcc : c' = c
    · subst hcc; rw [if_pos rfl]; exact sm.1.trans e.1
    · rw [if_neg hcc]
theorem SgI_ack {k : Nat} {σ : Sg} {c g id : Nat} (h : SgI k σ) (hc : c < 6) (hon : cB (gCl σ c) 0 = true) : SgI k (spAck σ c g id) := by
  obtain ⟨f1, f2, f3⟩ := ack_f σ c g id
  exact ⟨SI_ack h.1 hc hon, Pe_B h.2.1 (fun c' _ _ _ => f3 c'), fun c' hc' => by rw [(f1 c').1]; exact h.2.2.1 c' hc', f1.ne h.2.2.2.1, by rw [f2]; exact h.2.2.2.2⟩
theorem BrR_O {M : Mem} {A : Wh} (h : BrR M A) : BrO M := ⟨h.1.1, h.1.2.2.2.1, h.1.2.2.2.2.1, h.2.2.2.2.1⟩
theorem pub_J35 {M : Mem} {A : Wh} {c g id x : Nat} {p : Int32} {t : Txt} (ret : Bool) (hB : BrR M A) (hS : SI (oS A)) (hc : c < 6) (hg : g ≤ 2) (hid : 1 ≤ g → 1 ≤ id ∧ id ≤ 50) (hx : TextR M x t) (ht : okTx t) (htop : topical t) (hta : (gTa (oS A)).1 < 512) (hp : inB p (nW 0) (nW 9999) = true) (hon : cB (gCl (oS A) c) 0 = true) : ∃ M', f_X11_publish_J35 0 (nW c) (nW g) (nW id) (zI ret) p x M = some (.inl (nW (spPubBy (oS A) c g id ret p t).1), M') ∧ Fr (fun a => a = 7 ∨ SZ 8 a) M M' ∧ StR M' 8 (spPubBy (oS A) c g id ret p t).2 := by
  have cp := c_range p (nW 0) (nW 9999) M
  rw [if_pos hp] at cp
  have cn := c_conn hB hc
  rw [hon, if_pos rfl] at cn
  have k2 := (BrR_k hB).2.1
  obtain ⟨r1, r2, r3, r4, r5⟩ := BrR_c hB hc
  have hSt := hB.2.2.2.2.2.2
  have hO := BrR_O hB
  have hZ : inZ 8 := ⟨by omega, by omega⟩
  by_cases g2 : g = 2
  · obtain ⟨i1, i2⟩ := hid (by omega)
    have ek := Cl_keeps (hSt.2.1 c hc) (show id < 51 by omega)
    cases hb : cK (gCl (oS A) c) id with
    | false =>
      obtain ⟨M', e, F, R⟩ := B_publish ret hO hSt hS hc hg hid hx ht htop hta (pay := p) (fun h => by rw [hb] at h; cases h.2)
      refine ⟨M', ?_, F, R⟩
      rw [hb, zI_f] at ek
      subst g2
      simp only [f_X11_publish_J35, nW_lit, cp, cn, bindX, k2, r1, r2, r4, Option.bind_some, ↓reduceIte, ek, bindP]
      exact e
    | true =>
      rw [hb, zI_t] at ek
      obtain ⟨t1, t2, M1, t3, F1, R1, _⟩ := StR_inc hZ hSt (i := 3) (by omega)
      have hO1 := hO.fr F1 (by unfold SZ; omega)
      obtain ⟨M2, e2, F2, R2⟩ := B_ack (nW 0) hO1 R1 hc hg hid
      have es : spPubBy (oS A) c g id ret p t = (0, spAck (uSc (oS A) (tot (gSc (oS A)) 3)) c g id) := by
        unfold spPubBy; rw [if_pos ⟨g2, hb⟩]
      rw [es]
      refine ⟨M2, ?_, (F1.trans F2).mono (fun a h => Or.inr h), R2⟩
      subst g2
      simp only [f_X11_publish_J35, nW_lit, cp, cn, bindX, k2, r1, r2, r4, Option.bind_some, ↓reduceIte, ek, bindP, z1n0, t1, t2, t3]
      exact e2
  · obtain ⟨M', e, F, R⟩ := B_publish ret hO hSt hS hc hg hid hx ht htop hta (pay := p) (fun h => g2 h.1)
    refine ⟨M', ?_, F, R⟩
    have d : ¬ nW g = nW 2 := by rw [nW_inj (by omega) (by omega)]; exact g2
    simp only [f_X11_publish_J35, nW_lit, cp, cn, bindX, k2, r1, r2, Option.bind_some, d, ↓reduceIte]
    exact e
