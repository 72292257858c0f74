/-! PUBLISHING, in the class (behind the checks) -/
theorem St_sign {M : Mem} {S c : Nat} {σ : Sg} (kind id : Int32) (hZ : inZ S) (hR : StR M S σ) (hc : c < 6) : ∃ M', f_X7_sendSign S (S + 2 + 60 * c) kind id M = some M' ∧ Fr (SZ S) M M' ∧ StR M' S (putG σ c (spSignR (getG σ c) kind id)) := by
  have hC := hZ.s hc
  obtain ⟨M1, e, F, P⟩ := Pa_sign kind id hC (CR_pa (StR_get hR hc))
  have R1 := CR_of (Q := fun _ => False) (StR_get hR hc) (F.mono (fun a h => Or.inr h)).gr (fun _ _ _ h => h) hC P (Kp_send _ _)
  have F1 : Fr (CZ S (S + 2 + 60 * c)) M M1 := F.mono (fun a h => PaW_CZ h)
  exact ⟨M1, e, F1.mono (fun a h => CZ_SZ hc h), StR_put hR hc F1 R1⟩
/-- the broker's own parts -/
def BrO (M : Mem) : Prop := (mK M 0).1 = 11 ∧ mR M 0 5 = some 7 ∧ mR M 0 6 = some 8 ∧ (mK M 7).1 = 1
theorem BrO.fr {M M' : Mem} {P : Nat → Prop} (h : BrO M) (F : Fr P M M') (hP : ¬ P 0) : BrO M' := by
  obtain ⟨h1, h2, h3, h4⟩ := h
  have := F.2.2 0 (Or.inr hP)
  exact ⟨by rw [F.1]; exact h1, by rw [this.2.2.2]; exact h2, by rw [this.2.2.2]; exact h3, by rw [F.1]; exact h4⟩
theorem BrO_k {M : Mem} (h : BrO M) : gR 11 5 0 M = some 7 ∧ gR 11 6 0 M = some 8 := by
  obtain ⟨h1, h2, h3, h4⟩ := h
  simp only [gR, h1, h2, h3, ↓reduceIte, and_self]
theorem B_ack {M : Mem} {c g id : Nat} {σ : Sg} (v : Int32) (hB : BrO M) (hR : StR M 8 σ) (hc : c < 6) (hg : g ≤ 2) (hid : 1 ≤ g → 1 ≤ id ∧ id ≤ 50) : ∃ M', f_X11_publish_J124 0 (nW g) (nW id) (8 + 2 + 60 * c) v M = some (.inl v, M') ∧ Fr (SZ 8) M M' ∧ StR M' 8 (spAck σ c g id) := by
  have hZ : inZ 8 := ⟨by omega, by omega⟩
  obtain ⟨b5, b6⟩ := BrO_k hB
  have d12 : ¬ nW 1 = nW 2 := by decide
  have d02 : ¬ nW 0 = nW 2 := by decide
  have d01 : ¬ nW 0 = nW 1 := by decide
  unfold spAck
  have h012 : g = 0 ∨ g = 1 ∨ g = 2 := by omega
  rcases h012 with rfl | rfl | rfl
  · rw [if_pos rfl]
    exact ⟨M, by simp only [f_X11_publish_J124, nW_lit, d02, d01, ↓reduceIte], Fr.refl _ _, hR⟩
  · rw [if_neg (by decide), if_neg (by decide)]
    obtain ⟨M1, e1, F1, R1⟩ := St_sign (nW 1) (nW id) hZ hR hc
    exact ⟨M1, by simp only [f_X11_publish_J124, nW_lit, d12, ↓reduceIte, b6, Option.bind_some, e1], F1, R1⟩
  · rw [if_neg (by decide), if_pos rfl]
    obtain ⟨i1, i2⟩ := hid (by omega)
    have k2 := (CR_k (StR_get hR hc)).2.1
    obtain ⟨M1, e1, F1, R1⟩ := Cl_keep (hZ.c hc) (hR.2.1 c hc) i1 i2
    obtain ⟨H1, F1'⟩ := St_cl hR hc F1 (fun a h => by omega) R1
    obtain ⟨M2, e2, F2, R2⟩ := St_sign (nW 2) (nW id) hZ H1 hc
    rw [getG_putG, putG_putG] at R2
    have b6' := (BrO_k (hB.fr F1' (by unfold SZ; omega))).2
    exact ⟨M2, by simp only [f_X11_publish_J124, nW_lit, ↓reduceIte, k2, Option.bind_some, e1, b6', e2], F1'.trans F2, R2⟩
theorem B_publish {M : Mem} {c g id x : Nat} {σ : Sg} {pay : Int32} {t : Txt} (ret : Bool) (hB : BrO M) (hR : StR M 8 σ) (hS : SI σ) (hc : c < 6) (hg : g ≤ 2) (hid : 1 ≤ g → 1 ≤ id ∧ id ≤ 50) (hx : TextR M x t) (ht : okTx t) (htop : topical t) (hta : (gTa σ).1 < 512) (hnew : ¬ (g = 2 ∧ cK (gCl σ c) id = true)) : ∃ M', f_X11_publish_J96 0 (nW c) (nW g) (nW id) (zI ret) pay x (8 + 2 + 60 * c) M = some (.inl (nW (spPubBy σ c g id ret pay t).1), M') ∧ Fr (fun a => a = 7 ∨ SZ 8 a) M M' ∧ StR M' 8 (spPubBy σ c g id ret pay t).2 := by
  have hZ : inZ 8 := ⟨by omega, by omega⟩
  obtain ⟨b5, b6⟩ := BrO_k hB
  unfold spPubBy
  rw [if_neg hnew]
  obtain ⟨M1, e1, F1, R1⟩ := X1_fill (nW g) pay hB.2.2.2 hx (show ¬ tz 7 by simp only [tz]; omega)
  have hR1 : StR M1 8 σ := hR.gr F1.gr (fun a h hh => by unfold SZ at h; omega)
  have hB1 := hB.fr F1 (by omega)
  obtain ⟨b5', b6'⟩ := BrO_k hB1
  have G1 : MG M1 8 σ 7 (msg t (nW g) pay (nW 0)) := ⟨R1, Or.inl (by unfold SZ; omega)⟩
  obtain ⟨M2, e2, F2, R2⟩ := St_spread (by' := c) ret hZ hR1 hS G1 ht htop ⟨g, hg, rfl⟩ hc hta
  have hB2 := hB1.fr F2 (by unfold SZ; omega)
  obtain ⟨M3, e3, F3, R3⟩ := B_ack (nW (spPubl σ (msg t (nW g) pay (nW 0)) ret c).2) hB2 R2 hc hg hid
  refine ⟨M3, ?_, (F1.mono (fun a h => Or.inl h)).trans ((F2.trans F3).mono (fun a h => Or.inr h)), R3⟩
  simp only [f_X11_publish_J96, b5, b5', b6', Option.bind_some, e1, e2, bindP, e3]
