/-! PUBLISHING, in the reference (behind the checks) -/
def spAck (σ : Sg) (c g id : Nat) : Sg := if g = 0 then σ else putG σ c (spSignR (gSc σ, if g = 2 then spKeep (gCl σ c) id else gCl σ c) (nW g) (nW id))
def spPubBy (σ : Sg) (c g id : Nat) (ret : Bool) (pay : Int32) (x : Txt) : Nat × Sg := if g = 2 ∧ cK (gCl σ c) id = true then (0, spAck (uSc σ (tot (gSc σ) 3)) c g id) else ((spPubl σ (msg x (nW g) pay (nW 0)) ret c).2, spAck (spPubl σ (msg x (nW g) pay (nW 0)) ret c).1 c g id)
theorem SI_keep {σ : Sg} {c i : Nat} (h : SI σ) (hc : c < 6) (hex : cB (gCl σ c) 3 = true) : SI (putG σ c (gSc σ, spKeep (gCl σ c) i)) := by
  refine SI_put h hc (GI_K (h.1.2 c hc) hex) (fun _ _ _ => rfl) rfl ?_
  have := h.2.2.2.2.2.2 c hc
  exact this
theorem SI_sign {σ : Sg} {c : Nat} (kind id : Int32) (h : SI σ) (hc : c < 6) (hon : cB (gCl σ c) 0 = true) : SI (putG σ c (spSignR (getG σ c) kind id)) := by
  unfold spSignR
  refine SI_put h hc (GI_send (h.1.2 c hc) top_nil hon) (fun i h1 h2 => spSend_sc _ _ (by omega)) (spSend_L _ _ (by decide)) ?_
  have := h.2.2.2.2.2.2 c hc
  unfold WiOk at this ⊢
  rw [spSend_B, spSend_W]; exact this
theorem SI_ack {σ : Sg} {c g id : Nat} (h : SI σ) (hc : c < 6) (hon : cB (gCl σ c) 0 = true) : SI (spAck σ c g id) := by
  have hex := (h.1.2 c hc).2.2.1 hon
  unfold spAck
  split
  · exact h
  · by_cases g2 : g = 2
    · rw [if_pos g2]
      have h2 := SI_sign (nW g) (nW id) (SI_keep (i := id) h hc hex) hc (by rw [gCl_putG]; exact hon)
      rw [getG_putG, putG_putG] at h2
      exact h2
    · rw [if_neg g2]
      exact SI_sign (nW g) (nW id) h hc hon
theorem ref_ack {N : Mem} {V : VR} {s : Nat → Int32} {t : Nat → Int64} {σ : Sg} {c g id : Nat} (v : Int32) (hk : KR N) (hR : RSt s t σ) (hc : c < 6) (hg : g ≤ 2) (hid : 1 ≤ g → 1 ≤ id ∧ id ≤ 50) (h0 : TB (V.2.1 10) 0 []) : ∃ s' t', f_X12_publish_J171 908 (nW c) (nW g) (nW id) (nW (104 + 51 * c + if g = 2 then id else 0)) v (QW N V s t) = some (v, QW N V s' t') ∧ RSt s' t' (spAck σ c g id) := by
  unfold spAck
  by_cases g0 : g = 0
  · subst g0
    rw [if_pos rfl]
    refine ⟨s, t, ?_, hR⟩
    have d : ¬ nW 0 = nW 2 := by decide
    simp (disch := omega) only [f_X12_publish_J171, f_X12_publish_J184, nW_lit, d, nW_le, Nat.le_refl, ↓reduceIte]
  · rw [if_neg g0]
    have gz : ¬ g ≤ 0 := by omega
    by_cases g2 : g = 2
    · subst g2
      obtain ⟨i1, i2⟩ := hid (by omega)
      rw [if_pos rfl, if_pos rfl]
      obtain ⟨G1, F1⟩ := RG_K true hc (RSt_get hR hc) (show id < 51 by omega)
      have H1 := RSt_put hR G1 F1 (Ft.refl _ _) hc
      obtain ⟨s2, t2, e2, G2, F2, Ft2⟩ := ref_answers (N := N) (V := V) (nW 2) (nW id) hk hc G1 h0
      have H2 := RSt_put H1 G2 F2 Ft2 hc
      rw [putG_putG] at H2
      refine ⟨s2, t2, ?_, H2⟩
      rw [zI_t, ← Nat.add_assoc] at e2
      simp (disch := omega) only [f_X12_publish_J171, f_X12_publish_J184, q_k hk, q_gR1 hk, q_gR2 hk, q_gR8 hk, q_gR11 hk, q_gR13 hk, q_gR14 hk, q_gR15 hk, q_gR16 hk, q_gI hk, q_pI hk, q_a hk, q_w hk, q_l hk, nW_add, nW_mul, nW_sub, nW_le, nW_lt, nW_inj, irem_nW, ix_nW, nW_lit, ↓reduceIte, Option.bind_some, Nat.reduceLeDiff, e2]
    · rw [if_neg g2, if_neg g2]
      obtain ⟨s2, t2, e2, G2, F2, Ft2⟩ := ref_answers (N := N) (V := V) (nW g) (nW id) hk hc (RSt_get hR hc) h0
      refine ⟨s2, t2, ?_, RSt_put hR G2 F2 Ft2 hc⟩
      have d : ¬ nW g = nW 2 := by rw [nW_inj (by omega) (by omega)]; exact g2
      simp (disch := omega) only [f_X12_publish_J171, f_X12_publish_J184, q_k hk, q_gR1 hk, q_gR2 hk, q_gR8 hk, q_gR11 hk, q_gR13 hk, q_gR14 hk, q_gR15 hk, q_gR16 hk, q_gI hk, q_pI hk, q_a hk, q_w hk, q_l hk, nW_add, nW_mul, nW_sub, nW_le, nW_lt, nW_inj, irem_nW, ix_nW, nW_lit, d, gz, ↓reduceIte, Option.bind_some, e2]
theorem ref_publish {N : Mem} {V : VR} {s : Nat → Int32} {t : Nat → Int64} {σ : Sg} {c g id : Nat} {pay : Int32} {x : Txt} (ret : Bool) (hk : KR N) (hR : RSt s t σ) (hS : SI σ) (hc : c < 6) (hg : g ≤ 2) (hid : 1 ≤ g → 1 ≤ id ∧ id ≤ 50) (hT : TB (V.2.1 8) 0 x) (hx : okTx x) (htop : topical x) (hta : (gTa σ).1 < 512) (h0 : TB (V.2.1 10) 0 []) : ∃ V' s' t', f_X12_publish_J98 908 (nW c) (nW g) (nW id) (zI ret) pay (nW (if g = 2 then id else 0)) (nW (104 + 51 * c)) (QW N V s t) = some (nW (spPubBy σ c g id ret pay x).1, QW N V' s' t') ∧ VE V V' ∧ RSt s' t' (spPubBy σ c g id ret pay x).2 := by
  have t1 : ¬ nW 1 = nW 0 := by decide
  have t2 : ¬ nW 0 = nW 1 := by decide
  -- the message is new
  have fresh : ¬ (g = 2 ∧ cK (gCl σ c) id = true) → ∃ V' s' t', f_X12_publish_J122 908 (nW c) (nW g) (nW id) (zI ret) pay (nW (104 + 51 * c + if g = 2 then id else 0)) (nW 0) (QW N V s t) = some (nW (spPubBy σ c g id ret pay x).1, QW N V' s' t') ∧ VE V V' ∧ RSt s' t' (spPubBy σ c g id ret pay x).2 := by
    intro hn
    unfold spPubBy
    rw [if_neg hn]
    have hT9 : TB ((vB V 9 0 (fun i => V.2.1 8 (0 + i))).2.1 9) 0 x := by rw [vB_1]; exact TB.blk hT
    have h0' : TB ((vB V 9 0 (fun i => V.2.1 8 (0 + i))).2.1 10) 0 [] := by rw [vB_o _ _ _ (by omega)]; exact h0
    obtain ⟨s1, t1', e1, R1, S1, n42⟩ := ref_publishes (N := N) (V := vB V 9 0 (fun i => V.2.1 8 (0 + i))) (r := msg x (nW g) pay (nW 0)) (by' := c) ret hk hR hS hT9 hx htop ⟨g, hg, rfl⟩ hc hta
    obtain ⟨s2, t2', e2, R2⟩ := ref_ack (N := N) (V := vB V 9 0 (fun i => V.2.1 8 (0 + i))) (nW (spPubl σ (msg x (nW g) pay (nW 0)) ret c).2) hk R1 hc hg hid h0'
    refine ⟨vB V 9 0 (fun i => V.2.1 8 (0 + i)), s2, t2', ?_, VE_9 V 0 _, R2⟩
    have e1' : f_X12_publishes 908 (nW c) (nW g) (zI ret) pay (QW N (vB V 9 0 (fun i => V.2.1 8 (0 + i))) s t) = some (nW (spPubl σ (msg x (nW g) pay (nW 0)) ret c).2, QW N (vB V 9 0 (fun i => V.2.1 8 (0 + i))) s1 t1') := e1
    simp (disch := omega) only [f_X12_publish_J122, q_k hk, q_gR1 hk, q_gR2 hk, q_gR8 hk, q_gR11 hk, q_gR13 hk, q_gR14 hk, q_gR15 hk, q_gR16 hk, q_gI hk, q_pI hk, q_a hk, q_w hk, q_l hk, nW_add, nW_mul, nW_sub, nW_le, nW_lt, nW_inj, irem_nW, ix_nW, nW_lit, ↓reduceIte, Option.bind_some, q_mv89 hk, e1', bindP, e2]
  by_cases g2 : g = 2
  · obtain ⟨i1, i2⟩ := hid (by omega)
    have hK : s (104 + 51 * c + id) = zI (cK (gCl σ c) id) := by
      rw [Nat.add_assoc]; exact (RSt_get hR hc).2.2.2.2.2.1 id i1 (by omega)
    cases hb : cK (gCl σ c) id with
    | false =>
      obtain ⟨V', s', t', e, W, R⟩ := fresh (fun h => by rw [hb] at h; cases h.2)
      refine ⟨V', s', t', ?_, W, R⟩
      rw [hb, zI_f] at hK
      subst g2
      rw [if_pos rfl] at e ⊢
      simp (disch := omega) only [f_X12_publish_J98, f_X12_publish_J121, q_k hk, q_gR1 hk, q_gR2 hk, q_gR8 hk, q_gR11 hk, q_gR13 hk, q_gR14 hk, q_gR15 hk, q_gR16 hk, q_gI hk, q_pI hk, q_a hk, q_w hk, q_l hk, nW_add, nW_mul, nW_sub, nW_le, nW_lt, nW_inj, irem_nW, ix_nW, nW_lit, t2, ↓reduceIte, Option.bind_some, hK, e]
    | true =>
      have es : spPubBy σ c g id ret pay x = (0, spAck (uSc σ (tot (gSc σ) 3)) c g id) := by
        unfold spPubBy; rw [if_pos ⟨g2, hb⟩]
      have H1 := RSt_tot hR (i := 3) (by omega)
      obtain ⟨s2, t2', e2, R2⟩ := ref_ack (N := N) (V := V) (nW 0) hk H1 hc hg hid h0
      rw [es]
      refine ⟨V, s2, t2', ?_, VE.refl _, R2⟩
      rw [hb, zI_t] at hK
      subst g2
      rw [if_pos rfl] at e2 ⊢
      simp (disch := omega) only [f_X12_publish_J98, f_X12_publish_J122, q_k hk, q_gR1 hk, q_gR2 hk, q_gR8 hk, q_gR11 hk, q_gR13 hk, q_gR14 hk, q_gR15 hk, q_gR16 hk, q_gI hk, q_pI hk, q_a hk, q_w hk, q_l hk, nW_add, nW_mul, nW_sub, nW_le, nW_lt, nW_inj, irem_nW, ix_nW, nW_lit, t1, ↓reduceIte, Option.bind_some, hK]
      exact e2
  · obtain ⟨V', s', t', e, W, R⟩ := fresh (fun h => g2 h.1)
    refine ⟨V', s', t', ?_, W, R⟩
    have d : ¬ nW g = nW 2 := by rw [nW_inj (by omega) (by omega)]; exact g2
    rw [if_neg g2] at e ⊢
    simp (disch := omega) only [f_X12_publish_J98, f_X12_publish_J121, nW_add, nW_mul, nW_sub, nW_le, nW_lt, nW_inj, irem_nW, ix_nW, nW_lit, d, ↓reduceIte, e]
