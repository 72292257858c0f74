/-! PUBLISHED, AUDIENCE, SHARES, WILLS, UNSUBSCRIBE -/
theorem Op_refT {cd : Nat → Nat} {k : Nat} {M : Mem} {A : Wh} {Q : VR → Prop} {f : Mem → Option ((Int32 ⊕ Nat) × Mem)} {g : Mem → Option (Int32 × Mem)} (x : Nat) (hB : BrR M A) (hW : WI k A) (e : f M = some (.inr x, xM M)) (eR : ∀ N V s t, KR N → RfR V s t A → Q V → g (QW N V s t) = some (nW 0, QW N (vI V 0 0 (nW (cd x))) s t)) (h9 : cd x < 9 := by decide) : OpAt 1 cd k M A Q f g :=
  Op_ref x (Nat.le_refl _) hB hW e (fun N V s t hk hR hQ => ⟨_, eR N V s t hk hR hQ, VQ_0 V _, vI_00 _ _⟩) h9
theorem Op_tellT {cd : Nat → Nat} {k : Nat} {M : Mem} {A : Wh} {tx : Txt} {f : Mem → Option ((Int32 ⊕ Nat) × Mem)} {g : Mem → Option (Int32 × Mem)} (v : Int32) (hB : BrR M A) (hW : WI k A) (e : f M = some (.inl v, M)) (eR : ∀ N V s t, KR N → RfR V s t A → QT tx V → g (QW N V s t) = some (v, QW N V s t)) : OpAt 1 cd k M A (QT tx) f g :=
  Op_read v hB hW e (fun N V s t hk hR hQ => ⟨V, eR N V s t hk hR hQ, VQ.refl V, hQ.1⟩)
theorem posI_m1 {o : Option Nat} (h : ∀ i, o = some i → i < 1000000) : (posI o = -nW 1) = (o = none) := by
  cases o with
  | none => simp [posI]
  | some k =>
    have hk := h k rfl
    have ne : ¬ posI (some k) = -nW 1 := nW_neg (by omega) (by omega) (by omega)
    simp [ne]
theorem Op_published : OpOK (cdA 1) (f_X11_published 0) (f_X12_published 908) := by
  intro k M A hk5 hB hF hN hW hX
  have k1 := hB.1.1
  refine Op_text0 (F := fun v4 M3 => (gR 11 6 0 M3).bind (fun v5 => (gR 7 8 v5 M3).bind (fun v6 => bindP (f_X9_placeOf v6 v4 M3) (fun v8 M7 => if nW 0 ≤ v8 then (gR 11 6 0 M7).bind (fun v9 => (gR 7 8 v9 M7).bind (fun v10 => (gR 9 1 v10 M7).bind (fun v11 => (aI 13 v11 v8 M7).bind (fun v12 => some (.inl v12, M7))))) else some (.inl (nW 0), M7))))) (G := fun v3 M2 => if v3 = nW 0 then bindP (f_X12_fails 908 (nW 1) M2) (fun v5 M4 => some (v5, M4)) else (gR 12 11 908 M2).bind (fun v4 => bindP (f_X12_publishedAt 908 v4 (nW 0) M2) (fun v6 M5 => if v6 = (-1 : Int32) then some (nW 0, M5) else (gR 12 1 908 M5).bind (fun v7 => (aI 13 v7 (nW 2118 + v6) M5).bind (fun v8 => some (v8, M5)))))) false hB hF hN hW ?_ (fun N V s t hk => ?_) (fun N V s t hk => ?_) (fun t x' M5 hp hx hB5 => ?_)
  · have e1 : ∀ v M', (mK M' 0).1 = 11 → f_X11_readTopic 0 v M' = f_X11_readText 0 v (zI false) M' := fun v M' h => c_topic h v
    obtain ⟨M1, ek, F1, B1, _⟩ := c_take hB
    simp only [f_X11_published, k1, ↓reduceIte, ek, bindP, e1 _ _ B1.1.1, nW_lit]
    try rfl
  · simp only [f_X12_published, q_k hk, ↓reduceIte, q_pI hk, Option.bind_some, nW_lit, zI_f]
    try rfl
  · simp only [↓reduceIte, r_fails hk, bindP]; rfl
  · obtain ⟨_, _, _, pok, ptop⟩ := parse_ok hp
    have hW5 := WI_clr hW (-nW 1)
    have k2 := (BrR_k hB5).2.1
    obtain ⟨_, _, _, _, s8, _⟩ := StR_k hB5.2.2.2.2.2.2
    have hTa := hB5.2.2.2.2.2.2.2.2.2.2
    have ep := X9_placeOf hTa hx
    have l512 : (gTa (oS A)).1 ≤ 512 := hTa.2.2.2.2.1
    have RR : ∀ N V s t', KR N → RfR V s t' (clr A (-nW 1)) → QT t V → f_X12_publishedAt 908 916 (nW 0) (QW N V s t') = some (posI (taAt (gTa (oS A)) t), QW N V s t') := fun N V s t' hk hR hQ => by
      have := ref_publishedAt (N := N) (V := V) (s := s) (t := t') (ka := 8) hk l512 hR.2.2.2.2.2.1.2.2.2.2.1 hW.1.1.2.2.2.2.2.1 hQ.2.2 pok (by omega) rfl (by omega)
      exact this
    cases ht : taAt (gTa (oS A)) t with
    | none =>
      rw [show oS (clr A (-nW 1)) = oS A from rfl, ht] at ep
      have n0 : ¬ nW 0 ≤ -nW 1 := by decide
      refine Op_tellT (nW 0) hB5 hW5 ?_ (fun N V s t' hk hR hQ => ?_)
      · simp only [k2, s8, Option.bind_some, ep, bindP, posI, n0, ↓reduceIte]
      · have e := RR N V s t' hk hR hQ
        rw [ht] at e
        simp only [z1n0, ↓reduceIte, q_gR8 hk, q_gR11 hk, Option.bind_some, e, bindP, posI, lit_m1i]
    | some j =>
      rw [show oS (clr A (-nW 1)) = oS A from rfl, ht] at ep
      obtain ⟨hj, hj2⟩ := taAt_some ht
      have n0 : nW 0 ≤ nW j := by rw [nW_le (by omega) (by omega)]; omega
      have nm : ¬ nW j = -nW 1 := nW_neg (by omega) (by omega) (by omega)
      have g9 : gR 9 1 (8 + 446) M5 = some (8 + 446 + 2) := by
        have := hTa.1
        simp only [gR, this.1, ↓reduceIte, this.2.2]
      have ga : aI 13 (8 + 446 + 2) (nW j) M5 = some ((gTa (oS A)).2 j).2 := by
        have h1 := hTa.2.2.1
        have h2 : mI M5 (8 + 446 + 2) j = ((gTa (oS A)).2 j).2 := hTa.2.2.2.2.2.2 j hj
        simp (disch := omega) only [aI, h1, ↓reduceIte, ix_nW, Option.map_some, h2]
      refine Op_tellT ((gTa (oS A)).2 j).2 hB5 hW5 ?_ (fun N V s t' hk hR hQ => ?_)
      · simp only [k2, s8, Option.bind_some, ep, bindP, posI, n0, ↓reduceIte, g9, ga]
      · have e := RR N V s t' hk hR hQ
        rw [ht] at e
        have e2 : s (2118 + j) = ((gTa (oS A)).2 j).2 := (hR.2.2.2.2.2.1.2.2.2.2.1.2 j hj).1
        simp (disch := omega) only [z1n0, ↓reduceIte, q_k hk, q_gR1 hk, q_gR2 hk, q_gR8 hk, q_gR11 hk, q_gR13 hk, q_gR14 hk, q_gR15 hk, q_gR16 hk, q_gI hk, q_pI hk, q_a hk, q_w hk, q_l hk, Option.bind_some, e, bindP, posI, lit_m1i, nm, nW_add, e2]
/-! audience -/
def auC (σ : Sg) (t : Txt) (by' : Nat) : Nat → Nat → Nat → Nat
  | 0, _, k => k
  | n + 1, c, k => auC σ t by' n (c + 1) (if spBest (cL (gCl σ c) 3) t (decide (c = by')) = -nW 1 then k else k + 1)
def auH (σ : Sg) (t : Txt) : Nat → Nat → Nat → Nat
  | 0, _, k => k
  | n + 1, h, k => auH σ t n (h + 1) (if spMatch ((gSh σ).getD h shD).1 t = true then k + 1 else k)
theorem auC_le (σ : Sg) (t : Txt) (by' : Nat) : ∀ n c k, auC σ t by' n c k ≤ k + n
  | 0, _, k => Nat.le_refl _
  | n + 1, c, k => by
    have := auC_le σ t by' n (c + 1) (if spBest (cL (gCl σ c) 3) t (decide (c = by')) = -nW 1 then k else k + 1)
    rw [auC]
    split at this <;> rename_i h <;> simp only [h, ↓reduceIte] <;> omega
theorem c_au_L52 {M : Mem} {x : Nat} {t : Txt} {σ : Sg} (hR : StR M 8 σ) (hx : TextR M x t) : ∀ n h k, h ≤ (gSh σ).length → (gSh σ).length - h < n → k ≤ 1000 + h → f_X7_countAudience_L52 n 8 x (nW k) (nW h) M = some (nW (auH σ t ((gSh σ).length - h) h k), M)
  | 0, h, k, _, hn, _ => absurd hn (by omega)
  | n + 1, h, k, hh, hn, hk => by
    obtain ⟨k0, k1, k2, k4, k8, k3, k5, kc⟩ := StR_k hR
    have l36 : (gSh σ).length ≤ 36 := hR.2.2.1.2.1
    by_cases he : h = (gSh σ).length
    · subst he
      rw [Nat.sub_self, auH]
      simp (disch := omega) only [f_X7_countAudience_L52, k3, Option.bind_some, nW_le, Nat.le_refl, ↓reduceIte]
    · have n1 : ¬ (gSh σ).length ≤ h := by omega
      have n36 : ¬ 36 ≤ h := by omega
      obtain ⟨a, ea, _, hK, hV, _⟩ := ShsR_at hR.2.2.1 (show h < (gSh σ).length by omega)
      obtain ⟨_, _, _, ⟨y, ey, hy⟩, _⟩ := hV
      have gy : gR 6 0 a M = some y := by simp only [gR, hK.1, ↓reduceIte, ey]
      have ih := fun k' hk' => c_au_L52 hR hx n (h + 1) k' (by omega) (by omega) hk'
      rw [show (gSh σ).length - h = ((gSh σ).length - (h + 1)) + 1 by omega, auH]
      cases hm : spMatch ((gSh σ).getD h shD).1 t with
      | true =>
        have em := X10_matches hy hx
        rw [hm, zI_t] at em
        simp (disch := omega) only [f_X7_countAudience_L52, k3, k2, Option.bind_some, nW_le, nW_lit, n1, n36, ↓reduceIte, ea, gy, em, bindP, z1n0, nW_add, ih (k + 1) (by omega)]
      | false =>
        have em := X10_matches hy hx
        rw [hm, zI_f] at em
        simp (disch := omega) only [f_X7_countAudience_L52, k3, k2, Option.bind_some, nW_le, nW_lit, n1, n36, ↓reduceIte, ea, gy, em, bindP, nW_add, ih k (by omega), Bool.false_eq_true]
theorem c_au_L5 {M : Mem} {x by' : Nat} {t : Txt} {σ : Sg} (hR : StR M 8 σ) (hS : SI σ) (hx : TextR M x t) (hby : by' < 6) : ∀ n c k, c ≤ 6 → 6 - c < n → k ≤ c → f_X7_countAudience_L5 n 8 (nW by') x (nW k) (nW c) M = some (nW (auH σ t (gSh σ).length 0 (auC σ t by' (6 - c) c k)), M)
  | 0, c, k, _, hn, _ => absurd hn (by omega)
  | n + 1, c, k, hc, hn, hk => by
    obtain ⟨k0, k1, k2, k4, k8, k3, k5, kc⟩ := StR_k hR
    have l36 : (gSh σ).length ≤ 36 := hR.2.2.1.2.1
    by_cases he : c = 6
    · subst he
      have := c_au_L52 hR hx FU 0 k (by omega) (by simp only [FU]; omega) (by omega)
      rw [Nat.sub_zero] at this
      rw [Nat.sub_self, auC]
      simp (disch := omega) only [f_X7_countAudience_L5, nW_lit, nW_le, Nat.le_refl, ↓reduceIte, this]
    · have n6 : ¬ 6 ≤ c := by omega
      have hc6 : c < 6 := by omega
      have hCl := hR.2.1 c hc6
      have k5' := (CR_k (StR_get hR hc6)).2.1
      have eg := X5_greatest (decide (c = by')) hCl.2.2.2.1 hCl.2.2.2.2.2.1 hx
      have ih := fun k' hk' => c_au_L5 hR hS hx hby n (c + 1) k' (by omega) (by omega) hk'
      rw [show 6 - c = (6 - (c + 1)) + 1 by omega, auC]
      have J : f_X7_countAudience_L5 (n + 1) 8 (nW by') x (nW k) (nW c) M = f_X7_countAudience_J34 (f_X7_countAudience_L5 n) 8 (nW by') x (nW k) (nW c) (zI (decide (c = by'))) x (8 + 2 + 60 * c + 34) M := by
        by_cases hb : c = by'
        · subst hb
          simp (disch := omega) only [f_X7_countAudience_L5, nW_lit, nW_le, n6, ↓reduceIte, k1, kc c hc6, k5', Option.bind_some, decide_true, zI_t]
        · simp (disch := omega) only [f_X7_countAudience_L5, nW_lit, nW_le, n6, ↓reduceIte, k1, kc c hc6, k5', Option.bind_some, nW_inj, hb, decide_false, zI_f]
      rw [J]
      rcases spBest_val t (decide (c = by')) (hS.2.1 c hc6).1 with hb | ⟨q, hq, hb⟩
      · have lt0 : -nW 1 < nW 0 := by decide
        rw [hb] at eg ⊢
        simp (disch := omega) only [f_X7_countAudience_J34, eg, bindP, nW_lit, lt0, ↓reduceIte, nW_add, ih k (by omega)]
      · have lt0 : ¬ nW q < nW 0 := by rw [nW_lt (by omega) (by omega)]; omega
        have nm : ¬ nW q = -nW 1 := nW_neg (by omega) (by omega) (by omega)
        rw [hb] at eg ⊢
        simp (disch := omega) only [f_X7_countAudience_J34, eg, bindP, nW_lit, lt0, nm, ↓reduceIte, nW_add, ih (k + 1) (by omega)]
theorem r_au_L94 {N : Mem} {V : VR} {s : Nat → Int32} {t : Nat → Int64} {tx : Txt} {σ : Sg} (hk : KR N) (hR : RSt s t σ) (hS : SI σ) (hT : TB (V.2.1 9) 0 tx) (hx : okTx tx) (htop : topical tx) : ∀ n h k, h ≤ (gSh σ).length → (gSh σ).length - h < n → f_X12_audience_L94 n 908 (nW k) (nW h) (QW N V s t) = some (nW (auH σ tx ((gSh σ).length - h) h k), QW N V s t)
  | 0, h, k, _, hn => absurd hn (by omega)
  | n + 1, h, k, hh, hn => by
    have hsh := hR.2.2.2.1
    have l36 : (gSh σ).length ≤ 36 := hR.2.2.2.2.2.2.1
    by_cases he : h = (gSh σ).length
    · subst he
      have e16 := hsh.1
      rw [Nat.sub_self, auH]
      simp (disch := omega) only [f_X12_audience_L94, q_k hk, q_gR1 hk, q_gR2 hk, q_gR8 hk, q_gR11 hk, q_gR13 hk, q_gR14 hk, q_gR15 hk, q_gR16 hk, q_gI hk, q_pI hk, q_a hk, q_w hk, q_l hk, Option.bind_some, nW_lit, e16, nW_le, Nat.le_refl, ↓reduceIte]
    · have n1 : ¬ (gSh σ).length ≤ h := by omega
      have e16 := hsh.1
      obtain ⟨_, y2, _, y4, _⟩ := hsh.2 h (by omega)
      have hok := (hS.2.2.1.2.1 ((gSh σ).getD h shD) (by rw [gd_in _ _ (by omega)]; exact List.getElem_mem _)).1
      have em := ref_matches (N := N) (V := VS V s t) hk (i := 1256 + 4 * h) (by omega) y4 (by rw [VS_Lo _ _ _ (by omega)]; exact hT) hok hx htop
      have em' : f_X12_matches 908 (nW (1256 + 4 * h)) (nW ((gSh σ).getD h shD).1.length) (QW N V s t) = some (zI (spMatch ((gSh σ).getD h shD).1 tx), QW N V s t) := em
      have ih := fun k' => r_au_L94 (N := N) hk hR hS hT hx htop n (h + 1) k' (by omega) (by omega)
      rw [show (gSh σ).length - h = ((gSh σ).length - (h + 1)) + 1 by omega, auH]
      cases hm : spMatch ((gSh σ).getD h shD).1 tx with
      | true =>
        rw [hm, zI_t] at em'
        simp (disch := omega) only [f_X12_audience_L94, q_k hk, q_gR1 hk, q_gR2 hk, q_gR8 hk, q_gR11 hk, q_gR13 hk, q_gR14 hk, q_gR15 hk, q_gR16 hk, q_gI hk, q_pI hk, q_a hk, q_w hk, q_l hk, Option.bind_some, nW_lit, nW_mul, nW_add, e16, nW_le, n1, ↓reduceIte, y2, em', bindP, z1n0, ih]
      | false =>
        rw [hm, zI_f] at em'
        simp (disch := omega) only [f_X12_audience_L94, q_k hk, q_gR1 hk, q_gR2 hk, q_gR8 hk, q_gR11 hk, q_gR13 hk, q_gR14 hk, q_gR15 hk, q_gR16 hk, q_gI hk, q_pI hk, q_a hk, q_w hk, q_l hk, Option.bind_some, nW_lit, nW_mul, nW_add, e16, nW_le, n1, ↓reduceIte, y2, em', bindP, ih, Nat.add_zero, Bool.false_eq_true]
theorem r_au_L49 {N : Mem} {V : VR} {s : Nat → Int32} {t : Nat → Int64} {tx : Txt} {σ : Sg} {by' : Nat} (hk : KR N) (hR : RSt s t σ) (hS : SI σ) (hT : TB (V.2.1 9) 0 tx) (hx : okTx tx) (htop : topical tx) (hby : by' < 6) : ∀ n c k, c ≤ 6 → 6 - c < n → f_X12_audience_L49 n 908 (nW by') (nW k) (nW c) (QW N V s t) = some (nW (auH σ tx (gSh σ).length 0 (auC σ tx by' (6 - c) c k)), QW N V s t)
  | 0, c, k, _, hn => absurd hn (by omega)
  | n + 1, c, k, hc, hn => by
    have l36 : (gSh σ).length ≤ 36 := hR.2.2.2.2.2.2.1
    by_cases he : c = 6
    · subst he
      have := r_au_L94 (N := N) hk hR hS hT hx htop FU 0 k (by omega) (by simp only [FU]; omega)
      rw [Nat.sub_zero] at this
      rw [Nat.sub_self, auC]
      simp (disch := omega) only [f_X12_audience_L49, nW_lit, nW_le, Nat.le_refl, ↓reduceIte, this]
    · have n6 : ¬ 6 ≤ c := by omega
      have hc6 : c < 6 := by omega
      have hcl := hR.2.1 c hc6
      have ih := fun k' => r_au_L49 (N := N) hk hR hS hT hx htop hby n (c + 1) k' (by omega) (by omega)
      have e20 := hcl.2.1.1
      rw [show 6 - c = (6 - (c + 1)) + 1 by omega, auC]
      cases hex : cB (gCl σ c) 3 with
      | false =>
        rw [hex, zI_f] at e20
        have n01 : ¬ nW 0 = nW 1 := by decide
        have hz := (hS.1.2 c hc6).2.2.2.2.2.2.2.2.2 hex
        have hz3 : (cL (gCl σ c) 3).1 = 0 := hz.2.2.1
        have hb := spBest_zero tx (decide (c = by')) hz3
        rw [hb]
        simp (disch := omega) only [f_X12_audience_L49, q_k hk, q_gR1 hk, q_gR2 hk, q_gR8 hk, q_gR11 hk, q_gR13 hk, q_gR14 hk, q_gR15 hk, q_gR16 hk, q_gI hk, q_pI hk, q_a hk, q_w hk, q_l hk, Option.bind_some, nW_lit, nW_add, nW_le, n6, ↓reduceIte, e20, n01, Nat.add_zero, ih]
      | true =>
        rw [hex, zI_t] at e20
        have eb := ref_bestOf (N := N) (V := V) hk hc6 hby hcl.1.2.2.2 hcl.2.1.2.2.1 hcl.2.2.2.2.2.1 (hS.2.1 c hc6).1 hT hx htop
        rcases spBest_val tx (decide (c = by')) (hS.2.1 c hc6).1 with hb | ⟨q, hq, hb⟩
        · rw [hb] at eb ⊢
          simp (disch := omega) only [f_X12_audience_L49, q_k hk, q_gR1 hk, q_gR2 hk, q_gR8 hk, q_gR11 hk, q_gR13 hk, q_gR14 hk, q_gR15 hk, q_gR16 hk, q_gI hk, q_pI hk, q_a hk, q_w hk, q_l hk, Option.bind_some, nW_lit, nW_add, nW_le, n6, ↓reduceIte, e20, eb, bindP, lit_m1i, Nat.add_zero, ih]
        · have nm : ¬ nW q = -nW 1 := nW_neg (by omega) (by omega) (by omega)
          rw [hb] at eb ⊢
          simp (disch := omega) only [f_X12_audience_L49, q_k hk, q_gR1 hk, q_gR2 hk, q_gR8 hk, q_gR11 hk, q_gR13 hk, q_gR14 hk, q_gR15 hk, q_gR16 hk, q_gI hk, q_pI hk, q_a hk, q_w hk, q_l hk, Option.bind_some, nW_lit, nW_add, nW_le, n6, ↓reduceIte, e20, eb, bindP, lit_m1i, nm, ih]
theorem Op_audience (x : Int32) : OpOK (cdB 3 1) (f_X11_audience 0 x) (f_X12_audience 908 x) := by
  intro k M A hk5 hB hF hN hW hX
  have k1 := hB.1.1
  refine Op_text (x := x) (F := fun v6 M5 => (gR 11 6 0 M5).bind (fun v7 => bindP (f_X7_countAudience v7 x v6 M5) (fun v9 M8 => some (.inl v9, M8)))) (G := fun v5 M4 => if v5 = nW 0 then bindP (f_X12_fails 908 (nW 2) M4) (fun v7 M6 => some (v7, M6)) else (gR 12 11 908 M4).bind (fun v6 => (gR 12 13 908 M4).bind (fun v7 => (f_X12_moves v6 (nW 0) v7 (nW 0) M4).bind (fun M8 => f_X12_audience_L49 FU 908 x (nW 0) (nW 0) M8)))) false hB hF hN hW rfl ?_ (fun N V s t hk => ?_) (fun N V s t hk => ?_) (fun c t x' M5 hc ec hp hx hB5 => ?_)
  · obtain ⟨M1, ek, F1, B1, _⟩ := c_take hB
    have cc := c_client x M1
    by_cases hx : inB x (nW 0) (nW 5) = true
    · rw [if_pos hx] at cc
      simp only [f_X11_audience, k1, ↓reduceIte, ek, bindP, cc, bindX, c_topic B1.1.1, nW_lit]
    · rw [if_neg hx] at cc
      simp only [f_X11_audience, k1, ↓reduceIte, ek, bindP, cc, bindX, nW_lit]
  · simp only [f_X12_audience, q_k hk, ↓reduceIte, q_pI hk, Option.bind_some, nW_lit, r_client, bindP, zI_f]
    cases inB x (nW 0) (nW 5)
    · simp only [zI_f, ↓reduceIte, r_unread hk, Bool.false_eq_true]
    · simp only [zI_t, z1n0, ↓reduceIte]
      try rfl
  · simp only [↓reduceIte, r_fails hk, bindP]; rfl
  · subst ec
    obtain ⟨_, _, _, pok, ptop⟩ := parse_ok hp
    have ptop := ptop rfl
    have hW5 := WI_clr hW (-nW 1)
    have k2 := (BrR_k hB5).2.1
    have hSt := hB5.2.2.2.2.2.2
    have ea := c_au_L5 (σ := oS A) hSt hW.1.1 hx hc FU 0 0 (by omega) (by simp only [FU]; omega) (by omega)
    rw [Nat.sub_zero] at ea
    have kk := (StR_k hSt).1
    refine Op_read (nW (auH (oS A) t (gSh (oS A)).length 0 (auC (oS A) t c 6 0 0))) hB5 hW5 ?_ (fun N V s t' hk hR hQ => ?_)
    · simp only [k2, Option.bind_some, f_X7_countAudience, kk, ↓reduceIte, nW_lit, ea, bindP]
    · have hT9 : TB ((vB V 9 0 (fun i => V.2.1 8 (0 + i))).2.1 9) 0 t := by rw [vB_1]; exact TB.blk hQ.2.2
      have er := r_au_L49 (N := N) (V := vB V 9 0 (fun i => V.2.1 8 (0 + i))) hk hR.2.2.2.2.2.1 hW.1.1 hT9 pok ptop hc FU 0 0 (by omega) (by simp only [FU]; omega)
      rw [Nat.sub_zero] at er
      refine ⟨vB V 9 0 (fun i => V.2.1 8 (0 + i)), ?_, (VE_9 V 0 _).vq, hQ.1⟩
      simp only [z1n0, ↓reduceIte, q_gR11 hk, q_gR13 hk, q_gR8 hk, Option.bind_some, q_mv89 hk]
      exact er
