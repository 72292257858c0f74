/-! PUBLISHED, AUDIENCE, SHARES, WILLS, UNSUBSCRIBE -/
theorem posI_m1 {o : Option Nat} (h : ∀ i, o = some i → i < 1000000) : (posI o = -nW 1) = (o = none) := by
  cases o with
  | none => simp [posI]
  | some k =>
    have hk := h k rfl
    have ne : ¬ posI (some k) = -nW 1 := nW_neg (by omega) (by omega) (by omega)
    simp [ne]
/-! audience -/
def auC (σ : Sg) (t : Txt) (by' : Nat) : Nat → Nat → Nat → Nat
  | 0, _, k => k
  | n + 1, c, k => auC σ t by' n (c + 1) (if spBest (cL (gCl σ c) 3) t (decide (c = by')) = -nW 1 then k else k + 1)
def auH (σ : Sg) (t : Txt) : Nat → Nat → Nat → Nat
  | 0, _, k => k
  | n + 1, h, k => auH σ t n (h + 1) (if spMatch ((gSh σ).getD h shD).1 t = true then k + 1 else k)
theorem auC_le (σ : Sg) (t : Txt) (by' : Nat) : ∀ n c k, auC σ t by' n c k ≤ k + n
  | 0, _, k => Nat.le_refl _
  | n + 1, c, k => by
    have := auC_le σ t by' n (c + 1) (if spBest (cL (gCl σ c) 3) t (decide (c = by')) = -nW 1 then k else k + 1)
    rw [auC]
    split at this <;> rename_i h <;> simp only [h, ↓reduceIte] <;> omega
theorem c_au_L52 {M : Mem} {x : Nat} {t : Txt} {σ : Sg} (hR : StR M 8 σ) (hx : TextR M x t) : ∀ n h k, h ≤ (gSh σ).length → (gSh σ).length - h < n → k ≤ 1000 + h → f_X7_countAudience_L52 n 8 x (nW k) (nW h) M = some (nW (auH σ t ((gSh σ).length - h) h k), M)
  | 0, h, k, _, hn, _ => absurd hn (by omega)
  | n + 1, h, k, hh, hn, hk => by
    obtain ⟨k0, k1, k2, k4, k8, k3, k5, kc⟩ := StR_k hR
    have l36 : (gSh σ).length ≤ 36 := hR.2.2.1.2.1
    by_cases he : h = (gSh σ).length
    · subst he
      rw [Nat.sub_self, auH]
      simp (disch := omega) only [f_X7_countAudience_L52, k3, Option.bind_some, nW_le, Nat.le_refl, ↓reduceIte]
    · have n1 : ¬ (gSh σ).length ≤ h := by omega
      have n36 : ¬ 36 ≤ h := by omega
      obtain ⟨a, ea, _, hK, hV, _⟩ := ShsR_at hR.2.2.1 (show h < (gSh σ).length by omega)
      obtain ⟨_, _, _, ⟨y, ey, hy⟩, _⟩ := hV
      have gy : gR 6 0 a M = some y := by simp only [gR, hK.1, ↓reduceIte, ey]
      have ih := fun k' hk' => c_au_L52 hR hx n (h + 1) k' (by omega) (by omega) hk'
      rw [show (gSh σ).length - h = ((gSh σ).length - (h + 1)) + 1 by omega, auH]
      cases hm : spMatch ((gSh σ).getD h shD).1 t with
      | true =>
        have em := X10_matches hy hx
        rw [hm, zI_t] at em
        simp (disch := omega) only [f_X7_countAudience_L52, k3, k2, Option.bind_some, nW_le, nW_lit, n1, n36, ↓reduceIte, ea, gy, em, bindP, z1n0, nW_add, ih (k + 1) (by omega)]
      | false =>
        have em := X10_matches hy hx
        rw [hm, zI_f] at em
        simp (disch := omega) only [f_X7_countAudience_L52, k3, k2, Option.bind_some, nW_le, nW_lit, n1, n36, ↓reduceIte, ea, gy, em, bindP, nW_add, ih k (by omega), Bool.false_eq_true]
theorem c_au_L5 {M : Mem} {x by' : Nat} {t : Txt} {σ : Sg} (hR : StR M 8 σ) (hS : SI σ) (hx : TextR M x t) (hby : by' < 6) : ∀ n c k, c ≤ 6 → 6 - c < n → k ≤ c → f_X7_countAudience_L5 n 8 (nW by') x (nW k) (nW c) M = some (nW (auH σ t (gSh σ).length 0 (auC σ t by' (6 - c) c k)), M)
  | 0, c, k, _, hn, _ => absurd hn (by omega)
  | n + 1, c, k, hc, hn, hk => by
    obtain ⟨k0, k1, k2, k4, k8, k3, k5, kc⟩ := StR_k hR
    have l36 : (gSh σ).length ≤ 36 := hR.2.2.1.2.1
    by_cases he : c = 6
    · subst he
      have := c_au_L52 hR hx FU 0 k (by omega) (by simp only [FU]; omega) (by omega)
      rw [Nat.sub_zero] at this
      rw [Nat.sub_self, auC]
      simp (disch := omega) only [f_X7_countAudience_L5, nW_lit, nW_le, Nat.le_refl, ↓reduceIte, this]
    · have n6 : ¬ 6 ≤ c := by omega
      have hc6 : c < 6 := by omega
      have hCl := hR.2.1 c hc6
      have k5' := (CR_k (StR_get hR hc6)).2.1
      have eg := X5_greatest (decide (c = by')) hCl.2.2.2.1 hCl.2.2.2.2.2.1 hx
      have ih := fun k' hk' => c_au_L5 hR hS hx hby n (c + 1) k' (by omega) (by omega) hk'
      rw [show 6 - c = (6 - (c + 1)) + 1 by omega, auC]
      have J : f_X7_countAudience_L5 (n + 1) 8 (nW by') x (nW k) (nW c) M = f_X7_countAudience_J34 (f_X7_countAudience_L5 n) 8 (nW by') x (nW k) (nW c) (zI (decide (c = by'))) x (8 + 2 + 60 * c + 34) M := by
        by_cases hb : c = by'
        · subst hb
          simp (disch := omega) only [f_X7_countAudience_L5, nW_lit, nW_le, n6, ↓reduceIte, k1, kc c hc6, k5', Option.bind_some, decide_true, zI_t]
        · simp (disch := omega) only [f_X7_countAudience_L5, nW_lit, nW_le, n6, ↓reduceIte, k1, kc c hc6, k5', Option.bind_some, nW_inj, hb, decide_false, zI_f]
      rw [J]
      rcases spBest_val t (decide (c = by')) (hS.2.1 c hc6).1 with hb | ⟨q, hq, hb⟩
      · have lt0 : -nW 1 < nW 0 := by decide
        rw [hb] at eg ⊢
        simp (disch := omega) only [f_X7_countAudience_J34, eg, bindP, nW_lit, lt0, ↓reduceIte, nW_add, ih k (by omega)]
      · have lt0 : ¬ nW q < nW 0 := by rw [nW_lt (by omega) (by omega)]; omega
        have nm : ¬ nW q = -nW 1 := nW_neg (by omega) (by omega) (by omega)
        rw [hb] at eg ⊢
        simp (disch := omega) only [f_X7_countAudience_J34, eg, bindP, nW_lit, lt0, nm, ↓reduceIte, nW_add, ih (k + 1) (by omega)]
