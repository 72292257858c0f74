/-! PUBLISHING, in the reference (behind the checks) -/
def spAck (σ : Sg) (c g id : Nat) : Sg := if g = 0 then σ else putG σ c (spSignR (gSc σ, if g = 2 then spKeep (gCl σ c) id else gCl σ c) (nW g) (nW id))
def spPubBy (σ : Sg) (c g id : Nat) (ret : Bool) (pay : Int32) (x : Txt) : Nat × Sg := if g = 2 ∧ cK (gCl σ c) id = true then (0, spAck (uSc σ (tot (gSc σ) 3)) c g id) else ((spPubl σ (msg x (nW g) pay (nW 0)) ret c).2, spAck (spPubl σ (msg x (nW g) pay (nW 0)) ret c).1 c g id)
theorem SI_keep {σ : Sg} {c i : Nat} (h : SI σ) (hc : c < 6) (hex : cB (gCl σ c) 3 = true) : SI (putG σ c (gSc σ, spKeep (gCl σ c) i)) := by
  refine SI_put h hc (GI_K (h.1.2 c hc) hex) (fun _ _ _ => rfl) rfl ?_
  have := h.2.2.2.2.2.2 c hc
  exact this
theorem SI_sign {σ : Sg} {c : Nat} (kind id : Int32) (h : SI σ) (hc : c < 6) (hon : cB (gCl σ c) 0 = true) : SI (putG σ c (spSignR (getG σ c) kind id)) := by
  unfold spSignR
  refine SI_put h hc (GI_send (h.1.2 c hc) top_nil hon) (fun i h1 h2 => spSend_sc _ _ (by omega)) (spSend_L _ _ (by decide)) ?_
  have := h.2.2.2.2.2.2 c hc
  unfold WiOk at this ⊢
  rw [spSend_B, spSend_W]; exact this
theorem SI_ack {σ : Sg} {c g id : Nat} (h : SI σ) (hc : c < 6) (hon : cB (gCl σ c) 0 = true) : SI (spAck σ c g id) := by
  have hex := (h.1.2 c hc).2.2.1 hon
  unfold spAck
  split
  · exact h
  · by_cases g2 : g = 2
    · rw [if_pos g2]
      have h2 := SI_sign (nW g) (nW id) (SI_keep (i := id) h hc hex) hc (by rw [gCl_putG]; exact hon)
      rw [getG_putG, putG_putG] at h2
      exact h2
    · rw [if_neg g2]
      exact SI_sign (nW g) (nW id) h hc hon
