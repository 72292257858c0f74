/-! SUBSCRIPTIONS DROPPED, sessions removed: in the reference -/
theorem subFlat (c j : Nat) (h : j < 6) (hc : c < 6) : 6 * c + j < 36 := by omega
def spDropL (σ : Sg) (c k : Nat) : List Sh := if ((cL (gCl σ c) 3).2 k).2 1 = nW 0 then gSh σ else shLeaveK (gSh σ) ((cL (gCl σ c) 3).2 k).1 (((cL (gCl σ c) 3).2 k).2 1) c
def spDrop (σ : Sg) (c k : Nat) : Sg := uSh (putG σ c (gSc σ, uL (gCl σ c) 3 (ldel (cL (gCl σ c) 3) k))) (spDropL σ c k)
theorem len_leave (l : List Sh) (h c : Nat) : (shLeave l h c).length ≤ l.length := by
  unfold shLeave
  split
  · rw [List.length_eraseIdx]; split <;> omega
  · rw [shPut, len_setL]; exact Nat.le_refl _
theorem len6_leave {l : List Sh} {h c : Nat} (h6 : ∀ x ∈ l, x.2.2.length ≤ 6) (hh : h < l.length) : ∀ x ∈ shLeave l h c, x.2.2.length ≤ 6 := by
  intro x hx
  rcases mem_shLeave hh hx with ⟨_, hx⟩ | ⟨rfl, he⟩
  · exact h6 x hx
  · exact Nat.le_trans (List.length_erase_le ..) (h6 _ (shAt_get hh))
theorem len_leaveK (l : List Sh) (t : Txt) (g : Int32) (c : Nat) (h6 : ∀ x ∈ l, x.2.2.length ≤ 6) : (shLeaveK l t g c).length ≤ l.length ∧ ∀ x ∈ shLeaveK l t g c, x.2.2.length ≤ 6 := by
  unfold shLeaveK
  cases e : shAt l t g with
  | none => exact ⟨Nat.le_refl _, h6⟩
  | some h => exact ⟨len_leave _ _ _, len6_leave h6 (shAt_some e).1⟩
theorem shGone_end {l : List Sh} {u : Ls Row} {c : Nat} (hG : ShOk l) (hC : CC l u c) (h0 : u.1 = 0) : shGone l c = l := shGone_id (fun x hx => ⟨fun hm => by
  obtain ⟨j, h1, _⟩ := (hC x hx).mp hm
  omega, (hG x hx).2.2⟩)
