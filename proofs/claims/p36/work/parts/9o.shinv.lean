/-! WHAT ALWAYS HOLDS of shares -/
def suKey (r : Row) : Txt × Int32 := (r.1, r.2 1)
/-- client c belongs to just the shares of its subscriptions -/
def CC (l : List Sh) (u : Ls Row) (c : Nat) : Prop := ∀ x ∈ l, c ∈ x.2.2 ↔ ∃ j, j < u.1 ∧ suKey (u.2 j) = shKey x
/-- each subscription with a group has its share -/
def CE (l : List Sh) (u : Ls Row) : Prop := ∀ j, j < u.1 → (u.2 j).2 1 ≠ nW 0 → ∃ x ∈ l, shKey x = suKey (u.2 j)
def ShG (l : List Sh) : Prop := ShOk l ∧ ShTx l ∧ ShDi l
theorem key_split {l : List Sh} {h : Nat} (hh : h < l.length) (hd : ShDi l) : ∀ x, (x ∈ l.take h ∨ x ∈ l.drop (h + 1)) → shKey x ≠ shKey (l.getD h shD) := by
  unfold ShDi at hd
  rw [take_drop_at l shD hh, List.map_append, List.map_cons, List.nodup_append] at hd
  obtain ⟨_, h2, h3⟩ := hd
  rw [List.nodup_cons] at h2
  intro x hx e
  rcases hx with hx | hx
  · exact h3 _ (List.mem_map_of_mem hx) _ List.mem_cons_self e
  · exact h2.1 (e ▸ List.mem_map_of_mem hx)
theorem mem_shLeave {l : List Sh} {h c : Nat} (hh : h < l.length) {x : Sh} (hx : x ∈ shLeave l h c) : ((x ∈ l.take h ∨ x ∈ l.drop (h + 1)) ∧ x ∈ l) ∨ (x = ((l.getD h shD).1, (l.getD h shD).2.1, (l.getD h shD).2.2.erase c) ∧ (l.getD h shD).2.2.erase c ≠ []) := by
  rw [shLeave_at hh] at hx
  rw [List.mem_append, List.mem_append] at hx
  rcases hx with (hx | hx) | hx
  · exact Or.inl ⟨Or.inl hx, List.mem_of_mem_take hx⟩
  · split at hx
    · simp at hx
    · rename_i he; exact Or.inr ⟨by simpa using hx, he⟩
  · exact Or.inl ⟨Or.inr hx, List.mem_of_mem_drop hx⟩
theorem shAt_get {l : List Sh} {h : Nat} (hh : h < l.length) : l.getD h shD ∈ l := by rw [gd_in _ _ hh]; exact List.getElem_mem hh
theorem ShG_leave {l : List Sh} {h c : Nat} (hh : h < l.length) (hG : ShG l) : ShG (shLeave l h c) := by
  obtain ⟨h1, h2, h3⟩ := hG
  obtain ⟨k1, k2, k3⟩ := h1 _ (shAt_get hh)
  refine ⟨fun x hx => ?_, fun x hx => ?_, ?_⟩
  · rcases mem_shLeave hh hx with ⟨_, hx⟩ | ⟨rfl, he⟩
    · exact h1 x hx
    · exact ⟨fun y hy => k1 y (List.mem_of_mem_erase hy), k2.erase c, he⟩
  · rcases mem_shLeave hh hx with ⟨_, hx⟩ | ⟨rfl, he⟩
    · exact h2 x hx
    · have := h2 _ (shAt_get hh); exact this
  · unfold ShDi shLeave
    split
    · exact (List.Sublist.map shKey (List.eraseIdx_sublist l h)).nodup h3
    · rw [shPut, List.map_set]
      have : (l.map shKey).set h (shKey (l.getD h shD)) = l.map shKey := by
        rw [gd_in _ _ hh]
        apply List.ext_getElem?
        intro i
        rw [List.getElem?_set]
        split
        · rename_i e; subst e; simp [hh]
        · rfl
      show ((l.map shKey).set h (shKey (l.getD h shD))).Nodup
      rw [this]; exact h3
theorem CC_leave_other {l : List Sh} {h c c' : Nat} {u : Ls Row} (hh : h < l.length) (hG : ShG l) (hc : c' ≠ c) (hC : CC l u c') : CC (shLeave l h c) u c' := by
  intro x hx
  rcases mem_shLeave hh hx with ⟨_, hx⟩ | ⟨rfl, he⟩
  · exact hC x hx
  · have := hC _ (shAt_get hh)
    show c' ∈ (l.getD h shD).2.2.erase c ↔ _
    rw [List.mem_erase_of_ne hc, this]; rfl
theorem ldel_lt {α : Type} (u : Ls α) (k : Nat) {j : Nat} (hj : j < (ldel u k).1) (hk : k < u.1) : ∃ j', j' < u.1 ∧ j' ≠ k ∧ (ldel u k).2 j = u.2 j' := by
  simp only [ldel] at hj ⊢
  by_cases q : j < k
  · exact ⟨j, by omega, by omega, by rw [if_pos q]⟩
  · exact ⟨j + 1, by omega, by omega, by rw [if_neg q]⟩
theorem ldel_of {α : Type} (u : Ls α) (k : Nat) {j' : Nat} (hj : j' < u.1) (hne : j' ≠ k) (hk : k < u.1) : ∃ j, j < (ldel u k).1 ∧ (ldel u k).2 j = u.2 j' := by
  by_cases q : j' < k
  · exact ⟨j', by simp only [ldel]; omega, by simp only [ldel]; rw [if_pos q]⟩
  · refine ⟨j' - 1, by simp only [ldel]; omega, ?_⟩
    simp only [ldel]; rw [if_neg (by omega), show j' - 1 + 1 = j' by omega]
theorem SubDi_key {u : Ls Row} (h : SubDi u) {i j : Nat} (hi : i < u.1) (hj : j < u.1) (e : suKey (u.2 i) = suKey (u.2 j)) : i = j := h i j hi hj (Prod.mk.inj e).1 (Prod.mk.inj e).2
theorem CC_leave {l : List Sh} {h c k : Nat} {u : Ls Row} (hh : h < l.length) (hG : ShG l) (hk : k < u.1) (hd : SubDi u) (hkey : shKey (l.getD h shD) = suKey (u.2 k)) (hC : CC l u c) : CC (shLeave l h c) (ldel u k) c := by
  intro x hx
  rcases mem_shLeave hh hx with ⟨hs, hx⟩ | ⟨rfl, he⟩
  · have hne := key_split hh hG.2.2 x hs
    rw [hC x hx]
    constructor
    · rintro ⟨j, h1, h2⟩
      have : j ≠ k := by rintro rfl; exact hne (h2.symm.trans hkey.symm)
      obtain ⟨j', a, b⟩ := ldel_of u k h1 this hk
      exact ⟨j', a, by rw [b]; exact h2⟩
    · rintro ⟨j, h1, h2⟩
      obtain ⟨j', a, _, b⟩ := ldel_lt u k h1 hk
      exact ⟨j', a, by rw [← b]; exact h2⟩
  · have k2 := (hG.1 _ (shAt_get hh)).2.1
    constructor
    · intro hm
      exact absurd rfl ((k2.mem_erase_iff.mp hm).1)
    · rintro ⟨j, h1, h2⟩
      obtain ⟨j', a, b', b⟩ := ldel_lt u k h1 hk
      rw [b] at h2
      exact absurd (SubDi_key hd a hk (h2.trans hkey)) b'
theorem CC_drop0 {l : List Sh} {c k : Nat} {u : Ls Row} (hG : ShTx l) (hk : k < u.1) (h0 : (u.2 k).2 1 = nW 0) (hC : CC l u c) : CC l (ldel u k) c := by
  intro x hx
  obtain ⟨n, n1, n2, n3⟩ := (hG x hx).2
  rw [hC x hx]
  constructor
  · rintro ⟨j, h1, h2⟩
    have : j ≠ k := by
      rintro rfl
      have := (Prod.mk.inj h2).2
      rw [h0, n3, nW_inj (by omega) (by omega)] at this; omega
    obtain ⟨j', a, b⟩ := ldel_of u k h1 this hk
    exact ⟨j', a, by rw [b]; exact h2⟩
  · rintro ⟨j, h1, h2⟩
    obtain ⟨j', a, _, b⟩ := ldel_lt u k h1 hk
    exact ⟨j', a, by rw [← b]; exact h2⟩
theorem shAt_none {l : List Sh} {t : Txt} {g : Int32} (h : shAt l t g = none) : ∀ x ∈ l, shKey x ≠ (t, g) := by
  intro x hx e
  obtain ⟨i, hi, rfl⟩ := List.mem_iff_getElem.mp hx
  have := ffind_none h i (by omega) (by omega)
  rw [shP, gd_in _ _ hi, Bool.and_eq_false_iff] at this
  rcases this with h | h
  · exact of_decide_eq_false h (Prod.mk.inj e).2
  · exact of_decide_eq_false h (Prod.mk.inj e).1
theorem SubDi_del {u : Ls Row} (h : SubDi u) (k : Nat) (hk : k < u.1) : SubDi (ldel u k) := by
  intro i j hi hj e1 e2
  have r : ∀ i, i < (ldel u k).1 → ∃ i', i' < u.1 ∧ (ldel u k).2 i = u.2 i' ∧ i' = if i < k then i else i + 1 := by
    intro i hi
    simp only [ldel] at hi ⊢
    by_cases q : i < k
    · exact ⟨i, by omega, by rw [if_pos q], by rw [if_pos q]⟩
    · exact ⟨i + 1, by omega, by rw [if_neg q], by rw [if_neg q]⟩
  obtain ⟨i', a1, a2, a3⟩ := r i hi
  obtain ⟨j', b1, b2, b3⟩ := r j hj
  rw [a2, b2] at e1 e2
  have := h i' j' a1 b1 e1 e2
  split at a3 <;> split at b3 <;> omega
theorem SubOk_del {u : Ls Row} (h : SubOk u) (k : Nat) (hk : k < u.1) : SubOk (ldel u k) := by
  intro j hj
  obtain ⟨j', a, _, b⟩ := ldel_lt u k hj hk
  rw [b]; exact h j' a
/-- the share of a subscription is left -/
theorem leaveK {l : List Sh} {c k : Nat} {u : Ls Row} (hG : ShG l) (hk : k < u.1) (hd : SubDi u) (hC : CC l u c) (hg : (u.2 k).2 1 ≠ nW 0) : ShG (shLeaveK l (u.2 k).1 ((u.2 k).2 1) c) ∧ CC (shLeaveK l (u.2 k).1 ((u.2 k).2 1) c) (ldel u k) c ∧ shGone (shLeaveK l (u.2 k).1 ((u.2 k).2 1) c) c = shGone l c ∧ ∀ h, shAt l (u.2 k).1 ((u.2 k).2 1) = some h → c ∈ (l.getD h shD).2.2 := by
  unfold shLeaveK
  cases e : shAt l (u.2 k).1 ((u.2 k).2 1) with
  | none =>
    refine ⟨hG, fun x hx => ?_, rfl, fun h hh => by cases hh⟩
    have hne := shAt_none e x hx
    rw [hC x hx]
    constructor
    · rintro ⟨j, h1, h2⟩
      have : j ≠ k := by rintro rfl; exact hne h2.symm
      obtain ⟨j', a, b⟩ := ldel_of u k h1 this hk
      exact ⟨j', a, by rw [b]; exact h2⟩
    · rintro ⟨j, h1, h2⟩
      obtain ⟨j', a, _, b⟩ := ldel_lt u k h1 hk
      exact ⟨j', a, by rw [← b]; exact h2⟩
  | some h =>
    obtain ⟨h1, h2, h3⟩ := shAt_some e
    have hkey : shKey (l.getD h shD) = suKey (u.2 k) := by unfold shKey suKey; rw [h2, h3]
    refine ⟨ShG_leave h1 hG, CC_leave h1 hG hk hd hkey hC, shGone_leave h1 (fun x hx => (hG.1 x hx).2.1), fun h' e' => ?_⟩
    cases e'
    exact (hC _ (shAt_get h1)).mpr ⟨k, hk, hkey.symm⟩
theorem leaveK_other {l : List Sh} {c c' : Nat} {t : Txt} {g : Int32} {u : Ls Row} (hG : ShG l) (hc : c' ≠ c) (hC : CC l u c') : CC (shLeaveK l t g c) u c' := by
  unfold shLeaveK
  cases e : shAt l t g with
  | none => exact hC
  | some h => exact CC_leave_other (shAt_some e).1 hG hc hC
