/-! A SHARE IS JOINED: what always holds -/
theorem mem_shJoin {l : List Sh} {t : Txt} {gr : Int32} {c : Nat} (hG : ShG l) {x : Sh} (hx : x ∈ shJoin l t gr c) : (x ∈ l ∧ shKey x ≠ (t, gr)) ∨ ∃ m, x = (t, gr, m ++ [c]) ∧ ((m = [] ∧ shAt l t gr = none) ∨ (t, gr, m) ∈ l) := by
  unfold shJoin at hx
  cases e : shAt l t gr with
  | none =>
    simp only [e] at hx
    rw [List.mem_append] at hx
    rcases hx with hx | hx
    · exact Or.inl ⟨hx, shAt_none e x hx⟩
    · exact Or.inr ⟨[], by simpa using hx, Or.inl ⟨rfl, rfl⟩⟩
  | some h =>
    simp only [e] at hx
    obtain ⟨h1, h2, h3⟩ := shAt_some e
    rw [shPut, set_at _ _ h1, List.mem_append, List.mem_cons] at hx
    rcases hx with hx | hx | hx
    · exact Or.inl ⟨List.mem_of_mem_take hx, fun ee => key_split h1 hG.2.2 x (Or.inl hx) (by rw [ee]; unfold shKey; rw [h2, h3])⟩
    · refine Or.inr ⟨(l.getD h shD).2.2, by rw [hx, h2, h3], Or.inr ?_⟩
      have := shAt_get h1
      rw [show l.getD h shD = ((l.getD h shD).1, (l.getD h shD).2.1, (l.getD h shD).2.2) from rfl, h2, h3] at this
      exact this
    · exact Or.inl ⟨List.mem_of_mem_drop hx, fun ee => key_split h1 hG.2.2 x (Or.inr hx) (by rw [ee]; unfold shKey; rw [h2, h3])⟩
theorem shJoin_old {l : List Sh} {t : Txt} {gr : Int32} {c : Nat} {x : Sh} (hx : x ∈ l) (hk : shKey x ≠ (t, gr)) : x ∈ shJoin l t gr c := by
  unfold shJoin
  cases e : shAt l t gr with
  | none => exact List.mem_append.mpr (Or.inl hx)
  | some h =>
    obtain ⟨h1, h2, h3⟩ := shAt_some e
    show x ∈ shPut l h _
    rw [shPut, set_at _ _ h1]
    rw [take_drop_at l shD h1, List.mem_append, List.mem_cons] at hx
    rw [List.mem_append, List.mem_cons]
    rcases hx with hx | hx | hx
    · exact Or.inl hx
    · exact absurd (by rw [hx]; unfold shKey; rw [h2, h3]) hk
    · exact Or.inr (Or.inr hx)
theorem shJoin_new {l : List Sh} {t : Txt} {gr : Int32} {c : Nat} : ∃ x ∈ shJoin l t gr c, shKey x = (t, gr) ∧ c ∈ x.2.2 := by
  unfold shJoin
  cases e : shAt l t gr with
  | none => exact ⟨(t, gr, [c]), List.mem_append.mpr (Or.inr List.mem_cons_self), rfl, List.mem_cons_self⟩
  | some h =>
    obtain ⟨h1, h2, h3⟩ := shAt_some e
    refine ⟨((l.getD h shD).1, (l.getD h shD).2.1, (l.getD h shD).2.2 ++ [c]), ?_, by unfold shKey; rw [h2, h3], List.mem_append.mpr (Or.inr List.mem_cons_self)⟩
    show _ ∈ shPut l h _
    rw [shPut, set_at _ _ h1]
    exact List.mem_append.mpr (Or.inr List.mem_cons_self)
theorem ShG_join {l : List Sh} {t : Txt} {gr : Int32} {c : Nat} (hG : ShG l) (hc : c < 6) (ht : okTx t) (hgr : ∃ n, 1 ≤ n ∧ n ≤ 3 ∧ gr = nW n) (hno : ∀ x ∈ l, shKey x = (t, gr) → c ∉ x.2.2) : ShG (shJoin l t gr c) := by
  refine ⟨fun x hx => ?_, fun x hx => ?_, ?_⟩
  · rcases mem_shJoin hG hx with ⟨hx, _⟩ | ⟨m, rfl, hm⟩
    · exact hG.1 x hx
    · rcases hm with ⟨rfl, _⟩ | hm
      · exact ⟨fun y hy => by have : y = c := (by simpa using hy); rw [this]; exact hc, by simp, by simp⟩
      · obtain ⟨a, b, d⟩ := hG.1 _ hm
        have hn := hno _ hm rfl
        refine ⟨fun y hy => ?_, ?_, by simp⟩
        · rcases List.mem_append.mp hy with hy | hy
          · exact a y hy
          · have : y = c := by simpa using hy
            rw [this]; exact hc
        · show (m ++ [c]).Nodup
          rw [List.nodup_append]
          exact ⟨b, by simp, fun y hy z hz => by have : z = c := (by simpa using hz); rw [this]; exact fun e => hn (e ▸ hy)⟩
  · rcases mem_shJoin hG hx with ⟨hx, _⟩ | ⟨m, rfl, hm⟩
    · exact hG.2.1 x hx
    · exact ⟨ht, hgr⟩
  · unfold ShDi shJoin
    cases e : shAt l t gr with
    | none =>
      show ((l ++ [(t, gr, [c])]).map shKey).Nodup
      rw [List.map_append, List.nodup_append]
      refine ⟨hG.2.2, by simp, fun y hy z hz => ?_⟩
      obtain ⟨x, hx, rfl⟩ := List.mem_map.mp hy
      have : z = (t, gr) := by simpa [shKey] using hz
      rw [this]; exact shAt_none e x hx
    | some h =>
      obtain ⟨h1, h2, h3⟩ := shAt_some e
      show ((shPut l h _).map shKey).Nodup
      rw [shPut, List.map_set]
      have : (l.map shKey).set h (shKey (l.getD h shD)) = l.map shKey := by
        rw [gd_in _ _ h1]
        apply List.ext_getElem?
        intro i
        rw [List.getElem?_set]
        split
        · rename_i e; subst e; simp [h1]
        · rfl
      show ((l.map shKey).set h (shKey (l.getD h shD))).Nodup
      rw [this]; exact hG.2.2
theorem lpush_at {α : Type} (u : Ls α) (r : α) {j : Nat} : j < (lpush u r).1 ↔ j < u.1 ∨ j = u.1 := by simp only [lpush]; omega
theorem lpush_lo {α : Type} (u : Ls α) (r : α) {j : Nat} (h : j < u.1) : (lpush u r).2 j = u.2 j := by simp only [lpush]; rw [if_neg (by omega)]
theorem lpush_hi {α : Type} (u : Ls α) (r : α) : (lpush u r).2 u.1 = r := by simp only [lpush, ↓reduceIte]
theorem CC_join {l : List Sh} {u : Ls Row} {c : Nat} {r : Row} (hG : ShG l) (hC : CC l u c) (hn : ∀ j, j < u.1 → suKey (u.2 j) ≠ suKey r) : CC (shJoin l r.1 (r.2 1) c) (lpush u r) c := by
  intro x hx
  rcases mem_shJoin hG hx with ⟨hx, hk⟩ | ⟨m, rfl, hm⟩
  · rw [hC x hx]
    constructor
    · rintro ⟨j, h1, h2⟩
      exact ⟨j, (lpush_at u r).mpr (Or.inl h1), by rw [lpush_lo u r h1]; exact h2⟩
    · rintro ⟨j, h1, h2⟩
      rcases (lpush_at u r).mp h1 with h1 | rfl
      · exact ⟨j, h1, by rw [lpush_lo u r h1] at h2; exact h2⟩
      · rw [lpush_hi] at h2; exact absurd h2.symm hk
  · constructor
    · intro _
      exact ⟨u.1, (lpush_at u r).mpr (Or.inr rfl), by rw [lpush_hi]; rfl⟩
    · intro _
      exact List.mem_append.mpr (Or.inr List.mem_cons_self)
theorem CC_join_other {l : List Sh} {u : Ls Row} {c c' : Nat} {t : Txt} {gr : Int32} (hG : ShG l) (hg : gr ≠ nW 0) (hc : c' ≠ c) (hC : CC l u c') (hE : CE l u) : CC (shJoin l t gr c) u c' := by
  intro x hx
  rcases mem_shJoin hG hx with ⟨hx, hk⟩ | ⟨m, rfl, hm⟩
  · exact hC x hx
  · have hne : c' ∈ m ++ [c] ↔ c' ∈ m := by
      rw [List.mem_append, List.mem_singleton]
      exact ⟨fun h => h.elim id (fun e => absurd e hc), Or.inl⟩
    show c' ∈ m ++ [c] ↔ _
    rw [hne]
    rcases hm with ⟨rfl, hno⟩ | hm
    · constructor
      · intro h; cases h
      · rintro ⟨j, h1, h2⟩
        have k2 : (u.2 j).2 1 = gr := (Prod.mk.inj h2).2
        obtain ⟨y, hy, hk⟩ := hE j h1 (by rw [k2]; exact hg)
        exact absurd (hk.trans h2) (shAt_none hno y hy)
    · exact hC _ hm
theorem CE_join {l : List Sh} {u : Ls Row} {c : Nat} {t : Txt} {gr : Int32} (hE : CE l u) : CE (shJoin l t gr c) u := by
  intro j hj hg
  obtain ⟨x, hx, hk⟩ := hE j hj hg
  by_cases e : shKey x = (t, gr)
  · obtain ⟨y, hy, hk2, _⟩ := shJoin_new (l := l) (t := t) (gr := gr) (c := c)
    exact ⟨y, hy, by rw [hk2, ← e, hk]⟩
  · exact ⟨x, shJoin_old hx e, hk⟩
theorem CE_push {l : List Sh} {u : Ls Row} {r : Row} (hE : CE l u) (hr : r.2 1 ≠ nW 0 → ∃ x ∈ l, shKey x = suKey r) : CE l (lpush u r) := by
  intro j hj hg
  rcases (lpush_at u r).mp hj with h1 | rfl
  · rw [lpush_lo u r h1] at hg ⊢; exact hE j h1 hg
  · rw [lpush_hi] at hg ⊢; exact hr hg
theorem CC_push0 {l : List Sh} {u : Ls Row} {c : Nat} {r : Row} (hG : ShTx l) (h0 : r.2 1 = nW 0) (hC : CC l u c) : CC l (lpush u r) c := by
  intro x hx
  obtain ⟨n, n1, n2, n3⟩ := (hG x hx).2
  rw [hC x hx]
  constructor
  · rintro ⟨j, h1, h2⟩
    exact ⟨j, (lpush_at u r).mpr (Or.inl h1), by rw [lpush_lo u r h1]; exact h2⟩
  · rintro ⟨j, h1, h2⟩
    rcases (lpush_at u r).mp h1 with h1 | rfl
    · exact ⟨j, h1, by rw [lpush_lo u r h1] at h2; exact h2⟩
    · rw [lpush_hi] at h2
      have := (Prod.mk.inj h2).2
      rw [h0, n3, nW_inj (by omega) (by omega)] at this; omega
theorem nodup6 {m : List Nat} {c : Nat} (h1 : ∀ y ∈ m, y < 6) (h2 : m.Nodup) (hc : c < 6) (hn : c ∉ m) : m.length < 6 := by
  apply Classical.byContradiction
  intro hlt
  obtain ⟨i, j, a1, a2, a3⟩ := pigeon 6 (fun i => (c :: m).getD i 0) (fun i hi => by
    show (c :: m).getD i 0 < 6
    have hl : i < (c :: m).length := by simp only [List.length_cons]; omega
    rw [gd_in _ _ hl]
    rcases List.mem_cons.mp (List.getElem_mem hl) with e | e
    · rw [e]; exact hc
    · exact h1 _ e)
  have hd : (c :: m).Nodup := List.nodup_cons.mpr ⟨hn, h2⟩
  have l1 : i < (c :: m).length := by simp only [List.length_cons]; omega
  have l2 : j < (c :: m).length := by simp only [List.length_cons]; omega
  have a3' : (c :: m).getD i 0 = (c :: m).getD j 0 := a3
  rw [gd_in _ _ l1, gd_in _ _ l2] at a3'
  have := (List.getElem_inj hd).mp a3'
  omega
