/-! SHARES: lists -/
theorem gd_erase {α : Type} (l : List α) (d : α) (i j : Nat) : (l.eraseIdx i).getD j d = if j < i then l.getD j d else l.getD (j + 1) d := by
  rw [List.getD_eq_getElem?_getD, List.getElem?_eraseIdx, List.getD_eq_getElem?_getD, List.getD_eq_getElem?_getD]
  split <;> rfl
theorem gd_set {α : Type} (l : List α) (d x : α) (i j : Nat) (h : i < l.length) : (l.set i x).getD j d = if j = i then x else l.getD j d := by
  rw [List.getD_eq_getElem?_getD, List.getElem?_set, List.getD_eq_getElem?_getD]
  by_cases e : i = j
  · subst e; simp [h]
  · have e2 : ¬ j = i := fun x => e x.symm
    simp [e, e2]
theorem gd_snoc {α : Type} (l : List α) (d x : α) (j : Nat) (h : j ≤ l.length) : (l ++ [x]).getD j d = if j = l.length then x else l.getD j d := by
  rw [List.getD_eq_getElem?_getD, List.getD_eq_getElem?_getD]
  by_cases e : j = l.length
  · subst e; simp
  · have : j < l.length := by omega
    simp [e, List.getElem?_append_left this]
theorem len_eraseIdx {α : Type} (l : List α) {i : Nat} (h : i < l.length) : (l.eraseIdx i).length = l.length - 1 := by
  rw [List.length_eraseIdx]; simp [h]
theorem len_setL {α : Type} (l : List α) (i : Nat) (x : α) : (l.set i x).length = l.length := List.length_set
/-- the place of a number in a list -/
def posN (m : List Nat) (c : Nat) : Option Nat := ffind (fun i => decide (m.getD i 0 = c)) m.length 0
theorem erase_at : ∀ {m : List Nat} {c i : Nat}, i < m.length → m.getD i 0 = c → (∀ j, j < i → m.getD j 0 ≠ c) → m.erase c = m.eraseIdx i
  | [], c, i, h, _, _ => by simp at h
  | a :: m, c, 0, _, h, _ => by
    have : a = c := by simpa using h
    subst this; simp
  | a :: m, c, i + 1, h1, h2, h3 => by
    have ne : a ≠ c := by have := h3 0 (by omega); simpa using this
    have : (a == c) = false := by simpa using ne
    rw [List.erase_cons, this]
    simp only [Bool.false_eq_true, ↓reduceIte, List.eraseIdx_cons_succ]
    rw [erase_at (i := i) (by simpa using h1) (by simpa using h2) (fun j hj => by have := h3 (j + 1) (by omega); simpa using this)]
theorem erase_no {m : List Nat} {c : Nat} (h : c ∉ m) : m.erase c = m := List.erase_of_not_mem h
theorem posN_some {m : List Nat} {c i : Nat} (h : posN m c = some i) : i < m.length ∧ m.getD i 0 = c ∧ m.erase c = m.eraseIdx i := by
  obtain ⟨_, h2, h3, h4⟩ := ffind_some h
  have e := of_decide_eq_true h3
  exact ⟨by omega, e, erase_at (by omega) e (fun j hj => of_decide_eq_false (h4 j (by omega) hj))⟩
theorem mem_getD {m : List Nat} {c : Nat} : c ∈ m ↔ ∃ i, i < m.length ∧ m.getD i 0 = c := by
  rw [List.mem_iff_getElem]
  constructor
  · rintro ⟨i, h, e⟩; exact ⟨i, h, by rw [gd_in _ _ h]; exact e⟩
  · rintro ⟨i, h, e⟩; exact ⟨i, h, by rw [gd_in _ _ h] at e; exact e⟩
theorem posN_none {m : List Nat} {c : Nat} (h : posN m c = none) : c ∉ m := by
  rw [mem_getD]; rintro ⟨i, h1, h2⟩
  have := ffind_none h i (by omega) (by omega)
  exact of_decide_eq_false this h2
/-! what is done to shares -/
def shP (l : List Sh) (t : Txt) (g : Int32) (j : Nat) : Bool := decide ((l.getD j shD).2.1 = g) && decide ((l.getD j shD).1 = t)
def shAt (l : List Sh) (t : Txt) (g : Int32) : Option Nat := ffind (shP l t g) l.length 0
def shPut (l : List Sh) (h : Nat) (m : List Nat) : List Sh := l.set h ((l.getD h shD).1, (l.getD h shD).2.1, m)
def shLeave (l : List Sh) (h c : Nat) : List Sh := if (l.getD h shD).2.2.erase c = [] then l.eraseIdx h else shPut l h ((l.getD h shD).2.2.erase c)
def shJoin (l : List Sh) (t : Txt) (g : Int32) (c : Nat) : List Sh := match shAt l t g with
  | none => l ++ [(t, g, [c])]
  | some h => shPut l h ((l.getD h shD).2.2 ++ [c])
def shGone (l : List Sh) (c : Nat) : List Sh := (l.map (fun x => (x.1, x.2.1, x.2.2.erase c))).filter (fun x => !x.2.2.isEmpty)
theorem shAt_some {l : List Sh} {t : Txt} {g : Int32} {h : Nat} (e : shAt l t g = some h) : h < l.length ∧ (l.getD h shD).2.1 = g ∧ (l.getD h shD).1 = t := by
  obtain ⟨_, h2, h3, _⟩ := ffind_some e
  rw [shP, Bool.and_eq_true, decide_eq_true_eq, decide_eq_true_eq] at h3
  exact ⟨by omega, h3⟩
theorem shGone_nil (c : Nat) : shGone [] c = [] := rfl
theorem shGone_cons (x : Sh) (l : List Sh) (c : Nat) : shGone (x :: l) c = if x.2.2.erase c = [] then shGone l c else (x.1, x.2.1, x.2.2.erase c) :: shGone l c := by
  simp only [shGone, List.map_cons, List.filter_cons, List.isEmpty_iff, Bool.not_eq_true']
  by_cases e : x.2.2.erase c = []
  · simp [e]
  · simp [e]
theorem shGone_app (l l' : List Sh) (c : Nat) : shGone (l ++ l') c = shGone l c ++ shGone l' c := by simp [shGone]
theorem shGone_id {l : List Sh} {c : Nat} (h : ∀ x ∈ l, c ∉ x.2.2 ∧ x.2.2 ≠ []) : shGone l c = l := by
  induction l with
  | nil => rfl
  | cons x l ih =>
    obtain ⟨h1, h2⟩ := h x List.mem_cons_self
    rw [shGone_cons, erase_no h1, if_neg h2, ih (fun y hy => h y (List.mem_cons_of_mem _ hy))]
theorem take_drop_at {α : Type} (l : List α) (d : α) {i : Nat} (h : i < l.length) : l = l.take i ++ l.getD i d :: l.drop (i + 1) := by
  rw [gd_in _ _ h, ← List.drop_eq_getElem_cons h, List.take_append_drop]
theorem set_at {α : Type} (l : List α) (x : α) {i : Nat} (h : i < l.length) : l.set i x = l.take i ++ x :: l.drop (i + 1) := List.set_eq_take_append_cons_drop ▸ (by simp [h])
theorem eraseIdx_at {α : Type} (l : List α) (i : Nat) : l.eraseIdx i = l.take i ++ l.drop (i + 1) := List.eraseIdx_eq_take_drop_succ l i
theorem shLeave_at {l : List Sh} {h c : Nat} (hh : h < l.length) : shLeave l h c = l.take h ++ (if (l.getD h shD).2.2.erase c = [] then [] else [((l.getD h shD).1, (l.getD h shD).2.1, (l.getD h shD).2.2.erase c)]) ++ l.drop (h + 1) := by
  unfold shLeave
  split
  · rw [eraseIdx_at]; simp
  · rw [shPut, set_at _ _ hh]; simp
/-- all shares from the last to the first: one step -/
theorem shGone_step {l : List Sh} {i c : Nat} (hi : i < l.length) : l.take i ++ shGone (l.drop i) c = (l.take i ++ (if (l.getD i shD).2.2.erase c = [] then [] else [((l.getD i shD).1, (l.getD i shD).2.1, (l.getD i shD).2.2.erase c)])) ++ shGone (l.drop (i + 1)) c := by
  rw [List.drop_eq_getElem_cons hi, shGone_cons, gd_in _ _ hi]
  split <;> simp
theorem shLeave_get {l : List Sh} {i c : Nat} {r : List Sh} (hi : i < l.length) : shLeave (l.take (i + 1) ++ r) i c = l.take i ++ (if (l.getD i shD).2.2.erase c = [] then [] else [((l.getD i shD).1, (l.getD i shD).2.1, (l.getD i shD).2.2.erase c)]) ++ r := by
  have hl : (l.take (i + 1)).length = i + 1 := by rw [List.length_take]; omega
  have hg : (l.take (i + 1) ++ r).getD i shD = l.getD i shD := by
    rw [List.getD_eq_getElem?_getD, List.getElem?_append_left (by omega), List.getElem?_take_of_lt (by omega), ← List.getD_eq_getElem?_getD]
  rw [shLeave_at (by rw [List.length_append]; omega), hg]
  have e1 : (l.take (i + 1) ++ r).take i = l.take i := by
    rw [List.take_append_of_le_length (by omega), List.take_take, Nat.min_eq_left (by omega)]
  have e2 : (l.take (i + 1) ++ r).drop (i + 1) = r := List.drop_left' hl
  rw [e1, e2]
theorem shGone_leave {l : List Sh} {h c : Nat} (hh : h < l.length) (hd : ∀ x ∈ l, x.2.2.Nodup) : shGone (shLeave l h c) c = shGone l c := by
  rw [shLeave_at hh]
  conv => rhs; rw [take_drop_at l shD hh]
  rw [shGone_app, shGone_app, shGone_app, shGone_cons]
  have hx : (l.getD h shD).2.2.Nodup := hd _ (by rw [gd_in _ _ hh]; exact List.getElem_mem hh)
  have ee : ((l.getD h shD).2.2.erase c).erase c = (l.getD h shD).2.2.erase c := erase_no (fun hm => by
    have := (List.Nodup.mem_erase_iff hx).mp hm
    exact this.1 rfl)
  split
  · simp [shGone_nil]
  · rename_i hne
    rw [shGone_cons, shGone_nil, ee, if_neg hne]; simp
