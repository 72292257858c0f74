/-! TEXTS IN THE REFERENCE: four longs -/
def TB (f : Nat → Int64) (i : Nat) (t : Txt) : Prop := ∀ k, k < 4 → f (i + k) = rc (t.getD k [])
def LB (M : Mem) (a i : Nat) (t : Txt) : Prop := ∀ k, k < 4 → aL a (nW (i + k)) M = some (rc (t.getD k []))
/-! one text before another -/
def ltT : Txt → Txt → Bool
  | _, [] => false
  | [], _ :: _ => true
  | l :: r, m :: q => if l = m then ltT r q else ltS l m
theorem ltS_app : ∀ {a b x y : List Nat}, (∀ c ∈ a, 47 < c) → (∀ c ∈ b, 47 < c) → a ≠ b → (x = [] ∨ ∃ u, x = 47 :: u) → (y = [] ∨ ∃ u, y = 47 :: u) → ltS (a ++ x) (b ++ y) = ltS a b
  | [], [], _, _, _, _, h, _, _ => absurd rfl h
  | [], c :: b, x, y, _, hb, _, hx, _ => by
    have := hb c List.mem_cons_self
    rcases hx with rfl | ⟨u, rfl⟩
    · rfl
    · have e : ¬ 47 = c := by omega
      simp only [List.nil_append, List.cons_append, ltS, e, ↓reduceIte, decide_eq_true_eq]; exact this
  | c :: a, [], x, y, ha, _, _, _, hy => by
    have := ha c List.mem_cons_self
    rcases hy with rfl | ⟨u, rfl⟩
    · rfl
    · have e : ¬ c = 47 := by omega
      have e2 : ¬ c < 47 := by omega
      simp only [List.nil_append, List.cons_append, ltS, e, ↓reduceIte, e2, decide_false]
  | c :: a, d :: b, x, y, ha, hb, h, hx, hy => by
    simp only [List.cons_append, ltS]
    by_cases e : c = d
    · subst e
      simp only [↓reduceIte]
      exact ltS_app (fun z hz => ha z (List.mem_cons_of_mem _ hz)) (fun z hz => hb z (List.mem_cons_of_mem _ hz)) (fun hh => h (hh ▸ rfl)) hx hy
    · simp only [e, ↓reduceIte]
theorem ltS_pre : ∀ (a x y : List Nat), ltS (a ++ x) (a ++ y) = ltS x y
  | [], x, y => rfl
  | c :: a, x, y => by simp only [List.cons_append, ltS, ↓reduceIte, ltS_pre a x y]
def plTx (t : Txt) : Prop := ∀ l ∈ t, l ≠ [] ∧ l.length ≤ 6 ∧ ∀ c ∈ l, plain c = true
theorem txS_cons {l : List Nat} {r : Txt} : ∃ x, txS (l :: r) = l ++ x ∧ ((r = [] ∧ x = []) ∨ (r ≠ [] ∧ x = 47 :: txS r)) := by
  cases r with
  | nil => exact ⟨[], by simp [txS], Or.inl ⟨rfl, rfl⟩⟩
  | cons m q => exact ⟨47 :: txS (m :: q), by simp [txS], Or.inr ⟨by simp, rfl⟩⟩
theorem txS_ne {l : List Nat} {r : Txt} (h : l ≠ []) : txS (l :: r) ≠ [] := by
  obtain ⟨x, e, _⟩ := txS_cons (l := l) (r := r)
  rw [e]; simp [h]
theorem ltT_txS : ∀ {t t' : Txt}, plTx t → plTx t' → ltS (txS t) (txS t') = ltT t t'
  | [], [], _, _ => rfl
  | [], m :: q, _, h' => by
    have := txS_ne (r := q) (h' m List.mem_cons_self).1
    cases e : txS (m :: q) with
    | nil => exact absurd e this
    | cons a b => rfl
  | l :: r, [], h, _ => by
    have := txS_ne (r := r) (h l List.mem_cons_self).1
    cases e : txS (l :: r) with
    | nil => exact absurd e this
    | cons a b => rfl
  | l :: r, m :: q, h, h' => by
    have rl := h l List.mem_cons_self
    have rm := h' m List.mem_cons_self
    obtain ⟨x, e1, hx⟩ := txS_cons (l := l) (r := r)
    obtain ⟨y, e2, hy⟩ := txS_cons (l := m) (r := q)
    have hr : plTx r := fun z hz => h z (List.mem_cons_of_mem _ hz)
    have hq : plTx q := fun z hz => h' z (List.mem_cons_of_mem _ hz)
    rw [e1, e2, ltT]
    by_cases e : l = m
    · subst e
      rw [if_pos rfl, ltS_pre]
      rcases hx with ⟨rfl, rfl⟩ | ⟨nr, rfl⟩ <;> rcases hy with ⟨rfl, rfl⟩ | ⟨nq, rfl⟩
      · rfl
      · cases q with
        | nil => exact absurd rfl nq
        | cons a b => rfl
      · cases r with
        | nil => exact absurd rfl nr
        | cons a b => rfl
      · rw [ltS, if_pos rfl]; exact ltT_txS hr hq
    · rw [if_neg e]
      refine ltS_app (fun c hc => ?_) (fun c hc => ?_) e ?_ ?_
      · have := plain_rng (rl.2.2 c hc); omega
      · have := plain_rng (rm.2.2 c hc); omega
      · rcases hx with ⟨_, rfl⟩ | ⟨_, rfl⟩
        · exact Or.inl rfl
        · exact Or.inr ⟨_, rfl⟩
      · rcases hy with ⟨_, rfl⟩ | ⟨_, rfl⟩
        · exact Or.inl rfl
        · exact Or.inr ⟨_, rfl⟩
theorem lcmp_ge (a b : Int64) : (nW 0 ≤ lcmpE a b) = (b ≤ a) := propext (lg_cmp_ge a b)
theorem ltT_at : ∀ {i : Nat} {a b : Txt}, (∀ j, j < i → a.getD j [] = b.getD j []) → i ≤ a.length → i ≤ b.length → ltT a b = ltT (a.drop i) (b.drop i)
  | 0, a, b, _, _, _ => by simp
  | i + 1, [], b, _, h, _ => by simp at h
  | i + 1, x :: a, [], _, _, h => by simp at h
  | i + 1, x :: a, y :: b, h3, h1, h2 => by
    have e : x = y := by have := h3 0 (by omega); simpa using this
    subst e
    rw [ltT, if_pos rfl, List.drop_succ_cons, List.drop_succ_cons]
    exact ltT_at (fun j hj => by have := h3 (j + 1) (by omega); simpa using this) (by simpa using h1) (by simpa using h2)
theorem plTx_ok {t : Txt} (h : okTx t) (h2 : topical t) : plTx t := fun l hl => by
  rcases h.2.1 l hl with ⟨a, b, c⟩ | e | e
  · exact ⟨a, b, c⟩
  · exact absurd e (h2 l hl).1
  · exact absurd e (h2 l hl).2
theorem plTx_lev {t : Txt} (h : plTx t) (k : Nat) : (t.getD k []).length ≤ 6 ∧ ∀ c ∈ t.getD k [], plain c = true := by
  by_cases hk : k < t.length
  · rw [gd_in _ _ hk]; exact (h _ (List.getElem_mem hk)).2
  · rw [gd_out _ _ (by omega)]; simp
theorem ltT_first {t t' : Txt} (h : plTx t) (h' : plTx t') {i : Nat} (he : ∀ j, j < i → t.getD j [] = t'.getD j []) (hne : t.getD i [] ≠ t'.getD i []) : ltT t t' = ltS (t.getD i []) (t'.getD i []) := by
  have L : ∀ {u v : Txt}, plTx v → (∀ j, j < i → u.getD j [] = v.getD j []) → i ≤ v.length → i ≤ u.length ∨ i = 0 := by
    intro u v hv hh hi
    by_cases h0 : i = 0
    · exact Or.inr h0
    · refine Or.inl ?_
      by_cases hu : i ≤ u.length
      · exact hu
      · exfalso
        have := hh (i - 1) (by omega)
        rw [gd_out _ _ (by omega), gd_in _ _ (by omega)] at this
        exact (hv _ (List.getElem_mem (show i - 1 < v.length by omega))).1 this.symm
  have h1 : i ≤ t.length ∧ i ≤ t'.length := by
    by_cases hi : i ≤ t.length
    · have := L (u := t') h (fun j hj => (he j hj).symm) hi
      omega
    · by_cases hi' : i ≤ t'.length
      · have := L (u := t) h' he hi'
        omega
      · exfalso; apply hne
        rw [gd_out _ _ (by omega), gd_out _ _ (by omega)]
  rw [ltT_at he h1.1 h1.2]
  by_cases ha : i < t.length
  · by_cases hb : i < t'.length
    · rw [gd_in _ _ ha, gd_in _ _ hb] at hne ⊢
      rw [List.drop_eq_getElem_cons ha, List.drop_eq_getElem_cons hb, ltT, if_neg hne]
    · rw [List.drop_eq_nil_of_le (show t'.length ≤ i by omega), gd_out _ _ (show t'.length ≤ i by omega)]
      cases t.drop i <;> cases t.getD i [] <;> rfl
  · by_cases hb : i < t'.length
    · have := (h' _ (List.getElem_mem hb)).1
      rw [List.drop_eq_nil_of_le (show t.length ≤ i by omega), List.drop_eq_getElem_cons hb, gd_out _ _ (show t.length ≤ i by omega), gd_in _ _ hb]
      cases e : t'[i] with
      | nil => exact absurd e this
      | cons a b => rfl
    · exfalso; apply hne
      rw [gd_out _ _ (by omega), gd_out _ _ (by omega)]
