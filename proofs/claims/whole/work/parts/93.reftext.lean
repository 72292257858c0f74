/-! TEXTS IN THE REFERENCE: four longs -/
def TB (f : Nat → Int64) (i : Nat) (t : Txt) : Prop := ∀ k, k < 4 → f (i + k) = rc (t.getD k [])
def LB (M : Mem) (a i : Nat) (t : Txt) : Prop := ∀ k, k < 4 → aL a (nW (i + k)) M = some (rc (t.getD k []))
theorem LB_of {N : Mem} {V : VR} (h : KR N) {k n i : Nat} {t : Txt} (hk : 1 ≤ k ∧ k < 13) (ha : KA k = (14, n)) (hi : i + 4 ≤ n) (hn : n < 5000) (hT : TB (V.2.1 k) i t) : LB (RW N V) (908 + k) i t := fun j hj => by
  rw [W_aLg h hk ha (show i + j < n by omega) hn, hT j hj]
theorem isSame_L6 {M : Mem} {a b i j : Nat} {t t' : Txt} (hA : LB M a i t) (hB : LB M b j t') (ht : okTx t) (ht' : okTx t') : ∀ n m c, m ≤ 4 → 4 - m < n → f_X12_isSame_L6 n a (nW i) b (nW j) (zI c) (nW m) M = some (zI (c && allB (fun k => decide (t.getD k [] = t'.getD k [])) (4 - m) m), M)
  | 0, m, c, _, hn => absurd hn (by omega)
  | n + 1, m, c, hm, hn => by
    by_cases he : m = 4
    · subst he
      simp (disch := omega) only [f_X12_isSame_L6, nW_lit, nW_le, Nat.le_refl, ↓reduceIte, okZ_z, Nat.sub_self, allB, Bool.and_true]
    · have n1 : ¬ 4 ≤ m := by omega
      have i1 := isSame_L6 hA hB ht ht' n (m + 1) true (by omega) (by omega)
      have i0 := isSame_L6 hA hB ht ht' n (m + 1) false (by omega) (by omega)
      rw [zI_t] at i1
      rw [zI_f] at i0
      rw [show 4 - m = (4 - (m + 1)) + 1 by omega, allB]
      have e := rc_inj (okTx_lev ht m) (okTx_lev ht' m)
      cases c with
      | false => simp (disch := omega) only [f_X12_isSame_L6, nW_lit, nW_le, nW_add, n1, ↓reduceIte, zI_f, i0, Bool.false_and]
      | true =>
        have t1 : ¬ nW 1 = nW 0 := by decide
        by_cases hq : t.getD m [] = t'.getD m []
        · simp (disch := omega) only [f_X12_isSame_L6, nW_lit, nW_le, nW_add, n1, ↓reduceIte, zI_t, t1, hA m (by omega), hB m (by omega), Option.bind_some, lcmp0, e, hq, i1, Bool.true_and, decide_true]
        · simp (disch := omega) only [f_X12_isSame_L6, nW_lit, nW_le, nW_add, n1, ↓reduceIte, zI_t, t1, hA m (by omega), hB m (by omega), Option.bind_some, lcmp0, e, hq, i0, Bool.true_and, decide_false, Bool.false_and]
theorem ref_isSame {M : Mem} {a b i j : Nat} {t t' : Txt} (hA : LB M a i t) (hB : LB M b j t') (ht : okTx t) (ht' : okTx t') : f_X12_isSame a (nW i) b (nW j) M = some (zI (decide (t = t')), M) := by
  have h := isSame_L6 hA hB ht ht' FU 0 true (by omega) (by simp only [FU]; omega)
  rw [zI_t] at h
  have e : allB (fun k => decide (t.getD k [] = t'.getD k [])) (4 - 0) 0 = decide (t = t') := by
    by_cases hq : t = t'
    · subst hq
      rw [decide_eq_true rfl, allB_iff]; intro j _ _; simp
    · rw [decide_eq_false hq, Bool.eq_false_iff]
      intro hh
      rw [allB_iff] at hh
      exact hq (tx_ext ht ht' (fun k hk => of_decide_eq_true (hh k (by omega) (by omega))))
  rw [Bool.true_and, e] at h
  simp only [f_X12_isSame, nW_lit, h]
theorem levelsOf_L2 {M : Mem} {a i : Nat} {t : Txt} (hA : LB M a i t) (ht : okTx t) : ∀ n m, m ≤ t.length → 4 - m < n → f_X12_levelsOf_L2 n a (nW i) (nW m) M = some (nW t.length, M)
  | 0, m, _, hn => absurd hn (by omega)
  | n + 1, m, hm, hn => by
    have hl := ht.1
    by_cases he : m = t.length
    · subst he
      by_cases h4 : t.length = 4
      · simp (disch := omega) only [f_X12_levelsOf_L2, nW_lit, nW_le, h4, Nat.le_refl, ↓reduceIte]
      · have n1 : ¬ 4 ≤ t.length := by omega
        have e : t.getD t.length [] = [] := gd_out _ _ (Nat.le_refl _)
        have h5 := hA t.length (by omega)
        rw [e, rc_nil] at h5
        have l0 : lcmpE 0 0 = nW 0 := by decide
        simp (disch := omega) only [f_X12_levelsOf_L2, nW_lit, nW_le, nW_add, n1, ↓reduceIte, h5, Option.bind_some, l0]
    · have n1 : ¬ 4 ≤ m := by omega
      have ih := levelsOf_L2 hA ht n (m + 1) (by omega) (by omega)
      have h5 := hA m (by omega)
      have e : ¬ rc (t.getD m []) = 0 := by
        rw [rc_eq0 (okTx_lev ht m), gd_in _ _ (by omega)]
        exact (okLev_rng (ht.2.1 _ (List.getElem_mem (by omega)))).2.2
      simp (disch := omega) only [f_X12_levelsOf_L2, nW_lit, nW_le, nW_add, n1, ↓reduceIte, h5, Option.bind_some, lcmp0, e, ih]
theorem ref_levelsOf {M : Mem} {a i : Nat} {t : Txt} (hA : LB M a i t) (ht : okTx t) : f_X12_levelsOf a (nW i) M = some (nW t.length, M) := by
  have := levelsOf_L2 hA ht FU 0 (by omega) (by simp only [FU]; omega)
  simp only [f_X12_levelsOf, nW_lit, this]
/-! one text before another -/
def ltT : Txt → Txt → Bool
  | _, [] => false
  | [], _ :: _ => true
  | l :: r, m :: q => if l = m then ltT r q else ltS l m
theorem ltS_app : ∀ {a b x y : List Nat}, (∀ c ∈ a, 47 < c) → (∀ c ∈ b, 47 < c) → a ≠ b → (x = [] ∨ ∃ u, x = 47 :: u) → (y = [] ∨ ∃ u, y = 47 :: u) → ltS (a ++ x) (b ++ y) = ltS a b
  | [], [], _, _, _, _, h, _, _ => absurd rfl h
  | [], c :: b, x, y, _, hb, _, hx, _ => by
    have := hb c List.mem_cons_self
    rcases hx with rfl | ⟨u, rfl⟩
    · rfl
    · have e : ¬ 47 = c := by omega
      simp only [List.nil_append, List.cons_append, ltS, e, ↓reduceIte, decide_eq_true_eq]; exact this
  | c :: a, [], x, y, ha, _, _, _, hy => by
    have := ha c List.mem_cons_self
    rcases hy with rfl | ⟨u, rfl⟩
    · rfl
    · have e : ¬ c = 47 := by omega
      have e2 : ¬ c < 47 := by omega
      simp only [List.nil_append, List.cons_append, ltS, e, ↓reduceIte, e2, decide_false]
  | c :: a, d :: b, x, y, ha, hb, h, hx, hy => by
    simp only [List.cons_append, ltS]
    by_cases e : c = d
    · subst e
      simp only [↓reduceIte]
      exact ltS_app (fun z hz => ha z (List.mem_cons_of_mem _ hz)) (fun z hz => hb z (List.mem_cons_of_mem _ hz)) (fun hh => h (hh ▸ rfl)) hx hy
    · simp only [e, ↓reduceIte]
theorem ltS_pre : ∀ (a x y : List Nat), ltS (a ++ x) (a ++ y) = ltS x y
  | [], x, y => rfl
  | c :: a, x, y => by simp only [List.cons_append, ltS, ↓reduceIte, ltS_pre a x y]
def plTx (t : Txt) : Prop := ∀ l ∈ t, l ≠ [] ∧ l.length ≤ 6 ∧ ∀ c ∈ l, plain c = true
theorem txS_cons {l : List Nat} {r : Txt} : ∃ x, txS (l :: r) = l ++ x ∧ ((r = [] ∧ x = []) ∨ (r ≠ [] ∧ x = 47 :: txS r)) := by
  cases r with
  | nil => exact ⟨[], by simp [txS], Or.inl ⟨rfl, rfl⟩⟩
  | cons m q => exact ⟨47 :: txS (m :: q), by simp [txS], Or.inr ⟨by simp, rfl⟩⟩
theorem txS_ne {l : List Nat} {r : Txt} (h : l ≠ []) : txS (l :: r) ≠ [] := by
  obtain ⟨x, e, _⟩ := txS_cons (l := l) (r := r)
  rw [e]; simp [h]
theorem ltT_txS : ∀ {t t' : Txt}, plTx t → plTx t' → ltS (txS t) (txS t') = ltT t t'
  | [], [], _, _ => rfl
  | [], m :: q, _, h' => by
    have := txS_ne (r := q) (h' m List.mem_cons_self).1
    cases e : txS (m :: q) with
    | nil => exact absurd e this
    | cons a b => rfl
  | l :: r, [], h, _ => by
    have := txS_ne (r := r) (h l List.mem_cons_self).1
    cases e : txS (l :: r) with
    | nil => exact absurd e this
    | cons a b => rfl
  | l :: r, m :: q, h, h' => by
    have rl := h l List.mem_cons_self
    have rm := h' m List.mem_cons_self
    obtain ⟨x, e1, hx⟩ := txS_cons (l := l) (r := r)
    obtain ⟨y, e2, hy⟩ := txS_cons (l := m) (r := q)
    have hr : plTx r := fun z hz => h z (List.mem_cons_of_mem _ hz)
    have hq : plTx q := fun z hz => h' z (List.mem_cons_of_mem _ hz)
    rw [e1, e2, ltT]
    by_cases e : l = m
    · subst e
      rw [if_pos rfl, ltS_pre]
      rcases hx with ⟨rfl, rfl⟩ | ⟨nr, rfl⟩ <;> rcases hy with ⟨rfl, rfl⟩ | ⟨nq, rfl⟩
      · rfl
      · cases q with
        | nil => exact absurd rfl nq
        | cons a b => rfl
      · cases r with
        | nil => exact absurd rfl nr
        | cons a b => rfl
      · rw [ltS, if_pos rfl]; exact ltT_txS hr hq
    · rw [if_neg e]
      refine ltS_app (fun c hc => ?_) (fun c hc => ?_) e ?_ ?_
      · have := plain_rng (rl.2.2 c hc); omega
      · have := plain_rng (rm.2.2 c hc); omega
      · rcases hx with ⟨_, rfl⟩ | ⟨_, rfl⟩
        · exact Or.inl rfl
        · exact Or.inr ⟨_, rfl⟩
      · rcases hy with ⟨_, rfl⟩ | ⟨_, rfl⟩
        · exact Or.inl rfl
        · exact Or.inr ⟨_, rfl⟩
theorem lcmp_ge (a b : Int64) : (nW 0 ≤ lcmpE a b) = (b ≤ a) := propext (lg_cmp_ge a b)
theorem ltT_at : ∀ {i : Nat} {a b : Txt}, (∀ j, j < i → a.getD j [] = b.getD j []) → i ≤ a.length → i ≤ b.length → ltT a b = ltT (a.drop i) (b.drop i)
  | 0, a, b, _, _, _ => by simp
  | i + 1, [], b, _, h, _ => by simp at h
  | i + 1, x :: a, [], _, _, h => by simp at h
  | i + 1, x :: a, y :: b, h3, h1, h2 => by
    have e : x = y := by have := h3 0 (by omega); simpa using this
    subst e
    rw [ltT, if_pos rfl, List.drop_succ_cons, List.drop_succ_cons]
    exact ltT_at (fun j hj => by have := h3 (j + 1) (by omega); simpa using this) (by simpa using h1) (by simpa using h2)
theorem plTx_ok {t : Txt} (h : okTx t) (h2 : topical t) : plTx t := fun l hl => by
  rcases h.2.1 l hl with ⟨a, b, c⟩ | e | e
  · exact ⟨a, b, c⟩
  · exact absurd e (h2 l hl).1
  · exact absurd e (h2 l hl).2
theorem plTx_lev {t : Txt} (h : plTx t) (k : Nat) : (t.getD k []).length ≤ 6 ∧ ∀ c ∈ t.getD k [], plain c = true := by
  by_cases hk : k < t.length
  · rw [gd_in _ _ hk]; exact (h _ (List.getElem_mem hk)).2
  · rw [gd_out _ _ (by omega)]; simp
theorem ltT_first {t t' : Txt} (h : plTx t) (h' : plTx t') {i : Nat} (he : ∀ j, j < i → t.getD j [] = t'.getD j []) (hne : t.getD i [] ≠ t'.getD i []) : ltT t t' = ltS (t.getD i []) (t'.getD i []) := by
  have L : ∀ {u v : Txt}, plTx v → (∀ j, j < i → u.getD j [] = v.getD j []) → i ≤ v.length → i ≤ u.length ∨ i = 0 := by
    intro u v hv hh hi
    by_cases h0 : i = 0
    · exact Or.inr h0
    · refine Or.inl ?_
      by_cases hu : i ≤ u.length
      · exact hu
      · exfalso
        have := hh (i - 1) (by omega)
        rw [gd_out _ _ (by omega), gd_in _ _ (by omega)] at this
        exact (hv _ (List.getElem_mem (show i - 1 < v.length by omega))).1 this.symm
  have h1 : i ≤ t.length ∧ i ≤ t'.length := by
    by_cases hi : i ≤ t.length
    · have := L (u := t') h (fun j hj => (he j hj).symm) hi
      omega
    · by_cases hi' : i ≤ t'.length
      · have := L (u := t) h' he hi'
        omega
      · exfalso; apply hne
        rw [gd_out _ _ (by omega), gd_out _ _ (by omega)]
  rw [ltT_at he h1.1 h1.2]
  by_cases ha : i < t.length
  · by_cases hb : i < t'.length
    · rw [gd_in _ _ ha, gd_in _ _ hb] at hne ⊢
      rw [List.drop_eq_getElem_cons ha, List.drop_eq_getElem_cons hb, ltT, if_neg hne]
    · rw [List.drop_eq_nil_of_le (show t'.length ≤ i by omega), gd_out _ _ (show t'.length ≤ i by omega)]
      cases t.drop i <;> cases t.getD i [] <;> rfl
  · by_cases hb : i < t'.length
    · have := (h' _ (List.getElem_mem hb)).1
      rw [List.drop_eq_nil_of_le (show t.length ≤ i by omega), List.drop_eq_getElem_cons hb, gd_out _ _ (show t.length ≤ i by omega), gd_in _ _ hb]
      cases e : t'[i] with
      | nil => exact absurd e this
      | cons a b => rfl
    · exfalso; apply hne
      rw [gd_out _ _ (by omega), gd_out _ _ (by omega)]
theorem isBefore_L3 {M : Mem} {a b i j : Nat} {t t' : Txt} (hA : LB M a i t) (hB : LB M b j t') (ht : okTx t) (ht' : okTx t') (hp : plTx t) (hp' : plTx t') : ∀ n m, m ≤ 4 → 4 - m < n → (∀ k, k < m → t.getD k [] = t'.getD k []) → f_X12_isBefore_L3 n a (nW i) b (nW j) (nW m) M = some (zI (ltT t t'), M)
  | 0, m, _, hn, _ => absurd hn (by omega)
  | n + 1, m, hm, hn, hd => by
    by_cases he : m = 4
    · subst he
      have e := tx_ext ht ht' hd
      subst e
      have : ltT t t = false := by rw [← ltT_txS hp hp, ltS_irr]
      simp (disch := omega) only [f_X12_isBefore_L3, nW_lit, nW_le, Nat.le_refl, ↓reduceIte, this, zI_f, okZ_0]
    · have n1 : ¬ 4 ≤ m := by omega
      have e := rc_inj (okTx_lev ht m) (okTx_lev ht' m)
      by_cases hq : t.getD m [] = t'.getD m []
      · have ih := isBefore_L3 hA hB ht ht' hp hp' n (m + 1) (by omega) (by omega) (fun k hk => by
          by_cases h : k = m
          · subst h; exact hq
          · exact hd k (by omega))
        simp (disch := omega) only [f_X12_isBefore_L3, nW_lit, nW_le, nW_add, n1, ↓reduceIte, hA m (by omega), hB m (by omega), Option.bind_some, lcmp0, e, hq, ih]
      · have f := ltT_first hp hp' hd hq
        have g := rc_lt (plTx_lev hp m) (plTx_lev hp' m)
        cases hs : ltS (t.getD m []) (t'.getD m []) with
        | true =>
          have : ¬ rc (t'.getD m []) ≤ rc (t.getD m []) := by rw [Int64.not_le, g]; exact hs
          simp (disch := omega) only [f_X12_isBefore_L3, nW_lit, nW_le, nW_add, n1, ↓reduceIte, hA m (by omega), hB m (by omega), Option.bind_some, lcmp0, lcmp_ge, e, hq, this, f, hs, zI_t, okZ_1]
        | false =>
          have : rc (t'.getD m []) ≤ rc (t.getD m []) := by rw [← Int64.not_lt, g, hs]; decide
          simp (disch := omega) only [f_X12_isBefore_L3, nW_lit, nW_le, nW_add, n1, ↓reduceIte, hA m (by omega), hB m (by omega), Option.bind_some, lcmp0, lcmp_ge, e, hq, this, f, hs, zI_f, okZ_0]
theorem ref_isBefore {M : Mem} {a b i j : Nat} {t t' : Txt} (hA : LB M a i t) (hB : LB M b j t') (ht : okTx t) (ht' : okTx t') (hp : topical t) (hp' : topical t') : f_X12_isBefore a (nW i) b (nW j) M = some (zI (ltS (txS t) (txS t')), M) := by
  have := isBefore_L3 hA hB ht ht' (plTx_ok ht hp) (plTx_ok ht' hp') FU 0 (by omega) (by simp only [FU]; omega) (fun k hk => by omega)
  rw [ltT_txS (plTx_ok ht hp) (plTx_ok ht' hp')]
  simp only [f_X12_isBefore, nW_lit, this]
