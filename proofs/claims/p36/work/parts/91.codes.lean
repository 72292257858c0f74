/-! CODES OF LEVELS: seven bits a sign in the class, base 37 in the reference -/
theorem len_pos {α : Type} {l : List α} (h : l ≠ []) : 0 < l.length := List.length_pos_iff.mpr h
theorem gd_in {α : Type} (l : List α) (d : α) {i : Nat} (h : i < l.length) : l.getD i d = l[i] := by
  rw [List.getD_eq_getElem?_getD, List.getElem?_eq_getElem h]; rfl
theorem gd_out {α : Type} (l : List α) (d : α) {i : Nat} (h : l.length ≤ i) : l.getD i d = d := by
  rw [List.getD_eq_getElem?_getD, List.getElem?_eq_none h]; rfl
theorem c7_snoc (l : List Nat) (c : Nat) : c7 (l ++ [c]) = c7 l * 128 + c := by simp [c7, List.foldl_append]
theorem c7_pos {l : List Nat} (h : ∀ c ∈ l, 0 < c ∧ c < 128) (h2 : l ≠ []) : 0 < c7 l := by
  have e := List.dropLast_concat_getLast h2
  rw [← e, c7_snoc]
  have := h _ (List.getLast_mem h2)
  omega
theorem c7_inj : ∀ (n : Nat) {l l' : List Nat}, l.length ≤ n → (∀ c ∈ l, 0 < c ∧ c < 128) → (∀ c ∈ l', 0 < c ∧ c < 128) → c7 l = c7 l' → l = l'
  | n, l, l', hn, h, h', e => by
    by_cases hl : l = []
    · subst hl
      by_cases hl' : l' = []
      · exact hl'.symm
      · have := c7_pos h' hl'
        have : c7 [] = 0 := rfl
        omega
    · by_cases hl' : l' = []
      · subst hl'
        have := c7_pos h hl
        have : c7 [] = 0 := rfl
        omega
      · have e1 := List.dropLast_concat_getLast hl
        have e2 := List.dropLast_concat_getLast hl'
        have b1 := h _ (List.getLast_mem hl)
        have b2 := h' _ (List.getLast_mem hl')
        rw [← e1, ← e2, c7_snoc, c7_snoc] at e
        have hlen := len_pos hl
        match n, hn with
        | 0, hn => omega
        | n + 1, hn =>
          have i := c7_inj n (l := l.dropLast) (l' := l'.dropLast) (by rw [List.length_dropLast]; omega) (fun c hc => h c (List.dropLast_subset _ hc)) (fun c hc => h' c (List.dropLast_subset _ hc)) (by omega)
          have i2 : l.getLast hl = l'.getLast hl' := by omega
          rw [← e1, ← e2, i, i2]
theorem c7_lt : ∀ (n : Nat) {l : List Nat}, l.length ≤ n → (∀ c ∈ l, 0 < c ∧ c < 128) → c7 l < 128 ^ n
  | n, l, hn, h => by
    by_cases hl : l = []
    · subst hl; exact Nat.pow_pos (by omega)
    · have e1 := List.dropLast_concat_getLast hl
      have b1 := h _ (List.getLast_mem hl)
      have hlen := len_pos hl
      match n, hn with
      | 0, hn => omega
      | n + 1, hn =>
        have i := c7_lt n (l := l.dropLast) (by rw [List.length_dropLast]; omega) (fun c hc => h c (List.dropLast_subset _ hc))
        rw [← e1, c7_snoc, Nat.pow_succ]; omega
theorem plain_rng {c : Nat} (h : plain c = true) : (97 ≤ c ∧ c ≤ 122) ∨ (48 ≤ c ∧ c ≤ 57) := by
  simpa [plain] using h
theorem okLev_rng {l : List Nat} (h : okLev l) : (∀ c ∈ l, 0 < c ∧ c < 128) ∧ l.length ≤ 6 ∧ l ≠ [] := by
  rcases h with ⟨h1, h2, h3⟩ | rfl | rfl
  · exact ⟨fun c hc => by have := plain_rng (h3 c hc); omega, h2, h1⟩
  · simp
  · simp
def sg (c : Nat) : Nat := if c ≤ 57 then c - 47 else c - 86
def rcK : Nat → List Nat → Nat
  | 0, _ => 0
  | _ + 1, [] => 0
  | k + 1, c :: r => sg c * 37 ^ k + rcK k r
def rc (l : List Nat) : Int64 := if l = [43] then -1 else if l = [35] then -2 else nL (rcK 6 l)
theorem sg_rng {c : Nat} (h : plain c = true) : 0 < sg c ∧ sg c < 37 := by
  have := plain_rng h
  unfold sg; split <;> omega
theorem sg_lt {c d : Nat} (h : plain c = true) (h' : plain d = true) : sg c < sg d ↔ c < d := by
  have := plain_rng h
  have := plain_rng h'
  unfold sg; split <;> split <;> omega
theorem rcK_lt : ∀ (k : Nat) {l : List Nat}, (∀ c ∈ l, plain c = true) → rcK k l < 37 ^ k
  | 0, _, _ => by simp [rcK]
  | k + 1, [], _ => Nat.pow_pos (by omega)
  | k + 1, c :: r, h => by
    have i := rcK_lt k (l := r) (fun d hd => h d (List.mem_cons_of_mem _ hd))
    have b := sg_rng (h c List.mem_cons_self)
    rw [rcK, Nat.pow_succ]
    have : sg c * 37 ^ k ≤ 36 * 37 ^ k := Nat.mul_le_mul_right _ (by omega)
    omega
theorem rcK_pos {k : Nat} {c : Nat} {r : List Nat} (h : plain c = true) : 37 ^ k ≤ rcK (k + 1) (c :: r) := by
  have b := sg_rng h
  rw [rcK]
  have : 1 * 37 ^ k ≤ sg c * 37 ^ k := Nat.mul_le_mul_right _ (by omega)
  omega
/-- one list of signs before another -/
def ltS : List Nat → List Nat → Bool
  | _, [] => false
  | [], _ :: _ => true
  | a :: r, b :: q => if a = b then ltS r q else decide (a < b)
theorem ltS_irr : ∀ l, ltS l l = false
  | [] => rfl
  | a :: r => by simp [ltS, ltS_irr r]
theorem rcK_ord : ∀ (k : Nat) {l l' : List Nat}, l.length ≤ k → l'.length ≤ k → (∀ c ∈ l, plain c = true) → (∀ c ∈ l', plain c = true) → (rcK k l < rcK k l' ↔ ltS l l' = true) ∧ (rcK k l = rcK k l' ↔ l = l')
  | 0, l, l', hl, hl', _, _ => by
    have e := List.length_eq_zero_iff.mp (Nat.le_zero.mp hl)
    have e' := List.length_eq_zero_iff.mp (Nat.le_zero.mp hl')
    subst e; subst e'
    simp [rcK, ltS]
  | k + 1, [], [], _, _, _, _ => by simp [rcK, ltS]
  | k + 1, [], c :: r, _, _, _, h' => by
    have := rcK_pos (k := k) (r := r) (h' c List.mem_cons_self)
    have p : 0 < 37 ^ k := Nat.pow_pos (by omega)
    have e : rcK (k + 1) [] = 0 := rfl
    rw [e]
    refine ⟨⟨fun _ => rfl, fun _ => by omega⟩, ⟨fun h => by omega, fun h => by cases h⟩⟩
  | k + 1, c :: r, [], _, _, h, _ => by
    have := rcK_pos (k := k) (r := r) (h c List.mem_cons_self)
    have p : 0 < 37 ^ k := Nat.pow_pos (by omega)
    have e : rcK (k + 1) [] = 0 := rfl
    rw [e]
    refine ⟨⟨fun h => by omega, fun h => by simp [ltS] at h⟩, ⟨fun h => by omega, fun h => by cases h⟩⟩
  | k + 1, c :: r, d :: q, hl, hl', h, h' => by
    obtain ⟨i1, i2⟩ := rcK_ord k (l := r) (l' := q) (by simpa using hl) (by simpa using hl') (fun x hx => h x (List.mem_cons_of_mem _ hx)) (fun x hx => h' x (List.mem_cons_of_mem _ hx))
    have b1 := rcK_lt k (l := r) (fun x hx => h x (List.mem_cons_of_mem _ hx))
    have b2 := rcK_lt k (l := q) (fun x hx => h' x (List.mem_cons_of_mem _ hx))
    have hc := h c List.mem_cons_self
    have hd := h' d List.mem_cons_self
    have s := sg_lt hc hd
    have s' := sg_lt hd hc
    rw [rcK, rcK]
    by_cases e : c = d
    · subst e
      refine ⟨?_, ?_⟩
      · rw [Nat.add_lt_add_iff_left, i1]; simp [ltS]
      · rw [Nat.add_left_cancel_iff, i2]; simp
    · have hne : ∀ x y : Nat, x < y → x * 37 ^ k + 37 ^ k ≤ y * 37 ^ k := by
        intro x y hxy
        have := Nat.mul_le_mul_right (37 ^ k) (show x + 1 ≤ y by omega)
        rw [Nat.add_mul, Nat.one_mul] at this; exact this
      by_cases hlt : c < d
      · have := hne _ _ (s.mpr hlt)
        refine ⟨⟨fun _ => by simp [ltS, e, hlt], fun _ => by omega⟩, ⟨fun h => by omega, fun h => absurd (List.cons.inj h).1 e⟩⟩
      · have hgt : d < c := by omega
        have := hne _ _ (s'.mpr hgt)
        refine ⟨⟨fun h => by omega, fun h => by simp [ltS, e] at h; omega⟩, ⟨fun h => by omega, fun h => absurd (List.cons.inj h).1 e⟩⟩
theorem nL_int {n : Nat} (h : n < 9223372036854775808) : (nL n).toInt = n := Int64.toInt_ofNat_of_lt h
theorem nL_inj {a b : Nat} (ha : a < 9223372036854775808) (hb : b < 9223372036854775808) : nL a = nL b ↔ a = b := by
  rw [← Int64.toInt_inj, nL_int ha, nL_int hb]; omega
theorem nL_lt {a b : Nat} (ha : a < 9223372036854775808) (hb : b < 9223372036854775808) : nL a < nL b ↔ a < b := by
  rw [Int64.lt_iff_toInt_lt, nL_int ha, nL_int hb]; omega
theorem rcK6_lt {l : List Nat} (h : ∀ c ∈ l, plain c = true) : rcK 6 l < 9223372036854775808 := Nat.lt_trans (rcK_lt 6 h) (by decide)
theorem c76_lt {l : List Nat} (h : okLev l) : c7 l < 9223372036854775808 := by
  obtain ⟨h1, h2, _⟩ := okLev_rng h
  exact Nat.lt_trans (c7_lt 6 h2 h1) (by decide)
def okL0 (l : List Nat) : Prop := l = [] ∨ okLev l
theorem okTx_lev {t : Txt} (h : okTx t) (k : Nat) : okL0 (t.getD k []) := by
  by_cases hk : k < t.length
  · rw [gd_in _ _ hk]; exact Or.inr (h.2.1 _ (List.getElem_mem hk))
  · rw [gd_out _ _ (by omega)]; exact Or.inl rfl
theorem c70_inj {l l' : List Nat} (h : okL0 l) (h' : okL0 l') : (nL (c7 l) = nL (c7 l')) = (l = l') := by
  have r : ∀ {x : List Nat}, okL0 x → (∀ c ∈ x, 0 < c ∧ c < 128) ∧ x.length ≤ 6 ∧ c7 x < 9223372036854775808 := by
    intro x hx
    rcases hx with rfl | hx
    · simp [c7]
    · exact ⟨(okLev_rng hx).1, (okLev_rng hx).2.1, c76_lt hx⟩
  obtain ⟨a1, a2, a3⟩ := r h
  obtain ⟨b1, b2, b3⟩ := r h'
  rw [nL_inj a3 b3]
  exact propext ⟨c7_inj 6 a2 a1 b1, fun e => e ▸ rfl⟩
theorem pl0 {l : List Nat} (h : okL0 l) : (l.length ≤ 6 ∧ (∀ c ∈ l, plain c = true)) ∨ l = [43] ∨ l = [35] := by
  rcases h with rfl | ⟨_, h2, h3⟩ | h | h
  · exact Or.inl ⟨by simp, by simp⟩
  · exact Or.inl ⟨h2, h3⟩
  · exact Or.inr (Or.inl h)
  · exact Or.inr (Or.inr h)
theorem pl_ne {l : List Nat} (h : ∀ c ∈ l, plain c = true) : l ≠ [43] ∧ l ≠ [35] := by
  refine ⟨?_, ?_⟩ <;> rintro rfl
  · exact absurd (h 43 List.mem_cons_self) (by decide)
  · exact absurd (h 35 List.mem_cons_self) (by decide)
theorem rc_pl {l : List Nat} (h : ∀ c ∈ l, plain c = true) : rc l = nL (rcK 6 l) := by
  simp only [rc, (pl_ne h).1, (pl_ne h).2, ↓reduceIte]
theorem nL_nm {n : Nat} (h : n < 9223372036854775808) : nL n ≠ -1 ∧ nL n ≠ -2 := by
  refine ⟨fun e => ?_, fun e => ?_⟩
  · have := congrArg Int64.toInt e
    rw [nL_int h] at this
    have e2 : (-1 : Int64).toInt = -1 := by decide
    omega
  · have := congrArg Int64.toInt e
    rw [nL_int h] at this
    have e2 : (-2 : Int64).toInt = -2 := by decide
    omega
theorem rc_43 : rc [43] = -1 := rfl
theorem rc_35 : rc [35] = -2 := by decide
theorem rc_inj {l l' : List Nat} (h : okL0 l) (h' : okL0 l') : (rc l = rc l') = (l = l') := by
  refine propext ⟨fun e => ?_, fun e => e ▸ rfl⟩
  rcases pl0 h with ⟨a1, a2⟩ | rfl | rfl <;> rcases pl0 h' with ⟨b1, b2⟩ | rfl | rfl
  · rw [rc_pl a2, rc_pl b2, nL_inj (rcK6_lt a2) (rcK6_lt b2)] at e
    exact (rcK_ord 6 a1 b1 a2 b2).2.mp e
  · rw [rc_pl a2, rc_43] at e; exact absurd e (nL_nm (rcK6_lt a2)).1
  · rw [rc_pl a2, rc_35] at e; exact absurd e (nL_nm (rcK6_lt a2)).2
  · rw [rc_pl b2, rc_43] at e; exact absurd e.symm (nL_nm (rcK6_lt b2)).1
  · rfl
  · rw [rc_43, rc_35] at e; exact absurd e (by decide)
  · rw [rc_pl b2, rc_35] at e; exact absurd e.symm (nL_nm (rcK6_lt b2)).2
  · rw [rc_43, rc_35] at e; exact absurd e (by decide)
  · rfl
theorem rc_lt {l l' : List Nat} (h : l.length ≤ 6 ∧ ∀ c ∈ l, plain c = true) (h' : l'.length ≤ 6 ∧ ∀ c ∈ l', plain c = true) : (rc l < rc l') = (ltS l l' = true) := by
  rw [rc_pl h.2, rc_pl h'.2, nL_lt (rcK6_lt h.2) (rcK6_lt h'.2)]
  exact propext (rcK_ord 6 h.1 h'.1 h.2 h'.2).1
theorem rc_nil : rc [] = 0 := by decide
theorem rc_eq0 {l : List Nat} (h : okL0 l) : (rc l = 0) = (l = []) := by rw [← rc_nil]; exact rc_inj h (Or.inl rfl)
theorem rc_eqm1 {l : List Nat} (h : okL0 l) : (rc l = -1) = (l = [43]) := by rw [← rc_43]; exact rc_inj h (Or.inr (Or.inr (Or.inl rfl)))
theorem rc_eqm2 {l : List Nat} (h : okL0 l) : (rc l = -2) = (l = [35]) := by rw [← rc_35]; exact rc_inj h (Or.inr (Or.inr (Or.inr rfl)))
theorem c7_eqp {l : List Nat} (h : okL0 l) : (nL (c7 l) = 43) = (l = [43]) := by
  have : (43 : Int64) = nL (c7 [43]) := by decide
  rw [this]; exact c70_inj h (Or.inr (Or.inr (Or.inl rfl)))
theorem tx_ext {t t' : Txt} (h : okTx t) (h' : okTx t') (e : ∀ k, k < 4 → t.getD k [] = t'.getD k []) : t = t' := by
  have key : ∀ {u v : Txt}, okTx u → okTx v → (∀ k, k < 4 → u.getD k [] = v.getD k []) → u.length ≤ v.length := by
    intro u v hu hv he
    by_cases hl : u.length ≤ v.length
    · exact hl
    · exfalso
      have h1 := he v.length (by have := hu.1; omega)
      have h2 : v.length < u.length := by omega
      rw [gd_in _ _ h2, gd_out _ _ (Nat.le_refl _)] at h1
      have := (okLev_rng (hu.2.1 _ (List.getElem_mem h2))).2.2
      exact this h1
  have hl : t.length = t'.length := Nat.le_antisymm (key h h' e) (key h' h (fun k hk => (e k hk).symm))
  refine List.ext_getElem hl (fun k h1 h2 => ?_)
  have := e k (by have := h.1; omega)
  rwa [gd_in _ _ h1, gd_in _ _ h2] at this
