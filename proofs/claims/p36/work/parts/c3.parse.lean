/-! READING A TEXT: what both sides do, in words of their own -/
/-- the class: sign by sign; levels so far, signs of the level, its wildcard -/
def fe (wild : Bool) : List Nat → Nat → Nat → Nat → Nat → Int32
  | [], _, n, _, i => if n = 0 then nW i else -nW 1
  | c :: r, lev, n, w, i => if c = 47 then (if n = 0 ∨ w = 35 ∨ lev = 4 then nW i else fe wild r (lev + 1) 0 0 (i + 1)) else if c = 43 ∨ c = 35 then (if wild = false then nW i else if n = 0 then fe wild r lev 1 c (i + 1) else nW i) else if plain c = false then nW i else if w = 0 then (if n = 6 then nW i else fe wild r lev (n + 1) w (i + 1)) else nW i
/-- the reference: level by level -/
def tkp : Nat → List Nat → List Nat
  | 0, _ => []
  | _ + 1, [] => []
  | n + 1, c :: r => if plain c = true then c :: tkp n r else []
def isWc (wild : Bool) (l : List Nat) : Bool := wild && (decide (l.head? = some 43) || decide (l.head? = some 35))
def lvl (wild : Bool) (l : List Nat) : List Nat := if isWc wild l = true then l.take 1 else tkp 6 l
def rd (wild : Bool) : Nat → List Nat → Nat → Option Txt × Int32
  | 0, _, i => (none, nW i)
  | n + 1, l, i => if lvl wild l = [] then (none, nW i) else match l.drop (lvl wild l).length with
    | [] => (some [lvl wild l], -nW 1)
    | c :: r => if lvl wild l ≠ [35] ∧ 0 < n ∧ c = 47 then ((rd wild n r (i + (lvl wild l).length + 1)).1.map (fun t => lvl wild l :: t), (rd wild n r (i + (lvl wild l).length + 1)).2) else (none, nW (i + (lvl wild l).length))
theorem pl_47 {c : Nat} (h : plain c = true) : c ≠ 47 ∧ c ≠ 43 ∧ c ≠ 35 := by
  have := plain_rng h; omega
theorem tkp_ok : ∀ n l, (∀ c ∈ tkp n l, plain c = true) ∧ (tkp n l).length ≤ n ∧ l = tkp n l ++ l.drop (tkp n l).length ∧ ((tkp n l).length < n → ∀ c r, l.drop (tkp n l).length = c :: r → plain c = false)
  | 0, l => ⟨fun c h => by simp [tkp] at h, by simp [tkp], by simp [tkp], fun h => by simp [tkp] at h⟩
  | n + 1, [] => ⟨fun c h => by simp [tkp] at h, by simp [tkp], by simp [tkp], fun _ c r h => by simp at h⟩
  | n + 1, c :: r => by
    obtain ⟨h1, h2, h3, h4⟩ := tkp_ok n r
    rw [tkp]
    cases hp : plain c with
    | true =>
      rw [if_pos rfl]
      refine ⟨fun d hd => ?_, ?_, ?_, fun h d q e => ?_⟩
      · rcases List.mem_cons.mp hd with rfl | hd
        · exact hp
        · exact h1 d hd
      · simp only [List.length_cons]; omega
      · simp only [List.length_cons, List.drop_succ_cons, List.cons_append]; rw [← h3]
      · simp only [List.length_cons, List.drop_succ_cons] at h e
        exact h4 (by omega) d q e
    | false =>
      rw [if_neg (by decide)]
      refine ⟨fun d hd => by simp at hd, Nat.zero_le _, rfl, fun _ d q e => ?_⟩
      simp only [List.length_nil, List.drop_zero, List.cons.injEq] at e
      rw [← e.1]; exact hp
theorem fe_plain (wild : Bool) (lev : Nat) : ∀ (p r : List Nat) (n i : Nat), (∀ c ∈ p, plain c = true) → n + p.length ≤ 6 → fe wild (p ++ r) lev n 0 i = fe wild r lev (n + p.length) 0 (i + p.length)
  | [], r, n, i, _, _ => rfl
  | c :: p, r, n, i, h, hl => by
    have hc := h c List.mem_cons_self
    obtain ⟨e1, e2, e3⟩ := pl_47 hc
    simp only [List.length_cons] at hl
    have ih := fe_plain wild lev p r (n + 1) (i + 1) (fun d hd => h d (List.mem_cons_of_mem _ hd)) (by omega)
    have n6 : ¬ n = 6 := by omega
    rw [List.cons_append, fe, if_neg e1, if_neg (by omega), hc, if_neg (by decide), if_pos rfl, if_neg n6, ih]
    simp only [List.length_cons]
    rw [show n + 1 + p.length = n + (p.length + 1) by omega, show i + 1 + p.length = i + (p.length + 1) by omega]
theorem lvl_plain {wild : Bool} {l : List Nat} (h : isWc wild l = false) : lvl wild l = tkp 6 l := by unfold lvl; rw [h, if_neg (by decide)]
theorem lvl_wild {wild : Bool} {l : List Nat} (h : isWc wild l = true) : wild = true ∧ ∃ c r, l = c :: r ∧ (c = 43 ∨ c = 35) ∧ lvl wild l = [c] := by
  have h' := h
  unfold isWc at h
  rw [Bool.and_eq_true, Bool.or_eq_true, decide_eq_true_eq, decide_eq_true_eq] at h
  obtain ⟨h1, h2⟩ := h
  cases l with
  | nil => simp at h2
  | cons c r =>
    simp only [List.head?_cons, Option.some.injEq] at h2
    refine ⟨h1, c, r, rfl, h2, ?_⟩
    unfold lvl; rw [h', if_pos rfl]; rfl
theorem fe_rd (wild : Bool) : ∀ n l i, 1 ≤ n → n ≤ 4 → fe wild l (5 - n) 0 0 i = (rd wild n l i).2
  | 0, l, i, h, _ => absurd h (by omega)
  | n + 1, l, i, _, hn => by
    rw [rd]
    cases hw : isWc wild l with
    | true =>
      obtain ⟨ht, c, r, rfl, hc, hl⟩ := lvl_wild hw
      rw [hl, if_neg (by simp)]
      subst ht
      have c47 : ¬ c = 47 := by omega
      rw [fe, if_neg c47, if_pos hc, if_neg (by decide), if_pos rfl]
      show fe true r (5 - (n + 1)) 1 c (i + 1) = (match r with
        | [] => (some [[c]], -nW 1)
        | d :: q => if [c] ≠ [35] ∧ 0 < n ∧ d = 47 then ((rd true n q (i + 1 + 1)).1.map (fun t => [c] :: t), (rd true n q (i + 1 + 1)).2) else (none, nW (i + 1))).2
      cases r with
      | nil => rw [fe, if_neg (by omega)]
      | cons d q =>
        dsimp only
        rw [fe]
        by_cases h47 : d = 47
        · rw [if_pos h47]
          by_cases hg : c = 35 ∨ n = 0
          · rw [if_pos (by omega), if_neg (fun hh => by
              rcases hg with hg | hg
              · exact hh.1 (by rw [hg])
              · omega)]
          · rw [if_neg (by omega), if_pos ⟨fun hh => hg (Or.inl (List.cons.inj hh).1), by omega, h47⟩]
            have := fe_rd true n q (i + 1 + 1) (by omega) (by omega)
            rw [show 5 - (n + 1) + 1 = 5 - n by omega]; exact this
        · have e2 : ¬ ([c] ≠ [35] ∧ 0 < n ∧ d = 47) := fun hh => h47 hh.2.2
          rw [if_neg h47, if_neg e2]
          by_cases hd : d = 43 ∨ d = 35
          · rw [if_pos hd, if_neg (by decide), if_neg (by omega)]
          · rw [if_neg hd]
            have c0 : ¬ c = 0 := by omega
            cases plain d <;> simp only [c0, ↓reduceIte, Bool.true_eq_false]
    | false =>
      have hl := lvl_plain hw
      obtain ⟨h1, h2, h3, h4⟩ := tkp_ok 6 l
      rw [hl]
      generalize hp : tkp 6 l = p at h1 h2 h3 h4
      have e : fe wild l (5 - (n + 1)) 0 0 i = fe wild (l.drop p.length) (5 - (n + 1)) p.length 0 (i + p.length) := by
        conv => lhs; rw [h3]
        have := fe_plain wild (5 - (n + 1)) p (l.drop p.length) 0 i h1 (by omega)
        rw [this, Nat.zero_add]
      rw [e]
      by_cases p0 : p = []
      · rw [if_pos p0]
        subst p0
        simp only [List.length_nil, List.drop_zero, Nat.add_zero] at h4 ⊢
        cases l with
        | nil => rw [fe, if_pos rfl]
        | cons c r =>
          have hc := h4 (by omega) c r rfl
          have hw' : ¬ (wild = true ∧ (c = 43 ∨ c = 35)) := fun hh => by
            unfold isWc at hw
            rw [hh.1] at hw
            rcases hh.2 with rfl | rfl <;> simp at hw
          rw [fe]
          by_cases h47 : c = 47
          · rw [if_pos h47, if_pos (Or.inl rfl)]
          · rw [if_neg h47]
            by_cases hd : c = 43 ∨ c = 35
            · rw [if_pos hd]
              cases hwl : wild with
              | false => rw [if_pos rfl]
              | true => exact absurd ⟨hwl, hd⟩ hw'
            · rw [if_neg hd, if_pos hc]
      · rw [if_neg p0]
        have pl := len_pos p0
        have p35 : p ≠ [35] := (pl_ne h1).2
        cases hr : l.drop p.length with
        | nil =>
          show fe wild [] _ _ _ _ = -nW 1
          rw [fe, if_neg (by omega)]
        | cons c r =>
          show fe wild (c :: r) _ _ _ _ = (if p ≠ [35] ∧ 0 < n ∧ c = 47 then ((rd wild n r (i + p.length + 1)).1.map (fun t => p :: t), (rd wild n r (i + p.length + 1)).2) else (none, nW (i + p.length))).2
          rw [fe]
          by_cases h47 : c = 47
          · rw [if_pos h47]
            by_cases hg : n = 0
            · rw [if_pos (by omega), if_neg (fun hh => by omega)]
            · rw [if_neg (by omega), if_pos ⟨p35, by omega, h47⟩]
              have := fe_rd wild n r (i + p.length + 1) (by omega) (by omega)
              rw [show 5 - (n + 1) + 1 = 5 - n by omega]; exact this
          · have e2 : ¬ (p ≠ [35] ∧ 0 < n ∧ c = 47) := fun hh => h47 hh.2.2
            rw [if_neg h47, if_neg e2]
            by_cases hd : c = 43 ∨ c = 35
            · rw [if_pos hd]
              have : ¬ p.length = 0 := by omega
              cases wild <;> simp only [this, ↓reduceIte, Bool.true_eq_false]
            · rw [if_neg hd]
              cases hpc : plain c with
              | false => rw [if_pos rfl]
              | true =>
                have : p.length = 6 := by
                  apply Decidable.byContradiction; intro h6
                  have := h4 (by omega) c r hr
                  rw [hpc] at this; cases this
                rw [if_neg (by decide), if_pos rfl, if_pos this]
theorem lvl_ok {wild : Bool} {l : List Nat} (h : lvl wild l ≠ []) : okLev (lvl wild l) ∧ l = lvl wild l ++ l.drop (lvl wild l).length ∧ (wild = false → lvl wild l ≠ [43] ∧ lvl wild l ≠ [35]) := by
  cases hw : isWc wild l with
  | true =>
    obtain ⟨ht, c, r, rfl, hc, hl⟩ := lvl_wild hw
    rw [hl]
    refine ⟨?_, rfl, fun hf => by rw [hf] at ht; cases ht⟩
    rcases hc with rfl | rfl
    · exact Or.inr (Or.inl rfl)
    · exact Or.inr (Or.inr rfl)
  | false =>
    have hl := lvl_plain hw
    obtain ⟨h1, h2, h3, h4⟩ := tkp_ok 6 l
    rw [hl] at h ⊢
    exact ⟨Or.inl ⟨h, h2, h1⟩, h3, fun _ => pl_ne h1⟩
theorem rd_ok (wild : Bool) : ∀ n l i t, (rd wild n l i).1 = some t → (rd wild n l i).2 = -nW 1 ∧ txS t = l ∧ t ≠ [] ∧ t.length ≤ n ∧ (∀ x ∈ t, okLev x) ∧ (∀ j, j < t.length → t.getD j [] = [35] → j + 1 = t.length) ∧ (wild = false → topical t)
  | 0, l, i, t, h => by simp [rd] at h
  | n + 1, l, i, t, h => by
    rw [rd] at h ⊢
    by_cases h0 : lvl wild l = []
    · rw [if_pos h0] at h; cases h
    · rw [if_neg h0] at h ⊢
      obtain ⟨k1, k2, k3⟩ := lvl_ok h0
      generalize hlv : lvl wild l = lv at h0 h k1 k2 k3
      cases hr : l.drop lv.length with
      | nil =>
        rw [hr] at h k2
        simp only [Option.some.injEq] at h
        subst h
        refine ⟨rfl, by rw [k2]; simp [txS], by simp, by simp, fun x hx => ?_, fun j hj _ => ?_, fun hw x hx => ?_⟩
        · rw [List.mem_singleton.mp hx]; exact k1
        · simp at hj; subst hj; rfl
        · rw [List.mem_singleton.mp hx]; exact k3 hw
      | cons c r =>
        rw [hr] at h k2
        dsimp only at h ⊢
        by_cases hg : lv ≠ [35] ∧ 0 < n ∧ c = 47
        · rw [if_pos hg] at h ⊢
          obtain ⟨g1, g2, g3⟩ := hg
          dsimp only at h ⊢
          cases hrec : (rd wild n r (i + lv.length + 1)).1 with
          | none => rw [hrec] at h; cases h
          | some u =>
            rw [hrec, Option.map_some, Option.some.injEq] at h
            subst h
            obtain ⟨e1, e2, e3, e4, e5, e6, e7⟩ := rd_ok wild n r (i + lv.length + 1) u hrec
            refine ⟨e1, ?_, by simp, by simp only [List.length_cons]; omega, fun x hx => ?_, fun j hj hj2 => ?_, fun hw x hx => ?_⟩
            · obtain ⟨x, ex, hx⟩ := txS_cons (l := lv) (r := u)
              rcases hx with ⟨hu, _⟩ | ⟨_, hx⟩
              · exact absurd hu e3
              · rw [ex, hx, e2, ← g3]; exact k2.symm
            · rcases List.mem_cons.mp hx with rfl | hx
              · exact k1
              · exact e5 x hx
            · simp only [List.length_cons] at hj ⊢
              cases j with
              | zero => exact absurd (by simpa using hj2) g1
              | succ j =>
                have := e6 j (by omega) (by simpa using hj2)
                omega
            · rcases List.mem_cons.mp hx with rfl | hx
              · exact k3 hw
              · exact e7 hw x hx
        · rw [if_neg hg] at h; cases h
theorem rd_err (wild : Bool) : ∀ n l i, (rd wild n l i).1 = none → ∃ j, i ≤ j ∧ j ≤ i + l.length ∧ (rd wild n l i).2 = nW j
  | 0, l, i, _ => ⟨i, by omega, by omega, rfl⟩
  | n + 1, l, i, h => by
    rw [rd] at h ⊢
    by_cases h0 : lvl wild l = []
    · rw [if_pos h0]; exact ⟨i, by omega, by omega, rfl⟩
    · rw [if_neg h0] at h ⊢
      obtain ⟨k1, k2, k3⟩ := lvl_ok h0
      generalize hlv : lvl wild l = lv at h0 h k1 k2 k3
      cases hr : l.drop lv.length with
      | nil => rw [hr] at h; cases h
      | cons c r =>
        rw [hr] at h k2
        have hlen := congrArg List.length k2
        simp only [List.length_append, List.length_cons] at hlen
        dsimp only at h ⊢
        by_cases hg : lv ≠ [35] ∧ 0 < n ∧ c = 47
        · rw [if_pos hg] at h ⊢
          dsimp only at h ⊢
          cases hrec : (rd wild n r (i + lv.length + 1)).1 with
          | none =>
            obtain ⟨j, j1, j2, j3⟩ := rd_err wild n r (i + lv.length + 1) hrec
            exact ⟨j, by omega, by omega, j3⟩
          | some u => rw [hrec] at h; cases h
        · rw [if_neg hg]
          exact ⟨i + lv.length, by omega, by omega, rfl⟩
/-- what reading the buffer gives -/
def parse (wild : Bool) (l : List Nat) : Option Txt × Int32 := rd wild 4 l 0
theorem parse_fe (wild : Bool) (l : List Nat) : fe wild l 1 0 0 0 = (parse wild l).2 := fe_rd wild 4 l 0 (by omega) (by omega)
theorem parse_ok {wild : Bool} {l : List Nat} {t : Txt} (h : (parse wild l).1 = some t) : (parse wild l).2 = -nW 1 ∧ txS t = l ∧ t ≠ [] ∧ okTx t ∧ (wild = false → topical t) := by
  obtain ⟨h1, h2, h3, h4, h5, h6, h7⟩ := rd_ok wild 4 l 0 t h
  exact ⟨h1, h2, h3, ⟨h4, h5, h6⟩, h7⟩
theorem parse_err {wild : Bool} {l : List Nat} (h : (parse wild l).1 = none) : ∃ j, j ≤ l.length ∧ (parse wild l).2 = nW j := by
  obtain ⟨j, _, j2, j3⟩ := rd_err wild 4 l 0 h
  exact ⟨j, by omega, j3⟩
