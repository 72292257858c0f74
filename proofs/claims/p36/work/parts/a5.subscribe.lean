/-! SUBSCRIBING, in the class (behind the checks) -/
def wantR (o : Int32) (added : Bool) : Bool := decide (o &&& nW 2 = nW 0) && (added || decide (o &&& nW 4 = nW 0))
def spTail (σ : Sg) (c k : Nat) (gr o : Int32) (added : Bool) : Sg := if gr = nW 0 ∧ wantR o added = true then spGR c ((cL (gCl σ c) 3).2 k).1 (((cL (gCl σ c) 3).2 k).2 2) (gRe σ).1 0 σ else σ
def spSub (σ : Sg) (c : Nat) (t : Txt) (g gr o : Int32) : Option Sg := match subAt (cL (gCl σ c) 3) t gr with
  | some k => some (spTail (spSubSet σ c k g o) c k gr o false)
  | none => if (cL (gCl σ c) 3).1 = 6 then none else some (spTail (spSubNew σ c (mkSu t gr g o)) c (cL (gCl σ c) 3).1 gr o true)
theorem spGR_L3 (c : Nat) (t : Txt) (g : Int32) : ∀ n i σ, cL (gCl (spGR c t g n i σ) c) 3 = cL (gCl σ c) 3
  | 0, i, σ => rfl
  | n + 1, i, σ => by
    rw [spGR, spGR_L3 c t g n (i + 1)]
    split
    · rw [gCl_putG]; exact (spGive_same _ _).2.2.2.1
    · rfl
theorem lset_push (u : Ls Row) (t : Txt) (gr g o : Int32) : lset (lpush u (mkSu t gr (nW 0) (nW 0))) u.1 (t, fset (fset (mkSu t gr (nW 0) (nW 0)).2 2 g) 3 o) = lpush u (mkSu t gr g o) := by
  have e : fset (fset (mkSu t gr (nW 0) (nW 0)).2 2 g) 3 o = (mkSu t gr g o).2 := by
    funext f
    simp only [mkSu, fset]
    by_cases h3 : f = 3
    · subst h3; simp
    · by_cases h2 : f = 2
      · subst h2; simp
      · simp [h3, h2]
  rw [e]
  refine Prod.ext rfl (funext fun j => ?_)
  simp only [lset, lpush]
  split
  · rfl
  · rfl
theorem add_set (σ : Sg) (c : Nat) (t : Txt) (g gr o : Int32) : spSubSet (spAdd σ c t gr) c (cL (gCl σ c) 3).1 g o = spSubNew σ c (mkSu t gr g o) := by
  have ecl : gCl (spAdd σ c t gr) c = uL (gCl σ c) 3 (lpush (cL (gCl σ c) 3) (mkSu t gr (nW 0) (nW 0))) := fset_eq _ _ _
  have e3 : cL (gCl (spAdd σ c t gr) c) 3 = lpush (cL (gCl σ c) 3) (mkSu t gr (nW 0) (nW 0)) := by rw [ecl, uL_L, fset_eq]
  unfold spSubSet
  rw [e3, lpush_hi]
  have el := lset_push (cL (gCl σ c) 3) t gr g o
  have : (mkSu t gr (nW 0) (nW 0)).1 = t := rfl
  rw [this, el, ecl]
  unfold spSubNew spAdd spAddL shOf
  show (gSc σ, fset (fset (gCl σ) c _) c _, _) = (gSc σ, fset (gCl σ) c _, _)
  rw [fset_fset]
  have : uL (uL (gCl σ c) 3 (lpush (cL (gCl σ c) 3) (mkSu t gr (nW 0) (nW 0)))) 3 (lpush (cL (gCl σ c) 3) (mkSu t gr g o)) = uL (gCl σ c) 3 (lpush (cL (gCl σ c) 3) (mkSu t gr g o)) := by
    simp only [uL, cL, fset_fset]
  rw [this]; rfl
theorem B_sub_tail {M : Mem} {c x k : Nat} {σ : Sg} (added : Bool) {gr o : Int32} (hB : (mK M 0).1 = 11 ∧ mR M 0 6 = some 8) (hR : StR M 8 σ) (hS : SI σ) (hc : c < 6) (hk : k < (cL (gCl σ c) 3).1) (hx : TextR M x ((cL (gCl σ c) 3).2 k).1) : ∃ M', f_X11_subscribe_J187 0 (nW c) (((cL (gCl σ c) 3).2 k).2 2) gr o x (8 + 2 + 60 * c + 34) (zI added) M = some (.inl (nW (cL (gCl σ c) 3).1), M') ∧ Fr (SZ 8) M M' ∧ StR M' 8 (spTail σ c k gr o added) ∧ SI (spTail σ c k gr o added) := by
  have hZ : inZ 8 := ⟨by omega, by omega⟩
  have hB6 : gR 11 6 0 M = some 8 := by simp only [gR, hB.1, hB.2, ↓reduceIte]
  have cnt : ∀ M1 σ1, StR M1 8 σ1 → gI 5 7 (8 + 2 + 60 * c + 34) M1 = some (nW (cL (gCl σ1 c) 3).1) := fun M1 σ1 H => (SeO_get (H.2.1 c hc).2.2.2.1).2.1
  have give : ∃ M', f_X7_giveRetained 8 (nW c) x (((cL (gCl σ c) 3).2 k).2 2) M = some M' ∧ Fr (SZ 8) M M' ∧ StR M' 8 (spGR c ((cL (gCl σ c) 3).2 k).1 (((cL (gCl σ c) 3).2 k).2 2) (gRe σ).1 0 σ) ∧ SI (spGR c ((cL (gCl σ c) 3).2 k).1 (((cL (gCl σ c) 3).2 k).2 2) (gRe σ).1 0 σ) := St_giveRetained hZ hR hS hc ((hS.2.1 c hc).1 k hk).2.2.1 (by omega) hx
  unfold spTail
  by_cases hw : gr = nW 0 ∧ wantR o added = true
  · rw [if_pos hw]
    obtain ⟨M', e, F, R, S'⟩ := give
    have cn := cnt M' _ R
    rw [spGR_L3] at cn
    refine ⟨M', ?_, F, R, S'⟩
    obtain ⟨w1, w2⟩ := hw
    unfold wantR at w2
    rw [Bool.and_eq_true] at w2
    have b2 : o &&& nW 2 = nW 0 := of_decide_eq_true w2.1
    cases added with
    | true =>
      have t1 : ¬ nW 1 = nW 0 := by decide
      simp only [f_X11_subscribe_J187, f_X11_subscribe_J206, f_X11_subscribe_J210, f_X11_subscribe_J211, f_X11_subscribe_J233, nW_lit, b2, zI_t, t1, w1, ↓reduceIte, hB6, Option.bind_some, e, cn]
    | false =>
      have t1 : ¬ nW 1 = nW 0 := by decide
      have b4 : o &&& nW 4 = nW 0 := by
        have := w2.2
        rw [Bool.false_or] at this
        exact of_decide_eq_true this
      simp only [f_X11_subscribe_J187, f_X11_subscribe_J206, f_X11_subscribe_J210, f_X11_subscribe_J211, f_X11_subscribe_J233, nW_lit, b2, b4, zI_f, t1, w1, ↓reduceIte, hB6, Option.bind_some, e, cn]
  · rw [if_neg hw]
    have cn := cnt M σ hR
    refine ⟨M, ?_, Fr.refl _ _, hR, hS⟩
    by_cases w1 : gr = nW 0
    · have t1 : ¬ nW 1 = nW 0 := by decide
      have w2 : wantR o added = false := by
        cases e : wantR o added with
        | true => exact absurd ⟨w1, e⟩ hw
        | false => rfl
      unfold wantR at w2
      by_cases b2 : o &&& nW 2 = nW 0
      · rw [decide_eq_true b2, Bool.true_and] at w2
        cases added with
        | true => rw [Bool.true_or] at w2; cases w2
        | false =>
          rw [Bool.false_or] at w2
          have b4 : ¬ o &&& nW 4 = nW 0 := of_decide_eq_false w2
          simp only [f_X11_subscribe_J187, f_X11_subscribe_J206, f_X11_subscribe_J210, f_X11_subscribe_J211, f_X11_subscribe_J233, nW_lit, b2, b4, zI_f, t1, w1, ↓reduceIte, Option.bind_some, cn]
      · simp only [f_X11_subscribe_J187, f_X11_subscribe_J206, f_X11_subscribe_J210, f_X11_subscribe_J211, f_X11_subscribe_J233, nW_lit, b2, t1, w1, ↓reduceIte, Option.bind_some, cn]
    · simp only [f_X11_subscribe_J187, f_X11_subscribe_J206, f_X11_subscribe_J210, f_X11_subscribe_J211, f_X11_subscribe_J233, nW_lit, w1, ↓reduceIte, Option.bind_some, cn, ite_self]
theorem B_sub_set {M : Mem} {c x k : Nat} {σ : Sg} (added : Bool) {g gr o : Int32} (hR : StR M 8 σ) (hc : c < 6) (hk : k < (cL (gCl σ c) 3).1) (l6 : (cL (gCl σ c) 3).1 ≤ 6) : ∃ M', f_X11_subscribe_J146 0 (nW c) g gr o x (8 + 2 + 60 * c + 34) (nW k) (zI added) M = f_X11_subscribe_J187 0 (nW c) g gr o x (8 + 2 + 60 * c + 34) (zI added) M' ∧ Fr (SZ 8) M M' ∧ StR M' 8 (spSubSet σ c k g o) := by
  have hZ : inZ 8 := ⟨by omega, by omega⟩
  obtain ⟨p, ea, M1, M2, e1, ⟨_, k5, k6, ea1⟩, e2, F1, F2, R2⟩ := Cl_setSub g o (hZ.c hc) (hR.2.1 c hc) hk
  obtain ⟨H2, F2'⟩ := St_cl hR hc F2 (fun a h => by omega) R2
  have hE := (hR.2.1 c hc).2.2.2.1
  obtain ⟨q1, q2, q3⟩ := SeO_get hE
  have q3' : gR 5 6 (8 + 2 + 60 * c + 34) M = some (8 + 2 + 60 * c + 36) := q3
  have g6 : gR 5 6 (8 + 2 + 60 * c + 34) M1 = some (8 + 2 + 60 * c + 36) := by simp only [gR, k5, k6, ↓reduceIte]
  have an : aN (8 + 2 + 60 * c + 36) M = some (nW 6) := by
    obtain ⟨_, p', h5, _⟩ := (hR.2.1 c hc).2.2.2.2.2.1
    simp only [aN, h5.1]; rfl
  have n0 : ¬ k < 0 := by omega
  have n6 : ¬ 6 ≤ k := by omega
  refine ⟨M2, ?_, F2', H2⟩
  simp (disch := omega) only [f_X11_subscribe_J146, nW_lit, nW_lt, nW_le, n0, n6, ↓reduceIte, q3', Option.bind_some, an, ea, e1, g6, ea1, e2]
theorem B_subscribe {M : Mem} {c x : Nat} {σ : Sg} {t : Txt} {g gr o : Int32} (hB : (mK M 0).1 = 11 ∧ mR M 0 6 = some 8) (hR : StR M 8 σ) (hS : SI σ) (hc : c < 6) (hx : TextR M x t) (hex : cB (gCl σ c) 3 = true) (hok : okS (mkSu t gr g o)) : match subAt (cL (gCl σ c) 3) t gr, spSub σ c t g gr o with
    | some k, some σ' => ∃ M', f_X11_subscribe_J96 0 (nW c) g gr o x (8 + 2 + 60 * c + 34) (nW k) (nW 0) M = some (.inl (nW (cL (gCl σ' c) 3).1), M') ∧ Fr (SZ 8) M M' ∧ StR M' 8 σ' ∧ SI σ'
    | none, some σ' => ∃ M', f_X11_subscribe_J96 0 (nW c) g gr o x (8 + 2 + 60 * c + 34) (-nW 1) (nW 1) M = some (.inl (nW (cL (gCl σ' c) 3).1), M') ∧ Fr (SZ 8) M M' ∧ StR M' 8 σ' ∧ SI σ'
    | none, none => f_X11_subscribe_J96 0 (nW c) g gr o x (8 + 2 + 60 * c + 34) (-nW 1) (nW 1) M = some (.inr 2, xM M)
    | some _, none => False := by
  have hZ : inZ 8 := ⟨by omega, by omega⟩
  have l6 : (cL (gCl σ c) 3).1 ≤ 6 := (hS.1.2 c hc).2.1.2.2.2
  have t1 : ¬ nW 1 = nW 0 := by decide
  have keepB : ∀ M1, Fr (SZ 8) M M1 → (mK M1 0).1 = 11 ∧ mR M1 0 6 = some 8 := fun M1 F => by
    have := F.2.2 0 (Or.inr (by unfold SZ; omega))
    exact ⟨by rw [F.1]; exact hB.1, by rw [this.2.2.2]; exact hB.2⟩
  have tl3 : ∀ σ1 k gr o b, cL (gCl (spTail σ1 c k gr o b) c) 3 = cL (gCl σ1 c) 3 := by
    intro σ1 k gr o b; unfold spTail; split
    · exact spGR_L3 _ _ _ _ _ _
    · rfl
  obtain ⟨_, _, og, oo⟩ := hok
  unfold spSub
  cases e : subAt (cL (gCl σ c) 3) t gr with
  | some k =>
    obtain ⟨hk, q1, q2⟩ := subAt_lt e
    obtain ⟨M1, e1, F1, R1⟩ := B_sub_set (x := x) (g := g) (gr := gr) (o := o) false hR hc hk l6
    have S1 : SI (spSubSet σ c k g o) := SI_subSet hS hc hk og oo
    have ecl : cL (gCl (spSubSet σ c k g o) c) 3 = lset (cL (gCl σ c) 3) k (((cL (gCl σ c) 3).2 k).1, fset (fset ((cL (gCl σ c) 3).2 k).2 2 g) 3 o) := by
      show cL (gCl (putG σ c _) c) 3 = _
      rw [gCl_putG, uL_L, fset_eq]
    have er1 : ((cL (gCl (spSubSet σ c k g o) c) 3).2 k).1 = t := by rw [ecl]; simp only [lset, ↓reduceIte]; exact q2
    have er2 : ((cL (gCl (spSubSet σ c k g o) c) 3).2 k).2 2 = g := by rw [ecl]; simp (disch := omega) only [lset, ↓reduceIte, fset_ne, fset_eq]
    have ec : (cL (gCl (spSubSet σ c k g o) c) 3).1 = (cL (gCl σ c) 3).1 := by rw [ecl]; rfl
    obtain ⟨M2, e2, F2, R2, S2⟩ := B_sub_tail (x := x) (k := k) false (gr := gr) (o := o) (keepB M1 F1) R1 S1 hc (by rw [ec]; exact hk) (by rw [er1]; exact hx.gr F1.gr)
    rw [er2] at e2
    dsimp only
    rw [tl3]
    refine ⟨M2, ?_, F1.trans F2, R2, S2⟩
    rw [zI_f] at e1 e2
    simp only [f_X11_subscribe_J96, f_X11_subscribe_J121, nW_lit, ↓reduceIte, e1, e2]
  | none =>
    have hno : ∀ j, j < (cL (gCl σ c) 3).1 → suKey ((cL (gCl σ c) 3).2 j) ≠ suKey (mkSu t gr g o) := by
      intro j hj hh
      have := ffind_none e j (by omega) (by omega)
      rw [subP, Bool.and_eq_false_iff] at this
      have h1 := (Prod.mk.inj hh).1
      have h2 := (Prod.mk.inj hh).2
      rcases this with h | h
      · exact of_decide_eq_false h h2
      · exact of_decide_eq_false h h1
    have cn : gI 5 7 (8 + 2 + 60 * c + 34) M = some (nW (cL (gCl σ c) 3).1) := (SeO_get (hR.2.1 c hc).2.2.2.1).2.1
    by_cases h6 : (cL (gCl σ c) 3).1 = 6
    · have h6' : ¬ (cL (gCl σ c) 3).1 < 6 := by omega
      simp only [h6, ↓reduceIte]
      have n66 : ¬ nW 6 < nW 6 := by decide
      rw [h6] at cn
      simp only [f_X11_subscribe_J96, nW_lit, t1, ↓reduceIte, cn, Option.bind_some, n66]
    · have h6' : (cL (gCl σ c) 3).1 < 6 := by omega
      simp only [h6, ↓reduceIte]
      have hok' : okS (mkSu t gr g o) := ⟨by assumption, by assumption, og, oo⟩
      have l36 : (gSh σ).length ≤ 36 := hR.2.2.1.2.1
      obtain ⟨M1, e1, F1, R1⟩ := St_addSub gr hZ hR hc hx h6' (fun _ => shares_lt hS hc h6' l36) (fun h hh => by
        by_cases g0 : gr = nW 0
        · obtain ⟨h1, h2, h3⟩ := shAt_some hh
          obtain ⟨n, n1, n2, n3⟩ := (hS.2.2.1.2.1 _ (shAt_get h1)).2
          rw [h2, g0, nW_inj (by omega) (by omega)] at n3; omega
        · exact (join_ok (r := mkSu t gr g o) hS hc hok' hno g0).2 h hh)
      have ecl1 : cL (gCl (spAdd σ c t gr) c) 3 = lpush (cL (gCl σ c) 3) (mkSu t gr (nW 0) (nW 0)) := by
        have : gCl (spAdd σ c t gr) c = uL (gCl σ c) 3 (lpush (cL (gCl σ c) 3) (mkSu t gr (nW 0) (nW 0))) := fset_eq _ _ _
        rw [this, uL_L, fset_eq]
      have cn1 : gI 5 7 (8 + 2 + 60 * c + 34) M1 = some (nW ((cL (gCl σ c) 3).1 + 1)) := by
        have := (SeO_get (R1.2.1 c hc).2.2.2.1).2.1
        rw [ecl1] at this; exact this
      obtain ⟨M2, e2, F2, R2⟩ := B_sub_set (x := x) (k := (cL (gCl σ c) 3).1) (g := g) (gr := gr) (o := o) true R1 hc (by rw [ecl1]; simp only [lpush]; omega) (by rw [ecl1]; simp only [lpush]; omega)
      rw [add_set] at R2
      have S2 : SI (spSubNew σ c (mkSu t gr g o)) := SI_subNew hS hc hex h6' hok' hno
      have ecl2 : cL (gCl (spSubNew σ c (mkSu t gr g o)) c) 3 = lpush (cL (gCl σ c) 3) (mkSu t gr g o) := by
        have : gCl (spSubNew σ c (mkSu t gr g o)) c = uL (gCl σ c) 3 (lpush (cL (gCl σ c) 3) (mkSu t gr g o)) := fset_eq _ _ _
        rw [this, uL_L, fset_eq]
      have er1 : ((cL (gCl (spSubNew σ c (mkSu t gr g o)) c) 3).2 (cL (gCl σ c) 3).1).1 = t := by rw [ecl2, lpush_hi]; rfl
      have er2 : ((cL (gCl (spSubNew σ c (mkSu t gr g o)) c) 3).2 (cL (gCl σ c) 3).1).2 2 = g := by rw [ecl2, lpush_hi]; rfl
      obtain ⟨M3, e3, F3, R3, S3⟩ := B_sub_tail (x := x) (k := (cL (gCl σ c) 3).1) true (gr := gr) (o := o) (keepB M2 (F1.trans F2)) R2 S2 hc (by rw [ecl2]; simp only [lpush]; omega) (by rw [er1]; exact hx.gr (F1.trans F2).gr)
      rw [er2] at e3
      rw [tl3]
      refine ⟨M3, ?_, (F1.trans F2).trans F3, R3, S3⟩
      have hB6 : gR 11 6 0 M = some 8 := by simp only [gR, hB.1, hB.2, ↓reduceIte]
      rw [zI_t] at e2 e3
      simp (disch := omega) only [f_X11_subscribe_J96, f_X11_subscribe_J121, nW_lit, t1, ↓reduceIte, cn, Option.bind_some, nW_lt, h6', hB6, e1, cn1, nW_sub, Nat.add_sub_cancel, e2, e3]
