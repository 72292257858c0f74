/-! RETAINED MESSAGES -/
def rePl (l : Ls Row) (t : Txt) : Nat → Nat → Nat
  | 0, i => i
  | n + 1, i => if i < l.1 ∧ ltS (txS (l.2 i).1) (txS t) = true then rePl l t n (i + 1) else i
def reAt (l : Ls Row) (t : Txt) : Nat := rePl l t l.1 0
def reKnown (l : Ls Row) (t : Txt) : Bool := decide (reAt l t < l.1) && decide ((l.2 (reAt l t)).1 = t)
def spRetain (l : Ls Row) (r : Row) : Ls Row := if r.2 2 = nW 0 then (if reKnown l r.1 = true then ldel l (reAt l r.1) else l) else if reKnown l r.1 = true then lset l (reAt l r.1) r else if 8 ≤ l.1 then l else lins l (reAt l r.1) r
theorem rePl_le (l : Ls Row) (t : Txt) : ∀ n i, i ≤ l.1 → i ≤ rePl l t n i ∧ rePl l t n i ≤ l.1
  | 0, i, h => ⟨Nat.le_refl _, h⟩
  | n + 1, i, h => by
    rw [rePl]
    split
    · rename_i hc
      have := rePl_le l t n (i + 1) (by omega)
      omega
    · omega
theorem reAt_le (l : Ls Row) (t : Txt) : reAt l t ≤ l.1 := (rePl_le l t l.1 0 (Nat.zero_le _)).2
/-- whatever the rest of the walk does not pass is its end -/
theorem rePl_end {l : Ls Row} {t : Txt} {n i : Nat} (h : ¬ (i < l.1 ∧ ltS (txS (l.2 i).1) (txS t) = true)) : rePl l t n i = i := by
  cases n with
  | zero => rfl
  | succ n => rw [rePl, if_neg h]
theorem RetR_at {M : Mem} {S : Nat} {l : Ls Row} (h : RetR M S l) {j : Nat} (hj : j < l.1) : ∃ a, aR 19 (S + 435) (nW j) M = some a ∧ (S + 436 ≤ a ∧ a < S + 444) ∧ MsR M a (l.2 j) := by
  obtain ⟨h1, h2, p, h3, h4⟩ := h
  have h5 := h3.2.1 j (by omega)
  exact ⟨p j, by simp (disch := omega) only [aR, h3.1, ↓reduceIte, ix_nW, Option.bind_some, h5.1], h5.2.2, h4 j hj⟩
theorem MsR_top {M : Mem} {m : Nat} {r : Row} (h : MsR M m r) : ∃ x, gR 1 0 m M = some x ∧ TextR M x r.1 := by
  obtain ⟨a, _, x, c, d⟩ := h
  exact ⟨x, by simp only [gR, a, c, ↓reduceIte], d⟩
def uRe (σ : Sg) (l : Ls Row) : Sg := (σ.1, σ.2.1, σ.2.2.1, l, σ.2.2.2.2)
theorem StR_re {P : Nat → Prop} {M M' : Mem} {S : Nat} {σ : Sg} {l : Ls Row} (h : StR M S σ) (G : Gr P M M') (hp : ∀ a, P a → a = S ∨ (S + 435 ≤ a ∧ a < S + 444)) (h9 : mI M' S 9 = mI M S 9) (h3 : mI M' S 3 = mI M S 3) (hr : mR M' S = mR M S) (hl : RetR M' S l) : StR M' S (uRe σ l) := by
  obtain ⟨h1, h2, ⟨q1, q2, p, q3, q4, q5⟩, _, r5⟩ := h
  refine ⟨BaR_own h1 G ⟨fun h => by have := hp _ h; omega, fun h => by have := hp _ h; omega, fun h => by have := hp _ h; omega⟩ h9 hr, fun c hc => (h2 c hc).gr G (fun b _ _ h => by have := hp _ h; omega), ⟨by rw [h3]; exact q1, q2, p, q3.gr G (by decide) (by decide) (fun h => by have := hp _ h; omega), fun j hj => ⟨(q4 j hj).1, ?_⟩, fun j hj => ?_⟩, hl, r5.gr G ⟨fun h => by have := hp _ h; omega, fun h => by have := hp _ h; omega, fun h => by have := hp _ h; omega⟩⟩
  · have := (q3.2.1 j hj).2.2
    exact (q4 j hj).2.gr G (fun h => by have := hp _ h; omega)
  · have j36 : j < 36 := by have : (gSh σ).length ≤ 36 := q2; have hj' : j < (gSh σ).length := hj; omega
    have := (q3.2.1 j j36).2.2
    have := (q4 j j36).1
    exact (q5 j hj).gr G (q4 j j36).2 ⟨fun h => by have := hp _ h; omega, fun h => by have := hp _ h; omega⟩
theorem X7_dropRetained {M : Mem} {S i : Nat} {σ : Sg} (hS : inZ S) (h : StR M S σ) (hi : i < (gRe σ).1) : ∃ M', f_X7_dropRetained S (nW i) M = some M' ∧ Fr (fun a => a = S ∨ (S + 435 ≤ a ∧ a < S + 444)) M M' ∧ StR M' S (uRe σ (ldel (gRe σ) i)) := by
  obtain ⟨c1, c2⟩ := hS
  obtain ⟨k1, k2, k3, k4, k5, k6, k7, k8⟩ := StR_k h
  have hO := BaR_O h.1
  obtain ⟨q1, q2, p, q3, q4⟩ := h.2.2.2.1
  have q2' : (gRe σ).1 ≤ 8 := q2
  have hp := q3.2.1 i (by omega)
  have ea : aR 19 (S + 435) (nW i) M = some (p i) := by simp (disch := omega) only [aR, q3.1, ↓reduceIte, ix_nW, Option.bind_some, hp.1]
  obtain ⟨M2, e2, hx, r⟩ := rot_X7_dropRetained_L9 (l := S) (c := (gRe σ).1) (free := p i) q2 FU i M p hi (by simp only [FU]; omega) ⟨k1, hO.2.2.2.1, q1, q3.1, hp.2.1⟩ (fun j hj => ⟨(q3.2.1 j hj).1, (q3.2.1 j hj).2.1⟩)
  have F2 : Fr (fun b => b = S ∨ b = S + 435) M M2 := Fr_ir hx (Or.inl rfl) (Or.inr rfl) (by simp only [tz]; omega)
  have F : Fr (fun a => a = S ∨ (S + 435 ≤ a ∧ a < S + 444)) M M2 := F2.mono (fun b h => by omega)
  have m9 : ∀ f, f ≠ 5 → mI M2 S f = mI M S f := fun f hf => by rw [hx.1, up2_nj _ _ _ _ hf]
  refine ⟨M2, by simp only [f_X7_dropRetained, k1, ↓reduceIte, k4, Option.bind_some, ea]; exact e2, F, StR_re h F.gr (fun b h => h) (m9 9 (by omega)) (m9 3 (by omega)) (hx.2.2.2.1 S (by omega)) ⟨by rw [hx.1, up2_eq]; rfl, by show (gRe σ).1 - 1 ≤ 8; omega, fun j => p (rotU i (gRe σ).1 j), ?_, fun j hj => ?_⟩⟩
  · refine Ar_perm (rotU i (gRe σ).1) q3 hx.2.2.2.2.1 (fun j hj => rotU_lt hi q2 hj) (fun a b _ _ e => rotU_inj hi e) (fun j hj => ?_)
    rw [← perm_ldel hi p j (p i) rfl]; exact r j hj
  · simp only [ldel] at hj
    by_cases q : j < i
    · simp only [ldel, q, ↓reduceIte, rotU_lo q hi]
      have := q3.2.1 j (by omega)
      exact (q4 j (by omega)).gr F2.gr (by omega)
    · simp only [ldel, q, ↓reduceIte, rotU_hi (show i ≤ j by omega) (show j + 1 < (gRe σ).1 by omega)]
      have := q3.2.1 (j + 1) (by omega)
      exact (q4 (j + 1) (by omega)).gr F2.gr (by omega)
/-- the places after the row behind the last is put at i -/
def rotD (i c j : Nat) : Nat := if j = i then c else if i < j ∧ j ≤ c then j - 1 else j
theorem rotD_lt {i c j n : Nat} (h : i ≤ c) (hc : c < n) (hj : j < n) : rotD i c j < n := by
  unfold rotD; split
  · omega
  · split <;> omega
theorem rotD_inj {i c j k : Nat} (h : i ≤ c) (e : rotD i c j = rotD i c k) : j = k := by
  unfold rotD at e
  split at e <;> split at e <;> first | omega | (split at e <;> first | omega | (split at e <;> omega))
theorem sub_1' (x : Int32) : x + (-nW 1) = x - nW 1 := by rw [Int32.sub_eq_add_neg]
theorem openRetained_L15 {S i c free : Nat} (hS : inZ S) (hc : c < 8) : ∀ n k M (p : Nat → Nat), i ≤ k → k ≤ c → k - i < n → ((mK M S).1 = 7 ∧ mR M S 4 = some (S + 435) ∧ mI M S 5 = nW c ∧ mK M (S + 435) = (19, 8) ∧ (mK M free).1 = 1) → (∀ j, j < 8 → mR M (S + 435) j = some (p j) ∧ (mK M (p j)).1 = 1) → ∃ M', f_X7_openRetained_L15 n S (nW i) free (nW k) M = some M' ∧ (mI M' = up2 (mI M) S 5 (nW (c + 1)) ∧ mL M' = mL M ∧ mF M' = mF M ∧ (∀ a, a ≠ S + 435 → mR M' a = mR M a) ∧ mK M' = mK M ∧ mN M' = mN M ∧ mC M' = mC M ∧ mS M' = mS M) ∧ ∀ j, j < 8 → mR M' (S + 435) j = some (if j = i then free else if i < j ∧ j ≤ k then p (j - 1) else p j)
  | 0, k, M, p, _, _, hn, _, _ => absurd hn (by omega)
  | n + 1, k, M, p, hk, hkc, hn, ⟨h1, h2, h3, h4, h5⟩, h6 => by
    by_cases he : k ≤ i
    · refine ⟨_, by simp (disch := omega) only [f_X7_openRetained_L15, gI, gL, gF, gR, pI, pZ_0, pZ_1, pZ_z, pL, pF, pR, aI, aL, aF, aR, wI, wL, wF, wR, aN, okZ_0, okZ_1, okZ_z, nar13, sI_mI, sI_mL, sI_mF, sI_mR, sI_mK, sI_mN, sI_mC, sI_mS, sL_mI, sL_mL, sL_mF, sL_mR, sL_mK, sL_mN, sL_mC, sL_mS, sF_mI, sF_mL, sF_mF, sF_mR, sF_mK, sF_mN, sF_mC, sF_mS, sR_mI, sR_mL, sR_mF, sR_mR, sR_mK, sR_mN, sR_mC, sR_mS, Option.bind_some, Option.map_some, bindP, bindX, bindH, ↓reduceIte, and_self, true_and, and_true, ne_eq, not_false_eq_true, not_true_eq_false, reduceCtorEq, Nat.reduceEqDiff, Nat.reduceLeDiff, Nat.reduceLT, Bool.false_eq_true, decide_true, decide_false, up2_eq, up2_ne, up2_nj, up2_fn, cl2_eq, cl2_ne, cl2_fn, nW_add, nW_mul, nW_sub, nW_le, nW_lt, nW_inj, irem_nW, ix_nW, nW_lit, h1, h2, h3, h4, h5, he]; rfl, ?_⟩
      refine ⟨⟨rfl, rfl, rfl, fun a ha => by simp only [sI_mI, sI_mL, sI_mF, sI_mR, sI_mK, sI_mN, sI_mC, sI_mS, sL_mI, sL_mL, sL_mF, sL_mR, sL_mK, sL_mN, sL_mC, sL_mS, sF_mI, sF_mL, sF_mF, sF_mR, sF_mK, sF_mN, sF_mC, sF_mS, sR_mI, sR_mL, sR_mF, sR_mR, sR_mK, sR_mN, sR_mC, sR_mS, up2_fn _ _ _ ha], rfl, rfl, rfl, rfl⟩, fun j hj => ?_⟩
      by_cases q : j = i
      · subst q; rw [if_pos rfl]; simp only [sI_mI, sI_mL, sI_mF, sI_mR, sI_mK, sI_mN, sI_mC, sI_mS, sL_mI, sL_mL, sL_mF, sL_mR, sL_mK, sL_mN, sL_mC, sL_mS, sF_mI, sF_mL, sF_mF, sF_mR, sF_mK, sF_mN, sF_mC, sF_mS, sR_mI, sR_mL, sR_mF, sR_mR, sR_mK, sR_mN, sR_mC, sR_mS, up2_eq]
      · rw [if_neg q, if_neg (by omega)]; simp (disch := omega) only [sI_mI, sI_mL, sI_mF, sI_mR, sI_mK, sI_mN, sI_mC, sI_mS, sL_mI, sL_mL, sL_mF, sL_mR, sL_mK, sL_mN, sL_mC, sL_mS, sF_mI, sF_mL, sF_mF, sF_mR, sF_mK, sF_mN, sF_mC, sF_mS, sR_mI, sR_mL, sR_mF, sR_mR, sR_mK, sR_mN, sR_mC, sR_mS, up2_nj, (h6 j hj).1]
    · have h7 := h6 (k - 1) (by omega)
      obtain ⟨M2, e2, ⟨r1, r2, r3, r4, r5, r6, r7, r8⟩, r9⟩ := openRetained_L15 (i := i) (c := c) (free := free) hS hc n (k - 1) (sR M (up2 (mR M) (S + 435) k (some (p (k - 1))))) (fset p k (p (k - 1))) (by omega) (by omega) (by omega) ⟨h1, by simp (disch := omega) only [sI_mI, sI_mL, sI_mF, sI_mR, sI_mK, sI_mN, sI_mC, sI_mS, sL_mI, sL_mL, sL_mF, sL_mR, sL_mK, sL_mN, sL_mC, sL_mS, sF_mI, sF_mL, sF_mF, sF_mR, sF_mK, sF_mN, sF_mC, sF_mS, sR_mI, sR_mL, sR_mF, sR_mR, sR_mK, sR_mN, sR_mC, sR_mS, up2_ne, h2], h3, h4, h5⟩ (fun j hj => by
        by_cases hj2 : j = k
        · subst hj2; simp only [sI_mI, sI_mL, sI_mF, sI_mR, sI_mK, sI_mN, sI_mC, sI_mS, sL_mI, sL_mL, sL_mF, sL_mR, sL_mK, sL_mN, sL_mC, sL_mS, sF_mI, sF_mL, sF_mF, sF_mR, sF_mK, sF_mN, sF_mC, sF_mS, sR_mI, sR_mL, sR_mF, sR_mR, sR_mK, sR_mN, sR_mC, sR_mS, up2_eq, fset_eq, true_and]; exact h7.2
        · simp (disch := omega) only [sI_mI, sI_mL, sI_mF, sI_mR, sI_mK, sI_mN, sI_mC, sI_mS, sL_mI, sL_mL, sL_mF, sL_mR, sL_mK, sL_mN, sL_mC, sL_mS, sF_mI, sF_mL, sF_mF, sF_mR, sF_mK, sF_mN, sF_mC, sF_mS, sR_mI, sR_mL, sR_mF, sR_mR, sR_mK, sR_mN, sR_mC, sR_mS, up2_nj, fset_ne]; exact h6 j hj)
      have e9 : nW k + (-1) = nW (k - 1) := by rw [sub_1, nW_sub (by omega)]
      refine ⟨M2, ?_, ⟨r1, r2, r3, fun a ha => by rw [r4 a ha]; simp only [sI_mI, sI_mL, sI_mF, sI_mR, sI_mK, sI_mN, sI_mC, sI_mS, sL_mI, sL_mL, sL_mF, sL_mR, sL_mK, sL_mN, sL_mC, sL_mS, sF_mI, sF_mL, sF_mF, sF_mR, sF_mK, sF_mN, sF_mC, sF_mS, sR_mI, sR_mL, sR_mF, sR_mR, sR_mK, sR_mN, sR_mC, sR_mS, up2_fn _ _ _ ha], r5, r6, r7, r8⟩, fun j hj => ?_⟩
      · have e8 : f_X7_openRetained_L15 (n + 1) S (nW i) free (nW k) M = f_X7_openRetained_L15 n S (nW i) free (nW k + (-1)) (sR M (up2 (mR M) (S + 435) k (some (p (k - 1))))) := by
          simp (disch := omega) only [f_X7_openRetained_L15, gI, gL, gF, gR, pI, pZ_0, pZ_1, pZ_z, pL, pF, pR, aI, aL, aF, aR, wI, wL, wF, wR, aN, okZ_0, okZ_1, okZ_z, nar13, sI_mI, sI_mL, sI_mF, sI_mR, sI_mK, sI_mN, sI_mC, sI_mS, sL_mI, sL_mL, sL_mF, sL_mR, sL_mK, sL_mN, sL_mC, sL_mS, sF_mI, sF_mL, sF_mF, sF_mR, sF_mK, sF_mN, sF_mC, sF_mS, sR_mI, sR_mL, sR_mF, sR_mR, sR_mK, sR_mN, sR_mC, sR_mS, Option.bind_some, Option.map_some, bindP, bindX, bindH, ↓reduceIte, and_self, true_and, and_true, ne_eq, not_false_eq_true, not_true_eq_false, reduceCtorEq, Nat.reduceEqDiff, Nat.reduceLeDiff, Nat.reduceLT, Bool.false_eq_true, decide_true, decide_false, up2_eq, up2_ne, up2_nj, up2_fn, cl2_eq, cl2_ne, cl2_fn, nW_add, nW_mul, nW_sub, nW_le, nW_lt, nW_inj, irem_nW, ix_nW, nW_lit, h1, h2, h4, h7.1, h7.2, he]
        rw [e8, e9]; exact e2
      · rw [r9 j hj]
        by_cases q : j = i
        · rw [if_pos q, if_pos q]
        · rw [if_neg q, if_neg q]
          by_cases q2 : i < j ∧ j ≤ k - 1
          · rw [if_pos q2, if_pos (by omega), fset_ne _ _ (by omega)]
          · rw [if_neg q2]
            by_cases q3 : j = k
            · subst q3; rw [if_pos (by omega), fset_eq]
            · rw [fset_ne _ _ q3, if_neg (by omega)]
theorem RetR_put {M : Mem} {S i m : Nat} {l : Ls Row} {r r0 : Row} (hS : inZ S) (h : RetR M S l) (hi : i < l.1) (hl : l.2 i = r0) (hm : MsR M m r) (hd : m < S + 435 ∨ S + 444 ≤ m) (hk : (mK M S).1 ≠ 99) : ∃ a M', aR 19 (S + 435) (nW i) M = some a ∧ f_X1_copyFrom a m M = some M' ∧ Fr (fun b => S + 435 < b ∧ b < S + 444) M M' ∧ RetR M' S (lset l i r) := by
  obtain ⟨c1, c2⟩ := hS
  obtain ⟨h1, h2, p, h3, h4⟩ := h
  have h5 := h3.2.1 i (by omega)
  obtain ⟨M', e, F, R⟩ := X1_copyFrom h5.2.1 hm (by omega) (by simp only [tz]; omega)
  refine ⟨p i, M', by simp (disch := omega) only [aR, h3.1, ↓reduceIte, ix_nW, Option.bind_some, h5.1], e, F.mono (fun b h => by omega), by rw [(F.2.2 S (Or.inr (by omega))).1]; exact h1, h2, p, h3.gr F.gr (by decide) (by decide) (by omega), fun j hj => ?_⟩
  have hj' : j < l.1 := hj
  by_cases q : j = i
  · subst q; simp only [lset, ↓reduceIte]; exact R
  · simp only [lset, q, ↓reduceIte]
    have h8 := h3.2.1 j (by omega)
    exact (h4 j hj').gr F.gr (fun hh => q (h3.2.2 j i (by omega) (by omega) hh))
theorem keep_J79 {M : Mem} {S m : Nat} {σ : Sg} {r : Row} (hS : inZ S) (h : StR M S σ) (hm : MsR M m r) (hd : m ≠ S ∧ (m < S + 435 ∨ S + 444 ≤ m)) : ∃ M', f_X7_keepRetained_J79 S m (nW (reAt (gRe σ) r.1)) (zI (reKnown (gRe σ) r.1)) M = some M' ∧ Fr (fun a => a = S ∨ (S + 435 ≤ a ∧ a < S + 444)) M M' ∧ StR M' S (uRe σ (spRetain (gRe σ) r)) := by
  obtain ⟨k1, k2, k3, k4, k5, k6, k7, k8⟩ := StR_k h
  have hO := BaR_O h.1
  have g2 := MsR_get hm (f := 2) (by omega) (by omega)
  have le := reAt_le (gRe σ) r.1
  have hk99 : (mK M S).1 ≠ 99 := by rw [k1]; decide
  have t1 : ¬ nW 1 = nW 0 := by decide
  have l8 : (gRe σ).1 ≤ 8 := h.2.2.2.1.2.1
  have eself : uRe σ (gRe σ) = σ := rfl
  unfold spRetain
  by_cases hp : r.2 2 = nW 0
  · rw [if_pos hp]
    cases hkn : reKnown (gRe σ) r.1 with
    | false =>
      refine ⟨M, ?_, Fr.refl _ _, by rw [if_neg (by decide), eself]; exact h⟩
      simp only [f_X7_keepRetained_J79, g2, Option.bind_some, nW_lit, eq_true hp, ↓reduceIte, zI_f]
    | true =>
      have hlt : reAt (gRe σ) r.1 < (gRe σ).1 := by
        unfold reKnown at hkn; rw [Bool.and_eq_true, decide_eq_true_eq] at hkn; exact hkn.1
      obtain ⟨M', e, F, R⟩ := X7_dropRetained hS h hlt
      refine ⟨M', ?_, F, by rw [if_pos rfl]; exact R⟩
      simp only [f_X7_keepRetained_J79, g2, Option.bind_some, nW_lit, eq_true hp, ↓reduceIte, zI_t, t1, e]
  · rw [if_neg hp]
    cases hkn : reKnown (gRe σ) r.1 with
    | true =>
      have hlt : reAt (gRe σ) r.1 < (gRe σ).1 := by
        unfold reKnown at hkn; rw [Bool.and_eq_true, decide_eq_true_eq] at hkn; exact hkn.1
      obtain ⟨a, M', e1, e2, F, R⟩ := RetR_put hS h.2.2.2.1 hlt rfl hm hd.2 hk99
      have F' : Fr (fun a => a = S ∨ (S + 435 ≤ a ∧ a < S + 444)) M M' := F.mono (fun b h => by omega)
      have hSS := F.2.2 S (Or.inr (by omega))
      refine ⟨M', ?_, F', by rw [if_pos rfl]; exact StR_re h F'.gr (fun b h => h) (by rw [hSS.1]) (by rw [hSS.1]) hSS.2.2.2 R⟩
      simp only [f_X7_keepRetained_J79, f_X7_keepRetained_J116, g2, Option.bind_some, nW_lit, eq_false hp, ↓reduceIte, zI_t, t1, k4, e1, e2]
    | false =>
      by_cases h8 : 8 ≤ (gRe σ).1
      · refine ⟨M, ?_, Fr.refl _ _, by rw [if_neg (by decide), if_pos h8, eself]; exact h⟩
        have n8 : ¬ (gRe σ).1 < 8 := by omega
        simp (disch := omega) only [f_X7_keepRetained_J79, g2, Option.bind_some, nW_lit, eq_false hp, ↓reduceIte, zI_f, k7, nW_lt, n8]
      · have n8 : (gRe σ).1 < 8 := by omega
        obtain ⟨q1, q2, p, q3, q4⟩ := h.2.2.2.1
        have hfree := q3.2.1 (gRe σ).1 n8
        obtain ⟨M1, e1, hx, r9⟩ := openRetained_L15 (i := reAt (gRe σ) r.1) (free := p (gRe σ).1) hS n8 FU (gRe σ).1 M p le (Nat.le_refl _) (by simp only [FU]; omega) ⟨k1, hO.2.2.2.1, q1, q3.1, hfree.2.1⟩ (fun j hj => ⟨(q3.2.1 j hj).1, (q3.2.1 j hj).2.1⟩)
        obtain ⟨c1, c2⟩ := hS
        have F1 : Fr (fun b => b = S ∨ b = S + 435) M M1 := Fr_ir hx (Or.inl rfl) (Or.inr rfl) (by simp only [tz]; omega)
        have efree : aR 19 (S + 435) (nW (gRe σ).1) M = some (p (gRe σ).1) := by simp (disch := omega) only [aR, q3.1, ↓reduceIte, ix_nW, Option.bind_some, hfree.1]
        have hA1 : Ar M1 (S + 435) 19 8 1 (S + 436) (S + 444) (fun j => p (rotD (reAt (gRe σ) r.1) (gRe σ).1 j)) := by
          refine Ar_perm (rotD (reAt (gRe σ) r.1) (gRe σ).1) q3 hx.2.2.2.2.1 (fun j hj => rotD_lt le n8 hj) (fun a b _ _ e => rotD_inj le e) (fun j hj => ?_)
          rw [r9 j hj]; unfold rotD
          split
          · rfl
          · split <;> rfl
        have hm1 := hm.gr F1.gr (by omega)
        have hpl := hA1.2.1 (reAt (gRe σ) r.1) (by omega)
        dsimp only at hpl
        obtain ⟨M2, e2, F2, R2⟩ := X1_copyFrom hpl.2.1 hm1 (by omega) (by simp only [tz]; omega)
        have epl : aR 19 (S + 435) (nW (reAt (gRe σ) r.1)) M1 = some (p (rotD (reAt (gRe σ) r.1) (gRe σ).1 (reAt (gRe σ) r.1))) := by simp (disch := omega) only [aR, hA1.1, ↓reduceIte, ix_nW, Option.bind_some, hpl.1]
        have F : Fr (fun a => a = S ∨ (S + 435 ≤ a ∧ a < S + 444)) M M2 := F1.tr F2 (fun b h => by omega) (fun b h => by omega)
        have hSS := F2.2.2 S (Or.inr (by omega))
        have k4' : gR 7 4 S M1 = some (S + 435) := by simp only [gR, hx.2.2.2.2.1, k1, hx.2.2.2.1 S (by omega), hO.2.2.2.1, ↓reduceIte]
        have m9 : ∀ f, f ≠ 5 → mI M2 S f = mI M S f := fun f hf => by rw [hSS.1, hx.1, up2_nj _ _ _ _ hf]
        refine ⟨M2, ?_, F, ?_⟩
        · have eo : f_X7_openRetained S (nW (reAt (gRe σ) r.1)) M = some M1 := by
            simp only [f_X7_openRetained, k1, ↓reduceIte, k4, Option.bind_some, k7, efree]; exact e1
          simp (disch := omega) only [f_X7_keepRetained_J79, f_X7_keepRetained_J116, g2, Option.bind_some, nW_lit, eq_false hp, ↓reduceIte, zI_f, k7, nW_lt, n8, eo, k4', epl, e2]
        · rw [if_neg (by decide), if_neg h8]
          refine StR_re h F.gr (fun b h => h) (m9 9 (by omega)) (m9 3 (by omega)) (by rw [hSS.2.2.2]; exact hx.2.2.2.1 S (by omega)) ⟨by rw [hSS.1, hx.1, up2_eq]; rfl, by show (gRe σ).1 + 1 ≤ 8; omega, _, hA1.gr F2.gr (by decide) (by decide) (by omega), fun j hj => ?_⟩
          have hj' : j < (gRe σ).1 + 1 := hj
          simp only [lins]
          by_cases q : j = reAt (gRe σ) r.1
          · subst q; rw [if_neg (by omega), if_pos rfl]; exact R2
          · have hne : p (rotD (reAt (gRe σ) r.1) (gRe σ).1 j) ≠ p (rotD (reAt (gRe σ) r.1) (gRe σ).1 (reAt (gRe σ) r.1)) := fun hh => q (hA1.2.2 j _ (by omega) (by omega) hh)
            have hjr := hA1.2.1 j (by omega)
            dsimp only at hjr
            by_cases q2 : j < reAt (gRe σ) r.1
            · rw [if_pos q2]
              have er : rotD (reAt (gRe σ) r.1) (gRe σ).1 j = j := by unfold rotD; rw [if_neg q, if_neg (by omega)]
              rw [er] at hne hjr ⊢
              exact ((q4 j (by omega)).gr F1.gr (by omega)).gr F2.gr hne
            · rw [if_neg q2, if_neg q]
              have er : rotD (reAt (gRe σ) r.1) (gRe σ).1 j = j - 1 := by unfold rotD; rw [if_neg q, if_pos (by omega)]
              rw [er] at hne hjr ⊢
              exact ((q4 (j - 1) (by omega)).gr F1.gr (by omega)).gr F2.gr hne
theorem keep_L2 {M : Mem} {S m : Nat} {σ : Sg} {r : Row} (hS : inZ S) (h : StR M S σ) (hm : MsR M m r) (hd : m ≠ S ∧ (m < S + 435 ∨ S + 444 ≤ m)) : ∀ n i, i ≤ (gRe σ).1 → (gRe σ).1 - i < n → rePl (gRe σ) r.1 ((gRe σ).1 - i) i = reAt (gRe σ) r.1 → ∃ M', f_X7_keepRetained_L2 n S m (nW i) M = some M' ∧ Fr (fun a => a = S ∨ (S + 435 ≤ a ∧ a < S + 444)) M M' ∧ StR M' S (uRe σ (spRetain (gRe σ) r))
  | 0, i, _, hn, _ => absurd hn (by omega)
  | n + 1, i, hi, hn, hpl => by
    obtain ⟨k1, k2, k3, k4, k5, k6, k7, k8⟩ := StR_k h
    have l8 : (gRe σ).1 ≤ 8 := h.2.2.2.1.2.1
    obtain ⟨x, gx, hx⟩ := MsR_top hm
    obtain ⟨M', e, F, R⟩ := keep_J79 hS h hm hd
    -- the end of the walk
    have stop : reAt (gRe σ) r.1 = i → f_X7_keepRetained_J41 S m (nW i) M = some M' := by
      intro hr
      rw [hr] at e
      by_cases hlt : i < (gRe σ).1
      · have n1 : ¬ (gRe σ).1 ≤ i := by omega
        have n2 : ¬ 8 ≤ i := by omega
        obtain ⟨a, ea, _, Ra⟩ := RetR_at h.2.2.2.1 hlt
        obtain ⟨y, gy, hy⟩ := MsR_top Ra
        have sa := X10_sameAs hy hx
        have t1 : ¬ nW 1 = nW 0 := by decide
        by_cases hs : ((gRe σ).2 i).1 = r.1
        · have hkn : reKnown (gRe σ) r.1 = true := by unfold reKnown; rw [hr, decide_eq_true hlt, decide_eq_true hs]; rfl
          rw [hkn, zI_t] at e
          simp (disch := omega) only [f_X7_keepRetained_J41, k7, Option.bind_some, nW_lit, nW_le, n1, n2, ↓reduceIte, k4, ea, gy, gx, sa, bindP, eq_true hs, decide_true, zI_t, t1, e]
        · have hkn : reKnown (gRe σ) r.1 = false := by unfold reKnown; rw [hr, decide_eq_false hs, Bool.and_false]
          rw [hkn, zI_f] at e
          simp (disch := omega) only [f_X7_keepRetained_J41, f_X7_keepRetained_J78, k7, Option.bind_some, nW_lit, nW_le, n1, n2, ↓reduceIte, k4, ea, gy, gx, sa, bindP, eq_false hs, decide_false, zI_f, e]
      · have n1 : (gRe σ).1 ≤ i := by omega
        have hkn : reKnown (gRe σ) r.1 = false := by unfold reKnown; rw [hr, decide_eq_false hlt, Bool.false_and]
        rw [hkn, zI_f] at e
        simp (disch := omega) only [f_X7_keepRetained_J41, f_X7_keepRetained_J78, k7, Option.bind_some, nW_lit, nW_le, n1, ↓reduceIte, e]
    by_cases he : i = (gRe σ).1
    · have n1 : (gRe σ).1 ≤ i := by omega
      have hr : reAt (gRe σ) r.1 = i := by rw [← hpl]; exact rePl_end (fun hh => by omega)
      refine ⟨M', ?_, F, R⟩
      have := stop hr
      simp (disch := omega) only [f_X7_keepRetained_L2, k7, Option.bind_some, nW_lit, nW_le, n1, ↓reduceIte, this]
    · have hlt : i < (gRe σ).1 := by omega
      have n1 : ¬ (gRe σ).1 ≤ i := by omega
      have n2 : ¬ 8 ≤ i := by omega
      obtain ⟨a, ea, _, Ra⟩ := RetR_at h.2.2.2.1 hlt
      obtain ⟨y, gy, hy⟩ := MsR_top Ra
      obtain ⟨v, ev, hv⟩ := X10_order hy hx
      rw [show (gRe σ).1 - i = ((gRe σ).1 - (i + 1)) + 1 by omega, rePl] at hpl
      cases hs : ltS (txS ((gRe σ).2 i).1) (txS r.1) with
      | true =>
        rw [if_pos ⟨hlt, hs⟩] at hpl
        have nv : ¬ nW 0 ≤ v := by rw [hv, hs]; decide
        obtain ⟨M2, e2, F2, R2⟩ := keep_L2 hS h hm hd n (i + 1) (by omega) (by omega) hpl
        refine ⟨M2, ?_, F2, R2⟩
        simp (disch := omega) only [f_X7_keepRetained_L2, k7, Option.bind_some, nW_lit, nW_le, nW_add, n1, n2, ↓reduceIte, k4, ea, gy, gx, ev, bindP, nv, e2]
      | false =>
        rw [if_neg (fun hh => absurd (hs.symm.trans hh.2) (by decide))] at hpl
        have nv : nW 0 ≤ v := by rw [hv]; exact hs
        refine ⟨M', ?_, F, R⟩
        have := stop hpl.symm
        simp (disch := omega) only [f_X7_keepRetained_L2, k7, Option.bind_some, nW_lit, nW_le, nW_add, n1, n2, ↓reduceIte, k4, ea, gy, gx, ev, bindP, nv, this]
theorem St_keepRetained {M : Mem} {S m : Nat} {σ : Sg} {r : Row} (hS : inZ S) (h : StR M S σ) (hm : MsR M m r) (hd : m ≠ S ∧ (m < S + 435 ∨ S + 444 ≤ m)) : ∃ M', f_X7_keepRetained S m M = some M' ∧ Fr (fun a => a = S ∨ (S + 435 ≤ a ∧ a < S + 444)) M M' ∧ StR M' S (uRe σ (spRetain (gRe σ) r)) := by
  obtain ⟨M', e, F, R⟩ := keep_L2 hS h hm hd FU 0 (by omega) (by have : (gRe σ).1 ≤ 8 := h.2.2.2.1.2.1; simp only [FU]; omega) rfl
  exact ⟨M', by simp only [f_X7_keepRetained, h.1.1.1, ↓reduceIte, nW_lit, e], F, R⟩
