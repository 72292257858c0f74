/-! READING A TEXT, in the reference -/
theorem rcK_pad : ∀ (k : Nat) (l : List Nat), l.length ≤ k → rcK (k + 1) l = rcK k l * 37
  | 0, l, h => by
    have : l = [] := List.length_eq_zero_iff.mp (by omega)
    subst this; rfl
  | k + 1, [], _ => rfl
  | k + 1, c :: r, h => by
    have ih := rcK_pad k r (by simpa using h)
    rw [rcK, ih]
    conv => rhs; rw [rcK]
    rw [Nat.pow_succ, Nat.add_mul, Nat.mul_assoc]
theorem rcK_snoc : ∀ (l : List Nat) (c : Nat), rcK (l.length + 1) (l ++ [c]) = rcK l.length l * 37 + sg c
  | [], c => by simp [rcK]
  | a :: r, c => by
    have ih := rcK_snoc r c
    simp only [List.length_cons, List.cons_append]
    rw [rcK, ih]
    conv => rhs; rw [rcK]
    rw [Nat.pow_succ, Nat.add_mul, Nat.mul_assoc, Nat.add_assoc]
theorem ref_sign {c : Nat} (hc : c < 1000) (M : Mem) : f_X12_sign (nW c) M = some (nW (if plain c = true then sg c else 0), M) := by
  cases hp : plain c with
  | true =>
    have pr := plain_rng hp
    by_cases h9 : c ≤ 57
    · have b := inB_of (k := c) (a := 48) (b := 57) (by omega) (by omega) h9
      have e : sg c = c - 48 + 1 := by unfold sg; rw [if_pos h9]; omega
      simp (disch := omega) only [f_X12_sign, nW_lit, r_in, b, bindP, zI_t, z1n0, ↓reduceIte, nW_sub, nW_add]
      rw [e]
    · have b := inB_not (k := c) (a := 48) (b := 57) (by omega) (by omega) (by omega) (by omega)
      have b2 := inB_of (k := c) (a := 97) (b := 122) (by omega) (by omega) (by omega)
      have e : sg c = c - 97 + 11 := by unfold sg; rw [if_neg h9]; omega
      simp (disch := omega) only [f_X12_sign, nW_lit, r_in, b, b2, bindP, zI_t, zI_f, z1n0, ↓reduceIte, nW_sub, nW_add]
      rw [e]
  | false =>
    have np : ¬ ((97 ≤ c ∧ c ≤ 122) ∨ (48 ≤ c ∧ c ≤ 57)) := fun h => by
      unfold plain at hp
      simp at hp
      omega
    have b := inB_not (k := c) (a := 48) (b := 57) (by omega) (by omega) (by omega) (by omega)
    have b2 := inB_not (k := c) (a := 97) (b := 122) (by omega) (by omega) (by omega) (by omega)
    simp (disch := omega) only [f_X12_sign, nW_lit, r_in, b, b2, bindP, zI_f, ↓reduceIte, Bool.false_eq_true]
/-- the buffer in the reference -/
def RB (V : VR) (l : List Nat) : Prop := V.1 0 9 = nW l.length ∧ l.length ≤ 30 ∧ (∀ j, j < l.length → V.1 7 j = nW (l.getD j 0)) ∧ ∀ c ∈ l, 33 ≤ c ∧ c ≤ 126
theorem q_a7 {N : Mem} {V : VR} {s : Nat → Int32} {t : Nat → Int64} (h : KR N) {i : Nat} (hi : i < 30) : aI 13 915 (nW i) (QW N V s t) = some (V.1 7 i) := W_aI7 h hi
theorem VS_vL8 (V : VR) (s : Nat → Int32) (t : Nat → Int64) (i : Nat) (x : Int64) : vL (VS V s t) 8 i x = VS (vL V 8 i x) s t := by
  have : up2 (VS V s t).2.1 8 i x = fun k => if k = 2 then t else (vL V 8 i x).2.1 k := by
    funext a j
    by_cases h : a = 2
    · subst h; simp [up2, VS]
    · simp only [up2, VS, vL, h, ↓reduceIte]
  simp only [vL, VS] at this ⊢
  rw [this]
theorem q_w8 {N : Mem} {V : VR} {s : Nat → Int32} {t : Nat → Int64} (h : KR N) {i : Nat} (x : Int64) (hi : i < 4) : wL 916 (nW i) x (QW N V s t) = some (QW N (vL V 8 i x) s t) := by
  have := W_wL8 (V := VS V s t) h x hi
  rw [VS_vL8] at this; exact this
theorem ref_signHere {N : Mem} {V : VR} {s : Nat → Int32} {t : Nat → Int64} {l : List Nat} (hk : KR N) (h : RB V l) {i : Nat} (hi : i ≤ 1000) : f_X12_signHere 908 (nW i) (QW N V s t) = some (nW (if i < l.length ∧ plain (l.getD i 0) = true then sg (l.getD i 0) else 0), QW N V s t) := by
  obtain ⟨h1, h2, h3, h4⟩ := h
  by_cases hl : i < l.length
  · have n0 : ¬ l.length ≤ i := by omega
    have hcr := h4 (l.getD i 0) (by rw [gd_in _ _ hl]; exact List.getElem_mem hl)
    have es := ref_sign (c := l.getD i 0) (by omega) (QW N V s t)
    simp (disch := omega) only [f_X12_signHere, q_k hk, q_gR1 hk, q_gR2 hk, q_gR8 hk, q_gR11 hk, q_gR13 hk, q_gR14 hk, q_gR15 hk, q_gR16 hk, q_gI hk, q_pI hk, q_a hk, q_w hk, q_l hk, nW_lit, ↓reduceIte, Option.bind_some, h1, nW_le, n0, q_a7 hk, h3 i hl, es, bindP, hl, true_and]
  · have n0 : l.length ≤ i := by omega
    simp (disch := omega) only [f_X12_signHere, q_k hk, q_gR1 hk, q_gR2 hk, q_gR8 hk, q_gR11 hk, q_gR13 hk, q_gR14 hk, q_gR15 hk, q_gR16 hk, q_gI hk, q_pI hk, q_a hk, q_w hk, q_l hk, nW_lit, ↓reduceIte, Option.bind_some, h1, nW_le, n0, hl, false_and]
theorem ref_rd_L111 {N : Mem} {V : VR} {s : Nat → Int32} {t : Nat → Int64} {l : List Nat} (hk : KR N) (h : RB V l) (k34 : Nat → Int32 → Int32 → Int32 → Mem → Option (Int32 × Mem)) (wild : Int32) (fr : Int32) (isl : Int32) : ∀ n d i (q : List Nat), i ≤ l.length → d < n → q.length + d = 6 → (∀ c ∈ q, plain c = true) → f_X12_reads_L111 n k34 908 wild (nW i) fr (nW 0) isl (nL (rcK q.length q)) (nW q.length) (QW N V s t) = f_X12_reads_L159 FU k34 908 wild (nW (i + (tkp d (l.drop i)).length)) fr (nW 0) isl (nL (rcK (q.length + (tkp d (l.drop i)).length) (q ++ tkp d (l.drop i)))) (nW (q.length + (tkp d (l.drop i)).length)) (QW N V s t)
  | 0, d, i, q, _, hn, _, _ => absurd hn (by omega)
  | n + 1, 0, i, q, hi, hn, hq, hp => by
    have h6 : 6 ≤ q.length := by omega
    simp (disch := omega) only [f_X12_reads_L111, nW_lit, nW_le, h6, ↓reduceIte, tkp, List.length_nil, Nat.add_zero, List.append_nil]
  | n + 1, d + 1, i, q, hi, hn, hq, hp => by
    have h6 : ¬ 6 ≤ q.length := by omega
    have h30 := h.2.1
    have es := ref_signHere (N := N) (s := s) (t := t) hk h (i := i) (by omega)
    by_cases hl : i < l.length
    · have ed : l.drop i = l.getD i 0 :: l.drop (i + 1) := by rw [List.drop_eq_getElem_cons hl, gd_in _ _ hl]
      cases hpc : plain (l.getD i 0) with
      | true =>
        have b := sg_rng hpc
        rw [hpc, if_pos ⟨hl, rfl⟩] at es
        have n0 : ¬ sg (l.getD i 0) ≤ 0 := by omega
        have hq' : ∀ c ∈ q ++ [l.getD i 0], plain c = true := fun c hc => by
          rcases List.mem_append.mp hc with hc | hc
          · exact hp c hc
          · rw [List.mem_singleton.mp hc]; exact hpc
        have ih := ref_rd_L111 (N := N) (s := s) (t := t) hk h k34 wild fr isl n d (i + 1) (q ++ [l.getD i 0]) (by omega) (by omega) (by simp only [List.length_append, List.length_singleton]; omega) hq'
        have e1 : nL 37 * nL (rcK q.length q) + (nW (sg (l.getD i 0))).toInt64 = nL (rcK (q.length + 1) (q ++ [l.getD i 0])) := by
          rw [nW_toL (by omega), nL_mul, nL_add, rcK_snoc, Nat.mul_comm]
        have e37 : (37 : Int64) = nL 37 := rfl
        rw [ed, tkp, if_pos hpc]
        simp only [List.length_append, List.length_singleton, List.append_assoc, List.singleton_append] at ih
        simp (disch := omega) only [f_X12_reads_L111, nW_lit, nW_le, h6, n0, ↓reduceIte, es, bindP, nW_add, e37, e1, ih, List.length_cons]
        rw [show i + 1 + (tkp d (l.drop (i + 1))).length = i + ((tkp d (l.drop (i + 1))).length + 1) by omega, show q.length + 1 + (tkp d (l.drop (i + 1))).length = q.length + ((tkp d (l.drop (i + 1))).length + 1) by omega]
      | false =>
        rw [hpc, if_neg (by simp)] at es
        rw [ed, tkp, hpc, if_neg (by decide)]
        simp (disch := omega) only [f_X12_reads_L111, nW_lit, nW_le, h6, Nat.le_refl, ↓reduceIte, es, bindP, List.length_nil, Nat.add_zero, List.append_nil]
    · rw [if_neg (fun hh => hl hh.1)] at es
      rw [List.drop_eq_nil_of_le (by omega), tkp]
      simp (disch := omega) only [f_X12_reads_L111, nW_lit, nW_le, h6, Nat.le_refl, ↓reduceIte, es, bindP, List.length_nil, Nat.add_zero, List.append_nil]
theorem ref_rd_L159 {M : Mem} (k34 : Nat → Int32 → Int32 → Int32 → Mem → Option (Int32 × Mem)) (wild i fr isl : Int32) (w : Bool) (q : List Nat) : ∀ n d j, d < n → j + d = 6 → q.length ≤ j → f_X12_reads_L159 n k34 908 wild i fr (zI w) isl (nL (rcK j q)) (nW j) M = f_X12_reads_J191 k34 908 wild fr (zI w) isl (nL (rcK 6 q)) (zI w) i M
  | 0, d, j, hn, _, _ => absurd hn (by omega)
  | n + 1, 0, j, hn, hj, hq => by
    have : j = 6 := by omega
    subst this
    cases w <;> simp (disch := omega) only [f_X12_reads_L159, nW_lit, nW_le, Nat.le_refl, ↓reduceIte, zI_t, zI_f, z1n0]
  | n + 1, d + 1, j, hn, hj, hq => by
    have h6 : ¬ 6 ≤ j := by omega
    have ih := ref_rd_L159 (M := M) k34 wild i fr isl w q n d (j + 1) (by omega) (by omega) (by omega)
    have e37 : (37 : Int64) = nL 37 := rfl
    simp (disch := omega) only [f_X12_reads_L159, nW_lit, nW_le, h6, ↓reduceIte, nW_add, e37, nL_mul, ← rcK_pad j q hq, ih]
/-- what reading leaves -/
def VRd (V V' : VR) : Prop := (∀ j, j ≠ 9 → j ≠ 10 → j ≠ 12 → V'.1 0 j = V.1 0 j) ∧ (∀ k, k ≠ 0 → V'.1 k = V.1 k) ∧ V'.2.2 = V.2.2 ∧ ∀ k, k ≠ 8 → V'.2.1 k = V.2.1 k
theorem VRd.refl (V : VR) : VRd V V := ⟨fun _ _ _ _ => rfl, fun _ _ => rfl, rfl, fun _ _ => rfl⟩
theorem VRd.trans {V V' V'' : VR} (h : VRd V V') (g : VRd V' V'') : VRd V V'' := ⟨fun j a b c => (g.1 j a b c).trans (h.1 j a b c), fun k a => (g.2.1 k a).trans (h.2.1 k a), g.2.2.1.trans h.2.2.1, fun k a => (g.2.2.2 k a).trans (h.2.2.2 k a)⟩
theorem VRd_I (V : VR) {f : Nat} (x : Int32) (hf : f = 9 ∨ f = 10 ∨ f = 12) : VRd V (vI V 0 f x) := ⟨fun j a b c => by rw [vI_1, fset_ne _ _ (by omega)], fun k a => vI_o _ _ _ a, rfl, fun _ _ => rfl⟩
theorem VRd_L (V : VR) (i : Nat) (x : Int64) : VRd V (vL V 8 i x) := ⟨fun _ _ _ _ => rfl, fun _ _ => rfl, rfl, fun k a => vL_o _ _ _ a⟩
theorem RB.vrd {V V' : VR} {l : List Nat} (h : RB V l) (q : VRd V V') (h9 : V'.1 0 9 = V.1 0 9) : RB V' l := by
  obtain ⟨h1, h2, h3, h4⟩ := h
  exact ⟨by rw [h9]; exact h1, h2, fun j hj => by rw [q.2.1 7 (by omega)]; exact h3 j hj, h4⟩
/-- levels read so far -/
def RLv (V : VR) (pre : Txt) : Prop := V.1 0 12 = nW pre.length ∧ pre.length ≤ 4 ∧ V.1 0 10 = -nW 1 ∧ ∀ k, k < 4 → V.2.1 8 k = rc (pre.getD k [])
theorem ref_rd_end {N : Mem} {V : VR} {s : Nat → Int32} {t : Nat → Int64} (hk : KR N) (n : Nat) (w i : Int32) {e : Int32} (he : V.1 0 10 = e) : f_X12_reads_L34 (n + 1) 908 w i (nW 0) (QW N V s t) = some (zI (decide (e = -nW 1)), QW N (vI V 0 9 (nW 0)) s t) := by
  have e10 : (vI V 0 9 (nW 0)).1 0 10 = e := by rw [vI_1, fset_ne _ _ (by omega)]; exact he
  rw [f_X12_reads_L34]
  simp only [nW_lit, ↓reduceIte, q_pI hk, q_gI hk, Option.bind_some, e10, lit_m1i]
  by_cases h : e = -nW 1
  · simp only [eq_true h, ↓reduceIte, decide_true, zI_t]; exact okZ_1 _
  · simp only [eq_false h, ↓reduceIte, decide_false, zI_f]; exact okZ_0 _
