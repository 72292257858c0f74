/-! THE LENGTH AND THE SIGNS of a topic, in the reference -/
theorem nL_div {a b : Nat} (ha : a < 9223372036854775808) (hb : b < 9223372036854775808) : nL a / nL b = nL (a / b) := (Int64.ofNat_div ha hb).symm
theorem nL_mul (a b : Nat) : nL a * nL b = nL (a * b) := (Int64.ofNat_mul a b).symm
theorem nL_add (a b : Nat) : nL a + nL b = nL (a + b) := (Int64.ofNat_add a b).symm
theorem nL_sub {a b : Nat} (h : b ≤ a) : nL a - nL b = nL (a - b) := (Int64.ofNat_sub a b h).symm
theorem lrem_nL {a b : Nat} (ha : a < 9223372036854775808) (hb : b < 9223372036854775808) : lremE (nL a) (nL b) = nL (a % b) := by
  have h1 : a / b * b ≤ a := Nat.div_mul_le_self a b
  have h2 : a % b = a - a / b * b := by
    have := Nat.div_add_mod a b
    rw [Nat.mul_comm] at this; omega
  rw [lremE, nL_div ha hb, nL_mul, nL_sub h1, h2]
theorem rcK_dig : ∀ (k : Nat) {l : List Nat} (j : Nat), (∀ c ∈ l, plain c = true) → j < k → rcK k l / 37 ^ (k - 1 - j) % 37 = if j < l.length then sg (l.getD j 0) else 0
  | 0, _, j, _, h => absurd h (by omega)
  | k + 1, [], j, _, _ => by
    show 0 / 37 ^ (k + 1 - 1 - j) % 37 = _
    rw [Nat.zero_div]; simp
  | k + 1, c :: r, 0, hl, _ => by
    have hr := rcK_lt k (l := r) (fun d hd => hl d (List.mem_cons_of_mem _ hd))
    have b := sg_rng (hl c List.mem_cons_self)
    rw [rcK, show k + 1 - 1 - 0 = k by omega, Nat.mul_comm, Nat.mul_add_div (Nat.pow_pos (by omega)), Nat.div_eq_of_lt hr, Nat.add_zero, Nat.mod_eq_of_lt b.2]
    simp
  | k + 1, c :: r, j + 1, hl, h => by
    have ih := rcK_dig k (l := r) j (fun d hd => hl d (List.mem_cons_of_mem _ hd)) (by omega)
    have e : 37 ^ k = 37 ^ (k - 1 - j) * (37 * 37 ^ j) := by
      rw [← Nat.pow_succ', ← Nat.pow_add]; congr 1; omega
    rw [rcK, show k + 1 - 1 - (j + 1) = k - 1 - j by omega, e, Nat.mul_comm (sg c), Nat.mul_assoc, Nat.mul_add_div (Nat.pow_pos (by omega)), Nat.mul_assoc, Nat.mul_add_mod, ih]
    simp
theorem ref_signsOf_L5 {l : List Nat} {M : Mem} (hl : ∀ c ∈ l, plain c = true) (h6 : l.length ≤ 6) : ∀ n k, l.length ≤ k → k ≤ 6 → k < n → f_X12_signsOf_L5 n (nW k) (nL (rcK 6 l / 37 ^ (6 - k))) M = some (nW l.length, M)
  | 0, k, _, _, h => absurd h (by omega)
  | n + 1, k, h1, h2, h3 => by
    have hlt : rcK 6 l / 37 ^ (6 - k) < 9223372036854775808 := Nat.lt_of_le_of_lt (Nat.div_le_self _ _) (rcK6_lt hl)
    by_cases hk : k = 0
    · subst hk
      have : l.length = 0 := by omega
      rw [this]
      simp (disch := omega) only [f_X12_signsOf_L5, nW_lit, nW_le, Nat.le_refl, ↓reduceIte]
    · have n0 : ¬ k ≤ 0 := by omega
      have e37 : (37 : Int64) = nL 37 := rfl
      have e0 : (0 : Int64) = nL 0 := rfl
      have dg := rcK_dig 6 (l := l) (k - 1) hl (by omega)
      rw [show 6 - 1 - (k - 1) = 6 - k by omega] at dg
      have m37 : rcK 6 l / 37 ^ (6 - k) % 37 < 37 := Nat.mod_lt _ (by omega)
      by_cases hm : k = l.length
      · have hp : 0 < sg (l.getD (k - 1) 0) := by
          refine (sg_rng (hl _ ?_)).1
          rw [gd_in _ _ (by omega)]; exact List.getElem_mem _
        rw [if_pos (by omega)] at dg
        have ne : ¬ rcK 6 l / 37 ^ (6 - k) % 37 = 0 := by omega
        simp (disch := omega) only [f_X12_signsOf_L5, nW_lit, nW_le, n0, ↓reduceIte, e37, e0, lrem_nL hlt, lcmp0, nL_inj, ne]
        rw [hm]
      · rw [if_neg (by omega)] at dg
        have ih := ref_signsOf_L5 (M := M) hl h6 n (k - 1) (by omega) (by omega) (by omega)
        have e : rcK 6 l / 37 ^ (6 - k) / 37 = rcK 6 l / 37 ^ (6 - (k - 1)) := by
          rw [Nat.div_div_eq_div_mul, ← Nat.pow_succ]; congr 2; omega
        have es : nW k + -1 = nW (k - 1) := by rw [sub_1, nW_sub (by omega)]
        simp (disch := omega) only [f_X12_signsOf_L5, nW_lit, nW_le, n0, ↓reduceIte, e37, e0, lrem_nL hlt, lcmp0, nL_inj, dg, nL_div hlt, e]
        rw [← nW_lit 1, es]; exact ih
theorem ref_signsOf {l : List Nat} {M : Mem} (hl : ∀ c ∈ l, plain c = true) (h6 : l.length ≤ 6) : f_X12_signsOf (rc l) M = some (nW l.length, M) := by
  have := ref_signsOf_L5 (M := M) hl h6 FU 6 h6 (by omega) (by simp only [FU]; omega)
  rw [show 6 - 6 = 0 by omega, Nat.pow_zero, Nat.div_one] at this
  rw [rc_pl hl, f_X12_signsOf, nW_lit]; exact this
def slT (t : Txt) : Nat := (t.map List.length).sum
theorem txS_len : ∀ t : Txt, (txS t).length = t.length - 1 + slT t
  | [] => rfl
  | [l] => by simp [txS, slT]
  | l :: m :: r => by
    have := txS_len (m :: r)
    simp only [txS, List.length_append, List.length_cons, slT, List.map_cons, List.sum_cons] at this ⊢
    omega
theorem slT_le {t : Txt} (h : plTx t) : slT t ≤ 6 * t.length := by
  induction t with
  | nil => exact Nat.le_refl _
  | cons l r ih =>
    have h1 := (h l List.mem_cons_self).2.1
    have := ih (fun x hx => h x (List.mem_cons_of_mem _ hx))
    simp only [slT, List.map_cons, List.sum_cons, List.length_cons] at this ⊢
    omega
theorem ref_lengthOf_L21 {a i : Nat} {t : Txt} {M : Mem} (hT : LB M a i t) (hp : plTx t) (h4 : t.length ≤ 4) : ∀ n k acc, k ≤ t.length → t.length - k < n → f_X12_lengthOf_L21 n a (nW i) (nW t.length) (nW acc) (nW k) M = some (nW (acc + slT (t.drop k)), M)
  | 0, k, acc, _, h => absurd h (by omega)
  | n + 1, k, acc, h1, h2 => by
    by_cases hk : k = t.length
    · subst hk
      simp (disch := omega) only [f_X12_lengthOf_L21, nW_le, Nat.le_refl, ↓reduceIte, List.drop_length, slT, List.map_nil, List.sum_nil, Nat.add_zero]
    · have n0 : ¬ t.length ≤ k := by omega
      have hk' : k < t.length := by omega
      have hl := plTx_lev hp k
      have ih := ref_lengthOf_L21 hT hp h4 n (k + 1) (acc + (t.getD k []).length) (by omega) (by omega)
      have e := hT k (by omega)
      have es := ref_signsOf (M := M) hl.2 hl.1
      simp (disch := omega) only [f_X12_lengthOf_L21, nW_le, nW_lit, n0, ↓reduceIte, nW_add, e, Option.bind_some, es, bindP, ih]
      have ed : t.drop k = t.getD k [] :: t.drop (k + 1) := by rw [List.drop_eq_getElem_cons hk', gd_in _ _ hk']
      rw [ed]; simp only [slT, List.map_cons, List.sum_cons, Nat.add_assoc]
theorem ref_lengthOf {a i : Nat} {t : Txt} {M : Mem} (hT : LB M a i t) (ht : okTx t) (hp : topical t) : f_X12_lengthOf a (nW i) M = some (nW (txS t).length, M) := by
  have hpl := plTx_ok ht hp
  have h4 := ht.1
  have L := fun acc => ref_lengthOf_L21 hT hpl h4 FU 0 acc (by omega) (by simp only [FU]; omega)
  rw [f_X12_lengthOf, ref_levelsOf hT ht]
  simp only [bindP, nW_lit]
  by_cases h0 : t.length = 0
  · have := L 0
    have e0 : nW t.length = nW 0 := by rw [h0]
    simp only [eq_true e0, ↓reduceIte]
    rw [this, txS_len, h0, List.drop_zero]
  · have n0 : ¬ nW t.length = nW 0 := by rw [nW_inj (by omega) (by omega)]; exact h0
    simp only [eq_false n0, ↓reduceIte]
    rw [nW_sub (by omega), L (t.length - 1), txS_len, List.drop_zero]
theorem ref_chr_L65 {l : List Nat} {M : Mem} (hl : ∀ c ∈ l, plain c = true) {j : Nat} (hj : j < l.length) (h6 : l.length ≤ 6) : ∀ n i, j ≤ i → i ≤ 5 → 5 - i < n → f_X12_characterOf_L65 n (nL (rcK 6 l / 37 ^ (i - j))) (nW i) M = some (nW (l.getD j 0), M)
  | 0, i, _, _, h => absurd h (by omega)
  | n + 1, i, h1, h2, h3 => by
    have hlt : ∀ x, rcK 6 l / 37 ^ x < 9223372036854775808 := fun x => Nat.lt_of_le_of_lt (Nat.div_le_self _ _) (rcK6_lt hl)
    have e37 : (37 : Int64) = nL 37 := rfl
    by_cases hi : i = 5
    · subst hi
      have dg := rcK_dig 6 (l := l) j hl (by omega)
      rw [show 6 - 1 - j = 5 - j by omega, if_pos hj] at dg
      have hm : l.getD j 0 ∈ l := by rw [gd_in _ _ hj]; exact List.getElem_mem _
      have pr := plain_rng (hl _ hm)
      have b := sg_rng (hl _ hm)
      have e32 : (nL (sg (l.getD j 0))).toInt32 = nW (sg (l.getD j 0)) := by
        rw [← Int32.toInt_inj, Int64.toInt_toInt32, nL_int (by omega), nW_int (by omega), Int.bmod_def]
        split <;> omega
      have es : sg (l.getD j 0) = if l.getD j 0 ≤ 57 then l.getD j 0 - 47 else l.getD j 0 - 86 := rfl
      simp (disch := omega) only [f_X12_characterOf_L65, nW_lit, nW_le, Nat.le_refl, ↓reduceIte, e37, lrem_nL (hlt _), dg, e32, nW_add]
      by_cases h11 : 11 ≤ sg (l.getD j 0)
      · rw [if_pos h11, nW_sub (by omega)]
        have : 97 + sg (l.getD j 0) - 11 = l.getD j 0 := by split at es <;> omega
        rw [this]
      · rw [if_neg h11, nW_sub (by omega)]
        have : 48 + sg (l.getD j 0) - 1 = l.getD j 0 := by split at es <;> omega
        rw [this]
    · have n5 : ¬ 5 ≤ i := by omega
      have ih := ref_chr_L65 (M := M) hl hj h6 n (i + 1) (by omega) (by omega) (by omega)
      have e : rcK 6 l / 37 ^ (i - j) / 37 = rcK 6 l / 37 ^ (i + 1 - j) := by
        rw [Nat.div_div_eq_div_mul, ← Nat.pow_succ]; congr 2; omega
      simp (disch := omega) only [f_X12_characterOf_L65, nW_lit, nW_le, n5, ↓reduceIte, e37, nL_div (hlt _), e, nW_add, ih]
theorem ref_chr_L5 {a : Nat} {t : Txt} {M : Mem} (hT : LB M a 0 t) (hp : plTx t) (h4 : t.length ≤ 4) : ∀ n k left, k ≤ t.length → t.length - k < n → left < (txS (t.drop k)).length → f_X12_characterOf_L5 n a (nW 0) (nW left) (nW k) M = some (nW ((txS (t.drop k)).getD left 0), M)
  | 0, k, left, _, h, _ => absurd h (by omega)
  | n + 1, k, left, h1, h2, h3 => by
    by_cases hk : k = t.length
    · subst hk; rw [List.drop_length] at h3; exact absurd h3 (by simp [txS])
    · have hk' : k < t.length := by omega
      have hl := plTx_lev hp k
      have e := hT k (by omega)
      have es := ref_signsOf (M := M) hl.2 hl.1
      have hb : (txS (t.drop k)).length ≤ 27 := by
        have h := txS_len (t.drop k)
        have h' := slT_le (t := t.drop k) (fun x hx => hp x (List.mem_of_mem_drop hx))
        rw [List.length_drop] at h h'; omega
      have ed : t.drop k = t.getD k [] :: t.drop (k + 1) := by rw [List.drop_eq_getElem_cons hk', gd_in _ _ hk']
      obtain ⟨x, ex, hx⟩ := txS_cons (l := t.getD k []) (r := t.drop (k + 1))
      rw [ed, ex] at h3 hb ⊢
      rw [List.length_append] at h3 hb
      rw [List.getD_eq_getElem?_getD]
      by_cases c1 : left < (t.getD k []).length
      · have c2 : left ≤ (t.getD k []).length := by omega
        have c3 : ¬ left = (t.getD k []).length := by omega
        have eL := ref_chr_L65 (M := M) hl.2 c1 hl.1 FU left (Nat.le_refl _) (by omega) (by simp only [FU]; omega)
        rw [Nat.sub_self, Nat.pow_zero, Nat.div_one] at eL
        rw [List.getElem?_append_left c1, ← List.getD_eq_getElem?_getD]
        simp (disch := omega) only [f_X12_characterOf_L5, nW_add, e, Option.bind_some, es, bindP, nW_le, c2, nW_inj, c3, ↓reduceIte]
        rw [rc_pl hl.2]; exact eL
      · by_cases c2 : left = (t.getD k []).length
        · rw [List.getElem?_append_right (by omega)]
          have c3 : left ≤ (t.getD k []).length := by omega
          have hx0 : x[left - (t.getD k []).length]?.getD 0 = 47 := by
            rcases hx with ⟨_, rfl⟩ | ⟨_, rfl⟩
            · simp only [List.length_nil] at h3; omega
            · rw [c2, Nat.sub_self]; rfl
          rw [hx0]
          simp (disch := omega) only [f_X12_characterOf_L5, nW_add, e, Option.bind_some, es, bindP, nW_le, c3, nW_inj, c2, ↓reduceIte, Nat.le_refl]
          rfl
        · have c3 : ¬ left ≤ (t.getD k []).length := by omega
          rw [List.getElem?_append_right (by omega)]
          rcases hx with ⟨_, rfl⟩ | ⟨_, rfl⟩
          · simp only [List.length_nil] at h3; omega
          · simp only [List.length_cons] at h3 hb
            have ih := ref_chr_L5 hT hp h4 n (k + 1) (left - ((t.getD k []).length + 1)) (by omega) (by omega) (by omega)
            have ee : left - (t.getD k []).length = (left - ((t.getD k []).length + 1)) + 1 := by omega
            rw [ee, List.getElem?_cons_succ, ← List.getD_eq_getElem?_getD]
            simp (disch := omega) only [f_X12_characterOf_L5, nW_add, e, Option.bind_some, es, bindP, nW_le, c3, ↓reduceIte, nW_lit, nW_sub, ih]
theorem ref_characterOf {a i : Nat} {t : Txt} {M : Mem} (hT : LB M a 0 t) (ht : okTx t) (hp : topical t) (hi : i < (txS t).length) : f_X12_characterOf a (nW 0) (nW i) M = some (nW ((txS t).getD i 0), M) := by
  have h4 := ht.1
  have := ref_chr_L5 hT (plTx_ok ht hp) h4 FU 0 i (by omega) (by simp only [FU]; omega) (by rw [List.drop_zero]; exact hi)
  rw [List.drop_zero] at this
  rw [f_X12_characterOf, nW_lit]; exact this
