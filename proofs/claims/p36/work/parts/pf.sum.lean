/-! THE SUM over all that is read: it depends on the state alone -/
def Sm (σ : Sg) (f : Mem → Option ((Int32 ⊕ Nat) × Mem)) (v : Int32) : Prop := ∀ (s : Bool × Sg) (k n : Nat) M A, Jw s k n M A → oS A = σ → f M = some (.inl v, M)
def SgP (σ : Sg) : Prop := (∀ c, c < 6 → lim1 (gCl σ c)) ∧ (gRe σ).1 ≤ 8
theorem sum_213 {σ : Sg} (hP : SgP σ) : ∀ r j n a, j + r = (gRe σ).1 → r < n → ∃ v, Sm σ (f_L_sum_L213 n 0 a (nW j)) v
  | r, j, 0, _, _, hn => absurd hn (by omega)
  | 0, j, n + 1, a, hj, hn => by
    have h8 := hP.2
    refine ⟨a, fun s k m M A h e => ?_⟩
    have q := X_retN h.1.1
    rw [e] at q
    have h1 : nW (gRe σ).1 ≤ nW j := by rw [nW_le (by omega) (by omega)]; omega
    rw [f_L_sum_L213]
    simp only [q, bindP, h1, ↓reduceIte]
  | r + 1, j, n + 1, a, hj, hn => by
    have h8 := hP.2
    have h1 : ¬ nW (gRe σ).1 ≤ nW j := by rw [nW_le (by omega) (by omega)]; omega
    obtain ⟨v, ih⟩ := sum_213 hP r (j + 1) n (((((31 : Int32) * a) + reV ((gRe σ).2 j) 0) + ((3 : Int32) * reV ((gRe σ).2 j) 1)) + ((40000 : Int32) * reV ((gRe σ).2 j) 2)) (by omega) (by omega)
    refine ⟨v, fun s k m M A h e => ?_⟩
    have ih := ih s k m M A h e
    have q := X_retN h.1.1
    have q0 := X_ret h.1.1 (j := j) (by rw [e]; omega) (w := 0) (by omega)
    have q1 := X_ret h.1.1 (j := j) (by rw [e]; omega) (w := 1) (by omega)
    have q2 := X_ret h.1.1 (j := j) (by rw [e]; omega) (w := 2) (by omega)
    rw [e] at q q0 q1 q2
    rw [f_L_sum_L213]
    simp only [nW_lit] at ih ⊢
    simp only [q, bindP, h1, ↓reduceIte, q0, q1, q2, bindX, nW_add]
    exact ih
theorem sum_143 {σ : Sg} (hP : SgP σ) {c : Nat} (hc : c < 6) {k30 : Nat → Int32 → Int32 → Mem → Option ((Int32 ⊕ Nat) × Mem)} (hk : ∀ a, ∃ v, Sm σ (k30 0 a (nW (c + 1))) v) : ∀ r j n a, j + r = (cL (gCl σ c) 3).1 → r < n → ∃ v, Sm σ (f_L_sum_L143 n k30 0 a (nW c) (nW j)) v
  | r, j, 0, _, _, hn => absurd hn (by omega)
  | 0, j, n + 1, a, hj, hn => by
    have l6 := (hP.1 c hc).2.2.2
    obtain ⟨v, hv⟩ := hk a
    refine ⟨v, fun s k m M A h e => ?_⟩
    have hv := hv s k m M A h e
    have q := X_len h.1.1 hc (w := 4) (by omega)
    rw [e, show nW (lnV (gCl σ c) 4) = nW (cL (gCl σ c) 3).1 from rfl] at q
    have h1 : nW (cL (gCl σ c) 3).1 ≤ nW j := by rw [nW_le (by omega) (by omega)]; omega
    rw [f_L_sum_L143]
    simp only [nW_lit, nW_add, q, bindX, h1, ↓reduceIte]
    exact hv
  | r + 1, j, n + 1, a, hj, hn => by
    have l6 := (hP.1 c hc).2.2.2
    have h1 : ¬ nW (cL (gCl σ c) 3).1 ≤ nW j := by rw [nW_le (by omega) (by omega)]; omega
    obtain ⟨v, ih⟩ := sum_143 hP hc hk r (j + 1) n ((((((31 : Int32) * a) + suV ((cL (gCl σ c) 3).2 j) 0) + ((5 : Int32) * suV ((cL (gCl σ c) 3).2 j) 1)) + ((25 : Int32) * suV ((cL (gCl σ c) 3).2 j) 2)) + ((300 : Int32) * suV ((cL (gCl σ c) 3).2 j) 3)) (by omega) (by omega)
    refine ⟨v, fun s k m M A h e => ?_⟩
    have ih := ih s k m M A h e
    have q := X_len h.1.1 hc (w := 4) (by omega)
    have q0 := X_sub h.1.1 hc (j := j) (by rw [e]; omega) (w := 0) (by omega)
    have q1 := X_sub h.1.1 hc (j := j) (by rw [e]; omega) (w := 1) (by omega)
    have q2 := X_sub h.1.1 hc (j := j) (by rw [e]; omega) (w := 2) (by omega)
    have q3 := X_sub h.1.1 hc (j := j) (by rw [e]; omega) (w := 3) (by omega)
    rw [e] at q q0 q1 q2 q3
    rw [show nW (lnV (gCl σ c) 4) = nW (cL (gCl σ c) 3).1 from rfl] at q
    rw [f_L_sum_L143]
    simp only [nW_lit] at ih ⊢
    simp only [q, bindX, h1, ↓reduceIte, q0, q1, q2, q3, nW_add]
    exact ih
theorem sum_82 {σ : Sg} (hP : SgP σ) {c : Nat} (hc : c < 6) {k30 : Nat → Int32 → Int32 → Mem → Option ((Int32 ⊕ Nat) × Mem)} (hk : ∀ a, ∃ v, Sm σ (k30 0 a (nW (c + 1))) v) : ∀ r j n a, j + r = (cL (gCl σ c) 1).1 → r < n → ∃ v, Sm σ (f_L_sum_L82 n k30 0 a (nW c) (nW j)) v
  | r, j, 0, _, _, hn => absurd hn (by omega)
  | 0, j, n + 1, a, hj, hn => by
    have l6 := (hP.1 c hc).2.1
    have l7 := (hP.1 c hc).2.2.2
    obtain ⟨v, hv⟩ := sum_143 hP hc hk (cL (gCl σ c) 3).1 0 FU a (by omega) (by simp only [FU]; omega)
    refine ⟨v, fun s k m M A h e => ?_⟩
    have hv := hv s k m M A h e
    have q := X_len h.1.1 hc (w := 1) (by omega)
    rw [e, show nW (lnV (gCl σ c) 1) = nW (cL (gCl σ c) 1).1 from rfl] at q
    have h1 : nW (cL (gCl σ c) 1).1 ≤ nW j := by rw [nW_le (by omega) (by omega)]; omega
    rw [f_L_sum_L82]
    simp only [nW_lit, q, bindX, h1, ↓reduceIte]
    exact hv
  | r + 1, j, n + 1, a, hj, hn => by
    have l6 := (hP.1 c hc).2.1
    have h1 : ¬ nW (cL (gCl σ c) 1).1 ≤ nW j := by rw [nW_le (by omega) (by omega)]; omega
    obtain ⟨v, ih⟩ := sum_82 hP hc hk r (j + 1) n ((((((31 : Int32) * a) + flV ((cL (gCl σ c) 1).2 j) 0) + ((60 : Int32) * flV ((cL (gCl σ c) 1).2 j) 2)) + flV ((cL (gCl σ c) 1).2 j) 3) + ((7 : Int32) * flV ((cL (gCl σ c) 1).2 j) 4)) (by omega) (by omega)
    refine ⟨v, fun s k m M A h e => ?_⟩
    have ih := ih s k m M A h e
    have q := X_len h.1.1 hc (w := 1) (by omega)
    have q0 := X_fly h.1.1 hc (j := j) (by rw [e]; omega) (w := 0) (by omega)
    have q2 := X_fly h.1.1 hc (j := j) (by rw [e]; omega) (w := 2) (by omega)
    have q3 := X_fly h.1.1 hc (j := j) (by rw [e]; omega) (w := 3) (by omega)
    have q4 := X_fly h.1.1 hc (j := j) (by rw [e]; omega) (w := 4) (by omega)
    rw [e] at q q0 q2 q3 q4
    rw [show nW (lnV (gCl σ c) 1) = nW (cL (gCl σ c) 1).1 from rfl] at q
    rw [f_L_sum_L82]
    simp only [nW_lit] at ih ⊢
    simp only [q, bindX, h1, ↓reduceIte, q0, q2, q3, q4, nW_add]
    exact ih
theorem sum_57 {σ : Sg} (hP : SgP σ) {c : Nat} (hc : c < 6) {k30 : Nat → Int32 → Int32 → Mem → Option ((Int32 ⊕ Nat) × Mem)} (hk : ∀ a, ∃ v, Sm σ (k30 0 a (nW (c + 1))) v) : ∀ r j n a, j + r = 5 → r < n → ∃ v, Sm σ (f_L_sum_L57 n k30 0 a (nW c) (nW j)) v
  | r, j, 0, _, _, hn => absurd hn (by omega)
  | 0, j, n + 1, a, hj, hn => by
    have l6 := (hP.1 c hc).2.1
    obtain ⟨v, hv⟩ := sum_82 hP hc hk (cL (gCl σ c) 1).1 0 FU a (by omega) (by simp only [FU]; omega)
    refine ⟨v, fun s k m M A h e => ?_⟩
    have hv := hv s k m M A h e
    have h1 : nW 5 ≤ nW j := by rw [nW_le (by omega) (by omega)]; omega
    rw [f_L_sum_L57]
    simp only [nW_lit, h1, ↓reduceIte]
    exact hv
  | r + 1, j, n + 1, a, hj, hn => by
    have h1 : ¬ nW 5 ≤ nW j := by rw [nW_le (by omega) (by omega)]; omega
    obtain ⟨v, ih⟩ := sum_57 hP hc hk r (j + 1) n (((31 : Int32) * a) + nW (lnV (gCl σ c) j)) (by omega) (by omega)
    refine ⟨v, fun s k m M A h e => ?_⟩
    have ih := ih s k m M A h e
    have q := X_len h.1.1 hc (w := j) (by omega)
    rw [e] at q
    rw [f_L_sum_L57]
    simp only [nW_lit] at ih ⊢
    simp only [h1, ↓reduceIte, q, bindX, nW_add]
    exact ih
theorem sum_30 {σ : Sg} (hP : SgP σ) : ∀ r c n a, c + r = 6 → r < n → ∃ v, Sm σ (f_L_sum_L30 n 0 a (nW c)) v
  | r, j, 0, _, _, hn => absurd hn (by omega)
  | 0, c, n + 1, a, hc, hn => by
    have h8 := hP.2
    obtain ⟨v, hv⟩ := sum_213 hP (gRe σ).1 0 FU a (by omega) (by simp only [FU]; omega)
    refine ⟨v, fun s k m M A h e => ?_⟩
    have hv := hv s k m M A h e
    have h1 : nW 6 ≤ nW c := by rw [nW_le (by omega) (by omega)]; omega
    rw [f_L_sum_L30]
    simp only [nW_lit, h1, ↓reduceIte]
    exact hv
  | r + 1, c, n + 1, a, hc, hn => by
    have hc6 : c < 6 := by omega
    have h1 : ¬ nW 6 ≤ nW c := by rw [nW_le (by omega) (by omega)]; omega
    obtain ⟨v, ih⟩ := sum_57 hP hc6 (k30 := f_L_sum_L30 n) (fun a => sum_30 hP r (c + 1) n a (by omega) (by omega)) 5 0 FU ((((31 : Int32) * a) + ssV (gCl σ c)) + ((4 : Int32) * ldV (gCl σ c))) (by omega) (by simp only [FU]; omega)
    refine ⟨v, fun s k m M A h e => ?_⟩
    have ih := ih s k m M A h e
    have q1 := X_ss h.1.1 hc6
    have q2 := X_load h.1.1 hc6 (h.1.2.1.1.2.2.1 c hc6)
    rw [e] at q1 q2
    rw [f_L_sum_L30]
    simp only [nW_lit] at ih ⊢
    simp only [h1, ↓reduceIte, q1, q2, bindX]
    exact ih
theorem sum_5 {σ : Sg} (hP : SgP σ) : ∀ r j n a, j + r = 10 → r < n → ∃ v, Sm σ (f_L_sum_L5 n 0 a (nW j)) v
  | r, j, 0, _, _, hn => absurd hn (by omega)
  | 0, j, n + 1, a, hj, hn => by
    obtain ⟨v, hv⟩ := sum_30 hP 6 0 FU a (by omega) (by simp only [FU]; omega)
    refine ⟨v, fun s k m M A h e => ?_⟩
    have hv := hv s k m M A h e
    have h1 : nW 10 ≤ nW j := by rw [nW_le (by omega) (by omega)]; omega
    rw [f_L_sum_L5]
    simp only [nW_lit, h1, ↓reduceIte]
    exact hv
  | r + 1, j, n + 1, a, hj, hn => by
    have h1 : ¬ nW 10 ≤ nW j := by rw [nW_le (by omega) (by omega)]; omega
    obtain ⟨v, ih⟩ := sum_5 hP r (j + 1) n (((31 : Int32) * a) + gSc σ j) (by omega) (by omega)
    refine ⟨v, fun s k m M A h e => ?_⟩
    have ih := ih s k m M A h e
    have q := X_total h.1.1 (i := j) (by omega)
    rw [e] at q
    rw [f_L_sum_L5]
    simp only [nW_lit] at ih ⊢
    simp only [h1, ↓reduceIte, q, bindX, nW_add]
    exact ih
theorem SgP_of {s : Bool × Sg} {k n : Nat} {M : Mem} {A : Wh} (h : Jw s k n M A) : SgP (oS A) := ⟨fun _ hc => h.1.len hc, h.1.re⟩
theorem law_sum {σ : Sg} (hP : SgP σ) : ∃ v, Sm σ (f_L_sum 0) v := by
  obtain ⟨v, hv⟩ := sum_5 hP 10 0 FU (nW 7) (by omega) (by simp only [FU]; omega)
  exact ⟨v, fun s k m M A h e => hv s k m M A h e⟩
