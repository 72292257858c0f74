/-! THE LAW from its start -/
def jf (f : Nat) : Nat := ([0, 0, 1, 2, 3, 4, 5, 0, 6, 0, 0, 7, 0, 8, 9, 10, 11, 0] : List Nat).getD f 0
theorem KF_j : ∀ f, f < 18 → KF f = none ∨ (jf f < 12 ∧ flN (jf f) = f ∧ KF f = some (909 + jf f)) := by decide
theorem Fi_KR {M : Mem} (h : Fi 12 M) : KR M := by
  obtain ⟨k9, hN, hF, hj⟩ := h
  refine ⟨k9, fun k h1 h2 => ?_, fun f a hf => ?_⟩
  · have := (hj (k - 1) (by omega)).1
    rw [show 909 + (k - 1) = 908 + k by omega, show k - 1 + 1 = k by omega] at this
    exact this
  · by_cases q : f < 18
    · rcases KF_j f q with e | ⟨e1, e2, e3⟩
      · rw [e] at hf; cases hf
      · rw [e3] at hf
        have := (hj _ e1).2.1
        rw [e2] at this
        rw [this]; exact hf
    · have : KF f = none := by
        unfold KF
        have h18 : ([none, some 909, some 910, some 911, some 912, some 913, some 914, none, some 915, none, none, some 916, none, some 917, some 918, some 919, some 920, none] : List (Option Nat)).length ≤ f := by
          show 18 ≤ f; omega
        rw [List.getD_eq_getElem?_getD, List.getElem?_eq_none h18]; rfl
      rw [this] at hf; cases hf
theorem X12_new {M : Mem} (hF : F99 M) (hN : mN M = 908) : ∃ M1 M', nO 12 18 M = some (908, M1) ∧ f_X12_init 908 M1 = some M' ∧ Mk 13 13118 M M' ∧ mN M' = 921 ∧ KR M' ∧ (mI M' 908 10 = -nW 1 ∧ ∀ j, j ≠ 10 → mI M' 908 j = nW 0) ∧ (mI M' 909 1 = nW 3 ∧ mI M' 909 3 = nW 20 ∧ ∀ j, j ≠ 1 → j ≠ 3 → mI M' 909 j = nW 0) ∧ (∀ j, j < 12 → (∀ k, mL M' (909 + j) k = 0) ∧ ∀ k, mF M' (909 + j) k = 0) := by
  obtain ⟨M1, M2, e1, e2, q2, h2, i10, i0⟩ := X12_A hF hN
  obtain ⟨k9, n2, F2, hj⟩ := h2
  have a0 := hj 0 (by omega)
  have k909 : mK M2 909 = (13, 2718) := a0.1
  have g1 : gR 12 1 908 M2 = some 909 := by
    have := a0.2.1
    simp only [gR, k9, ↓reduceIte]; exact this
  have w1 : wI 13 909 (1 : Int32) (3 : Int32) M2 = some (sI M2 (up2 (mI M2) 909 1 (nW 3))) := by
    have : ix (1 : Int32) 2718 = some 1 := ix_nW (a := 1) (by omega) (by omega)
    simp only [wI, k909, ↓reduceIte, this, Option.map_some, nar13]; rfl
  have g2 : gR 12 1 908 (sI M2 (up2 (mI M2) 909 1 (nW 3))) = some 909 := g1
  have w2 : wI 13 909 (3 : Int32) (20 : Int32) (sI M2 (up2 (mI M2) 909 1 (nW 3))) = some (sI (sI M2 (up2 (mI M2) 909 1 (nW 3))) (up2 (up2 (mI M2) 909 1 (nW 3)) 909 3 (nW 20))) := by
    have : ix (3 : Int32) 2718 = some 3 := ix_nW (a := 3) (by omega) (by omega)
    have kk : mK (sI M2 (up2 (mI M2) 909 1 (nW 3))) 909 = (13, 2718) := k909
    simp only [wI, kk, ↓reduceIte, this, Option.map_some, nar13]; rfl
  have F3 := (fq_I M2 1 (nW 3) (show ¬ tz 909 by simp only [tz]; omega)).trans (fq_I (sI M2 (up2 (mI M2) 909 1 (nW 3))) 3 (nW 20) (show ¬ tz 909 by simp only [tz]; omega))
  have q3 := (q2.mono (Q := fun a => a = 908 ∨ a = 909) (fun a h => Or.inl h)).trans ((Mp_fr F3 q2.2.2).mono (fun a h => Or.inr h))
  have K : KR M2 := Fi_KR ⟨k9, n2, F2, hj⟩
  have ne89 : (908 : Nat) ≠ 909 := by omega
  refine ⟨M1, _, e1, ?_, q3.mk (fun a h => hF a (by omega)), n2, K, ⟨?_, fun j hj' => ?_⟩, ⟨?_, ?_, fun j h1 h3 => ?_⟩, fun j hj' => (hj j hj').2.2.2⟩
  · rw [e2, g1]; simp only [Option.bind_some]; rw [w1]; simp only [Option.bind_some]; rw [g2]; simp only [Option.bind_some]; rw [w2]; simp only [Option.bind_some]
    rfl
  · simp only [sI_mI, sI_mL, sI_mF, sI_mR, sI_mK, sI_mN, sI_mC, sI_mS, sL_mI, sL_mL, sL_mF, sL_mR, sL_mK, sL_mN, sL_mC, sL_mS, sF_mI, sF_mL, sF_mF, sF_mR, sF_mK, sF_mN, sF_mC, sF_mS, sR_mI, sR_mL, sR_mF, sR_mR, sR_mK, sR_mN, sR_mC, sR_mS]; rw [up2_ne _ _ _ _ ne89, up2_ne _ _ _ _ ne89]; exact i10
  · simp only [sI_mI, sI_mL, sI_mF, sI_mR, sI_mK, sI_mN, sI_mC, sI_mS, sL_mI, sL_mL, sL_mF, sL_mR, sL_mK, sL_mN, sL_mC, sL_mS, sF_mI, sF_mL, sF_mF, sF_mR, sF_mK, sF_mN, sF_mC, sF_mS, sR_mI, sR_mL, sR_mF, sR_mR, sR_mK, sR_mN, sR_mC, sR_mS]; rw [up2_ne _ _ _ _ ne89, up2_ne _ _ _ _ ne89]; exact i0 j hj'
  · simp only [sI_mI, sI_mL, sI_mF, sI_mR, sI_mK, sI_mN, sI_mC, sI_mS, sL_mI, sL_mL, sL_mF, sL_mR, sL_mK, sL_mN, sL_mC, sL_mS, sF_mI, sF_mL, sF_mF, sF_mR, sF_mK, sF_mN, sF_mC, sF_mS, sR_mI, sR_mL, sR_mF, sR_mR, sR_mK, sR_mN, sR_mC, sR_mS]; rw [up2_nj _ _ _ _ (by omega), up2_eq]
  · simp only [sI_mI, sI_mL, sI_mF, sI_mR, sI_mK, sI_mN, sI_mC, sI_mS, sL_mI, sL_mL, sL_mF, sL_mR, sL_mK, sL_mN, sL_mC, sL_mS, sF_mI, sF_mL, sF_mF, sF_mR, sF_mK, sF_mN, sF_mC, sF_mS, sR_mI, sR_mL, sR_mF, sR_mR, sR_mK, sR_mN, sR_mC, sR_mS]; rw [up2_eq]
  · simp only [sI_mI, sI_mL, sI_mF, sI_mR, sI_mK, sI_mN, sI_mC, sI_mS, sL_mI, sL_mL, sL_mF, sL_mR, sL_mK, sL_mN, sL_mC, sL_mS, sF_mI, sF_mL, sF_mF, sF_mR, sF_mK, sF_mN, sF_mC, sF_mS, sR_mI, sR_mL, sR_mF, sR_mR, sR_mK, sR_mN, sR_mC, sR_mS]; rw [up2_nj _ _ _ _ h3, up2_nj _ _ _ _ h1]; exact a0.2.2.1 j
theorem RSt_0 {s : Nat → Int32} {t : Nat → Int64} (h1 : s 1 = nW 3) (h3 : s 3 = nW 20) (h0 : ∀ j, j ≠ 1 → j ≠ 3 → s j = nW 0) : RSt s t sg0 := by
  have z : ∀ j, j ≠ 1 → j ≠ 3 → s j = nW 0 := h0
  refine ⟨⟨by rw [z 0 (by omega) (by omega)]; decide, fun i hi => ?_, fun i hi => ?_⟩, fun c hc => ⟨⟨Nat.zero_le _, Nat.zero_le _, Nat.zero_le _, Nat.zero_le _⟩, ⟨z _ (by omega) (by omega), z _ (by omega) (by omega), z _ (by omega) (by omega), z _ (by omega) (by omega), z _ (by omega) (by omega), z _ (by omega) (by omega), z _ (by omega) (by omega), z _ (by omega) (by omega)⟩, (fun h => by cases h), (fun h => by cases h), fun i h1 h2 => z _ (by omega) (by omega), fun j hj => absurd hj (Nat.not_lt_zero j), fun j hj => absurd hj (Nat.not_lt_zero j), fun j hj => absurd hj (Nat.not_lt_zero j), fun j hj => absurd hj (Nat.not_lt_zero j)⟩, ⟨z 15 (by omega) (by omega), fun j hj => absurd hj (Nat.not_lt_zero j)⟩, ⟨z 16 (by omega) (by omega), fun j hj => absurd hj (Nat.not_lt_zero j)⟩, ⟨z 17 (by omega) (by omega), fun j hj => absurd hj (Nat.not_lt_zero j)⟩, Nat.zero_le _, Nat.zero_le _, Nat.zero_le _, fun j hj => absurd hj (Nat.not_lt_zero j)⟩
  · have h4 : i = 0 ∨ i = 1 ∨ i = 2 ∨ i = 3 := by omega
    rcases h4 with rfl | rfl | rfl | rfl
    · rw [h1]; decide
    · rw [z 2 (by omega) (by omega)]; decide
    · rw [h3]; decide
    · rw [z 4 (by omega) (by omega)]; decide
  · rw [z _ (by omega) (by omega)]
    show nW 0 = sc0 i
    unfold sc0
    rw [if_neg (by omega), if_neg (by omega)]
theorem SgI_0 : SgI 0 sg0 := by
  have hw : Win sc0 := ⟨3, by decide, by omega, by omega⟩
  refine ⟨⟨⟨⟨hw, ⟨0, by omega, by decide⟩, ⟨20, by omega, by decide⟩, ⟨0, by omega, by decide⟩⟩, fun c hc => ⟨hw, ⟨Nat.zero_le _, Nat.zero_le _, Nat.zero_le _, Nat.zero_le _⟩, (fun h => by cases h), (fun h => by cases h), fun j hj => absurd hj (Nat.not_lt_zero j), fun j hj => absurd hj (Nat.not_lt_zero j), fun i j hi => absurd hi (Nat.not_lt_zero i), fun j hj => absurd hj (Nat.not_lt_zero j), fun _ => rfl, fun _ => ⟨rfl, rfl, rfl, fun _ => rfl⟩⟩⟩, fun c hc => ⟨fun j hj => absurd hj (Nat.not_lt_zero j), fun i j hi => absurd hi (Nat.not_lt_zero i)⟩, ?_, fun c hc => ⟨fun x hx => absurd hx (List.not_mem_nil), fun j hj => absurd hj (Nat.not_lt_zero j)⟩, fun j hj => absurd hj (Nat.not_lt_zero j), ⟨fun j hj => absurd hj (Nat.not_lt_zero j), fun i j hi => absurd hi (Nat.not_lt_zero i)⟩, fun c hc h => by cases h⟩, fun c hc h => (by cases h), fun c hc => ?_, fun c hc j hj => absurd hj (Nat.not_lt_zero j), Nat.le_refl _⟩
  · refine ⟨fun x hx => absurd hx (List.not_mem_nil), ?_, ?_⟩
    · intro x hx; exact absurd hx (List.not_mem_nil)
    · exact List.Pairwise.nil
  · show (0 : UInt32) &&& 0x7fffffff ≤ 0x7f800000
    decide
theorem law_start {M : Mem} (hF : F99 M) (hN : mN M = 0) : ∃ M8, (∀ L xs, f_L_law L xs M = f_L_law_L23 L xs FU 0 908 921 (nW 0) M8) ∧ LI 0 wh0 M8 ∧ mN M8 = 922 ∧ mC M8 = mC M + 922 ∧ mS M8 = mS M + 21354 := by
  obtain ⟨M1, M3, e1, e3, m3, B3⟩ := X11_new hF hN
  rw [← hN] at e1
  have n3 : mN M3 = 908 := by rw [m3.2.1.1, hN]
  obtain ⟨M4, M6, e4, e6, m6, n6, K6, ⟨p1, p2⟩, ⟨s1, s3, s0⟩, z6⟩ := X12_new m3.2.2 n3
  obtain ⟨M8, e8, m8, n8, k8, _⟩ := nA_new 14 1 m6.2.2 (by omega) (by omega)
  rw [n6] at e8 k8 n8
  obtain ⟨K8, I8⟩ := KR_gr K6 m8.1 (fun _ _ _ h => h)
  have q := (m3.mp (fun _ => False)).trans ((m6.mp _).trans (m8.mp _))
  have B8 : BrR M8 wh0 := (B3.gr m6.1 (fun _ _ _ h => h)).gr m8.1 (fun _ _ _ h => h)
  have I0 := I8 0 (by omega)
  have I1 := I8 1 (by omega)
  have s1' : mI M8 909 1 = nW 3 := by rw [show (909 : Nat) = 908 + 1 by omega, I1.1]; exact s1
  have s3' : mI M8 909 3 = nW 20 := by rw [show (909 : Nat) = 908 + 1 by omega, I1.1]; exact s3
  have s0' : ∀ j, j ≠ 1 → j ≠ 3 → mI M8 909 j = nW 0 := fun j h1 h3 => by rw [show (909 : Nat) = 908 + 1 by omega, I1.1]; exact s0 j h1 h3
  have p1' : mI M8 908 10 = -nW 1 := by rw [show (908 : Nat) = 908 + 0 by omega, I0.1]; exact p1
  have p2' : ∀ j, j ≠ 10 → mI M8 908 j = nW 0 := fun j hj => by rw [show (908 : Nat) = 908 + 0 by omega, I0.1]; exact p2 j hj
  have hT : TB (mL M8 918) 0 [] := fun k hk => by
    have h1 := (z6 9 (by omega)).1 (0 + k)
    have h2 := (I8 10 (by omega)).2.1
    have h3 : mL M8 918 (0 + k) = 0 := by
      rw [show (918 : Nat) = 908 + 10 by omega, h2]; exact h1
    rw [h3]
    have : k = 0 ∨ k = 1 ∨ k = 2 ∨ k = 3 := by omega
    rcases this with rfl | rfl | rfl | rfl <;> decide
  have hC : ∀ c, mF M8 911 c = 0 := fun c => by
    have h1 := (z6 2 (by omega)).2 c
    have h2 := (I8 3 (by omega)).2.2
    rw [show (911 : Nat) = 908 + 3 by omega, h2]; exact h1
  refine ⟨M8, fun L xs => ?_, ⟨⟨(fun k => mI M8 (908 + k), fun k => mL M8 (908 + k), fun k => mF M8 (908 + k)), mI M8 909, mL M8 910, fun k hk => ?_, ?_⟩, K8, k8, B8, ⟨SgI_0, SgI_0, fun x hx => absurd hx (List.not_mem_nil)⟩, by omega, m8.2.2⟩, n8, ?_, ?_⟩
  · have e1' : nO 11 9 M = some (0, M1) := by rw [e1, hN]
    have e8' : nA 14 (1 : Int32) M6 = some (921, M8) := e8
    simp only [f_L_law, e1', bindP, e3, Option.bind_some, e4, e6, e8']
    rfl
  · have := VS_self ((fun k => mI M8 (908 + k), fun k => mL M8 (908 + k), fun k => mF M8 (908 + k)) : VR)
    have e : VS ((fun k => mI M8 (908 + k), fun k => mL M8 (908 + k), fun k => mF M8 (908 + k)) : VR) (mI M8 909) (mL M8 910) = ((fun k => mI M8 (908 + k), fun k => mL M8 (908 + k), fun k => mF M8 (908 + k)) : VR) := this
    rw [e]; exact ⟨rfl, rfl, rfl⟩
  · exact ⟨⟨p2' 9 (by omega), fun j hj => absurd hj (Nat.not_lt_zero j)⟩, p1', ⟨p2' 17 (by omega), fun h => by cases h⟩, ⟨p2' 7 (by omega), fun h => by cases h⟩, hT, RSt_0 s1' s3' s0', fun c _ => hC c⟩
  · have := q.2.1.2.1; omega
  · have := q.2.1.2.2; omega
theorem law_true {M : Mem} (hF : F99 M) (hN : mN M = 0) {L : Nat} (hL : L ≤ 3072) (xs : Nat → Int32) : ∃ MF, f_L_law L xs M = some (1, MF) ∧ mC MF ≤ mC M + 2970 ∧ mS MF ≤ mS M + 47978 := by
  obtain ⟨M8, e, hI, n8, c8, s8⟩ := law_start hF hN
  obtain ⟨MF, e2, c2, s2⟩ := law_run (xs := xs) hL FU 0 wh0 M8 (by simp only [FU]; omega) (by omega) hI (by omega)
  exact ⟨MF, (e L xs).trans e2, by omega, by omega⟩
