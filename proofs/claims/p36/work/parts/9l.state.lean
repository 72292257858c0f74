/-! A STATE of the class -/
def RetR (M : Mem) (S : Nat) (l : Ls Row) : Prop := mI M S 5 = nW l.1 ∧ l.1 ≤ 8 ∧ ∃ p, Ar M (S + 435) 19 8 1 (S + 436) (S + 444) p ∧ ∀ j, j < l.1 → MsR M (p j) (l.2 j)
def TalR (M : Mem) (T : Nat) (l : Ls (Txt × Int32)) : Prop := ((mK M T).1 = 9 ∧ mR M T 0 = some (T + 1) ∧ mR M T 1 = some (T + 2)) ∧ mK M (T + 1) = (23, 512) ∧ mK M (T + 2) = (13, 512) ∧ mI M T 2 = nW l.1 ∧ l.1 ≤ 512 ∧ (∀ j, j < l.1 → ∃ x, mR M (T + 1) j = some x ∧ TextR M x (l.2 j).1) ∧ ∀ j, j < l.1 → mI M (T + 2) j = (l.2 j).2
def StR (M : Mem) (S : Nat) (σ : Sg) : Prop := BaR M S (gSc σ) ∧ (∀ c, c < 6 → ClR M (S + 2 + 60 * c) (gCl σ c)) ∧ ShsR M S (gSh σ) ∧ RetR M S (gRe σ) ∧ TalR M (S + 446) (gTa σ)
def inZ (S : Nat) : Prop := 5 ≤ S ∧ S + 450 ≤ 908
def SZ (S a : Nat) : Prop := S ≤ a ∧ a < S + 450
theorem inZ.s {S c : Nat} (h : inZ S) (hc : c < 6) : inS S (S + 2 + 60 * c) := ⟨h, by omega, by omega⟩
theorem inZ.c {S c : Nat} (h : inZ S) (hc : c < 6) : inC (S + 2 + 60 * c) := (h.s hc).c
theorem RetR.gr {P : Nat → Prop} {M M' : Mem} (g : Gr P M M') {S : Nat} {l : Ls Row} (hk : (mK M S).1 ≠ 99) (h0 : ¬ P S) (hp : ∀ a, S + 435 ≤ a → a < S + 444 → ¬ P a) (h : RetR M S l) : RetR M' S l := by
  obtain ⟨h1, h2, p, h3, h4⟩ := h
  refine ⟨by rw [(g.2 S hk (Or.inr h0)).1]; exact h1, h2, p, h3.gr g (by decide) (by decide) (hp _ (by omega) (by omega)), fun j hj => ?_⟩
  have := h3.2.1 j (by omega)
  exact (h4 j hj).gr g (hp _ (by omega) (by omega))
theorem TalR.gr {P : Nat → Prop} {M M' : Mem} (g : Gr P M M') {T : Nat} {l : Ls (Txt × Int32)} (hp : ¬ P T ∧ ¬ P (T + 1) ∧ ¬ P (T + 2)) (h : TalR M T l) : TalR M' T l := by
  obtain ⟨⟨h1, h2, h3⟩, h4, h5, h6, h7, h8, h9⟩ := h
  have k1 : (mK M T).1 ≠ 99 := by rw [h1]; decide
  have k2 : (mK M (T + 1)).1 ≠ 99 := by rw [h4]; decide
  have k3 : (mK M (T + 2)).1 ≠ 99 := by rw [h5]; decide
  obtain ⟨a1, a2, a3, a4⟩ := g.2 T k1 (Or.inr hp.1)
  obtain ⟨b1, b2, b3, b4⟩ := g.2 _ k2 (Or.inr hp.2.1)
  obtain ⟨c1, c2, c3, c4⟩ := g.2 _ k3 (Or.inr hp.2.2)
  refine ⟨⟨by rw [g.1 T k1]; exact h1, by rw [a4]; exact h2, by rw [a4]; exact h3⟩, by rw [g.1 _ k2]; exact h4, by rw [g.1 _ k3]; exact h5, by rw [a1]; exact h6, h7, fun j hj => ?_, fun j hj => by rw [c1]; exact h9 j hj⟩
  obtain ⟨x, e, t⟩ := h8 j hj
  exact ⟨x, by rw [b4]; exact e, t.gr g⟩
theorem StR.gr {P : Nat → Prop} {M M' : Mem} (g : Gr P M M') {S : Nat} {σ : Sg} (hp : ∀ a, SZ S a → ¬ P a) (h : StR M S σ) : StR M' S σ := by
  obtain ⟨h1, h2, h3, h4, h5⟩ := h
  simp only [SZ] at hp
  have hk : (mK M S).1 ≠ 99 := by rw [h1.1.1]; decide
  exact ⟨h1.gr g ⟨hp _ (by omega), hp _ (by omega), hp _ (by omega), hp _ (by omega)⟩, fun c hc => (h2 c hc).gr g (fun b _ _ => hp _ (by omega)), h3.gr g hk (hp _ (by omega)) (fun a _ _ => hp _ (by omega)), h4.gr g hk (hp _ (by omega)) (fun a _ _ => hp _ (by omega)), h5.gr g ⟨hp _ (by omega), hp _ (by omega), hp _ (by omega)⟩⟩
theorem StR_get {M : Mem} {S c : Nat} {σ : Sg} (h : StR M S σ) (hc : c < 6) : CR M S (S + 2 + 60 * c) (getG σ c) := ⟨h.1, h.2.1 c hc⟩
theorem StR_put {M M' : Mem} {S c : Nat} {σ : Sg} {g : GS} (h : StR M S σ) (hc : c < 6) (F : Fr (CZ S (S + 2 + 60 * c)) M M') (h' : CR M' S (S + 2 + 60 * c) g) : StR M' S (putG σ c g) := by
  obtain ⟨h1, h2, h3, h4, h5⟩ := h
  have hk : (mK M S).1 ≠ 99 := by rw [h1.1.1]; decide
  refine ⟨h'.1, fun c' hc' => ?_, h3.gr F.gr hk (by unfold CZ; omega) (fun a _ _ => by unfold CZ; omega), h4.gr F.gr hk (by unfold CZ; omega) (fun a _ _ => by unfold CZ; omega), h5.gr F.gr (by unfold CZ; omega)⟩
  by_cases e : c' = c
  · subst e; show ClR M' _ (fset σ.2.1 c' g.2 c'); rw [fset_eq]; exact h'.2
  · show ClR M' _ (fset σ.2.1 c g.2 c')
    rw [fset_ne _ _ e]
    exact (h2 c' hc').gr F.gr (fun b _ _ => by unfold CZ; omega)
theorem CZ_SZ {S c a : Nat} (hc : c < 6) (h : CZ S (S + 2 + 60 * c) a) : SZ S a := by unfold CZ at h; unfold SZ; omega
theorem StR_k {M : Mem} {S : Nat} {σ : Sg} (h : StR M S σ) : (mK M S).1 = 7 ∧ gR 7 1 S M = some (S + 1) ∧ gR 7 2 S M = some (S + 362) ∧ gR 7 4 S M = some (S + 435) ∧ gR 7 8 S M = some (S + 446) ∧ gI 7 3 S M = some (nW (gSh σ).length) ∧ gI 7 5 S M = some (nW (gRe σ).1) ∧ ∀ c, c < 6 → aR 18 (S + 1) (nW c) M = some (S + 2 + 60 * c) := by
  obtain ⟨h1, h2, h3, h4, h5⟩ := h
  obtain ⟨⟨b1, b2, b3, b4, b5, b6, b7, b8, b9⟩, b10, ⟨b11, b12⟩, _⟩ := h1
  simp only [gR, gI, b1, ↓reduceIte, b3, b4, b5, b8, h3.1, h4.1]
  refine ⟨trivial, trivial, trivial, trivial, trivial, trivial, trivial, fun c hc => ?_⟩
  simp (disch := omega) only [aR, b11, ↓reduceIte, ix_nW, Option.bind_some, b12 c hc]
/-- a state's own fields change, but what it is tied to does not -/
theorem BaR_own {P : Nat → Prop} {M M' : Mem} {S : Nat} {sc : Nat → Int32} (h : BaR M S sc) (G : Gr P M M') (hp : ¬ P (S + 1) ∧ ¬ P (S + 444) ∧ ¬ P (S + 445)) (h9 : mI M' S 9 = mI M S 9) (hr : mR M' S = mR M S) : BaR M' S sc := by
  obtain ⟨⟨h1, ⟨x, h2, h2'⟩, h3⟩, h4, h5, h6, h7, h8⟩ := h
  have k1 : (mK M S).1 ≠ 99 := by rw [h1]; decide
  have k2 : (mK M (S + 1)).1 ≠ 99 := by rw [h5.1]; decide
  have k3 : (mK M (S + 444)).1 ≠ 99 := by rw [h6.1]; decide
  have k4 : (mK M (S + 445)).1 ≠ 99 := by rw [h7.1]; decide
  have k5 : (mK M (S + 449)).1 ≠ 99 := by rw [h8]; decide
  obtain ⟨b1, b2, b3, b4⟩ := G.2 _ k2 (Or.inr hp.1)
  obtain ⟨c1, c2, c3, c4⟩ := G.2 _ k3 (Or.inr hp.2.1)
  obtain ⟨d1, d2, d3, d4⟩ := G.2 _ k4 (Or.inr hp.2.2)
  unfold BaR
  rw [G.1 S k1, G.1 _ k2, G.1 _ k3, G.1 _ k4, G.1 _ k5, h9, hr, b4, c1, d1]
  exact ⟨⟨h1, ⟨x, h2, h2'.gr G⟩, h3⟩, h4, h5, h6, h7, h8⟩
def uSh (σ : Sg) (l : List Sh) : Sg := (σ.1, σ.2.1, l, σ.2.2.2)
theorem StR_sh {P : Nat → Prop} {M M' : Mem} {S : Nat} {σ : Sg} {l : List Sh} (h : StR M S σ) (G : Gr P M M') (hp : ∀ a, P a → a = S ∨ (S + 362 ≤ a ∧ a < S + 435)) (h9 : mI M' S 9 = mI M S 9) (h5 : mI M' S 5 = mI M S 5) (hr : mR M' S = mR M S) (hl : ShsR M' S l) : StR M' S (uSh σ l) := by
  obtain ⟨h1, h2, h3, ⟨r1, r2, p, r3, r4⟩, r5⟩ := h
  refine ⟨BaR_own h1 G ⟨fun h => by have := hp _ h; omega, fun h => by have := hp _ h; omega, fun h => by have := hp _ h; omega⟩ h9 hr, fun c hc => (h2 c hc).gr G (fun b _ _ h => by have := hp _ h; omega), hl, ⟨by rw [h5]; exact r1, r2, p, r3.gr G (by decide) (by decide) (fun h => by have := hp _ h; omega), fun j hj => ?_⟩, r5.gr G ⟨fun h => by have := hp _ h; omega, fun h => by have := hp _ h; omega, fun h => by have := hp _ h; omega⟩⟩
  have := r3.2.1 j (by have : (gRe σ).1 ≤ 8 := r2; have : j < (gRe σ).1 := hj; omega)
  exact (r4 j hj).gr G (fun h => by have := hp _ h; omega)
theorem X7_leaveShare {M : Mem} {S i c : Nat} {σ : Sg} (hS : inZ S) (h : StR M S σ) (hi : i < (gSh σ).length) (hm : ∀ y ∈ ((gSh σ).getD i shD).2.2, y < 6) (hd : ((gSh σ).getD i shD).2.2.Nodup) (hc : c < 6) : ∃ M', f_X7_leaveShare S (nW i) (nW c) M = some M' ∧ Fr (fun a => a = S ∨ (S + 362 ≤ a ∧ a < S + 435)) M M' ∧ StR M' S (uSh σ (shLeave (gSh σ) i c)) := by
  obtain ⟨c1, c2⟩ := hS
  obtain ⟨k1, k2, k3, k4, k5, k6, k7, k8⟩ := StR_k h
  have hO := BaR_O h.1
  have hSh := h.2.2.1
  have l36 := hSh.2.1
  obtain ⟨a, ea, ⟨a1, a2⟩, hK, hV, back⟩ := ShsR_at hSh hi
  have hz : ¬ tz a ∧ ¬ tz (a + 1) := by simp only [tz]; omega
  obtain ⟨M1, e1, F1, K1, V1⟩ := X6_removeMember hz hK hV hm hd hc
  have hk99 : (mK M S).1 ≠ 99 := by rw [k1]; decide
  have hS1 := F1.2.2 S (Or.inr (by omega))
  have n0 : ¬ i < 0 := by omega
  have n1 : ¬ (gSh σ).length ≤ i := by omega
  have g3 : gI 6 3 a M1 = some (nW (((gSh σ).getD i shD).2.2.erase c).length) := by simp only [gI, K1.1, V1.2.1, ↓reduceIte]
  have hlen : (((gSh σ).getD i shD).2.2.erase c).length ≤ 6 := V1.2.2.1
  have R1 := back _ M1 _ F1.gr (by omega) (fun b _ _ h1 h2 => by omega) K1 V1 hk99
  by_cases he : ((gSh σ).getD i shD).2.2.erase c = []
  · have hl0 : (((gSh σ).getD i shD).2.2.erase c).length ≤ 0 := by rw [he]; simp
    obtain ⟨q1, q2, p, q3, q4, q5⟩ := R1
    have hpa : p i = a := by
      have h1 := (q3.2.1 i (by omega)).1
      have : aR 21 (S + 362) (nW i) M1 = some (p i) := by simp (disch := omega) only [aR, q3.1, ↓reduceIte, ix_nW, Option.bind_some, h1]
      have e2 : aR 21 (S + 362) (nW i) M1 = aR 21 (S + 362) (nW i) M := by unfold aR; rw [F1.1, (F1.2.2 (S + 362) (Or.inr (by omega))).2.2.2]
      rw [e2, ea] at this
      exact (Option.some.inj this).symm
    rw [len_setL] at q1 q2
    obtain ⟨M2, e2, hx, r⟩ := rot_X7_leaveShare_L45 (l := S) (c := (gSh σ).length) (free := p i) q2 FU i M1 p hi (by simp only [FU]; omega) ⟨by rw [F1.1]; exact k1, by rw [hS1.2.2.2]; exact hO.2.2.1, q1, q3.1, (q3.2.1 i (by omega)).2.1⟩ (fun j hj => ⟨(q3.2.1 j hj).1, (q3.2.1 j hj).2.1⟩)
    have F2 : Fr (fun b => b = S ∨ b = S + 362) M1 M2 := Fr_ir hx (Or.inl rfl) (Or.inr rfl) (by simp only [tz]; omega)
    have F : Fr (fun a => a = S ∨ (S + 362 ≤ a ∧ a < S + 435)) M M2 := F1.tr F2 (fun b h => by omega) (fun b h => by omega)
    have m9 : ∀ f, f ≠ 3 → mI M2 S f = mI M S f := fun f hf => by rw [hx.1, up2_nj _ _ _ _ hf, hS1.1]
    have hR : mR M2 S = mR M S := by rw [hx.2.2.2.1 S (by omega), hS1.2.2.2]
    refine ⟨M2, ?_, F, StR_sh h F.gr (fun b h => h) (m9 9 (by omega)) (m9 5 (by omega)) hR ?_⟩
    · rw [hpa] at e2
      simp (disch := omega) only [f_X7_leaveShare, k1, ↓reduceIte, nW_lit, nW_lt, nW_le, n0, n1, k6, Option.bind_some, l36, k3, ea, e1, g3, hl0, e2]
    · unfold shLeave
      rw [if_pos he]
      have rng : ∀ j, j < 36 → S + 363 ≤ p j ∧ p j + 1 < S + 435 := fun j hj => by
        have := (q3.2.1 j hj).2.2; have := (q4 j hj).1; omega
      refine ⟨by rw [hx.1, up2_eq, len_eraseIdx _ hi], by rw [len_eraseIdx _ hi]; omega, fun j => p (rotU i (gSh σ).length j), ?_, fun j hj => ?_, fun j hj => ?_⟩
      · refine Ar_perm (rotU i (gSh σ).length) q3 hx.2.2.2.2.1 (fun j hj => rotU_lt hi q2 hj) (fun a b _ _ e => rotU_inj hi e) (fun j hj => ?_)
        rw [← perm_ldel hi p j (p i) rfl]; exact r j hj
      · have h8 := rotU_lt hi q2 hj
        exact ⟨(q4 _ h8).1, (q4 _ h8).2.gr F2.gr (by have := rng _ h8; show ¬ (p (rotU i (gSh σ).length j) = S ∨ p (rotU i (gSh σ).length j) = S + 362); omega)⟩
      · rw [len_eraseIdx _ hi] at hj
        rw [gd_erase]
        by_cases q : j < i
        · have rg := rng j (by omega)
          have v := q5 j (by rw [len_setL]; omega)
          rw [gd_set _ _ _ _ _ hi, if_neg (by omega)] at v
          simp only [q, ↓reduceIte, rotU_lo q hi]
          exact v.gr F2.gr (q4 j (by omega)).2 (by omega)
        · have rg := rng (j + 1) (by omega)
          have v := q5 (j + 1) (by rw [len_setL]; omega)
          rw [gd_set _ _ _ _ _ hi, if_neg (by omega)] at v
          simp only [q, ↓reduceIte, rotU_hi (show i ≤ j by omega) (show j + 1 < (gSh σ).length by omega)]
          exact v.gr F2.gr (q4 (j + 1) (by omega)).2 (by omega)
  · have hl0 : ¬ (((gSh σ).getD i shD).2.2.erase c).length ≤ 0 := by
      intro hh; exact he (List.length_eq_zero_iff.mp (by omega))
    refine ⟨M1, ?_, F1.mono (fun b h => by omega), ?_⟩
    · simp (disch := omega) only [f_X7_leaveShare, k1, ↓reduceIte, nW_lit, nW_lt, nW_le, n0, n1, k6, Option.bind_some, l36, k3, ea, e1, g3, hl0]
    · unfold shLeave
      rw [if_neg he]
      exact StR_sh h F1.gr (fun b h => by omega) (by rw [hS1.1]) (by rw [hS1.1]) hS1.2.2.2 R1
theorem uSh_uSh (σ : Sg) (l l' : List Sh) : uSh (uSh σ l) l' = uSh σ l' := rfl
def ShOk (l : List Sh) : Prop := ∀ x ∈ l, (∀ y ∈ x.2.2, y < 6) ∧ x.2.2.Nodup ∧ x.2.2 ≠ []
theorem sub_1 (x : Int32) : x + (-1) = x - nW 1 := by rw [Int32.sub_eq_add_neg]; rfl
theorem X7_removeSession_L24 {S c : Nat} {σ : Sg} (hS : inZ S) (hc : c < 6) (hok : ShOk (gSh σ)) : ∀ n k M, k ≤ (gSh σ).length → k < n → StR M S (uSh σ ((gSh σ).take k ++ shGone ((gSh σ).drop k) c)) → (gSh σ).length ≤ 36 → ∃ M', f_X7_removeSession_L24 n S (nW c) (nW k - nW 1) M = some M' ∧ Fr (fun a => a = S ∨ (S + 362 ≤ a ∧ a < S + 435)) M M' ∧ StR M' S (uSh σ (shGone (gSh σ) c))
  | 0, k, M, _, hn, _, _ => absurd hn (by omega)
  | n + 1, 0, M, hk, hn, h, hl => by
    have e : nW 0 - nW 1 < nW 0 := by decide
    exact ⟨M, by simp only [f_X7_removeSession_L24, nW_lit, e, ↓reduceIte], Fr.refl _ _, by simpa using h⟩
  | n + 1, k + 1, M, hk, hn, h, hl => by
    have n0 : ¬ k < 0 := by omega
    have hkl : k < (gSh σ).length := by omega
    have hg : ((gSh σ).take (k + 1) ++ shGone ((gSh σ).drop (k + 1)) c).getD k shD = (gSh σ).getD k shD := by
      rw [List.getD_eq_getElem?_getD, List.getElem?_append_left (by rw [List.length_take]; omega), List.getElem?_take_of_lt (by omega), ← List.getD_eq_getElem?_getD]
    have hx := hok ((gSh σ).getD k shD) (by rw [gd_in _ _ hkl]; exact List.getElem_mem hkl)
    obtain ⟨M1, e1, F1, R1⟩ := X7_leaveShare (i := k) (c := c) hS h (by show k < List.length (_ ++ _); rw [List.length_append, List.length_take]; omega) (by show ∀ y ∈ (List.getD (_ ++ _) k shD).2.2, y < 6; rw [hg]; exact hx.1) (by show (List.getD (_ ++ _) k shD).2.2.Nodup; rw [hg]; exact hx.2.1) hc
    have es : shLeave ((gSh σ).take (k + 1) ++ shGone ((gSh σ).drop (k + 1)) c) k c = (gSh σ).take k ++ shGone ((gSh σ).drop k) c := by
      rw [shLeave_get hkl, shGone_step hkl]
    have R1' : StR M1 S (uSh σ ((gSh σ).take k ++ shGone ((gSh σ).drop k) c)) := by rw [← es]; exact R1
    obtain ⟨M2, e2, F2, R2⟩ := X7_removeSession_L24 hS hc hok n k M1 (by omega) (by omega) R1' hl
    refine ⟨M2, ?_, F1.trans F2, R2⟩
    have e3 : nW (k + 1) - nW 1 = nW k := nW_sub (by omega)
    rw [e3]
    have n3 : ¬ nW k < nW 0 := by rw [nW_lt (by omega) (by omega)]; omega
    simp only [f_X7_removeSession_L24, nW_lit, n3, ↓reduceIte, e1, Option.bind_some]
    have := sub_1 (nW k)
    rw [nW_lit] at this
    rw [this]; exact e2
def spRemove (σ : Sg) (c : Nat) : Sg := uSh (putG σ c (σ.1, spClear (σ.2.1 c))) (shGone (gSh σ) c)
theorem St_remove {M : Mem} {S c : Nat} {σ : Sg} (hS : inZ S) (h : StR M S σ) (hc : c < 6) (hok : ShOk (gSh σ)) : ∃ M', f_X7_removeSession S (nW c) M = some M' ∧ Fr (SZ S) M M' ∧ StR M' S (spRemove σ c) := by
  obtain ⟨k1, k2, k3, k4, k5, k6, k7, k8⟩ := StR_k h
  have hC := hS.c hc
  obtain ⟨M1, e1, F1, R1⟩ := Cl_clear hC (h.2.1 c hc)
  have hBO : BaR M1 S (gSc σ) := h.1.gr F1.gr (by omega)
  have H1 := StR_put (g := (σ.1, spClear (σ.2.1 c))) h hc (F1.mono (fun a h => by unfold CZ; omega)) ⟨hBO, R1⟩
  obtain ⟨_, _, _, _, _, k6', _, _⟩ := StR_k H1
  have l36 : (gSh σ).length ≤ 36 := h.2.2.1.2.1
  obtain ⟨M2, e2, F2, R2⟩ := X7_removeSession_L24 (σ := putG σ c (σ.1, spClear (σ.2.1 c))) hS hc hok FU (gSh σ).length M1 (Nat.le_refl _) (by simp only [FU]; omega) (by
    have e : (List.take (gSh σ).length (gSh (putG σ c (σ.1, spClear (σ.2.1 c)))) ++ shGone (List.drop (gSh σ).length (gSh (putG σ c (σ.1, spClear (σ.2.1 c))))) c) = gSh σ := by
      show List.take (gSh σ).length (gSh σ) ++ shGone (List.drop (gSh σ).length (gSh σ)) c = gSh σ
      rw [List.take_length, List.drop_length, shGone_nil, List.append_nil]
    rw [e]; exact H1) l36
  have g5 : gR 0 5 (S + 2 + 60 * c) M = some (S + 2 + 60 * c + 34) := by
    have := (h.2.1 c hc).1.1
    simp only [gR, this.1, this.2.2.2, ↓reduceIte]
  have hm : iminE (nW (gSh σ).length) (nW 36) = nW (gSh σ).length := by
    have : ¬ nW 36 < nW (gSh σ).length := by rw [nW_lt (by omega) (by omega)]; omega
    rw [iminE, if_neg this]
  refine ⟨M2, ?_, F1.tr F2 (fun a h => by unfold SZ; omega) (fun a h => by unfold SZ; omega), R2⟩
  simp only [f_X7_removeSession, k1, ↓reduceIte, k2, Option.bind_some, k8 c hc, g5, e1, k6', nW_lit]
  have : gSh (putG σ c (σ.1, spClear (σ.2.1 c))) = gSh σ := rfl
  rw [this, hm]; exact e2
