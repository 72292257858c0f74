/-! SUBSCRIPTIONS DROPPED, sessions removed: in the reference -/
theorem subFlat (c j : Nat) (h : j < 6) (hc : c < 6) : 6 * c + j < 36 := by omega
theorem ref_leave_L2 {N : Mem} {V : VR} {s : Nat → Int32} {t : Nat → Int64} (hk : KR N) {c j : Nat} {r : Row} {l : List Sh} (hc : c < 6) (hj : j < 6) (hR : R_sh s t l) (h36 : l.length ≤ 36) (hG : ShG l) (h6 : ∀ x ∈ l, x.2.2.length ≤ 6) (s1 : s (446 + (6 * c + j)) = r.2 1) (t1 : TB t (24 + 4 * (6 * c + j)) r.1) (o1 : okTx r.1) (hmem : ∀ h, shAt l r.1 (r.2 1) = some h → c ∈ (l.getD h shD).2.2) : ∀ n i, i ≤ l.length → l.length - i < n → ffind (shP l r.1 (r.2 1)) (l.length - i) i = shAt l r.1 (r.2 1) → ∃ s' t', f_X12_leavesShare_L2 n 908 (nW c) (nW (6 * c + j)) (nW i) (QW N V s t) = some (QW N V s' t') ∧ R_sh s' t' (shLeaveK l r.1 (r.2 1) c) ∧ FSh s s' ∧ FtS t t'
  | 0, i, _, hn, _ => absurd hn (by omega)
  | n + 1, i, hi, hn, hf => by
    have hf0 := hf
    by_cases he : i = l.length
    · have n1 : l.length ≤ i := by omega
      rw [he, Nat.sub_self, ffind] at hf0
      refine ⟨s, t, ?_, by unfold shLeaveK; rw [← hf0]; exact hR, fun _ _ _ => rfl, fun _ _ => rfl⟩
      simp (disch := omega) only [f_X12_leavesShare_L2, f_X12_leavesShare_J29, q_k hk, q_gR1 hk, q_gR2 hk, q_gR8 hk, q_gR11 hk, q_gR13 hk, q_gR14 hk, q_gR15 hk, q_gR16 hk, q_gI hk, q_pI hk, q_a hk, q_w hk, q_l hk, nW_add, nW_mul, nW_sub, nW_le, nW_lt, nW_inj, irem_nW, ix_nW, nW_lit, hR.1, n1, ↓reduceIte, Option.bind_some, he, Nat.le_refl]
    · have n1 : ¬ l.length ≤ i := by omega
      obtain ⟨y1, y2, y3, y4, y5⟩ := hR.2 i (by omega)
      have oi := (hG.2.1 _ (shAt_get (show i < l.length by omega))).1
      have sa := ref_isShareOf (N := N) (V := V) (c := nW c) hk (subFlat c j hj hc) (show i < 36 by omega) s1 y1 t1 y4 o1 oi
      rw [show l.length - i = (l.length - (i + 1)) + 1 by omega, ffind] at hf0
      cases hp : shP l r.1 (r.2 1) i with
      | true =>
        have hp' : (decide ((l.getD i shD).2.1 = r.2 1) && decide ((l.getD i shD).1 = r.1)) = true := hp
        rw [hp', zI_t] at sa
        rw [hp, if_pos rfl] at hf0
        have t1 : ¬ nW 1 = nW 0 := by decide
        obtain ⟨s', t', e, R, F⟩ := ref_leaves_J29 (N := N) (V := V) (h := i) (c := c) hk hR h36 hG.1 h6 (by omega) hc (hmem i hf0.symm)
        refine ⟨s', t', ?_, by unfold shLeaveK; rw [← hf0]; exact R, F⟩
        simp (disch := omega) only [f_X12_leavesShare_L2, q_k hk, q_gR1 hk, q_gR2 hk, q_gR8 hk, q_gR11 hk, q_gR13 hk, q_gR14 hk, q_gR15 hk, q_gR16 hk, q_gI hk, q_pI hk, q_a hk, q_w hk, q_l hk, nW_add, nW_mul, nW_sub, nW_le, nW_lt, nW_inj, irem_nW, ix_nW, nW_lit, hR.1, n1, ↓reduceIte, Option.bind_some, sa, bindP, t1, e]
      | false =>
        have hp' : (decide ((l.getD i shD).2.1 = r.2 1) && decide ((l.getD i shD).1 = r.1)) = false := hp
        rw [hp', zI_f] at sa
        rw [hp, if_neg (by decide)] at hf0
        obtain ⟨s', t', e, R, F⟩ := ref_leave_L2 (N := N) (V := V) hk hc hj hR h36 hG h6 s1 t1 o1 hmem n (i + 1) (by omega) (by omega) hf0
        refine ⟨s', t', ?_, R, F⟩
        simp (disch := omega) only [f_X12_leavesShare_L2, q_k hk, q_gR1 hk, q_gR2 hk, q_gR8 hk, q_gR11 hk, q_gR13 hk, q_gR14 hk, q_gR15 hk, q_gR16 hk, q_gI hk, q_pI hk, q_a hk, q_w hk, q_l hk, nW_add, nW_mul, nW_sub, nW_le, nW_lt, nW_inj, irem_nW, ix_nW, nW_lit, hR.1, n1, ↓reduceIte, Option.bind_some, sa, bindP, e]
theorem sh6 {s : Nat → Int32} {t : Nat → Int64} {σ : Sg} (h : RSt s t σ) : ∀ x ∈ gSh σ, x.2.2.length ≤ 6 := by
  intro x hx
  obtain ⟨i, hi, rfl⟩ := List.mem_iff_getElem.mp hx
  have := h.2.2.2.2.2.2.2.2 i hi
  rw [gd_in _ _ hi] at this; exact this
def spDropL (σ : Sg) (c k : Nat) : List Sh := if ((cL (gCl σ c) 3).2 k).2 1 = nW 0 then gSh σ else shLeaveK (gSh σ) ((cL (gCl σ c) 3).2 k).1 (((cL (gCl σ c) 3).2 k).2 1) c
def spDrop (σ : Sg) (c k : Nat) : Sg := uSh (putG σ c (gSc σ, uL (gCl σ c) 3 (ldel (cL (gCl σ c) 3) k))) (spDropL σ c k)
theorem len_leave (l : List Sh) (h c : Nat) : (shLeave l h c).length ≤ l.length := by
  unfold shLeave
  split
  · rw [List.length_eraseIdx]; split <;> omega
  · rw [shPut, len_setL]; exact Nat.le_refl _
theorem len6_leave {l : List Sh} {h c : Nat} (h6 : ∀ x ∈ l, x.2.2.length ≤ 6) (hh : h < l.length) : ∀ x ∈ shLeave l h c, x.2.2.length ≤ 6 := by
  intro x hx
  rcases mem_shLeave hh hx with ⟨_, hx⟩ | ⟨rfl, he⟩
  · exact h6 x hx
  · exact Nat.le_trans (List.length_erase_le ..) (h6 _ (shAt_get hh))
theorem len_leaveK (l : List Sh) (t : Txt) (g : Int32) (c : Nat) (h6 : ∀ x ∈ l, x.2.2.length ≤ 6) : (shLeaveK l t g c).length ≤ l.length ∧ ∀ x ∈ shLeaveK l t g c, x.2.2.length ≤ 6 := by
  unfold shLeaveK
  cases e : shAt l t g with
  | none => exact ⟨Nat.le_refl _, h6⟩
  | some h => exact ⟨len_leave _ _ _, len6_leave h6 (shAt_some e).1⟩
theorem RSt_L3 {s s' : Nat → Int32} {t t' : Nat → Int64} {σ : Sg} {c : Nat} {l : Ls Row} (hc : c < 6) (h : RSt s t σ) (hl : l.1 ≤ 6) (hcnt : s' (50 + c) = nW l.1) (hs : ∀ i, i ≠ 50 + c → (i < 410 ∨ 554 ≤ i ∨ (i - 410) % 36 / 6 ≠ c) → s' i = s i) (ht : ∀ i, (i < 24 ∨ 168 ≤ i ∨ (i - 24) / 24 ≠ c) → t' i = t i) (hR : R_su s' t' c l) : RSt s' t' (putG σ c (gSc σ, uL (gCl σ c) 3 l)) := by
  have hg := RSt_get h hc
  refine RSt_put h ?_ (fun i h1 h2 => hs i (by unfold cs at h2; omega) (by unfold cs at h2; omega)) (fun i h2 => ht i (by unfold ct at h2; omega)) hc
  obtain ⟨hsc, ⟨l1, l2, l3, l4⟩, ⟨a1, a2, a3, a4, a5, a6, a7, a8⟩, b, w, k, u, f, p, q⟩ := hg
  refine ⟨hsc.fr (fun i hi => hs i (by omega) (by omega)), ⟨l1, l2, l3, hl⟩, ?_, b.fr hc (fun i h1 h2 => hs i (by omega) (by omega)), w.fr hc (fun i h1 h2 => hs i (by omega) (by omega)) (fun i h1 => ht i (by omega)), k.fr hc (fun i h1 h2 => hs i (by omega) (by omega)), ?_, ?_, ?_, ?_⟩
  · unfold R_c1
    simp (disch := omega) only [uB_B, uB_I, uB_F, uB_W, uB_K, uB_N, uB_L, uI_B, uI_I, uI_F, uI_W, uI_K, uI_N, uI_L, uF_B, uF_I, uF_F, uF_W, uF_K, uF_N, uF_L, uW_B, uW_I, uW_F, uW_W, uW_K, uW_N, uW_L, uK_B, uK_I, uK_F, uK_W, uK_K, uK_N, uK_L, uN_B, uN_I, uN_F, uN_W, uN_K, uN_N, uN_L, uL_B, uL_I, uL_F, uL_W, uL_K, uL_N, uL_L, fset_ne, fset_eq]
    rw [hs _ (by omega) (by omega), hs _ (by omega) (by omega), hcnt, hs _ (by omega) (by omega), hs _ (by omega) (by omega), hs _ (by omega) (by omega), hs _ (by omega) (by omega), hs _ (by omega) (by omega)]
    exact ⟨a1, a2, rfl, a4, a5, a6, a7, a8⟩
  · simp only [uB_B, uB_I, uB_F, uB_W, uB_K, uB_N, uB_L, uI_B, uI_I, uI_F, uI_W, uI_K, uI_N, uI_L, uF_B, uF_I, uF_F, uF_W, uF_K, uF_N, uF_L, uW_B, uW_I, uW_F, uW_W, uW_K, uW_N, uW_L, uK_B, uK_I, uK_F, uK_W, uK_K, uK_N, uK_L, uN_B, uN_I, uN_F, uN_W, uN_K, uN_N, uN_L, uL_B, uL_I, uL_F, uL_W, uL_K, uL_N, uL_L, fset_eq]; exact hR
  · simp only [uB_B, uB_I, uB_F, uB_W, uB_K, uB_N, uB_L, uI_B, uI_I, uI_F, uI_W, uI_K, uI_N, uI_L, uF_B, uF_I, uF_F, uF_W, uF_K, uF_N, uF_L, uW_B, uW_I, uW_F, uW_W, uW_K, uW_N, uW_L, uK_B, uK_I, uK_F, uK_W, uK_K, uK_N, uK_L, uN_B, uN_I, uN_F, uN_W, uN_K, uN_N, uN_L, uL_B, uL_I, uL_F, uL_W, uL_K, uL_N, uL_L, fset_ne _ _ (show (1 : Nat) ≠ 3 by omega)]; exact f.fr hc l2 (fun i h1 h2 => hs i (by omega) (by omega)) (fun i h1 h2 => ht i (by omega))
  · simp only [uB_B, uB_I, uB_F, uB_W, uB_K, uB_N, uB_L, uI_B, uI_I, uI_F, uI_W, uI_K, uI_N, uI_L, uF_B, uF_I, uF_F, uF_W, uF_K, uF_N, uF_L, uW_B, uW_I, uW_F, uW_W, uW_K, uW_N, uW_L, uK_B, uK_I, uK_F, uK_W, uK_K, uK_N, uK_L, uN_B, uN_I, uN_F, uN_W, uN_K, uN_N, uN_L, uL_B, uL_I, uL_F, uL_W, uL_K, uL_N, uL_L, fset_ne _ _ (show (2 : Nat) ≠ 3 by omega)]; exact p.fr hc l3 (fun i h1 h2 => hs i (by omega) (by omega)) (fun i h1 h2 => ht i (by omega))
  · simp only [uB_B, uB_I, uB_F, uB_W, uB_K, uB_N, uB_L, uI_B, uI_I, uI_F, uI_W, uI_K, uI_N, uI_L, uF_B, uF_I, uF_F, uF_W, uF_K, uF_N, uF_L, uW_B, uW_I, uW_F, uW_W, uW_K, uW_N, uW_L, uK_B, uK_I, uK_F, uK_W, uK_K, uK_N, uK_L, uN_B, uN_I, uN_F, uN_W, uN_K, uN_N, uN_L, uL_B, uL_I, uL_F, uL_W, uL_K, uL_N, uL_L, fset_ne _ _ (show (0 : Nat) ≠ 3 by omega)]; exact q.fr hc l1 (fun i h1 h2 => hs i (by omega) (by omega)) (fun i h1 h2 => ht i (by omega))
theorem ref_drops {N : Mem} {V : VR} {s : Nat → Int32} {t : Nat → Int64} {σ : Sg} {c k : Nat} (hk : KR N) (h : RSt s t σ) (hc : c < 6) (hkk : k < (cL (gCl σ c) 3).1) (hG : ShG (gSh σ)) (hok : SubOk (cL (gCl σ c) 3)) (hd : SubDi (cL (gCl σ c) 3)) (hC : CC (gSh σ) (cL (gCl σ c) 3) c) : ∃ s' t', f_X12_drops 908 (nW c) (nW (6 * c + k)) (QW N V s t) = some (QW N V s' t') ∧ RSt s' t' (spDrop σ c k) := by
  have hg : R_cl s t c (gCl σ c) := (RSt_get h hc).2
  have l6 : (cL (gCl σ c) 3).1 ≤ 6 := hg.1.2.2.2
  have cnt : s (50 + c) = nW (cL (gCl σ c) 3).1 := hg.2.1.2.2.1
  have u := hg.2.2.2.2.2.1
  obtain ⟨y1, y2, y3, y4, y5⟩ := u k hkk
  obtain ⟨o1, ⟨g, g1, g2⟩, _⟩ := hok k hkk
  -- the rows move up in any state that still holds them
  have fin : ∀ s1 t1 l', RSt s1 t1 (uSh σ l') → ∃ s' t', f_X12_drops_L21 FU 908 (nW c) (nW (6 * c + k)) (QW N V s1 t1) = some (QW N V s' t') ∧ RSt s' t' (uSh (putG σ c (gSc σ, uL (gCl σ c) 3 (ldel (cL (gCl σ c) 3) k))) l') := by
    intro s1 t1 l' H
    have Hg : R_cl s1 t1 c (gCl σ c) := (RSt_get H hc).2
    have u1 := Hg.2.2.2.2.2.1
    obtain ⟨s', t', e, r0, r1, r2, r3⟩ := sh_drops_L21 (N := N) (V := V) hk hc l6 FU k s1 t1 hkk (by simp only [FU]; omega) Hg.2.1.2.2.1
    refine ⟨s', t', e, RSt_L3 (σ := uSh σ l') hc H (by simp only [ldel]; omega) r0 (fun i h1 h2 => r2 i h1 (by omega) (by omega) (by omega) (by omega)) (fun i h1 => r3 i (by omega)) (fun j hj => ?_)⟩
    simp only [ldel] at hj ⊢
    by_cases q : j < k
    · obtain ⟨z1, z2, z3, z4, z5⟩ := u1 j (by show j < (cL (gCl σ c) 3).1; omega)
      have R : ∀ b, (b = 410 ∨ b = 446 ∨ b = 482 ∨ b = 518) → s' (b + (6 * c + j)) = s1 (b + (6 * c + j)) := fun b hb => r2 _ (by omega) (by omega) (by omega) (by omega) (by omega)
      rw [if_pos q, R 410 (by omega), R 446 (by omega), R 482 (by omega), R 518 (by omega)]
      exact ⟨z1, z2, z3, z4, z5.fr (fun k hk => r3 _ (by omega))⟩
    · obtain ⟨x1, x2, x3, x4, x5⟩ := r1 j (by omega) (by omega)
      obtain ⟨z1, z2, z3, z4, z5⟩ := u1 (j + 1) (by show j + 1 < (cL (gCl σ c) 3).1; omega)
      rw [if_neg q]
      exact ⟨by rw [x1]; exact z1, by rw [x2]; exact z2, by rw [x3]; exact z3, by rw [x4]; exact z4, fun k hk => by rw [x5 k hk]; exact z5 k hk⟩
  unfold spDrop spDropL
  by_cases h0 : ((cL (gCl σ c) 3).2 k).2 1 = nW 0
  · rw [if_pos h0]
    obtain ⟨s', t', e, R⟩ := fin s t (gSh σ) h
    refine ⟨s', t', ?_, R⟩
    rw [h0] at y2
    simp (disch := omega) only [f_X12_drops, q_k hk, q_gR1 hk, q_gR2 hk, q_gR8 hk, q_gR11 hk, q_gR13 hk, q_gR14 hk, q_gR15 hk, q_gR16 hk, q_gI hk, q_pI hk, q_a hk, q_w hk, q_l hk, nW_add, nW_mul, nW_sub, nW_le, nW_lt, nW_inj, irem_nW, ix_nW, nW_lit, ↓reduceIte, Option.bind_some, y2, Nat.le_refl, e]
  · rw [if_neg h0]
    have g0 : ¬ g ≤ 0 := fun hh => h0 (by rw [g2]; congr 1; omega)
    obtain ⟨k1, k2, k3, k4⟩ := leaveK hG hkk hd hC h0
    have s6 := sh6 h
    have h36 : (gSh σ).length ≤ 36 := h.2.2.2.2.2.2.1
    obtain ⟨s1, t1, e1, R1, F1, Ft1⟩ := ref_leave_L2 (N := N) (V := V) hk hc (show k < 6 by omega) h.2.2.2.1 h36 hG s6 y2 y5 o1 k4 FU 0 (by omega) (by simp only [FU]; omega) rfl
    have ll := len_leaveK (gSh σ) ((cL (gCl σ c) 3).2 k).1 (((cL (gCl σ c) 3).2 k).2 1) c s6
    obtain ⟨s', t', e, R⟩ := fin s1 t1 _ (RSt_sh h F1 Ft1 R1 (by omega) ll.2)
    refine ⟨s', t', ?_, R⟩
    rw [g2] at y2
    simp (disch := omega) only [f_X12_drops, q_k hk, q_gR1 hk, q_gR2 hk, q_gR8 hk, q_gR11 hk, q_gR13 hk, q_gR14 hk, q_gR15 hk, q_gR16 hk, q_gI hk, q_pI hk, q_a hk, q_w hk, q_l hk, nW_add, nW_mul, nW_sub, nW_le, nW_lt, nW_inj, irem_nW, ix_nW, nW_lit, ↓reduceIte, Option.bind_some, y2, g0, f_X12_leavesShare, e1, e]
theorem ref_removes_L56 {N : Mem} {V : VR} {t : Nat → Int64} (hk : KR N) {c : Nat} (hc : c < 6) : ∀ n i s, i ≤ 51 → 51 - i < n → ∃ s', f_X12_removes_L56 n 908 (nW c) (nW i) (QW N V s t) = some (QW N V s' t) ∧ (∀ j, i ≤ j → j < 51 → s' (104 + (51 * c + j)) = nW 0) ∧ ∀ j, (j < 104 + 51 * c + i ∨ 104 + 51 * c + 51 ≤ j) → s' j = s j
  | 0, i, s, _, hn => absurd hn (by omega)
  | n + 1, i, s, hi, hn => by
    by_cases he : i = 51
    · subst he
      refine ⟨s, ?_, fun j h1 h2 => by omega, fun _ _ => rfl⟩
      simp (disch := omega) only [f_X12_removes_L56, nW_lit, nW_lt, Nat.reduceLT, ↓reduceIte]
    · have n1 : ¬ 50 < i := by omega
      obtain ⟨s', e, r1, r2⟩ := ref_removes_L56 (N := N) (V := V) (t := t) hk hc n (i + 1) (fset s (104 + 51 * c + i) (nW 0)) (by omega) (by omega)
      refine ⟨s', ?_, fun j h1 h2 => ?_, fun j h => ?_⟩
      · simp (disch := omega) only [f_X12_removes_L56, q_k hk, q_gR1 hk, q_gR2 hk, q_gR8 hk, q_gR11 hk, q_gR13 hk, q_gR14 hk, q_gR15 hk, q_gR16 hk, q_gI hk, q_pI hk, q_a hk, q_w hk, q_l hk, nW_add, nW_mul, nW_sub, nW_le, nW_lt, nW_inj, irem_nW, ix_nW, nW_lit, n1, ↓reduceIte, Option.bind_some, e]
      · by_cases ej : j = i
        · subst ej
          have e9 : 104 + (51 * c + j) = 104 + 51 * c + j := by omega
          rw [r2 _ (by omega), e9, fset_eq]
        · exact r1 j (by omega) h2
      · rw [r2 j (by omega), fset_ne _ _ (by omega)]
theorem shGone_end {l : List Sh} {u : Ls Row} {c : Nat} (hG : ShOk l) (hC : CC l u c) (h0 : u.1 = 0) : shGone l c = l := shGone_id (fun x hx => ⟨fun hm => by
  obtain ⟨j, h1, _⟩ := (hC x hx).mp hm
  omega, (hG x hx).2.2⟩)
theorem R_cl_lists {s : Nat → Int32} {t : Nat → Int64} {c : Nat} {x x' : Cl} (h : R_cl s t c x) (hB : cB x' = cB x) (hI : cI x' = cI x) (hW : cW x' = cW x) (hK : cK x' = cK x) (hN : cN x' = cN x) (h0 : cL x' 0 = cL x 0) (h1 : cL x' 1 = cL x 1) (h2 : cL x' 2 = cL x 2) (h3 : (cL x' 3).1 = (cL x 3).1) (hz : (cL x' 3).1 = 0) : R_cl s t c x' := by
  obtain ⟨⟨l1, l2, l3, l4⟩, a, b, w, k, u, f, p, q⟩ := h
  unfold R_c1 at a
  unfold R_c2 at b
  unfold R_wi at w
  unfold R_ke at k
  unfold R_cl lim1 R_c1 R_c2 R_wi R_ke
  rw [hB, hI, hW, hK, hN, h0, h1, h2, h3]
  exact ⟨⟨l1, l2, l3, l4⟩, a, b, w, k, fun j hj => absurd hj (by omega), f, p, q⟩
theorem spClear_L3 {x : Cl} (l : Ls Row) : ∀ {s t c}, R_cl s t c (spClear x) ↔ R_cl s t c (spClear (uL x 3 l)) := by
  intro s t c
  constructor <;> intro h <;> refine R_cl_lists h ?_ ?_ ?_ ?_ ?_ ?_ ?_ ?_ ?_ ?_ <;> simp (disch := omega) only [spClear, uB_B, uB_I, uB_F, uB_W, uB_K, uB_N, uB_L, uI_B, uI_I, uI_F, uI_W, uI_K, uI_N, uI_L, uF_B, uF_I, uF_F, uF_W, uF_K, uF_N, uF_L, uW_B, uW_I, uW_F, uW_W, uW_K, uW_N, uW_L, uK_B, uK_I, uK_F, uK_W, uK_K, uK_N, uK_L, uN_B, uN_I, uN_F, uN_W, uN_K, uN_N, uN_L, uL_B, uL_I, uL_F, uL_W, uL_K, uL_N, uL_L, fset_ne, fset_eq]
theorem ref_removes_L0 {N : Mem} {V : VR} (hk : KR N) {c : Nat} (hc : c < 6) : ∀ n s t σ, (cL (gCl σ c) 3).1 < n → RSt s t σ → ShG (gSh σ) → SubOk (cL (gCl σ c) 3) → SubDi (cL (gCl σ c) 3) → CC (gSh σ) (cL (gCl σ c) 3) c → ∃ s' t', f_X12_removes_L0 n 908 (nW c) (QW N V s t) = some (QW N V s' t') ∧ RSt s' t' (spRemove σ c)
  | 0, s, t, σ, hn, _, _, _, _, _ => absurd hn (by omega)
  | n + 1, s, t, σ, hn, h, hG, hok, hd, hC => by
    have hg : R_cl s t c (gCl σ c) := (RSt_get h hc).2
    have l6 : (cL (gCl σ c) 3).1 ≤ 6 := hg.1.2.2.2
    have cnt : s (50 + c) = nW (cL (gCl σ c) 3).1 := hg.2.1.2.2.1
    by_cases h0 : (cL (gCl σ c) 3).1 = 0
    · have n0 : (cL (gCl σ c) 3).1 ≤ 0 := by omega
      obtain ⟨s', e, r1, r2⟩ := ref_removes_L56 (N := N) (V := V) (t := t) hk hc FU 0 (fset (fset (fset s (20 + c) (nW 0)) (56 + c) (nW 0)) (62 + c) (nW 0)) (by omega) (by simp only [FU]; omega)
      have R2 : ∀ i, i ≠ 20 + c → i ≠ 56 + c → i ≠ 62 + c → (i < 104 + 51 * c ∨ 104 + 51 * c + 51 ≤ i) → s' i = s i := fun i a b d f => by
        rw [r2 i (by omega)]; simp (disch := omega) only [fset_ne]
      refine ⟨s', t, ?_, ?_⟩
      · simp (disch := omega) only [f_X12_removes_L0, q_k hk, q_gR1 hk, q_gR2 hk, q_gR8 hk, q_gR11 hk, q_gR13 hk, q_gR14 hk, q_gR15 hk, q_gR16 hk, q_gI hk, q_pI hk, q_a hk, q_w hk, q_l hk, nW_add, nW_mul, nW_sub, nW_le, nW_lt, nW_inj, irem_nW, ix_nW, nW_lit, cnt, n0, ↓reduceIte, Option.bind_some, e]
      · have hs0 : shGone (gSh σ) c = gSh σ := shGone_end hG.1 hC h0
        have HH : RSt s' t (putG σ c (gSc σ, spClear (gCl σ c))) := by
          refine RSt_put h ?_ (fun i h1 h2 => R2 i (by unfold cs at h2; omega) (by unfold cs at h2; omega) (by unfold cs at h2; omega) (by unfold cs at h2; omega)) (fun _ _ => rfl) hc
          obtain ⟨hsc, ⟨l1, l2, l3, l4⟩, ⟨a1, a2, a3, a4, a5, a6, a7, a8⟩, b, w, kk, u, f, p, q⟩ := RSt_get h hc
          have e20 : s' (20 + c) = nW 0 := by rw [r2 _ (by omega)]; simp (disch := omega) only [fset_ne, fset_eq]
          have e56 : s' (56 + c) = nW 0 := by rw [r2 _ (by omega)]; simp (disch := omega) only [fset_ne, fset_eq]
          have e62 : s' (62 + c) = nW 0 := by rw [r2 _ (by omega)]; simp (disch := omega) only [fset_eq]
          refine ⟨hsc.fr (fun i hi => R2 i (by omega) (by omega) (by omega) (by omega)), ⟨l1, ?_, ?_, ?_⟩, ?_, ?_, ?_, ?_, ?_, ?_, ?_, ?_⟩
          · simp (disch := omega) only [spClear, uB_B, uB_I, uB_F, uB_W, uB_K, uB_N, uB_L, uI_B, uI_I, uI_F, uI_W, uI_K, uI_N, uI_L, uF_B, uF_I, uF_F, uF_W, uF_K, uF_N, uF_L, uW_B, uW_I, uW_F, uW_W, uW_K, uW_N, uW_L, uK_B, uK_I, uK_F, uK_W, uK_K, uK_N, uK_L, uN_B, uN_I, uN_F, uN_W, uN_K, uN_N, uN_L, uL_B, uL_I, uL_F, uL_W, uL_K, uL_N, uL_L, fset_ne, fset_eq]; omega
          · simp (disch := omega) only [spClear, uB_B, uB_I, uB_F, uB_W, uB_K, uB_N, uB_L, uI_B, uI_I, uI_F, uI_W, uI_K, uI_N, uI_L, uF_B, uF_I, uF_F, uF_W, uF_K, uF_N, uF_L, uW_B, uW_I, uW_F, uW_W, uW_K, uW_N, uW_L, uK_B, uK_I, uK_F, uK_W, uK_K, uK_N, uK_L, uN_B, uN_I, uN_F, uN_W, uN_K, uN_N, uN_L, uL_B, uL_I, uL_F, uL_W, uL_K, uL_N, uL_L, fset_ne, fset_eq]; omega
          · simp (disch := omega) only [spClear, uB_B, uB_I, uB_F, uB_W, uB_K, uB_N, uB_L, uI_B, uI_I, uI_F, uI_W, uI_K, uI_N, uI_L, uF_B, uF_I, uF_F, uF_W, uF_K, uF_N, uF_L, uW_B, uW_I, uW_F, uW_W, uW_K, uW_N, uW_L, uK_B, uK_I, uK_F, uK_W, uK_K, uK_N, uK_L, uN_B, uN_I, uN_F, uN_W, uN_K, uN_N, uN_L, uL_B, uL_I, uL_F, uL_W, uL_K, uL_N, uL_L, fset_eq]; omega
          · unfold R_c1
            simp (disch := omega) only [spClear, uB_B, uB_I, uB_F, uB_W, uB_K, uB_N, uB_L, uI_B, uI_I, uI_F, uI_W, uI_K, uI_N, uI_L, uF_B, uF_I, uF_F, uF_W, uF_K, uF_N, uF_L, uW_B, uW_I, uW_F, uW_W, uW_K, uW_N, uW_L, uK_B, uK_I, uK_F, uK_W, uK_K, uK_N, uK_L, uN_B, uN_I, uN_F, uN_W, uN_K, uN_N, uN_L, uL_B, uL_I, uL_F, uL_W, uL_K, uL_N, uL_L, fset_ne, fset_eq, zI_f]
            rw [e20, R2 (32 + c) (by omega) (by omega) (by omega) (by omega), R2 (50 + c) (by omega) (by omega) (by omega) (by omega), e56, e62, R2 (68 + c) (by omega) (by omega) (by omega) (by omega), R2 (74 + c) (by omega) (by omega) (by omega) (by omega), R2 (80 + c) (by omega) (by omega) (by omega) (by omega)]
            exact ⟨rfl, a2, by rw [cnt, h0], rfl, rfl, a6, a7, a8⟩
          · intro e
            simp (disch := omega) only [spClear, uB_B, uB_I, uB_F, uB_W, uB_K, uB_N, uB_L, uI_B, uI_I, uI_F, uI_W, uI_K, uI_N, uI_L, uF_B, uF_I, uF_F, uF_W, uF_K, uF_N, uF_L, uW_B, uW_I, uW_F, uW_W, uW_K, uW_N, uW_L, uK_B, uK_I, uK_F, uK_W, uK_K, uK_N, uK_L, uN_B, uN_I, uN_F, uN_W, uN_K, uN_N, uN_L, uL_B, uL_I, uL_F, uL_W, uL_K, uL_N, uL_L, fset_ne, fset_eq] at e
            cases e
          · unfold R_wi at w ⊢
            simp (disch := omega) only [spClear, uB_B, uB_I, uB_F, uB_W, uB_K, uB_N, uB_L, uI_B, uI_I, uI_F, uI_W, uI_K, uI_N, uI_L, uF_B, uF_I, uF_F, uF_W, uF_K, uF_N, uF_L, uW_B, uW_I, uW_F, uW_W, uW_K, uW_N, uW_L, uK_B, uK_I, uK_F, uK_W, uK_K, uK_N, uK_L, uN_B, uN_I, uN_F, uN_W, uN_K, uN_N, uN_L, uL_B, uL_I, uL_F, uL_W, uL_K, uL_N, uL_L, fset_ne, fset_eq]
            rw [R2 (86 + c) (by omega) (by omega) (by omega) (by omega), R2 (92 + c) (by omega) (by omega) (by omega) (by omega), R2 (98 + c) (by omega) (by omega) (by omega) (by omega)]
            exact w
          · intro i h1 h2
            simp only [spClear, uB_B, uB_I, uB_F, uB_W, uB_K, uB_N, uB_L, uI_B, uI_I, uI_F, uI_W, uI_K, uI_N, uI_L, uF_B, uF_I, uF_F, uF_W, uF_K, uF_N, uF_L, uW_B, uW_I, uW_F, uW_W, uW_K, uW_N, uW_L, uK_B, uK_I, uK_F, uK_W, uK_K, uK_N, uK_L, uN_B, uN_I, uN_F, uN_W, uN_K, uN_N, uN_L, uL_B, uL_I, uL_F, uL_W, uL_K, uL_N, uL_L, zI_f]
            exact r1 i (by omega) h2
          · intro j hj; simp (disch := omega) only [spClear, uB_B, uB_I, uB_F, uB_W, uB_K, uB_N, uB_L, uI_B, uI_I, uI_F, uI_W, uI_K, uI_N, uI_L, uF_B, uF_I, uF_F, uF_W, uF_K, uF_N, uF_L, uW_B, uW_I, uW_F, uW_W, uW_K, uW_N, uW_L, uK_B, uK_I, uK_F, uK_W, uK_K, uK_N, uK_L, uN_B, uN_I, uN_F, uN_W, uN_K, uN_N, uN_L, uL_B, uL_I, uL_F, uL_W, uL_K, uL_N, uL_L, fset_eq] at hj; exact absurd hj (Nat.not_lt_zero j)
          · intro j hj; simp (disch := omega) only [spClear, uB_B, uB_I, uB_F, uB_W, uB_K, uB_N, uB_L, uI_B, uI_I, uI_F, uI_W, uI_K, uI_N, uI_L, uF_B, uF_I, uF_F, uF_W, uF_K, uF_N, uF_L, uW_B, uW_I, uW_F, uW_W, uW_K, uW_N, uW_L, uK_B, uK_I, uK_F, uK_W, uK_K, uK_N, uK_L, uN_B, uN_I, uN_F, uN_W, uN_K, uN_N, uN_L, uL_B, uL_I, uL_F, uL_W, uL_K, uL_N, uL_L, fset_ne, fset_eq] at hj; exact absurd hj (Nat.not_lt_zero j)
          · intro j hj; simp (disch := omega) only [spClear, uB_B, uB_I, uB_F, uB_W, uB_K, uB_N, uB_L, uI_B, uI_I, uI_F, uI_W, uI_K, uI_N, uI_L, uF_B, uF_I, uF_F, uF_W, uF_K, uF_N, uF_L, uW_B, uW_I, uW_F, uW_W, uW_K, uW_N, uW_L, uK_B, uK_I, uK_F, uK_W, uK_K, uK_N, uK_L, uN_B, uN_I, uN_F, uN_W, uN_K, uN_N, uN_L, uL_B, uL_I, uL_F, uL_W, uL_K, uL_N, uL_L, fset_ne, fset_eq] at hj; exact absurd hj (Nat.not_lt_zero j)
          · simp (disch := omega) only [spClear, uB_B, uB_I, uB_F, uB_W, uB_K, uB_N, uB_L, uI_B, uI_I, uI_F, uI_W, uI_K, uI_N, uI_L, uF_B, uF_I, uF_F, uF_W, uF_K, uF_N, uF_L, uW_B, uW_I, uW_F, uW_W, uW_K, uW_N, uW_L, uK_B, uK_I, uK_F, uK_W, uK_K, uK_N, uK_L, uN_B, uN_I, uN_F, uN_W, uN_K, uN_N, uN_L, uL_B, uL_I, uL_F, uL_W, uL_K, uL_N, uL_L, fset_ne]
            exact q.fr hc l1 (fun i h1 h2 => R2 i (by omega) (by omega) (by omega) (by omega)) (fun _ _ _ => rfl)
        unfold spRemove
        rw [hs0]
        exact HH
    · have n0 : ¬ (cL (gCl σ c) 3).1 ≤ 0 := by omega
      obtain ⟨s1, t1, e1, R1⟩ := ref_drops (N := N) (V := V) (k := 0) hk h hc (by omega) hG hok hd hC
      rw [Nat.add_zero] at e1
      have ecl : gCl (spDrop σ c 0) c = uL (gCl σ c) 3 (ldel (cL (gCl σ c) 3) 0) := fset_eq _ _ _
      have e3 : cL (gCl (spDrop σ c 0) c) 3 = ldel (cL (gCl σ c) 3) 0 := by rw [ecl, uL_L, fset_eq]
      have esh : gSh (spDrop σ c 0) = spDropL σ c 0 := rfl
      have inv : ShG (spDropL σ c 0) ∧ CC (spDropL σ c 0) (ldel (cL (gCl σ c) 3) 0) c ∧ shGone (spDropL σ c 0) c = shGone (gSh σ) c := by
        unfold spDropL
        split
        · rename_i hz; exact ⟨hG, CC_drop0 hG.2.1 (by omega) hz hC, rfl⟩
        · rename_i hz
          obtain ⟨k1, k2, k3, _⟩ := leaveK hG (show 0 < (cL (gCl σ c) 3).1 by omega) hd hC hz
          exact ⟨k1, k2, k3⟩
      obtain ⟨s2, t2, e2, R2⟩ := ref_removes_L0 (N := N) (V := V) hk hc n s1 t1 (spDrop σ c 0) (by rw [e3]; simp only [ldel]; omega) R1 (by rw [esh]; exact inv.1) (by rw [e3]; exact SubOk_del hok 0 (by omega)) (by rw [e3]; exact SubDi_del hd 0 (by omega)) (by rw [e3, esh]; exact inv.2.1)
      refine ⟨s2, t2, ?_, ?_⟩
      · simp (disch := omega) only [f_X12_removes_L0, q_k hk, q_gR1 hk, q_gR2 hk, q_gR8 hk, q_gR11 hk, q_gR13 hk, q_gR14 hk, q_gR15 hk, q_gR16 hk, q_gI hk, q_pI hk, q_a hk, q_w hk, q_l hk, nW_add, nW_mul, nW_sub, nW_le, nW_lt, nW_inj, irem_nW, ix_nW, nW_lit, cnt, n0, ↓reduceIte, Option.bind_some, e1, e2]
      · have : RSt s2 t2 (spRemove σ c) ↔ RSt s2 t2 (spRemove (spDrop σ c 0) c) := by
          unfold spRemove
          rw [esh, inv.2.2]
          have ecc : fset (gCl (spDrop σ c 0)) c (spClear (gCl (spDrop σ c 0) c)) = fset (gCl σ) c (spClear (uL (gCl σ c) 3 (ldel (cL (gCl σ c) 3) 0))) := by
            rw [ecl]; funext j
            by_cases e : j = c
            · subst e; rw [fset_eq, fset_eq]
            · rw [fset_ne _ _ e, fset_ne _ _ e]; exact fset_ne _ _ e
          constructor
          · rintro ⟨b1, b2, b3⟩
            refine ⟨b1, fun c' hc' => ?_, b3⟩
            have := b2 c' hc'
            show R_cl s2 t2 c' (fset (gCl (spDrop σ c 0)) c (spClear (gCl (spDrop σ c 0) c)) c')
            rw [ecc]
            by_cases e : c' = c
            · subst e; rw [fset_eq]
              have h9 : R_cl s2 t2 c' (fset (gCl σ) c' (spClear (gCl σ c')) c') := this
              rw [fset_eq] at h9
              exact (spClear_L3 _).mp h9
            · rw [fset_ne _ _ e]
              have h9 : R_cl s2 t2 c' (fset (gCl σ) c (spClear (gCl σ c)) c') := this
              rw [fset_ne _ _ e] at h9; exact h9
          · rintro ⟨b1, b2, b3⟩
            refine ⟨b1, fun c' hc' => ?_, b3⟩
            have h8 : R_cl s2 t2 c' (fset (gCl (spDrop σ c 0)) c (spClear (gCl (spDrop σ c 0) c)) c') := b2 c' hc'
            rw [ecc] at h8
            show R_cl s2 t2 c' (fset (gCl σ) c (spClear (gCl σ c)) c')
            by_cases e : c' = c
            · subst e; rw [fset_eq] at h8 ⊢
              exact (spClear_L3 _).mpr h8
            · rw [fset_ne _ _ e] at h8 ⊢; exact h8
        rw [this]; exact R2
theorem ref_removes {N : Mem} {V : VR} {s : Nat → Int32} {t : Nat → Int64} {σ : Sg} {c : Nat} (hk : KR N) (hc : c < 6) (h : RSt s t σ) (hG : ShG (gSh σ)) (hok : SubOk (cL (gCl σ c) 3)) (hd : SubDi (cL (gCl σ c) 3)) (hC : CC (gSh σ) (cL (gCl σ c) 3) c) : ∃ s' t', f_X12_removes 908 (nW c) (QW N V s t) = some (QW N V s' t') ∧ RSt s' t' (spRemove σ c) := by
  obtain ⟨s', t', e, R⟩ := ref_removes_L0 (N := N) (V := V) hk hc FU s t σ (by have := (RSt_get h hc).2.1.2.2.2; have h9 : (cL (gCl σ c) 3).1 ≤ 6 := this; simp only [FU]; omega) h hG hok hd hC
  exact ⟨s', t', by simp only [f_X12_removes, q_k hk, ↓reduceIte, e], R⟩
