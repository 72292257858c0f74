/-! WHAT A CONNECTION'S END AND BEGINNING CHANGE -/
theorem remove_x (σ : Sg) (c c' : Nat) : cI (gCl (spRemove σ c) c') 0 = cI (gCl σ c') 0 ∧ cB (gCl (spRemove σ c) c') 1 = cB (gCl σ c') 1 ∧ cW (gCl (spRemove σ c) c') = cW (gCl σ c') ∧ cB (gCl (spRemove σ c) c') 0 = cB (gCl σ c') 0 := by
  have e : gCl (spRemove σ c) c' = if c' = c then spClear (gCl σ c) else gCl σ c' := rfl
  rw [e]
  by_cases h : c' = c
  · subst h
    rw [if_pos rfl]
    simp (disch := omega) only [spClear, uB_B, uB_I, uB_F, uB_W, uB_K, uB_N, uB_L, uI_B, uI_I, uI_F, uI_W, uI_K, uI_N, uI_L, uF_B, uF_I, uF_F, uF_W, uF_K, uF_N, uF_L, uW_B, uW_I, uW_F, uW_W, uW_K, uW_N, uW_L, uK_B, uK_I, uK_F, uK_W, uK_K, uK_N, uK_L, uN_B, uN_I, uN_F, uN_W, uN_K, uN_N, uN_L, uL_B, uL_I, uL_F, uL_W, uL_K, uL_N, uL_L, fset_ne, and_self]
  · rw [if_neg h]; exact ⟨rfl, rfl, rfl, rfl⟩
theorem remove_3 (σ : Sg) (c : Nat) : cB (gCl (spRemove σ c) c) 3 = false ∧ (cL (gCl (spRemove σ c) c) 3).1 = 0 := by
  have e : gCl (spRemove σ c) c = spClear (gCl σ c) := fset_eq _ _ _
  rw [e]
  refine ⟨?_, (NL_clear _).2⟩
  simp (disch := omega) only [spClear, uB_B, uB_I, uB_F, uB_W, uB_K, uB_N, uB_L, uI_B, uI_I, uI_F, uI_W, uI_K, uI_N, uI_L, uF_B, uF_I, uF_F, uF_W, uF_K, uF_N, uF_L, uW_B, uW_I, uW_F, uW_W, uW_K, uW_N, uW_L, uK_B, uK_I, uK_F, uK_W, uK_K, uK_N, uK_L, uN_B, uN_I, uN_F, uN_W, uN_K, uN_N, uN_L, uL_B, uL_I, uL_F, uL_W, uL_K, uL_N, uL_L, fset_eq, fset_ne]
theorem off_x (σ : Sg) (c c' : Nat) (t : Int32) : cI (gCl (putG σ c (gSc σ, spOff (gCl σ c) t)) c') 0 = cI (gCl σ c') 0 ∧ cB (gCl (putG σ c (gSc σ, spOff (gCl σ c) t)) c') 1 = cB (gCl σ c') 1 ∧ cW (gCl (putG σ c (gSc σ, spOff (gCl σ c) t)) c') = cW (gCl σ c') := by
  rw [gCl_put]
  by_cases h : c' = c
  · subst h
    rw [if_pos rfl]
    simp (disch := omega) only [spOff, uB_B, uB_I, uB_F, uB_W, uB_K, uB_N, uB_L, uI_B, uI_I, uI_F, uI_W, uI_K, uI_N, uI_L, uF_B, uF_I, uF_F, uF_W, uF_K, uF_N, uF_L, uW_B, uW_I, uW_F, uW_W, uW_K, uW_N, uW_L, uK_B, uK_I, uK_F, uK_W, uK_K, uK_N, uK_L, uN_B, uN_I, uN_F, uN_W, uN_K, uN_N, uN_L, uL_B, uL_I, uL_F, uL_W, uL_K, uL_N, uL_L, fset_ne, and_self]
  · rw [if_neg h]; exact ⟨rfl, rfl, rfl⟩
theorem endC_x (σ : Sg) (c c' : Nat) : cI (gCl (spEndC σ c) c') 0 = cI (gCl σ c') 0 ∧ cB (gCl (spEndC σ c) c') 1 = cB (gCl σ c') 1 ∧ cW (gCl (spEndC σ c) c') = cW (gCl σ c') := by
  obtain ⟨a1, a2, a3⟩ := off_x σ c c' (gSc σ 14)
  unfold spEndC
  split
  · obtain ⟨b1, b2, b3, _⟩ := remove_x (putG σ c (gSc σ, spOff (gCl σ c) (gSc σ 14))) c c'
    exact ⟨b1.trans a1, b2.trans a2, b3.trans a3⟩
  · exact ⟨a1, a2, a3⟩
theorem endC_o (σ : Sg) {c c' : Nat} (h : c' ≠ c) : gCl (spEndC σ c) c' = gCl σ c' := by
  have e1 : gCl (putG σ c (gSc σ, spOff (gCl σ c) (gSc σ 14))) c' = gCl σ c' := by rw [gCl_put, if_neg h]
  unfold spEndC
  split
  · have e : gCl (spRemove (putG σ c (gSc σ, spOff (gCl σ c) (gSc σ 14))) c) c' = if c' = c then spClear (gCl (putG σ c (gSc σ, spOff (gCl σ c) (gSc σ 14))) c) else gCl (putG σ c (gSc σ, spOff (gCl σ c) (gSc σ 14))) c' := rfl
    rw [e, if_neg h]; exact e1
  · exact e1
theorem endC_s (σ : Sg) (c : Nat) : gSc (spEndC σ c) = gSc σ ∧ gRe (spEndC σ c) = gRe σ := by
  unfold spEndC
  split
  · exact ⟨rfl, rfl⟩
  · exact ⟨rfl, rfl⟩
/-- who was connected: a session that isn't clean stays -/
theorem endC_3 (σ : Sg) (c : Nat) : cB (gCl (spEndC σ c) c) 3 = (cB (gCl σ c) 3 && !(cB (gCl σ c) 4)) := by
  have o3 : cB (gCl (putG σ c (gSc σ, spOff (gCl σ c) (gSc σ 14))) c) 3 = cB (gCl σ c) 3 := by
    rw [gCl_put, if_pos rfl]
    simp (disch := omega) only [spOff, uB_B, uB_I, uB_F, uB_W, uB_K, uB_N, uB_L, uI_B, uI_I, uI_F, uI_W, uI_K, uI_N, uI_L, uF_B, uF_I, uF_F, uF_W, uF_K, uF_N, uF_L, uW_B, uW_I, uW_F, uW_W, uW_K, uW_N, uW_L, uK_B, uK_I, uK_F, uK_W, uK_K, uK_N, uK_L, uN_B, uN_I, uN_F, uN_W, uN_K, uN_N, uN_L, uL_B, uL_I, uL_F, uL_W, uL_K, uL_N, uL_L, fset_ne]
  unfold spEndC
  cases h : cB (gCl σ c) 4 with
  | true => rw [if_pos rfl, (remove_3 _ c).1]; simp
  | false => rw [if_neg (by decide), o3]; simp
theorem noWill_x (σ : Sg) (c c' : Nat) : cI (gCl (spNoWill σ c) c') 0 = cI (gCl σ c') 0 ∧ cW (gCl (spNoWill σ c) c') = cW (gCl σ c') ∧ (cB (gCl (spNoWill σ c) c') 1 = true → cB (gCl σ c') 1 = true) ∧ cB (gCl (spNoWill σ c) c') 3 = cB (gCl σ c') 3 := by
  have e : gCl (spNoWill σ c) c' = if c' = c then uB (gCl σ c) 1 false else gCl σ c' := rfl
  rw [e]
  by_cases h : c' = c
  · subst h
    rw [if_pos rfl]
    refine ⟨rfl, rfl, fun hh => ?_, ?_⟩
    · simp (disch := omega) only [uB_B, uB_I, uB_F, uB_W, uB_K, uB_N, uB_L, uI_B, uI_I, uI_F, uI_W, uI_K, uI_N, uI_L, uF_B, uF_I, uF_F, uF_W, uF_K, uF_N, uF_L, uW_B, uW_I, uW_F, uW_W, uW_K, uW_N, uW_L, uK_B, uK_I, uK_F, uK_W, uK_K, uK_N, uK_L, uN_B, uN_I, uN_F, uN_W, uN_K, uN_N, uN_L, uL_B, uL_I, uL_F, uL_W, uL_K, uL_N, uL_L, fset_eq] at hh
      cases hh
    · simp (disch := omega) only [uB_B, uB_I, uB_F, uB_W, uB_K, uB_N, uB_L, uI_B, uI_I, uI_F, uI_W, uI_K, uI_N, uI_L, uF_B, uF_I, uF_F, uF_W, uF_K, uF_N, uF_L, uW_B, uW_I, uW_F, uW_W, uW_K, uW_N, uW_L, uK_B, uK_I, uK_F, uK_W, uK_K, uK_N, uK_L, uN_B, uN_I, uN_F, uN_W, uN_K, uN_N, uN_L, uL_B, uL_I, uL_F, uL_W, uL_K, uL_N, uL_L, fset_ne]
  · rw [if_neg h]; exact ⟨rfl, rfl, fun q => q, rfl⟩
/-! ALSO KEPT: loads, packets sent, the clock, retained messages, wills -/
def ReP (l : Ls Row) : Prop := ∀ j, j < l.1 → (∃ n, 1 ≤ n ∧ n ≤ 9999 ∧ (l.2 j).2 2 = nW n) ∧ (l.2 j).1 ≠ []
def WiP (x : Cl) : Prop := cB x 1 = true → (∃ n, n ≤ 9999 ∧ (cW x).2 2 = nW n) ∧ (cW x).1 ≠ []
def PX (k : Nat) (σ : Sg) : Prop := (∀ c, c < 6 → LdP (cF (gCl σ c))) ∧ (∀ c, c < 6 → ∃ n, n ≤ 100 * k ∧ cI (gCl σ c) 0 = nW n) ∧ (∃ n, n ≤ 100 * k ∧ gSc σ 14 = nW n) ∧ ReP (gRe σ) ∧ (∀ c, c < 6 → WiP (gCl σ c)) ∧ cB (gCl σ 5) 0 = false
theorem PX.mono {j k : Nat} {σ : Sg} (h : PX j σ) (hk : j ≤ k) : PX k σ := by
  obtain ⟨h1, h2, ⟨n, hn, e⟩, h4, h5⟩ := h
  exact ⟨h1, fun c hc => by obtain ⟨m, hm, em⟩ := h2 c hc; exact ⟨m, by omega, em⟩, ⟨n, by omega, e⟩, h4, h5⟩
theorem PX_of {k : Nat} {σ σ' : Sg} (h : PX k σ) (h1 : ∀ c, cF (gCl σ' c) = cF (gCl σ c)) (h2 : ∀ c, ∃ m, m ≤ 100 ∧ cI (gCl σ' c) 0 = cI (gCl σ c) 0 + nW m) (h3 : gSc σ' 14 = gSc σ 14) (h4 : ReP (gRe σ')) (h5 : ∀ c, c < 6 → WiP (gCl σ' c)) (h6 : cB (gCl σ' 5) 0 = false) : PX (k + 1) σ' := by
  obtain ⟨g1, g2, ⟨n, hn, e⟩, g4, g5⟩ := h
  refine ⟨fun c hc => by rw [h1 c]; exact g1 c hc, fun c hc => ?_, ⟨n, by omega, by rw [h3]; exact e⟩, h4, h5, h6⟩
  obtain ⟨a, ha, ea⟩ := g2 c hc
  obtain ⟨b, hb, eb⟩ := h2 c
  exact ⟨a + b, by omega, by rw [eb, ea, nW_add]⟩
theorem WiP_of {x x' : Cl} (h : WiP x) (h1 : cB x' 1 = true → cB x 1 = true) (h2 : cW x' = cW x) : WiP x' := fun e => by rw [h2]; exact h (h1 e)
theorem PX_Pr {k n : Nat} {σ σ' : Sg} (h : PX k σ) (hP : Pr n σ σ') (hn : n ≤ 100) (hF : ∀ c, cF (gCl σ' c) = cF (gCl σ c)) (hW : ∀ c, cB (gCl σ' c) = cB (gCl σ c) ∧ cW (gCl σ' c) = cW (gCl σ c)) : PX (k + 1) σ' :=
  PX_of h hF (fun c => by obtain ⟨m, hm, em⟩ := hP.1 c; exact ⟨m, by omega, em⟩) (hP.2.1 14 (by omega) (by omega) (by omega) (by omega)) (by rw [hP.2.2]; exact h.2.2.2.1) (fun c hc => WiP_of (h.2.2.2.2.1 c hc) (fun e => by rw [← (hW c).1]; exact e) (hW c).2) (by rw [(hW 5).1]; exact h.2.2.2.2.2)
theorem ReP_retain {l : Ls Row} {r : Row} (h : ReP l) (hr : ∃ n, n ≤ 9999 ∧ r.2 2 = nW n) (hx : r.1 ≠ []) : ReP (spRetain l r) := by
  obtain ⟨n, hn, en⟩ := hr
  unfold spRetain
  by_cases h0 : r.2 2 = nW 0
  · rw [if_pos h0]
    split
    · intro j hj
      have hj' : j < l.1 - 1 := hj
      show (∃ n, 1 ≤ n ∧ n ≤ 9999 ∧ (if j < reAt l r.1 then l.2 j else l.2 (j + 1)).2 2 = nW n) ∧ (if j < reAt l r.1 then l.2 j else l.2 (j + 1)).1 ≠ []
      split
      · exact h j (by omega)
      · exact h (j + 1) (by omega)
    · exact h
  · rw [if_neg h0]
    have rr : (∃ n, 1 ≤ n ∧ n ≤ 9999 ∧ r.2 2 = nW n) ∧ r.1 ≠ [] := ⟨⟨n, by
      rcases Nat.eq_zero_or_pos n with q | q
      · rw [q] at en; exact absurd en h0
      · exact q, hn, en⟩, hx⟩
    split
    · intro j hj
      have hj' : j < l.1 := hj
      show (∃ n, 1 ≤ n ∧ n ≤ 9999 ∧ (if j = reAt l r.1 then r else l.2 j).2 2 = nW n) ∧ (if j = reAt l r.1 then r else l.2 j).1 ≠ []
      split
      · exact rr
      · exact h j hj'
    · split
      · exact h
      · rename_i h8
        intro j hj
        have hj' : j < l.1 + 1 := hj
        have hle : reAt l r.1 ≤ l.1 := reAt_le l r.1
        show (∃ n, 1 ≤ n ∧ n ≤ 9999 ∧ (if j < reAt l r.1 then l.2 j else if j = reAt l r.1 then r else l.2 (j - 1)).2 2 = nW n) ∧ (if j < reAt l r.1 then l.2 j else if j = reAt l r.1 then r else l.2 (j - 1)).1 ≠ []
        split
        · exact h j (by omega)
        · split
          · exact rr
          · exact h (j - 1) (by omega)
theorem publ_re {σ : Sg} {r : Row} {ret : Bool} (h : ReP (gRe σ)) (hr : ∃ n, n ≤ 9999 ∧ r.2 2 = nW n) (hx : r.1 ≠ []) : ReP (if ret = true then spRetain (gRe σ) r else gRe σ) := by
  cases ret
  · exact h
  · exact ReP_retain h hr hx
/-- a connection fails -/
theorem fail_facts {k : Nat} {σ : Sg} {c : Nat} (h : PX k σ) (hc : c < 6) (hc5 : 5 ≠ c) (h36 : (gSh (spEndC σ c)).length ≤ 36) : PX (k + 1) (spFail σ c).2 ∧ (∀ i, i ≠ 0 → i ≠ 1 → i ≠ 2 → i ≠ 4 → i ≠ 6 → i ≠ 8 → gSc (spFail σ c).2 i = gSc σ i) ∧ cB (gCl (spFail σ c).2 c) 3 = (cB (gCl σ c) 3 && !(cB (gCl σ c) 4)) := by
  obtain ⟨es, er⟩ := endC_s σ c
  have e3 := endC_3 σ c
  have hF := fun c' => (NL_fail σ c c').1
  have hW0 : ∀ c', c' < 6 → WiP (gCl (spEndC σ c) c') := fun c' hc' => WiP_of (h.2.2.2.2.1 c' hc') (fun e => by rw [← (endC_x σ c c').2.1]; exact e) (endC_x σ c c').2.2
  unfold spFail at hF ⊢
  by_cases hw : cB (gCl (spEndC σ c) c) 1 = true
  · rw [if_pos hw] at hF ⊢
    obtain ⟨wp, wx⟩ := hW0 c hc hw
    obtain ⟨f1, f2, f3, f4, f5⟩ := publ_facts (spNoWill (spEndC σ c) c) (cW (gCl (spEndC σ c) c)) (cB (gCl (spEndC σ c) c) 2) c h36
    have sb := (SB_publ (spNoWill (spEndC σ c) c) (cW (gCl (spEndC σ c) c)) (cB (gCl (spEndC σ c) c) 2) c).1
    refine ⟨PX_of h hF (fun c' => ?_) ?_ ?_ (fun c' hc' => ?_) ?_, fun i i0 i1 i2 i4 i6 i8 => ?_, ?_⟩
    · obtain ⟨m, hm, em⟩ := f1 c'
      refine ⟨m, by omega, ?_⟩
      rw [em, (noWill_x (spEndC σ c) c c').1, (endC_x σ c c').1]
    · rw [f2 14 (by omega) (by omega) (by omega) (by omega) (by omega)]
      show tot (gSc (spEndC σ c)) 6 14 = _
      rw [tot_ne _ (by omega), es]
    · rw [f5]
      refine publ_re ?_ wp wx
      show ReP (gRe (spEndC σ c))
      rw [er]; exact h.2.2.2.1
    · exact WiP_of (hW0 c' hc') (fun e => (noWill_x (spEndC σ c) c c').2.2.1 (by rw [← (sb c').1]; exact e)) ((sb c').2.1.trans (noWill_x (spEndC σ c) c c').2.1)
    · rw [(sb 5).1]
      show cB (if 5 = c then uB (gCl (spEndC σ c) c) 1 false else gCl (spEndC σ c) 5) 0 = false
      rw [if_neg hc5, endC_o σ hc5]; exact h.2.2.2.2.2
    · rw [f2 i i0 i1 i2 i4 i8]
      show tot (gSc (spEndC σ c)) 6 i = _
      rw [tot_ne _ i6, es]
    · rw [(sb c).1, (noWill_x (spEndC σ c) c c).2.2.2]; exact e3
  · rw [if_neg hw] at hF ⊢
    refine ⟨PX_of h hF (fun c' => ⟨0, by omega, by rw [(endC_x σ c c').1, add_w0]⟩) (by rw [es]) (by rw [er]; exact h.2.2.2.1) hW0 (by rw [endC_o σ hc5]; exact h.2.2.2.2.2), fun i _ _ _ _ _ _ => by rw [es], e3⟩
/-- a client that isn't connected connects -/
theorem conn_facts {k : Nat} {σ : Sg} {c : Nat} (clean : Bool) (h : PX k σ) (hS : SI σ) (hP : Pe σ) (hc : c < 6) (hc5 : 5 ≠ c) (hoff : cB (gCl σ c) 0 = false) : PX (k + 1) (spConn σ c clean).2 ∧ (spConn σ c clean).1 = (!clean && cB (gCl σ c) 3) ∧ ssV (gCl (spConn σ c clean).2 c) = (if clean = true then nW 3 else nW 2) ∧ (∀ i, i ≠ 1 → i ≠ 2 → i ≠ 4 → i ≠ 8 → gSc (spConn σ c clean).2 i = gSc σ i) ∧ (cL (gCl (spConn σ c clean).2 c) 3).1 ≤ (if (spConn σ c clean).1 = true then 6 else 0) := by
  have hF := fun c' => (NL_conn σ c clean c').1
  have p1 : ∀ c', cI (gCl (cnPre σ c clean) c') 0 = cI (gCl σ c') 0 ∧ cB (gCl (cnPre σ c clean) c') 1 = cB (gCl σ c') 1 ∧ cW (gCl (cnPre σ c clean) c') = cW (gCl σ c') := fun c' => by
    unfold cnPre
    split
    · obtain ⟨a, b, d, _⟩ := remove_x σ c c'; exact ⟨a, b, d⟩
    · exact ⟨rfl, rfl, rfl⟩
  have p2 : gSc (cnPre σ c clean) = gSc σ ∧ gRe (cnPre σ c clean) = gRe σ := by
    unfold cnPre; split <;> exact ⟨rfl, rfl⟩
  have p3 : cB (gCl (cnPre σ c clean) c) 3 = (!clean && cB (gCl σ c) 3) := by
    unfold cnPre
    cases clean with
    | false => rw [if_neg (fun q => by cases q.1)]; simp
    | true =>
      cases h3 : cB (gCl σ c) 3 with
      | true => rw [if_pos ⟨rfl, rfl⟩, (remove_3 σ c).1]; simp
      | false => rw [if_neg (fun q => by cases q.2), h3]; simp
  have hW1 : ∀ c', c' < 6 → WiP (gCl (cnPre σ c clean) c') := fun c' hc' => WiP_of (h.2.2.2.2.1 c' hc') (fun e => by rw [← (p1 c').2.1]; exact e) (p1 c').2.2
  unfold spConn at hF ⊢
  by_cases hex : cB (gCl (cnPre σ c clean) c) 3 = true
  · rw [if_pos hex] at hF ⊢
    rw [hex] at p3
    have hcl : clean = false := by cases clean with
      | false => rfl
      | true => simp at p3
    have h3 : cB (gCl σ c) 3 = true := by rw [hcl] at p3; simpa using p3.symm
    have epre : cnPre σ c clean = σ := by unfold cnPre; rw [if_neg (fun q => by rw [hcl] at q; cases q.1)]
    have h4 := hP c hc h3 hoff
    have l5 : (cL (gCl σ c) 1).1 ≤ 5 := (hS.1.2 c hc).2.1.2.1
    have sP := spPend_same 8 (spResN (cL (uB (gCl σ c) 0 true) 1).1 0 (gSc σ, uB (gCl σ c) 0 true))
    have sR := spResN_same (cL (uB (gCl σ c) 0 true) 1).1 0 (gSc σ, uB (gCl σ c) 0 true)
    have q := (PrG_resN (cL (uB (gCl σ c) 0 true) 1).1 0 (gSc σ, uB (gCl σ c) 0 true)).trans (PrG_pend 8 _)
    rw [epre] at hF ⊢
    have hB : cB (cnRes (gSc σ, uB (gCl σ c) 0 true)).2 = cB (uB (gCl σ c) 0 true) := sP.1.trans sR.1
    have hWw : cW (cnRes (gSc σ, uB (gCl σ c) 0 true)).2 = cW (gCl σ c) := sP.2.1.trans sR.2.1
    have hL3 : cL (cnRes (gSc σ, uB (gCl σ c) 0 true)).2 3 = cL (gCl σ c) 3 := sP.2.2.1.trans sR.2.2.1
    have b1 : cB (uB (gCl σ c) 0 true) 1 = cB (gCl σ c) 1 := by simp (disch := omega) only [uB_B, uB_I, uB_F, uB_W, uB_K, uB_N, uB_L, uI_B, uI_I, uI_F, uI_W, uI_K, uI_N, uI_L, uF_B, uF_I, uF_F, uF_W, uF_K, uF_N, uF_L, uW_B, uW_I, uW_F, uW_W, uW_K, uW_N, uW_L, uK_B, uK_I, uK_F, uK_W, uK_K, uK_N, uK_L, uN_B, uN_I, uN_F, uN_W, uN_K, uN_N, uN_L, uL_B, uL_I, uL_F, uL_W, uL_K, uL_N, uL_L, fset_ne]
    have b0 : cB (uB (gCl σ c) 0 true) 0 = true := by simp (disch := omega) only [uB_B, uB_I, uB_F, uB_W, uB_K, uB_N, uB_L, uI_B, uI_I, uI_F, uI_W, uI_K, uI_N, uI_L, uF_B, uF_I, uF_F, uF_W, uF_K, uF_N, uF_L, uW_B, uW_I, uW_F, uW_W, uW_K, uW_N, uW_L, uK_B, uK_I, uK_F, uK_W, uK_K, uK_N, uK_L, uN_B, uN_I, uN_F, uN_W, uN_K, uN_N, uN_L, uL_B, uL_I, uL_F, uL_W, uL_K, uL_N, uL_L, fset_eq]
    have b3 : cB (uB (gCl σ c) 0 true) 3 = cB (gCl σ c) 3 := by simp (disch := omega) only [uB_B, uB_I, uB_F, uB_W, uB_K, uB_N, uB_L, uI_B, uI_I, uI_F, uI_W, uI_K, uI_N, uI_L, uF_B, uF_I, uF_F, uF_W, uF_K, uF_N, uF_L, uW_B, uW_I, uW_F, uW_W, uW_K, uW_N, uW_L, uK_B, uK_I, uK_F, uK_W, uK_K, uK_N, uK_L, uN_B, uN_I, uN_F, uN_W, uN_K, uN_N, uN_L, uL_B, uL_I, uL_F, uL_W, uL_K, uL_N, uL_L, fset_ne]
    have b4 : cB (uB (gCl σ c) 0 true) 4 = cB (gCl σ c) 4 := by simp (disch := omega) only [uB_B, uB_I, uB_F, uB_W, uB_K, uB_N, uB_L, uI_B, uI_I, uI_F, uI_W, uI_K, uI_N, uI_L, uF_B, uF_I, uF_F, uF_W, uF_K, uF_N, uF_L, uW_B, uW_I, uW_F, uW_W, uW_K, uW_N, uW_L, uK_B, uK_I, uK_F, uK_W, uK_K, uK_N, uK_L, uN_B, uN_I, uN_F, uN_W, uN_K, uN_N, uN_L, uL_B, uL_I, uL_F, uL_W, uL_K, uL_N, uL_L, fset_ne]
    have hl : (cL (uB (gCl σ c) 0 true) 1).1 = (cL (gCl σ c) 1).1 := rfl
    refine ⟨PX_of h hF (fun c' => ?_) ?_ h.2.2.2.1 (fun c' hc' => ?_) (by show cB (gCl (putG σ c (cnRes (gSc σ, uB (gCl σ c) 0 true))) 5) 0 = false; rw [gCl_put, if_neg hc5]; exact h.2.2.2.2.2), ?_, ?_, fun i i1 i2 i4 i8 => q.2 i i2 i4 i8, ?_⟩
    · show ∃ m, m ≤ 100 ∧ cI (gCl (putG σ c (cnRes (gSc σ, uB (gCl σ c) 0 true))) c') 0 = _
      rw [gCl_put]
      by_cases e : c' = c
      · subst e
        rw [if_pos rfl]
        obtain ⟨m, hm, em⟩ := q.1
        exact ⟨m, by omega, em⟩
      · rw [if_neg e]; exact ⟨0, by omega, (add_w0 _).symm⟩
    · exact q.2 14 (by omega) (by omega) (by omega)
    · show WiP (gCl (putG σ c (cnRes (gSc σ, uB (gCl σ c) 0 true))) c')
      rw [gCl_put]
      by_cases e : c' = c
      · subst e
        rw [if_pos rfl]
        exact WiP_of (h.2.2.2.2.1 c' hc') (fun e => by rw [hB, b1] at e; exact e) hWw
      · rw [if_neg e]; exact h.2.2.2.2.1 c' hc'
    · rw [hcl, h3]; rfl
    · show ssV (gCl (putG σ c (cnRes (gSc σ, uB (gCl σ c) 0 true))) c) = _
      rw [gCl_put, if_pos rfl, hcl]
      unfold ssV
      rw [hB, b3, b0, b4, h3, h4]; rfl
    · show (cL (gCl (putG σ c (cnRes (gSc σ, uB (gCl σ c) 0 true))) c) 3).1 ≤ _
      rw [gCl_put, if_pos rfl, hL3, if_pos rfl]
      exact (hS.1.2 c hc).2.1.2.2.2
  · rw [if_neg hex] at hF ⊢
    have hex0 : cB (gCl (cnPre σ c clean) c) 3 = false := by simpa using hex
    rw [hex0] at p3
    have n1 : cB (cnNew (gCl (cnPre σ c clean) c) clean) 1 = cB (gCl (cnPre σ c clean) c) 1 := by simp (disch := omega) only [cnNew, spClear, uB_B, uB_I, uB_F, uB_W, uB_K, uB_N, uB_L, uI_B, uI_I, uI_F, uI_W, uI_K, uI_N, uI_L, uF_B, uF_I, uF_F, uF_W, uF_K, uF_N, uF_L, uW_B, uW_I, uW_F, uW_W, uW_K, uW_N, uW_L, uK_B, uK_I, uK_F, uK_W, uK_K, uK_N, uK_L, uN_B, uN_I, uN_F, uN_W, uN_K, uN_N, uN_L, uL_B, uL_I, uL_F, uL_W, uL_K, uL_N, uL_L, fset_ne]
    have n0 : cB (cnNew (gCl (cnPre σ c clean) c) clean) 0 = true := by simp (disch := omega) only [cnNew, spClear, uB_B, uB_I, uB_F, uB_W, uB_K, uB_N, uB_L, uI_B, uI_I, uI_F, uI_W, uI_K, uI_N, uI_L, uF_B, uF_I, uF_F, uF_W, uF_K, uF_N, uF_L, uW_B, uW_I, uW_F, uW_W, uW_K, uW_N, uW_L, uK_B, uK_I, uK_F, uK_W, uK_K, uK_N, uK_L, uN_B, uN_I, uN_F, uN_W, uN_K, uN_N, uN_L, uL_B, uL_I, uL_F, uL_W, uL_K, uL_N, uL_L, fset_ne, fset_eq]
    have n3 : cB (cnNew (gCl (cnPre σ c clean) c) clean) 3 = true := by simp (disch := omega) only [cnNew, spClear, uB_B, uB_I, uB_F, uB_W, uB_K, uB_N, uB_L, uI_B, uI_I, uI_F, uI_W, uI_K, uI_N, uI_L, uF_B, uF_I, uF_F, uF_W, uF_K, uF_N, uF_L, uW_B, uW_I, uW_F, uW_W, uW_K, uW_N, uW_L, uK_B, uK_I, uK_F, uK_W, uK_K, uK_N, uK_L, uN_B, uN_I, uN_F, uN_W, uN_K, uN_N, uN_L, uL_B, uL_I, uL_F, uL_W, uL_K, uL_N, uL_L, fset_ne, fset_eq]
    have n4 : cB (cnNew (gCl (cnPre σ c clean) c) clean) 4 = clean := by simp (disch := omega) only [cnNew, spClear, uB_B, uB_I, uB_F, uB_W, uB_K, uB_N, uB_L, uI_B, uI_I, uI_F, uI_W, uI_K, uI_N, uI_L, uF_B, uF_I, uF_F, uF_W, uF_K, uF_N, uF_L, uW_B, uW_I, uW_F, uW_W, uW_K, uW_N, uW_L, uK_B, uK_I, uK_F, uK_W, uK_K, uK_N, uK_L, uN_B, uN_I, uN_F, uN_W, uN_K, uN_N, uN_L, uL_B, uL_I, uL_F, uL_W, uL_K, uL_N, uL_L, fset_ne, fset_eq]
    have nI : cI (cnNew (gCl (cnPre σ c clean) c) clean) 0 = cI (gCl (cnPre σ c clean) c) 0 := by simp (disch := omega) only [cnNew, spClear, uB_B, uB_I, uB_F, uB_W, uB_K, uB_N, uB_L, uI_B, uI_I, uI_F, uI_W, uI_K, uI_N, uI_L, uF_B, uF_I, uF_F, uF_W, uF_K, uF_N, uF_L, uW_B, uW_I, uW_F, uW_W, uW_K, uW_N, uW_L, uK_B, uK_I, uK_F, uK_W, uK_K, uK_N, uK_L, uN_B, uN_I, uN_F, uN_W, uN_K, uN_N, uN_L, uL_B, uL_I, uL_F, uL_W, uL_K, uL_N, uL_L, fset_ne]
    have nL3 : (cL (cnNew (gCl (cnPre σ c clean) c) clean) 3).1 = 0 := by
      have := (NL_clear (uB (gCl (cnPre σ c clean) c) 0 true)).2
      simp only [cnNew, uB_B, uB_I, uB_F, uB_W, uB_K, uB_N, uB_L, uI_B, uI_I, uI_F, uI_W, uI_K, uI_N, uI_L, uF_B, uF_I, uF_F, uF_W, uF_K, uF_N, uF_L, uW_B, uW_I, uW_F, uW_W, uW_K, uW_N, uW_L, uK_B, uK_I, uK_F, uK_W, uK_K, uK_N, uK_L, uN_B, uN_I, uN_F, uN_W, uN_K, uN_N, uN_L, uL_B, uL_I, uL_F, uL_W, uL_K, uL_N, uL_L]; exact this
    refine ⟨PX_of h hF (fun c' => ⟨0, by omega, ?_⟩) (by show gSc (cnPre σ c clean) 14 = _; rw [p2.1]) (by show ReP (gRe (cnPre σ c clean)); rw [p2.2]; exact h.2.2.2.1) (fun c' hc' => ?_) ?_, p3, ?_, fun i _ _ _ _ => by show gSc (cnPre σ c clean) i = _; rw [p2.1], ?_⟩
    · rw [add_w0]
      show cI (gCl (putG (cnPre σ c clean) c (gSc (cnPre σ c clean), cnNew (gCl (cnPre σ c clean) c) clean)) c') 0 = _
      rw [gCl_put]
      by_cases e : c' = c
      · subst e; rw [if_pos rfl]; exact nI.trans (p1 c').1
      · rw [if_neg e]; exact (p1 c').1
    · show WiP (gCl (putG (cnPre σ c clean) c (gSc (cnPre σ c clean), cnNew (gCl (cnPre σ c clean) c) clean)) c')
      rw [gCl_put]
      by_cases e : c' = c
      · subst e
        rw [if_pos rfl]
        exact WiP_of (hW1 c' hc') (fun e => by rw [n1] at e; exact e) rfl
      · rw [if_neg e]; exact hW1 c' hc'
    · show cB (gCl (putG (cnPre σ c clean) c (gSc (cnPre σ c clean), cnNew (gCl (cnPre σ c clean) c) clean)) 5) 0 = false
      rw [gCl_put, if_neg hc5]
      have : cB (gCl (cnPre σ c clean) 5) 0 = cB (gCl σ 5) 0 := by
        unfold cnPre
        split
        · exact (remove_x σ c 5).2.2.2
        · rfl
      rw [this]; exact h.2.2.2.2.2
    · show ssV (gCl (putG (cnPre σ c clean) c (gSc (cnPre σ c clean), cnNew (gCl (cnPre σ c clean) c) clean)) c) = _
      rw [gCl_put, if_pos rfl]
      unfold ssV
      rw [n3, n0, n4]
      cases clean <;> rfl
    · show (cL (gCl (putG (cnPre σ c clean) c (gSc (cnPre σ c clean), cnNew (gCl (cnPre σ c clean) c) clean)) c) 3).1 ≤ _
      rw [gCl_put, if_pos rfl, nL3]; exact Nat.zero_le _
