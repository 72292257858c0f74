/-! SUBSCRIPTIONS CHANGE: what always holds -/
theorem shares_lt {σ : Sg} {c : Nat} (hS : SI σ) (hc : c < 6) (hn : (cL (gCl σ c) 3).1 < 6) (h36 : (gSh σ).length ≤ 36) : (gSh σ).length < 36 := by
  apply Classical.byContradiction
  intro hlt
  have hl : (gSh σ).length = 36 := by omega
  have ex : ∀ i : Nat, ∃ v : Nat, i < 36 → v < 36 ∧ v ≠ 6 * c + (cL (gCl σ c) 3).1 ∧ suKey ((cL (gCl σ (v / 6)) 3).2 (v % 6)) = shKey ((gSh σ).getD i shD) := by
    intro i
    by_cases hi : i < 36
    · have hx := shAt_get (l := gSh σ) (h := i) (by omega)
      obtain ⟨m1, m2, m3⟩ := hS.2.2.1.1 _ hx
      obtain ⟨y, hy⟩ := List.exists_mem_of_ne_nil _ m3
      have y6 := m1 y hy
      obtain ⟨j, hj, hk⟩ := ((hS.2.2.2.1 y y6).1 _ hx).mp hy
      have j6 : (cL (gCl σ y) 3).1 ≤ 6 := (hS.1.2 y y6).2.1.2.2.2
      refine ⟨6 * y + j, fun _ => ⟨by omega, ?_, ?_⟩⟩
      · intro e
        have e1 : y = c := by omega
        subst e1; omega
      · rw [show (6 * y + j) / 6 = y by omega, show (6 * y + j) % 6 = j by omega]; exact hk
    · exact ⟨0, fun h => absurd h hi⟩
  obtain ⟨f, hf⟩ := Classical.axiomOfChoice ex
  obtain ⟨i, j, a1, a2, a3⟩ := pigeon 35 (fun i => if f i = 35 then 6 * c + (cL (gCl σ c) 3).1 else f i) (fun i hi => by
    have := hf i (by omega)
    show (if f i = 35 then 6 * c + (cL (gCl σ c) 3).1 else f i) < 35
    split <;> omega)
  obtain ⟨b1, b2, b3⟩ := hf i (by omega)
  obtain ⟨d1, d2, d3⟩ := hf j (by omega)
  have e : f i = f j := by
    have a3' : (if f i = 35 then 6 * c + (cL (gCl σ c) 3).1 else f i) = (if f j = 35 then 6 * c + (cL (gCl σ c) 3).1 else f j) := a3
    split at a3' <;> split at a3' <;> omega
  rw [e] at b3
  have k : shKey ((gSh σ).getD i shD) = shKey ((gSh σ).getD j shD) := b3.symm.trans d3
  have hi' : i < (gSh σ).length := by omega
  have hj' : j < (gSh σ).length := by omega
  rw [gd_in _ _ hi', gd_in _ _ hj'] at k
  have hd := hS.2.2.1.2.2
  unfold ShDi at hd
  have k' : ((gSh σ).map shKey)[i]'(by rw [List.length_map]; exact hi') = ((gSh σ).map shKey)[j]'(by rw [List.length_map]; exact hj') := by
    rw [List.getElem_map, List.getElem_map]; exact k
  have := (List.getElem_inj hd).mp k'
  omega
theorem GI_L3 {g : GS} (h : GI g) (l : Ls Row) (hl : l.1 ≤ 6) (hex : cB g.2 3 = true) : GI (g.1, uL g.2 3 l) := by
  obtain ⟨h1, ⟨l1, l2, l3, l4⟩, h3, h4, h5, h6, h7, h8, h9, h10⟩ := h
  unfold GI lim1
  simp (disch := omega) only [uB_B, uB_I, uB_F, uB_W, uB_K, uB_N, uB_L, uI_B, uI_I, uI_F, uI_W, uI_K, uI_N, uI_L, uF_B, uF_I, uF_F, uF_W, uF_K, uF_N, uF_L, uW_B, uW_I, uW_F, uW_W, uW_K, uW_N, uW_L, uK_B, uK_I, uK_F, uK_W, uK_K, uK_N, uK_L, uN_B, uN_I, uN_F, uN_W, uN_K, uN_N, uN_L, uL_B, uL_I, uL_F, uL_W, uL_K, uL_N, uL_L, fset_ne, fset_eq]
  exact ⟨h1, ⟨l1, l2, l3, hl⟩, h3, h4, h5, h6, h7, h8, h9, fun e => absurd (hex.symm.trans e) (by decide)⟩
/-- one client's subscriptions and the shares change -/
theorem SI_L3 {σ : Sg} {c : Nat} {u : Ls Row} {l : List Sh} (h : SI σ) (hc : c < 6) (hex : cB (gCl σ c) 3 = true) (hu : u.1 ≤ 6) (h1 : SubOk u) (h2 : SubDi u) (h3 : ShG l) (h4 : CC l u c) (h5 : CE l u) (h6 : ∀ c', c' < 6 → c' ≠ c → CC l (cL (gCl σ c') 3) c' ∧ CE l (cL (gCl σ c') 3)) : SI (uSh (putG σ c (gSc σ, uL (gCl σ c) 3 u)) l) := by
  obtain ⟨⟨q0, q1⟩, q2, q3, q4, q5, q6, q7⟩ := h
  have ecl : ∀ c', gCl (uSh (putG σ c (gSc σ, uL (gCl σ c) 3 u)) l) c' = if c' = c then uL (gCl σ c) 3 u else gCl σ c' := fun c' => rfl
  have e3 : cL (uL (gCl σ c) 3 u) 3 = u := by rw [uL_L, fset_eq]
  refine ⟨⟨q0, fun c' hc' => ?_⟩, fun c' hc' => ?_, h3, fun c' hc' => ?_, q5, q6, fun c' hc' => ?_⟩
  · show GI (gSc σ, gCl (uSh (putG σ c _) l) c')
    rw [ecl]
    by_cases e : c' = c
    · subst e; rw [if_pos rfl]; exact GI_L3 (q1 c' hc') u hu hex
    · rw [if_neg e]; exact q1 c' hc'
  · rw [ecl]
    by_cases e : c' = c
    · subst e; rw [if_pos rfl, e3]; exact ⟨h1, h2⟩
    · rw [if_neg e]; exact q2 c' hc'
  · rw [ecl]
    by_cases e : c' = c
    · subst e; rw [if_pos rfl, e3]; exact ⟨h4, h5⟩
    · rw [if_neg e]; exact h6 c' hc' e
  · rw [ecl]
    by_cases e : c' = c
    · subst e; rw [if_pos rfl]
      have := q7 c' hc'
      unfold WiOk at this ⊢
      simp only [uB_B, uB_I, uB_F, uB_W, uB_K, uB_N, uB_L, uI_B, uI_I, uI_F, uI_W, uI_K, uI_N, uI_L, uF_B, uF_I, uF_F, uF_W, uF_K, uF_N, uF_L, uW_B, uW_I, uW_F, uW_W, uW_K, uW_N, uW_L, uK_B, uK_I, uK_F, uK_W, uK_K, uK_N, uK_L, uN_B, uN_I, uN_F, uN_W, uN_K, uN_N, uN_L, uL_B, uL_I, uL_F, uL_W, uL_K, uL_N, uL_L]; exact this
    · rw [if_neg e]; exact q7 c' hc'
def shOf (l : List Sh) (r : Row) (c : Nat) : List Sh := if r.2 1 = nW 0 then l else shJoin l r.1 (r.2 1) c
def spSubNew (σ : Sg) (c : Nat) (r : Row) : Sg := uSh (putG σ c (gSc σ, uL (gCl σ c) 3 (lpush (cL (gCl σ c) 3) r))) (shOf (gSh σ) r c)
def spSubSet (σ : Sg) (c k : Nat) (g o : Int32) : Sg := putG σ c (gSc σ, uL (gCl σ c) 3 (lset (cL (gCl σ c) 3) k (((cL (gCl σ c) 3).2 k).1, fset (fset ((cL (gCl σ c) 3).2 k).2 2 g) 3 o)))
def okS (r : Row) : Prop := okTx r.1 ∧ (∃ n, n ≤ 3 ∧ r.2 1 = nW n) ∧ (∃ n, n ≤ 2 ∧ r.2 2 = nW n) ∧ ∃ n, n ≤ 7 ∧ r.2 3 = nW n
theorem SubOk_push {u : Ls Row} {r : Row} (h : SubOk u) (hr : okS r) : SubOk (lpush u r) := by
  intro j hj
  rcases (lpush_at u r).mp hj with h1 | rfl
  · rw [lpush_lo u r h1]; exact h j h1
  · rw [lpush_hi]; exact hr
theorem SubDi_push {u : Ls Row} {r : Row} (h : SubDi u) (hn : ∀ j, j < u.1 → suKey (u.2 j) ≠ suKey r) : SubDi (lpush u r) := by
  intro i j hi hj e1 e2
  rcases (lpush_at u r).mp hi with h1 | rfl
  · rcases (lpush_at u r).mp hj with h2 | rfl
    · rw [lpush_lo u r h1, lpush_lo u r h2] at e1 e2; exact h i j h1 h2 e1 e2
    · rw [lpush_lo u r h1, lpush_hi] at e1 e2
      exact absurd (show suKey (u.2 i) = suKey r by unfold suKey; rw [e1, e2]) (hn i h1)
  · rcases (lpush_at u r).mp hj with h2 | rfl
    · rw [lpush_lo u r h2, lpush_hi] at e1 e2
      exact absurd (show suKey (u.2 j) = suKey r by unfold suKey; rw [e1, e2]) (hn j h2)
    · rfl
theorem join_ok {σ : Sg} {c : Nat} {r : Row} (h : SI σ) (hc : c < 6) (hr : okS r) (hn : ∀ j, j < (cL (gCl σ c) 3).1 → suKey ((cL (gCl σ c) 3).2 j) ≠ suKey r) (hg : r.2 1 ≠ nW 0) : ShG (shJoin (gSh σ) r.1 (r.2 1) c) ∧ ∀ k, shAt (gSh σ) r.1 (r.2 1) = some k → ((gSh σ).getD k shD).2.2.length < 6 := by
  obtain ⟨o1, ⟨n, n1, n2⟩, _⟩ := hr
  have n0 : 1 ≤ n := by
    apply Classical.byContradiction
    intro hh; exact hg (by rw [n2]; congr 1; omega)
  have hno : ∀ x ∈ gSh σ, shKey x = (r.1, r.2 1) → c ∉ x.2.2 := by
    intro x hx hk hm
    obtain ⟨j, h1, h2⟩ := ((h.2.2.2.1 c hc).1 x hx).mp hm
    exact hn j h1 (h2.trans hk)
  refine ⟨ShG_join h.2.2.1 hc o1 ⟨n, n0, n1, n2⟩ hno, fun k hk => ?_⟩
  obtain ⟨h1, h2, h3⟩ := shAt_some hk
  have hx := shAt_get h1
  obtain ⟨m1, m2, m3⟩ := h.2.2.1.1 _ hx
  exact nodup6 m1 m2 hc (hno _ hx (by unfold shKey; rw [h2, h3]))
theorem SI_subNew {σ : Sg} {c : Nat} {r : Row} (h : SI σ) (hc : c < 6) (hex : cB (gCl σ c) 3 = true) (hn6 : (cL (gCl σ c) 3).1 < 6) (hr : okS r) (hn : ∀ j, j < (cL (gCl σ c) 3).1 → suKey ((cL (gCl σ c) 3).2 j) ≠ suKey r) : SI (spSubNew σ c r) := by
  unfold spSubNew shOf
  have hS2 := h.2.1 c hc
  have hS4 := h.2.2.2.1
  split
  · rename_i h0
    exact SI_L3 h hc hex (by simp only [lpush]; omega) (SubOk_push hS2.1 hr) (SubDi_push hS2.2 hn) h.2.2.1 (CC_push0 h.2.2.1.2.1 h0 (hS4 c hc).1) (CE_push (hS4 c hc).2 (fun e => absurd h0 e)) (fun c' hc' _ => hS4 c' hc')
  · rename_i h0
    have hG := (join_ok h hc hr hn h0).1
    refine SI_L3 h hc hex (by simp only [lpush]; omega) (SubOk_push hS2.1 hr) (SubDi_push hS2.2 hn) hG (CC_join h.2.2.1 (hS4 c hc).1 hn) (CE_push (CE_join (hS4 c hc).2) (fun _ => ?_)) (fun c' hc' e => ⟨CC_join_other h.2.2.1 h0 e (hS4 c' hc').1 (hS4 c' hc').2, CE_join (hS4 c' hc').2⟩)
    obtain ⟨x, hx, hk, _⟩ := shJoin_new (l := gSh σ) (t := r.1) (gr := r.2 1) (c := c)
    exact ⟨x, hx, hk⟩
theorem set_key {u : Ls Row} {k : Nat} (g o : Int32) (j : Nat) : ((lset u k ((u.2 k).1, fset (fset (u.2 k).2 2 g) 3 o)).2 j).1 = (u.2 j).1 ∧ ((lset u k ((u.2 k).1, fset (fset (u.2 k).2 2 g) 3 o)).2 j).2 1 = (u.2 j).2 1 := by
  simp only [lset]
  by_cases e : j = k
  · subst e; rw [if_pos rfl]
    exact ⟨rfl, by simp (disch := omega) only [fset_ne]⟩
  · rw [if_neg e]; exact ⟨rfl, rfl⟩
theorem SI_subSet {σ : Sg} {c k : Nat} {g o : Int32} (h : SI σ) (hc : c < 6) (hk : k < (cL (gCl σ c) 3).1) (hg : ∃ n, n ≤ 2 ∧ g = nW n) (ho : ∃ n, n ≤ 7 ∧ o = nW n) : SI (spSubSet σ c k g o) := by
  have hex : cB (gCl σ c) 3 = true := by
    cases e : cB (gCl σ c) 3 with
    | true => rfl
    | false =>
      have h0 : (cL (gCl σ c) 3).1 = 0 := ((h.1.2 c hc).2.2.2.2.2.2.2.2.2 e).2.2.1
      omega
  have hS2 := h.2.1 c hc
  have hS4 := h.2.2.2.1
  have l6 : (cL (gCl σ c) 3).1 ≤ 6 := (h.1.2 c hc).2.1.2.2.2
  have ky : ∀ j, suKey ((lset (cL (gCl σ c) 3) k (((cL (gCl σ c) 3).2 k).1, fset (fset ((cL (gCl σ c) 3).2 k).2 2 g) 3 o)).2 j) = suKey ((cL (gCl σ c) 3).2 j) := fun j => by
    have := set_key (u := cL (gCl σ c) 3) (k := k) g o j
    unfold suKey; rw [this.1, this.2]
  have := SI_L3 (u := lset (cL (gCl σ c) 3) k (((cL (gCl σ c) 3).2 k).1, fset (fset ((cL (gCl σ c) 3).2 k).2 2 g) 3 o)) (l := gSh σ) h hc hex l6 ?_ ?_ h.2.2.1 ?_ ?_ (fun c' hc' _ => hS4 c' hc')
  · exact this
  · intro j hj
    have hj' : j < (cL (gCl σ c) 3).1 := hj
    have a := hS2.1 j hj'
    have sk := set_key (u := cL (gCl σ c) 3) (k := k) g o j
    rw [sk.1, sk.2]
    refine ⟨a.1, a.2.1, ?_⟩
    simp only [lset]
    by_cases e : j = k
    · subst e; rw [if_pos rfl]
      simp (disch := omega) only [fset_ne, fset_eq]
      exact ⟨hg, ho⟩
    · rw [if_neg e]; exact a.2.2
  · intro i j hi hj e1 e2
    have ski := set_key (u := cL (gCl σ c) 3) (k := k) g o i
    have skj := set_key (u := cL (gCl σ c) 3) (k := k) g o j
    rw [ski.1, skj.1] at e1
    rw [ski.2, skj.2] at e2
    exact hS2.2 i j hi hj e1 e2
  · intro x hx
    rw [(hS4 c hc).1 x hx]
    constructor
    · rintro ⟨j, h1, h2⟩; exact ⟨j, h1, by rw [ky]; exact h2⟩
    · rintro ⟨j, h1, h2⟩; exact ⟨j, h1, by rw [ky] at h2; exact h2⟩
  · intro j hj hgj
    have sk := set_key (u := cL (gCl σ c) 3) (k := k) g o j
    rw [sk.2] at hgj
    rw [ky]
    exact (hS4 c hc).2 j hj hgj
theorem CE_leave {l : List Sh} {u : Ls Row} {c c' h : Nat} (hh : h < l.length) (hG : ShG l) (hne : c' ≠ c) (hc' : CC l u c') (hE : CE l u) : CE (shLeave l h c) u := by
  intro j hj hg
  obtain ⟨x, hx, hk⟩ := hE j hj hg
  have hm : c' ∈ x.2.2 := (hc' x hx).mpr ⟨j, hj, hk.symm⟩
  rw [shLeave_at hh]
  rw [take_drop_at l shD hh, List.mem_append, List.mem_cons] at hx
  rcases hx with hx | hx | hx
  · exact ⟨x, List.mem_append.mpr (Or.inl (List.mem_append.mpr (Or.inl hx))), hk⟩
  · have hm2 : c' ∈ (l.getD h shD).2.2.erase c := by rw [← hx]; exact (List.mem_erase_of_ne hne).mpr hm
    refine ⟨((l.getD h shD).1, (l.getD h shD).2.1, (l.getD h shD).2.2.erase c), ?_, by rw [← hk, hx]; rfl⟩
    rw [if_neg (fun e => by rw [e] at hm2; cases hm2)]
    exact List.mem_append.mpr (Or.inl (List.mem_append.mpr (Or.inr List.mem_cons_self)))
  · exact ⟨x, List.mem_append.mpr (Or.inr hx), hk⟩
