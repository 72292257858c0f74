/-! PUBLICATION, in the reference -/
theorem nodup_getD {m : List Nat} (hd : m.Nodup) {i j : Nat} (hi : i < j) (hj : j < m.length) : m.getD i 0 ≠ m.getD j 0 := by
  rw [gd_in _ _ (show i < m.length by omega), gd_in _ _ hj]
  exact List.pairwise_iff_getElem.mp hd i j (by omega) hj hi
theorem turn_at {on : Nat → Bool} {m : List Nat} (hd : m.Nodup) (hp : (ffind (fun i => on (m.getD i 0)) m.length 0).getD 0 < m.length) : shTurn on m = m.eraseIdx ((ffind (fun i => on (m.getD i 0)) m.length 0).getD 0) ++ [shPick on m] := by
  have h := erase_at (c := shPick on m) hp rfl (fun j hj => nodup_getD hd hj hp)
  unfold shTurn
  rw [h]
theorem SI_giveC {σ : Sg} {c : Nat} {tx : Txt} {gr pay fl : Int32} (h : SI σ) (hc : c < 6) (hx : topical tx) (hg : ∃ n, n ≤ 2 ∧ gr = nW n) (hne : (cL (gCl σ c) 3).1 ≠ 0) : SI (putG σ c (spGive (getG σ c) (msg tx gr pay fl))) := by
  refine SI_give h hc hx (grade3 hg) ?_
  have := (h.1.2 c hc).2.2.2.2.2.2.2.2.2
  cases e : cB (gCl σ c) 3 with
  | true => rfl
  | false => exact absurd (this e).2.2.1 hne
theorem SI_pub0 {σ : Sg} {r : Row} {ret : Bool} (h : SI σ) (hx : okTx r.1) (htop : topical r.1) (hg : ∃ n, n ≤ 2 ∧ r.2 1 = nW n) : SI (spPub0 σ r ret) := by
  have h1 : SI (uSc (uTa σ (spCount (gTa σ) r.1)) (tot (gSc σ) 0)) := by
    refine SI_tot (σ := uTa σ (spCount (gTa σ) r.1)) ?_ (by omega)
    obtain ⟨a, b, c, d, e, f, g⟩ := h
    exact ⟨a, b, c, d, e, (TaOk_count f hx).1, g⟩
  unfold spPub0
  split
  · obtain ⟨a, b, c, d, e, f, g⟩ := h1
    exact ⟨a, b, c, d, ReOk_retain (l := gRe σ) h.2.2.2.2.1 hx htop hg, f, g⟩
  · exact h1
