/-! PUBLISHES -/
theorem ne_add1 (x : Int32) : ¬ x = x + nW 1 := fun h => by
  have h2 : x + nW 1 = x + nW 0 := h.symm.trans (add_w0 x).symm
  exact absurd ((Int32.add_right_inj x).mp h2) (by decide)
theorem pubBy_B (σ : Sg) (c g id : Nat) (ret : Bool) (pay : Int32) (t : Txt) (c' : Nat) : cB (gCl (spPubBy σ c g id ret pay t).2 c') = cB (gCl σ c') := by
  unfold spPubBy
  by_cases hd : g = 2 ∧ cK (gCl σ c) id = true
  · rw [if_pos hd]
    obtain ⟨b1, _, b3⟩ := ack_f (uSc σ (tot (gSc σ) 3)) c g id
    exact b3 c'
  · rw [if_neg hd]
    obtain ⟨b1, _, b3⟩ := ack_f (spPubl σ (msg t (nW g) pay (nW 0)) ret c).1 c g id
    have sb := (SB_publ σ (msg t (nW g) pay (nW 0)) ret c).1
    exact (b3 c').trans (sb c').1
theorem law_fin {s : Bool × Sg} {k n : Nat} {M : Mem} {A : Wh} {L : Nat} (xs : Nat → Int32) (hL : L ≤ 260) (h : Jw s k n M A) {c g id j : Nat} (hj : j < 9000) (hc : c < 6) (hg : g ≤ 2) (hid : 1 ≤ id ∧ id ≤ 50) (hon : cB (gCl (oS A) c) 0 = true) (hK : g = 2 → cK (gCl (oS A) c) id = true) : Rt s (k + 2) n (f_L_publishes_J307 L xs (nW j) 0 (nW c) (nW g) (nW id) (nW 1) (nW 1) M) := by
  have a1 : ¬ (nW 1 &&& nW 1) = nW 0 := by decide
  obtain ⟨u, hu, eu⟩ := pick_ok (L := L) xs hL (j := j + 2) (m := 2) (by omega) (by omega) (by omega)
  by_cases h2 : g < 2
  · have l2 : nW g < nW 2 := by rw [nW_lt (by omega) (by omega)]; exact h2
    refine (h.rt (k := k + 2) (n := n) (by omega) (by omega)).of ?_
    simp only [f_L_publishes_J307, nW_lit, a1, l2, ↓reduceIte]
  · have l2 : ¬ nW g < nW 2 := by rw [nW_lt (by omega) (by omega)]; exact h2
    by_cases hu0 : nW u = nW 0
    · refine (h.rt (k := k + 2) (n := n) (by omega) (by omega)).of ?_
      simp only [f_L_publishes_J307, nW_lit, a1, l2, ↓reduceIte, nW_add, eu, bindP, hu0]
    · obtain ⟨M', σ, e1, J⟩ := Cq_release h.1 hc hid.1 hid.2 hon
      rw [hK (by omega), zI_t] at e1
      refine ((h.s1 J).rt (k := k + 2) (n := n) (by omega) (by omega)).of ?_
      simp only [f_L_publishes_J307, nW_lit, a1, l2, ↓reduceIte, nW_add, eu, bindP, hu0, f_L_release, e1, bindH]
theorem law_publishes {s : Bool × Sg} {k n : Nat} {M : Mem} {A : Wh} {L : Nat} (xs : Nat → Int32) (hL : L ≤ 260) (h : Jw s k n M A) (hk : k < 480) (hn : n ≤ 80000) {c g j : Nat} (hj : j < 9000) (hc : c < 5) (hg : g ≤ 2) : Rt s (k + 6) (n + 16) (f_L_publishes L xs (nW j) 0 (nW c) (nW g) M) := by
  have hc6 : c < 6 := by omega
  have t4 : ¬ nW 1 = nW 0 := by decide
  obtain ⟨v, hv, ev⟩ := pick_ok (L := L) xs hL (j := j + 3) (m := 16) (by omega) (by omega) (by omega)
  obtain ⟨u, hu, eu⟩ := pick_ok (L := L) xs hL (j := j + 4) (m := 5) (by omega) (by omega) (by omega)
  obtain ⟨r3, hr3, er3⟩ := pick_ok (L := L) xs hL (j := j + 5) (m := 3) (by omega) (by omega) (by omega)
  obtain ⟨p, hp, ep⟩ := pick_ok (L := L) xs hL (j := j + 5) (m := 30) (by omega) (by omega) (by omega)
  have ef := sFl_ok (w := 1) hv
  have hi := flN_lt 1 (by omega) v hv
  obtain ⟨t, ht⟩ := top_t hv
  obtain ⟨M1, e1, J1⟩ := Cq_type h.1 h.2.1 hi
  obtain ⟨M2, e2, J2⟩ := Cq_audience (A := A) J1 (by omega) ht hc6
  have W2 : Jw s k (n + 3) M2 (eA A) := h.e0 J2
  have q0 := X_ss h.1.1 hc6
  have hos := on_ss h.1 hc6
  have q1 := X_total J2.1 (i := 1) (by omega)
  have q2 := X_total J2.1 (i := 0) (by omega)
  have q3 := X_total J2.1 (i := 3) (by omega)
  have q4 := X_len J2.1 hc6 (w := 3) (by omega)
  rw [show nW (lnV (gCl (oS (eA A)) c) 3) = nW (kcnt (cK (gCl (oS A) c)) 50) from rfl] at q4
  have q1 : f_X11_total 0 (nW 1) M2 = some (.inl (gSc (oS A) 1), M2) := q1
  have q2 : f_X11_total 0 (nW 0) M2 = some (.inl (gSc (oS A) 0), M2) := q2
  have q3 : f_X11_total 0 (nW 3) M2 = some (.inl (gSc (oS A) 3), M2) := q3
  obtain ⟨M3, e3, J3⟩ := Cq_type W2.1 W2.2.1 hi
  have id1 : 1 ≤ 1 + u ∧ 1 + u ≤ 50 := ⟨by omega, by omega⟩
  have h36 : (gSh (oS A)).length ≤ 36 := h.1.sh
  -- the publication, whatever it keeps
  have main : ∀ ret : Bool, Rt s (k + 6) (n + 16) (f_L_publishes_J117 L xs (nW j) 0 (nW c) (nW g) (zI (cB (gCl (oS A) c) 0)) (nW (1 + u)) (nW (auH (oS A) t (gSh (oS A)).length 0 (auC (oS A) t c 6 0 0))) (gSc (oS A) 1) (gSc (oS A) 0) (gSc (oS A) 3) (nW (kcnt (cK (gCl (oS A) c)) 50)) (zI ret) (nW (1 + u)) (nW g) (nW c) (SCR + 16 + flN' 1 v) 0 M2) := fun ret => by
    cases hon : cB (gCl (oS A) c) 0 with
    | false =>
      obtain ⟨M4, e4, J4⟩ := Cq_publishOff (A := eA A) (g := g) (id := 1 + u) (p := p) ret J3 (by omega) ht hc6 hg id1 (by omega) hon
      have J4 : Jv k (n + 3 + 4) M4 (eA A) := J4
      have r1 := X_total J4.1 (i := 1) (by omega)
      have r2 := X_total J4.1 (i := 0) (by omega)
      have r1 : f_X11_total 0 (nW 1) M4 = some (.inl (gSc (oS A) 1), M4) := r1
      have r2 : f_X11_total 0 (nW 0) M4 = some (.inl (gSc (oS A) 0), M4) := r2
      refine ((h.e0 J4).rt (k := k + 6) (n := n + 16) (by omega) (by omega)).of ?_
      simp only [f_L_publishes_J117, nW_lit, nW_add, ep, bindP, f_L_send, e3, t4, ↓reduceIte, f_L_publish, e4, bindH, x23, x21, zI_f, bindX, r1, r2]
    | true =>
      obtain ⟨M4, e4, J4⟩ := Cq_publish (A := eA A) (g := g) (id := 1 + u) (p := p) ret J3 (by omega) (by omega) ht hc6 hg id1 (by omega) hon
      have sh := pubBy_shows (σ := oS A) (c := c) (g := g) (id := 1 + u) (p := p) (ret := ret) (t := t) h36 id1
      have hB := pubBy_B (oS A) c g (1 + u) ret (nW p) t c
      have e4 : f_X11_publish 0 (nW c) (nW g) (nW (1 + u)) (zI ret) (nW p) M3 = some (.inl (nW (spPubBy (oS A) c g (1 + u) ret (nW p) t).1), M4) := e4
      have J4 : Jv (k + 2) (n + 3 + 3) M4 (pS (eA A) (spPubBy (oS A) c g (1 + u) ret (nW p) t).2) := J4
      have r1 := X_total J4.1 (i := 1) (by omega)
      have r2 := X_total J4.1 (i := 0) (by omega)
      have r3 := X_total J4.1 (i := 3) (by omega)
      have r4 := X_len J4.1 hc6 (w := 3) (by omega)
      have W4 : Jw s (k + 2) (n + 3 + 3) M4 (pS (eA A) (spPubBy (oS A) c g (1 + u) ret (nW p) t).2) := h.e1 J4
      generalize hq : spPubBy (oS A) c g (1 + u) ret (nW p) t = q at *
      rw [show nW (lnV (gCl (oS (pS (eA A) q.2)) c) 3) = nW (kcnt (cK (gCl q.2 c)) 50) from rfl] at r4
      rw [show gSc (oS (pS (eA A) q.2)) 1 = gSc q.2 1 from rfl] at r1
      rw [show gSc (oS (pS (eA A) q.2)) 0 = gSc q.2 0 from rfl] at r2
      rw [show gSc (oS (pS (eA A) q.2)) 3 = gSc q.2 3 from rfl] at r3
      have on4 : cB (gCl (oS (pS (eA A) q.2)) c) 0 = true := (congrFun hB 0).trans hon
      rcases sh with ⟨g2, k2, s1, s2, s3, s4, s5, s6⟩ | ⟨s1, s2, s3, s4, s5, s6⟩
      · have fin := law_fin (L := L) xs hL W4 hj hc6 hg id1 on4 (fun _ => s6)
        rw [s3] at r1
        rw [s2] at r2
        rw [s4] at r3
        rw [s5] at r4
        rw [s1] at e4
        subst g2
        obtain ⟨MF, AF, eF, WF⟩ := fin
        refine ⟨MF, AF, ?_, WF.mono (by omega) (by omega)⟩
        simp only [f_L_publishes_J117, nW_lit, nW_add, ep, bindP, f_L_send, e3, t4, ↓reduceIte, f_L_publish, e4, bindH, zI_t, bindX, r3, f_L_publishes_J186, r2, r4, f_L_publishes_J257, r1, add_w0, f_L_publishes_J302, eF]
      · have fin := law_fin (L := L) xs hL W4 hj hc6 hg id1 on4 s6
        rw [s3] at r1
        rw [s2] at r2
        rw [s4] at r3
        rw [s5] at r4
        rw [s1] at e4 r1
        obtain ⟨MF, AF, eF, WF⟩ := fin
        refine ⟨MF, AF, ?_, WF.mono (by omega) (by omega)⟩
        by_cases g2 : g = 2
        · subst g2
          rw [if_pos rfl] at r4
          simp only [f_L_publishes_J117, nW_lit, nW_add, ep, bindP, f_L_send, e3, t4, ↓reduceIte, f_L_publish, e4, bindH, zI_t, bindX, r3, ne_add1, f_L_publishes_J186, r2, r4, f_L_publishes_J257, r1, f_L_publishes_J298, f_L_publishes_J302, eF]
        · have n2 : ¬ nW g = nW 2 := by rw [nW_inj (by omega) (by omega)]; exact g2
          rw [if_neg g2] at r4
          simp only [f_L_publishes_J117, nW_lit, nW_add, ep, bindP, f_L_send, e3, t4, ↓reduceIte, f_L_publish, e4, bindH, zI_t, bindX, r3, ne_add1, f_L_publishes_J186, r2, r4, f_L_publishes_J257, r1, n2, f_L_publishes_J298, f_L_publishes_J302, eF]
  have ret := main (decide (nW r3 = nW 0))
  have e62 : f_L_publishes_J62 L xs (nW j) 0 (nW c) (nW g) (zI (cB (gCl (oS A) c) 0)) (SCR + 16 + flN' 1 v) (nW (1 + u)) (nW (auH (oS A) t (gSh (oS A)).length 0 (auC (oS A) t c 6 0 0))) M2 = f_L_publishes_J117 L xs (nW j) 0 (nW c) (nW g) (zI (cB (gCl (oS A) c) 0)) (nW (1 + u)) (nW (auH (oS A) t (gSh (oS A)).length 0 (auC (oS A) t c 6 0 0))) (gSc (oS A) 1) (gSc (oS A) 0) (gSc (oS A) 3) (nW (kcnt (cK (gCl (oS A) c)) 50)) (zI (decide (nW r3 = nW 0))) (nW (1 + u)) (nW g) (nW c) (SCR + 16 + flN' 1 v) 0 M2 := by
    simp only [f_L_publishes_J62, nW_lit, nW_add, q1, q2, q3, q4, bindX, er3, bindP]
    by_cases h0 : nW r3 = nW 0
    · rw [decide_eq_true h0, zI_t]
      simp only [eq_true h0, ↓reduceIte]
    · rw [decide_eq_false h0, zI_f]
      simp only [eq_false h0, ↓reduceIte]
  refine (ret.of e62).of ?_
  have e14 : f_L_publishes L xs (nW j) 0 (nW c) (nW g) M = f_L_publishes_J14 L xs (nW j) 0 (nW c) (nW g) (zI (cB (gCl (oS A) c) 0)) M := by
    simp only [f_L_publishes, nW_lit, q0, bindX]
    cases hon : cB (gCl (oS A) c) 0 with
    | false => simp only [eq_true (hos.mpr hon), ↓reduceIte, zI_f]
    | true =>
      have hn1 : ¬ ssV (gCl (oS A) c) ≤ nW 1 := fun q => by rw [hos.mp q] at hon; exact absurd hon (by decide)
      simp only [eq_false hn1, ↓reduceIte, zI_t]
  rw [e14]
  simp only [f_L_publishes_J14, nW_lit, nW_add, ev, bindP, ef, Option.bind_some, eu, e1, t4, ↓reduceIte, f_L_audience, e2, bindH]
