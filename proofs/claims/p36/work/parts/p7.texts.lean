/-! THE CALLS WITH A TEXT -/
def eA (A : Wh) : Wh := ([], -nW 1, A.2.2)
theorem Cq_text {k n : Nat} {M : Mem} {A : Wh} {l : List Nat} {t : Txt} (wild : Bool) (h : Jv k n M (l, A.2)) (hn : n ≤ 90000) (hp : (parse wild l).1 = some t) {c : Nat} (hc : c < 6) : ∃ x M5, (∀ F : Nat → Mem → Option ((Int32 ⊕ Nat) × Mem), bindP (f_X11_takeBuffer 0 M) (fun v2 M1 => bindX (f_X11_requireClient (nW c) M1) (fun _ M3 => bindX (f_X11_readText 0 v2 (zI wild) M3) F)) = F x M5) ∧ TextR M5 x t ∧ Jv k (n + 3) M5 (eA A) := by
  obtain ⟨M1, e1, F1, B1, hb⟩ := c_take h.1
  have G1 := Gk_fr F1 (fun a h => by omega) 0
  have hF1 : Fz M1 := G1.2.2.2.2 h.2.2.1
  have hN1 : mN M1 ≤ 100000 := by have := h.2.2.2.2.1; rw [F1.2.1.1]; omega
  obtain ⟨M2, B2, F2, hrd⟩ := c_read (l := l) wild B1 hF1 hN1 hb h.1.2.1.2.2.2.2
  have G2 := Gk_fr F2 (fun a h => by omega) 0
  rw [hp] at hrd
  obtain ⟨M3, e3, G3, T3, B3⟩ := hrd
  rw [(parse_ok hp).1] at B3
  refine ⟨mN M1, M3, fun F => ?_, T3, ?_⟩
  · rw [e1]
    simp only [bindP, c_cl hc, bindX]
    show bindX (f_X11_readText 0 (nW l.length) (zI wild) M1) F = _
    rw [e3]; rfl
  · have := Jv_gk h ((G1.trans G2).trans G3) B3 (WI_clr h.2.1 (-nW 1)) rfl rfl
    simp only [Nat.zero_add, Nat.add_zero] at this
    exact this
/-! publish -/
theorem ack_facts (σ : Sg) (c g id : Nat) : (∀ i, i ≠ 8 → gSc (spAck σ c g id) i = gSc σ i) ∧ cK (gCl (spAck σ c g id) c) = (if g = 2 then fset (cK (gCl σ c)) id true else cK (gCl σ c)) ∧ (∀ c', ∃ m, m ≤ 1 ∧ cI (gCl (spAck σ c g id) c') 0 = cI (gCl σ c') 0 + nW m) ∧ gRe (spAck σ c g id) = gRe σ ∧ ∀ c', cW (gCl (spAck σ c g id) c') = cW (gCl σ c') := by
  unfold spAck
  by_cases h0 : g = 0
  · rw [if_pos h0]
    exact ⟨fun _ _ => rfl, by rw [if_neg (by omega)], fun c' => ⟨0, by omega, (add_w0 _).symm⟩, rfl, fun _ => rfl⟩
  · rw [if_neg h0]
    have sm := sign_same (gSc σ, if g = 2 then spKeep (gCl σ c) id else gCl σ c) (nW g) (nW id)
    have q := (PrG_sign (gSc σ, if g = 2 then spKeep (gCl σ c) id else gCl σ c) (nW g) (nW id)).1
    have eK : cK (if g = 2 then spKeep (gCl σ c) id else gCl σ c) = (if g = 2 then fset (cK (gCl σ c)) id true else cK (gCl σ c)) := by split <;> rfl
    have eI : cI (if g = 2 then spKeep (gCl σ c) id else gCl σ c) = cI (gCl σ c) := by split <;> rfl
    have eW : cW (if g = 2 then spKeep (gCl σ c) id else gCl σ c) = cW (gCl σ c) := by split <;> rfl
    refine ⟨fun i hi => spSend_sc _ _ hi, ?_, fun c' => ?_, rfl, fun c' => ?_⟩
    · rw [gCl_put, if_pos rfl]
      exact (spSend_K _ _).trans eK
    · rw [gCl_put]
      by_cases e : c' = c
      · subst e
        rw [if_pos rfl]
        obtain ⟨m, hm, em⟩ := q
        refine ⟨m, hm, em.trans ?_⟩
        show cI (if g = 2 then spKeep (gCl σ c') id else gCl σ c') 0 + _ = _
        rw [eI]
      · rw [if_neg e]; exact ⟨0, by omega, (add_w0 _).symm⟩
    · rw [gCl_put]
      by_cases e : c' = c
      · subst e; rw [if_pos rfl]; exact sm.2.1.trans eW
      · rw [if_neg e]
theorem pubBy_facts {k : Nat} {σ : Sg} {c g id p : Nat} {ret : Bool} {t : Txt} (h : PX k σ) (h36 : (gSh σ).length ≤ 36) (hp : p ≤ 9999) (ht : t ≠ []) : PX (k + 1) (spPubBy σ c g id ret (nW p) t).2 := by
  unfold spPubBy
  by_cases hd : g = 2 ∧ cK (gCl σ c) id = true
  · rw [if_pos hd]
    obtain ⟨a1, a2, a3, a4, a5⟩ := ack_facts (uSc σ (tot (gSc σ) 3)) c g id
    obtain ⟨b1, _, b3⟩ := ack_f (uSc σ (tot (gSc σ) 3)) c g id
    refine PX_of h (fun c' => (b1 c').1) (fun c' => by obtain ⟨m, hm, em⟩ := a3 c'; exact ⟨m, by omega, em⟩) ?_ (by rw [a4]; exact h.2.2.2.1) (fun c' hc' => WiP_of (h.2.2.2.2.1 c' hc') (fun e => by rw [b3 c'] at e; exact e) (a5 c')) (by rw [b3 5]; exact h.2.2.2.2.2)
    rw [a1 14 (by omega)]
    show tot (gSc σ) 3 14 = _
    exact tot_ne _ (by omega)
  · rw [if_neg hd]
    obtain ⟨a1, a2, a3, a4, a5⟩ := ack_facts (spPubl σ (msg t (nW g) (nW p) (nW 0)) ret c).1 c g id
    obtain ⟨b1, _, b3⟩ := ack_f (spPubl σ (msg t (nW g) (nW p) (nW 0)) ret c).1 c g id
    obtain ⟨f1, f2, f3, f4, f5⟩ := publ_facts σ (msg t (nW g) (nW p) (nW 0)) ret c h36
    have sb := (SB_publ σ (msg t (nW g) (nW p) (nW 0)) ret c).1
    refine PX_of h (fun c' => (b1 c').1.trans (sb c').2.2.2.2) (fun c' => ?_) ?_ ?_ (fun c' hc' => WiP_of (h.2.2.2.2.1 c' hc') (fun e => by rw [b3 c', (sb c').1] at e; exact e) ((a5 c').trans (sb c').2.1)) (by rw [b3 5, (sb 5).1]; exact h.2.2.2.2.2)
    · obtain ⟨m, hm, em⟩ := a3 c'
      obtain ⟨m2, hm2, em2⟩ := f1 c'
      exact ⟨m2 + m, by omega, by rw [em, em2, add_nW]⟩
    · rw [a1 14 (by omega), f2 14 (by omega) (by omega) (by omega) (by omega) (by omega)]
    · rw [a4, f5]
      exact publ_re h.2.2.2.1 ⟨p, hp, rfl⟩ ht
/-- what a publication shows -/
theorem pubBy_shows {σ : Sg} {c g id p : Nat} {ret : Bool} {t : Txt} (h36 : (gSh σ).length ≤ 36) (hid : 1 ≤ id ∧ id ≤ 50) : (g = 2 ∧ cK (gCl σ c) id = true ∧ (spPubBy σ c g id ret (nW p) t).1 = 0 ∧ gSc (spPubBy σ c g id ret (nW p) t).2 0 = gSc σ 0 ∧ gSc (spPubBy σ c g id ret (nW p) t).2 1 = gSc σ 1 ∧ gSc (spPubBy σ c g id ret (nW p) t).2 3 = gSc σ 3 + nW 1 ∧ kcnt (cK (gCl (spPubBy σ c g id ret (nW p) t).2 c)) 50 = kcnt (cK (gCl σ c)) 50 ∧ cK (gCl (spPubBy σ c g id ret (nW p) t).2 c) id = true) ∨ ((spPubBy σ c g id ret (nW p) t).1 = auH σ t (gSh σ).length 0 (auC σ t c 6 0 0) ∧ gSc (spPubBy σ c g id ret (nW p) t).2 0 = gSc σ 0 + nW 1 ∧ gSc (spPubBy σ c g id ret (nW p) t).2 1 = gSc σ 1 + nW (spPubBy σ c g id ret (nW p) t).1 ∧ gSc (spPubBy σ c g id ret (nW p) t).2 3 = gSc σ 3 ∧ kcnt (cK (gCl (spPubBy σ c g id ret (nW p) t).2 c)) 50 = kcnt (cK (gCl σ c)) 50 + (if g = 2 then 1 else 0) ∧ (g = 2 → cK (gCl (spPubBy σ c g id ret (nW p) t).2 c) id = true)) := by
  unfold spPubBy
  by_cases hd : g = 2 ∧ cK (gCl σ c) id = true
  · rw [if_pos hd]
    left
    obtain ⟨a1, a2, _⟩ := ack_facts (uSc σ (tot (gSc σ) 3)) c g id
    have e2 : cK (gCl (spAck (uSc σ (tot (gSc σ) 3)) c g id) c) = cK (gCl σ c) := by
      rw [a2, if_pos hd.1]
      exact fset_self _ _ _ hd.2
    refine ⟨hd.1, hd.2, rfl, ?_, ?_, ?_, by rw [e2], by rw [e2]; exact hd.2⟩
    · rw [a1 0 (by omega)]
      show tot (gSc σ) 3 0 = _
      exact tot_ne _ (by omega)
    · rw [a1 1 (by omega)]
      show tot (gSc σ) 3 1 = _
      exact tot_ne _ (by omega)
    · rw [a1 3 (by omega)]
      show tot (gSc σ) 3 3 = _
      exact tot_eq _ _
  · rw [if_neg hd]
    right
    obtain ⟨a1, a2, _⟩ := ack_facts (spPubl σ (msg t (nW g) (nW p) (nW 0)) ret c).1 c g id
    obtain ⟨f1, f2, f3, f4, f5⟩ := publ_facts σ (msg t (nW g) (nW p) (nW 0)) ret c h36
    have sb := (SB_publ σ (msg t (nW g) (nW p) (nW 0)) ret c).1
    refine ⟨publ_aud σ (msg t (nW g) (nW p) (nW 0)) ret c, ?_, ?_, ?_, ?_, fun h2 => ?_⟩
    · rw [a1 0 (by omega)]; exact f3
    · rw [a1 1 (by omega)]; exact f4
    · rw [a1 3 (by omega)]; exact f2 3 (by omega) (by omega) (by omega) (by omega) (by omega)
    · rw [a2, (sb c).2.2.1]
      by_cases h2 : g = 2
      · rw [if_pos h2, if_pos h2]
        have hk : cK (gCl σ c) id = false := by
          cases hh : cK (gCl σ c) id with
          | false => rfl
          | true => exact absurd ⟨h2, hh⟩ hd
        exact kcnt_put hid.1 hk hid.2
      · rw [if_neg h2, if_neg h2]; rfl
    · rw [a2, if_pos h2]; exact fset_eq _ _ _
theorem SgI_pubP {k : Nat} {σ : Sg} {c g id : Nat} {ret : Bool} {pay : Int32} {x : Txt} (h : SgI k σ) (hc : c < 6) (hg : g ≤ 2) (hon : cB (gCl σ c) 0 = true) (hx : okTx x) (htop : topical x) : SgI (k + 1) (spPubBy σ c g id ret pay x).2 := by
  unfold spPubBy
  by_cases hn : g = 2 ∧ cK (gCl σ c) id = true
  · rw [if_pos hn]
    have h1 : SgI k (uSc σ (tot (gSc σ) 3)) := ⟨SI_tot h.1 (by omega), h.2.1, h.2.2.1, h.2.2.2.1, h.2.2.2.2⟩
    exact (SgI_ack (g := g) (id := id) h1 hc hon).mono (Nat.le_succ _)
  · rw [if_neg hn]
    obtain ⟨b1, b2⟩ := SB_publ σ (msg x (nW g) pay (nW 0)) ret c
    have S1 := SI_publP (r := msg x (nW g) pay (nW 0)) (by' := c) ret h.1 hx htop ⟨g, hg, rfl⟩
    have h1 : SgI (k + 1) (spPubl σ (msg x (nW g) pay (nW 0)) ret c).1 := SgI_of h S1 (Pe_SB h.2.1 b1) b1.nl (by rw [b2]; exact spCount_le _ _)
    have hon' : cB (gCl (spPubl σ (msg x (nW g) pay (nW 0)) ret c).1 c) 0 = true := by rw [(b1 c).1]; exact hon
    exact SgI_ack h1 hc hon'
theorem Jv.sh {k n : Nat} {M : Mem} {A : Wh} (h : Jv k n M A) : (gSh (oS A)).length ≤ 36 := h.1.2.2.2.2.2.2.2.2.1.2.1
theorem Jv.re {k n : Nat} {M : Mem} {A : Wh} (h : Jv k n M A) : (gRe (oS A)).1 ≤ 8 := h.1.2.2.2.2.2.2.2.2.2.1.2.1
theorem ef_publish {M : Mem} {A : Wh} (hB : BrR M A) {c : Nat} (hc : c < 6) (g y : Int32) (b : Bool) (p : Int32) : f_X11_publish 0 (nW c) g y (zI b) p M = bindP (f_X11_takeBuffer 0 M) (fun v2 M1 => bindX (f_X11_requireClient (nW c) M1) (fun _ M3 => bindX (f_X11_readText 0 v2 (zI false) M3) (fun v6 M5 => bindX (f_X11_requireRange g (nW 0) (nW 2) M5) (fun _ M7 => if g = nW 0 then f_X11_publish_J35 0 (nW c) g y (zI b) p v6 M7 else bindX (f_X11_requireRange y (nW 1) (nW 50) M7) (fun _ M9 => f_X11_publish_J35 0 (nW c) g y (zI b) p v6 M9))))) := by
  have k1 := hB.1.1
  obtain ⟨M1, ek, F1, B1, _⟩ := c_take hB
  have cc := c_cl hc M1
  simp only [f_X11_publish, k1, ↓reduceIte, ek, bindP, cc, bindX, c_topic B1.1.1, nW_lit]
  try rfl
theorem rng_pub {g id : Nat} (hg : g ≤ 2) (hid : 1 ≤ id ∧ id ≤ 50) (c : Int32) (b p : Int32) (x : Nat) (M : Mem) : bindX (f_X11_requireRange (nW g) (nW 0) (nW 2) M) (fun _ M7 => if nW g = nW 0 then f_X11_publish_J35 0 c (nW g) (nW id) b p x M7 else bindX (f_X11_requireRange (nW id) (nW 1) (nW 50) M7) (fun _ M9 => f_X11_publish_J35 0 c (nW g) (nW id) b p x M9)) = f_X11_publish_J35 0 c (nW g) (nW id) b p x M := by
  rw [c_rng (Nat.zero_le _) hg (by omega)]
  simp only [bindX]
  rw [c_rng hid.1 hid.2 (by omega)]
  simp only [ite_self]
theorem Cq_publish {k n : Nat} {M : Mem} {A : Wh} {l : List Nat} {t : Txt} {c g id p : Nat} (ret : Bool) (h : Jv k n M (l, A.2)) (hk : k < 500) (hn : n ≤ 90000) (hp : (parse false l).1 = some t) (hc : c < 6) (hg : g ≤ 2) (hid : 1 ≤ id ∧ id ≤ 50) (hpy : p ≤ 9999) (hon : cB (gCl (oS A) c) 0 = true) : ∃ M', f_X11_publish 0 (nW c) (nW g) (nW id) (zI ret) (nW p) M = some (.inl (nW (spPubBy (oS A) c g id ret (nW p) t).1), M') ∧ Jv (k + 2) (n + 3) M' (pS (eA A) (spPubBy (oS A) c g id ret (nW p) t).2) := by
  obtain ⟨x, M5, eF, hx, J5⟩ := Cq_text false h hn hp hc
  obtain ⟨_, _, pne, pok, ptop⟩ := parse_ok hp
  have ptop := ptop rfl
  have hta : (gTa (oS (eA A))).1 < 512 := by have := J5.2.1.1.2.2.2.2; omega
  obtain ⟨M1, e1, F1, R1⟩ := pub_J35 (id := id) (p := nW p) ret J5.1 J5.2.1.1.1 hc hg (fun _ => hid) hx pok ptop hta (inB_of (by omega) (Nat.zero_le _) hpy) hon
  refine ⟨M1, ?_, Jv_S J5 F1 (fun a h => h) R1 (SgI_pubP J5.2.1.1 hc hg hon pok ptop) (by omega) ((pubBy_facts J5.2.2.2.1.1 J5.sh hpy pne).mono (by omega))⟩
  rw [ef_publish h.1 hc, eF, rng_pub hg hid]
  exact e1
theorem Cq_publishOff {k n : Nat} {M : Mem} {A : Wh} {l : List Nat} {t : Txt} {c g id p : Nat} (ret : Bool) (h : Jv k n M (l, A.2)) (hn : n ≤ 90000) (hp : (parse false l).1 = some t) (hc : c < 6) (hg : g ≤ 2) (hid : 1 ≤ id ∧ id ≤ 50) (hpy : p ≤ 9999) (hon : cB (gCl (oS A) c) 0 = false) : ∃ M', f_X11_publish 0 (nW c) (nW g) (nW id) (zI ret) (nW p) M = some (.inr 2, M') ∧ Jv k (n + 4) M' (eA A) := by
  obtain ⟨x, M5, eF, hx, J5⟩ := Cq_text false h hn hp hc
  have cn := c_conn J5.1 hc
  rw [show oS (eA A) = oS A from rfl, hon, if_neg (by decide)] at cn
  refine ⟨xM M5, ?_, Jv_x J5⟩
  rw [ef_publish h.1 hc, eF, rng_pub hg hid]
  have cp := c_rng (i := p) (a := 0) (b := 9999) (Nat.zero_le _) hpy (by omega) M5
  simp only [f_X11_publish_J35, nW_lit, cp, cn, bindX]
/-! audience -/
theorem Cq_audience {k n : Nat} {M : Mem} {A : Wh} {l : List Nat} {t : Txt} {c : Nat} (h : Jv k n M (l, A.2)) (hn : n ≤ 90000) (hp : (parse false l).1 = some t) (hc : c < 6) : ∃ M', f_X11_audience 0 (nW c) M = some (.inl (nW (auH (oS A) t (gSh (oS A)).length 0 (auC (oS A) t c 6 0 0))), M') ∧ Jv k (n + 3) M' (eA A) := by
  obtain ⟨x, M5, eF, hx, J5⟩ := Cq_text false h hn hp hc
  refine ⟨M5, ?_, J5⟩
  have k1 := h.1.1.1
  have ef : f_X11_audience 0 (nW c) M = bindP (f_X11_takeBuffer 0 M) (fun v2 M1 => bindX (f_X11_requireClient (nW c) M1) (fun _ M3 => bindX (f_X11_readText 0 v2 (zI false) M3) (fun v6 M5 => (gR 11 6 0 M5).bind (fun v7 => bindP (f_X7_countAudience v7 (nW c) v6 M5) (fun v9 M8 => some (.inl v9, M8)))))) := by
    obtain ⟨M1, ek, F1, B1, _⟩ := c_take h.1
    have cc := c_cl hc M1
    simp only [f_X11_audience, k1, ↓reduceIte, ek, bindP, cc, bindX, c_topic B1.1.1, nW_lit]
  rw [ef, eF]
  have k2 := (BrR_k J5.1).2.1
  have hSt := J5.1.2.2.2.2.2.2
  have ea := c_au_L5 (σ := oS A) hSt J5.2.1.1.1 hx hc FU 0 0 (by omega) (by simp only [FU]; omega) (by omega)
  rw [Nat.sub_zero] at ea
  have kk := (StR_k hSt).1
  simp only [k2, Option.bind_some, f_X7_countAudience, kk, ↓reduceIte, nW_lit, ea, bindP]
/-! unsubscribe -/
theorem ef_unsub {M : Mem} {A : Wh} (hB : BrR M A) {c : Nat} (hc : c < 6) (gr : Int32) : f_X11_unsubscribe 0 (nW c) gr M = bindP (f_X11_takeBuffer 0 M) (fun v2 M1 => bindX (f_X11_requireClient (nW c) M1) (fun _ M3 => bindX (f_X11_readText 0 v2 (zI true) M3) (fun v6 M5 => bindX (f_X11_requireRange gr (nW 0) (nW 3) M5) (fun _ M7 => bindX (f_X11_requireConnection 0 (nW c) M7) (fun _ M9 => (gR 11 6 0 M9).bind (fun v11 => bindP (f_X7_removeSubscription v11 (nW c) v6 gr M9) (fun v13 M12 => if v13 = nW 0 then some (.inl (nW 0), M12) else some (.inl (nW 1), M12)))))))) := by
  have k1 := hB.1.1
  obtain ⟨M1, ek, F1, B1, _⟩ := c_take hB
  have cc := c_cl hc M1
  simp only [f_X11_unsubscribe, k1, ↓reduceIte, ek, bindP, cc, bindX, c_filter B1.1.1, nW_lit]
  try rfl
theorem drop_x (σ : Sg) (c k c' : Nat) : cI (gCl (spDrop σ c k) c') = cI (gCl σ c') ∧ cW (gCl (spDrop σ c k) c') = cW (gCl σ c') := by
  have e : gCl (spDrop σ c k) c' = if c' = c then uL (gCl σ c) 3 (ldel (cL (gCl σ c) 3) k) else gCl σ c' := rfl
  rw [e]
  by_cases hcc : c' = c
  · subst hcc; rw [if_pos rfl]; exact ⟨rfl, rfl⟩
  · rw [if_neg hcc]; exact ⟨rfl, rfl⟩
theorem Cq_unsub {k n : Nat} {M : Mem} {A : Wh} {l : List Nat} {t : Txt} {c gr : Nat} (h : Jv k n M (l, A.2)) (hn : n ≤ 90000) (hp : (parse true l).1 = some t) (hc : c < 6) (hg : gr ≤ 3) (hon : cB (gCl (oS A) c) 0 = true) : ∃ M' σ r, f_X11_unsubscribe 0 (nW c) (nW gr) M = some (.inl (zI r), M') ∧ Jv (k + 2) (n + 3) M' (pS (eA A) σ) := by
  obtain ⟨x, M5, eF, hx, J5⟩ := Cq_text true h hn hp hc
  have cn := c_conn J5.1 hc
  rw [show oS (eA A) = oS A from rfl, hon, if_pos rfl] at cn
  have cg := c_rng (i := gr) (a := 0) (b := 3) (Nat.zero_le _) hg (by omega) M5
  have k2 := (BrR_k J5.1).2.1
  have hW := J5.2.1
  obtain ⟨M1, e1, F1, R1⟩ := St_unsub (nW gr) zInc J5.1.2.2.2.2.2.2 hW.1.1 hc hx
  have e1 : f_X7_removeSubscription 8 (nW c) x (nW gr) M5 = some (zI (spUnsub (oS A) c t (nW gr)).1, M1) := e1
  have R1 : StR M1 8 (spUnsub (oS A) c t (nW gr)).2 := R1
  have H : SgI (k + 1) (spUnsub (oS A) c t (nW gr)).2 ∧ PX (k + 1) (spUnsub (oS A) c t (nW gr)).2 := by
    unfold spUnsub
    have hX : PX k (oS A) := J5.2.2.2.1.1
    cases hs : subAt (cL (gCl (oS A) c) 3) t (nW gr) with
    | none => exact ⟨hW.1.mono (Nat.le_succ _), hX.mono (Nat.le_succ _)⟩
    | some j =>
      have hj := (subAt_lt hs).1
      exact ⟨⟨SI_drop hW.1.1 hc hj, Pe_B hW.1.2.1 (fun c' _ _ _ => (drop_f _ _ _ _).1), fun c' hc' => by rw [(drop_f _ _ _ _).2]; exact hW.1.2.2.1 c' hc', NeS_drop hW.1.2.2.2.1, Nat.le_succ_of_le hW.1.2.2.2.2⟩, PX_of hX (fun c' => (drop_f _ _ _ _).2) (fun c' => ⟨0, by omega, by rw [(drop_x _ _ _ _).1, add_w0]⟩) rfl hX.2.2.2.1 (fun c' hc' => WiP_of (hX.2.2.2.2.1 c' hc') (fun e => by rw [(drop_f _ _ _ _).1] at e; exact e) (drop_x _ _ _ _).2) (by rw [(drop_f _ _ _ _).1]; exact hX.2.2.2.2.2)⟩
  refine ⟨M1, _, (spUnsub (oS A) c t (nW gr)).1, ?_, Jv_S J5 F1 (fun a h => Or.inr h) R1 H.1 (by omega) (H.2.mono (by omega))⟩
  rw [ef_unsub h.1 hc, eF]
  simp only [cg, cn, bindX, k2, e1, bindP, Option.bind_some, zI_eq0]
  cases (spUnsub (oS A) c t (nW gr)).1 <;> rfl
theorem Cq_unsubOff {k n : Nat} {M : Mem} {A : Wh} {l : List Nat} {t : Txt} {c gr : Nat} (h : Jv k n M (l, A.2)) (hn : n ≤ 90000) (hp : (parse true l).1 = some t) (hc : c < 6) (hg : gr ≤ 3) (hon : cB (gCl (oS A) c) 0 = false) : ∃ M', f_X11_unsubscribe 0 (nW c) (nW gr) M = some (.inr 2, M') ∧ Jv k (n + 4) M' (eA A) := by
  obtain ⟨x, M5, eF, hx, J5⟩ := Cq_text true h hn hp hc
  have cn := c_conn J5.1 hc
  rw [show oS (eA A) = oS A from rfl, hon, if_neg (by decide)] at cn
  have cg := c_rng (i := gr) (a := 0) (b := 3) (Nat.zero_le _) hg (by omega) M5
  refine ⟨xM M5, ?_, Jv_x J5⟩
  rw [ef_unsub h.1 hc, eF]
  simp only [cg, cn, bindX]
/-! setWill -/
theorem ef_will {M : Mem} {A : Wh} (hB : BrR M A) {c : Nat} (hc : c < 6) (g : Int32) (b : Bool) (p : Int32) : f_X11_setWill 0 (nW c) g (zI b) p M = bindP (f_X11_takeBuffer 0 M) (fun v2 M1 => bindX (f_X11_requireClient (nW c) M1) (fun _ M3 => bindX (f_X11_readText 0 v2 (zI false) M3) (fun v6 M5 => bindX (f_X11_requireRange g (nW 0) (nW 2) M5) (fun _ M7 => bindX (f_X11_requireRange p (nW 0) (nW 9999) M7) (fun _ M9 => bindX (f_X11_requireConnection 0 (nW c) M9) (fun _ M11 => (gR 11 6 0 M11).bind (fun v13 => (gR 7 1 v13 M11).bind (fun v14 => (aR 18 v14 (nW c) M11).bind (fun v15 => (gI 0 1 v15 M11).bind (fun v16 => (pZ 0 1 v15 (nW 1) M11).bind (fun M17 => (pZ 0 2 v15 (zI b) M17).bind (fun M18 => (gR 0 3 v15 M18).bind (fun v19 => (f_X1_fill v19 v6 g p M18).bind (fun M20 => if v16 = nW 0 then some (.inl (nW 0), M20) else some (.inl (nW 1), M20))))))))))))))) := by
  have k1 := hB.1.1
  obtain ⟨M1, ek, F1, B1, _⟩ := c_take hB
  have cc := c_cl hc M1
  simp only [f_X11_setWill, k1, ↓reduceIte, ek, bindP, cc, bindX, c_topic B1.1.1, nW_lit]
  try rfl
theorem Cq_will {k n : Nat} {M : Mem} {A : Wh} {l : List Nat} {t : Txt} {c g p : Nat} (b : Bool) (h : Jv k n M (l, A.2)) (hn : n ≤ 90000) (hp : (parse false l).1 = some t) (hc : c < 5) (hg : g ≤ 2) (hpy : p ≤ 9999) (hon : cB (gCl (oS A) c) 0 = true) : ∃ M' σ r, f_X11_setWill 0 (nW c) (nW g) (zI b) (nW p) M = some (.inl (zI r), M') ∧ Jv (k + 2) (n + 3) M' (pS (eA A) σ) := by
  have hc6 : c < 6 := by omega
  obtain ⟨x, M5, eF, hx, J5⟩ := Cq_text false h hn hp hc6
  obtain ⟨_, _, pne, pok, ptop⟩ := parse_ok hp
  have ptop := ptop rfl
  have hB5 := J5.1
  have hW := J5.2.1
  have hon5 : cB (gCl (oS (eA A)) c) 0 = true := hon
  have k2 := (BrR_k hB5).2.1
  have hSt := hB5.2.2.2.2.2.2
  have cg := c_rng (i := g) (a := 0) (b := 2) (Nat.zero_le _) hg (by omega) M5
  have cp := c_rng (i := p) (a := 0) (b := 9999) (Nat.zero_le _) hpy (by omega) M5
  have cn := c_conn hB5 hc6
  rw [hon5, if_pos rfl] at cn
  obtain ⟨r1, r2, r3, r4, r5⟩ := BrR_c hB5 hc6
  have hC := zInc.c hc6
  have hCl := hSt.2.1 c hc6
  obtain ⟨M1, e1, F1, R1⟩ := Cl_B true hC hCl (show 1 < 3 by omega)
  obtain ⟨M2, e2, F2, R2⟩ := Cl_B b hC R1 (show 2 < 3 by omega)
  obtain ⟨M3, e3, F3, R3⟩ := Cl_will (nW g) (nW p) hC R2 ((hx.gr F1.gr).gr F2.gr)
  rw [zI_t] at e1
  have g1 : gI 0 1 (8 + 2 + 60 * c) M5 = some (zI (cB (gCl (oS (eA A)) c) 1)) := by
    have h2 : mI M5 (8 + 2 + 60 * c) 1 = zI (cB (gCl (oS (eA A)) c) 1) := hCl.1.2.2.1
    simp only [gI, hCl.1.1.1, ↓reduceIte, h2]
  have g3 : gR 0 3 (8 + 2 + 60 * c) M2 = some (8 + 2 + 60 * c + 1) := by
    simp only [gR, R2.1.1.1, ↓reduceIte, R2.1.1.2.1]
  have F123 : Fr (fun a => 8 + 2 + 60 * c ≤ a ∧ a < 8 + 2 + 60 * c + 60) M5 M3 := ((F1.mono (fun a h => by omega)).trans (F2.mono (fun a h => by omega))).trans (F3.mono (fun a h => by omega))
  obtain ⟨H1, F1'⟩ := St_cl hSt hc6 F123 (fun a h => h) R3
  have H1' : StR M3 8 (putG (oS (eA A)) c (gSc (oS (eA A)), wlC (gCl (oS (eA A)) c) b t (nW g) (nW p))) := H1
  obtain ⟨f0, f3, f4, f1, f2, fW, fL, fN, fK, fI, fF⟩ := wlC_f (gCl (oS (eA A)) c) b t (nW g) (nW p)
  have S1 : SI (putG (oS (eA A)) c (gSc (oS (eA A)), wlC (gCl (oS (eA A)) c) b t (nW g) (nW p))) := SI_put hW.1.1 hc6 (GI_will (hW.1.1.1.2 c hc6) b t (nW g) (nW p)) (fun _ _ _ => rfl) (by show cL (wlC (gCl (oS (eA A)) c) b t (nW g) (nW p)) 3 = _; rw [fL]) (fun _ => by
    show okTx (cW (wlC (gCl (oS (eA A)) c) b t (nW g) (nW p))).1 ∧ topical (cW (wlC (gCl (oS (eA A)) c) b t (nW g) (nW p))).1 ∧ ∃ n, n ≤ 2 ∧ (cW (wlC (gCl (oS (eA A)) c) b t (nW g) (nW p))).2 1 = nW n
    rw [fW]
    exact ⟨pok, ptop, g, hg, rfl⟩)
  have NLx : NL (oS (eA A)) (putG (oS (eA A)) c (gSc (oS (eA A)), wlC (gCl (oS (eA A)) c) b t (nW g) (nW p))) := NL_put fF (Or.inl (by show cL (wlC (gCl (oS (eA A)) c) b t (nW g) (nW p)) 3 = _; rw [fL]))
  have hX : PX k (oS (eA A)) := J5.2.2.2.1.1
  have hP : PX (k + 1) (putG (oS (eA A)) c (gSc (oS (eA A)), wlC (gCl (oS (eA A)) c) b t (nW g) (nW p))) := by
    refine PX_of hX (fun c' => (NLx c').1) (fun c' => ⟨0, by omega, ?_⟩) rfl hX.2.2.2.1 (fun c' hc' => ?_) ?_
    · rw [gCl_put, add_w0]
      by_cases e : c' = c
      · subst e; rw [if_pos rfl]
        show cI (wlC (gCl (oS (eA A)) c') b t (nW g) (nW p)) 0 = _
        rw [fI]
      · rw [if_neg e]
    · rw [gCl_put]
      by_cases e : c' = c
      · subst e; rw [if_pos rfl]
        intro _
        show (∃ n, n ≤ 9999 ∧ (cW (wlC (gCl (oS (eA A)) c') b t (nW g) (nW p))).2 2 = nW n) ∧ (cW (wlC (gCl (oS (eA A)) c') b t (nW g) (nW p))).1 ≠ []
        rw [fW]
        exact ⟨⟨p, hpy, rfl⟩, pne⟩
      · rw [if_neg e]; exact hX.2.2.2.2.1 c' hc'
    · rw [gCl_put, if_neg (by omega)]; exact hX.2.2.2.2.2
  refine ⟨M3, _, (cB (gCl (oS (eA A)) c) 1), ?_, Jv_S J5 F1' (fun a h => Or.inr h) H1' (SgI_of hW.1 S1 (Pe_put hW.1.2.1 (fun _ h0 => ?_)) NLx (Nat.le_succ _)) (by omega) (hP.mono (by omega))⟩
  · rw [ef_will h.1 hc6, eF]
    simp only [cg, cp, cn, bindX, k2, r1, r2, g1, e1, e2, g3, e3, Option.bind_some, zI_eq0]
    cases cB (gCl (oS (eA A)) c) 1 <;> rfl
  · have h0 : cB (wlC (gCl (oS (eA A)) c) b t (nW g) (nW p)) 0 = false := h0
    rw [f0] at h0
    exact absurd (hon5.symm.trans h0) (by decide)
theorem Cq_willOff {k n : Nat} {M : Mem} {A : Wh} {l : List Nat} {t : Txt} {c g p : Nat} (b : Bool) (h : Jv k n M (l, A.2)) (hn : n ≤ 90000) (hp : (parse false l).1 = some t) (hc : c < 6) (hg : g ≤ 2) (hpy : p ≤ 9999) (hon : cB (gCl (oS A) c) 0 = false) : ∃ M', f_X11_setWill 0 (nW c) (nW g) (zI b) (nW p) M = some (.inr 2, M') ∧ Jv k (n + 4) M' (eA A) := by
  obtain ⟨x, M5, eF, hx, J5⟩ := Cq_text false h hn hp hc
  have cg := c_rng (i := g) (a := 0) (b := 2) (Nat.zero_le _) hg (by omega) M5
  have cp := c_rng (i := p) (a := 0) (b := 9999) (Nat.zero_le _) hpy (by omega) M5
  have cn := c_conn J5.1 hc
  rw [show oS (eA A) = oS A from rfl, hon, if_neg (by decide)] at cn
  refine ⟨xM M5, ?_, Jv_x J5⟩
  rw [ef_will h.1 hc, eF]
  simp only [cg, cp, cn, bindX]
/-! subscribe -/
theorem ef_sub {M : Mem} {A : Wh} (hB : BrR M A) {c : Nat} (hc : c < 6) (g gr o : Int32) : f_X11_subscribe 0 (nW c) g gr o M = bindP (f_X11_takeBuffer 0 M) (fun v2 M1 => bindX (f_X11_requireClient (nW c) M1) (fun _ M3 => bindX (f_X11_readText 0 v2 (zI true) M3) (fun v6 M5 => bindX (f_X11_requireRange g (nW 0) (nW 2) M5) (fun _ M7 => bindX (f_X11_requireRange gr (nW 0) (nW 3) M7) (fun _ M9 => bindX (f_X11_requireRange o (nW 0) (nW 7) M9) (fun _ M11 => if gr = nW 0 then f_X11_subscribe_J57 0 (nW c) g gr o v6 M11 else if (o &&& nW 1) = nW 0 then f_X11_subscribe_J57 0 (nW c) g gr o v6 M11 else some (.inr 1, xM M11))))))) := by
  have k1 := hB.1.1
  obtain ⟨M1, ek, F1, B1, _⟩ := c_take hB
  have cc := c_cl hc M1
  simp only [f_X11_subscribe, k1, ↓reduceIte, ek, bindP, cc, bindX, c_filter B1.1.1, nW_lit]
  try rfl
theorem ef_subJ {g gr o : Nat} (hg : g ≤ 2) (hq : gr ≤ 3) (ho : o ≤ 7) (hb : nW gr = nW 0 ∨ nW o &&& nW 1 = nW 0) (c : Int32) (x : Nat) (M5 : Mem) : (bindX (f_X11_requireRange (nW g) (nW 0) (nW 2) M5) (fun _ M7 => bindX (f_X11_requireRange (nW gr) (nW 0) (nW 3) M7) (fun _ M9 => bindX (f_X11_requireRange (nW o) (nW 0) (nW 7) M9) (fun _ M11 => if nW gr = nW 0 then f_X11_subscribe_J57 0 c (nW g) (nW gr) (nW o) x M11 else if (nW o &&& nW 1) = nW 0 then f_X11_subscribe_J57 0 c (nW g) (nW gr) (nW o) x M11 else some (.inr 1, xM M11))))) = f_X11_subscribe_J57 0 c (nW g) (nW gr) (nW o) x M5 := by
  have cg := c_rng (i := g) (a := 0) (b := 2) (Nat.zero_le _) hg (by omega) M5
  have cq := c_rng (i := gr) (a := 0) (b := 3) (Nat.zero_le _) hq (by omega) M5
  have co := c_rng (i := o) (a := 0) (b := 7) (Nat.zero_le _) ho (by omega) M5
  simp only [cg, cq, co, bindX]
  by_cases h0 : nW gr = nW 0
  · rw [if_pos h0]
  · rw [if_neg h0, if_pos (hb.resolve_left h0)]
theorem PX_tail {k : Nat} {σ σ1 : Sg} {c j : Nat} {gr o : Int32} {b : Bool} (h : PX k σ) (h8 : (gRe σ1).1 ≤ 8) (hf : ∀ c', cB (gCl σ1 c') = cB (gCl σ c') ∧ cF (gCl σ1 c') = cF (gCl σ c')) (hw : ∀ c', cW (gCl σ1 c') = cW (gCl σ c')) (h0 : Pr 0 σ σ1) : PX (k + 1) (spTail σ1 c j gr o b) := by
  obtain ⟨t1, t2⟩ := tail_f σ1 c j gr o b
  have hP : Pr 8 σ1 (spTail σ1 c j gr o b) := by
    unfold spTail
    split
    · exact (Pr_GR _ _ _ _ _ _).mono h8
    · exact (Pr.refl _).mono (by omega)
  exact PX_Pr h (h0.trans hP) (by omega) (fun c' => ((t1 c').2.2.2.2).trans (hf c').2) (fun c' => ⟨(t1 c').1.trans (hf c').1, (t1 c').2.1.trans (hw c')⟩)
theorem Cq_subscribe {k n : Nat} {M : Mem} {A : Wh} {l : List Nat} {t : Txt} {c g gr o : Nat} (h : Jv k n M (l, A.2)) (hn : n ≤ 90000) (hp : (parse true l).1 = some t) (hc : c < 6) (hg : g ≤ 2) (hq : gr ≤ 3) (ho : o ≤ 7) (hb : nW gr = nW 0 ∨ nW o &&& nW 1 = nW 0) (hon : cB (gCl (oS A) c) 0 = true) : (∃ M' σ w, f_X11_subscribe 0 (nW c) (nW g) (nW gr) (nW o) M = some (.inl (nW w), M') ∧ Jv (k + 2) (n + 3) M' (pS (eA A) σ) ∧ (cL (gCl σ c) 3).1 = w ∧ (w = (cL (gCl (oS A) c) 3).1 ∨ w = (cL (gCl (oS A) c) 3).1 + 1)) ∨ (∃ M', f_X11_subscribe 0 (nW c) (nW g) (nW gr) (nW o) M = some (.inr 2, M') ∧ Jv k (n + 4) M' (eA A) ∧ (cL (gCl (oS A) c) 3).1 = 6) := by
  obtain ⟨x, M5, eF, hx, J5⟩ := Cq_text true h hn hp hc
  obtain ⟨_, _, pne, pok, _⟩ := parse_ok hp
  have eG := (ef_sub h.1 hc (nW g) (nW gr) (nW o)).trans ((eF _).trans (ef_subJ hg hq ho hb (nW c) x M5))
  rw [eG]
  have hB5 := J5.1
  have hW : WI k (eA A) := J5.2.1
  have hon5 : cB (gCl (oS (eA A)) c) 0 = true := hon
  have k2 := (BrR_k hB5).2.1
  have hSt := hB5.2.2.2.2.2.2
  have cn := c_conn hB5 hc
  rw [hon5, if_pos rfl] at cn
  obtain ⟨r1, r2, r3, r4, r5⟩ := BrR_c hB5 hc
  have hCl := hSt.2.1 c hc
  have hex := J5.on hc hon5
  have hX : PX k (oS (eA A)) := J5.2.2.2.1.1
  have h8 := J5.re
  have hB0 : (mK M5 0).1 = 11 ∧ mR M5 0 6 = some 8 := ⟨hB5.1.1, hB5.1.2.2.2.2.1⟩
  have okk : okS (mkSu t (nW gr) (nW g) (nW o)) := ⟨pok, ⟨gr, hq, rfl⟩, ⟨g, hg, rfl⟩, ⟨o, ho, rfl⟩⟩
  have epl := X5_placeOf (nW gr) hCl.2.2.2.1 hCl.2.2.2.2.2.1 hx
  have epl : f_X5_placeOf (8 + 2 + 60 * c + 34) x (nW gr) M5 = some (posI (subAt (cL (gCl (oS (eA A)) c) 3) t (nW gr)), M5) := epl
  have l6 : (cL (gCl (oS (eA A)) c) 3).1 ≤ 6 := (hW.1.1.1.2 c hc).2.1.2.2.2
  have BS := B_subscribe (σ := oS (eA A)) (g := nW g) (gr := nW gr) (o := nW o) hB0 hSt hW.1.1 hc hx hex okk
  cases hs : subAt (cL (gCl (oS (eA A)) c) 3) t (nW gr) with
  | some j =>
    have hj := (subAt_lt hs).1
    simp only [spSub, hs] at BS
    obtain ⟨M1, eb, F1, R1, S1⟩ := BS
    rw [hs] at epl
    obtain ⟨fN, ff⟩ := subset_f (g := nW g) (o := nW o) hW.1.2.2.2.1 hj
    obtain ⟨H1, H2⟩ := SgI_sub (c := c) (j := j) (gr := nW gr) (o := nW o) (b := false) hW.1 fN ff rfl S1
    have n0 : nW 0 ≤ nW j := by rw [nW_le (by omega) (by omega)]; omega
    have e3 : cL (gCl (spTail (spSubSet (oS (eA A)) c j (nW g) (nW o)) c j (nW gr) (nW o) false) c) 3 = cL (gCl (spSubSet (oS (eA A)) c j (nW g) (nW o)) c) 3 := spTail_L3 _ _ _ _ _ _
    have e3n : (cL (gCl (spSubSet (oS (eA A)) c j (nW g) (nW o)) c) 3).1 = (cL (gCl (oS (eA A)) c) 3).1 := by
      have : gCl (spSubSet (oS (eA A)) c j (nW g) (nW o)) c = uL (gCl (oS (eA A)) c) 3 (lset (cL (gCl (oS (eA A)) c) 3) j (((cL (gCl (oS (eA A)) c) 3).2 j).1, fset (fset ((cL (gCl (oS (eA A)) c) 3).2 j).2 2 (nW g)) 3 (nW o))) := gCl_putG _ _ _
      rw [this]
      show (fset (cL (gCl (oS (eA A)) c)) 3 _ 3).1 = _
      rw [fset_eq]; rfl
    have hP := PX_tail (c := c) (j := j) (gr := nW gr) (o := nW o) (b := false) hX (σ1 := spSubSet (oS (eA A)) c j (nW g) (nW o)) h8 ff (fun c' => by
      show cW (if c' = c then _ else gCl (oS (eA A)) c') = _
      by_cases e : c' = c
      · subst e; rw [if_pos rfl]; rfl
      · rw [if_neg e]) (Pr_put' ⟨0, Nat.le_refl _, (add_w0 _).symm⟩ (fun _ _ _ _ _ => rfl))
    rw [e3, e3n] at eb
    refine Or.inl ⟨M1, _, _, ?_, Jv_S J5 F1 (fun a h => Or.inr h) R1 H1 (by omega) (hP.mono (by omega)), (congrArg Prod.fst e3).trans e3n, Or.inl rfl⟩
    simp only [f_X11_subscribe_J57, nW_lit, cn, bindX, k2, r1, r2, r4, Option.bind_some, epl, bindP, posI, n0, ↓reduceIte]
    exact eb
  | none =>
    rw [hs] at epl
    have n0 : ¬ nW 0 ≤ -nW 1 := by decide
    by_cases h6 : (cL (gCl (oS (eA A)) c) 3).1 = 6
    · simp only [spSub, hs, h6, ↓reduceIte] at BS
      refine Or.inr ⟨xM M5, ?_, Jv_x J5, h6⟩
      simp only [f_X11_subscribe_J57, nW_lit, cn, bindX, k2, r1, r2, r4, Option.bind_some, epl, bindP, posI, n0, ↓reduceIte]
      exact BS
    · have h6' : (cL (gCl (oS (eA A)) c) 3).1 < 6 := by omega
      simp only [spSub, hs, h6, ↓reduceIte] at BS
      obtain ⟨M1, eb, F1, R1, S1⟩ := BS
      obtain ⟨fN, ff⟩ := subnew_f (c := c) (r := mkSu t (nW gr) (nW g) (nW o)) hW.1.2.2.2.1 pne
      obtain ⟨H1, H2⟩ := SgI_sub (c := c) (j := (cL (gCl (oS (eA A)) c) 3).1) (gr := nW gr) (o := nW o) (b := true) hW.1 fN ff rfl S1
      have e3 : cL (gCl (spTail (spSubNew (oS (eA A)) c (mkSu t (nW gr) (nW g) (nW o))) c (cL (gCl (oS (eA A)) c) 3).1 (nW gr) (nW o) true) c) 3 = cL (gCl (spSubNew (oS (eA A)) c (mkSu t (nW gr) (nW g) (nW o))) c) 3 := spTail_L3 _ _ _ _ _ _
      have e3n : (cL (gCl (spSubNew (oS (eA A)) c (mkSu t (nW gr) (nW g) (nW o))) c) 3).1 = (cL (gCl (oS (eA A)) c) 3).1 + 1 := by
        have : gCl (spSubNew (oS (eA A)) c (mkSu t (nW gr) (nW g) (nW o))) c = uL (gCl (oS (eA A)) c) 3 (lpush (cL (gCl (oS (eA A)) c) 3) (mkSu t (nW gr) (nW g) (nW o))) := gCl_putG _ _ _
        rw [this]
        show (fset (cL (gCl (oS (eA A)) c)) 3 _ 3).1 = _
        rw [fset_eq]; rfl
      have hP := PX_tail (c := c) (j := (cL (gCl (oS (eA A)) c) 3).1) (gr := nW gr) (o := nW o) (b := true) hX (σ1 := spSubNew (oS (eA A)) c (mkSu t (nW gr) (nW g) (nW o))) h8 ff (fun c' => by
        show cW (if c' = c then _ else gCl (oS (eA A)) c') = _
        by_cases e : c' = c
        · subst e; rw [if_pos rfl]; rfl
        · rw [if_neg e]) (Pr_put' (g := (gSc (oS (eA A)), uL (gCl (oS (eA A)) c) 3 (lpush (cL (gCl (oS (eA A)) c) 3) (mkSu t (nW gr) (nW g) (nW o))))) ⟨0, Nat.le_refl _, (add_w0 _).symm⟩ (fun _ _ _ _ _ => rfl))
      rw [e3, e3n] at eb
      refine Or.inl ⟨M1, _, _, ?_, Jv_S J5 F1 (fun a h => Or.inr h) R1 H1 (by omega) (hP.mono (by omega)), (congrArg Prod.fst e3).trans e3n, Or.inr rfl⟩
      simp only [f_X11_subscribe_J57, nW_lit, cn, bindX, k2, r1, r2, r4, Option.bind_some, epl, bindP, posI, n0, ↓reduceIte]
      exact eb
theorem Cq_subscribeOff {k n : Nat} {M : Mem} {A : Wh} {l : List Nat} {t : Txt} {c g gr o : Nat} (h : Jv k n M (l, A.2)) (hn : n ≤ 90000) (hp : (parse true l).1 = some t) (hc : c < 6) (hg : g ≤ 2) (hq : gr ≤ 3) (ho : o ≤ 7) (hb : nW gr = nW 0 ∨ nW o &&& nW 1 = nW 0) (hon : cB (gCl (oS A) c) 0 = false) : ∃ M', f_X11_subscribe 0 (nW c) (nW g) (nW gr) (nW o) M = some (.inr 2, M') ∧ Jv k (n + 4) M' (eA A) := by
  obtain ⟨x, M5, eF, hx, J5⟩ := Cq_text true h hn hp hc
  have eG := (ef_sub h.1 hc (nW g) (nW gr) (nW o)).trans ((eF _).trans (ef_subJ hg hq ho hb (nW c) x M5))
  have cn := c_conn J5.1 hc
  rw [show oS (eA A) = oS A from rfl, hon, if_neg (by decide)] at cn
  refine ⟨xM M5, ?_, Jv_x J5⟩
  rw [eG]
  simp only [f_X11_subscribe_J57, cn, bindX]
/-- option 1 with a group -/
theorem Cq_subscribe1 {k n : Nat} {M : Mem} {A : Wh} {l : List Nat} {t : Txt} (h : Jv k n M (l, A.2)) (hn : n ≤ 90000) (hp : (parse true l).1 = some t) : ∃ M', f_X11_subscribe 0 (nW 0) (nW 0) (nW 1) (nW 1) M = some (.inr 1, M') ∧ Jv k (n + 4) M' (eA A) := by
  obtain ⟨x, M5, eF, hx, J5⟩ := Cq_text (c := 0) true h hn hp (by omega)
  have eG := (ef_sub h.1 (show 0 < 6 by omega) (nW 0) (nW 1) (nW 1)).trans (eF _)
  have cg := c_rng (i := 0) (a := 0) (b := 2) (Nat.zero_le _) (by omega) (by omega) M5
  have cq := c_rng (i := 1) (a := 0) (b := 3) (Nat.zero_le _) (by omega) (by omega) M5
  have co := c_rng (i := 1) (a := 0) (b := 7) (Nat.zero_le _) (by omega) (by omega) M5
  have n1 : ¬ nW 1 = nW 0 := by decide
  have n2 : ¬ nW 1 &&& nW 1 = nW 0 := by decide
  refine ⟨xM M5, ?_, Jv_x J5⟩
  rw [eG]
  simp only [cg, cq, co, bindX, n1, n2, ↓reduceIte]
/-- no such client: the buffer is taken all the same -/
theorem Cq_subscribe6 {k n : Nat} {M : Mem} {A : Wh} {l : List Nat} (h : Jv k n M (l, A.2)) : ∃ M', f_X11_subscribe 0 (nW 6) (nW 0) (nW 0) (nW 0) M = some (.inr 3, M') ∧ Jv k (n + 1) M' ([], A.2) := by
  have k1 := h.1.1.1
  obtain ⟨M1, e1, F1, B1, hb⟩ := c_take h.1
  have G1 := Gk_fr F1 (fun a h => by omega) 0
  have J1 : Jv k n M1 ([], A.2) := Jv_gk h G1 B1 h.2.1 rfl rfl
  refine ⟨xM M1, ?_, Jv_x J1⟩
  simp only [f_X11_subscribe, k1, ↓reduceIte, e1, bindP, nW_lit, c_cl6, bindX]
