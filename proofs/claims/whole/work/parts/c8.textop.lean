/-! A CALL THAT TAKES A TEXT -/
def clr (A : Wh) (e : Int32) : Wh := ([], e, A.2.2)
def QT (t : Txt) (V : VR) : Prop := V.1 0 0 = nW 0 ∧ V.1 0 12 = nW t.length ∧ TB (V.2.1 8) 0 t
theorem bindX_id {α : Type} (o : Option ((α ⊕ Nat) × Mem)) : bindX o (fun v M => some (.inl v, M)) = o := by
  rcases o with _ | ⟨a | e, M⟩ <;> rfl
theorem c_topic {M : Mem} (h : (mK M 0).1 = 11) (v : Int32) : f_X11_readTopic 0 v M = f_X11_readText 0 v (zI false) M := by
  simp only [f_X11_readTopic, h, ↓reduceIte, nW_lit, bindX_id]; rfl
theorem c_filter {M : Mem} (h : (mK M 0).1 = 11) (v : Int32) : f_X11_readFilter 0 v M = f_X11_readText 0 v (zI true) M := by
  simp only [f_X11_readFilter, h, ↓reduceIte, nW_lit, bindX_id]; rfl
theorem BrR_e {M : Mem} {A : Wh} {l : List Nat} {e : Int32} {f : Nat} {v : Int32} (h : BrR M A) (hf : f = 1 ∨ f = 2) (h1 : up2 (mI M) 0 f v 0 1 = nW l.length) (h2 : up2 (mI M) 0 f v 0 2 = e) (hl : l.length ≤ 30 ∧ (∀ j, j < l.length → mI M 5 j = nW (l.getD j 0)) ∧ ∀ c ∈ l, 33 ≤ c ∧ c ≤ 126) : BrR (sI M (up2 (mI M) 0 f v)) (l, e, A.2.2) ∧ Fr (fun a => a = 0) M (sI M (up2 (mI M) 0 f v)) := by
  have F : Fr (fun a => a = 0) M (sI M (up2 (mI M) 0 f v)) := fq_I M f _ (by simp only [tz]; omega)
  refine ⟨?_, F⟩
  obtain ⟨⟨c1, c2, c3, c4, c5, c6⟩, ⟨b1, b2, b3, b4, b5⟩, e1, ⟨p1, p2⟩, m7, ⟨t1, t2⟩, s1⟩ := h
  refine ⟨⟨c1, c2, c3, c4, c5, c6⟩, ⟨b1, h1, hl.1, fun j hj => ?_, hl.2.2⟩, h2, ⟨?_, p2.gr F.gr (by show ¬ 6 = 0; omega)⟩, m7, ⟨?_, t2.gr F.gr (fun a h => by unfold SZ at h; omega)⟩, s1.gr F.gr (fun a h => by unfold SZ at h; omega)⟩
  · show up2 (mI M) 0 f v 5 j = _
    rw [up2_ne _ _ _ _ (by omega)]; exact hl.2.1 j hj
  · show up2 (mI M) 0 f v 0 3 = _
    rw [up2_nj _ _ _ _ (by omega)]; exact p1
  · show up2 (mI M) 0 f v 0 7 = _
    rw [up2_nj _ _ _ _ (by omega)]; exact t1
theorem c_take {M : Mem} {A : Wh} (h : BrR M A) : ∃ M1, f_X11_takeBuffer 0 M = some (nW (oB A).length, M1) ∧ Fr (fun a => a = 0) M M1 ∧ BrR M1 (clr A (oE A)) ∧ (mK M1 5 = (16, 30) ∧ (oB A).length ≤ 30 ∧ ∀ j, j < (oB A).length → mI M1 5 j = nW ((oB A).getD j 0)) := by
  have k1 := h.1.1
  obtain ⟨b1, b2, b3, b4, b5⟩ := h.2.1
  have e2 := h.2.2.1
  obtain ⟨B, F⟩ := BrR_e (l := []) (e := oE A) (f := 1) (v := nW 0) h (Or.inl rfl) (by rw [up2_eq]; rfl) (by rw [up2_nj _ _ _ _ (by omega)]; exact e2) ⟨Nat.zero_le _, fun j hj => absurd hj (Nat.not_lt_zero j), fun c hc => by simp at hc⟩
  refine ⟨_, ?_, F, B, b1, b3, fun j hj => ?_⟩
  · simp only [f_X11_takeBuffer, k1, ↓reduceIte, gI, pI, b2, Option.bind_some, nW_lit]
  · show up2 (mI M) 0 1 (nW 0) 5 j = _
    rw [up2_ne _ _ _ _ (by omega)]; exact b4 j hj
/-- the text is read: it has an error, or becomes an object -/
theorem c_read {M : Mem} {A : Wh} {l : List Nat} {e : Int32} (wild : Bool) (hB : BrR M (clr A e)) (hF : Fz M) (hN : mN M ≤ 100000) (hb : mK M 5 = (16, 30) ∧ l.length ≤ 30 ∧ ∀ j, j < l.length → mI M 5 j = nW (l.getD j 0)) (hc : ∀ c ∈ l, 33 ≤ c ∧ c ≤ 126) : ∃ M2, BrR M2 (clr A (parse wild l).2) ∧ Fr (fun a => a = 0) M M2 ∧ match (parse wild l).1 with
    | none => f_X11_readText 0 (nW l.length) (zI wild) M = some (.inr 1, xM M2)
    | some t => ∃ M3, f_X11_readText 0 (nW l.length) (zI wild) M = some (.inl (mN M), M3) ∧ Gk 3 M2 M3 ∧ TextR M3 (mN M) t ∧ BrR M3 (clr A (parse wild l).2) := by
  have k1 := hB.1.1
  have e0 : gR 11 0 0 M = some 5 := by simp only [gR, k1, ↓reduceIte, hB.1.2.1]
  have ef := X10_findError wild hb hc
  obtain ⟨B, F⟩ := BrR_e (l := []) (e := (parse wild l).2) (f := 2) (v := (parse wild l).2) hB (Or.inr rfl) (by rw [up2_nj _ _ _ _ (by omega)]; exact hB.2.1.2.1) (by rw [up2_eq]) ⟨Nat.zero_le _, fun j hj => absurd hj (Nat.not_lt_zero j), fun c hc => by simp at hc⟩
  have ep : pI 11 2 0 (parse wild l).2 M = some (sI M (up2 (mI M) 0 2 (parse wild l).2)) := by simp only [pI, k1, ↓reduceIte]
  generalize hM2 : sI M (up2 (mI M) 0 2 (parse wild l).2) = M2 at B F ep
  have k2 := B.1.1
  have g2 : gI 11 2 0 M2 = some (parse wild l).2 := by
    have := B.2.2.1
    simp only [gI, k2, ↓reduceIte, this]
  have g0 : gR 11 0 0 (mkM 10 0 5 M2) = some 5 := by
    have h922 : 922 ≤ mN M2 := by rw [F.2.1.1]; exact hF.1
    have e1 : mK (mkM 10 0 5 M2) 0 = mK M2 0 := by
      show (if 0 = mN M2 then _ else mK M2 0) = _
      rw [if_neg (by omega)]
    have e2 : mR (mkM 10 0 5 M2) 0 0 = mR M2 0 0 := by
      show cl2 (mR M2) (mN M2) none 0 0 = _
      rw [cl2_fn _ _ (by omega)]
    simp only [gR, e1, k2, ↓reduceIte, e2, B.1.2.1]
  refine ⟨M2, B, F, ?_⟩
  cases hp : (parse wild l).1 with
  | none =>
    obtain ⟨j, hj, ej⟩ := parse_err hp
    have h30 := hb.2.1
    have n0 : ¬ nW j < nW 0 := by rw [nW_lt (by omega) (by omega)]; omega
    show _ = _
    rw [ej] at ef ep g2
    simp only [f_X11_readText, k1, ↓reduceIte, e0, Option.bind_some, ef, bindP, ep, g2, nW_lit, n0]
  | some t =>
    obtain ⟨pe, ptx, pne, pok, ptop⟩ := parse_ok hp
    have hF2 : Fz M2 := by unfold Fz at *; rw [F.1, F.2.1.1]; exact hF
    have hN2 : mN M2 = mN M := F.2.1.1
    have h5 := F.2.2 5 (Or.inr (by omega))
    obtain ⟨M3, e3, G3, G3', T3⟩ := new_text (b := 5) (m := 30) (l := l) (t := t) hF2 (by omega) ⟨by rw [F.1]; exact hb.1, hb.2.1, fun j hj => by rw [h5.1]; exact hb.2.2 j hj⟩ (by omega) (by omega) ptx pok pne
    have lt0 : -nW 1 < nW 0 := by decide
    rw [pe] at ef ep g2
    refine ⟨M3, ?_, G3, by rw [← hN2]; exact T3, B.gr G3' (fun _ _ _ h => h)⟩
    have eO : nO 10 5 M2 = some (mN M2, mkM 10 0 5 M2) := nO_ok (by omega)
    rw [eO] at e3
    simp only [bindP] at e3
    simp only [f_X11_readText, k1, ↓reduceIte, e0, Option.bind_some, ef, bindP, ep, g2, nW_lit, lt0, eO, g0]
    rw [e3, hN2]
theorem RfR_rd {V V' : VR} {s : Nat → Int32} {t : Nat → Int64} {A : Wh} {e : Int32} (h : RfR V s t A) (q : VRd V V') (h9 : V'.1 0 9 = nW 0) (h10 : V'.1 0 10 = e) : RfR V' s t (clr A e) := by
  obtain ⟨q1, q2, q3, q4⟩ := q
  obtain ⟨⟨a1, a2⟩, b, ⟨c1, c2⟩, ⟨d1, d2⟩, f, g, i⟩ := h
  refine ⟨⟨h9, fun j hj => absurd hj (Nat.not_lt_zero j)⟩, h10, ⟨?_, ?_⟩, ⟨?_, ?_⟩, ?_, g, ?_⟩
  · rw [q1 17 (by omega) (by omega) (by omega)]; exact c1
  · rw [q2 11 (by omega), q4 12 (by omega)]; exact c2
  · rw [q1 7 (by omega) (by omega) (by omega)]; exact d1
  · rw [q2 4 (by omega), q4 5 (by omega), q3]; exact d2
  · rw [q4 10 (by omega)]; exact f
  · rw [q3]; exact i
theorem VRd_0 (V : VR) (x : Int32) : VRd (vI V 0 0 x) (vI (vI V 0 0 x) 0 9 (nW 0)) := VRd_I _ _ (by omega)
theorem RfR_RB {V : VR} {s : Nat → Int32} {t : Nat → Int64} {A : Wh} (h : RfR V s t A) (hl : (oB A).length ≤ 30 ∧ ∀ c ∈ oB A, 33 ≤ c ∧ c ≤ 126) : RB V (oB A) := ⟨h.1.1, hl.1, h.1.2, hl.2⟩
theorem WI_clr {k : Nat} {A : Wh} (h : WI k A) (e : Int32) : WI k (clr A e) := h
/-- reading, behind the client's check -/
theorem Op_rd {cd : Nat → Nat} {k : Nat} {M : Mem} {A : Wh} {e0 : Int32} {F : Nat → Mem → Option ((Int32 ⊕ Nat) × Mem)} {G : Int32 → Mem → Option (Int32 × Mem)} (wild : Bool) (hB : BrR M (clr A e0)) (hF : Fz M) (hN : mN M ≤ 100000) (hb : mK M 5 = (16, 30) ∧ (oB A).length ≤ 30 ∧ ∀ j, j < (oB A).length → mI M 5 j = nW ((oB A).getD j 0)) (hc : ∀ c ∈ oB A, 33 ≤ c ∧ c ≤ 126) (hW : WI k A) (eG : ∀ N V s t, KR N → G (nW 0) (QW N V s t) = some (nW 0, QW N (vI V 0 0 (nW (cd 1))) s t)) (main : ∀ t x M5, (parse wild (oB A)).1 = some t → TextR M5 x t → BrR M5 (clr A (-nW 1)) → OpAt 1 cd k M5 (clr A (-nW 1)) (QT t) (F x) (G (nW 1))) (h9 : cd 1 < 9 := by decide) : ∃ out M' A', bindX (f_X11_readText 0 (nW (oB A).length) (zI wild) M) F = some (out, M') ∧ cdo cd out < 9 ∧ Gk 4 M M' ∧ BrR M' A' ∧ WI (k + 1) A' ∧ ∀ N V s t, KR N → RfR V s t A → V.1 0 0 = nW 0 → ∃ b V' s' t', bindP (f_X12_reads 908 (zI wild) (QW N V s t)) G = some (b, QW N V' s' t') ∧ RfR V' s' t' A' ∧ V'.1 0 0 = nW (cdo cd out) ∧ ∀ v, out = .inl v → b = v := by
  obtain ⟨M2, B2, F2, hrd⟩ := c_read (l := oB A) wild hB hF hN hb hc
  have G2 := Gk_fr F2 (fun a h => by omega) 0
  cases hp : (parse wild (oB A)).1 with
  | none =>
    rw [hp] at hrd
    refine ⟨.inr 1, xM M2, clr A (parse wild (oB A)).2, ?_, h9, (G2.trans (Gk_x M2)).mono (by omega), BrR_x B2, (WI_clr hW _).mono (Nat.le_succ _), fun N V s t hkr hR h0 => ?_⟩
    · rw [hrd]; rfl
    · obtain ⟨V', e1, q, x9, x10, _⟩ := ref_reads (N := N) (s := s) (t := t) hkr wild (RfR_RB hR ⟨hb.2.1, hc⟩)
      rw [hp] at e1
      refine ⟨nW 0, vI V' 0 0 (nW (cd 1)), s, t, ?_, (RfR_rd hR q x9 x10).vq (VQ_0 _ _), vI_00 _ _, fun v hv => by cases hv⟩
      rw [e1]; exact eG N V' s t hkr
  | some tx =>
    rw [hp] at hrd
    obtain ⟨M3, e3, G3, T3, B3⟩ := hrd
    have pe := (parse_ok hp).1
    rw [pe] at B3
    obtain ⟨out, M', A', h1, hc9, h2, h3, h4, h5⟩ := main tx (mN M) M3 hp T3 B3
    refine ⟨out, M', A', ?_, hc9, ((G2.trans G3).trans h2).mono (by omega), h3, h4, fun N V s t hkr hR h0 => ?_⟩
    · rw [e3]; exact h1
    · obtain ⟨V', e1, q, x9, x10, xt⟩ := ref_reads (N := N) (s := s) (t := t) hkr wild (RfR_RB hR ⟨hb.2.1, hc⟩)
      rw [hp] at e1
      rw [pe] at x10
      obtain ⟨y1, y2⟩ := xt tx hp
      have z0 : V'.1 0 0 = nW 0 := by rw [q.1 0 (by omega) (by omega) (by omega)]; exact h0
      rw [e1]
      exact h5 N V' s t hkr (RfR_rd hR q x9 x10) ⟨z0, y1, y2⟩
/-- a call with a client and a text -/
theorem Op_text {cd : Nat → Nat} {k : Nat} {M : Mem} {A : Wh} {x : Int32} {f : Mem → Option ((Int32 ⊕ Nat) × Mem)} {g : Mem → Option (Int32 × Mem)} {F : Nat → Mem → Option ((Int32 ⊕ Nat) × Mem)} {G : Int32 → Mem → Option (Int32 × Mem)} (wild : Bool) (hB : BrR M A) (hF : Fz M) (hN : mN M ≤ 100000) (hW : WI k A) (h3 : cd 3 = 1) (ef : f M = bindP (f_X11_takeBuffer 0 M) (fun v2 M1 => bindX (f_X11_requireClient x M1) (fun _ M3 => bindX (f_X11_readText 0 v2 (zI wild) M3) F))) (eg : ∀ N V s t, KR N → g (QW N V s t) = if inB x (nW 0) (nW 5) = true then bindP (f_X12_reads 908 (zI wild) (QW N (vI V 0 0 (nW 0)) s t)) G else some (nW 0, QW N (vI (vI (vI V 0 0 (nW 0)) 0 9 (nW 0)) 0 0 (nW 1)) s t)) (eG : ∀ N V s t, KR N → G (nW 0) (QW N V s t) = some (nW 0, QW N (vI V 0 0 (nW (cd 1))) s t)) (main : ∀ c t x' M5, c < 6 → x = nW c → (parse wild (oB A)).1 = some t → TextR M5 x' t → BrR M5 (clr A (-nW 1)) → OpAt 1 cd k M5 (clr A (-nW 1)) (QT t) (F x') (G (nW 1))) (h9 : cd 1 < 9 := by decide) : OpAt 4 cd k M A (fun _ => True) f g := by
  obtain ⟨M1, e1, F1, B1, hb⟩ := c_take hB
  have G1 := Gk_fr F1 (fun a h => by omega) 0
  have cc := c_client x M1
  by_cases hx : inB x (nW 0) (nW 5) = true
  · rw [if_pos hx] at cc
    obtain ⟨c, _, hc, rfl⟩ := inB_nat (by omega) hx (by omega)
    obtain ⟨out, M', A', q1, q9, q2, q3, q4, q5⟩ := Op_rd wild B1 (G1.2.2.2.2 hF) (by rw [F1.2.1.1]; exact hN) hb hB.2.1.2.2.2.2 hW eG (fun t x' M5 => main c t x' M5 (by omega) rfl) h9
    refine ⟨out, M', A', ?_, q9, (G1.trans q2).mono (by omega), q3, q4, fun N V s t hkr hR _ => ?_⟩
    · rw [ef, e1]
      simp only [bindP, cc]
      exact q1
    · rw [eg N V s t hkr, if_pos hx]
      exact q5 N (vI V 0 0 (nW 0)) s t hkr (hR.vq (VQ_0 V _)) (vI_00 _ _)
  · rw [if_neg hx] at cc
    refine ⟨.inr 3, xM M1, clr A (oE A), ?_, (by show cd 3 < 9; rw [h3]; omega), (G1.trans (Gk_x M1)).mono (by omega), BrR_x B1, (WI_clr hW _).mono (Nat.le_succ _), fun N V s t hkr hR _ => ?_⟩
    · rw [ef, e1]
      simp only [bindP, cc]
      rfl
    · refine ⟨nW 0, _, s, t, by rw [eg N V s t hkr, if_neg hx], ?_, ?_, fun v hv => by cases hv⟩
      · have h1 := hR.vq (VQ_0 V (nW 0))
        exact (RfR_rd h1 (VRd_0 V (nW 0)) (by rw [vI_1, fset_eq]) (by rw [vI_1, fset_ne _ _ (by omega)]; exact h1.2.1)).vq (VQ_0 _ _)
      · rw [vI_00]
        show nW 1 = nW (cd 3)
        rw [h3]
/-- a call with a text alone -/
theorem Op_text0 {cd : Nat → Nat} {k : Nat} {M : Mem} {A : Wh} {f : Mem → Option ((Int32 ⊕ Nat) × Mem)} {g : Mem → Option (Int32 × Mem)} {F : Nat → Mem → Option ((Int32 ⊕ Nat) × Mem)} {G : Int32 → Mem → Option (Int32 × Mem)} (wild : Bool) (hB : BrR M A) (hF : Fz M) (hN : mN M ≤ 100000) (hW : WI k A) (ef : f M = bindP (f_X11_takeBuffer 0 M) (fun v2 M1 => bindX (f_X11_readText 0 v2 (zI wild) M1) F)) (eg : ∀ N V s t, KR N → g (QW N V s t) = bindP (f_X12_reads 908 (zI wild) (QW N (vI V 0 0 (nW 0)) s t)) G) (eG : ∀ N V s t, KR N → G (nW 0) (QW N V s t) = some (nW 0, QW N (vI V 0 0 (nW (cd 1))) s t)) (main : ∀ t x' M5, (parse wild (oB A)).1 = some t → TextR M5 x' t → BrR M5 (clr A (-nW 1)) → OpAt 1 cd k M5 (clr A (-nW 1)) (QT t) (F x') (G (nW 1))) (h9 : cd 1 < 9 := by decide) : OpAt 4 cd k M A (fun _ => True) f g := by
  obtain ⟨M1, e1, F1, B1, hb⟩ := c_take hB
  have G1 := Gk_fr F1 (fun a h => by omega) 0
  obtain ⟨out, M', A', q1, q9, q2, q3, q4, q5⟩ := Op_rd wild B1 (G1.2.2.2.2 hF) (by rw [F1.2.1.1]; exact hN) hb hB.2.1.2.2.2.2 hW eG main h9
  refine ⟨out, M', A', ?_, q9, (G1.trans q2).mono (by omega), q3, q4, fun N V s t hkr hR _ => ?_⟩
  · rw [ef, e1]
    exact q1
  · rw [eg N V s t hkr]
    exact q5 N (vI V 0 0 (nW 0)) s t hkr (hR.vq (VQ_0 V _)) (vI_00 _ _)
