/-! A CALL THAT TAKES A TEXT -/
def clr (A : Wh) (e : Int32) : Wh := ([], e, A.2.2)
theorem bindX_id {α : Type} (o : Option ((α ⊕ Nat) × Mem)) : bindX o (fun v M => some (.inl v, M)) = o := by
  rcases o with _ | ⟨a | e, M⟩ <;> rfl
theorem c_topic {M : Mem} (h : (mK M 0).1 = 11) (v : Int32) : f_X11_readTopic 0 v M = f_X11_readText 0 v (zI false) M := by
  simp only [f_X11_readTopic, h, ↓reduceIte, nW_lit, bindX_id]; rfl
theorem c_filter {M : Mem} (h : (mK M 0).1 = 11) (v : Int32) : f_X11_readFilter 0 v M = f_X11_readText 0 v (zI true) M := by
  simp only [f_X11_readFilter, h, ↓reduceIte, nW_lit, bindX_id]; rfl
theorem BrR_e {M : Mem} {A : Wh} {l : List Nat} {e : Int32} {f : Nat} {v : Int32} (h : BrR M A) (hf : f = 1 ∨ f = 2) (h1 : up2 (mI M) 0 f v 0 1 = nW l.length) (h2 : up2 (mI M) 0 f v 0 2 = e) (hl : l.length ≤ 30 ∧ (∀ j, j < l.length → mI M 5 j = nW (l.getD j 0)) ∧ ∀ c ∈ l, 33 ≤ c ∧ c ≤ 126) : BrR (sI M (up2 (mI M) 0 f v)) (l, e, A.2.2) ∧ Fr (fun a => a = 0) M (sI M (up2 (mI M) 0 f v)) := by
  have F : Fr (fun a => a = 0) M (sI M (up2 (mI M) 0 f v)) := fq_I M f _ (by simp only [tz]; omega)
  refine ⟨?_, F⟩
  obtain ⟨⟨c1, c2, c3, c4, c5, c6⟩, ⟨b1, b2, b3, b4, b5⟩, e1, ⟨p1, p2⟩, m7, ⟨t1, t2⟩, s1⟩ := h
  refine ⟨⟨c1, c2, c3, c4, c5, c6⟩, ⟨b1, h1, hl.1, fun j hj => ?_, hl.2.2⟩, h2, ⟨?_, p2.gr F.gr (by show ¬ 6 = 0; omega)⟩, m7, ⟨?_, t2.gr F.gr (fun a h => by unfold SZ at h; omega)⟩, s1.gr F.gr (fun a h => by unfold SZ at h; omega)⟩
  · show up2 (mI M) 0 f v 5 j = _
    rw [up2_ne _ _ _ _ (by omega)]; exact hl.2.1 j hj
  · show up2 (mI M) 0 f v 0 3 = _
    rw [up2_nj _ _ _ _ (by omega)]; exact p1
  · show up2 (mI M) 0 f v 0 7 = _
    rw [up2_nj _ _ _ _ (by omega)]; exact t1
theorem c_take {M : Mem} {A : Wh} (h : BrR M A) : ∃ M1, f_X11_takeBuffer 0 M = some (nW (oB A).length, M1) ∧ Fr (fun a => a = 0) M M1 ∧ BrR M1 (clr A (oE A)) ∧ (mK M1 5 = (16, 30) ∧ (oB A).length ≤ 30 ∧ ∀ j, j < (oB A).length → mI M1 5 j = nW ((oB A).getD j 0)) := by
  have k1 := h.1.1
  obtain ⟨b1, b2, b3, b4, b5⟩ := h.2.1
  have e2 := h.2.2.1
  obtain ⟨B, F⟩ := BrR_e (l := []) (e := oE A) (f := 1) (v := nW 0) h (Or.inl rfl) (by rw [up2_eq]; rfl) (by rw [up2_nj _ _ _ _ (by omega)]; exact e2) ⟨Nat.zero_le _, fun j hj => absurd hj (Nat.not_lt_zero j), fun c hc => by simp at hc⟩
  refine ⟨_, ?_, F, B, b1, b3, fun j hj => ?_⟩
  · simp only [f_X11_takeBuffer, k1, ↓reduceIte, gI, pI, b2, Option.bind_some, nW_lit]
  · show up2 (mI M) 0 1 (nW 0) 5 j = _
    rw [up2_ne _ _ _ _ (by omega)]; exact b4 j hj
/-- the text is read: it has an error, or becomes an object -/
theorem c_read {M : Mem} {A : Wh} {l : List Nat} {e : Int32} (wild : Bool) (hB : BrR M (clr A e)) (hF : Fz M) (hN : mN M ≤ 100000) (hb : mK M 5 = (16, 30) ∧ l.length ≤ 30 ∧ ∀ j, j < l.length → mI M 5 j = nW (l.getD j 0)) (hc : ∀ c ∈ l, 33 ≤ c ∧ c ≤ 126) : ∃ M2, BrR M2 (clr A (parse wild l).2) ∧ Fr (fun a => a = 0) M M2 ∧ match (parse wild l).1 with
    | none => f_X11_readText 0 (nW l.length) (zI wild) M = some (.inr 1, xM M2)
    | some t => ∃ M3, f_X11_readText 0 (nW l.length) (zI wild) M = some (.inl (mN M), M3) ∧ Gk 3 M2 M3 ∧ TextR M3 (mN M) t ∧ BrR M3 (clr A (parse wild l).2) := by
  have k1 := hB.1.1
  have e0 : gR 11 0 0 M = some 5 := by simp only [gR, k1, ↓reduceIte, hB.1.2.1]
  have ef := X10_findError wild hb hc
  obtain ⟨B, F⟩ := BrR_e (l := []) (e := (parse wild l).2) (f := 2) (v := (parse wild l).2) hB (Or.inr rfl) (by rw [up2_nj _ _ _ _ (by omega)]; exact hB.2.1.2.1) (by rw [up2_eq]) ⟨Nat.zero_le _, fun j hj => absurd hj (Nat.not_lt_zero j), fun c hc => by simp at hc⟩
  have ep : pI 11 2 0 (parse wild l).2 M = some (sI M (up2 (mI M) 0 2 (parse wild l).2)) := by simp only [pI, k1, ↓reduceIte]
  generalize hM2 : sI M (up2 (mI M) 0 2 (parse wild l).2) = M2 at B F ep
  have k2 := B.1.1
  have g2 : gI 11 2 0 M2 = some (parse wild l).2 := by
    have := B.2.2.1
    simp only [gI, k2, ↓reduceIte, this]
  have g0 : gR 11 0 0 (mkM 10 0 5 M2) = some 5 := by
    have h922 : 908 ≤ mN M2 := by rw [F.2.1.1]; exact hF.1
    have e1 : mK (mkM 10 0 5 M2) 0 = mK M2 0 := by
      show (if 0 = mN M2 then _ else mK M2 0) = _
      rw [if_neg (by omega)]
    have e2 : mR (mkM 10 0 5 M2) 0 0 = mR M2 0 0 := by
      show cl2 (mR M2) (mN M2) none 0 0 = _
      rw [cl2_fn _ _ (by omega)]
    simp only [gR, e1, k2, ↓reduceIte, e2, B.1.2.1]
  refine ⟨M2, B, F, ?_⟩
  cases hp : (parse wild l).1 with
  | none =>
    obtain ⟨j, hj, ej⟩ := parse_err hp
    have h30 := hb.2.1
    have n0 : ¬ nW j < nW 0 := by rw [nW_lt (by omega) (by omega)]; omega
    show _ = _
    rw [ej] at ef ep g2
    simp only [f_X11_readText, k1, ↓reduceIte, e0, Option.bind_some, ef, bindP, ep, g2, nW_lit, n0]
  | some t =>
    obtain ⟨pe, ptx, pne, pok, ptop⟩ := parse_ok hp
    have hF2 : Fz M2 := by unfold Fz at *; rw [F.1, F.2.1.1]; exact hF
    have hN2 : mN M2 = mN M := F.2.1.1
    have h5 := F.2.2 5 (Or.inr (by omega))
    obtain ⟨M3, e3, G3, G3', T3⟩ := new_text (b := 5) (m := 30) (l := l) (t := t) hF2 (by omega) ⟨by rw [F.1]; exact hb.1, hb.2.1, fun j hj => by rw [h5.1]; exact hb.2.2 j hj⟩ (by omega) (by omega) ptx pok pne
    have lt0 : -nW 1 < nW 0 := by decide
    rw [pe] at ef ep g2
    refine ⟨M3, ?_, G3, by rw [← hN2]; exact T3, B.gr G3' (fun _ _ _ h => h)⟩
    have eO : nO 10 5 M2 = some (mN M2, mkM 10 0 5 M2) := nO_ok (by omega)
    rw [eO] at e3
    simp only [bindP] at e3
    simp only [f_X11_readText, k1, ↓reduceIte, e0, Option.bind_some, ef, bindP, ep, g2, nW_lit, lt0, eO, g0]
    rw [e3, hN2]
theorem WI_clr {k : Nat} {A : Wh} (h : WI k A) (e : Int32) : WI k (clr A e) := h
