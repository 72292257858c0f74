/-! THE MACHINE'S SIDE: a smaller room, and what a walk's end says -/
theorem room_small {s : State} {pl : Platform} {r r' : Room} (h : s.hasRoom pl r = true) (h1 : r'.frames ≤ r.frames) (h2 : r'.cells ≤ r.cells) (h3 : r'.slots ≤ r.slots) (h4 : r'.locals ≤ r.locals) : s.hasRoom pl r' = true := by
  simp only [State.hasRoom, Bool.and_eq_true, decide_eq_true_eq] at h ⊢
  obtain ⟨⟨⟨⟨a1, a2, a3, a4, a5, a6⟩, b⟩, c⟩, d⟩ := h
  exact ⟨⟨⟨⟨by omega, by omega, by omega, by omega, by omega, a6⟩, by omega⟩, by omega⟩, d⟩
theorem Stand_small {p : Program} {l : Launch} {e : Env} {R R' : Room} {s : State} {m : MethodId} {args : Array Value} {below : List Frame} {meth : Method} {c : Code} {T : State} {locs : List Loc} {cells slots : Nat} (X : Stand p l e R s m args below meth c T locs cells slots) (h1 : R'.frames ≤ R.frames) (h2 : R'.cells ≤ R.cells) (h3 : R'.slots ≤ R.slots) (h4 : R'.locals ≤ R.locals) : Stand p l e R' s m args below meth c T locs cells slots := by
  obtain ⟨x1, x2, x3, x4, x5, x6, x7, x8, x9, x10, x11, x12, x13, x14⟩ := X
  exact ⟨x1, x2, x3, x4, room_small x5 h1 h2 h3 h4, x6, x7, x8, x9, x10, x11, x12, x13, x14⟩
theorem end_small {G : Gl} {ρ0 : Nat → Nat} {M0 MF : Mem} {below : List Frame} {a : Array Value} {s t : State} {mc ms k n : Nat} {A : Addr → Prop} (h : vx_MQ below (QcP G (ρ0, M0, cvI 1, MF)) (XcP G (ρ0, M0, cvI 1, MF)) a s mc ms A t) (hA : ∀ q, A q → s.heap.size ≤ q) (h1 : mc ≤ k) (h2 : ms ≤ n) : ∃ o, t.status = .running ∧ Ended t below o ∧ o = .returned (some (.int 1)) ∧ s.WarmedH t.vm ∧ s.sameButNew ({ t with vm := s.vm } : State) [] k n := by
  obtain ⟨o, e1, e2, q⟩ := h
  refine ⟨o, e1, e2, ?_⟩
  rcases q with ⟨⟨⟨v, ρ, r1, r2, _⟩, _⟩, L, ⟨_, w, f⟩, hL⟩ | ⟨q, r, E, ce, L, ⟨⟨e, ρ, x1, _⟩, _⟩, _⟩
  · have hv : some (Value.int 1) = v := Sum.inl.inj r1
    subst hv
    refine ⟨r2, w, ?_⟩
    have g : s.sameButNew ({ t with vm := s.vm } : State) ([] ++ L) mc ms := f
    exact State.sameButNew.mono (State.sameButNew.drop_fresh g (fun x hx => hA _ (hL x hx))) h1 h2
  · cases x1
