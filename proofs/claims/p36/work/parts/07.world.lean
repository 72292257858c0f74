/-! THE WORLD: how the memory's picture lies in the machine's heap; the judgement V of a walk over the picture -/
def bw (w : Cond) : Bool := match w with
  | .declares _ => true
  | .castable _ _ => true
  | .fieldLinkNest _ _ _ _ _ _ => true
  | .privateMethod _ => true
  | .arrayOver (.object _) => true
  | _ => false
def GW : List Cond := lw_tbl.filter goodWord
def BW : List Cond := lw_tbl.filter bw
theorem bw_warm {w : Cond} (h : bw w = true) {A A' : Array Value} {s U : State} (hW : s.WarmedH U.vm) (hb : w.before A s = true) : w.before A' U = true := by
  unfold bw at h
  split at h
  · exact (va_Nw.warmD hW (va_Nw.of rfl hb)).use rfl
  · exact (va_Nw.warmC hW (va_Nw.of rfl hb)).use rfl
  · exact va_tabs rfl (rfl : (s.setVm U.vm).vm = U.vm) (Cond.fieldLinkNest_warmed (args := A) hW hb)
  · exact va_tabs (A := A) rfl (rfl : (s.setVm U.vm).vm = U.vm) (by rw [Cond.privateMethod_setVm hW.alike]; exact hb)
  · exact va_AO.use (va_AO.moved hW.alike (va_AO.of hb))
  · cases h
abbrev Gl : Type := (Nat → ClassId) × (Nat → Nat → Nat) × (Nat → ClassId) × Nat × Nat × (Nat → Int32)
abbrev AO (G : Gl) : Nat → Prop := fun q => G.2.2.2.1 ≤ q
def tyG (G : Gl) : List (ClassId × FieldType) := (List.range 11).map (fun j => (G.2.2.1 j, tyA.getD j .int))
def fv (M : Mem) (ρ : Nat → Nat) (k a f : Nat) : Value := match fT k f with
  | 0 => .int (mI M a f)
  | 1 => .long (mL M a f)
  | 2 => .float (mF M a f)
  | _ => va_rf ((mR M a f).map ρ)
def flds (M : Mem) (ρ : Nat → Nat) (k a : Nat) : List Value := (List.range (nF k)).map (fv M ρ k a)
def cE (G : Gl) (M : Mem) (ρ : Nat → Nat) (a : Nat) : va_E :=
  if (mK M a).1 < 13 then .inr ((mK M a).1, flds M ρ (mK M a).1 a)
  else if (mK M a).1 = 14 then .inl (G.2.2.1 1, (mK M a).2, .inr (.inl (mL M a)))
  else if (mK M a).1 = 15 then .inl (G.2.2.1 2, (mK M a).2, .inr (.inr (.inl (mF M a))))
  else if (mK M a).1 < 18 then .inl (G.2.2.1 ((mK M a).1 - 13), (mK M a).2, .inl (mI M a))
  else .inl (G.2.2.1 ((mK M a).1 - 13), (mK M a).2, .inr (.inr (.inr (.inr (fun i => (mR M a i).map ρ)))))
def wsM (G : Gl) (M : Mem) (ρ : Nat → Nat) : va_W := (List.range (mN M)).map (fun a => (ρ a, cE G M ρ a))
def HR (G : Gl) (M : Mem) (ρ : Nat → Nat) (H : Heap) : Prop :=
  va_P (G.1, G.2.1) vwCl (wsM G M ρ) H ∧ va_D (AO G) (wsM G M ρ) ∧ (∀ a, mN M ≤ a → (mK M a).1 = 99) ∧ (∀ a i b, mR M a i = some b → b < mN M) ∧ mN M < SCR
def stN (i : Nat) : String := (["OPTION_LEAST", "OPTION_GREATEST", "OPTION_FIRST"] : List String).getD i ""
def ncs : List (String × String) := [("java/lang/IllegalStateException", "java/lang/IllegalArgumentException"), ("java/lang/IndexOutOfBoundsException", "java/lang/IllegalArgumentException"), ("java/lang/IndexOutOfBoundsException", "java/lang/IllegalStateException"), ("java/lang/IllegalArgumentException", "java/lang/IllegalStateException"), ("java/lang/IllegalArgumentException", "java/lang/IndexOutOfBoundsException"), ("java/lang/IllegalStateException", "java/lang/IndexOutOfBoundsException")]
def exN (e : Nat) : String := (["", "java/lang/IllegalArgumentException", "java/lang/IllegalStateException", "java/lang/IndexOutOfBoundsException"] : List String).getD e ""
/-- the String constants of the law: their places in the pool, texts, bytes -/
def poJS : List Nat := [222, 81, 94, 227, 229, 231, 233, 235, 237, 239, 241, 243, 245, 247, 249, 251, 253, 255, 257, 259, 261, 263, 265, 267, 269, 271, 273]
def txJS : List String := ["a", "#", "+", "a/#", "a/+", "+/b", "a/b/#", "+/+/+", "a/b/c/d", "a/+/c/#", "b1/+/+/#", "+/b/+/d", "b1", "abcdef/z9", "+/#", "b1/b1/b1/b1", "a/b", "a/b1", "b1/b", "a/b/c", "a/b1/c", "b1/b/c", "a/b1/c/d", "z", "a/z/c/0", "b1/a/b/d", "abcdef"]
def byJS : List (List Int32) := [[97], [35], [43], [97, 47, 35], [97, 47, 43], [43, 47, 98], [97, 47, 98, 47, 35], [43, 47, 43, 47, 43], [97, 47, 98, 47, 99, 47, 100], [97, 47, 43, 47, 99, 47, 35], [98, 49, 47, 43, 47, 43, 47, 35], [43, 47, 98, 47, 43, 47, 100], [98, 49], [97, 98, 99, 100, 101, 102, 47, 122, 57], [43, 47, 35], [98, 49, 47, 98, 49, 47, 98, 49, 47, 98, 49], [97, 47, 98], [97, 47, 98, 49], [98, 49, 47, 98], [97, 47, 98, 47, 99], [97, 47, 98, 49, 47, 99], [98, 49, 47, 98, 47, 99], [97, 47, 98, 49, 47, 99, 47, 100], [122], [97, 47, 122, 47, 99, 47, 48], [98, 49, 47, 97, 47, 98, 47, 100], [97, 98, 99, 100, 101, 102]]
def leJS : List Nat := [1, 1, 1, 3, 3, 3, 5, 5, 7, 7, 8, 7, 2, 9, 3, 11, 3, 4, 4, 5, 6, 6, 8, 1, 7, 8, 6]
/-- the two rows of texts: FILTERS, TOPICS -/
def flJS : List (List Nat) := [[1, 2, 0, 3, 4, 5, 6, 7, 8, 9, 10, 11, 12, 13, 14, 15], [0, 12, 16, 17, 18, 19, 20, 21, 8, 22, 15, 13, 23, 24, 25, 26]]
def flN (i : Nat) : String := (["FILTERS", "TOPICS"] : List String).getD i ""
def qfC : String := "jdk/internal/util/Preconditions"
def qfN : String := "SIOOBE_FORMATTER"
def qfD : String := "Ljava/util/function/BiFunction;"
/-- what is known of the law's texts, at a method's entry -/
def KStr (G : Gl) (ρ : Nat → Nat) (U : State) : Prop :=
  (∀ i, i < 2 → va_Z "GradedTopicBrokerLaw" (flN i) "[Ljava/lang/String;" (.ref (ρ (SCR + 4 + i))) (AO G) U U.heap ∧ va_T (.object "java/lang/String") (ρ (SCR + 4 + i)) 16 (fun j => .ref (ρ (SCR + 16 + (flJS.getD i []).getD j 0))) (AO G) U U.heap) ∧
  vk_S 27 leJS byJS (fun i => ρ (SCR + 16 + i)) (fun i => ρ (SCR + 64 + i)) (AO G) U U.heap ∧ (∀ i, i < 27 → vk_R "GradedTopicBrokerLaw" (poJS.getD i 0) (txJS.getD i "") (ρ (SCR + 16 + i)) U) ∧
  va_Z "java/lang/String" "COMPACT_STRINGS" "Z" (.int 1) (AO G) U U.heap ∧ (va_Z qfC qfN qfD .null (AO G) U U.heap ∨ va_Z qfC qfN qfD (.ref (ρ (SCR + 6))) (AO G) U U.heap)
theorem KStr.moved {G : Gl} {ρ ρ' : Nat → Nat} {u U : State} (h : KStr G ρ u) (hW : u.WarmedH U.vm) (hk : ∀ q : Nat, q < u.heap.size → ¬ AO G q → U.heap[q]? = u.heap[q]?) (hρ : ∀ a, SCR ≤ a → ρ' a = ρ a) : KStr G ρ' U := by
  obtain ⟨h1, h2, h3, h4, h5⟩ := h
  refine ⟨fun i hi => ?_, ?_, fun i hi => ?_, va_Z.moved hW.alike (va_Z.kept h4 hk), ?_⟩
  · have e : (fun j => Value.ref (ρ' (SCR + 16 + (flJS.getD i []).getD j 0))) = fun j => Value.ref (ρ (SCR + 16 + (flJS.getD i []).getD j 0)) := by
      funext j; rw [hρ _ (by omega)]
    rw [hρ (SCR + 4 + i) (by omega), e]
    exact ⟨va_Z.moved hW.alike (va_Z.kept (h1 i hi).1 hk), va_T.moved hW.alike (va_T.kept (h1 i hi).2 hk)⟩
  · have e1 : (fun i => ρ' (SCR + 16 + i)) = fun i => ρ (SCR + 16 + i) := by funext j; rw [hρ _ (by omega)]
    have e2 : (fun i => ρ' (SCR + 64 + i)) = fun i => ρ (SCR + 64 + i) := by funext j; rw [hρ _ (by omega)]
    rw [e1, e2]
    exact vk_S.moved hW.alike (vk_S.kept h2 hk)
  · rw [hρ _ (by omega)]
    exact vk_R.warm hW (h3 i hi)
  · rw [hρ (SCR + 6) (by omega)]
    exact h5.imp (fun q => va_Z.moved hW.alike (va_Z.kept q hk)) (fun q => va_Z.moved hW.alike (va_Z.kept q hk))
/-- what is known of the tables and of the statics, at a method's entry -/
def KN (G : Gl) (ρ : Nat → Nat) (U : State) : Prop :=
  va_K (G.1, G.2.1) vwCl (tyG G) U ∧ (∀ w ∈ BW, w.before #[] U = true) ∧ G.2.2.2.1 ≤ U.heap.size ∧
  (∀ i, i < 3 → va_Z RX11 (stN i) "[I" (.ref (ρ (SCR + 1 + i))) (AO G) U U.heap ∧ va_T .int (ρ (SCR + 1 + i)) 4 (fun j => .int (optRow i j)) (AO G) U U.heap) ∧
  vx_Zq Bundle.tN "UNASSIGNED_STACK" Bundle.steD (AO G) U U.heap ∧ vx_Zq Bundle.tN "SUPPRESSED_SENTINEL" Bundle.listD (AO G) U U.heap ∧ (∀ q ∈ ncs, va_Nc q.1 q.2 U) ∧
  va_X (ρ SCR) G.2.2.2.2.1 G.2.2.2.2.2 U U.heap ∧ ρ SCR < U.heap.size ∧ ¬ AO G (ρ SCR) ∧ KStr G ρ U
theorem KN.moved {G : Gl} {ρ ρ' : Nat → Nat} {u U : State} (h : KN G ρ u) (hW : u.WarmedH U.vm) (hz : u.heap.size ≤ U.heap.size) (hk : ∀ q : Nat, q < u.heap.size → ¬ AO G q → U.heap[q]? = u.heap[q]?) (hρ : ∀ a, SCR ≤ a → ρ' a = ρ a) : KN G ρ' U := by
  obtain ⟨h1, h2, h3, h4, h5, h6, h7, x1, x2, x3, x4⟩ := h
  refine ⟨va_K.moved hW.alike h1, fun w hw => bw_warm (List.mem_filter.mp hw).2 hW (h2 w hw), Nat.le_trans h3 hz, fun i hi => ?_, vx_Zq.moved hW.alike (vx_Zq.kept h5 hk), vx_Zq.moved hW.alike (vx_Zq.kept h6 hk), fun q hq => va_Nc.moved hW.alike (h7 q hq), ?_⟩
  · rw [hρ (SCR + 1 + i) (by omega)]
    exact ⟨va_Z.moved hW.alike (va_Z.kept (h4 i hi).1 hk), va_T.moved hW.alike (va_T.kept (h4 i hi).2 hk)⟩
  · rw [hρ SCR (Nat.le_refl _)]
    exact ⟨va_X.moved hW.alike (va_X.kept x1 (hk _ x2 x3)), Nat.lt_of_lt_of_le x2 hz, x3, x4.moved hW hk hρ⟩
def mv (ρ : Nat → Nat) (v : Value) : Value := match v with
  | .ref a => .ref (ρ a)
  | w => w
def ml (ρ : Nat → Nat) (q : Nat × Value) : Nat × Value := (q.1, mv ρ q.2)
def vok (n : Nat) (v : Value) : Prop := match v with
  | .ref a => a < n ∨ SCR ≤ a
  | _ => True
def sok (n : Nat) : List Value → Prop
  | [] => True
  | v :: r => vok n v ∧ sok n r
def lok (n : Nat) : List (Nat × Value) → Prop
  | [] => True
  | q :: r => vok n q.2 ∧ lok n r
def Ext (M0 : Mem) (ρ0 : Nat → Nat) (M : Mem) (ρ : Nat → Nat) : Prop := mN M0 ≤ mN M ∧ ∀ a, (a < mN M0 ∨ SCR ≤ a) → ρ a = ρ0 a
theorem Ext.rf (M : Mem) (ρ : Nat → Nat) : Ext M ρ M ρ := ⟨Nat.le_refl _, fun _ _ => rfl⟩
theorem Ext.tr {M0 M1 M2 : Mem} {ρ0 ρ1 ρ2 : Nat → Nat} (h : Ext M0 ρ0 M1 ρ1) (k : Ext M1 ρ1 M2 ρ2) : Ext M0 ρ0 M2 ρ2 :=
  ⟨Nat.le_trans h.1 k.1, fun a ha => (k.2 a (ha.imp (fun q => Nat.lt_of_lt_of_le q h.1) id)).trans (h.2 a ha)⟩
theorem vok_mono {n k : Nat} (h : n ≤ k) {v : Value} (hv : vok n v) : vok k v := by
  cases v <;> first | trivial | exact hv.imp (fun q => Nat.lt_of_lt_of_le q h) id
theorem sok_mono {n k : Nat} (h : n ≤ k) : ∀ {l : List Value}, sok n l → sok k l
  | [], _ => trivial
  | _ :: _, hv => ⟨vok_mono h hv.1, sok_mono h hv.2⟩
theorem lok_mono {n k : Nat} (h : n ≤ k) : ∀ {l : List (Nat × Value)}, lok n l → lok k l
  | [], _ => trivial
  | _ :: _, hv => ⟨vok_mono h hv.1, lok_mono h hv.2⟩
theorem mv_ext {n : Nat} {ρ ρ' : Nat → Nat} (h : ∀ a, (a < n ∨ SCR ≤ a) → ρ' a = ρ a) {v : Value} (hv : vok n v) : mv ρ' v = mv ρ v := by
  cases v <;> first | rfl | exact congrArg Value.ref (h _ hv)
theorem mvs_ext {n : Nat} {ρ ρ' : Nat → Nat} (h : ∀ a, (a < n ∨ SCR ≤ a) → ρ' a = ρ a) : ∀ {l : List Value}, sok n l → l.map (mv ρ') = l.map (mv ρ)
  | [], _ => rfl
  | _ :: _, hv => by rw [List.map_cons, List.map_cons, mv_ext h hv.1, mvs_ext h hv.2]
theorem mls_ext {n : Nat} {ρ ρ' : Nat → Nat} (h : ∀ a, (a < n ∨ SCR ≤ a) → ρ' a = ρ a) : ∀ {l : List (Nat × Value)}, lok n l → l.map (ml ρ') = l.map (ml ρ)
  | [], _ => rfl
  | q :: _, hv => by rw [List.map_cons, List.map_cons, show ml ρ' q = ml ρ q from by unfold ml; rw [mv_ext h hv.1], mls_ext h hv.2]
theorem lok_at {n : Nat} : ∀ {l : List (Nat × Value)} {k : Nat} {q : Nat × Value}, lok n l → l[k]? = some q → vok n q.2
  | [], _, _, _, h => by cases h
  | _ :: _, 0, _, hv, h => by cases h; exact hv.1
  | _ :: _, k + 1, _, hv, h => lok_at (k := k) hv.2 h
theorem lok_filter {n : Nat} (p : Nat × Value → Bool) : ∀ {l : List (Nat × Value)}, lok n l → lok n (l.filter p)
  | [], _ => trivial
  | q :: r, hv => by
    rw [List.filter_cons]
    by_cases hp : p q = true
    · rw [if_pos hp]; exact ⟨hv.1, lok_filter p hv.2⟩
    · rw [if_neg hp]; exact lok_filter p hv.2
theorem lok_of {n : Nat} : ∀ {l : List (Nat × Value)}, (∀ q ∈ l, vok n q.2) → lok n l
  | [], _ => trivial
  | _ :: _, h => ⟨h _ List.mem_cons_self, lok_of (fun q hq => h q (List.mem_cons_of_mem _ hq))⟩
theorem lok_mem {n : Nat} : ∀ {l : List (Nat × Value)} {q : Nat × Value}, lok n l → q ∈ l → vok n q.2
  | _ :: _, _, hv, h => by
    rcases List.mem_cons.mp h with rfl | h
    · exact hv.1
    · exact lok_mem hv.2 h
theorem lok_pick {n : Nat} {l : List (Nat × Value)} (h : lok n l) (ks : List Nat) : lok n (lv_pick l ks) := lok_of fun q hq => by
  obtain ⟨k, -, hk⟩ := List.mem_filterMap.mp hq
  exact lok_at h hk
theorem ml_pick (ρ : Nat → Nat) (l : List (Nat × Value)) (ks : List Nat) : lv_pick (l.map (ml ρ)) ks = (lv_pick l ks).map (ml ρ) := by
  unfold lv_pick
  induction ks with
  | nil => rfl
  | cons k r ih =>
    rw [List.filterMap_cons, List.filterMap_cons, List.getElem?_map]
    cases l[k]? with
    | none => exact ih
    | some q => exact congrArg _ ih
theorem ml_filter (ρ : Nat → Nat) (p : Nat × Value → Bool) (hp : ∀ q, p (ml ρ q) = p q) (l : List (Nat × Value)) : (l.map (ml ρ)).filter p = (l.filter p).map (ml ρ) := by
  induction l with
  | nil => rfl
  | cons q r ih =>
    rw [List.map_cons, List.filter_cons, List.filter_cons, hp q, ih]
    cases p q <;> rfl
theorem mv_cat (ρ : Nat → Nat) (v : Value) : (mv ρ v).category = v.category := by cases v <;> rfl
theorem mv_cats (ρ : Nat → Nat) (l : List Value) : (l.map (mv ρ)).map (fun v => v.category) = l.map (fun v => v.category) := by
  rw [List.map_map]
  exact List.map_congr_left fun v _ => mv_cat ρ v
/-- the place of an address in the world -/
theorem ws_at {G : Gl} {M : Mem} {ρ : Nat → Nat} {a : Nat} (h : a < mN M) : (wsM G M ρ)[a]? = some (ρ a, cE G M ρ a) := by
  unfold wsM
  rw [List.getElem?_map, List.getElem?_range h]
  rfl
theorem kd_lt {G : Gl} {M : Mem} {ρ : Nat → Nat} {H : Heap} (h : HR G M ρ H) {a k : Nat} (hk : (mK M a).1 = k) (h9 : k ≠ 99) : a < mN M := by
  rcases Nat.lt_or_ge a (mN M) with q | q
  · exact q
  · exact absurd ((h.2.2.1 a q).symm.trans hk) (fun z => h9 z.symm)
theorem ws_obj {G : Gl} {M : Mem} {ρ : Nat → Nat} {H : Heap} (h : HR G M ρ H) {a k : Nat} (hk : (mK M a).1 = k) (hlt : k < 13) : (wsM G M ρ)[a]? = some (ρ a, .inr (k, flds M ρ k a)) := by
  subst hk
  rw [ws_at (kd_lt h rfl (by omega)), cE, if_pos hlt]
theorem ws_set {G : Gl} {M M' : Mem} {ρ : Nat → Nat} {a : Nat} {e : va_E} (hn : mN M' = mN M) (he : cE G M' ρ a = e) (ho : ∀ b, b ≠ a → cE G M' ρ b = cE G M ρ b) : (wsM G M ρ).set a (ρ a, e) = wsM G M' ρ := by
  subst he
  apply List.ext_getElem?
  intro j
  rw [List.getElem?_set]
  by_cases hj : a = j
  · subst hj
    rw [if_pos rfl]
    by_cases hl : a < mN M
    · rw [if_pos (by unfold wsM; simp; exact hl), ws_at (by rw [hn]; exact hl)]
    · rw [if_neg (by unfold wsM; simp; omega)]
      unfold wsM
      rw [List.getElem?_eq_none (by simp; omega)]
  · rw [if_neg hj]
    unfold wsM
    rw [hn, List.getElem?_map, List.getElem?_map]
    by_cases hl : j < mN M
    · rw [List.getElem?_range hl]
      show some (ρ j, cE G M ρ j) = some (ρ j, cE G M' ρ j)
      rw [ho j (fun q => hj q.symm)]
    · rw [List.getElem?_eq_none (by simp; omega)]
      rfl
theorem ws_push {G : Gl} {M M' : Mem} {ρ ρ' : Nat → Nat} {q : Nat} {e : va_E} (hn : mN M' = mN M + 1) (he : cE G M' ρ' (mN M) = e) (hq : ρ' (mN M) = q) (ho : ∀ b, b < mN M → (ρ' b, cE G M' ρ' b) = (ρ b, cE G M ρ b)) : wsM G M ρ ++ [(q, e)] = wsM G M' ρ' := by
  subst he; subst hq
  unfold wsM
  rw [hn, List.range_succ, List.map_append]
  congr 1
  exact List.map_congr_left fun b hb => (ho b (List.mem_range.mp hb)).symm
abbrev Cx : Type := Program × Launch × Env × Room × State × MethodId × Array Value × List Frame × Method × Code × (State → Prop)
abbrev Cx.p (X : Cx) : Program := X.1
abbrev Cx.l (X : Cx) : Launch := X.2.1
abbrev Cx.e (X : Cx) : Env := X.2.2.1
abbrev Cx.R (X : Cx) : Room := X.2.2.2.1
abbrev Cx.s (X : Cx) : State := X.2.2.2.2.1
abbrev Cx.m (X : Cx) : MethodId := X.2.2.2.2.2.1
abbrev Cx.args (X : Cx) : Array Value := X.2.2.2.2.2.2.1
abbrev Cx.below (X : Cx) : List Frame := X.2.2.2.2.2.2.2.1
abbrev Cx.meth (X : Cx) : Method := X.2.2.2.2.2.2.2.2.1
abbrev Cx.c (X : Cx) : Code := X.2.2.2.2.2.2.2.2.2.1
abbrev Cx.Q (X : Cx) : State → Prop := X.2.2.2.2.2.2.2.2.2.2
/-- the entry's addresses and memory, the outcome and memory at the end -/
abbrev Bx : Type := (Nat → Nat) × Mem × Out × Mem
def vokO (n : Nat) (v : Option Value) : Prop := match v with
  | none => True
  | some w => vok n w
def QcP (G : Gl) (B : Bx) : Array Value → State → Outcome → State → Prop := fun _ st oc t => (∃ (v : Option Value) (ρ : Nat → Nat), B.2.2.1 = .inl v ∧ oc = .returned (v.map (mv ρ)) ∧ vokO (mN B.2.2.2) v ∧ Ext B.2.1 B.1 B.2.2.2 ρ ∧ HR G B.2.2.2 ρ t.heap) ∧ va_F (AO G) st t
def XcP (G : Gl) (B : Bx) : String → State → State → Prop := fun E st t => (∃ (e : Nat) (ρ : Nat → Nat), B.2.2.1 = .inr e ∧ E = exN e ∧ Ext B.2.1 B.1 B.2.2.2 ρ ∧ HR G B.2.2.2 ρ t.heap) ∧ va_F (AO G) st t
/-- a method: its class, code, what it returns, the frames and words that it nests, its locals, its name, its table -/
abbrev Sx : Type := String × ByteArray × Option FieldType × Nat × Nat × Nat × String × List (Nat × Nat × Nat × Nat)
/-- what holds throughout a method's walk -/
def Ok (X : Cx) (G : Gl) (S : Sx) (B : Bx) : Prop :=
  X.p.tables.exec = Jvm.exec ∧ X.c.code = S.2.1 ∧ X.s.vm.findClass S.1 = some X.m.cls ∧ (∀ w ∈ GW, w.before X.args X.s = true) ∧ KN G B.1 X.s ∧ X.meth.locks = false ∧ X.l.stackTraces = false ∧
  X.Q = vx_MQ X.below (QcP G B) (XcP G B) X.args X.s (mC B.2.2.2 - mC B.2.1) (mS B.2.2.2 - mS B.2.1) (AO G) ∧ X.R = { frames := S.2.2.2.1, cells := mC B.2.2.2 - mC B.2.1, slots := mS B.2.2.2 - mS B.2.1, locals := S.2.2.2.2.1 } ∧ X.meth.sig.returnType = S.2.2.1 ∧
  X.c.maxLocals = S.2.2.2.2.2.1 ∧ X.meth.name = S.2.2.2.2.2.2.1 ∧ X.c.exceptionTable.toList = tableOf S.2.2.2.2.2.2.2
/-- THE JUDGEMENT: from the frame at pc with these locals and operands, over any heap that holds M, the machine comes to its end as B says -/
def V (G : Gl) (S : Sx) (B : Bx) (pc : Nat) (ls : List (Nat × Value)) (st : List Value) (M : Mem) : Prop :=
  (mC M ≤ mC B.2.2.2 ∧ mS M ≤ mS B.2.2.2) ∧ ∀ (X : Cx), Ok X G S B → ∀ (ρ : Nat → Nat) (H : Heap) (locs : List Loc) (cells slots : Nat) (la : Array Slot),
    HR G M ρ H → lok (mN M) ls → sok (mN M) st → Ext B.2.1 B.1 M ρ → va_S (AO G) X.s.heap H locs → cells + mC B.2.1 ≤ mC M → slots + mS B.2.1 ≤ mS M → lv_has la X.c.maxLocals (ls.map (ml ρ)) →
    W X.p X.l X.e X.R X.s X.m X.args X.below X.meth X.c H locs cells slots X.Q (F0 X.m pc la (st.map (mv ρ)))
