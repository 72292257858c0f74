section
-- ===== PART A: goes FIRST, ahead of the names: the tables' words, and 'selects' of the private methods out of them =====
/-- a private method of a class that the tables say can be made, by its rows of tables_1 -/
def lw_okq (q : MethodName × Nat) : Prop := (q.1.cls ≠ "java/lang/invoke/MethodHandle" ∧ q.1.cls ≠ "java/lang/invoke/VarHandle") ∧ Cond.instantiable q.1.cls q.2 ∈ tables_1 ∧ Cond.privateMethod q.1 ∈ tables_1 ∧ Cond.instanceMethod q.1 ∈ tables_1
theorem lw_p0 : lw_okq (⟨"java/lang/Throwable", "fillInStackTrace", "(I)Ljava/lang/Throwable;"⟩, 6) := ⟨⟨by decide +kernel, by decide +kernel⟩, List.mem_of_getElem? (i := 477) (by decide +kernel), List.mem_of_getElem? (i := 475) (by decide +kernel), List.mem_of_getElem? (i := 476) (by decide +kernel)⟩
theorem lw_p1 : lw_okq (⟨"GradedTopicBroker$State", "leaveShare", "(II)V"⟩, 11) := ⟨⟨by decide +kernel, by decide +kernel⟩, List.mem_of_getElem? (i := 139) (by decide +kernel), List.mem_of_getElem? (i := 626) (by decide +kernel), List.mem_of_getElem? (i := 627) (by decide +kernel)⟩
theorem lw_p2 : lw_okq (⟨"GradedTopicBroker$State", "keepRetained", "(LGradedTopicBroker$Message;)V"⟩, 11) := ⟨⟨by decide +kernel, by decide +kernel⟩, List.mem_of_getElem? (i := 139) (by decide +kernel), List.mem_of_getElem? (i := 650) (by decide +kernel), List.mem_of_getElem? (i := 651) (by decide +kernel)⟩
theorem lw_p3 : lw_okq (⟨"GradedTopicBroker$State", "dropRetained", "(I)V"⟩, 11) := ⟨⟨by decide +kernel, by decide +kernel⟩, List.mem_of_getElem? (i := 139) (by decide +kernel), List.mem_of_getElem? (i := 659) (by decide +kernel), List.mem_of_getElem? (i := 660) (by decide +kernel)⟩
theorem lw_p4 : lw_okq (⟨"GradedTopicBroker$State", "openRetained", "(I)V"⟩, 11) := ⟨⟨by decide +kernel, by decide +kernel⟩, List.mem_of_getElem? (i := 139) (by decide +kernel), List.mem_of_getElem? (i := 663) (by decide +kernel), List.mem_of_getElem? (i := 664) (by decide +kernel)⟩
theorem lw_p5 : lw_okq (⟨"GradedTopicBroker$Text", "coversWith", "(LGradedTopicBroker$Text;I)Z"⟩, 5) := ⟨⟨by decide +kernel, by decide +kernel⟩, List.mem_of_getElem? (i := 33) (by decide +kernel), List.mem_of_getElem? (i := 675) (by decide +kernel), List.mem_of_getElem? (i := 676) (by decide +kernel)⟩
theorem lw_p6 : lw_okq (⟨"GradedTopicBroker$Text", "fits", "(I)Z"⟩, 5) := ⟨⟨by decide +kernel, by decide +kernel⟩, List.mem_of_getElem? (i := 33) (by decide +kernel), List.mem_of_getElem? (i := 679) (by decide +kernel), List.mem_of_getElem? (i := 680) (by decide +kernel)⟩
theorem lw_p7 : lw_okq (⟨"GradedTopicBroker$Text", "levelAt", "(I)J"⟩, 5) := ⟨⟨by decide +kernel, by decide +kernel⟩, List.mem_of_getElem? (i := 33) (by decide +kernel), List.mem_of_getElem? (i := 683) (by decide +kernel), List.mem_of_getElem? (i := 684) (by decide +kernel)⟩
theorem lw_p8 : lw_okq (⟨"GradedTopicBroker$State", "give", "(LGradedTopicBroker$Client;LGradedTopicBroker$Message;II)V"⟩, 11) := ⟨⟨by decide +kernel, by decide +kernel⟩, List.mem_of_getElem? (i := 139) (by decide +kernel), List.mem_of_getElem? (i := 689) (by decide +kernel), List.mem_of_getElem? (i := 690) (by decide +kernel)⟩
theorem lw_p9 : lw_okq (⟨"GradedTopicBroker$State", "sendMessage", "(LGradedTopicBroker$Client;LGradedTopicBroker$Message;I)V"⟩, 11) := ⟨⟨by decide +kernel, by decide +kernel⟩, List.mem_of_getElem? (i := 139) (by decide +kernel), List.mem_of_getElem? (i := 697) (by decide +kernel), List.mem_of_getElem? (i := 698) (by decide +kernel)⟩
theorem lw_p10 : lw_okq (⟨"GradedTopicBroker$State", "countSent", "(LGradedTopicBroker$Client;)Z"⟩, 11) := ⟨⟨by decide +kernel, by decide +kernel⟩, List.mem_of_getElem? (i := 139) (by decide +kernel), List.mem_of_getElem? (i := 701) (by decide +kernel), List.mem_of_getElem? (i := 702) (by decide +kernel)⟩
theorem lw_p11 : lw_okq (⟨"GradedTopicBroker$State", "mayStart", "(LGradedTopicBroker$Client;)Z"⟩, 11) := ⟨⟨by decide +kernel, by decide +kernel⟩, List.mem_of_getElem? (i := 139) (by decide +kernel), List.mem_of_getElem? (i := 709) (by decide +kernel), List.mem_of_getElem? (i := 710) (by decide +kernel)⟩
theorem lw_p12 : lw_okq (⟨"GradedTopicBroker$State", "startFlight", "(LGradedTopicBroker$Client;LGradedTopicBroker$Message;)V"⟩, 11) := ⟨⟨by decide +kernel, by decide +kernel⟩, List.mem_of_getElem? (i := 139) (by decide +kernel), List.mem_of_getElem? (i := 713) (by decide +kernel), List.mem_of_getElem? (i := 714) (by decide +kernel)⟩
theorem lw_p13 : lw_okq (⟨"GradedTopicBroker$State", "hold", "(LGradedTopicBroker$MessageList;LGradedTopicBroker$Message;)V"⟩, 11) := ⟨⟨by decide +kernel, by decide +kernel⟩, List.mem_of_getElem? (i := 139) (by decide +kernel), List.mem_of_getElem? (i := 729) (by decide +kernel), List.mem_of_getElem? (i := 730) (by decide +kernel)⟩
theorem lw_p14 : lw_okq (⟨"GradedTopicBroker$State", "takeMember", "(LGradedTopicBroker$Share;)I"⟩, 11) := ⟨⟨by decide +kernel, by decide +kernel⟩, List.mem_of_getElem? (i := 139) (by decide +kernel), List.mem_of_getElem? (i := 738) (by decide +kernel), List.mem_of_getElem? (i := 739) (by decide +kernel)⟩
theorem lw_p15 : lw_okq (⟨"GradedTopicBroker$State", "resend", "(LGradedTopicBroker$Client;LGradedTopicBroker$Message;)V"⟩, 11) := ⟨⟨by decide +kernel, by decide +kernel⟩, List.mem_of_getElem? (i := 139) (by decide +kernel), List.mem_of_getElem? (i := 765) (by decide +kernel), List.mem_of_getElem? (i := 766) (by decide +kernel)⟩
def lw_privs_1 : List (MethodName × Nat) := [(⟨"java/lang/Throwable", "fillInStackTrace", "(I)Ljava/lang/Throwable;"⟩, 6), (⟨"GradedTopicBroker$State", "leaveShare", "(II)V"⟩, 11), (⟨"GradedTopicBroker$State", "keepRetained", "(LGradedTopicBroker$Message;)V"⟩, 11), (⟨"GradedTopicBroker$State", "dropRetained", "(I)V"⟩, 11), (⟨"GradedTopicBroker$State", "openRetained", "(I)V"⟩, 11), (⟨"GradedTopicBroker$Text", "coversWith", "(LGradedTopicBroker$Text;I)Z"⟩, 5), (⟨"GradedTopicBroker$Text", "fits", "(I)Z"⟩, 5), (⟨"GradedTopicBroker$Text", "levelAt", "(I)J"⟩, 5), (⟨"GradedTopicBroker$State", "give", "(LGradedTopicBroker$Client;LGradedTopicBroker$Message;II)V"⟩, 11), (⟨"GradedTopicBroker$State", "sendMessage", "(LGradedTopicBroker$Client;LGradedTopicBroker$Message;I)V"⟩, 11), (⟨"GradedTopicBroker$State", "countSent", "(LGradedTopicBroker$Client;)Z"⟩, 11), (⟨"GradedTopicBroker$State", "mayStart", "(LGradedTopicBroker$Client;)Z"⟩, 11), (⟨"GradedTopicBroker$State", "startFlight", "(LGradedTopicBroker$Client;LGradedTopicBroker$Message;)V"⟩, 11), (⟨"GradedTopicBroker$State", "hold", "(LGradedTopicBroker$MessageList;LGradedTopicBroker$Message;)V"⟩, 11), (⟨"GradedTopicBroker$State", "takeMember", "(LGradedTopicBroker$Share;)I"⟩, 11), (⟨"GradedTopicBroker$State", "resend", "(LGradedTopicBroker$Client;LGradedTopicBroker$Message;)V"⟩, 11)]
theorem lw_r1 : ∀ q ∈ lw_privs_1, lw_okq q := List.forall_mem_cons.mpr ⟨lw_p0, List.forall_mem_cons.mpr ⟨lw_p1, List.forall_mem_cons.mpr ⟨lw_p2, List.forall_mem_cons.mpr ⟨lw_p3, List.forall_mem_cons.mpr ⟨lw_p4, List.forall_mem_cons.mpr ⟨lw_p5, List.forall_mem_cons.mpr ⟨lw_p6, List.forall_mem_cons.mpr ⟨lw_p7, List.forall_mem_cons.mpr ⟨lw_p8, List.forall_mem_cons.mpr ⟨lw_p9, List.forall_mem_cons.mpr ⟨lw_p10, List.forall_mem_cons.mpr ⟨lw_p11, List.forall_mem_cons.mpr ⟨lw_p12, List.forall_mem_cons.mpr ⟨lw_p13, List.forall_mem_cons.mpr ⟨lw_p14, List.forall_mem_cons.mpr ⟨lw_p15, fun _ h => absurd h List.not_mem_nil⟩⟩⟩⟩⟩⟩⟩⟩⟩⟩⟩⟩⟩⟩⟩⟩
theorem lw_p16 : lw_okq (⟨"GradedTopicBroker$State", "sendRelease", "(LGradedTopicBroker$Client;LGradedTopicBroker$Message;)V"⟩, 11) := ⟨⟨by decide +kernel, by decide +kernel⟩, List.mem_of_getElem? (i := 139) (by decide +kernel), List.mem_of_getElem? (i := 769) (by decide +kernel), List.mem_of_getElem? (i := 770) (by decide +kernel)⟩
theorem lw_p17 : lw_okq (⟨"GradedTopicBroker$State", "startPending", "(LGradedTopicBroker$Client;)V"⟩, 11) := ⟨⟨by decide +kernel, by decide +kernel⟩, List.mem_of_getElem? (i := 139) (by decide +kernel), List.mem_of_getElem? (i := 777) (by decide +kernel), List.mem_of_getElem? (i := 778) (by decide +kernel)⟩
theorem lw_p18 : lw_okq (⟨"GradedTopicBroker", "takeBuffer", "()I"⟩, 9) := ⟨⟨by decide +kernel, by decide +kernel⟩, List.mem_of_getElem? (i := 25) (by decide +kernel), List.mem_of_getElem? (i := 858) (by decide +kernel), List.mem_of_getElem? (i := 859) (by decide +kernel)⟩
theorem lw_p19 : lw_okq (⟨"GradedTopicBroker", "readFilter", "(I)LGradedTopicBroker$Text;"⟩, 9) := ⟨⟨by decide +kernel, by decide +kernel⟩, List.mem_of_getElem? (i := 25) (by decide +kernel), List.mem_of_getElem? (i := 862) (by decide +kernel), List.mem_of_getElem? (i := 863) (by decide +kernel)⟩
theorem lw_p20 : lw_okq (⟨"GradedTopicBroker", "readText", "(IZ)LGradedTopicBroker$Text;"⟩, 9) := ⟨⟨by decide +kernel, by decide +kernel⟩, List.mem_of_getElem? (i := 25) (by decide +kernel), List.mem_of_getElem? (i := 866) (by decide +kernel), List.mem_of_getElem? (i := 867) (by decide +kernel)⟩
theorem lw_p21 : lw_okq (⟨"GradedTopicBroker", "requireConnection", "(I)V"⟩, 9) := ⟨⟨by decide +kernel, by decide +kernel⟩, List.mem_of_getElem? (i := 25) (by decide +kernel), List.mem_of_getElem? (i := 876) (by decide +kernel), List.mem_of_getElem? (i := 877) (by decide +kernel)⟩
theorem lw_p22 : lw_okq (⟨"GradedTopicBroker", "readTopic", "(I)LGradedTopicBroker$Text;"⟩, 9) := ⟨⟨by decide +kernel, by decide +kernel⟩, List.mem_of_getElem? (i := 25) (by decide +kernel), List.mem_of_getElem? (i := 960) (by decide +kernel), List.mem_of_getElem? (i := 961) (by decide +kernel)⟩
theorem lw_p23 : lw_okq (⟨"GradedTopicBroker$State", "resendLate", "(LGradedTopicBroker$Client;)V"⟩, 11) := ⟨⟨by decide +kernel, by decide +kernel⟩, List.mem_of_getElem? (i := 139) (by decide +kernel), List.mem_of_getElem? (i := 973) (by decide +kernel), List.mem_of_getElem? (i := 974) (by decide +kernel)⟩
theorem lw_p24 : lw_okq (⟨"GradedTopicBroker$State", "expire", "(I)V"⟩, 11) := ⟨⟨by decide +kernel, by decide +kernel⟩, List.mem_of_getElem? (i := 139) (by decide +kernel), List.mem_of_getElem? (i := 979) (by decide +kernel), List.mem_of_getElem? (i := 980) (by decide +kernel)⟩
theorem lw_p25 : lw_okq (⟨"GradedTopicBroker", "requireSubscription", "(II)V"⟩, 9) := ⟨⟨by decide +kernel, by decide +kernel⟩, List.mem_of_getElem? (i := 25) (by decide +kernel), List.mem_of_getElem? (i := 1059) (by decide +kernel), List.mem_of_getElem? (i := 1060) (by decide +kernel)⟩
def lw_privs_2 : List (MethodName × Nat) := [(⟨"GradedTopicBroker$State", "sendRelease", "(LGradedTopicBroker$Client;LGradedTopicBroker$Message;)V"⟩, 11), (⟨"GradedTopicBroker$State", "startPending", "(LGradedTopicBroker$Client;)V"⟩, 11), (⟨"GradedTopicBroker", "takeBuffer", "()I"⟩, 9), (⟨"GradedTopicBroker", "readFilter", "(I)LGradedTopicBroker$Text;"⟩, 9), (⟨"GradedTopicBroker", "readText", "(IZ)LGradedTopicBroker$Text;"⟩, 9), (⟨"GradedTopicBroker", "requireConnection", "(I)V"⟩, 9), (⟨"GradedTopicBroker", "readTopic", "(I)LGradedTopicBroker$Text;"⟩, 9), (⟨"GradedTopicBroker$State", "resendLate", "(LGradedTopicBroker$Client;)V"⟩, 11), (⟨"GradedTopicBroker$State", "expire", "(I)V"⟩, 11), (⟨"GradedTopicBroker", "requireSubscription", "(II)V"⟩, 9)]
theorem lw_r2 : ∀ q ∈ lw_privs_2, lw_okq q := List.forall_mem_cons.mpr ⟨lw_p16, List.forall_mem_cons.mpr ⟨lw_p17, List.forall_mem_cons.mpr ⟨lw_p18, List.forall_mem_cons.mpr ⟨lw_p19, List.forall_mem_cons.mpr ⟨lw_p20, List.forall_mem_cons.mpr ⟨lw_p21, List.forall_mem_cons.mpr ⟨lw_p22, List.forall_mem_cons.mpr ⟨lw_p23, List.forall_mem_cons.mpr ⟨lw_p24, List.forall_mem_cons.mpr ⟨lw_p25, fun _ h => absurd h List.not_mem_nil⟩⟩⟩⟩⟩⟩⟩⟩⟩⟩
def lw_privs : List (MethodName × Nat) := lw_privs_1 ++ (lw_privs_2)
def lw_tbl : List Cond := k2_sels lw_privs ++ tables_1
theorem lw_privs_ok : ∀ q ∈ lw_privs, lw_okq q := by
  show ∀ q ∈ lw_privs_1 ++ (lw_privs_2), lw_okq q
  exact List.forall_mem_append.mpr ⟨lw_r1, lw_r2⟩
/-- the streams that the claim lets the run draw from -/
abbrev lw_cs : List Choice := [Jvm.Choice.named "NaN.bits"]
theorem lw_bits : nanBits ∈ lw_cs := by first | decide | exact List.mem_cons_self | simp [lw_cs, nanBits]
end
section
/-! ===== BEGIN words of one list among another's, by their places ===== -/
theorem goodIn_r {big : List Cond} (ws : List Cond) (ps : List Nat) (hp : ws = ps.filterMap (fun i => big[i]?)) (h : ws.all goodWord = true) : GoodIn big ws := by
  intro w hw
  have h1 := List.all_eq_true.mp h w hw
  rw [hp] at hw
  obtain ⟨i, -, hi⟩ := List.mem_filterMap.mp hw
  have hm : w ∈ big := by first | exact List.mem_of_getElem? hi | exact List.getElem?_mem hi
  exact ⟨hm, good_of_word h1⟩
theorem goodIn_app {big a b : List Cond} (ha : GoodIn big a) (hb : GoodIn big b) : GoodIn big (a ++ b) := fun w h => (List.mem_append.mp h).elim (ha w) (hb w)
theorem goodIn_ca {big a b : List Cond} {c : Cond} (ha : GoodIn big (c :: a)) (hb : GoodIn big b) : GoodIn big (c :: (a ++ b)) := fun w h => (List.mem_cons.mp h).elim (fun e => ha w (List.mem_cons.mpr (Or.inl e))) (fun h => (List.mem_append.mp h).elim (fun h => ha w (List.mem_cons.mpr (Or.inr h))) (hb w))
theorem goodIn_sub {big ws : List Cond} (hm : ∀ w ∈ ws, w ∈ big) (h : ws.all goodWord = true) : GoodIn big ws := fun w hw => ⟨hm w hw, good_of_word (List.all_eq_true.mp h w hw)⟩
/-! ===== END ===== -/

/-! ===== BEGIN exceptions that leave a method, and their catching by the caller (launches without stack traces) ===== -/
section VXA
/-! The laws vx_back, vx_callV, vx_callS, vx_callSW, vx_throw0, vx_throwS follow proofs of the library, with one case more: JvmDerived/Free/Laws.lean (Back.of_free), Shelf42/LK1.lean (callV, callS), Shelf/KitTraced.lean (throwNew0V, throwNewS). -/
/-- where a method has thrown q: the class by its name, the cell, what was written, the world -/
def vx_T (XC : String → State → State → Prop) (st : State) (q : Addr) (t : State) (mc ms : Nat) (free : Addr → Prop) : Prop :=
  ∃ (E : String) (ce : Cell) (L : List Loc), XC E st t ∧ t.heap[q]? = some ce ∧ ce.vm = .none ∧ st.vm.findClass E = some ce.cls ∧ st.WarmedH t.vm ∧ st.sameButNew ({ t with vm := st.vm } : State) L mc ms ∧ ∀ z ∈ L, free z.base
def vx_Q (Qc : Array Value → State → Outcome → State → Prop) (XC : String → State → State → Prop) (mc ms : Nat) (free : Addr → Prop) : Array Value → State → Outcome → State → Prop := fun a st o t =>
  (Qc a st o t ∧ ∃ L, FrameEnd st o t L mc ms ∧ ∀ q ∈ L, free q.base) ∨ ∃ q, o = .threw q ∧ vx_T XC st q t mc ms free
/-- a callee that returns or throws -/
def vx_Met (l : Launch) (y : MethodName) (ws : List Cond) (rm : Room) (Pc : Array Value → State → Prop) (Qc : Array Value → State → Outcome → State → Prop) (XC : String → State → State → Prop) (mc ms : Nat) (free : Addr → Prop) : Prop :=
  MetFree l y (headSpec ws rm) Pc (fun _ _ _ _ _ => True) (vx_Q Qc XC mc ms free)
def vx_Post (XC : String → State → State → Prop) (mc ms : Nat) (free : Addr → Prop) : Pt → Array Value → Addr → Pt → Prop := fun A a q B =>
  ∃ (g : JFrame) (mk : MethodId) (t : State) (L : List Loc) (E : String) (ce : Cell), B.U.heap = t.heap ∧ B.U.vm = t.vm ∧ XC E (A.U.calling g mk a) t ∧ t.heap[q]? = some ce ∧ ce.vm = .none ∧ A.U.vm.findClass E = some ce.cls ∧ B.locs = A.locs ++ L ∧ (∀ z ∈ L, free z.base) ∧ B.cells = A.cells + mc ∧ B.slots = A.slots + ms
def vx_Back (l : Launch) (R : Room) (p : Program) (e : Env) (below : List Frame) (s : State) (sargs : Array Value) (y : MethodName) (len W9 : Nat)
    (Pre : Pt → Array Value → Prop) (Post : Pt → Array Value → Option Value → Pt → Prop) (PostX : Pt → Array Value → Addr → Pt → Prop) : Prop :=
  ∀ (m : MethodId) (meth : Method) (c : Code) (A : Pt) (g : JFrame) (ig : Instr) (mk : MethodId) (a : Array Value),
    Stand p l e R s m sargs below meth c A.U A.locs A.cells A.slots → g.method = m → g.locals.size = c.maxLocals → decode c.code g.pc = .ok (ig, len) →
    2 * g.monitorRoom + (g.stack.map fun v => v.category).sum ≤ W9 → A.U.methodNamed? y = some mk → Pre A a →
    (∃ (v : Option Value) (B : Pt), Stand p l e R s m sargs below meth c B.U B.locs B.cells B.slots ∧ Post A a v B ∧
      Steps p.tables e below (doInvoke e (A.U.setTop g) [] mk a).1 (B.U.setTop { g with pc := g.pc + len, stack := v.toList ++ g.stack })) ∨
    (∃ (q : Addr) (B : Pt), Stand p l e R s m sargs below meth c B.U B.locs B.cells B.slots ∧ PostX A a q B ∧
      Steps p.tables e below (doInvoke e (A.U.setTop g) [] mk a).1 ((B.U.setTop g).pushFrame (.throwing q)))
section Payer
variable {l : Launch} {R : Room} {p : Program} {e : Env} {below : List Frame} {s : State} {sargs : Array Value} {y : MethodName} {len W9 : Nat}
theorem vx_back {ws : List Cond} {rm : Room} {Pc : Array Value → State → Prop} {Qc : Array Value → State → Outcome → State → Prop} {XC : String → State → State → Prop} {mc ms : Nat} {free : Addr → Prop} {bytes : ByteArray} {maxL : Nat} {ret : Option FieldType}
    (hM : vx_Met l y ws rm Pc Qc XC mc ms free) (hblind : FrameBlind Pc) (hrc : rm.cells = mc) (hrs : rm.slots = ms)
    (hframes : rm.frames + 1 ≤ R.frames) (hlocals : W9 + (maxL + 11) + rm.locals ≤ R.locals)
    (hws : ∀ w ∈ ws, ∀ a' U, s.WarmedH U.vm → w.before a' U = true) (hcode : Cond.code y bytes maxL ret ∈ ws) (hinit : ∀ a' U, s.WarmedH U.vm → (Cond.initialized y.cls).before a' U = true) :
    vx_Back l R p e below s sargs y len W9 (PreOf R mc ms Pc) (PostOf Qc mc ms free) (vx_Post XC mc ms free) := by
  intro m meth c A g ig mk a X hg hsize hdg hW hn hp
  have h1 : (headSpec ws rm).pre.before a A.U = true := atoms_intro fun w hw => hws w hw _ _ X.warmed
  have h2 : (Cond.code y bytes maxL ret).before a A.U = true := hws _ hcode _ _ X.warmed
  have h3 : (Cond.initialized y.cls).before a A.U = true := hinit _ _ X.warmed
  have h4 : A.cells + (headSpec ws rm).room.cells ≤ R.cells := by rw [show (headSpec ws rm).room.cells = mc from hrc]; exact hp.1
  have h5 : A.slots + (headSpec ws rm).room.slots ≤ R.slots := by rw [show (headSpec ws rm).room.slots = ms from hrs]; exact hp.2.1
  have hPc : Pc a (A.U.calling g mk a) := hblind _ _ _ _ hp.2.2
  obtain ⟨U, Ls, c0, s0⟩ := A
  dsimp only [Pt.U, Pt.locs, Pt.cells, Pt.slots] at h1 h2 h3 h4 h5 X hn hPc ⊢
  obtain ⟨methY, cY, hmY, hcY, -, hlY, -, -, -, -⟩ := Cond.code_spec hn h2
  obtain ⟨kY, hkY, -⟩ := className_of_methodNamed hn
  have hinitY : kY.init = .initialized := Cond.initialized_spec (findClass_of_methodNamed hn) hkY h3
  have h : At U g.method c below := by rw [hg]; exact X.here
  have hlocals9 : W9 + (maxL + 11) + (headSpec ws rm).room.locals ≤ R.locals := hlocals
  have happ : (headSpec ws rm).appliesLoose y e.platform (U.calling g mk a) = true :=
    Spec.appliesLoose_calling (g := g) h hdg hn hkY hinitY
      (X.room_calling (g := g) (R' := (headSpec ws rm).room) hsize hmY hcY hframes (by rw [hlY]; omega) h4 h5) h1
  obtain ⟨mid, hmid⟩ := h.above
  have hfr : (U.setTop g).frames = (.java g :: mid) ++ below := by rw [State.frames_setTop' g h.top, hmid]; rfl
  obtain ⟨o, s₂, hsteps, -, hend, hq⟩ := Steps.callFree hM p X.admits X.cas X.clock (acts := []) hfr happ hPc trivial
  have hq' : vx_Q Qc XC mc ms free a (U.calling g mk a) o s₂ := hq
  rw [State.frames_setTop' g h.top] at hend
  obtain ⟨g₀, hg0⟩ := Option.isSome_iff_exists.mp h.top
  obtain ⟨r, hr⟩ := State.topJava?_eq_some.mp hg0
  have hr' : (({ U with heap := s₂.heap, slotsUsed := s₂.slotsUsed } : State).setVm s₂.vm).frames = .java g₀ :: r := hr
  rcases hq' with ⟨hqc, L, hfe, hL⟩ | ⟨q, rfl, E, ce, L, hx, hce, hcv, hcl, hW₂, hsm, hL⟩
  · obtain ⟨⟨v, rfl⟩, hW₂, e2, q2, q3, q4, q5, q6⟩ := id hfe
    have e3 : s₂ = ({ (U.calling g mk a).setFrames s₂.frames with heap := s₂.heap, slotsUsed := s₂.slotsUsed } : State).setVm s₂.vm := by
      have : s₂ = ({ s₂ with vm := (U.calling g mk a).vm } : State).setVm s₂.vm := rfl
      rw [e2] at this
      exact this
    obtain ⟨c₂, i₂, len₂, hc₂, hd₂, hf₂⟩ := hend
    have hW' : U.WarmedH s₂.vm := hW₂
    have hcc : c₂ = c := by
      have h1 : s₂.code? g.method = U.code? g.method := by
        rw [State.code?_eq, State.code?_eq, hW'.alike.method?]
      exact Option.some.inj (hc₂.symm.trans (h1.trans h.code))
    subst hcc
    have hlen : len₂ = len := by rw [hdg] at hd₂; cases hd₂; rfl
    subst hlen
    have hs₂ : s₂ = (({ U with heap := s₂.heap, slotsUsed := s₂.slotsUsed } : State).setVm s₂.vm).setTop { g with pc := g.pc + len₂, stack := v.toList ++ g.stack } := by
      refine e3.trans ?_
      rw [hf₂, State.calling_eq h.top, State.setFrames_setFrames, State.setTop_of_frames _ hr', hr]
      rfl
    have hsame : U.sameButNew ({ U with heap := s₂.heap, slotsUsed := s₂.slotsUsed } : State) L mc ms := by
      refine ⟨?_, q2, q3, q4, q5, q6⟩
      obtain ⟨t, ht, -⟩ := State.frames_cons hr
      show ({ U with heap := s₂.heap, slotsUsed := s₂.slotsUsed } : State) = { U.setFrames U.frames with heap := s₂.heap, slotsUsed := s₂.slotsUsed }
      rw [State.setFrames_self ht]
    subst hg
    refine Or.inl ⟨v, ⟨(({ U with heap := s₂.heap, slotsUsed := s₂.slotsUsed } : State).setVm s₂.vm), Ls ++ L, c0 + mc, s0 + ms⟩,
      ⟨X.admits, X.cas, X.clock, X.frames, X.room, X.hears, X.method, X.code, (X.here.setHeapUsed s₂.heap s₂.slotsUsed).setVm hW'.alike, X.tail, State.WarmedH.trans X.warmed hW', X.limits, X.bytes, X.same.trans (hsame.setVm s.vm)⟩,
      ⟨g, mk, s₂, L, rfl, rfl, hqc, rfl, hL, rfl, rfl⟩, ?_⟩
    show Steps p.tables e below _ ((({ U with heap := s₂.heap, slotsUsed := s₂.slotsUsed } : State).setVm s₂.vm).setTop { g with pc := g.pc + len₂, stack := v.toList ++ g.stack })
    rw [← hs₂]
    exact hsteps
  · obtain ⟨e2, q2, q3, q4, q5, q6⟩ := id hsm
    have e3 : s₂ = ({ (U.calling g mk a).setFrames s₂.frames with heap := s₂.heap, slotsUsed := s₂.slotsUsed } : State).setVm s₂.vm := by
      have : s₂ = ({ s₂ with vm := (U.calling g mk a).vm } : State).setVm s₂.vm := rfl
      rw [e2] at this
      exact this
    have hf₂ : s₂.frames = .throwing q :: .java g :: U.frames.tail := hend
    have hW' : U.WarmedH s₂.vm := hW₂
    have hs₂ : s₂ = ((({ U with heap := s₂.heap, slotsUsed := s₂.slotsUsed } : State).setVm s₂.vm).setTop g).pushFrame (.throwing q) := by
      refine e3.trans ?_
      rw [hf₂, State.calling_eq h.top, State.setFrames_setFrames, State.pushFrame, State.frames_setTop _ hr', State.setTop_of_frames _ hr', State.setFrames_setFrames, hr]
      rfl
    have hsame : U.sameButNew ({ U with heap := s₂.heap, slotsUsed := s₂.slotsUsed } : State) L mc ms := by
      refine ⟨?_, q2, q3, q4, q5, q6⟩
      obtain ⟨t, ht, -⟩ := State.frames_cons hr
      show ({ U with heap := s₂.heap, slotsUsed := s₂.slotsUsed } : State) = { U.setFrames U.frames with heap := s₂.heap, slotsUsed := s₂.slotsUsed }
      rw [State.setFrames_self ht]
    subst hg
    refine Or.inr ⟨q, ⟨(({ U with heap := s₂.heap, slotsUsed := s₂.slotsUsed } : State).setVm s₂.vm), Ls ++ L, c0 + mc, s0 + ms⟩,
      ⟨X.admits, X.cas, X.clock, X.frames, X.room, X.hears, X.method, X.code, (X.here.setHeapUsed s₂.heap s₂.slotsUsed).setVm hW'.alike, X.tail, State.WarmedH.trans X.warmed hW', X.limits, X.bytes, X.same.trans (hsame.setVm s.vm)⟩,
      ⟨g, mk, s₂, L, E, ce, rfl, rfl, hx, hce, hcv, hcl, rfl, hL, rfl, rfl⟩, ?_⟩
    show Steps p.tables e below _ (((({ U with heap := s₂.heap, slotsUsed := s₂.slotsUsed } : State).setVm s₂.vm).setTop g).pushFrame (.throwing q))
    rw [← hs₂]
    exact hsteps
end Payer
section Calls
variable {p : Program} {l : Launch} {e : Env} {R : Room} {s : State} {m : MethodId} {args : Array Value} {below : List Frame} {meth : Method} {c : Code} {T : State} {locs : List Loc} {cells slots : Nat}
theorem vx_callV (X : Stand p l e R s m args below meth c T locs cells slots) (hexec : p.tables.exec = Jvm.exec) {own C : String} {index : Nat} {y : MethodName} {bytes : ByteArray} {maxL : Nat} {ret : Option FieldType}
    (hown : s.vm.findClass own = some m.cls) (hlink : (Cond.methodLink own index y).before args s = true) (hinst : (Cond.instanceMethod y).before args s = true) (hsel : (Cond.selects C y y).before args s = true)
    (hcode : (Cond.code y bytes maxL ret).before args s = true) (hy : y.cls ≠ "java/lang/invoke/MethodHandle" ∧ y.cls ≠ "java/lang/invoke/VarHandle")
    {W9 : Nat} {Pre : Pt → Array Value → Prop} {Post : Pt → Array Value → Option Value → Pt → Prop} {PostX : Pt → Array Value → Addr → Pt → Prop} (hK : vx_Back l R p e below s args y 3 W9 Pre Post PostX)
    {b : Addr} {cellB : Cell} (hcell : T.heap[b]? = some cellB) (hobj : cellB.vm.isStatics = false) (hcls : s.vm.findClass C = some cellB.cls)
    {g : JFrame} (hg : g.method = m) (hsize : g.locals.size = c.maxLocals) {argsL rest : List Value} (hlen : ∀ sig, parseMethodDescriptor y.desc = some sig → argsL.length = sig.parameters.length)
    (hstack : g.stack = argsL.reverse ++ .ref b :: rest) (hW : 2 * g.monitorRoom + (rest.map fun v => v.category).sum ≤ W9) (hdg : decode c.code g.pc = .ok (.invokevirtual index, 3))
    (hpre : ∀ vm₁, s.WarmedH vm₁ → Pre ⟨T.setVm vm₁, locs, cells, slots⟩ (Value.ref b :: argsL).toArray) :
    (∃ (v : Option Value) (vm₁ : Vm) (B : Pt), s.WarmedH vm₁ ∧ Stand p l e R s m args below meth c B.U B.locs B.cells B.slots ∧ Post ⟨T.setVm vm₁, locs, cells, slots⟩ (Value.ref b :: argsL).toArray v B ∧
      ∀ target, Steps p.tables e below (B.U.setTop { g with pc := g.pc + 3, stack := v.toList ++ rest }) target → Steps p.tables e below (T.setTop g) target) ∨
    (∃ (q : Addr) (vm₁ : Vm) (B : Pt), s.WarmedH vm₁ ∧ Stand p l e R s m args below meth c B.U B.locs B.cells B.slots ∧ PostX ⟨T.setVm vm₁, locs, cells, slots⟩ (Value.ref b :: argsL).toArray q B ∧
      Steps p.tables e below (T.setTop g) ((B.U.setTop { g with stack := rest }).pushFrame (.throwing q))) := by
  obtain ⟨mk, methM, hnamed, hmethM, hstM, habM⟩ := Cond.instanceMethod_spec hinst
  obtain ⟨methM', cM, hmethM', -, -, -, -, -, -, hsigM⟩ := Cond.code_spec hnamed hcode
  cases hmethM.symm.trans hmethM'
  obtain ⟨c2, r2, m2, q1, q2, q3, q4, kP, hkP, hkPi⟩ := Cond.selects_spec hsel
  cases hcls.symm.trans q1
  cases (State.methodFound?_of_named hnamed hy).symm.trans q2
  cases hnamed.symm.trans q3
  have hselP : selectMethod e.platform s.vm cellB.cls mk = .method mk := by rw [Launch.admits_selectMethod X.admits]; exact q4
  obtain ⟨vm₁, X₁, hstep₁⟩ := X.invokevirtual hexec hown hlink hnamed hmethM hstM hkP hkPi hy (a := b) (cell := cellB) hcell
    (fun z h => by rw [h] at hobj; cases hobj) hselP hmethM habM hkP hkPi (g := g) hg (argsL := argsL) (rest := rest) (hlen _ hsigM) hstack hdg
  rcases hK m meth c ⟨T.setVm vm₁, locs, cells, slots⟩ { g with stack := rest } (.invokevirtual index) mk (Value.ref b :: argsL).toArray X₁ hg hsize hdg hW (X₁.named hnamed) (hpre vm₁ X₁.warmed) with ⟨v, B, X', hpost, hsteps⟩ | ⟨q, B, X', hpost, hsteps⟩
  · exact Or.inl ⟨v, vm₁, B, X₁.warmed, X', hpost, fun target h => hstep₁ _ fun acts => by rw [doInvoke_state]; exact hsteps.trans h⟩
  · exact Or.inr ⟨q, vm₁, B, X₁.warmed, X', hpost, hstep₁ _ fun acts => by rw [doInvoke_state]; exact hsteps⟩
theorem vx_callS (X : Stand p l e R s m args below meth c T locs cells slots) (hexec : p.tables.exec = Jvm.exec) {own : String} {index : Nat} {y : MethodName} {bytes : ByteArray} {maxL : Nat} {ret : Option FieldType}
    (hown : s.vm.findClass own = some m.cls) (hlink : (Cond.methodLink own index y).before args s = true) (hstat : (Cond.static y).before args s = true) (hinit : (Cond.initialized y.cls).before args s = true)
    (hcode : (Cond.code y bytes maxL ret).before args s = true) (hy : y.cls ≠ "java/lang/invoke/MethodHandle" ∧ y.cls ≠ "java/lang/invoke/VarHandle")
    {W9 : Nat} {Pre : Pt → Array Value → Prop} {Post : Pt → Array Value → Option Value → Pt → Prop} {PostX : Pt → Array Value → Addr → Pt → Prop} (hK : vx_Back l R p e below s args y 3 W9 Pre Post PostX)
    {g : JFrame} (hg : g.method = m) (hsize : g.locals.size = c.maxLocals) {argsL rest : List Value} (hlen : ∀ sig, parseMethodDescriptor y.desc = some sig → argsL.length = sig.parameters.length)
    (hstack : g.stack = argsL.reverse ++ rest) (hW : 2 * g.monitorRoom + (rest.map fun v => v.category).sum ≤ W9) (hdg : decode c.code g.pc = .ok (.invokestatic index, 3))
    (hpre : ∀ vm₁, s.WarmedH vm₁ → Pre ⟨T.setVm vm₁, locs, cells, slots⟩ argsL.toArray) :
    (∃ (v : Option Value) (vm₁ : Vm) (B : Pt), s.WarmedH vm₁ ∧ Stand p l e R s m args below meth c B.U B.locs B.cells B.slots ∧ Post ⟨T.setVm vm₁, locs, cells, slots⟩ argsL.toArray v B ∧
      ∀ target, Steps p.tables e below (B.U.setTop { g with pc := g.pc + 3, stack := v.toList ++ rest }) target → Steps p.tables e below (T.setTop g) target) ∨
    (∃ (q : Addr) (vm₁ : Vm) (B : Pt), s.WarmedH vm₁ ∧ Stand p l e R s m args below meth c B.U B.locs B.cells B.slots ∧ PostX ⟨T.setVm vm₁, locs, cells, slots⟩ argsL.toArray q B ∧
      Steps p.tables e below (T.setTop g) ((B.U.setTop { g with stack := rest }).pushFrame (.throwing q))) := by
  obtain ⟨mk, hnamed⟩ := Cond.code_named hcode
  obtain ⟨methM, cM, hmethM, -, -, -, -, -, -, hsigM⟩ := Cond.code_spec hnamed hcode
  have hstatic : methM.isStatic = true := Cond.static_spec hnamed hmethM hstat
  obtain ⟨kP, hkP, -⟩ := className_of_methodNamed hnamed
  have hinitP : kP.init = .initialized := Cond.initialized_spec (findClass_of_methodNamed hnamed) hkP hinit
  obtain ⟨vm₁, X₁, hstep₁⟩ := X.invokestatic hexec hown hlink hnamed hmethM hstatic hkP hinitP hy (g := g) hg (argsL := argsL) (rest := rest) (hlen _ hsigM) hstack hdg
  rcases hK m meth c ⟨T.setVm vm₁, locs, cells, slots⟩ { g with stack := rest } (.invokestatic index) mk argsL.toArray X₁ hg hsize hdg hW (X₁.named hnamed) (hpre vm₁ X₁.warmed) with ⟨v, B, X', hpost, hsteps⟩ | ⟨q, B, X', hpost, hsteps⟩
  · exact Or.inl ⟨v, vm₁, B, X₁.warmed, X', hpost, fun target h => hstep₁ _ fun acts => by rw [doInvoke_state]; exact hsteps.trans h⟩
  · exact Or.inr ⟨q, vm₁, B, X₁.warmed, X', hpost, hstep₁ _ fun acts => by rw [doInvoke_state]; exact hsteps⟩
end Calls
theorem vx_cls {s : State} {T : State} {vm₁ : Vm} {E : String} {k : ClassId} (hW : s.WarmedH vm₁) (h : (T.setVm vm₁).vm.findClass E = some k) : s.vm.findClass E = some k := by
  have h1 : vm₁.findClass E = some k := h
  rw [hW.alike.findClass] at h1
  exact h1
/-- the method's frame g, with q thrown over it -/
def vx_W (p : Program) (l : Launch) (e : Env) (R : Room) (s : State) (m : MethodId) (args : Array Value) (below : List Frame) (meth : Method) (c : Code) (H : Heap) (locs : List Loc) (cells slots : Nat) (Q : State → Prop) (g : JFrame) (q : Addr) : Prop :=
  ∀ T : State, T.heap = H → Stand p l e R s m args below meth c T locs cells slots → ∃ t, Steps p.tables e below ((T.setTop g).pushFrame (.throwing q)) t ∧ Q t
def vx_Run (p : Program) (l : Launch) (e : Env) (R : Room) (s : State) (m : MethodId) (args : Array Value) (below : List Frame) (meth : Method) (c : Code) (H : Heap) (locs : List Loc) (cells slots mc ms : Nat) (g : JFrame) (rest : List Value) (Qa : State → Outcome → State → Prop) (XC : String → State → State → Prop) (free : Addr → Prop) : Prop :=
  ∀ T : State, T.heap = H → Stand p l e R s m args below meth c T locs cells slots →
    (∃ (v : Option Value) (st₀ t T' : State) (L : List Loc), st₀.heap = H ∧ Stand p l e R s m args below meth c T' (locs ++ L) (cells + mc) (slots + ms) ∧ (∀ q ∈ L, free q.base) ∧ T'.heap = t.heap ∧ T'.vm = t.vm ∧ Qa st₀ (.returned v) t ∧
      Goes p e below T g T' { g with pc := g.pc + 3, stack := v.toList ++ rest }) ∨
    (∃ (q : Addr) (st₀ t T' : State) (L : List Loc) (E : String) (ce : Cell), st₀.heap = H ∧ Stand p l e R s m args below meth c T' (locs ++ L) (cells + mc) (slots + ms) ∧ (∀ z ∈ L, free z.base) ∧ T'.heap = t.heap ∧ T'.vm = t.vm ∧ XC E st₀ t ∧ t.heap[q]? = some ce ∧ ce.vm = .none ∧ s.vm.findClass E = some ce.cls ∧
      Steps p.tables e below (T.setTop g) ((T'.setTop { g with stack := rest }).pushFrame (.throwing q)))
def vx_X {S : Type} (px : S → Prop) (B : String → S → State → Prop) (A : Nat → Prop) : String → State → State → Prop := fun E st t => ∃ u : S, px u ∧ B E u t ∧ va_F A st t
section Runs
variable {p : Program} {l : Launch} {e : Env} {R : Room} {s : State} {m : MethodId} {args : Array Value} {below : List Frame} {meth : Method} {c : Code} {H : Heap} {locs : List Loc} {cells slots : Nat}
variable {y : MethodName} {bytes cc : ByteArray} {maxL nL mc ms n index : Nat} {ret : Option FieldType} {ws : List Cond} {rm : Room} {Pc : Array Value → State → Prop} {Qc : Array Value → State → Outcome → State → Prop} {XC : String → State → State → Prop} {free : Addr → Prop} {Ts : List Cond} {own C : String} {b : Addr} {As rest : List Value} {g : JFrame}
theorem vx_callBack (cb : CallB R s args own index y bytes maxL ret ws rm mc ms n) (hM : vx_Met l y ws rm Pc Qc XC mc ms free) (hbl : FrameBlind Pc) : vx_Back l R p e below s args y 3 8 (PreOf R mc ms Pc) (PostOf Qc mc ms free) (vx_Post XC mc ms free) := by
  obtain ⟨hrc, hrs, hfr, hlo, hws, hcw, -, hini, -⟩ := cb
  exact vx_back (bytes := bytes) (maxL := maxL) (ret := ret) hM hbl hrc hrs hfr hlo hws hcw (fun a' U hW => word_at hW (Or.inl (by first | rfl | simp [Cond.onTables, Cond.keeps, Cond.steady])) hini)
theorem vx_runV (S : CallFix p m c cc nL s args Ts own) (hM : vx_Met l y ws rm Pc Qc XC mc ms free) (cw : CallW R s args own C index y bytes maxL ret ws rm mc ms n) (hp : PreV s H C b Pc As)
    (hg : g.method = m) (hn : As.length = n) (hsize : g.locals.size = nL) (hstack : g.stack = As.reverse ++ .ref b :: rest) (hW : 2 * g.monitorRoom + (rest.map fun v => v.category).sum ≤ 8) (hdg : decode cc g.pc = .ok (.invokevirtual index, 3)) (hf : cells + mc ≤ R.cells ∧ slots + ms ≤ R.slots) :
    vx_Run p l e R s m args below meth c H locs cells slots mc ms g rest (Qc (Value.ref b :: As).toArray) XC free := by
  have hK : vx_Back l R p e below s args y 3 8 (PreOf R mc ms Pc) (PostOf Qc mc ms free) (vx_Post XC mc ms free) := vx_callBack cw.1 hM hp.1
  obtain ⟨⟨-, -, -, -, -, -, hcode, -, hy, hlen, hl⟩, hin, hse⟩ := cw
  obtain ⟨hx, hb, hml, ho, -⟩ := S
  obtain ⟨-, ⟨cellB, hcB, hoB, hclB⟩, hPc⟩ := hp
  intro T hT X
  rcases vx_callV X hx (C := C) (bytes := bytes) (maxL := maxL) (ret := ret) ho hl hin hse hcode hy hK (by rw [hT]; exact hcB) hoB hclB hg (hsize.trans hml.symm) (argsL := As) (rest := rest) (fun sig h => hn.trans (hlen sig h)) hstack hW (by rw [hb]; exact hdg)
    (fun vm₁ hW₁ => ⟨hf.1, hf.2, hPc (T.setVm vm₁) hT hW₁⟩) with ⟨v, vm₁, ⟨U', l2, c2, s2⟩, hW₁, X', ⟨g', mk, t, L, e1, e2, hq, h1, hL, h2, h3⟩, st⟩ | ⟨q, vm₁, ⟨U', l2, c2, s2⟩, hW₁, X', ⟨g', mk, t, L, E, ce, e1, e2, hq, hce, hcv, hcl, h1, hL, h2, h3⟩, st⟩
  · dsimp only [Pt.U, Pt.locs, Pt.cells, Pt.slots] at X' e1 e2 h1 h2 h3 st
    subst h1; subst h2; subst h3
    exact Or.inl ⟨v, (T.setVm vm₁).calling g' mk (Value.ref b :: As).toArray, t, U', L, hT, X', hL, e1, e2, hq, st⟩
  · dsimp only [Pt.U, Pt.locs, Pt.cells, Pt.slots] at X' e1 e2 h1 h2 h3 st hcl
    subst h1; subst h2; subst h3
    exact Or.inr ⟨q, (T.setVm vm₁).calling g' mk (Value.ref b :: As).toArray, t, U', L, E, ce, hT, X', hL, e1, e2, hq, hce, hcv, vx_cls hW₁ hcl, st⟩
theorem vx_runS (S : CallFix p m c cc nL s args Ts own) (hM : vx_Met l y ws rm Pc Qc XC mc ms free) (cw : CallB R s args own index y bytes maxL ret ws rm mc ms n ∧ (Cond.static y).before args s = true) (hp : PreS s H Pc As)
    (hg : g.method = m) (hn : As.length = n) (hsize : g.locals.size = nL) (hstack : g.stack = As.reverse ++ rest) (hW : 2 * g.monitorRoom + (rest.map fun v => v.category).sum ≤ 8) (hdg : decode cc g.pc = .ok (.invokestatic index, 3)) (hf : cells + mc ≤ R.cells ∧ slots + ms ≤ R.slots) :
    vx_Run p l e R s m args below meth c H locs cells slots mc ms g rest (Qc As.toArray) XC free := by
  have hK : vx_Back l R p e below s args y 3 8 (PreOf R mc ms Pc) (PostOf Qc mc ms free) (vx_Post XC mc ms free) := vx_callBack cw.1 hM hp.1
  obtain ⟨⟨-, -, -, -, -, -, hcode, hini, hy, hlen, hl⟩, hstt⟩ := cw
  obtain ⟨hx, hb, hml, ho, -⟩ := S
  intro T hT X
  rcases vx_callS X hx (bytes := bytes) (maxL := maxL) (ret := ret) ho hl hstt hini hcode hy hK hg (hsize.trans hml.symm) (argsL := As) (rest := rest) (fun sig h => hn.trans (hlen sig h)) hstack hW (by rw [hb]; exact hdg)
    (fun vm₁ hW₁ => ⟨hf.1, hf.2, hp.2 (T.setVm vm₁) hT hW₁⟩) with ⟨v, vm₁, ⟨U', l2, c2, s2⟩, hW₁, X', ⟨g', mk, t, L, e1, e2, hq, h1, hL, h2, h3⟩, st⟩ | ⟨q, vm₁, ⟨U', l2, c2, s2⟩, hW₁, X', ⟨g', mk, t, L, E, ce, e1, e2, hq, hce, hcv, hcl, h1, hL, h2, h3⟩, st⟩
  · dsimp only [Pt.U, Pt.locs, Pt.cells, Pt.slots] at X' e1 e2 h1 h2 h3 st
    subst h1; subst h2; subst h3
    exact Or.inl ⟨v, (T.setVm vm₁).calling g' mk As.toArray, t, U', L, hT, X', hL, e1, e2, hq, st⟩
  · dsimp only [Pt.U, Pt.locs, Pt.cells, Pt.slots] at X' e1 e2 h1 h2 h3 st hcl
    subst h1; subst h2; subst h3
    exact Or.inr ⟨q, (T.setVm vm₁).calling g' mk As.toArray, t, U', L, E, ce, hT, X', hL, e1, e2, hq, hce, hcv, vx_cls hW₁ hcl, st⟩
end Runs
section Rows
variable {p : Program} {l : Launch} {e : Env} {R : Room} {s : State} {m : MethodId} {args : Array Value} {below : List Frame} {meth : Method} {c : Code} {H : Heap} {locs : List Loc} {cells slots : Nat} {Q : State → Prop}
variable {mc ms : Nat} {free : Addr → Prop} {A0 A1 : Nat → Prop} {H0 : Heap} {a : Array Value} {pc : Nat} {ls : Array Slot} {st0 rest : List Value}
theorem vx_keep {st₀ t T' : State} {L : List Loc} (h0 : st₀.heap = H) (e1 : T'.heap = t.heap) (hS : va_S A0 H0 H locs) (hA : ∀ q, q < H.size → A1 q → A0 q) (hf : ∀ q, free q → A0 q) (hL : ∀ q ∈ L, free q.base) (hF : va_F A1 st₀ t) :
    H.size ≤ T'.heap.size ∧ (∀ q : Nat, q < H.size → ¬ A1 q → T'.heap[q]? = H[q]?) ∧ va_S A0 H0 T'.heap (locs ++ L) := by
  obtain ⟨hz, hk⟩ := hF
  rw [h0] at hz hk
  exact ⟨by rw [e1]; exact hz, fun q h1 h2 => by rw [e1]; exact hk q h1 h2,
    ⟨Nat.le_trans hS.1 (by rw [e1]; exact hz), fun q h1 h2 => by rw [e1, hk q (Nat.lt_of_lt_of_le h1 hS.1) (fun z => h2 (hA q (Nat.lt_of_lt_of_le h1 hS.1) z))]; exact hS.2.1 q h1 h2, fun q hq => by
      rcases List.mem_append.mp hq with h | h
      · exact hS.2.2 q h
      · exact hf _ (hL q h)⟩⟩
theorem vx_calli {S SX : Type} {post : Int32 → S → Prop} {px : SX → Prop} {B : S → State → Prop} {BX : String → SX → State → Prop} {AX : Nat → Prop} (hr : vx_Run p l e R s m args below meth c H locs cells slots mc ms (F0 m pc ls st0) rest (va_Qi post B A1 a) (vx_X px BX AX) free) (hS : va_S A0 H0 H locs) (hA : ∀ q, q < H.size → A1 q → A0 q) (hf : ∀ q, free q → A0 q) (hAX : ∀ q, q < H.size → AX q → A0 q)
    (kx : ∀ (E : String) (ce : Cell) (q9 : Addr) (u : SX) (t : State) (H1 : Heap) (locs1 : List Loc), t.heap = H1 → s.vm.Alike t.vm → px u → BX E u t → H.size ≤ H1.size → (∀ q : Nat, q < H.size → ¬ AX q → H1[q]? = H[q]?) → va_S A0 H0 H1 locs1 → H1[q9]? = some ce → ce.vm = .none → s.vm.findClass E = some ce.cls → vx_W p l e R s m args below meth c H1 locs1 (cells + mc) (slots + ms) Q (F0 m pc ls rest) q9)
    (kk : ∀ (r : Int32) (u : S) (t : State) (H1 : Heap) (locs1 : List Loc), t.heap = H1 → s.vm.Alike t.vm → post r u → B u t → H.size ≤ H1.size → (∀ q : Nat, q < H.size → ¬ A1 q → H1[q]? = H[q]?) → va_S A0 H0 H1 locs1 → W p l e R s m args below meth c H1 locs1 (cells + mc) (slots + ms) Q (F0 m (pc + 3) ls (.int r :: rest))) : W p l e R s m args below meth c H locs cells slots Q (F0 m pc ls st0) := by
  intro T hT X
  rcases hr T hT X with ⟨v, st₀, t, T', L, h0, X', hL, e1, e2, ⟨⟨r, u, hv, hp, hb⟩, hF⟩, st⟩ | ⟨q, st₀, t, T', L, E, ce, h0, X', hL, e1, e2, ⟨u, hp, hb, hF⟩, hce, hcv, hcl, st⟩
  · cases hv
    obtain ⟨k1, k2, k3⟩ := vx_keep h0 e1 hS hA hf hL hF
    obtain ⟨t2, a1, b1⟩ := kk r u t T'.heap (locs ++ L) e1.symm (by rw [← e2]; exact X'.warmed.alike) hp hb k1 k2 k3 T' rfl X'
    exact ⟨t2, st t2 a1, b1⟩
  · obtain ⟨k1, k2, k3⟩ := vx_keep h0 e1 hS hAX hf hL hF
    obtain ⟨t2, a1, b1⟩ := kx E ce q u t T'.heap (locs ++ L) e1.symm (by rw [← e2]; exact X'.warmed.alike) hp hb k1 k2 k3 (by rw [e1]; exact hce) hcv hcl T' rfl X'
    exact ⟨t2, st.trans a1, b1⟩
theorem vx_calll {S SX : Type} {post : Int64 → S → Prop} {px : SX → Prop} {B : S → State → Prop} {BX : String → SX → State → Prop} {AX : Nat → Prop} (hr : vx_Run p l e R s m args below meth c H locs cells slots mc ms (F0 m pc ls st0) rest (va_Ql post B A1 a) (vx_X px BX AX) free) (hS : va_S A0 H0 H locs) (hA : ∀ q, q < H.size → A1 q → A0 q) (hf : ∀ q, free q → A0 q) (hAX : ∀ q, q < H.size → AX q → A0 q)
    (kx : ∀ (E : String) (ce : Cell) (q9 : Addr) (u : SX) (t : State) (H1 : Heap) (locs1 : List Loc), t.heap = H1 → s.vm.Alike t.vm → px u → BX E u t → H.size ≤ H1.size → (∀ q : Nat, q < H.size → ¬ AX q → H1[q]? = H[q]?) → va_S A0 H0 H1 locs1 → H1[q9]? = some ce → ce.vm = .none → s.vm.findClass E = some ce.cls → vx_W p l e R s m args below meth c H1 locs1 (cells + mc) (slots + ms) Q (F0 m pc ls rest) q9)
    (kk : ∀ (r : Int64) (u : S) (t : State) (H1 : Heap) (locs1 : List Loc), t.heap = H1 → s.vm.Alike t.vm → post r u → B u t → H.size ≤ H1.size → (∀ q : Nat, q < H.size → ¬ A1 q → H1[q]? = H[q]?) → va_S A0 H0 H1 locs1 → W p l e R s m args below meth c H1 locs1 (cells + mc) (slots + ms) Q (F0 m (pc + 3) ls (.long r :: rest))) : W p l e R s m args below meth c H locs cells slots Q (F0 m pc ls st0) := by
  intro T hT X
  rcases hr T hT X with ⟨v, st₀, t, T', L, h0, X', hL, e1, e2, ⟨⟨r, u, hv, hp, hb⟩, hF⟩, st⟩ | ⟨q, st₀, t, T', L, E, ce, h0, X', hL, e1, e2, ⟨u, hp, hb, hF⟩, hce, hcv, hcl, st⟩
  · cases hv
    obtain ⟨k1, k2, k3⟩ := vx_keep h0 e1 hS hA hf hL hF
    obtain ⟨t2, a1, b1⟩ := kk r u t T'.heap (locs ++ L) e1.symm (by rw [← e2]; exact X'.warmed.alike) hp hb k1 k2 k3 T' rfl X'
    exact ⟨t2, st t2 a1, b1⟩
  · obtain ⟨k1, k2, k3⟩ := vx_keep h0 e1 hS hAX hf hL hF
    obtain ⟨t2, a1, b1⟩ := kx E ce q u t T'.heap (locs ++ L) e1.symm (by rw [← e2]; exact X'.warmed.alike) hp hb k1 k2 k3 (by rw [e1]; exact hce) hcv hcl T' rfl X'
    exact ⟨t2, st.trans a1, b1⟩
theorem vx_callf {S SX : Type} {post : UInt32 → S → Prop} {px : SX → Prop} {B : S → State → Prop} {BX : String → SX → State → Prop} {AX : Nat → Prop} (hr : vx_Run p l e R s m args below meth c H locs cells slots mc ms (F0 m pc ls st0) rest (va_Qf post B A1 a) (vx_X px BX AX) free) (hS : va_S A0 H0 H locs) (hA : ∀ q, q < H.size → A1 q → A0 q) (hf : ∀ q, free q → A0 q) (hAX : ∀ q, q < H.size → AX q → A0 q)
    (kx : ∀ (E : String) (ce : Cell) (q9 : Addr) (u : SX) (t : State) (H1 : Heap) (locs1 : List Loc), t.heap = H1 → s.vm.Alike t.vm → px u → BX E u t → H.size ≤ H1.size → (∀ q : Nat, q < H.size → ¬ AX q → H1[q]? = H[q]?) → va_S A0 H0 H1 locs1 → H1[q9]? = some ce → ce.vm = .none → s.vm.findClass E = some ce.cls → vx_W p l e R s m args below meth c H1 locs1 (cells + mc) (slots + ms) Q (F0 m pc ls rest) q9)
    (kk : ∀ (r : UInt32) (u : S) (t : State) (H1 : Heap) (locs1 : List Loc), t.heap = H1 → s.vm.Alike t.vm → post r u → B u t → H.size ≤ H1.size → (∀ q : Nat, q < H.size → ¬ A1 q → H1[q]? = H[q]?) → va_S A0 H0 H1 locs1 → W p l e R s m args below meth c H1 locs1 (cells + mc) (slots + ms) Q (F0 m (pc + 3) ls (.float r :: rest))) : W p l e R s m args below meth c H locs cells slots Q (F0 m pc ls st0) := by
  intro T hT X
  rcases hr T hT X with ⟨v, st₀, t, T', L, h0, X', hL, e1, e2, ⟨⟨r, u, hv, hp, hb⟩, hF⟩, st⟩ | ⟨q, st₀, t, T', L, E, ce, h0, X', hL, e1, e2, ⟨u, hp, hb, hF⟩, hce, hcv, hcl, st⟩
  · cases hv
    obtain ⟨k1, k2, k3⟩ := vx_keep h0 e1 hS hA hf hL hF
    obtain ⟨t2, a1, b1⟩ := kk r u t T'.heap (locs ++ L) e1.symm (by rw [← e2]; exact X'.warmed.alike) hp hb k1 k2 k3 T' rfl X'
    exact ⟨t2, st t2 a1, b1⟩
  · obtain ⟨k1, k2, k3⟩ := vx_keep h0 e1 hS hAX hf hL hF
    obtain ⟨t2, a1, b1⟩ := kx E ce q u t T'.heap (locs ++ L) e1.symm (by rw [← e2]; exact X'.warmed.alike) hp hb k1 k2 k3 (by rw [e1]; exact hce) hcv hcl T' rfl X'
    exact ⟨t2, st.trans a1, b1⟩
theorem vx_calld {S SX : Type} {post : UInt64 → S → Prop} {px : SX → Prop} {B : S → State → Prop} {BX : String → SX → State → Prop} {AX : Nat → Prop} (hr : vx_Run p l e R s m args below meth c H locs cells slots mc ms (F0 m pc ls st0) rest (va_Qd post B A1 a) (vx_X px BX AX) free) (hS : va_S A0 H0 H locs) (hA : ∀ q, q < H.size → A1 q → A0 q) (hf : ∀ q, free q → A0 q) (hAX : ∀ q, q < H.size → AX q → A0 q)
    (kx : ∀ (E : String) (ce : Cell) (q9 : Addr) (u : SX) (t : State) (H1 : Heap) (locs1 : List Loc), t.heap = H1 → s.vm.Alike t.vm → px u → BX E u t → H.size ≤ H1.size → (∀ q : Nat, q < H.size → ¬ AX q → H1[q]? = H[q]?) → va_S A0 H0 H1 locs1 → H1[q9]? = some ce → ce.vm = .none → s.vm.findClass E = some ce.cls → vx_W p l e R s m args below meth c H1 locs1 (cells + mc) (slots + ms) Q (F0 m pc ls rest) q9)
    (kk : ∀ (r : UInt64) (u : S) (t : State) (H1 : Heap) (locs1 : List Loc), t.heap = H1 → s.vm.Alike t.vm → post r u → B u t → H.size ≤ H1.size → (∀ q : Nat, q < H.size → ¬ A1 q → H1[q]? = H[q]?) → va_S A0 H0 H1 locs1 → W p l e R s m args below meth c H1 locs1 (cells + mc) (slots + ms) Q (F0 m (pc + 3) ls (.double r :: rest))) : W p l e R s m args below meth c H locs cells slots Q (F0 m pc ls st0) := by
  intro T hT X
  rcases hr T hT X with ⟨v, st₀, t, T', L, h0, X', hL, e1, e2, ⟨⟨r, u, hv, hp, hb⟩, hF⟩, st⟩ | ⟨q, st₀, t, T', L, E, ce, h0, X', hL, e1, e2, ⟨u, hp, hb, hF⟩, hce, hcv, hcl, st⟩
  · cases hv
    obtain ⟨k1, k2, k3⟩ := vx_keep h0 e1 hS hA hf hL hF
    obtain ⟨t2, a1, b1⟩ := kk r u t T'.heap (locs ++ L) e1.symm (by rw [← e2]; exact X'.warmed.alike) hp hb k1 k2 k3 T' rfl X'
    exact ⟨t2, st t2 a1, b1⟩
  · obtain ⟨k1, k2, k3⟩ := vx_keep h0 e1 hS hAX hf hL hF
    obtain ⟨t2, a1, b1⟩ := kx E ce q u t T'.heap (locs ++ L) e1.symm (by rw [← e2]; exact X'.warmed.alike) hp hb k1 k2 k3 (by rw [e1]; exact hce) hcv hcl T' rfl X'
    exact ⟨t2, st.trans a1, b1⟩
theorem vx_callv {S SX : Type} {post : S → Prop} {px : SX → Prop} {B : S → State → Prop} {BX : String → SX → State → Prop} {AX : Nat → Prop} (hr : vx_Run p l e R s m args below meth c H locs cells slots mc ms (F0 m pc ls st0) rest (va_Qv post B A1 a) (vx_X px BX AX) free) (hS : va_S A0 H0 H locs) (hA : ∀ q, q < H.size → A1 q → A0 q) (hf : ∀ q, free q → A0 q) (hAX : ∀ q, q < H.size → AX q → A0 q)
    (kx : ∀ (E : String) (ce : Cell) (q9 : Addr) (u : SX) (t : State) (H1 : Heap) (locs1 : List Loc), t.heap = H1 → s.vm.Alike t.vm → px u → BX E u t → H.size ≤ H1.size → (∀ q : Nat, q < H.size → ¬ AX q → H1[q]? = H[q]?) → va_S A0 H0 H1 locs1 → H1[q9]? = some ce → ce.vm = .none → s.vm.findClass E = some ce.cls → vx_W p l e R s m args below meth c H1 locs1 (cells + mc) (slots + ms) Q (F0 m pc ls rest) q9)
    (kk : ∀ (u : S) (t : State) (H1 : Heap) (locs1 : List Loc), t.heap = H1 → s.vm.Alike t.vm → post u → B u t → H.size ≤ H1.size → (∀ q : Nat, q < H.size → ¬ A1 q → H1[q]? = H[q]?) → va_S A0 H0 H1 locs1 → W p l e R s m args below meth c H1 locs1 (cells + mc) (slots + ms) Q (F0 m (pc + 3) ls (rest))) : W p l e R s m args below meth c H locs cells slots Q (F0 m pc ls st0) := by
  intro T hT X
  rcases hr T hT X with ⟨v, st₀, t, T', L, h0, X', hL, e1, e2, ⟨⟨u, hv, hp, hb⟩, hF⟩, st⟩ | ⟨q, st₀, t, T', L, E, ce, h0, X', hL, e1, e2, ⟨u, hp, hb, hF⟩, hce, hcv, hcl, st⟩
  · cases hv
    obtain ⟨k1, k2, k3⟩ := vx_keep h0 e1 hS hA hf hL hF
    obtain ⟨t2, a1, b1⟩ := kk u t T'.heap (locs ++ L) e1.symm (by rw [← e2]; exact X'.warmed.alike) hp hb k1 k2 k3 T' rfl X'
    exact ⟨t2, st t2 a1, b1⟩
  · obtain ⟨k1, k2, k3⟩ := vx_keep h0 e1 hS hAX hf hL hF
    obtain ⟨t2, a1, b1⟩ := kx E ce q u t T'.heap (locs ++ L) e1.symm (by rw [← e2]; exact X'.warmed.alike) hp hb k1 k2 k3 (by rw [e1]; exact hce) hcv hcl T' rfl X'
    exact ⟨t2, st.trans a1, b1⟩
/-- caught by the row x of this method's table; the rows ahead don't take it -/
theorem vx_catch {own name : String} {E : String} {ce : Cell} {q : Addr} (hown : s.vm.findClass own = some m.cls) (pre : List ExceptionTableEntry) (x : ExceptionTableEntry) (suf : List ExceptionTableEntry) (hsplit : c.exceptionTable.toList = pre ++ x :: suf)
    (hpass : ∀ z ∈ pre, covers z pc = false ∨ (z.catchType ≠ 0 ∧ ∃ nm : String, (Cond.classLink own z.catchType nm).before args s = true ∧ va_Nc E nm s)) (hx : covers x pc = true) (h0 : x.catchType ≠ 0)
    (hlink : (Cond.classLink own x.catchType name).before args s = true) (hcast : (Cond.castable E name).before args s = true) (hcell : H[q]? = some ce) (hv : ce.vm = .none) (hcl : s.vm.findClass E = some ce.cls)
    (kk : W p l e R s m args below meth c H locs cells slots Q (F0 m x.handlerPc ls [.ref q])) : vx_W p l e R s m args below meth c H locs cells slots Q (F0 m pc ls rest) q := by
  intro T hT X
  have hpl : e.platform.magicAccessors = ({} : Platform).magicAccessors := by rw [X.admits.platform]
  obtain ⟨c3, c4, hc3, hc4, hasg⟩ := Cond.castable_spec hcast
  cases Option.some.inj (hc3.symm.trans hcl)
  obtain ⟨c5, hc5, hcl5⟩ := Cond.classLink_spec hown hlink e.platform hpl
  cases Option.some.inj (hc4.symm.trans hc5)
  obtain ⟨vm', X', st⟩ := X.thenCaughtThrough q (g := F0 m pc ls rest) rfl (Steps.refl _) (by rw [hT]; exact hcell) (by rw [hv]; rfl) (by obtain ⟨k9, h9, -⟩ := Vm.findClass_spec hcl; exact ⟨k9, h9⟩) pre x suf hsplit
    (fun z hz => by
      rcases hpass z hz with h | ⟨hz0, nm, hl1, hn1⟩
      · exact Or.inl h
      · obtain ⟨c6, hc6, hcl6⟩ := Cond.classLink_spec hown hl1 e.platform hpl
        obtain ⟨a8, b8, h1, h2, h3⟩ := hn1
        cases Option.some.inj (h1.symm.trans hcl)
        cases Option.some.inj (h2.symm.trans hc6)
        exact Or.inr ⟨hz0, _, hcl6, h3⟩) hx (Or.inr ⟨h0, c4, hcl5, hasg⟩)
  obtain ⟨t, a1, b1⟩ := kk (T.setVm vm') hT X'
  exact ⟨t, st.trans a1, b1⟩
end Rows
section Ends
variable {p : Program} {l : Launch} {e : Env} {R : Room} {s : State} {m : MethodId} {args : Array Value} {below : List Frame} {meth : Method} {c : Code} {H : Heap} {locs : List Loc} {cells slots : Nat} {Q : State → Prop}
variable {mc ms : Nat} {free : Addr → Prop} {A0 A1 : Nat → Prop} {H0 : Heap} {a : Array Value} {ls : Array Slot} {st0 rest : List Value}
variable {Qc : Array Value → State → Outcome → State → Prop} {XC : String → State → State → Prop}
/-- what a body that may throw owes at its end -/
def vx_MQ (below : List Frame) (Qc : Array Value → State → Outcome → State → Prop) (XC : String → State → State → Prop) (a : Array Value) (s : State) (mc ms : Nat) (free : Addr → Prop) : State → Prop := fun t =>
  ∃ o, t.status = .running ∧ Ended t below o ∧ vx_Q Qc XC mc ms free a s o t
theorem vx_ret {g : JFrame} {mc ms : Nat} (k : W p l e R s m args below meth c H locs cells slots (MQ below Qc args s mc ms free) g) : W p l e R s m args below meth c H locs cells slots (vx_MQ below Qc XC args s mc ms free) g := by
  intro T hT X
  obtain ⟨t, a1, o, b1, b2, b3, b4⟩ := k T hT X
  exact ⟨t, a1, o, b1, b2, Or.inl ⟨b3, b4⟩⟩
/-- not caught here: it goes on to the caller -/
theorem vx_widen {g : JFrame} {q : Addr} {k n : Nat} (h1 : cells ≤ k) (h2 : slots ≤ n) (kk : vx_W p l e R s m args below meth c H locs k n Q g q) : vx_W p l e R s m args below meth c H locs cells slots Q g q := fun T hT X => kk T hT (stand_widen X h1 h2)
theorem vx_out {pc : Nat} {E : String} {ce : Cell} {q : Addr} {mc ms : Nat} (hout : ∀ x ∈ c.exceptionTable.toList, covers x pc = false) (hlocks : meth.locks = false) (hcell : H[q]? = some ce) (hv : ce.vm = .none) (hcl : s.vm.findClass E = some ce.cls)
    (hx : ∀ t : State, t.heap = H → s.vm.Alike t.vm → XC E s t) (hf : ∀ z ∈ locs, free z.base) (hc : cells ≤ mc) (hs : slots ≤ ms) :
    vx_W p l e R s m args below meth c H locs cells slots (vx_MQ below Qc XC args s mc ms free) (F0 m pc ls rest) q := by
  intro T hT X
  obtain ⟨st1, hrun, hend, hW, hsm⟩ := X.leaveThrown q (g := F0 m pc ls rest) rfl rfl rfl hout hlocks
  have hcell9 : (T.setFrames (.throwing q :: below)).heap[q]? = some ce := by
    show T.heap[q]? = some ce
    rw [hT]; exact hcell
  exact ⟨_, st1, .threw q, hrun, hend, Or.inr ⟨q, rfl, E, ce, locs, hx _ hT hW.alike, hcell9, hv, hcl, hW, hsm.mono hc hs, hf⟩⟩
theorem vx_frame {U : State} {k n : Nat} (h : s.sameButNew ({ U with vm := s.vm } : State) locs k n) : s.heap.size ≤ U.heap.size ∧ ∀ q : Nat, q < s.heap.size → (∀ z ∈ locs, z.base ≠ q) → U.heap[q]? = s.heap[q]? := by
  obtain ⟨-, h2, -, -, -, h6⟩ := h
  refine ⟨h2, fun q hq hz => ?_⟩
  obtain ⟨c9, e1, e2, e3, e4⟩ := h6 q _ (Array.getElem?_eq_getElem hq)
  have hs : c9.slots = (s.heap[q]).slots := Array.ext_getElem? fun i => e4 i fun hm => hz _ hm rfl
  have h9 : c9 = s.heap[q] := by
    rw [hs] at e2
    exact e2
  have e5 : U.heap[q]? = some c9 := e1
  rw [e5, h9, Array.getElem?_eq_getElem hq]
/-- the words of a throw but the four that speak of the heap -/
def vx_no (w : Cond) : Bool := decide (w ≠ .isRef (.static Bundle.tN "UNASSIGNED_STACK" Bundle.steD)) && decide (w ≠ .isRef (.static Bundle.tN "SUPPRESSED_SENTINEL" Bundle.listD)) && decide (w ≠ .laysStatic Bundle.tN "UNASSIGNED_STACK" Bundle.steD) && decide (w ≠ .laysStatic Bundle.tN "SUPPRESSED_SENTINEL" Bundle.listD)
def vx_at0 (own : String) (ic : Nat) (X : String) (names : List String) : List Cond := (Bundle.ownAtoms0 own ic X names).filter vx_no
def vx_atS (own : String) (ic : Nat) (X : String) (names : List String) : List Cond := (Bundle.ownAtoms own ic X names).filter vx_no
/-- a word that the tables alone decide, or a good one -/
def vx_ot (w : Cond) : Bool := w.onTables || goodWord w
theorem vx_ot_at {args a' : Array Value} {s U : State} {w : Cond} (hW : s.WarmedH U.vm) (hvm : s.vm = U.vm) (hg : vx_ot w = true) (h : w.before args s = true) : w.before a' U = true := by
  simp only [vx_ot, Bool.or_eq_true] at hg
  rcases hg with hg | hg
  · exact va_tabs hg hvm h
  · exact word_at hW (good_of_word hg) h
/-- a list's words: the good ones out of the method's own list, the others by premises of their own -/
theorem vx_hat {args : Array Value} {s : State} {L B : List Cond} (h1 : ∀ w ∈ L.filter goodWord, w.before args s = true) (h2 : ∀ w ∈ L.filter (fun w => !goodWord w), w ∈ B) (h3 : ∀ w ∈ B, w.before args s = true) : ∀ w ∈ L, w.before args s = true := by
  intro w hw
  by_cases g : goodWord w = true
  · exact h1 w (List.mem_filter.mpr ⟨hw, g⟩)
  · refine h3 w (h2 w (List.mem_filter.mpr ⟨hw, ?_⟩))
    show (!goodWord w) = true
    cases hgw : goodWord w
    · rfl
    · exact absurd hgw g
theorem vx_c {args : Array Value} {s : State} {w : Cond} {B : List Cond} (h : w.before args s = true) (t : ∀ w ∈ B, w.before args s = true) : ∀ w' ∈ w :: B, w'.before args s = true := fun w' h' => (List.mem_cons.mp h').elim (fun e => by rw [e]; exact h) (t w')
theorem vx_n {args : Array Value} {s : State} : ∀ w ∈ ([] : List Cond), w.before args s = true := fun _ h => nomatch h
theorem vx_own {args : Array Value} {s : State} {L : List Cond} (h1 : ∀ w ∈ L.filter vx_no, w.before args s = true)
    (hU : (Cond.isRef (.static Bundle.tN "UNASSIGNED_STACK" Bundle.steD)).before args s = true) (hN : (Cond.isRef (.static Bundle.tN "SUPPRESSED_SENTINEL" Bundle.listD)).before args s = true)
    (lU : (Cond.laysStatic Bundle.tN "UNASSIGNED_STACK" Bundle.steD).before args s = true) (lN : (Cond.laysStatic Bundle.tN "SUPPRESSED_SENTINEL" Bundle.listD).before args s = true) : ∀ w ∈ L, w.before args s = true := by
  intro w hw
  by_cases e1 : w = .isRef (.static Bundle.tN "UNASSIGNED_STACK" Bundle.steD)
  · rw [e1]; exact hU
  · by_cases e2 : w = .isRef (.static Bundle.tN "SUPPRESSED_SENTINEL" Bundle.listD)
    · rw [e2]; exact hN
    · by_cases e3 : w = .laysStatic Bundle.tN "UNASSIGNED_STACK" Bundle.steD
      · rw [e3]; exact lU
      · by_cases e4 : w = .laysStatic Bundle.tN "SUPPRESSED_SENTINEL" Bundle.listD
        · rw [e4]; exact lN
        · exact h1 w (List.mem_filter.mpr ⟨hw, by unfold vx_no; rw [decide_eq_true e1, decide_eq_true e2, decide_eq_true e3, decide_eq_true e4]; rfl⟩)
/-- where a static field lies, its class's statics cell in H -/
def vx_L (C n d : String) (A : Nat → Prop) (U : State) (H : Heap) : Prop := ∃ (c : ClassId) (k : Class) (i : Nat) (f : Field) (a : Nat) (cell : Cell), U.vm.findClass C = some c ∧ U.fieldFound? C n d = some (c, k, i, f) ∧ f.isStatic = true ∧ k.statics = some a ∧ H[a]? = some cell ∧ cell.vm.isStatics = true ∧ cell.cls = c ∧ f.slot < cell.slots.size ∧ k.staticTypes[f.slot]? = some f.type ∧ ¬ A a
theorem vx_L.moved {C n d : String} {A : Nat → Prop} {u U : State} {H : Heap} (hvm : u.vm.Alike U.vm) (h : vx_L C n d A u H) : vx_L C n d A U H := by
  obtain ⟨c, k, i, f, a, cell, h1, h2, h3, h4, h5, h6, h7, h8, h9, h10⟩ := h
  obtain ⟨k', hi', he⟩ := State.fieldFound?_setVm hvm h2
  exact ⟨c, k', i, f, a, cell, by rw [hvm.findClass]; exact h1, hi', h3, by rw [he]; exact h4, h5, h6, h7, h8, by rw [he]; exact h9, h10⟩
theorem vx_L.kept {C n d : String} {A : Nat → Prop} {U : State} {H H1 : Heap} (h : vx_L C n d A U H) (hq : ∀ a : Nat, a < H.size → ¬ A a → H1[a]? = H[a]?) : vx_L C n d A U H1 := by
  obtain ⟨c, k, i, f, a, cell, h1, h2, h3, h4, h5, h6, h7, h8, h9, h10⟩ := h
  exact ⟨c, k, i, f, a, cell, h1, h2, h3, h4, by rw [hq a (Array.getElem?_eq_some_iff.mp h5).1 h10]; exact h5, h6, h7, h8, h9, h10⟩
theorem vx_L.narrow {C n d : String} {A B : Nat → Prop} {U : State} {H : Heap} (h : vx_L C n d A U H) (hAB : ∀ q, B q → A q) : vx_L C n d B U H := by
  obtain ⟨c, k, i, f, a, cell, h1, h2, h3, h4, h5, h6, h7, h8, h9, h10⟩ := h
  exact ⟨c, k, i, f, a, cell, h1, h2, h3, h4, h5, h6, h7, h8, h9, fun z => h10 (hAB _ z)⟩
theorem vx_L.word {C n d : String} {A : Nat → Prop} {s : State} {args : Array Value} (h : vx_L C n d A s s.heap) : (Cond.laysStatic C n d).before args s = true := by
  obtain ⟨c, k, i, f, a, cell, h1, h2, h3, h4, h5, h6, h7, h8, h9, -⟩ := h
  show (Cond.laysStatic C n d).holds args s none s [] = true
  exact Cond.laysStatic_of h1 h2 h3 h4 h5 h6 h7 h8 h9
/-- .. and what it holds: null or some reference -/
def vx_Zq (C n d : String) (A : Nat → Prop) (U : State) (H : Heap) : Prop := va_Zq C n d A U H ∧ vx_L C n d A U H
theorem vx_Zq.moved {C n d : String} {A : Nat → Prop} {u U : State} {H : Heap} (hvm : u.vm.Alike U.vm) (h : vx_Zq C n d A u H) : vx_Zq C n d A U H := ⟨va_Zq.moved hvm h.1, vx_L.moved hvm h.2⟩
theorem vx_Zq.kept {C n d : String} {A : Nat → Prop} {U : State} {H H1 : Heap} (h : vx_Zq C n d A U H) (hq : ∀ a : Nat, a < H.size → ¬ A a → H1[a]? = H[a]?) : vx_Zq C n d A U H1 := ⟨va_Zq.kept h.1 hq, vx_L.kept h.2 hq⟩
theorem vx_Zq.narrow {C n d : String} {A B : Nat → Prop} {U : State} {H : Heap} (h : vx_Zq C n d A U H) (hAB : ∀ q, B q → A q) : vx_Zq C n d B U H := ⟨va_Zq.narrow h.1 hAB, vx_L.narrow h.2 hAB⟩
theorem vx_Zqof {args : Array Value} {s : State} {C n d : String} {A : Nat → Prop} (hl : (Cond.laysStatic C n d).before args s = true) (hini : (Cond.initialized C).before args s = true) (h : (Cond.isRef (.static C n d)).before args s = true) (hA : ∀ a : Nat, a < s.heap.size → ¬ A a) : vx_Zq C n d A s s.heap := by
  refine ⟨va_Zqof hl hini h hA, ?_⟩
  obtain ⟨c, k, i, f, a, cell, h1, h2, h3, h4, h5, h6, h7, h8, h9⟩ := Cond.laysStatic_spec hl
  exact ⟨c, k, i, f, a, cell, h1, h2, h3, h4, h5, h6, h7, h8, h9, hA a (Array.getElem?_eq_some_iff.mp h5).1⟩
theorem vx_isRef {C n d : String} {v : Value} {A : Nat → Prop} {s : State} {args : Array Value} (h : va_Z C n d v A s s.heap) (hv : v.isRef = true) : (Cond.isRef (.static C n d)).before args s = true := by
  obtain ⟨cf, kf, fi, f, a, cell, h1, h2, h3, h4, h5, h6, h7, -⟩ := h
  have he : (Term.static C n d).eval args s none [] s = some v := by
    simp [Term.eval, State.fieldNamed?, h1, h2, h4, h5, h6, h7]
  simp only [Cond.before, Cond.holds, Cond.value, he]
  cases v <;> simp_all [Value.isRef]
theorem vx_isRefq {C n d : String} {A : Nat → Prop} {s : State} {args : Array Value} (h : va_Zq C n d A s s.heap) : (Cond.isRef (.static C n d)).before args s = true := by
  rcases h with h | ⟨t, h⟩
  · exact vx_isRef h rfl
  · exact vx_isRef h rfl
/-- the same frame, seen from here: as if the method were called anew in this heap -/
theorem vx_rebase {T : State} (X : Stand p l e R s m args below meth c T locs cells slots) {R' : Room} (hf : R'.frames ≤ R.frames) (hl : R'.locals ≤ R.locals) (hc : cells + R'.cells ≤ R.cells) (hs : slots + R'.slots ≤ R.slots) :
    Stand p l e R' ((T.setVm s.vm).setFrames (.invoking m args :: below)) m args below meth c T [] 0 0 := by
  have htop : (T.setVm s.vm).topJava?.isSome := X.here.top
  have hF : ((T.setVm s.vm).setFrames (.invoking m args :: below)).frames = .invoking m args :: below := State.frames_setFrames _ (State.cur_lt_of_top htop)
  obtain ⟨g₀, hg0⟩ := Option.isSome_iff_exists.mp htop
  obtain ⟨r, hr⟩ := State.topJava?_eq_some.mp hg0
  have hl9 : e.platform.stackLimits (T.setVm s.vm).me = e.platform.stackLimits s.me := X.limits
  have hb9 : (T.setVm s.vm).me.stackBytes = s.me.stackBytes := X.bytes
  refine ⟨X.admits, X.cas, X.clock, hF, ?_, X.hears, X.method, X.code, X.here, X.tail, X.warmed, ?_, ?_, ?_⟩
  · have h := X.room
    have hU : ((T.setVm s.vm).setFrames (.invoking m args :: below)).localsInUse = s.localsInUse := by
      rw [State.localsInUse_invoking hF (meth := meth) (c := c) X.method X.code, State.localsInUse_invoking X.frames X.method X.code]
    simp only [State.hasRoom, Bool.and_eq_true, decide_eq_true_eq] at h ⊢
    obtain ⟨⟨⟨⟨h1, h2, h3, h4, h5, h6⟩, h7⟩, h8⟩, h9⟩ := h
    rw [X.frames, List.length_cons] at h2 h3
    have q1 := X.heapSize
    have q2 := X.used
    simp only [hF, hU, List.length_cons, State.stackLimits_setFrames, State.stackBytes_setFrames, hl9, hb9]
    refine ⟨⟨⟨⟨by omega, by omega, by omega, by omega, by omega, h6⟩, ?_⟩, ?_⟩, X.book⟩
    · show T.heap.size + R'.cells ≤ e.platform.maxCells
      omega
    · show T.slotsUsed + R'.slots ≤ e.platform.maxSlots
      omega
  · rw [State.stackLimits_setFrames]; rfl
  · rw [State.stackBytes_setFrames]; rfl
  · refine ⟨?_, Nat.le_refl _, Nat.le_refl _, ?_, ?_, fun a c9 h9 => ⟨c9, h9, rfl, rfl, fun _ _ => rfl⟩⟩
    · obtain ⟨t, ht, -⟩ := State.frames_cons hr
      show T.setVm s.vm = { ((T.setVm s.vm).setFrames (.invoking m args :: below)).setFrames (T.setVm s.vm).frames with heap := T.heap, slotsUsed := T.slotsUsed }
      rw [State.setFrames_setFrames, State.setFrames_self ht]
      rfl
    · show T.slotsUsed = T.slotsUsed + ((T.heap.toList.drop T.heap.size).map (·.slots.size)).sum
      rw [List.drop_eq_nil_of_le (Nat.le_of_eq Array.length_toList)]
      rfl
    · show ((T.heap.toList.drop T.heap.size).map (·.slots.size)).sum ≤ 0
      rw [List.drop_eq_nil_of_le (Nat.le_of_eq Array.length_toList)]
      exact Nat.le_refl _
/-- 'throw new E()': new; dup; invokespecial; athrow -/
theorem vx_throw0 {cc : ByteArray} {pc : Nat} (hexec : p.tables.exec = Jvm.exec) (hb : c.code = cc) (hl : l.stackTraces = false) {own cls : String} {names : List String} {ik ic mc ms : Nat} {A : Nat → Prop}
    (hown : s.vm.findClass own = some m.cls) (hcls : Bundle.fit cls = true) (hnames : ∀ n ∈ names, Bundle.fit n = true)
    (hk : (Cond.classLink own ik cls).before args s = true) (hini : (Cond.initialized cls).before args s = true) (hat : ∀ w ∈ vx_at0 own ic cls names, w.before args s = true)
    (hgood : ∀ w ∈ Cond.classLink own ik cls :: Cond.initialized cls :: vx_at0 own ic cls names, vx_ot w = true)
    (hU : vx_Zq Bundle.tN "UNASSIGNED_STACK" Bundle.steD A s s.heap) (hN : vx_Zq Bundle.tN "SUPPRESSED_SENTINEL" Bundle.listD A s s.heap) (hS : va_S A s.heap H locs) (hsize : ls.size = c.maxLocals)
    (d0 : decode cc pc = .ok (.new ik, 3)) (d3 : decode cc (pc + 3) = .ok (.dup, 1)) (d4 : decode cc (pc + 4) = .ok (.invokespecial ic, 3)) (d7 : decode cc (pc + 7) = .ok (.athrow, 1))
    (hout : ∀ x ∈ c.exceptionTable.toList, covers x (pc + 7) = false)
    (hRframes : names.length + 3 < R.frames) (hRlocals : (rest.map fun v => v.category).sum + (13 * (names.length + 1) + 42) ≤ R.locals) (hRcells : cells + 1 ≤ R.cells) (hRslots : slots + 6 ≤ R.slots) (hlocks : meth.locks = false)
    (hx : ∀ t : State, s.vm.Alike t.vm → H.size ≤ t.heap.size → (∀ q : Nat, q < H.size → t.heap[q]? = H[q]?) → XC cls s t)
    (hf : ∀ z ∈ locs, free z.base) (hc : cells + 1 ≤ mc) (hs : slots + 6 ≤ ms) :
    W p l e R s m args below meth c H locs cells slots (vx_MQ below Qc XC args s mc ms free) (F0 m pc ls rest) := by
  intro T hT X
  have htr : e.platform.stackTraces = false := (show e.platform.stackTraces = l.stackTraces by rw [X.admits.platform]).trans hl
  have Y := vx_rebase X (R' := { frames := R.frames, locals := R.locals, cells := 1, slots := 6 }) (Nat.le_refl _) (Nat.le_refl _) hRcells hRslots
  obtain ⟨s', hA⟩ : ∃ z, z = (T.setVm s.vm).setFrames (.invoking m args :: below) := ⟨_, rfl⟩
  rw [← hA] at Y
  have hvm : s'.vm = s.vm := by rw [hA]; rfl
  have hhp : s'.heap = H := by rw [hA]; exact hT
  have hW0 : s.WarmedH s'.vm := by rw [hvm]; exact State.WarmedH.refl s
  have hat' : ∀ w ∈ vx_at0 own ic cls names, w.before args s' = true := fun w hw => vx_ot_at hW0 hvm.symm (hgood w (List.mem_cons_of_mem _ (List.mem_cons_of_mem _ hw))) (hat w hw)
  have hk' : (Cond.classLink own ik cls).before args s' = true := vx_ot_at hW0 hvm.symm (hgood _ List.mem_cons_self) hk
  have hini' : (Cond.initialized cls).before args s' = true := vx_ot_at hW0 hvm.symm (hgood _ (List.mem_cons_of_mem _ List.mem_cons_self)) hini
  have hU' : vx_Zq Bundle.tN "UNASSIGNED_STACK" Bundle.steD A s' s'.heap := by rw [hhp]; exact vx_Zq.moved hW0.alike (hU.kept hS.2.1)
  have hN' : vx_Zq Bundle.tN "SUPPRESSED_SENTINEL" Bundle.listD A s' s'.heap := by rw [hhp]; exact vx_Zq.moved hW0.alike (hN.kept hS.2.1)
  have h : ∀ w ∈ Bundle.ownAtoms0 own ic cls names, w.before args s' = true := vx_own hat' (vx_isRefq hU'.1) (vx_isRefq hN'.1) hU'.2.word hN'.2.word
  have hown' : s'.vm.findClass own = some m.cls := by rw [hvm]; exact hown
  have hins : (Cond.instantiable cls 6).before args s' = true := h _ (by simp [Bundle.ownAtoms0])
  obtain ⟨vm₁, cX, kX, hfX, hkX, -, -, X₁, st1⟩ := Y.newCold hexec (own := own) (C := cls) (index := ik) (n := 6) hown' hk' hins hini'
    (g := F0 m pc ls rest) rfl (by rw [hb]; exact d0) (Nat.le_refl _) (Nat.le_refl _)
  generalize hT1 : (T.setVm vm₁).pushCell { cls := cX, slots := kX.instanceTypes.map defaultValue, vm := .none } = T1 at X₁ st1
  have hcat : (Value.ref T.heap.size).category = 1 := rfl
  have hcellA : T1.heap[T.heap.size]? = some (freshCell cX kX) := by rw [← hT1]; exact State.heap_pushCell_size _ _
  have d3' : decode c.code (pc + 3) = .ok (.dup, 1) := by rw [hb]; exact d3
  obtain ⟨U, hsteps, hrun, hend, hW, hsame, ce, hce, hO⟩ := X₁.ctorThrow0 hexec htr (own := own) (cls := cls) (names := names) (ic := ic) hown' hcls hnames h (fun x hx => nomatch hx) hfX hkX hcellA (by rw [hhp, hT]; exact Nat.le_refl _)
    (g := { method := m, pc := pc + 4, locals := ls, stack := .ref T.heap.size :: .ref T.heap.size :: rest, locked := none }) rfl hsize rfl rfl (rest := rest) rfl
    (by rw [hb]; exact d4) (by rw [hb]; exact d7) hout hRframes (by simp only [List.map_cons, List.sum_cons, hcat]; omega) hlocks
  obtain ⟨f1, f2⟩ := vx_frame hsame
  rw [hhp] at f1 f2
  have hWs : s.WarmedH U.vm := State.WarmedH.trans hW0 hW
  have hcl : s.vm.findClass cls = some ce.cls := by
    have h9 := hO.cls
    rw [hvm] at h9
    exact h9
  have hall : s.sameButNew ({ U with vm := s.vm } : State) locs mc ms := by
    subst hA
    obtain ⟨e1, e2⟩ := hsame
    rw [State.setFrames_setFrames] at e1
    have h2 : (T.setVm s.vm).sameButNew ({ U with vm := s.vm } : State) [] (0 + 1) (0 + 6) := ⟨e1, e2⟩
    have h3 := X.same.trans h2
    rw [List.append_nil] at h3
    exact h3.mono hc hs
  refine ⟨U, ?_, .threw T.heap.size, hrun, hend, Or.inr ⟨T.heap.size, rfl, cls, ce, locs, hx U hWs.alike f1 (fun q hq => f2 q hq (fun z hz => nomatch hz)), hce, hO.vm, hcl, hWs, hall, hf⟩⟩
  refine st1 _ ?_
  show Steps p.tables e below (T1.setTop { method := m, pc := pc + 3, locals := ls, stack := .ref T.heap.size :: rest, locked := none }) _
  jvm_step X₁.here [X₁.here.top, hexec, d3', Value.category]
  exact hsteps
/-- 'throw new E("text")': new; dup; ldc; invokespecial; athrow -/
theorem vx_throwS {cc : ByteArray} {pc : Nat} (hexec : p.tables.exec = Jvm.exec) (hb : c.code = cc) (hl : l.stackTraces = false) {own cls text : String} {names : List String} {ik is ic mc ms sa : Nat} {A : Nat → Prop}
    (hown : s.vm.findClass own = some m.cls) (hcls : Bundle.fit cls = true) (hnames : ∀ n ∈ names, Bundle.fit n = true)
    (hk : (Cond.classLink own ik cls).before args s = true) (hini : (Cond.initialized cls).before args s = true) (hstr : vk_R own is text sa s) (hat : ∀ w ∈ vx_atS own ic cls names, w.before args s = true)
    (hgood : ∀ w ∈ Cond.classLink own ik cls :: Cond.initialized cls :: vx_atS own ic cls names, vx_ot w = true)
    (hU : vx_Zq Bundle.tN "UNASSIGNED_STACK" Bundle.steD A s s.heap) (hN : vx_Zq Bundle.tN "SUPPRESSED_SENTINEL" Bundle.listD A s s.heap) (hS : va_S A s.heap H locs) (hsize : ls.size = c.maxLocals)
    (d0 : decode cc pc = .ok (.new ik, 3)) (d3 : decode cc (pc + 3) = .ok (.dup, 1)) (d4 : decode cc (pc + 4) = .ok (.ldc is, 2)) (d6 : decode cc (pc + 6) = .ok (.invokespecial ic, 3)) (d9 : decode cc (pc + 9) = .ok (.athrow, 1))
    (hout : ∀ x ∈ c.exceptionTable.toList, covers x (pc + 9) = false)
    (hRframes : names.length + 3 < R.frames) (hRlocals : (rest.map fun v => v.category).sum + (13 * (names.length + 1) + 43) ≤ R.locals) (hRcells : cells + 1 ≤ R.cells) (hRslots : slots + 6 ≤ R.slots) (hlocks : meth.locks = false)
    (hx : ∀ t : State, s.vm.Alike t.vm → H.size ≤ t.heap.size → (∀ q : Nat, q < H.size → t.heap[q]? = H[q]?) → XC cls s t)
    (hf : ∀ z ∈ locs, free z.base) (hc : cells + 1 ≤ mc) (hs : slots + 6 ≤ ms) :
    W p l e R s m args below meth c H locs cells slots (vx_MQ below Qc XC args s mc ms free) (F0 m pc ls rest) := by
  intro T hT X
  have htr : e.platform.stackTraces = false := (show e.platform.stackTraces = l.stackTraces by rw [X.admits.platform]).trans hl
  have Y := vx_rebase X (R' := { frames := R.frames, locals := R.locals, cells := 1, slots := 6 }) (Nat.le_refl _) (Nat.le_refl _) hRcells hRslots
  obtain ⟨s', hA⟩ : ∃ z, z = (T.setVm s.vm).setFrames (.invoking m args :: below) := ⟨_, rfl⟩
  rw [← hA] at Y
  have hvm : s'.vm = s.vm := by rw [hA]; rfl
  have hhp : s'.heap = H := by rw [hA]; exact hT
  have hW0 : s.WarmedH s'.vm := by rw [hvm]; exact State.WarmedH.refl s
  have hat' : ∀ w ∈ vx_atS own ic cls names, w.before args s' = true := fun w hw => vx_ot_at hW0 hvm.symm (hgood w (List.mem_cons_of_mem _ (List.mem_cons_of_mem _ hw))) (hat w hw)
  have hk' : (Cond.classLink own ik cls).before args s' = true := vx_ot_at hW0 hvm.symm (hgood _ List.mem_cons_self) hk
  have hini' : (Cond.initialized cls).before args s' = true := vx_ot_at hW0 hvm.symm (hgood _ (List.mem_cons_of_mem _ List.mem_cons_self)) hini
  have hU' : vx_Zq Bundle.tN "UNASSIGNED_STACK" Bundle.steD A s' s'.heap := by rw [hhp]; exact vx_Zq.moved hW0.alike (hU.kept hS.2.1)
  have hN' : vx_Zq Bundle.tN "SUPPRESSED_SENTINEL" Bundle.listD A s' s'.heap := by rw [hhp]; exact vx_Zq.moved hW0.alike (hN.kept hS.2.1)
  have h : ∀ w ∈ Bundle.ownAtoms own ic cls names, w.before args s' = true := vx_own hat' (vx_isRefq hU'.1) (vx_isRefq hN'.1) hU'.2.word hN'.2.word
  have hown' : s'.vm.findClass own = some m.cls := by rw [hvm]; exact hown
  have hins : (Cond.instantiable cls 6).before args s' = true := h _ (by simp [Bundle.ownAtoms])
  obtain ⟨vm₁, cX, kX, hfX, hkX, -, -, X₁, st1⟩ := Y.newCold hexec (own := own) (C := cls) (index := ik) (n := 6) hown' hk' hins hini'
    (g := F0 m pc ls rest) rfl (by rw [hb]; exact d0) (Nat.le_refl _) (Nat.le_refl _)
  generalize hT1 : (T.setVm vm₁).pushCell { cls := cX, slots := kX.instanceTypes.map defaultValue, vm := .none } = T1 at X₁ st1
  have hcat : (Value.ref T.heap.size).category = 1 := rfl
  have hcellA : T1.heap[T.heap.size]? = some (freshCell cX kX) := by rw [← hT1]; exact State.heap_pushCell_size _ _
  have d3' : decode c.code (pc + 3) = .ok (.dup, 1) := by rw [hb]; exact d3
  have d4' : decode c.code (pc + 4) = .ok (.ldc is, 2) := by rw [hb]; exact d4
  have hstr' : vk_R own is text sa s' := vk_R.warm hW0 hstr
  obtain ⟨U, hsteps, hrun, hend, hW, hsame, ce, hce, hO⟩ := X₁.ctorThrowS hexec htr (own := own) (cls := cls) (names := names) (ic := ic) hown' hcls hnames h (fun x hx => nomatch hx) hfX hkX hcellA (by rw [hhp, hT]; exact Nat.le_refl _) (msg := .ref sa) rfl
    (g := { method := m, pc := pc + 6, locals := ls, stack := .ref sa :: .ref T.heap.size :: .ref T.heap.size :: rest, locked := none }) rfl hsize rfl rfl (rest := rest) rfl
    (by rw [hb]; exact d6) (by rw [hb]; exact d9) hout hRframes (by simp only [List.map_cons, List.sum_cons, hcat]; omega) hlocks
  obtain ⟨f1, f2⟩ := vx_frame hsame
  rw [hhp] at f1 f2
  have hWs : s.WarmedH U.vm := State.WarmedH.trans hW0 hW
  have hcl : s.vm.findClass cls = some ce.cls := by
    have h9 := hO.cls
    rw [hvm] at h9
    exact h9
  have hall : s.sameButNew ({ U with vm := s.vm } : State) locs mc ms := by
    subst hA
    obtain ⟨e1, e2⟩ := hsame
    rw [State.setFrames_setFrames] at e1
    have h2 : (T.setVm s.vm).sameButNew ({ U with vm := s.vm } : State) [] (0 + 1) (0 + 6) := ⟨e1, e2⟩
    have h3 := X.same.trans h2
    rw [List.append_nil] at h3
    exact h3.mono hc hs
  refine ⟨U, ?_, .threw T.heap.size, hrun, hend, Or.inr ⟨T.heap.size, rfl, cls, ce, locs, hx U hWs.alike f1 (fun q hq => f2 q hq (fun z hz => nomatch hz)), hce, hO.vm, hcl, hWs, hall, hf⟩⟩
  refine st1 _ ?_
  show Steps p.tables e below (T1.setTop { method := m, pc := pc + 3, locals := ls, stack := .ref T.heap.size :: rest, locked := none }) _
  jvm_step X₁.here [X₁.here.top, hexec, d3', Value.category]
  exact X₁.ldcString hexec (own := own) (text := text) (index := is) (a := sa) hown' hstr'.1 hstr'.2
    (g := { method := m, pc := pc + 4, locals := ls, stack := .ref T.heap.size :: .ref T.heap.size :: rest, locked := none }) rfl d4' _ hsteps
/-- 'throw new E("text")', the text by a wide index -/
theorem vx_throwSW {cc : ByteArray} {pc : Nat} (hexec : p.tables.exec = Jvm.exec) (hb : c.code = cc) (hl : l.stackTraces = false) {own cls text : String} {names : List String} {ik is ic mc ms sa : Nat} {A : Nat → Prop}
    (hown : s.vm.findClass own = some m.cls) (hcls : Bundle.fit cls = true) (hnames : ∀ n ∈ names, Bundle.fit n = true)
    (hk : (Cond.classLink own ik cls).before args s = true) (hini : (Cond.initialized cls).before args s = true) (hstr : vk_R own is text sa s) (hat : ∀ w ∈ vx_atS own ic cls names, w.before args s = true)
    (hgood : ∀ w ∈ Cond.classLink own ik cls :: Cond.initialized cls :: vx_atS own ic cls names, vx_ot w = true)
    (hU : vx_Zq Bundle.tN "UNASSIGNED_STACK" Bundle.steD A s s.heap) (hN : vx_Zq Bundle.tN "SUPPRESSED_SENTINEL" Bundle.listD A s s.heap) (hS : va_S A s.heap H locs) (hsize : ls.size = c.maxLocals)
    (d0 : decode cc pc = .ok (.new ik, 3)) (d3 : decode cc (pc + 3) = .ok (.dup, 1)) (d4 : decode cc (pc + 4) = .ok (.ldc_w is, 3)) (d7 : decode cc (pc + 7) = .ok (.invokespecial ic, 3)) (d10 : decode cc (pc + 10) = .ok (.athrow, 1))
    (hout : ∀ x ∈ c.exceptionTable.toList, covers x (pc + 10) = false)
    (hRframes : names.length + 3 < R.frames) (hRlocals : (rest.map fun v => v.category).sum + (13 * (names.length + 1) + 43) ≤ R.locals) (hRcells : cells + 1 ≤ R.cells) (hRslots : slots + 6 ≤ R.slots) (hlocks : meth.locks = false)
    (hx : ∀ t : State, s.vm.Alike t.vm → H.size ≤ t.heap.size → (∀ q : Nat, q < H.size → t.heap[q]? = H[q]?) → XC cls s t)
    (hf : ∀ z ∈ locs, free z.base) (hc : cells + 1 ≤ mc) (hs : slots + 6 ≤ ms) :
    W p l e R s m args below meth c H locs cells slots (vx_MQ below Qc XC args s mc ms free) (F0 m pc ls rest) := by
  intro T hT X
  have htr : e.platform.stackTraces = false := (show e.platform.stackTraces = l.stackTraces by rw [X.admits.platform]).trans hl
  have Y := vx_rebase X (R' := { frames := R.frames, locals := R.locals, cells := 1, slots := 6 }) (Nat.le_refl _) (Nat.le_refl _) hRcells hRslots
  obtain ⟨s', hA⟩ : ∃ z, z = (T.setVm s.vm).setFrames (.invoking m args :: below) := ⟨_, rfl⟩
  rw [← hA] at Y
  have hvm : s'.vm = s.vm := by rw [hA]; rfl
  have hhp : s'.heap = H := by rw [hA]; exact hT
  have hW0 : s.WarmedH s'.vm := by rw [hvm]; exact State.WarmedH.refl s
  have hat' : ∀ w ∈ vx_atS own ic cls names, w.before args s' = true := fun w hw => vx_ot_at hW0 hvm.symm (hgood w (List.mem_cons_of_mem _ (List.mem_cons_of_mem _ hw))) (hat w hw)
  have hk' : (Cond.classLink own ik cls).before args s' = true := vx_ot_at hW0 hvm.symm (hgood _ List.mem_cons_self) hk
  have hini' : (Cond.initialized cls).before args s' = true := vx_ot_at hW0 hvm.symm (hgood _ (List.mem_cons_of_mem _ List.mem_cons_self)) hini
  have hU' : vx_Zq Bundle.tN "UNASSIGNED_STACK" Bundle.steD A s' s'.heap := by rw [hhp]; exact vx_Zq.moved hW0.alike (hU.kept hS.2.1)
  have hN' : vx_Zq Bundle.tN "SUPPRESSED_SENTINEL" Bundle.listD A s' s'.heap := by rw [hhp]; exact vx_Zq.moved hW0.alike (hN.kept hS.2.1)
  have h : ∀ w ∈ Bundle.ownAtoms own ic cls names, w.before args s' = true := vx_own hat' (vx_isRefq hU'.1) (vx_isRefq hN'.1) hU'.2.word hN'.2.word
  have hown' : s'.vm.findClass own = some m.cls := by rw [hvm]; exact hown
  have hins : (Cond.instantiable cls 6).before args s' = true := h _ (by simp [Bundle.ownAtoms])
  obtain ⟨vm₁, cX, kX, hfX, hkX, -, -, X₁, st1⟩ := Y.newCold hexec (own := own) (C := cls) (index := ik) (n := 6) hown' hk' hins hini'
    (g := F0 m pc ls rest) rfl (by rw [hb]; exact d0) (Nat.le_refl _) (Nat.le_refl _)
  generalize hT1 : (T.setVm vm₁).pushCell { cls := cX, slots := kX.instanceTypes.map defaultValue, vm := .none } = T1 at X₁ st1
  have hcat : (Value.ref T.heap.size).category = 1 := rfl
  have hcellA : T1.heap[T.heap.size]? = some (freshCell cX kX) := by rw [← hT1]; exact State.heap_pushCell_size _ _
  have d3' : decode c.code (pc + 3) = .ok (.dup, 1) := by rw [hb]; exact d3
  have d4' : decode c.code (pc + 4) = .ok (.ldc_w is, 3) := by rw [hb]; exact d4
  have hstr' : vk_R own is text sa s' := vk_R.warm hW0 hstr
  obtain ⟨U, hsteps, hrun, hend, hW, hsame, ce, hce, hO⟩ := X₁.ctorThrowS hexec htr (own := own) (cls := cls) (names := names) (ic := ic) hown' hcls hnames h (fun x hx => nomatch hx) hfX hkX hcellA (by rw [hhp, hT]; exact Nat.le_refl _) (msg := .ref sa) rfl
    (g := { method := m, pc := pc + 7, locals := ls, stack := .ref sa :: .ref T.heap.size :: .ref T.heap.size :: rest, locked := none }) rfl hsize rfl rfl (rest := rest) rfl
    (by rw [hb]; exact d7) (by rw [hb]; exact d10) hout hRframes (by simp only [List.map_cons, List.sum_cons, hcat]; omega) hlocks
  obtain ⟨f1, f2⟩ := vx_frame hsame
  rw [hhp] at f1 f2
  have hWs : s.WarmedH U.vm := State.WarmedH.trans hW0 hW
  have hcl : s.vm.findClass cls = some ce.cls := by
    have h9 := hO.cls
    rw [hvm] at h9
    exact h9
  have hall : s.sameButNew ({ U with vm := s.vm } : State) locs mc ms := by
    subst hA
    obtain ⟨e1, e2⟩ := hsame
    rw [State.setFrames_setFrames] at e1
    have h2 : (T.setVm s.vm).sameButNew ({ U with vm := s.vm } : State) [] (0 + 1) (0 + 6) := ⟨e1, e2⟩
    have h3 := X.same.trans h2
    rw [List.append_nil] at h3
    exact h3.mono hc hs
  refine ⟨U, ?_, .threw T.heap.size, hrun, hend, Or.inr ⟨T.heap.size, rfl, cls, ce, locs, hx U hWs.alike f1 (fun q hq => f2 q hq (fun z hz => nomatch hz)), hce, hO.vm, hcl, hWs, hall, hf⟩⟩
  refine st1 _ ?_
  show Steps p.tables e below (T1.setTop { method := m, pc := pc + 3, locals := ls, stack := .ref T.heap.size :: rest, locked := none }) _
  jvm_step X₁.here [X₁.here.top, hexec, d3', Value.category]
  exact X₁.ldcStringW hexec (own := own) (text := text) (index := is) (a := sa) hown' hstr'.1 hstr'.2
    (g := { method := m, pc := pc + 4, locals := ls, stack := .ref T.heap.size :: .ref T.heap.size :: rest, locked := none }) rfl d4' _ hsteps
end Ends
section Bodies
variable {l : Launch}
theorem vx_ofW {y : MethodName} {ws ws' : List Cond} {rm : Room} {Pc : Array Value → State → Prop} {Qc : Array Value → State → Outcome → State → Prop} {XC : String → State → State → Prop} {mc ms : Nat} {free : Addr → Prop} {cc : ByteArray} {maxL : Nat} {ret : Option FieldType}
    (hy : plainName y.cls = true) (hw : ws = Cond.code y cc maxL ret :: ws')
    (body : ∀ p e s m args below meth c s₁, BodyLoose p l y (headSpec ws rm) cc maxL ret e s m args below meth c s₁ → c.maxLocals = maxL → (∀ x ∈ c.exceptionTable.toList, False) → Pc args s →
      W p l e (headSpec ws rm).room s m args below meth c s.heap [] 0 0 (vx_MQ below Qc XC args s mc ms free) (entryFrame m args maxL)) : vx_Met l y ws rm Pc Qc XC mc ms free := by
  refine MetFree.of_bodyS (code := cc) (maxLocals := maxL) (ret := ret) hy ?_ ?_
  · intro args s m h hn
    obtain ⟨meth, c, h1, h2, h3, h4, h5, h6, -, -⟩ := Cond.code_spec hn (atoms_spec (ws := ws) h _ (by rw [hw]; exact List.mem_cons_self))
    exact ⟨meth, c, h1, h2, h3, h4, h5, h6⟩
  · intro p e s m args below meth c s₁ B hml hP _
    have hh0 : s₁.heap = s.heap := by rw [B.state]; rfl
    have ht : ∀ x ∈ c.exceptionTable.toList, False := by
      obtain ⟨meth9, c9, h1, h2, -, -, -, -, h7, -⟩ := Cond.code_spec B.named (atoms_spec (ws := ws) B.pre _ (by rw [hw]; exact List.mem_cons_self))
      cases Option.some.inj (h1.symm.trans B.method)
      cases Option.some.inj (h2.symm.trans (Stand.of_body B).code)
      intro x hx
      rw [Array.isEmpty_iff.mp h7] at hx
      cases hx
    obtain ⟨t, a1, o, b1, b2, b3⟩ := body p e s m args below meth c s₁ B hml ht hP s₁ hh0 (Stand.of_body B)
    exact ⟨t, o, a1, b1, b2, b3⟩
/-- the table of a body with handlers -/
theorem vx_table {p : Program} {x y : MethodName} {S : Spec} {cc bytes : ByteArray} {maxL maxL' : Nat} {ret ret' : Option FieldType} {e : Env} {s s₁ : State} {m : MethodId} {args : Array Value} {below : List Frame} {meth : Method} {c : Code} {hh : List (Nat × Nat × Nat × Nat)}
    (B : BodyLoose p l y S cc maxL ret e s m args below meth c s₁) (h : (Cond.codeWith y bytes maxL' ret' hh).before args s = true) : c.exceptionTable.toList = tableOf hh := by
  obtain ⟨m9, meth9, c9, hn9, h1, h2, -, -, h6, -⟩ := Cond.codeWith_spec h
  cases Option.some.inj (hn9.symm.trans B.named)
  cases Option.some.inj (h1.symm.trans B.method)
  cases Option.some.inj (h2.symm.trans (Stand.of_body B).code)
  rw [← h6, table_eq]
end Bodies
end VXA
/-! ===== END ===== -/
/-! ===== BEGIN a static call of a method with an exception table ===== -/
section VXS
variable {p : Program} {l : Launch} {e : Env} {R : Room} {s : State} {m : MethodId} {args : Array Value} {below : List Frame} {meth : Method} {c : Code} {T : State} {H : Heap} {locs : List Loc} {cells slots : Nat}
abbrev vx_CSW (R : Room) (s : State) (args : Array Value) (own : String) (index : Nat) (y : MethodName) (bytes : ByteArray) (maxL : Nat) (ret : Option FieldType) (hh : List (Nat × Nat × Nat × Nat)) (ws : List Cond) (rm : Room) (mc ms n : Nat) : Prop :=
  (rm.cells = mc ∧ rm.slots = ms ∧ rm.frames + 1 ≤ R.frames ∧ 8 + (maxL + 11) + rm.locals ≤ R.locals ∧ (∀ w ∈ ws, ∀ (a' : Array Value) (U : State), s.WarmedH U.vm → w.before a' U = true) ∧ Cond.codeWith y bytes maxL ret hh ∈ ws) ∧
  (Cond.codeWith y bytes maxL ret hh).before args s = true ∧ (Cond.initialized y.cls).before args s = true ∧ (y.cls ≠ "java/lang/invoke/MethodHandle" ∧ y.cls ≠ "java/lang/invoke/VarHandle") ∧
  (∀ sig, parseMethodDescriptor y.desc = some sig → n = sig.parameters.length) ∧ (Cond.methodLink own index y).before args s = true ∧ (Cond.static y).before args s = true
theorem vx_cwSW {own : String} {index maxL mc ms : Nat} {y : MethodName} {bytes : ByteArray} {ret : Option FieldType} {hh : List (Nat × Nat × Nat × Nat)} {Ts ws ws' : List Cond} {rm : Room} (n : Nat) (ht : ∀ w ∈ Ts, w.before args s = true) (hT : GoodIn Ts (va_wsS own index y ws)) (hw : ws = Cond.codeWith y bytes maxL ret hh :: ws') (hrc : rm.cells = mc) (hrs : rm.slots = ms)
    (hd : y.cls ≠ "java/lang/invoke/MethodHandle" ∧ y.cls ≠ "java/lang/invoke/VarHandle" ∧ (parseMethodDescriptor y.desc).map (fun d => d.parameters.length) = some n) (hR : rm.frames + 1 ≤ R.frames ∧ 8 + (maxL + 11) + rm.locals ≤ R.locals) :
    vx_CSW R s args own index y bytes maxL ret hh ws rm mc ms n := by
  have ok : ∀ w ∈ va_wsS own index y ws, w.before args s = true := fun w h => ht w (hT w h).1
  have hG : GoodIn Ts ws := fun w h => hT w (by unfold va_wsS; exact List.mem_append_right _ h)
  have hc : Cond.codeWith y bytes maxL ret hh ∈ ws := by rw [hw]; exact List.mem_cons_self
  refine ⟨⟨hrc, hrs, hR.1, hR.2, pay_in ht hG, hc⟩, ht _ (hG _ hc).1, ok _ (by simp [va_wsS]), ⟨hd.1, hd.2.1⟩, fun sig h => ?_, ok _ (by simp [va_wsS]), ok _ (by simp [va_wsS])⟩
  have h2 := hd.2.2
  rw [h] at h2
  exact (Option.some.inj h2).symm
theorem vx_callSW (X : Stand p l e R s m args below meth c T locs cells slots) (hexec : p.tables.exec = Jvm.exec) {own : String} {index : Nat} {y : MethodName} {bytes : ByteArray} {maxL : Nat} {ret : Option FieldType} {hh : List (Nat × Nat × Nat × Nat)}
    (hown : s.vm.findClass own = some m.cls) (hlink : (Cond.methodLink own index y).before args s = true) (hstat : (Cond.static y).before args s = true) (hinit : (Cond.initialized y.cls).before args s = true)
    (hcode : (Cond.codeWith y bytes maxL ret hh).before args s = true) (hy : y.cls ≠ "java/lang/invoke/MethodHandle" ∧ y.cls ≠ "java/lang/invoke/VarHandle")
    {W9 : Nat} {Pre : Pt → Array Value → Prop} {Post : Pt → Array Value → Option Value → Pt → Prop} (hK : Back l R p e below s args y 3 W9 Pre Post)
    {g : JFrame} (hg : g.method = m) (hsize : g.locals.size = c.maxLocals) {argsL rest : List Value} (hlen : ∀ sig, parseMethodDescriptor y.desc = some sig → argsL.length = sig.parameters.length)
    (hstack : g.stack = argsL.reverse ++ rest) (hW : 2 * g.monitorRoom + (rest.map fun v => v.category).sum ≤ W9) (hdg : decode c.code g.pc = .ok (.invokestatic index, 3))
    (hpre : ∀ vm₁, s.WarmedH vm₁ → Pre ⟨T.setVm vm₁, locs, cells, slots⟩ argsL.toArray) :
    ∃ (v : Option Value) (vm₁ : Vm) (B : Pt), s.WarmedH vm₁ ∧ Stand p l e R s m args below meth c B.U B.locs B.cells B.slots ∧ Post ⟨T.setVm vm₁, locs, cells, slots⟩ argsL.toArray v B ∧
      ∀ target, Steps p.tables e below (B.U.setTop { g with pc := g.pc + 3, stack := v.toList ++ rest }) target → Steps p.tables e below (T.setTop g) target := by
  obtain ⟨mk, methM, cM, hnamed, hmethM, -, -, -, -, -, -, hsigM⟩ := Cond.codeWith_spec hcode
  have hstatic : methM.isStatic = true := Cond.static_spec hnamed hmethM hstat
  obtain ⟨kP, hkP, -⟩ := className_of_methodNamed hnamed
  have hinitP : kP.init = .initialized := Cond.initialized_spec (findClass_of_methodNamed hnamed) hkP hinit
  obtain ⟨vm₁, X₁, hstep₁⟩ := X.invokestatic hexec hown hlink hnamed hmethM hstatic hkP hinitP hy (g := g) hg (argsL := argsL) (rest := rest) (hlen _ hsigM) hstack hdg
  obtain ⟨v, B, X', hpost, hsteps⟩ := hK m meth c ⟨T.setVm vm₁, locs, cells, slots⟩ { g with stack := rest } (.invokestatic index) mk argsL.toArray X₁ hg hsize hdg hW (X₁.named hnamed) (hpre vm₁ X₁.warmed)
  exact ⟨v, vm₁, B, X₁.warmed, X', hpost, fun target h => hstep₁ _ fun acts => by rw [doInvoke_state]; exact hsteps.trans h⟩
theorem vx_runSW {y : MethodName} {bytes cc : ByteArray} {maxL nL mc ms n index : Nat} {ret : Option FieldType} {hh : List (Nat × Nat × Nat × Nat)} {ws : List Cond} {rm : Room} {Pc : Array Value → State → Prop} {Qc : Array Value → State → Outcome → State → Prop} {free : Addr → Prop} {Ts : List Cond} {own : String} {As rest : List Value} {g : JFrame}
    (S : CallFix p m c cc nL s args Ts own) (hM : Met l y ws rm Pc Qc mc ms free) (cw : vx_CSW R s args own index y bytes maxL ret hh ws rm mc ms n) (hp : PreS s H Pc As)
    (hg : g.method = m) (hn : As.length = n) (hsize : g.locals.size = nL) (hstack : g.stack = As.reverse ++ rest) (hW : 2 * g.monitorRoom + (rest.map fun v => v.category).sum ≤ 8) (hdg : decode cc g.pc = .ok (.invokestatic index, 3)) (hf : cells + mc ≤ R.cells ∧ slots + ms ≤ R.slots) :
    va_Run p l e R s m args below meth c H locs cells slots mc ms g rest (Qc As.toArray) (free) := by
  obtain ⟨⟨hrc, hrs, hfr, hlo, hws, hcw⟩, hcode, hini, hy, hlen, hl, hstt⟩ := cw
  have hK : Back l R p e below s args y 3 8 (PreOf R mc ms Pc) (PostOf Qc mc ms free) := va_backW (hh := hh) (bytes := bytes) (maxL := maxL) (ret := ret) hM hp.1 hrc hrs hfr hlo hws hcw (fun a' U hW => word_at hW (Or.inl (by first | rfl | simp [Cond.onTables, Cond.keeps, Cond.steady])) hini)
  obtain ⟨hx, hb, hml, ho, -⟩ := S
  intro T hT X
  obtain ⟨v, vm₁, ⟨U', l2, c2, s2⟩, hW₁, X', ⟨g', mk, t, L, e1, e2, hq, h1, hL, h2, h3⟩, st⟩ := vx_callSW X hx (hh := hh) (bytes := bytes) (maxL := maxL) (ret := ret) ho hl hstt hini hcode hy hK hg (hsize.trans hml.symm) (argsL := As) (rest := rest) (fun sig h => hn.trans (hlen sig h)) hstack hW (by rw [hb]; exact hdg)
    (fun vm₁ hW₁ => ⟨hf.1, hf.2, hp.2 (T.setVm vm₁) hT hW₁⟩)
  dsimp only [Pt.U, Pt.locs, Pt.cells, Pt.slots] at X' e1 e2 h1 h2 h3 st
  subst h1; subst h2; subst h3
  exact ⟨v, (T.setVm vm₁).calling g' mk As.toArray, t, U', L, hT, X', hL, e1, e2, hq, st⟩
/-- not caught here, past rows that name other classes: it goes on to the caller -/
theorem vx_outP {p : Program} {l : Launch} {e : Env} {R : Room} {s : State} {m : MethodId} {args : Array Value} {below : List Frame} {meth : Method} {c : Code} {H : Heap} {locs : List Loc} {cells slots : Nat} {free : Addr → Prop} {ls : Array Slot} {rest : List Value} {Qc : Array Value → State → Outcome → State → Prop} {XC : String → State → State → Prop}
    {pc : Nat} {own E : String} {ce : Cell} {q : Addr} {mc ms : Nat} (hown : s.vm.findClass own = some m.cls) (hlocks : meth.locks = false)
    (hpass : ∀ z ∈ c.exceptionTable.toList, covers z pc = false ∨ (z.catchType ≠ 0 ∧ ∃ nm : String, (Cond.classLink own z.catchType nm).before args s = true ∧ va_Nc E nm s)) (hcell : H[q]? = some ce) (hv : ce.vm = .none) (hcl : s.vm.findClass E = some ce.cls)
    (hx : ∀ t : State, t.heap = H → s.vm.Alike t.vm → XC E s t) (hf : ∀ z ∈ locs, free z.base) (hc : cells ≤ mc) (hs : slots ≤ ms) :
    vx_W p l e R s m args below meth c H locs cells slots (vx_MQ below Qc XC args s mc ms free) (F0 m pc ls rest) q := by
  intro T hT X
  have hpl : e.platform.magicAccessors = ({} : Platform).magicAccessors := by rw [X.admits.platform]
  obtain ⟨vm', hW', X', st⟩ := X.outThrough hlocks q (g := F0 m pc ls rest) rfl rfl rfl (cell := ce) (by rw [hT]; exact hcell) (by rw [hv]; rfl)
    (by obtain ⟨k9, h9, -⟩ := Vm.findClass_spec hcl; exact ⟨k9, h9⟩) (fun z hz => by
      rcases hpass z hz with h | ⟨hz0, nm, hl1, hn1⟩
      · exact Or.inl h
      · obtain ⟨c6, hc6, hcl6⟩ := Cond.classLink_spec hown hl1 e.platform hpl
        obtain ⟨a8, b8, h1, h2, h3⟩ := hn1
        cases Option.some.inj (h1.symm.trans hcl)
        cases Option.some.inj (h2.symm.trans hc6)
        exact Or.inr ⟨hz0, _, hcl6, h3⟩)
  obtain ⟨g₀, hfr⟩ := X'.frames_eq
  have hcell9 : ((T.setVm vm').setFrames (.throwing q :: below)).heap[q]? = some ce := by
    show T.heap[q]? = some ce
    rw [hT]; exact hcell
  have hend : Ended ((T.setVm vm').setFrames (.throwing q :: below)) below (.threw q) := State.frames_setFrames _ (State.cur_lt_of_frames hfr)
  refine ⟨(T.setVm vm').setFrames (.throwing q :: below), ?_, .threw q, X'.here.running, hend, Or.inr ⟨q, rfl, E, ce, locs, hx _ hT (X'.ends _).1.alike, hcell9, hv, hcl, (X'.ends _).1, (X'.ends _).2.mono hc hs, hf⟩⟩
  rw [X.pushThrowing_eq]
  exact st
/-- a thing of a world lies in the heap -/
theorem vx_lt {D : va_G} {cl : List vw_C} {ws : va_W} {H1 : Heap} (h : va_P D cl ws H1) {k : Nat} {q : Nat × va_E} (hk : ws[k]? = some q) : q.1 < H1.size := (h k q hk).lt
end VXS
/-! ===== END ===== -/
/-! ===== BEGIN methods with a table of their own: called by a name, returning or throwing ===== -/
section VXH
/-! vx_backW, vx_callVX, vx_callSX, vx_callVW, vx_runVW, vx_runVX, vx_runSX, vx_ofWH follow the same proofs as their sisters above (Free/Laws.lean, Shelf42/LK1.lean); vx_outP calls Shelf42/NT130.lean (outThrough). -/
section
variable {l : Launch} {R : Room} {p : Program} {e : Env} {below : List Frame} {s : State} {sargs : Array Value} {y : MethodName} {len W9 : Nat}
theorem vx_backW {ws : List Cond} {rm : Room} {Pc : Array Value → State → Prop} {Qc : Array Value → State → Outcome → State → Prop} {XC : String → State → State → Prop} {mc ms : Nat} {free : Addr → Prop} {bytes : ByteArray} {maxL : Nat} {ret : Option FieldType} {hh : List (Nat × Nat × Nat × Nat)}
    (hM : vx_Met l y ws rm Pc Qc XC mc ms free) (hblind : FrameBlind Pc) (hrc : rm.cells = mc) (hrs : rm.slots = ms)
    (hframes : rm.frames + 1 ≤ R.frames) (hlocals : W9 + (maxL + 11) + rm.locals ≤ R.locals)
    (hws : ∀ w ∈ ws, ∀ a' U, s.WarmedH U.vm → w.before a' U = true) (hcode : Cond.codeWith y bytes maxL ret hh ∈ ws) (hinit : ∀ a' U, s.WarmedH U.vm → (Cond.initialized y.cls).before a' U = true) :
    vx_Back l R p e below s sargs y len W9 (PreOf R mc ms Pc) (PostOf Qc mc ms free) (vx_Post XC mc ms free) := by
  intro m meth c A g ig mk a X hg hsize hdg hW hn hp
  have h1 : (headSpec ws rm).pre.before a A.U = true := atoms_intro fun w hw => hws w hw _ _ X.warmed
  have h2 : (Cond.codeWith y bytes maxL ret hh).before a A.U = true := hws _ hcode _ _ X.warmed
  have h3 : (Cond.initialized y.cls).before a A.U = true := hinit _ _ X.warmed
  have h4 : A.cells + (headSpec ws rm).room.cells ≤ R.cells := by rw [show (headSpec ws rm).room.cells = mc from hrc]; exact hp.1
  have h5 : A.slots + (headSpec ws rm).room.slots ≤ R.slots := by rw [show (headSpec ws rm).room.slots = ms from hrs]; exact hp.2.1
  have hPc : Pc a (A.U.calling g mk a) := hblind _ _ _ _ hp.2.2
  obtain ⟨U, Ls, c0, s0⟩ := A
  dsimp only [Pt.U, Pt.locs, Pt.cells, Pt.slots] at h1 h2 h3 h4 h5 X hn hPc ⊢
  obtain ⟨m9, methY, cY, hn9, hmY, hcY, -, hlY, -⟩ := Cond.codeWith_spec h2
  cases Option.some.inj (hn9.symm.trans hn)
  obtain ⟨kY, hkY, -⟩ := className_of_methodNamed hn
  have hinitY : kY.init = .initialized := Cond.initialized_spec (findClass_of_methodNamed hn) hkY h3
  have h : At U g.method c below := by rw [hg]; exact X.here
  have hlocals9 : W9 + (maxL + 11) + (headSpec ws rm).room.locals ≤ R.locals := hlocals
  have happ : (headSpec ws rm).appliesLoose y e.platform (U.calling g mk a) = true :=
    Spec.appliesLoose_calling (g := g) h hdg hn hkY hinitY
      (X.room_calling (g := g) (R' := (headSpec ws rm).room) hsize hmY hcY hframes (by rw [hlY]; omega) h4 h5) h1
  obtain ⟨mid, hmid⟩ := h.above
  have hfr : (U.setTop g).frames = (.java g :: mid) ++ below := by rw [State.frames_setTop' g h.top, hmid]; rfl
  obtain ⟨o, s₂, hsteps, -, hend, hq⟩ := Steps.callFree hM p X.admits X.cas X.clock (acts := []) hfr happ hPc trivial
  have hq' : vx_Q Qc XC mc ms free a (U.calling g mk a) o s₂ := hq
  rw [State.frames_setTop' g h.top] at hend
  obtain ⟨g₀, hg0⟩ := Option.isSome_iff_exists.mp h.top
  obtain ⟨r, hr⟩ := State.topJava?_eq_some.mp hg0
  have hr' : (({ U with heap := s₂.heap, slotsUsed := s₂.slotsUsed } : State).setVm s₂.vm).frames = .java g₀ :: r := hr
  rcases hq' with ⟨hqc, L, hfe, hL⟩ | ⟨q, rfl, E, ce, L, hx, hce, hcv, hcl, hW₂, hsm, hL⟩
  · obtain ⟨⟨v, rfl⟩, hW₂, e2, q2, q3, q4, q5, q6⟩ := id hfe
    have e3 : s₂ = ({ (U.calling g mk a).setFrames s₂.frames with heap := s₂.heap, slotsUsed := s₂.slotsUsed } : State).setVm s₂.vm := by
      have : s₂ = ({ s₂ with vm := (U.calling g mk a).vm } : State).setVm s₂.vm := rfl
      rw [e2] at this
      exact this
    obtain ⟨c₂, i₂, len₂, hc₂, hd₂, hf₂⟩ := hend
    have hW' : U.WarmedH s₂.vm := hW₂
    have hcc : c₂ = c := by
      have h1 : s₂.code? g.method = U.code? g.method := by
        rw [State.code?_eq, State.code?_eq, hW'.alike.method?]
      exact Option.some.inj (hc₂.symm.trans (h1.trans h.code))
    subst hcc
    have hlen : len₂ = len := by rw [hdg] at hd₂; cases hd₂; rfl
    subst hlen
    have hs₂ : s₂ = (({ U with heap := s₂.heap, slotsUsed := s₂.slotsUsed } : State).setVm s₂.vm).setTop { g with pc := g.pc + len₂, stack := v.toList ++ g.stack } := by
      refine e3.trans ?_
      rw [hf₂, State.calling_eq h.top, State.setFrames_setFrames, State.setTop_of_frames _ hr', hr]
      rfl
    have hsame : U.sameButNew ({ U with heap := s₂.heap, slotsUsed := s₂.slotsUsed } : State) L mc ms := by
      refine ⟨?_, q2, q3, q4, q5, q6⟩
      obtain ⟨t, ht, -⟩ := State.frames_cons hr
      show ({ U with heap := s₂.heap, slotsUsed := s₂.slotsUsed } : State) = { U.setFrames U.frames with heap := s₂.heap, slotsUsed := s₂.slotsUsed }
      rw [State.setFrames_self ht]
    subst hg
    refine Or.inl ⟨v, ⟨(({ U with heap := s₂.heap, slotsUsed := s₂.slotsUsed } : State).setVm s₂.vm), Ls ++ L, c0 + mc, s0 + ms⟩,
      ⟨X.admits, X.cas, X.clock, X.frames, X.room, X.hears, X.method, X.code, (X.here.setHeapUsed s₂.heap s₂.slotsUsed).setVm hW'.alike, X.tail, State.WarmedH.trans X.warmed hW', X.limits, X.bytes, X.same.trans (hsame.setVm s.vm)⟩,
      ⟨g, mk, s₂, L, rfl, rfl, hqc, rfl, hL, rfl, rfl⟩, ?_⟩
    show Steps p.tables e below _ ((({ U with heap := s₂.heap, slotsUsed := s₂.slotsUsed } : State).setVm s₂.vm).setTop { g with pc := g.pc + len₂, stack := v.toList ++ g.stack })
    rw [← hs₂]
    exact hsteps
  · obtain ⟨e2, q2, q3, q4, q5, q6⟩ := id hsm
    have e3 : s₂ = ({ (U.calling g mk a).setFrames s₂.frames with heap := s₂.heap, slotsUsed := s₂.slotsUsed } : State).setVm s₂.vm := by
      have : s₂ = ({ s₂ with vm := (U.calling g mk a).vm } : State).setVm s₂.vm := rfl
      rw [e2] at this
      exact this
    have hf₂ : s₂.frames = .throwing q :: .java g :: U.frames.tail := hend
    have hW' : U.WarmedH s₂.vm := hW₂
    have hs₂ : s₂ = ((({ U with heap := s₂.heap, slotsUsed := s₂.slotsUsed } : State).setVm s₂.vm).setTop g).pushFrame (.throwing q) := by
      refine e3.trans ?_
      rw [hf₂, State.calling_eq h.top, State.setFrames_setFrames, State.pushFrame, State.frames_setTop _ hr', State.setTop_of_frames _ hr', State.setFrames_setFrames, hr]
      rfl
    have hsame : U.sameButNew ({ U with heap := s₂.heap, slotsUsed := s₂.slotsUsed } : State) L mc ms := by
      refine ⟨?_, q2, q3, q4, q5, q6⟩
      obtain ⟨t, ht, -⟩ := State.frames_cons hr
      show ({ U with heap := s₂.heap, slotsUsed := s₂.slotsUsed } : State) = { U.setFrames U.frames with heap := s₂.heap, slotsUsed := s₂.slotsUsed }
      rw [State.setFrames_self ht]
    subst hg
    refine Or.inr ⟨q, ⟨(({ U with heap := s₂.heap, slotsUsed := s₂.slotsUsed } : State).setVm s₂.vm), Ls ++ L, c0 + mc, s0 + ms⟩,
      ⟨X.admits, X.cas, X.clock, X.frames, X.room, X.hears, X.method, X.code, (X.here.setHeapUsed s₂.heap s₂.slotsUsed).setVm hW'.alike, X.tail, State.WarmedH.trans X.warmed hW', X.limits, X.bytes, X.same.trans (hsame.setVm s.vm)⟩,
      ⟨g, mk, s₂, L, E, ce, rfl, rfl, hx, hce, hcv, hcl, rfl, hL, rfl, rfl⟩, ?_⟩
    show Steps p.tables e below _ (((({ U with heap := s₂.heap, slotsUsed := s₂.slotsUsed } : State).setVm s₂.vm).setTop g).pushFrame (.throwing q))
    rw [← hs₂]
    exact hsteps
end
variable {p : Program} {l : Launch} {e : Env} {R : Room} {s : State} {m : MethodId} {args : Array Value} {below : List Frame} {meth : Method} {c : Code} {T : State} {H : Heap} {locs : List Loc} {cells slots : Nat}
theorem vx_callVX (X : Stand p l e R s m args below meth c T locs cells slots) (hexec : p.tables.exec = Jvm.exec) {own C : String} {index : Nat} {y : MethodName} {bytes : ByteArray} {maxL : Nat} {ret : Option FieldType} {hh : List (Nat × Nat × Nat × Nat)}
    (hown : s.vm.findClass own = some m.cls) (hlink : (Cond.methodLink own index y).before args s = true) (hinst : (Cond.instanceMethod y).before args s = true) (hsel : (Cond.selects C y y).before args s = true)
    (hcode : (Cond.codeWith y bytes maxL ret hh).before args s = true) (hy : y.cls ≠ "java/lang/invoke/MethodHandle" ∧ y.cls ≠ "java/lang/invoke/VarHandle")
    {W9 : Nat} {Pre : Pt → Array Value → Prop} {Post : Pt → Array Value → Option Value → Pt → Prop} {PostX : Pt → Array Value → Addr → Pt → Prop} (hK : vx_Back l R p e below s args y 3 W9 Pre Post PostX)
    {b : Addr} {cellB : Cell} (hcell : T.heap[b]? = some cellB) (hobj : cellB.vm.isStatics = false) (hcls : s.vm.findClass C = some cellB.cls)
    {g : JFrame} (hg : g.method = m) (hsize : g.locals.size = c.maxLocals) {argsL rest : List Value} (hlen : ∀ sig, parseMethodDescriptor y.desc = some sig → argsL.length = sig.parameters.length)
    (hstack : g.stack = argsL.reverse ++ .ref b :: rest) (hW : 2 * g.monitorRoom + (rest.map fun v => v.category).sum ≤ W9) (hdg : decode c.code g.pc = .ok (.invokevirtual index, 3))
    (hpre : ∀ vm₁, s.WarmedH vm₁ → Pre ⟨T.setVm vm₁, locs, cells, slots⟩ (Value.ref b :: argsL).toArray) :
    (∃ (v : Option Value) (vm₁ : Vm) (B : Pt), s.WarmedH vm₁ ∧ Stand p l e R s m args below meth c B.U B.locs B.cells B.slots ∧ Post ⟨T.setVm vm₁, locs, cells, slots⟩ (Value.ref b :: argsL).toArray v B ∧
      ∀ target, Steps p.tables e below (B.U.setTop { g with pc := g.pc + 3, stack := v.toList ++ rest }) target → Steps p.tables e below (T.setTop g) target) ∨
    (∃ (q : Addr) (vm₁ : Vm) (B : Pt), s.WarmedH vm₁ ∧ Stand p l e R s m args below meth c B.U B.locs B.cells B.slots ∧ PostX ⟨T.setVm vm₁, locs, cells, slots⟩ (Value.ref b :: argsL).toArray q B ∧
      Steps p.tables e below (T.setTop g) ((B.U.setTop { g with stack := rest }).pushFrame (.throwing q))) := by
  obtain ⟨mk, methM, hnamed, hmethM, hstM, habM⟩ := Cond.instanceMethod_spec hinst
  obtain ⟨m8, methM', cM, hn8, hmethM', -, -, -, -, -, -, hsigM⟩ := Cond.codeWith_spec hcode
  cases Option.some.inj (hn8.symm.trans hnamed)
  cases hmethM.symm.trans hmethM'
  obtain ⟨c2, r2, m2, q1, q2, q3, q4, kP, hkP, hkPi⟩ := Cond.selects_spec hsel
  cases hcls.symm.trans q1
  cases (State.methodFound?_of_named hnamed hy).symm.trans q2
  cases hnamed.symm.trans q3
  have hselP : selectMethod e.platform s.vm cellB.cls mk = .method mk := by rw [Launch.admits_selectMethod X.admits]; exact q4
  obtain ⟨vm₁, X₁, hstep₁⟩ := X.invokevirtual hexec hown hlink hnamed hmethM hstM hkP hkPi hy (a := b) (cell := cellB) hcell
    (fun z h => by rw [h] at hobj; cases hobj) hselP hmethM habM hkP hkPi (g := g) hg (argsL := argsL) (rest := rest) (hlen _ hsigM) hstack hdg
  rcases hK m meth c ⟨T.setVm vm₁, locs, cells, slots⟩ { g with stack := rest } (.invokevirtual index) mk (Value.ref b :: argsL).toArray X₁ hg hsize hdg hW (X₁.named hnamed) (hpre vm₁ X₁.warmed) with ⟨v, B, X', hpost, hsteps⟩ | ⟨q, B, X', hpost, hsteps⟩
  · exact Or.inl ⟨v, vm₁, B, X₁.warmed, X', hpost, fun target h => hstep₁ _ fun acts => by rw [doInvoke_state]; exact hsteps.trans h⟩
  · exact Or.inr ⟨q, vm₁, B, X₁.warmed, X', hpost, hstep₁ _ fun acts => by rw [doInvoke_state]; exact hsteps⟩
theorem vx_callSX (X : Stand p l e R s m args below meth c T locs cells slots) (hexec : p.tables.exec = Jvm.exec) {own : String} {index : Nat} {y : MethodName} {bytes : ByteArray} {maxL : Nat} {ret : Option FieldType} {hh : List (Nat × Nat × Nat × Nat)}
    (hown : s.vm.findClass own = some m.cls) (hlink : (Cond.methodLink own index y).before args s = true) (hstat : (Cond.static y).before args s = true) (hinit : (Cond.initialized y.cls).before args s = true)
    (hcode : (Cond.codeWith y bytes maxL ret hh).before args s = true) (hy : y.cls ≠ "java/lang/invoke/MethodHandle" ∧ y.cls ≠ "java/lang/invoke/VarHandle")
    {W9 : Nat} {Pre : Pt → Array Value → Prop} {Post : Pt → Array Value → Option Value → Pt → Prop} {PostX : Pt → Array Value → Addr → Pt → Prop} (hK : vx_Back l R p e below s args y 3 W9 Pre Post PostX)
    {g : JFrame} (hg : g.method = m) (hsize : g.locals.size = c.maxLocals) {argsL rest : List Value} (hlen : ∀ sig, parseMethodDescriptor y.desc = some sig → argsL.length = sig.parameters.length)
    (hstack : g.stack = argsL.reverse ++ rest) (hW : 2 * g.monitorRoom + (rest.map fun v => v.category).sum ≤ W9) (hdg : decode c.code g.pc = .ok (.invokestatic index, 3))
    (hpre : ∀ vm₁, s.WarmedH vm₁ → Pre ⟨T.setVm vm₁, locs, cells, slots⟩ argsL.toArray) :
    (∃ (v : Option Value) (vm₁ : Vm) (B : Pt), s.WarmedH vm₁ ∧ Stand p l e R s m args below meth c B.U B.locs B.cells B.slots ∧ Post ⟨T.setVm vm₁, locs, cells, slots⟩ argsL.toArray v B ∧
      ∀ target, Steps p.tables e below (B.U.setTop { g with pc := g.pc + 3, stack := v.toList ++ rest }) target → Steps p.tables e below (T.setTop g) target) ∨
    (∃ (q : Addr) (vm₁ : Vm) (B : Pt), s.WarmedH vm₁ ∧ Stand p l e R s m args below meth c B.U B.locs B.cells B.slots ∧ PostX ⟨T.setVm vm₁, locs, cells, slots⟩ argsL.toArray q B ∧
      Steps p.tables e below (T.setTop g) ((B.U.setTop { g with stack := rest }).pushFrame (.throwing q))) := by
  obtain ⟨mk, methM, cM, hnamed, hmethM, -, -, -, -, -, -, hsigM⟩ := Cond.codeWith_spec hcode
  have hstatic : methM.isStatic = true := Cond.static_spec hnamed hmethM hstat
  obtain ⟨kP, hkP, -⟩ := className_of_methodNamed hnamed
  have hinitP : kP.init = .initialized := Cond.initialized_spec (findClass_of_methodNamed hnamed) hkP hinit
  obtain ⟨vm₁, X₁, hstep₁⟩ := X.invokestatic hexec hown hlink hnamed hmethM hstatic hkP hinitP hy (g := g) hg (argsL := argsL) (rest := rest) (hlen _ hsigM) hstack hdg
  rcases hK m meth c ⟨T.setVm vm₁, locs, cells, slots⟩ { g with stack := rest } (.invokestatic index) mk argsL.toArray X₁ hg hsize hdg hW (X₁.named hnamed) (hpre vm₁ X₁.warmed) with ⟨v, B, X', hpost, hsteps⟩ | ⟨q, B, X', hpost, hsteps⟩
  · exact Or.inl ⟨v, vm₁, B, X₁.warmed, X', hpost, fun target h => hstep₁ _ fun acts => by rw [doInvoke_state]; exact hsteps.trans h⟩
  · exact Or.inr ⟨q, vm₁, B, X₁.warmed, X', hpost, hstep₁ _ fun acts => by rw [doInvoke_state]; exact hsteps⟩
theorem vx_callVW (X : Stand p l e R s m args below meth c T locs cells slots) (hexec : p.tables.exec = Jvm.exec) {own C : String} {index : Nat} {y : MethodName} {bytes : ByteArray} {maxL : Nat} {ret : Option FieldType} {hh : List (Nat × Nat × Nat × Nat)}
    (hown : s.vm.findClass own = some m.cls) (hlink : (Cond.methodLink own index y).before args s = true) (hinst : (Cond.instanceMethod y).before args s = true) (hsel : (Cond.selects C y y).before args s = true)
    (hcode : (Cond.codeWith y bytes maxL ret hh).before args s = true) (hy : y.cls ≠ "java/lang/invoke/MethodHandle" ∧ y.cls ≠ "java/lang/invoke/VarHandle")
    {W9 : Nat} {Pre : Pt → Array Value → Prop} {Post : Pt → Array Value → Option Value → Pt → Prop} (hK : Back l R p e below s args y 3 W9 Pre Post)
    {b : Addr} {cellB : Cell} (hcell : T.heap[b]? = some cellB) (hobj : cellB.vm.isStatics = false) (hcls : s.vm.findClass C = some cellB.cls)
    {g : JFrame} (hg : g.method = m) (hsize : g.locals.size = c.maxLocals) {argsL rest : List Value} (hlen : ∀ sig, parseMethodDescriptor y.desc = some sig → argsL.length = sig.parameters.length)
    (hstack : g.stack = argsL.reverse ++ .ref b :: rest) (hW : 2 * g.monitorRoom + (rest.map fun v => v.category).sum ≤ W9) (hdg : decode c.code g.pc = .ok (.invokevirtual index, 3))
    (hpre : ∀ vm₁, s.WarmedH vm₁ → Pre ⟨T.setVm vm₁, locs, cells, slots⟩ (Value.ref b :: argsL).toArray) :
    ∃ (v : Option Value) (vm₁ : Vm) (B : Pt), s.WarmedH vm₁ ∧ Stand p l e R s m args below meth c B.U B.locs B.cells B.slots ∧ Post ⟨T.setVm vm₁, locs, cells, slots⟩ (Value.ref b :: argsL).toArray v B ∧
      ∀ target, Steps p.tables e below (B.U.setTop { g with pc := g.pc + 3, stack := v.toList ++ rest }) target → Steps p.tables e below (T.setTop g) target := by
  obtain ⟨mk, methM, hnamed, hmethM, hstM, habM⟩ := Cond.instanceMethod_spec hinst
  obtain ⟨m8, methM', cM, hn8, hmethM', -, -, -, -, -, -, hsigM⟩ := Cond.codeWith_spec hcode
  cases Option.some.inj (hn8.symm.trans hnamed)
  cases hmethM.symm.trans hmethM'
  obtain ⟨c2, r2, m2, q1, q2, q3, q4, kP, hkP, hkPi⟩ := Cond.selects_spec hsel
  cases hcls.symm.trans q1
  cases (State.methodFound?_of_named hnamed hy).symm.trans q2
  cases hnamed.symm.trans q3
  have hselP : selectMethod e.platform s.vm cellB.cls mk = .method mk := by rw [Launch.admits_selectMethod X.admits]; exact q4
  obtain ⟨vm₁, X₁, hstep₁⟩ := X.invokevirtual hexec hown hlink hnamed hmethM hstM hkP hkPi hy (a := b) (cell := cellB) hcell
    (fun z h => by rw [h] at hobj; cases hobj) hselP hmethM habM hkP hkPi (g := g) hg (argsL := argsL) (rest := rest) (hlen _ hsigM) hstack hdg
  obtain ⟨v, B, X', hpost, hsteps⟩ := hK m meth c ⟨T.setVm vm₁, locs, cells, slots⟩ { g with stack := rest } (.invokevirtual index) mk (Value.ref b :: argsL).toArray X₁ hg hsize hdg hW (X₁.named hnamed) (hpre vm₁ X₁.warmed)
  exact ⟨v, vm₁, B, X₁.warmed, X', hpost, fun target h => hstep₁ _ fun acts => by rw [doInvoke_state]; exact hsteps.trans h⟩
abbrev vx_CVW (R : Room) (s : State) (args : Array Value) (own C : String) (index : Nat) (y : MethodName) (bytes : ByteArray) (maxL : Nat) (ret : Option FieldType) (hh : List (Nat × Nat × Nat × Nat)) (ws : List Cond) (rm : Room) (mc ms n : Nat) : Prop :=
  (rm.cells = mc ∧ rm.slots = ms ∧ rm.frames + 1 ≤ R.frames ∧ 8 + (maxL + 11) + rm.locals ≤ R.locals ∧ (∀ w ∈ ws, ∀ (a' : Array Value) (U : State), s.WarmedH U.vm → w.before a' U = true) ∧ Cond.codeWith y bytes maxL ret hh ∈ ws) ∧
  (Cond.codeWith y bytes maxL ret hh).before args s = true ∧ (Cond.initialized y.cls).before args s = true ∧ (y.cls ≠ "java/lang/invoke/MethodHandle" ∧ y.cls ≠ "java/lang/invoke/VarHandle") ∧
  (∀ sig, parseMethodDescriptor y.desc = some sig → n = sig.parameters.length) ∧ (Cond.methodLink own index y).before args s = true ∧ (Cond.instanceMethod y).before args s = true ∧ (Cond.selects C y y).before args s = true
theorem vx_cwVW {own C : String} {index maxL mc ms : Nat} {y : MethodName} {bytes : ByteArray} {ret : Option FieldType} {hh : List (Nat × Nat × Nat × Nat)} {Ts ws ws' : List Cond} {rm : Room} (n : Nat) (ht : ∀ w ∈ Ts, w.before args s = true) (hT : GoodIn Ts (wsV own index C y ws)) (hw : ws = Cond.codeWith y bytes maxL ret hh :: ws') (hrc : rm.cells = mc) (hrs : rm.slots = ms)
    (hd : y.cls = C ∧ y.cls ≠ "java/lang/invoke/MethodHandle" ∧ y.cls ≠ "java/lang/invoke/VarHandle" ∧ (parseMethodDescriptor y.desc).map (fun d => d.parameters.length) = some n) (hR : rm.frames + 1 ≤ R.frames ∧ 8 + (maxL + 11) + rm.locals ≤ R.locals) :
    vx_CVW R s args own C index y bytes maxL ret hh ws rm mc ms n := by
  obtain ⟨hC, hd⟩ := hd
  subst hC
  have ok : ∀ w ∈ wsV own index y.cls y ws, w.before args s = true := fun w h => ht w (hT w h).1
  have hG : GoodIn Ts ws := fun w h => hT w (by unfold wsV; exact List.mem_append_right _ h)
  have hc : Cond.codeWith y bytes maxL ret hh ∈ ws := by rw [hw]; exact List.mem_cons_self
  refine ⟨⟨hrc, hrs, hR.1, hR.2, pay_in ht hG, hc⟩, ht _ (hG _ hc).1, ok _ (by simp [wsV]), ⟨hd.1, hd.2.1⟩, fun sig h => ?_, ok _ (by simp [wsV]), ok _ (by simp [wsV]), ok _ (by simp [wsV])⟩
  have h2 := hd.2.2
  rw [h] at h2
  exact (Option.some.inj h2).symm
theorem vx_runVW {y : MethodName} {bytes cc : ByteArray} {maxL nL mc ms n index : Nat} {ret : Option FieldType} {hh : List (Nat × Nat × Nat × Nat)} {ws : List Cond} {rm : Room} {Pc : Array Value → State → Prop} {Qc : Array Value → State → Outcome → State → Prop} {free : Addr → Prop} {Ts : List Cond} {own C : String} {b : Addr} {As rest : List Value} {g : JFrame}
    (S : CallFix p m c cc nL s args Ts own) (hM : Met l y ws rm Pc Qc mc ms free) (cw : vx_CVW R s args own C index y bytes maxL ret hh ws rm mc ms n) (hp : PreV s H C b Pc As)
    (hg : g.method = m) (hn : As.length = n) (hsize : g.locals.size = nL) (hstack : g.stack = As.reverse ++ .ref b :: rest) (hW : 2 * g.monitorRoom + (rest.map fun v => v.category).sum ≤ 8) (hdg : decode cc g.pc = .ok (.invokevirtual index, 3)) (hf : cells + mc ≤ R.cells ∧ slots + ms ≤ R.slots) :
    va_Run p l e R s m args below meth c H locs cells slots mc ms g rest (Qc (Value.ref b :: As).toArray) free := by
  obtain ⟨⟨hrc, hrs, hfr, hlo, hws, hcw⟩, hcode, hini, hy, hlen, hl, hin, hse⟩ := cw
  have hK : Back l R p e below s args y 3 8 (PreOf R mc ms Pc) (PostOf Qc mc ms free) := va_backW (hh := hh) (bytes := bytes) (maxL := maxL) (ret := ret) hM hp.1 hrc hrs hfr hlo hws hcw (fun a' U hW => word_at hW (Or.inl (by first | rfl | simp [Cond.onTables, Cond.keeps, Cond.steady])) hini)
  obtain ⟨hx, hb, hml, ho, -⟩ := S
  obtain ⟨-, ⟨cellB, hcB, hoB, hclB⟩, hPc⟩ := hp
  intro T hT X
  obtain ⟨v, vm₁, ⟨U', l2, c2, s2⟩, hW₁, X', ⟨g', mk, t, L, e1, e2, hq, h1, hL, h2, h3⟩, st⟩ := vx_callVW X hx (C := C) (hh := hh) (bytes := bytes) (maxL := maxL) (ret := ret) ho hl hin hse hcode hy hK (by rw [hT]; exact hcB) hoB hclB hg (hsize.trans hml.symm) (argsL := As) (rest := rest) (fun sig h => hn.trans (hlen sig h)) hstack hW (by rw [hb]; exact hdg)
    (fun vm₁ hW₁ => ⟨hf.1, hf.2, hPc (T.setVm vm₁) hT hW₁⟩)
  dsimp only [Pt.U, Pt.locs, Pt.cells, Pt.slots] at X' e1 e2 h1 h2 h3 st
  subst h1; subst h2; subst h3
  exact ⟨v, (T.setVm vm₁).calling g' mk (Value.ref b :: As).toArray, t, U', L, hT, X', hL, e1, e2, hq, st⟩
section
variable {y : MethodName} {bytes cc : ByteArray} {maxL nL mc ms n index : Nat} {ret : Option FieldType} {ws : List Cond} {rm : Room} {Pc : Array Value → State → Prop} {Qc : Array Value → State → Outcome → State → Prop} {XC : String → State → State → Prop} {free : Addr → Prop} {Ts : List Cond} {own C : String} {b : Addr} {As rest : List Value} {g : JFrame}
theorem vx_runVX {hh : List (Nat × Nat × Nat × Nat)} (S : CallFix p m c cc nL s args Ts own) (hM : vx_Met l y ws rm Pc Qc XC mc ms free) (cw : vx_CVW R s args own C index y bytes maxL ret hh ws rm mc ms n) (hp : PreV s H C b Pc As)
    (hg : g.method = m) (hn : As.length = n) (hsize : g.locals.size = nL) (hstack : g.stack = As.reverse ++ .ref b :: rest) (hW : 2 * g.monitorRoom + (rest.map fun v => v.category).sum ≤ 8) (hdg : decode cc g.pc = .ok (.invokevirtual index, 3)) (hf : cells + mc ≤ R.cells ∧ slots + ms ≤ R.slots) :
    vx_Run p l e R s m args below meth c H locs cells slots mc ms g rest (Qc (Value.ref b :: As).toArray) XC free := by
  obtain ⟨⟨hrc, hrs, hfr, hlo, hws, hcw⟩, hcode, hini, hy, hlen, hl, hin, hse⟩ := cw
  have hK : vx_Back l R p e below s args y 3 8 (PreOf R mc ms Pc) (PostOf Qc mc ms free) (vx_Post XC mc ms free) := vx_backW (hh := hh) (bytes := bytes) (maxL := maxL) (ret := ret) hM hp.1 hrc hrs hfr hlo hws hcw (fun a' U hW => word_at hW (Or.inl (by first | rfl | simp [Cond.onTables, Cond.keeps, Cond.steady])) hini)
  obtain ⟨hx, hb, hml, ho, -⟩ := S
  obtain ⟨-, ⟨cellB, hcB, hoB, hclB⟩, hPc⟩ := hp
  intro T hT X
  rcases vx_callVX X hx (C := C) (hh := hh) (bytes := bytes) (maxL := maxL) (ret := ret) ho hl hin hse hcode hy hK (by rw [hT]; exact hcB) hoB hclB hg (hsize.trans hml.symm) (argsL := As) (rest := rest) (fun sig h => hn.trans (hlen sig h)) hstack hW (by rw [hb]; exact hdg)
    (fun vm₁ hW₁ => ⟨hf.1, hf.2, hPc (T.setVm vm₁) hT hW₁⟩) with ⟨v, vm₁, ⟨U', l2, c2, s2⟩, hW₁, X', ⟨g', mk, t, L, e1, e2, hq, h1, hL, h2, h3⟩, st⟩ | ⟨q, vm₁, ⟨U', l2, c2, s2⟩, hW₁, X', ⟨g', mk, t, L, E, ce, e1, e2, hq, hce, hcv, hcl, h1, hL, h2, h3⟩, st⟩
  · dsimp only [Pt.U, Pt.locs, Pt.cells, Pt.slots] at X' e1 e2 h1 h2 h3 st
    subst h1; subst h2; subst h3
    exact Or.inl ⟨v, (T.setVm vm₁).calling g' mk (Value.ref b :: As).toArray, t, U', L, hT, X', hL, e1, e2, hq, st⟩
  · dsimp only [Pt.U, Pt.locs, Pt.cells, Pt.slots] at X' e1 e2 h1 h2 h3 st hcl
    subst h1; subst h2; subst h3
    exact Or.inr ⟨q, (T.setVm vm₁).calling g' mk (Value.ref b :: As).toArray, t, U', L, E, ce, hT, X', hL, e1, e2, hq, hce, hcv, vx_cls hW₁ hcl, st⟩
theorem vx_runSX {hh : List (Nat × Nat × Nat × Nat)} (S : CallFix p m c cc nL s args Ts own) (hM : vx_Met l y ws rm Pc Qc XC mc ms free) (cw : vx_CSW R s args own index y bytes maxL ret hh ws rm mc ms n) (hp : PreS s H Pc As)
    (hg : g.method = m) (hn : As.length = n) (hsize : g.locals.size = nL) (hstack : g.stack = As.reverse ++ rest) (hW : 2 * g.monitorRoom + (rest.map fun v => v.category).sum ≤ 8) (hdg : decode cc g.pc = .ok (.invokestatic index, 3)) (hf : cells + mc ≤ R.cells ∧ slots + ms ≤ R.slots) :
    vx_Run p l e R s m args below meth c H locs cells slots mc ms g rest (Qc As.toArray) XC free := by
  obtain ⟨⟨hrc, hrs, hfr, hlo, hws, hcw⟩, hcode, hini, hy, hlen, hl, hstt⟩ := cw
  have hK : vx_Back l R p e below s args y 3 8 (PreOf R mc ms Pc) (PostOf Qc mc ms free) (vx_Post XC mc ms free) := vx_backW (hh := hh) (bytes := bytes) (maxL := maxL) (ret := ret) hM hp.1 hrc hrs hfr hlo hws hcw (fun a' U hW => word_at hW (Or.inl (by first | rfl | simp [Cond.onTables, Cond.keeps, Cond.steady])) hini)
  obtain ⟨hx, hb, hml, ho, -⟩ := S
  intro T hT X
  rcases vx_callSX X hx (hh := hh) (bytes := bytes) (maxL := maxL) (ret := ret) ho hl hstt hini hcode hy hK hg (hsize.trans hml.symm) (argsL := As) (rest := rest) (fun sig h => hn.trans (hlen sig h)) hstack hW (by rw [hb]; exact hdg)
    (fun vm₁ hW₁ => ⟨hf.1, hf.2, hp.2 (T.setVm vm₁) hT hW₁⟩) with ⟨v, vm₁, ⟨U', l2, c2, s2⟩, hW₁, X', ⟨g', mk, t, L, e1, e2, hq, h1, hL, h2, h3⟩, st⟩ | ⟨q, vm₁, ⟨U', l2, c2, s2⟩, hW₁, X', ⟨g', mk, t, L, E, ce, e1, e2, hq, hce, hcv, hcl, h1, hL, h2, h3⟩, st⟩
  · dsimp only [Pt.U, Pt.locs, Pt.cells, Pt.slots] at X' e1 e2 h1 h2 h3 st
    subst h1; subst h2; subst h3
    exact Or.inl ⟨v, (T.setVm vm₁).calling g' mk As.toArray, t, U', L, hT, X', hL, e1, e2, hq, st⟩
  · dsimp only [Pt.U, Pt.locs, Pt.cells, Pt.slots] at X' e1 e2 h1 h2 h3 st hcl
    subst h1; subst h2; subst h3
    exact Or.inr ⟨q, (T.setVm vm₁).calling g' mk As.toArray, t, U', L, E, ce, hT, X', hL, e1, e2, hq, hce, hcv, vx_cls hW₁ hcl, st⟩
end
end VXH
theorem vx_ofWH {l : Launch} {y : MethodName} {ws ws' : List Cond} {rm : Room} {Pc : Array Value → State → Prop} {Qc : Array Value → State → Outcome → State → Prop} {XC : String → State → State → Prop} {mc ms : Nat} {free : Addr → Prop} {cc : ByteArray} {maxL : Nat} {ret : Option FieldType} {hh : List (Nat × Nat × Nat × Nat)}
    (hy : plainName y.cls = true) (hw : ws = Cond.codeWith y cc maxL ret hh :: ws')
    (body : ∀ p e s m args below meth c s₁, BodyLoose p l y (headSpec ws rm) cc maxL ret e s m args below meth c s₁ → c.maxLocals = maxL → Pc args s →
      W p l e (headSpec ws rm).room s m args below meth c s.heap [] 0 0 (vx_MQ below Qc XC args s mc ms free) (entryFrame m args maxL)) : vx_Met l y ws rm Pc Qc XC mc ms free := by
  refine MetFree.of_bodyS (code := cc) (maxLocals := maxL) (ret := ret) hy ?_ ?_
  · intro args s m h hn
    obtain ⟨m9, meth, c, hn9, h1, h2, h3, h4, -, h5, h6, -⟩ := Cond.codeWith_spec (atoms_spec (ws := ws) h _ (by rw [hw]; exact List.mem_cons_self))
    cases hn.symm.trans hn9
    exact ⟨meth, c, h1, h2, h3, h4, h5, h6⟩
  · intro p e s m args below meth c s₁ B hml hP _
    have hh0 : s₁.heap = s.heap := by rw [B.state]; rfl
    obtain ⟨t, a1, o, b1, b2, b3⟩ := body p e s m args below meth c s₁ B hml hP s₁ hh0 (Stand.of_body B)
    exact ⟨t, o, a1, b1, b2, b3⟩
/-! ===== END ===== -/
end
section
def RX0 : String := "GradedTopicBroker$Client"
def TX0 : u_T := fun k => match k with
  | 0 => ("GradedTopicBroker$Client", "connected", "Z", false)
  | 1 => ("GradedTopicBroker$Client", "hasWill", "Z", false)
  | 2 => ("GradedTopicBroker$Client", "retainWill", "Z", false)
  | 3 => ("GradedTopicBroker$Client", "will", "LGradedTopicBroker$Message;", true)
  | 4 => ("GradedTopicBroker$Client", "queue", "LGradedTopicBroker$PacketQueue;", true)
  | 5 => ("GradedTopicBroker$Client", "session", "LGradedTopicBroker$Session;", true)
  | 6 => ("GradedTopicBroker$Client", "load", "F", false)
  | _ => ("GradedTopicBroker$Client", "sentCount", "I", false)
def tyX0 : Nat → FieldType := fun k => match k with
  | 0 => .boolean
  | 1 => .boolean
  | 2 => .boolean
  | 3 => .object "GradedTopicBroker$Message"
  | 4 => .object "GradedTopicBroker$PacketQueue"
  | 5 => .object "GradedTopicBroker$Session"
  | 6 => .float
  | _ => .int
theorem nmX0 : ∀ a, a < 8 → ∀ b, b < 8 → a ≠ b → (TX0 a).2.1 ≠ (TX0 b).2.1 := by decide +kernel
theorem tyX0_ok : ∀ k, k < 8 → parseFieldDescriptor (TX0 k).2.2.1 = some (tyX0 k) := by decide +kernel
abbrev cX0_init : ByteArray := prog_2_method_1_code
def yX0_init : MethodName := ⟨RX0, "<init>", "(LGradedTopicBroker$Text;)V"⟩
abbrev cX0_copyFrom : ByteArray := prog_2_method_2_code
def yX0_copyFrom : MethodName := ⟨RX0, "copyFrom", "(LGradedTopicBroker$Client;)V"⟩
def RX1 : String := "GradedTopicBroker$Message"
def TX1 : u_T := fun k => match k with
  | 0 => ("GradedTopicBroker$Message", "topic", "LGradedTopicBroker$Text;", false)
  | 1 => ("GradedTopicBroker$Message", "grade", "I", false)
  | 2 => ("GradedTopicBroker$Message", "payload", "I", false)
  | 3 => ("GradedTopicBroker$Message", "flags", "I", false)
  | 4 => ("GradedTopicBroker$Message", "identifier", "I", false)
  | 5 => ("GradedTopicBroker$Message", "waitsFor", "I", false)
  | _ => ("GradedTopicBroker$Message", "sentAt", "I", false)
def tyX1 : Nat → FieldType := fun k => match k with
  | 0 => .object "GradedTopicBroker$Text"
  | 1 => .int
  | 2 => .int
  | 3 => .int
  | 4 => .int
  | 5 => .int
  | _ => .int
theorem nmX1 : ∀ a, a < 7 → ∀ b, b < 7 → a ≠ b → (TX1 a).2.1 ≠ (TX1 b).2.1 := by decide +kernel
theorem tyX1_ok : ∀ k, k < 7 → parseFieldDescriptor (TX1 k).2.2.1 = some (tyX1 k) := by decide +kernel
abbrev cX1_init : ByteArray := prog_3_method_1_code
def yX1_init : MethodName := ⟨RX1, "<init>", "(LGradedTopicBroker$Text;)V"⟩
abbrev cX1_fill : ByteArray := prog_3_method_2_code
def yX1_fill : MethodName := ⟨RX1, "fill", "(LGradedTopicBroker$Text;II)V"⟩
abbrev cX1_copyFrom : ByteArray := prog_3_method_3_code
def yX1_copyFrom : MethodName := ⟨RX1, "copyFrom", "(LGradedTopicBroker$Message;)V"⟩
def RX2 : String := "GradedTopicBroker$MessageList"
def TX2 : u_T := fun k => match k with
  | 0 => ("GradedTopicBroker$MessageList", "rows", "[LGradedTopicBroker$Message;", true)
  | _ => ("GradedTopicBroker$MessageList", "count", "I", false)
def tyX2 : Nat → FieldType := fun k => match k with
  | 0 => .array (.object "GradedTopicBroker$Message")
  | _ => .int
theorem nmX2 : ∀ a, a < 2 → ∀ b, b < 2 → a ≠ b → (TX2 a).2.1 ≠ (TX2 b).2.1 := by decide +kernel
theorem tyX2_ok : ∀ k, k < 2 → parseFieldDescriptor (TX2 k).2.2.1 = some (tyX2 k) := by decide +kernel
abbrev cX2_init : ByteArray := prog_4_method_1_code
def yX2_init : MethodName := ⟨RX2, "<init>", "(ILGradedTopicBroker$Text;)V"⟩
abbrev cX2_add : ByteArray := prog_4_method_2_code
def yX2_add : MethodName := ⟨RX2, "add", "(LGradedTopicBroker$Message;)V"⟩
abbrev cX2_removeAt : ByteArray := prog_4_method_3_code
def yX2_removeAt : MethodName := ⟨RX2, "removeAt", "(I)V"⟩
abbrev cX2_placeOf : ByteArray := prog_4_method_4_code
def yX2_placeOf : MethodName := ⟨RX2, "placeOf", "(I)I"⟩
abbrev cX2_copyFrom : ByteArray := prog_4_method_5_code
def yX2_copyFrom : MethodName := ⟨RX2, "copyFrom", "(LGradedTopicBroker$MessageList;)V"⟩
def RX3 : String := "GradedTopicBroker$Packet"
def TX3 : u_T := fun k => match k with
  | 0 => ("GradedTopicBroker$Packet", "kind", "I", false)
  | 1 => ("GradedTopicBroker$Packet", "identifier", "I", false)
  | 2 => ("GradedTopicBroker$Packet", "grade", "I", false)
  | 3 => ("GradedTopicBroker$Packet", "payload", "I", false)
  | 4 => ("GradedTopicBroker$Packet", "flags", "I", false)
  | _ => ("GradedTopicBroker$Packet", "topic", "LGradedTopicBroker$Text;", false)
def tyX3 : Nat → FieldType := fun k => match k with
  | 0 => .int
  | 1 => .int
  | 2 => .int
  | 3 => .int
  | 4 => .int
  | _ => .object "GradedTopicBroker$Text"
theorem nmX3 : ∀ a, a < 6 → ∀ b, b < 6 → a ≠ b → (TX3 a).2.1 ≠ (TX3 b).2.1 := by decide +kernel
theorem tyX3_ok : ∀ k, k < 6 → parseFieldDescriptor (TX3 k).2.2.1 = some (tyX3 k) := by decide +kernel
abbrev cX3_init : ByteArray := prog_5_method_1_code
def yX3_init : MethodName := ⟨RX3, "<init>", "(LGradedTopicBroker$Text;)V"⟩
abbrev cX3_copyFrom : ByteArray := prog_5_method_2_code
def yX3_copyFrom : MethodName := ⟨RX3, "copyFrom", "(LGradedTopicBroker$Packet;)V"⟩
def RX4 : String := "GradedTopicBroker$PacketQueue"
def TX4 : u_T := fun k => match k with
  | 0 => ("GradedTopicBroker$PacketQueue", "rows", "[LGradedTopicBroker$Packet;", true)
  | 1 => ("GradedTopicBroker$PacketQueue", "first", "I", false)
  | _ => ("GradedTopicBroker$PacketQueue", "count", "I", false)
def tyX4 : Nat → FieldType := fun k => match k with
  | 0 => .array (.object "GradedTopicBroker$Packet")
  | 1 => .int
  | _ => .int
theorem nmX4 : ∀ a, a < 3 → ∀ b, b < 3 → a ≠ b → (TX4 a).2.1 ≠ (TX4 b).2.1 := by decide +kernel
theorem tyX4_ok : ∀ k, k < 3 → parseFieldDescriptor (TX4 k).2.2.1 = some (tyX4 k) := by decide +kernel
abbrev cX4_init : ByteArray := prog_6_method_1_code
def yX4_init : MethodName := ⟨RX4, "<init>", "(LGradedTopicBroker$Text;)V"⟩
abbrev cX4_head : ByteArray := prog_6_method_2_code
def yX4_head : MethodName := ⟨RX4, "head", "()LGradedTopicBroker$Packet;"⟩
abbrev cX4_extend : ByteArray := prog_6_method_3_code
def yX4_extend : MethodName := ⟨RX4, "extend", "()LGradedTopicBroker$Packet;"⟩
abbrev cX4_dropFirst : ByteArray := prog_6_method_4_code
def yX4_dropFirst : MethodName := ⟨RX4, "dropFirst", "()V"⟩
abbrev cX4_clear : ByteArray := prog_6_method_5_code
def yX4_clear : MethodName := ⟨RX4, "clear", "()V"⟩
abbrev cX4_copyFrom : ByteArray := prog_6_method_6_code
def yX4_copyFrom : MethodName := ⟨RX4, "copyFrom", "(LGradedTopicBroker$PacketQueue;)V"⟩
def RX5 : String := "GradedTopicBroker$Session"
def TX5 : u_T := fun k => match k with
  | 0 => ("GradedTopicBroker$Session", "exists", "Z", false)
  | 1 => ("GradedTopicBroker$Session", "clean", "Z", false)
  | 2 => ("GradedTopicBroker$Session", "offlineSince", "I", false)
  | 3 => ("GradedTopicBroker$Session", "nextIdentifier", "I", false)
  | 4 => ("GradedTopicBroker$Session", "kept", "[Z", true)
  | 5 => ("GradedTopicBroker$Session", "keptCount", "I", false)
  | 6 => ("GradedTopicBroker$Session", "subscriptions", "[LGradedTopicBroker$Subscription;", true)
  | 7 => ("GradedTopicBroker$Session", "subscriptionCount", "I", false)
  | 8 => ("GradedTopicBroker$Session", "flights", "LGradedTopicBroker$MessageList;", true)
  | _ => ("GradedTopicBroker$Session", "pending", "LGradedTopicBroker$MessageList;", true)
def tyX5 : Nat → FieldType := fun k => match k with
  | 0 => .boolean
  | 1 => .boolean
  | 2 => .int
  | 3 => .int
  | 4 => .array .boolean
  | 5 => .int
  | 6 => .array (.object "GradedTopicBroker$Subscription")
  | 7 => .int
  | 8 => .object "GradedTopicBroker$MessageList"
  | _ => .object "GradedTopicBroker$MessageList"
theorem nmX5 : ∀ a, a < 10 → ∀ b, b < 10 → a ≠ b → (TX5 a).2.1 ≠ (TX5 b).2.1 := by decide +kernel
theorem tyX5_ok : ∀ k, k < 10 → parseFieldDescriptor (TX5 k).2.2.1 = some (tyX5 k) := by decide +kernel
abbrev cX5_init : ByteArray := prog_7_method_1_code
def yX5_init : MethodName := ⟨RX5, "<init>", "(LGradedTopicBroker$Text;)V"⟩
abbrev cX5_begin : ByteArray := prog_7_method_2_code
def yX5_begin : MethodName := ⟨RX5, "begin", "(Z)V"⟩
abbrev cX5_clear : ByteArray := prog_7_method_3_code
def yX5_clear : MethodName := ⟨RX5, "clear", "()V"⟩
abbrev cX5_keeps : ByteArray := prog_7_method_4_code
def yX5_keeps : MethodName := ⟨RX5, "keeps", "(I)Z"⟩
abbrev cX5_keep : ByteArray := prog_7_method_5_code
def yX5_keep : MethodName := ⟨RX5, "keep", "(I)V"⟩
abbrev cX5_forget : ByteArray := prog_7_method_6_code
def yX5_forget : MethodName := ⟨RX5, "forget", "(I)V"⟩
abbrev cX5_placeOf : ByteArray := prog_7_method_7_code
def yX5_placeOf : MethodName := ⟨RX5, "placeOf", "(LGradedTopicBroker$Text;I)I"⟩
abbrev cX5_gradeOf : ByteArray := prog_7_method_8_code
def yX5_gradeOf : MethodName := ⟨RX5, "gradeOf", "(LGradedTopicBroker$Text;I)I"⟩
abbrev cX5_addSubscription : ByteArray := prog_7_method_9_code
def yX5_addSubscription : MethodName := ⟨RX5, "addSubscription", "(LGradedTopicBroker$Text;I)V"⟩
abbrev cX5_removeSubscriptionAt : ByteArray := prog_7_method_10_code
def yX5_removeSubscriptionAt : MethodName := ⟨RX5, "removeSubscriptionAt", "(I)V"⟩
abbrev cX5_greatestGrade : ByteArray := prog_7_method_11_code
def yX5_greatestGrade : MethodName := ⟨RX5, "greatestGrade", "(LGradedTopicBroker$Text;Z)I"⟩
abbrev cX5_stepIdentifier : ByteArray := prog_7_method_12_code
def yX5_stepIdentifier : MethodName := ⟨RX5, "stepIdentifier", "()V"⟩
abbrev cX5_copyFrom : ByteArray := prog_7_method_13_code
def yX5_copyFrom : MethodName := ⟨RX5, "copyFrom", "(LGradedTopicBroker$Session;)V"⟩
def RX6 : String := "GradedTopicBroker$Share"
def TX6 : u_T := fun k => match k with
  | 0 => ("GradedTopicBroker$Share", "filter", "LGradedTopicBroker$Text;", false)
  | 1 => ("GradedTopicBroker$Share", "group", "I", false)
  | 2 => ("GradedTopicBroker$Share", "members", "[I", true)
  | _ => ("GradedTopicBroker$Share", "memberCount", "I", false)
def tyX6 : Nat → FieldType := fun k => match k with
  | 0 => .object "GradedTopicBroker$Text"
  | 1 => .int
  | 2 => .array .int
  | _ => .int
theorem nmX6 : ∀ a, a < 4 → ∀ b, b < 4 → a ≠ b → (TX6 a).2.1 ≠ (TX6 b).2.1 := by decide +kernel
theorem tyX6_ok : ∀ k, k < 4 → parseFieldDescriptor (TX6 k).2.2.1 = some (tyX6 k) := by decide +kernel
abbrev cX6_init : ByteArray := prog_8_method_1_code
def yX6_init : MethodName := ⟨RX6, "<init>", "(LGradedTopicBroker$Text;)V"⟩
abbrev cX6_addMember : ByteArray := prog_8_method_2_code
def yX6_addMember : MethodName := ⟨RX6, "addMember", "(I)V"⟩
abbrev cX6_removeMember : ByteArray := prog_8_method_3_code
def yX6_removeMember : MethodName := ⟨RX6, "removeMember", "(I)V"⟩
abbrev cX6_copyFrom : ByteArray := prog_8_method_4_code
def yX6_copyFrom : MethodName := ⟨RX6, "copyFrom", "(LGradedTopicBroker$Share;)V"⟩
def RX7 : String := "GradedTopicBroker$State"
def TX7 : u_T := fun k => match k with
  | 0 => ("GradedTopicBroker$State", "blank", "LGradedTopicBroker$Text;", true)
  | 1 => ("GradedTopicBroker$State", "clients", "[LGradedTopicBroker$Client;", true)
  | 2 => ("GradedTopicBroker$State", "shares", "[LGradedTopicBroker$Share;", true)
  | 3 => ("GradedTopicBroker$State", "shareCount", "I", false)
  | 4 => ("GradedTopicBroker$State", "retained", "[LGradedTopicBroker$Message;", true)
  | 5 => ("GradedTopicBroker$State", "retainedCount", "I", false)
  | 6 => ("GradedTopicBroker$State", "options", "[I", true)
  | 7 => ("GradedTopicBroker$State", "totals", "[I", true)
  | 8 => ("GradedTopicBroker$State", "tally", "LGradedTopicBroker$Tally;", true)
  | 9 => ("GradedTopicBroker$State", "clock", "I", false)
  | _ => ("GradedTopicBroker$State", "draft", "LGradedTopicBroker$Message;", true)
def tyX7 : Nat → FieldType := fun k => match k with
  | 0 => .object "GradedTopicBroker$Text"
  | 1 => .array (.object "GradedTopicBroker$Client")
  | 2 => .array (.object "GradedTopicBroker$Share")
  | 3 => .int
  | 4 => .array (.object "GradedTopicBroker$Message")
  | 5 => .int
  | 6 => .array .int
  | 7 => .array .int
  | 8 => .object "GradedTopicBroker$Tally"
  | 9 => .int
  | _ => .object "GradedTopicBroker$Message"
theorem nmX7 : ∀ a, a < 11 → ∀ b, b < 11 → a ≠ b → (TX7 a).2.1 ≠ (TX7 b).2.1 := by decide +kernel
theorem tyX7_ok : ∀ k, k < 11 → parseFieldDescriptor (TX7 k).2.2.1 = some (tyX7 k) := by decide +kernel
abbrev cX7_init : ByteArray := prog_9_method_1_code
def yX7_init : MethodName := ⟨RX7, "<init>", "(LGradedTopicBroker$Text;)V"⟩
abbrev cX7_copyFrom : ByteArray := prog_9_method_2_code
def yX7_copyFrom : MethodName := ⟨RX7, "copyFrom", "(LGradedTopicBroker$State;)V"⟩
abbrev cX7_endConnection : ByteArray := prog_9_method_3_code
def yX7_endConnection : MethodName := ⟨RX7, "endConnection", "(I)V"⟩
abbrev cX7_failConnection : ByteArray := prog_9_method_4_code
def yX7_failConnection : MethodName := ⟨RX7, "failConnection", "(I)I"⟩
abbrev cX7_removeSession : ByteArray := prog_9_method_5_code
def yX7_removeSession : MethodName := ⟨RX7, "removeSession", "(I)V"⟩
abbrev cX7_resume : ByteArray := prog_9_method_6_code
def yX7_resume : MethodName := ⟨RX7, "resume", "(LGradedTopicBroker$Client;)V"⟩
abbrev cX7_addSubscription : ByteArray := prog_9_method_7_code
def yX7_addSubscription : MethodName := ⟨RX7, "addSubscription", "(ILGradedTopicBroker$Text;I)V"⟩
abbrev cX7_removeSubscription : ByteArray := prog_9_method_8_code
def yX7_removeSubscription : MethodName := ⟨RX7, "removeSubscription", "(ILGradedTopicBroker$Text;I)Z"⟩
abbrev cX7_placeOfShare : ByteArray := prog_9_method_9_code
def yX7_placeOfShare : MethodName := ⟨RX7, "placeOfShare", "(LGradedTopicBroker$Text;I)I"⟩
abbrev cX7_leaveShare : ByteArray := prog_9_method_10_code
def yX7_leaveShare : MethodName := ⟨RX7, "leaveShare", "(II)V"⟩
abbrev cX7_takeMember : ByteArray := prog_9_method_11_code
def yX7_takeMember : MethodName := ⟨RX7, "takeMember", "(LGradedTopicBroker$Share;)I"⟩
abbrev cX7_spread : ByteArray := prog_9_method_12_code
def yX7_spread : MethodName := ⟨RX7, "spread", "(ILGradedTopicBroker$Message;Z)I"⟩
abbrev cX7_countAudience : ByteArray := prog_9_method_13_code
def yX7_countAudience : MethodName := ⟨RX7, "countAudience", "(ILGradedTopicBroker$Text;)I"⟩
abbrev cX7_keepRetained : ByteArray := prog_9_method_14_code
def yX7_keepRetained : MethodName := ⟨RX7, "keepRetained", "(LGradedTopicBroker$Message;)V"⟩
abbrev cX7_dropRetained : ByteArray := prog_9_method_15_code
def yX7_dropRetained : MethodName := ⟨RX7, "dropRetained", "(I)V"⟩
abbrev cX7_openRetained : ByteArray := prog_9_method_16_code
def yX7_openRetained : MethodName := ⟨RX7, "openRetained", "(I)V"⟩
abbrev cX7_giveRetained : ByteArray := prog_9_method_17_code
def yX7_giveRetained : MethodName := ⟨RX7, "giveRetained", "(ILGradedTopicBroker$Text;I)V"⟩
abbrev cX7_give : ByteArray := prog_9_method_18_code
def yX7_give : MethodName := ⟨RX7, "give", "(LGradedTopicBroker$Client;LGradedTopicBroker$Message;II)V"⟩
abbrev cX7_hold : ByteArray := prog_9_method_19_code
def yX7_hold : MethodName := ⟨RX7, "hold", "(LGradedTopicBroker$MessageList;LGradedTopicBroker$Message;)V"⟩
abbrev cX7_mayStart : ByteArray := prog_9_method_20_code
def yX7_mayStart : MethodName := ⟨RX7, "mayStart", "(LGradedTopicBroker$Client;)Z"⟩
abbrev cX7_startFlight : ByteArray := prog_9_method_21_code
def yX7_startFlight : MethodName := ⟨RX7, "startFlight", "(LGradedTopicBroker$Client;LGradedTopicBroker$Message;)V"⟩
abbrev cX7_startPending : ByteArray := prog_9_method_22_code
def yX7_startPending : MethodName := ⟨RX7, "startPending", "(LGradedTopicBroker$Client;)V"⟩
abbrev cX7_takeAnswer : ByteArray := prog_9_method_23_code
def yX7_takeAnswer : MethodName := ⟨RX7, "takeAnswer", "(LGradedTopicBroker$Client;II)Z"⟩
abbrev cX7_resend : ByteArray := prog_9_method_24_code
def yX7_resend : MethodName := ⟨RX7, "resend", "(LGradedTopicBroker$Client;LGradedTopicBroker$Message;)V"⟩
abbrev cX7_sendRelease : ByteArray := prog_9_method_25_code
def yX7_sendRelease : MethodName := ⟨RX7, "sendRelease", "(LGradedTopicBroker$Client;LGradedTopicBroker$Message;)V"⟩
abbrev cX7_sendMessage : ByteArray := prog_9_method_26_code
def yX7_sendMessage : MethodName := ⟨RX7, "sendMessage", "(LGradedTopicBroker$Client;LGradedTopicBroker$Message;I)V"⟩
abbrev cX7_sendSign : ByteArray := prog_9_method_27_code
def yX7_sendSign : MethodName := ⟨RX7, "sendSign", "(LGradedTopicBroker$Client;II)V"⟩
abbrev cX7_countSent : ByteArray := prog_9_method_28_code
def yX7_countSent : MethodName := ⟨RX7, "countSent", "(LGradedTopicBroker$Client;)Z"⟩
abbrev cX7_tick : ByteArray := prog_9_method_29_code
def yX7_tick : MethodName := ⟨RX7, "tick", "()V"⟩
abbrev cX7_resendLate : ByteArray := prog_9_method_30_code
def yX7_resendLate : MethodName := ⟨RX7, "resendLate", "(LGradedTopicBroker$Client;)V"⟩
abbrev cX7_expire : ByteArray := prog_9_method_31_code
def yX7_expire : MethodName := ⟨RX7, "expire", "(I)V"⟩
def RX8 : String := "GradedTopicBroker$Subscription"
def TX8 : u_T := fun k => match k with
  | 0 => ("GradedTopicBroker$Subscription", "filter", "LGradedTopicBroker$Text;", false)
  | 1 => ("GradedTopicBroker$Subscription", "group", "I", false)
  | 2 => ("GradedTopicBroker$Subscription", "grade", "I", false)
  | _ => ("GradedTopicBroker$Subscription", "options", "I", false)
def tyX8 : Nat → FieldType := fun k => match k with
  | 0 => .object "GradedTopicBroker$Text"
  | 1 => .int
  | 2 => .int
  | _ => .int
theorem nmX8 : ∀ a, a < 4 → ∀ b, b < 4 → a ≠ b → (TX8 a).2.1 ≠ (TX8 b).2.1 := by decide +kernel
theorem tyX8_ok : ∀ k, k < 4 → parseFieldDescriptor (TX8 k).2.2.1 = some (tyX8 k) := by decide +kernel
abbrev cX8_init : ByteArray := prog_10_method_1_code
def yX8_init : MethodName := ⟨RX8, "<init>", "(LGradedTopicBroker$Text;)V"⟩
abbrev cX8_copyFrom : ByteArray := prog_10_method_2_code
def yX8_copyFrom : MethodName := ⟨RX8, "copyFrom", "(LGradedTopicBroker$Subscription;)V"⟩
def RX9 : String := "GradedTopicBroker$Tally"
def TX9 : u_T := fun k => match k with
  | 0 => ("GradedTopicBroker$Tally", "topics", "[LGradedTopicBroker$Text;", true)
  | 1 => ("GradedTopicBroker$Tally", "counts", "[I", true)
  | _ => ("GradedTopicBroker$Tally", "topicCount", "I", false)
def tyX9 : Nat → FieldType := fun k => match k with
  | 0 => .array (.object "GradedTopicBroker$Text")
  | 1 => .array .int
  | _ => .int
theorem nmX9 : ∀ a, a < 3 → ∀ b, b < 3 → a ≠ b → (TX9 a).2.1 ≠ (TX9 b).2.1 := by decide +kernel
theorem tyX9_ok : ∀ k, k < 3 → parseFieldDescriptor (TX9 k).2.2.1 = some (tyX9 k) := by decide +kernel
abbrev cX9_init : ByteArray := prog_11_method_1_code
def yX9_init : MethodName := ⟨RX9, "<init>", "(LGradedTopicBroker$Text;)V"⟩
abbrev cX9_placeOf : ByteArray := prog_11_method_2_code
def yX9_placeOf : MethodName := ⟨RX9, "placeOf", "(LGradedTopicBroker$Text;)I"⟩
abbrev cX9_count : ByteArray := prog_11_method_3_code
def yX9_count : MethodName := ⟨RX9, "count", "(LGradedTopicBroker$Text;)V"⟩
abbrev cX9_copyFrom : ByteArray := prog_11_method_4_code
def yX9_copyFrom : MethodName := ⟨RX9, "copyFrom", "(LGradedTopicBroker$Tally;)V"⟩
def RX10 : String := "GradedTopicBroker$Text"
def TX10 : u_T := fun k => match k with
  | 0 => ("GradedTopicBroker$Text", "signs", "[C", true)
  | 1 => ("GradedTopicBroker$Text", "levels", "[J", true)
  | 2 => ("GradedTopicBroker$Text", "levelCount", "I", true)
  | 3 => ("GradedTopicBroker$Text", "open", "Z", true)
  | _ => ("GradedTopicBroker$Text", "fixedCount", "I", true)
def tyX10 : Nat → FieldType := fun k => match k with
  | 0 => .array .char
  | 1 => .array .long
  | 2 => .int
  | 3 => .boolean
  | _ => .int
theorem nmX10 : ∀ a, a < 5 → ∀ b, b < 5 → a ≠ b → (TX10 a).2.1 ≠ (TX10 b).2.1 := by decide +kernel
theorem tyX10_ok : ∀ k, k < 5 → parseFieldDescriptor (TX10 k).2.2.1 = some (tyX10 k) := by decide +kernel
abbrev cX10_init : ByteArray := prog_12_method_1_code
def yX10_init : MethodName := ⟨RX10, "<init>", "([CI)V"⟩
abbrev cX10_findError : ByteArray := prog_12_method_2_code
def yX10_findError : MethodName := ⟨RX10, "findError", "([CIZ)I"⟩
abbrev cX10_isPlain : ByteArray := prog_12_method_3_code
def yX10_isPlain : MethodName := ⟨RX10, "isPlain", "(C)Z"⟩
abbrev cX10_sameAs : ByteArray := prog_12_method_4_code
def yX10_sameAs : MethodName := ⟨RX10, "sameAs", "(LGradedTopicBroker$Text;)Z"⟩
abbrev cX10_order : ByteArray := prog_12_method_5_code
def yX10_order : MethodName := ⟨RX10, "order", "(LGradedTopicBroker$Text;)I"⟩
abbrev cX10_matches : ByteArray := prog_12_method_6_code
def yX10_matches : MethodName := ⟨RX10, "matches", "(LGradedTopicBroker$Text;)Z"⟩
abbrev cX10_fits : ByteArray := prog_12_method_9_code
def yX10_fits : MethodName := ⟨RX10, "fits", "(I)Z"⟩
abbrev cX10_levelAt : ByteArray := prog_12_method_10_code
def yX10_levelAt : MethodName := ⟨RX10, "levelAt", "(I)J"⟩
abbrev cX10_coversWith : ByteArray := prog_12_method_12_code
def yX10_coversWith : MethodName := ⟨RX10, "coversWith", "(LGradedTopicBroker$Text;I)Z"⟩
def RX11 : String := "GradedTopicBroker"
def TX11 : u_T := fun k => match k with
  | 0 => ("GradedTopicBroker", "buffer", "[C", true)
  | 1 => ("GradedTopicBroker", "bufferSize", "I", false)
  | 2 => ("GradedTopicBroker", "errorPosition", "I", false)
  | 3 => ("GradedTopicBroker", "hasPresent", "Z", false)
  | 4 => ("GradedTopicBroker", "present", "LGradedTopicBroker$Packet;", true)
  | 5 => ("GradedTopicBroker", "incoming", "LGradedTopicBroker$Message;", true)
  | 6 => ("GradedTopicBroker", "state", "LGradedTopicBroker$State;", true)
  | 7 => ("GradedTopicBroker", "hasSnapshot", "Z", false)
  | _ => ("GradedTopicBroker", "snapshot", "LGradedTopicBroker$State;", true)
def tyX11 : Nat → FieldType := fun k => match k with
  | 0 => .array .char
  | 1 => .int
  | 2 => .int
  | 3 => .boolean
  | 4 => .object "GradedTopicBroker$Packet"
  | 5 => .object "GradedTopicBroker$Message"
  | 6 => .object "GradedTopicBroker$State"
  | 7 => .boolean
  | _ => .object "GradedTopicBroker$State"
theorem nmX11 : ∀ a, a < 9 → ∀ b, b < 9 → a ≠ b → (TX11 a).2.1 ≠ (TX11 b).2.1 := by decide +kernel
theorem tyX11_ok : ∀ k, k < 9 → parseFieldDescriptor (TX11 k).2.2.1 = some (tyX11 k) := by decide +kernel
abbrev cX11_init : ByteArray := prog_1_method_1_code
def yX11_init : MethodName := ⟨RX11, "<init>", "()V"⟩
abbrev cX11_append : ByteArray := prog_1_method_2_code
def yX11_append : MethodName := ⟨RX11, "append", "(I)I"⟩
abbrev cX11_errorPosition : ByteArray := prog_1_method_3_code
def yX11_errorPosition : MethodName := ⟨RX11, "errorPosition", "()I"⟩
abbrev cX11_setOption : ByteArray := prog_1_method_4_code
def yX11_setOption : MethodName := ⟨RX11, "setOption", "(II)I"⟩
abbrev cX11_connect : ByteArray := prog_1_method_5_code
def yX11_connect : MethodName := ⟨RX11, "connect", "(IZ)I"⟩
abbrev cX11_breakConnection : ByteArray := prog_1_method_7_code
def yX11_breakConnection : MethodName := ⟨RX11, "breakConnection", "(I)I"⟩
abbrev cX11_setWill : ByteArray := prog_1_method_8_code
def yX11_setWill : MethodName := ⟨RX11, "setWill", "(IIZI)I"⟩
abbrev cX11_sessionState : ByteArray := prog_1_method_9_code
def yX11_sessionState : MethodName := ⟨RX11, "sessionState", "(I)I"⟩
abbrev cX11_subscribe : ByteArray := prog_1_method_10_code
def yX11_subscribe : MethodName := ⟨RX11, "subscribe", "(IIII)I"⟩
abbrev cX11_unsubscribe : ByteArray := prog_1_method_11_code
def yX11_unsubscribe : MethodName := ⟨RX11, "unsubscribe", "(II)I"⟩
abbrev cX11_subscription : ByteArray := prog_1_method_12_code
def yX11_subscription : MethodName := ⟨RX11, "subscription", "(III)I"⟩
abbrev cX11_publish : ByteArray := prog_1_method_16_code
def yX11_publish : MethodName := ⟨RX11, "publish", "(IIIZI)I"⟩
abbrev cX11_release : ByteArray := prog_1_method_17_code
def yX11_release : MethodName := ⟨RX11, "release", "(II)I"⟩
abbrev cX11_answer : ByteArray := prog_1_method_18_code
def yX11_answer : MethodName := ⟨RX11, "answer", "(III)I"⟩
abbrev cX11_audience : ByteArray := prog_1_method_19_code
def yX11_audience : MethodName := ⟨RX11, "audience", "(I)I"⟩
abbrev cX11_receive : ByteArray := prog_1_method_20_code
def yX11_receive : MethodName := ⟨RX11, "receive", "(I)I"⟩
abbrev cX11_length : ByteArray := prog_1_method_25_code
def yX11_length : MethodName := ⟨RX11, "length", "(II)I"⟩
abbrev cX11_inFlight : ByteArray := prog_1_method_26_code
def yX11_inFlight : MethodName := ⟨RX11, "inFlight", "(III)I"⟩
abbrev cX11_advance : ByteArray := prog_1_method_27_code
def yX11_advance : MethodName := ⟨RX11, "advance", "(I)I"⟩
abbrev cX11_load : ByteArray := prog_1_method_28_code
def yX11_load : MethodName := ⟨RX11, "load", "(I)I"⟩
abbrev cX11_retainedCount : ByteArray := prog_1_method_29_code
def yX11_retainedCount : MethodName := ⟨RX11, "retainedCount", "()I"⟩
abbrev cX11_retained : ByteArray := prog_1_method_30_code
def yX11_retained : MethodName := ⟨RX11, "retained", "(II)I"⟩
abbrev cX11_total : ByteArray := prog_1_method_32_code
def yX11_total : MethodName := ⟨RX11, "total", "(I)I"⟩
abbrev cX11_save : ByteArray := prog_1_method_33_code
def yX11_save : MethodName := ⟨RX11, "save", "()I"⟩
abbrev cX11_restore : ByteArray := prog_1_method_34_code
def yX11_restore : MethodName := ⟨RX11, "restore", "()I"⟩
abbrev cX11_requireClient : ByteArray := prog_1_method_35_code
def yX11_requireClient : MethodName := ⟨RX11, "requireClient", "(I)V"⟩
abbrev cX11_requireRange : ByteArray := prog_1_method_36_code
def yX11_requireRange : MethodName := ⟨RX11, "requireRange", "(III)V"⟩
abbrev cX11_requireConnection : ByteArray := prog_1_method_37_code
def yX11_requireConnection : MethodName := ⟨RX11, "requireConnection", "(I)V"⟩
abbrev cX11_requireSubscription : ByteArray := prog_1_method_38_code
def yX11_requireSubscription : MethodName := ⟨RX11, "requireSubscription", "(II)V"⟩
abbrev cX11_takeBuffer : ByteArray := prog_1_method_39_code
def yX11_takeBuffer : MethodName := ⟨RX11, "takeBuffer", "()I"⟩
abbrev cX11_readTopic : ByteArray := prog_1_method_40_code
def yX11_readTopic : MethodName := ⟨RX11, "readTopic", "(I)LGradedTopicBroker$Text;"⟩
abbrev cX11_readFilter : ByteArray := prog_1_method_41_code
def yX11_readFilter : MethodName := ⟨RX11, "readFilter", "(I)LGradedTopicBroker$Text;"⟩
abbrev cX11_readText : ByteArray := prog_1_method_42_code
def yX11_readText : MethodName := ⟨RX11, "readText", "(IZ)LGradedTopicBroker$Text;"⟩
def RX12 : String := "GradedTopicBrokerModel"
def TX12 : u_T := fun k => match k with
  | _ => ("", "", "", false)
def tyX12 : Nat → FieldType := fun k => match k with
  | _ => .int
theorem nmX12 : ∀ a, a < 0 → ∀ b, b < 0 → a ≠ b → (TX12 a).2.1 ≠ (TX12 b).2.1 := by decide +kernel
theorem tyX12_ok : ∀ k, k < 0 → parseFieldDescriptor (TX12 k).2.2.1 = some (tyX12 k) := by decide +kernel
def RL : String := "GradedTopicBrokerLaw"
abbrev cL_cell : ByteArray := method_2_code
def yL_cell : MethodName := ⟨RL, "cell", "([II)I"⟩
abbrev cL_pick : ByteArray := method_3_code
def yL_pick : MethodName := ⟨RL, "pick", "([III)I"⟩
abbrev cL_append : ByteArray := method_4_code
def yL_append : MethodName := ⟨RL, "append", "(LGradedTopicBroker;I)I"⟩
abbrev cL_type : ByteArray := method_5_code
def yL_type : MethodName := ⟨RL, "type", "(LGradedTopicBroker;Ljava/lang/String;)Z"⟩
abbrev cL_subscribe : ByteArray := method_6_code
def yL_subscribe : MethodName := ⟨RL, "subscribe", "(LGradedTopicBroker;IIII)I"⟩
abbrev cL_publish : ByteArray := method_7_code
def yL_publish : MethodName := ⟨RL, "publish", "(LGradedTopicBroker;IIIZI)I"⟩
abbrev cL_audience : ByteArray := method_8_code
def yL_audience : MethodName := ⟨RL, "audience", "(LGradedTopicBroker;I)I"⟩
abbrev cL_answer : ByteArray := method_9_code
def yL_answer : MethodName := ⟨RL, "answer", "(LGradedTopicBroker;III)I"⟩
abbrev cL_receive : ByteArray := method_10_code
def yL_receive : MethodName := ⟨RL, "receive", "(LGradedTopicBroker;I)I"⟩
abbrev cL_breaks : ByteArray := method_11_code
def yL_breaks : MethodName := ⟨RL, "breaks", "(LGradedTopicBroker;I)I"⟩
abbrev cL_send : ByteArray := method_13_code
def yL_send : MethodName := ⟨RL, "send", "(LGradedTopicBroker;Ljava/lang/String;IIIZI)I"⟩
abbrev cL_unsubscribe : ByteArray := method_16_code
def yL_unsubscribe : MethodName := ⟨RL, "unsubscribe", "(LGradedTopicBroker;II)I"⟩
abbrev cL_setOption : ByteArray := method_17_code
def yL_setOption : MethodName := ⟨RL, "setOption", "(LGradedTopicBroker;II)I"⟩
abbrev cL_setWill : ByteArray := method_18_code
def yL_setWill : MethodName := ⟨RL, "setWill", "(LGradedTopicBroker;IIZI)I"⟩
abbrev cL_release : ByteArray := method_19_code
def yL_release : MethodName := ⟨RL, "release", "(LGradedTopicBroker;II)I"⟩
abbrev cL_restore : ByteArray := method_20_code
def yL_restore : MethodName := ⟨RL, "restore", "(LGradedTopicBroker;)I"⟩
abbrev cL_law : ByteArray := code
def yL_law : MethodName := ⟨RL, "law", "([I)Z"⟩
abbrev cL_step : ByteArray := method_22_code
def yL_step : MethodName := ⟨RL, "step", "([IILGradedTopicBroker;)Z"⟩
abbrev cL_connects : ByteArray := method_23_code
def yL_connects : MethodName := ⟨RL, "connects", "(LGradedTopicBroker;IZ)Z"⟩
abbrev cL_subscribes : ByteArray := method_24_code
def yL_subscribes : MethodName := ⟨RL, "subscribes", "(LGradedTopicBroker;Ljava/lang/String;IIII)Z"⟩
abbrev cL_answers : ByteArray := method_25_code
def yL_answers : MethodName := ⟨RL, "answers", "(LGradedTopicBroker;IZ)Z"⟩
abbrev cL_publishes : ByteArray := method_26_code
def yL_publishes : MethodName := ⟨RL, "publishes", "([IILGradedTopicBroker;II)Z"⟩
abbrev cL_isSound : ByteArray := method_27_code
def yL_isSound : MethodName := ⟨RL, "isSound", "(LGradedTopicBroker;)Z"⟩
abbrev cL_sum : ByteArray := method_28_code
def yL_sum : MethodName := ⟨RL, "sum", "(LGradedTopicBroker;)I"⟩
abbrev cL_areRefused : ByteArray := method_29_code
def yL_areRefused : MethodName := ⟨RL, "areRefused", "(LGradedTopicBroker;)Z"⟩
abbrev cL_isKept : ByteArray := method_30_code
def yL_isKept : MethodName := ⟨RL, "isKept", "([IILGradedTopicBroker;)Z"⟩
abbrev vwCl : List vw_C := [(RX0, TX0, 8), (RX1, TX1, 7), (RX2, TX2, 2), (RX3, TX3, 6), (RX4, TX4, 3), (RX5, TX5, 10), (RX6, TX6, 4), (RX7, TX7, 11), (RX8, TX8, 4), (RX9, TX9, 3), (RX10, TX10, 5), (RX11, TX11, 9)]
end
section
theorem dX0_init_0 : decode cX0_init 0 = .ok (.aload_n 0, 1) := by decide +kernel
theorem dX0_init_1 : decode cX0_init 1 = .ok (.invokespecial 1, 3) := by decide +kernel
theorem dX0_init_4 : decode cX0_init 4 = .ok (.aload_n 0, 1) := by decide +kernel
theorem dX0_init_5 : decode cX0_init 5 = .ok (.new 7, 3) := by decide +kernel
theorem dX0_init_8 : decode cX0_init 8 = .ok (.dup, 1) := by decide +kernel
theorem dX0_init_9 : decode cX0_init 9 = .ok (.aload_n 1, 1) := by decide +kernel
theorem dX0_init_10 : decode cX0_init 10 = .ok (.invokespecial 9, 3) := by decide +kernel
theorem dX0_init_13 : decode cX0_init 13 = .ok (.putfield 12, 3) := by decide +kernel
theorem dX0_init_16 : decode cX0_init 16 = .ok (.aload_n 0, 1) := by decide +kernel
theorem dX0_init_17 : decode cX0_init 17 = .ok (.new 18, 3) := by decide +kernel
theorem dX0_init_20 : decode cX0_init 20 = .ok (.dup, 1) := by decide +kernel
theorem dX0_init_21 : decode cX0_init 21 = .ok (.aload_n 1, 1) := by decide +kernel
theorem dX0_init_22 : decode cX0_init 22 = .ok (.invokespecial 20, 3) := by decide +kernel
theorem dX0_init_25 : decode cX0_init 25 = .ok (.putfield 21, 3) := by decide +kernel
theorem dX0_init_28 : decode cX0_init 28 = .ok (.aload_n 0, 1) := by decide +kernel
theorem dX0_init_29 : decode cX0_init 29 = .ok (.new 25, 3) := by decide +kernel
theorem dX0_init_32 : decode cX0_init 32 = .ok (.dup, 1) := by decide +kernel
theorem dX0_init_33 : decode cX0_init 33 = .ok (.aload_n 1, 1) := by decide +kernel
theorem dX0_init_34 : decode cX0_init 34 = .ok (.invokespecial 27, 3) := by decide +kernel
theorem dX0_init_37 : decode cX0_init 37 = .ok (.putfield 28, 3) := by decide +kernel
theorem dX0_init_40 : decode cX0_init 40 = .ok (.return_, 1) := by decide +kernel
theorem dX0_copyFrom_0 : decode cX0_copyFrom 0 = .ok (.aload_n 0, 1) := by decide +kernel
theorem dX0_copyFrom_1 : decode cX0_copyFrom 1 = .ok (.aload_n 1, 1) := by decide +kernel
theorem dX0_copyFrom_2 : decode cX0_copyFrom 2 = .ok (.getfield 32, 3) := by decide +kernel
theorem dX0_copyFrom_5 : decode cX0_copyFrom 5 = .ok (.putfield 32, 3) := by decide +kernel
theorem dX0_copyFrom_8 : decode cX0_copyFrom 8 = .ok (.aload_n 0, 1) := by decide +kernel
theorem dX0_copyFrom_9 : decode cX0_copyFrom 9 = .ok (.aload_n 1, 1) := by decide +kernel
theorem dX0_copyFrom_10 : decode cX0_copyFrom 10 = .ok (.getfield 36, 3) := by decide +kernel
theorem dX0_copyFrom_13 : decode cX0_copyFrom 13 = .ok (.putfield 36, 3) := by decide +kernel
theorem dX0_copyFrom_16 : decode cX0_copyFrom 16 = .ok (.aload_n 0, 1) := by decide +kernel
theorem dX0_copyFrom_17 : decode cX0_copyFrom 17 = .ok (.aload_n 1, 1) := by decide +kernel
theorem dX0_copyFrom_18 : decode cX0_copyFrom 18 = .ok (.getfield 39, 3) := by decide +kernel
theorem dX0_copyFrom_21 : decode cX0_copyFrom 21 = .ok (.putfield 39, 3) := by decide +kernel
theorem dX0_copyFrom_24 : decode cX0_copyFrom 24 = .ok (.aload_n 0, 1) := by decide +kernel
theorem dX0_copyFrom_25 : decode cX0_copyFrom 25 = .ok (.getfield 12, 3) := by decide +kernel
theorem dX0_copyFrom_28 : decode cX0_copyFrom 28 = .ok (.aload_n 1, 1) := by decide +kernel
theorem dX0_copyFrom_29 : decode cX0_copyFrom 29 = .ok (.getfield 12, 3) := by decide +kernel
theorem dX0_copyFrom_32 : decode cX0_copyFrom 32 = .ok (.invokevirtual 42, 3) := by decide +kernel
theorem dX0_copyFrom_35 : decode cX0_copyFrom 35 = .ok (.aload_n 0, 1) := by decide +kernel
theorem dX0_copyFrom_36 : decode cX0_copyFrom 36 = .ok (.getfield 21, 3) := by decide +kernel
theorem dX0_copyFrom_39 : decode cX0_copyFrom 39 = .ok (.aload_n 1, 1) := by decide +kernel
theorem dX0_copyFrom_40 : decode cX0_copyFrom 40 = .ok (.getfield 21, 3) := by decide +kernel
theorem dX0_copyFrom_43 : decode cX0_copyFrom 43 = .ok (.invokevirtual 46, 3) := by decide +kernel
theorem dX0_copyFrom_46 : decode cX0_copyFrom 46 = .ok (.aload_n 0, 1) := by decide +kernel
theorem dX0_copyFrom_47 : decode cX0_copyFrom 47 = .ok (.getfield 28, 3) := by decide +kernel
theorem dX0_copyFrom_50 : decode cX0_copyFrom 50 = .ok (.aload_n 1, 1) := by decide +kernel
theorem dX0_copyFrom_51 : decode cX0_copyFrom 51 = .ok (.getfield 28, 3) := by decide +kernel
theorem dX0_copyFrom_54 : decode cX0_copyFrom 54 = .ok (.invokevirtual 49, 3) := by decide +kernel
theorem dX0_copyFrom_57 : decode cX0_copyFrom 57 = .ok (.aload_n 0, 1) := by decide +kernel
theorem dX0_copyFrom_58 : decode cX0_copyFrom 58 = .ok (.aload_n 1, 1) := by decide +kernel
theorem dX0_copyFrom_59 : decode cX0_copyFrom 59 = .ok (.getfield 52, 3) := by decide +kernel
theorem dX0_copyFrom_62 : decode cX0_copyFrom 62 = .ok (.putfield 52, 3) := by decide +kernel
theorem dX0_copyFrom_65 : decode cX0_copyFrom 65 = .ok (.aload_n 0, 1) := by decide +kernel
theorem dX0_copyFrom_66 : decode cX0_copyFrom 66 = .ok (.aload_n 1, 1) := by decide +kernel
theorem dX0_copyFrom_67 : decode cX0_copyFrom 67 = .ok (.getfield 56, 3) := by decide +kernel
theorem dX0_copyFrom_70 : decode cX0_copyFrom 70 = .ok (.putfield 56, 3) := by decide +kernel
theorem dX0_copyFrom_73 : decode cX0_copyFrom 73 = .ok (.return_, 1) := by decide +kernel
theorem dX1_init_0 : decode cX1_init 0 = .ok (.aload_n 0, 1) := by decide +kernel
theorem dX1_init_1 : decode cX1_init 1 = .ok (.invokespecial 1, 3) := by decide +kernel
theorem dX1_init_4 : decode cX1_init 4 = .ok (.aload_n 0, 1) := by decide +kernel
theorem dX1_init_5 : decode cX1_init 5 = .ok (.aload_n 1, 1) := by decide +kernel
theorem dX1_init_6 : decode cX1_init 6 = .ok (.putfield 7, 3) := by decide +kernel
theorem dX1_init_9 : decode cX1_init 9 = .ok (.return_, 1) := by decide +kernel
theorem dX1_fill_0 : decode cX1_fill 0 = .ok (.aload_n 0, 1) := by decide +kernel
theorem dX1_fill_1 : decode cX1_fill 1 = .ok (.aload_n 1, 1) := by decide +kernel
theorem dX1_fill_2 : decode cX1_fill 2 = .ok (.putfield 7, 3) := by decide +kernel
theorem dX1_fill_5 : decode cX1_fill 5 = .ok (.aload_n 0, 1) := by decide +kernel
theorem dX1_fill_6 : decode cX1_fill 6 = .ok (.iload_n 2, 1) := by decide +kernel
theorem dX1_fill_7 : decode cX1_fill 7 = .ok (.putfield 13, 3) := by decide +kernel
theorem dX1_fill_10 : decode cX1_fill 10 = .ok (.aload_n 0, 1) := by decide +kernel
theorem dX1_fill_11 : decode cX1_fill 11 = .ok (.iload_n 3, 1) := by decide +kernel
theorem dX1_fill_12 : decode cX1_fill 12 = .ok (.putfield 17, 3) := by decide +kernel
theorem dX1_fill_15 : decode cX1_fill 15 = .ok (.aload_n 0, 1) := by decide +kernel
theorem dX1_fill_16 : decode cX1_fill 16 = .ok (.iconst 0, 1) := by decide +kernel
theorem dX1_fill_17 : decode cX1_fill 17 = .ok (.putfield 20, 3) := by decide +kernel
theorem dX1_fill_20 : decode cX1_fill 20 = .ok (.aload_n 0, 1) := by decide +kernel
theorem dX1_fill_21 : decode cX1_fill 21 = .ok (.iconst 0, 1) := by decide +kernel
theorem dX1_fill_22 : decode cX1_fill 22 = .ok (.putfield 23, 3) := by decide +kernel
theorem dX1_fill_25 : decode cX1_fill 25 = .ok (.aload_n 0, 1) := by decide +kernel
theorem dX1_fill_26 : decode cX1_fill 26 = .ok (.iconst 0, 1) := by decide +kernel
theorem dX1_fill_27 : decode cX1_fill 27 = .ok (.putfield 26, 3) := by decide +kernel
theorem dX1_fill_30 : decode cX1_fill 30 = .ok (.aload_n 0, 1) := by decide +kernel
theorem dX1_fill_31 : decode cX1_fill 31 = .ok (.iconst 0, 1) := by decide +kernel
theorem dX1_fill_32 : decode cX1_fill 32 = .ok (.putfield 29, 3) := by decide +kernel
theorem dX1_fill_35 : decode cX1_fill 35 = .ok (.return_, 1) := by decide +kernel
theorem dX1_copyFrom_0 : decode cX1_copyFrom 0 = .ok (.aload_n 0, 1) := by decide +kernel
theorem dX1_copyFrom_1 : decode cX1_copyFrom 1 = .ok (.aload_n 1, 1) := by decide +kernel
theorem dX1_copyFrom_2 : decode cX1_copyFrom 2 = .ok (.getfield 7, 3) := by decide +kernel
theorem dX1_copyFrom_5 : decode cX1_copyFrom 5 = .ok (.putfield 7, 3) := by decide +kernel
theorem dX1_copyFrom_8 : decode cX1_copyFrom 8 = .ok (.aload_n 0, 1) := by decide +kernel
theorem dX1_copyFrom_9 : decode cX1_copyFrom 9 = .ok (.aload_n 1, 1) := by decide +kernel
theorem dX1_copyFrom_10 : decode cX1_copyFrom 10 = .ok (.getfield 13, 3) := by decide +kernel
theorem dX1_copyFrom_13 : decode cX1_copyFrom 13 = .ok (.putfield 13, 3) := by decide +kernel
theorem dX1_copyFrom_16 : decode cX1_copyFrom 16 = .ok (.aload_n 0, 1) := by decide +kernel
theorem dX1_copyFrom_17 : decode cX1_copyFrom 17 = .ok (.aload_n 1, 1) := by decide +kernel
theorem dX1_copyFrom_18 : decode cX1_copyFrom 18 = .ok (.getfield 17, 3) := by decide +kernel
theorem dX1_copyFrom_21 : decode cX1_copyFrom 21 = .ok (.putfield 17, 3) := by decide +kernel
theorem dX1_copyFrom_24 : decode cX1_copyFrom 24 = .ok (.aload_n 0, 1) := by decide +kernel
theorem dX1_copyFrom_25 : decode cX1_copyFrom 25 = .ok (.aload_n 1, 1) := by decide +kernel
theorem dX1_copyFrom_26 : decode cX1_copyFrom 26 = .ok (.getfield 20, 3) := by decide +kernel
theorem dX1_copyFrom_29 : decode cX1_copyFrom 29 = .ok (.putfield 20, 3) := by decide +kernel
theorem dX1_copyFrom_32 : decode cX1_copyFrom 32 = .ok (.aload_n 0, 1) := by decide +kernel
theorem dX1_copyFrom_33 : decode cX1_copyFrom 33 = .ok (.aload_n 1, 1) := by decide +kernel
theorem dX1_copyFrom_34 : decode cX1_copyFrom 34 = .ok (.getfield 23, 3) := by decide +kernel
theorem dX1_copyFrom_37 : decode cX1_copyFrom 37 = .ok (.putfield 23, 3) := by decide +kernel
theorem dX1_copyFrom_40 : decode cX1_copyFrom 40 = .ok (.aload_n 0, 1) := by decide +kernel
theorem dX1_copyFrom_41 : decode cX1_copyFrom 41 = .ok (.aload_n 1, 1) := by decide +kernel
theorem dX1_copyFrom_42 : decode cX1_copyFrom 42 = .ok (.getfield 26, 3) := by decide +kernel
theorem dX1_copyFrom_45 : decode cX1_copyFrom 45 = .ok (.putfield 26, 3) := by decide +kernel
theorem dX1_copyFrom_48 : decode cX1_copyFrom 48 = .ok (.aload_n 0, 1) := by decide +kernel
theorem dX1_copyFrom_49 : decode cX1_copyFrom 49 = .ok (.aload_n 1, 1) := by decide +kernel
theorem dX1_copyFrom_50 : decode cX1_copyFrom 50 = .ok (.getfield 29, 3) := by decide +kernel
theorem dX1_copyFrom_53 : decode cX1_copyFrom 53 = .ok (.putfield 29, 3) := by decide +kernel
theorem dX1_copyFrom_56 : decode cX1_copyFrom 56 = .ok (.return_, 1) := by decide +kernel
theorem dX2_init_0 : decode cX2_init 0 = .ok (.aload_n 0, 1) := by decide +kernel
theorem dX2_init_1 : decode cX2_init 1 = .ok (.invokespecial 1, 3) := by decide +kernel
theorem dX2_init_4 : decode cX2_init 4 = .ok (.aload_n 0, 1) := by decide +kernel
theorem dX2_init_5 : decode cX2_init 5 = .ok (.iconst 1, 1) := by decide +kernel
theorem dX2_init_6 : decode cX2_init 6 = .ok (.iload_n 1, 1) := by decide +kernel
theorem dX2_init_7 : decode cX2_init 7 = .ok (.invokestatic 7, 3) := by decide +kernel
theorem dX2_init_10 : decode cX2_init 10 = .ok (.anewarray 13, 3) := by decide +kernel
theorem dX2_init_13 : decode cX2_init 13 = .ok (.putfield 15, 3) := by decide +kernel
theorem dX2_init_16 : decode cX2_init 16 = .ok (.iconst 0, 1) := by decide +kernel
theorem dX2_init_17 : decode cX2_init 17 = .ok (.istore_n 3, 1) := by decide +kernel
theorem dX2_init_18 : decode cX2_init 18 = .ok (.iload_n 3, 1) := by decide +kernel
theorem dX2_init_19 : decode cX2_init 19 = .ok (.aload_n 0, 1) := by decide +kernel
theorem dX2_init_20 : decode cX2_init 20 = .ok (.getfield 15, 3) := by decide +kernel
theorem dX2_init_23 : decode cX2_init 23 = .ok (.arraylength, 1) := by decide +kernel
theorem dX2_init_24 : decode cX2_init 24 = .ok (.if_icmp .ge 23, 3) := by decide +kernel
theorem dX2_init_27 : decode cX2_init 27 = .ok (.aload_n 0, 1) := by decide +kernel
theorem dX2_init_28 : decode cX2_init 28 = .ok (.getfield 15, 3) := by decide +kernel
theorem dX2_init_31 : decode cX2_init 31 = .ok (.iload_n 3, 1) := by decide +kernel
theorem dX2_init_32 : decode cX2_init 32 = .ok (.new 13, 3) := by decide +kernel
theorem dX2_init_35 : decode cX2_init 35 = .ok (.dup, 1) := by decide +kernel
theorem dX2_init_36 : decode cX2_init 36 = .ok (.aload_n 2, 1) := by decide +kernel
theorem dX2_init_37 : decode cX2_init 37 = .ok (.invokespecial 21, 3) := by decide +kernel
theorem dX2_init_40 : decode cX2_init 40 = .ok (.aastore, 1) := by decide +kernel
theorem dX2_init_41 : decode cX2_init 41 = .ok (.iinc 3 1, 3) := by decide +kernel
theorem dX2_init_44 : decode cX2_init 44 = .ok (.goto (-26), 3) := by decide +kernel
theorem dX2_init_47 : decode cX2_init 47 = .ok (.return_, 1) := by decide +kernel
theorem dX2_add_0 : decode cX2_add 0 = .ok (.aload_n 0, 1) := by decide +kernel
theorem dX2_add_1 : decode cX2_add 1 = .ok (.getfield 24, 3) := by decide +kernel
theorem dX2_add_4 : decode cX2_add 4 = .ok (.ifCond .lt 38, 3) := by decide +kernel
theorem dX2_add_7 : decode cX2_add 7 = .ok (.aload_n 0, 1) := by decide +kernel
theorem dX2_add_8 : decode cX2_add 8 = .ok (.getfield 24, 3) := by decide +kernel
theorem dX2_add_11 : decode cX2_add 11 = .ok (.aload_n 0, 1) := by decide +kernel
theorem dX2_add_12 : decode cX2_add 12 = .ok (.getfield 15, 3) := by decide +kernel
theorem dX2_add_15 : decode cX2_add 15 = .ok (.arraylength, 1) := by decide +kernel
theorem dX2_add_16 : decode cX2_add 16 = .ok (.if_icmp .ge 26, 3) := by decide +kernel
theorem dX2_add_19 : decode cX2_add 19 = .ok (.aload_n 0, 1) := by decide +kernel
theorem dX2_add_20 : decode cX2_add 20 = .ok (.getfield 15, 3) := by decide +kernel
theorem dX2_add_23 : decode cX2_add 23 = .ok (.aload_n 0, 1) := by decide +kernel
theorem dX2_add_24 : decode cX2_add 24 = .ok (.getfield 24, 3) := by decide +kernel
theorem dX2_add_27 : decode cX2_add 27 = .ok (.aaload, 1) := by decide +kernel
theorem dX2_add_28 : decode cX2_add 28 = .ok (.aload_n 1, 1) := by decide +kernel
theorem dX2_add_29 : decode cX2_add 29 = .ok (.invokevirtual 28, 3) := by decide +kernel
theorem dX2_add_32 : decode cX2_add 32 = .ok (.aload_n 0, 1) := by decide +kernel
theorem dX2_add_33 : decode cX2_add 33 = .ok (.dup, 1) := by decide +kernel
theorem dX2_add_34 : decode cX2_add 34 = .ok (.getfield 24, 3) := by decide +kernel
theorem dX2_add_37 : decode cX2_add 37 = .ok (.iconst 1, 1) := by decide +kernel
theorem dX2_add_38 : decode cX2_add 38 = .ok (.iadd, 1) := by decide +kernel
theorem dX2_add_39 : decode cX2_add 39 = .ok (.putfield 24, 3) := by decide +kernel
theorem dX2_add_42 : decode cX2_add 42 = .ok (.return_, 1) := by decide +kernel
theorem dX2_removeAt_0 : decode cX2_removeAt 0 = .ok (.iload_n 1, 1) := by decide +kernel
theorem dX2_removeAt_1 : decode cX2_removeAt 1 = .ok (.ifCond .lt 23, 3) := by decide +kernel
theorem dX2_removeAt_4 : decode cX2_removeAt 4 = .ok (.iload_n 1, 1) := by decide +kernel
theorem dX2_removeAt_5 : decode cX2_removeAt 5 = .ok (.aload_n 0, 1) := by decide +kernel
theorem dX2_removeAt_6 : decode cX2_removeAt 6 = .ok (.getfield 24, 3) := by decide +kernel
theorem dX2_removeAt_9 : decode cX2_removeAt 9 = .ok (.if_icmp .ge 15, 3) := by decide +kernel
theorem dX2_removeAt_12 : decode cX2_removeAt 12 = .ok (.aload_n 0, 1) := by decide +kernel
theorem dX2_removeAt_13 : decode cX2_removeAt 13 = .ok (.getfield 24, 3) := by decide +kernel
theorem dX2_removeAt_16 : decode cX2_removeAt 16 = .ok (.aload_n 0, 1) := by decide +kernel
theorem dX2_removeAt_17 : decode cX2_removeAt 17 = .ok (.getfield 15, 3) := by decide +kernel
theorem dX2_removeAt_20 : decode cX2_removeAt 20 = .ok (.arraylength, 1) := by decide +kernel
theorem dX2_removeAt_21 : decode cX2_removeAt 21 = .ok (.if_icmp .le 4, 3) := by decide +kernel
theorem dX2_removeAt_24 : decode cX2_removeAt 24 = .ok (.return_, 1) := by decide +kernel
theorem dX2_removeAt_25 : decode cX2_removeAt 25 = .ok (.aload_n 0, 1) := by decide +kernel
theorem dX2_removeAt_26 : decode cX2_removeAt 26 = .ok (.getfield 15, 3) := by decide +kernel
theorem dX2_removeAt_29 : decode cX2_removeAt 29 = .ok (.iload_n 1, 1) := by decide +kernel
theorem dX2_removeAt_30 : decode cX2_removeAt 30 = .ok (.aaload, 1) := by decide +kernel
theorem dX2_removeAt_31 : decode cX2_removeAt 31 = .ok (.astore_n 2, 1) := by decide +kernel
theorem dX2_removeAt_32 : decode cX2_removeAt 32 = .ok (.iload_n 1, 1) := by decide +kernel
theorem dX2_removeAt_33 : decode cX2_removeAt 33 = .ok (.istore_n 3, 1) := by decide +kernel
theorem dX2_removeAt_34 : decode cX2_removeAt 34 = .ok (.iload_n 3, 1) := by decide +kernel
theorem dX2_removeAt_35 : decode cX2_removeAt 35 = .ok (.iconst 1, 1) := by decide +kernel
theorem dX2_removeAt_36 : decode cX2_removeAt 36 = .ok (.iadd, 1) := by decide +kernel
theorem dX2_removeAt_37 : decode cX2_removeAt 37 = .ok (.aload_n 0, 1) := by decide +kernel
theorem dX2_removeAt_38 : decode cX2_removeAt 38 = .ok (.getfield 24, 3) := by decide +kernel
theorem dX2_removeAt_41 : decode cX2_removeAt 41 = .ok (.if_icmp .ge 23, 3) := by decide +kernel
theorem dX2_removeAt_44 : decode cX2_removeAt 44 = .ok (.aload_n 0, 1) := by decide +kernel
theorem dX2_removeAt_45 : decode cX2_removeAt 45 = .ok (.getfield 15, 3) := by decide +kernel
theorem dX2_removeAt_48 : decode cX2_removeAt 48 = .ok (.iload_n 3, 1) := by decide +kernel
theorem dX2_removeAt_49 : decode cX2_removeAt 49 = .ok (.aload_n 0, 1) := by decide +kernel
theorem dX2_removeAt_50 : decode cX2_removeAt 50 = .ok (.getfield 15, 3) := by decide +kernel
theorem dX2_removeAt_53 : decode cX2_removeAt 53 = .ok (.iload_n 3, 1) := by decide +kernel
theorem dX2_removeAt_54 : decode cX2_removeAt 54 = .ok (.iconst 1, 1) := by decide +kernel
theorem dX2_removeAt_55 : decode cX2_removeAt 55 = .ok (.iadd, 1) := by decide +kernel
theorem dX2_removeAt_56 : decode cX2_removeAt 56 = .ok (.aaload, 1) := by decide +kernel
theorem dX2_removeAt_57 : decode cX2_removeAt 57 = .ok (.aastore, 1) := by decide +kernel
theorem dX2_removeAt_58 : decode cX2_removeAt 58 = .ok (.iinc 3 1, 3) := by decide +kernel
theorem dX2_removeAt_61 : decode cX2_removeAt 61 = .ok (.goto (-27), 3) := by decide +kernel
theorem dX2_removeAt_64 : decode cX2_removeAt 64 = .ok (.aload_n 0, 1) := by decide +kernel
theorem dX2_removeAt_65 : decode cX2_removeAt 65 = .ok (.getfield 15, 3) := by decide +kernel
theorem dX2_removeAt_68 : decode cX2_removeAt 68 = .ok (.aload_n 0, 1) := by decide +kernel
theorem dX2_removeAt_69 : decode cX2_removeAt 69 = .ok (.getfield 24, 3) := by decide +kernel
theorem dX2_removeAt_72 : decode cX2_removeAt 72 = .ok (.iconst 1, 1) := by decide +kernel
theorem dX2_removeAt_73 : decode cX2_removeAt 73 = .ok (.isub, 1) := by decide +kernel
theorem dX2_removeAt_74 : decode cX2_removeAt 74 = .ok (.aload_n 2, 1) := by decide +kernel
theorem dX2_removeAt_75 : decode cX2_removeAt 75 = .ok (.aastore, 1) := by decide +kernel
theorem dX2_removeAt_76 : decode cX2_removeAt 76 = .ok (.aload_n 0, 1) := by decide +kernel
theorem dX2_removeAt_77 : decode cX2_removeAt 77 = .ok (.dup, 1) := by decide +kernel
theorem dX2_removeAt_78 : decode cX2_removeAt 78 = .ok (.getfield 24, 3) := by decide +kernel
theorem dX2_removeAt_81 : decode cX2_removeAt 81 = .ok (.iconst 1, 1) := by decide +kernel
theorem dX2_removeAt_82 : decode cX2_removeAt 82 = .ok (.isub, 1) := by decide +kernel
theorem dX2_removeAt_83 : decode cX2_removeAt 83 = .ok (.putfield 24, 3) := by decide +kernel
theorem dX2_removeAt_86 : decode cX2_removeAt 86 = .ok (.return_, 1) := by decide +kernel
theorem dX2_placeOf_0 : decode cX2_placeOf 0 = .ok (.iconst 0, 1) := by decide +kernel
theorem dX2_placeOf_1 : decode cX2_placeOf 1 = .ok (.istore_n 2, 1) := by decide +kernel
theorem dX2_placeOf_2 : decode cX2_placeOf 2 = .ok (.iload_n 2, 1) := by decide +kernel
theorem dX2_placeOf_3 : decode cX2_placeOf 3 = .ok (.aload_n 0, 1) := by decide +kernel
theorem dX2_placeOf_4 : decode cX2_placeOf 4 = .ok (.getfield 24, 3) := by decide +kernel
theorem dX2_placeOf_7 : decode cX2_placeOf 7 = .ok (.if_icmp .ge 33, 3) := by decide +kernel
theorem dX2_placeOf_10 : decode cX2_placeOf 10 = .ok (.iload_n 2, 1) := by decide +kernel
theorem dX2_placeOf_11 : decode cX2_placeOf 11 = .ok (.aload_n 0, 1) := by decide +kernel
theorem dX2_placeOf_12 : decode cX2_placeOf 12 = .ok (.getfield 15, 3) := by decide +kernel
theorem dX2_placeOf_15 : decode cX2_placeOf 15 = .ok (.arraylength, 1) := by decide +kernel
theorem dX2_placeOf_16 : decode cX2_placeOf 16 = .ok (.if_icmp .ge 24, 3) := by decide +kernel
theorem dX2_placeOf_19 : decode cX2_placeOf 19 = .ok (.aload_n 0, 1) := by decide +kernel
theorem dX2_placeOf_20 : decode cX2_placeOf 20 = .ok (.getfield 15, 3) := by decide +kernel
theorem dX2_placeOf_23 : decode cX2_placeOf 23 = .ok (.iload_n 2, 1) := by decide +kernel
theorem dX2_placeOf_24 : decode cX2_placeOf 24 = .ok (.aaload, 1) := by decide +kernel
theorem dX2_placeOf_25 : decode cX2_placeOf 25 = .ok (.getfield 32, 3) := by decide +kernel
theorem dX2_placeOf_28 : decode cX2_placeOf 28 = .ok (.iload_n 1, 1) := by decide +kernel
theorem dX2_placeOf_29 : decode cX2_placeOf 29 = .ok (.if_icmp .ne 5, 3) := by decide +kernel
theorem dX2_placeOf_32 : decode cX2_placeOf 32 = .ok (.iload_n 2, 1) := by decide +kernel
theorem dX2_placeOf_33 : decode cX2_placeOf 33 = .ok (.ireturn, 1) := by decide +kernel
theorem dX2_placeOf_34 : decode cX2_placeOf 34 = .ok (.iinc 2 1, 3) := by decide +kernel
theorem dX2_placeOf_37 : decode cX2_placeOf 37 = .ok (.goto (-35), 3) := by decide +kernel
theorem dX2_placeOf_40 : decode cX2_placeOf 40 = .ok (.iconst (-1), 1) := by decide +kernel
theorem dX2_placeOf_41 : decode cX2_placeOf 41 = .ok (.ireturn, 1) := by decide +kernel
theorem dX2_copyFrom_0 : decode cX2_copyFrom 0 = .ok (.aload_n 0, 1) := by decide +kernel
theorem dX2_copyFrom_1 : decode cX2_copyFrom 1 = .ok (.aload_n 1, 1) := by decide +kernel
theorem dX2_copyFrom_2 : decode cX2_copyFrom 2 = .ok (.getfield 24, 3) := by decide +kernel
theorem dX2_copyFrom_5 : decode cX2_copyFrom 5 = .ok (.putfield 24, 3) := by decide +kernel
theorem dX2_copyFrom_8 : decode cX2_copyFrom 8 = .ok (.iconst 0, 1) := by decide +kernel
theorem dX2_copyFrom_9 : decode cX2_copyFrom 9 = .ok (.istore_n 2, 1) := by decide +kernel
theorem dX2_copyFrom_10 : decode cX2_copyFrom 10 = .ok (.iload_n 2, 1) := by decide +kernel
theorem dX2_copyFrom_11 : decode cX2_copyFrom 11 = .ok (.aload_n 0, 1) := by decide +kernel
theorem dX2_copyFrom_12 : decode cX2_copyFrom 12 = .ok (.getfield 24, 3) := by decide +kernel
theorem dX2_copyFrom_15 : decode cX2_copyFrom 15 = .ok (.if_icmp .ge 42, 3) := by decide +kernel
theorem dX2_copyFrom_18 : decode cX2_copyFrom 18 = .ok (.iload_n 2, 1) := by decide +kernel
theorem dX2_copyFrom_19 : decode cX2_copyFrom 19 = .ok (.aload_n 0, 1) := by decide +kernel
theorem dX2_copyFrom_20 : decode cX2_copyFrom 20 = .ok (.getfield 15, 3) := by decide +kernel
theorem dX2_copyFrom_23 : decode cX2_copyFrom 23 = .ok (.arraylength, 1) := by decide +kernel
theorem dX2_copyFrom_24 : decode cX2_copyFrom 24 = .ok (.if_icmp .ge 33, 3) := by decide +kernel
theorem dX2_copyFrom_27 : decode cX2_copyFrom 27 = .ok (.iload_n 2, 1) := by decide +kernel
theorem dX2_copyFrom_28 : decode cX2_copyFrom 28 = .ok (.aload_n 1, 1) := by decide +kernel
theorem dX2_copyFrom_29 : decode cX2_copyFrom 29 = .ok (.getfield 15, 3) := by decide +kernel
theorem dX2_copyFrom_32 : decode cX2_copyFrom 32 = .ok (.arraylength, 1) := by decide +kernel
theorem dX2_copyFrom_33 : decode cX2_copyFrom 33 = .ok (.if_icmp .ge 24, 3) := by decide +kernel
theorem dX2_copyFrom_36 : decode cX2_copyFrom 36 = .ok (.aload_n 0, 1) := by decide +kernel
theorem dX2_copyFrom_37 : decode cX2_copyFrom 37 = .ok (.getfield 15, 3) := by decide +kernel
theorem dX2_copyFrom_40 : decode cX2_copyFrom 40 = .ok (.iload_n 2, 1) := by decide +kernel
theorem dX2_copyFrom_41 : decode cX2_copyFrom 41 = .ok (.aaload, 1) := by decide +kernel
theorem dX2_copyFrom_42 : decode cX2_copyFrom 42 = .ok (.aload_n 1, 1) := by decide +kernel
theorem dX2_copyFrom_43 : decode cX2_copyFrom 43 = .ok (.getfield 15, 3) := by decide +kernel
theorem dX2_copyFrom_46 : decode cX2_copyFrom 46 = .ok (.iload_n 2, 1) := by decide +kernel
theorem dX2_copyFrom_47 : decode cX2_copyFrom 47 = .ok (.aaload, 1) := by decide +kernel
theorem dX2_copyFrom_48 : decode cX2_copyFrom 48 = .ok (.invokevirtual 28, 3) := by decide +kernel
theorem dX2_copyFrom_51 : decode cX2_copyFrom 51 = .ok (.iinc 2 1, 3) := by decide +kernel
theorem dX2_copyFrom_54 : decode cX2_copyFrom 54 = .ok (.goto (-44), 3) := by decide +kernel
theorem dX2_copyFrom_57 : decode cX2_copyFrom 57 = .ok (.return_, 1) := by decide +kernel
theorem dX3_init_0 : decode cX3_init 0 = .ok (.aload_n 0, 1) := by decide +kernel
theorem dX3_init_1 : decode cX3_init 1 = .ok (.invokespecial 1, 3) := by decide +kernel
theorem dX3_init_4 : decode cX3_init 4 = .ok (.aload_n 0, 1) := by decide +kernel
theorem dX3_init_5 : decode cX3_init 5 = .ok (.aload_n 1, 1) := by decide +kernel
theorem dX3_init_6 : decode cX3_init 6 = .ok (.putfield 7, 3) := by decide +kernel
theorem dX3_init_9 : decode cX3_init 9 = .ok (.return_, 1) := by decide +kernel
theorem dX3_copyFrom_0 : decode cX3_copyFrom 0 = .ok (.aload_n 0, 1) := by decide +kernel
theorem dX3_copyFrom_1 : decode cX3_copyFrom 1 = .ok (.aload_n 1, 1) := by decide +kernel
theorem dX3_copyFrom_2 : decode cX3_copyFrom 2 = .ok (.getfield 13, 3) := by decide +kernel
theorem dX3_copyFrom_5 : decode cX3_copyFrom 5 = .ok (.putfield 13, 3) := by decide +kernel
theorem dX3_copyFrom_8 : decode cX3_copyFrom 8 = .ok (.aload_n 0, 1) := by decide +kernel
theorem dX3_copyFrom_9 : decode cX3_copyFrom 9 = .ok (.aload_n 1, 1) := by decide +kernel
theorem dX3_copyFrom_10 : decode cX3_copyFrom 10 = .ok (.getfield 17, 3) := by decide +kernel
theorem dX3_copyFrom_13 : decode cX3_copyFrom 13 = .ok (.putfield 17, 3) := by decide +kernel
theorem dX3_copyFrom_16 : decode cX3_copyFrom 16 = .ok (.aload_n 0, 1) := by decide +kernel
theorem dX3_copyFrom_17 : decode cX3_copyFrom 17 = .ok (.aload_n 1, 1) := by decide +kernel
theorem dX3_copyFrom_18 : decode cX3_copyFrom 18 = .ok (.getfield 20, 3) := by decide +kernel
theorem dX3_copyFrom_21 : decode cX3_copyFrom 21 = .ok (.putfield 20, 3) := by decide +kernel
theorem dX3_copyFrom_24 : decode cX3_copyFrom 24 = .ok (.aload_n 0, 1) := by decide +kernel
theorem dX3_copyFrom_25 : decode cX3_copyFrom 25 = .ok (.aload_n 1, 1) := by decide +kernel
theorem dX3_copyFrom_26 : decode cX3_copyFrom 26 = .ok (.getfield 23, 3) := by decide +kernel
theorem dX3_copyFrom_29 : decode cX3_copyFrom 29 = .ok (.putfield 23, 3) := by decide +kernel
theorem dX3_copyFrom_32 : decode cX3_copyFrom 32 = .ok (.aload_n 0, 1) := by decide +kernel
theorem dX3_copyFrom_33 : decode cX3_copyFrom 33 = .ok (.aload_n 1, 1) := by decide +kernel
theorem dX3_copyFrom_34 : decode cX3_copyFrom 34 = .ok (.getfield 26, 3) := by decide +kernel
theorem dX3_copyFrom_37 : decode cX3_copyFrom 37 = .ok (.putfield 26, 3) := by decide +kernel
theorem dX3_copyFrom_40 : decode cX3_copyFrom 40 = .ok (.aload_n 0, 1) := by decide +kernel
theorem dX3_copyFrom_41 : decode cX3_copyFrom 41 = .ok (.aload_n 1, 1) := by decide +kernel
theorem dX3_copyFrom_42 : decode cX3_copyFrom 42 = .ok (.getfield 7, 3) := by decide +kernel
theorem dX3_copyFrom_45 : decode cX3_copyFrom 45 = .ok (.putfield 7, 3) := by decide +kernel
theorem dX3_copyFrom_48 : decode cX3_copyFrom 48 = .ok (.return_, 1) := by decide +kernel
theorem dX4_init_0 : decode cX4_init 0 = .ok (.aload_n 0, 1) := by decide +kernel
theorem dX4_init_1 : decode cX4_init 1 = .ok (.invokespecial 3, 3) := by decide +kernel
theorem dX4_init_4 : decode cX4_init 4 = .ok (.aload_n 0, 1) := by decide +kernel
theorem dX4_init_5 : decode cX4_init 5 = .ok (.bipush 30, 2) := by decide +kernel
theorem dX4_init_7 : decode cX4_init 7 = .ok (.anewarray 9, 3) := by decide +kernel
theorem dX4_init_10 : decode cX4_init 10 = .ok (.putfield 11, 3) := by decide +kernel
theorem dX4_init_13 : decode cX4_init 13 = .ok (.iconst 0, 1) := by decide +kernel
theorem dX4_init_14 : decode cX4_init 14 = .ok (.istore_n 2, 1) := by decide +kernel
theorem dX4_init_15 : decode cX4_init 15 = .ok (.iload_n 2, 1) := by decide +kernel
theorem dX4_init_16 : decode cX4_init 16 = .ok (.bipush 30, 2) := by decide +kernel
theorem dX4_init_18 : decode cX4_init 18 = .ok (.if_icmp .ge 23, 3) := by decide +kernel
theorem dX4_init_21 : decode cX4_init 21 = .ok (.aload_n 0, 1) := by decide +kernel
theorem dX4_init_22 : decode cX4_init 22 = .ok (.getfield 11, 3) := by decide +kernel
theorem dX4_init_25 : decode cX4_init 25 = .ok (.iload_n 2, 1) := by decide +kernel
theorem dX4_init_26 : decode cX4_init 26 = .ok (.new 9, 3) := by decide +kernel
theorem dX4_init_29 : decode cX4_init 29 = .ok (.dup, 1) := by decide +kernel
theorem dX4_init_30 : decode cX4_init 30 = .ok (.aload_n 1, 1) := by decide +kernel
theorem dX4_init_31 : decode cX4_init 31 = .ok (.invokespecial 17, 3) := by decide +kernel
theorem dX4_init_34 : decode cX4_init 34 = .ok (.aastore, 1) := by decide +kernel
theorem dX4_init_35 : decode cX4_init 35 = .ok (.iinc 2 1, 3) := by decide +kernel
theorem dX4_init_38 : decode cX4_init 38 = .ok (.goto (-23), 3) := by decide +kernel
theorem dX4_init_41 : decode cX4_init 41 = .ok (.return_, 1) := by decide +kernel
theorem dX4_head_0 : decode cX4_head 0 = .ok (.aload_n 0, 1) := by decide +kernel
theorem dX4_head_1 : decode cX4_head 1 = .ok (.getfield 11, 3) := by decide +kernel
theorem dX4_head_4 : decode cX4_head 4 = .ok (.aload_n 0, 1) := by decide +kernel
theorem dX4_head_5 : decode cX4_head 5 = .ok (.getfield 20, 3) := by decide +kernel
theorem dX4_head_8 : decode cX4_head 8 = .ok (.aaload, 1) := by decide +kernel
theorem dX4_head_9 : decode cX4_head 9 = .ok (.areturn, 1) := by decide +kernel
theorem dX4_extend_0 : decode cX4_extend 0 = .ok (.aload_n 0, 1) := by decide +kernel
theorem dX4_extend_1 : decode cX4_extend 1 = .ok (.getfield 24, 3) := by decide +kernel
theorem dX4_extend_4 : decode cX4_extend 4 = .ok (.bipush 30, 2) := by decide +kernel
theorem dX4_extend_6 : decode cX4_extend 6 = .ok (.if_icmp .ge 13, 3) := by decide +kernel
theorem dX4_extend_9 : decode cX4_extend 9 = .ok (.aload_n 0, 1) := by decide +kernel
theorem dX4_extend_10 : decode cX4_extend 10 = .ok (.dup, 1) := by decide +kernel
theorem dX4_extend_11 : decode cX4_extend 11 = .ok (.getfield 24, 3) := by decide +kernel
theorem dX4_extend_14 : decode cX4_extend 14 = .ok (.iconst 1, 1) := by decide +kernel
theorem dX4_extend_15 : decode cX4_extend 15 = .ok (.iadd, 1) := by decide +kernel
theorem dX4_extend_16 : decode cX4_extend 16 = .ok (.putfield 24, 3) := by decide +kernel
theorem dX4_extend_19 : decode cX4_extend 19 = .ok (.aload_n 0, 1) := by decide +kernel
theorem dX4_extend_20 : decode cX4_extend 20 = .ok (.getfield 11, 3) := by decide +kernel
theorem dX4_extend_23 : decode cX4_extend 23 = .ok (.aload_n 0, 1) := by decide +kernel
theorem dX4_extend_24 : decode cX4_extend 24 = .ok (.getfield 20, 3) := by decide +kernel
theorem dX4_extend_27 : decode cX4_extend 27 = .ok (.aload_n 0, 1) := by decide +kernel
theorem dX4_extend_28 : decode cX4_extend 28 = .ok (.getfield 24, 3) := by decide +kernel
theorem dX4_extend_31 : decode cX4_extend 31 = .ok (.iadd, 1) := by decide +kernel
theorem dX4_extend_32 : decode cX4_extend 32 = .ok (.iconst 1, 1) := by decide +kernel
theorem dX4_extend_33 : decode cX4_extend 33 = .ok (.isub, 1) := by decide +kernel
theorem dX4_extend_34 : decode cX4_extend 34 = .ok (.bipush 30, 2) := by decide +kernel
theorem dX4_extend_36 : decode cX4_extend 36 = .ok (.irem, 1) := by decide +kernel
theorem dX4_extend_37 : decode cX4_extend 37 = .ok (.aaload, 1) := by decide +kernel
theorem dX4_extend_38 : decode cX4_extend 38 = .ok (.areturn, 1) := by decide +kernel
theorem dX4_dropFirst_0 : decode cX4_dropFirst 0 = .ok (.aload_n 0, 1) := by decide +kernel
theorem dX4_dropFirst_1 : decode cX4_dropFirst 1 = .ok (.getfield 24, 3) := by decide +kernel
theorem dX4_dropFirst_4 : decode cX4_dropFirst 4 = .ok (.ifCond .le 26, 3) := by decide +kernel
theorem dX4_dropFirst_7 : decode cX4_dropFirst 7 = .ok (.aload_n 0, 1) := by decide +kernel
theorem dX4_dropFirst_8 : decode cX4_dropFirst 8 = .ok (.aload_n 0, 1) := by decide +kernel
theorem dX4_dropFirst_9 : decode cX4_dropFirst 9 = .ok (.getfield 20, 3) := by decide +kernel
theorem dX4_dropFirst_12 : decode cX4_dropFirst 12 = .ok (.iconst 1, 1) := by decide +kernel
theorem dX4_dropFirst_13 : decode cX4_dropFirst 13 = .ok (.iadd, 1) := by decide +kernel
theorem dX4_dropFirst_14 : decode cX4_dropFirst 14 = .ok (.bipush 30, 2) := by decide +kernel
theorem dX4_dropFirst_16 : decode cX4_dropFirst 16 = .ok (.irem, 1) := by decide +kernel
theorem dX4_dropFirst_17 : decode cX4_dropFirst 17 = .ok (.putfield 20, 3) := by decide +kernel
theorem dX4_dropFirst_20 : decode cX4_dropFirst 20 = .ok (.aload_n 0, 1) := by decide +kernel
theorem dX4_dropFirst_21 : decode cX4_dropFirst 21 = .ok (.dup, 1) := by decide +kernel
theorem dX4_dropFirst_22 : decode cX4_dropFirst 22 = .ok (.getfield 24, 3) := by decide +kernel
theorem dX4_dropFirst_25 : decode cX4_dropFirst 25 = .ok (.iconst 1, 1) := by decide +kernel
theorem dX4_dropFirst_26 : decode cX4_dropFirst 26 = .ok (.isub, 1) := by decide +kernel
theorem dX4_dropFirst_27 : decode cX4_dropFirst 27 = .ok (.putfield 24, 3) := by decide +kernel
theorem dX4_dropFirst_30 : decode cX4_dropFirst 30 = .ok (.return_, 1) := by decide +kernel
theorem dX4_clear_0 : decode cX4_clear 0 = .ok (.aload_n 0, 1) := by decide +kernel
theorem dX4_clear_1 : decode cX4_clear 1 = .ok (.iconst 0, 1) := by decide +kernel
theorem dX4_clear_2 : decode cX4_clear 2 = .ok (.putfield 20, 3) := by decide +kernel
theorem dX4_clear_5 : decode cX4_clear 5 = .ok (.aload_n 0, 1) := by decide +kernel
theorem dX4_clear_6 : decode cX4_clear 6 = .ok (.iconst 0, 1) := by decide +kernel
theorem dX4_clear_7 : decode cX4_clear 7 = .ok (.putfield 24, 3) := by decide +kernel
theorem dX4_clear_10 : decode cX4_clear 10 = .ok (.return_, 1) := by decide +kernel
theorem dX4_copyFrom_0 : decode cX4_copyFrom 0 = .ok (.aload_n 0, 1) := by decide +kernel
theorem dX4_copyFrom_1 : decode cX4_copyFrom 1 = .ok (.iconst 0, 1) := by decide +kernel
theorem dX4_copyFrom_2 : decode cX4_copyFrom 2 = .ok (.putfield 20, 3) := by decide +kernel
theorem dX4_copyFrom_5 : decode cX4_copyFrom 5 = .ok (.aload_n 0, 1) := by decide +kernel
theorem dX4_copyFrom_6 : decode cX4_copyFrom 6 = .ok (.aload_n 1, 1) := by decide +kernel
theorem dX4_copyFrom_7 : decode cX4_copyFrom 7 = .ok (.getfield 24, 3) := by decide +kernel
theorem dX4_copyFrom_10 : decode cX4_copyFrom 10 = .ok (.putfield 24, 3) := by decide +kernel
theorem dX4_copyFrom_13 : decode cX4_copyFrom 13 = .ok (.iconst 0, 1) := by decide +kernel
theorem dX4_copyFrom_14 : decode cX4_copyFrom 14 = .ok (.istore_n 2, 1) := by decide +kernel
theorem dX4_copyFrom_15 : decode cX4_copyFrom 15 = .ok (.iload_n 2, 1) := by decide +kernel
theorem dX4_copyFrom_16 : decode cX4_copyFrom 16 = .ok (.aload_n 0, 1) := by decide +kernel
theorem dX4_copyFrom_17 : decode cX4_copyFrom 17 = .ok (.getfield 24, 3) := by decide +kernel
theorem dX4_copyFrom_20 : decode cX4_copyFrom 20 = .ok (.if_icmp .ge 38, 3) := by decide +kernel
theorem dX4_copyFrom_23 : decode cX4_copyFrom 23 = .ok (.iload_n 2, 1) := by decide +kernel
theorem dX4_copyFrom_24 : decode cX4_copyFrom 24 = .ok (.bipush 30, 2) := by decide +kernel
theorem dX4_copyFrom_26 : decode cX4_copyFrom 26 = .ok (.if_icmp .ge 32, 3) := by decide +kernel
theorem dX4_copyFrom_29 : decode cX4_copyFrom 29 = .ok (.aload_n 0, 1) := by decide +kernel
theorem dX4_copyFrom_30 : decode cX4_copyFrom 30 = .ok (.getfield 11, 3) := by decide +kernel
theorem dX4_copyFrom_33 : decode cX4_copyFrom 33 = .ok (.iload_n 2, 1) := by decide +kernel
theorem dX4_copyFrom_34 : decode cX4_copyFrom 34 = .ok (.aaload, 1) := by decide +kernel
theorem dX4_copyFrom_35 : decode cX4_copyFrom 35 = .ok (.aload_n 1, 1) := by decide +kernel
theorem dX4_copyFrom_36 : decode cX4_copyFrom 36 = .ok (.getfield 11, 3) := by decide +kernel
theorem dX4_copyFrom_39 : decode cX4_copyFrom 39 = .ok (.aload_n 1, 1) := by decide +kernel
theorem dX4_copyFrom_40 : decode cX4_copyFrom 40 = .ok (.getfield 20, 3) := by decide +kernel
theorem dX4_copyFrom_43 : decode cX4_copyFrom 43 = .ok (.iload_n 2, 1) := by decide +kernel
theorem dX4_copyFrom_44 : decode cX4_copyFrom 44 = .ok (.iadd, 1) := by decide +kernel
theorem dX4_copyFrom_45 : decode cX4_copyFrom 45 = .ok (.bipush 30, 2) := by decide +kernel
theorem dX4_copyFrom_47 : decode cX4_copyFrom 47 = .ok (.irem, 1) := by decide +kernel
theorem dX4_copyFrom_48 : decode cX4_copyFrom 48 = .ok (.aaload, 1) := by decide +kernel
theorem dX4_copyFrom_49 : decode cX4_copyFrom 49 = .ok (.invokevirtual 27, 3) := by decide +kernel
theorem dX4_copyFrom_52 : decode cX4_copyFrom 52 = .ok (.iinc 2 1, 3) := by decide +kernel
theorem dX4_copyFrom_55 : decode cX4_copyFrom 55 = .ok (.goto (-40), 3) := by decide +kernel
theorem dX4_copyFrom_58 : decode cX4_copyFrom 58 = .ok (.return_, 1) := by decide +kernel
theorem dX5_init_0 : decode cX5_init 0 = .ok (.aload_n 0, 1) := by decide +kernel
theorem dX5_init_1 : decode cX5_init 1 = .ok (.invokespecial 3, 3) := by decide +kernel
theorem dX5_init_4 : decode cX5_init 4 = .ok (.aload_n 0, 1) := by decide +kernel
theorem dX5_init_5 : decode cX5_init 5 = .ok (.bipush 51, 2) := by decide +kernel
theorem dX5_init_7 : decode cX5_init 7 = .ok (.newarray .boolean, 2) := by decide +kernel
theorem dX5_init_9 : decode cX5_init 9 = .ok (.putfield 9, 3) := by decide +kernel
theorem dX5_init_12 : decode cX5_init 12 = .ok (.aload_n 0, 1) := by decide +kernel
theorem dX5_init_13 : decode cX5_init 13 = .ok (.bipush 6, 2) := by decide +kernel
theorem dX5_init_15 : decode cX5_init 15 = .ok (.anewarray 15, 3) := by decide +kernel
theorem dX5_init_18 : decode cX5_init 18 = .ok (.putfield 17, 3) := by decide +kernel
theorem dX5_init_21 : decode cX5_init 21 = .ok (.iconst 0, 1) := by decide +kernel
theorem dX5_init_22 : decode cX5_init 22 = .ok (.istore_n 2, 1) := by decide +kernel
theorem dX5_init_23 : decode cX5_init 23 = .ok (.iload_n 2, 1) := by decide +kernel
theorem dX5_init_24 : decode cX5_init 24 = .ok (.bipush 6, 2) := by decide +kernel
theorem dX5_init_26 : decode cX5_init 26 = .ok (.if_icmp .ge 23, 3) := by decide +kernel
theorem dX5_init_29 : decode cX5_init 29 = .ok (.aload_n 0, 1) := by decide +kernel
theorem dX5_init_30 : decode cX5_init 30 = .ok (.getfield 17, 3) := by decide +kernel
theorem dX5_init_33 : decode cX5_init 33 = .ok (.iload_n 2, 1) := by decide +kernel
theorem dX5_init_34 : decode cX5_init 34 = .ok (.new 15, 3) := by decide +kernel
theorem dX5_init_37 : decode cX5_init 37 = .ok (.dup, 1) := by decide +kernel
theorem dX5_init_38 : decode cX5_init 38 = .ok (.aload_n 1, 1) := by decide +kernel
theorem dX5_init_39 : decode cX5_init 39 = .ok (.invokespecial 21, 3) := by decide +kernel
theorem dX5_init_42 : decode cX5_init 42 = .ok (.aastore, 1) := by decide +kernel
theorem dX5_init_43 : decode cX5_init 43 = .ok (.iinc 2 1, 3) := by decide +kernel
theorem dX5_init_46 : decode cX5_init 46 = .ok (.goto (-23), 3) := by decide +kernel
theorem dX5_init_49 : decode cX5_init 49 = .ok (.aload_n 0, 1) := by decide +kernel
theorem dX5_init_50 : decode cX5_init 50 = .ok (.new 24, 3) := by decide +kernel
theorem dX5_init_53 : decode cX5_init 53 = .ok (.dup, 1) := by decide +kernel
theorem dX5_init_54 : decode cX5_init 54 = .ok (.iconst 5, 1) := by decide +kernel
theorem dX5_init_55 : decode cX5_init 55 = .ok (.aload_n 1, 1) := by decide +kernel
theorem dX5_init_56 : decode cX5_init 56 = .ok (.invokespecial 26, 3) := by decide +kernel
theorem dX5_init_59 : decode cX5_init 59 = .ok (.putfield 29, 3) := by decide +kernel
theorem dX5_init_62 : decode cX5_init 62 = .ok (.aload_n 0, 1) := by decide +kernel
theorem dX5_init_63 : decode cX5_init 63 = .ok (.new 24, 3) := by decide +kernel
theorem dX5_init_66 : decode cX5_init 66 = .ok (.dup, 1) := by decide +kernel
theorem dX5_init_67 : decode cX5_init 67 = .ok (.bipush 8, 2) := by decide +kernel
theorem dX5_init_69 : decode cX5_init 69 = .ok (.aload_n 1, 1) := by decide +kernel
theorem dX5_init_70 : decode cX5_init 70 = .ok (.invokespecial 26, 3) := by decide +kernel
theorem dX5_init_73 : decode cX5_init 73 = .ok (.putfield 33, 3) := by decide +kernel
theorem dX5_init_76 : decode cX5_init 76 = .ok (.return_, 1) := by decide +kernel
theorem dX5_begin_0 : decode cX5_begin 0 = .ok (.aload_n 0, 1) := by decide +kernel
theorem dX5_begin_1 : decode cX5_begin 1 = .ok (.invokevirtual 36, 3) := by decide +kernel
theorem dX5_begin_4 : decode cX5_begin 4 = .ok (.aload_n 0, 1) := by decide +kernel
theorem dX5_begin_5 : decode cX5_begin 5 = .ok (.iconst 1, 1) := by decide +kernel
theorem dX5_begin_6 : decode cX5_begin 6 = .ok (.putfield 39, 3) := by decide +kernel
theorem dX5_begin_9 : decode cX5_begin 9 = .ok (.aload_n 0, 1) := by decide +kernel
theorem dX5_begin_10 : decode cX5_begin 10 = .ok (.iload_n 1, 1) := by decide +kernel
theorem dX5_begin_11 : decode cX5_begin 11 = .ok (.putfield 43, 3) := by decide +kernel
theorem dX5_begin_14 : decode cX5_begin 14 = .ok (.return_, 1) := by decide +kernel
theorem dX5_clear_0 : decode cX5_clear 0 = .ok (.aload_n 0, 1) := by decide +kernel
theorem dX5_clear_1 : decode cX5_clear 1 = .ok (.iconst 0, 1) := by decide +kernel
theorem dX5_clear_2 : decode cX5_clear 2 = .ok (.putfield 39, 3) := by decide +kernel
theorem dX5_clear_5 : decode cX5_clear 5 = .ok (.aload_n 0, 1) := by decide +kernel
theorem dX5_clear_6 : decode cX5_clear 6 = .ok (.iconst 0, 1) := by decide +kernel
theorem dX5_clear_7 : decode cX5_clear 7 = .ok (.putfield 43, 3) := by decide +kernel
theorem dX5_clear_10 : decode cX5_clear 10 = .ok (.aload_n 0, 1) := by decide +kernel
theorem dX5_clear_11 : decode cX5_clear 11 = .ok (.iconst 0, 1) := by decide +kernel
theorem dX5_clear_12 : decode cX5_clear 12 = .ok (.putfield 46, 3) := by decide +kernel
theorem dX5_clear_15 : decode cX5_clear 15 = .ok (.aload_n 0, 1) := by decide +kernel
theorem dX5_clear_16 : decode cX5_clear 16 = .ok (.iconst 1, 1) := by decide +kernel
theorem dX5_clear_17 : decode cX5_clear 17 = .ok (.putfield 50, 3) := by decide +kernel
theorem dX5_clear_20 : decode cX5_clear 20 = .ok (.iconst 0, 1) := by decide +kernel
theorem dX5_clear_21 : decode cX5_clear 21 = .ok (.istore_n 1, 1) := by decide +kernel
theorem dX5_clear_22 : decode cX5_clear 22 = .ok (.iload_n 1, 1) := by decide +kernel
theorem dX5_clear_23 : decode cX5_clear 23 = .ok (.aload_n 0, 1) := by decide +kernel
theorem dX5_clear_24 : decode cX5_clear 24 = .ok (.getfield 9, 3) := by decide +kernel
theorem dX5_clear_27 : decode cX5_clear 27 = .ok (.arraylength, 1) := by decide +kernel
theorem dX5_clear_28 : decode cX5_clear 28 = .ok (.if_icmp .ge 16, 3) := by decide +kernel
theorem dX5_clear_31 : decode cX5_clear 31 = .ok (.aload_n 0, 1) := by decide +kernel
theorem dX5_clear_32 : decode cX5_clear 32 = .ok (.getfield 9, 3) := by decide +kernel
theorem dX5_clear_35 : decode cX5_clear 35 = .ok (.iload_n 1, 1) := by decide +kernel
theorem dX5_clear_36 : decode cX5_clear 36 = .ok (.iconst 0, 1) := by decide +kernel
theorem dX5_clear_37 : decode cX5_clear 37 = .ok (.bastore, 1) := by decide +kernel
theorem dX5_clear_38 : decode cX5_clear 38 = .ok (.iinc 1 1, 3) := by decide +kernel
theorem dX5_clear_41 : decode cX5_clear 41 = .ok (.goto (-19), 3) := by decide +kernel
theorem dX5_clear_44 : decode cX5_clear 44 = .ok (.aload_n 0, 1) := by decide +kernel
theorem dX5_clear_45 : decode cX5_clear 45 = .ok (.iconst 0, 1) := by decide +kernel
theorem dX5_clear_46 : decode cX5_clear 46 = .ok (.putfield 53, 3) := by decide +kernel
theorem dX5_clear_49 : decode cX5_clear 49 = .ok (.aload_n 0, 1) := by decide +kernel
theorem dX5_clear_50 : decode cX5_clear 50 = .ok (.iconst 0, 1) := by decide +kernel
theorem dX5_clear_51 : decode cX5_clear 51 = .ok (.putfield 56, 3) := by decide +kernel
theorem dX5_clear_54 : decode cX5_clear 54 = .ok (.aload_n 0, 1) := by decide +kernel
theorem dX5_clear_55 : decode cX5_clear 55 = .ok (.getfield 29, 3) := by decide +kernel
theorem dX5_clear_58 : decode cX5_clear 58 = .ok (.iconst 0, 1) := by decide +kernel
theorem dX5_clear_59 : decode cX5_clear 59 = .ok (.putfield 59, 3) := by decide +kernel
theorem dX5_clear_62 : decode cX5_clear 62 = .ok (.aload_n 0, 1) := by decide +kernel
theorem dX5_clear_63 : decode cX5_clear 63 = .ok (.getfield 33, 3) := by decide +kernel
theorem dX5_clear_66 : decode cX5_clear 66 = .ok (.iconst 0, 1) := by decide +kernel
theorem dX5_clear_67 : decode cX5_clear 67 = .ok (.putfield 59, 3) := by decide +kernel
theorem dX5_clear_70 : decode cX5_clear 70 = .ok (.return_, 1) := by decide +kernel
theorem dX5_keeps_0 : decode cX5_keeps 0 = .ok (.iload_n 1, 1) := by decide +kernel
theorem dX5_keeps_1 : decode cX5_keeps 1 = .ok (.ifCond .lt 25, 3) := by decide +kernel
theorem dX5_keeps_4 : decode cX5_keeps 4 = .ok (.iload_n 1, 1) := by decide +kernel
theorem dX5_keeps_5 : decode cX5_keeps 5 = .ok (.aload_n 0, 1) := by decide +kernel
theorem dX5_keeps_6 : decode cX5_keeps 6 = .ok (.getfield 9, 3) := by decide +kernel
theorem dX5_keeps_9 : decode cX5_keeps 9 = .ok (.arraylength, 1) := by decide +kernel
theorem dX5_keeps_10 : decode cX5_keeps 10 = .ok (.if_icmp .ge 16, 3) := by decide +kernel
theorem dX5_keeps_13 : decode cX5_keeps 13 = .ok (.aload_n 0, 1) := by decide +kernel
theorem dX5_keeps_14 : decode cX5_keeps 14 = .ok (.getfield 9, 3) := by decide +kernel
theorem dX5_keeps_17 : decode cX5_keeps 17 = .ok (.iload_n 1, 1) := by decide +kernel
theorem dX5_keeps_18 : decode cX5_keeps 18 = .ok (.baload, 1) := by decide +kernel
theorem dX5_keeps_19 : decode cX5_keeps 19 = .ok (.ifCond .eq 7, 3) := by decide +kernel
theorem dX5_keeps_22 : decode cX5_keeps 22 = .ok (.iconst 1, 1) := by decide +kernel
theorem dX5_keeps_23 : decode cX5_keeps 23 = .ok (.goto 4, 3) := by decide +kernel
theorem dX5_keeps_26 : decode cX5_keeps 26 = .ok (.iconst 0, 1) := by decide +kernel
theorem dX5_keeps_27 : decode cX5_keeps 27 = .ok (.ireturn, 1) := by decide +kernel
theorem dX5_keep_0 : decode cX5_keep 0 = .ok (.iload_n 1, 1) := by decide +kernel
theorem dX5_keep_1 : decode cX5_keep 1 = .ok (.ifCond .lt 38, 3) := by decide +kernel
theorem dX5_keep_4 : decode cX5_keep 4 = .ok (.iload_n 1, 1) := by decide +kernel
theorem dX5_keep_5 : decode cX5_keep 5 = .ok (.aload_n 0, 1) := by decide +kernel
theorem dX5_keep_6 : decode cX5_keep 6 = .ok (.getfield 9, 3) := by decide +kernel
theorem dX5_keep_9 : decode cX5_keep 9 = .ok (.arraylength, 1) := by decide +kernel
theorem dX5_keep_10 : decode cX5_keep 10 = .ok (.if_icmp .ge 29, 3) := by decide +kernel
theorem dX5_keep_13 : decode cX5_keep 13 = .ok (.aload_n 0, 1) := by decide +kernel
theorem dX5_keep_14 : decode cX5_keep 14 = .ok (.getfield 9, 3) := by decide +kernel
theorem dX5_keep_17 : decode cX5_keep 17 = .ok (.iload_n 1, 1) := by decide +kernel
theorem dX5_keep_18 : decode cX5_keep 18 = .ok (.baload, 1) := by decide +kernel
theorem dX5_keep_19 : decode cX5_keep 19 = .ok (.ifCond .ne 20, 3) := by decide +kernel
theorem dX5_keep_22 : decode cX5_keep 22 = .ok (.aload_n 0, 1) := by decide +kernel
theorem dX5_keep_23 : decode cX5_keep 23 = .ok (.getfield 9, 3) := by decide +kernel
theorem dX5_keep_26 : decode cX5_keep 26 = .ok (.iload_n 1, 1) := by decide +kernel
theorem dX5_keep_27 : decode cX5_keep 27 = .ok (.iconst 1, 1) := by decide +kernel
theorem dX5_keep_28 : decode cX5_keep 28 = .ok (.bastore, 1) := by decide +kernel
theorem dX5_keep_29 : decode cX5_keep 29 = .ok (.aload_n 0, 1) := by decide +kernel
theorem dX5_keep_30 : decode cX5_keep 30 = .ok (.dup, 1) := by decide +kernel
theorem dX5_keep_31 : decode cX5_keep 31 = .ok (.getfield 53, 3) := by decide +kernel
theorem dX5_keep_34 : decode cX5_keep 34 = .ok (.iconst 1, 1) := by decide +kernel
theorem dX5_keep_35 : decode cX5_keep 35 = .ok (.iadd, 1) := by decide +kernel
theorem dX5_keep_36 : decode cX5_keep 36 = .ok (.putfield 53, 3) := by decide +kernel
theorem dX5_keep_39 : decode cX5_keep 39 = .ok (.return_, 1) := by decide +kernel
theorem dX5_forget_0 : decode cX5_forget 0 = .ok (.aload_n 0, 1) := by decide +kernel
theorem dX5_forget_1 : decode cX5_forget 1 = .ok (.iload_n 1, 1) := by decide +kernel
theorem dX5_forget_2 : decode cX5_forget 2 = .ok (.invokevirtual 62, 3) := by decide +kernel
theorem dX5_forget_5 : decode cX5_forget 5 = .ok (.ifCond .eq 20, 3) := by decide +kernel
theorem dX5_forget_8 : decode cX5_forget 8 = .ok (.aload_n 0, 1) := by decide +kernel
theorem dX5_forget_9 : decode cX5_forget 9 = .ok (.getfield 9, 3) := by decide +kernel
theorem dX5_forget_12 : decode cX5_forget 12 = .ok (.iload_n 1, 1) := by decide +kernel
theorem dX5_forget_13 : decode cX5_forget 13 = .ok (.iconst 0, 1) := by decide +kernel
theorem dX5_forget_14 : decode cX5_forget 14 = .ok (.bastore, 1) := by decide +kernel
theorem dX5_forget_15 : decode cX5_forget 15 = .ok (.aload_n 0, 1) := by decide +kernel
theorem dX5_forget_16 : decode cX5_forget 16 = .ok (.dup, 1) := by decide +kernel
theorem dX5_forget_17 : decode cX5_forget 17 = .ok (.getfield 53, 3) := by decide +kernel
theorem dX5_forget_20 : decode cX5_forget 20 = .ok (.iconst 1, 1) := by decide +kernel
theorem dX5_forget_21 : decode cX5_forget 21 = .ok (.isub, 1) := by decide +kernel
theorem dX5_forget_22 : decode cX5_forget 22 = .ok (.putfield 53, 3) := by decide +kernel
theorem dX5_forget_25 : decode cX5_forget 25 = .ok (.return_, 1) := by decide +kernel
theorem dX5_placeOf_0 : decode cX5_placeOf 0 = .ok (.iconst 0, 1) := by decide +kernel
theorem dX5_placeOf_1 : decode cX5_placeOf 1 = .ok (.istore_n 3, 1) := by decide +kernel
theorem dX5_placeOf_2 : decode cX5_placeOf 2 = .ok (.iload_n 3, 1) := by decide +kernel
theorem dX5_placeOf_3 : decode cX5_placeOf 3 = .ok (.aload_n 0, 1) := by decide +kernel
theorem dX5_placeOf_4 : decode cX5_placeOf 4 = .ok (.getfield 56, 3) := by decide +kernel
theorem dX5_placeOf_7 : decode cX5_placeOf 7 = .ok (.if_icmp .ge 46, 3) := by decide +kernel
theorem dX5_placeOf_10 : decode cX5_placeOf 10 = .ok (.iload_n 3, 1) := by decide +kernel
theorem dX5_placeOf_11 : decode cX5_placeOf 11 = .ok (.bipush 6, 2) := by decide +kernel
theorem dX5_placeOf_13 : decode cX5_placeOf 13 = .ok (.if_icmp .ge 40, 3) := by decide +kernel
theorem dX5_placeOf_16 : decode cX5_placeOf 16 = .ok (.aload_n 0, 1) := by decide +kernel
theorem dX5_placeOf_17 : decode cX5_placeOf 17 = .ok (.getfield 17, 3) := by decide +kernel
theorem dX5_placeOf_20 : decode cX5_placeOf 20 = .ok (.iload_n 3, 1) := by decide +kernel
theorem dX5_placeOf_21 : decode cX5_placeOf 21 = .ok (.aaload, 1) := by decide +kernel
theorem dX5_placeOf_22 : decode cX5_placeOf 22 = .ok (.getfield 66, 3) := by decide +kernel
theorem dX5_placeOf_25 : decode cX5_placeOf 25 = .ok (.iload_n 2, 1) := by decide +kernel
theorem dX5_placeOf_26 : decode cX5_placeOf 26 = .ok (.if_icmp .ne 21, 3) := by decide +kernel
theorem dX5_placeOf_29 : decode cX5_placeOf 29 = .ok (.aload_n 0, 1) := by decide +kernel
theorem dX5_placeOf_30 : decode cX5_placeOf 30 = .ok (.getfield 17, 3) := by decide +kernel
theorem dX5_placeOf_33 : decode cX5_placeOf 33 = .ok (.iload_n 3, 1) := by decide +kernel
theorem dX5_placeOf_34 : decode cX5_placeOf 34 = .ok (.aaload, 1) := by decide +kernel
theorem dX5_placeOf_35 : decode cX5_placeOf 35 = .ok (.getfield 69, 3) := by decide +kernel
theorem dX5_placeOf_38 : decode cX5_placeOf 38 = .ok (.aload_n 1, 1) := by decide +kernel
theorem dX5_placeOf_39 : decode cX5_placeOf 39 = .ok (.invokevirtual 73, 3) := by decide +kernel
theorem dX5_placeOf_42 : decode cX5_placeOf 42 = .ok (.ifCond .eq 5, 3) := by decide +kernel
theorem dX5_placeOf_45 : decode cX5_placeOf 45 = .ok (.iload_n 3, 1) := by decide +kernel
theorem dX5_placeOf_46 : decode cX5_placeOf 46 = .ok (.ireturn, 1) := by decide +kernel
theorem dX5_placeOf_47 : decode cX5_placeOf 47 = .ok (.iinc 3 1, 3) := by decide +kernel
theorem dX5_placeOf_50 : decode cX5_placeOf 50 = .ok (.goto (-48), 3) := by decide +kernel
theorem dX5_placeOf_53 : decode cX5_placeOf 53 = .ok (.iconst (-1), 1) := by decide +kernel
theorem dX5_placeOf_54 : decode cX5_placeOf 54 = .ok (.ireturn, 1) := by decide +kernel
theorem dX5_gradeOf_0 : decode cX5_gradeOf 0 = .ok (.aload_n 0, 1) := by decide +kernel
theorem dX5_gradeOf_1 : decode cX5_gradeOf 1 = .ok (.aload_n 1, 1) := by decide +kernel
theorem dX5_gradeOf_2 : decode cX5_gradeOf 2 = .ok (.iload_n 2, 1) := by decide +kernel
theorem dX5_gradeOf_3 : decode cX5_gradeOf 3 = .ok (.invokevirtual 79, 3) := by decide +kernel
theorem dX5_gradeOf_6 : decode cX5_gradeOf 6 = .ok (.istore_n 3, 1) := by decide +kernel
theorem dX5_gradeOf_7 : decode cX5_gradeOf 7 = .ok (.iload_n 3, 1) := by decide +kernel
theorem dX5_gradeOf_8 : decode cX5_gradeOf 8 = .ok (.ifCond .ge 7, 3) := by decide +kernel
theorem dX5_gradeOf_11 : decode cX5_gradeOf 11 = .ok (.iconst 0, 1) := by decide +kernel
theorem dX5_gradeOf_12 : decode cX5_gradeOf 12 = .ok (.goto 12, 3) := by decide +kernel
theorem dX5_gradeOf_15 : decode cX5_gradeOf 15 = .ok (.aload_n 0, 1) := by decide +kernel
theorem dX5_gradeOf_16 : decode cX5_gradeOf 16 = .ok (.getfield 17, 3) := by decide +kernel
theorem dX5_gradeOf_19 : decode cX5_gradeOf 19 = .ok (.iload_n 3, 1) := by decide +kernel
theorem dX5_gradeOf_20 : decode cX5_gradeOf 20 = .ok (.aaload, 1) := by decide +kernel
theorem dX5_gradeOf_21 : decode cX5_gradeOf 21 = .ok (.getfield 83, 3) := by decide +kernel
theorem dX5_gradeOf_24 : decode cX5_gradeOf 24 = .ok (.ireturn, 1) := by decide +kernel
theorem dX5_addSubscription_0 : decode cX5_addSubscription 0 = .ok (.aload_n 0, 1) := by decide +kernel
theorem dX5_addSubscription_1 : decode cX5_addSubscription 1 = .ok (.getfield 56, 3) := by decide +kernel
theorem dX5_addSubscription_4 : decode cX5_addSubscription 4 = .ok (.ifCond .lt 52, 3) := by decide +kernel
theorem dX5_addSubscription_7 : decode cX5_addSubscription 7 = .ok (.aload_n 0, 1) := by decide +kernel
theorem dX5_addSubscription_8 : decode cX5_addSubscription 8 = .ok (.getfield 56, 3) := by decide +kernel
theorem dX5_addSubscription_11 : decode cX5_addSubscription 11 = .ok (.bipush 6, 2) := by decide +kernel
theorem dX5_addSubscription_13 : decode cX5_addSubscription 13 = .ok (.if_icmp .ge 43, 3) := by decide +kernel
theorem dX5_addSubscription_16 : decode cX5_addSubscription 16 = .ok (.aload_n 0, 1) := by decide +kernel
theorem dX5_addSubscription_17 : decode cX5_addSubscription 17 = .ok (.getfield 17, 3) := by decide +kernel
theorem dX5_addSubscription_20 : decode cX5_addSubscription 20 = .ok (.aload_n 0, 1) := by decide +kernel
theorem dX5_addSubscription_21 : decode cX5_addSubscription 21 = .ok (.getfield 56, 3) := by decide +kernel
theorem dX5_addSubscription_24 : decode cX5_addSubscription 24 = .ok (.aaload, 1) := by decide +kernel
theorem dX5_addSubscription_25 : decode cX5_addSubscription 25 = .ok (.astore_n 3, 1) := by decide +kernel
theorem dX5_addSubscription_26 : decode cX5_addSubscription 26 = .ok (.aload_n 3, 1) := by decide +kernel
theorem dX5_addSubscription_27 : decode cX5_addSubscription 27 = .ok (.aload_n 1, 1) := by decide +kernel
theorem dX5_addSubscription_28 : decode cX5_addSubscription 28 = .ok (.putfield 69, 3) := by decide +kernel
theorem dX5_addSubscription_31 : decode cX5_addSubscription 31 = .ok (.aload_n 3, 1) := by decide +kernel
theorem dX5_addSubscription_32 : decode cX5_addSubscription 32 = .ok (.iload_n 2, 1) := by decide +kernel
theorem dX5_addSubscription_33 : decode cX5_addSubscription 33 = .ok (.putfield 66, 3) := by decide +kernel
theorem dX5_addSubscription_36 : decode cX5_addSubscription 36 = .ok (.aload_n 3, 1) := by decide +kernel
theorem dX5_addSubscription_37 : decode cX5_addSubscription 37 = .ok (.iconst 0, 1) := by decide +kernel
theorem dX5_addSubscription_38 : decode cX5_addSubscription 38 = .ok (.putfield 83, 3) := by decide +kernel
theorem dX5_addSubscription_41 : decode cX5_addSubscription 41 = .ok (.aload_n 3, 1) := by decide +kernel
theorem dX5_addSubscription_42 : decode cX5_addSubscription 42 = .ok (.iconst 0, 1) := by decide +kernel
theorem dX5_addSubscription_43 : decode cX5_addSubscription 43 = .ok (.putfield 86, 3) := by decide +kernel
theorem dX5_addSubscription_46 : decode cX5_addSubscription 46 = .ok (.aload_n 0, 1) := by decide +kernel
theorem dX5_addSubscription_47 : decode cX5_addSubscription 47 = .ok (.dup, 1) := by decide +kernel
theorem dX5_addSubscription_48 : decode cX5_addSubscription 48 = .ok (.getfield 56, 3) := by decide +kernel
theorem dX5_addSubscription_51 : decode cX5_addSubscription 51 = .ok (.iconst 1, 1) := by decide +kernel
theorem dX5_addSubscription_52 : decode cX5_addSubscription 52 = .ok (.iadd, 1) := by decide +kernel
theorem dX5_addSubscription_53 : decode cX5_addSubscription 53 = .ok (.putfield 56, 3) := by decide +kernel
theorem dX5_addSubscription_56 : decode cX5_addSubscription 56 = .ok (.return_, 1) := by decide +kernel
theorem dX5_removeSubscriptionAt_0 : decode cX5_removeSubscriptionAt 0 = .ok (.iload_n 1, 1) := by decide +kernel
theorem dX5_removeSubscriptionAt_1 : decode cX5_removeSubscriptionAt 1 = .ok (.ifCond .lt 20, 3) := by decide +kernel
theorem dX5_removeSubscriptionAt_4 : decode cX5_removeSubscriptionAt 4 = .ok (.iload_n 1, 1) := by decide +kernel
theorem dX5_removeSubscriptionAt_5 : decode cX5_removeSubscriptionAt 5 = .ok (.aload_n 0, 1) := by decide +kernel
theorem dX5_removeSubscriptionAt_6 : decode cX5_removeSubscriptionAt 6 = .ok (.getfield 56, 3) := by decide +kernel
theorem dX5_removeSubscriptionAt_9 : decode cX5_removeSubscriptionAt 9 = .ok (.if_icmp .ge 12, 3) := by decide +kernel
theorem dX5_removeSubscriptionAt_12 : decode cX5_removeSubscriptionAt 12 = .ok (.aload_n 0, 1) := by decide +kernel
theorem dX5_removeSubscriptionAt_13 : decode cX5_removeSubscriptionAt 13 = .ok (.getfield 56, 3) := by decide +kernel
theorem dX5_removeSubscriptionAt_16 : decode cX5_removeSubscriptionAt 16 = .ok (.bipush 6, 2) := by decide +kernel
theorem dX5_removeSubscriptionAt_18 : decode cX5_removeSubscriptionAt 18 = .ok (.if_icmp .le 4, 3) := by decide +kernel
theorem dX5_removeSubscriptionAt_21 : decode cX5_removeSubscriptionAt 21 = .ok (.return_, 1) := by decide +kernel
theorem dX5_removeSubscriptionAt_22 : decode cX5_removeSubscriptionAt 22 = .ok (.aload_n 0, 1) := by decide +kernel
theorem dX5_removeSubscriptionAt_23 : decode cX5_removeSubscriptionAt 23 = .ok (.getfield 17, 3) := by decide +kernel
theorem dX5_removeSubscriptionAt_26 : decode cX5_removeSubscriptionAt 26 = .ok (.iload_n 1, 1) := by decide +kernel
theorem dX5_removeSubscriptionAt_27 : decode cX5_removeSubscriptionAt 27 = .ok (.aaload, 1) := by decide +kernel
theorem dX5_removeSubscriptionAt_28 : decode cX5_removeSubscriptionAt 28 = .ok (.astore_n 2, 1) := by decide +kernel
theorem dX5_removeSubscriptionAt_29 : decode cX5_removeSubscriptionAt 29 = .ok (.iload_n 1, 1) := by decide +kernel
theorem dX5_removeSubscriptionAt_30 : decode cX5_removeSubscriptionAt 30 = .ok (.istore_n 3, 1) := by decide +kernel
theorem dX5_removeSubscriptionAt_31 : decode cX5_removeSubscriptionAt 31 = .ok (.iload_n 3, 1) := by decide +kernel
theorem dX5_removeSubscriptionAt_32 : decode cX5_removeSubscriptionAt 32 = .ok (.iconst 1, 1) := by decide +kernel
theorem dX5_removeSubscriptionAt_33 : decode cX5_removeSubscriptionAt 33 = .ok (.iadd, 1) := by decide +kernel
theorem dX5_removeSubscriptionAt_34 : decode cX5_removeSubscriptionAt 34 = .ok (.aload_n 0, 1) := by decide +kernel
theorem dX5_removeSubscriptionAt_35 : decode cX5_removeSubscriptionAt 35 = .ok (.getfield 56, 3) := by decide +kernel
theorem dX5_removeSubscriptionAt_38 : decode cX5_removeSubscriptionAt 38 = .ok (.if_icmp .ge 23, 3) := by decide +kernel
theorem dX5_removeSubscriptionAt_41 : decode cX5_removeSubscriptionAt 41 = .ok (.aload_n 0, 1) := by decide +kernel
theorem dX5_removeSubscriptionAt_42 : decode cX5_removeSubscriptionAt 42 = .ok (.getfield 17, 3) := by decide +kernel
theorem dX5_removeSubscriptionAt_45 : decode cX5_removeSubscriptionAt 45 = .ok (.iload_n 3, 1) := by decide +kernel
theorem dX5_removeSubscriptionAt_46 : decode cX5_removeSubscriptionAt 46 = .ok (.aload_n 0, 1) := by decide +kernel
theorem dX5_removeSubscriptionAt_47 : decode cX5_removeSubscriptionAt 47 = .ok (.getfield 17, 3) := by decide +kernel
theorem dX5_removeSubscriptionAt_50 : decode cX5_removeSubscriptionAt 50 = .ok (.iload_n 3, 1) := by decide +kernel
theorem dX5_removeSubscriptionAt_51 : decode cX5_removeSubscriptionAt 51 = .ok (.iconst 1, 1) := by decide +kernel
theorem dX5_removeSubscriptionAt_52 : decode cX5_removeSubscriptionAt 52 = .ok (.iadd, 1) := by decide +kernel
theorem dX5_removeSubscriptionAt_53 : decode cX5_removeSubscriptionAt 53 = .ok (.aaload, 1) := by decide +kernel
theorem dX5_removeSubscriptionAt_54 : decode cX5_removeSubscriptionAt 54 = .ok (.aastore, 1) := by decide +kernel
theorem dX5_removeSubscriptionAt_55 : decode cX5_removeSubscriptionAt 55 = .ok (.iinc 3 1, 3) := by decide +kernel
theorem dX5_removeSubscriptionAt_58 : decode cX5_removeSubscriptionAt 58 = .ok (.goto (-27), 3) := by decide +kernel
theorem dX5_removeSubscriptionAt_61 : decode cX5_removeSubscriptionAt 61 = .ok (.aload_n 0, 1) := by decide +kernel
theorem dX5_removeSubscriptionAt_62 : decode cX5_removeSubscriptionAt 62 = .ok (.getfield 17, 3) := by decide +kernel
theorem dX5_removeSubscriptionAt_65 : decode cX5_removeSubscriptionAt 65 = .ok (.aload_n 0, 1) := by decide +kernel
theorem dX5_removeSubscriptionAt_66 : decode cX5_removeSubscriptionAt 66 = .ok (.getfield 56, 3) := by decide +kernel
theorem dX5_removeSubscriptionAt_69 : decode cX5_removeSubscriptionAt 69 = .ok (.iconst 1, 1) := by decide +kernel
theorem dX5_removeSubscriptionAt_70 : decode cX5_removeSubscriptionAt 70 = .ok (.isub, 1) := by decide +kernel
theorem dX5_removeSubscriptionAt_71 : decode cX5_removeSubscriptionAt 71 = .ok (.aload_n 2, 1) := by decide +kernel
theorem dX5_removeSubscriptionAt_72 : decode cX5_removeSubscriptionAt 72 = .ok (.aastore, 1) := by decide +kernel
theorem dX5_removeSubscriptionAt_73 : decode cX5_removeSubscriptionAt 73 = .ok (.aload_n 0, 1) := by decide +kernel
theorem dX5_removeSubscriptionAt_74 : decode cX5_removeSubscriptionAt 74 = .ok (.dup, 1) := by decide +kernel
theorem dX5_removeSubscriptionAt_75 : decode cX5_removeSubscriptionAt 75 = .ok (.getfield 56, 3) := by decide +kernel
theorem dX5_removeSubscriptionAt_78 : decode cX5_removeSubscriptionAt 78 = .ok (.iconst 1, 1) := by decide +kernel
theorem dX5_removeSubscriptionAt_79 : decode cX5_removeSubscriptionAt 79 = .ok (.isub, 1) := by decide +kernel
theorem dX5_removeSubscriptionAt_80 : decode cX5_removeSubscriptionAt 80 = .ok (.putfield 56, 3) := by decide +kernel
theorem dX5_removeSubscriptionAt_83 : decode cX5_removeSubscriptionAt 83 = .ok (.return_, 1) := by decide +kernel
theorem dX5_greatestGrade_0 : decode cX5_greatestGrade 0 = .ok (.iconst (-1), 1) := by decide +kernel
theorem dX5_greatestGrade_1 : decode cX5_greatestGrade 1 = .ok (.istore_n 3, 1) := by decide +kernel
theorem dX5_greatestGrade_2 : decode cX5_greatestGrade 2 = .ok (.iconst 0, 1) := by decide +kernel
theorem dX5_greatestGrade_3 : decode cX5_greatestGrade 3 = .ok (.istore 4, 2) := by decide +kernel
theorem dX5_greatestGrade_5 : decode cX5_greatestGrade 5 = .ok (.iload 4, 2) := by decide +kernel
theorem dX5_greatestGrade_7 : decode cX5_greatestGrade 7 = .ok (.aload_n 0, 1) := by decide +kernel
theorem dX5_greatestGrade_8 : decode cX5_greatestGrade 8 = .ok (.getfield 56, 3) := by decide +kernel
theorem dX5_greatestGrade_11 : decode cX5_greatestGrade 11 = .ok (.if_icmp .ge 81, 3) := by decide +kernel
theorem dX5_greatestGrade_14 : decode cX5_greatestGrade 14 = .ok (.iload 4, 2) := by decide +kernel
theorem dX5_greatestGrade_16 : decode cX5_greatestGrade 16 = .ok (.bipush 6, 2) := by decide +kernel
theorem dX5_greatestGrade_18 : decode cX5_greatestGrade 18 = .ok (.if_icmp .ge 74, 3) := by decide +kernel
theorem dX5_greatestGrade_21 : decode cX5_greatestGrade 21 = .ok (.aload_n 0, 1) := by decide +kernel
theorem dX5_greatestGrade_22 : decode cX5_greatestGrade 22 = .ok (.getfield 17, 3) := by decide +kernel
theorem dX5_greatestGrade_25 : decode cX5_greatestGrade 25 = .ok (.iload 4, 2) := by decide +kernel
theorem dX5_greatestGrade_27 : decode cX5_greatestGrade 27 = .ok (.aaload, 1) := by decide +kernel
theorem dX5_greatestGrade_28 : decode cX5_greatestGrade 28 = .ok (.astore 5, 2) := by decide +kernel
theorem dX5_greatestGrade_30 : decode cX5_greatestGrade 30 = .ok (.iload_n 2, 1) := by decide +kernel
theorem dX5_greatestGrade_31 : decode cX5_greatestGrade 31 = .ok (.ifCond .eq 17, 3) := by decide +kernel
theorem dX5_greatestGrade_34 : decode cX5_greatestGrade 34 = .ok (.aload 5, 2) := by decide +kernel
theorem dX5_greatestGrade_36 : decode cX5_greatestGrade 36 = .ok (.getfield 86, 3) := by decide +kernel
theorem dX5_greatestGrade_39 : decode cX5_greatestGrade 39 = .ok (.iconst 1, 1) := by decide +kernel
theorem dX5_greatestGrade_40 : decode cX5_greatestGrade 40 = .ok (.iand, 1) := by decide +kernel
theorem dX5_greatestGrade_41 : decode cX5_greatestGrade 41 = .ok (.ifCond .eq 7, 3) := by decide +kernel
theorem dX5_greatestGrade_44 : decode cX5_greatestGrade 44 = .ok (.iconst 1, 1) := by decide +kernel
theorem dX5_greatestGrade_45 : decode cX5_greatestGrade 45 = .ok (.goto 4, 3) := by decide +kernel
theorem dX5_greatestGrade_48 : decode cX5_greatestGrade 48 = .ok (.iconst 0, 1) := by decide +kernel
theorem dX5_greatestGrade_49 : decode cX5_greatestGrade 49 = .ok (.istore 6, 2) := by decide +kernel
theorem dX5_greatestGrade_51 : decode cX5_greatestGrade 51 = .ok (.aload 5, 2) := by decide +kernel
theorem dX5_greatestGrade_53 : decode cX5_greatestGrade 53 = .ok (.getfield 66, 3) := by decide +kernel
theorem dX5_greatestGrade_56 : decode cX5_greatestGrade 56 = .ok (.ifCond .ne 30, 3) := by decide +kernel
theorem dX5_greatestGrade_59 : decode cX5_greatestGrade 59 = .ok (.iload 6, 2) := by decide +kernel
theorem dX5_greatestGrade_61 : decode cX5_greatestGrade 61 = .ok (.ifCond .ne 25, 3) := by decide +kernel
theorem dX5_greatestGrade_64 : decode cX5_greatestGrade 64 = .ok (.aload 5, 2) := by decide +kernel
theorem dX5_greatestGrade_66 : decode cX5_greatestGrade 66 = .ok (.getfield 69, 3) := by decide +kernel
theorem dX5_greatestGrade_69 : decode cX5_greatestGrade 69 = .ok (.aload_n 1, 1) := by decide +kernel
theorem dX5_greatestGrade_70 : decode cX5_greatestGrade 70 = .ok (.invokevirtual 89, 3) := by decide +kernel
theorem dX5_greatestGrade_73 : decode cX5_greatestGrade 73 = .ok (.ifCond .eq 13, 3) := by decide +kernel
theorem dX5_greatestGrade_76 : decode cX5_greatestGrade 76 = .ok (.iload_n 3, 1) := by decide +kernel
theorem dX5_greatestGrade_77 : decode cX5_greatestGrade 77 = .ok (.aload 5, 2) := by decide +kernel
theorem dX5_greatestGrade_79 : decode cX5_greatestGrade 79 = .ok (.getfield 83, 3) := by decide +kernel
theorem dX5_greatestGrade_82 : decode cX5_greatestGrade 82 = .ok (.invokestatic 92, 3) := by decide +kernel
theorem dX5_greatestGrade_85 : decode cX5_greatestGrade 85 = .ok (.istore_n 3, 1) := by decide +kernel
theorem dX5_greatestGrade_86 : decode cX5_greatestGrade 86 = .ok (.iinc 4 1, 3) := by decide +kernel
theorem dX5_greatestGrade_89 : decode cX5_greatestGrade 89 = .ok (.goto (-84), 3) := by decide +kernel
theorem dX5_greatestGrade_92 : decode cX5_greatestGrade 92 = .ok (.iload_n 3, 1) := by decide +kernel
theorem dX5_greatestGrade_93 : decode cX5_greatestGrade 93 = .ok (.ireturn, 1) := by decide +kernel
theorem dX5_stepIdentifier_0 : decode cX5_stepIdentifier 0 = .ok (.iconst 0, 1) := by decide +kernel
theorem dX5_stepIdentifier_1 : decode cX5_stepIdentifier 1 = .ok (.istore_n 1, 1) := by decide +kernel
theorem dX5_stepIdentifier_2 : decode cX5_stepIdentifier 2 = .ok (.iload_n 1, 1) := by decide +kernel
theorem dX5_stepIdentifier_3 : decode cX5_stepIdentifier 3 = .ok (.bipush 50, 2) := by decide +kernel
theorem dX5_stepIdentifier_5 : decode cX5_stepIdentifier 5 = .ok (.if_icmp .ge 47, 3) := by decide +kernel
theorem dX5_stepIdentifier_8 : decode cX5_stepIdentifier 8 = .ok (.aload_n 0, 1) := by decide +kernel
theorem dX5_stepIdentifier_9 : decode cX5_stepIdentifier 9 = .ok (.aload_n 0, 1) := by decide +kernel
theorem dX5_stepIdentifier_10 : decode cX5_stepIdentifier 10 = .ok (.getfield 50, 3) := by decide +kernel
theorem dX5_stepIdentifier_13 : decode cX5_stepIdentifier 13 = .ok (.bipush 50, 2) := by decide +kernel
theorem dX5_stepIdentifier_15 : decode cX5_stepIdentifier 15 = .ok (.if_icmp .lt 7, 3) := by decide +kernel
theorem dX5_stepIdentifier_18 : decode cX5_stepIdentifier 18 = .ok (.iconst 1, 1) := by decide +kernel
theorem dX5_stepIdentifier_19 : decode cX5_stepIdentifier 19 = .ok (.goto 9, 3) := by decide +kernel
theorem dX5_stepIdentifier_22 : decode cX5_stepIdentifier 22 = .ok (.aload_n 0, 1) := by decide +kernel
theorem dX5_stepIdentifier_23 : decode cX5_stepIdentifier 23 = .ok (.getfield 50, 3) := by decide +kernel
theorem dX5_stepIdentifier_26 : decode cX5_stepIdentifier 26 = .ok (.iconst 1, 1) := by decide +kernel
theorem dX5_stepIdentifier_27 : decode cX5_stepIdentifier 27 = .ok (.iadd, 1) := by decide +kernel
theorem dX5_stepIdentifier_28 : decode cX5_stepIdentifier 28 = .ok (.putfield 50, 3) := by decide +kernel
theorem dX5_stepIdentifier_31 : decode cX5_stepIdentifier 31 = .ok (.aload_n 0, 1) := by decide +kernel
theorem dX5_stepIdentifier_32 : decode cX5_stepIdentifier 32 = .ok (.getfield 29, 3) := by decide +kernel
theorem dX5_stepIdentifier_35 : decode cX5_stepIdentifier 35 = .ok (.aload_n 0, 1) := by decide +kernel
theorem dX5_stepIdentifier_36 : decode cX5_stepIdentifier 36 = .ok (.getfield 50, 3) := by decide +kernel
theorem dX5_stepIdentifier_39 : decode cX5_stepIdentifier 39 = .ok (.invokevirtual 98, 3) := by decide +kernel
theorem dX5_stepIdentifier_42 : decode cX5_stepIdentifier 42 = .ok (.ifCond .ge 4, 3) := by decide +kernel
theorem dX5_stepIdentifier_45 : decode cX5_stepIdentifier 45 = .ok (.return_, 1) := by decide +kernel
theorem dX5_stepIdentifier_46 : decode cX5_stepIdentifier 46 = .ok (.iinc 1 1, 3) := by decide +kernel
theorem dX5_stepIdentifier_49 : decode cX5_stepIdentifier 49 = .ok (.goto (-47), 3) := by decide +kernel
theorem dX5_stepIdentifier_52 : decode cX5_stepIdentifier 52 = .ok (.return_, 1) := by decide +kernel
theorem dX5_copyFrom_0 : decode cX5_copyFrom 0 = .ok (.aload_n 0, 1) := by decide +kernel
theorem dX5_copyFrom_1 : decode cX5_copyFrom 1 = .ok (.aload_n 1, 1) := by decide +kernel
theorem dX5_copyFrom_2 : decode cX5_copyFrom 2 = .ok (.getfield 39, 3) := by decide +kernel
theorem dX5_copyFrom_5 : decode cX5_copyFrom 5 = .ok (.putfield 39, 3) := by decide +kernel
theorem dX5_copyFrom_8 : decode cX5_copyFrom 8 = .ok (.aload_n 0, 1) := by decide +kernel
theorem dX5_copyFrom_9 : decode cX5_copyFrom 9 = .ok (.aload_n 1, 1) := by decide +kernel
theorem dX5_copyFrom_10 : decode cX5_copyFrom 10 = .ok (.getfield 43, 3) := by decide +kernel
theorem dX5_copyFrom_13 : decode cX5_copyFrom 13 = .ok (.putfield 43, 3) := by decide +kernel
theorem dX5_copyFrom_16 : decode cX5_copyFrom 16 = .ok (.aload_n 0, 1) := by decide +kernel
theorem dX5_copyFrom_17 : decode cX5_copyFrom 17 = .ok (.aload_n 1, 1) := by decide +kernel
theorem dX5_copyFrom_18 : decode cX5_copyFrom 18 = .ok (.getfield 46, 3) := by decide +kernel
theorem dX5_copyFrom_21 : decode cX5_copyFrom 21 = .ok (.putfield 46, 3) := by decide +kernel
theorem dX5_copyFrom_24 : decode cX5_copyFrom 24 = .ok (.aload_n 0, 1) := by decide +kernel
theorem dX5_copyFrom_25 : decode cX5_copyFrom 25 = .ok (.aload_n 1, 1) := by decide +kernel
theorem dX5_copyFrom_26 : decode cX5_copyFrom 26 = .ok (.getfield 50, 3) := by decide +kernel
theorem dX5_copyFrom_29 : decode cX5_copyFrom 29 = .ok (.putfield 50, 3) := by decide +kernel
theorem dX5_copyFrom_32 : decode cX5_copyFrom 32 = .ok (.iconst 0, 1) := by decide +kernel
theorem dX5_copyFrom_33 : decode cX5_copyFrom 33 = .ok (.istore_n 2, 1) := by decide +kernel
theorem dX5_copyFrom_34 : decode cX5_copyFrom 34 = .ok (.iload_n 2, 1) := by decide +kernel
theorem dX5_copyFrom_35 : decode cX5_copyFrom 35 = .ok (.aload_n 0, 1) := by decide +kernel
theorem dX5_copyFrom_36 : decode cX5_copyFrom 36 = .ok (.getfield 9, 3) := by decide +kernel
theorem dX5_copyFrom_39 : decode cX5_copyFrom 39 = .ok (.arraylength, 1) := by decide +kernel
theorem dX5_copyFrom_40 : decode cX5_copyFrom 40 = .ok (.if_icmp .ge 21, 3) := by decide +kernel
theorem dX5_copyFrom_43 : decode cX5_copyFrom 43 = .ok (.aload_n 0, 1) := by decide +kernel
theorem dX5_copyFrom_44 : decode cX5_copyFrom 44 = .ok (.getfield 9, 3) := by decide +kernel
theorem dX5_copyFrom_47 : decode cX5_copyFrom 47 = .ok (.iload_n 2, 1) := by decide +kernel
theorem dX5_copyFrom_48 : decode cX5_copyFrom 48 = .ok (.aload_n 1, 1) := by decide +kernel
theorem dX5_copyFrom_49 : decode cX5_copyFrom 49 = .ok (.getfield 9, 3) := by decide +kernel
theorem dX5_copyFrom_52 : decode cX5_copyFrom 52 = .ok (.iload_n 2, 1) := by decide +kernel
theorem dX5_copyFrom_53 : decode cX5_copyFrom 53 = .ok (.baload, 1) := by decide +kernel
theorem dX5_copyFrom_54 : decode cX5_copyFrom 54 = .ok (.bastore, 1) := by decide +kernel
theorem dX5_copyFrom_55 : decode cX5_copyFrom 55 = .ok (.iinc 2 1, 3) := by decide +kernel
theorem dX5_copyFrom_58 : decode cX5_copyFrom 58 = .ok (.goto (-24), 3) := by decide +kernel
theorem dX5_copyFrom_61 : decode cX5_copyFrom 61 = .ok (.aload_n 0, 1) := by decide +kernel
theorem dX5_copyFrom_62 : decode cX5_copyFrom 62 = .ok (.aload_n 1, 1) := by decide +kernel
theorem dX5_copyFrom_63 : decode cX5_copyFrom 63 = .ok (.getfield 53, 3) := by decide +kernel
theorem dX5_copyFrom_66 : decode cX5_copyFrom 66 = .ok (.putfield 53, 3) := by decide +kernel
theorem dX5_copyFrom_69 : decode cX5_copyFrom 69 = .ok (.aload_n 0, 1) := by decide +kernel
theorem dX5_copyFrom_70 : decode cX5_copyFrom 70 = .ok (.aload_n 1, 1) := by decide +kernel
theorem dX5_copyFrom_71 : decode cX5_copyFrom 71 = .ok (.getfield 56, 3) := by decide +kernel
theorem dX5_copyFrom_74 : decode cX5_copyFrom 74 = .ok (.putfield 56, 3) := by decide +kernel
theorem dX5_copyFrom_77 : decode cX5_copyFrom 77 = .ok (.iconst 0, 1) := by decide +kernel
theorem dX5_copyFrom_78 : decode cX5_copyFrom 78 = .ok (.istore_n 2, 1) := by decide +kernel
theorem dX5_copyFrom_79 : decode cX5_copyFrom 79 = .ok (.iload_n 2, 1) := by decide +kernel
theorem dX5_copyFrom_80 : decode cX5_copyFrom 80 = .ok (.aload_n 0, 1) := by decide +kernel
theorem dX5_copyFrom_81 : decode cX5_copyFrom 81 = .ok (.getfield 56, 3) := by decide +kernel
theorem dX5_copyFrom_84 : decode cX5_copyFrom 84 = .ok (.if_icmp .ge 30, 3) := by decide +kernel
theorem dX5_copyFrom_87 : decode cX5_copyFrom 87 = .ok (.iload_n 2, 1) := by decide +kernel
theorem dX5_copyFrom_88 : decode cX5_copyFrom 88 = .ok (.bipush 6, 2) := by decide +kernel
theorem dX5_copyFrom_90 : decode cX5_copyFrom 90 = .ok (.if_icmp .ge 24, 3) := by decide +kernel
theorem dX5_copyFrom_93 : decode cX5_copyFrom 93 = .ok (.aload_n 0, 1) := by decide +kernel
theorem dX5_copyFrom_94 : decode cX5_copyFrom 94 = .ok (.getfield 17, 3) := by decide +kernel
theorem dX5_copyFrom_97 : decode cX5_copyFrom 97 = .ok (.iload_n 2, 1) := by decide +kernel
theorem dX5_copyFrom_98 : decode cX5_copyFrom 98 = .ok (.aaload, 1) := by decide +kernel
theorem dX5_copyFrom_99 : decode cX5_copyFrom 99 = .ok (.aload_n 1, 1) := by decide +kernel
theorem dX5_copyFrom_100 : decode cX5_copyFrom 100 = .ok (.getfield 17, 3) := by decide +kernel
theorem dX5_copyFrom_103 : decode cX5_copyFrom 103 = .ok (.iload_n 2, 1) := by decide +kernel
theorem dX5_copyFrom_104 : decode cX5_copyFrom 104 = .ok (.aaload, 1) := by decide +kernel
theorem dX5_copyFrom_105 : decode cX5_copyFrom 105 = .ok (.invokevirtual 101, 3) := by decide +kernel
theorem dX5_copyFrom_108 : decode cX5_copyFrom 108 = .ok (.iinc 2 1, 3) := by decide +kernel
theorem dX5_copyFrom_111 : decode cX5_copyFrom 111 = .ok (.goto (-32), 3) := by decide +kernel
theorem dX5_copyFrom_114 : decode cX5_copyFrom 114 = .ok (.aload_n 0, 1) := by decide +kernel
theorem dX5_copyFrom_115 : decode cX5_copyFrom 115 = .ok (.getfield 29, 3) := by decide +kernel
theorem dX5_copyFrom_118 : decode cX5_copyFrom 118 = .ok (.aload_n 1, 1) := by decide +kernel
theorem dX5_copyFrom_119 : decode cX5_copyFrom 119 = .ok (.getfield 29, 3) := by decide +kernel
theorem dX5_copyFrom_122 : decode cX5_copyFrom 122 = .ok (.invokevirtual 105, 3) := by decide +kernel
theorem dX5_copyFrom_125 : decode cX5_copyFrom 125 = .ok (.aload_n 0, 1) := by decide +kernel
theorem dX5_copyFrom_126 : decode cX5_copyFrom 126 = .ok (.getfield 33, 3) := by decide +kernel
theorem dX5_copyFrom_129 : decode cX5_copyFrom 129 = .ok (.aload_n 1, 1) := by decide +kernel
theorem dX5_copyFrom_130 : decode cX5_copyFrom 130 = .ok (.getfield 33, 3) := by decide +kernel
theorem dX5_copyFrom_133 : decode cX5_copyFrom 133 = .ok (.invokevirtual 105, 3) := by decide +kernel
theorem dX5_copyFrom_136 : decode cX5_copyFrom 136 = .ok (.return_, 1) := by decide +kernel
theorem dX6_init_0 : decode cX6_init 0 = .ok (.aload_n 0, 1) := by decide +kernel
theorem dX6_init_1 : decode cX6_init 1 = .ok (.invokespecial 3, 3) := by decide +kernel
theorem dX6_init_4 : decode cX6_init 4 = .ok (.aload_n 0, 1) := by decide +kernel
theorem dX6_init_5 : decode cX6_init 5 = .ok (.aload_n 1, 1) := by decide +kernel
theorem dX6_init_6 : decode cX6_init 6 = .ok (.putfield 9, 3) := by decide +kernel
theorem dX6_init_9 : decode cX6_init 9 = .ok (.aload_n 0, 1) := by decide +kernel
theorem dX6_init_10 : decode cX6_init 10 = .ok (.bipush 6, 2) := by decide +kernel
theorem dX6_init_12 : decode cX6_init 12 = .ok (.newarray .int, 2) := by decide +kernel
theorem dX6_init_14 : decode cX6_init 14 = .ok (.putfield 15, 3) := by decide +kernel
theorem dX6_init_17 : decode cX6_init 17 = .ok (.return_, 1) := by decide +kernel
theorem dX6_addMember_0 : decode cX6_addMember 0 = .ok (.aload_n 0, 1) := by decide +kernel
theorem dX6_addMember_1 : decode cX6_addMember 1 = .ok (.getfield 19, 3) := by decide +kernel
theorem dX6_addMember_4 : decode cX6_addMember 4 = .ok (.ifCond .lt 32, 3) := by decide +kernel
theorem dX6_addMember_7 : decode cX6_addMember 7 = .ok (.aload_n 0, 1) := by decide +kernel
theorem dX6_addMember_8 : decode cX6_addMember 8 = .ok (.getfield 19, 3) := by decide +kernel
theorem dX6_addMember_11 : decode cX6_addMember 11 = .ok (.bipush 6, 2) := by decide +kernel
theorem dX6_addMember_13 : decode cX6_addMember 13 = .ok (.if_icmp .ge 23, 3) := by decide +kernel
theorem dX6_addMember_16 : decode cX6_addMember 16 = .ok (.aload_n 0, 1) := by decide +kernel
theorem dX6_addMember_17 : decode cX6_addMember 17 = .ok (.getfield 15, 3) := by decide +kernel
theorem dX6_addMember_20 : decode cX6_addMember 20 = .ok (.aload_n 0, 1) := by decide +kernel
theorem dX6_addMember_21 : decode cX6_addMember 21 = .ok (.getfield 19, 3) := by decide +kernel
theorem dX6_addMember_24 : decode cX6_addMember 24 = .ok (.iload_n 1, 1) := by decide +kernel
theorem dX6_addMember_25 : decode cX6_addMember 25 = .ok (.iastore, 1) := by decide +kernel
theorem dX6_addMember_26 : decode cX6_addMember 26 = .ok (.aload_n 0, 1) := by decide +kernel
theorem dX6_addMember_27 : decode cX6_addMember 27 = .ok (.dup, 1) := by decide +kernel
theorem dX6_addMember_28 : decode cX6_addMember 28 = .ok (.getfield 19, 3) := by decide +kernel
theorem dX6_addMember_31 : decode cX6_addMember 31 = .ok (.iconst 1, 1) := by decide +kernel
theorem dX6_addMember_32 : decode cX6_addMember 32 = .ok (.iadd, 1) := by decide +kernel
theorem dX6_addMember_33 : decode cX6_addMember 33 = .ok (.putfield 19, 3) := by decide +kernel
theorem dX6_addMember_36 : decode cX6_addMember 36 = .ok (.return_, 1) := by decide +kernel
theorem dX6_removeMember_0 : decode cX6_removeMember 0 = .ok (.iconst 0, 1) := by decide +kernel
theorem dX6_removeMember_1 : decode cX6_removeMember 1 = .ok (.istore_n 2, 1) := by decide +kernel
theorem dX6_removeMember_2 : decode cX6_removeMember 2 = .ok (.iconst 0, 1) := by decide +kernel
theorem dX6_removeMember_3 : decode cX6_removeMember 3 = .ok (.istore_n 3, 1) := by decide +kernel
theorem dX6_removeMember_4 : decode cX6_removeMember 4 = .ok (.iload_n 3, 1) := by decide +kernel
theorem dX6_removeMember_5 : decode cX6_removeMember 5 = .ok (.aload_n 0, 1) := by decide +kernel
theorem dX6_removeMember_6 : decode cX6_removeMember 6 = .ok (.getfield 19, 3) := by decide +kernel
theorem dX6_removeMember_9 : decode cX6_removeMember 9 = .ok (.if_icmp .ge 40, 3) := by decide +kernel
theorem dX6_removeMember_12 : decode cX6_removeMember 12 = .ok (.iload_n 3, 1) := by decide +kernel
theorem dX6_removeMember_13 : decode cX6_removeMember 13 = .ok (.bipush 6, 2) := by decide +kernel
theorem dX6_removeMember_15 : decode cX6_removeMember 15 = .ok (.if_icmp .ge 34, 3) := by decide +kernel
theorem dX6_removeMember_18 : decode cX6_removeMember 18 = .ok (.aload_n 0, 1) := by decide +kernel
theorem dX6_removeMember_19 : decode cX6_removeMember 19 = .ok (.getfield 15, 3) := by decide +kernel
theorem dX6_removeMember_22 : decode cX6_removeMember 22 = .ok (.iload_n 3, 1) := by decide +kernel
theorem dX6_removeMember_23 : decode cX6_removeMember 23 = .ok (.iaload, 1) := by decide +kernel
theorem dX6_removeMember_24 : decode cX6_removeMember 24 = .ok (.iload_n 1, 1) := by decide +kernel
theorem dX6_removeMember_25 : decode cX6_removeMember 25 = .ok (.if_icmp .eq 18, 3) := by decide +kernel
theorem dX6_removeMember_28 : decode cX6_removeMember 28 = .ok (.aload_n 0, 1) := by decide +kernel
theorem dX6_removeMember_29 : decode cX6_removeMember 29 = .ok (.getfield 15, 3) := by decide +kernel
theorem dX6_removeMember_32 : decode cX6_removeMember 32 = .ok (.iload_n 2, 1) := by decide +kernel
theorem dX6_removeMember_33 : decode cX6_removeMember 33 = .ok (.aload_n 0, 1) := by decide +kernel
theorem dX6_removeMember_34 : decode cX6_removeMember 34 = .ok (.getfield 15, 3) := by decide +kernel
theorem dX6_removeMember_37 : decode cX6_removeMember 37 = .ok (.iload_n 3, 1) := by decide +kernel
theorem dX6_removeMember_38 : decode cX6_removeMember 38 = .ok (.iaload, 1) := by decide +kernel
theorem dX6_removeMember_39 : decode cX6_removeMember 39 = .ok (.iastore, 1) := by decide +kernel
theorem dX6_removeMember_40 : decode cX6_removeMember 40 = .ok (.iinc 2 1, 3) := by decide +kernel
theorem dX6_removeMember_43 : decode cX6_removeMember 43 = .ok (.iinc 3 1, 3) := by decide +kernel
theorem dX6_removeMember_46 : decode cX6_removeMember 46 = .ok (.goto (-42), 3) := by decide +kernel
theorem dX6_removeMember_49 : decode cX6_removeMember 49 = .ok (.aload_n 0, 1) := by decide +kernel
theorem dX6_removeMember_50 : decode cX6_removeMember 50 = .ok (.iload_n 2, 1) := by decide +kernel
theorem dX6_removeMember_51 : decode cX6_removeMember 51 = .ok (.putfield 19, 3) := by decide +kernel
theorem dX6_removeMember_54 : decode cX6_removeMember 54 = .ok (.return_, 1) := by decide +kernel
theorem dX6_copyFrom_0 : decode cX6_copyFrom 0 = .ok (.aload_n 0, 1) := by decide +kernel
theorem dX6_copyFrom_1 : decode cX6_copyFrom 1 = .ok (.aload_n 1, 1) := by decide +kernel
theorem dX6_copyFrom_2 : decode cX6_copyFrom 2 = .ok (.getfield 9, 3) := by decide +kernel
theorem dX6_copyFrom_5 : decode cX6_copyFrom 5 = .ok (.putfield 9, 3) := by decide +kernel
theorem dX6_copyFrom_8 : decode cX6_copyFrom 8 = .ok (.aload_n 0, 1) := by decide +kernel
theorem dX6_copyFrom_9 : decode cX6_copyFrom 9 = .ok (.aload_n 1, 1) := by decide +kernel
theorem dX6_copyFrom_10 : decode cX6_copyFrom 10 = .ok (.getfield 23, 3) := by decide +kernel
theorem dX6_copyFrom_13 : decode cX6_copyFrom 13 = .ok (.putfield 23, 3) := by decide +kernel
theorem dX6_copyFrom_16 : decode cX6_copyFrom 16 = .ok (.iconst 0, 1) := by decide +kernel
theorem dX6_copyFrom_17 : decode cX6_copyFrom 17 = .ok (.istore_n 2, 1) := by decide +kernel
theorem dX6_copyFrom_18 : decode cX6_copyFrom 18 = .ok (.iload_n 2, 1) := by decide +kernel
theorem dX6_copyFrom_19 : decode cX6_copyFrom 19 = .ok (.bipush 6, 2) := by decide +kernel
theorem dX6_copyFrom_21 : decode cX6_copyFrom 21 = .ok (.if_icmp .ge 21, 3) := by decide +kernel
theorem dX6_copyFrom_24 : decode cX6_copyFrom 24 = .ok (.aload_n 0, 1) := by decide +kernel
theorem dX6_copyFrom_25 : decode cX6_copyFrom 25 = .ok (.getfield 15, 3) := by decide +kernel
theorem dX6_copyFrom_28 : decode cX6_copyFrom 28 = .ok (.iload_n 2, 1) := by decide +kernel
theorem dX6_copyFrom_29 : decode cX6_copyFrom 29 = .ok (.aload_n 1, 1) := by decide +kernel
theorem dX6_copyFrom_30 : decode cX6_copyFrom 30 = .ok (.getfield 15, 3) := by decide +kernel
theorem dX6_copyFrom_33 : decode cX6_copyFrom 33 = .ok (.iload_n 2, 1) := by decide +kernel
theorem dX6_copyFrom_34 : decode cX6_copyFrom 34 = .ok (.iaload, 1) := by decide +kernel
theorem dX6_copyFrom_35 : decode cX6_copyFrom 35 = .ok (.iastore, 1) := by decide +kernel
theorem dX6_copyFrom_36 : decode cX6_copyFrom 36 = .ok (.iinc 2 1, 3) := by decide +kernel
theorem dX6_copyFrom_39 : decode cX6_copyFrom 39 = .ok (.goto (-21), 3) := by decide +kernel
theorem dX6_copyFrom_42 : decode cX6_copyFrom 42 = .ok (.aload_n 0, 1) := by decide +kernel
theorem dX6_copyFrom_43 : decode cX6_copyFrom 43 = .ok (.aload_n 1, 1) := by decide +kernel
theorem dX6_copyFrom_44 : decode cX6_copyFrom 44 = .ok (.getfield 19, 3) := by decide +kernel
theorem dX6_copyFrom_47 : decode cX6_copyFrom 47 = .ok (.putfield 19, 3) := by decide +kernel
theorem dX6_copyFrom_50 : decode cX6_copyFrom 50 = .ok (.return_, 1) := by decide +kernel
theorem dX7_init_0 : decode cX7_init 0 = .ok (.aload_n 0, 1) := by decide +kernel
theorem dX7_init_1 : decode cX7_init 1 = .ok (.invokespecial 3, 3) := by decide +kernel
theorem dX7_init_4 : decode cX7_init 4 = .ok (.aload_n 0, 1) := by decide +kernel
theorem dX7_init_5 : decode cX7_init 5 = .ok (.aload_n 1, 1) := by decide +kernel
theorem dX7_init_6 : decode cX7_init 6 = .ok (.putfield 9, 3) := by decide +kernel
theorem dX7_init_9 : decode cX7_init 9 = .ok (.aload_n 0, 1) := by decide +kernel
theorem dX7_init_10 : decode cX7_init 10 = .ok (.bipush 6, 2) := by decide +kernel
theorem dX7_init_12 : decode cX7_init 12 = .ok (.anewarray 15, 3) := by decide +kernel
theorem dX7_init_15 : decode cX7_init 15 = .ok (.putfield 17, 3) := by decide +kernel
theorem dX7_init_18 : decode cX7_init 18 = .ok (.iconst 0, 1) := by decide +kernel
theorem dX7_init_19 : decode cX7_init 19 = .ok (.istore_n 2, 1) := by decide +kernel
theorem dX7_init_20 : decode cX7_init 20 = .ok (.iload_n 2, 1) := by decide +kernel
theorem dX7_init_21 : decode cX7_init 21 = .ok (.bipush 6, 2) := by decide +kernel
theorem dX7_init_23 : decode cX7_init 23 = .ok (.if_icmp .ge 23, 3) := by decide +kernel
theorem dX7_init_26 : decode cX7_init 26 = .ok (.aload_n 0, 1) := by decide +kernel
theorem dX7_init_27 : decode cX7_init 27 = .ok (.getfield 17, 3) := by decide +kernel
theorem dX7_init_30 : decode cX7_init 30 = .ok (.iload_n 2, 1) := by decide +kernel
theorem dX7_init_31 : decode cX7_init 31 = .ok (.new 15, 3) := by decide +kernel
theorem dX7_init_34 : decode cX7_init 34 = .ok (.dup, 1) := by decide +kernel
theorem dX7_init_35 : decode cX7_init 35 = .ok (.aload_n 1, 1) := by decide +kernel
theorem dX7_init_36 : decode cX7_init 36 = .ok (.invokespecial 21, 3) := by decide +kernel
theorem dX7_init_39 : decode cX7_init 39 = .ok (.aastore, 1) := by decide +kernel
theorem dX7_init_40 : decode cX7_init 40 = .ok (.iinc 2 1, 3) := by decide +kernel
theorem dX7_init_43 : decode cX7_init 43 = .ok (.goto (-23), 3) := by decide +kernel
theorem dX7_init_46 : decode cX7_init 46 = .ok (.aload_n 0, 1) := by decide +kernel
theorem dX7_init_47 : decode cX7_init 47 = .ok (.bipush 36, 2) := by decide +kernel
theorem dX7_init_49 : decode cX7_init 49 = .ok (.anewarray 24, 3) := by decide +kernel
theorem dX7_init_52 : decode cX7_init 52 = .ok (.putfield 26, 3) := by decide +kernel
theorem dX7_init_55 : decode cX7_init 55 = .ok (.iconst 0, 1) := by decide +kernel
theorem dX7_init_56 : decode cX7_init 56 = .ok (.istore_n 2, 1) := by decide +kernel
theorem dX7_init_57 : decode cX7_init 57 = .ok (.iload_n 2, 1) := by decide +kernel
theorem dX7_init_58 : decode cX7_init 58 = .ok (.bipush 36, 2) := by decide +kernel
theorem dX7_init_60 : decode cX7_init 60 = .ok (.if_icmp .ge 23, 3) := by decide +kernel
theorem dX7_init_63 : decode cX7_init 63 = .ok (.aload_n 0, 1) := by decide +kernel
theorem dX7_init_64 : decode cX7_init 64 = .ok (.getfield 26, 3) := by decide +kernel
theorem dX7_init_67 : decode cX7_init 67 = .ok (.iload_n 2, 1) := by decide +kernel
theorem dX7_init_68 : decode cX7_init 68 = .ok (.new 24, 3) := by decide +kernel
theorem dX7_init_71 : decode cX7_init 71 = .ok (.dup, 1) := by decide +kernel
theorem dX7_init_72 : decode cX7_init 72 = .ok (.aload_n 1, 1) := by decide +kernel
theorem dX7_init_73 : decode cX7_init 73 = .ok (.invokespecial 30, 3) := by decide +kernel
theorem dX7_init_76 : decode cX7_init 76 = .ok (.aastore, 1) := by decide +kernel
theorem dX7_init_77 : decode cX7_init 77 = .ok (.iinc 2 1, 3) := by decide +kernel
theorem dX7_init_80 : decode cX7_init 80 = .ok (.goto (-23), 3) := by decide +kernel
theorem dX7_init_83 : decode cX7_init 83 = .ok (.aload_n 0, 1) := by decide +kernel
theorem dX7_init_84 : decode cX7_init 84 = .ok (.bipush 8, 2) := by decide +kernel
theorem dX7_init_86 : decode cX7_init 86 = .ok (.anewarray 31, 3) := by decide +kernel
theorem dX7_init_89 : decode cX7_init 89 = .ok (.putfield 33, 3) := by decide +kernel
theorem dX7_init_92 : decode cX7_init 92 = .ok (.iconst 0, 1) := by decide +kernel
theorem dX7_init_93 : decode cX7_init 93 = .ok (.istore_n 2, 1) := by decide +kernel
theorem dX7_init_94 : decode cX7_init 94 = .ok (.iload_n 2, 1) := by decide +kernel
theorem dX7_init_95 : decode cX7_init 95 = .ok (.bipush 8, 2) := by decide +kernel
theorem dX7_init_97 : decode cX7_init 97 = .ok (.if_icmp .ge 23, 3) := by decide +kernel
theorem dX7_init_100 : decode cX7_init 100 = .ok (.aload_n 0, 1) := by decide +kernel
theorem dX7_init_101 : decode cX7_init 101 = .ok (.getfield 33, 3) := by decide +kernel
theorem dX7_init_104 : decode cX7_init 104 = .ok (.iload_n 2, 1) := by decide +kernel
theorem dX7_init_105 : decode cX7_init 105 = .ok (.new 31, 3) := by decide +kernel
theorem dX7_init_108 : decode cX7_init 108 = .ok (.dup, 1) := by decide +kernel
theorem dX7_init_109 : decode cX7_init 109 = .ok (.aload_n 1, 1) := by decide +kernel
theorem dX7_init_110 : decode cX7_init 110 = .ok (.invokespecial 37, 3) := by decide +kernel
theorem dX7_init_113 : decode cX7_init 113 = .ok (.aastore, 1) := by decide +kernel
theorem dX7_init_114 : decode cX7_init 114 = .ok (.iinc 2 1, 3) := by decide +kernel
theorem dX7_init_117 : decode cX7_init 117 = .ok (.goto (-23), 3) := by decide +kernel
theorem dX7_init_120 : decode cX7_init 120 = .ok (.aload_n 0, 1) := by decide +kernel
theorem dX7_init_121 : decode cX7_init 121 = .ok (.getstatic 38, 3) := by decide +kernel
theorem dX7_init_124 : decode cX7_init 124 = .ok (.arraylength, 1) := by decide +kernel
theorem dX7_init_125 : decode cX7_init 125 = .ok (.newarray .int, 2) := by decide +kernel
theorem dX7_init_127 : decode cX7_init 127 = .ok (.putfield 42, 3) := by decide +kernel
theorem dX7_init_130 : decode cX7_init 130 = .ok (.iconst 0, 1) := by decide +kernel
theorem dX7_init_131 : decode cX7_init 131 = .ok (.istore_n 2, 1) := by decide +kernel
theorem dX7_init_132 : decode cX7_init 132 = .ok (.iload_n 2, 1) := by decide +kernel
theorem dX7_init_133 : decode cX7_init 133 = .ok (.getstatic 38, 3) := by decide +kernel
theorem dX7_init_136 : decode cX7_init 136 = .ok (.arraylength, 1) := by decide +kernel
theorem dX7_init_137 : decode cX7_init 137 = .ok (.if_icmp .ge 20, 3) := by decide +kernel
theorem dX7_init_140 : decode cX7_init 140 = .ok (.aload_n 0, 1) := by decide +kernel
theorem dX7_init_141 : decode cX7_init 141 = .ok (.getfield 42, 3) := by decide +kernel
theorem dX7_init_144 : decode cX7_init 144 = .ok (.iload_n 2, 1) := by decide +kernel
theorem dX7_init_145 : decode cX7_init 145 = .ok (.getstatic 38, 3) := by decide +kernel
theorem dX7_init_148 : decode cX7_init 148 = .ok (.iload_n 2, 1) := by decide +kernel
theorem dX7_init_149 : decode cX7_init 149 = .ok (.iaload, 1) := by decide +kernel
theorem dX7_init_150 : decode cX7_init 150 = .ok (.iastore, 1) := by decide +kernel
theorem dX7_init_151 : decode cX7_init 151 = .ok (.iinc 2 1, 3) := by decide +kernel
theorem dX7_init_154 : decode cX7_init 154 = .ok (.goto (-22), 3) := by decide +kernel
theorem dX7_init_157 : decode cX7_init 157 = .ok (.aload_n 0, 1) := by decide +kernel
theorem dX7_init_158 : decode cX7_init 158 = .ok (.bipush 10, 2) := by decide +kernel
theorem dX7_init_160 : decode cX7_init 160 = .ok (.newarray .int, 2) := by decide +kernel
theorem dX7_init_162 : decode cX7_init 162 = .ok (.putfield 45, 3) := by decide +kernel
theorem dX7_init_165 : decode cX7_init 165 = .ok (.aload_n 0, 1) := by decide +kernel
theorem dX7_init_166 : decode cX7_init 166 = .ok (.new 48, 3) := by decide +kernel
theorem dX7_init_169 : decode cX7_init 169 = .ok (.dup, 1) := by decide +kernel
theorem dX7_init_170 : decode cX7_init 170 = .ok (.aload_n 1, 1) := by decide +kernel
theorem dX7_init_171 : decode cX7_init 171 = .ok (.invokespecial 50, 3) := by decide +kernel
theorem dX7_init_174 : decode cX7_init 174 = .ok (.putfield 51, 3) := by decide +kernel
theorem dX7_init_177 : decode cX7_init 177 = .ok (.aload_n 0, 1) := by decide +kernel
theorem dX7_init_178 : decode cX7_init 178 = .ok (.new 31, 3) := by decide +kernel
theorem dX7_init_181 : decode cX7_init 181 = .ok (.dup, 1) := by decide +kernel
theorem dX7_init_182 : decode cX7_init 182 = .ok (.aload_n 1, 1) := by decide +kernel
theorem dX7_init_183 : decode cX7_init 183 = .ok (.invokespecial 37, 3) := by decide +kernel
theorem dX7_init_186 : decode cX7_init 186 = .ok (.putfield 55, 3) := by decide +kernel
theorem dX7_init_189 : decode cX7_init 189 = .ok (.return_, 1) := by decide +kernel
theorem dX7_copyFrom_0 : decode cX7_copyFrom 0 = .ok (.iconst 0, 1) := by decide +kernel
theorem dX7_copyFrom_1 : decode cX7_copyFrom 1 = .ok (.istore_n 2, 1) := by decide +kernel
theorem dX7_copyFrom_2 : decode cX7_copyFrom 2 = .ok (.iload_n 2, 1) := by decide +kernel
theorem dX7_copyFrom_3 : decode cX7_copyFrom 3 = .ok (.bipush 6, 2) := by decide +kernel
theorem dX7_copyFrom_5 : decode cX7_copyFrom 5 = .ok (.if_icmp .ge 24, 3) := by decide +kernel
theorem dX7_copyFrom_8 : decode cX7_copyFrom 8 = .ok (.aload_n 0, 1) := by decide +kernel
theorem dX7_copyFrom_9 : decode cX7_copyFrom 9 = .ok (.getfield 17, 3) := by decide +kernel
theorem dX7_copyFrom_12 : decode cX7_copyFrom 12 = .ok (.iload_n 2, 1) := by decide +kernel
theorem dX7_copyFrom_13 : decode cX7_copyFrom 13 = .ok (.aaload, 1) := by decide +kernel
theorem dX7_copyFrom_14 : decode cX7_copyFrom 14 = .ok (.aload_n 1, 1) := by decide +kernel
theorem dX7_copyFrom_15 : decode cX7_copyFrom 15 = .ok (.getfield 17, 3) := by decide +kernel
theorem dX7_copyFrom_18 : decode cX7_copyFrom 18 = .ok (.iload_n 2, 1) := by decide +kernel
theorem dX7_copyFrom_19 : decode cX7_copyFrom 19 = .ok (.aaload, 1) := by decide +kernel
theorem dX7_copyFrom_20 : decode cX7_copyFrom 20 = .ok (.invokevirtual 59, 3) := by decide +kernel
theorem dX7_copyFrom_23 : decode cX7_copyFrom 23 = .ok (.iinc 2 1, 3) := by decide +kernel
theorem dX7_copyFrom_26 : decode cX7_copyFrom 26 = .ok (.goto (-24), 3) := by decide +kernel
theorem dX7_copyFrom_29 : decode cX7_copyFrom 29 = .ok (.aload_n 0, 1) := by decide +kernel
theorem dX7_copyFrom_30 : decode cX7_copyFrom 30 = .ok (.aload_n 1, 1) := by decide +kernel
theorem dX7_copyFrom_31 : decode cX7_copyFrom 31 = .ok (.getfield 63, 3) := by decide +kernel
theorem dX7_copyFrom_34 : decode cX7_copyFrom 34 = .ok (.putfield 63, 3) := by decide +kernel
theorem dX7_copyFrom_37 : decode cX7_copyFrom 37 = .ok (.iconst 0, 1) := by decide +kernel
theorem dX7_copyFrom_38 : decode cX7_copyFrom 38 = .ok (.istore_n 2, 1) := by decide +kernel
theorem dX7_copyFrom_39 : decode cX7_copyFrom 39 = .ok (.iload_n 2, 1) := by decide +kernel
theorem dX7_copyFrom_40 : decode cX7_copyFrom 40 = .ok (.aload_n 0, 1) := by decide +kernel
theorem dX7_copyFrom_41 : decode cX7_copyFrom 41 = .ok (.getfield 63, 3) := by decide +kernel
theorem dX7_copyFrom_44 : decode cX7_copyFrom 44 = .ok (.if_icmp .ge 30, 3) := by decide +kernel
theorem dX7_copyFrom_47 : decode cX7_copyFrom 47 = .ok (.iload_n 2, 1) := by decide +kernel
theorem dX7_copyFrom_48 : decode cX7_copyFrom 48 = .ok (.bipush 36, 2) := by decide +kernel
theorem dX7_copyFrom_50 : decode cX7_copyFrom 50 = .ok (.if_icmp .ge 24, 3) := by decide +kernel
theorem dX7_copyFrom_53 : decode cX7_copyFrom 53 = .ok (.aload_n 0, 1) := by decide +kernel
theorem dX7_copyFrom_54 : decode cX7_copyFrom 54 = .ok (.getfield 26, 3) := by decide +kernel
theorem dX7_copyFrom_57 : decode cX7_copyFrom 57 = .ok (.iload_n 2, 1) := by decide +kernel
theorem dX7_copyFrom_58 : decode cX7_copyFrom 58 = .ok (.aaload, 1) := by decide +kernel
theorem dX7_copyFrom_59 : decode cX7_copyFrom 59 = .ok (.aload_n 1, 1) := by decide +kernel
theorem dX7_copyFrom_60 : decode cX7_copyFrom 60 = .ok (.getfield 26, 3) := by decide +kernel
theorem dX7_copyFrom_63 : decode cX7_copyFrom 63 = .ok (.iload_n 2, 1) := by decide +kernel
theorem dX7_copyFrom_64 : decode cX7_copyFrom 64 = .ok (.aaload, 1) := by decide +kernel
theorem dX7_copyFrom_65 : decode cX7_copyFrom 65 = .ok (.invokevirtual 67, 3) := by decide +kernel
theorem dX7_copyFrom_68 : decode cX7_copyFrom 68 = .ok (.iinc 2 1, 3) := by decide +kernel
theorem dX7_copyFrom_71 : decode cX7_copyFrom 71 = .ok (.goto (-32), 3) := by decide +kernel
theorem dX7_copyFrom_74 : decode cX7_copyFrom 74 = .ok (.aload_n 0, 1) := by decide +kernel
theorem dX7_copyFrom_75 : decode cX7_copyFrom 75 = .ok (.aload_n 1, 1) := by decide +kernel
theorem dX7_copyFrom_76 : decode cX7_copyFrom 76 = .ok (.getfield 70, 3) := by decide +kernel
theorem dX7_copyFrom_79 : decode cX7_copyFrom 79 = .ok (.putfield 70, 3) := by decide +kernel
theorem dX7_copyFrom_82 : decode cX7_copyFrom 82 = .ok (.iconst 0, 1) := by decide +kernel
theorem dX7_copyFrom_83 : decode cX7_copyFrom 83 = .ok (.istore_n 2, 1) := by decide +kernel
theorem dX7_copyFrom_84 : decode cX7_copyFrom 84 = .ok (.iload_n 2, 1) := by decide +kernel
theorem dX7_copyFrom_85 : decode cX7_copyFrom 85 = .ok (.aload_n 0, 1) := by decide +kernel
theorem dX7_copyFrom_86 : decode cX7_copyFrom 86 = .ok (.getfield 70, 3) := by decide +kernel
theorem dX7_copyFrom_89 : decode cX7_copyFrom 89 = .ok (.if_icmp .ge 30, 3) := by decide +kernel
theorem dX7_copyFrom_92 : decode cX7_copyFrom 92 = .ok (.iload_n 2, 1) := by decide +kernel
theorem dX7_copyFrom_93 : decode cX7_copyFrom 93 = .ok (.bipush 8, 2) := by decide +kernel
theorem dX7_copyFrom_95 : decode cX7_copyFrom 95 = .ok (.if_icmp .ge 24, 3) := by decide +kernel
theorem dX7_copyFrom_98 : decode cX7_copyFrom 98 = .ok (.aload_n 0, 1) := by decide +kernel
theorem dX7_copyFrom_99 : decode cX7_copyFrom 99 = .ok (.getfield 33, 3) := by decide +kernel
theorem dX7_copyFrom_102 : decode cX7_copyFrom 102 = .ok (.iload_n 2, 1) := by decide +kernel
theorem dX7_copyFrom_103 : decode cX7_copyFrom 103 = .ok (.aaload, 1) := by decide +kernel
theorem dX7_copyFrom_104 : decode cX7_copyFrom 104 = .ok (.aload_n 1, 1) := by decide +kernel
theorem dX7_copyFrom_105 : decode cX7_copyFrom 105 = .ok (.getfield 33, 3) := by decide +kernel
theorem dX7_copyFrom_108 : decode cX7_copyFrom 108 = .ok (.iload_n 2, 1) := by decide +kernel
theorem dX7_copyFrom_109 : decode cX7_copyFrom 109 = .ok (.aaload, 1) := by decide +kernel
theorem dX7_copyFrom_110 : decode cX7_copyFrom 110 = .ok (.invokevirtual 73, 3) := by decide +kernel
theorem dX7_copyFrom_113 : decode cX7_copyFrom 113 = .ok (.iinc 2 1, 3) := by decide +kernel
theorem dX7_copyFrom_116 : decode cX7_copyFrom 116 = .ok (.goto (-32), 3) := by decide +kernel
theorem dX7_copyFrom_119 : decode cX7_copyFrom 119 = .ok (.iconst 0, 1) := by decide +kernel
theorem dX7_copyFrom_120 : decode cX7_copyFrom 120 = .ok (.istore_n 2, 1) := by decide +kernel
theorem dX7_copyFrom_121 : decode cX7_copyFrom 121 = .ok (.iload_n 2, 1) := by decide +kernel
theorem dX7_copyFrom_122 : decode cX7_copyFrom 122 = .ok (.aload_n 0, 1) := by decide +kernel
theorem dX7_copyFrom_123 : decode cX7_copyFrom 123 = .ok (.getfield 42, 3) := by decide +kernel
theorem dX7_copyFrom_126 : decode cX7_copyFrom 126 = .ok (.arraylength, 1) := by decide +kernel
theorem dX7_copyFrom_127 : decode cX7_copyFrom 127 = .ok (.if_icmp .ge 21, 3) := by decide +kernel
theorem dX7_copyFrom_130 : decode cX7_copyFrom 130 = .ok (.aload_n 0, 1) := by decide +kernel
theorem dX7_copyFrom_131 : decode cX7_copyFrom 131 = .ok (.getfield 42, 3) := by decide +kernel
theorem dX7_copyFrom_134 : decode cX7_copyFrom 134 = .ok (.iload_n 2, 1) := by decide +kernel
theorem dX7_copyFrom_135 : decode cX7_copyFrom 135 = .ok (.aload_n 1, 1) := by decide +kernel
theorem dX7_copyFrom_136 : decode cX7_copyFrom 136 = .ok (.getfield 42, 3) := by decide +kernel
theorem dX7_copyFrom_139 : decode cX7_copyFrom 139 = .ok (.iload_n 2, 1) := by decide +kernel
theorem dX7_copyFrom_140 : decode cX7_copyFrom 140 = .ok (.iaload, 1) := by decide +kernel
theorem dX7_copyFrom_141 : decode cX7_copyFrom 141 = .ok (.iastore, 1) := by decide +kernel
theorem dX7_copyFrom_142 : decode cX7_copyFrom 142 = .ok (.iinc 2 1, 3) := by decide +kernel
theorem dX7_copyFrom_145 : decode cX7_copyFrom 145 = .ok (.goto (-24), 3) := by decide +kernel
theorem dX7_copyFrom_148 : decode cX7_copyFrom 148 = .ok (.iconst 0, 1) := by decide +kernel
theorem dX7_copyFrom_149 : decode cX7_copyFrom 149 = .ok (.istore_n 2, 1) := by decide +kernel
theorem dX7_copyFrom_150 : decode cX7_copyFrom 150 = .ok (.iload_n 2, 1) := by decide +kernel
theorem dX7_copyFrom_151 : decode cX7_copyFrom 151 = .ok (.bipush 10, 2) := by decide +kernel
theorem dX7_copyFrom_153 : decode cX7_copyFrom 153 = .ok (.if_icmp .ge 21, 3) := by decide +kernel
theorem dX7_copyFrom_156 : decode cX7_copyFrom 156 = .ok (.aload_n 0, 1) := by decide +kernel
theorem dX7_copyFrom_157 : decode cX7_copyFrom 157 = .ok (.getfield 45, 3) := by decide +kernel
theorem dX7_copyFrom_160 : decode cX7_copyFrom 160 = .ok (.iload_n 2, 1) := by decide +kernel
theorem dX7_copyFrom_161 : decode cX7_copyFrom 161 = .ok (.aload_n 1, 1) := by decide +kernel
theorem dX7_copyFrom_162 : decode cX7_copyFrom 162 = .ok (.getfield 45, 3) := by decide +kernel
theorem dX7_copyFrom_165 : decode cX7_copyFrom 165 = .ok (.iload_n 2, 1) := by decide +kernel
theorem dX7_copyFrom_166 : decode cX7_copyFrom 166 = .ok (.iaload, 1) := by decide +kernel
theorem dX7_copyFrom_167 : decode cX7_copyFrom 167 = .ok (.iastore, 1) := by decide +kernel
theorem dX7_copyFrom_168 : decode cX7_copyFrom 168 = .ok (.iinc 2 1, 3) := by decide +kernel
theorem dX7_copyFrom_171 : decode cX7_copyFrom 171 = .ok (.goto (-21), 3) := by decide +kernel
theorem dX7_copyFrom_174 : decode cX7_copyFrom 174 = .ok (.aload_n 0, 1) := by decide +kernel
theorem dX7_copyFrom_175 : decode cX7_copyFrom 175 = .ok (.getfield 51, 3) := by decide +kernel
theorem dX7_copyFrom_178 : decode cX7_copyFrom 178 = .ok (.aload_n 1, 1) := by decide +kernel
theorem dX7_copyFrom_179 : decode cX7_copyFrom 179 = .ok (.getfield 51, 3) := by decide +kernel
theorem dX7_copyFrom_182 : decode cX7_copyFrom 182 = .ok (.invokevirtual 76, 3) := by decide +kernel
theorem dX7_copyFrom_185 : decode cX7_copyFrom 185 = .ok (.aload_n 0, 1) := by decide +kernel
theorem dX7_copyFrom_186 : decode cX7_copyFrom 186 = .ok (.aload_n 1, 1) := by decide +kernel
theorem dX7_copyFrom_187 : decode cX7_copyFrom 187 = .ok (.getfield 79, 3) := by decide +kernel
theorem dX7_copyFrom_190 : decode cX7_copyFrom 190 = .ok (.putfield 79, 3) := by decide +kernel
theorem dX7_copyFrom_193 : decode cX7_copyFrom 193 = .ok (.return_, 1) := by decide +kernel
theorem dX7_endConnection_0 : decode cX7_endConnection 0 = .ok (.aload_n 0, 1) := by decide +kernel
theorem dX7_endConnection_1 : decode cX7_endConnection 1 = .ok (.getfield 17, 3) := by decide +kernel
theorem dX7_endConnection_4 : decode cX7_endConnection 4 = .ok (.iload_n 1, 1) := by decide +kernel
theorem dX7_endConnection_5 : decode cX7_endConnection 5 = .ok (.aaload, 1) := by decide +kernel
theorem dX7_endConnection_6 : decode cX7_endConnection 6 = .ok (.astore_n 2, 1) := by decide +kernel
theorem dX7_endConnection_7 : decode cX7_endConnection 7 = .ok (.aload_n 2, 1) := by decide +kernel
theorem dX7_endConnection_8 : decode cX7_endConnection 8 = .ok (.iconst 0, 1) := by decide +kernel
theorem dX7_endConnection_9 : decode cX7_endConnection 9 = .ok (.putfield 82, 3) := by decide +kernel
theorem dX7_endConnection_12 : decode cX7_endConnection 12 = .ok (.aload_n 2, 1) := by decide +kernel
theorem dX7_endConnection_13 : decode cX7_endConnection 13 = .ok (.getfield 86, 3) := by decide +kernel
theorem dX7_endConnection_16 : decode cX7_endConnection 16 = .ok (.invokevirtual 90, 3) := by decide +kernel
theorem dX7_endConnection_19 : decode cX7_endConnection 19 = .ok (.aload_n 2, 1) := by decide +kernel
theorem dX7_endConnection_20 : decode cX7_endConnection 20 = .ok (.getfield 95, 3) := by decide +kernel
theorem dX7_endConnection_23 : decode cX7_endConnection 23 = .ok (.getfield 99, 3) := by decide +kernel
theorem dX7_endConnection_26 : decode cX7_endConnection 26 = .ok (.ifCond .eq 11, 3) := by decide +kernel
theorem dX7_endConnection_29 : decode cX7_endConnection 29 = .ok (.aload_n 0, 1) := by decide +kernel
theorem dX7_endConnection_30 : decode cX7_endConnection 30 = .ok (.iload_n 1, 1) := by decide +kernel
theorem dX7_endConnection_31 : decode cX7_endConnection 31 = .ok (.invokevirtual 104, 3) := by decide +kernel
theorem dX7_endConnection_34 : decode cX7_endConnection 34 = .ok (.goto 14, 3) := by decide +kernel
theorem dX7_endConnection_37 : decode cX7_endConnection 37 = .ok (.aload_n 2, 1) := by decide +kernel
theorem dX7_endConnection_38 : decode cX7_endConnection 38 = .ok (.getfield 95, 3) := by decide +kernel
theorem dX7_endConnection_41 : decode cX7_endConnection 41 = .ok (.aload_n 0, 1) := by decide +kernel
theorem dX7_endConnection_42 : decode cX7_endConnection 42 = .ok (.getfield 79, 3) := by decide +kernel
theorem dX7_endConnection_45 : decode cX7_endConnection 45 = .ok (.putfield 108, 3) := by decide +kernel
theorem dX7_endConnection_48 : decode cX7_endConnection 48 = .ok (.return_, 1) := by decide +kernel
theorem dX7_failConnection_0 : decode cX7_failConnection 0 = .ok (.aload_n 0, 1) := by decide +kernel
theorem dX7_failConnection_1 : decode cX7_failConnection 1 = .ok (.iload_n 1, 1) := by decide +kernel
theorem dX7_failConnection_2 : decode cX7_failConnection 2 = .ok (.invokevirtual 111, 3) := by decide +kernel
theorem dX7_failConnection_5 : decode cX7_failConnection 5 = .ok (.aload_n 0, 1) := by decide +kernel
theorem dX7_failConnection_6 : decode cX7_failConnection 6 = .ok (.getfield 17, 3) := by decide +kernel
theorem dX7_failConnection_9 : decode cX7_failConnection 9 = .ok (.iload_n 1, 1) := by decide +kernel
theorem dX7_failConnection_10 : decode cX7_failConnection 10 = .ok (.aaload, 1) := by decide +kernel
theorem dX7_failConnection_11 : decode cX7_failConnection 11 = .ok (.astore_n 2, 1) := by decide +kernel
theorem dX7_failConnection_12 : decode cX7_failConnection 12 = .ok (.aload_n 2, 1) := by decide +kernel
theorem dX7_failConnection_13 : decode cX7_failConnection 13 = .ok (.getfield 114, 3) := by decide +kernel
theorem dX7_failConnection_16 : decode cX7_failConnection 16 = .ok (.ifCond .ne 5, 3) := by decide +kernel
theorem dX7_failConnection_19 : decode cX7_failConnection 19 = .ok (.iconst 0, 1) := by decide +kernel
theorem dX7_failConnection_20 : decode cX7_failConnection 20 = .ok (.ireturn, 1) := by decide +kernel
theorem dX7_failConnection_21 : decode cX7_failConnection 21 = .ok (.aload_n 2, 1) := by decide +kernel
theorem dX7_failConnection_22 : decode cX7_failConnection 22 = .ok (.iconst 0, 1) := by decide +kernel
theorem dX7_failConnection_23 : decode cX7_failConnection 23 = .ok (.putfield 114, 3) := by decide +kernel
theorem dX7_failConnection_26 : decode cX7_failConnection 26 = .ok (.aload_n 0, 1) := by decide +kernel
theorem dX7_failConnection_27 : decode cX7_failConnection 27 = .ok (.getfield 45, 3) := by decide +kernel
theorem dX7_failConnection_30 : decode cX7_failConnection 30 = .ok (.bipush 6, 2) := by decide +kernel
theorem dX7_failConnection_32 : decode cX7_failConnection 32 = .ok (.dup2, 1) := by decide +kernel
theorem dX7_failConnection_33 : decode cX7_failConnection 33 = .ok (.iaload, 1) := by decide +kernel
theorem dX7_failConnection_34 : decode cX7_failConnection 34 = .ok (.iconst 1, 1) := by decide +kernel
theorem dX7_failConnection_35 : decode cX7_failConnection 35 = .ok (.iadd, 1) := by decide +kernel
theorem dX7_failConnection_36 : decode cX7_failConnection 36 = .ok (.iastore, 1) := by decide +kernel
theorem dX7_failConnection_37 : decode cX7_failConnection 37 = .ok (.aload_n 0, 1) := by decide +kernel
theorem dX7_failConnection_38 : decode cX7_failConnection 38 = .ok (.iload_n 1, 1) := by decide +kernel
theorem dX7_failConnection_39 : decode cX7_failConnection 39 = .ok (.aload_n 2, 1) := by decide +kernel
theorem dX7_failConnection_40 : decode cX7_failConnection 40 = .ok (.getfield 117, 3) := by decide +kernel
theorem dX7_failConnection_43 : decode cX7_failConnection 43 = .ok (.aload_n 2, 1) := by decide +kernel
theorem dX7_failConnection_44 : decode cX7_failConnection 44 = .ok (.getfield 120, 3) := by decide +kernel
theorem dX7_failConnection_47 : decode cX7_failConnection 47 = .ok (.invokevirtual 123, 3) := by decide +kernel
theorem dX7_failConnection_50 : decode cX7_failConnection 50 = .ok (.pop, 1) := by decide +kernel
theorem dX7_failConnection_51 : decode cX7_failConnection 51 = .ok (.iconst 1, 1) := by decide +kernel
theorem dX7_failConnection_52 : decode cX7_failConnection 52 = .ok (.ireturn, 1) := by decide +kernel
theorem dX7_removeSession_0 : decode cX7_removeSession 0 = .ok (.aload_n 0, 1) := by decide +kernel
theorem dX7_removeSession_1 : decode cX7_removeSession 1 = .ok (.getfield 17, 3) := by decide +kernel
theorem dX7_removeSession_4 : decode cX7_removeSession 4 = .ok (.iload_n 1, 1) := by decide +kernel
theorem dX7_removeSession_5 : decode cX7_removeSession 5 = .ok (.aaload, 1) := by decide +kernel
theorem dX7_removeSession_6 : decode cX7_removeSession 6 = .ok (.getfield 95, 3) := by decide +kernel
theorem dX7_removeSession_9 : decode cX7_removeSession 9 = .ok (.invokevirtual 127, 3) := by decide +kernel
theorem dX7_removeSession_12 : decode cX7_removeSession 12 = .ok (.aload_n 0, 1) := by decide +kernel
theorem dX7_removeSession_13 : decode cX7_removeSession 13 = .ok (.getfield 63, 3) := by decide +kernel
theorem dX7_removeSession_16 : decode cX7_removeSession 16 = .ok (.bipush 36, 2) := by decide +kernel
theorem dX7_removeSession_18 : decode cX7_removeSession 18 = .ok (.invokestatic 128, 3) := by decide +kernel
theorem dX7_removeSession_21 : decode cX7_removeSession 21 = .ok (.iconst 1, 1) := by decide +kernel
theorem dX7_removeSession_22 : decode cX7_removeSession 22 = .ok (.isub, 1) := by decide +kernel
theorem dX7_removeSession_23 : decode cX7_removeSession 23 = .ok (.istore_n 2, 1) := by decide +kernel
theorem dX7_removeSession_24 : decode cX7_removeSession 24 = .ok (.iload_n 2, 1) := by decide +kernel
theorem dX7_removeSession_25 : decode cX7_removeSession 25 = .ok (.ifCond .lt 15, 3) := by decide +kernel
theorem dX7_removeSession_28 : decode cX7_removeSession 28 = .ok (.aload_n 0, 1) := by decide +kernel
theorem dX7_removeSession_29 : decode cX7_removeSession 29 = .ok (.iload_n 2, 1) := by decide +kernel
theorem dX7_removeSession_30 : decode cX7_removeSession 30 = .ok (.iload_n 1, 1) := by decide +kernel
theorem dX7_removeSession_31 : decode cX7_removeSession 31 = .ok (.invokevirtual 134, 3) := by decide +kernel
theorem dX7_removeSession_34 : decode cX7_removeSession 34 = .ok (.iinc 2 (-1), 3) := by decide +kernel
theorem dX7_removeSession_37 : decode cX7_removeSession 37 = .ok (.goto (-13), 3) := by decide +kernel
theorem dX7_removeSession_40 : decode cX7_removeSession 40 = .ok (.return_, 1) := by decide +kernel
theorem dX7_resume_0 : decode cX7_resume 0 = .ok (.aload_n 1, 1) := by decide +kernel
theorem dX7_resume_1 : decode cX7_resume 1 = .ok (.getfield 95, 3) := by decide +kernel
theorem dX7_resume_4 : decode cX7_resume 4 = .ok (.getfield 138, 3) := by decide +kernel
theorem dX7_resume_7 : decode cX7_resume 7 = .ok (.astore_n 2, 1) := by decide +kernel
theorem dX7_resume_8 : decode cX7_resume 8 = .ok (.iconst 0, 1) := by decide +kernel
theorem dX7_resume_9 : decode cX7_resume 9 = .ok (.istore_n 3, 1) := by decide +kernel
theorem dX7_resume_10 : decode cX7_resume 10 = .ok (.iload_n 3, 1) := by decide +kernel
theorem dX7_resume_11 : decode cX7_resume 11 = .ok (.aload_n 2, 1) := by decide +kernel
theorem dX7_resume_12 : decode cX7_resume 12 = .ok (.getfield 142, 3) := by decide +kernel
theorem dX7_resume_15 : decode cX7_resume 15 = .ok (.if_icmp .ge 29, 3) := by decide +kernel
theorem dX7_resume_18 : decode cX7_resume 18 = .ok (.iload_n 3, 1) := by decide +kernel
theorem dX7_resume_19 : decode cX7_resume 19 = .ok (.aload_n 2, 1) := by decide +kernel
theorem dX7_resume_20 : decode cX7_resume 20 = .ok (.getfield 147, 3) := by decide +kernel
theorem dX7_resume_23 : decode cX7_resume 23 = .ok (.arraylength, 1) := by decide +kernel
theorem dX7_resume_24 : decode cX7_resume 24 = .ok (.if_icmp .ge 20, 3) := by decide +kernel
theorem dX7_resume_27 : decode cX7_resume 27 = .ok (.aload_n 0, 1) := by decide +kernel
theorem dX7_resume_28 : decode cX7_resume 28 = .ok (.aload_n 1, 1) := by decide +kernel
theorem dX7_resume_29 : decode cX7_resume 29 = .ok (.aload_n 2, 1) := by decide +kernel
theorem dX7_resume_30 : decode cX7_resume 30 = .ok (.getfield 147, 3) := by decide +kernel
theorem dX7_resume_33 : decode cX7_resume 33 = .ok (.iload_n 3, 1) := by decide +kernel
theorem dX7_resume_34 : decode cX7_resume 34 = .ok (.aaload, 1) := by decide +kernel
theorem dX7_resume_35 : decode cX7_resume 35 = .ok (.invokevirtual 150, 3) := by decide +kernel
theorem dX7_resume_38 : decode cX7_resume 38 = .ok (.iinc 3 1, 3) := by decide +kernel
theorem dX7_resume_41 : decode cX7_resume 41 = .ok (.goto (-31), 3) := by decide +kernel
theorem dX7_resume_44 : decode cX7_resume 44 = .ok (.aload_n 0, 1) := by decide +kernel
theorem dX7_resume_45 : decode cX7_resume 45 = .ok (.aload_n 1, 1) := by decide +kernel
theorem dX7_resume_46 : decode cX7_resume 46 = .ok (.invokevirtual 154, 3) := by decide +kernel
theorem dX7_resume_49 : decode cX7_resume 49 = .ok (.return_, 1) := by decide +kernel
theorem dX7_addSubscription_0 : decode cX7_addSubscription 0 = .ok (.aload_n 0, 1) := by decide +kernel
theorem dX7_addSubscription_1 : decode cX7_addSubscription 1 = .ok (.getfield 17, 3) := by decide +kernel
theorem dX7_addSubscription_4 : decode cX7_addSubscription 4 = .ok (.iload_n 1, 1) := by decide +kernel
theorem dX7_addSubscription_5 : decode cX7_addSubscription 5 = .ok (.aaload, 1) := by decide +kernel
theorem dX7_addSubscription_6 : decode cX7_addSubscription 6 = .ok (.getfield 95, 3) := by decide +kernel
theorem dX7_addSubscription_9 : decode cX7_addSubscription 9 = .ok (.aload_n 2, 1) := by decide +kernel
theorem dX7_addSubscription_10 : decode cX7_addSubscription 10 = .ok (.iload_n 3, 1) := by decide +kernel
theorem dX7_addSubscription_11 : decode cX7_addSubscription 11 = .ok (.invokevirtual 157, 3) := by decide +kernel
theorem dX7_addSubscription_14 : decode cX7_addSubscription 14 = .ok (.iload_n 3, 1) := by decide +kernel
theorem dX7_addSubscription_15 : decode cX7_addSubscription 15 = .ok (.ifCond .ne 4, 3) := by decide +kernel
theorem dX7_addSubscription_18 : decode cX7_addSubscription 18 = .ok (.return_, 1) := by decide +kernel
theorem dX7_addSubscription_19 : decode cX7_addSubscription 19 = .ok (.aload_n 0, 1) := by decide +kernel
theorem dX7_addSubscription_20 : decode cX7_addSubscription 20 = .ok (.aload_n 2, 1) := by decide +kernel
theorem dX7_addSubscription_21 : decode cX7_addSubscription 21 = .ok (.iload_n 3, 1) := by decide +kernel
theorem dX7_addSubscription_22 : decode cX7_addSubscription 22 = .ok (.invokevirtual 161, 3) := by decide +kernel
theorem dX7_addSubscription_25 : decode cX7_addSubscription 25 = .ok (.istore 4, 2) := by decide +kernel
theorem dX7_addSubscription_27 : decode cX7_addSubscription 27 = .ok (.iload 4, 2) := by decide +kernel
theorem dX7_addSubscription_29 : decode cX7_addSubscription 29 = .ok (.ifCond .ge 68, 3) := by decide +kernel
theorem dX7_addSubscription_32 : decode cX7_addSubscription 32 = .ok (.aload_n 0, 1) := by decide +kernel
theorem dX7_addSubscription_33 : decode cX7_addSubscription 33 = .ok (.getfield 63, 3) := by decide +kernel
theorem dX7_addSubscription_36 : decode cX7_addSubscription 36 = .ok (.ifCond .lt 61, 3) := by decide +kernel
theorem dX7_addSubscription_39 : decode cX7_addSubscription 39 = .ok (.aload_n 0, 1) := by decide +kernel
theorem dX7_addSubscription_40 : decode cX7_addSubscription 40 = .ok (.getfield 63, 3) := by decide +kernel
theorem dX7_addSubscription_43 : decode cX7_addSubscription 43 = .ok (.bipush 36, 2) := by decide +kernel
theorem dX7_addSubscription_45 : decode cX7_addSubscription 45 = .ok (.if_icmp .ge 52, 3) := by decide +kernel
theorem dX7_addSubscription_48 : decode cX7_addSubscription 48 = .ok (.aload_n 0, 1) := by decide +kernel
theorem dX7_addSubscription_49 : decode cX7_addSubscription 49 = .ok (.getfield 63, 3) := by decide +kernel
theorem dX7_addSubscription_52 : decode cX7_addSubscription 52 = .ok (.istore 4, 2) := by decide +kernel
theorem dX7_addSubscription_54 : decode cX7_addSubscription 54 = .ok (.aload_n 0, 1) := by decide +kernel
theorem dX7_addSubscription_55 : decode cX7_addSubscription 55 = .ok (.getfield 26, 3) := by decide +kernel
theorem dX7_addSubscription_58 : decode cX7_addSubscription 58 = .ok (.iload 4, 2) := by decide +kernel
theorem dX7_addSubscription_60 : decode cX7_addSubscription 60 = .ok (.aaload, 1) := by decide +kernel
theorem dX7_addSubscription_61 : decode cX7_addSubscription 61 = .ok (.aload_n 2, 1) := by decide +kernel
theorem dX7_addSubscription_62 : decode cX7_addSubscription 62 = .ok (.putfield 165, 3) := by decide +kernel
theorem dX7_addSubscription_65 : decode cX7_addSubscription 65 = .ok (.aload_n 0, 1) := by decide +kernel
theorem dX7_addSubscription_66 : decode cX7_addSubscription 66 = .ok (.getfield 26, 3) := by decide +kernel
theorem dX7_addSubscription_69 : decode cX7_addSubscription 69 = .ok (.iload 4, 2) := by decide +kernel
theorem dX7_addSubscription_71 : decode cX7_addSubscription 71 = .ok (.aaload, 1) := by decide +kernel
theorem dX7_addSubscription_72 : decode cX7_addSubscription 72 = .ok (.iload_n 3, 1) := by decide +kernel
theorem dX7_addSubscription_73 : decode cX7_addSubscription 73 = .ok (.putfield 168, 3) := by decide +kernel
theorem dX7_addSubscription_76 : decode cX7_addSubscription 76 = .ok (.aload_n 0, 1) := by decide +kernel
theorem dX7_addSubscription_77 : decode cX7_addSubscription 77 = .ok (.getfield 26, 3) := by decide +kernel
theorem dX7_addSubscription_80 : decode cX7_addSubscription 80 = .ok (.iload 4, 2) := by decide +kernel
theorem dX7_addSubscription_82 : decode cX7_addSubscription 82 = .ok (.aaload, 1) := by decide +kernel
theorem dX7_addSubscription_83 : decode cX7_addSubscription 83 = .ok (.iconst 0, 1) := by decide +kernel
theorem dX7_addSubscription_84 : decode cX7_addSubscription 84 = .ok (.putfield 171, 3) := by decide +kernel
theorem dX7_addSubscription_87 : decode cX7_addSubscription 87 = .ok (.aload_n 0, 1) := by decide +kernel
theorem dX7_addSubscription_88 : decode cX7_addSubscription 88 = .ok (.dup, 1) := by decide +kernel
theorem dX7_addSubscription_89 : decode cX7_addSubscription 89 = .ok (.getfield 63, 3) := by decide +kernel
theorem dX7_addSubscription_92 : decode cX7_addSubscription 92 = .ok (.iconst 1, 1) := by decide +kernel
theorem dX7_addSubscription_93 : decode cX7_addSubscription 93 = .ok (.iadd, 1) := by decide +kernel
theorem dX7_addSubscription_94 : decode cX7_addSubscription 94 = .ok (.putfield 63, 3) := by decide +kernel
theorem dX7_addSubscription_97 : decode cX7_addSubscription 97 = .ok (.iload 4, 2) := by decide +kernel
theorem dX7_addSubscription_99 : decode cX7_addSubscription 99 = .ok (.ifCond .lt 14, 3) := by decide +kernel
theorem dX7_addSubscription_102 : decode cX7_addSubscription 102 = .ok (.aload_n 0, 1) := by decide +kernel
theorem dX7_addSubscription_103 : decode cX7_addSubscription 103 = .ok (.getfield 26, 3) := by decide +kernel
theorem dX7_addSubscription_106 : decode cX7_addSubscription 106 = .ok (.iload 4, 2) := by decide +kernel
theorem dX7_addSubscription_108 : decode cX7_addSubscription 108 = .ok (.aaload, 1) := by decide +kernel
theorem dX7_addSubscription_109 : decode cX7_addSubscription 109 = .ok (.iload_n 1, 1) := by decide +kernel
theorem dX7_addSubscription_110 : decode cX7_addSubscription 110 = .ok (.invokevirtual 174, 3) := by decide +kernel
theorem dX7_addSubscription_113 : decode cX7_addSubscription 113 = .ok (.return_, 1) := by decide +kernel
theorem dX7_removeSubscription_0 : decode cX7_removeSubscription 0 = .ok (.aload_n 0, 1) := by decide +kernel
theorem dX7_removeSubscription_1 : decode cX7_removeSubscription 1 = .ok (.getfield 17, 3) := by decide +kernel
theorem dX7_removeSubscription_4 : decode cX7_removeSubscription 4 = .ok (.iload_n 1, 1) := by decide +kernel
theorem dX7_removeSubscription_5 : decode cX7_removeSubscription 5 = .ok (.aaload, 1) := by decide +kernel
theorem dX7_removeSubscription_6 : decode cX7_removeSubscription 6 = .ok (.getfield 95, 3) := by decide +kernel
theorem dX7_removeSubscription_9 : decode cX7_removeSubscription 9 = .ok (.astore 4, 2) := by decide +kernel
theorem dX7_removeSubscription_11 : decode cX7_removeSubscription 11 = .ok (.aload 4, 2) := by decide +kernel
theorem dX7_removeSubscription_13 : decode cX7_removeSubscription 13 = .ok (.aload_n 2, 1) := by decide +kernel
theorem dX7_removeSubscription_14 : decode cX7_removeSubscription 14 = .ok (.iload_n 3, 1) := by decide +kernel
theorem dX7_removeSubscription_15 : decode cX7_removeSubscription 15 = .ok (.invokevirtual 177, 3) := by decide +kernel
theorem dX7_removeSubscription_18 : decode cX7_removeSubscription 18 = .ok (.istore 5, 2) := by decide +kernel
theorem dX7_removeSubscription_20 : decode cX7_removeSubscription 20 = .ok (.iload 5, 2) := by decide +kernel
theorem dX7_removeSubscription_22 : decode cX7_removeSubscription 22 = .ok (.ifCond .ge 5, 3) := by decide +kernel
theorem dX7_removeSubscription_25 : decode cX7_removeSubscription 25 = .ok (.iconst 0, 1) := by decide +kernel
theorem dX7_removeSubscription_26 : decode cX7_removeSubscription 26 = .ok (.ireturn, 1) := by decide +kernel
theorem dX7_removeSubscription_27 : decode cX7_removeSubscription 27 = .ok (.aload 4, 2) := by decide +kernel
theorem dX7_removeSubscription_29 : decode cX7_removeSubscription 29 = .ok (.iload 5, 2) := by decide +kernel
theorem dX7_removeSubscription_31 : decode cX7_removeSubscription 31 = .ok (.invokevirtual 180, 3) := by decide +kernel
theorem dX7_removeSubscription_34 : decode cX7_removeSubscription 34 = .ok (.iload_n 3, 1) := by decide +kernel
theorem dX7_removeSubscription_35 : decode cX7_removeSubscription 35 = .ok (.ifCond .eq 14, 3) := by decide +kernel
theorem dX7_removeSubscription_38 : decode cX7_removeSubscription 38 = .ok (.aload_n 0, 1) := by decide +kernel
theorem dX7_removeSubscription_39 : decode cX7_removeSubscription 39 = .ok (.aload_n 0, 1) := by decide +kernel
theorem dX7_removeSubscription_40 : decode cX7_removeSubscription 40 = .ok (.aload_n 2, 1) := by decide +kernel
theorem dX7_removeSubscription_41 : decode cX7_removeSubscription 41 = .ok (.iload_n 3, 1) := by decide +kernel
theorem dX7_removeSubscription_42 : decode cX7_removeSubscription 42 = .ok (.invokevirtual 161, 3) := by decide +kernel
theorem dX7_removeSubscription_45 : decode cX7_removeSubscription 45 = .ok (.iload_n 1, 1) := by decide +kernel
theorem dX7_removeSubscription_46 : decode cX7_removeSubscription 46 = .ok (.invokevirtual 134, 3) := by decide +kernel
theorem dX7_removeSubscription_49 : decode cX7_removeSubscription 49 = .ok (.iconst 1, 1) := by decide +kernel
theorem dX7_removeSubscription_50 : decode cX7_removeSubscription 50 = .ok (.ireturn, 1) := by decide +kernel
theorem dX7_placeOfShare_0 : decode cX7_placeOfShare 0 = .ok (.iconst 0, 1) := by decide +kernel
theorem dX7_placeOfShare_1 : decode cX7_placeOfShare 1 = .ok (.istore_n 3, 1) := by decide +kernel
theorem dX7_placeOfShare_2 : decode cX7_placeOfShare 2 = .ok (.iload_n 3, 1) := by decide +kernel
theorem dX7_placeOfShare_3 : decode cX7_placeOfShare 3 = .ok (.aload_n 0, 1) := by decide +kernel
theorem dX7_placeOfShare_4 : decode cX7_placeOfShare 4 = .ok (.getfield 63, 3) := by decide +kernel
theorem dX7_placeOfShare_7 : decode cX7_placeOfShare 7 = .ok (.if_icmp .ge 46, 3) := by decide +kernel
theorem dX7_placeOfShare_10 : decode cX7_placeOfShare 10 = .ok (.iload_n 3, 1) := by decide +kernel
theorem dX7_placeOfShare_11 : decode cX7_placeOfShare 11 = .ok (.bipush 36, 2) := by decide +kernel
theorem dX7_placeOfShare_13 : decode cX7_placeOfShare 13 = .ok (.if_icmp .ge 40, 3) := by decide +kernel
theorem dX7_placeOfShare_16 : decode cX7_placeOfShare 16 = .ok (.aload_n 0, 1) := by decide +kernel
theorem dX7_placeOfShare_17 : decode cX7_placeOfShare 17 = .ok (.getfield 26, 3) := by decide +kernel
theorem dX7_placeOfShare_20 : decode cX7_placeOfShare 20 = .ok (.iload_n 3, 1) := by decide +kernel
theorem dX7_placeOfShare_21 : decode cX7_placeOfShare 21 = .ok (.aaload, 1) := by decide +kernel
theorem dX7_placeOfShare_22 : decode cX7_placeOfShare 22 = .ok (.getfield 168, 3) := by decide +kernel
theorem dX7_placeOfShare_25 : decode cX7_placeOfShare 25 = .ok (.iload_n 2, 1) := by decide +kernel
theorem dX7_placeOfShare_26 : decode cX7_placeOfShare 26 = .ok (.if_icmp .ne 21, 3) := by decide +kernel
theorem dX7_placeOfShare_29 : decode cX7_placeOfShare 29 = .ok (.aload_n 0, 1) := by decide +kernel
theorem dX7_placeOfShare_30 : decode cX7_placeOfShare 30 = .ok (.getfield 26, 3) := by decide +kernel
theorem dX7_placeOfShare_33 : decode cX7_placeOfShare 33 = .ok (.iload_n 3, 1) := by decide +kernel
theorem dX7_placeOfShare_34 : decode cX7_placeOfShare 34 = .ok (.aaload, 1) := by decide +kernel
theorem dX7_placeOfShare_35 : decode cX7_placeOfShare 35 = .ok (.getfield 165, 3) := by decide +kernel
theorem dX7_placeOfShare_38 : decode cX7_placeOfShare 38 = .ok (.aload_n 1, 1) := by decide +kernel
theorem dX7_placeOfShare_39 : decode cX7_placeOfShare 39 = .ok (.invokevirtual 183, 3) := by decide +kernel
theorem dX7_placeOfShare_42 : decode cX7_placeOfShare 42 = .ok (.ifCond .eq 5, 3) := by decide +kernel
theorem dX7_placeOfShare_45 : decode cX7_placeOfShare 45 = .ok (.iload_n 3, 1) := by decide +kernel
theorem dX7_placeOfShare_46 : decode cX7_placeOfShare 46 = .ok (.ireturn, 1) := by decide +kernel
theorem dX7_placeOfShare_47 : decode cX7_placeOfShare 47 = .ok (.iinc 3 1, 3) := by decide +kernel
theorem dX7_placeOfShare_50 : decode cX7_placeOfShare 50 = .ok (.goto (-48), 3) := by decide +kernel
theorem dX7_placeOfShare_53 : decode cX7_placeOfShare 53 = .ok (.iconst (-1), 1) := by decide +kernel
theorem dX7_placeOfShare_54 : decode cX7_placeOfShare 54 = .ok (.ireturn, 1) := by decide +kernel
theorem dX7_leaveShare_0 : decode cX7_leaveShare 0 = .ok (.iload_n 1, 1) := by decide +kernel
theorem dX7_leaveShare_1 : decode cX7_leaveShare 1 = .ok (.ifCond .lt 20, 3) := by decide +kernel
theorem dX7_leaveShare_4 : decode cX7_leaveShare 4 = .ok (.iload_n 1, 1) := by decide +kernel
theorem dX7_leaveShare_5 : decode cX7_leaveShare 5 = .ok (.aload_n 0, 1) := by decide +kernel
theorem dX7_leaveShare_6 : decode cX7_leaveShare 6 = .ok (.getfield 63, 3) := by decide +kernel
theorem dX7_leaveShare_9 : decode cX7_leaveShare 9 = .ok (.if_icmp .ge 12, 3) := by decide +kernel
theorem dX7_leaveShare_12 : decode cX7_leaveShare 12 = .ok (.aload_n 0, 1) := by decide +kernel
theorem dX7_leaveShare_13 : decode cX7_leaveShare 13 = .ok (.getfield 63, 3) := by decide +kernel
theorem dX7_leaveShare_16 : decode cX7_leaveShare 16 = .ok (.bipush 36, 2) := by decide +kernel
theorem dX7_leaveShare_18 : decode cX7_leaveShare 18 = .ok (.if_icmp .le 4, 3) := by decide +kernel
theorem dX7_leaveShare_21 : decode cX7_leaveShare 21 = .ok (.return_, 1) := by decide +kernel
theorem dX7_leaveShare_22 : decode cX7_leaveShare 22 = .ok (.aload_n 0, 1) := by decide +kernel
theorem dX7_leaveShare_23 : decode cX7_leaveShare 23 = .ok (.getfield 26, 3) := by decide +kernel
theorem dX7_leaveShare_26 : decode cX7_leaveShare 26 = .ok (.iload_n 1, 1) := by decide +kernel
theorem dX7_leaveShare_27 : decode cX7_leaveShare 27 = .ok (.aaload, 1) := by decide +kernel
theorem dX7_leaveShare_28 : decode cX7_leaveShare 28 = .ok (.astore_n 3, 1) := by decide +kernel
theorem dX7_leaveShare_29 : decode cX7_leaveShare 29 = .ok (.aload_n 3, 1) := by decide +kernel
theorem dX7_leaveShare_30 : decode cX7_leaveShare 30 = .ok (.iload_n 2, 1) := by decide +kernel
theorem dX7_leaveShare_31 : decode cX7_leaveShare 31 = .ok (.invokevirtual 189, 3) := by decide +kernel
theorem dX7_leaveShare_34 : decode cX7_leaveShare 34 = .ok (.aload_n 3, 1) := by decide +kernel
theorem dX7_leaveShare_35 : decode cX7_leaveShare 35 = .ok (.getfield 171, 3) := by decide +kernel
theorem dX7_leaveShare_38 : decode cX7_leaveShare 38 = .ok (.ifCond .le 4, 3) := by decide +kernel
theorem dX7_leaveShare_41 : decode cX7_leaveShare 41 = .ok (.return_, 1) := by decide +kernel
theorem dX7_leaveShare_42 : decode cX7_leaveShare 42 = .ok (.iload_n 1, 1) := by decide +kernel
theorem dX7_leaveShare_43 : decode cX7_leaveShare 43 = .ok (.istore 4, 2) := by decide +kernel
theorem dX7_leaveShare_45 : decode cX7_leaveShare 45 = .ok (.iload 4, 2) := by decide +kernel
theorem dX7_leaveShare_47 : decode cX7_leaveShare 47 = .ok (.iconst 1, 1) := by decide +kernel
theorem dX7_leaveShare_48 : decode cX7_leaveShare 48 = .ok (.iadd, 1) := by decide +kernel
theorem dX7_leaveShare_49 : decode cX7_leaveShare 49 = .ok (.aload_n 0, 1) := by decide +kernel
theorem dX7_leaveShare_50 : decode cX7_leaveShare 50 = .ok (.getfield 63, 3) := by decide +kernel
theorem dX7_leaveShare_53 : decode cX7_leaveShare 53 = .ok (.if_icmp .ge 25, 3) := by decide +kernel
theorem dX7_leaveShare_56 : decode cX7_leaveShare 56 = .ok (.aload_n 0, 1) := by decide +kernel
theorem dX7_leaveShare_57 : decode cX7_leaveShare 57 = .ok (.getfield 26, 3) := by decide +kernel
theorem dX7_leaveShare_60 : decode cX7_leaveShare 60 = .ok (.iload 4, 2) := by decide +kernel
theorem dX7_leaveShare_62 : decode cX7_leaveShare 62 = .ok (.aload_n 0, 1) := by decide +kernel
theorem dX7_leaveShare_63 : decode cX7_leaveShare 63 = .ok (.getfield 26, 3) := by decide +kernel
theorem dX7_leaveShare_66 : decode cX7_leaveShare 66 = .ok (.iload 4, 2) := by decide +kernel
theorem dX7_leaveShare_68 : decode cX7_leaveShare 68 = .ok (.iconst 1, 1) := by decide +kernel
theorem dX7_leaveShare_69 : decode cX7_leaveShare 69 = .ok (.iadd, 1) := by decide +kernel
theorem dX7_leaveShare_70 : decode cX7_leaveShare 70 = .ok (.aaload, 1) := by decide +kernel
theorem dX7_leaveShare_71 : decode cX7_leaveShare 71 = .ok (.aastore, 1) := by decide +kernel
theorem dX7_leaveShare_72 : decode cX7_leaveShare 72 = .ok (.iinc 4 1, 3) := by decide +kernel
theorem dX7_leaveShare_75 : decode cX7_leaveShare 75 = .ok (.goto (-30), 3) := by decide +kernel
theorem dX7_leaveShare_78 : decode cX7_leaveShare 78 = .ok (.aload_n 0, 1) := by decide +kernel
theorem dX7_leaveShare_79 : decode cX7_leaveShare 79 = .ok (.getfield 26, 3) := by decide +kernel
theorem dX7_leaveShare_82 : decode cX7_leaveShare 82 = .ok (.aload_n 0, 1) := by decide +kernel
theorem dX7_leaveShare_83 : decode cX7_leaveShare 83 = .ok (.getfield 63, 3) := by decide +kernel
theorem dX7_leaveShare_86 : decode cX7_leaveShare 86 = .ok (.iconst 1, 1) := by decide +kernel
theorem dX7_leaveShare_87 : decode cX7_leaveShare 87 = .ok (.isub, 1) := by decide +kernel
theorem dX7_leaveShare_88 : decode cX7_leaveShare 88 = .ok (.aload_n 3, 1) := by decide +kernel
theorem dX7_leaveShare_89 : decode cX7_leaveShare 89 = .ok (.aastore, 1) := by decide +kernel
theorem dX7_leaveShare_90 : decode cX7_leaveShare 90 = .ok (.aload_n 0, 1) := by decide +kernel
theorem dX7_leaveShare_91 : decode cX7_leaveShare 91 = .ok (.dup, 1) := by decide +kernel
theorem dX7_leaveShare_92 : decode cX7_leaveShare 92 = .ok (.getfield 63, 3) := by decide +kernel
theorem dX7_leaveShare_95 : decode cX7_leaveShare 95 = .ok (.iconst 1, 1) := by decide +kernel
theorem dX7_leaveShare_96 : decode cX7_leaveShare 96 = .ok (.isub, 1) := by decide +kernel
theorem dX7_leaveShare_97 : decode cX7_leaveShare 97 = .ok (.putfield 63, 3) := by decide +kernel
theorem dX7_leaveShare_100 : decode cX7_leaveShare 100 = .ok (.return_, 1) := by decide +kernel
theorem dX7_takeMember_0 : decode cX7_takeMember 0 = .ok (.aload_n 1, 1) := by decide +kernel
theorem dX7_takeMember_1 : decode cX7_takeMember 1 = .ok (.getfield 192, 3) := by decide +kernel
theorem dX7_takeMember_4 : decode cX7_takeMember 4 = .ok (.iconst 0, 1) := by decide +kernel
theorem dX7_takeMember_5 : decode cX7_takeMember 5 = .ok (.iaload, 1) := by decide +kernel
theorem dX7_takeMember_6 : decode cX7_takeMember 6 = .ok (.istore_n 2, 1) := by decide +kernel
theorem dX7_takeMember_7 : decode cX7_takeMember 7 = .ok (.iconst 0, 1) := by decide +kernel
theorem dX7_takeMember_8 : decode cX7_takeMember 8 = .ok (.istore_n 3, 1) := by decide +kernel
theorem dX7_takeMember_9 : decode cX7_takeMember 9 = .ok (.iload_n 3, 1) := by decide +kernel
theorem dX7_takeMember_10 : decode cX7_takeMember 10 = .ok (.aload_n 1, 1) := by decide +kernel
theorem dX7_takeMember_11 : decode cX7_takeMember 11 = .ok (.getfield 171, 3) := by decide +kernel
theorem dX7_takeMember_14 : decode cX7_takeMember 14 = .ok (.if_icmp .ge 42, 3) := by decide +kernel
theorem dX7_takeMember_17 : decode cX7_takeMember 17 = .ok (.iload_n 3, 1) := by decide +kernel
theorem dX7_takeMember_18 : decode cX7_takeMember 18 = .ok (.bipush 6, 2) := by decide +kernel
theorem dX7_takeMember_20 : decode cX7_takeMember 20 = .ok (.if_icmp .ge 36, 3) := by decide +kernel
theorem dX7_takeMember_23 : decode cX7_takeMember 23 = .ok (.aload_n 0, 1) := by decide +kernel
theorem dX7_takeMember_24 : decode cX7_takeMember 24 = .ok (.getfield 17, 3) := by decide +kernel
theorem dX7_takeMember_27 : decode cX7_takeMember 27 = .ok (.aload_n 1, 1) := by decide +kernel
theorem dX7_takeMember_28 : decode cX7_takeMember 28 = .ok (.getfield 192, 3) := by decide +kernel
theorem dX7_takeMember_31 : decode cX7_takeMember 31 = .ok (.iload_n 3, 1) := by decide +kernel
theorem dX7_takeMember_32 : decode cX7_takeMember 32 = .ok (.iaload, 1) := by decide +kernel
theorem dX7_takeMember_33 : decode cX7_takeMember 33 = .ok (.aaload, 1) := by decide +kernel
theorem dX7_takeMember_34 : decode cX7_takeMember 34 = .ok (.getfield 82, 3) := by decide +kernel
theorem dX7_takeMember_37 : decode cX7_takeMember 37 = .ok (.ifCond .eq 13, 3) := by decide +kernel
theorem dX7_takeMember_40 : decode cX7_takeMember 40 = .ok (.aload_n 1, 1) := by decide +kernel
theorem dX7_takeMember_41 : decode cX7_takeMember 41 = .ok (.getfield 192, 3) := by decide +kernel
theorem dX7_takeMember_44 : decode cX7_takeMember 44 = .ok (.iload_n 3, 1) := by decide +kernel
theorem dX7_takeMember_45 : decode cX7_takeMember 45 = .ok (.iaload, 1) := by decide +kernel
theorem dX7_takeMember_46 : decode cX7_takeMember 46 = .ok (.istore_n 2, 1) := by decide +kernel
theorem dX7_takeMember_47 : decode cX7_takeMember 47 = .ok (.goto 9, 3) := by decide +kernel
theorem dX7_takeMember_50 : decode cX7_takeMember 50 = .ok (.iinc 3 1, 3) := by decide +kernel
theorem dX7_takeMember_53 : decode cX7_takeMember 53 = .ok (.goto (-44), 3) := by decide +kernel
theorem dX7_takeMember_56 : decode cX7_takeMember 56 = .ok (.aload_n 1, 1) := by decide +kernel
theorem dX7_takeMember_57 : decode cX7_takeMember 57 = .ok (.iload_n 2, 1) := by decide +kernel
theorem dX7_takeMember_58 : decode cX7_takeMember 58 = .ok (.invokevirtual 189, 3) := by decide +kernel
theorem dX7_takeMember_61 : decode cX7_takeMember 61 = .ok (.aload_n 1, 1) := by decide +kernel
theorem dX7_takeMember_62 : decode cX7_takeMember 62 = .ok (.iload_n 2, 1) := by decide +kernel
theorem dX7_takeMember_63 : decode cX7_takeMember 63 = .ok (.invokevirtual 174, 3) := by decide +kernel
theorem dX7_takeMember_66 : decode cX7_takeMember 66 = .ok (.iload_n 2, 1) := by decide +kernel
theorem dX7_takeMember_67 : decode cX7_takeMember 67 = .ok (.ireturn, 1) := by decide +kernel
theorem dX7_spread_0 : decode cX7_spread 0 = .ok (.aload_n 0, 1) := by decide +kernel
theorem dX7_spread_1 : decode cX7_spread 1 = .ok (.getfield 45, 3) := by decide +kernel
theorem dX7_spread_4 : decode cX7_spread 4 = .ok (.iconst 0, 1) := by decide +kernel
theorem dX7_spread_5 : decode cX7_spread 5 = .ok (.dup2, 1) := by decide +kernel
theorem dX7_spread_6 : decode cX7_spread 6 = .ok (.iaload, 1) := by decide +kernel
theorem dX7_spread_7 : decode cX7_spread 7 = .ok (.iconst 1, 1) := by decide +kernel
theorem dX7_spread_8 : decode cX7_spread 8 = .ok (.iadd, 1) := by decide +kernel
theorem dX7_spread_9 : decode cX7_spread 9 = .ok (.iastore, 1) := by decide +kernel
theorem dX7_spread_10 : decode cX7_spread 10 = .ok (.aload_n 0, 1) := by decide +kernel
theorem dX7_spread_11 : decode cX7_spread 11 = .ok (.getfield 51, 3) := by decide +kernel
theorem dX7_spread_14 : decode cX7_spread 14 = .ok (.aload_n 2, 1) := by decide +kernel
theorem dX7_spread_15 : decode cX7_spread 15 = .ok (.getfield 195, 3) := by decide +kernel
theorem dX7_spread_18 : decode cX7_spread 18 = .ok (.invokevirtual 198, 3) := by decide +kernel
theorem dX7_spread_21 : decode cX7_spread 21 = .ok (.iload_n 3, 1) := by decide +kernel
theorem dX7_spread_22 : decode cX7_spread 22 = .ok (.ifCond .eq 8, 3) := by decide +kernel
theorem dX7_spread_25 : decode cX7_spread 25 = .ok (.aload_n 0, 1) := by decide +kernel
theorem dX7_spread_26 : decode cX7_spread 26 = .ok (.aload_n 2, 1) := by decide +kernel
theorem dX7_spread_27 : decode cX7_spread 27 = .ok (.invokevirtual 200, 3) := by decide +kernel
theorem dX7_spread_30 : decode cX7_spread 30 = .ok (.iconst 0, 1) := by decide +kernel
theorem dX7_spread_31 : decode cX7_spread 31 = .ok (.istore 4, 2) := by decide +kernel
theorem dX7_spread_33 : decode cX7_spread 33 = .ok (.iconst 0, 1) := by decide +kernel
theorem dX7_spread_34 : decode cX7_spread 34 = .ok (.istore 5, 2) := by decide +kernel
theorem dX7_spread_36 : decode cX7_spread 36 = .ok (.iload 5, 2) := by decide +kernel
theorem dX7_spread_38 : decode cX7_spread 38 = .ok (.bipush 6, 2) := by decide +kernel
theorem dX7_spread_40 : decode cX7_spread 40 = .ok (.if_icmp .ge 69, 3) := by decide +kernel
theorem dX7_spread_43 : decode cX7_spread 43 = .ok (.aload_n 0, 1) := by decide +kernel
theorem dX7_spread_44 : decode cX7_spread 44 = .ok (.getfield 17, 3) := by decide +kernel
theorem dX7_spread_47 : decode cX7_spread 47 = .ok (.iload 5, 2) := by decide +kernel
theorem dX7_spread_49 : decode cX7_spread 49 = .ok (.aaload, 1) := by decide +kernel
theorem dX7_spread_50 : decode cX7_spread 50 = .ok (.getfield 95, 3) := by decide +kernel
theorem dX7_spread_53 : decode cX7_spread 53 = .ok (.aload_n 2, 1) := by decide +kernel
theorem dX7_spread_54 : decode cX7_spread 54 = .ok (.getfield 195, 3) := by decide +kernel
theorem dX7_spread_57 : decode cX7_spread 57 = .ok (.iload 5, 2) := by decide +kernel
theorem dX7_spread_59 : decode cX7_spread 59 = .ok (.iload_n 1, 1) := by decide +kernel
theorem dX7_spread_60 : decode cX7_spread 60 = .ok (.if_icmp .ne 7, 3) := by decide +kernel
theorem dX7_spread_63 : decode cX7_spread 63 = .ok (.iconst 1, 1) := by decide +kernel
theorem dX7_spread_64 : decode cX7_spread 64 = .ok (.goto 4, 3) := by decide +kernel
theorem dX7_spread_67 : decode cX7_spread 67 = .ok (.iconst 0, 1) := by decide +kernel
theorem dX7_spread_68 : decode cX7_spread 68 = .ok (.invokevirtual 203, 3) := by decide +kernel
theorem dX7_spread_71 : decode cX7_spread 71 = .ok (.istore 6, 2) := by decide +kernel
theorem dX7_spread_73 : decode cX7_spread 73 = .ok (.iload 6, 2) := by decide +kernel
theorem dX7_spread_75 : decode cX7_spread 75 = .ok (.ifCond .lt 28, 3) := by decide +kernel
theorem dX7_spread_78 : decode cX7_spread 78 = .ok (.aload_n 0, 1) := by decide +kernel
theorem dX7_spread_79 : decode cX7_spread 79 = .ok (.aload_n 0, 1) := by decide +kernel
theorem dX7_spread_80 : decode cX7_spread 80 = .ok (.getfield 17, 3) := by decide +kernel
theorem dX7_spread_83 : decode cX7_spread 83 = .ok (.iload 5, 2) := by decide +kernel
theorem dX7_spread_85 : decode cX7_spread 85 = .ok (.aaload, 1) := by decide +kernel
theorem dX7_spread_86 : decode cX7_spread 86 = .ok (.aload_n 2, 1) := by decide +kernel
theorem dX7_spread_87 : decode cX7_spread 87 = .ok (.aload_n 2, 1) := by decide +kernel
theorem dX7_spread_88 : decode cX7_spread 88 = .ok (.getfield 207, 3) := by decide +kernel
theorem dX7_spread_91 : decode cX7_spread 91 = .ok (.iload 6, 2) := by decide +kernel
theorem dX7_spread_93 : decode cX7_spread 93 = .ok (.invokestatic 128, 3) := by decide +kernel
theorem dX7_spread_96 : decode cX7_spread 96 = .ok (.iconst 0, 1) := by decide +kernel
theorem dX7_spread_97 : decode cX7_spread 97 = .ok (.invokevirtual 210, 3) := by decide +kernel
theorem dX7_spread_100 : decode cX7_spread 100 = .ok (.iinc 4 1, 3) := by decide +kernel
theorem dX7_spread_103 : decode cX7_spread 103 = .ok (.iinc 5 1, 3) := by decide +kernel
theorem dX7_spread_106 : decode cX7_spread 106 = .ok (.goto (-70), 3) := by decide +kernel
theorem dX7_spread_109 : decode cX7_spread 109 = .ok (.iconst 0, 1) := by decide +kernel
theorem dX7_spread_110 : decode cX7_spread 110 = .ok (.istore 5, 2) := by decide +kernel
theorem dX7_spread_112 : decode cX7_spread 112 = .ok (.iload 5, 2) := by decide +kernel
theorem dX7_spread_114 : decode cX7_spread 114 = .ok (.aload_n 0, 1) := by decide +kernel
theorem dX7_spread_115 : decode cX7_spread 115 = .ok (.getfield 63, 3) := by decide +kernel
theorem dX7_spread_118 : decode cX7_spread 118 = .ok (.if_icmp .ge 93, 3) := by decide +kernel
theorem dX7_spread_121 : decode cX7_spread 121 = .ok (.iload 5, 2) := by decide +kernel
theorem dX7_spread_123 : decode cX7_spread 123 = .ok (.bipush 36, 2) := by decide +kernel
theorem dX7_spread_125 : decode cX7_spread 125 = .ok (.if_icmp .ge 86, 3) := by decide +kernel
theorem dX7_spread_128 : decode cX7_spread 128 = .ok (.aload_n 0, 1) := by decide +kernel
theorem dX7_spread_129 : decode cX7_spread 129 = .ok (.getfield 26, 3) := by decide +kernel
theorem dX7_spread_132 : decode cX7_spread 132 = .ok (.iload 5, 2) := by decide +kernel
theorem dX7_spread_134 : decode cX7_spread 134 = .ok (.aaload, 1) := by decide +kernel
theorem dX7_spread_135 : decode cX7_spread 135 = .ok (.astore 6, 2) := by decide +kernel
theorem dX7_spread_137 : decode cX7_spread 137 = .ok (.aload 6, 2) := by decide +kernel
theorem dX7_spread_139 : decode cX7_spread 139 = .ok (.getfield 165, 3) := by decide +kernel
theorem dX7_spread_142 : decode cX7_spread 142 = .ok (.aload_n 2, 1) := by decide +kernel
theorem dX7_spread_143 : decode cX7_spread 143 = .ok (.getfield 195, 3) := by decide +kernel
theorem dX7_spread_146 : decode cX7_spread 146 = .ok (.invokevirtual 214, 3) := by decide +kernel
theorem dX7_spread_149 : decode cX7_spread 149 = .ok (.ifCond .eq 56, 3) := by decide +kernel
theorem dX7_spread_152 : decode cX7_spread 152 = .ok (.aload_n 0, 1) := by decide +kernel
theorem dX7_spread_153 : decode cX7_spread 153 = .ok (.getfield 17, 3) := by decide +kernel
theorem dX7_spread_156 : decode cX7_spread 156 = .ok (.aload_n 0, 1) := by decide +kernel
theorem dX7_spread_157 : decode cX7_spread 157 = .ok (.aload 6, 2) := by decide +kernel
theorem dX7_spread_159 : decode cX7_spread 159 = .ok (.invokevirtual 217, 3) := by decide +kernel
theorem dX7_spread_162 : decode cX7_spread 162 = .ok (.aaload, 1) := by decide +kernel
theorem dX7_spread_163 : decode cX7_spread 163 = .ok (.astore 7, 2) := by decide +kernel
theorem dX7_spread_165 : decode cX7_spread 165 = .ok (.aload 7, 2) := by decide +kernel
theorem dX7_spread_167 : decode cX7_spread 167 = .ok (.getfield 95, 3) := by decide +kernel
theorem dX7_spread_170 : decode cX7_spread 170 = .ok (.aload 6, 2) := by decide +kernel
theorem dX7_spread_172 : decode cX7_spread 172 = .ok (.getfield 165, 3) := by decide +kernel
theorem dX7_spread_175 : decode cX7_spread 175 = .ok (.aload 6, 2) := by decide +kernel
theorem dX7_spread_177 : decode cX7_spread 177 = .ok (.getfield 168, 3) := by decide +kernel
theorem dX7_spread_180 : decode cX7_spread 180 = .ok (.invokevirtual 221, 3) := by decide +kernel
theorem dX7_spread_183 : decode cX7_spread 183 = .ok (.istore 8, 2) := by decide +kernel
theorem dX7_spread_185 : decode cX7_spread 185 = .ok (.aload_n 0, 1) := by decide +kernel
theorem dX7_spread_186 : decode cX7_spread 186 = .ok (.aload 7, 2) := by decide +kernel
theorem dX7_spread_188 : decode cX7_spread 188 = .ok (.aload_n 2, 1) := by decide +kernel
theorem dX7_spread_189 : decode cX7_spread 189 = .ok (.aload_n 2, 1) := by decide +kernel
theorem dX7_spread_190 : decode cX7_spread 190 = .ok (.getfield 207, 3) := by decide +kernel
theorem dX7_spread_193 : decode cX7_spread 193 = .ok (.iload 8, 2) := by decide +kernel
theorem dX7_spread_195 : decode cX7_spread 195 = .ok (.invokestatic 128, 3) := by decide +kernel
theorem dX7_spread_198 : decode cX7_spread 198 = .ok (.iconst 0, 1) := by decide +kernel
theorem dX7_spread_199 : decode cX7_spread 199 = .ok (.invokevirtual 210, 3) := by decide +kernel
theorem dX7_spread_202 : decode cX7_spread 202 = .ok (.iinc 4 1, 3) := by decide +kernel
theorem dX7_spread_205 : decode cX7_spread 205 = .ok (.iinc 5 1, 3) := by decide +kernel
theorem dX7_spread_208 : decode cX7_spread 208 = .ok (.goto (-96), 3) := by decide +kernel
theorem dX7_spread_211 : decode cX7_spread 211 = .ok (.iload 4, 2) := by decide +kernel
theorem dX7_spread_213 : decode cX7_spread 213 = .ok (.ireturn, 1) := by decide +kernel
theorem dX7_countAudience_0 : decode cX7_countAudience 0 = .ok (.iconst 0, 1) := by decide +kernel
theorem dX7_countAudience_1 : decode cX7_countAudience 1 = .ok (.istore_n 3, 1) := by decide +kernel
theorem dX7_countAudience_2 : decode cX7_countAudience 2 = .ok (.iconst 0, 1) := by decide +kernel
theorem dX7_countAudience_3 : decode cX7_countAudience 3 = .ok (.istore 4, 2) := by decide +kernel
theorem dX7_countAudience_5 : decode cX7_countAudience 5 = .ok (.iload 4, 2) := by decide +kernel
theorem dX7_countAudience_7 : decode cX7_countAudience 7 = .ok (.bipush 6, 2) := by decide +kernel
theorem dX7_countAudience_9 : decode cX7_countAudience 9 = .ok (.if_icmp .ge 40, 3) := by decide +kernel
theorem dX7_countAudience_12 : decode cX7_countAudience 12 = .ok (.aload_n 0, 1) := by decide +kernel
theorem dX7_countAudience_13 : decode cX7_countAudience 13 = .ok (.getfield 17, 3) := by decide +kernel
theorem dX7_countAudience_16 : decode cX7_countAudience 16 = .ok (.iload 4, 2) := by decide +kernel
theorem dX7_countAudience_18 : decode cX7_countAudience 18 = .ok (.aaload, 1) := by decide +kernel
theorem dX7_countAudience_19 : decode cX7_countAudience 19 = .ok (.getfield 95, 3) := by decide +kernel
theorem dX7_countAudience_22 : decode cX7_countAudience 22 = .ok (.aload_n 2, 1) := by decide +kernel
theorem dX7_countAudience_23 : decode cX7_countAudience 23 = .ok (.iload 4, 2) := by decide +kernel
theorem dX7_countAudience_25 : decode cX7_countAudience 25 = .ok (.iload_n 1, 1) := by decide +kernel
theorem dX7_countAudience_26 : decode cX7_countAudience 26 = .ok (.if_icmp .ne 7, 3) := by decide +kernel
theorem dX7_countAudience_29 : decode cX7_countAudience 29 = .ok (.iconst 1, 1) := by decide +kernel
theorem dX7_countAudience_30 : decode cX7_countAudience 30 = .ok (.goto 4, 3) := by decide +kernel
theorem dX7_countAudience_33 : decode cX7_countAudience 33 = .ok (.iconst 0, 1) := by decide +kernel
theorem dX7_countAudience_34 : decode cX7_countAudience 34 = .ok (.invokevirtual 203, 3) := by decide +kernel
theorem dX7_countAudience_37 : decode cX7_countAudience 37 = .ok (.ifCond .lt 6, 3) := by decide +kernel
theorem dX7_countAudience_40 : decode cX7_countAudience 40 = .ok (.iinc 3 1, 3) := by decide +kernel
theorem dX7_countAudience_43 : decode cX7_countAudience 43 = .ok (.iinc 4 1, 3) := by decide +kernel
theorem dX7_countAudience_46 : decode cX7_countAudience 46 = .ok (.goto (-41), 3) := by decide +kernel
theorem dX7_countAudience_49 : decode cX7_countAudience 49 = .ok (.iconst 0, 1) := by decide +kernel
theorem dX7_countAudience_50 : decode cX7_countAudience 50 = .ok (.istore 4, 2) := by decide +kernel
theorem dX7_countAudience_52 : decode cX7_countAudience 52 = .ok (.iload 4, 2) := by decide +kernel
theorem dX7_countAudience_54 : decode cX7_countAudience 54 = .ok (.aload_n 0, 1) := by decide +kernel
theorem dX7_countAudience_55 : decode cX7_countAudience 55 = .ok (.getfield 63, 3) := by decide +kernel
theorem dX7_countAudience_58 : decode cX7_countAudience 58 = .ok (.if_icmp .ge 36, 3) := by decide +kernel
theorem dX7_countAudience_61 : decode cX7_countAudience 61 = .ok (.iload 4, 2) := by decide +kernel
theorem dX7_countAudience_63 : decode cX7_countAudience 63 = .ok (.bipush 36, 2) := by decide +kernel
theorem dX7_countAudience_65 : decode cX7_countAudience 65 = .ok (.if_icmp .ge 29, 3) := by decide +kernel
theorem dX7_countAudience_68 : decode cX7_countAudience 68 = .ok (.aload_n 0, 1) := by decide +kernel
theorem dX7_countAudience_69 : decode cX7_countAudience 69 = .ok (.getfield 26, 3) := by decide +kernel
theorem dX7_countAudience_72 : decode cX7_countAudience 72 = .ok (.iload 4, 2) := by decide +kernel
theorem dX7_countAudience_74 : decode cX7_countAudience 74 = .ok (.aaload, 1) := by decide +kernel
theorem dX7_countAudience_75 : decode cX7_countAudience 75 = .ok (.getfield 165, 3) := by decide +kernel
theorem dX7_countAudience_78 : decode cX7_countAudience 78 = .ok (.aload_n 2, 1) := by decide +kernel
theorem dX7_countAudience_79 : decode cX7_countAudience 79 = .ok (.invokevirtual 214, 3) := by decide +kernel
theorem dX7_countAudience_82 : decode cX7_countAudience 82 = .ok (.ifCond .eq 6, 3) := by decide +kernel
theorem dX7_countAudience_85 : decode cX7_countAudience 85 = .ok (.iinc 3 1, 3) := by decide +kernel
theorem dX7_countAudience_88 : decode cX7_countAudience 88 = .ok (.iinc 4 1, 3) := by decide +kernel
theorem dX7_countAudience_91 : decode cX7_countAudience 91 = .ok (.goto (-39), 3) := by decide +kernel
theorem dX7_countAudience_94 : decode cX7_countAudience 94 = .ok (.iload_n 3, 1) := by decide +kernel
theorem dX7_countAudience_95 : decode cX7_countAudience 95 = .ok (.ireturn, 1) := by decide +kernel
theorem dX7_keepRetained_0 : decode cX7_keepRetained 0 = .ok (.iconst 0, 1) := by decide +kernel
theorem dX7_keepRetained_1 : decode cX7_keepRetained 1 = .ok (.istore_n 2, 1) := by decide +kernel
theorem dX7_keepRetained_2 : decode cX7_keepRetained 2 = .ok (.iload_n 2, 1) := by decide +kernel
theorem dX7_keepRetained_3 : decode cX7_keepRetained 3 = .ok (.aload_n 0, 1) := by decide +kernel
theorem dX7_keepRetained_4 : decode cX7_keepRetained 4 = .ok (.getfield 70, 3) := by decide +kernel
theorem dX7_keepRetained_7 : decode cX7_keepRetained 7 = .ok (.if_icmp .ge 34, 3) := by decide +kernel
theorem dX7_keepRetained_10 : decode cX7_keepRetained 10 = .ok (.iload_n 2, 1) := by decide +kernel
theorem dX7_keepRetained_11 : decode cX7_keepRetained 11 = .ok (.bipush 8, 2) := by decide +kernel
theorem dX7_keepRetained_13 : decode cX7_keepRetained 13 = .ok (.if_icmp .ge 28, 3) := by decide +kernel
theorem dX7_keepRetained_16 : decode cX7_keepRetained 16 = .ok (.aload_n 0, 1) := by decide +kernel
theorem dX7_keepRetained_17 : decode cX7_keepRetained 17 = .ok (.getfield 33, 3) := by decide +kernel
theorem dX7_keepRetained_20 : decode cX7_keepRetained 20 = .ok (.iload_n 2, 1) := by decide +kernel
theorem dX7_keepRetained_21 : decode cX7_keepRetained 21 = .ok (.aaload, 1) := by decide +kernel
theorem dX7_keepRetained_22 : decode cX7_keepRetained 22 = .ok (.getfield 195, 3) := by decide +kernel
theorem dX7_keepRetained_25 : decode cX7_keepRetained 25 = .ok (.aload_n 1, 1) := by decide +kernel
theorem dX7_keepRetained_26 : decode cX7_keepRetained 26 = .ok (.getfield 195, 3) := by decide +kernel
theorem dX7_keepRetained_29 : decode cX7_keepRetained 29 = .ok (.invokevirtual 224, 3) := by decide +kernel
theorem dX7_keepRetained_32 : decode cX7_keepRetained 32 = .ok (.ifCond .ge 9, 3) := by decide +kernel
theorem dX7_keepRetained_35 : decode cX7_keepRetained 35 = .ok (.iinc 2 1, 3) := by decide +kernel
theorem dX7_keepRetained_38 : decode cX7_keepRetained 38 = .ok (.goto (-36), 3) := by decide +kernel
theorem dX7_keepRetained_41 : decode cX7_keepRetained 41 = .ok (.iload_n 2, 1) := by decide +kernel
theorem dX7_keepRetained_42 : decode cX7_keepRetained 42 = .ok (.aload_n 0, 1) := by decide +kernel
theorem dX7_keepRetained_43 : decode cX7_keepRetained 43 = .ok (.getfield 70, 3) := by decide +kernel
theorem dX7_keepRetained_46 : decode cX7_keepRetained 46 = .ok (.if_icmp .ge 32, 3) := by decide +kernel
theorem dX7_keepRetained_49 : decode cX7_keepRetained 49 = .ok (.iload_n 2, 1) := by decide +kernel
theorem dX7_keepRetained_50 : decode cX7_keepRetained 50 = .ok (.bipush 8, 2) := by decide +kernel
theorem dX7_keepRetained_52 : decode cX7_keepRetained 52 = .ok (.if_icmp .ge 26, 3) := by decide +kernel
theorem dX7_keepRetained_55 : decode cX7_keepRetained 55 = .ok (.aload_n 0, 1) := by decide +kernel
theorem dX7_keepRetained_56 : decode cX7_keepRetained 56 = .ok (.getfield 33, 3) := by decide +kernel
theorem dX7_keepRetained_59 : decode cX7_keepRetained 59 = .ok (.iload_n 2, 1) := by decide +kernel
theorem dX7_keepRetained_60 : decode cX7_keepRetained 60 = .ok (.aaload, 1) := by decide +kernel
theorem dX7_keepRetained_61 : decode cX7_keepRetained 61 = .ok (.getfield 195, 3) := by decide +kernel
theorem dX7_keepRetained_64 : decode cX7_keepRetained 64 = .ok (.aload_n 1, 1) := by decide +kernel
theorem dX7_keepRetained_65 : decode cX7_keepRetained 65 = .ok (.getfield 195, 3) := by decide +kernel
theorem dX7_keepRetained_68 : decode cX7_keepRetained 68 = .ok (.invokevirtual 183, 3) := by decide +kernel
theorem dX7_keepRetained_71 : decode cX7_keepRetained 71 = .ok (.ifCond .eq 7, 3) := by decide +kernel
theorem dX7_keepRetained_74 : decode cX7_keepRetained 74 = .ok (.iconst 1, 1) := by decide +kernel
theorem dX7_keepRetained_75 : decode cX7_keepRetained 75 = .ok (.goto 4, 3) := by decide +kernel
theorem dX7_keepRetained_78 : decode cX7_keepRetained 78 = .ok (.iconst 0, 1) := by decide +kernel
theorem dX7_keepRetained_79 : decode cX7_keepRetained 79 = .ok (.istore_n 3, 1) := by decide +kernel
theorem dX7_keepRetained_80 : decode cX7_keepRetained 80 = .ok (.aload_n 1, 1) := by decide +kernel
theorem dX7_keepRetained_81 : decode cX7_keepRetained 81 = .ok (.getfield 228, 3) := by decide +kernel
theorem dX7_keepRetained_84 : decode cX7_keepRetained 84 = .ok (.ifCond .ne 13, 3) := by decide +kernel
theorem dX7_keepRetained_87 : decode cX7_keepRetained 87 = .ok (.iload_n 3, 1) := by decide +kernel
theorem dX7_keepRetained_88 : decode cX7_keepRetained 88 = .ok (.ifCond .eq 8, 3) := by decide +kernel
theorem dX7_keepRetained_91 : decode cX7_keepRetained 91 = .ok (.aload_n 0, 1) := by decide +kernel
theorem dX7_keepRetained_92 : decode cX7_keepRetained 92 = .ok (.iload_n 2, 1) := by decide +kernel
theorem dX7_keepRetained_93 : decode cX7_keepRetained 93 = .ok (.invokevirtual 231, 3) := by decide +kernel
theorem dX7_keepRetained_96 : decode cX7_keepRetained 96 = .ok (.return_, 1) := by decide +kernel
theorem dX7_keepRetained_97 : decode cX7_keepRetained 97 = .ok (.iload_n 3, 1) := by decide +kernel
theorem dX7_keepRetained_98 : decode cX7_keepRetained 98 = .ok (.ifCond .ne 18, 3) := by decide +kernel
theorem dX7_keepRetained_101 : decode cX7_keepRetained 101 = .ok (.aload_n 0, 1) := by decide +kernel
theorem dX7_keepRetained_102 : decode cX7_keepRetained 102 = .ok (.getfield 70, 3) := by decide +kernel
theorem dX7_keepRetained_105 : decode cX7_keepRetained 105 = .ok (.bipush 8, 2) := by decide +kernel
theorem dX7_keepRetained_107 : decode cX7_keepRetained 107 = .ok (.if_icmp .lt 4, 3) := by decide +kernel
theorem dX7_keepRetained_110 : decode cX7_keepRetained 110 = .ok (.return_, 1) := by decide +kernel
theorem dX7_keepRetained_111 : decode cX7_keepRetained 111 = .ok (.aload_n 0, 1) := by decide +kernel
theorem dX7_keepRetained_112 : decode cX7_keepRetained 112 = .ok (.iload_n 2, 1) := by decide +kernel
theorem dX7_keepRetained_113 : decode cX7_keepRetained 113 = .ok (.invokevirtual 234, 3) := by decide +kernel
theorem dX7_keepRetained_116 : decode cX7_keepRetained 116 = .ok (.aload_n 0, 1) := by decide +kernel
theorem dX7_keepRetained_117 : decode cX7_keepRetained 117 = .ok (.getfield 33, 3) := by decide +kernel
theorem dX7_keepRetained_120 : decode cX7_keepRetained 120 = .ok (.iload_n 2, 1) := by decide +kernel
theorem dX7_keepRetained_121 : decode cX7_keepRetained 121 = .ok (.aaload, 1) := by decide +kernel
theorem dX7_keepRetained_122 : decode cX7_keepRetained 122 = .ok (.aload_n 1, 1) := by decide +kernel
theorem dX7_keepRetained_123 : decode cX7_keepRetained 123 = .ok (.invokevirtual 73, 3) := by decide +kernel
theorem dX7_keepRetained_126 : decode cX7_keepRetained 126 = .ok (.return_, 1) := by decide +kernel
theorem dX7_dropRetained_0 : decode cX7_dropRetained 0 = .ok (.aload_n 0, 1) := by decide +kernel
theorem dX7_dropRetained_1 : decode cX7_dropRetained 1 = .ok (.getfield 33, 3) := by decide +kernel
theorem dX7_dropRetained_4 : decode cX7_dropRetained 4 = .ok (.iload_n 1, 1) := by decide +kernel
theorem dX7_dropRetained_5 : decode cX7_dropRetained 5 = .ok (.aaload, 1) := by decide +kernel
theorem dX7_dropRetained_6 : decode cX7_dropRetained 6 = .ok (.astore_n 2, 1) := by decide +kernel
theorem dX7_dropRetained_7 : decode cX7_dropRetained 7 = .ok (.iload_n 1, 1) := by decide +kernel
theorem dX7_dropRetained_8 : decode cX7_dropRetained 8 = .ok (.istore_n 3, 1) := by decide +kernel
theorem dX7_dropRetained_9 : decode cX7_dropRetained 9 = .ok (.iload_n 3, 1) := by decide +kernel
theorem dX7_dropRetained_10 : decode cX7_dropRetained 10 = .ok (.iconst 1, 1) := by decide +kernel
theorem dX7_dropRetained_11 : decode cX7_dropRetained 11 = .ok (.iadd, 1) := by decide +kernel
theorem dX7_dropRetained_12 : decode cX7_dropRetained 12 = .ok (.aload_n 0, 1) := by decide +kernel
theorem dX7_dropRetained_13 : decode cX7_dropRetained 13 = .ok (.getfield 70, 3) := by decide +kernel
theorem dX7_dropRetained_16 : decode cX7_dropRetained 16 = .ok (.if_icmp .ge 23, 3) := by decide +kernel
theorem dX7_dropRetained_19 : decode cX7_dropRetained 19 = .ok (.aload_n 0, 1) := by decide +kernel
theorem dX7_dropRetained_20 : decode cX7_dropRetained 20 = .ok (.getfield 33, 3) := by decide +kernel
theorem dX7_dropRetained_23 : decode cX7_dropRetained 23 = .ok (.iload_n 3, 1) := by decide +kernel
theorem dX7_dropRetained_24 : decode cX7_dropRetained 24 = .ok (.aload_n 0, 1) := by decide +kernel
theorem dX7_dropRetained_25 : decode cX7_dropRetained 25 = .ok (.getfield 33, 3) := by decide +kernel
theorem dX7_dropRetained_28 : decode cX7_dropRetained 28 = .ok (.iload_n 3, 1) := by decide +kernel
theorem dX7_dropRetained_29 : decode cX7_dropRetained 29 = .ok (.iconst 1, 1) := by decide +kernel
theorem dX7_dropRetained_30 : decode cX7_dropRetained 30 = .ok (.iadd, 1) := by decide +kernel
theorem dX7_dropRetained_31 : decode cX7_dropRetained 31 = .ok (.aaload, 1) := by decide +kernel
theorem dX7_dropRetained_32 : decode cX7_dropRetained 32 = .ok (.aastore, 1) := by decide +kernel
theorem dX7_dropRetained_33 : decode cX7_dropRetained 33 = .ok (.iinc 3 1, 3) := by decide +kernel
theorem dX7_dropRetained_36 : decode cX7_dropRetained 36 = .ok (.goto (-27), 3) := by decide +kernel
theorem dX7_dropRetained_39 : decode cX7_dropRetained 39 = .ok (.aload_n 0, 1) := by decide +kernel
theorem dX7_dropRetained_40 : decode cX7_dropRetained 40 = .ok (.getfield 33, 3) := by decide +kernel
theorem dX7_dropRetained_43 : decode cX7_dropRetained 43 = .ok (.aload_n 0, 1) := by decide +kernel
theorem dX7_dropRetained_44 : decode cX7_dropRetained 44 = .ok (.getfield 70, 3) := by decide +kernel
theorem dX7_dropRetained_47 : decode cX7_dropRetained 47 = .ok (.iconst 1, 1) := by decide +kernel
theorem dX7_dropRetained_48 : decode cX7_dropRetained 48 = .ok (.isub, 1) := by decide +kernel
theorem dX7_dropRetained_49 : decode cX7_dropRetained 49 = .ok (.aload_n 2, 1) := by decide +kernel
theorem dX7_dropRetained_50 : decode cX7_dropRetained 50 = .ok (.aastore, 1) := by decide +kernel
theorem dX7_dropRetained_51 : decode cX7_dropRetained 51 = .ok (.aload_n 0, 1) := by decide +kernel
theorem dX7_dropRetained_52 : decode cX7_dropRetained 52 = .ok (.dup, 1) := by decide +kernel
theorem dX7_dropRetained_53 : decode cX7_dropRetained 53 = .ok (.getfield 70, 3) := by decide +kernel
theorem dX7_dropRetained_56 : decode cX7_dropRetained 56 = .ok (.iconst 1, 1) := by decide +kernel
theorem dX7_dropRetained_57 : decode cX7_dropRetained 57 = .ok (.isub, 1) := by decide +kernel
theorem dX7_dropRetained_58 : decode cX7_dropRetained 58 = .ok (.putfield 70, 3) := by decide +kernel
theorem dX7_dropRetained_61 : decode cX7_dropRetained 61 = .ok (.return_, 1) := by decide +kernel
theorem dX7_openRetained_0 : decode cX7_openRetained 0 = .ok (.aload_n 0, 1) := by decide +kernel
theorem dX7_openRetained_1 : decode cX7_openRetained 1 = .ok (.getfield 33, 3) := by decide +kernel
theorem dX7_openRetained_4 : decode cX7_openRetained 4 = .ok (.aload_n 0, 1) := by decide +kernel
theorem dX7_openRetained_5 : decode cX7_openRetained 5 = .ok (.getfield 70, 3) := by decide +kernel
theorem dX7_openRetained_8 : decode cX7_openRetained 8 = .ok (.aaload, 1) := by decide +kernel
theorem dX7_openRetained_9 : decode cX7_openRetained 9 = .ok (.astore_n 2, 1) := by decide +kernel
theorem dX7_openRetained_10 : decode cX7_openRetained 10 = .ok (.aload_n 0, 1) := by decide +kernel
theorem dX7_openRetained_11 : decode cX7_openRetained 11 = .ok (.getfield 70, 3) := by decide +kernel
theorem dX7_openRetained_14 : decode cX7_openRetained 14 = .ok (.istore_n 3, 1) := by decide +kernel
theorem dX7_openRetained_15 : decode cX7_openRetained 15 = .ok (.iload_n 3, 1) := by decide +kernel
end
section
theorem dX7_openRetained_16 : decode cX7_openRetained 16 = .ok (.iload_n 1, 1) := by decide +kernel
theorem dX7_openRetained_17 : decode cX7_openRetained 17 = .ok (.if_icmp .le 23, 3) := by decide +kernel
theorem dX7_openRetained_20 : decode cX7_openRetained 20 = .ok (.aload_n 0, 1) := by decide +kernel
theorem dX7_openRetained_21 : decode cX7_openRetained 21 = .ok (.getfield 33, 3) := by decide +kernel
theorem dX7_openRetained_24 : decode cX7_openRetained 24 = .ok (.iload_n 3, 1) := by decide +kernel
theorem dX7_openRetained_25 : decode cX7_openRetained 25 = .ok (.aload_n 0, 1) := by decide +kernel
theorem dX7_openRetained_26 : decode cX7_openRetained 26 = .ok (.getfield 33, 3) := by decide +kernel
theorem dX7_openRetained_29 : decode cX7_openRetained 29 = .ok (.iload_n 3, 1) := by decide +kernel
theorem dX7_openRetained_30 : decode cX7_openRetained 30 = .ok (.iconst 1, 1) := by decide +kernel
theorem dX7_openRetained_31 : decode cX7_openRetained 31 = .ok (.isub, 1) := by decide +kernel
theorem dX7_openRetained_32 : decode cX7_openRetained 32 = .ok (.aaload, 1) := by decide +kernel
theorem dX7_openRetained_33 : decode cX7_openRetained 33 = .ok (.aastore, 1) := by decide +kernel
theorem dX7_openRetained_34 : decode cX7_openRetained 34 = .ok (.iinc 3 (-1), 3) := by decide +kernel
theorem dX7_openRetained_37 : decode cX7_openRetained 37 = .ok (.goto (-22), 3) := by decide +kernel
theorem dX7_openRetained_40 : decode cX7_openRetained 40 = .ok (.aload_n 0, 1) := by decide +kernel
theorem dX7_openRetained_41 : decode cX7_openRetained 41 = .ok (.getfield 33, 3) := by decide +kernel
theorem dX7_openRetained_44 : decode cX7_openRetained 44 = .ok (.iload_n 1, 1) := by decide +kernel
theorem dX7_openRetained_45 : decode cX7_openRetained 45 = .ok (.aload_n 2, 1) := by decide +kernel
theorem dX7_openRetained_46 : decode cX7_openRetained 46 = .ok (.aastore, 1) := by decide +kernel
theorem dX7_openRetained_47 : decode cX7_openRetained 47 = .ok (.aload_n 0, 1) := by decide +kernel
theorem dX7_openRetained_48 : decode cX7_openRetained 48 = .ok (.dup, 1) := by decide +kernel
theorem dX7_openRetained_49 : decode cX7_openRetained 49 = .ok (.getfield 70, 3) := by decide +kernel
theorem dX7_openRetained_52 : decode cX7_openRetained 52 = .ok (.iconst 1, 1) := by decide +kernel
theorem dX7_openRetained_53 : decode cX7_openRetained 53 = .ok (.iadd, 1) := by decide +kernel
theorem dX7_openRetained_54 : decode cX7_openRetained 54 = .ok (.putfield 70, 3) := by decide +kernel
theorem dX7_openRetained_57 : decode cX7_openRetained 57 = .ok (.return_, 1) := by decide +kernel
theorem dX7_giveRetained_0 : decode cX7_giveRetained 0 = .ok (.iconst 0, 1) := by decide +kernel
theorem dX7_giveRetained_1 : decode cX7_giveRetained 1 = .ok (.istore 4, 2) := by decide +kernel
theorem dX7_giveRetained_3 : decode cX7_giveRetained 3 = .ok (.iload 4, 2) := by decide +kernel
theorem dX7_giveRetained_5 : decode cX7_giveRetained 5 = .ok (.aload_n 0, 1) := by decide +kernel
theorem dX7_giveRetained_6 : decode cX7_giveRetained 6 = .ok (.getfield 70, 3) := by decide +kernel
theorem dX7_giveRetained_9 : decode cX7_giveRetained 9 = .ok (.if_icmp .ge 59, 3) := by decide +kernel
theorem dX7_giveRetained_12 : decode cX7_giveRetained 12 = .ok (.iload 4, 2) := by decide +kernel
theorem dX7_giveRetained_14 : decode cX7_giveRetained 14 = .ok (.bipush 8, 2) := by decide +kernel
theorem dX7_giveRetained_16 : decode cX7_giveRetained 16 = .ok (.if_icmp .ge 52, 3) := by decide +kernel
theorem dX7_giveRetained_19 : decode cX7_giveRetained 19 = .ok (.aload_n 0, 1) := by decide +kernel
theorem dX7_giveRetained_20 : decode cX7_giveRetained 20 = .ok (.getfield 33, 3) := by decide +kernel
theorem dX7_giveRetained_23 : decode cX7_giveRetained 23 = .ok (.iload 4, 2) := by decide +kernel
theorem dX7_giveRetained_25 : decode cX7_giveRetained 25 = .ok (.aaload, 1) := by decide +kernel
theorem dX7_giveRetained_26 : decode cX7_giveRetained 26 = .ok (.astore 5, 2) := by decide +kernel
theorem dX7_giveRetained_28 : decode cX7_giveRetained 28 = .ok (.aload_n 2, 1) := by decide +kernel
theorem dX7_giveRetained_29 : decode cX7_giveRetained 29 = .ok (.aload 5, 2) := by decide +kernel
theorem dX7_giveRetained_31 : decode cX7_giveRetained 31 = .ok (.getfield 195, 3) := by decide +kernel
theorem dX7_giveRetained_34 : decode cX7_giveRetained 34 = .ok (.invokevirtual 214, 3) := by decide +kernel
theorem dX7_giveRetained_37 : decode cX7_giveRetained 37 = .ok (.ifCond .eq 25, 3) := by decide +kernel
theorem dX7_giveRetained_40 : decode cX7_giveRetained 40 = .ok (.aload_n 0, 1) := by decide +kernel
theorem dX7_giveRetained_41 : decode cX7_giveRetained 41 = .ok (.aload_n 0, 1) := by decide +kernel
theorem dX7_giveRetained_42 : decode cX7_giveRetained 42 = .ok (.getfield 17, 3) := by decide +kernel
theorem dX7_giveRetained_45 : decode cX7_giveRetained 45 = .ok (.iload_n 1, 1) := by decide +kernel
theorem dX7_giveRetained_46 : decode cX7_giveRetained 46 = .ok (.aaload, 1) := by decide +kernel
theorem dX7_giveRetained_47 : decode cX7_giveRetained 47 = .ok (.aload 5, 2) := by decide +kernel
theorem dX7_giveRetained_49 : decode cX7_giveRetained 49 = .ok (.aload 5, 2) := by decide +kernel
theorem dX7_giveRetained_51 : decode cX7_giveRetained 51 = .ok (.getfield 207, 3) := by decide +kernel
theorem dX7_giveRetained_54 : decode cX7_giveRetained 54 = .ok (.iload_n 3, 1) := by decide +kernel
theorem dX7_giveRetained_55 : decode cX7_giveRetained 55 = .ok (.invokestatic 128, 3) := by decide +kernel
theorem dX7_giveRetained_58 : decode cX7_giveRetained 58 = .ok (.iconst 2, 1) := by decide +kernel
theorem dX7_giveRetained_59 : decode cX7_giveRetained 59 = .ok (.invokevirtual 210, 3) := by decide +kernel
theorem dX7_giveRetained_62 : decode cX7_giveRetained 62 = .ok (.iinc 4 1, 3) := by decide +kernel
theorem dX7_giveRetained_65 : decode cX7_giveRetained 65 = .ok (.goto (-62), 3) := by decide +kernel
theorem dX7_giveRetained_68 : decode cX7_giveRetained 68 = .ok (.return_, 1) := by decide +kernel
theorem dX7_give_0 : decode cX7_give 0 = .ok (.aload_n 0, 1) := by decide +kernel
theorem dX7_give_1 : decode cX7_give 1 = .ok (.getfield 45, 3) := by decide +kernel
theorem dX7_give_4 : decode cX7_give 4 = .ok (.iconst 1, 1) := by decide +kernel
theorem dX7_give_5 : decode cX7_give 5 = .ok (.dup2, 1) := by decide +kernel
theorem dX7_give_6 : decode cX7_give 6 = .ok (.iaload, 1) := by decide +kernel
theorem dX7_give_7 : decode cX7_give 7 = .ok (.iconst 1, 1) := by decide +kernel
theorem dX7_give_8 : decode cX7_give 8 = .ok (.iadd, 1) := by decide +kernel
theorem dX7_give_9 : decode cX7_give 9 = .ok (.iastore, 1) := by decide +kernel
theorem dX7_give_10 : decode cX7_give 10 = .ok (.aload_n 0, 1) := by decide +kernel
theorem dX7_give_11 : decode cX7_give 11 = .ok (.getfield 55, 3) := by decide +kernel
theorem dX7_give_14 : decode cX7_give 14 = .ok (.aload_n 2, 1) := by decide +kernel
theorem dX7_give_15 : decode cX7_give 15 = .ok (.getfield 195, 3) := by decide +kernel
theorem dX7_give_18 : decode cX7_give 18 = .ok (.iload_n 3, 1) := by decide +kernel
theorem dX7_give_19 : decode cX7_give 19 = .ok (.aload_n 2, 1) := by decide +kernel
theorem dX7_give_20 : decode cX7_give 20 = .ok (.getfield 228, 3) := by decide +kernel
theorem dX7_give_23 : decode cX7_give 23 = .ok (.invokevirtual 237, 3) := by decide +kernel
theorem dX7_give_26 : decode cX7_give 26 = .ok (.aload_n 0, 1) := by decide +kernel
theorem dX7_give_27 : decode cX7_give 27 = .ok (.getfield 55, 3) := by decide +kernel
theorem dX7_give_30 : decode cX7_give 30 = .ok (.iload 4, 2) := by decide +kernel
theorem dX7_give_32 : decode cX7_give 32 = .ok (.putfield 241, 3) := by decide +kernel
theorem dX7_give_35 : decode cX7_give 35 = .ok (.iload_n 3, 1) := by decide +kernel
theorem dX7_give_36 : decode cX7_give 36 = .ok (.ifCond .ne 36, 3) := by decide +kernel
theorem dX7_give_39 : decode cX7_give 39 = .ok (.aload_n 1, 1) := by decide +kernel
theorem dX7_give_40 : decode cX7_give 40 = .ok (.getfield 82, 3) := by decide +kernel
theorem dX7_give_43 : decode cX7_give 43 = .ok (.ifCond .eq 16, 3) := by decide +kernel
theorem dX7_give_46 : decode cX7_give 46 = .ok (.aload_n 0, 1) := by decide +kernel
theorem dX7_give_47 : decode cX7_give 47 = .ok (.aload_n 1, 1) := by decide +kernel
theorem dX7_give_48 : decode cX7_give 48 = .ok (.aload_n 0, 1) := by decide +kernel
theorem dX7_give_49 : decode cX7_give 49 = .ok (.getfield 55, 3) := by decide +kernel
theorem dX7_give_52 : decode cX7_give 52 = .ok (.iconst 0, 1) := by decide +kernel
theorem dX7_give_53 : decode cX7_give 53 = .ok (.invokevirtual 244, 3) := by decide +kernel
theorem dX7_give_56 : decode cX7_give 56 = .ok (.goto 64, 3) := by decide +kernel
theorem dX7_give_59 : decode cX7_give 59 = .ok (.aload_n 0, 1) := by decide +kernel
theorem dX7_give_60 : decode cX7_give 60 = .ok (.getfield 45, 3) := by decide +kernel
theorem dX7_give_63 : decode cX7_give 63 = .ok (.iconst 2, 1) := by decide +kernel
theorem dX7_give_64 : decode cX7_give 64 = .ok (.dup2, 1) := by decide +kernel
theorem dX7_give_65 : decode cX7_give 65 = .ok (.iaload, 1) := by decide +kernel
theorem dX7_give_66 : decode cX7_give 66 = .ok (.iconst 1, 1) := by decide +kernel
theorem dX7_give_67 : decode cX7_give 67 = .ok (.iadd, 1) := by decide +kernel
theorem dX7_give_68 : decode cX7_give 68 = .ok (.iastore, 1) := by decide +kernel
theorem dX7_give_69 : decode cX7_give 69 = .ok (.goto 51, 3) := by decide +kernel
theorem dX7_give_72 : decode cX7_give 72 = .ok (.aload_n 1, 1) := by decide +kernel
theorem dX7_give_73 : decode cX7_give 73 = .ok (.getfield 95, 3) := by decide +kernel
theorem dX7_give_76 : decode cX7_give 76 = .ok (.getfield 248, 3) := by decide +kernel
theorem dX7_give_79 : decode cX7_give 79 = .ok (.getfield 142, 3) := by decide +kernel
theorem dX7_give_82 : decode cX7_give 82 = .ok (.ifCond .ne 23, 3) := by decide +kernel
theorem dX7_give_85 : decode cX7_give 85 = .ok (.aload_n 0, 1) := by decide +kernel
theorem dX7_give_86 : decode cX7_give 86 = .ok (.aload_n 1, 1) := by decide +kernel
theorem dX7_give_87 : decode cX7_give 87 = .ok (.invokevirtual 251, 3) := by decide +kernel
theorem dX7_give_90 : decode cX7_give 90 = .ok (.ifCond .eq 15, 3) := by decide +kernel
theorem dX7_give_93 : decode cX7_give 93 = .ok (.aload_n 0, 1) := by decide +kernel
theorem dX7_give_94 : decode cX7_give 94 = .ok (.aload_n 1, 1) := by decide +kernel
theorem dX7_give_95 : decode cX7_give 95 = .ok (.aload_n 0, 1) := by decide +kernel
theorem dX7_give_96 : decode cX7_give 96 = .ok (.getfield 55, 3) := by decide +kernel
theorem dX7_give_99 : decode cX7_give 99 = .ok (.invokevirtual 255, 3) := by decide +kernel
theorem dX7_give_102 : decode cX7_give 102 = .ok (.goto 18, 3) := by decide +kernel
theorem dX7_give_105 : decode cX7_give 105 = .ok (.aload_n 0, 1) := by decide +kernel
theorem dX7_give_106 : decode cX7_give 106 = .ok (.aload_n 1, 1) := by decide +kernel
theorem dX7_give_107 : decode cX7_give 107 = .ok (.getfield 95, 3) := by decide +kernel
theorem dX7_give_110 : decode cX7_give 110 = .ok (.getfield 248, 3) := by decide +kernel
theorem dX7_give_113 : decode cX7_give 113 = .ok (.aload_n 0, 1) := by decide +kernel
theorem dX7_give_114 : decode cX7_give 114 = .ok (.getfield 55, 3) := by decide +kernel
theorem dX7_give_117 : decode cX7_give 117 = .ok (.invokevirtual 258, 3) := by decide +kernel
theorem dX7_give_120 : decode cX7_give 120 = .ok (.return_, 1) := by decide +kernel
theorem dX7_hold_0 : decode cX7_hold 0 = .ok (.aload_n 1, 1) := by decide +kernel
theorem dX7_hold_1 : decode cX7_hold 1 = .ok (.getfield 142, 3) := by decide +kernel
theorem dX7_hold_4 : decode cX7_hold 4 = .ok (.bipush 8, 2) := by decide +kernel
theorem dX7_hold_6 : decode cX7_hold 6 = .ok (.if_icmp .lt 28, 3) := by decide +kernel
theorem dX7_hold_9 : decode cX7_hold 9 = .ok (.aload_n 0, 1) := by decide +kernel
theorem dX7_hold_10 : decode cX7_hold 10 = .ok (.getfield 45, 3) := by decide +kernel
theorem dX7_hold_13 : decode cX7_hold 13 = .ok (.iconst 2, 1) := by decide +kernel
theorem dX7_hold_14 : decode cX7_hold 14 = .ok (.dup2, 1) := by decide +kernel
theorem dX7_hold_15 : decode cX7_hold 15 = .ok (.iaload, 1) := by decide +kernel
theorem dX7_hold_16 : decode cX7_hold 16 = .ok (.iconst 1, 1) := by decide +kernel
theorem dX7_hold_17 : decode cX7_hold 17 = .ok (.iadd, 1) := by decide +kernel
theorem dX7_hold_18 : decode cX7_hold 18 = .ok (.iastore, 1) := by decide +kernel
theorem dX7_hold_19 : decode cX7_hold 19 = .ok (.aload_n 0, 1) := by decide +kernel
theorem dX7_hold_20 : decode cX7_hold 20 = .ok (.getfield 42, 3) := by decide +kernel
theorem dX7_hold_23 : decode cX7_hold 23 = .ok (.iconst 3, 1) := by decide +kernel
theorem dX7_hold_24 : decode cX7_hold 24 = .ok (.iaload, 1) := by decide +kernel
theorem dX7_hold_25 : decode cX7_hold 25 = .ok (.ifCond .ne 4, 3) := by decide +kernel
theorem dX7_hold_28 : decode cX7_hold 28 = .ok (.return_, 1) := by decide +kernel
theorem dX7_hold_29 : decode cX7_hold 29 = .ok (.aload_n 1, 1) := by decide +kernel
theorem dX7_hold_30 : decode cX7_hold 30 = .ok (.iconst 0, 1) := by decide +kernel
theorem dX7_hold_31 : decode cX7_hold 31 = .ok (.invokevirtual 262, 3) := by decide +kernel
theorem dX7_hold_34 : decode cX7_hold 34 = .ok (.aload_n 1, 1) := by decide +kernel
theorem dX7_hold_35 : decode cX7_hold 35 = .ok (.aload_n 2, 1) := by decide +kernel
theorem dX7_hold_36 : decode cX7_hold 36 = .ok (.invokevirtual 265, 3) := by decide +kernel
theorem dX7_hold_39 : decode cX7_hold 39 = .ok (.return_, 1) := by decide +kernel
theorem dX7_mayStart_0 : decode cX7_mayStart 0 = .ok (.aload_n 1, 1) := by decide +kernel
theorem dX7_mayStart_1 : decode cX7_mayStart 1 = .ok (.getfield 82, 3) := by decide +kernel
theorem dX7_mayStart_4 : decode cX7_mayStart 4 = .ok (.ifCond .eq 26, 3) := by decide +kernel
theorem dX7_mayStart_7 : decode cX7_mayStart 7 = .ok (.aload_n 1, 1) := by decide +kernel
theorem dX7_mayStart_8 : decode cX7_mayStart 8 = .ok (.getfield 95, 3) := by decide +kernel
theorem dX7_mayStart_11 : decode cX7_mayStart 11 = .ok (.getfield 138, 3) := by decide +kernel
theorem dX7_mayStart_14 : decode cX7_mayStart 14 = .ok (.getfield 142, 3) := by decide +kernel
theorem dX7_mayStart_17 : decode cX7_mayStart 17 = .ok (.aload_n 0, 1) := by decide +kernel
theorem dX7_mayStart_18 : decode cX7_mayStart 18 = .ok (.getfield 42, 3) := by decide +kernel
theorem dX7_mayStart_21 : decode cX7_mayStart 21 = .ok (.iconst 0, 1) := by decide +kernel
theorem dX7_mayStart_22 : decode cX7_mayStart 22 = .ok (.iaload, 1) := by decide +kernel
theorem dX7_mayStart_23 : decode cX7_mayStart 23 = .ok (.if_icmp .ge 7, 3) := by decide +kernel
theorem dX7_mayStart_26 : decode cX7_mayStart 26 = .ok (.iconst 1, 1) := by decide +kernel
theorem dX7_mayStart_27 : decode cX7_mayStart 27 = .ok (.goto 4, 3) := by decide +kernel
theorem dX7_mayStart_30 : decode cX7_mayStart 30 = .ok (.iconst 0, 1) := by decide +kernel
theorem dX7_mayStart_31 : decode cX7_mayStart 31 = .ok (.ireturn, 1) := by decide +kernel
theorem dX7_startFlight_0 : decode cX7_startFlight 0 = .ok (.aload_n 1, 1) := by decide +kernel
theorem dX7_startFlight_1 : decode cX7_startFlight 1 = .ok (.getfield 95, 3) := by decide +kernel
theorem dX7_startFlight_4 : decode cX7_startFlight 4 = .ok (.astore_n 3, 1) := by decide +kernel
theorem dX7_startFlight_5 : decode cX7_startFlight 5 = .ok (.aload_n 2, 1) := by decide +kernel
theorem dX7_startFlight_6 : decode cX7_startFlight 6 = .ok (.aload_n 3, 1) := by decide +kernel
theorem dX7_startFlight_7 : decode cX7_startFlight 7 = .ok (.getfield 268, 3) := by decide +kernel
theorem dX7_startFlight_10 : decode cX7_startFlight 10 = .ok (.putfield 271, 3) := by decide +kernel
theorem dX7_startFlight_13 : decode cX7_startFlight 13 = .ok (.aload_n 2, 1) := by decide +kernel
theorem dX7_startFlight_14 : decode cX7_startFlight 14 = .ok (.aload_n 2, 1) := by decide +kernel
theorem dX7_startFlight_15 : decode cX7_startFlight 15 = .ok (.getfield 207, 3) := by decide +kernel
theorem dX7_startFlight_18 : decode cX7_startFlight 18 = .ok (.iconst 1, 1) := by decide +kernel
theorem dX7_startFlight_19 : decode cX7_startFlight 19 = .ok (.if_icmp .ne 7, 3) := by decide +kernel
theorem dX7_startFlight_22 : decode cX7_startFlight 22 = .ok (.iconst 1, 1) := by decide +kernel
theorem dX7_startFlight_23 : decode cX7_startFlight 23 = .ok (.goto 4, 3) := by decide +kernel
theorem dX7_startFlight_26 : decode cX7_startFlight 26 = .ok (.iconst 2, 1) := by decide +kernel
theorem dX7_startFlight_27 : decode cX7_startFlight 27 = .ok (.putfield 274, 3) := by decide +kernel
theorem dX7_startFlight_30 : decode cX7_startFlight 30 = .ok (.aload_n 0, 1) := by decide +kernel
theorem dX7_startFlight_31 : decode cX7_startFlight 31 = .ok (.aload_n 1, 1) := by decide +kernel
theorem dX7_startFlight_32 : decode cX7_startFlight 32 = .ok (.aload_n 2, 1) := by decide +kernel
theorem dX7_startFlight_33 : decode cX7_startFlight 33 = .ok (.iconst 0, 1) := by decide +kernel
theorem dX7_startFlight_34 : decode cX7_startFlight 34 = .ok (.invokevirtual 244, 3) := by decide +kernel
theorem dX7_startFlight_37 : decode cX7_startFlight 37 = .ok (.aload_n 3, 1) := by decide +kernel
theorem dX7_startFlight_38 : decode cX7_startFlight 38 = .ok (.getfield 138, 3) := by decide +kernel
theorem dX7_startFlight_41 : decode cX7_startFlight 41 = .ok (.aload_n 2, 1) := by decide +kernel
theorem dX7_startFlight_42 : decode cX7_startFlight 42 = .ok (.invokevirtual 265, 3) := by decide +kernel
theorem dX7_startFlight_45 : decode cX7_startFlight 45 = .ok (.aload_n 3, 1) := by decide +kernel
theorem dX7_startFlight_46 : decode cX7_startFlight 46 = .ok (.invokevirtual 277, 3) := by decide +kernel
theorem dX7_startFlight_49 : decode cX7_startFlight 49 = .ok (.return_, 1) := by decide +kernel
theorem dX7_startPending_0 : decode cX7_startPending 0 = .ok (.aload_n 1, 1) := by decide +kernel
theorem dX7_startPending_1 : decode cX7_startPending 1 = .ok (.getfield 95, 3) := by decide +kernel
theorem dX7_startPending_4 : decode cX7_startPending 4 = .ok (.getfield 248, 3) := by decide +kernel
theorem dX7_startPending_7 : decode cX7_startPending 7 = .ok (.astore_n 2, 1) := by decide +kernel
theorem dX7_startPending_8 : decode cX7_startPending 8 = .ok (.iconst 0, 1) := by decide +kernel
theorem dX7_startPending_9 : decode cX7_startPending 9 = .ok (.istore_n 3, 1) := by decide +kernel
theorem dX7_startPending_10 : decode cX7_startPending 10 = .ok (.iload_n 3, 1) := by decide +kernel
theorem dX7_startPending_11 : decode cX7_startPending 11 = .ok (.bipush 8, 2) := by decide +kernel
theorem dX7_startPending_13 : decode cX7_startPending 13 = .ok (.if_icmp .ge 40, 3) := by decide +kernel
theorem dX7_startPending_16 : decode cX7_startPending 16 = .ok (.aload_n 2, 1) := by decide +kernel
theorem dX7_startPending_17 : decode cX7_startPending 17 = .ok (.getfield 142, 3) := by decide +kernel
theorem dX7_startPending_20 : decode cX7_startPending 20 = .ok (.ifCond .le 33, 3) := by decide +kernel
theorem dX7_startPending_23 : decode cX7_startPending 23 = .ok (.aload_n 0, 1) := by decide +kernel
theorem dX7_startPending_24 : decode cX7_startPending 24 = .ok (.aload_n 1, 1) := by decide +kernel
theorem dX7_startPending_25 : decode cX7_startPending 25 = .ok (.invokevirtual 251, 3) := by decide +kernel
theorem dX7_startPending_28 : decode cX7_startPending 28 = .ok (.ifCond .eq 25, 3) := by decide +kernel
theorem dX7_startPending_31 : decode cX7_startPending 31 = .ok (.aload_n 0, 1) := by decide +kernel
theorem dX7_startPending_32 : decode cX7_startPending 32 = .ok (.aload_n 1, 1) := by decide +kernel
theorem dX7_startPending_33 : decode cX7_startPending 33 = .ok (.aload_n 2, 1) := by decide +kernel
theorem dX7_startPending_34 : decode cX7_startPending 34 = .ok (.getfield 147, 3) := by decide +kernel
theorem dX7_startPending_37 : decode cX7_startPending 37 = .ok (.iconst 0, 1) := by decide +kernel
theorem dX7_startPending_38 : decode cX7_startPending 38 = .ok (.aaload, 1) := by decide +kernel
theorem dX7_startPending_39 : decode cX7_startPending 39 = .ok (.invokevirtual 255, 3) := by decide +kernel
theorem dX7_startPending_42 : decode cX7_startPending 42 = .ok (.aload_n 2, 1) := by decide +kernel
theorem dX7_startPending_43 : decode cX7_startPending 43 = .ok (.iconst 0, 1) := by decide +kernel
theorem dX7_startPending_44 : decode cX7_startPending 44 = .ok (.invokevirtual 262, 3) := by decide +kernel
theorem dX7_startPending_47 : decode cX7_startPending 47 = .ok (.iinc 3 1, 3) := by decide +kernel
theorem dX7_startPending_50 : decode cX7_startPending 50 = .ok (.goto (-40), 3) := by decide +kernel
theorem dX7_startPending_53 : decode cX7_startPending 53 = .ok (.return_, 1) := by decide +kernel
theorem dX7_takeAnswer_0 : decode cX7_takeAnswer 0 = .ok (.aload_n 1, 1) := by decide +kernel
theorem dX7_takeAnswer_1 : decode cX7_takeAnswer 1 = .ok (.getfield 95, 3) := by decide +kernel
theorem dX7_takeAnswer_4 : decode cX7_takeAnswer 4 = .ok (.getfield 138, 3) := by decide +kernel
theorem dX7_takeAnswer_7 : decode cX7_takeAnswer 7 = .ok (.astore 4, 2) := by decide +kernel
theorem dX7_takeAnswer_9 : decode cX7_takeAnswer 9 = .ok (.aload 4, 2) := by decide +kernel
theorem dX7_takeAnswer_11 : decode cX7_takeAnswer 11 = .ok (.iload_n 3, 1) := by decide +kernel
theorem dX7_takeAnswer_12 : decode cX7_takeAnswer 12 = .ok (.invokevirtual 280, 3) := by decide +kernel
theorem dX7_takeAnswer_15 : decode cX7_takeAnswer 15 = .ok (.istore 5, 2) := by decide +kernel
theorem dX7_takeAnswer_17 : decode cX7_takeAnswer 17 = .ok (.iload 5, 2) := by decide +kernel
theorem dX7_takeAnswer_19 : decode cX7_takeAnswer 19 = .ok (.ifCond .ge 5, 3) := by decide +kernel
theorem dX7_takeAnswer_22 : decode cX7_takeAnswer 22 = .ok (.iconst 0, 1) := by decide +kernel
theorem dX7_takeAnswer_23 : decode cX7_takeAnswer 23 = .ok (.ireturn, 1) := by decide +kernel
theorem dX7_takeAnswer_24 : decode cX7_takeAnswer 24 = .ok (.aload 4, 2) := by decide +kernel
theorem dX7_takeAnswer_26 : decode cX7_takeAnswer 26 = .ok (.getfield 147, 3) := by decide +kernel
theorem dX7_takeAnswer_29 : decode cX7_takeAnswer 29 = .ok (.iload 5, 2) := by decide +kernel
theorem dX7_takeAnswer_31 : decode cX7_takeAnswer 31 = .ok (.aaload, 1) := by decide +kernel
theorem dX7_takeAnswer_32 : decode cX7_takeAnswer 32 = .ok (.astore 6, 2) := by decide +kernel
theorem dX7_takeAnswer_34 : decode cX7_takeAnswer 34 = .ok (.iload_n 2, 1) := by decide +kernel
theorem dX7_takeAnswer_35 : decode cX7_takeAnswer 35 = .ok (.iconst 2, 1) := by decide +kernel
theorem dX7_takeAnswer_36 : decode cX7_takeAnswer 36 = .ok (.if_icmp .ne 27, 3) := by decide +kernel
theorem dX7_takeAnswer_39 : decode cX7_takeAnswer 39 = .ok (.aload 6, 2) := by decide +kernel
theorem dX7_takeAnswer_41 : decode cX7_takeAnswer 41 = .ok (.getfield 207, 3) := by decide +kernel
theorem dX7_takeAnswer_44 : decode cX7_takeAnswer 44 = .ok (.iconst 2, 1) := by decide +kernel
theorem dX7_takeAnswer_45 : decode cX7_takeAnswer 45 = .ok (.if_icmp .ne 18, 3) := by decide +kernel
theorem dX7_takeAnswer_48 : decode cX7_takeAnswer 48 = .ok (.aload 6, 2) := by decide +kernel
theorem dX7_takeAnswer_50 : decode cX7_takeAnswer 50 = .ok (.iconst 4, 1) := by decide +kernel
theorem dX7_takeAnswer_51 : decode cX7_takeAnswer 51 = .ok (.putfield 274, 3) := by decide +kernel
theorem dX7_takeAnswer_54 : decode cX7_takeAnswer 54 = .ok (.aload_n 0, 1) := by decide +kernel
theorem dX7_takeAnswer_55 : decode cX7_takeAnswer 55 = .ok (.aload_n 1, 1) := by decide +kernel
theorem dX7_takeAnswer_56 : decode cX7_takeAnswer 56 = .ok (.aload 6, 2) := by decide +kernel
theorem dX7_takeAnswer_58 : decode cX7_takeAnswer 58 = .ok (.invokevirtual 283, 3) := by decide +kernel
theorem dX7_takeAnswer_61 : decode cX7_takeAnswer 61 = .ok (.iconst 1, 1) := by decide +kernel
theorem dX7_takeAnswer_62 : decode cX7_takeAnswer 62 = .ok (.ireturn, 1) := by decide +kernel
theorem dX7_takeAnswer_63 : decode cX7_takeAnswer 63 = .ok (.aload 6, 2) := by decide +kernel
theorem dX7_takeAnswer_65 : decode cX7_takeAnswer 65 = .ok (.getfield 274, 3) := by decide +kernel
theorem dX7_takeAnswer_68 : decode cX7_takeAnswer 68 = .ok (.iload_n 2, 1) := by decide +kernel
theorem dX7_takeAnswer_69 : decode cX7_takeAnswer 69 = .ok (.if_icmp .eq 5, 3) := by decide +kernel
theorem dX7_takeAnswer_72 : decode cX7_takeAnswer 72 = .ok (.iconst 0, 1) := by decide +kernel
theorem dX7_takeAnswer_73 : decode cX7_takeAnswer 73 = .ok (.ireturn, 1) := by decide +kernel
theorem dX7_takeAnswer_74 : decode cX7_takeAnswer 74 = .ok (.aload_n 0, 1) := by decide +kernel
theorem dX7_takeAnswer_75 : decode cX7_takeAnswer 75 = .ok (.getfield 45, 3) := by decide +kernel
theorem dX7_takeAnswer_78 : decode cX7_takeAnswer 78 = .ok (.bipush 9, 2) := by decide +kernel
theorem dX7_takeAnswer_80 : decode cX7_takeAnswer 80 = .ok (.dup2, 1) := by decide +kernel
theorem dX7_takeAnswer_81 : decode cX7_takeAnswer 81 = .ok (.iaload, 1) := by decide +kernel
theorem dX7_takeAnswer_82 : decode cX7_takeAnswer 82 = .ok (.iconst 1, 1) := by decide +kernel
theorem dX7_takeAnswer_83 : decode cX7_takeAnswer 83 = .ok (.iadd, 1) := by decide +kernel
theorem dX7_takeAnswer_84 : decode cX7_takeAnswer 84 = .ok (.iastore, 1) := by decide +kernel
theorem dX7_takeAnswer_85 : decode cX7_takeAnswer 85 = .ok (.aload 4, 2) := by decide +kernel
theorem dX7_takeAnswer_87 : decode cX7_takeAnswer 87 = .ok (.iload 5, 2) := by decide +kernel
theorem dX7_takeAnswer_89 : decode cX7_takeAnswer 89 = .ok (.invokevirtual 262, 3) := by decide +kernel
theorem dX7_takeAnswer_92 : decode cX7_takeAnswer 92 = .ok (.aload_n 0, 1) := by decide +kernel
theorem dX7_takeAnswer_93 : decode cX7_takeAnswer 93 = .ok (.aload_n 1, 1) := by decide +kernel
theorem dX7_takeAnswer_94 : decode cX7_takeAnswer 94 = .ok (.invokevirtual 154, 3) := by decide +kernel
theorem dX7_takeAnswer_97 : decode cX7_takeAnswer 97 = .ok (.iconst 1, 1) := by decide +kernel
theorem dX7_takeAnswer_98 : decode cX7_takeAnswer 98 = .ok (.ireturn, 1) := by decide +kernel
theorem dX7_resend_0 : decode cX7_resend 0 = .ok (.aload_n 0, 1) := by decide +kernel
theorem dX7_resend_1 : decode cX7_resend 1 = .ok (.getfield 45, 3) := by decide +kernel
theorem dX7_resend_4 : decode cX7_resend 4 = .ok (.iconst 4, 1) := by decide +kernel
theorem dX7_resend_5 : decode cX7_resend 5 = .ok (.dup2, 1) := by decide +kernel
theorem dX7_resend_6 : decode cX7_resend 6 = .ok (.iaload, 1) := by decide +kernel
theorem dX7_resend_7 : decode cX7_resend 7 = .ok (.iconst 1, 1) := by decide +kernel
theorem dX7_resend_8 : decode cX7_resend 8 = .ok (.iadd, 1) := by decide +kernel
theorem dX7_resend_9 : decode cX7_resend 9 = .ok (.iastore, 1) := by decide +kernel
theorem dX7_resend_10 : decode cX7_resend 10 = .ok (.aload_n 2, 1) := by decide +kernel
theorem dX7_resend_11 : decode cX7_resend 11 = .ok (.getfield 274, 3) := by decide +kernel
theorem dX7_resend_14 : decode cX7_resend 14 = .ok (.iconst 4, 1) := by decide +kernel
theorem dX7_resend_15 : decode cX7_resend 15 = .ok (.if_icmp .ne 12, 3) := by decide +kernel
theorem dX7_resend_18 : decode cX7_resend 18 = .ok (.aload_n 0, 1) := by decide +kernel
theorem dX7_resend_19 : decode cX7_resend 19 = .ok (.aload_n 1, 1) := by decide +kernel
theorem dX7_resend_20 : decode cX7_resend 20 = .ok (.aload_n 2, 1) := by decide +kernel
theorem dX7_resend_21 : decode cX7_resend 21 = .ok (.invokevirtual 283, 3) := by decide +kernel
theorem dX7_resend_24 : decode cX7_resend 24 = .ok (.goto 10, 3) := by decide +kernel
theorem dX7_resend_27 : decode cX7_resend 27 = .ok (.aload_n 0, 1) := by decide +kernel
theorem dX7_resend_28 : decode cX7_resend 28 = .ok (.aload_n 1, 1) := by decide +kernel
theorem dX7_resend_29 : decode cX7_resend 29 = .ok (.aload_n 2, 1) := by decide +kernel
theorem dX7_resend_30 : decode cX7_resend 30 = .ok (.iconst 1, 1) := by decide +kernel
theorem dX7_resend_31 : decode cX7_resend 31 = .ok (.invokevirtual 244, 3) := by decide +kernel
theorem dX7_resend_34 : decode cX7_resend 34 = .ok (.return_, 1) := by decide +kernel
theorem dX7_sendRelease_0 : decode cX7_sendRelease 0 = .ok (.aload_n 2, 1) := by decide +kernel
theorem dX7_sendRelease_1 : decode cX7_sendRelease 1 = .ok (.aload_n 0, 1) := by decide +kernel
theorem dX7_sendRelease_2 : decode cX7_sendRelease 2 = .ok (.getfield 79, 3) := by decide +kernel
theorem dX7_sendRelease_5 : decode cX7_sendRelease 5 = .ok (.putfield 286, 3) := by decide +kernel
theorem dX7_sendRelease_8 : decode cX7_sendRelease 8 = .ok (.aload_n 0, 1) := by decide +kernel
theorem dX7_sendRelease_9 : decode cX7_sendRelease 9 = .ok (.aload_n 1, 1) := by decide +kernel
theorem dX7_sendRelease_10 : decode cX7_sendRelease 10 = .ok (.iconst 3, 1) := by decide +kernel
theorem dX7_sendRelease_11 : decode cX7_sendRelease 11 = .ok (.aload_n 2, 1) := by decide +kernel
theorem dX7_sendRelease_12 : decode cX7_sendRelease 12 = .ok (.getfield 271, 3) := by decide +kernel
theorem dX7_sendRelease_15 : decode cX7_sendRelease 15 = .ok (.invokevirtual 289, 3) := by decide +kernel
theorem dX7_sendRelease_18 : decode cX7_sendRelease 18 = .ok (.return_, 1) := by decide +kernel
theorem dX7_sendMessage_0 : decode cX7_sendMessage 0 = .ok (.aload_n 2, 1) := by decide +kernel
theorem dX7_sendMessage_1 : decode cX7_sendMessage 1 = .ok (.aload_n 0, 1) := by decide +kernel
theorem dX7_sendMessage_2 : decode cX7_sendMessage 2 = .ok (.getfield 79, 3) := by decide +kernel
theorem dX7_sendMessage_5 : decode cX7_sendMessage 5 = .ok (.putfield 286, 3) := by decide +kernel
theorem dX7_sendMessage_8 : decode cX7_sendMessage 8 = .ok (.aload_n 0, 1) := by decide +kernel
theorem dX7_sendMessage_9 : decode cX7_sendMessage 9 = .ok (.aload_n 1, 1) := by decide +kernel
theorem dX7_sendMessage_10 : decode cX7_sendMessage 10 = .ok (.invokevirtual 293, 3) := by decide +kernel
theorem dX7_sendMessage_13 : decode cX7_sendMessage 13 = .ok (.ifCond .eq 65, 3) := by decide +kernel
theorem dX7_sendMessage_16 : decode cX7_sendMessage 16 = .ok (.aload_n 1, 1) := by decide +kernel
theorem dX7_sendMessage_17 : decode cX7_sendMessage 17 = .ok (.getfield 86, 3) := by decide +kernel
theorem dX7_sendMessage_20 : decode cX7_sendMessage 20 = .ok (.invokevirtual 296, 3) := by decide +kernel
theorem dX7_sendMessage_23 : decode cX7_sendMessage 23 = .ok (.astore 4, 2) := by decide +kernel
theorem dX7_sendMessage_25 : decode cX7_sendMessage 25 = .ok (.aload 4, 2) := by decide +kernel
theorem dX7_sendMessage_27 : decode cX7_sendMessage 27 = .ok (.iconst 0, 1) := by decide +kernel
theorem dX7_sendMessage_28 : decode cX7_sendMessage 28 = .ok (.putfield 300, 3) := by decide +kernel
theorem dX7_sendMessage_31 : decode cX7_sendMessage 31 = .ok (.aload 4, 2) := by decide +kernel
theorem dX7_sendMessage_33 : decode cX7_sendMessage 33 = .ok (.aload_n 2, 1) := by decide +kernel
theorem dX7_sendMessage_34 : decode cX7_sendMessage 34 = .ok (.getfield 271, 3) := by decide +kernel
theorem dX7_sendMessage_37 : decode cX7_sendMessage 37 = .ok (.putfield 305, 3) := by decide +kernel
theorem dX7_sendMessage_40 : decode cX7_sendMessage 40 = .ok (.aload 4, 2) := by decide +kernel
theorem dX7_sendMessage_42 : decode cX7_sendMessage 42 = .ok (.aload_n 2, 1) := by decide +kernel
theorem dX7_sendMessage_43 : decode cX7_sendMessage 43 = .ok (.getfield 207, 3) := by decide +kernel
theorem dX7_sendMessage_46 : decode cX7_sendMessage 46 = .ok (.putfield 306, 3) := by decide +kernel
theorem dX7_sendMessage_49 : decode cX7_sendMessage 49 = .ok (.aload 4, 2) := by decide +kernel
theorem dX7_sendMessage_51 : decode cX7_sendMessage 51 = .ok (.aload_n 2, 1) := by decide +kernel
theorem dX7_sendMessage_52 : decode cX7_sendMessage 52 = .ok (.getfield 228, 3) := by decide +kernel
theorem dX7_sendMessage_55 : decode cX7_sendMessage 55 = .ok (.putfield 307, 3) := by decide +kernel
theorem dX7_sendMessage_58 : decode cX7_sendMessage 58 = .ok (.aload 4, 2) := by decide +kernel
theorem dX7_sendMessage_60 : decode cX7_sendMessage 60 = .ok (.aload_n 2, 1) := by decide +kernel
theorem dX7_sendMessage_61 : decode cX7_sendMessage 61 = .ok (.getfield 241, 3) := by decide +kernel
theorem dX7_sendMessage_64 : decode cX7_sendMessage 64 = .ok (.iload_n 3, 1) := by decide +kernel
theorem dX7_sendMessage_65 : decode cX7_sendMessage 65 = .ok (.iadd, 1) := by decide +kernel
theorem dX7_sendMessage_66 : decode cX7_sendMessage 66 = .ok (.putfield 308, 3) := by decide +kernel
theorem dX7_sendMessage_69 : decode cX7_sendMessage 69 = .ok (.aload 4, 2) := by decide +kernel
theorem dX7_sendMessage_71 : decode cX7_sendMessage 71 = .ok (.aload_n 2, 1) := by decide +kernel
theorem dX7_sendMessage_72 : decode cX7_sendMessage 72 = .ok (.getfield 195, 3) := by decide +kernel
theorem dX7_sendMessage_75 : decode cX7_sendMessage 75 = .ok (.putfield 309, 3) := by decide +kernel
theorem dX7_sendMessage_78 : decode cX7_sendMessage 78 = .ok (.return_, 1) := by decide +kernel
theorem dX7_sendSign_0 : decode cX7_sendSign 0 = .ok (.aload_n 0, 1) := by decide +kernel
theorem dX7_sendSign_1 : decode cX7_sendSign 1 = .ok (.aload_n 1, 1) := by decide +kernel
theorem dX7_sendSign_2 : decode cX7_sendSign 2 = .ok (.invokevirtual 293, 3) := by decide +kernel
theorem dX7_sendSign_5 : decode cX7_sendSign 5 = .ok (.ifCond .eq 51, 3) := by decide +kernel
theorem dX7_sendSign_8 : decode cX7_sendSign 8 = .ok (.aload_n 1, 1) := by decide +kernel
theorem dX7_sendSign_9 : decode cX7_sendSign 9 = .ok (.getfield 86, 3) := by decide +kernel
theorem dX7_sendSign_12 : decode cX7_sendSign 12 = .ok (.invokevirtual 296, 3) := by decide +kernel
theorem dX7_sendSign_15 : decode cX7_sendSign 15 = .ok (.astore 4, 2) := by decide +kernel
theorem dX7_sendSign_17 : decode cX7_sendSign 17 = .ok (.aload 4, 2) := by decide +kernel
theorem dX7_sendSign_19 : decode cX7_sendSign 19 = .ok (.iload_n 2, 1) := by decide +kernel
theorem dX7_sendSign_20 : decode cX7_sendSign 20 = .ok (.putfield 300, 3) := by decide +kernel
theorem dX7_sendSign_23 : decode cX7_sendSign 23 = .ok (.aload 4, 2) := by decide +kernel
theorem dX7_sendSign_25 : decode cX7_sendSign 25 = .ok (.iload_n 3, 1) := by decide +kernel
theorem dX7_sendSign_26 : decode cX7_sendSign 26 = .ok (.putfield 305, 3) := by decide +kernel
theorem dX7_sendSign_29 : decode cX7_sendSign 29 = .ok (.aload 4, 2) := by decide +kernel
theorem dX7_sendSign_31 : decode cX7_sendSign 31 = .ok (.iconst 0, 1) := by decide +kernel
theorem dX7_sendSign_32 : decode cX7_sendSign 32 = .ok (.putfield 306, 3) := by decide +kernel
theorem dX7_sendSign_35 : decode cX7_sendSign 35 = .ok (.aload 4, 2) := by decide +kernel
theorem dX7_sendSign_37 : decode cX7_sendSign 37 = .ok (.iconst 0, 1) := by decide +kernel
theorem dX7_sendSign_38 : decode cX7_sendSign 38 = .ok (.putfield 307, 3) := by decide +kernel
theorem dX7_sendSign_41 : decode cX7_sendSign 41 = .ok (.aload 4, 2) := by decide +kernel
theorem dX7_sendSign_43 : decode cX7_sendSign 43 = .ok (.iconst 0, 1) := by decide +kernel
theorem dX7_sendSign_44 : decode cX7_sendSign 44 = .ok (.putfield 308, 3) := by decide +kernel
theorem dX7_sendSign_47 : decode cX7_sendSign 47 = .ok (.aload 4, 2) := by decide +kernel
theorem dX7_sendSign_49 : decode cX7_sendSign 49 = .ok (.aload_n 0, 1) := by decide +kernel
theorem dX7_sendSign_50 : decode cX7_sendSign 50 = .ok (.getfield 9, 3) := by decide +kernel
theorem dX7_sendSign_53 : decode cX7_sendSign 53 = .ok (.putfield 309, 3) := by decide +kernel
theorem dX7_sendSign_56 : decode cX7_sendSign 56 = .ok (.return_, 1) := by decide +kernel
theorem dX7_countSent_0 : decode cX7_countSent 0 = .ok (.aload_n 1, 1) := by decide +kernel
theorem dX7_countSent_1 : decode cX7_countSent 1 = .ok (.dup, 1) := by decide +kernel
theorem dX7_countSent_2 : decode cX7_countSent 2 = .ok (.getfield 310, 3) := by decide +kernel
theorem dX7_countSent_5 : decode cX7_countSent 5 = .ok (.iconst 1, 1) := by decide +kernel
theorem dX7_countSent_6 : decode cX7_countSent 6 = .ok (.iadd, 1) := by decide +kernel
theorem dX7_countSent_7 : decode cX7_countSent 7 = .ok (.putfield 310, 3) := by decide +kernel
theorem dX7_countSent_10 : decode cX7_countSent 10 = .ok (.aload_n 1, 1) := by decide +kernel
theorem dX7_countSent_11 : decode cX7_countSent 11 = .ok (.getfield 86, 3) := by decide +kernel
theorem dX7_countSent_14 : decode cX7_countSent 14 = .ok (.getfield 313, 3) := by decide +kernel
theorem dX7_countSent_17 : decode cX7_countSent 17 = .ok (.bipush 30, 2) := by decide +kernel
theorem dX7_countSent_19 : decode cX7_countSent 19 = .ok (.if_icmp .lt 16, 3) := by decide +kernel
theorem dX7_countSent_22 : decode cX7_countSent 22 = .ok (.aload_n 0, 1) := by decide +kernel
theorem dX7_countSent_23 : decode cX7_countSent 23 = .ok (.getfield 45, 3) := by decide +kernel
theorem dX7_countSent_26 : decode cX7_countSent 26 = .ok (.bipush 8, 2) := by decide +kernel
theorem dX7_countSent_28 : decode cX7_countSent 28 = .ok (.dup2, 1) := by decide +kernel
theorem dX7_countSent_29 : decode cX7_countSent 29 = .ok (.iaload, 1) := by decide +kernel
theorem dX7_countSent_30 : decode cX7_countSent 30 = .ok (.iconst 1, 1) := by decide +kernel
theorem dX7_countSent_31 : decode cX7_countSent 31 = .ok (.iadd, 1) := by decide +kernel
theorem dX7_countSent_32 : decode cX7_countSent 32 = .ok (.iastore, 1) := by decide +kernel
theorem dX7_countSent_33 : decode cX7_countSent 33 = .ok (.iconst 0, 1) := by decide +kernel
theorem dX7_countSent_34 : decode cX7_countSent 34 = .ok (.ireturn, 1) := by decide +kernel
theorem dX7_countSent_35 : decode cX7_countSent 35 = .ok (.iconst 1, 1) := by decide +kernel
theorem dX7_countSent_36 : decode cX7_countSent 36 = .ok (.ireturn, 1) := by decide +kernel
theorem dX7_tick_0 : decode cX7_tick 0 = .ok (.aload_n 0, 1) := by decide +kernel
theorem dX7_tick_1 : decode cX7_tick 1 = .ok (.dup, 1) := by decide +kernel
theorem dX7_tick_2 : decode cX7_tick 2 = .ok (.getfield 79, 3) := by decide +kernel
theorem dX7_tick_5 : decode cX7_tick 5 = .ok (.iconst 1, 1) := by decide +kernel
theorem dX7_tick_6 : decode cX7_tick 6 = .ok (.iadd, 1) := by decide +kernel
theorem dX7_tick_7 : decode cX7_tick 7 = .ok (.putfield 79, 3) := by decide +kernel
theorem dX7_tick_10 : decode cX7_tick 10 = .ok (.iconst 0, 1) := by decide +kernel
theorem dX7_tick_11 : decode cX7_tick 11 = .ok (.istore_n 1, 1) := by decide +kernel
theorem dX7_tick_12 : decode cX7_tick 12 = .ok (.iload_n 1, 1) := by decide +kernel
theorem dX7_tick_13 : decode cX7_tick 13 = .ok (.bipush 6, 2) := by decide +kernel
theorem dX7_tick_15 : decode cX7_tick 15 = .ok (.if_icmp .ge 40, 3) := by decide +kernel
theorem dX7_tick_18 : decode cX7_tick 18 = .ok (.aload_n 0, 1) := by decide +kernel
theorem dX7_tick_19 : decode cX7_tick 19 = .ok (.getfield 17, 3) := by decide +kernel
theorem dX7_tick_22 : decode cX7_tick 22 = .ok (.iload_n 1, 1) := by decide +kernel
theorem dX7_tick_23 : decode cX7_tick 23 = .ok (.aaload, 1) := by decide +kernel
theorem dX7_tick_24 : decode cX7_tick 24 = .ok (.getfield 82, 3) := by decide +kernel
theorem dX7_tick_27 : decode cX7_tick 27 = .ok (.ifCond .eq 22, 3) := by decide +kernel
theorem dX7_tick_30 : decode cX7_tick 30 = .ok (.aload_n 0, 1) := by decide +kernel
theorem dX7_tick_31 : decode cX7_tick 31 = .ok (.getfield 42, 3) := by decide +kernel
theorem dX7_tick_34 : decode cX7_tick 34 = .ok (.iconst 1, 1) := by decide +kernel
theorem dX7_tick_35 : decode cX7_tick 35 = .ok (.iaload, 1) := by decide +kernel
theorem dX7_tick_36 : decode cX7_tick 36 = .ok (.ifCond .eq 13, 3) := by decide +kernel
theorem dX7_tick_39 : decode cX7_tick 39 = .ok (.aload_n 0, 1) := by decide +kernel
theorem dX7_tick_40 : decode cX7_tick 40 = .ok (.aload_n 0, 1) := by decide +kernel
theorem dX7_tick_41 : decode cX7_tick 41 = .ok (.getfield 17, 3) := by decide +kernel
theorem dX7_tick_44 : decode cX7_tick 44 = .ok (.iload_n 1, 1) := by decide +kernel
theorem dX7_tick_45 : decode cX7_tick 45 = .ok (.aaload, 1) := by decide +kernel
theorem dX7_tick_46 : decode cX7_tick 46 = .ok (.invokevirtual 314, 3) := by decide +kernel
theorem dX7_tick_49 : decode cX7_tick 49 = .ok (.iinc 1 1, 3) := by decide +kernel
theorem dX7_tick_52 : decode cX7_tick 52 = .ok (.goto (-40), 3) := by decide +kernel
theorem dX7_tick_55 : decode cX7_tick 55 = .ok (.iconst 0, 1) := by decide +kernel
theorem dX7_tick_56 : decode cX7_tick 56 = .ok (.istore_n 1, 1) := by decide +kernel
theorem dX7_tick_57 : decode cX7_tick 57 = .ok (.iload_n 1, 1) := by decide +kernel
theorem dX7_tick_58 : decode cX7_tick 58 = .ok (.bipush 6, 2) := by decide +kernel
theorem dX7_tick_60 : decode cX7_tick 60 = .ok (.if_icmp .ge 43, 3) := by decide +kernel
theorem dX7_tick_63 : decode cX7_tick 63 = .ok (.aload_n 0, 1) := by decide +kernel
theorem dX7_tick_64 : decode cX7_tick 64 = .ok (.getfield 17, 3) := by decide +kernel
theorem dX7_tick_67 : decode cX7_tick 67 = .ok (.iload_n 1, 1) := by decide +kernel
theorem dX7_tick_68 : decode cX7_tick 68 = .ok (.aaload, 1) := by decide +kernel
theorem dX7_tick_69 : decode cX7_tick 69 = .ok (.astore_n 2, 1) := by decide +kernel
theorem dX7_tick_70 : decode cX7_tick 70 = .ok (.aload_n 2, 1) := by decide +kernel
theorem dX7_tick_71 : decode cX7_tick 71 = .ok (.aload_n 2, 1) := by decide +kernel
theorem dX7_tick_72 : decode cX7_tick 72 = .ok (.getfield 317, 3) := by decide +kernel
theorem dX7_tick_75 : decode cX7_tick 75 = .ok (.ldc_w 321, 3) := by decide +kernel
theorem dX7_tick_78 : decode cX7_tick 78 = .ok (.fmul, 1) := by decide +kernel
theorem dX7_tick_79 : decode cX7_tick 79 = .ok (.aload_n 2, 1) := by decide +kernel
theorem dX7_tick_80 : decode cX7_tick 80 = .ok (.getfield 310, 3) := by decide +kernel
theorem dX7_tick_83 : decode cX7_tick 83 = .ok (.i2f, 1) := by decide +kernel
theorem dX7_tick_84 : decode cX7_tick 84 = .ok (.ldc_w 322, 3) := by decide +kernel
theorem dX7_tick_87 : decode cX7_tick 87 = .ok (.fmul, 1) := by decide +kernel
theorem dX7_tick_88 : decode cX7_tick 88 = .ok (.fadd, 1) := by decide +kernel
theorem dX7_tick_89 : decode cX7_tick 89 = .ok (.putfield 317, 3) := by decide +kernel
theorem dX7_tick_92 : decode cX7_tick 92 = .ok (.aload_n 2, 1) := by decide +kernel
theorem dX7_tick_93 : decode cX7_tick 93 = .ok (.iconst 0, 1) := by decide +kernel
theorem dX7_tick_94 : decode cX7_tick 94 = .ok (.putfield 310, 3) := by decide +kernel
theorem dX7_tick_97 : decode cX7_tick 97 = .ok (.iinc 1 1, 3) := by decide +kernel
theorem dX7_tick_100 : decode cX7_tick 100 = .ok (.goto (-43), 3) := by decide +kernel
theorem dX7_tick_103 : decode cX7_tick 103 = .ok (.iconst 0, 1) := by decide +kernel
theorem dX7_tick_104 : decode cX7_tick 104 = .ok (.istore_n 1, 1) := by decide +kernel
theorem dX7_tick_105 : decode cX7_tick 105 = .ok (.iload_n 1, 1) := by decide +kernel
theorem dX7_tick_106 : decode cX7_tick 106 = .ok (.bipush 6, 2) := by decide +kernel
theorem dX7_tick_108 : decode cX7_tick 108 = .ok (.if_icmp .ge 14, 3) := by decide +kernel
theorem dX7_tick_111 : decode cX7_tick 111 = .ok (.aload_n 0, 1) := by decide +kernel
theorem dX7_tick_112 : decode cX7_tick 112 = .ok (.iload_n 1, 1) := by decide +kernel
theorem dX7_tick_113 : decode cX7_tick 113 = .ok (.invokevirtual 323, 3) := by decide +kernel
theorem dX7_tick_116 : decode cX7_tick 116 = .ok (.iinc 1 1, 3) := by decide +kernel
theorem dX7_tick_119 : decode cX7_tick 119 = .ok (.goto (-14), 3) := by decide +kernel
theorem dX7_tick_122 : decode cX7_tick 122 = .ok (.return_, 1) := by decide +kernel
theorem dX7_resendLate_0 : decode cX7_resendLate 0 = .ok (.aload_n 1, 1) := by decide +kernel
theorem dX7_resendLate_1 : decode cX7_resendLate 1 = .ok (.getfield 95, 3) := by decide +kernel
theorem dX7_resendLate_4 : decode cX7_resendLate 4 = .ok (.getfield 138, 3) := by decide +kernel
theorem dX7_resendLate_7 : decode cX7_resendLate 7 = .ok (.astore_n 2, 1) := by decide +kernel
theorem dX7_resendLate_8 : decode cX7_resendLate 8 = .ok (.iconst 0, 1) := by decide +kernel
theorem dX7_resendLate_9 : decode cX7_resendLate 9 = .ok (.istore_n 3, 1) := by decide +kernel
theorem dX7_resendLate_10 : decode cX7_resendLate 10 = .ok (.iload_n 3, 1) := by decide +kernel
theorem dX7_resendLate_11 : decode cX7_resendLate 11 = .ok (.aload_n 2, 1) := by decide +kernel
theorem dX7_resendLate_12 : decode cX7_resendLate 12 = .ok (.getfield 142, 3) := by decide +kernel
theorem dX7_resendLate_15 : decode cX7_resendLate 15 = .ok (.if_icmp .ge 52, 3) := by decide +kernel
theorem dX7_resendLate_18 : decode cX7_resendLate 18 = .ok (.iload_n 3, 1) := by decide +kernel
theorem dX7_resendLate_19 : decode cX7_resendLate 19 = .ok (.aload_n 2, 1) := by decide +kernel
theorem dX7_resendLate_20 : decode cX7_resendLate 20 = .ok (.getfield 147, 3) := by decide +kernel
theorem dX7_resendLate_23 : decode cX7_resendLate 23 = .ok (.arraylength, 1) := by decide +kernel
theorem dX7_resendLate_24 : decode cX7_resendLate 24 = .ok (.if_icmp .ge 43, 3) := by decide +kernel
theorem dX7_resendLate_27 : decode cX7_resendLate 27 = .ok (.aload_n 0, 1) := by decide +kernel
theorem dX7_resendLate_28 : decode cX7_resendLate 28 = .ok (.getfield 79, 3) := by decide +kernel
theorem dX7_resendLate_31 : decode cX7_resendLate 31 = .ok (.aload_n 2, 1) := by decide +kernel
theorem dX7_resendLate_32 : decode cX7_resendLate 32 = .ok (.getfield 147, 3) := by decide +kernel
theorem dX7_resendLate_35 : decode cX7_resendLate 35 = .ok (.iload_n 3, 1) := by decide +kernel
theorem dX7_resendLate_36 : decode cX7_resendLate 36 = .ok (.aaload, 1) := by decide +kernel
theorem dX7_resendLate_37 : decode cX7_resendLate 37 = .ok (.getfield 286, 3) := by decide +kernel
theorem dX7_resendLate_40 : decode cX7_resendLate 40 = .ok (.isub, 1) := by decide +kernel
theorem dX7_resendLate_41 : decode cX7_resendLate 41 = .ok (.aload_n 0, 1) := by decide +kernel
theorem dX7_resendLate_42 : decode cX7_resendLate 42 = .ok (.getfield 42, 3) := by decide +kernel
theorem dX7_resendLate_45 : decode cX7_resendLate 45 = .ok (.iconst 1, 1) := by decide +kernel
theorem dX7_resendLate_46 : decode cX7_resendLate 46 = .ok (.iaload, 1) := by decide +kernel
theorem dX7_resendLate_47 : decode cX7_resendLate 47 = .ok (.if_icmp .lt 14, 3) := by decide +kernel
theorem dX7_resendLate_50 : decode cX7_resendLate 50 = .ok (.aload_n 0, 1) := by decide +kernel
theorem dX7_resendLate_51 : decode cX7_resendLate 51 = .ok (.aload_n 1, 1) := by decide +kernel
theorem dX7_resendLate_52 : decode cX7_resendLate 52 = .ok (.aload_n 2, 1) := by decide +kernel
theorem dX7_resendLate_53 : decode cX7_resendLate 53 = .ok (.getfield 147, 3) := by decide +kernel
theorem dX7_resendLate_56 : decode cX7_resendLate 56 = .ok (.iload_n 3, 1) := by decide +kernel
theorem dX7_resendLate_57 : decode cX7_resendLate 57 = .ok (.aaload, 1) := by decide +kernel
theorem dX7_resendLate_58 : decode cX7_resendLate 58 = .ok (.invokevirtual 150, 3) := by decide +kernel
theorem dX7_resendLate_61 : decode cX7_resendLate 61 = .ok (.iinc 3 1, 3) := by decide +kernel
theorem dX7_resendLate_64 : decode cX7_resendLate 64 = .ok (.goto (-54), 3) := by decide +kernel
theorem dX7_resendLate_67 : decode cX7_resendLate 67 = .ok (.return_, 1) := by decide +kernel
theorem dX7_expire_0 : decode cX7_expire 0 = .ok (.aload_n 0, 1) := by decide +kernel
theorem dX7_expire_1 : decode cX7_expire 1 = .ok (.getfield 17, 3) := by decide +kernel
theorem dX7_expire_4 : decode cX7_expire 4 = .ok (.iload_n 1, 1) := by decide +kernel
theorem dX7_expire_5 : decode cX7_expire 5 = .ok (.aaload, 1) := by decide +kernel
theorem dX7_expire_6 : decode cX7_expire 6 = .ok (.astore_n 2, 1) := by decide +kernel
theorem dX7_expire_7 : decode cX7_expire 7 = .ok (.aload_n 2, 1) := by decide +kernel
theorem dX7_expire_8 : decode cX7_expire 8 = .ok (.getfield 95, 3) := by decide +kernel
theorem dX7_expire_11 : decode cX7_expire 11 = .ok (.getfield 326, 3) := by decide +kernel
theorem dX7_expire_14 : decode cX7_expire 14 = .ok (.ifCond .eq 14, 3) := by decide +kernel
theorem dX7_expire_17 : decode cX7_expire 17 = .ok (.aload_n 2, 1) := by decide +kernel
theorem dX7_expire_18 : decode cX7_expire 18 = .ok (.getfield 82, 3) := by decide +kernel
theorem dX7_expire_21 : decode cX7_expire 21 = .ok (.ifCond .ne 7, 3) := by decide +kernel
theorem dX7_expire_24 : decode cX7_expire 24 = .ok (.iconst 1, 1) := by decide +kernel
theorem dX7_expire_25 : decode cX7_expire 25 = .ok (.goto 4, 3) := by decide +kernel
theorem dX7_expire_28 : decode cX7_expire 28 = .ok (.iconst 0, 1) := by decide +kernel
theorem dX7_expire_29 : decode cX7_expire 29 = .ok (.istore_n 3, 1) := by decide +kernel
theorem dX7_expire_30 : decode cX7_expire 30 = .ok (.iload_n 3, 1) := by decide +kernel
theorem dX7_expire_31 : decode cX7_expire 31 = .ok (.ifCond .eq 40, 3) := by decide +kernel
theorem dX7_expire_34 : decode cX7_expire 34 = .ok (.aload_n 0, 1) := by decide +kernel
theorem dX7_expire_35 : decode cX7_expire 35 = .ok (.getfield 79, 3) := by decide +kernel
theorem dX7_expire_38 : decode cX7_expire 38 = .ok (.aload_n 2, 1) := by decide +kernel
theorem dX7_expire_39 : decode cX7_expire 39 = .ok (.getfield 95, 3) := by decide +kernel
theorem dX7_expire_42 : decode cX7_expire 42 = .ok (.getfield 108, 3) := by decide +kernel
theorem dX7_expire_45 : decode cX7_expire 45 = .ok (.isub, 1) := by decide +kernel
theorem dX7_expire_46 : decode cX7_expire 46 = .ok (.aload_n 0, 1) := by decide +kernel
theorem dX7_expire_47 : decode cX7_expire 47 = .ok (.getfield 42, 3) := by decide +kernel
theorem dX7_expire_50 : decode cX7_expire 50 = .ok (.iconst 2, 1) := by decide +kernel
theorem dX7_expire_51 : decode cX7_expire 51 = .ok (.iaload, 1) := by decide +kernel
theorem dX7_expire_52 : decode cX7_expire 52 = .ok (.if_icmp .lt 19, 3) := by decide +kernel
theorem dX7_expire_55 : decode cX7_expire 55 = .ok (.aload_n 0, 1) := by decide +kernel
theorem dX7_expire_56 : decode cX7_expire 56 = .ok (.iload_n 1, 1) := by decide +kernel
theorem dX7_expire_57 : decode cX7_expire 57 = .ok (.invokevirtual 104, 3) := by decide +kernel
theorem dX7_expire_60 : decode cX7_expire 60 = .ok (.aload_n 0, 1) := by decide +kernel
theorem dX7_expire_61 : decode cX7_expire 61 = .ok (.getfield 45, 3) := by decide +kernel
theorem dX7_expire_64 : decode cX7_expire 64 = .ok (.bipush 7, 2) := by decide +kernel
theorem dX7_expire_66 : decode cX7_expire 66 = .ok (.dup2, 1) := by decide +kernel
theorem dX7_expire_67 : decode cX7_expire 67 = .ok (.iaload, 1) := by decide +kernel
theorem dX7_expire_68 : decode cX7_expire 68 = .ok (.iconst 1, 1) := by decide +kernel
theorem dX7_expire_69 : decode cX7_expire 69 = .ok (.iadd, 1) := by decide +kernel
theorem dX7_expire_70 : decode cX7_expire 70 = .ok (.iastore, 1) := by decide +kernel
theorem dX7_expire_71 : decode cX7_expire 71 = .ok (.return_, 1) := by decide +kernel
theorem dX8_init_0 : decode cX8_init 0 = .ok (.aload_n 0, 1) := by decide +kernel
theorem dX8_init_1 : decode cX8_init 1 = .ok (.invokespecial 1, 3) := by decide +kernel
theorem dX8_init_4 : decode cX8_init 4 = .ok (.aload_n 0, 1) := by decide +kernel
theorem dX8_init_5 : decode cX8_init 5 = .ok (.aload_n 1, 1) := by decide +kernel
theorem dX8_init_6 : decode cX8_init 6 = .ok (.putfield 7, 3) := by decide +kernel
theorem dX8_init_9 : decode cX8_init 9 = .ok (.return_, 1) := by decide +kernel
theorem dX8_copyFrom_0 : decode cX8_copyFrom 0 = .ok (.aload_n 0, 1) := by decide +kernel
theorem dX8_copyFrom_1 : decode cX8_copyFrom 1 = .ok (.aload_n 1, 1) := by decide +kernel
theorem dX8_copyFrom_2 : decode cX8_copyFrom 2 = .ok (.getfield 7, 3) := by decide +kernel
theorem dX8_copyFrom_5 : decode cX8_copyFrom 5 = .ok (.putfield 7, 3) := by decide +kernel
theorem dX8_copyFrom_8 : decode cX8_copyFrom 8 = .ok (.aload_n 0, 1) := by decide +kernel
theorem dX8_copyFrom_9 : decode cX8_copyFrom 9 = .ok (.aload_n 1, 1) := by decide +kernel
theorem dX8_copyFrom_10 : decode cX8_copyFrom 10 = .ok (.getfield 13, 3) := by decide +kernel
theorem dX8_copyFrom_13 : decode cX8_copyFrom 13 = .ok (.putfield 13, 3) := by decide +kernel
theorem dX8_copyFrom_16 : decode cX8_copyFrom 16 = .ok (.aload_n 0, 1) := by decide +kernel
theorem dX8_copyFrom_17 : decode cX8_copyFrom 17 = .ok (.aload_n 1, 1) := by decide +kernel
theorem dX8_copyFrom_18 : decode cX8_copyFrom 18 = .ok (.getfield 17, 3) := by decide +kernel
theorem dX8_copyFrom_21 : decode cX8_copyFrom 21 = .ok (.putfield 17, 3) := by decide +kernel
theorem dX8_copyFrom_24 : decode cX8_copyFrom 24 = .ok (.aload_n 0, 1) := by decide +kernel
theorem dX8_copyFrom_25 : decode cX8_copyFrom 25 = .ok (.aload_n 1, 1) := by decide +kernel
theorem dX8_copyFrom_26 : decode cX8_copyFrom 26 = .ok (.getfield 20, 3) := by decide +kernel
theorem dX8_copyFrom_29 : decode cX8_copyFrom 29 = .ok (.putfield 20, 3) := by decide +kernel
theorem dX8_copyFrom_32 : decode cX8_copyFrom 32 = .ok (.return_, 1) := by decide +kernel
theorem dX9_init_0 : decode cX9_init 0 = .ok (.aload_n 0, 1) := by decide +kernel
theorem dX9_init_1 : decode cX9_init 1 = .ok (.invokespecial 3, 3) := by decide +kernel
theorem dX9_init_4 : decode cX9_init 4 = .ok (.aload_n 0, 1) := by decide +kernel
theorem dX9_init_5 : decode cX9_init 5 = .ok (.sipush 512, 3) := by decide +kernel
theorem dX9_init_8 : decode cX9_init 8 = .ok (.anewarray 9, 3) := by decide +kernel
theorem dX9_init_11 : decode cX9_init 11 = .ok (.putfield 11, 3) := by decide +kernel
theorem dX9_init_14 : decode cX9_init 14 = .ok (.aload_n 0, 1) := by decide +kernel
theorem dX9_init_15 : decode cX9_init 15 = .ok (.sipush 512, 3) := by decide +kernel
theorem dX9_init_18 : decode cX9_init 18 = .ok (.newarray .int, 2) := by decide +kernel
theorem dX9_init_20 : decode cX9_init 20 = .ok (.putfield 17, 3) := by decide +kernel
theorem dX9_init_23 : decode cX9_init 23 = .ok (.iconst 0, 1) := by decide +kernel
theorem dX9_init_24 : decode cX9_init 24 = .ok (.istore_n 2, 1) := by decide +kernel
theorem dX9_init_25 : decode cX9_init 25 = .ok (.iload_n 2, 1) := by decide +kernel
theorem dX9_init_26 : decode cX9_init 26 = .ok (.sipush 512, 3) := by decide +kernel
theorem dX9_init_29 : decode cX9_init 29 = .ok (.if_icmp .ge 16, 3) := by decide +kernel
theorem dX9_init_32 : decode cX9_init 32 = .ok (.aload_n 0, 1) := by decide +kernel
theorem dX9_init_33 : decode cX9_init 33 = .ok (.getfield 11, 3) := by decide +kernel
theorem dX9_init_36 : decode cX9_init 36 = .ok (.iload_n 2, 1) := by decide +kernel
theorem dX9_init_37 : decode cX9_init 37 = .ok (.aload_n 1, 1) := by decide +kernel
theorem dX9_init_38 : decode cX9_init 38 = .ok (.aastore, 1) := by decide +kernel
theorem dX9_init_39 : decode cX9_init 39 = .ok (.iinc 2 1, 3) := by decide +kernel
theorem dX9_init_42 : decode cX9_init 42 = .ok (.goto (-17), 3) := by decide +kernel
theorem dX9_init_45 : decode cX9_init 45 = .ok (.return_, 1) := by decide +kernel
theorem dX9_placeOf_0 : decode cX9_placeOf 0 = .ok (.iconst 0, 1) := by decide +kernel
theorem dX9_placeOf_1 : decode cX9_placeOf 1 = .ok (.istore_n 2, 1) := by decide +kernel
theorem dX9_placeOf_2 : decode cX9_placeOf 2 = .ok (.iload_n 2, 1) := by decide +kernel
theorem dX9_placeOf_3 : decode cX9_placeOf 3 = .ok (.aload_n 0, 1) := by decide +kernel
theorem dX9_placeOf_4 : decode cX9_placeOf 4 = .ok (.getfield 21, 3) := by decide +kernel
theorem dX9_placeOf_7 : decode cX9_placeOf 7 = .ok (.if_icmp .ge 31, 3) := by decide +kernel
theorem dX9_placeOf_10 : decode cX9_placeOf 10 = .ok (.iload_n 2, 1) := by decide +kernel
theorem dX9_placeOf_11 : decode cX9_placeOf 11 = .ok (.sipush 512, 3) := by decide +kernel
theorem dX9_placeOf_14 : decode cX9_placeOf 14 = .ok (.if_icmp .ge 24, 3) := by decide +kernel
theorem dX9_placeOf_17 : decode cX9_placeOf 17 = .ok (.aload_n 0, 1) := by decide +kernel
theorem dX9_placeOf_18 : decode cX9_placeOf 18 = .ok (.getfield 11, 3) := by decide +kernel
theorem dX9_placeOf_21 : decode cX9_placeOf 21 = .ok (.iload_n 2, 1) := by decide +kernel
theorem dX9_placeOf_22 : decode cX9_placeOf 22 = .ok (.aaload, 1) := by decide +kernel
theorem dX9_placeOf_23 : decode cX9_placeOf 23 = .ok (.aload_n 1, 1) := by decide +kernel
theorem dX9_placeOf_24 : decode cX9_placeOf 24 = .ok (.invokevirtual 25, 3) := by decide +kernel
theorem dX9_placeOf_27 : decode cX9_placeOf 27 = .ok (.ifCond .eq 5, 3) := by decide +kernel
theorem dX9_placeOf_30 : decode cX9_placeOf 30 = .ok (.iload_n 2, 1) := by decide +kernel
theorem dX9_placeOf_31 : decode cX9_placeOf 31 = .ok (.ireturn, 1) := by decide +kernel
theorem dX9_placeOf_32 : decode cX9_placeOf 32 = .ok (.iinc 2 1, 3) := by decide +kernel
theorem dX9_placeOf_35 : decode cX9_placeOf 35 = .ok (.goto (-33), 3) := by decide +kernel
theorem dX9_placeOf_38 : decode cX9_placeOf 38 = .ok (.iconst (-1), 1) := by decide +kernel
theorem dX9_placeOf_39 : decode cX9_placeOf 39 = .ok (.ireturn, 1) := by decide +kernel
theorem dX9_count_0 : decode cX9_count 0 = .ok (.aload_n 0, 1) := by decide +kernel
theorem dX9_count_1 : decode cX9_count 1 = .ok (.aload_n 1, 1) := by decide +kernel
theorem dX9_count_2 : decode cX9_count 2 = .ok (.invokevirtual 29, 3) := by decide +kernel
theorem dX9_count_5 : decode cX9_count 5 = .ok (.istore_n 2, 1) := by decide +kernel
theorem dX9_count_6 : decode cX9_count 6 = .ok (.iload_n 2, 1) := by decide +kernel
theorem dX9_count_7 : decode cX9_count 7 = .ok (.ifCond .ge 49, 3) := by decide +kernel
theorem dX9_count_10 : decode cX9_count 10 = .ok (.aload_n 0, 1) := by decide +kernel
theorem dX9_count_11 : decode cX9_count 11 = .ok (.getfield 21, 3) := by decide +kernel
theorem dX9_count_14 : decode cX9_count 14 = .ok (.ifCond .lt 42, 3) := by decide +kernel
theorem dX9_count_17 : decode cX9_count 17 = .ok (.aload_n 0, 1) := by decide +kernel
theorem dX9_count_18 : decode cX9_count 18 = .ok (.getfield 21, 3) := by decide +kernel
theorem dX9_count_21 : decode cX9_count 21 = .ok (.sipush 512, 3) := by decide +kernel
theorem dX9_count_24 : decode cX9_count 24 = .ok (.if_icmp .ge 32, 3) := by decide +kernel
theorem dX9_count_27 : decode cX9_count 27 = .ok (.aload_n 0, 1) := by decide +kernel
theorem dX9_count_28 : decode cX9_count 28 = .ok (.getfield 21, 3) := by decide +kernel
theorem dX9_count_31 : decode cX9_count 31 = .ok (.istore_n 2, 1) := by decide +kernel
theorem dX9_count_32 : decode cX9_count 32 = .ok (.aload_n 0, 1) := by decide +kernel
theorem dX9_count_33 : decode cX9_count 33 = .ok (.getfield 11, 3) := by decide +kernel
theorem dX9_count_36 : decode cX9_count 36 = .ok (.iload_n 2, 1) := by decide +kernel
theorem dX9_count_37 : decode cX9_count 37 = .ok (.aload_n 1, 1) := by decide +kernel
theorem dX9_count_38 : decode cX9_count 38 = .ok (.aastore, 1) := by decide +kernel
theorem dX9_count_39 : decode cX9_count 39 = .ok (.aload_n 0, 1) := by decide +kernel
theorem dX9_count_40 : decode cX9_count 40 = .ok (.getfield 17, 3) := by decide +kernel
theorem dX9_count_43 : decode cX9_count 43 = .ok (.iload_n 2, 1) := by decide +kernel
theorem dX9_count_44 : decode cX9_count 44 = .ok (.iconst 0, 1) := by decide +kernel
theorem dX9_count_45 : decode cX9_count 45 = .ok (.iastore, 1) := by decide +kernel
theorem dX9_count_46 : decode cX9_count 46 = .ok (.aload_n 0, 1) := by decide +kernel
theorem dX9_count_47 : decode cX9_count 47 = .ok (.dup, 1) := by decide +kernel
theorem dX9_count_48 : decode cX9_count 48 = .ok (.getfield 21, 3) := by decide +kernel
theorem dX9_count_51 : decode cX9_count 51 = .ok (.iconst 1, 1) := by decide +kernel
theorem dX9_count_52 : decode cX9_count 52 = .ok (.iadd, 1) := by decide +kernel
theorem dX9_count_53 : decode cX9_count 53 = .ok (.putfield 21, 3) := by decide +kernel
theorem dX9_count_56 : decode cX9_count 56 = .ok (.iload_n 2, 1) := by decide +kernel
theorem dX9_count_57 : decode cX9_count 57 = .ok (.ifCond .lt 13, 3) := by decide +kernel
theorem dX9_count_60 : decode cX9_count 60 = .ok (.aload_n 0, 1) := by decide +kernel
theorem dX9_count_61 : decode cX9_count 61 = .ok (.getfield 17, 3) := by decide +kernel
theorem dX9_count_64 : decode cX9_count 64 = .ok (.iload_n 2, 1) := by decide +kernel
theorem dX9_count_65 : decode cX9_count 65 = .ok (.dup2, 1) := by decide +kernel
theorem dX9_count_66 : decode cX9_count 66 = .ok (.iaload, 1) := by decide +kernel
theorem dX9_count_67 : decode cX9_count 67 = .ok (.iconst 1, 1) := by decide +kernel
theorem dX9_count_68 : decode cX9_count 68 = .ok (.iadd, 1) := by decide +kernel
theorem dX9_count_69 : decode cX9_count 69 = .ok (.iastore, 1) := by decide +kernel
theorem dX9_count_70 : decode cX9_count 70 = .ok (.return_, 1) := by decide +kernel
theorem dX9_copyFrom_0 : decode cX9_copyFrom 0 = .ok (.aload_n 0, 1) := by decide +kernel
theorem dX9_copyFrom_1 : decode cX9_copyFrom 1 = .ok (.aload_n 1, 1) := by decide +kernel
theorem dX9_copyFrom_2 : decode cX9_copyFrom 2 = .ok (.getfield 21, 3) := by decide +kernel
theorem dX9_copyFrom_5 : decode cX9_copyFrom 5 = .ok (.putfield 21, 3) := by decide +kernel
theorem dX9_copyFrom_8 : decode cX9_copyFrom 8 = .ok (.iconst 0, 1) := by decide +kernel
theorem dX9_copyFrom_9 : decode cX9_copyFrom 9 = .ok (.istore_n 2, 1) := by decide +kernel
theorem dX9_copyFrom_10 : decode cX9_copyFrom 10 = .ok (.iload_n 2, 1) := by decide +kernel
theorem dX9_copyFrom_11 : decode cX9_copyFrom 11 = .ok (.aload_n 0, 1) := by decide +kernel
theorem dX9_copyFrom_12 : decode cX9_copyFrom 12 = .ok (.getfield 21, 3) := by decide +kernel
theorem dX9_copyFrom_15 : decode cX9_copyFrom 15 = .ok (.if_icmp .ge 40, 3) := by decide +kernel
theorem dX9_copyFrom_18 : decode cX9_copyFrom 18 = .ok (.iload_n 2, 1) := by decide +kernel
theorem dX9_copyFrom_19 : decode cX9_copyFrom 19 = .ok (.sipush 512, 3) := by decide +kernel
theorem dX9_copyFrom_22 : decode cX9_copyFrom 22 = .ok (.if_icmp .ge 33, 3) := by decide +kernel
theorem dX9_copyFrom_25 : decode cX9_copyFrom 25 = .ok (.aload_n 0, 1) := by decide +kernel
theorem dX9_copyFrom_26 : decode cX9_copyFrom 26 = .ok (.getfield 11, 3) := by decide +kernel
theorem dX9_copyFrom_29 : decode cX9_copyFrom 29 = .ok (.iload_n 2, 1) := by decide +kernel
theorem dX9_copyFrom_30 : decode cX9_copyFrom 30 = .ok (.aload_n 1, 1) := by decide +kernel
theorem dX9_copyFrom_31 : decode cX9_copyFrom 31 = .ok (.getfield 11, 3) := by decide +kernel
theorem dX9_copyFrom_34 : decode cX9_copyFrom 34 = .ok (.iload_n 2, 1) := by decide +kernel
theorem dX9_copyFrom_35 : decode cX9_copyFrom 35 = .ok (.aaload, 1) := by decide +kernel
theorem dX9_copyFrom_36 : decode cX9_copyFrom 36 = .ok (.aastore, 1) := by decide +kernel
theorem dX9_copyFrom_37 : decode cX9_copyFrom 37 = .ok (.aload_n 0, 1) := by decide +kernel
theorem dX9_copyFrom_38 : decode cX9_copyFrom 38 = .ok (.getfield 17, 3) := by decide +kernel
theorem dX9_copyFrom_41 : decode cX9_copyFrom 41 = .ok (.iload_n 2, 1) := by decide +kernel
theorem dX9_copyFrom_42 : decode cX9_copyFrom 42 = .ok (.aload_n 1, 1) := by decide +kernel
theorem dX9_copyFrom_43 : decode cX9_copyFrom 43 = .ok (.getfield 17, 3) := by decide +kernel
theorem dX9_copyFrom_46 : decode cX9_copyFrom 46 = .ok (.iload_n 2, 1) := by decide +kernel
theorem dX9_copyFrom_47 : decode cX9_copyFrom 47 = .ok (.iaload, 1) := by decide +kernel
theorem dX9_copyFrom_48 : decode cX9_copyFrom 48 = .ok (.iastore, 1) := by decide +kernel
theorem dX9_copyFrom_49 : decode cX9_copyFrom 49 = .ok (.iinc 2 1, 3) := by decide +kernel
theorem dX9_copyFrom_52 : decode cX9_copyFrom 52 = .ok (.goto (-42), 3) := by decide +kernel
theorem dX9_copyFrom_55 : decode cX9_copyFrom 55 = .ok (.return_, 1) := by decide +kernel
theorem dX10_init_0 : decode cX10_init 0 = .ok (.aload_n 0, 1) := by decide +kernel
theorem dX10_init_1 : decode cX10_init 1 = .ok (.invokespecial 3, 3) := by decide +kernel
theorem dX10_init_4 : decode cX10_init 4 = .ok (.iconst 0, 1) := by decide +kernel
theorem dX10_init_5 : decode cX10_init 5 = .ok (.iload_n 2, 1) := by decide +kernel
theorem dX10_init_6 : decode cX10_init 6 = .ok (.aload_n 1, 1) := by decide +kernel
theorem dX10_init_7 : decode cX10_init 7 = .ok (.arraylength, 1) := by decide +kernel
theorem dX10_init_8 : decode cX10_init 8 = .ok (.invokestatic 9, 3) := by decide +kernel
theorem dX10_init_11 : decode cX10_init 11 = .ok (.invokestatic 15, 3) := by decide +kernel
theorem dX10_init_14 : decode cX10_init 14 = .ok (.istore_n 3, 1) := by decide +kernel
theorem dX10_init_15 : decode cX10_init 15 = .ok (.iload_n 3, 1) := by decide +kernel
theorem dX10_init_16 : decode cX10_init 16 = .ok (.newarray .char, 2) := by decide +kernel
theorem dX10_init_18 : decode cX10_init 18 = .ok (.astore 4, 2) := by decide +kernel
theorem dX10_init_20 : decode cX10_init 20 = .ok (.iconst 4, 1) := by decide +kernel
theorem dX10_init_21 : decode cX10_init 21 = .ok (.newarray .long, 2) := by decide +kernel
theorem dX10_init_23 : decode cX10_init 23 = .ok (.astore 5, 2) := by decide +kernel
theorem dX10_init_25 : decode cX10_init 25 = .ok (.iconst 0, 1) := by decide +kernel
theorem dX10_init_26 : decode cX10_init 26 = .ok (.istore 6, 2) := by decide +kernel
theorem dX10_init_28 : decode cX10_init 28 = .ok (.iconst 0, 1) := by decide +kernel
theorem dX10_init_29 : decode cX10_init 29 = .ok (.istore 7, 2) := by decide +kernel
theorem dX10_init_31 : decode cX10_init 31 = .ok (.iload 7, 2) := by decide +kernel
theorem dX10_init_33 : decode cX10_init 33 = .ok (.iload_n 3, 1) := by decide +kernel
theorem dX10_init_34 : decode cX10_init 34 = .ok (.if_icmp .ge 58, 3) := by decide +kernel
theorem dX10_init_37 : decode cX10_init 37 = .ok (.aload_n 1, 1) := by decide +kernel
theorem dX10_init_38 : decode cX10_init 38 = .ok (.iload 7, 2) := by decide +kernel
theorem dX10_init_40 : decode cX10_init 40 = .ok (.caload, 1) := by decide +kernel
theorem dX10_init_41 : decode cX10_init 41 = .ok (.istore 8, 2) := by decide +kernel
theorem dX10_init_43 : decode cX10_init 43 = .ok (.aload 4, 2) := by decide +kernel
theorem dX10_init_45 : decode cX10_init 45 = .ok (.iload 7, 2) := by decide +kernel
theorem dX10_init_47 : decode cX10_init 47 = .ok (.iload 8, 2) := by decide +kernel
theorem dX10_init_49 : decode cX10_init 49 = .ok (.castore, 1) := by decide +kernel
theorem dX10_init_50 : decode cX10_init 50 = .ok (.iload 8, 2) := by decide +kernel
theorem dX10_init_52 : decode cX10_init 52 = .ok (.bipush 47, 2) := by decide +kernel
theorem dX10_init_54 : decode cX10_init 54 = .ok (.if_icmp .ne 9, 3) := by decide +kernel
theorem dX10_init_57 : decode cX10_init 57 = .ok (.iinc 6 1, 3) := by decide +kernel
theorem dX10_init_60 : decode cX10_init 60 = .ok (.goto 26, 3) := by decide +kernel
theorem dX10_init_63 : decode cX10_init 63 = .ok (.iload 6, 2) := by decide +kernel
theorem dX10_init_65 : decode cX10_init 65 = .ok (.iconst 4, 1) := by decide +kernel
theorem dX10_init_66 : decode cX10_init 66 = .ok (.if_icmp .ge 20, 3) := by decide +kernel
theorem dX10_init_69 : decode cX10_init 69 = .ok (.aload 5, 2) := by decide +kernel
theorem dX10_init_71 : decode cX10_init 71 = .ok (.iload 6, 2) := by decide +kernel
theorem dX10_init_73 : decode cX10_init 73 = .ok (.aload 5, 2) := by decide +kernel
theorem dX10_init_75 : decode cX10_init 75 = .ok (.iload 6, 2) := by decide +kernel
theorem dX10_init_77 : decode cX10_init 77 = .ok (.laload, 1) := by decide +kernel
theorem dX10_init_78 : decode cX10_init 78 = .ok (.bipush 7, 2) := by decide +kernel
theorem dX10_init_80 : decode cX10_init 80 = .ok (.lshl, 1) := by decide +kernel
theorem dX10_init_81 : decode cX10_init 81 = .ok (.iload 8, 2) := by decide +kernel
theorem dX10_init_83 : decode cX10_init 83 = .ok (.i2l, 1) := by decide +kernel
theorem dX10_init_84 : decode cX10_init 84 = .ok (.lor, 1) := by decide +kernel
theorem dX10_init_85 : decode cX10_init 85 = .ok (.lastore, 1) := by decide +kernel
theorem dX10_init_86 : decode cX10_init 86 = .ok (.iinc 7 1, 3) := by decide +kernel
theorem dX10_init_89 : decode cX10_init 89 = .ok (.goto (-58), 3) := by decide +kernel
theorem dX10_init_92 : decode cX10_init 92 = .ok (.aload_n 0, 1) := by decide +kernel
theorem dX10_init_93 : decode cX10_init 93 = .ok (.aload 4, 2) := by decide +kernel
theorem dX10_init_95 : decode cX10_init 95 = .ok (.putfield 18, 3) := by decide +kernel
theorem dX10_init_98 : decode cX10_init 98 = .ok (.aload_n 0, 1) := by decide +kernel
theorem dX10_init_99 : decode cX10_init 99 = .ok (.aload 5, 2) := by decide +kernel
theorem dX10_init_101 : decode cX10_init 101 = .ok (.putfield 24, 3) := by decide +kernel
theorem dX10_init_104 : decode cX10_init 104 = .ok (.aload_n 0, 1) := by decide +kernel
theorem dX10_init_105 : decode cX10_init 105 = .ok (.iload_n 3, 1) := by decide +kernel
theorem dX10_init_106 : decode cX10_init 106 = .ok (.ifCond .ne 7, 3) := by decide +kernel
theorem dX10_init_109 : decode cX10_init 109 = .ok (.iconst 0, 1) := by decide +kernel
theorem dX10_init_110 : decode cX10_init 110 = .ok (.goto 7, 3) := by decide +kernel
theorem dX10_init_113 : decode cX10_init 113 = .ok (.iload 6, 2) := by decide +kernel
theorem dX10_init_115 : decode cX10_init 115 = .ok (.iconst 1, 1) := by decide +kernel
theorem dX10_init_116 : decode cX10_init 116 = .ok (.iadd, 1) := by decide +kernel
theorem dX10_init_117 : decode cX10_init 117 = .ok (.putfield 28, 3) := by decide +kernel
theorem dX10_init_120 : decode cX10_init 120 = .ok (.aload_n 0, 1) := by decide +kernel
theorem dX10_init_121 : decode cX10_init 121 = .ok (.iload_n 3, 1) := by decide +kernel
theorem dX10_init_122 : decode cX10_init 122 = .ok (.ifCond .le 18, 3) := by decide +kernel
theorem dX10_init_125 : decode cX10_init 125 = .ok (.aload 4, 2) := by decide +kernel
theorem dX10_init_127 : decode cX10_init 127 = .ok (.iload_n 3, 1) := by decide +kernel
theorem dX10_init_128 : decode cX10_init 128 = .ok (.iconst 1, 1) := by decide +kernel
theorem dX10_init_129 : decode cX10_init 129 = .ok (.isub, 1) := by decide +kernel
theorem dX10_init_130 : decode cX10_init 130 = .ok (.caload, 1) := by decide +kernel
theorem dX10_init_131 : decode cX10_init 131 = .ok (.bipush 35, 2) := by decide +kernel
theorem dX10_init_133 : decode cX10_init 133 = .ok (.if_icmp .ne 7, 3) := by decide +kernel
theorem dX10_init_136 : decode cX10_init 136 = .ok (.iconst 1, 1) := by decide +kernel
theorem dX10_init_137 : decode cX10_init 137 = .ok (.goto 4, 3) := by decide +kernel
theorem dX10_init_140 : decode cX10_init 140 = .ok (.iconst 0, 1) := by decide +kernel
theorem dX10_init_141 : decode cX10_init 141 = .ok (.putfield 32, 3) := by decide +kernel
theorem dX10_init_144 : decode cX10_init 144 = .ok (.aload_n 0, 1) := by decide +kernel
theorem dX10_init_145 : decode cX10_init 145 = .ok (.aload_n 0, 1) := by decide +kernel
theorem dX10_init_146 : decode cX10_init 146 = .ok (.getfield 32, 3) := by decide +kernel
theorem dX10_init_149 : decode cX10_init 149 = .ok (.ifCond .eq 12, 3) := by decide +kernel
theorem dX10_init_152 : decode cX10_init 152 = .ok (.aload_n 0, 1) := by decide +kernel
theorem dX10_init_153 : decode cX10_init 153 = .ok (.getfield 28, 3) := by decide +kernel
theorem dX10_init_156 : decode cX10_init 156 = .ok (.iconst 1, 1) := by decide +kernel
theorem dX10_init_157 : decode cX10_init 157 = .ok (.isub, 1) := by decide +kernel
theorem dX10_init_158 : decode cX10_init 158 = .ok (.goto 7, 3) := by decide +kernel
theorem dX10_init_161 : decode cX10_init 161 = .ok (.aload_n 0, 1) := by decide +kernel
theorem dX10_init_162 : decode cX10_init 162 = .ok (.getfield 28, 3) := by decide +kernel
theorem dX10_init_165 : decode cX10_init 165 = .ok (.putfield 36, 3) := by decide +kernel
theorem dX10_init_168 : decode cX10_init 168 = .ok (.return_, 1) := by decide +kernel
theorem dX10_findError_0 : decode cX10_findError 0 = .ok (.iconst 1, 1) := by decide +kernel
theorem dX10_findError_1 : decode cX10_findError 1 = .ok (.istore_n 3, 1) := by decide +kernel
theorem dX10_findError_2 : decode cX10_findError 2 = .ok (.iconst 0, 1) := by decide +kernel
theorem dX10_findError_3 : decode cX10_findError 3 = .ok (.istore 4, 2) := by decide +kernel
theorem dX10_findError_5 : decode cX10_findError 5 = .ok (.iconst 0, 1) := by decide +kernel
theorem dX10_findError_6 : decode cX10_findError 6 = .ok (.istore 5, 2) := by decide +kernel
theorem dX10_findError_8 : decode cX10_findError 8 = .ok (.iconst 0, 1) := by decide +kernel
theorem dX10_findError_9 : decode cX10_findError 9 = .ok (.istore 6, 2) := by decide +kernel
theorem dX10_findError_11 : decode cX10_findError 11 = .ok (.iload 6, 2) := by decide +kernel
theorem dX10_findError_13 : decode cX10_findError 13 = .ok (.iload_n 1, 1) := by decide +kernel
theorem dX10_findError_14 : decode cX10_findError 14 = .ok (.if_icmp .ge 123, 3) := by decide +kernel
theorem dX10_findError_17 : decode cX10_findError 17 = .ok (.iload 6, 2) := by decide +kernel
theorem dX10_findError_19 : decode cX10_findError 19 = .ok (.aload_n 0, 1) := by decide +kernel
theorem dX10_findError_20 : decode cX10_findError 20 = .ok (.arraylength, 1) := by decide +kernel
theorem dX10_findError_21 : decode cX10_findError 21 = .ok (.if_icmp .ge 116, 3) := by decide +kernel
theorem dX10_findError_24 : decode cX10_findError 24 = .ok (.aload_n 0, 1) := by decide +kernel
theorem dX10_findError_25 : decode cX10_findError 25 = .ok (.iload 6, 2) := by decide +kernel
theorem dX10_findError_27 : decode cX10_findError 27 = .ok (.caload, 1) := by decide +kernel
theorem dX10_findError_28 : decode cX10_findError 28 = .ok (.istore 7, 2) := by decide +kernel
theorem dX10_findError_30 : decode cX10_findError 30 = .ok (.iload 7, 2) := by decide +kernel
theorem dX10_findError_32 : decode cX10_findError 32 = .ok (.bipush 47, 2) := by decide +kernel
theorem dX10_findError_34 : decode cX10_findError 34 = .ok (.if_icmp .ne 35, 3) := by decide +kernel
theorem dX10_findError_37 : decode cX10_findError 37 = .ok (.iload 4, 2) := by decide +kernel
theorem dX10_findError_39 : decode cX10_findError 39 = .ok (.ifCond .eq 15, 3) := by decide +kernel
theorem dX10_findError_42 : decode cX10_findError 42 = .ok (.iload 5, 2) := by decide +kernel
theorem dX10_findError_44 : decode cX10_findError 44 = .ok (.bipush 35, 2) := by decide +kernel
theorem dX10_findError_46 : decode cX10_findError 46 = .ok (.if_icmp .eq 8, 3) := by decide +kernel
theorem dX10_findError_49 : decode cX10_findError 49 = .ok (.iload_n 3, 1) := by decide +kernel
theorem dX10_findError_50 : decode cX10_findError 50 = .ok (.iconst 4, 1) := by decide +kernel
theorem dX10_findError_51 : decode cX10_findError 51 = .ok (.if_icmp .ne 6, 3) := by decide +kernel
theorem dX10_findError_54 : decode cX10_findError 54 = .ok (.iload 6, 2) := by decide +kernel
theorem dX10_findError_56 : decode cX10_findError 56 = .ok (.ireturn, 1) := by decide +kernel
theorem dX10_findError_57 : decode cX10_findError 57 = .ok (.iinc 3 1, 3) := by decide +kernel
theorem dX10_findError_60 : decode cX10_findError 60 = .ok (.iconst 0, 1) := by decide +kernel
theorem dX10_findError_61 : decode cX10_findError 61 = .ok (.istore 4, 2) := by decide +kernel
theorem dX10_findError_63 : decode cX10_findError 63 = .ok (.iconst 0, 1) := by decide +kernel
theorem dX10_findError_64 : decode cX10_findError 64 = .ok (.istore 5, 2) := by decide +kernel
theorem dX10_findError_66 : decode cX10_findError 66 = .ok (.goto 65, 3) := by decide +kernel
theorem dX10_findError_69 : decode cX10_findError 69 = .ok (.iload 7, 2) := by decide +kernel
theorem dX10_findError_71 : decode cX10_findError 71 = .ok (.bipush 43, 2) := by decide +kernel
theorem dX10_findError_73 : decode cX10_findError 73 = .ok (.if_icmp .eq 10, 3) := by decide +kernel
theorem dX10_findError_76 : decode cX10_findError 76 = .ok (.iload 7, 2) := by decide +kernel
theorem dX10_findError_78 : decode cX10_findError 78 = .ok (.bipush 35, 2) := by decide +kernel
theorem dX10_findError_80 : decode cX10_findError 80 = .ok (.if_icmp .ne 25, 3) := by decide +kernel
theorem dX10_findError_83 : decode cX10_findError 83 = .ok (.iload_n 2, 1) := by decide +kernel
theorem dX10_findError_84 : decode cX10_findError 84 = .ok (.ifCond .eq 8, 3) := by decide +kernel
theorem dX10_findError_87 : decode cX10_findError 87 = .ok (.iload 4, 2) := by decide +kernel
theorem dX10_findError_89 : decode cX10_findError 89 = .ok (.ifCond .eq 6, 3) := by decide +kernel
theorem dX10_findError_92 : decode cX10_findError 92 = .ok (.iload 6, 2) := by decide +kernel
theorem dX10_findError_94 : decode cX10_findError 94 = .ok (.ireturn, 1) := by decide +kernel
theorem dX10_findError_95 : decode cX10_findError 95 = .ok (.iload 7, 2) := by decide +kernel
theorem dX10_findError_97 : decode cX10_findError 97 = .ok (.istore 5, 2) := by decide +kernel
theorem dX10_findError_99 : decode cX10_findError 99 = .ok (.iconst 1, 1) := by decide +kernel
theorem dX10_findError_100 : decode cX10_findError 100 = .ok (.istore 4, 2) := by decide +kernel
theorem dX10_findError_102 : decode cX10_findError 102 = .ok (.goto 29, 3) := by decide +kernel
theorem dX10_findError_105 : decode cX10_findError 105 = .ok (.iload 7, 2) := by decide +kernel
theorem dX10_findError_107 : decode cX10_findError 107 = .ok (.invokestatic 39, 3) := by decide +kernel
theorem dX10_findError_110 : decode cX10_findError 110 = .ok (.ifCond .eq 15, 3) := by decide +kernel
theorem dX10_findError_113 : decode cX10_findError 113 = .ok (.iload 5, 2) := by decide +kernel
theorem dX10_findError_115 : decode cX10_findError 115 = .ok (.ifCond .ne 10, 3) := by decide +kernel
theorem dX10_findError_118 : decode cX10_findError 118 = .ok (.iload 4, 2) := by decide +kernel
theorem dX10_findError_120 : decode cX10_findError 120 = .ok (.bipush 6, 2) := by decide +kernel
theorem dX10_findError_122 : decode cX10_findError 122 = .ok (.if_icmp .ne 6, 3) := by decide +kernel
theorem dX10_findError_125 : decode cX10_findError 125 = .ok (.iload 6, 2) := by decide +kernel
theorem dX10_findError_127 : decode cX10_findError 127 = .ok (.ireturn, 1) := by decide +kernel
theorem dX10_findError_128 : decode cX10_findError 128 = .ok (.iinc 4 1, 3) := by decide +kernel
theorem dX10_findError_131 : decode cX10_findError 131 = .ok (.iinc 6 1, 3) := by decide +kernel
theorem dX10_findError_134 : decode cX10_findError 134 = .ok (.goto (-123), 3) := by decide +kernel
theorem dX10_findError_137 : decode cX10_findError 137 = .ok (.iload 4, 2) := by decide +kernel
theorem dX10_findError_139 : decode cX10_findError 139 = .ok (.ifCond .ne 7, 3) := by decide +kernel
theorem dX10_findError_142 : decode cX10_findError 142 = .ok (.iload_n 1, 1) := by decide +kernel
theorem dX10_findError_143 : decode cX10_findError 143 = .ok (.goto 4, 3) := by decide +kernel
theorem dX10_findError_146 : decode cX10_findError 146 = .ok (.iconst (-1), 1) := by decide +kernel
theorem dX10_findError_147 : decode cX10_findError 147 = .ok (.ireturn, 1) := by decide +kernel
theorem dX10_isPlain_0 : decode cX10_isPlain 0 = .ok (.iload_n 0, 1) := by decide +kernel
theorem dX10_isPlain_1 : decode cX10_isPlain 1 = .ok (.bipush 97, 2) := by decide +kernel
theorem dX10_isPlain_3 : decode cX10_isPlain 3 = .ok (.if_icmp .lt 9, 3) := by decide +kernel
theorem dX10_isPlain_6 : decode cX10_isPlain 6 = .ok (.iload_n 0, 1) := by decide +kernel
theorem dX10_isPlain_7 : decode cX10_isPlain 7 = .ok (.bipush 122, 2) := by decide +kernel
theorem dX10_isPlain_9 : decode cX10_isPlain 9 = .ok (.if_icmp .le 15, 3) := by decide +kernel
theorem dX10_isPlain_12 : decode cX10_isPlain 12 = .ok (.iload_n 0, 1) := by decide +kernel
theorem dX10_isPlain_13 : decode cX10_isPlain 13 = .ok (.bipush 48, 2) := by decide +kernel
theorem dX10_isPlain_15 : decode cX10_isPlain 15 = .ok (.if_icmp .lt 13, 3) := by decide +kernel
theorem dX10_isPlain_18 : decode cX10_isPlain 18 = .ok (.iload_n 0, 1) := by decide +kernel
theorem dX10_isPlain_19 : decode cX10_isPlain 19 = .ok (.bipush 57, 2) := by decide +kernel
theorem dX10_isPlain_21 : decode cX10_isPlain 21 = .ok (.if_icmp .gt 7, 3) := by decide +kernel
theorem dX10_isPlain_24 : decode cX10_isPlain 24 = .ok (.iconst 1, 1) := by decide +kernel
theorem dX10_isPlain_25 : decode cX10_isPlain 25 = .ok (.goto 4, 3) := by decide +kernel
theorem dX10_isPlain_28 : decode cX10_isPlain 28 = .ok (.iconst 0, 1) := by decide +kernel
theorem dX10_isPlain_29 : decode cX10_isPlain 29 = .ok (.ireturn, 1) := by decide +kernel
theorem dX10_sameAs_0 : decode cX10_sameAs 0 = .ok (.iconst 0, 1) := by decide +kernel
theorem dX10_sameAs_1 : decode cX10_sameAs 1 = .ok (.istore_n 2, 1) := by decide +kernel
theorem dX10_sameAs_2 : decode cX10_sameAs 2 = .ok (.iload_n 2, 1) := by decide +kernel
theorem dX10_sameAs_3 : decode cX10_sameAs 3 = .ok (.iconst 4, 1) := by decide +kernel
theorem dX10_sameAs_4 : decode cX10_sameAs 4 = .ok (.if_icmp .ge 27, 3) := by decide +kernel
theorem dX10_sameAs_7 : decode cX10_sameAs 7 = .ok (.aload_n 0, 1) := by decide +kernel
theorem dX10_sameAs_8 : decode cX10_sameAs 8 = .ok (.getfield 24, 3) := by decide +kernel
theorem dX10_sameAs_11 : decode cX10_sameAs 11 = .ok (.iload_n 2, 1) := by decide +kernel
theorem dX10_sameAs_12 : decode cX10_sameAs 12 = .ok (.laload, 1) := by decide +kernel
theorem dX10_sameAs_13 : decode cX10_sameAs 13 = .ok (.aload_n 1, 1) := by decide +kernel
theorem dX10_sameAs_14 : decode cX10_sameAs 14 = .ok (.getfield 24, 3) := by decide +kernel
theorem dX10_sameAs_17 : decode cX10_sameAs 17 = .ok (.iload_n 2, 1) := by decide +kernel
theorem dX10_sameAs_18 : decode cX10_sameAs 18 = .ok (.laload, 1) := by decide +kernel
theorem dX10_sameAs_19 : decode cX10_sameAs 19 = .ok (.lcmp, 1) := by decide +kernel
theorem dX10_sameAs_20 : decode cX10_sameAs 20 = .ok (.ifCond .eq 5, 3) := by decide +kernel
theorem dX10_sameAs_23 : decode cX10_sameAs 23 = .ok (.iconst 0, 1) := by decide +kernel
theorem dX10_sameAs_24 : decode cX10_sameAs 24 = .ok (.ireturn, 1) := by decide +kernel
theorem dX10_sameAs_25 : decode cX10_sameAs 25 = .ok (.iinc 2 1, 3) := by decide +kernel
theorem dX10_sameAs_28 : decode cX10_sameAs 28 = .ok (.goto (-26), 3) := by decide +kernel
theorem dX10_sameAs_31 : decode cX10_sameAs 31 = .ok (.iconst 1, 1) := by decide +kernel
theorem dX10_sameAs_32 : decode cX10_sameAs 32 = .ok (.ireturn, 1) := by decide +kernel
theorem dX10_order_0 : decode cX10_order 0 = .ok (.aload_n 0, 1) := by decide +kernel
theorem dX10_order_1 : decode cX10_order 1 = .ok (.getfield 18, 3) := by decide +kernel
theorem dX10_order_4 : decode cX10_order 4 = .ok (.arraylength, 1) := by decide +kernel
theorem dX10_order_5 : decode cX10_order 5 = .ok (.aload_n 1, 1) := by decide +kernel
theorem dX10_order_6 : decode cX10_order 6 = .ok (.getfield 18, 3) := by decide +kernel
theorem dX10_order_9 : decode cX10_order 9 = .ok (.arraylength, 1) := by decide +kernel
theorem dX10_order_10 : decode cX10_order 10 = .ok (.invokestatic 9, 3) := by decide +kernel
theorem dX10_order_13 : decode cX10_order 13 = .ok (.istore_n 2, 1) := by decide +kernel
theorem dX10_order_14 : decode cX10_order 14 = .ok (.iconst 0, 1) := by decide +kernel
theorem dX10_order_15 : decode cX10_order 15 = .ok (.istore_n 3, 1) := by decide +kernel
theorem dX10_order_16 : decode cX10_order 16 = .ok (.iload_n 3, 1) := by decide +kernel
theorem dX10_order_17 : decode cX10_order 17 = .ok (.iload_n 2, 1) := by decide +kernel
theorem dX10_order_18 : decode cX10_order 18 = .ok (.if_icmp .ge 38, 3) := by decide +kernel
theorem dX10_order_21 : decode cX10_order 21 = .ok (.aload_n 0, 1) := by decide +kernel
theorem dX10_order_22 : decode cX10_order 22 = .ok (.getfield 18, 3) := by decide +kernel
theorem dX10_order_25 : decode cX10_order 25 = .ok (.iload_n 3, 1) := by decide +kernel
theorem dX10_order_26 : decode cX10_order 26 = .ok (.caload, 1) := by decide +kernel
theorem dX10_order_27 : decode cX10_order 27 = .ok (.aload_n 1, 1) := by decide +kernel
theorem dX10_order_28 : decode cX10_order 28 = .ok (.getfield 18, 3) := by decide +kernel
theorem dX10_order_31 : decode cX10_order 31 = .ok (.iload_n 3, 1) := by decide +kernel
theorem dX10_order_32 : decode cX10_order 32 = .ok (.caload, 1) := by decide +kernel
theorem dX10_order_33 : decode cX10_order 33 = .ok (.if_icmp .eq 17, 3) := by decide +kernel
theorem dX10_order_36 : decode cX10_order 36 = .ok (.aload_n 0, 1) := by decide +kernel
theorem dX10_order_37 : decode cX10_order 37 = .ok (.getfield 18, 3) := by decide +kernel
theorem dX10_order_40 : decode cX10_order 40 = .ok (.iload_n 3, 1) := by decide +kernel
theorem dX10_order_41 : decode cX10_order 41 = .ok (.caload, 1) := by decide +kernel
theorem dX10_order_42 : decode cX10_order 42 = .ok (.aload_n 1, 1) := by decide +kernel
theorem dX10_order_43 : decode cX10_order 43 = .ok (.getfield 18, 3) := by decide +kernel
theorem dX10_order_46 : decode cX10_order 46 = .ok (.iload_n 3, 1) := by decide +kernel
theorem dX10_order_47 : decode cX10_order 47 = .ok (.caload, 1) := by decide +kernel
theorem dX10_order_48 : decode cX10_order 48 = .ok (.isub, 1) := by decide +kernel
theorem dX10_order_49 : decode cX10_order 49 = .ok (.ireturn, 1) := by decide +kernel
theorem dX10_order_50 : decode cX10_order 50 = .ok (.iinc 3 1, 3) := by decide +kernel
theorem dX10_order_53 : decode cX10_order 53 = .ok (.goto (-37), 3) := by decide +kernel
theorem dX10_order_56 : decode cX10_order 56 = .ok (.aload_n 0, 1) := by decide +kernel
theorem dX10_order_57 : decode cX10_order 57 = .ok (.getfield 18, 3) := by decide +kernel
theorem dX10_order_60 : decode cX10_order 60 = .ok (.arraylength, 1) := by decide +kernel
theorem dX10_order_61 : decode cX10_order 61 = .ok (.aload_n 1, 1) := by decide +kernel
theorem dX10_order_62 : decode cX10_order 62 = .ok (.getfield 18, 3) := by decide +kernel
theorem dX10_order_65 : decode cX10_order 65 = .ok (.arraylength, 1) := by decide +kernel
theorem dX10_order_66 : decode cX10_order 66 = .ok (.isub, 1) := by decide +kernel
theorem dX10_order_67 : decode cX10_order 67 = .ok (.ireturn, 1) := by decide +kernel
theorem dX10_matches_0 : decode cX10_matches 0 = .ok (.aload_n 0, 1) := by decide +kernel
theorem dX10_matches_1 : decode cX10_matches 1 = .ok (.aload_n 1, 1) := by decide +kernel
theorem dX10_matches_2 : decode cX10_matches 2 = .ok (.aload_n 1, 1) := by decide +kernel
theorem dX10_matches_3 : decode cX10_matches 3 = .ok (.getfield 28, 3) := by decide +kernel
theorem dX10_matches_6 : decode cX10_matches 6 = .ok (.invokevirtual 43, 3) := by decide +kernel
theorem dX10_matches_9 : decode cX10_matches 9 = .ok (.ireturn, 1) := by decide +kernel
theorem dX10_fits_0 : decode cX10_fits 0 = .ok (.aload_n 0, 1) := by decide +kernel
theorem dX10_fits_1 : decode cX10_fits 1 = .ok (.getfield 32, 3) := by decide +kernel
theorem dX10_fits_4 : decode cX10_fits 4 = .ok (.ifCond .eq 19, 3) := by decide +kernel
theorem dX10_fits_7 : decode cX10_fits 7 = .ok (.iload_n 1, 1) := by decide +kernel
theorem dX10_fits_8 : decode cX10_fits 8 = .ok (.aload_n 0, 1) := by decide +kernel
theorem dX10_fits_9 : decode cX10_fits 9 = .ok (.getfield 36, 3) := by decide +kernel
theorem dX10_fits_12 : decode cX10_fits 12 = .ok (.if_icmp .lt 7, 3) := by decide +kernel
theorem dX10_fits_15 : decode cX10_fits 15 = .ok (.iconst 1, 1) := by decide +kernel
theorem dX10_fits_16 : decode cX10_fits 16 = .ok (.goto 20, 3) := by decide +kernel
theorem dX10_fits_19 : decode cX10_fits 19 = .ok (.iconst 0, 1) := by decide +kernel
theorem dX10_fits_20 : decode cX10_fits 20 = .ok (.goto 16, 3) := by decide +kernel
theorem dX10_fits_23 : decode cX10_fits 23 = .ok (.iload_n 1, 1) := by decide +kernel
theorem dX10_fits_24 : decode cX10_fits 24 = .ok (.aload_n 0, 1) := by decide +kernel
theorem dX10_fits_25 : decode cX10_fits 25 = .ok (.getfield 36, 3) := by decide +kernel
theorem dX10_fits_28 : decode cX10_fits 28 = .ok (.if_icmp .ne 7, 3) := by decide +kernel
theorem dX10_fits_31 : decode cX10_fits 31 = .ok (.iconst 1, 1) := by decide +kernel
theorem dX10_fits_32 : decode cX10_fits 32 = .ok (.goto 4, 3) := by decide +kernel
theorem dX10_fits_35 : decode cX10_fits 35 = .ok (.iconst 0, 1) := by decide +kernel
theorem dX10_fits_36 : decode cX10_fits 36 = .ok (.ireturn, 1) := by decide +kernel
theorem dX10_levelAt_0 : decode cX10_levelAt 0 = .ok (.iload_n 1, 1) := by decide +kernel
theorem dX10_levelAt_1 : decode cX10_levelAt 1 = .ok (.ifCond .lt 25, 3) := by decide +kernel
theorem dX10_levelAt_4 : decode cX10_levelAt 4 = .ok (.iload_n 1, 1) := by decide +kernel
theorem dX10_levelAt_5 : decode cX10_levelAt 5 = .ok (.aload_n 0, 1) := by decide +kernel
theorem dX10_levelAt_6 : decode cX10_levelAt 6 = .ok (.getfield 36, 3) := by decide +kernel
theorem dX10_levelAt_9 : decode cX10_levelAt 9 = .ok (.if_icmp .ge 17, 3) := by decide +kernel
theorem dX10_levelAt_12 : decode cX10_levelAt 12 = .ok (.iload_n 1, 1) := by decide +kernel
theorem dX10_levelAt_13 : decode cX10_levelAt 13 = .ok (.iconst 4, 1) := by decide +kernel
theorem dX10_levelAt_14 : decode cX10_levelAt 14 = .ok (.if_icmp .ge 12, 3) := by decide +kernel
theorem dX10_levelAt_17 : decode cX10_levelAt 17 = .ok (.aload_n 0, 1) := by decide +kernel
theorem dX10_levelAt_18 : decode cX10_levelAt 18 = .ok (.getfield 24, 3) := by decide +kernel
theorem dX10_levelAt_21 : decode cX10_levelAt 21 = .ok (.iload_n 1, 1) := by decide +kernel
theorem dX10_levelAt_22 : decode cX10_levelAt 22 = .ok (.laload, 1) := by decide +kernel
theorem dX10_levelAt_23 : decode cX10_levelAt 23 = .ok (.goto 6, 3) := by decide +kernel
theorem dX10_levelAt_26 : decode cX10_levelAt 26 = .ok (.ldc2_w 54, 3) := by decide +kernel
theorem dX10_levelAt_29 : decode cX10_levelAt 29 = .ok (.lreturn, 1) := by decide +kernel
theorem dX10_coversWith_0 : decode cX10_coversWith 0 = .ok (.aload_n 0, 1) := by decide +kernel
theorem dX10_coversWith_1 : decode cX10_coversWith 1 = .ok (.iload_n 2, 1) := by decide +kernel
theorem dX10_coversWith_2 : decode cX10_coversWith 2 = .ok (.invokevirtual 47, 3) := by decide +kernel
theorem dX10_coversWith_5 : decode cX10_coversWith 5 = .ok (.ifCond .ne 5, 3) := by decide +kernel
theorem dX10_coversWith_8 : decode cX10_coversWith 8 = .ok (.iconst 0, 1) := by decide +kernel
theorem dX10_coversWith_9 : decode cX10_coversWith 9 = .ok (.ireturn, 1) := by decide +kernel
theorem dX10_coversWith_10 : decode cX10_coversWith 10 = .ok (.iconst 0, 1) := by decide +kernel
theorem dX10_coversWith_11 : decode cX10_coversWith 11 = .ok (.istore_n 3, 1) := by decide +kernel
theorem dX10_coversWith_12 : decode cX10_coversWith 12 = .ok (.iload_n 3, 1) := by decide +kernel
theorem dX10_coversWith_13 : decode cX10_coversWith 13 = .ok (.iload_n 2, 1) := by decide +kernel
theorem dX10_coversWith_14 : decode cX10_coversWith 14 = .ok (.if_icmp .ge 38, 3) := by decide +kernel
theorem dX10_coversWith_17 : decode cX10_coversWith 17 = .ok (.aload_n 0, 1) := by decide +kernel
theorem dX10_coversWith_18 : decode cX10_coversWith 18 = .ok (.iload_n 3, 1) := by decide +kernel
theorem dX10_coversWith_19 : decode cX10_coversWith 19 = .ok (.invokevirtual 56, 3) := by decide +kernel
theorem dX10_coversWith_22 : decode cX10_coversWith 22 = .ok (.lstore 4, 2) := by decide +kernel
theorem dX10_coversWith_24 : decode cX10_coversWith 24 = .ok (.lload 4, 2) := by decide +kernel
theorem dX10_coversWith_26 : decode cX10_coversWith 26 = .ok (.ldc2_w 54, 3) := by decide +kernel
theorem dX10_coversWith_29 : decode cX10_coversWith 29 = .ok (.lcmp, 1) := by decide +kernel
theorem dX10_coversWith_30 : decode cX10_coversWith 30 = .ok (.ifCond .eq 16, 3) := by decide +kernel
theorem dX10_coversWith_33 : decode cX10_coversWith 33 = .ok (.lload 4, 2) := by decide +kernel
theorem dX10_coversWith_35 : decode cX10_coversWith 35 = .ok (.aload_n 1, 1) := by decide +kernel
theorem dX10_coversWith_36 : decode cX10_coversWith 36 = .ok (.iload_n 3, 1) := by decide +kernel
theorem dX10_coversWith_37 : decode cX10_coversWith 37 = .ok (.invokevirtual 56, 3) := by decide +kernel
theorem dX10_coversWith_40 : decode cX10_coversWith 40 = .ok (.lcmp, 1) := by decide +kernel
theorem dX10_coversWith_41 : decode cX10_coversWith 41 = .ok (.ifCond .eq 5, 3) := by decide +kernel
theorem dX10_coversWith_44 : decode cX10_coversWith 44 = .ok (.iconst 0, 1) := by decide +kernel
theorem dX10_coversWith_45 : decode cX10_coversWith 45 = .ok (.ireturn, 1) := by decide +kernel
theorem dX10_coversWith_46 : decode cX10_coversWith 46 = .ok (.iinc 3 1, 3) := by decide +kernel
theorem dX10_coversWith_49 : decode cX10_coversWith 49 = .ok (.goto (-37), 3) := by decide +kernel
theorem dX10_coversWith_52 : decode cX10_coversWith 52 = .ok (.iconst 1, 1) := by decide +kernel
theorem dX10_coversWith_53 : decode cX10_coversWith 53 = .ok (.ireturn, 1) := by decide +kernel
theorem dX11_init_0 : decode cX11_init 0 = .ok (.aload_n 0, 1) := by decide +kernel
theorem dX11_init_1 : decode cX11_init 1 = .ok (.invokespecial 1, 3) := by decide +kernel
theorem dX11_init_4 : decode cX11_init 4 = .ok (.new 7, 3) := by decide +kernel
theorem dX11_init_7 : decode cX11_init 7 = .ok (.dup, 1) := by decide +kernel
theorem dX11_init_8 : decode cX11_init 8 = .ok (.iconst 0, 1) := by decide +kernel
theorem dX11_init_9 : decode cX11_init 9 = .ok (.newarray .char, 2) := by decide +kernel
theorem dX11_init_11 : decode cX11_init 11 = .ok (.iconst 0, 1) := by decide +kernel
theorem dX11_init_12 : decode cX11_init 12 = .ok (.invokespecial 9, 3) := by decide +kernel
theorem dX11_init_15 : decode cX11_init 15 = .ok (.astore_n 1, 1) := by decide +kernel
theorem dX11_init_16 : decode cX11_init 16 = .ok (.aload_n 0, 1) := by decide +kernel
theorem dX11_init_17 : decode cX11_init 17 = .ok (.bipush 30, 2) := by decide +kernel
theorem dX11_init_19 : decode cX11_init 19 = .ok (.newarray .char, 2) := by decide +kernel
theorem dX11_init_21 : decode cX11_init 21 = .ok (.putfield 14, 3) := by decide +kernel
theorem dX11_init_24 : decode cX11_init 24 = .ok (.aload_n 0, 1) := by decide +kernel
theorem dX11_init_25 : decode cX11_init 25 = .ok (.iconst (-1), 1) := by decide +kernel
theorem dX11_init_26 : decode cX11_init 26 = .ok (.putfield 18, 3) := by decide +kernel
theorem dX11_init_29 : decode cX11_init 29 = .ok (.aload_n 0, 1) := by decide +kernel
theorem dX11_init_30 : decode cX11_init 30 = .ok (.new 22, 3) := by decide +kernel
theorem dX11_init_33 : decode cX11_init 33 = .ok (.dup, 1) := by decide +kernel
theorem dX11_init_34 : decode cX11_init 34 = .ok (.aload_n 1, 1) := by decide +kernel
theorem dX11_init_35 : decode cX11_init 35 = .ok (.invokespecial 24, 3) := by decide +kernel
theorem dX11_init_38 : decode cX11_init 38 = .ok (.putfield 27, 3) := by decide +kernel
theorem dX11_init_41 : decode cX11_init 41 = .ok (.aload_n 0, 1) := by decide +kernel
theorem dX11_init_42 : decode cX11_init 42 = .ok (.new 31, 3) := by decide +kernel
theorem dX11_init_45 : decode cX11_init 45 = .ok (.dup, 1) := by decide +kernel
theorem dX11_init_46 : decode cX11_init 46 = .ok (.aload_n 1, 1) := by decide +kernel
theorem dX11_init_47 : decode cX11_init 47 = .ok (.invokespecial 33, 3) := by decide +kernel
theorem dX11_init_50 : decode cX11_init 50 = .ok (.putfield 34, 3) := by decide +kernel
theorem dX11_init_53 : decode cX11_init 53 = .ok (.aload_n 0, 1) := by decide +kernel
theorem dX11_init_54 : decode cX11_init 54 = .ok (.new 38, 3) := by decide +kernel
theorem dX11_init_57 : decode cX11_init 57 = .ok (.dup, 1) := by decide +kernel
theorem dX11_init_58 : decode cX11_init 58 = .ok (.aload_n 1, 1) := by decide +kernel
theorem dX11_init_59 : decode cX11_init 59 = .ok (.invokespecial 40, 3) := by decide +kernel
theorem dX11_init_62 : decode cX11_init 62 = .ok (.putfield 41, 3) := by decide +kernel
theorem dX11_init_65 : decode cX11_init 65 = .ok (.aload_n 0, 1) := by decide +kernel
theorem dX11_init_66 : decode cX11_init 66 = .ok (.new 38, 3) := by decide +kernel
theorem dX11_init_69 : decode cX11_init 69 = .ok (.dup, 1) := by decide +kernel
theorem dX11_init_70 : decode cX11_init 70 = .ok (.aload_n 1, 1) := by decide +kernel
theorem dX11_init_71 : decode cX11_init 71 = .ok (.invokespecial 40, 3) := by decide +kernel
theorem dX11_init_74 : decode cX11_init 74 = .ok (.putfield 45, 3) := by decide +kernel
theorem dX11_init_77 : decode cX11_init 77 = .ok (.return_, 1) := by decide +kernel
theorem dX11_append_0 : decode cX11_append 0 = .ok (.iconst 0, 1) := by decide +kernel
theorem dX11_append_1 : decode cX11_append 1 = .ok (.istore_n 2, 1) := by decide +kernel
theorem dX11_append_2 : decode cX11_append 2 = .ok (.bipush 24, 2) := by decide +kernel
theorem dX11_append_4 : decode cX11_append 4 = .ok (.istore_n 3, 1) := by decide +kernel
theorem dX11_append_5 : decode cX11_append 5 = .ok (.iload_n 3, 1) := by decide +kernel
theorem dX11_append_6 : decode cX11_append 6 = .ok (.ifCond .lt 48, 3) := by decide +kernel
theorem dX11_append_9 : decode cX11_append 9 = .ok (.iload_n 1, 1) := by decide +kernel
theorem dX11_append_10 : decode cX11_append 10 = .ok (.iload_n 3, 1) := by decide +kernel
theorem dX11_append_11 : decode cX11_append 11 = .ok (.iushr, 1) := by decide +kernel
theorem dX11_append_12 : decode cX11_append 12 = .ok (.sipush 255, 3) := by decide +kernel
theorem dX11_append_15 : decode cX11_append 15 = .ok (.iand, 1) := by decide +kernel
theorem dX11_append_16 : decode cX11_append 16 = .ok (.istore 4, 2) := by decide +kernel
theorem dX11_append_18 : decode cX11_append 18 = .ok (.iload 4, 2) := by decide +kernel
theorem dX11_append_20 : decode cX11_append 20 = .ok (.ifCond .eq 28, 3) := by decide +kernel
theorem dX11_append_23 : decode cX11_append 23 = .ok (.iload 4, 2) := by decide +kernel
theorem dX11_append_25 : decode cX11_append 25 = .ok (.bipush 33, 2) := by decide +kernel
theorem dX11_append_27 : decode cX11_append 27 = .ok (.if_icmp .lt 10, 3) := by decide +kernel
theorem dX11_append_30 : decode cX11_append 30 = .ok (.iload 4, 2) := by decide +kernel
theorem dX11_append_32 : decode cX11_append 32 = .ok (.bipush 126, 2) := by decide +kernel
theorem dX11_append_34 : decode cX11_append 34 = .ok (.if_icmp .le 11, 3) := by decide +kernel
theorem dX11_append_37 : decode cX11_append 37 = .ok (.new 48, 3) := by decide +kernel
theorem dX11_append_40 : decode cX11_append 40 = .ok (.dup, 1) := by decide +kernel
theorem dX11_append_41 : decode cX11_append 41 = .ok (.invokespecial 50, 3) := by decide +kernel
theorem dX11_append_44 : decode cX11_append 44 = .ok (.athrow, 1) := by decide +kernel
theorem dX11_append_45 : decode cX11_append 45 = .ok (.iinc 2 1, 3) := by decide +kernel
theorem dX11_append_48 : decode cX11_append 48 = .ok (.iinc 3 (-8), 3) := by decide +kernel
theorem dX11_append_51 : decode cX11_append 51 = .ok (.goto (-46), 3) := by decide +kernel
theorem dX11_append_54 : decode cX11_append 54 = .ok (.aload_n 0, 1) := by decide +kernel
theorem dX11_append_55 : decode cX11_append 55 = .ok (.getfield 51, 3) := by decide +kernel
theorem dX11_append_58 : decode cX11_append 58 = .ok (.iload_n 2, 1) := by decide +kernel
theorem dX11_append_59 : decode cX11_append 59 = .ok (.iadd, 1) := by decide +kernel
theorem dX11_append_60 : decode cX11_append 60 = .ok (.bipush 30, 2) := by decide +kernel
theorem dX11_append_62 : decode cX11_append 62 = .ok (.if_icmp .le 11, 3) := by decide +kernel
theorem dX11_append_65 : decode cX11_append 65 = .ok (.new 54, 3) := by decide +kernel
theorem dX11_append_68 : decode cX11_append 68 = .ok (.dup, 1) := by decide +kernel
theorem dX11_append_69 : decode cX11_append 69 = .ok (.invokespecial 56, 3) := by decide +kernel
theorem dX11_append_72 : decode cX11_append 72 = .ok (.athrow, 1) := by decide +kernel
theorem dX11_append_73 : decode cX11_append 73 = .ok (.bipush 24, 2) := by decide +kernel
theorem dX11_append_75 : decode cX11_append 75 = .ok (.istore_n 3, 1) := by decide +kernel
theorem dX11_append_76 : decode cX11_append 76 = .ok (.iload_n 3, 1) := by decide +kernel
theorem dX11_append_77 : decode cX11_append 77 = .ok (.ifCond .lt 64, 3) := by decide +kernel
theorem dX11_append_80 : decode cX11_append 80 = .ok (.iload_n 1, 1) := by decide +kernel
theorem dX11_append_81 : decode cX11_append 81 = .ok (.iload_n 3, 1) := by decide +kernel
theorem dX11_append_82 : decode cX11_append 82 = .ok (.iushr, 1) := by decide +kernel
theorem dX11_append_83 : decode cX11_append 83 = .ok (.sipush 255, 3) := by decide +kernel
theorem dX11_append_86 : decode cX11_append 86 = .ok (.iand, 1) := by decide +kernel
theorem dX11_append_87 : decode cX11_append 87 = .ok (.istore 4, 2) := by decide +kernel
theorem dX11_append_89 : decode cX11_append 89 = .ok (.iload 4, 2) := by decide +kernel
theorem dX11_append_91 : decode cX11_append 91 = .ok (.ifCond .eq 44, 3) := by decide +kernel
theorem dX11_append_94 : decode cX11_append 94 = .ok (.aload_n 0, 1) := by decide +kernel
theorem dX11_append_95 : decode cX11_append 95 = .ok (.getfield 51, 3) := by decide +kernel
theorem dX11_append_98 : decode cX11_append 98 = .ok (.ifCond .lt 37, 3) := by decide +kernel
theorem dX11_append_101 : decode cX11_append 101 = .ok (.aload_n 0, 1) := by decide +kernel
theorem dX11_append_102 : decode cX11_append 102 = .ok (.getfield 51, 3) := by decide +kernel
theorem dX11_append_105 : decode cX11_append 105 = .ok (.aload_n 0, 1) := by decide +kernel
theorem dX11_append_106 : decode cX11_append 106 = .ok (.getfield 14, 3) := by decide +kernel
theorem dX11_append_109 : decode cX11_append 109 = .ok (.arraylength, 1) := by decide +kernel
theorem dX11_append_110 : decode cX11_append 110 = .ok (.if_icmp .ge 25, 3) := by decide +kernel
theorem dX11_append_113 : decode cX11_append 113 = .ok (.aload_n 0, 1) := by decide +kernel
theorem dX11_append_114 : decode cX11_append 114 = .ok (.getfield 14, 3) := by decide +kernel
theorem dX11_append_117 : decode cX11_append 117 = .ok (.aload_n 0, 1) := by decide +kernel
theorem dX11_append_118 : decode cX11_append 118 = .ok (.getfield 51, 3) := by decide +kernel
theorem dX11_append_121 : decode cX11_append 121 = .ok (.iload 4, 2) := by decide +kernel
theorem dX11_append_123 : decode cX11_append 123 = .ok (.i2c, 1) := by decide +kernel
theorem dX11_append_124 : decode cX11_append 124 = .ok (.castore, 1) := by decide +kernel
theorem dX11_append_125 : decode cX11_append 125 = .ok (.aload_n 0, 1) := by decide +kernel
theorem dX11_append_126 : decode cX11_append 126 = .ok (.dup, 1) := by decide +kernel
theorem dX11_append_127 : decode cX11_append 127 = .ok (.getfield 51, 3) := by decide +kernel
theorem dX11_append_130 : decode cX11_append 130 = .ok (.iconst 1, 1) := by decide +kernel
theorem dX11_append_131 : decode cX11_append 131 = .ok (.iadd, 1) := by decide +kernel
theorem dX11_append_132 : decode cX11_append 132 = .ok (.putfield 51, 3) := by decide +kernel
theorem dX11_append_135 : decode cX11_append 135 = .ok (.iinc 3 (-8), 3) := by decide +kernel
theorem dX11_append_138 : decode cX11_append 138 = .ok (.goto (-62), 3) := by decide +kernel
theorem dX11_append_141 : decode cX11_append 141 = .ok (.aload_n 0, 1) := by decide +kernel
theorem dX11_append_142 : decode cX11_append 142 = .ok (.getfield 51, 3) := by decide +kernel
theorem dX11_append_145 : decode cX11_append 145 = .ok (.ireturn, 1) := by decide +kernel
theorem dX11_errorPosition_0 : decode cX11_errorPosition 0 = .ok (.aload_n 0, 1) := by decide +kernel
theorem dX11_errorPosition_1 : decode cX11_errorPosition 1 = .ok (.getfield 18, 3) := by decide +kernel
theorem dX11_errorPosition_4 : decode cX11_errorPosition 4 = .ok (.ireturn, 1) := by decide +kernel
theorem dX11_setOption_0 : decode cX11_setOption 0 = .ok (.iload_n 1, 1) := by decide +kernel
theorem dX11_setOption_1 : decode cX11_setOption 1 = .ok (.ifCond .lt 11, 3) := by decide +kernel
theorem dX11_setOption_4 : decode cX11_setOption 4 = .ok (.iload_n 1, 1) := by decide +kernel
theorem dX11_setOption_5 : decode cX11_setOption 5 = .ok (.getstatic 57, 3) := by decide +kernel
theorem dX11_setOption_8 : decode cX11_setOption 8 = .ok (.arraylength, 1) := by decide +kernel
theorem dX11_setOption_9 : decode cX11_setOption 9 = .ok (.if_icmp .lt 11, 3) := by decide +kernel
theorem dX11_setOption_12 : decode cX11_setOption 12 = .ok (.new 61, 3) := by decide +kernel
theorem dX11_setOption_15 : decode cX11_setOption 15 = .ok (.dup, 1) := by decide +kernel
theorem dX11_setOption_16 : decode cX11_setOption 16 = .ok (.invokespecial 63, 3) := by decide +kernel
theorem dX11_setOption_19 : decode cX11_setOption 19 = .ok (.athrow, 1) := by decide +kernel
theorem dX11_setOption_20 : decode cX11_setOption 20 = .ok (.iload_n 2, 1) := by decide +kernel
theorem dX11_setOption_21 : decode cX11_setOption 21 = .ok (.getstatic 64, 3) := by decide +kernel
theorem dX11_setOption_24 : decode cX11_setOption 24 = .ok (.iload_n 1, 1) := by decide +kernel
theorem dX11_setOption_25 : decode cX11_setOption 25 = .ok (.iaload, 1) := by decide +kernel
theorem dX11_setOption_26 : decode cX11_setOption 26 = .ok (.if_icmp .lt 12, 3) := by decide +kernel
theorem dX11_setOption_29 : decode cX11_setOption 29 = .ok (.iload_n 2, 1) := by decide +kernel
theorem dX11_setOption_30 : decode cX11_setOption 30 = .ok (.getstatic 67, 3) := by decide +kernel
theorem dX11_setOption_33 : decode cX11_setOption 33 = .ok (.iload_n 1, 1) := by decide +kernel
theorem dX11_setOption_34 : decode cX11_setOption 34 = .ok (.iaload, 1) := by decide +kernel
theorem dX11_setOption_35 : decode cX11_setOption 35 = .ok (.if_icmp .le 11, 3) := by decide +kernel
theorem dX11_setOption_38 : decode cX11_setOption 38 = .ok (.new 48, 3) := by decide +kernel
theorem dX11_setOption_41 : decode cX11_setOption 41 = .ok (.dup, 1) := by decide +kernel
theorem dX11_setOption_42 : decode cX11_setOption 42 = .ok (.invokespecial 50, 3) := by decide +kernel
theorem dX11_setOption_45 : decode cX11_setOption 45 = .ok (.athrow, 1) := by decide +kernel
theorem dX11_setOption_46 : decode cX11_setOption 46 = .ok (.aload_n 0, 1) := by decide +kernel
theorem dX11_setOption_47 : decode cX11_setOption 47 = .ok (.getfield 41, 3) := by decide +kernel
theorem dX11_setOption_50 : decode cX11_setOption 50 = .ok (.getfield 70, 3) := by decide +kernel
theorem dX11_setOption_53 : decode cX11_setOption 53 = .ok (.iload_n 1, 1) := by decide +kernel
theorem dX11_setOption_54 : decode cX11_setOption 54 = .ok (.iaload, 1) := by decide +kernel
theorem dX11_setOption_55 : decode cX11_setOption 55 = .ok (.istore_n 3, 1) := by decide +kernel
theorem dX11_setOption_56 : decode cX11_setOption 56 = .ok (.aload_n 0, 1) := by decide +kernel
theorem dX11_setOption_57 : decode cX11_setOption 57 = .ok (.getfield 41, 3) := by decide +kernel
theorem dX11_setOption_60 : decode cX11_setOption 60 = .ok (.getfield 70, 3) := by decide +kernel
theorem dX11_setOption_63 : decode cX11_setOption 63 = .ok (.iload_n 1, 1) := by decide +kernel
theorem dX11_setOption_64 : decode cX11_setOption 64 = .ok (.iload_n 2, 1) := by decide +kernel
theorem dX11_setOption_65 : decode cX11_setOption 65 = .ok (.iastore, 1) := by decide +kernel
theorem dX11_setOption_66 : decode cX11_setOption 66 = .ok (.iload_n 3, 1) := by decide +kernel
theorem dX11_setOption_67 : decode cX11_setOption 67 = .ok (.ireturn, 1) := by decide +kernel
theorem dX11_connect_0 : decode cX11_connect 0 = .ok (.iload_n 1, 1) := by decide +kernel
theorem dX11_connect_1 : decode cX11_connect 1 = .ok (.invokestatic 73, 3) := by decide +kernel
theorem dX11_connect_4 : decode cX11_connect 4 = .ok (.aload_n 0, 1) := by decide +kernel
theorem dX11_connect_5 : decode cX11_connect 5 = .ok (.getfield 41, 3) := by decide +kernel
theorem dX11_connect_8 : decode cX11_connect 8 = .ok (.getfield 77, 3) := by decide +kernel
theorem dX11_connect_11 : decode cX11_connect 11 = .ok (.iload_n 1, 1) := by decide +kernel
theorem dX11_connect_12 : decode cX11_connect 12 = .ok (.aaload, 1) := by decide +kernel
theorem dX11_connect_13 : decode cX11_connect 13 = .ok (.astore_n 3, 1) := by decide +kernel
theorem dX11_connect_14 : decode cX11_connect 14 = .ok (.aload_n 3, 1) := by decide +kernel
theorem dX11_connect_15 : decode cX11_connect 15 = .ok (.getfield 81, 3) := by decide +kernel
theorem dX11_connect_18 : decode cX11_connect 18 = .ok (.ifCond .eq 25, 3) := by decide +kernel
theorem dX11_connect_21 : decode cX11_connect 21 = .ok (.aload_n 0, 1) := by decide +kernel
theorem dX11_connect_22 : decode cX11_connect 22 = .ok (.getfield 41, 3) := by decide +kernel
theorem dX11_connect_25 : decode cX11_connect 25 = .ok (.getfield 87, 3) := by decide +kernel
theorem dX11_connect_28 : decode cX11_connect 28 = .ok (.iconst 5, 1) := by decide +kernel
theorem dX11_connect_29 : decode cX11_connect 29 = .ok (.dup2, 1) := by decide +kernel
theorem dX11_connect_30 : decode cX11_connect 30 = .ok (.iaload, 1) := by decide +kernel
theorem dX11_connect_31 : decode cX11_connect 31 = .ok (.iconst 1, 1) := by decide +kernel
theorem dX11_connect_32 : decode cX11_connect 32 = .ok (.iadd, 1) := by decide +kernel
theorem dX11_connect_33 : decode cX11_connect 33 = .ok (.iastore, 1) := by decide +kernel
theorem dX11_connect_34 : decode cX11_connect 34 = .ok (.aload_n 0, 1) := by decide +kernel
theorem dX11_connect_35 : decode cX11_connect 35 = .ok (.getfield 41, 3) := by decide +kernel
theorem dX11_connect_38 : decode cX11_connect 38 = .ok (.iload_n 1, 1) := by decide +kernel
theorem dX11_connect_39 : decode cX11_connect 39 = .ok (.invokevirtual 90, 3) := by decide +kernel
theorem dX11_connect_42 : decode cX11_connect 42 = .ok (.pop, 1) := by decide +kernel
theorem dX11_connect_43 : decode cX11_connect 43 = .ok (.iload_n 2, 1) := by decide +kernel
theorem dX11_connect_44 : decode cX11_connect 44 = .ok (.ifCond .eq 21, 3) := by decide +kernel
theorem dX11_connect_47 : decode cX11_connect 47 = .ok (.aload_n 3, 1) := by decide +kernel
theorem dX11_connect_48 : decode cX11_connect 48 = .ok (.getfield 94, 3) := by decide +kernel
theorem dX11_connect_51 : decode cX11_connect 51 = .ok (.getfield 98, 3) := by decide +kernel
theorem dX11_connect_54 : decode cX11_connect 54 = .ok (.ifCond .eq 11, 3) := by decide +kernel
theorem dX11_connect_57 : decode cX11_connect 57 = .ok (.aload_n 0, 1) := by decide +kernel
theorem dX11_connect_58 : decode cX11_connect 58 = .ok (.getfield 41, 3) := by decide +kernel
theorem dX11_connect_61 : decode cX11_connect 61 = .ok (.iload_n 1, 1) := by decide +kernel
theorem dX11_connect_62 : decode cX11_connect 62 = .ok (.invokevirtual 103, 3) := by decide +kernel
theorem dX11_connect_65 : decode cX11_connect 65 = .ok (.aload_n 3, 1) := by decide +kernel
theorem dX11_connect_66 : decode cX11_connect 66 = .ok (.iconst 1, 1) := by decide +kernel
theorem dX11_connect_67 : decode cX11_connect 67 = .ok (.putfield 81, 3) := by decide +kernel
theorem dX11_connect_70 : decode cX11_connect 70 = .ok (.aload_n 3, 1) := by decide +kernel
theorem dX11_connect_71 : decode cX11_connect 71 = .ok (.getfield 94, 3) := by decide +kernel
theorem dX11_connect_74 : decode cX11_connect 74 = .ok (.getfield 98, 3) := by decide +kernel
theorem dX11_connect_77 : decode cX11_connect 77 = .ok (.ifCond .ne 13, 3) := by decide +kernel
theorem dX11_connect_80 : decode cX11_connect 80 = .ok (.aload_n 3, 1) := by decide +kernel
theorem dX11_connect_81 : decode cX11_connect 81 = .ok (.getfield 94, 3) := by decide +kernel
theorem dX11_connect_84 : decode cX11_connect 84 = .ok (.iload_n 2, 1) := by decide +kernel
theorem dX11_connect_85 : decode cX11_connect 85 = .ok (.invokevirtual 106, 3) := by decide +kernel
theorem dX11_connect_88 : decode cX11_connect 88 = .ok (.iconst 0, 1) := by decide +kernel
theorem dX11_connect_89 : decode cX11_connect 89 = .ok (.ireturn, 1) := by decide +kernel
theorem dX11_connect_90 : decode cX11_connect 90 = .ok (.aload_n 0, 1) := by decide +kernel
theorem dX11_connect_91 : decode cX11_connect 91 = .ok (.getfield 41, 3) := by decide +kernel
theorem dX11_connect_94 : decode cX11_connect 94 = .ok (.aload_n 3, 1) := by decide +kernel
theorem dX11_connect_95 : decode cX11_connect 95 = .ok (.invokevirtual 110, 3) := by decide +kernel
theorem dX11_connect_98 : decode cX11_connect 98 = .ok (.iconst 1, 1) := by decide +kernel
theorem dX11_connect_99 : decode cX11_connect 99 = .ok (.ireturn, 1) := by decide +kernel
theorem dX11_breakConnection_0 : decode cX11_breakConnection 0 = .ok (.iload_n 1, 1) := by decide +kernel
theorem dX11_breakConnection_1 : decode cX11_breakConnection 1 = .ok (.invokestatic 73, 3) := by decide +kernel
theorem dX11_breakConnection_4 : decode cX11_breakConnection 4 = .ok (.aload_n 0, 1) := by decide +kernel
theorem dX11_breakConnection_5 : decode cX11_breakConnection 5 = .ok (.iload_n 1, 1) := by decide +kernel
theorem dX11_breakConnection_6 : decode cX11_breakConnection 6 = .ok (.invokevirtual 114, 3) := by decide +kernel
theorem dX11_breakConnection_9 : decode cX11_breakConnection 9 = .ok (.aload_n 0, 1) := by decide +kernel
theorem dX11_breakConnection_10 : decode cX11_breakConnection 10 = .ok (.getfield 41, 3) := by decide +kernel
theorem dX11_breakConnection_13 : decode cX11_breakConnection 13 = .ok (.iload_n 1, 1) := by decide +kernel
theorem dX11_breakConnection_14 : decode cX11_breakConnection 14 = .ok (.invokevirtual 90, 3) := by decide +kernel
theorem dX11_breakConnection_17 : decode cX11_breakConnection 17 = .ok (.ireturn, 1) := by decide +kernel
theorem dX11_setWill_0 : decode cX11_setWill 0 = .ok (.aload_n 0, 1) := by decide +kernel
theorem dX11_setWill_1 : decode cX11_setWill 1 = .ok (.invokevirtual 123, 3) := by decide +kernel
theorem dX11_setWill_4 : decode cX11_setWill 4 = .ok (.istore 5, 2) := by decide +kernel
theorem dX11_setWill_6 : decode cX11_setWill 6 = .ok (.iload_n 1, 1) := by decide +kernel
theorem dX11_setWill_7 : decode cX11_setWill 7 = .ok (.invokestatic 73, 3) := by decide +kernel
theorem dX11_setWill_10 : decode cX11_setWill 10 = .ok (.aload_n 0, 1) := by decide +kernel
theorem dX11_setWill_11 : decode cX11_setWill 11 = .ok (.iload 5, 2) := by decide +kernel
theorem dX11_setWill_13 : decode cX11_setWill 13 = .ok (.invokevirtual 127, 3) := by decide +kernel
theorem dX11_setWill_16 : decode cX11_setWill 16 = .ok (.astore 6, 2) := by decide +kernel
theorem dX11_setWill_18 : decode cX11_setWill 18 = .ok (.iload_n 2, 1) := by decide +kernel
theorem dX11_setWill_19 : decode cX11_setWill 19 = .ok (.iconst 0, 1) := by decide +kernel
theorem dX11_setWill_20 : decode cX11_setWill 20 = .ok (.iconst 2, 1) := by decide +kernel
theorem dX11_setWill_21 : decode cX11_setWill 21 = .ok (.invokestatic 131, 3) := by decide +kernel
theorem dX11_setWill_24 : decode cX11_setWill 24 = .ok (.iload 4, 2) := by decide +kernel
theorem dX11_setWill_26 : decode cX11_setWill 26 = .ok (.iconst 0, 1) := by decide +kernel
theorem dX11_setWill_27 : decode cX11_setWill 27 = .ok (.sipush 9999, 3) := by decide +kernel
theorem dX11_setWill_30 : decode cX11_setWill 30 = .ok (.invokestatic 131, 3) := by decide +kernel
theorem dX11_setWill_33 : decode cX11_setWill 33 = .ok (.aload_n 0, 1) := by decide +kernel
theorem dX11_setWill_34 : decode cX11_setWill 34 = .ok (.iload_n 1, 1) := by decide +kernel
theorem dX11_setWill_35 : decode cX11_setWill 35 = .ok (.invokevirtual 114, 3) := by decide +kernel
theorem dX11_setWill_38 : decode cX11_setWill 38 = .ok (.aload_n 0, 1) := by decide +kernel
theorem dX11_setWill_39 : decode cX11_setWill 39 = .ok (.getfield 41, 3) := by decide +kernel
theorem dX11_setWill_42 : decode cX11_setWill 42 = .ok (.getfield 77, 3) := by decide +kernel
theorem dX11_setWill_45 : decode cX11_setWill 45 = .ok (.iload_n 1, 1) := by decide +kernel
theorem dX11_setWill_46 : decode cX11_setWill 46 = .ok (.aaload, 1) := by decide +kernel
theorem dX11_setWill_47 : decode cX11_setWill 47 = .ok (.astore 7, 2) := by decide +kernel
theorem dX11_setWill_49 : decode cX11_setWill 49 = .ok (.aload 7, 2) := by decide +kernel
theorem dX11_setWill_51 : decode cX11_setWill 51 = .ok (.getfield 117, 3) := by decide +kernel
theorem dX11_setWill_54 : decode cX11_setWill 54 = .ok (.istore 8, 2) := by decide +kernel
theorem dX11_setWill_56 : decode cX11_setWill 56 = .ok (.aload 7, 2) := by decide +kernel
theorem dX11_setWill_58 : decode cX11_setWill 58 = .ok (.iconst 1, 1) := by decide +kernel
theorem dX11_setWill_59 : decode cX11_setWill 59 = .ok (.putfield 117, 3) := by decide +kernel
theorem dX11_setWill_62 : decode cX11_setWill 62 = .ok (.aload 7, 2) := by decide +kernel
theorem dX11_setWill_64 : decode cX11_setWill 64 = .ok (.iload_n 3, 1) := by decide +kernel
theorem dX11_setWill_65 : decode cX11_setWill 65 = .ok (.putfield 135, 3) := by decide +kernel
theorem dX11_setWill_68 : decode cX11_setWill 68 = .ok (.aload 7, 2) := by decide +kernel
theorem dX11_setWill_70 : decode cX11_setWill 70 = .ok (.getfield 138, 3) := by decide +kernel
theorem dX11_setWill_73 : decode cX11_setWill 73 = .ok (.aload 6, 2) := by decide +kernel
theorem dX11_setWill_75 : decode cX11_setWill 75 = .ok (.iload_n 2, 1) := by decide +kernel
theorem dX11_setWill_76 : decode cX11_setWill 76 = .ok (.iload 4, 2) := by decide +kernel
theorem dX11_setWill_78 : decode cX11_setWill 78 = .ok (.invokevirtual 141, 3) := by decide +kernel
theorem dX11_setWill_81 : decode cX11_setWill 81 = .ok (.iload 8, 2) := by decide +kernel
theorem dX11_setWill_83 : decode cX11_setWill 83 = .ok (.ifCond .eq 7, 3) := by decide +kernel
theorem dX11_setWill_86 : decode cX11_setWill 86 = .ok (.iconst 1, 1) := by decide +kernel
theorem dX11_setWill_87 : decode cX11_setWill 87 = .ok (.goto 4, 3) := by decide +kernel
theorem dX11_setWill_90 : decode cX11_setWill 90 = .ok (.iconst 0, 1) := by decide +kernel
theorem dX11_setWill_91 : decode cX11_setWill 91 = .ok (.ireturn, 1) := by decide +kernel
theorem dX11_sessionState_0 : decode cX11_sessionState 0 = .ok (.iload_n 1, 1) := by decide +kernel
theorem dX11_sessionState_1 : decode cX11_sessionState 1 = .ok (.invokestatic 73, 3) := by decide +kernel
theorem dX11_sessionState_4 : decode cX11_sessionState 4 = .ok (.aload_n 0, 1) := by decide +kernel
theorem dX11_sessionState_5 : decode cX11_sessionState 5 = .ok (.getfield 41, 3) := by decide +kernel
theorem dX11_sessionState_8 : decode cX11_sessionState 8 = .ok (.getfield 77, 3) := by decide +kernel
theorem dX11_sessionState_11 : decode cX11_sessionState 11 = .ok (.iload_n 1, 1) := by decide +kernel
theorem dX11_sessionState_12 : decode cX11_sessionState 12 = .ok (.aaload, 1) := by decide +kernel
theorem dX11_sessionState_13 : decode cX11_sessionState 13 = .ok (.astore_n 2, 1) := by decide +kernel
theorem dX11_sessionState_14 : decode cX11_sessionState 14 = .ok (.aload_n 2, 1) := by decide +kernel
theorem dX11_sessionState_15 : decode cX11_sessionState 15 = .ok (.getfield 94, 3) := by decide +kernel
theorem dX11_sessionState_18 : decode cX11_sessionState 18 = .ok (.getfield 98, 3) := by decide +kernel
theorem dX11_sessionState_21 : decode cX11_sessionState 21 = .ok (.ifCond .ne 5, 3) := by decide +kernel
theorem dX11_sessionState_24 : decode cX11_sessionState 24 = .ok (.iconst 0, 1) := by decide +kernel
theorem dX11_sessionState_25 : decode cX11_sessionState 25 = .ok (.ireturn, 1) := by decide +kernel
theorem dX11_sessionState_26 : decode cX11_sessionState 26 = .ok (.aload_n 2, 1) := by decide +kernel
theorem dX11_sessionState_27 : decode cX11_sessionState 27 = .ok (.getfield 81, 3) := by decide +kernel
theorem dX11_sessionState_30 : decode cX11_sessionState 30 = .ok (.ifCond .ne 5, 3) := by decide +kernel
theorem dX11_sessionState_33 : decode cX11_sessionState 33 = .ok (.iconst 1, 1) := by decide +kernel
theorem dX11_sessionState_34 : decode cX11_sessionState 34 = .ok (.ireturn, 1) := by decide +kernel
theorem dX11_sessionState_35 : decode cX11_sessionState 35 = .ok (.aload_n 2, 1) := by decide +kernel
theorem dX11_sessionState_36 : decode cX11_sessionState 36 = .ok (.getfield 94, 3) := by decide +kernel
theorem dX11_sessionState_39 : decode cX11_sessionState 39 = .ok (.getfield 145, 3) := by decide +kernel
theorem dX11_sessionState_42 : decode cX11_sessionState 42 = .ok (.ifCond .eq 7, 3) := by decide +kernel
theorem dX11_sessionState_45 : decode cX11_sessionState 45 = .ok (.iconst 3, 1) := by decide +kernel
theorem dX11_sessionState_46 : decode cX11_sessionState 46 = .ok (.goto 4, 3) := by decide +kernel
theorem dX11_sessionState_49 : decode cX11_sessionState 49 = .ok (.iconst 2, 1) := by decide +kernel
theorem dX11_sessionState_50 : decode cX11_sessionState 50 = .ok (.ireturn, 1) := by decide +kernel
theorem dX11_subscribe_0 : decode cX11_subscribe 0 = .ok (.aload_n 0, 1) := by decide +kernel
theorem dX11_subscribe_1 : decode cX11_subscribe 1 = .ok (.invokevirtual 123, 3) := by decide +kernel
theorem dX11_subscribe_4 : decode cX11_subscribe 4 = .ok (.istore 5, 2) := by decide +kernel
theorem dX11_subscribe_6 : decode cX11_subscribe 6 = .ok (.iload_n 1, 1) := by decide +kernel
theorem dX11_subscribe_7 : decode cX11_subscribe 7 = .ok (.invokestatic 73, 3) := by decide +kernel
theorem dX11_subscribe_10 : decode cX11_subscribe 10 = .ok (.aload_n 0, 1) := by decide +kernel
theorem dX11_subscribe_11 : decode cX11_subscribe 11 = .ok (.iload 5, 2) := by decide +kernel
theorem dX11_subscribe_13 : decode cX11_subscribe 13 = .ok (.invokevirtual 148, 3) := by decide +kernel
theorem dX11_subscribe_16 : decode cX11_subscribe 16 = .ok (.astore 6, 2) := by decide +kernel
theorem dX11_subscribe_18 : decode cX11_subscribe 18 = .ok (.iload_n 2, 1) := by decide +kernel
theorem dX11_subscribe_19 : decode cX11_subscribe 19 = .ok (.iconst 0, 1) := by decide +kernel
theorem dX11_subscribe_20 : decode cX11_subscribe 20 = .ok (.iconst 2, 1) := by decide +kernel
theorem dX11_subscribe_21 : decode cX11_subscribe 21 = .ok (.invokestatic 131, 3) := by decide +kernel
theorem dX11_subscribe_24 : decode cX11_subscribe 24 = .ok (.iload_n 3, 1) := by decide +kernel
theorem dX11_subscribe_25 : decode cX11_subscribe 25 = .ok (.iconst 0, 1) := by decide +kernel
theorem dX11_subscribe_26 : decode cX11_subscribe 26 = .ok (.iconst 3, 1) := by decide +kernel
theorem dX11_subscribe_27 : decode cX11_subscribe 27 = .ok (.invokestatic 131, 3) := by decide +kernel
theorem dX11_subscribe_30 : decode cX11_subscribe 30 = .ok (.iload 4, 2) := by decide +kernel
theorem dX11_subscribe_32 : decode cX11_subscribe 32 = .ok (.iconst 0, 1) := by decide +kernel
theorem dX11_subscribe_33 : decode cX11_subscribe 33 = .ok (.bipush 7, 2) := by decide +kernel
theorem dX11_subscribe_35 : decode cX11_subscribe 35 = .ok (.invokestatic 131, 3) := by decide +kernel
theorem dX11_subscribe_38 : decode cX11_subscribe 38 = .ok (.iload_n 3, 1) := by decide +kernel
theorem dX11_subscribe_39 : decode cX11_subscribe 39 = .ok (.ifCond .eq 18, 3) := by decide +kernel
theorem dX11_subscribe_42 : decode cX11_subscribe 42 = .ok (.iload 4, 2) := by decide +kernel
theorem dX11_subscribe_44 : decode cX11_subscribe 44 = .ok (.iconst 1, 1) := by decide +kernel
theorem dX11_subscribe_45 : decode cX11_subscribe 45 = .ok (.iand, 1) := by decide +kernel
theorem dX11_subscribe_46 : decode cX11_subscribe 46 = .ok (.ifCond .eq 11, 3) := by decide +kernel
theorem dX11_subscribe_49 : decode cX11_subscribe 49 = .ok (.new 48, 3) := by decide +kernel
theorem dX11_subscribe_52 : decode cX11_subscribe 52 = .ok (.dup, 1) := by decide +kernel
theorem dX11_subscribe_53 : decode cX11_subscribe 53 = .ok (.invokespecial 50, 3) := by decide +kernel
theorem dX11_subscribe_56 : decode cX11_subscribe 56 = .ok (.athrow, 1) := by decide +kernel
theorem dX11_subscribe_57 : decode cX11_subscribe 57 = .ok (.aload_n 0, 1) := by decide +kernel
theorem dX11_subscribe_58 : decode cX11_subscribe 58 = .ok (.iload_n 1, 1) := by decide +kernel
theorem dX11_subscribe_59 : decode cX11_subscribe 59 = .ok (.invokevirtual 114, 3) := by decide +kernel
theorem dX11_subscribe_62 : decode cX11_subscribe 62 = .ok (.aload_n 0, 1) := by decide +kernel
theorem dX11_subscribe_63 : decode cX11_subscribe 63 = .ok (.getfield 41, 3) := by decide +kernel
theorem dX11_subscribe_66 : decode cX11_subscribe 66 = .ok (.getfield 77, 3) := by decide +kernel
theorem dX11_subscribe_69 : decode cX11_subscribe 69 = .ok (.iload_n 1, 1) := by decide +kernel
theorem dX11_subscribe_70 : decode cX11_subscribe 70 = .ok (.aaload, 1) := by decide +kernel
theorem dX11_subscribe_71 : decode cX11_subscribe 71 = .ok (.getfield 94, 3) := by decide +kernel
theorem dX11_subscribe_74 : decode cX11_subscribe 74 = .ok (.astore 7, 2) := by decide +kernel
theorem dX11_subscribe_76 : decode cX11_subscribe 76 = .ok (.aload 7, 2) := by decide +kernel
theorem dX11_subscribe_78 : decode cX11_subscribe 78 = .ok (.aload 6, 2) := by decide +kernel
theorem dX11_subscribe_80 : decode cX11_subscribe 80 = .ok (.iload_n 3, 1) := by decide +kernel
theorem dX11_subscribe_81 : decode cX11_subscribe 81 = .ok (.invokevirtual 151, 3) := by decide +kernel
theorem dX11_subscribe_84 : decode cX11_subscribe 84 = .ok (.istore 8, 2) := by decide +kernel
theorem dX11_subscribe_86 : decode cX11_subscribe 86 = .ok (.iload 8, 2) := by decide +kernel
theorem dX11_subscribe_88 : decode cX11_subscribe 88 = .ok (.ifCond .ge 7, 3) := by decide +kernel
theorem dX11_subscribe_91 : decode cX11_subscribe 91 = .ok (.iconst 1, 1) := by decide +kernel
theorem dX11_subscribe_92 : decode cX11_subscribe 92 = .ok (.goto 4, 3) := by decide +kernel
theorem dX11_subscribe_95 : decode cX11_subscribe 95 = .ok (.iconst 0, 1) := by decide +kernel
theorem dX11_subscribe_96 : decode cX11_subscribe 96 = .ok (.istore 9, 2) := by decide +kernel
theorem dX11_subscribe_98 : decode cX11_subscribe 98 = .ok (.iload 9, 2) := by decide +kernel
theorem dX11_subscribe_100 : decode cX11_subscribe 100 = .ok (.ifCond .eq 21, 3) := by decide +kernel
theorem dX11_subscribe_103 : decode cX11_subscribe 103 = .ok (.aload 7, 2) := by decide +kernel
theorem dX11_subscribe_105 : decode cX11_subscribe 105 = .ok (.getfield 155, 3) := by decide +kernel
theorem dX11_subscribe_108 : decode cX11_subscribe 108 = .ok (.bipush 6, 2) := by decide +kernel
theorem dX11_subscribe_110 : decode cX11_subscribe 110 = .ok (.if_icmp .lt 11, 3) := by decide +kernel
theorem dX11_subscribe_113 : decode cX11_subscribe 113 = .ok (.new 54, 3) := by decide +kernel
theorem dX11_subscribe_116 : decode cX11_subscribe 116 = .ok (.dup, 1) := by decide +kernel
theorem dX11_subscribe_117 : decode cX11_subscribe 117 = .ok (.invokespecial 56, 3) := by decide +kernel
theorem dX11_subscribe_120 : decode cX11_subscribe 120 = .ok (.athrow, 1) := by decide +kernel
theorem dX11_subscribe_121 : decode cX11_subscribe 121 = .ok (.iload 9, 2) := by decide +kernel
theorem dX11_subscribe_123 : decode cX11_subscribe 123 = .ok (.ifCond .eq 23, 3) := by decide +kernel
theorem dX11_subscribe_126 : decode cX11_subscribe 126 = .ok (.aload_n 0, 1) := by decide +kernel
theorem dX11_subscribe_127 : decode cX11_subscribe 127 = .ok (.getfield 41, 3) := by decide +kernel
theorem dX11_subscribe_130 : decode cX11_subscribe 130 = .ok (.iload_n 1, 1) := by decide +kernel
theorem dX11_subscribe_131 : decode cX11_subscribe 131 = .ok (.aload 6, 2) := by decide +kernel
theorem dX11_subscribe_133 : decode cX11_subscribe 133 = .ok (.iload_n 3, 1) := by decide +kernel
theorem dX11_subscribe_134 : decode cX11_subscribe 134 = .ok (.invokevirtual 158, 3) := by decide +kernel
theorem dX11_subscribe_137 : decode cX11_subscribe 137 = .ok (.aload 7, 2) := by decide +kernel
theorem dX11_subscribe_139 : decode cX11_subscribe 139 = .ok (.getfield 155, 3) := by decide +kernel
theorem dX11_subscribe_142 : decode cX11_subscribe 142 = .ok (.iconst 1, 1) := by decide +kernel
theorem dX11_subscribe_143 : decode cX11_subscribe 143 = .ok (.isub, 1) := by decide +kernel
theorem dX11_subscribe_144 : decode cX11_subscribe 144 = .ok (.istore 8, 2) := by decide +kernel
theorem dX11_subscribe_146 : decode cX11_subscribe 146 = .ok (.iload 8, 2) := by decide +kernel
theorem dX11_subscribe_148 : decode cX11_subscribe 148 = .ok (.ifCond .lt 39, 3) := by decide +kernel
theorem dX11_subscribe_151 : decode cX11_subscribe 151 = .ok (.iload 8, 2) := by decide +kernel
theorem dX11_subscribe_153 : decode cX11_subscribe 153 = .ok (.aload 7, 2) := by decide +kernel
theorem dX11_subscribe_155 : decode cX11_subscribe 155 = .ok (.getfield 162, 3) := by decide +kernel
theorem dX11_subscribe_158 : decode cX11_subscribe 158 = .ok (.arraylength, 1) := by decide +kernel
theorem dX11_subscribe_159 : decode cX11_subscribe 159 = .ok (.if_icmp .ge 28, 3) := by decide +kernel
theorem dX11_subscribe_162 : decode cX11_subscribe 162 = .ok (.aload 7, 2) := by decide +kernel
theorem dX11_subscribe_164 : decode cX11_subscribe 164 = .ok (.getfield 162, 3) := by decide +kernel
theorem dX11_subscribe_167 : decode cX11_subscribe 167 = .ok (.iload 8, 2) := by decide +kernel
theorem dX11_subscribe_169 : decode cX11_subscribe 169 = .ok (.aaload, 1) := by decide +kernel
theorem dX11_subscribe_170 : decode cX11_subscribe 170 = .ok (.iload_n 2, 1) := by decide +kernel
theorem dX11_subscribe_171 : decode cX11_subscribe 171 = .ok (.putfield 166, 3) := by decide +kernel
theorem dX11_subscribe_174 : decode cX11_subscribe 174 = .ok (.aload 7, 2) := by decide +kernel
theorem dX11_subscribe_176 : decode cX11_subscribe 176 = .ok (.getfield 162, 3) := by decide +kernel
theorem dX11_subscribe_179 : decode cX11_subscribe 179 = .ok (.iload 8, 2) := by decide +kernel
theorem dX11_subscribe_181 : decode cX11_subscribe 181 = .ok (.aaload, 1) := by decide +kernel
theorem dX11_subscribe_182 : decode cX11_subscribe 182 = .ok (.iload 4, 2) := by decide +kernel
theorem dX11_subscribe_184 : decode cX11_subscribe 184 = .ok (.putfield 171, 3) := by decide +kernel
theorem dX11_subscribe_187 : decode cX11_subscribe 187 = .ok (.iload 4, 2) := by decide +kernel
theorem dX11_subscribe_189 : decode cX11_subscribe 189 = .ok (.iconst 2, 1) := by decide +kernel
theorem dX11_subscribe_190 : decode cX11_subscribe 190 = .ok (.iand, 1) := by decide +kernel
theorem dX11_subscribe_191 : decode cX11_subscribe 191 = .ok (.ifCond .ne 19, 3) := by decide +kernel
theorem dX11_subscribe_194 : decode cX11_subscribe 194 = .ok (.iload 9, 2) := by decide +kernel
theorem dX11_subscribe_196 : decode cX11_subscribe 196 = .ok (.ifCond .ne 10, 3) := by decide +kernel
theorem dX11_subscribe_199 : decode cX11_subscribe 199 = .ok (.iload 4, 2) := by decide +kernel
theorem dX11_subscribe_201 : decode cX11_subscribe 201 = .ok (.iconst 4, 1) := by decide +kernel
theorem dX11_subscribe_202 : decode cX11_subscribe 202 = .ok (.iand, 1) := by decide +kernel
theorem dX11_subscribe_203 : decode cX11_subscribe 203 = .ok (.ifCond .ne 7, 3) := by decide +kernel
theorem dX11_subscribe_206 : decode cX11_subscribe 206 = .ok (.iconst 1, 1) := by decide +kernel
theorem dX11_subscribe_207 : decode cX11_subscribe 207 = .ok (.goto 4, 3) := by decide +kernel
theorem dX11_subscribe_210 : decode cX11_subscribe 210 = .ok (.iconst 0, 1) := by decide +kernel
theorem dX11_subscribe_211 : decode cX11_subscribe 211 = .ok (.istore 10, 2) := by decide +kernel
theorem dX11_subscribe_213 : decode cX11_subscribe 213 = .ok (.iload_n 3, 1) := by decide +kernel
theorem dX11_subscribe_214 : decode cX11_subscribe 214 = .ok (.ifCond .ne 19, 3) := by decide +kernel
theorem dX11_subscribe_217 : decode cX11_subscribe 217 = .ok (.iload 10, 2) := by decide +kernel
theorem dX11_subscribe_219 : decode cX11_subscribe 219 = .ok (.ifCond .eq 14, 3) := by decide +kernel
theorem dX11_subscribe_222 : decode cX11_subscribe 222 = .ok (.aload_n 0, 1) := by decide +kernel
theorem dX11_subscribe_223 : decode cX11_subscribe 223 = .ok (.getfield 41, 3) := by decide +kernel
theorem dX11_subscribe_226 : decode cX11_subscribe 226 = .ok (.iload_n 1, 1) := by decide +kernel
theorem dX11_subscribe_227 : decode cX11_subscribe 227 = .ok (.aload 6, 2) := by decide +kernel
theorem dX11_subscribe_229 : decode cX11_subscribe 229 = .ok (.iload_n 2, 1) := by decide +kernel
theorem dX11_subscribe_230 : decode cX11_subscribe 230 = .ok (.invokevirtual 173, 3) := by decide +kernel
theorem dX11_subscribe_233 : decode cX11_subscribe 233 = .ok (.aload 7, 2) := by decide +kernel
theorem dX11_subscribe_235 : decode cX11_subscribe 235 = .ok (.getfield 155, 3) := by decide +kernel
theorem dX11_subscribe_238 : decode cX11_subscribe 238 = .ok (.ireturn, 1) := by decide +kernel
theorem dX11_unsubscribe_0 : decode cX11_unsubscribe 0 = .ok (.aload_n 0, 1) := by decide +kernel
theorem dX11_unsubscribe_1 : decode cX11_unsubscribe 1 = .ok (.invokevirtual 123, 3) := by decide +kernel
theorem dX11_unsubscribe_4 : decode cX11_unsubscribe 4 = .ok (.istore_n 3, 1) := by decide +kernel
theorem dX11_unsubscribe_5 : decode cX11_unsubscribe 5 = .ok (.iload_n 1, 1) := by decide +kernel
theorem dX11_unsubscribe_6 : decode cX11_unsubscribe 6 = .ok (.invokestatic 73, 3) := by decide +kernel
theorem dX11_unsubscribe_9 : decode cX11_unsubscribe 9 = .ok (.aload_n 0, 1) := by decide +kernel
theorem dX11_unsubscribe_10 : decode cX11_unsubscribe 10 = .ok (.iload_n 3, 1) := by decide +kernel
theorem dX11_unsubscribe_11 : decode cX11_unsubscribe 11 = .ok (.invokevirtual 148, 3) := by decide +kernel
theorem dX11_unsubscribe_14 : decode cX11_unsubscribe 14 = .ok (.astore 4, 2) := by decide +kernel
theorem dX11_unsubscribe_16 : decode cX11_unsubscribe 16 = .ok (.iload_n 2, 1) := by decide +kernel
theorem dX11_unsubscribe_17 : decode cX11_unsubscribe 17 = .ok (.iconst 0, 1) := by decide +kernel
theorem dX11_unsubscribe_18 : decode cX11_unsubscribe 18 = .ok (.iconst 3, 1) := by decide +kernel
theorem dX11_unsubscribe_19 : decode cX11_unsubscribe 19 = .ok (.invokestatic 131, 3) := by decide +kernel
theorem dX11_unsubscribe_22 : decode cX11_unsubscribe 22 = .ok (.aload_n 0, 1) := by decide +kernel
theorem dX11_unsubscribe_23 : decode cX11_unsubscribe 23 = .ok (.iload_n 1, 1) := by decide +kernel
theorem dX11_unsubscribe_24 : decode cX11_unsubscribe 24 = .ok (.invokevirtual 114, 3) := by decide +kernel
theorem dX11_unsubscribe_27 : decode cX11_unsubscribe 27 = .ok (.aload_n 0, 1) := by decide +kernel
theorem dX11_unsubscribe_28 : decode cX11_unsubscribe 28 = .ok (.getfield 41, 3) := by decide +kernel
theorem dX11_unsubscribe_31 : decode cX11_unsubscribe 31 = .ok (.iload_n 1, 1) := by decide +kernel
theorem dX11_unsubscribe_32 : decode cX11_unsubscribe 32 = .ok (.aload 4, 2) := by decide +kernel
theorem dX11_unsubscribe_34 : decode cX11_unsubscribe 34 = .ok (.iload_n 2, 1) := by decide +kernel
theorem dX11_unsubscribe_35 : decode cX11_unsubscribe 35 = .ok (.invokevirtual 176, 3) := by decide +kernel
theorem dX11_unsubscribe_38 : decode cX11_unsubscribe 38 = .ok (.ifCond .eq 7, 3) := by decide +kernel
theorem dX11_unsubscribe_41 : decode cX11_unsubscribe 41 = .ok (.iconst 1, 1) := by decide +kernel
theorem dX11_unsubscribe_42 : decode cX11_unsubscribe 42 = .ok (.goto 4, 3) := by decide +kernel
theorem dX11_unsubscribe_45 : decode cX11_unsubscribe 45 = .ok (.iconst 0, 1) := by decide +kernel
theorem dX11_unsubscribe_46 : decode cX11_unsubscribe 46 = .ok (.ireturn, 1) := by decide +kernel
theorem dX11_subscription_0 : decode cX11_subscription 0 = .ok (.iload_n 1, 1) := by decide +kernel
theorem dX11_subscription_1 : decode cX11_subscription 1 = .ok (.invokestatic 73, 3) := by decide +kernel
theorem dX11_subscription_4 : decode cX11_subscription 4 = .ok (.aload_n 0, 1) := by decide +kernel
theorem dX11_subscription_5 : decode cX11_subscription 5 = .ok (.iload_n 1, 1) := by decide +kernel
theorem dX11_subscription_6 : decode cX11_subscription 6 = .ok (.iload_n 2, 1) := by decide +kernel
theorem dX11_subscription_7 : decode cX11_subscription 7 = .ok (.invokevirtual 180, 3) := by decide +kernel
theorem dX11_subscription_10 : decode cX11_subscription 10 = .ok (.aload_n 0, 1) := by decide +kernel
theorem dX11_subscription_11 : decode cX11_subscription 11 = .ok (.getfield 41, 3) := by decide +kernel
theorem dX11_subscription_14 : decode cX11_subscription 14 = .ok (.getfield 77, 3) := by decide +kernel
theorem dX11_subscription_17 : decode cX11_subscription 17 = .ok (.iload_n 1, 1) := by decide +kernel
theorem dX11_subscription_18 : decode cX11_subscription 18 = .ok (.aaload, 1) := by decide +kernel
theorem dX11_subscription_19 : decode cX11_subscription 19 = .ok (.getfield 94, 3) := by decide +kernel
theorem dX11_subscription_22 : decode cX11_subscription 22 = .ok (.getfield 162, 3) := by decide +kernel
theorem dX11_subscription_25 : decode cX11_subscription 25 = .ok (.iload_n 2, 1) := by decide +kernel
theorem dX11_subscription_26 : decode cX11_subscription 26 = .ok (.aaload, 1) := by decide +kernel
theorem dX11_subscription_27 : decode cX11_subscription 27 = .ok (.astore 4, 2) := by decide +kernel
theorem dX11_subscription_29 : decode cX11_subscription 29 = .ok (.iload_n 3, 1) := by decide +kernel
theorem dX11_subscription_30 : decode cX11_subscription 30 = .ok (.tableswitch 57 0 3 #[30, 36, 42, 48], 30) := by decide +kernel
theorem dX11_subscription_60 : decode cX11_subscription 60 = .ok (.aload 4, 2) := by decide +kernel
theorem dX11_subscription_62 : decode cX11_subscription 62 = .ok (.getfield 166, 3) := by decide +kernel
theorem dX11_subscription_65 : decode cX11_subscription 65 = .ok (.ireturn, 1) := by decide +kernel
theorem dX11_subscription_66 : decode cX11_subscription 66 = .ok (.aload 4, 2) := by decide +kernel
theorem dX11_subscription_68 : decode cX11_subscription 68 = .ok (.getfield 184, 3) := by decide +kernel
theorem dX11_subscription_71 : decode cX11_subscription 71 = .ok (.ireturn, 1) := by decide +kernel
theorem dX11_subscription_72 : decode cX11_subscription 72 = .ok (.aload 4, 2) := by decide +kernel
theorem dX11_subscription_74 : decode cX11_subscription 74 = .ok (.getfield 171, 3) := by decide +kernel
theorem dX11_subscription_77 : decode cX11_subscription 77 = .ok (.ireturn, 1) := by decide +kernel
theorem dX11_subscription_78 : decode cX11_subscription 78 = .ok (.aload 4, 2) := by decide +kernel
theorem dX11_subscription_80 : decode cX11_subscription 80 = .ok (.getfield 187, 3) := by decide +kernel
theorem dX11_subscription_83 : decode cX11_subscription 83 = .ok (.getfield 191, 3) := by decide +kernel
theorem dX11_subscription_86 : decode cX11_subscription 86 = .ok (.ireturn, 1) := by decide +kernel
theorem dX11_subscription_87 : decode cX11_subscription 87 = .ok (.new 48, 3) := by decide +kernel
theorem dX11_subscription_90 : decode cX11_subscription 90 = .ok (.dup, 1) := by decide +kernel
theorem dX11_subscription_91 : decode cX11_subscription 91 = .ok (.invokespecial 50, 3) := by decide +kernel
theorem dX11_subscription_94 : decode cX11_subscription 94 = .ok (.athrow, 1) := by decide +kernel
theorem dX11_publish_0 : decode cX11_publish 0 = .ok (.aload_n 0, 1) := by decide +kernel
theorem dX11_publish_1 : decode cX11_publish 1 = .ok (.invokevirtual 123, 3) := by decide +kernel
theorem dX11_publish_4 : decode cX11_publish 4 = .ok (.istore 6, 2) := by decide +kernel
theorem dX11_publish_6 : decode cX11_publish 6 = .ok (.iload_n 1, 1) := by decide +kernel
theorem dX11_publish_7 : decode cX11_publish 7 = .ok (.invokestatic 73, 3) := by decide +kernel
theorem dX11_publish_10 : decode cX11_publish 10 = .ok (.aload_n 0, 1) := by decide +kernel
theorem dX11_publish_11 : decode cX11_publish 11 = .ok (.iload 6, 2) := by decide +kernel
theorem dX11_publish_13 : decode cX11_publish 13 = .ok (.invokevirtual 127, 3) := by decide +kernel
theorem dX11_publish_16 : decode cX11_publish 16 = .ok (.astore 7, 2) := by decide +kernel
theorem dX11_publish_18 : decode cX11_publish 18 = .ok (.iload_n 2, 1) := by decide +kernel
theorem dX11_publish_19 : decode cX11_publish 19 = .ok (.iconst 0, 1) := by decide +kernel
theorem dX11_publish_20 : decode cX11_publish 20 = .ok (.iconst 2, 1) := by decide +kernel
theorem dX11_publish_21 : decode cX11_publish 21 = .ok (.invokestatic 131, 3) := by decide +kernel
theorem dX11_publish_24 : decode cX11_publish 24 = .ok (.iload_n 2, 1) := by decide +kernel
theorem dX11_publish_25 : decode cX11_publish 25 = .ok (.ifCond .eq 10, 3) := by decide +kernel
theorem dX11_publish_28 : decode cX11_publish 28 = .ok (.iload_n 3, 1) := by decide +kernel
theorem dX11_publish_29 : decode cX11_publish 29 = .ok (.iconst 1, 1) := by decide +kernel
theorem dX11_publish_30 : decode cX11_publish 30 = .ok (.bipush 50, 2) := by decide +kernel
theorem dX11_publish_32 : decode cX11_publish 32 = .ok (.invokestatic 131, 3) := by decide +kernel
theorem dX11_publish_35 : decode cX11_publish 35 = .ok (.iload 5, 2) := by decide +kernel
theorem dX11_publish_37 : decode cX11_publish 37 = .ok (.iconst 0, 1) := by decide +kernel
theorem dX11_publish_38 : decode cX11_publish 38 = .ok (.sipush 9999, 3) := by decide +kernel
theorem dX11_publish_41 : decode cX11_publish 41 = .ok (.invokestatic 131, 3) := by decide +kernel
theorem dX11_publish_44 : decode cX11_publish 44 = .ok (.aload_n 0, 1) := by decide +kernel
theorem dX11_publish_45 : decode cX11_publish 45 = .ok (.iload_n 1, 1) := by decide +kernel
theorem dX11_publish_46 : decode cX11_publish 46 = .ok (.invokevirtual 114, 3) := by decide +kernel
theorem dX11_publish_49 : decode cX11_publish 49 = .ok (.aload_n 0, 1) := by decide +kernel
theorem dX11_publish_50 : decode cX11_publish 50 = .ok (.getfield 41, 3) := by decide +kernel
theorem dX11_publish_53 : decode cX11_publish 53 = .ok (.getfield 77, 3) := by decide +kernel
theorem dX11_publish_56 : decode cX11_publish 56 = .ok (.iload_n 1, 1) := by decide +kernel
theorem dX11_publish_57 : decode cX11_publish 57 = .ok (.aaload, 1) := by decide +kernel
theorem dX11_publish_58 : decode cX11_publish 58 = .ok (.astore 8, 2) := by decide +kernel
theorem dX11_publish_60 : decode cX11_publish 60 = .ok (.iconst 0, 1) := by decide +kernel
theorem dX11_publish_61 : decode cX11_publish 61 = .ok (.istore 9, 2) := by decide +kernel
theorem dX11_publish_63 : decode cX11_publish 63 = .ok (.iload_n 2, 1) := by decide +kernel
theorem dX11_publish_64 : decode cX11_publish 64 = .ok (.iconst 2, 1) := by decide +kernel
theorem dX11_publish_65 : decode cX11_publish 65 = .ok (.if_icmp .ne 31, 3) := by decide +kernel
theorem dX11_publish_68 : decode cX11_publish 68 = .ok (.aload 8, 2) := by decide +kernel
theorem dX11_publish_70 : decode cX11_publish 70 = .ok (.getfield 94, 3) := by decide +kernel
theorem dX11_publish_73 : decode cX11_publish 73 = .ok (.iload_n 3, 1) := by decide +kernel
theorem dX11_publish_74 : decode cX11_publish 74 = .ok (.invokevirtual 216, 3) := by decide +kernel
theorem dX11_publish_77 : decode cX11_publish 77 = .ok (.ifCond .eq 19, 3) := by decide +kernel
theorem dX11_publish_80 : decode cX11_publish 80 = .ok (.aload_n 0, 1) := by decide +kernel
theorem dX11_publish_81 : decode cX11_publish 81 = .ok (.getfield 41, 3) := by decide +kernel
theorem dX11_publish_84 : decode cX11_publish 84 = .ok (.getfield 87, 3) := by decide +kernel
theorem dX11_publish_87 : decode cX11_publish 87 = .ok (.iconst 3, 1) := by decide +kernel
theorem dX11_publish_88 : decode cX11_publish 88 = .ok (.dup2, 1) := by decide +kernel
theorem dX11_publish_89 : decode cX11_publish 89 = .ok (.iaload, 1) := by decide +kernel
theorem dX11_publish_90 : decode cX11_publish 90 = .ok (.iconst 1, 1) := by decide +kernel
theorem dX11_publish_91 : decode cX11_publish 91 = .ok (.iadd, 1) := by decide +kernel
theorem dX11_publish_92 : decode cX11_publish 92 = .ok (.iastore, 1) := by decide +kernel
theorem dX11_publish_93 : decode cX11_publish 93 = .ok (.goto 31, 3) := by decide +kernel
theorem dX11_publish_96 : decode cX11_publish 96 = .ok (.aload_n 0, 1) := by decide +kernel
theorem dX11_publish_97 : decode cX11_publish 97 = .ok (.getfield 34, 3) := by decide +kernel
theorem dX11_publish_100 : decode cX11_publish 100 = .ok (.aload 7, 2) := by decide +kernel
theorem dX11_publish_102 : decode cX11_publish 102 = .ok (.iload_n 2, 1) := by decide +kernel
theorem dX11_publish_103 : decode cX11_publish 103 = .ok (.iload 5, 2) := by decide +kernel
theorem dX11_publish_105 : decode cX11_publish 105 = .ok (.invokevirtual 141, 3) := by decide +kernel
theorem dX11_publish_108 : decode cX11_publish 108 = .ok (.aload_n 0, 1) := by decide +kernel
theorem dX11_publish_109 : decode cX11_publish 109 = .ok (.getfield 41, 3) := by decide +kernel
theorem dX11_publish_112 : decode cX11_publish 112 = .ok (.iload_n 1, 1) := by decide +kernel
theorem dX11_publish_113 : decode cX11_publish 113 = .ok (.aload_n 0, 1) := by decide +kernel
theorem dX11_publish_114 : decode cX11_publish 114 = .ok (.getfield 34, 3) := by decide +kernel
theorem dX11_publish_117 : decode cX11_publish 117 = .ok (.iload 4, 2) := by decide +kernel
theorem dX11_publish_119 : decode cX11_publish 119 = .ok (.invokevirtual 220, 3) := by decide +kernel
theorem dX11_publish_122 : decode cX11_publish 122 = .ok (.istore 9, 2) := by decide +kernel
theorem dX11_publish_124 : decode cX11_publish 124 = .ok (.iload_n 2, 1) := by decide +kernel
theorem dX11_publish_125 : decode cX11_publish 125 = .ok (.iconst 2, 1) := by decide +kernel
theorem dX11_publish_126 : decode cX11_publish 126 = .ok (.if_icmp .ne 26, 3) := by decide +kernel
theorem dX11_publish_129 : decode cX11_publish 129 = .ok (.aload 8, 2) := by decide +kernel
theorem dX11_publish_131 : decode cX11_publish 131 = .ok (.getfield 94, 3) := by decide +kernel
theorem dX11_publish_134 : decode cX11_publish 134 = .ok (.iload_n 3, 1) := by decide +kernel
theorem dX11_publish_135 : decode cX11_publish 135 = .ok (.invokevirtual 224, 3) := by decide +kernel
theorem dX11_publish_138 : decode cX11_publish 138 = .ok (.aload_n 0, 1) := by decide +kernel
theorem dX11_publish_139 : decode cX11_publish 139 = .ok (.getfield 41, 3) := by decide +kernel
theorem dX11_publish_142 : decode cX11_publish 142 = .ok (.aload 8, 2) := by decide +kernel
theorem dX11_publish_144 : decode cX11_publish 144 = .ok (.iconst 2, 1) := by decide +kernel
theorem dX11_publish_145 : decode cX11_publish 145 = .ok (.iload_n 3, 1) := by decide +kernel
theorem dX11_publish_146 : decode cX11_publish 146 = .ok (.invokevirtual 227, 3) := by decide +kernel
theorem dX11_publish_149 : decode cX11_publish 149 = .ok (.goto 19, 3) := by decide +kernel
theorem dX11_publish_152 : decode cX11_publish 152 = .ok (.iload_n 2, 1) := by decide +kernel
theorem dX11_publish_153 : decode cX11_publish 153 = .ok (.iconst 1, 1) := by decide +kernel
theorem dX11_publish_154 : decode cX11_publish 154 = .ok (.if_icmp .ne 14, 3) := by decide +kernel
theorem dX11_publish_157 : decode cX11_publish 157 = .ok (.aload_n 0, 1) := by decide +kernel
theorem dX11_publish_158 : decode cX11_publish 158 = .ok (.getfield 41, 3) := by decide +kernel
theorem dX11_publish_161 : decode cX11_publish 161 = .ok (.aload 8, 2) := by decide +kernel
theorem dX11_publish_163 : decode cX11_publish 163 = .ok (.iconst 1, 1) := by decide +kernel
theorem dX11_publish_164 : decode cX11_publish 164 = .ok (.iload_n 3, 1) := by decide +kernel
theorem dX11_publish_165 : decode cX11_publish 165 = .ok (.invokevirtual 227, 3) := by decide +kernel
theorem dX11_publish_168 : decode cX11_publish 168 = .ok (.iload 9, 2) := by decide +kernel
theorem dX11_publish_170 : decode cX11_publish 170 = .ok (.ireturn, 1) := by decide +kernel
theorem dX11_release_0 : decode cX11_release 0 = .ok (.iload_n 1, 1) := by decide +kernel
theorem dX11_release_1 : decode cX11_release 1 = .ok (.invokestatic 73, 3) := by decide +kernel
theorem dX11_release_4 : decode cX11_release 4 = .ok (.iload_n 2, 1) := by decide +kernel
theorem dX11_release_5 : decode cX11_release 5 = .ok (.iconst 1, 1) := by decide +kernel
theorem dX11_release_6 : decode cX11_release 6 = .ok (.bipush 50, 2) := by decide +kernel
theorem dX11_release_8 : decode cX11_release 8 = .ok (.invokestatic 131, 3) := by decide +kernel
theorem dX11_release_11 : decode cX11_release 11 = .ok (.aload_n 0, 1) := by decide +kernel
theorem dX11_release_12 : decode cX11_release 12 = .ok (.iload_n 1, 1) := by decide +kernel
theorem dX11_release_13 : decode cX11_release 13 = .ok (.invokevirtual 114, 3) := by decide +kernel
theorem dX11_release_16 : decode cX11_release 16 = .ok (.aload_n 0, 1) := by decide +kernel
theorem dX11_release_17 : decode cX11_release 17 = .ok (.getfield 41, 3) := by decide +kernel
theorem dX11_release_20 : decode cX11_release 20 = .ok (.getfield 77, 3) := by decide +kernel
theorem dX11_release_23 : decode cX11_release 23 = .ok (.iload_n 1, 1) := by decide +kernel
theorem dX11_release_24 : decode cX11_release 24 = .ok (.aaload, 1) := by decide +kernel
theorem dX11_release_25 : decode cX11_release 25 = .ok (.astore_n 3, 1) := by decide +kernel
theorem dX11_release_26 : decode cX11_release 26 = .ok (.aload_n 3, 1) := by decide +kernel
theorem dX11_release_27 : decode cX11_release 27 = .ok (.getfield 94, 3) := by decide +kernel
theorem dX11_release_30 : decode cX11_release 30 = .ok (.iload_n 2, 1) := by decide +kernel
theorem dX11_release_31 : decode cX11_release 31 = .ok (.invokevirtual 216, 3) := by decide +kernel
theorem dX11_release_34 : decode cX11_release 34 = .ok (.istore 4, 2) := by decide +kernel
theorem dX11_release_36 : decode cX11_release 36 = .ok (.aload_n 3, 1) := by decide +kernel
theorem dX11_release_37 : decode cX11_release 37 = .ok (.getfield 94, 3) := by decide +kernel
theorem dX11_release_40 : decode cX11_release 40 = .ok (.iload_n 2, 1) := by decide +kernel
theorem dX11_release_41 : decode cX11_release 41 = .ok (.invokevirtual 231, 3) := by decide +kernel
theorem dX11_release_44 : decode cX11_release 44 = .ok (.aload_n 0, 1) := by decide +kernel
theorem dX11_release_45 : decode cX11_release 45 = .ok (.getfield 41, 3) := by decide +kernel
theorem dX11_release_48 : decode cX11_release 48 = .ok (.aload_n 3, 1) := by decide +kernel
theorem dX11_release_49 : decode cX11_release 49 = .ok (.iconst 4, 1) := by decide +kernel
theorem dX11_release_50 : decode cX11_release 50 = .ok (.iload_n 2, 1) := by decide +kernel
theorem dX11_release_51 : decode cX11_release 51 = .ok (.invokevirtual 227, 3) := by decide +kernel
theorem dX11_release_54 : decode cX11_release 54 = .ok (.iload 4, 2) := by decide +kernel
theorem dX11_release_56 : decode cX11_release 56 = .ok (.ifCond .eq 7, 3) := by decide +kernel
theorem dX11_release_59 : decode cX11_release 59 = .ok (.iconst 1, 1) := by decide +kernel
theorem dX11_release_60 : decode cX11_release 60 = .ok (.goto 4, 3) := by decide +kernel
theorem dX11_release_63 : decode cX11_release 63 = .ok (.iconst 0, 1) := by decide +kernel
theorem dX11_release_64 : decode cX11_release 64 = .ok (.ireturn, 1) := by decide +kernel
theorem dX11_answer_0 : decode cX11_answer 0 = .ok (.iload_n 1, 1) := by decide +kernel
theorem dX11_answer_1 : decode cX11_answer 1 = .ok (.invokestatic 73, 3) := by decide +kernel
theorem dX11_answer_4 : decode cX11_answer 4 = .ok (.iload_n 2, 1) := by decide +kernel
theorem dX11_answer_5 : decode cX11_answer 5 = .ok (.iconst 1, 1) := by decide +kernel
theorem dX11_answer_6 : decode cX11_answer 6 = .ok (.if_icmp .eq 21, 3) := by decide +kernel
theorem dX11_answer_9 : decode cX11_answer 9 = .ok (.iload_n 2, 1) := by decide +kernel
theorem dX11_answer_10 : decode cX11_answer 10 = .ok (.iconst 2, 1) := by decide +kernel
theorem dX11_answer_11 : decode cX11_answer 11 = .ok (.if_icmp .eq 16, 3) := by decide +kernel
theorem dX11_answer_14 : decode cX11_answer 14 = .ok (.iload_n 2, 1) := by decide +kernel
theorem dX11_answer_15 : decode cX11_answer 15 = .ok (.iconst 4, 1) := by decide +kernel
theorem dX11_answer_16 : decode cX11_answer 16 = .ok (.if_icmp .eq 11, 3) := by decide +kernel
theorem dX11_answer_19 : decode cX11_answer 19 = .ok (.new 48, 3) := by decide +kernel
theorem dX11_answer_22 : decode cX11_answer 22 = .ok (.dup, 1) := by decide +kernel
theorem dX11_answer_23 : decode cX11_answer 23 = .ok (.invokespecial 50, 3) := by decide +kernel
theorem dX11_answer_26 : decode cX11_answer 26 = .ok (.athrow, 1) := by decide +kernel
theorem dX11_answer_27 : decode cX11_answer 27 = .ok (.iload_n 3, 1) := by decide +kernel
theorem dX11_answer_28 : decode cX11_answer 28 = .ok (.iconst 1, 1) := by decide +kernel
theorem dX11_answer_29 : decode cX11_answer 29 = .ok (.bipush 50, 2) := by decide +kernel
theorem dX11_answer_31 : decode cX11_answer 31 = .ok (.invokestatic 131, 3) := by decide +kernel
theorem dX11_answer_34 : decode cX11_answer 34 = .ok (.aload_n 0, 1) := by decide +kernel
theorem dX11_answer_35 : decode cX11_answer 35 = .ok (.iload_n 1, 1) := by decide +kernel
theorem dX11_answer_36 : decode cX11_answer 36 = .ok (.invokevirtual 114, 3) := by decide +kernel
theorem dX11_answer_39 : decode cX11_answer 39 = .ok (.aload_n 0, 1) := by decide +kernel
theorem dX11_answer_40 : decode cX11_answer 40 = .ok (.getfield 41, 3) := by decide +kernel
theorem dX11_answer_43 : decode cX11_answer 43 = .ok (.aload_n 0, 1) := by decide +kernel
theorem dX11_answer_44 : decode cX11_answer 44 = .ok (.getfield 41, 3) := by decide +kernel
theorem dX11_answer_47 : decode cX11_answer 47 = .ok (.getfield 77, 3) := by decide +kernel
theorem dX11_answer_50 : decode cX11_answer 50 = .ok (.iload_n 1, 1) := by decide +kernel
theorem dX11_answer_51 : decode cX11_answer 51 = .ok (.aaload, 1) := by decide +kernel
theorem dX11_answer_52 : decode cX11_answer 52 = .ok (.iload_n 2, 1) := by decide +kernel
theorem dX11_answer_53 : decode cX11_answer 53 = .ok (.iload_n 3, 1) := by decide +kernel
theorem dX11_answer_54 : decode cX11_answer 54 = .ok (.invokevirtual 234, 3) := by decide +kernel
theorem dX11_answer_57 : decode cX11_answer 57 = .ok (.ifCond .eq 7, 3) := by decide +kernel
theorem dX11_answer_60 : decode cX11_answer 60 = .ok (.iconst 1, 1) := by decide +kernel
theorem dX11_answer_61 : decode cX11_answer 61 = .ok (.goto 4, 3) := by decide +kernel
theorem dX11_answer_64 : decode cX11_answer 64 = .ok (.iconst 0, 1) := by decide +kernel
theorem dX11_answer_65 : decode cX11_answer 65 = .ok (.ireturn, 1) := by decide +kernel
theorem dX11_audience_0 : decode cX11_audience 0 = .ok (.aload_n 0, 1) := by decide +kernel
theorem dX11_audience_1 : decode cX11_audience 1 = .ok (.invokevirtual 123, 3) := by decide +kernel
theorem dX11_audience_4 : decode cX11_audience 4 = .ok (.istore_n 2, 1) := by decide +kernel
theorem dX11_audience_5 : decode cX11_audience 5 = .ok (.iload_n 1, 1) := by decide +kernel
theorem dX11_audience_6 : decode cX11_audience 6 = .ok (.invokestatic 73, 3) := by decide +kernel
theorem dX11_audience_9 : decode cX11_audience 9 = .ok (.aload_n 0, 1) := by decide +kernel
theorem dX11_audience_10 : decode cX11_audience 10 = .ok (.iload_n 2, 1) := by decide +kernel
theorem dX11_audience_11 : decode cX11_audience 11 = .ok (.invokevirtual 127, 3) := by decide +kernel
theorem dX11_audience_14 : decode cX11_audience 14 = .ok (.astore_n 3, 1) := by decide +kernel
theorem dX11_audience_15 : decode cX11_audience 15 = .ok (.aload_n 0, 1) := by decide +kernel
theorem dX11_audience_16 : decode cX11_audience 16 = .ok (.getfield 41, 3) := by decide +kernel
theorem dX11_audience_19 : decode cX11_audience 19 = .ok (.iload_n 1, 1) := by decide +kernel
theorem dX11_audience_20 : decode cX11_audience 20 = .ok (.aload_n 3, 1) := by decide +kernel
theorem dX11_audience_21 : decode cX11_audience 21 = .ok (.invokevirtual 238, 3) := by decide +kernel
theorem dX11_audience_24 : decode cX11_audience 24 = .ok (.ireturn, 1) := by decide +kernel
theorem dX11_receive_0 : decode cX11_receive 0 = .ok (.iload_n 1, 1) := by decide +kernel
theorem dX11_receive_1 : decode cX11_receive 1 = .ok (.invokestatic 73, 3) := by decide +kernel
theorem dX11_receive_4 : decode cX11_receive 4 = .ok (.aload_n 0, 1) := by decide +kernel
theorem dX11_receive_5 : decode cX11_receive 5 = .ok (.iload_n 1, 1) := by decide +kernel
theorem dX11_receive_6 : decode cX11_receive 6 = .ok (.invokevirtual 114, 3) := by decide +kernel
theorem dX11_receive_9 : decode cX11_receive 9 = .ok (.aload_n 0, 1) := by decide +kernel
theorem dX11_receive_10 : decode cX11_receive 10 = .ok (.getfield 41, 3) := by decide +kernel
theorem dX11_receive_13 : decode cX11_receive 13 = .ok (.getfield 77, 3) := by decide +kernel
theorem dX11_receive_16 : decode cX11_receive 16 = .ok (.iload_n 1, 1) := by decide +kernel
theorem dX11_receive_17 : decode cX11_receive 17 = .ok (.aaload, 1) := by decide +kernel
theorem dX11_receive_18 : decode cX11_receive 18 = .ok (.getfield 242, 3) := by decide +kernel
theorem dX11_receive_21 : decode cX11_receive 21 = .ok (.astore_n 2, 1) := by decide +kernel
theorem dX11_receive_22 : decode cX11_receive 22 = .ok (.aload_n 2, 1) := by decide +kernel
theorem dX11_receive_23 : decode cX11_receive 23 = .ok (.getfield 246, 3) := by decide +kernel
theorem dX11_receive_26 : decode cX11_receive 26 = .ok (.ifCond .ne 5, 3) := by decide +kernel
theorem dX11_receive_29 : decode cX11_receive 29 = .ok (.iconst (-1), 1) := by decide +kernel
theorem dX11_receive_30 : decode cX11_receive 30 = .ok (.ireturn, 1) := by decide +kernel
theorem dX11_receive_31 : decode cX11_receive 31 = .ok (.aload_n 0, 1) := by decide +kernel
theorem dX11_receive_32 : decode cX11_receive 32 = .ok (.getfield 27, 3) := by decide +kernel
theorem dX11_receive_35 : decode cX11_receive 35 = .ok (.aload_n 2, 1) := by decide +kernel
theorem dX11_receive_36 : decode cX11_receive 36 = .ok (.invokevirtual 251, 3) := by decide +kernel
theorem dX11_receive_39 : decode cX11_receive 39 = .ok (.invokevirtual 255, 3) := by decide +kernel
theorem dX11_receive_42 : decode cX11_receive 42 = .ok (.aload_n 0, 1) := by decide +kernel
theorem dX11_receive_43 : decode cX11_receive 43 = .ok (.iconst 1, 1) := by decide +kernel
theorem dX11_receive_44 : decode cX11_receive 44 = .ok (.putfield 259, 3) := by decide +kernel
theorem dX11_receive_47 : decode cX11_receive 47 = .ok (.aload_n 2, 1) := by decide +kernel
theorem dX11_receive_48 : decode cX11_receive 48 = .ok (.invokevirtual 262, 3) := by decide +kernel
theorem dX11_receive_51 : decode cX11_receive 51 = .ok (.aload_n 0, 1) := by decide +kernel
theorem dX11_receive_52 : decode cX11_receive 52 = .ok (.getfield 27, 3) := by decide +kernel
theorem dX11_receive_55 : decode cX11_receive 55 = .ok (.getfield 265, 3) := by decide +kernel
theorem dX11_receive_58 : decode cX11_receive 58 = .ok (.ireturn, 1) := by decide +kernel
theorem dX11_length_0 : decode cX11_length 0 = .ok (.iload_n 1, 1) := by decide +kernel
theorem dX11_length_1 : decode cX11_length 1 = .ok (.invokestatic 73, 3) := by decide +kernel
theorem dX11_length_4 : decode cX11_length 4 = .ok (.aload_n 0, 1) := by decide +kernel
theorem dX11_length_5 : decode cX11_length 5 = .ok (.getfield 41, 3) := by decide +kernel
theorem dX11_length_8 : decode cX11_length 8 = .ok (.getfield 77, 3) := by decide +kernel
theorem dX11_length_11 : decode cX11_length 11 = .ok (.iload_n 1, 1) := by decide +kernel
theorem dX11_length_12 : decode cX11_length 12 = .ok (.aaload, 1) := by decide +kernel
theorem dX11_length_13 : decode cX11_length 13 = .ok (.astore_n 3, 1) := by decide +kernel
theorem dX11_length_14 : decode cX11_length 14 = .ok (.iload_n 2, 1) := by decide +kernel
theorem dX11_length_15 : decode cX11_length 15 = .ok (.tableswitch 79 0 4 #[33, 41, 52, 63, 71], 33) := by decide +kernel
theorem dX11_length_48 : decode cX11_length 48 = .ok (.aload_n 3, 1) := by decide +kernel
theorem dX11_length_49 : decode cX11_length 49 = .ok (.getfield 242, 3) := by decide +kernel
theorem dX11_length_52 : decode cX11_length 52 = .ok (.getfield 246, 3) := by decide +kernel
theorem dX11_length_55 : decode cX11_length 55 = .ok (.ireturn, 1) := by decide +kernel
theorem dX11_length_56 : decode cX11_length 56 = .ok (.aload_n 3, 1) := by decide +kernel
theorem dX11_length_57 : decode cX11_length 57 = .ok (.getfield 94, 3) := by decide +kernel
theorem dX11_length_60 : decode cX11_length 60 = .ok (.getfield 287, 3) := by decide +kernel
theorem dX11_length_63 : decode cX11_length 63 = .ok (.getfield 291, 3) := by decide +kernel
theorem dX11_length_66 : decode cX11_length 66 = .ok (.ireturn, 1) := by decide +kernel
theorem dX11_length_67 : decode cX11_length 67 = .ok (.aload_n 3, 1) := by decide +kernel
theorem dX11_length_68 : decode cX11_length 68 = .ok (.getfield 94, 3) := by decide +kernel
theorem dX11_length_71 : decode cX11_length 71 = .ok (.getfield 294, 3) := by decide +kernel
theorem dX11_length_74 : decode cX11_length 74 = .ok (.getfield 291, 3) := by decide +kernel
end
section
theorem dX11_length_77 : decode cX11_length 77 = .ok (.ireturn, 1) := by decide +kernel
theorem dX11_length_78 : decode cX11_length 78 = .ok (.aload_n 3, 1) := by decide +kernel
theorem dX11_length_79 : decode cX11_length 79 = .ok (.getfield 94, 3) := by decide +kernel
theorem dX11_length_82 : decode cX11_length 82 = .ok (.getfield 297, 3) := by decide +kernel
theorem dX11_length_85 : decode cX11_length 85 = .ok (.ireturn, 1) := by decide +kernel
theorem dX11_length_86 : decode cX11_length 86 = .ok (.aload_n 3, 1) := by decide +kernel
theorem dX11_length_87 : decode cX11_length 87 = .ok (.getfield 94, 3) := by decide +kernel
theorem dX11_length_90 : decode cX11_length 90 = .ok (.getfield 155, 3) := by decide +kernel
theorem dX11_length_93 : decode cX11_length 93 = .ok (.ireturn, 1) := by decide +kernel
theorem dX11_length_94 : decode cX11_length 94 = .ok (.new 48, 3) := by decide +kernel
theorem dX11_length_97 : decode cX11_length 97 = .ok (.dup, 1) := by decide +kernel
theorem dX11_length_98 : decode cX11_length 98 = .ok (.invokespecial 50, 3) := by decide +kernel
theorem dX11_length_101 : decode cX11_length 101 = .ok (.athrow, 1) := by decide +kernel
theorem dX11_inFlight_0 : decode cX11_inFlight 0 = .ok (.iload_n 1, 1) := by decide +kernel
theorem dX11_inFlight_1 : decode cX11_inFlight 1 = .ok (.invokestatic 73, 3) := by decide +kernel
theorem dX11_inFlight_4 : decode cX11_inFlight 4 = .ok (.aload_n 0, 1) := by decide +kernel
theorem dX11_inFlight_5 : decode cX11_inFlight 5 = .ok (.getfield 41, 3) := by decide +kernel
theorem dX11_inFlight_8 : decode cX11_inFlight 8 = .ok (.getfield 77, 3) := by decide +kernel
theorem dX11_inFlight_11 : decode cX11_inFlight 11 = .ok (.iload_n 1, 1) := by decide +kernel
theorem dX11_inFlight_12 : decode cX11_inFlight 12 = .ok (.aaload, 1) := by decide +kernel
theorem dX11_inFlight_13 : decode cX11_inFlight 13 = .ok (.getfield 94, 3) := by decide +kernel
theorem dX11_inFlight_16 : decode cX11_inFlight 16 = .ok (.getfield 287, 3) := by decide +kernel
theorem dX11_inFlight_19 : decode cX11_inFlight 19 = .ok (.astore 4, 2) := by decide +kernel
theorem dX11_inFlight_21 : decode cX11_inFlight 21 = .ok (.iload_n 2, 1) := by decide +kernel
theorem dX11_inFlight_22 : decode cX11_inFlight 22 = .ok (.ifCond .lt 22, 3) := by decide +kernel
theorem dX11_inFlight_25 : decode cX11_inFlight 25 = .ok (.iload_n 2, 1) := by decide +kernel
theorem dX11_inFlight_26 : decode cX11_inFlight 26 = .ok (.aload 4, 2) := by decide +kernel
theorem dX11_inFlight_28 : decode cX11_inFlight 28 = .ok (.getfield 291, 3) := by decide +kernel
theorem dX11_inFlight_31 : decode cX11_inFlight 31 = .ok (.if_icmp .ge 13, 3) := by decide +kernel
theorem dX11_inFlight_34 : decode cX11_inFlight 34 = .ok (.iload_n 2, 1) := by decide +kernel
theorem dX11_inFlight_35 : decode cX11_inFlight 35 = .ok (.aload 4, 2) := by decide +kernel
theorem dX11_inFlight_37 : decode cX11_inFlight 37 = .ok (.getfield 300, 3) := by decide +kernel
theorem dX11_inFlight_40 : decode cX11_inFlight 40 = .ok (.arraylength, 1) := by decide +kernel
theorem dX11_inFlight_41 : decode cX11_inFlight 41 = .ok (.if_icmp .lt 11, 3) := by decide +kernel
theorem dX11_inFlight_44 : decode cX11_inFlight 44 = .ok (.new 61, 3) := by decide +kernel
theorem dX11_inFlight_47 : decode cX11_inFlight 47 = .ok (.dup, 1) := by decide +kernel
theorem dX11_inFlight_48 : decode cX11_inFlight 48 = .ok (.invokespecial 63, 3) := by decide +kernel
theorem dX11_inFlight_51 : decode cX11_inFlight 51 = .ok (.athrow, 1) := by decide +kernel
theorem dX11_inFlight_52 : decode cX11_inFlight 52 = .ok (.aload 4, 2) := by decide +kernel
theorem dX11_inFlight_54 : decode cX11_inFlight 54 = .ok (.getfield 300, 3) := by decide +kernel
theorem dX11_inFlight_57 : decode cX11_inFlight 57 = .ok (.iload_n 2, 1) := by decide +kernel
theorem dX11_inFlight_58 : decode cX11_inFlight 58 = .ok (.aaload, 1) := by decide +kernel
theorem dX11_inFlight_59 : decode cX11_inFlight 59 = .ok (.astore 5, 2) := by decide +kernel
theorem dX11_inFlight_61 : decode cX11_inFlight 61 = .ok (.iload_n 3, 1) := by decide +kernel
theorem dX11_inFlight_62 : decode cX11_inFlight 62 = .ok (.tableswitch 64 0 4 #[34, 40, 46, 52, 58], 34) := by decide +kernel
theorem dX11_inFlight_96 : decode cX11_inFlight 96 = .ok (.aload 5, 2) := by decide +kernel
theorem dX11_inFlight_98 : decode cX11_inFlight 98 = .ok (.getfield 304, 3) := by decide +kernel
theorem dX11_inFlight_101 : decode cX11_inFlight 101 = .ok (.ireturn, 1) := by decide +kernel
theorem dX11_inFlight_102 : decode cX11_inFlight 102 = .ok (.aload 5, 2) := by decide +kernel
theorem dX11_inFlight_104 : decode cX11_inFlight 104 = .ok (.getfield 305, 3) := by decide +kernel
theorem dX11_inFlight_107 : decode cX11_inFlight 107 = .ok (.ireturn, 1) := by decide +kernel
theorem dX11_inFlight_108 : decode cX11_inFlight 108 = .ok (.aload 5, 2) := by decide +kernel
theorem dX11_inFlight_110 : decode cX11_inFlight 110 = .ok (.getfield 306, 3) := by decide +kernel
theorem dX11_inFlight_113 : decode cX11_inFlight 113 = .ok (.ireturn, 1) := by decide +kernel
theorem dX11_inFlight_114 : decode cX11_inFlight 114 = .ok (.aload 5, 2) := by decide +kernel
theorem dX11_inFlight_116 : decode cX11_inFlight 116 = .ok (.getfield 307, 3) := by decide +kernel
theorem dX11_inFlight_119 : decode cX11_inFlight 119 = .ok (.ireturn, 1) := by decide +kernel
theorem dX11_inFlight_120 : decode cX11_inFlight 120 = .ok (.aload 5, 2) := by decide +kernel
theorem dX11_inFlight_122 : decode cX11_inFlight 122 = .ok (.getfield 310, 3) := by decide +kernel
theorem dX11_inFlight_125 : decode cX11_inFlight 125 = .ok (.ireturn, 1) := by decide +kernel
theorem dX11_inFlight_126 : decode cX11_inFlight 126 = .ok (.new 48, 3) := by decide +kernel
theorem dX11_inFlight_129 : decode cX11_inFlight 129 = .ok (.dup, 1) := by decide +kernel
theorem dX11_inFlight_130 : decode cX11_inFlight 130 = .ok (.invokespecial 50, 3) := by decide +kernel
theorem dX11_inFlight_133 : decode cX11_inFlight 133 = .ok (.athrow, 1) := by decide +kernel
theorem dX11_advance_0 : decode cX11_advance 0 = .ok (.iload_n 1, 1) := by decide +kernel
theorem dX11_advance_1 : decode cX11_advance 1 = .ok (.iconst 1, 1) := by decide +kernel
theorem dX11_advance_2 : decode cX11_advance 2 = .ok (.bipush 100, 2) := by decide +kernel
theorem dX11_advance_4 : decode cX11_advance 4 = .ok (.invokestatic 131, 3) := by decide +kernel
theorem dX11_advance_7 : decode cX11_advance 7 = .ok (.iconst 0, 1) := by decide +kernel
theorem dX11_advance_8 : decode cX11_advance 8 = .ok (.istore_n 2, 1) := by decide +kernel
theorem dX11_advance_9 : decode cX11_advance 9 = .ok (.iload_n 2, 1) := by decide +kernel
theorem dX11_advance_10 : decode cX11_advance 10 = .ok (.iload_n 1, 1) := by decide +kernel
theorem dX11_advance_11 : decode cX11_advance 11 = .ok (.if_icmp .ge 16, 3) := by decide +kernel
theorem dX11_advance_14 : decode cX11_advance 14 = .ok (.aload_n 0, 1) := by decide +kernel
theorem dX11_advance_15 : decode cX11_advance 15 = .ok (.getfield 41, 3) := by decide +kernel
theorem dX11_advance_18 : decode cX11_advance 18 = .ok (.invokevirtual 313, 3) := by decide +kernel
theorem dX11_advance_21 : decode cX11_advance 21 = .ok (.iinc 2 1, 3) := by decide +kernel
theorem dX11_advance_24 : decode cX11_advance 24 = .ok (.goto (-15), 3) := by decide +kernel
theorem dX11_advance_27 : decode cX11_advance 27 = .ok (.aload_n 0, 1) := by decide +kernel
theorem dX11_advance_28 : decode cX11_advance 28 = .ok (.getfield 41, 3) := by decide +kernel
theorem dX11_advance_31 : decode cX11_advance 31 = .ok (.getfield 316, 3) := by decide +kernel
theorem dX11_advance_34 : decode cX11_advance 34 = .ok (.ireturn, 1) := by decide +kernel
theorem dX11_load_0 : decode cX11_load 0 = .ok (.iload_n 1, 1) := by decide +kernel
theorem dX11_load_1 : decode cX11_load 1 = .ok (.invokestatic 73, 3) := by decide +kernel
theorem dX11_load_4 : decode cX11_load 4 = .ok (.aload_n 0, 1) := by decide +kernel
theorem dX11_load_5 : decode cX11_load 5 = .ok (.getfield 41, 3) := by decide +kernel
theorem dX11_load_8 : decode cX11_load 8 = .ok (.getfield 77, 3) := by decide +kernel
theorem dX11_load_11 : decode cX11_load 11 = .ok (.iload_n 1, 1) := by decide +kernel
theorem dX11_load_12 : decode cX11_load 12 = .ok (.aaload, 1) := by decide +kernel
theorem dX11_load_13 : decode cX11_load 13 = .ok (.getfield 319, 3) := by decide +kernel
theorem dX11_load_16 : decode cX11_load 16 = .ok (.ldc_w 323, 3) := by decide +kernel
theorem dX11_load_19 : decode cX11_load 19 = .ok (.fmul, 1) := by decide +kernel
theorem dX11_load_20 : decode cX11_load 20 = .ok (.f2i, 1) := by decide +kernel
theorem dX11_load_21 : decode cX11_load 21 = .ok (.ireturn, 1) := by decide +kernel
theorem dX11_retainedCount_0 : decode cX11_retainedCount 0 = .ok (.aload_n 0, 1) := by decide +kernel
theorem dX11_retainedCount_1 : decode cX11_retainedCount 1 = .ok (.getfield 41, 3) := by decide +kernel
theorem dX11_retainedCount_4 : decode cX11_retainedCount 4 = .ok (.getfield 324, 3) := by decide +kernel
theorem dX11_retainedCount_7 : decode cX11_retainedCount 7 = .ok (.ireturn, 1) := by decide +kernel
theorem dX11_retained_0 : decode cX11_retained 0 = .ok (.iload_n 1, 1) := by decide +kernel
theorem dX11_retained_1 : decode cX11_retained 1 = .ok (.ifCond .lt 26, 3) := by decide +kernel
theorem dX11_retained_4 : decode cX11_retained 4 = .ok (.iload_n 1, 1) := by decide +kernel
theorem dX11_retained_5 : decode cX11_retained 5 = .ok (.aload_n 0, 1) := by decide +kernel
theorem dX11_retained_6 : decode cX11_retained 6 = .ok (.getfield 41, 3) := by decide +kernel
theorem dX11_retained_9 : decode cX11_retained 9 = .ok (.getfield 324, 3) := by decide +kernel
theorem dX11_retained_12 : decode cX11_retained 12 = .ok (.if_icmp .ge 15, 3) := by decide +kernel
theorem dX11_retained_15 : decode cX11_retained 15 = .ok (.iload_n 1, 1) := by decide +kernel
theorem dX11_retained_16 : decode cX11_retained 16 = .ok (.aload_n 0, 1) := by decide +kernel
theorem dX11_retained_17 : decode cX11_retained 17 = .ok (.getfield 41, 3) := by decide +kernel
theorem dX11_retained_20 : decode cX11_retained 20 = .ok (.getfield 327, 3) := by decide +kernel
theorem dX11_retained_23 : decode cX11_retained 23 = .ok (.arraylength, 1) := by decide +kernel
theorem dX11_retained_24 : decode cX11_retained 24 = .ok (.if_icmp .lt 11, 3) := by decide +kernel
theorem dX11_retained_27 : decode cX11_retained 27 = .ok (.new 61, 3) := by decide +kernel
theorem dX11_retained_30 : decode cX11_retained 30 = .ok (.dup, 1) := by decide +kernel
theorem dX11_retained_31 : decode cX11_retained 31 = .ok (.invokespecial 63, 3) := by decide +kernel
theorem dX11_retained_34 : decode cX11_retained 34 = .ok (.athrow, 1) := by decide +kernel
theorem dX11_retained_35 : decode cX11_retained 35 = .ok (.aload_n 0, 1) := by decide +kernel
theorem dX11_retained_36 : decode cX11_retained 36 = .ok (.getfield 41, 3) := by decide +kernel
theorem dX11_retained_39 : decode cX11_retained 39 = .ok (.getfield 327, 3) := by decide +kernel
theorem dX11_retained_42 : decode cX11_retained 42 = .ok (.iload_n 1, 1) := by decide +kernel
theorem dX11_retained_43 : decode cX11_retained 43 = .ok (.aaload, 1) := by decide +kernel
theorem dX11_retained_44 : decode cX11_retained 44 = .ok (.astore_n 3, 1) := by decide +kernel
theorem dX11_retained_45 : decode cX11_retained 45 = .ok (.iload_n 2, 1) := by decide +kernel
theorem dX11_retained_46 : decode cX11_retained 46 = .ok (.tableswitch 45 0 2 #[26, 31, 36], 26) := by decide +kernel
theorem dX11_retained_72 : decode cX11_retained 72 = .ok (.aload_n 3, 1) := by decide +kernel
theorem dX11_retained_73 : decode cX11_retained 73 = .ok (.getfield 305, 3) := by decide +kernel
theorem dX11_retained_76 : decode cX11_retained 76 = .ok (.ireturn, 1) := by decide +kernel
theorem dX11_retained_77 : decode cX11_retained 77 = .ok (.aload_n 3, 1) := by decide +kernel
theorem dX11_retained_78 : decode cX11_retained 78 = .ok (.getfield 306, 3) := by decide +kernel
theorem dX11_retained_81 : decode cX11_retained 81 = .ok (.ireturn, 1) := by decide +kernel
theorem dX11_retained_82 : decode cX11_retained 82 = .ok (.aload_n 3, 1) := by decide +kernel
theorem dX11_retained_83 : decode cX11_retained 83 = .ok (.getfield 330, 3) := by decide +kernel
theorem dX11_retained_86 : decode cX11_retained 86 = .ok (.getfield 281, 3) := by decide +kernel
theorem dX11_retained_89 : decode cX11_retained 89 = .ok (.arraylength, 1) := by decide +kernel
theorem dX11_retained_90 : decode cX11_retained 90 = .ok (.ireturn, 1) := by decide +kernel
theorem dX11_retained_91 : decode cX11_retained 91 = .ok (.new 48, 3) := by decide +kernel
theorem dX11_retained_94 : decode cX11_retained 94 = .ok (.dup, 1) := by decide +kernel
theorem dX11_retained_95 : decode cX11_retained 95 = .ok (.invokespecial 50, 3) := by decide +kernel
theorem dX11_retained_98 : decode cX11_retained 98 = .ok (.athrow, 1) := by decide +kernel
theorem dX11_total_0 : decode cX11_total 0 = .ok (.iload_n 1, 1) := by decide +kernel
theorem dX11_total_1 : decode cX11_total 1 = .ok (.iconst 0, 1) := by decide +kernel
theorem dX11_total_2 : decode cX11_total 2 = .ok (.bipush 9, 2) := by decide +kernel
theorem dX11_total_4 : decode cX11_total 4 = .ok (.invokestatic 131, 3) := by decide +kernel
theorem dX11_total_7 : decode cX11_total 7 = .ok (.aload_n 0, 1) := by decide +kernel
theorem dX11_total_8 : decode cX11_total 8 = .ok (.getfield 41, 3) := by decide +kernel
theorem dX11_total_11 : decode cX11_total 11 = .ok (.getfield 87, 3) := by decide +kernel
theorem dX11_total_14 : decode cX11_total 14 = .ok (.iload_n 1, 1) := by decide +kernel
theorem dX11_total_15 : decode cX11_total 15 = .ok (.iaload, 1) := by decide +kernel
theorem dX11_total_16 : decode cX11_total 16 = .ok (.ireturn, 1) := by decide +kernel
theorem dX11_save_0 : decode cX11_save 0 = .ok (.aload_n 0, 1) := by decide +kernel
theorem dX11_save_1 : decode cX11_save 1 = .ok (.getfield 45, 3) := by decide +kernel
theorem dX11_save_4 : decode cX11_save 4 = .ok (.aload_n 0, 1) := by decide +kernel
theorem dX11_save_5 : decode cX11_save 5 = .ok (.getfield 41, 3) := by decide +kernel
theorem dX11_save_8 : decode cX11_save 8 = .ok (.invokevirtual 343, 3) := by decide +kernel
theorem dX11_save_11 : decode cX11_save 11 = .ok (.aload_n 0, 1) := by decide +kernel
theorem dX11_save_12 : decode cX11_save 12 = .ok (.iconst 1, 1) := by decide +kernel
theorem dX11_save_13 : decode cX11_save 13 = .ok (.putfield 346, 3) := by decide +kernel
theorem dX11_save_16 : decode cX11_save 16 = .ok (.aload_n 0, 1) := by decide +kernel
theorem dX11_save_17 : decode cX11_save 17 = .ok (.getfield 41, 3) := by decide +kernel
theorem dX11_save_20 : decode cX11_save 20 = .ok (.getfield 316, 3) := by decide +kernel
theorem dX11_save_23 : decode cX11_save 23 = .ok (.ireturn, 1) := by decide +kernel
theorem dX11_restore_0 : decode cX11_restore 0 = .ok (.aload_n 0, 1) := by decide +kernel
theorem dX11_restore_1 : decode cX11_restore 1 = .ok (.getfield 346, 3) := by decide +kernel
theorem dX11_restore_4 : decode cX11_restore 4 = .ok (.ifCond .ne 11, 3) := by decide +kernel
theorem dX11_restore_7 : decode cX11_restore 7 = .ok (.new 54, 3) := by decide +kernel
theorem dX11_restore_10 : decode cX11_restore 10 = .ok (.dup, 1) := by decide +kernel
theorem dX11_restore_11 : decode cX11_restore 11 = .ok (.invokespecial 56, 3) := by decide +kernel
theorem dX11_restore_14 : decode cX11_restore 14 = .ok (.athrow, 1) := by decide +kernel
theorem dX11_restore_15 : decode cX11_restore 15 = .ok (.aload_n 0, 1) := by decide +kernel
theorem dX11_restore_16 : decode cX11_restore 16 = .ok (.getfield 41, 3) := by decide +kernel
theorem dX11_restore_19 : decode cX11_restore 19 = .ok (.aload_n 0, 1) := by decide +kernel
theorem dX11_restore_20 : decode cX11_restore 20 = .ok (.getfield 45, 3) := by decide +kernel
theorem dX11_restore_23 : decode cX11_restore 23 = .ok (.invokevirtual 343, 3) := by decide +kernel
theorem dX11_restore_26 : decode cX11_restore 26 = .ok (.aload_n 0, 1) := by decide +kernel
theorem dX11_restore_27 : decode cX11_restore 27 = .ok (.getfield 41, 3) := by decide +kernel
theorem dX11_restore_30 : decode cX11_restore 30 = .ok (.getfield 316, 3) := by decide +kernel
theorem dX11_restore_33 : decode cX11_restore 33 = .ok (.ireturn, 1) := by decide +kernel
theorem dX11_requireClient_0 : decode cX11_requireClient 0 = .ok (.iload_n 0, 1) := by decide +kernel
theorem dX11_requireClient_1 : decode cX11_requireClient 1 = .ok (.ifCond .lt 9, 3) := by decide +kernel
theorem dX11_requireClient_4 : decode cX11_requireClient 4 = .ok (.iload_n 0, 1) := by decide +kernel
theorem dX11_requireClient_5 : decode cX11_requireClient 5 = .ok (.bipush 6, 2) := by decide +kernel
theorem dX11_requireClient_7 : decode cX11_requireClient 7 = .ok (.if_icmp .lt 11, 3) := by decide +kernel
theorem dX11_requireClient_10 : decode cX11_requireClient 10 = .ok (.new 61, 3) := by decide +kernel
theorem dX11_requireClient_13 : decode cX11_requireClient 13 = .ok (.dup, 1) := by decide +kernel
theorem dX11_requireClient_14 : decode cX11_requireClient 14 = .ok (.invokespecial 63, 3) := by decide +kernel
theorem dX11_requireClient_17 : decode cX11_requireClient 17 = .ok (.athrow, 1) := by decide +kernel
theorem dX11_requireClient_18 : decode cX11_requireClient 18 = .ok (.return_, 1) := by decide +kernel
theorem dX11_requireRange_0 : decode cX11_requireRange 0 = .ok (.iload_n 0, 1) := by decide +kernel
theorem dX11_requireRange_1 : decode cX11_requireRange 1 = .ok (.iload_n 1, 1) := by decide +kernel
theorem dX11_requireRange_2 : decode cX11_requireRange 2 = .ok (.if_icmp .lt 8, 3) := by decide +kernel
theorem dX11_requireRange_5 : decode cX11_requireRange 5 = .ok (.iload_n 0, 1) := by decide +kernel
theorem dX11_requireRange_6 : decode cX11_requireRange 6 = .ok (.iload_n 2, 1) := by decide +kernel
theorem dX11_requireRange_7 : decode cX11_requireRange 7 = .ok (.if_icmp .le 11, 3) := by decide +kernel
theorem dX11_requireRange_10 : decode cX11_requireRange 10 = .ok (.new 48, 3) := by decide +kernel
theorem dX11_requireRange_13 : decode cX11_requireRange 13 = .ok (.dup, 1) := by decide +kernel
theorem dX11_requireRange_14 : decode cX11_requireRange 14 = .ok (.invokespecial 50, 3) := by decide +kernel
theorem dX11_requireRange_17 : decode cX11_requireRange 17 = .ok (.athrow, 1) := by decide +kernel
theorem dX11_requireRange_18 : decode cX11_requireRange 18 = .ok (.return_, 1) := by decide +kernel
theorem dX11_requireConnection_0 : decode cX11_requireConnection 0 = .ok (.aload_n 0, 1) := by decide +kernel
theorem dX11_requireConnection_1 : decode cX11_requireConnection 1 = .ok (.getfield 41, 3) := by decide +kernel
theorem dX11_requireConnection_4 : decode cX11_requireConnection 4 = .ok (.getfield 77, 3) := by decide +kernel
theorem dX11_requireConnection_7 : decode cX11_requireConnection 7 = .ok (.iload_n 1, 1) := by decide +kernel
theorem dX11_requireConnection_8 : decode cX11_requireConnection 8 = .ok (.aaload, 1) := by decide +kernel
theorem dX11_requireConnection_9 : decode cX11_requireConnection 9 = .ok (.getfield 81, 3) := by decide +kernel
theorem dX11_requireConnection_12 : decode cX11_requireConnection 12 = .ok (.ifCond .ne 11, 3) := by decide +kernel
theorem dX11_requireConnection_15 : decode cX11_requireConnection 15 = .ok (.new 54, 3) := by decide +kernel
theorem dX11_requireConnection_18 : decode cX11_requireConnection 18 = .ok (.dup, 1) := by decide +kernel
theorem dX11_requireConnection_19 : decode cX11_requireConnection 19 = .ok (.invokespecial 56, 3) := by decide +kernel
theorem dX11_requireConnection_22 : decode cX11_requireConnection 22 = .ok (.athrow, 1) := by decide +kernel
theorem dX11_requireConnection_23 : decode cX11_requireConnection 23 = .ok (.return_, 1) := by decide +kernel
theorem dX11_requireSubscription_0 : decode cX11_requireSubscription 0 = .ok (.aload_n 0, 1) := by decide +kernel
theorem dX11_requireSubscription_1 : decode cX11_requireSubscription 1 = .ok (.getfield 41, 3) := by decide +kernel
theorem dX11_requireSubscription_4 : decode cX11_requireSubscription 4 = .ok (.getfield 77, 3) := by decide +kernel
theorem dX11_requireSubscription_7 : decode cX11_requireSubscription 7 = .ok (.iload_n 1, 1) := by decide +kernel
theorem dX11_requireSubscription_8 : decode cX11_requireSubscription 8 = .ok (.aaload, 1) := by decide +kernel
theorem dX11_requireSubscription_9 : decode cX11_requireSubscription 9 = .ok (.getfield 94, 3) := by decide +kernel
theorem dX11_requireSubscription_12 : decode cX11_requireSubscription 12 = .ok (.astore_n 3, 1) := by decide +kernel
theorem dX11_requireSubscription_13 : decode cX11_requireSubscription 13 = .ok (.iload_n 2, 1) := by decide +kernel
theorem dX11_requireSubscription_14 : decode cX11_requireSubscription 14 = .ok (.ifCond .lt 20, 3) := by decide +kernel
theorem dX11_requireSubscription_17 : decode cX11_requireSubscription 17 = .ok (.iload_n 2, 1) := by decide +kernel
theorem dX11_requireSubscription_18 : decode cX11_requireSubscription 18 = .ok (.aload_n 3, 1) := by decide +kernel
theorem dX11_requireSubscription_19 : decode cX11_requireSubscription 19 = .ok (.getfield 155, 3) := by decide +kernel
theorem dX11_requireSubscription_22 : decode cX11_requireSubscription 22 = .ok (.if_icmp .ge 12, 3) := by decide +kernel
theorem dX11_requireSubscription_25 : decode cX11_requireSubscription 25 = .ok (.iload_n 2, 1) := by decide +kernel
theorem dX11_requireSubscription_26 : decode cX11_requireSubscription 26 = .ok (.aload_n 3, 1) := by decide +kernel
theorem dX11_requireSubscription_27 : decode cX11_requireSubscription 27 = .ok (.getfield 162, 3) := by decide +kernel
theorem dX11_requireSubscription_30 : decode cX11_requireSubscription 30 = .ok (.arraylength, 1) := by decide +kernel
theorem dX11_requireSubscription_31 : decode cX11_requireSubscription 31 = .ok (.if_icmp .lt 11, 3) := by decide +kernel
theorem dX11_requireSubscription_34 : decode cX11_requireSubscription 34 = .ok (.new 61, 3) := by decide +kernel
theorem dX11_requireSubscription_37 : decode cX11_requireSubscription 37 = .ok (.dup, 1) := by decide +kernel
theorem dX11_requireSubscription_38 : decode cX11_requireSubscription 38 = .ok (.invokespecial 63, 3) := by decide +kernel
theorem dX11_requireSubscription_41 : decode cX11_requireSubscription 41 = .ok (.athrow, 1) := by decide +kernel
theorem dX11_requireSubscription_42 : decode cX11_requireSubscription 42 = .ok (.return_, 1) := by decide +kernel
theorem dX11_takeBuffer_0 : decode cX11_takeBuffer 0 = .ok (.aload_n 0, 1) := by decide +kernel
theorem dX11_takeBuffer_1 : decode cX11_takeBuffer 1 = .ok (.getfield 51, 3) := by decide +kernel
theorem dX11_takeBuffer_4 : decode cX11_takeBuffer 4 = .ok (.istore_n 1, 1) := by decide +kernel
theorem dX11_takeBuffer_5 : decode cX11_takeBuffer 5 = .ok (.aload_n 0, 1) := by decide +kernel
theorem dX11_takeBuffer_6 : decode cX11_takeBuffer 6 = .ok (.iconst 0, 1) := by decide +kernel
theorem dX11_takeBuffer_7 : decode cX11_takeBuffer 7 = .ok (.putfield 51, 3) := by decide +kernel
theorem dX11_takeBuffer_10 : decode cX11_takeBuffer 10 = .ok (.iload_n 1, 1) := by decide +kernel
theorem dX11_takeBuffer_11 : decode cX11_takeBuffer 11 = .ok (.ireturn, 1) := by decide +kernel
theorem dX11_readTopic_0 : decode cX11_readTopic 0 = .ok (.aload_n 0, 1) := by decide +kernel
theorem dX11_readTopic_1 : decode cX11_readTopic 1 = .ok (.iload_n 1, 1) := by decide +kernel
theorem dX11_readTopic_2 : decode cX11_readTopic 2 = .ok (.iconst 0, 1) := by decide +kernel
theorem dX11_readTopic_3 : decode cX11_readTopic 3 = .ok (.invokevirtual 349, 3) := by decide +kernel
theorem dX11_readTopic_6 : decode cX11_readTopic 6 = .ok (.areturn, 1) := by decide +kernel
theorem dX11_readFilter_0 : decode cX11_readFilter 0 = .ok (.aload_n 0, 1) := by decide +kernel
theorem dX11_readFilter_1 : decode cX11_readFilter 1 = .ok (.iload_n 1, 1) := by decide +kernel
theorem dX11_readFilter_2 : decode cX11_readFilter 2 = .ok (.iconst 1, 1) := by decide +kernel
theorem dX11_readFilter_3 : decode cX11_readFilter 3 = .ok (.invokevirtual 349, 3) := by decide +kernel
theorem dX11_readFilter_6 : decode cX11_readFilter 6 = .ok (.areturn, 1) := by decide +kernel
theorem dX11_readText_0 : decode cX11_readText 0 = .ok (.aload_n 0, 1) := by decide +kernel
theorem dX11_readText_1 : decode cX11_readText 1 = .ok (.aload_n 0, 1) := by decide +kernel
theorem dX11_readText_2 : decode cX11_readText 2 = .ok (.getfield 14, 3) := by decide +kernel
theorem dX11_readText_5 : decode cX11_readText 5 = .ok (.iload_n 1, 1) := by decide +kernel
theorem dX11_readText_6 : decode cX11_readText 6 = .ok (.iload_n 2, 1) := by decide +kernel
theorem dX11_readText_7 : decode cX11_readText 7 = .ok (.invokestatic 353, 3) := by decide +kernel
theorem dX11_readText_10 : decode cX11_readText 10 = .ok (.putfield 18, 3) := by decide +kernel
theorem dX11_readText_13 : decode cX11_readText 13 = .ok (.aload_n 0, 1) := by decide +kernel
theorem dX11_readText_14 : decode cX11_readText 14 = .ok (.getfield 18, 3) := by decide +kernel
theorem dX11_readText_17 : decode cX11_readText 17 = .ok (.ifCond .lt 11, 3) := by decide +kernel
theorem dX11_readText_20 : decode cX11_readText 20 = .ok (.new 48, 3) := by decide +kernel
theorem dX11_readText_23 : decode cX11_readText 23 = .ok (.dup, 1) := by decide +kernel
theorem dX11_readText_24 : decode cX11_readText 24 = .ok (.invokespecial 50, 3) := by decide +kernel
theorem dX11_readText_27 : decode cX11_readText 27 = .ok (.athrow, 1) := by decide +kernel
theorem dX11_readText_28 : decode cX11_readText 28 = .ok (.new 7, 3) := by decide +kernel
theorem dX11_readText_31 : decode cX11_readText 31 = .ok (.dup, 1) := by decide +kernel
theorem dX11_readText_32 : decode cX11_readText 32 = .ok (.aload_n 0, 1) := by decide +kernel
theorem dX11_readText_33 : decode cX11_readText 33 = .ok (.getfield 14, 3) := by decide +kernel
theorem dX11_readText_36 : decode cX11_readText 36 = .ok (.iload_n 1, 1) := by decide +kernel
theorem dX11_readText_37 : decode cX11_readText 37 = .ok (.invokespecial 9, 3) := by decide +kernel
theorem dX11_readText_40 : decode cX11_readText 40 = .ok (.areturn, 1) := by decide +kernel
theorem dL_cell_0 : decode cL_cell 0 = .ok (.iload_n 1, 1) := by decide +kernel
theorem dL_cell_1 : decode cL_cell 1 = .ok (.aload_n 0, 1) := by decide +kernel
theorem dL_cell_2 : decode cL_cell 2 = .ok (.arraylength, 1) := by decide +kernel
theorem dL_cell_3 : decode cL_cell 3 = .ok (.if_icmp .ge 9, 3) := by decide +kernel
theorem dL_cell_6 : decode cL_cell 6 = .ok (.aload_n 0, 1) := by decide +kernel
theorem dL_cell_7 : decode cL_cell 7 = .ok (.iload_n 1, 1) := by decide +kernel
theorem dL_cell_8 : decode cL_cell 8 = .ok (.iaload, 1) := by decide +kernel
theorem dL_cell_9 : decode cL_cell 9 = .ok (.goto 7, 3) := by decide +kernel
theorem dL_cell_12 : decode cL_cell 12 = .ok (.ldc 7, 2) := by decide +kernel
theorem dL_cell_14 : decode cL_cell 14 = .ok (.iload_n 1, 1) := by decide +kernel
theorem dL_cell_15 : decode cL_cell 15 = .ok (.imul, 1) := by decide +kernel
theorem dL_cell_16 : decode cL_cell 16 = .ok (.ireturn, 1) := by decide +kernel
theorem dL_pick_0 : decode cL_pick 0 = .ok (.aload_n 0, 1) := by decide +kernel
theorem dL_pick_1 : decode cL_pick 1 = .ok (.iload_n 1, 1) := by decide +kernel
theorem dL_pick_2 : decode cL_pick 2 = .ok (.invokestatic 8, 3) := by decide +kernel
theorem dL_pick_5 : decode cL_pick 5 = .ok (.iconst 1, 1) := by decide +kernel
theorem dL_pick_6 : decode cL_pick 6 = .ok (.iushr, 1) := by decide +kernel
theorem dL_pick_7 : decode cL_pick 7 = .ok (.iload_n 2, 1) := by decide +kernel
theorem dL_pick_8 : decode cL_pick 8 = .ok (.irem, 1) := by decide +kernel
theorem dL_pick_9 : decode cL_pick 9 = .ok (.ireturn, 1) := by decide +kernel
theorem dL_append_0 : decode cL_append 0 = .ok (.aload_n 0, 1) := by decide +kernel
theorem dL_append_1 : decode cL_append 1 = .ok (.iload_n 1, 1) := by decide +kernel
theorem dL_append_2 : decode cL_append 2 = .ok (.invokevirtual 14, 3) := by decide +kernel
theorem dL_append_5 : decode cL_append 5 = .ok (.ireturn, 1) := by decide +kernel
theorem dL_append_6 : decode cL_append 6 = .ok (.astore_n 2, 1) := by decide +kernel
theorem dL_append_7 : decode cL_append 7 = .ok (.iconst (-1), 1) := by decide +kernel
theorem dL_append_8 : decode cL_append 8 = .ok (.ireturn, 1) := by decide +kernel
theorem dL_append_9 : decode cL_append 9 = .ok (.astore_n 2, 1) := by decide +kernel
theorem dL_append_10 : decode cL_append 10 = .ok (.bipush (-2), 2) := by decide +kernel
theorem dL_append_12 : decode cL_append 12 = .ok (.ireturn, 1) := by decide +kernel
theorem dL_type_0 : decode cL_type 0 = .ok (.iconst 1, 1) := by decide +kernel
theorem dL_type_1 : decode cL_type 1 = .ok (.istore_n 2, 1) := by decide +kernel
theorem dL_type_2 : decode cL_type 2 = .ok (.iconst 0, 1) := by decide +kernel
theorem dL_type_3 : decode cL_type 3 = .ok (.istore_n 3, 1) := by decide +kernel
theorem dL_type_4 : decode cL_type 4 = .ok (.iload_n 3, 1) := by decide +kernel
theorem dL_type_5 : decode cL_type 5 = .ok (.aload_n 1, 1) := by decide +kernel
theorem dL_type_6 : decode cL_type 6 = .ok (.invokevirtual 24, 3) := by decide +kernel
theorem dL_type_9 : decode cL_type 9 = .ok (.if_icmp .ge 79, 3) := by decide +kernel
theorem dL_type_12 : decode cL_type 12 = .ok (.iconst 0, 1) := by decide +kernel
theorem dL_type_13 : decode cL_type 13 = .ok (.istore 4, 2) := by decide +kernel
theorem dL_type_15 : decode cL_type 15 = .ok (.iload_n 3, 1) := by decide +kernel
theorem dL_type_16 : decode cL_type 16 = .ok (.istore 5, 2) := by decide +kernel
theorem dL_type_18 : decode cL_type 18 = .ok (.iload 5, 2) := by decide +kernel
theorem dL_type_20 : decode cL_type 20 = .ok (.iload_n 3, 1) := by decide +kernel
theorem dL_type_21 : decode cL_type 21 = .ok (.iconst 4, 1) := by decide +kernel
theorem dL_type_22 : decode cL_type 22 = .ok (.iadd, 1) := by decide +kernel
theorem dL_type_23 : decode cL_type 23 = .ok (.if_icmp .ge 32, 3) := by decide +kernel
theorem dL_type_26 : decode cL_type 26 = .ok (.iload 5, 2) := by decide +kernel
theorem dL_type_28 : decode cL_type 28 = .ok (.aload_n 1, 1) := by decide +kernel
theorem dL_type_29 : decode cL_type 29 = .ok (.invokevirtual 24, 3) := by decide +kernel
theorem dL_type_32 : decode cL_type 32 = .ok (.if_icmp .ge 23, 3) := by decide +kernel
theorem dL_type_35 : decode cL_type 35 = .ok (.iload 4, 2) := by decide +kernel
theorem dL_type_37 : decode cL_type 37 = .ok (.bipush 8, 2) := by decide +kernel
theorem dL_type_39 : decode cL_type 39 = .ok (.ishl, 1) := by decide +kernel
theorem dL_type_40 : decode cL_type 40 = .ok (.aload_n 1, 1) := by decide +kernel
theorem dL_type_41 : decode cL_type 41 = .ok (.iload 5, 2) := by decide +kernel
theorem dL_type_43 : decode cL_type 43 = .ok (.invokevirtual 30, 3) := by decide +kernel
theorem dL_type_46 : decode cL_type 46 = .ok (.ior, 1) := by decide +kernel
theorem dL_type_47 : decode cL_type 47 = .ok (.istore 4, 2) := by decide +kernel
theorem dL_type_49 : decode cL_type 49 = .ok (.iinc 5 1, 3) := by decide +kernel
theorem dL_type_52 : decode cL_type 52 = .ok (.goto (-34), 3) := by decide +kernel
theorem dL_type_55 : decode cL_type 55 = .ok (.iload_n 2, 1) := by decide +kernel
theorem dL_type_56 : decode cL_type 56 = .ok (.aload_n 0, 1) := by decide +kernel
theorem dL_type_57 : decode cL_type 57 = .ok (.iload 4, 2) := by decide +kernel
theorem dL_type_59 : decode cL_type 59 = .ok (.invokestatic 34, 3) := by decide +kernel
theorem dL_type_62 : decode cL_type 62 = .ok (.iload_n 3, 1) := by decide +kernel
theorem dL_type_63 : decode cL_type 63 = .ok (.iconst 4, 1) := by decide +kernel
theorem dL_type_64 : decode cL_type 64 = .ok (.iadd, 1) := by decide +kernel
theorem dL_type_65 : decode cL_type 65 = .ok (.aload_n 1, 1) := by decide +kernel
theorem dL_type_66 : decode cL_type 66 = .ok (.invokevirtual 24, 3) := by decide +kernel
theorem dL_type_69 : decode cL_type 69 = .ok (.invokestatic 37, 3) := by decide +kernel
theorem dL_type_72 : decode cL_type 72 = .ok (.if_icmp .ne 7, 3) := by decide +kernel
theorem dL_type_75 : decode cL_type 75 = .ok (.iconst 1, 1) := by decide +kernel
theorem dL_type_76 : decode cL_type 76 = .ok (.goto 4, 3) := by decide +kernel
theorem dL_type_79 : decode cL_type 79 = .ok (.iconst 0, 1) := by decide +kernel
theorem dL_type_80 : decode cL_type 80 = .ok (.iand, 1) := by decide +kernel
theorem dL_type_81 : decode cL_type 81 = .ok (.istore_n 2, 1) := by decide +kernel
theorem dL_type_82 : decode cL_type 82 = .ok (.iinc 3 4, 3) := by decide +kernel
theorem dL_type_85 : decode cL_type 85 = .ok (.goto (-81), 3) := by decide +kernel
theorem dL_type_88 : decode cL_type 88 = .ok (.iload_n 2, 1) := by decide +kernel
theorem dL_type_89 : decode cL_type 89 = .ok (.ireturn, 1) := by decide +kernel
theorem dL_subscribe_0 : decode cL_subscribe 0 = .ok (.aload_n 0, 1) := by decide +kernel
theorem dL_subscribe_1 : decode cL_subscribe 1 = .ok (.iload_n 1, 1) := by decide +kernel
theorem dL_subscribe_2 : decode cL_subscribe 2 = .ok (.iload_n 2, 1) := by decide +kernel
theorem dL_subscribe_3 : decode cL_subscribe 3 = .ok (.iload_n 3, 1) := by decide +kernel
theorem dL_subscribe_4 : decode cL_subscribe 4 = .ok (.iload 4, 2) := by decide +kernel
theorem dL_subscribe_6 : decode cL_subscribe 6 = .ok (.invokevirtual 43, 3) := by decide +kernel
theorem dL_subscribe_9 : decode cL_subscribe 9 = .ok (.ireturn, 1) := by decide +kernel
theorem dL_subscribe_10 : decode cL_subscribe 10 = .ok (.astore 5, 2) := by decide +kernel
theorem dL_subscribe_12 : decode cL_subscribe 12 = .ok (.iconst (-1), 1) := by decide +kernel
theorem dL_subscribe_13 : decode cL_subscribe 13 = .ok (.ireturn, 1) := by decide +kernel
theorem dL_subscribe_14 : decode cL_subscribe 14 = .ok (.astore 5, 2) := by decide +kernel
theorem dL_subscribe_16 : decode cL_subscribe 16 = .ok (.bipush (-2), 2) := by decide +kernel
theorem dL_subscribe_18 : decode cL_subscribe 18 = .ok (.ireturn, 1) := by decide +kernel
theorem dL_subscribe_19 : decode cL_subscribe 19 = .ok (.astore 5, 2) := by decide +kernel
theorem dL_subscribe_21 : decode cL_subscribe 21 = .ok (.bipush (-3), 2) := by decide +kernel
theorem dL_subscribe_23 : decode cL_subscribe 23 = .ok (.ireturn, 1) := by decide +kernel
theorem dL_publish_0 : decode cL_publish 0 = .ok (.aload_n 0, 1) := by decide +kernel
theorem dL_publish_1 : decode cL_publish 1 = .ok (.iload_n 1, 1) := by decide +kernel
theorem dL_publish_2 : decode cL_publish 2 = .ok (.iload_n 2, 1) := by decide +kernel
theorem dL_publish_3 : decode cL_publish 3 = .ok (.iload_n 3, 1) := by decide +kernel
theorem dL_publish_4 : decode cL_publish 4 = .ok (.iload 4, 2) := by decide +kernel
theorem dL_publish_6 : decode cL_publish 6 = .ok (.iload 5, 2) := by decide +kernel
theorem dL_publish_8 : decode cL_publish 8 = .ok (.invokevirtual 49, 3) := by decide +kernel
theorem dL_publish_11 : decode cL_publish 11 = .ok (.ireturn, 1) := by decide +kernel
theorem dL_publish_12 : decode cL_publish 12 = .ok (.astore 6, 2) := by decide +kernel
theorem dL_publish_14 : decode cL_publish 14 = .ok (.iconst (-1), 1) := by decide +kernel
theorem dL_publish_15 : decode cL_publish 15 = .ok (.ireturn, 1) := by decide +kernel
theorem dL_publish_16 : decode cL_publish 16 = .ok (.astore 6, 2) := by decide +kernel
theorem dL_publish_18 : decode cL_publish 18 = .ok (.bipush (-2), 2) := by decide +kernel
theorem dL_publish_20 : decode cL_publish 20 = .ok (.ireturn, 1) := by decide +kernel
theorem dL_publish_21 : decode cL_publish 21 = .ok (.astore 6, 2) := by decide +kernel
theorem dL_publish_23 : decode cL_publish 23 = .ok (.bipush (-3), 2) := by decide +kernel
theorem dL_publish_25 : decode cL_publish 25 = .ok (.ireturn, 1) := by decide +kernel
theorem dL_audience_0 : decode cL_audience 0 = .ok (.aload_n 0, 1) := by decide +kernel
theorem dL_audience_1 : decode cL_audience 1 = .ok (.iload_n 1, 1) := by decide +kernel
theorem dL_audience_2 : decode cL_audience 2 = .ok (.invokevirtual 53, 3) := by decide +kernel
theorem dL_audience_5 : decode cL_audience 5 = .ok (.ireturn, 1) := by decide +kernel
theorem dL_audience_6 : decode cL_audience 6 = .ok (.astore_n 2, 1) := by decide +kernel
theorem dL_audience_7 : decode cL_audience 7 = .ok (.iconst (-1), 1) := by decide +kernel
theorem dL_audience_8 : decode cL_audience 8 = .ok (.ireturn, 1) := by decide +kernel
theorem dL_audience_9 : decode cL_audience 9 = .ok (.astore_n 2, 1) := by decide +kernel
theorem dL_audience_10 : decode cL_audience 10 = .ok (.bipush (-2), 2) := by decide +kernel
theorem dL_audience_12 : decode cL_audience 12 = .ok (.ireturn, 1) := by decide +kernel
theorem dL_answer_0 : decode cL_answer 0 = .ok (.aload_n 0, 1) := by decide +kernel
theorem dL_answer_1 : decode cL_answer 1 = .ok (.iload_n 1, 1) := by decide +kernel
theorem dL_answer_2 : decode cL_answer 2 = .ok (.iload_n 2, 1) := by decide +kernel
theorem dL_answer_3 : decode cL_answer 3 = .ok (.iload_n 3, 1) := by decide +kernel
theorem dL_answer_4 : decode cL_answer 4 = .ok (.invokevirtual 56, 3) := by decide +kernel
theorem dL_answer_7 : decode cL_answer 7 = .ok (.ireturn, 1) := by decide +kernel
theorem dL_answer_8 : decode cL_answer 8 = .ok (.astore 4, 2) := by decide +kernel
theorem dL_answer_10 : decode cL_answer 10 = .ok (.iconst (-1), 1) := by decide +kernel
theorem dL_answer_11 : decode cL_answer 11 = .ok (.ireturn, 1) := by decide +kernel
theorem dL_answer_12 : decode cL_answer 12 = .ok (.astore 4, 2) := by decide +kernel
theorem dL_answer_14 : decode cL_answer 14 = .ok (.bipush (-2), 2) := by decide +kernel
theorem dL_answer_16 : decode cL_answer 16 = .ok (.ireturn, 1) := by decide +kernel
theorem dL_answer_17 : decode cL_answer 17 = .ok (.astore 4, 2) := by decide +kernel
theorem dL_answer_19 : decode cL_answer 19 = .ok (.bipush (-3), 2) := by decide +kernel
theorem dL_answer_21 : decode cL_answer 21 = .ok (.ireturn, 1) := by decide +kernel
theorem dL_receive_0 : decode cL_receive 0 = .ok (.aload_n 0, 1) := by decide +kernel
theorem dL_receive_1 : decode cL_receive 1 = .ok (.iload_n 1, 1) := by decide +kernel
theorem dL_receive_2 : decode cL_receive 2 = .ok (.invokevirtual 60, 3) := by decide +kernel
theorem dL_receive_5 : decode cL_receive 5 = .ok (.ireturn, 1) := by decide +kernel
theorem dL_receive_6 : decode cL_receive 6 = .ok (.astore_n 2, 1) := by decide +kernel
theorem dL_receive_7 : decode cL_receive 7 = .ok (.bipush (-8), 2) := by decide +kernel
theorem dL_receive_9 : decode cL_receive 9 = .ok (.ireturn, 1) := by decide +kernel
theorem dL_receive_10 : decode cL_receive 10 = .ok (.astore_n 2, 1) := by decide +kernel
theorem dL_receive_11 : decode cL_receive 11 = .ok (.bipush (-9), 2) := by decide +kernel
theorem dL_receive_13 : decode cL_receive 13 = .ok (.ireturn, 1) := by decide +kernel
theorem dL_breaks_0 : decode cL_breaks 0 = .ok (.aload_n 0, 1) := by decide +kernel
theorem dL_breaks_1 : decode cL_breaks 1 = .ok (.iload_n 1, 1) := by decide +kernel
theorem dL_breaks_2 : decode cL_breaks 2 = .ok (.invokevirtual 63, 3) := by decide +kernel
theorem dL_breaks_5 : decode cL_breaks 5 = .ok (.ireturn, 1) := by decide +kernel
theorem dL_breaks_6 : decode cL_breaks 6 = .ok (.astore_n 2, 1) := by decide +kernel
theorem dL_breaks_7 : decode cL_breaks 7 = .ok (.iconst (-1), 1) := by decide +kernel
theorem dL_breaks_8 : decode cL_breaks 8 = .ok (.ireturn, 1) := by decide +kernel
theorem dL_breaks_9 : decode cL_breaks 9 = .ok (.astore_n 2, 1) := by decide +kernel
theorem dL_breaks_10 : decode cL_breaks 10 = .ok (.bipush (-2), 2) := by decide +kernel
theorem dL_breaks_12 : decode cL_breaks 12 = .ok (.ireturn, 1) := by decide +kernel
theorem dL_send_0 : decode cL_send 0 = .ok (.aload_n 0, 1) := by decide +kernel
theorem dL_send_1 : decode cL_send 1 = .ok (.aload_n 1, 1) := by decide +kernel
theorem dL_send_2 : decode cL_send 2 = .ok (.invokestatic 66, 3) := by decide +kernel
theorem dL_send_5 : decode cL_send 5 = .ok (.ifCond .eq 18, 3) := by decide +kernel
theorem dL_send_8 : decode cL_send 8 = .ok (.aload_n 0, 1) := by decide +kernel
theorem dL_send_9 : decode cL_send 9 = .ok (.iload_n 2, 1) := by decide +kernel
theorem dL_send_10 : decode cL_send 10 = .ok (.iload_n 3, 1) := by decide +kernel
theorem dL_send_11 : decode cL_send 11 = .ok (.iload 4, 2) := by decide +kernel
theorem dL_send_13 : decode cL_send 13 = .ok (.iload 5, 2) := by decide +kernel
theorem dL_send_15 : decode cL_send 15 = .ok (.iload 6, 2) := by decide +kernel
theorem dL_send_17 : decode cL_send 17 = .ok (.invokestatic 73, 3) := by decide +kernel
theorem dL_send_20 : decode cL_send 20 = .ok (.goto 5, 3) := by decide +kernel
theorem dL_send_23 : decode cL_send 23 = .ok (.bipush (-7), 2) := by decide +kernel
theorem dL_send_25 : decode cL_send 25 = .ok (.ireturn, 1) := by decide +kernel
theorem dL_unsubscribe_0 : decode cL_unsubscribe 0 = .ok (.aload_n 0, 1) := by decide +kernel
theorem dL_unsubscribe_1 : decode cL_unsubscribe 1 = .ok (.iload_n 1, 1) := by decide +kernel
theorem dL_unsubscribe_2 : decode cL_unsubscribe 2 = .ok (.iload_n 2, 1) := by decide +kernel
theorem dL_unsubscribe_3 : decode cL_unsubscribe 3 = .ok (.invokevirtual 103, 3) := by decide +kernel
theorem dL_unsubscribe_6 : decode cL_unsubscribe 6 = .ok (.ireturn, 1) := by decide +kernel
theorem dL_unsubscribe_7 : decode cL_unsubscribe 7 = .ok (.astore_n 3, 1) := by decide +kernel
theorem dL_unsubscribe_8 : decode cL_unsubscribe 8 = .ok (.iconst (-1), 1) := by decide +kernel
theorem dL_unsubscribe_9 : decode cL_unsubscribe 9 = .ok (.ireturn, 1) := by decide +kernel
theorem dL_unsubscribe_10 : decode cL_unsubscribe 10 = .ok (.astore_n 3, 1) := by decide +kernel
theorem dL_unsubscribe_11 : decode cL_unsubscribe 11 = .ok (.bipush (-2), 2) := by decide +kernel
theorem dL_unsubscribe_13 : decode cL_unsubscribe 13 = .ok (.ireturn, 1) := by decide +kernel
theorem dL_unsubscribe_14 : decode cL_unsubscribe 14 = .ok (.astore_n 3, 1) := by decide +kernel
theorem dL_unsubscribe_15 : decode cL_unsubscribe 15 = .ok (.bipush (-3), 2) := by decide +kernel
theorem dL_unsubscribe_17 : decode cL_unsubscribe 17 = .ok (.ireturn, 1) := by decide +kernel
theorem dL_setOption_0 : decode cL_setOption 0 = .ok (.aload_n 0, 1) := by decide +kernel
theorem dL_setOption_1 : decode cL_setOption 1 = .ok (.iload_n 1, 1) := by decide +kernel
theorem dL_setOption_2 : decode cL_setOption 2 = .ok (.iload_n 2, 1) := by decide +kernel
theorem dL_setOption_3 : decode cL_setOption 3 = .ok (.invokevirtual 106, 3) := by decide +kernel
theorem dL_setOption_6 : decode cL_setOption 6 = .ok (.ireturn, 1) := by decide +kernel
theorem dL_setOption_7 : decode cL_setOption 7 = .ok (.astore_n 3, 1) := by decide +kernel
theorem dL_setOption_8 : decode cL_setOption 8 = .ok (.iconst (-1), 1) := by decide +kernel
theorem dL_setOption_9 : decode cL_setOption 9 = .ok (.ireturn, 1) := by decide +kernel
theorem dL_setOption_10 : decode cL_setOption 10 = .ok (.astore_n 3, 1) := by decide +kernel
theorem dL_setOption_11 : decode cL_setOption 11 = .ok (.bipush (-2), 2) := by decide +kernel
theorem dL_setOption_13 : decode cL_setOption 13 = .ok (.ireturn, 1) := by decide +kernel
theorem dL_setWill_0 : decode cL_setWill 0 = .ok (.aload_n 0, 1) := by decide +kernel
theorem dL_setWill_1 : decode cL_setWill 1 = .ok (.iload_n 1, 1) := by decide +kernel
theorem dL_setWill_2 : decode cL_setWill 2 = .ok (.iload_n 2, 1) := by decide +kernel
theorem dL_setWill_3 : decode cL_setWill 3 = .ok (.iload_n 3, 1) := by decide +kernel
theorem dL_setWill_4 : decode cL_setWill 4 = .ok (.iload 4, 2) := by decide +kernel
theorem dL_setWill_6 : decode cL_setWill 6 = .ok (.invokevirtual 109, 3) := by decide +kernel
theorem dL_setWill_9 : decode cL_setWill 9 = .ok (.ireturn, 1) := by decide +kernel
theorem dL_setWill_10 : decode cL_setWill 10 = .ok (.astore 5, 2) := by decide +kernel
theorem dL_setWill_12 : decode cL_setWill 12 = .ok (.iconst (-1), 1) := by decide +kernel
theorem dL_setWill_13 : decode cL_setWill 13 = .ok (.ireturn, 1) := by decide +kernel
theorem dL_setWill_14 : decode cL_setWill 14 = .ok (.astore 5, 2) := by decide +kernel
theorem dL_setWill_16 : decode cL_setWill 16 = .ok (.bipush (-2), 2) := by decide +kernel
theorem dL_setWill_18 : decode cL_setWill 18 = .ok (.ireturn, 1) := by decide +kernel
theorem dL_setWill_19 : decode cL_setWill 19 = .ok (.astore 5, 2) := by decide +kernel
theorem dL_setWill_21 : decode cL_setWill 21 = .ok (.bipush (-3), 2) := by decide +kernel
theorem dL_setWill_23 : decode cL_setWill 23 = .ok (.ireturn, 1) := by decide +kernel
theorem dL_release_0 : decode cL_release 0 = .ok (.aload_n 0, 1) := by decide +kernel
theorem dL_release_1 : decode cL_release 1 = .ok (.iload_n 1, 1) := by decide +kernel
theorem dL_release_2 : decode cL_release 2 = .ok (.iload_n 2, 1) := by decide +kernel
theorem dL_release_3 : decode cL_release 3 = .ok (.invokevirtual 113, 3) := by decide +kernel
theorem dL_release_6 : decode cL_release 6 = .ok (.ireturn, 1) := by decide +kernel
theorem dL_release_7 : decode cL_release 7 = .ok (.astore_n 3, 1) := by decide +kernel
theorem dL_release_8 : decode cL_release 8 = .ok (.iconst (-1), 1) := by decide +kernel
theorem dL_release_9 : decode cL_release 9 = .ok (.ireturn, 1) := by decide +kernel
theorem dL_release_10 : decode cL_release 10 = .ok (.astore_n 3, 1) := by decide +kernel
theorem dL_release_11 : decode cL_release 11 = .ok (.bipush (-2), 2) := by decide +kernel
theorem dL_release_13 : decode cL_release 13 = .ok (.ireturn, 1) := by decide +kernel
theorem dL_release_14 : decode cL_release 14 = .ok (.astore_n 3, 1) := by decide +kernel
theorem dL_release_15 : decode cL_release 15 = .ok (.bipush (-3), 2) := by decide +kernel
theorem dL_release_17 : decode cL_release 17 = .ok (.ireturn, 1) := by decide +kernel
theorem dL_restore_0 : decode cL_restore 0 = .ok (.aload_n 0, 1) := by decide +kernel
theorem dL_restore_1 : decode cL_restore 1 = .ok (.invokevirtual 116, 3) := by decide +kernel
theorem dL_restore_4 : decode cL_restore 4 = .ok (.ireturn, 1) := by decide +kernel
theorem dL_restore_5 : decode cL_restore 5 = .ok (.astore_n 1, 1) := by decide +kernel
theorem dL_restore_6 : decode cL_restore 6 = .ok (.iconst (-1), 1) := by decide +kernel
theorem dL_restore_7 : decode cL_restore 7 = .ok (.ireturn, 1) := by decide +kernel
theorem dL_law_0 : decode cL_law 0 = .ok (.new 15, 3) := by decide +kernel
theorem dL_law_3 : decode cL_law 3 = .ok (.dup, 1) := by decide +kernel
theorem dL_law_4 : decode cL_law 4 = .ok (.invokespecial 119, 3) := by decide +kernel
theorem dL_law_7 : decode cL_law 7 = .ok (.astore_n 1, 1) := by decide +kernel
theorem dL_law_8 : decode cL_law 8 = .ok (.aload_n 1, 1) := by decide +kernel
theorem dL_law_9 : decode cL_law 9 = .ok (.invokestatic 120, 3) := by decide +kernel
theorem dL_law_12 : decode cL_law 12 = .ok (.iconst (-1), 1) := by decide +kernel
theorem dL_law_13 : decode cL_law 13 = .ok (.if_icmp .eq 5, 3) := by decide +kernel
theorem dL_law_16 : decode cL_law 16 = .ok (.iconst 0, 1) := by decide +kernel
theorem dL_law_17 : decode cL_law 17 = .ok (.ireturn, 1) := by decide +kernel
theorem dL_law_18 : decode cL_law 18 = .ok (.iconst 0, 1) := by decide +kernel
theorem dL_law_19 : decode cL_law 19 = .ok (.istore_n 2, 1) := by decide +kernel
theorem dL_law_20 : decode cL_law 20 = .ok (.iconst 0, 1) := by decide +kernel
theorem dL_law_21 : decode cL_law 21 = .ok (.istore_n 3, 1) := by decide +kernel
theorem dL_law_22 : decode cL_law 22 = .ok (.iload_n 3, 1) := by decide +kernel
theorem dL_law_23 : decode cL_law 23 = .ok (.bipush 40, 2) := by decide +kernel
theorem dL_law_25 : decode cL_law 25 = .ok (.if_icmp .ge 57, 3) := by decide +kernel
theorem dL_law_28 : decode cL_law 28 = .ok (.aload_n 0, 1) := by decide +kernel
theorem dL_law_29 : decode cL_law 29 = .ok (.iload_n 2, 1) := by decide +kernel
theorem dL_law_30 : decode cL_law 30 = .ok (.aload_n 1, 1) := by decide +kernel
theorem dL_law_31 : decode cL_law 31 = .ok (.invokestatic 123, 3) := by decide +kernel
theorem dL_law_34 : decode cL_law 34 = .ok (.ifCond .eq 17, 3) := by decide +kernel
theorem dL_law_37 : decode cL_law 37 = .ok (.aload_n 1, 1) := by decide +kernel
theorem dL_law_38 : decode cL_law 38 = .ok (.invokestatic 127, 3) := by decide +kernel
theorem dL_law_41 : decode cL_law 41 = .ok (.ifCond .eq 10, 3) := by decide +kernel
theorem dL_law_44 : decode cL_law 44 = .ok (.aload_n 1, 1) := by decide +kernel
theorem dL_law_45 : decode cL_law 45 = .ok (.invokestatic 131, 3) := by decide +kernel
theorem dL_law_48 : decode cL_law 48 = .ok (.ifCond .ne 5, 3) := by decide +kernel
theorem dL_law_51 : decode cL_law 51 = .ok (.iconst 0, 1) := by decide +kernel
theorem dL_law_52 : decode cL_law 52 = .ok (.ireturn, 1) := by decide +kernel
theorem dL_law_53 : decode cL_law 53 = .ok (.iinc 2 6, 3) := by decide +kernel
theorem dL_law_56 : decode cL_law 56 = .ok (.iload_n 3, 1) := by decide +kernel
theorem dL_law_57 : decode cL_law 57 = .ok (.bipush 13, 2) := by decide +kernel
theorem dL_law_59 : decode cL_law 59 = .ok (.irem, 1) := by decide +kernel
theorem dL_law_60 : decode cL_law 60 = .ok (.bipush 12, 2) := by decide +kernel
theorem dL_law_62 : decode cL_law 62 = .ok (.if_icmp .ne 14, 3) := by decide +kernel
theorem dL_law_65 : decode cL_law 65 = .ok (.aload_n 0, 1) := by decide +kernel
theorem dL_law_66 : decode cL_law 66 = .ok (.iload_n 2, 1) := by decide +kernel
theorem dL_law_67 : decode cL_law 67 = .ok (.aload_n 1, 1) := by decide +kernel
theorem dL_law_68 : decode cL_law 68 = .ok (.invokestatic 134, 3) := by decide +kernel
theorem dL_law_71 : decode cL_law 71 = .ok (.ifCond .ne 5, 3) := by decide +kernel
theorem dL_law_74 : decode cL_law 74 = .ok (.iconst 0, 1) := by decide +kernel
theorem dL_law_75 : decode cL_law 75 = .ok (.ireturn, 1) := by decide +kernel
theorem dL_law_76 : decode cL_law 76 = .ok (.iinc 3 1, 3) := by decide +kernel
theorem dL_law_79 : decode cL_law 79 = .ok (.goto (-57), 3) := by decide +kernel
theorem dL_law_82 : decode cL_law 82 = .ok (.iconst 1, 1) := by decide +kernel
theorem dL_law_83 : decode cL_law 83 = .ok (.ireturn, 1) := by decide +kernel
theorem dL_step_0 : decode cL_step 0 = .ok (.aload_n 0, 1) := by decide +kernel
theorem dL_step_1 : decode cL_step 1 = .ok (.iload_n 1, 1) := by decide +kernel
theorem dL_step_2 : decode cL_step 2 = .ok (.iconst 1, 1) := by decide +kernel
theorem dL_step_3 : decode cL_step 3 = .ok (.iadd, 1) := by decide +kernel
theorem dL_step_4 : decode cL_step 4 = .ok (.iconst 4, 1) := by decide +kernel
theorem dL_step_5 : decode cL_step 5 = .ok (.invokestatic 137, 3) := by decide +kernel
theorem dL_step_8 : decode cL_step 8 = .ok (.istore_n 3, 1) := by decide +kernel
theorem dL_step_9 : decode cL_step 9 = .ok (.aload_n 2, 1) := by decide +kernel
theorem dL_step_10 : decode cL_step 10 = .ok (.iload_n 3, 1) := by decide +kernel
theorem dL_step_11 : decode cL_step 11 = .ok (.invokevirtual 141, 3) := by decide +kernel
theorem dL_step_14 : decode cL_step 14 = .ok (.iconst 1, 1) := by decide +kernel
theorem dL_step_15 : decode cL_step 15 = .ok (.if_icmp .le 7, 3) := by decide +kernel
theorem dL_step_18 : decode cL_step 18 = .ok (.iconst 1, 1) := by decide +kernel
theorem dL_step_19 : decode cL_step 19 = .ok (.goto 4, 3) := by decide +kernel
theorem dL_step_22 : decode cL_step 22 = .ok (.iconst 0, 1) := by decide +kernel
theorem dL_step_23 : decode cL_step 23 = .ok (.istore 4, 2) := by decide +kernel
theorem dL_step_25 : decode cL_step 25 = .ok (.aload_n 0, 1) := by decide +kernel
theorem dL_step_26 : decode cL_step 26 = .ok (.iload_n 1, 1) := by decide +kernel
theorem dL_step_27 : decode cL_step 27 = .ok (.iconst 2, 1) := by decide +kernel
theorem dL_step_28 : decode cL_step 28 = .ok (.iadd, 1) := by decide +kernel
theorem dL_step_29 : decode cL_step 29 = .ok (.iconst 3, 1) := by decide +kernel
theorem dL_step_30 : decode cL_step 30 = .ok (.invokestatic 137, 3) := by decide +kernel
theorem dL_step_33 : decode cL_step 33 = .ok (.istore 5, 2) := by decide +kernel
theorem dL_step_35 : decode cL_step 35 = .ok (.aload_n 0, 1) := by decide +kernel
theorem dL_step_36 : decode cL_step 36 = .ok (.iload_n 1, 1) := by decide +kernel
theorem dL_step_37 : decode cL_step 37 = .ok (.bipush 14, 2) := by decide +kernel
theorem dL_step_39 : decode cL_step 39 = .ok (.invokestatic 137, 3) := by decide +kernel
theorem dL_step_42 : decode cL_step 42 = .ok (.tableswitch 348 0 10 #[58, 58, 80, 80, 80, 119, 172, 206, 245, 253, 325], 58) := by decide +kernel
theorem dL_step_100 : decode cL_step 100 = .ok (.aload_n 2, 1) := by decide +kernel
theorem dL_step_101 : decode cL_step 101 = .ok (.iload_n 3, 1) := by decide +kernel
theorem dL_step_102 : decode cL_step 102 = .ok (.aload_n 0, 1) := by decide +kernel
theorem dL_step_103 : decode cL_step 103 = .ok (.iload_n 1, 1) := by decide +kernel
theorem dL_step_104 : decode cL_step 104 = .ok (.iconst 2, 1) := by decide +kernel
theorem dL_step_105 : decode cL_step 105 = .ok (.iadd, 1) := by decide +kernel
theorem dL_step_106 : decode cL_step 106 = .ok (.iconst 2, 1) := by decide +kernel
theorem dL_step_107 : decode cL_step 107 = .ok (.invokestatic 137, 3) := by decide +kernel
theorem dL_step_110 : decode cL_step 110 = .ok (.ifCond .ne 7, 3) := by decide +kernel
theorem dL_step_113 : decode cL_step 113 = .ok (.iconst 1, 1) := by decide +kernel
theorem dL_step_114 : decode cL_step 114 = .ok (.goto 4, 3) := by decide +kernel
theorem dL_step_117 : decode cL_step 117 = .ok (.iconst 0, 1) := by decide +kernel
theorem dL_step_118 : decode cL_step 118 = .ok (.invokestatic 144, 3) := by decide +kernel
theorem dL_step_121 : decode cL_step 121 = .ok (.ireturn, 1) := by decide +kernel
theorem dL_step_122 : decode cL_step 122 = .ok (.aload_n 2, 1) := by decide +kernel
theorem dL_step_123 : decode cL_step 123 = .ok (.getstatic 148, 3) := by decide +kernel
theorem dL_step_126 : decode cL_step 126 = .ok (.aload_n 0, 1) := by decide +kernel
theorem dL_step_127 : decode cL_step 127 = .ok (.iload_n 1, 1) := by decide +kernel
theorem dL_step_128 : decode cL_step 128 = .ok (.iconst 3, 1) := by decide +kernel
theorem dL_step_129 : decode cL_step 129 = .ok (.iadd, 1) := by decide +kernel
theorem dL_step_130 : decode cL_step 130 = .ok (.bipush 16, 2) := by decide +kernel
theorem dL_step_132 : decode cL_step 132 = .ok (.invokestatic 137, 3) := by decide +kernel
theorem dL_step_135 : decode cL_step 135 = .ok (.aaload, 1) := by decide +kernel
theorem dL_step_136 : decode cL_step 136 = .ok (.iload_n 3, 1) := by decide +kernel
theorem dL_step_137 : decode cL_step 137 = .ok (.iload 5, 2) := by decide +kernel
theorem dL_step_139 : decode cL_step 139 = .ok (.aload_n 0, 1) := by decide +kernel
theorem dL_step_140 : decode cL_step 140 = .ok (.iload_n 1, 1) := by decide +kernel
theorem dL_step_141 : decode cL_step 141 = .ok (.iconst 4, 1) := by decide +kernel
theorem dL_step_142 : decode cL_step 142 = .ok (.iadd, 1) := by decide +kernel
theorem dL_step_143 : decode cL_step 143 = .ok (.iconst 3, 1) := by decide +kernel
theorem dL_step_144 : decode cL_step 144 = .ok (.invokestatic 137, 3) := by decide +kernel
theorem dL_step_147 : decode cL_step 147 = .ok (.aload_n 0, 1) := by decide +kernel
theorem dL_step_148 : decode cL_step 148 = .ok (.iload_n 1, 1) := by decide +kernel
theorem dL_step_149 : decode cL_step 149 = .ok (.iconst 5, 1) := by decide +kernel
theorem dL_step_150 : decode cL_step 150 = .ok (.iadd, 1) := by decide +kernel
theorem dL_step_151 : decode cL_step 151 = .ok (.iconst 4, 1) := by decide +kernel
theorem dL_step_152 : decode cL_step 152 = .ok (.invokestatic 137, 3) := by decide +kernel
theorem dL_step_155 : decode cL_step 155 = .ok (.iconst 2, 1) := by decide +kernel
theorem dL_step_156 : decode cL_step 156 = .ok (.imul, 1) := by decide +kernel
theorem dL_step_157 : decode cL_step 157 = .ok (.invokestatic 152, 3) := by decide +kernel
theorem dL_step_160 : decode cL_step 160 = .ok (.ireturn, 1) := by decide +kernel
theorem dL_step_161 : decode cL_step 161 = .ok (.aload_n 2, 1) := by decide +kernel
theorem dL_step_162 : decode cL_step 162 = .ok (.getstatic 148, 3) := by decide +kernel
theorem dL_step_165 : decode cL_step 165 = .ok (.aload_n 0, 1) := by decide +kernel
theorem dL_step_166 : decode cL_step 166 = .ok (.iload_n 1, 1) := by decide +kernel
theorem dL_step_167 : decode cL_step 167 = .ok (.iconst 3, 1) := by decide +kernel
theorem dL_step_168 : decode cL_step 168 = .ok (.iadd, 1) := by decide +kernel
theorem dL_step_169 : decode cL_step 169 = .ok (.bipush 16, 2) := by decide +kernel
theorem dL_step_171 : decode cL_step 171 = .ok (.invokestatic 137, 3) := by decide +kernel
theorem dL_step_174 : decode cL_step 174 = .ok (.aaload, 1) := by decide +kernel
theorem dL_step_175 : decode cL_step 175 = .ok (.invokestatic 66, 3) := by decide +kernel
theorem dL_step_178 : decode cL_step 178 = .ok (.ifCond .eq 34, 3) := by decide +kernel
theorem dL_step_181 : decode cL_step 181 = .ok (.aload_n 2, 1) := by decide +kernel
theorem dL_step_182 : decode cL_step 182 = .ok (.iload_n 3, 1) := by decide +kernel
theorem dL_step_183 : decode cL_step 183 = .ok (.aload_n 0, 1) := by decide +kernel
theorem dL_step_184 : decode cL_step 184 = .ok (.iload_n 1, 1) := by decide +kernel
theorem dL_step_185 : decode cL_step 185 = .ok (.iconst 4, 1) := by decide +kernel
theorem dL_step_186 : decode cL_step 186 = .ok (.iadd, 1) := by decide +kernel
theorem dL_step_187 : decode cL_step 187 = .ok (.iconst 3, 1) := by decide +kernel
theorem dL_step_188 : decode cL_step 188 = .ok (.invokestatic 137, 3) := by decide +kernel
theorem dL_step_191 : decode cL_step 191 = .ok (.invokestatic 156, 3) := by decide +kernel
theorem dL_step_194 : decode cL_step 194 = .ok (.iload 4, 2) := by decide +kernel
theorem dL_step_196 : decode cL_step 196 = .ok (.ifCond .eq 7, 3) := by decide +kernel
theorem dL_step_199 : decode cL_step 199 = .ok (.iconst 0, 1) := by decide +kernel
theorem dL_step_200 : decode cL_step 200 = .ok (.goto 5, 3) := by decide +kernel
theorem dL_step_203 : decode cL_step 203 = .ok (.bipush (-3), 2) := by decide +kernel
theorem dL_step_205 : decode cL_step 205 = .ok (.if_icmp .lt 7, 3) := by decide +kernel
theorem dL_step_208 : decode cL_step 208 = .ok (.iconst 1, 1) := by decide +kernel
theorem dL_step_209 : decode cL_step 209 = .ok (.goto 4, 3) := by decide +kernel
theorem dL_step_212 : decode cL_step 212 = .ok (.iconst 0, 1) := by decide +kernel
theorem dL_step_213 : decode cL_step 213 = .ok (.ireturn, 1) := by decide +kernel
theorem dL_step_214 : decode cL_step 214 = .ok (.aload_n 2, 1) := by decide +kernel
theorem dL_step_215 : decode cL_step 215 = .ok (.iload_n 3, 1) := by decide +kernel
theorem dL_step_216 : decode cL_step 216 = .ok (.invokestatic 159, 3) := by decide +kernel
theorem dL_step_219 : decode cL_step 219 = .ok (.bipush (-2), 2) := by decide +kernel
theorem dL_step_221 : decode cL_step 221 = .ok (.if_icmp .ne 7, 3) := by decide +kernel
theorem dL_step_224 : decode cL_step 224 = .ok (.iconst 1, 1) := by decide +kernel
theorem dL_step_225 : decode cL_step 225 = .ok (.goto 4, 3) := by decide +kernel
theorem dL_step_228 : decode cL_step 228 = .ok (.iconst 0, 1) := by decide +kernel
theorem dL_step_229 : decode cL_step 229 = .ok (.iload 4, 2) := by decide +kernel
theorem dL_step_231 : decode cL_step 231 = .ok (.ifCond .ne 7, 3) := by decide +kernel
theorem dL_step_234 : decode cL_step 234 = .ok (.iconst 1, 1) := by decide +kernel
theorem dL_step_235 : decode cL_step 235 = .ok (.goto 4, 3) := by decide +kernel
theorem dL_step_238 : decode cL_step 238 = .ok (.iconst 0, 1) := by decide +kernel
theorem dL_step_239 : decode cL_step 239 = .ok (.if_icmp .ne 7, 3) := by decide +kernel
theorem dL_step_242 : decode cL_step 242 = .ok (.iconst 1, 1) := by decide +kernel
theorem dL_step_243 : decode cL_step 243 = .ok (.goto 4, 3) := by decide +kernel
theorem dL_step_246 : decode cL_step 246 = .ok (.iconst 0, 1) := by decide +kernel
theorem dL_step_247 : decode cL_step 247 = .ok (.ireturn, 1) := by decide +kernel
theorem dL_step_248 : decode cL_step 248 = .ok (.aload_n 2, 1) := by decide +kernel
theorem dL_step_249 : decode cL_step 249 = .ok (.aload_n 0, 1) := by decide +kernel
theorem dL_step_250 : decode cL_step 250 = .ok (.iload_n 1, 1) := by decide +kernel
theorem dL_step_251 : decode cL_step 251 = .ok (.iconst 2, 1) := by decide +kernel
theorem dL_step_252 : decode cL_step 252 = .ok (.iadd, 1) := by decide +kernel
theorem dL_step_253 : decode cL_step 253 = .ok (.iconst 4, 1) := by decide +kernel
theorem dL_step_254 : decode cL_step 254 = .ok (.invokestatic 137, 3) := by decide +kernel
theorem dL_step_257 : decode cL_step 257 = .ok (.aload_n 0, 1) := by decide +kernel
theorem dL_step_258 : decode cL_step 258 = .ok (.iload_n 1, 1) := by decide +kernel
theorem dL_step_259 : decode cL_step 259 = .ok (.iconst 3, 1) := by decide +kernel
theorem dL_step_260 : decode cL_step 260 = .ok (.iadd, 1) := by decide +kernel
theorem dL_step_261 : decode cL_step 261 = .ok (.iconst 2, 1) := by decide +kernel
theorem dL_step_262 : decode cL_step 262 = .ok (.invokestatic 137, 3) := by decide +kernel
theorem dL_step_265 : decode cL_step 265 = .ok (.aload_n 0, 1) := by decide +kernel
theorem dL_step_266 : decode cL_step 266 = .ok (.iload_n 1, 1) := by decide +kernel
theorem dL_step_267 : decode cL_step 267 = .ok (.iconst 4, 1) := by decide +kernel
theorem dL_step_268 : decode cL_step 268 = .ok (.iadd, 1) := by decide +kernel
theorem dL_step_269 : decode cL_step 269 = .ok (.iconst 3, 1) := by decide +kernel
theorem dL_step_270 : decode cL_step 270 = .ok (.invokestatic 137, 3) := by decide +kernel
theorem dL_step_273 : decode cL_step 273 = .ok (.iadd, 1) := by decide +kernel
theorem dL_step_274 : decode cL_step 274 = .ok (.invokestatic 162, 3) := by decide +kernel
theorem dL_step_277 : decode cL_step 277 = .ok (.iconst (-1), 1) := by decide +kernel
theorem dL_step_278 : decode cL_step 278 = .ok (.if_icmp .eq 7, 3) := by decide +kernel
theorem dL_step_281 : decode cL_step 281 = .ok (.iconst 1, 1) := by decide +kernel
theorem dL_step_282 : decode cL_step 282 = .ok (.goto 4, 3) := by decide +kernel
theorem dL_step_285 : decode cL_step 285 = .ok (.iconst 0, 1) := by decide +kernel
theorem dL_step_286 : decode cL_step 286 = .ok (.ireturn, 1) := by decide +kernel
theorem dL_step_287 : decode cL_step 287 = .ok (.aload_n 2, 1) := by decide +kernel
theorem dL_step_288 : decode cL_step 288 = .ok (.iload_n 3, 1) := by decide +kernel
theorem dL_step_289 : decode cL_step 289 = .ok (.iload 4, 2) := by decide +kernel
theorem dL_step_291 : decode cL_step 291 = .ok (.invokestatic 164, 3) := by decide +kernel
theorem dL_step_294 : decode cL_step 294 = .ok (.ireturn, 1) := by decide +kernel
theorem dL_step_295 : decode cL_step 295 = .ok (.aload_n 2, 1) := by decide +kernel
theorem dL_step_296 : decode cL_step 296 = .ok (.getstatic 167, 3) := by decide +kernel
theorem dL_step_299 : decode cL_step 299 = .ok (.aload_n 0, 1) := by decide +kernel
theorem dL_step_300 : decode cL_step 300 = .ok (.iload_n 1, 1) := by decide +kernel
theorem dL_step_301 : decode cL_step 301 = .ok (.iconst 3, 1) := by decide +kernel
theorem dL_step_302 : decode cL_step 302 = .ok (.iadd, 1) := by decide +kernel
theorem dL_step_303 : decode cL_step 303 = .ok (.bipush 16, 2) := by decide +kernel
theorem dL_step_305 : decode cL_step 305 = .ok (.invokestatic 137, 3) := by decide +kernel
theorem dL_step_308 : decode cL_step 308 = .ok (.aaload, 1) := by decide +kernel
theorem dL_step_309 : decode cL_step 309 = .ok (.invokestatic 66, 3) := by decide +kernel
theorem dL_step_312 : decode cL_step 312 = .ok (.ifCond .eq 53, 3) := by decide +kernel
theorem dL_step_315 : decode cL_step 315 = .ok (.aload_n 2, 1) := by decide +kernel
theorem dL_step_316 : decode cL_step 316 = .ok (.iload_n 3, 1) := by decide +kernel
theorem dL_step_317 : decode cL_step 317 = .ok (.iload 5, 2) := by decide +kernel
theorem dL_step_319 : decode cL_step 319 = .ok (.aload_n 0, 1) := by decide +kernel
theorem dL_step_320 : decode cL_step 320 = .ok (.iload_n 1, 1) := by decide +kernel
theorem dL_step_321 : decode cL_step 321 = .ok (.iconst 4, 1) := by decide +kernel
theorem dL_step_322 : decode cL_step 322 = .ok (.iadd, 1) := by decide +kernel
theorem dL_step_323 : decode cL_step 323 = .ok (.iconst 2, 1) := by decide +kernel
theorem dL_step_324 : decode cL_step 324 = .ok (.invokestatic 137, 3) := by decide +kernel
theorem dL_step_327 : decode cL_step 327 = .ok (.ifCond .ne 7, 3) := by decide +kernel
theorem dL_step_330 : decode cL_step 330 = .ok (.iconst 1, 1) := by decide +kernel
theorem dL_step_331 : decode cL_step 331 = .ok (.goto 4, 3) := by decide +kernel
theorem dL_step_334 : decode cL_step 334 = .ok (.iconst 0, 1) := by decide +kernel
theorem dL_step_335 : decode cL_step 335 = .ok (.aload_n 0, 1) := by decide +kernel
theorem dL_step_336 : decode cL_step 336 = .ok (.iload_n 1, 1) := by decide +kernel
theorem dL_step_337 : decode cL_step 337 = .ok (.iconst 5, 1) := by decide +kernel
theorem dL_step_338 : decode cL_step 338 = .ok (.iadd, 1) := by decide +kernel
theorem dL_step_339 : decode cL_step 339 = .ok (.bipush 20, 2) := by decide +kernel
theorem dL_step_341 : decode cL_step 341 = .ok (.invokestatic 137, 3) := by decide +kernel
theorem dL_step_344 : decode cL_step 344 = .ok (.invokestatic 170, 3) := by decide +kernel
theorem dL_step_347 : decode cL_step 347 = .ok (.iload 4, 2) := by decide +kernel
theorem dL_step_349 : decode cL_step 349 = .ok (.ifCond .eq 7, 3) := by decide +kernel
theorem dL_step_352 : decode cL_step 352 = .ok (.iconst 0, 1) := by decide +kernel
theorem dL_step_353 : decode cL_step 353 = .ok (.goto 5, 3) := by decide +kernel
theorem dL_step_356 : decode cL_step 356 = .ok (.bipush (-3), 2) := by decide +kernel
theorem dL_step_358 : decode cL_step 358 = .ok (.if_icmp .lt 7, 3) := by decide +kernel
theorem dL_step_361 : decode cL_step 361 = .ok (.iconst 1, 1) := by decide +kernel
theorem dL_step_362 : decode cL_step 362 = .ok (.goto 4, 3) := by decide +kernel
theorem dL_step_365 : decode cL_step 365 = .ok (.iconst 0, 1) := by decide +kernel
theorem dL_step_366 : decode cL_step 366 = .ok (.ireturn, 1) := by decide +kernel
theorem dL_step_367 : decode cL_step 367 = .ok (.aload_n 2, 1) := by decide +kernel
theorem dL_step_368 : decode cL_step 368 = .ok (.iconst 1, 1) := by decide +kernel
theorem dL_step_369 : decode cL_step 369 = .ok (.aload_n 0, 1) := by decide +kernel
theorem dL_step_370 : decode cL_step 370 = .ok (.iload_n 1, 1) := by decide +kernel
theorem dL_step_371 : decode cL_step 371 = .ok (.iconst 2, 1) := by decide +kernel
theorem dL_step_372 : decode cL_step 372 = .ok (.iadd, 1) := by decide +kernel
theorem dL_step_373 : decode cL_step 373 = .ok (.iconst 5, 1) := by decide +kernel
theorem dL_step_374 : decode cL_step 374 = .ok (.invokestatic 137, 3) := by decide +kernel
theorem dL_step_377 : decode cL_step 377 = .ok (.iadd, 1) := by decide +kernel
theorem dL_step_378 : decode cL_step 378 = .ok (.invokevirtual 173, 3) := by decide +kernel
theorem dL_step_381 : decode cL_step 381 = .ok (.ifCond .le 7, 3) := by decide +kernel
theorem dL_step_384 : decode cL_step 384 = .ok (.iconst 1, 1) := by decide +kernel
theorem dL_step_385 : decode cL_step 385 = .ok (.goto 4, 3) := by decide +kernel
theorem dL_step_388 : decode cL_step 388 = .ok (.iconst 0, 1) := by decide +kernel
theorem dL_step_389 : decode cL_step 389 = .ok (.ireturn, 1) := by decide +kernel
theorem dL_step_390 : decode cL_step 390 = .ok (.aload_n 0, 1) := by decide +kernel
theorem dL_step_391 : decode cL_step 391 = .ok (.iload_n 1, 1) := by decide +kernel
theorem dL_step_392 : decode cL_step 392 = .ok (.aload_n 2, 1) := by decide +kernel
theorem dL_step_393 : decode cL_step 393 = .ok (.iload_n 3, 1) := by decide +kernel
theorem dL_step_394 : decode cL_step 394 = .ok (.iload 5, 2) := by decide +kernel
theorem dL_step_396 : decode cL_step 396 = .ok (.invokestatic 176, 3) := by decide +kernel
theorem dL_step_399 : decode cL_step 399 = .ok (.ireturn, 1) := by decide +kernel
theorem dL_connects_0 : decode cL_connects 0 = .ok (.aload_n 0, 1) := by decide +kernel
theorem dL_connects_1 : decode cL_connects 1 = .ok (.iload_n 1, 1) := by decide +kernel
theorem dL_connects_2 : decode cL_connects 2 = .ok (.invokevirtual 141, 3) := by decide +kernel
theorem dL_connects_5 : decode cL_connects 5 = .ok (.istore_n 3, 1) := by decide +kernel
theorem dL_connects_6 : decode cL_connects 6 = .ok (.aload_n 0, 1) := by decide +kernel
theorem dL_connects_7 : decode cL_connects 7 = .ok (.iconst 5, 1) := by decide +kernel
theorem dL_connects_8 : decode cL_connects 8 = .ok (.invokevirtual 180, 3) := by decide +kernel
theorem dL_connects_11 : decode cL_connects 11 = .ok (.istore 4, 2) := by decide +kernel
theorem dL_connects_13 : decode cL_connects 13 = .ok (.aload_n 0, 1) := by decide +kernel
theorem dL_connects_14 : decode cL_connects 14 = .ok (.iload_n 1, 1) := by decide +kernel
theorem dL_connects_15 : decode cL_connects 15 = .ok (.iload_n 2, 1) := by decide +kernel
theorem dL_connects_16 : decode cL_connects 16 = .ok (.invokevirtual 183, 3) := by decide +kernel
theorem dL_connects_19 : decode cL_connects 19 = .ok (.istore 5, 2) := by decide +kernel
theorem dL_connects_21 : decode cL_connects 21 = .ok (.iload 5, 2) := by decide +kernel
theorem dL_connects_23 : decode cL_connects 23 = .ok (.iload_n 2, 1) := by decide +kernel
theorem dL_connects_24 : decode cL_connects 24 = .ok (.ifCond .ne 17, 3) := by decide +kernel
theorem dL_connects_27 : decode cL_connects 27 = .ok (.iload_n 3, 1) := by decide +kernel
theorem dL_connects_28 : decode cL_connects 28 = .ok (.iconst 1, 1) := by decide +kernel
theorem dL_connects_29 : decode cL_connects 29 = .ok (.if_icmp .eq 8, 3) := by decide +kernel
theorem dL_connects_32 : decode cL_connects 32 = .ok (.iload_n 3, 1) := by decide +kernel
theorem dL_connects_33 : decode cL_connects 33 = .ok (.iconst 2, 1) := by decide +kernel
theorem dL_connects_34 : decode cL_connects 34 = .ok (.if_icmp .ne 7, 3) := by decide +kernel
theorem dL_connects_37 : decode cL_connects 37 = .ok (.iconst 1, 1) := by decide +kernel
theorem dL_connects_38 : decode cL_connects 38 = .ok (.goto 4, 3) := by decide +kernel
theorem dL_connects_41 : decode cL_connects 41 = .ok (.iconst 0, 1) := by decide +kernel
theorem dL_connects_42 : decode cL_connects 42 = .ok (.if_icmp .ne 7, 3) := by decide +kernel
theorem dL_connects_45 : decode cL_connects 45 = .ok (.iconst 1, 1) := by decide +kernel
theorem dL_connects_46 : decode cL_connects 46 = .ok (.goto 4, 3) := by decide +kernel
theorem dL_connects_49 : decode cL_connects 49 = .ok (.iconst 0, 1) := by decide +kernel
theorem dL_connects_50 : decode cL_connects 50 = .ok (.istore 6, 2) := by decide +kernel
theorem dL_connects_52 : decode cL_connects 52 = .ok (.iload 6, 2) := by decide +kernel
theorem dL_connects_54 : decode cL_connects 54 = .ok (.ifCond .eq 66, 3) := by decide +kernel
theorem dL_connects_57 : decode cL_connects 57 = .ok (.aload_n 0, 1) := by decide +kernel
theorem dL_connects_58 : decode cL_connects 58 = .ok (.iload_n 1, 1) := by decide +kernel
theorem dL_connects_59 : decode cL_connects 59 = .ok (.invokevirtual 141, 3) := by decide +kernel
theorem dL_connects_62 : decode cL_connects 62 = .ok (.iload_n 2, 1) := by decide +kernel
theorem dL_connects_63 : decode cL_connects 63 = .ok (.ifCond .eq 7, 3) := by decide +kernel
theorem dL_connects_66 : decode cL_connects 66 = .ok (.iconst 3, 1) := by decide +kernel
theorem dL_connects_67 : decode cL_connects 67 = .ok (.goto 4, 3) := by decide +kernel
theorem dL_connects_70 : decode cL_connects 70 = .ok (.iconst 2, 1) := by decide +kernel
theorem dL_connects_71 : decode cL_connects 71 = .ok (.if_icmp .ne 49, 3) := by decide +kernel
theorem dL_connects_74 : decode cL_connects 74 = .ok (.aload_n 0, 1) := by decide +kernel
theorem dL_connects_75 : decode cL_connects 75 = .ok (.iconst 5, 1) := by decide +kernel
theorem dL_connects_76 : decode cL_connects 76 = .ok (.invokevirtual 180, 3) := by decide +kernel
theorem dL_connects_79 : decode cL_connects 79 = .ok (.iload 4, 2) := by decide +kernel
theorem dL_connects_81 : decode cL_connects 81 = .ok (.iload_n 3, 1) := by decide +kernel
theorem dL_connects_82 : decode cL_connects 82 = .ok (.iconst 1, 1) := by decide +kernel
theorem dL_connects_83 : decode cL_connects 83 = .ok (.if_icmp .le 7, 3) := by decide +kernel
theorem dL_connects_86 : decode cL_connects 86 = .ok (.iconst 1, 1) := by decide +kernel
theorem dL_connects_87 : decode cL_connects 87 = .ok (.goto 4, 3) := by decide +kernel
theorem dL_connects_90 : decode cL_connects 90 = .ok (.iconst 0, 1) := by decide +kernel
theorem dL_connects_91 : decode cL_connects 91 = .ok (.iadd, 1) := by decide +kernel
theorem dL_connects_92 : decode cL_connects 92 = .ok (.if_icmp .ne 28, 3) := by decide +kernel
theorem dL_connects_95 : decode cL_connects 95 = .ok (.aload_n 0, 1) := by decide +kernel
theorem dL_connects_96 : decode cL_connects 96 = .ok (.iload_n 1, 1) := by decide +kernel
theorem dL_connects_97 : decode cL_connects 97 = .ok (.iconst 4, 1) := by decide +kernel
theorem dL_connects_98 : decode cL_connects 98 = .ok (.invokevirtual 187, 3) := by decide +kernel
theorem dL_connects_101 : decode cL_connects 101 = .ok (.iload 5, 2) := by decide +kernel
theorem dL_connects_103 : decode cL_connects 103 = .ok (.iconst 1, 1) := by decide +kernel
theorem dL_connects_104 : decode cL_connects 104 = .ok (.if_icmp .ne 8, 3) := by decide +kernel
theorem dL_connects_107 : decode cL_connects 107 = .ok (.bipush 6, 2) := by decide +kernel
theorem dL_connects_109 : decode cL_connects 109 = .ok (.goto 4, 3) := by decide +kernel
theorem dL_connects_112 : decode cL_connects 112 = .ok (.iconst 0, 1) := by decide +kernel
theorem dL_connects_113 : decode cL_connects 113 = .ok (.if_icmp .gt 7, 3) := by decide +kernel
theorem dL_connects_116 : decode cL_connects 116 = .ok (.iconst 1, 1) := by decide +kernel
theorem dL_connects_117 : decode cL_connects 117 = .ok (.goto 4, 3) := by decide +kernel
theorem dL_connects_120 : decode cL_connects 120 = .ok (.iconst 0, 1) := by decide +kernel
theorem dL_connects_121 : decode cL_connects 121 = .ok (.ireturn, 1) := by decide +kernel
theorem dL_subscribes_0 : decode cL_subscribes 0 = .ok (.aload_n 0, 1) := by decide +kernel
theorem dL_subscribes_1 : decode cL_subscribes 1 = .ok (.iload_n 2, 1) := by decide +kernel
theorem dL_subscribes_2 : decode cL_subscribes 2 = .ok (.iconst 4, 1) := by decide +kernel
theorem dL_subscribes_3 : decode cL_subscribes 3 = .ok (.invokevirtual 187, 3) := by decide +kernel
theorem dL_subscribes_6 : decode cL_subscribes 6 = .ok (.istore 6, 2) := by decide +kernel
theorem dL_subscribes_8 : decode cL_subscribes 8 = .ok (.aload_n 0, 1) := by decide +kernel
theorem dL_subscribes_9 : decode cL_subscribes 9 = .ok (.iload_n 2, 1) := by decide +kernel
theorem dL_subscribes_10 : decode cL_subscribes 10 = .ok (.invokevirtual 141, 3) := by decide +kernel
theorem dL_subscribes_13 : decode cL_subscribes 13 = .ok (.iconst 1, 1) := by decide +kernel
theorem dL_subscribes_14 : decode cL_subscribes 14 = .ok (.if_icmp .le 7, 3) := by decide +kernel
theorem dL_subscribes_17 : decode cL_subscribes 17 = .ok (.iconst 1, 1) := by decide +kernel
theorem dL_subscribes_18 : decode cL_subscribes 18 = .ok (.goto 4, 3) := by decide +kernel
theorem dL_subscribes_21 : decode cL_subscribes 21 = .ok (.iconst 0, 1) := by decide +kernel
theorem dL_subscribes_22 : decode cL_subscribes 22 = .ok (.istore 7, 2) := by decide +kernel
theorem dL_subscribes_24 : decode cL_subscribes 24 = .ok (.aload_n 0, 1) := by decide +kernel
theorem dL_subscribes_25 : decode cL_subscribes 25 = .ok (.aload_n 1, 1) := by decide +kernel
theorem dL_subscribes_26 : decode cL_subscribes 26 = .ok (.invokestatic 66, 3) := by decide +kernel
theorem dL_subscribes_29 : decode cL_subscribes 29 = .ok (.ifCond .eq 16, 3) := by decide +kernel
theorem dL_subscribes_32 : decode cL_subscribes 32 = .ok (.aload_n 0, 1) := by decide +kernel
theorem dL_subscribes_33 : decode cL_subscribes 33 = .ok (.iload_n 2, 1) := by decide +kernel
theorem dL_subscribes_34 : decode cL_subscribes 34 = .ok (.iload_n 3, 1) := by decide +kernel
theorem dL_subscribes_35 : decode cL_subscribes 35 = .ok (.iload 4, 2) := by decide +kernel
theorem dL_subscribes_37 : decode cL_subscribes 37 = .ok (.iload 5, 2) := by decide +kernel
theorem dL_subscribes_39 : decode cL_subscribes 39 = .ok (.invokestatic 70, 3) := by decide +kernel
theorem dL_subscribes_42 : decode cL_subscribes 42 = .ok (.goto 5, 3) := by decide +kernel
theorem dL_subscribes_45 : decode cL_subscribes 45 = .ok (.bipush (-7), 2) := by decide +kernel
theorem dL_subscribes_47 : decode cL_subscribes 47 = .ok (.istore 8, 2) := by decide +kernel
theorem dL_subscribes_49 : decode cL_subscribes 49 = .ok (.aload_n 0, 1) := by decide +kernel
theorem dL_subscribes_50 : decode cL_subscribes 50 = .ok (.iload_n 2, 1) := by decide +kernel
theorem dL_subscribes_51 : decode cL_subscribes 51 = .ok (.iconst 4, 1) := by decide +kernel
theorem dL_subscribes_52 : decode cL_subscribes 52 = .ok (.invokevirtual 187, 3) := by decide +kernel
theorem dL_subscribes_55 : decode cL_subscribes 55 = .ok (.iload 8, 2) := by decide +kernel
theorem dL_subscribes_57 : decode cL_subscribes 57 = .ok (.ifCond .ge 8, 3) := by decide +kernel
theorem dL_subscribes_60 : decode cL_subscribes 60 = .ok (.iload 6, 2) := by decide +kernel
theorem dL_subscribes_62 : decode cL_subscribes 62 = .ok (.goto 5, 3) := by decide +kernel
theorem dL_subscribes_65 : decode cL_subscribes 65 = .ok (.iload 8, 2) := by decide +kernel
theorem dL_subscribes_67 : decode cL_subscribes 67 = .ok (.if_icmp .ne 7, 3) := by decide +kernel
theorem dL_subscribes_70 : decode cL_subscribes 70 = .ok (.iconst 1, 1) := by decide +kernel
theorem dL_subscribes_71 : decode cL_subscribes 71 = .ok (.goto 4, 3) := by decide +kernel
theorem dL_subscribes_74 : decode cL_subscribes 74 = .ok (.iconst 0, 1) := by decide +kernel
theorem dL_subscribes_75 : decode cL_subscribes 75 = .ok (.istore 9, 2) := by decide +kernel
theorem dL_subscribes_77 : decode cL_subscribes 77 = .ok (.iload 9, 2) := by decide +kernel
theorem dL_subscribes_79 : decode cL_subscribes 79 = .ok (.ifCond .eq 52, 3) := by decide +kernel
theorem dL_subscribes_82 : decode cL_subscribes 82 = .ok (.iload 7, 2) := by decide +kernel
theorem dL_subscribes_84 : decode cL_subscribes 84 = .ok (.ifCond .eq 36, 3) := by decide +kernel
theorem dL_subscribes_87 : decode cL_subscribes 87 = .ok (.iload 8, 2) := by decide +kernel
theorem dL_subscribes_89 : decode cL_subscribes 89 = .ok (.iload 6, 2) := by decide +kernel
theorem dL_subscribes_91 : decode cL_subscribes 91 = .ok (.if_icmp .eq 36, 3) := by decide +kernel
theorem dL_subscribes_94 : decode cL_subscribes 94 = .ok (.iload 8, 2) := by decide +kernel
theorem dL_subscribes_96 : decode cL_subscribes 96 = .ok (.iload 6, 2) := by decide +kernel
theorem dL_subscribes_98 : decode cL_subscribes 98 = .ok (.iconst 1, 1) := by decide +kernel
theorem dL_subscribes_99 : decode cL_subscribes 99 = .ok (.iadd, 1) := by decide +kernel
theorem dL_subscribes_100 : decode cL_subscribes 100 = .ok (.if_icmp .eq 27, 3) := by decide +kernel
theorem dL_subscribes_103 : decode cL_subscribes 103 = .ok (.iload 8, 2) := by decide +kernel
theorem dL_subscribes_105 : decode cL_subscribes 105 = .ok (.bipush (-3), 2) := by decide +kernel
theorem dL_subscribes_107 : decode cL_subscribes 107 = .ok (.if_icmp .ne 24, 3) := by decide +kernel
theorem dL_subscribes_110 : decode cL_subscribes 110 = .ok (.iload 6, 2) := by decide +kernel
theorem dL_subscribes_112 : decode cL_subscribes 112 = .ok (.bipush 6, 2) := by decide +kernel
theorem dL_subscribes_114 : decode cL_subscribes 114 = .ok (.if_icmp .ne 17, 3) := by decide +kernel
theorem dL_subscribes_117 : decode cL_subscribes 117 = .ok (.goto 10, 3) := by decide +kernel
theorem dL_subscribes_120 : decode cL_subscribes 120 = .ok (.iload 8, 2) := by decide +kernel
theorem dL_subscribes_122 : decode cL_subscribes 122 = .ok (.bipush (-3), 2) := by decide +kernel
theorem dL_subscribes_124 : decode cL_subscribes 124 = .ok (.if_icmp .ne 7, 3) := by decide +kernel
theorem dL_subscribes_127 : decode cL_subscribes 127 = .ok (.iconst 1, 1) := by decide +kernel
theorem dL_subscribes_128 : decode cL_subscribes 128 = .ok (.goto 4, 3) := by decide +kernel
theorem dL_subscribes_131 : decode cL_subscribes 131 = .ok (.iconst 0, 1) := by decide +kernel
theorem dL_subscribes_132 : decode cL_subscribes 132 = .ok (.ireturn, 1) := by decide +kernel
theorem dL_answers_0 : decode cL_answers 0 = .ok (.iload_n 2, 1) := by decide +kernel
theorem dL_answers_1 : decode cL_answers 1 = .ok (.ifCond .eq 12, 3) := by decide +kernel
theorem dL_answers_4 : decode cL_answers 4 = .ok (.aload_n 0, 1) := by decide +kernel
theorem dL_answers_5 : decode cL_answers 5 = .ok (.iload_n 1, 1) := by decide +kernel
theorem dL_answers_6 : decode cL_answers 6 = .ok (.iconst 1, 1) := by decide +kernel
theorem dL_answers_7 : decode cL_answers 7 = .ok (.invokevirtual 187, 3) := by decide +kernel
theorem dL_answers_10 : decode cL_answers 10 = .ok (.ifCond .ne 29, 3) := by decide +kernel
theorem dL_answers_13 : decode cL_answers 13 = .ok (.aload_n 0, 1) := by decide +kernel
theorem dL_answers_14 : decode cL_answers 14 = .ok (.iload_n 1, 1) := by decide +kernel
theorem dL_answers_15 : decode cL_answers 15 = .ok (.iconst 1, 1) := by decide +kernel
theorem dL_answers_16 : decode cL_answers 16 = .ok (.iconst 1, 1) := by decide +kernel
theorem dL_answers_17 : decode cL_answers 17 = .ok (.invokestatic 189, 3) := by decide +kernel
theorem dL_answers_20 : decode cL_answers 20 = .ok (.iload_n 2, 1) := by decide +kernel
theorem dL_answers_21 : decode cL_answers 21 = .ok (.ifCond .eq 7, 3) := by decide +kernel
theorem dL_answers_24 : decode cL_answers 24 = .ok (.iconst 0, 1) := by decide +kernel
theorem dL_answers_25 : decode cL_answers 25 = .ok (.goto 5, 3) := by decide +kernel
theorem dL_answers_28 : decode cL_answers 28 = .ok (.bipush (-3), 2) := by decide +kernel
theorem dL_answers_30 : decode cL_answers 30 = .ok (.if_icmp .ne 7, 3) := by decide +kernel
theorem dL_answers_33 : decode cL_answers 33 = .ok (.iconst 1, 1) := by decide +kernel
theorem dL_answers_34 : decode cL_answers 34 = .ok (.goto 4, 3) := by decide +kernel
theorem dL_answers_37 : decode cL_answers 37 = .ok (.iconst 0, 1) := by decide +kernel
theorem dL_answers_38 : decode cL_answers 38 = .ok (.ireturn, 1) := by decide +kernel
theorem dL_answers_39 : decode cL_answers 39 = .ok (.aload_n 0, 1) := by decide +kernel
theorem dL_answers_40 : decode cL_answers 40 = .ok (.iload_n 1, 1) := by decide +kernel
theorem dL_answers_41 : decode cL_answers 41 = .ok (.iconst 0, 1) := by decide +kernel
theorem dL_answers_42 : decode cL_answers 42 = .ok (.iconst 0, 1) := by decide +kernel
theorem dL_answers_43 : decode cL_answers 43 = .ok (.invokevirtual 192, 3) := by decide +kernel
theorem dL_answers_46 : decode cL_answers 46 = .ok (.istore_n 3, 1) := by decide +kernel
theorem dL_answers_47 : decode cL_answers 47 = .ok (.aload_n 0, 1) := by decide +kernel
theorem dL_answers_48 : decode cL_answers 48 = .ok (.iload_n 1, 1) := by decide +kernel
theorem dL_answers_49 : decode cL_answers 49 = .ok (.iconst 1, 1) := by decide +kernel
theorem dL_answers_50 : decode cL_answers 50 = .ok (.invokevirtual 187, 3) := by decide +kernel
theorem dL_answers_53 : decode cL_answers 53 = .ok (.aload_n 0, 1) := by decide +kernel
theorem dL_answers_54 : decode cL_answers 54 = .ok (.iload_n 1, 1) := by decide +kernel
theorem dL_answers_55 : decode cL_answers 55 = .ok (.iconst 2, 1) := by decide +kernel
theorem dL_answers_56 : decode cL_answers 56 = .ok (.invokevirtual 187, 3) := by decide +kernel
theorem dL_answers_59 : decode cL_answers 59 = .ok (.iadd, 1) := by decide +kernel
theorem dL_answers_60 : decode cL_answers 60 = .ok (.istore 4, 2) := by decide +kernel
theorem dL_answers_62 : decode cL_answers 62 = .ok (.aload_n 0, 1) := by decide +kernel
theorem dL_answers_63 : decode cL_answers 63 = .ok (.iload_n 1, 1) := by decide +kernel
theorem dL_answers_64 : decode cL_answers 64 = .ok (.iconst 0, 1) := by decide +kernel
theorem dL_answers_65 : decode cL_answers 65 = .ok (.iconst 3, 1) := by decide +kernel
theorem dL_answers_66 : decode cL_answers 66 = .ok (.invokevirtual 192, 3) := by decide +kernel
theorem dL_answers_69 : decode cL_answers 69 = .ok (.istore 5, 2) := by decide +kernel
theorem dL_answers_71 : decode cL_answers 71 = .ok (.aload_n 0, 1) := by decide +kernel
theorem dL_answers_72 : decode cL_answers 72 = .ok (.bipush 9, 2) := by decide +kernel
theorem dL_answers_74 : decode cL_answers 74 = .ok (.invokevirtual 180, 3) := by decide +kernel
theorem dL_answers_77 : decode cL_answers 77 = .ok (.istore 6, 2) := by decide +kernel
theorem dL_answers_79 : decode cL_answers 79 = .ok (.aload_n 0, 1) := by decide +kernel
theorem dL_answers_80 : decode cL_answers 80 = .ok (.iload_n 1, 1) := by decide +kernel
theorem dL_answers_81 : decode cL_answers 81 = .ok (.iload 5, 2) := by decide +kernel
theorem dL_answers_83 : decode cL_answers 83 = .ok (.iload_n 3, 1) := by decide +kernel
theorem dL_answers_84 : decode cL_answers 84 = .ok (.invokestatic 189, 3) := by decide +kernel
theorem dL_answers_87 : decode cL_answers 87 = .ok (.iconst 1, 1) := by decide +kernel
theorem dL_answers_88 : decode cL_answers 88 = .ok (.if_icmp .ne 30, 3) := by decide +kernel
theorem dL_answers_91 : decode cL_answers 91 = .ok (.aload_n 0, 1) := by decide +kernel
theorem dL_answers_92 : decode cL_answers 92 = .ok (.bipush 9, 2) := by decide +kernel
theorem dL_answers_94 : decode cL_answers 94 = .ok (.invokevirtual 180, 3) := by decide +kernel
theorem dL_answers_97 : decode cL_answers 97 = .ok (.iload 6, 2) := by decide +kernel
theorem dL_answers_99 : decode cL_answers 99 = .ok (.iload 5, 2) := by decide +kernel
theorem dL_answers_101 : decode cL_answers 101 = .ok (.iconst 2, 1) := by decide +kernel
theorem dL_answers_102 : decode cL_answers 102 = .ok (.if_icmp .ne 7, 3) := by decide +kernel
theorem dL_answers_105 : decode cL_answers 105 = .ok (.iconst 0, 1) := by decide +kernel
theorem dL_answers_106 : decode cL_answers 106 = .ok (.goto 4, 3) := by decide +kernel
theorem dL_answers_109 : decode cL_answers 109 = .ok (.iconst 1, 1) := by decide +kernel
theorem dL_answers_110 : decode cL_answers 110 = .ok (.iadd, 1) := by decide +kernel
theorem dL_answers_111 : decode cL_answers 111 = .ok (.if_icmp .ne 7, 3) := by decide +kernel
theorem dL_answers_114 : decode cL_answers 114 = .ok (.iconst 1, 1) := by decide +kernel
theorem dL_answers_115 : decode cL_answers 115 = .ok (.goto 4, 3) := by decide +kernel
theorem dL_answers_118 : decode cL_answers 118 = .ok (.iconst 0, 1) := by decide +kernel
theorem dL_answers_119 : decode cL_answers 119 = .ok (.istore 7, 2) := by decide +kernel
theorem dL_answers_121 : decode cL_answers 121 = .ok (.iload 7, 2) := by decide +kernel
theorem dL_answers_123 : decode cL_answers 123 = .ok (.ifCond .eq 37, 3) := by decide +kernel
theorem dL_answers_126 : decode cL_answers 126 = .ok (.aload_n 0, 1) := by decide +kernel
theorem dL_answers_127 : decode cL_answers 127 = .ok (.iload_n 1, 1) := by decide +kernel
theorem dL_answers_128 : decode cL_answers 128 = .ok (.iconst 1, 1) := by decide +kernel
theorem dL_answers_129 : decode cL_answers 129 = .ok (.invokevirtual 187, 3) := by decide +kernel
theorem dL_answers_132 : decode cL_answers 132 = .ok (.aload_n 0, 1) := by decide +kernel
theorem dL_answers_133 : decode cL_answers 133 = .ok (.iload_n 1, 1) := by decide +kernel
theorem dL_answers_134 : decode cL_answers 134 = .ok (.iconst 2, 1) := by decide +kernel
theorem dL_answers_135 : decode cL_answers 135 = .ok (.invokevirtual 187, 3) := by decide +kernel
theorem dL_answers_138 : decode cL_answers 138 = .ok (.iadd, 1) := by decide +kernel
theorem dL_answers_139 : decode cL_answers 139 = .ok (.iload 4, 2) := by decide +kernel
theorem dL_answers_141 : decode cL_answers 141 = .ok (.iload 5, 2) := by decide +kernel
theorem dL_answers_143 : decode cL_answers 143 = .ok (.iconst 2, 1) := by decide +kernel
theorem dL_answers_144 : decode cL_answers 144 = .ok (.if_icmp .ne 7, 3) := by decide +kernel
theorem dL_answers_147 : decode cL_answers 147 = .ok (.iconst 0, 1) := by decide +kernel
theorem dL_answers_148 : decode cL_answers 148 = .ok (.goto 4, 3) := by decide +kernel
theorem dL_answers_151 : decode cL_answers 151 = .ok (.iconst 1, 1) := by decide +kernel
theorem dL_answers_152 : decode cL_answers 152 = .ok (.isub, 1) := by decide +kernel
theorem dL_answers_153 : decode cL_answers 153 = .ok (.if_icmp .ne 7, 3) := by decide +kernel
theorem dL_answers_156 : decode cL_answers 156 = .ok (.iconst 1, 1) := by decide +kernel
theorem dL_answers_157 : decode cL_answers 157 = .ok (.goto 4, 3) := by decide +kernel
theorem dL_answers_160 : decode cL_answers 160 = .ok (.iconst 0, 1) := by decide +kernel
theorem dL_answers_161 : decode cL_answers 161 = .ok (.ireturn, 1) := by decide +kernel
theorem dL_publishes_0 : decode cL_publishes 0 = .ok (.aload_n 2, 1) := by decide +kernel
theorem dL_publishes_1 : decode cL_publishes 1 = .ok (.iload_n 3, 1) := by decide +kernel
theorem dL_publishes_2 : decode cL_publishes 2 = .ok (.invokevirtual 141, 3) := by decide +kernel
theorem dL_publishes_5 : decode cL_publishes 5 = .ok (.iconst 1, 1) := by decide +kernel
theorem dL_publishes_6 : decode cL_publishes 6 = .ok (.if_icmp .le 7, 3) := by decide +kernel
theorem dL_publishes_9 : decode cL_publishes 9 = .ok (.iconst 1, 1) := by decide +kernel
theorem dL_publishes_10 : decode cL_publishes 10 = .ok (.goto 4, 3) := by decide +kernel
theorem dL_publishes_13 : decode cL_publishes 13 = .ok (.iconst 0, 1) := by decide +kernel
theorem dL_publishes_14 : decode cL_publishes 14 = .ok (.istore 5, 2) := by decide +kernel
theorem dL_publishes_16 : decode cL_publishes 16 = .ok (.getstatic 167, 3) := by decide +kernel
theorem dL_publishes_19 : decode cL_publishes 19 = .ok (.aload_n 0, 1) := by decide +kernel
theorem dL_publishes_20 : decode cL_publishes 20 = .ok (.iload_n 1, 1) := by decide +kernel
theorem dL_publishes_21 : decode cL_publishes 21 = .ok (.iconst 3, 1) := by decide +kernel
theorem dL_publishes_22 : decode cL_publishes 22 = .ok (.iadd, 1) := by decide +kernel
theorem dL_publishes_23 : decode cL_publishes 23 = .ok (.bipush 16, 2) := by decide +kernel
theorem dL_publishes_25 : decode cL_publishes 25 = .ok (.invokestatic 137, 3) := by decide +kernel
theorem dL_publishes_28 : decode cL_publishes 28 = .ok (.aaload, 1) := by decide +kernel
theorem dL_publishes_29 : decode cL_publishes 29 = .ok (.astore 6, 2) := by decide +kernel
theorem dL_publishes_31 : decode cL_publishes 31 = .ok (.iconst 1, 1) := by decide +kernel
theorem dL_publishes_32 : decode cL_publishes 32 = .ok (.aload_n 0, 1) := by decide +kernel
theorem dL_publishes_33 : decode cL_publishes 33 = .ok (.iload_n 1, 1) := by decide +kernel
theorem dL_publishes_34 : decode cL_publishes 34 = .ok (.iconst 4, 1) := by decide +kernel
theorem dL_publishes_35 : decode cL_publishes 35 = .ok (.iadd, 1) := by decide +kernel
theorem dL_publishes_36 : decode cL_publishes 36 = .ok (.iconst 5, 1) := by decide +kernel
theorem dL_publishes_37 : decode cL_publishes 37 = .ok (.invokestatic 137, 3) := by decide +kernel
theorem dL_publishes_40 : decode cL_publishes 40 = .ok (.iadd, 1) := by decide +kernel
theorem dL_publishes_41 : decode cL_publishes 41 = .ok (.istore 7, 2) := by decide +kernel
theorem dL_publishes_43 : decode cL_publishes 43 = .ok (.aload_n 2, 1) := by decide +kernel
theorem dL_publishes_44 : decode cL_publishes 44 = .ok (.aload 6, 2) := by decide +kernel
theorem dL_publishes_46 : decode cL_publishes 46 = .ok (.invokestatic 66, 3) := by decide +kernel
theorem dL_publishes_49 : decode cL_publishes 49 = .ok (.ifCond .eq 11, 3) := by decide +kernel
theorem dL_publishes_52 : decode cL_publishes 52 = .ok (.aload_n 2, 1) := by decide +kernel
theorem dL_publishes_53 : decode cL_publishes 53 = .ok (.iload_n 3, 1) := by decide +kernel
theorem dL_publishes_54 : decode cL_publishes 54 = .ok (.invokestatic 195, 3) := by decide +kernel
theorem dL_publishes_57 : decode cL_publishes 57 = .ok (.goto 5, 3) := by decide +kernel
theorem dL_publishes_60 : decode cL_publishes 60 = .ok (.bipush (-7), 2) := by decide +kernel
theorem dL_publishes_62 : decode cL_publishes 62 = .ok (.istore 8, 2) := by decide +kernel
theorem dL_publishes_64 : decode cL_publishes 64 = .ok (.aload_n 2, 1) := by decide +kernel
theorem dL_publishes_65 : decode cL_publishes 65 = .ok (.iconst 1, 1) := by decide +kernel
theorem dL_publishes_66 : decode cL_publishes 66 = .ok (.invokevirtual 180, 3) := by decide +kernel
theorem dL_publishes_69 : decode cL_publishes 69 = .ok (.istore 9, 2) := by decide +kernel
theorem dL_publishes_71 : decode cL_publishes 71 = .ok (.aload_n 2, 1) := by decide +kernel
theorem dL_publishes_72 : decode cL_publishes 72 = .ok (.iconst 0, 1) := by decide +kernel
theorem dL_publishes_73 : decode cL_publishes 73 = .ok (.invokevirtual 180, 3) := by decide +kernel
theorem dL_publishes_76 : decode cL_publishes 76 = .ok (.istore 10, 2) := by decide +kernel
theorem dL_publishes_78 : decode cL_publishes 78 = .ok (.aload_n 2, 1) := by decide +kernel
theorem dL_publishes_79 : decode cL_publishes 79 = .ok (.iconst 3, 1) := by decide +kernel
theorem dL_publishes_80 : decode cL_publishes 80 = .ok (.invokevirtual 180, 3) := by decide +kernel
theorem dL_publishes_83 : decode cL_publishes 83 = .ok (.istore 11, 2) := by decide +kernel
theorem dL_publishes_85 : decode cL_publishes 85 = .ok (.aload_n 2, 1) := by decide +kernel
theorem dL_publishes_86 : decode cL_publishes 86 = .ok (.iload_n 3, 1) := by decide +kernel
theorem dL_publishes_87 : decode cL_publishes 87 = .ok (.iconst 3, 1) := by decide +kernel
theorem dL_publishes_88 : decode cL_publishes 88 = .ok (.invokevirtual 187, 3) := by decide +kernel
theorem dL_publishes_91 : decode cL_publishes 91 = .ok (.istore 12, 2) := by decide +kernel
theorem dL_publishes_93 : decode cL_publishes 93 = .ok (.aload_n 2, 1) := by decide +kernel
theorem dL_publishes_94 : decode cL_publishes 94 = .ok (.aload 6, 2) := by decide +kernel
theorem dL_publishes_96 : decode cL_publishes 96 = .ok (.iload_n 3, 1) := by decide +kernel
theorem dL_publishes_97 : decode cL_publishes 97 = .ok (.iload 4, 2) := by decide +kernel
theorem dL_publishes_99 : decode cL_publishes 99 = .ok (.iload 7, 2) := by decide +kernel
theorem dL_publishes_101 : decode cL_publishes 101 = .ok (.aload_n 0, 1) := by decide +kernel
theorem dL_publishes_102 : decode cL_publishes 102 = .ok (.iload_n 1, 1) := by decide +kernel
theorem dL_publishes_103 : decode cL_publishes 103 = .ok (.iconst 5, 1) := by decide +kernel
theorem dL_publishes_104 : decode cL_publishes 104 = .ok (.iadd, 1) := by decide +kernel
theorem dL_publishes_105 : decode cL_publishes 105 = .ok (.iconst 3, 1) := by decide +kernel
theorem dL_publishes_106 : decode cL_publishes 106 = .ok (.invokestatic 137, 3) := by decide +kernel
theorem dL_publishes_109 : decode cL_publishes 109 = .ok (.ifCond .ne 7, 3) := by decide +kernel
theorem dL_publishes_112 : decode cL_publishes 112 = .ok (.iconst 1, 1) := by decide +kernel
theorem dL_publishes_113 : decode cL_publishes 113 = .ok (.goto 4, 3) := by decide +kernel
theorem dL_publishes_116 : decode cL_publishes 116 = .ok (.iconst 0, 1) := by decide +kernel
theorem dL_publishes_117 : decode cL_publishes 117 = .ok (.aload_n 0, 1) := by decide +kernel
theorem dL_publishes_118 : decode cL_publishes 118 = .ok (.iload_n 1, 1) := by decide +kernel
theorem dL_publishes_119 : decode cL_publishes 119 = .ok (.iconst 5, 1) := by decide +kernel
theorem dL_publishes_120 : decode cL_publishes 120 = .ok (.iadd, 1) := by decide +kernel
theorem dL_publishes_121 : decode cL_publishes 121 = .ok (.bipush 30, 2) := by decide +kernel
theorem dL_publishes_123 : decode cL_publishes 123 = .ok (.invokestatic 137, 3) := by decide +kernel
theorem dL_publishes_126 : decode cL_publishes 126 = .ok (.invokestatic 197, 3) := by decide +kernel
theorem dL_publishes_129 : decode cL_publishes 129 = .ok (.istore 13, 2) := by decide +kernel
theorem dL_publishes_131 : decode cL_publishes 131 = .ok (.iload 5, 2) := by decide +kernel
theorem dL_publishes_133 : decode cL_publishes 133 = .ok (.ifCond .ne 36, 3) := by decide +kernel
theorem dL_publishes_136 : decode cL_publishes 136 = .ok (.iload 13, 2) := by decide +kernel
theorem dL_publishes_138 : decode cL_publishes 138 = .ok (.bipush (-3), 2) := by decide +kernel
theorem dL_publishes_140 : decode cL_publishes 140 = .ok (.if_icmp .ne 27, 3) := by decide +kernel
theorem dL_publishes_143 : decode cL_publishes 143 = .ok (.aload_n 2, 1) := by decide +kernel
theorem dL_publishes_144 : decode cL_publishes 144 = .ok (.iconst 0, 1) := by decide +kernel
theorem dL_publishes_145 : decode cL_publishes 145 = .ok (.invokevirtual 180, 3) := by decide +kernel
theorem dL_publishes_148 : decode cL_publishes 148 = .ok (.iload 10, 2) := by decide +kernel
theorem dL_publishes_150 : decode cL_publishes 150 = .ok (.if_icmp .ne 17, 3) := by decide +kernel
theorem dL_publishes_153 : decode cL_publishes 153 = .ok (.aload_n 2, 1) := by decide +kernel
theorem dL_publishes_154 : decode cL_publishes 154 = .ok (.iconst 1, 1) := by decide +kernel
theorem dL_publishes_155 : decode cL_publishes 155 = .ok (.invokevirtual 180, 3) := by decide +kernel
theorem dL_publishes_158 : decode cL_publishes 158 = .ok (.iload 9, 2) := by decide +kernel
theorem dL_publishes_160 : decode cL_publishes 160 = .ok (.if_icmp .ne 7, 3) := by decide +kernel
theorem dL_publishes_163 : decode cL_publishes 163 = .ok (.iconst 1, 1) := by decide +kernel
theorem dL_publishes_164 : decode cL_publishes 164 = .ok (.goto 4, 3) := by decide +kernel
theorem dL_publishes_167 : decode cL_publishes 167 = .ok (.iconst 0, 1) := by decide +kernel
theorem dL_publishes_168 : decode cL_publishes 168 = .ok (.ireturn, 1) := by decide +kernel
theorem dL_publishes_169 : decode cL_publishes 169 = .ok (.aload_n 2, 1) := by decide +kernel
theorem dL_publishes_170 : decode cL_publishes 170 = .ok (.iconst 3, 1) := by decide +kernel
theorem dL_publishes_171 : decode cL_publishes 171 = .ok (.invokevirtual 180, 3) := by decide +kernel
theorem dL_publishes_174 : decode cL_publishes 174 = .ok (.iload 11, 2) := by decide +kernel
theorem dL_publishes_176 : decode cL_publishes 176 = .ok (.iconst 1, 1) := by decide +kernel
theorem dL_publishes_177 : decode cL_publishes 177 = .ok (.iadd, 1) := by decide +kernel
theorem dL_publishes_178 : decode cL_publishes 178 = .ok (.if_icmp .ne 7, 3) := by decide +kernel
theorem dL_publishes_181 : decode cL_publishes 181 = .ok (.iconst 1, 1) := by decide +kernel
theorem dL_publishes_182 : decode cL_publishes 182 = .ok (.goto 4, 3) := by decide +kernel
theorem dL_publishes_185 : decode cL_publishes 185 = .ok (.iconst 0, 1) := by decide +kernel
theorem dL_publishes_186 : decode cL_publishes 186 = .ok (.istore 14, 2) := by decide +kernel
theorem dL_publishes_188 : decode cL_publishes 188 = .ok (.iload 14, 2) := by decide +kernel
theorem dL_publishes_190 : decode cL_publishes 190 = .ok (.ifCond .eq 43, 3) := by decide +kernel
theorem dL_publishes_193 : decode cL_publishes 193 = .ok (.iload 13, 2) := by decide +kernel
theorem dL_publishes_195 : decode cL_publishes 195 = .ok (.ifCond .ne 34, 3) := by decide +kernel
theorem dL_publishes_198 : decode cL_publishes 198 = .ok (.iload 4, 2) := by decide +kernel
theorem dL_publishes_200 : decode cL_publishes 200 = .ok (.iconst 2, 1) := by decide +kernel
theorem dL_publishes_201 : decode cL_publishes 201 = .ok (.if_icmp .ne 28, 3) := by decide +kernel
theorem dL_publishes_204 : decode cL_publishes 204 = .ok (.aload_n 2, 1) := by decide +kernel
theorem dL_publishes_205 : decode cL_publishes 205 = .ok (.iconst 0, 1) := by decide +kernel
theorem dL_publishes_206 : decode cL_publishes 206 = .ok (.invokevirtual 180, 3) := by decide +kernel
theorem dL_publishes_209 : decode cL_publishes 209 = .ok (.iload 10, 2) := by decide +kernel
theorem dL_publishes_211 : decode cL_publishes 211 = .ok (.if_icmp .ne 18, 3) := by decide +kernel
theorem dL_publishes_214 : decode cL_publishes 214 = .ok (.aload_n 2, 1) := by decide +kernel
theorem dL_publishes_215 : decode cL_publishes 215 = .ok (.iload_n 3, 1) := by decide +kernel
theorem dL_publishes_216 : decode cL_publishes 216 = .ok (.iconst 3, 1) := by decide +kernel
theorem dL_publishes_217 : decode cL_publishes 217 = .ok (.invokevirtual 187, 3) := by decide +kernel
theorem dL_publishes_220 : decode cL_publishes 220 = .ok (.iload 12, 2) := by decide +kernel
theorem dL_publishes_222 : decode cL_publishes 222 = .ok (.if_icmp .ne 7, 3) := by decide +kernel
theorem dL_publishes_225 : decode cL_publishes 225 = .ok (.iconst 1, 1) := by decide +kernel
theorem dL_publishes_226 : decode cL_publishes 226 = .ok (.goto 31, 3) := by decide +kernel
theorem dL_publishes_229 : decode cL_publishes 229 = .ok (.iconst 0, 1) := by decide +kernel
theorem dL_publishes_230 : decode cL_publishes 230 = .ok (.goto 27, 3) := by decide +kernel
theorem dL_publishes_233 : decode cL_publishes 233 = .ok (.iload 13, 2) := by decide +kernel
theorem dL_publishes_235 : decode cL_publishes 235 = .ok (.iload 8, 2) := by decide +kernel
theorem dL_publishes_237 : decode cL_publishes 237 = .ok (.if_icmp .ne 19, 3) := by decide +kernel
theorem dL_publishes_240 : decode cL_publishes 240 = .ok (.aload_n 2, 1) := by decide +kernel
theorem dL_publishes_241 : decode cL_publishes 241 = .ok (.iconst 0, 1) := by decide +kernel
theorem dL_publishes_242 : decode cL_publishes 242 = .ok (.invokevirtual 180, 3) := by decide +kernel
theorem dL_publishes_245 : decode cL_publishes 245 = .ok (.iload 10, 2) := by decide +kernel
theorem dL_publishes_247 : decode cL_publishes 247 = .ok (.iconst 1, 1) := by decide +kernel
theorem dL_publishes_248 : decode cL_publishes 248 = .ok (.iadd, 1) := by decide +kernel
theorem dL_publishes_249 : decode cL_publishes 249 = .ok (.if_icmp .ne 7, 3) := by decide +kernel
theorem dL_publishes_252 : decode cL_publishes 252 = .ok (.iconst 1, 1) := by decide +kernel
theorem dL_publishes_253 : decode cL_publishes 253 = .ok (.goto 4, 3) := by decide +kernel
theorem dL_publishes_256 : decode cL_publishes 256 = .ok (.iconst 0, 1) := by decide +kernel
theorem dL_publishes_257 : decode cL_publishes 257 = .ok (.istore 15, 2) := by decide +kernel
theorem dL_publishes_259 : decode cL_publishes 259 = .ok (.iload 15, 2) := by decide +kernel
theorem dL_publishes_261 : decode cL_publishes 261 = .ok (.aload_n 2, 1) := by decide +kernel
theorem dL_publishes_262 : decode cL_publishes 262 = .ok (.iconst 1, 1) := by decide +kernel
theorem dL_publishes_263 : decode cL_publishes 263 = .ok (.invokevirtual 180, 3) := by decide +kernel
theorem dL_publishes_266 : decode cL_publishes 266 = .ok (.iload 9, 2) := by decide +kernel
theorem dL_publishes_268 : decode cL_publishes 268 = .ok (.iload 13, 2) := by decide +kernel
theorem dL_publishes_270 : decode cL_publishes 270 = .ok (.iadd, 1) := by decide +kernel
theorem dL_publishes_271 : decode cL_publishes 271 = .ok (.if_icmp .ne 35, 3) := by decide +kernel
theorem dL_publishes_274 : decode cL_publishes 274 = .ok (.iload 14, 2) := by decide +kernel
theorem dL_publishes_276 : decode cL_publishes 276 = .ok (.ifCond .ne 26, 3) := by decide +kernel
theorem dL_publishes_279 : decode cL_publishes 279 = .ok (.aload_n 2, 1) := by decide +kernel
theorem dL_publishes_280 : decode cL_publishes 280 = .ok (.iload_n 3, 1) := by decide +kernel
theorem dL_publishes_281 : decode cL_publishes 281 = .ok (.iconst 3, 1) := by decide +kernel
theorem dL_publishes_282 : decode cL_publishes 282 = .ok (.invokevirtual 187, 3) := by decide +kernel
theorem dL_publishes_285 : decode cL_publishes 285 = .ok (.iload 12, 2) := by decide +kernel
theorem dL_publishes_287 : decode cL_publishes 287 = .ok (.iload 4, 2) := by decide +kernel
theorem dL_publishes_289 : decode cL_publishes 289 = .ok (.iconst 2, 1) := by decide +kernel
theorem dL_publishes_290 : decode cL_publishes 290 = .ok (.if_icmp .ne 7, 3) := by decide +kernel
theorem dL_publishes_293 : decode cL_publishes 293 = .ok (.iconst 1, 1) := by decide +kernel
theorem dL_publishes_294 : decode cL_publishes 294 = .ok (.goto 4, 3) := by decide +kernel
theorem dL_publishes_297 : decode cL_publishes 297 = .ok (.iconst 0, 1) := by decide +kernel
theorem dL_publishes_298 : decode cL_publishes 298 = .ok (.iadd, 1) := by decide +kernel
theorem dL_publishes_299 : decode cL_publishes 299 = .ok (.if_icmp .ne 7, 3) := by decide +kernel
theorem dL_publishes_302 : decode cL_publishes 302 = .ok (.iconst 1, 1) := by decide +kernel
theorem dL_publishes_303 : decode cL_publishes 303 = .ok (.goto 4, 3) := by decide +kernel
theorem dL_publishes_306 : decode cL_publishes 306 = .ok (.iconst 0, 1) := by decide +kernel
theorem dL_publishes_307 : decode cL_publishes 307 = .ok (.iand, 1) := by decide +kernel
theorem dL_publishes_308 : decode cL_publishes 308 = .ok (.istore 15, 2) := by decide +kernel
theorem dL_publishes_310 : decode cL_publishes 310 = .ok (.iload 15, 2) := by decide +kernel
theorem dL_publishes_312 : decode cL_publishes 312 = .ok (.ifCond .eq 35, 3) := by decide +kernel
theorem dL_publishes_315 : decode cL_publishes 315 = .ok (.iload 4, 2) := by decide +kernel
theorem dL_publishes_317 : decode cL_publishes 317 = .ok (.iconst 2, 1) := by decide +kernel
theorem dL_publishes_318 : decode cL_publishes 318 = .ok (.if_icmp .lt 25, 3) := by decide +kernel
theorem dL_publishes_321 : decode cL_publishes 321 = .ok (.aload_n 0, 1) := by decide +kernel
theorem dL_publishes_322 : decode cL_publishes 322 = .ok (.iload_n 1, 1) := by decide +kernel
theorem dL_publishes_323 : decode cL_publishes 323 = .ok (.iconst 2, 1) := by decide +kernel
theorem dL_publishes_324 : decode cL_publishes 324 = .ok (.iadd, 1) := by decide +kernel
theorem dL_publishes_325 : decode cL_publishes 325 = .ok (.iconst 2, 1) := by decide +kernel
theorem dL_publishes_326 : decode cL_publishes 326 = .ok (.invokestatic 137, 3) := by decide +kernel
theorem dL_publishes_329 : decode cL_publishes 329 = .ok (.ifCond .eq 14, 3) := by decide +kernel
theorem dL_publishes_332 : decode cL_publishes 332 = .ok (.aload_n 2, 1) := by decide +kernel
theorem dL_publishes_333 : decode cL_publishes 333 = .ok (.iload_n 3, 1) := by decide +kernel
theorem dL_publishes_334 : decode cL_publishes 334 = .ok (.iload 7, 2) := by decide +kernel
theorem dL_publishes_336 : decode cL_publishes 336 = .ok (.invokestatic 201, 3) := by decide +kernel
theorem dL_publishes_339 : decode cL_publishes 339 = .ok (.iconst 1, 1) := by decide +kernel
theorem dL_publishes_340 : decode cL_publishes 340 = .ok (.if_icmp .ne 7, 3) := by decide +kernel
theorem dL_publishes_343 : decode cL_publishes 343 = .ok (.iconst 1, 1) := by decide +kernel
theorem dL_publishes_344 : decode cL_publishes 344 = .ok (.goto 4, 3) := by decide +kernel
theorem dL_publishes_347 : decode cL_publishes 347 = .ok (.iconst 0, 1) := by decide +kernel
theorem dL_publishes_348 : decode cL_publishes 348 = .ok (.ireturn, 1) := by decide +kernel
theorem dL_isSound_0 : decode cL_isSound 0 = .ok (.aload_n 0, 1) := by decide +kernel
theorem dL_isSound_1 : decode cL_isSound 1 = .ok (.invokevirtual 203, 3) := by decide +kernel
theorem dL_isSound_4 : decode cL_isSound 4 = .ok (.bipush 8, 2) := by decide +kernel
theorem dL_isSound_6 : decode cL_isSound 6 = .ok (.if_icmp .gt 15, 3) := by decide +kernel
theorem dL_isSound_9 : decode cL_isSound 9 = .ok (.aload_n 0, 1) := by decide +kernel
theorem dL_isSound_10 : decode cL_isSound 10 = .ok (.invokevirtual 206, 3) := by decide +kernel
theorem dL_isSound_13 : decode cL_isSound 13 = .ok (.iconst (-1), 1) := by decide +kernel
theorem dL_isSound_14 : decode cL_isSound 14 = .ok (.if_icmp .ne 7, 3) := by decide +kernel
theorem dL_isSound_17 : decode cL_isSound 17 = .ok (.iconst 1, 1) := by decide +kernel
theorem dL_isSound_18 : decode cL_isSound 18 = .ok (.goto 4, 3) := by decide +kernel
theorem dL_isSound_21 : decode cL_isSound 21 = .ok (.iconst 0, 1) := by decide +kernel
theorem dL_isSound_22 : decode cL_isSound 22 = .ok (.istore_n 1, 1) := by decide +kernel
theorem dL_isSound_23 : decode cL_isSound 23 = .ok (.iconst 0, 1) := by decide +kernel
theorem dL_isSound_24 : decode cL_isSound 24 = .ok (.istore_n 2, 1) := by decide +kernel
theorem dL_isSound_25 : decode cL_isSound 25 = .ok (.iload_n 2, 1) := by decide +kernel
theorem dL_isSound_26 : decode cL_isSound 26 = .ok (.bipush 6, 2) := by decide +kernel
theorem dL_isSound_28 : decode cL_isSound 28 = .ok (.if_icmp .ge 294, 3) := by decide +kernel
theorem dL_isSound_31 : decode cL_isSound 31 = .ok (.aload_n 0, 1) := by decide +kernel
theorem dL_isSound_32 : decode cL_isSound 32 = .ok (.iload_n 2, 1) := by decide +kernel
theorem dL_isSound_33 : decode cL_isSound 33 = .ok (.invokevirtual 141, 3) := by decide +kernel
theorem dL_isSound_36 : decode cL_isSound 36 = .ok (.istore_n 3, 1) := by decide +kernel
theorem dL_isSound_37 : decode cL_isSound 37 = .ok (.iload_n 1, 1) := by decide +kernel
theorem dL_isSound_38 : decode cL_isSound 38 = .ok (.aload_n 0, 1) := by decide +kernel
theorem dL_isSound_39 : decode cL_isSound 39 = .ok (.iload_n 2, 1) := by decide +kernel
theorem dL_isSound_40 : decode cL_isSound 40 = .ok (.iconst 0, 1) := by decide +kernel
theorem dL_isSound_41 : decode cL_isSound 41 = .ok (.invokevirtual 187, 3) := by decide +kernel
theorem dL_isSound_44 : decode cL_isSound 44 = .ok (.iload_n 3, 1) := by decide +kernel
theorem dL_isSound_45 : decode cL_isSound 45 = .ok (.iconst 1, 1) := by decide +kernel
theorem dL_isSound_46 : decode cL_isSound 46 = .ok (.if_icmp .le 8, 3) := by decide +kernel
theorem dL_isSound_49 : decode cL_isSound 49 = .ok (.bipush 30, 2) := by decide +kernel
theorem dL_isSound_51 : decode cL_isSound 51 = .ok (.goto 4, 3) := by decide +kernel
theorem dL_isSound_54 : decode cL_isSound 54 = .ok (.iconst 0, 1) := by decide +kernel
theorem dL_isSound_55 : decode cL_isSound 55 = .ok (.if_icmp .gt 47, 3) := by decide +kernel
theorem dL_isSound_58 : decode cL_isSound 58 = .ok (.aload_n 0, 1) := by decide +kernel
theorem dL_isSound_59 : decode cL_isSound 59 = .ok (.iload_n 2, 1) := by decide +kernel
theorem dL_isSound_60 : decode cL_isSound 60 = .ok (.iconst 1, 1) := by decide +kernel
theorem dL_isSound_61 : decode cL_isSound 61 = .ok (.invokevirtual 187, 3) := by decide +kernel
theorem dL_isSound_64 : decode cL_isSound 64 = .ok (.iconst 5, 1) := by decide +kernel
theorem dL_isSound_65 : decode cL_isSound 65 = .ok (.if_icmp .gt 37, 3) := by decide +kernel
theorem dL_isSound_68 : decode cL_isSound 68 = .ok (.aload_n 0, 1) := by decide +kernel
theorem dL_isSound_69 : decode cL_isSound 69 = .ok (.iload_n 2, 1) := by decide +kernel
theorem dL_isSound_70 : decode cL_isSound 70 = .ok (.iconst 2, 1) := by decide +kernel
theorem dL_isSound_71 : decode cL_isSound 71 = .ok (.invokevirtual 187, 3) := by decide +kernel
theorem dL_isSound_74 : decode cL_isSound 74 = .ok (.bipush 8, 2) := by decide +kernel
theorem dL_isSound_76 : decode cL_isSound 76 = .ok (.if_icmp .gt 26, 3) := by decide +kernel
theorem dL_isSound_79 : decode cL_isSound 79 = .ok (.aload_n 0, 1) := by decide +kernel
theorem dL_isSound_80 : decode cL_isSound 80 = .ok (.iload_n 2, 1) := by decide +kernel
theorem dL_isSound_81 : decode cL_isSound 81 = .ok (.iconst 4, 1) := by decide +kernel
theorem dL_isSound_82 : decode cL_isSound 82 = .ok (.invokevirtual 187, 3) := by decide +kernel
theorem dL_isSound_85 : decode cL_isSound 85 = .ok (.bipush 6, 2) := by decide +kernel
theorem dL_isSound_87 : decode cL_isSound 87 = .ok (.if_icmp .gt 15, 3) := by decide +kernel
theorem dL_isSound_90 : decode cL_isSound 90 = .ok (.aload_n 0, 1) := by decide +kernel
theorem dL_isSound_91 : decode cL_isSound 91 = .ok (.iload_n 2, 1) := by decide +kernel
theorem dL_isSound_92 : decode cL_isSound 92 = .ok (.invokevirtual 209, 3) := by decide +kernel
theorem dL_isSound_95 : decode cL_isSound 95 = .ok (.ifCond .lt 7, 3) := by decide +kernel
theorem dL_isSound_98 : decode cL_isSound 98 = .ok (.iconst 1, 1) := by decide +kernel
theorem dL_isSound_99 : decode cL_isSound 99 = .ok (.goto 4, 3) := by decide +kernel
theorem dL_isSound_102 : decode cL_isSound 102 = .ok (.iconst 0, 1) := by decide +kernel
theorem dL_isSound_103 : decode cL_isSound 103 = .ok (.iand, 1) := by decide +kernel
theorem dL_isSound_104 : decode cL_isSound 104 = .ok (.istore_n 1, 1) := by decide +kernel
theorem dL_isSound_105 : decode cL_isSound 105 = .ok (.iload_n 1, 1) := by decide +kernel
theorem dL_isSound_106 : decode cL_isSound 106 = .ok (.iload_n 3, 1) := by decide +kernel
theorem dL_isSound_107 : decode cL_isSound 107 = .ok (.ifCond .gt 33, 3) := by decide +kernel
theorem dL_isSound_110 : decode cL_isSound 110 = .ok (.aload_n 0, 1) := by decide +kernel
theorem dL_isSound_111 : decode cL_isSound 111 = .ok (.iload_n 2, 1) := by decide +kernel
theorem dL_isSound_112 : decode cL_isSound 112 = .ok (.iconst 1, 1) := by decide +kernel
theorem dL_isSound_113 : decode cL_isSound 113 = .ok (.invokevirtual 187, 3) := by decide +kernel
theorem dL_isSound_116 : decode cL_isSound 116 = .ok (.aload_n 0, 1) := by decide +kernel
theorem dL_isSound_117 : decode cL_isSound 117 = .ok (.iload_n 2, 1) := by decide +kernel
theorem dL_isSound_118 : decode cL_isSound 118 = .ok (.iconst 2, 1) := by decide +kernel
theorem dL_isSound_119 : decode cL_isSound 119 = .ok (.invokevirtual 187, 3) := by decide +kernel
theorem dL_isSound_122 : decode cL_isSound 122 = .ok (.iadd, 1) := by decide +kernel
theorem dL_isSound_123 : decode cL_isSound 123 = .ok (.aload_n 0, 1) := by decide +kernel
theorem dL_isSound_124 : decode cL_isSound 124 = .ok (.iload_n 2, 1) := by decide +kernel
theorem dL_isSound_125 : decode cL_isSound 125 = .ok (.iconst 3, 1) := by decide +kernel
theorem dL_isSound_126 : decode cL_isSound 126 = .ok (.invokevirtual 187, 3) := by decide +kernel
theorem dL_isSound_129 : decode cL_isSound 129 = .ok (.iadd, 1) := by decide +kernel
theorem dL_isSound_130 : decode cL_isSound 130 = .ok (.aload_n 0, 1) := by decide +kernel
theorem dL_isSound_131 : decode cL_isSound 131 = .ok (.iload_n 2, 1) := by decide +kernel
theorem dL_isSound_132 : decode cL_isSound 132 = .ok (.iconst 4, 1) := by decide +kernel
theorem dL_isSound_133 : decode cL_isSound 133 = .ok (.invokevirtual 187, 3) := by decide +kernel
theorem dL_isSound_136 : decode cL_isSound 136 = .ok (.iadd, 1) := by decide +kernel
theorem dL_isSound_137 : decode cL_isSound 137 = .ok (.ifCond .ne 7, 3) := by decide +kernel
theorem dL_isSound_140 : decode cL_isSound 140 = .ok (.iconst 1, 1) := by decide +kernel
theorem dL_isSound_141 : decode cL_isSound 141 = .ok (.goto 4, 3) := by decide +kernel
theorem dL_isSound_144 : decode cL_isSound 144 = .ok (.iconst 0, 1) := by decide +kernel
theorem dL_isSound_145 : decode cL_isSound 145 = .ok (.iand, 1) := by decide +kernel
theorem dL_isSound_146 : decode cL_isSound 146 = .ok (.istore_n 1, 1) := by decide +kernel
theorem dL_isSound_147 : decode cL_isSound 147 = .ok (.iconst 0, 1) := by decide +kernel
theorem dL_isSound_148 : decode cL_isSound 148 = .ok (.istore 4, 2) := by decide +kernel
theorem dL_isSound_150 : decode cL_isSound 150 = .ok (.iconst 0, 1) := by decide +kernel
theorem dL_isSound_151 : decode cL_isSound 151 = .ok (.istore 5, 2) := by decide +kernel
theorem dL_isSound_153 : decode cL_isSound 153 = .ok (.iload 5, 2) := by decide +kernel
theorem dL_isSound_155 : decode cL_isSound 155 = .ok (.aload_n 0, 1) := by decide +kernel
theorem dL_isSound_156 : decode cL_isSound 156 = .ok (.iload_n 2, 1) := by decide +kernel
theorem dL_isSound_157 : decode cL_isSound 157 = .ok (.iconst 1, 1) := by decide +kernel
theorem dL_isSound_158 : decode cL_isSound 158 = .ok (.invokevirtual 187, 3) := by decide +kernel
theorem dL_isSound_161 : decode cL_isSound 161 = .ok (.if_icmp .ge 139, 3) := by decide +kernel
theorem dL_isSound_164 : decode cL_isSound 164 = .ok (.aload_n 0, 1) := by decide +kernel
theorem dL_isSound_165 : decode cL_isSound 165 = .ok (.iload_n 2, 1) := by decide +kernel
theorem dL_isSound_166 : decode cL_isSound 166 = .ok (.iload 5, 2) := by decide +kernel
theorem dL_isSound_168 : decode cL_isSound 168 = .ok (.iconst 0, 1) := by decide +kernel
theorem dL_isSound_169 : decode cL_isSound 169 = .ok (.invokevirtual 192, 3) := by decide +kernel
theorem dL_isSound_172 : decode cL_isSound 172 = .ok (.istore 6, 2) := by decide +kernel
theorem dL_isSound_174 : decode cL_isSound 174 = .ok (.iconst 0, 1) := by decide +kernel
theorem dL_isSound_175 : decode cL_isSound 175 = .ok (.istore 7, 2) := by decide +kernel
theorem dL_isSound_177 : decode cL_isSound 177 = .ok (.iload 7, 2) := by decide +kernel
theorem dL_isSound_179 : decode cL_isSound 179 = .ok (.iload 5, 2) := by decide +kernel
theorem dL_isSound_181 : decode cL_isSound 181 = .ok (.if_icmp .ge 30, 3) := by decide +kernel
theorem dL_isSound_184 : decode cL_isSound 184 = .ok (.iload_n 1, 1) := by decide +kernel
theorem dL_isSound_185 : decode cL_isSound 185 = .ok (.aload_n 0, 1) := by decide +kernel
theorem dL_isSound_186 : decode cL_isSound 186 = .ok (.iload_n 2, 1) := by decide +kernel
theorem dL_isSound_187 : decode cL_isSound 187 = .ok (.iload 7, 2) := by decide +kernel
theorem dL_isSound_189 : decode cL_isSound 189 = .ok (.iconst 0, 1) := by decide +kernel
theorem dL_isSound_190 : decode cL_isSound 190 = .ok (.invokevirtual 192, 3) := by decide +kernel
theorem dL_isSound_193 : decode cL_isSound 193 = .ok (.iload 6, 2) := by decide +kernel
theorem dL_isSound_195 : decode cL_isSound 195 = .ok (.if_icmp .eq 7, 3) := by decide +kernel
theorem dL_isSound_198 : decode cL_isSound 198 = .ok (.iconst 1, 1) := by decide +kernel
theorem dL_isSound_199 : decode cL_isSound 199 = .ok (.goto 4, 3) := by decide +kernel
theorem dL_isSound_202 : decode cL_isSound 202 = .ok (.iconst 0, 1) := by decide +kernel
theorem dL_isSound_203 : decode cL_isSound 203 = .ok (.iand, 1) := by decide +kernel
theorem dL_isSound_204 : decode cL_isSound 204 = .ok (.istore_n 1, 1) := by decide +kernel
theorem dL_isSound_205 : decode cL_isSound 205 = .ok (.iinc 7 1, 3) := by decide +kernel
theorem dL_isSound_208 : decode cL_isSound 208 = .ok (.goto (-31), 3) := by decide +kernel
theorem dL_isSound_211 : decode cL_isSound 211 = .ok (.iload 4, 2) := by decide +kernel
theorem dL_isSound_213 : decode cL_isSound 213 = .ok (.iload 6, 2) := by decide +kernel
theorem dL_isSound_215 : decode cL_isSound 215 = .ok (.iadd, 1) := by decide +kernel
theorem dL_isSound_216 : decode cL_isSound 216 = .ok (.istore 4, 2) := by decide +kernel
theorem dL_isSound_218 : decode cL_isSound 218 = .ok (.iload_n 1, 1) := by decide +kernel
theorem dL_isSound_219 : decode cL_isSound 219 = .ok (.iload 6, 2) := by decide +kernel
theorem dL_isSound_221 : decode cL_isSound 221 = .ok (.iconst 1, 1) := by decide +kernel
theorem dL_isSound_222 : decode cL_isSound 222 = .ok (.if_icmp .lt 69, 3) := by decide +kernel
theorem dL_isSound_225 : decode cL_isSound 225 = .ok (.iload 6, 2) := by decide +kernel
theorem dL_isSound_227 : decode cL_isSound 227 = .ok (.bipush 50, 2) := by decide +kernel
theorem dL_isSound_229 : decode cL_isSound 229 = .ok (.if_icmp .gt 62, 3) := by decide +kernel
theorem dL_isSound_232 : decode cL_isSound 232 = .ok (.aload_n 0, 1) := by decide +kernel
theorem dL_isSound_233 : decode cL_isSound 233 = .ok (.iload_n 2, 1) := by decide +kernel
theorem dL_isSound_234 : decode cL_isSound 234 = .ok (.iload 5, 2) := by decide +kernel
theorem dL_isSound_236 : decode cL_isSound 236 = .ok (.iconst 1, 1) := by decide +kernel
theorem dL_isSound_237 : decode cL_isSound 237 = .ok (.invokevirtual 192, 3) := by decide +kernel
theorem dL_isSound_240 : decode cL_isSound 240 = .ok (.iconst 1, 1) := by decide +kernel
theorem dL_isSound_241 : decode cL_isSound 241 = .ok (.if_icmp .lt 50, 3) := by decide +kernel
theorem dL_isSound_244 : decode cL_isSound 244 = .ok (.aload_n 0, 1) := by decide +kernel
theorem dL_isSound_245 : decode cL_isSound 245 = .ok (.iload_n 2, 1) := by decide +kernel
theorem dL_isSound_246 : decode cL_isSound 246 = .ok (.iload 5, 2) := by decide +kernel
theorem dL_isSound_248 : decode cL_isSound 248 = .ok (.iconst 3, 1) := by decide +kernel
theorem dL_isSound_249 : decode cL_isSound 249 = .ok (.invokevirtual 192, 3) := by decide +kernel
theorem dL_isSound_252 : decode cL_isSound 252 = .ok (.aload_n 0, 1) := by decide +kernel
theorem dL_isSound_253 : decode cL_isSound 253 = .ok (.iload_n 2, 1) := by decide +kernel
theorem dL_isSound_254 : decode cL_isSound 254 = .ok (.iload 5, 2) := by decide +kernel
theorem dL_isSound_256 : decode cL_isSound 256 = .ok (.iconst 1, 1) := by decide +kernel
theorem dL_isSound_257 : decode cL_isSound 257 = .ok (.invokevirtual 192, 3) := by decide +kernel
theorem dL_isSound_260 : decode cL_isSound 260 = .ok (.if_icmp .eq 27, 3) := by decide +kernel
theorem dL_isSound_263 : decode cL_isSound 263 = .ok (.aload_n 0, 1) := by decide +kernel
theorem dL_isSound_264 : decode cL_isSound 264 = .ok (.iload_n 2, 1) := by decide +kernel
theorem dL_isSound_265 : decode cL_isSound 265 = .ok (.iload 5, 2) := by decide +kernel
theorem dL_isSound_267 : decode cL_isSound 267 = .ok (.iconst 1, 1) := by decide +kernel
theorem dL_isSound_268 : decode cL_isSound 268 = .ok (.invokevirtual 192, 3) := by decide +kernel
theorem dL_isSound_271 : decode cL_isSound 271 = .ok (.iconst 2, 1) := by decide +kernel
theorem dL_isSound_272 : decode cL_isSound 272 = .ok (.if_icmp .ne 19, 3) := by decide +kernel
theorem dL_isSound_275 : decode cL_isSound 275 = .ok (.aload_n 0, 1) := by decide +kernel
theorem dL_isSound_276 : decode cL_isSound 276 = .ok (.iload_n 2, 1) := by decide +kernel
theorem dL_isSound_277 : decode cL_isSound 277 = .ok (.iload 5, 2) := by decide +kernel
theorem dL_isSound_279 : decode cL_isSound 279 = .ok (.iconst 3, 1) := by decide +kernel
theorem dL_isSound_280 : decode cL_isSound 280 = .ok (.invokevirtual 192, 3) := by decide +kernel
theorem dL_isSound_283 : decode cL_isSound 283 = .ok (.iconst 4, 1) := by decide +kernel
theorem dL_isSound_284 : decode cL_isSound 284 = .ok (.if_icmp .ne 7, 3) := by decide +kernel
theorem dL_isSound_287 : decode cL_isSound 287 = .ok (.iconst 1, 1) := by decide +kernel
theorem dL_isSound_288 : decode cL_isSound 288 = .ok (.goto 4, 3) := by decide +kernel
theorem dL_isSound_291 : decode cL_isSound 291 = .ok (.iconst 0, 1) := by decide +kernel
theorem dL_isSound_292 : decode cL_isSound 292 = .ok (.iand, 1) := by decide +kernel
theorem dL_isSound_293 : decode cL_isSound 293 = .ok (.istore_n 1, 1) := by decide +kernel
theorem dL_isSound_294 : decode cL_isSound 294 = .ok (.iinc 5 1, 3) := by decide +kernel
theorem dL_isSound_297 : decode cL_isSound 297 = .ok (.goto (-144), 3) := by decide +kernel
theorem dL_isSound_300 : decode cL_isSound 300 = .ok (.iload_n 1, 1) := by decide +kernel
theorem dL_isSound_301 : decode cL_isSound 301 = .ok (.iload 4, 2) := by decide +kernel
theorem dL_isSound_303 : decode cL_isSound 303 = .ok (.sipush 250, 3) := by decide +kernel
theorem dL_isSound_306 : decode cL_isSound 306 = .ok (.if_icmp .gt 7, 3) := by decide +kernel
theorem dL_isSound_309 : decode cL_isSound 309 = .ok (.iconst 1, 1) := by decide +kernel
theorem dL_isSound_310 : decode cL_isSound 310 = .ok (.goto 4, 3) := by decide +kernel
theorem dL_isSound_313 : decode cL_isSound 313 = .ok (.iconst 0, 1) := by decide +kernel
theorem dL_isSound_314 : decode cL_isSound 314 = .ok (.iand, 1) := by decide +kernel
theorem dL_isSound_315 : decode cL_isSound 315 = .ok (.istore_n 1, 1) := by decide +kernel
theorem dL_isSound_316 : decode cL_isSound 316 = .ok (.iinc 2 1, 3) := by decide +kernel
theorem dL_isSound_319 : decode cL_isSound 319 = .ok (.goto (-294), 3) := by decide +kernel
theorem dL_isSound_322 : decode cL_isSound 322 = .ok (.iconst 0, 1) := by decide +kernel
theorem dL_isSound_323 : decode cL_isSound 323 = .ok (.istore_n 2, 1) := by decide +kernel
theorem dL_isSound_324 : decode cL_isSound 324 = .ok (.iload_n 2, 1) := by decide +kernel
theorem dL_isSound_325 : decode cL_isSound 325 = .ok (.aload_n 0, 1) := by decide +kernel
theorem dL_isSound_326 : decode cL_isSound 326 = .ok (.invokevirtual 203, 3) := by decide +kernel
theorem dL_isSound_329 : decode cL_isSound 329 = .ok (.if_icmp .ge 47, 3) := by decide +kernel
theorem dL_isSound_332 : decode cL_isSound 332 = .ok (.iload_n 1, 1) := by decide +kernel
theorem dL_isSound_333 : decode cL_isSound 333 = .ok (.aload_n 0, 1) := by decide +kernel
theorem dL_isSound_334 : decode cL_isSound 334 = .ok (.iload_n 2, 1) := by decide +kernel
theorem dL_isSound_335 : decode cL_isSound 335 = .ok (.iconst 1, 1) := by decide +kernel
theorem dL_isSound_336 : decode cL_isSound 336 = .ok (.invokevirtual 212, 3) := by decide +kernel
theorem dL_isSound_339 : decode cL_isSound 339 = .ok (.iconst 1, 1) := by decide +kernel
theorem dL_isSound_340 : decode cL_isSound 340 = .ok (.if_icmp .lt 27, 3) := by decide +kernel
theorem dL_isSound_343 : decode cL_isSound 343 = .ok (.aload_n 0, 1) := by decide +kernel
theorem dL_isSound_344 : decode cL_isSound 344 = .ok (.iload_n 2, 1) := by decide +kernel
theorem dL_isSound_345 : decode cL_isSound 345 = .ok (.iconst 2, 1) := by decide +kernel
theorem dL_isSound_346 : decode cL_isSound 346 = .ok (.invokevirtual 212, 3) := by decide +kernel
theorem dL_isSound_349 : decode cL_isSound 349 = .ok (.iconst 1, 1) := by decide +kernel
theorem dL_isSound_350 : decode cL_isSound 350 = .ok (.if_icmp .lt 17, 3) := by decide +kernel
theorem dL_isSound_353 : decode cL_isSound 353 = .ok (.aload_n 0, 1) := by decide +kernel
theorem dL_isSound_354 : decode cL_isSound 354 = .ok (.iload_n 2, 1) := by decide +kernel
theorem dL_isSound_355 : decode cL_isSound 355 = .ok (.iconst 0, 1) := by decide +kernel
theorem dL_isSound_356 : decode cL_isSound 356 = .ok (.invokevirtual 212, 3) := by decide +kernel
theorem dL_isSound_359 : decode cL_isSound 359 = .ok (.iconst 2, 1) := by decide +kernel
theorem dL_isSound_360 : decode cL_isSound 360 = .ok (.if_icmp .gt 7, 3) := by decide +kernel
theorem dL_isSound_363 : decode cL_isSound 363 = .ok (.iconst 1, 1) := by decide +kernel
theorem dL_isSound_364 : decode cL_isSound 364 = .ok (.goto 4, 3) := by decide +kernel
theorem dL_isSound_367 : decode cL_isSound 367 = .ok (.iconst 0, 1) := by decide +kernel
theorem dL_isSound_368 : decode cL_isSound 368 = .ok (.iand, 1) := by decide +kernel
theorem dL_isSound_369 : decode cL_isSound 369 = .ok (.istore_n 1, 1) := by decide +kernel
theorem dL_isSound_370 : decode cL_isSound 370 = .ok (.iinc 2 1, 3) := by decide +kernel
theorem dL_isSound_373 : decode cL_isSound 373 = .ok (.goto (-49), 3) := by decide +kernel
theorem dL_isSound_376 : decode cL_isSound 376 = .ok (.iload_n 1, 1) := by decide +kernel
theorem dL_isSound_377 : decode cL_isSound 377 = .ok (.ireturn, 1) := by decide +kernel
theorem dL_sum_0 : decode cL_sum 0 = .ok (.bipush 7, 2) := by decide +kernel
theorem dL_sum_2 : decode cL_sum 2 = .ok (.istore_n 1, 1) := by decide +kernel
theorem dL_sum_3 : decode cL_sum 3 = .ok (.iconst 0, 1) := by decide +kernel
theorem dL_sum_4 : decode cL_sum 4 = .ok (.istore_n 2, 1) := by decide +kernel
theorem dL_sum_5 : decode cL_sum 5 = .ok (.iload_n 2, 1) := by decide +kernel
theorem dL_sum_6 : decode cL_sum 6 = .ok (.bipush 10, 2) := by decide +kernel
theorem dL_sum_8 : decode cL_sum 8 = .ok (.if_icmp .ge 20, 3) := by decide +kernel
theorem dL_sum_11 : decode cL_sum 11 = .ok (.bipush 31, 2) := by decide +kernel
theorem dL_sum_13 : decode cL_sum 13 = .ok (.iload_n 1, 1) := by decide +kernel
theorem dL_sum_14 : decode cL_sum 14 = .ok (.imul, 1) := by decide +kernel
theorem dL_sum_15 : decode cL_sum 15 = .ok (.aload_n 0, 1) := by decide +kernel
theorem dL_sum_16 : decode cL_sum 16 = .ok (.iload_n 2, 1) := by decide +kernel
theorem dL_sum_17 : decode cL_sum 17 = .ok (.invokevirtual 180, 3) := by decide +kernel
theorem dL_sum_20 : decode cL_sum 20 = .ok (.iadd, 1) := by decide +kernel
theorem dL_sum_21 : decode cL_sum 21 = .ok (.istore_n 1, 1) := by decide +kernel
theorem dL_sum_22 : decode cL_sum 22 = .ok (.iinc 2 1, 3) := by decide +kernel
theorem dL_sum_25 : decode cL_sum 25 = .ok (.goto (-20), 3) := by decide +kernel
theorem dL_sum_28 : decode cL_sum 28 = .ok (.iconst 0, 1) := by decide +kernel
theorem dL_sum_29 : decode cL_sum 29 = .ok (.istore_n 2, 1) := by decide +kernel
theorem dL_sum_30 : decode cL_sum 30 = .ok (.iload_n 2, 1) := by decide +kernel
theorem dL_sum_31 : decode cL_sum 31 = .ok (.bipush 6, 2) := by decide +kernel
theorem dL_sum_33 : decode cL_sum 33 = .ok (.if_icmp .ge 178, 3) := by decide +kernel
theorem dL_sum_36 : decode cL_sum 36 = .ok (.bipush 31, 2) := by decide +kernel
theorem dL_sum_38 : decode cL_sum 38 = .ok (.iload_n 1, 1) := by decide +kernel
theorem dL_sum_39 : decode cL_sum 39 = .ok (.imul, 1) := by decide +kernel
theorem dL_sum_40 : decode cL_sum 40 = .ok (.aload_n 0, 1) := by decide +kernel
theorem dL_sum_41 : decode cL_sum 41 = .ok (.iload_n 2, 1) := by decide +kernel
theorem dL_sum_42 : decode cL_sum 42 = .ok (.invokevirtual 141, 3) := by decide +kernel
theorem dL_sum_45 : decode cL_sum 45 = .ok (.iadd, 1) := by decide +kernel
theorem dL_sum_46 : decode cL_sum 46 = .ok (.iconst 4, 1) := by decide +kernel
theorem dL_sum_47 : decode cL_sum 47 = .ok (.aload_n 0, 1) := by decide +kernel
theorem dL_sum_48 : decode cL_sum 48 = .ok (.iload_n 2, 1) := by decide +kernel
theorem dL_sum_49 : decode cL_sum 49 = .ok (.invokevirtual 209, 3) := by decide +kernel
theorem dL_sum_52 : decode cL_sum 52 = .ok (.imul, 1) := by decide +kernel
theorem dL_sum_53 : decode cL_sum 53 = .ok (.iadd, 1) := by decide +kernel
theorem dL_sum_54 : decode cL_sum 54 = .ok (.istore_n 1, 1) := by decide +kernel
theorem dL_sum_55 : decode cL_sum 55 = .ok (.iconst 0, 1) := by decide +kernel
theorem dL_sum_56 : decode cL_sum 56 = .ok (.istore_n 3, 1) := by decide +kernel
theorem dL_sum_57 : decode cL_sum 57 = .ok (.iload_n 3, 1) := by decide +kernel
theorem dL_sum_58 : decode cL_sum 58 = .ok (.iconst 5, 1) := by decide +kernel
theorem dL_sum_59 : decode cL_sum 59 = .ok (.if_icmp .ge 21, 3) := by decide +kernel
theorem dL_sum_62 : decode cL_sum 62 = .ok (.bipush 31, 2) := by decide +kernel
theorem dL_sum_64 : decode cL_sum 64 = .ok (.iload_n 1, 1) := by decide +kernel
theorem dL_sum_65 : decode cL_sum 65 = .ok (.imul, 1) := by decide +kernel
theorem dL_sum_66 : decode cL_sum 66 = .ok (.aload_n 0, 1) := by decide +kernel
theorem dL_sum_67 : decode cL_sum 67 = .ok (.iload_n 2, 1) := by decide +kernel
theorem dL_sum_68 : decode cL_sum 68 = .ok (.iload_n 3, 1) := by decide +kernel
theorem dL_sum_69 : decode cL_sum 69 = .ok (.invokevirtual 187, 3) := by decide +kernel
theorem dL_sum_72 : decode cL_sum 72 = .ok (.iadd, 1) := by decide +kernel
theorem dL_sum_73 : decode cL_sum 73 = .ok (.istore_n 1, 1) := by decide +kernel
theorem dL_sum_74 : decode cL_sum 74 = .ok (.iinc 3 1, 3) := by decide +kernel
theorem dL_sum_77 : decode cL_sum 77 = .ok (.goto (-20), 3) := by decide +kernel
theorem dL_sum_80 : decode cL_sum 80 = .ok (.iconst 0, 1) := by decide +kernel
theorem dL_sum_81 : decode cL_sum 81 = .ok (.istore_n 3, 1) := by decide +kernel
theorem dL_sum_82 : decode cL_sum 82 = .ok (.iload_n 3, 1) := by decide +kernel
theorem dL_sum_83 : decode cL_sum 83 = .ok (.aload_n 0, 1) := by decide +kernel
theorem dL_sum_84 : decode cL_sum 84 = .ok (.iload_n 2, 1) := by decide +kernel
theorem dL_sum_85 : decode cL_sum 85 = .ok (.iconst 1, 1) := by decide +kernel
theorem dL_sum_86 : decode cL_sum 86 = .ok (.invokevirtual 187, 3) := by decide +kernel
theorem dL_sum_89 : decode cL_sum 89 = .ok (.if_icmp .ge 52, 3) := by decide +kernel
theorem dL_sum_92 : decode cL_sum 92 = .ok (.bipush 31, 2) := by decide +kernel
theorem dL_sum_94 : decode cL_sum 94 = .ok (.iload_n 1, 1) := by decide +kernel
theorem dL_sum_95 : decode cL_sum 95 = .ok (.imul, 1) := by decide +kernel
theorem dL_sum_96 : decode cL_sum 96 = .ok (.aload_n 0, 1) := by decide +kernel
theorem dL_sum_97 : decode cL_sum 97 = .ok (.iload_n 2, 1) := by decide +kernel
theorem dL_sum_98 : decode cL_sum 98 = .ok (.iload_n 3, 1) := by decide +kernel
theorem dL_sum_99 : decode cL_sum 99 = .ok (.iconst 0, 1) := by decide +kernel
theorem dL_sum_100 : decode cL_sum 100 = .ok (.invokevirtual 192, 3) := by decide +kernel
theorem dL_sum_103 : decode cL_sum 103 = .ok (.iadd, 1) := by decide +kernel
theorem dL_sum_104 : decode cL_sum 104 = .ok (.bipush 60, 2) := by decide +kernel
theorem dL_sum_106 : decode cL_sum 106 = .ok (.aload_n 0, 1) := by decide +kernel
theorem dL_sum_107 : decode cL_sum 107 = .ok (.iload_n 2, 1) := by decide +kernel
theorem dL_sum_108 : decode cL_sum 108 = .ok (.iload_n 3, 1) := by decide +kernel
theorem dL_sum_109 : decode cL_sum 109 = .ok (.iconst 2, 1) := by decide +kernel
theorem dL_sum_110 : decode cL_sum 110 = .ok (.invokevirtual 192, 3) := by decide +kernel
theorem dL_sum_113 : decode cL_sum 113 = .ok (.imul, 1) := by decide +kernel
theorem dL_sum_114 : decode cL_sum 114 = .ok (.iadd, 1) := by decide +kernel
theorem dL_sum_115 : decode cL_sum 115 = .ok (.aload_n 0, 1) := by decide +kernel
theorem dL_sum_116 : decode cL_sum 116 = .ok (.iload_n 2, 1) := by decide +kernel
theorem dL_sum_117 : decode cL_sum 117 = .ok (.iload_n 3, 1) := by decide +kernel
theorem dL_sum_118 : decode cL_sum 118 = .ok (.iconst 3, 1) := by decide +kernel
theorem dL_sum_119 : decode cL_sum 119 = .ok (.invokevirtual 192, 3) := by decide +kernel
theorem dL_sum_122 : decode cL_sum 122 = .ok (.iadd, 1) := by decide +kernel
theorem dL_sum_123 : decode cL_sum 123 = .ok (.bipush 7, 2) := by decide +kernel
theorem dL_sum_125 : decode cL_sum 125 = .ok (.aload_n 0, 1) := by decide +kernel
theorem dL_sum_126 : decode cL_sum 126 = .ok (.iload_n 2, 1) := by decide +kernel
theorem dL_sum_127 : decode cL_sum 127 = .ok (.iload_n 3, 1) := by decide +kernel
theorem dL_sum_128 : decode cL_sum 128 = .ok (.iconst 4, 1) := by decide +kernel
theorem dL_sum_129 : decode cL_sum 129 = .ok (.invokevirtual 192, 3) := by decide +kernel
theorem dL_sum_132 : decode cL_sum 132 = .ok (.imul, 1) := by decide +kernel
theorem dL_sum_133 : decode cL_sum 133 = .ok (.iadd, 1) := by decide +kernel
theorem dL_sum_134 : decode cL_sum 134 = .ok (.istore_n 1, 1) := by decide +kernel
theorem dL_sum_135 : decode cL_sum 135 = .ok (.iinc 3 1, 3) := by decide +kernel
theorem dL_sum_138 : decode cL_sum 138 = .ok (.goto (-56), 3) := by decide +kernel
theorem dL_sum_141 : decode cL_sum 141 = .ok (.iconst 0, 1) := by decide +kernel
theorem dL_sum_142 : decode cL_sum 142 = .ok (.istore_n 3, 1) := by decide +kernel
theorem dL_sum_143 : decode cL_sum 143 = .ok (.iload_n 3, 1) := by decide +kernel
theorem dL_sum_144 : decode cL_sum 144 = .ok (.aload_n 0, 1) := by decide +kernel
theorem dL_sum_145 : decode cL_sum 145 = .ok (.iload_n 2, 1) := by decide +kernel
theorem dL_sum_146 : decode cL_sum 146 = .ok (.iconst 4, 1) := by decide +kernel
theorem dL_sum_147 : decode cL_sum 147 = .ok (.invokevirtual 187, 3) := by decide +kernel
theorem dL_sum_150 : decode cL_sum 150 = .ok (.if_icmp .ge 55, 3) := by decide +kernel
theorem dL_sum_153 : decode cL_sum 153 = .ok (.bipush 31, 2) := by decide +kernel
theorem dL_sum_155 : decode cL_sum 155 = .ok (.iload_n 1, 1) := by decide +kernel
theorem dL_sum_156 : decode cL_sum 156 = .ok (.imul, 1) := by decide +kernel
theorem dL_sum_157 : decode cL_sum 157 = .ok (.aload_n 0, 1) := by decide +kernel
theorem dL_sum_158 : decode cL_sum 158 = .ok (.iload_n 2, 1) := by decide +kernel
theorem dL_sum_159 : decode cL_sum 159 = .ok (.iload_n 3, 1) := by decide +kernel
theorem dL_sum_160 : decode cL_sum 160 = .ok (.iconst 0, 1) := by decide +kernel
theorem dL_sum_161 : decode cL_sum 161 = .ok (.invokevirtual 215, 3) := by decide +kernel
theorem dL_sum_164 : decode cL_sum 164 = .ok (.iadd, 1) := by decide +kernel
theorem dL_sum_165 : decode cL_sum 165 = .ok (.iconst 5, 1) := by decide +kernel
theorem dL_sum_166 : decode cL_sum 166 = .ok (.aload_n 0, 1) := by decide +kernel
theorem dL_sum_167 : decode cL_sum 167 = .ok (.iload_n 2, 1) := by decide +kernel
theorem dL_sum_168 : decode cL_sum 168 = .ok (.iload_n 3, 1) := by decide +kernel
theorem dL_sum_169 : decode cL_sum 169 = .ok (.iconst 1, 1) := by decide +kernel
theorem dL_sum_170 : decode cL_sum 170 = .ok (.invokevirtual 215, 3) := by decide +kernel
theorem dL_sum_173 : decode cL_sum 173 = .ok (.imul, 1) := by decide +kernel
theorem dL_sum_174 : decode cL_sum 174 = .ok (.iadd, 1) := by decide +kernel
theorem dL_sum_175 : decode cL_sum 175 = .ok (.bipush 25, 2) := by decide +kernel
theorem dL_sum_177 : decode cL_sum 177 = .ok (.aload_n 0, 1) := by decide +kernel
theorem dL_sum_178 : decode cL_sum 178 = .ok (.iload_n 2, 1) := by decide +kernel
theorem dL_sum_179 : decode cL_sum 179 = .ok (.iload_n 3, 1) := by decide +kernel
theorem dL_sum_180 : decode cL_sum 180 = .ok (.iconst 2, 1) := by decide +kernel
theorem dL_sum_181 : decode cL_sum 181 = .ok (.invokevirtual 215, 3) := by decide +kernel
theorem dL_sum_184 : decode cL_sum 184 = .ok (.imul, 1) := by decide +kernel
theorem dL_sum_185 : decode cL_sum 185 = .ok (.iadd, 1) := by decide +kernel
theorem dL_sum_186 : decode cL_sum 186 = .ok (.sipush 300, 3) := by decide +kernel
theorem dL_sum_189 : decode cL_sum 189 = .ok (.aload_n 0, 1) := by decide +kernel
theorem dL_sum_190 : decode cL_sum 190 = .ok (.iload_n 2, 1) := by decide +kernel
theorem dL_sum_191 : decode cL_sum 191 = .ok (.iload_n 3, 1) := by decide +kernel
theorem dL_sum_192 : decode cL_sum 192 = .ok (.iconst 3, 1) := by decide +kernel
theorem dL_sum_193 : decode cL_sum 193 = .ok (.invokevirtual 215, 3) := by decide +kernel
theorem dL_sum_196 : decode cL_sum 196 = .ok (.imul, 1) := by decide +kernel
theorem dL_sum_197 : decode cL_sum 197 = .ok (.iadd, 1) := by decide +kernel
theorem dL_sum_198 : decode cL_sum 198 = .ok (.istore_n 1, 1) := by decide +kernel
theorem dL_sum_199 : decode cL_sum 199 = .ok (.iinc 3 1, 3) := by decide +kernel
theorem dL_sum_202 : decode cL_sum 202 = .ok (.goto (-59), 3) := by decide +kernel
theorem dL_sum_205 : decode cL_sum 205 = .ok (.iinc 2 1, 3) := by decide +kernel
theorem dL_sum_208 : decode cL_sum 208 = .ok (.goto (-178), 3) := by decide +kernel
theorem dL_sum_211 : decode cL_sum 211 = .ok (.iconst 0, 1) := by decide +kernel
theorem dL_sum_212 : decode cL_sum 212 = .ok (.istore_n 2, 1) := by decide +kernel
theorem dL_sum_213 : decode cL_sum 213 = .ok (.iload_n 2, 1) := by decide +kernel
theorem dL_sum_214 : decode cL_sum 214 = .ok (.aload_n 0, 1) := by decide +kernel
theorem dL_sum_215 : decode cL_sum 215 = .ok (.invokevirtual 203, 3) := by decide +kernel
theorem dL_sum_218 : decode cL_sum 218 = .ok (.if_icmp .ge 40, 3) := by decide +kernel
theorem dL_sum_221 : decode cL_sum 221 = .ok (.bipush 31, 2) := by decide +kernel
theorem dL_sum_223 : decode cL_sum 223 = .ok (.iload_n 1, 1) := by decide +kernel
theorem dL_sum_224 : decode cL_sum 224 = .ok (.imul, 1) := by decide +kernel
theorem dL_sum_225 : decode cL_sum 225 = .ok (.aload_n 0, 1) := by decide +kernel
theorem dL_sum_226 : decode cL_sum 226 = .ok (.iload_n 2, 1) := by decide +kernel
theorem dL_sum_227 : decode cL_sum 227 = .ok (.iconst 0, 1) := by decide +kernel
theorem dL_sum_228 : decode cL_sum 228 = .ok (.invokevirtual 212, 3) := by decide +kernel
theorem dL_sum_231 : decode cL_sum 231 = .ok (.iadd, 1) := by decide +kernel
theorem dL_sum_232 : decode cL_sum 232 = .ok (.iconst 3, 1) := by decide +kernel
theorem dL_sum_233 : decode cL_sum 233 = .ok (.aload_n 0, 1) := by decide +kernel
theorem dL_sum_234 : decode cL_sum 234 = .ok (.iload_n 2, 1) := by decide +kernel
theorem dL_sum_235 : decode cL_sum 235 = .ok (.iconst 1, 1) := by decide +kernel
theorem dL_sum_236 : decode cL_sum 236 = .ok (.invokevirtual 212, 3) := by decide +kernel
theorem dL_sum_239 : decode cL_sum 239 = .ok (.imul, 1) := by decide +kernel
theorem dL_sum_240 : decode cL_sum 240 = .ok (.iadd, 1) := by decide +kernel
theorem dL_sum_241 : decode cL_sum 241 = .ok (.ldc 218, 2) := by decide +kernel
theorem dL_sum_243 : decode cL_sum 243 = .ok (.aload_n 0, 1) := by decide +kernel
theorem dL_sum_244 : decode cL_sum 244 = .ok (.iload_n 2, 1) := by decide +kernel
theorem dL_sum_245 : decode cL_sum 245 = .ok (.iconst 2, 1) := by decide +kernel
theorem dL_sum_246 : decode cL_sum 246 = .ok (.invokevirtual 212, 3) := by decide +kernel
theorem dL_sum_249 : decode cL_sum 249 = .ok (.imul, 1) := by decide +kernel
theorem dL_sum_250 : decode cL_sum 250 = .ok (.iadd, 1) := by decide +kernel
theorem dL_sum_251 : decode cL_sum 251 = .ok (.istore_n 1, 1) := by decide +kernel
theorem dL_sum_252 : decode cL_sum 252 = .ok (.iinc 2 1, 3) := by decide +kernel
theorem dL_sum_255 : decode cL_sum 255 = .ok (.goto (-42), 3) := by decide +kernel
theorem dL_sum_258 : decode cL_sum 258 = .ok (.iload_n 1, 1) := by decide +kernel
theorem dL_sum_259 : decode cL_sum 259 = .ok (.ireturn, 1) := by decide +kernel
theorem dL_areRefused_0 : decode cL_areRefused 0 = .ok (.aload_n 0, 1) := by decide +kernel
theorem dL_areRefused_1 : decode cL_areRefused 1 = .ok (.invokestatic 219, 3) := by decide +kernel
theorem dL_areRefused_4 : decode cL_areRefused 4 = .ok (.istore_n 1, 1) := by decide +kernel
theorem dL_areRefused_5 : decode cL_areRefused 5 = .ok (.aload_n 0, 1) := by decide +kernel
theorem dL_areRefused_6 : decode cL_areRefused 6 = .ok (.ldc 222, 2) := by decide +kernel
theorem dL_areRefused_8 : decode cL_areRefused 8 = .ok (.invokestatic 66, 3) := by decide +kernel
theorem dL_areRefused_11 : decode cL_areRefused 11 = .ok (.ifCond .eq 56, 3) := by decide +kernel
theorem dL_areRefused_14 : decode cL_areRefused 14 = .ok (.aload_n 0, 1) := by decide +kernel
theorem dL_areRefused_15 : decode cL_areRefused 15 = .ok (.bipush 6, 2) := by decide +kernel
theorem dL_areRefused_17 : decode cL_areRefused 17 = .ok (.iconst 0, 1) := by decide +kernel
theorem dL_areRefused_18 : decode cL_areRefused 18 = .ok (.iconst 0, 1) := by decide +kernel
theorem dL_areRefused_19 : decode cL_areRefused 19 = .ok (.iconst 0, 1) := by decide +kernel
theorem dL_areRefused_20 : decode cL_areRefused 20 = .ok (.invokestatic 70, 3) := by decide +kernel
theorem dL_areRefused_23 : decode cL_areRefused 23 = .ok (.iconst (-1), 1) := by decide +kernel
theorem dL_areRefused_24 : decode cL_areRefused 24 = .ok (.if_icmp .ne 43, 3) := by decide +kernel
theorem dL_areRefused_27 : decode cL_areRefused 27 = .ok (.aload_n 0, 1) := by decide +kernel
theorem dL_areRefused_28 : decode cL_areRefused 28 = .ok (.ldc 222, 2) := by decide +kernel
theorem dL_areRefused_30 : decode cL_areRefused 30 = .ok (.iconst 5, 1) := by decide +kernel
theorem dL_areRefused_31 : decode cL_areRefused 31 = .ok (.iconst 1, 1) := by decide +kernel
theorem dL_areRefused_32 : decode cL_areRefused 32 = .ok (.iconst 1, 1) := by decide +kernel
theorem dL_areRefused_33 : decode cL_areRefused 33 = .ok (.iconst 1, 1) := by decide +kernel
theorem dL_areRefused_34 : decode cL_areRefused 34 = .ok (.iconst 5, 1) := by decide +kernel
theorem dL_areRefused_35 : decode cL_areRefused 35 = .ok (.invokestatic 197, 3) := by decide +kernel
theorem dL_areRefused_38 : decode cL_areRefused 38 = .ok (.bipush (-3), 2) := by decide +kernel
theorem dL_areRefused_40 : decode cL_areRefused 40 = .ok (.if_icmp .ne 27, 3) := by decide +kernel
theorem dL_areRefused_43 : decode cL_areRefused 43 = .ok (.aload_n 0, 1) := by decide +kernel
theorem dL_areRefused_44 : decode cL_areRefused 44 = .ok (.bipush 6, 2) := by decide +kernel
theorem dL_areRefused_46 : decode cL_areRefused 46 = .ok (.invokestatic 159, 3) := by decide +kernel
theorem dL_areRefused_49 : decode cL_areRefused 49 = .ok (.iconst (-1), 1) := by decide +kernel
theorem dL_areRefused_50 : decode cL_areRefused 50 = .ok (.if_icmp .ne 17, 3) := by decide +kernel
theorem dL_areRefused_53 : decode cL_areRefused 53 = .ok (.aload_n 0, 1) := by decide +kernel
theorem dL_areRefused_54 : decode cL_areRefused 54 = .ok (.iconst 5, 1) := by decide +kernel
theorem dL_areRefused_55 : decode cL_areRefused 55 = .ok (.invokestatic 159, 3) := by decide +kernel
theorem dL_areRefused_58 : decode cL_areRefused 58 = .ok (.bipush (-2), 2) := by decide +kernel
theorem dL_areRefused_60 : decode cL_areRefused 60 = .ok (.if_icmp .ne 7, 3) := by decide +kernel
theorem dL_areRefused_63 : decode cL_areRefused 63 = .ok (.iconst 1, 1) := by decide +kernel
theorem dL_areRefused_64 : decode cL_areRefused 64 = .ok (.goto 4, 3) := by decide +kernel
theorem dL_areRefused_67 : decode cL_areRefused 67 = .ok (.iconst 0, 1) := by decide +kernel
theorem dL_areRefused_68 : decode cL_areRefused 68 = .ok (.istore_n 2, 1) := by decide +kernel
theorem dL_areRefused_69 : decode cL_areRefused 69 = .ok (.iload_n 2, 1) := by decide +kernel
theorem dL_areRefused_70 : decode cL_areRefused 70 = .ok (.aload_n 0, 1) := by decide +kernel
theorem dL_areRefused_71 : decode cL_areRefused 71 = .ok (.ldc 222, 2) := by decide +kernel
theorem dL_areRefused_73 : decode cL_areRefused 73 = .ok (.invokestatic 66, 3) := by decide +kernel
theorem dL_areRefused_76 : decode cL_areRefused 76 = .ok (.ifCond .eq 64, 3) := by decide +kernel
theorem dL_areRefused_79 : decode cL_areRefused 79 = .ok (.aload_n 0, 1) := by decide +kernel
theorem dL_areRefused_80 : decode cL_areRefused 80 = .ok (.iconst 0, 1) := by decide +kernel
theorem dL_areRefused_81 : decode cL_areRefused 81 = .ok (.iconst 0, 1) := by decide +kernel
theorem dL_areRefused_82 : decode cL_areRefused 82 = .ok (.iconst 1, 1) := by decide +kernel
theorem dL_areRefused_83 : decode cL_areRefused 83 = .ok (.iconst 1, 1) := by decide +kernel
theorem dL_areRefused_84 : decode cL_areRefused 84 = .ok (.invokestatic 70, 3) := by decide +kernel
theorem dL_areRefused_87 : decode cL_areRefused 87 = .ok (.bipush (-2), 2) := by decide +kernel
theorem dL_areRefused_89 : decode cL_areRefused 89 = .ok (.if_icmp .ne 51, 3) := by decide +kernel
theorem dL_areRefused_92 : decode cL_areRefused 92 = .ok (.aload_n 0, 1) := by decide +kernel
theorem dL_areRefused_93 : decode cL_areRefused 93 = .ok (.iconst 0, 1) := by decide +kernel
theorem dL_areRefused_94 : decode cL_areRefused 94 = .ok (.iconst 3, 1) := by decide +kernel
theorem dL_areRefused_95 : decode cL_areRefused 95 = .ok (.iconst 1, 1) := by decide +kernel
theorem dL_areRefused_96 : decode cL_areRefused 96 = .ok (.invokestatic 189, 3) := by decide +kernel
theorem dL_areRefused_99 : decode cL_areRefused 99 = .ok (.bipush (-2), 2) := by decide +kernel
theorem dL_areRefused_101 : decode cL_areRefused 101 = .ok (.if_icmp .ne 39, 3) := by decide +kernel
theorem dL_areRefused_104 : decode cL_areRefused 104 = .ok (.aload_n 0, 1) := by decide +kernel
theorem dL_areRefused_105 : decode cL_areRefused 105 = .ok (.iconst 0, 1) := by decide +kernel
theorem dL_areRefused_106 : decode cL_areRefused 106 = .ok (.iconst 0, 1) := by decide +kernel
theorem dL_areRefused_107 : decode cL_areRefused 107 = .ok (.invokestatic 162, 3) := by decide +kernel
theorem dL_areRefused_110 : decode cL_areRefused 110 = .ok (.bipush (-2), 2) := by decide +kernel
theorem dL_areRefused_112 : decode cL_areRefused 112 = .ok (.if_icmp .ne 28, 3) := by decide +kernel
theorem dL_areRefused_115 : decode cL_areRefused 115 = .ok (.aload_n 0, 1) := by decide +kernel
theorem dL_areRefused_116 : decode cL_areRefused 116 = .ok (.bipush 6, 2) := by decide +kernel
theorem dL_areRefused_118 : decode cL_areRefused 118 = .ok (.invokestatic 76, 3) := by decide +kernel
theorem dL_areRefused_121 : decode cL_areRefused 121 = .ok (.bipush (-8), 2) := by decide +kernel
theorem dL_areRefused_123 : decode cL_areRefused 123 = .ok (.if_icmp .ne 17, 3) := by decide +kernel
theorem dL_areRefused_126 : decode cL_areRefused 126 = .ok (.aload_n 0, 1) := by decide +kernel
theorem dL_areRefused_127 : decode cL_areRefused 127 = .ok (.iconst 5, 1) := by decide +kernel
theorem dL_areRefused_128 : decode cL_areRefused 128 = .ok (.invokestatic 76, 3) := by decide +kernel
theorem dL_areRefused_131 : decode cL_areRefused 131 = .ok (.bipush (-9), 2) := by decide +kernel
theorem dL_areRefused_133 : decode cL_areRefused 133 = .ok (.if_icmp .ne 7, 3) := by decide +kernel
theorem dL_areRefused_136 : decode cL_areRefused 136 = .ok (.iconst 1, 1) := by decide +kernel
theorem dL_areRefused_137 : decode cL_areRefused 137 = .ok (.goto 4, 3) := by decide +kernel
theorem dL_areRefused_140 : decode cL_areRefused 140 = .ok (.iconst 0, 1) := by decide +kernel
theorem dL_areRefused_141 : decode cL_areRefused 141 = .ok (.iand, 1) := by decide +kernel
theorem dL_areRefused_142 : decode cL_areRefused 142 = .ok (.istore_n 2, 1) := by decide +kernel
theorem dL_areRefused_143 : decode cL_areRefused 143 = .ok (.iload_n 2, 1) := by decide +kernel
theorem dL_areRefused_144 : decode cL_areRefused 144 = .ok (.ifCond .eq 15, 3) := by decide +kernel
theorem dL_areRefused_147 : decode cL_areRefused 147 = .ok (.aload_n 0, 1) := by decide +kernel
theorem dL_areRefused_148 : decode cL_areRefused 148 = .ok (.invokestatic 219, 3) := by decide +kernel
theorem dL_areRefused_151 : decode cL_areRefused 151 = .ok (.iload_n 1, 1) := by decide +kernel
theorem dL_areRefused_152 : decode cL_areRefused 152 = .ok (.if_icmp .ne 7, 3) := by decide +kernel
theorem dL_areRefused_155 : decode cL_areRefused 155 = .ok (.iconst 1, 1) := by decide +kernel
theorem dL_areRefused_156 : decode cL_areRefused 156 = .ok (.goto 4, 3) := by decide +kernel
theorem dL_areRefused_159 : decode cL_areRefused 159 = .ok (.iconst 0, 1) := by decide +kernel
theorem dL_areRefused_160 : decode cL_areRefused 160 = .ok (.ireturn, 1) := by decide +kernel
theorem dL_isKept_0 : decode cL_isKept 0 = .ok (.aload_n 2, 1) := by decide +kernel
theorem dL_isKept_1 : decode cL_isKept 1 = .ok (.invokevirtual 224, 3) := by decide +kernel
theorem dL_isKept_4 : decode cL_isKept 4 = .ok (.istore_n 3, 1) := by decide +kernel
theorem dL_isKept_5 : decode cL_isKept 5 = .ok (.aload_n 2, 1) := by decide +kernel
theorem dL_isKept_6 : decode cL_isKept 6 = .ok (.invokestatic 219, 3) := by decide +kernel
theorem dL_isKept_9 : decode cL_isKept 9 = .ok (.istore 4, 2) := by decide +kernel
theorem dL_isKept_11 : decode cL_isKept 11 = .ok (.iconst 1, 1) := by decide +kernel
theorem dL_isKept_12 : decode cL_isKept 12 = .ok (.istore 5, 2) := by decide +kernel
theorem dL_isKept_14 : decode cL_isKept 14 = .ok (.iconst 0, 1) := by decide +kernel
theorem dL_isKept_15 : decode cL_isKept 15 = .ok (.istore 6, 2) := by decide +kernel
theorem dL_isKept_17 : decode cL_isKept 17 = .ok (.iload 6, 2) := by decide +kernel
theorem dL_isKept_19 : decode cL_isKept 19 = .ok (.iconst 5, 1) := by decide +kernel
theorem dL_isKept_20 : decode cL_isKept 20 = .ok (.if_icmp .ge 28, 3) := by decide +kernel
theorem dL_isKept_23 : decode cL_isKept 23 = .ok (.iload 5, 2) := by decide +kernel
theorem dL_isKept_25 : decode cL_isKept 25 = .ok (.aload_n 0, 1) := by decide +kernel
theorem dL_isKept_26 : decode cL_isKept 26 = .ok (.iload_n 1, 1) := by decide +kernel
theorem dL_isKept_27 : decode cL_isKept 27 = .ok (.bipush 6, 2) := by decide +kernel
theorem dL_isKept_29 : decode cL_isKept 29 = .ok (.iload 6, 2) := by decide +kernel
theorem dL_isKept_31 : decode cL_isKept 31 = .ok (.imul, 1) := by decide +kernel
theorem dL_isKept_32 : decode cL_isKept 32 = .ok (.iadd, 1) := by decide +kernel
theorem dL_isKept_33 : decode cL_isKept 33 = .ok (.iconst 3, 1) := by decide +kernel
theorem dL_isKept_34 : decode cL_isKept 34 = .ok (.iadd, 1) := by decide +kernel
theorem dL_isKept_35 : decode cL_isKept 35 = .ok (.aload_n 2, 1) := by decide +kernel
theorem dL_isKept_36 : decode cL_isKept 36 = .ok (.invokestatic 123, 3) := by decide +kernel
theorem dL_isKept_39 : decode cL_isKept 39 = .ok (.iand, 1) := by decide +kernel
theorem dL_isKept_40 : decode cL_isKept 40 = .ok (.istore 5, 2) := by decide +kernel
theorem dL_isKept_42 : decode cL_isKept 42 = .ok (.iinc 6 1, 3) := by decide +kernel
theorem dL_isKept_45 : decode cL_isKept 45 = .ok (.goto (-28), 3) := by decide +kernel
theorem dL_isKept_48 : decode cL_isKept 48 = .ok (.iload 5, 2) := by decide +kernel
theorem dL_isKept_50 : decode cL_isKept 50 = .ok (.ifCond .eq 35, 3) := by decide +kernel
theorem dL_isKept_53 : decode cL_isKept 53 = .ok (.aload_n 2, 1) := by decide +kernel
theorem dL_isKept_54 : decode cL_isKept 54 = .ok (.invokestatic 120, 3) := by decide +kernel
theorem dL_isKept_57 : decode cL_isKept 57 = .ok (.iload_n 3, 1) := by decide +kernel
theorem dL_isKept_58 : decode cL_isKept 58 = .ok (.if_icmp .ne 27, 3) := by decide +kernel
theorem dL_isKept_61 : decode cL_isKept 61 = .ok (.aload_n 2, 1) := by decide +kernel
theorem dL_isKept_62 : decode cL_isKept 62 = .ok (.invokestatic 219, 3) := by decide +kernel
theorem dL_isKept_65 : decode cL_isKept 65 = .ok (.iload 4, 2) := by decide +kernel
theorem dL_isKept_67 : decode cL_isKept 67 = .ok (.if_icmp .ne 18, 3) := by decide +kernel
theorem dL_isKept_70 : decode cL_isKept 70 = .ok (.aload_n 2, 1) := by decide +kernel
theorem dL_isKept_71 : decode cL_isKept 71 = .ok (.iconst 1, 1) := by decide +kernel
theorem dL_isKept_72 : decode cL_isKept 72 = .ok (.invokevirtual 173, 3) := by decide +kernel
theorem dL_isKept_75 : decode cL_isKept 75 = .ok (.iload_n 3, 1) := by decide +kernel
theorem dL_isKept_76 : decode cL_isKept 76 = .ok (.iconst 1, 1) := by decide +kernel
theorem dL_isKept_77 : decode cL_isKept 77 = .ok (.iadd, 1) := by decide +kernel
theorem dL_isKept_78 : decode cL_isKept 78 = .ok (.if_icmp .ne 7, 3) := by decide +kernel
theorem dL_isKept_81 : decode cL_isKept 81 = .ok (.iconst 1, 1) := by decide +kernel
theorem dL_isKept_82 : decode cL_isKept 82 = .ok (.goto 4, 3) := by decide +kernel
theorem dL_isKept_85 : decode cL_isKept 85 = .ok (.iconst 0, 1) := by decide +kernel
theorem dL_isKept_86 : decode cL_isKept 86 = .ok (.ireturn, 1) := by decide +kernel
end
section
/-! THE MEMORY: a picture of the heap by addresses of its own (0, 1, 2 ..), typed: the ints, longs, floats and references of a cell by its address and place; a cell's kind and length; the next address; how many cells and slots were made. -/
abbrev Mem : Type := (Nat → Nat → Int32) × (Nat → Nat → Int64) × (Nat → Nat → UInt32) × (Nat → Nat → Option Nat) × (Nat → Nat × Nat) × Nat × Nat × Nat
abbrev mI (M : Mem) : Nat → Nat → Int32 := M.1
abbrev mL (M : Mem) : Nat → Nat → Int64 := M.2.1
abbrev mF (M : Mem) : Nat → Nat → UInt32 := M.2.2.1
abbrev mR (M : Mem) : Nat → Nat → Option Nat := M.2.2.2.1
abbrev mK (M : Mem) : Nat → Nat × Nat := M.2.2.2.2.1
abbrev mN (M : Mem) : Nat := M.2.2.2.2.2.1
abbrev mC (M : Mem) : Nat := M.2.2.2.2.2.2.1
abbrev mS (M : Mem) : Nat := M.2.2.2.2.2.2.2
def sI (M : Mem) (f : Nat → Nat → Int32) : Mem := (f, M.2)
def sL (M : Mem) (f : Nat → Nat → Int64) : Mem := (M.1, f, M.2.2)
def sF (M : Mem) (f : Nat → Nat → UInt32) : Mem := (M.1, M.2.1, f, M.2.2.2)
def sR (M : Mem) (f : Nat → Nat → Option Nat) : Mem := (M.1, M.2.1, M.2.2.1, f, M.2.2.2.2)
def up2 {α : Type} (f : Nat → Nat → α) (a i : Nat) (x : α) : Nat → Nat → α := fun b j => if b = a ∧ j = i then x else f b j
def cl2 {α : Type} (f : Nat → Nat → α) (a : Nat) (x : α) : Nat → Nat → α := fun b j => if b = a then x else f b j
theorem up2_eq {α : Type} (f : Nat → Nat → α) (a i : Nat) (x : α) : up2 f a i x a i = x := by simp [up2]
theorem up2_ne {α : Type} (f : Nat → Nat → α) {a b : Nat} (i j : Nat) (x : α) (h : b ≠ a) : up2 f a i x b j = f b j := by simp [up2, h]
theorem up2_nj {α : Type} (f : Nat → Nat → α) (a b : Nat) {i j : Nat} (x : α) (h : j ≠ i) : up2 f a i x b j = f b j := by simp [up2, h]
theorem cl2_eq {α : Type} (f : Nat → Nat → α) (a j : Nat) (x : α) : cl2 f a x a j = x := by simp [cl2]
theorem cl2_ne {α : Type} (f : Nat → Nat → α) {a b : Nat} (j : Nat) (x : α) (h : b ≠ a) : cl2 f a x b j = f b j := by simp [cl2, h]
/-- an index in a row of n places -/
def ix (i : Int32) (n : Nat) : Option Nat := if i < 0 ∨ n ≤ i.toNatClampNeg then none else some i.toNatClampNeg
/-- the fields of an object of class k, the elements of an array of kind k -/
def gI (k f a : Nat) (M : Mem) : Option Int32 := if (mK M a).1 = k then some (mI M a f) else none
def gL (k f a : Nat) (M : Mem) : Option Int64 := if (mK M a).1 = k then some (mL M a f) else none
def gF (k f a : Nat) (M : Mem) : Option UInt32 := if (mK M a).1 = k then some (mF M a f) else none
def gR (k f a : Nat) (M : Mem) : Option Nat := if (mK M a).1 = k then mR M a f else none
def pI (k f a : Nat) (x : Int32) (M : Mem) : Option Mem := if (mK M a).1 = k then some (sI M (up2 (mI M) a f x)) else none
def pZ (k f a : Nat) (x : Int32) (M : Mem) : Option Mem := if (mK M a).1 = k ∧ (x = 0 ∨ x = 1) then some (sI M (up2 (mI M) a f x)) else none
def pL (k f a : Nat) (x : Int64) (M : Mem) : Option Mem := if (mK M a).1 = k then some (sL M (up2 (mL M) a f x)) else none
def pF (k f a : Nat) (x : UInt32) (M : Mem) : Option Mem := if (mK M a).1 = k then some (sF M (up2 (mF M) a f x)) else none
def pR (k f a : Nat) (x : Nat) (M : Mem) : Option Mem := if (mK M a).1 = k ∧ (mK M x).1 ≠ 99 then some (sR M (up2 (mR M) a f (some x))) else none
def aI (k a : Nat) (i : Int32) (M : Mem) : Option Int32 := if (mK M a).1 = k then (ix i (mK M a).2).map (mI M a) else none
def aL (a : Nat) (i : Int32) (M : Mem) : Option Int64 := if (mK M a).1 = 14 then (ix i (mK M a).2).map (mL M a) else none
def aF (a : Nat) (i : Int32) (M : Mem) : Option UInt32 := if (mK M a).1 = 15 then (ix i (mK M a).2).map (mF M a) else none
def aR (k a : Nat) (i : Int32) (M : Mem) : Option Nat := if (mK M a).1 = k then (ix i (mK M a).2).bind (mR M a) else none
def nar (k : Nat) (x : Int32) : Int32 := if k = 16 then vp_nar .char x else if k = 17 then vp_nar .boolean x else x
def wI (k a : Nat) (i x : Int32) (M : Mem) : Option Mem := if (mK M a).1 = k then (ix i (mK M a).2).map (fun j => sI M (up2 (mI M) a j (nar k x))) else none
def wL (a : Nat) (i : Int32) (x : Int64) (M : Mem) : Option Mem := if (mK M a).1 = 14 then (ix i (mK M a).2).map (fun j => sL M (up2 (mL M) a j x)) else none
def wF (a : Nat) (i : Int32) (x : UInt32) (M : Mem) : Option Mem := if (mK M a).1 = 15 then (ix i (mK M a).2).map (fun j => sF M (up2 (mF M) a j x)) else none
/-- a reference into a row of references to objects of class kc -/
def wR (k kc a : Nat) (i : Int32) (x : Nat) (M : Mem) : Option Mem := if (mK M a).1 = k ∧ (mK M x).1 = kc then (ix i (mK M a).2).map (fun j => sR M (up2 (mR M) a j (some x))) else none
/-- an array's length (kinds from 13 on) -/
def aN (a : Nat) (M : Mem) : Option Int32 := if 13 ≤ (mK M a).1 ∧ (mK M a).1 ≤ 23 then some (Int32.ofNat (mK M a).2) else none
def SCR : Nat := 1000000000
/-- a new cell of kind k, with length n and s slots, at the next address -/
def mkM (k n s : Nat) (M : Mem) : Mem := (cl2 (mI M) (mN M) 0, cl2 (mL M) (mN M) 0, cl2 (mF M) (mN M) 0, cl2 (mR M) (mN M) none, (fun a => if a = mN M then (k, n) else mK M a), mN M + 1, mC M + 1, mS M + s)
def nO (k s : Nat) (M : Mem) : Option (Nat × Mem) := if mN M + 1 < SCR then some (mN M, mkM k 0 s M) else none
def nA (k : Nat) (n : Int32) (M : Mem) : Option (Nat × Mem) := if mN M + 1 < SCR ∧ ¬ n < 0 ∧ n.toNatClampNeg ≤ 100000 then some (mN M, mkM k n.toNatClampNeg n.toNatClampNeg M) else none
/-- an exception is made: a cell of six slots that the picture doesn't hold -/
def xM (M : Mem) : Mem := (M.1, M.2.1, M.2.2.1, M.2.2.2.1, M.2.2.2.2.1, M.2.2.2.2.2.1, mC M + 1, mS M + 6)
/-- the three static rows: least, greatest, first -/
def optRow (w : Nat) (j : Nat) : Int32 := ((([[1, 0, 1, 0], [5, 20, 100, 1], [3, 0, 20, 0]] : List (List Int32)).getD w []).getD j 0)
def stI (w : Nat) (i : Int32) : Option Int32 := (ix i 4).map (optRow w)
/-- the script -/
def scI (L : Nat) (xs : Nat → Int32) (i : Int32) : Option Int32 := (ix i L).map xs
/-- floats: no NaN is made -/
def fmulO (x y : UInt32) : Option UInt32 := if FP.fmul x y &&& 0x7fffffff ≤ 0x7f800000 then some (FP.fmul x y) else none
def faddO (x y : UInt32) : Option UInt32 := if FP.fadd x y &&& 0x7fffffff ≤ 0x7f800000 then some (FP.fadd x y) else none
def imaxE (x y : Int32) : Int32 := if x < y then y else x
def iminE (x y : Int32) : Int32 := if y < x then y else x
def okZ (x : Int32) (M : Mem) : Option (Int32 × Mem) := if x = 0 ∨ x = 1 then some (x, M) else none
/-- how a method ends: what it returns, or which exception it throws (1 IllegalArgument, 2 IllegalState, 3 IndexOutOfBounds) -/
abbrev Out : Type := Option Value ⊕ Nat
def FU : Nat := 4100
/-- a call's answer and memory -/
def bindP {α β : Type} (o : Option (α × Mem)) (f : α → Mem → Option β) : Option β := match o with
  | none => none
  | some p => f p.1 p.2
/-- .. of a method that may throw; what it throws goes on -/
def bindX {α β : Type} (o : Option ((α ⊕ Nat) × Mem)) (f : α → Mem → Option ((β ⊕ Nat) × Mem)) : Option ((β ⊕ Nat) × Mem) := match o with
  | none => none
  | some (.inl a, M1) => f a M1
  | some (.inr e, M1) => some (.inr e, M1)
/-- .. what it throws is caught -/
def bindH {α β : Type} (o : Option ((α ⊕ Nat) × Mem)) (f : α → Mem → Option β) (g : Nat → Mem → Option β) : Option β := match o with
  | none => none
  | some (.inl a, M1) => f a M1
  | some (.inr e, M1) => g e M1
theorem bind_some {α β : Type} {o : Option α} {f : α → Option β} {r : β} (h : o.bind f = some r) : ∃ a, o = some a ∧ f a = some r := Option.bind_eq_some_iff.mp h
theorem bindP_some {α β : Type} {o : Option (α × Mem)} {f : α → Mem → Option β} {r : β} (h : bindP o f = some r) : ∃ a M1, o = some (a, M1) ∧ f a M1 = some r := by
  cases o with
  | none => cases h
  | some p => exact ⟨p.1, p.2, rfl, h⟩
theorem bindX_some {α β : Type} {o : Option ((α ⊕ Nat) × Mem)} {f : α → Mem → Option ((β ⊕ Nat) × Mem)} {r : β ⊕ Nat} {MF : Mem} (h : bindX o f = some (r, MF)) : (∃ a M1, o = some (.inl a, M1) ∧ f a M1 = some (r, MF)) ∨ ∃ e, o = some (.inr e, MF) ∧ r = .inr e := by
  rcases o with _ | ⟨a | e, M1⟩
  · cases h
  · exact Or.inl ⟨a, M1, rfl, h⟩
  · cases h; exact Or.inr ⟨e, rfl, rfl⟩
theorem bindH_some {α β : Type} {o : Option ((α ⊕ Nat) × Mem)} {f : α → Mem → Option β} {g : Nat → Mem → Option β} {r : β} (h : bindH o f g = some r) : (∃ a M1, o = some (.inl a, M1) ∧ f a M1 = some r) ∨ ∃ e M1, o = some (.inr e, M1) ∧ g e M1 = some r := by
  rcases o with _ | ⟨a | e, M1⟩
  · cases h
  · exact Or.inl ⟨a, M1, rfl, h⟩
  · exact Or.inr ⟨e, M1, rfl, h⟩
def cvV (_ : Unit) : Out := .inl none
def cvI (x : Int32) : Out := .inl (some (.int x))
def cvL (x : Int64) : Out := .inl (some (.long x))
def cvR (x : Nat) : Out := .inl (some (.ref x))
def cxV : Unit ⊕ Nat → Out := fun o => match o with
  | .inl _ => .inl none
  | .inr e => .inr e
def cxI : Int32 ⊕ Nat → Out := fun o => match o with
  | .inl x => .inl (some (.int x))
  | .inr e => .inr e
def cxR : Nat ⊕ Nat → Out := fun o => match o with
  | .inl x => .inl (some (.ref x))
  | .inr e => .inr e
end
section
/-- what kind of thing a field holds: 0 an int, 1 a long, 2 a float, 3 a reference -/
def fT : Nat → Nat → Nat := fun k f => (([[0, 0, 0, 3, 3, 3, 2, 0], [3, 0, 0, 0, 0, 0, 0], [3, 0], [0, 0, 0, 0, 0, 3], [3, 0, 0], [0, 0, 0, 0, 3, 0, 3, 0, 3, 3], [3, 0, 3, 0], [3, 3, 3, 0, 3, 0, 3, 3, 3, 0, 3], [3, 0, 0, 0], [3, 3, 0], [3, 3, 0, 0, 0], [3, 0, 0, 0, 3, 3, 3, 0, 3], []] : List (List Nat)).getD k []).getD f 0
def nF : Nat → Nat := fun k => ([8, 7, 2, 6, 3, 10, 4, 11, 4, 3, 5, 9, 0] : List Nat).getD k 0
def tyA : List FieldType := [.int, .long, .float, .char, .boolean, .object RX0, .object RX1, .object RX3, .object RX6, .object RX8, .object RX10]
end
section
/-! THE WORLD: how the memory's picture lies in the machine's heap; the judgement V of a walk over the picture -/
def bw (w : Cond) : Bool := match w with
  | .declares _ => true
  | .castable _ _ => true
  | .fieldLinkNest _ _ _ _ _ _ => true
  | .privateMethod _ => true
  | .arrayOver (.object _) => true
  | _ => false
def GW : List Cond := lw_tbl.filter goodWord
def BW : List Cond := lw_tbl.filter bw
theorem bw_warm {w : Cond} (h : bw w = true) {A A' : Array Value} {s U : State} (hW : s.WarmedH U.vm) (hb : w.before A s = true) : w.before A' U = true := by
  unfold bw at h
  split at h
  · exact (va_Nw.warmD hW (va_Nw.of rfl hb)).use rfl
  · exact (va_Nw.warmC hW (va_Nw.of rfl hb)).use rfl
  · exact va_tabs rfl (rfl : (s.setVm U.vm).vm = U.vm) (Cond.fieldLinkNest_warmed (args := A) hW hb)
  · exact va_tabs (A := A) rfl (rfl : (s.setVm U.vm).vm = U.vm) (by rw [Cond.privateMethod_setVm hW.alike]; exact hb)
  · exact va_AO.use (va_AO.moved hW.alike (va_AO.of hb))
  · cases h
abbrev Gl : Type := (Nat → ClassId) × (Nat → Nat → Nat) × (Nat → ClassId) × Nat × Nat × (Nat → Int32)
abbrev AO (G : Gl) : Nat → Prop := fun q => G.2.2.2.1 ≤ q
def tyG (G : Gl) : List (ClassId × FieldType) := (List.range 11).map (fun j => (G.2.2.1 j, tyA.getD j .int))
def fv (M : Mem) (ρ : Nat → Nat) (k a f : Nat) : Value := match fT k f with
  | 0 => .int (mI M a f)
  | 1 => .long (mL M a f)
  | 2 => .float (mF M a f)
  | _ => va_rf ((mR M a f).map ρ)
def flds (M : Mem) (ρ : Nat → Nat) (k a : Nat) : List Value := (List.range (nF k)).map (fv M ρ k a)
def cE (G : Gl) (M : Mem) (ρ : Nat → Nat) (a : Nat) : va_E :=
  if (mK M a).1 < 13 then .inr ((mK M a).1, flds M ρ (mK M a).1 a)
  else if (mK M a).1 = 14 then .inl (G.2.2.1 1, (mK M a).2, .inr (.inl (mL M a)))
  else if (mK M a).1 = 15 then .inl (G.2.2.1 2, (mK M a).2, .inr (.inr (.inl (mF M a))))
  else if (mK M a).1 < 18 then .inl (G.2.2.1 ((mK M a).1 - 13), (mK M a).2, .inl (mI M a))
  else .inl (G.2.2.1 ((mK M a).1 - 13), (mK M a).2, .inr (.inr (.inr (.inr (fun i => (mR M a i).map ρ)))))
def wsM (G : Gl) (M : Mem) (ρ : Nat → Nat) : va_W := (List.range (mN M)).map (fun a => (ρ a, cE G M ρ a))
def HR (G : Gl) (M : Mem) (ρ : Nat → Nat) (H : Heap) : Prop :=
  va_P (G.1, G.2.1) vwCl (wsM G M ρ) H ∧ va_D (AO G) (wsM G M ρ) ∧ (∀ a, mN M ≤ a → (mK M a).1 = 99) ∧ (∀ a i b, mR M a i = some b → b < mN M) ∧ mN M < SCR
def stN (i : Nat) : String := (["OPTION_LEAST", "OPTION_GREATEST", "OPTION_FIRST"] : List String).getD i ""
def ncs : List (String × String) := [("java/lang/IllegalStateException", "java/lang/IllegalArgumentException"), ("java/lang/IndexOutOfBoundsException", "java/lang/IllegalArgumentException"), ("java/lang/IndexOutOfBoundsException", "java/lang/IllegalStateException"), ("java/lang/IllegalArgumentException", "java/lang/IllegalStateException"), ("java/lang/IllegalArgumentException", "java/lang/IndexOutOfBoundsException"), ("java/lang/IllegalStateException", "java/lang/IndexOutOfBoundsException")]
def exN (e : Nat) : String := (["", "java/lang/IllegalArgumentException", "java/lang/IllegalStateException", "java/lang/IndexOutOfBoundsException"] : List String).getD e ""
/-- the String constants of the law: their places in the pool, texts, bytes -/
def poJS : List Nat := [222, 81, 94, 227, 229, 231, 233, 235, 237, 239, 241, 243, 245, 247, 249, 251, 253, 255, 257, 259, 261, 263, 265, 267, 269, 271, 273]
def txJS : List String := ["a", "#", "+", "a/#", "a/+", "+/b", "a/b/#", "+/+/+", "a/b/c/d", "a/+/c/#", "b1/+/+/#", "+/b/+/d", "b1", "abcdef/z9", "+/#", "b1/b1/b1/b1", "a/b", "a/b1", "b1/b", "a/b/c", "a/b1/c", "b1/b/c", "a/b1/c/d", "z", "a/z/c/0", "b1/a/b/d", "abcdef"]
def byJS : List (List Int32) := [[97], [35], [43], [97, 47, 35], [97, 47, 43], [43, 47, 98], [97, 47, 98, 47, 35], [43, 47, 43, 47, 43], [97, 47, 98, 47, 99, 47, 100], [97, 47, 43, 47, 99, 47, 35], [98, 49, 47, 43, 47, 43, 47, 35], [43, 47, 98, 47, 43, 47, 100], [98, 49], [97, 98, 99, 100, 101, 102, 47, 122, 57], [43, 47, 35], [98, 49, 47, 98, 49, 47, 98, 49, 47, 98, 49], [97, 47, 98], [97, 47, 98, 49], [98, 49, 47, 98], [97, 47, 98, 47, 99], [97, 47, 98, 49, 47, 99], [98, 49, 47, 98, 47, 99], [97, 47, 98, 49, 47, 99, 47, 100], [122], [97, 47, 122, 47, 99, 47, 48], [98, 49, 47, 97, 47, 98, 47, 100], [97, 98, 99, 100, 101, 102]]
def leJS : List Nat := [1, 1, 1, 3, 3, 3, 5, 5, 7, 7, 8, 7, 2, 9, 3, 11, 3, 4, 4, 5, 6, 6, 8, 1, 7, 8, 6]
/-- the two rows of texts: FILTERS, TOPICS -/
def flJS : List (List Nat) := [[1, 2, 0, 3, 4, 5, 6, 7, 8, 9, 10, 11, 12, 13, 14, 15], [0, 12, 16, 17, 18, 19, 20, 21, 8, 22, 15, 13, 23, 24, 25, 26]]
def flN (i : Nat) : String := (["FILTERS", "TOPICS"] : List String).getD i ""
def qfC : String := "jdk/internal/util/Preconditions"
def qfN : String := "SIOOBE_FORMATTER"
def qfD : String := "Ljava/util/function/BiFunction;"
/-- what is known of the law's texts, at a method's entry -/
def KStr (G : Gl) (ρ : Nat → Nat) (U : State) : Prop :=
  (∀ i, i < 2 → va_Z "GradedTopicBrokerLaw" (flN i) "[Ljava/lang/String;" (.ref (ρ (SCR + 4 + i))) (AO G) U U.heap ∧ va_T (.object "java/lang/String") (ρ (SCR + 4 + i)) 16 (fun j => .ref (ρ (SCR + 16 + (flJS.getD i []).getD j 0))) (AO G) U U.heap) ∧
  vk_S 27 leJS byJS (fun i => ρ (SCR + 16 + i)) (fun i => ρ (SCR + 64 + i)) (AO G) U U.heap ∧ (∀ i, i < 27 → vk_R "GradedTopicBrokerLaw" (poJS.getD i 0) (txJS.getD i "") (ρ (SCR + 16 + i)) U) ∧
  va_Z "java/lang/String" "COMPACT_STRINGS" "Z" (.int 1) (AO G) U U.heap ∧ va_Zq qfC qfN qfD (AO G) U U.heap
theorem KStr.moved {G : Gl} {ρ ρ' : Nat → Nat} {u U : State} (h : KStr G ρ u) (hW : u.WarmedH U.vm) (hk : ∀ q : Nat, q < u.heap.size → ¬ AO G q → U.heap[q]? = u.heap[q]?) (hρ : ∀ a, SCR ≤ a → ρ' a = ρ a) : KStr G ρ' U := by
  obtain ⟨h1, h2, h3, h4, h5⟩ := h
  refine ⟨fun i hi => ?_, ?_, fun i hi => ?_, va_Z.moved hW.alike (va_Z.kept h4 hk), va_Zq.moved hW.alike (va_Zq.kept h5 hk)⟩
  · have e : (fun j => Value.ref (ρ' (SCR + 16 + (flJS.getD i []).getD j 0))) = fun j => Value.ref (ρ (SCR + 16 + (flJS.getD i []).getD j 0)) := by
      funext j; rw [hρ _ (by omega)]
    rw [hρ (SCR + 4 + i) (by omega), e]
    exact ⟨va_Z.moved hW.alike (va_Z.kept (h1 i hi).1 hk), va_T.moved hW.alike (va_T.kept (h1 i hi).2 hk)⟩
  · have e1 : (fun i => ρ' (SCR + 16 + i)) = fun i => ρ (SCR + 16 + i) := by funext j; rw [hρ _ (by omega)]
    have e2 : (fun i => ρ' (SCR + 64 + i)) = fun i => ρ (SCR + 64 + i) := by funext j; rw [hρ _ (by omega)]
    rw [e1, e2]
    exact vk_S.moved hW.alike (vk_S.kept h2 hk)
  · rw [hρ _ (by omega)]
    exact vk_R.warm hW (h3 i hi)
/-- what is known of the tables and of the statics, at a method's entry -/
def KN (G : Gl) (ρ : Nat → Nat) (U : State) : Prop :=
  va_K (G.1, G.2.1) vwCl (tyG G) U ∧ (∀ w ∈ BW, w.before #[] U = true) ∧ G.2.2.2.1 ≤ U.heap.size ∧
  (∀ i, i < 3 → va_Z RX11 (stN i) "[I" (.ref (ρ (SCR + 1 + i))) (AO G) U U.heap ∧ va_T .int (ρ (SCR + 1 + i)) 4 (fun j => .int (optRow i j)) (AO G) U U.heap) ∧
  vx_Zq Bundle.tN "UNASSIGNED_STACK" Bundle.steD (AO G) U U.heap ∧ vx_Zq Bundle.tN "SUPPRESSED_SENTINEL" Bundle.listD (AO G) U U.heap ∧ (∀ q ∈ ncs, va_Nc q.1 q.2 U) ∧
  va_X (ρ SCR) G.2.2.2.2.1 G.2.2.2.2.2 U U.heap ∧ ρ SCR < U.heap.size ∧ ¬ AO G (ρ SCR) ∧ KStr G ρ U
theorem KN.moved {G : Gl} {ρ ρ' : Nat → Nat} {u U : State} (h : KN G ρ u) (hW : u.WarmedH U.vm) (hz : u.heap.size ≤ U.heap.size) (hk : ∀ q : Nat, q < u.heap.size → ¬ AO G q → U.heap[q]? = u.heap[q]?) (hρ : ∀ a, SCR ≤ a → ρ' a = ρ a) : KN G ρ' U := by
  obtain ⟨h1, h2, h3, h4, h5, h6, h7, x1, x2, x3, x4⟩ := h
  refine ⟨va_K.moved hW.alike h1, fun w hw => bw_warm (List.mem_filter.mp hw).2 hW (h2 w hw), Nat.le_trans h3 hz, fun i hi => ?_, vx_Zq.moved hW.alike (vx_Zq.kept h5 hk), vx_Zq.moved hW.alike (vx_Zq.kept h6 hk), fun q hq => va_Nc.moved hW.alike (h7 q hq), ?_⟩
  · rw [hρ (SCR + 1 + i) (by omega)]
    exact ⟨va_Z.moved hW.alike (va_Z.kept (h4 i hi).1 hk), va_T.moved hW.alike (va_T.kept (h4 i hi).2 hk)⟩
  · rw [hρ SCR (Nat.le_refl _)]
    exact ⟨va_X.moved hW.alike (va_X.kept x1 (hk _ x2 x3)), Nat.lt_of_lt_of_le x2 hz, x3, x4.moved hW hk hρ⟩
def mv (ρ : Nat → Nat) (v : Value) : Value := match v with
  | .ref a => .ref (ρ a)
  | w => w
def ml (ρ : Nat → Nat) (q : Nat × Value) : Nat × Value := (q.1, mv ρ q.2)
def vok (n : Nat) (v : Value) : Prop := match v with
  | .ref a => a < n ∨ SCR ≤ a
  | _ => True
def sok (n : Nat) : List Value → Prop
  | [] => True
  | v :: r => vok n v ∧ sok n r
def lok (n : Nat) : List (Nat × Value) → Prop
  | [] => True
  | q :: r => vok n q.2 ∧ lok n r
def Ext (M0 : Mem) (ρ0 : Nat → Nat) (M : Mem) (ρ : Nat → Nat) : Prop := mN M0 ≤ mN M ∧ ∀ a, (a < mN M0 ∨ SCR ≤ a) → ρ a = ρ0 a
theorem Ext.rf (M : Mem) (ρ : Nat → Nat) : Ext M ρ M ρ := ⟨Nat.le_refl _, fun _ _ => rfl⟩
theorem Ext.tr {M0 M1 M2 : Mem} {ρ0 ρ1 ρ2 : Nat → Nat} (h : Ext M0 ρ0 M1 ρ1) (k : Ext M1 ρ1 M2 ρ2) : Ext M0 ρ0 M2 ρ2 :=
  ⟨Nat.le_trans h.1 k.1, fun a ha => (k.2 a (ha.imp (fun q => Nat.lt_of_lt_of_le q h.1) id)).trans (h.2 a ha)⟩
theorem vok_mono {n k : Nat} (h : n ≤ k) {v : Value} (hv : vok n v) : vok k v := by
  cases v <;> first | trivial | exact hv.imp (fun q => Nat.lt_of_lt_of_le q h) id
theorem sok_mono {n k : Nat} (h : n ≤ k) : ∀ {l : List Value}, sok n l → sok k l
  | [], _ => trivial
  | _ :: _, hv => ⟨vok_mono h hv.1, sok_mono h hv.2⟩
theorem lok_mono {n k : Nat} (h : n ≤ k) : ∀ {l : List (Nat × Value)}, lok n l → lok k l
  | [], _ => trivial
  | _ :: _, hv => ⟨vok_mono h hv.1, lok_mono h hv.2⟩
theorem mv_ext {n : Nat} {ρ ρ' : Nat → Nat} (h : ∀ a, (a < n ∨ SCR ≤ a) → ρ' a = ρ a) {v : Value} (hv : vok n v) : mv ρ' v = mv ρ v := by
  cases v <;> first | rfl | exact congrArg Value.ref (h _ hv)
theorem mvs_ext {n : Nat} {ρ ρ' : Nat → Nat} (h : ∀ a, (a < n ∨ SCR ≤ a) → ρ' a = ρ a) : ∀ {l : List Value}, sok n l → l.map (mv ρ') = l.map (mv ρ)
  | [], _ => rfl
  | _ :: _, hv => by rw [List.map_cons, List.map_cons, mv_ext h hv.1, mvs_ext h hv.2]
theorem mls_ext {n : Nat} {ρ ρ' : Nat → Nat} (h : ∀ a, (a < n ∨ SCR ≤ a) → ρ' a = ρ a) : ∀ {l : List (Nat × Value)}, lok n l → l.map (ml ρ') = l.map (ml ρ)
  | [], _ => rfl
  | q :: _, hv => by rw [List.map_cons, List.map_cons, show ml ρ' q = ml ρ q from by unfold ml; rw [mv_ext h hv.1], mls_ext h hv.2]
theorem lok_at {n : Nat} : ∀ {l : List (Nat × Value)} {k : Nat} {q : Nat × Value}, lok n l → l[k]? = some q → vok n q.2
  | [], _, _, _, h => by cases h
  | _ :: _, 0, _, hv, h => by cases h; exact hv.1
  | _ :: _, k + 1, _, hv, h => lok_at (k := k) hv.2 h
theorem lok_filter {n : Nat} (p : Nat × Value → Bool) : ∀ {l : List (Nat × Value)}, lok n l → lok n (l.filter p)
  | [], _ => trivial
  | q :: r, hv => by
    rw [List.filter_cons]
    by_cases hp : p q = true
    · rw [if_pos hp]; exact ⟨hv.1, lok_filter p hv.2⟩
    · rw [if_neg hp]; exact lok_filter p hv.2
theorem lok_of {n : Nat} : ∀ {l : List (Nat × Value)}, (∀ q ∈ l, vok n q.2) → lok n l
  | [], _ => trivial
  | _ :: _, h => ⟨h _ List.mem_cons_self, lok_of (fun q hq => h q (List.mem_cons_of_mem _ hq))⟩
theorem lok_mem {n : Nat} : ∀ {l : List (Nat × Value)} {q : Nat × Value}, lok n l → q ∈ l → vok n q.2
  | _ :: _, _, hv, h => by
    rcases List.mem_cons.mp h with rfl | h
    · exact hv.1
    · exact lok_mem hv.2 h
theorem lok_pick {n : Nat} {l : List (Nat × Value)} (h : lok n l) (ks : List Nat) : lok n (lv_pick l ks) := lok_of fun q hq => by
  obtain ⟨k, -, hk⟩ := List.mem_filterMap.mp hq
  exact lok_at h hk
theorem ml_pick (ρ : Nat → Nat) (l : List (Nat × Value)) (ks : List Nat) : lv_pick (l.map (ml ρ)) ks = (lv_pick l ks).map (ml ρ) := by
  unfold lv_pick
  induction ks with
  | nil => rfl
  | cons k r ih =>
    rw [List.filterMap_cons, List.filterMap_cons, List.getElem?_map]
    cases l[k]? with
    | none => exact ih
    | some q => exact congrArg _ ih
theorem ml_filter (ρ : Nat → Nat) (p : Nat × Value → Bool) (hp : ∀ q, p (ml ρ q) = p q) (l : List (Nat × Value)) : (l.map (ml ρ)).filter p = (l.filter p).map (ml ρ) := by
  induction l with
  | nil => rfl
  | cons q r ih =>
    rw [List.map_cons, List.filter_cons, List.filter_cons, hp q, ih]
    cases p q <;> rfl
theorem mv_cat (ρ : Nat → Nat) (v : Value) : (mv ρ v).category = v.category := by cases v <;> rfl
theorem mv_cats (ρ : Nat → Nat) (l : List Value) : (l.map (mv ρ)).map (fun v => v.category) = l.map (fun v => v.category) := by
  rw [List.map_map]
  exact List.map_congr_left fun v _ => mv_cat ρ v
/-- the place of an address in the world -/
theorem ws_at {G : Gl} {M : Mem} {ρ : Nat → Nat} {a : Nat} (h : a < mN M) : (wsM G M ρ)[a]? = some (ρ a, cE G M ρ a) := by
  unfold wsM
  rw [List.getElem?_map, List.getElem?_range h]
  rfl
theorem kd_lt {G : Gl} {M : Mem} {ρ : Nat → Nat} {H : Heap} (h : HR G M ρ H) {a k : Nat} (hk : (mK M a).1 = k) (h9 : k ≠ 99) : a < mN M := by
  rcases Nat.lt_or_ge a (mN M) with q | q
  · exact q
  · exact absurd ((h.2.2.1 a q).symm.trans hk) (fun z => h9 z.symm)
theorem ws_obj {G : Gl} {M : Mem} {ρ : Nat → Nat} {H : Heap} (h : HR G M ρ H) {a k : Nat} (hk : (mK M a).1 = k) (hlt : k < 13) : (wsM G M ρ)[a]? = some (ρ a, .inr (k, flds M ρ k a)) := by
  subst hk
  rw [ws_at (kd_lt h rfl (by omega)), cE, if_pos hlt]
theorem ws_set {G : Gl} {M M' : Mem} {ρ : Nat → Nat} {a : Nat} {e : va_E} (hn : mN M' = mN M) (he : cE G M' ρ a = e) (ho : ∀ b, b ≠ a → cE G M' ρ b = cE G M ρ b) : (wsM G M ρ).set a (ρ a, e) = wsM G M' ρ := by
  subst he
  apply List.ext_getElem?
  intro j
  rw [List.getElem?_set]
  by_cases hj : a = j
  · subst hj
    rw [if_pos rfl]
    by_cases hl : a < mN M
    · rw [if_pos (by unfold wsM; simp; exact hl), ws_at (by rw [hn]; exact hl)]
    · rw [if_neg (by unfold wsM; simp; omega)]
      unfold wsM
      rw [List.getElem?_eq_none (by simp; omega)]
  · rw [if_neg hj]
    unfold wsM
    rw [hn, List.getElem?_map, List.getElem?_map]
    by_cases hl : j < mN M
    · rw [List.getElem?_range hl]
      show some (ρ j, cE G M ρ j) = some (ρ j, cE G M' ρ j)
      rw [ho j (fun q => hj q.symm)]
    · rw [List.getElem?_eq_none (by simp; omega)]
      rfl
theorem ws_push {G : Gl} {M M' : Mem} {ρ ρ' : Nat → Nat} {q : Nat} {e : va_E} (hn : mN M' = mN M + 1) (he : cE G M' ρ' (mN M) = e) (hq : ρ' (mN M) = q) (ho : ∀ b, b < mN M → (ρ' b, cE G M' ρ' b) = (ρ b, cE G M ρ b)) : wsM G M ρ ++ [(q, e)] = wsM G M' ρ' := by
  subst he; subst hq
  unfold wsM
  rw [hn, List.range_succ, List.map_append]
  congr 1
  exact List.map_congr_left fun b hb => (ho b (List.mem_range.mp hb)).symm
abbrev Cx : Type := Program × Launch × Env × Room × State × MethodId × Array Value × List Frame × Method × Code × (State → Prop)
abbrev Cx.p (X : Cx) : Program := X.1
abbrev Cx.l (X : Cx) : Launch := X.2.1
abbrev Cx.e (X : Cx) : Env := X.2.2.1
abbrev Cx.R (X : Cx) : Room := X.2.2.2.1
abbrev Cx.s (X : Cx) : State := X.2.2.2.2.1
abbrev Cx.m (X : Cx) : MethodId := X.2.2.2.2.2.1
abbrev Cx.args (X : Cx) : Array Value := X.2.2.2.2.2.2.1
abbrev Cx.below (X : Cx) : List Frame := X.2.2.2.2.2.2.2.1
abbrev Cx.meth (X : Cx) : Method := X.2.2.2.2.2.2.2.2.1
abbrev Cx.c (X : Cx) : Code := X.2.2.2.2.2.2.2.2.2.1
abbrev Cx.Q (X : Cx) : State → Prop := X.2.2.2.2.2.2.2.2.2.2
/-- the entry's addresses and memory, the outcome and memory at the end -/
abbrev Bx : Type := (Nat → Nat) × Mem × Out × Mem
def vokO (n : Nat) (v : Option Value) : Prop := match v with
  | none => True
  | some w => vok n w
def QcP (G : Gl) (B : Bx) : Array Value → State → Outcome → State → Prop := fun _ st oc t => (∃ (v : Option Value) (ρ : Nat → Nat), B.2.2.1 = .inl v ∧ oc = .returned (v.map (mv ρ)) ∧ vokO (mN B.2.2.2) v ∧ Ext B.2.1 B.1 B.2.2.2 ρ ∧ HR G B.2.2.2 ρ t.heap) ∧ va_F (AO G) st t
def XcP (G : Gl) (B : Bx) : String → State → State → Prop := fun E st t => (∃ (e : Nat) (ρ : Nat → Nat), B.2.2.1 = .inr e ∧ E = exN e ∧ Ext B.2.1 B.1 B.2.2.2 ρ ∧ HR G B.2.2.2 ρ t.heap) ∧ va_F (AO G) st t
/-- a method: its class, code, what it returns, the frames and words that it nests, its locals, its name, its table -/
abbrev Sx : Type := String × ByteArray × Option FieldType × Nat × Nat × Nat × String × List (Nat × Nat × Nat × Nat)
/-- what holds throughout a method's walk -/
def Ok (X : Cx) (G : Gl) (S : Sx) (B : Bx) : Prop :=
  X.p.tables.exec = Jvm.exec ∧ X.c.code = S.2.1 ∧ X.s.vm.findClass S.1 = some X.m.cls ∧ (∀ w ∈ GW, w.before X.args X.s = true) ∧ KN G B.1 X.s ∧ X.meth.locks = false ∧ X.l.stackTraces = false ∧
  X.Q = vx_MQ X.below (QcP G B) (XcP G B) X.args X.s (mC B.2.2.2 - mC B.2.1) (mS B.2.2.2 - mS B.2.1) (AO G) ∧ X.R = { frames := S.2.2.2.1, cells := mC B.2.2.2 - mC B.2.1, slots := mS B.2.2.2 - mS B.2.1, locals := S.2.2.2.2.1 } ∧ X.meth.sig.returnType = S.2.2.1 ∧
  X.c.maxLocals = S.2.2.2.2.2.1 ∧ X.meth.name = S.2.2.2.2.2.2.1 ∧ X.c.exceptionTable.toList = tableOf S.2.2.2.2.2.2.2
/-- THE JUDGEMENT: from the frame at pc with these locals and operands, over any heap that holds M, the machine comes to its end as B says -/
def V (G : Gl) (S : Sx) (B : Bx) (pc : Nat) (ls : List (Nat × Value)) (st : List Value) (M : Mem) : Prop :=
  (mC M ≤ mC B.2.2.2 ∧ mS M ≤ mS B.2.2.2) ∧ ∀ (X : Cx), Ok X G S B → ∀ (ρ : Nat → Nat) (H : Heap) (locs : List Loc) (cells slots : Nat) (la : Array Slot),
    HR G M ρ H → lok (mN M) ls → sok (mN M) st → Ext B.2.1 B.1 M ρ → va_S (AO G) X.s.heap H locs → cells + mC B.2.1 ≤ mC M → slots + mS B.2.1 ≤ mS M → lv_has la X.c.maxLocals (ls.map (ml ρ)) →
    W X.p X.l X.e X.R X.s X.m X.args X.below X.meth X.c H locs cells slots X.Q (F0 X.m pc la (st.map (mv ρ)))
end
section
/-! ROWS: one instruction, over the picture -/
def iremE (x y : Int32) : Int32 := x - x / y * y
def lremE (x y : Int64) : Int64 := x - x / y * y
def i2cE (x : Int32) : Int32 := (x.toUInt32 % 65536).toInt32
def iushrE (x y : Int32) : Int32 := (x.toUInt32 >>> (y.toUInt32 &&& Int32.toUInt32 31)).toInt32
def lshlE (x : Int64) (y : Int32) : Int64 := x <<< (y.toInt64 &&& 63)
def lcmpE (x y : Int64) : Int32 := lg_cmp x y
section
variable {G : Gl} {B : Bx} {own : String} {cc : ByteArray} {ret : Option FieldType} {fr lo nL : Nat} {mn : String} {hh : List (Nat × Nat × Nat × Nat)} {pc : Nat} {ls : List (Nat × Value)} {st : List Value} {M : Mem}
theorem v_iconst  {n : Int} (hd : decode cc pc = .ok (.iconst n, 1)) {v : Int32} (hv : Int32.ofInt n = v) (k : V G (own, cc, ret, fr, lo, nL, mn, hh) B (pc + 1) ls (.int v :: st) M) : V G (own, cc, ret, fr, lo, nL, mn, hh) B pc ls (st) M :=
  ⟨k.1, fun X h ρ H locs cells slots la hH hl hs he hS hc hn hla => lv_iconst h.1 h.2.1 hd hv (k.2 X h ρ H locs cells slots la hH hl ⟨trivial, hs⟩ he hS hc hn hla)⟩
theorem v_bipush  {n : Int} (hd : decode cc pc = .ok (.bipush n, 2)) {v : Int32} (hv : (Int8.ofInt n).toInt32 = v) (k : V G (own, cc, ret, fr, lo, nL, mn, hh) B (pc + 2) ls (.int v :: st) M) : V G (own, cc, ret, fr, lo, nL, mn, hh) B pc ls (st) M :=
  ⟨k.1, fun X h ρ H locs cells slots la hH hl hs he hS hc hn hla => lv_bipush h.1 h.2.1 hd hv (k.2 X h ρ H locs cells slots la hH hl ⟨trivial, hs⟩ he hS hc hn hla)⟩
theorem v_sipush  {n : Int} (hd : decode cc pc = .ok (.sipush n, 3)) {v : Int32} (hv : (Int16.ofInt n).toInt32 = v) (k : V G (own, cc, ret, fr, lo, nL, mn, hh) B (pc + 3) ls (.int v :: st) M) : V G (own, cc, ret, fr, lo, nL, mn, hh) B pc ls (st) M :=
  ⟨k.1, fun X h ρ H locs cells slots la hH hl hs he hS hc hn hla => lv_sipush h.1 h.2.1 hd hv (k.2 X h ρ H locs cells slots la hH hl ⟨trivial, hs⟩ he hS hc hn hla)⟩
theorem v_lconst  {n : Fin 2} (hd : decode cc pc = .ok (.lconst n, 1)) {v : Int64} (hv : Int64.ofNat (n : Nat) = v) (k : V G (own, cc, ret, fr, lo, nL, mn, hh) B (pc + 1) ls (.long v :: st) M) : V G (own, cc, ret, fr, lo, nL, mn, hh) B pc ls (st) M :=
  ⟨k.1, fun X h ρ H locs cells slots la hH hl hs he hS hc hn hla => lv_lconst h.1 h.2.1 hd hv (k.2 X h ρ H locs cells slots la hH hl ⟨trivial, hs⟩ he hS hc hn hla)⟩
theorem v_iload_n  {n : Fin 4} {i : Nat} {x : Int32} (hd : decode cc pc = .ok (.iload_n n, 1)) (hi : (n : Nat) = i) (q : Nat) (hq : ls[q]? = some (i, .int x)) (k : V G (own, cc, ret, fr, lo, nL, mn, hh) B (pc + 1) ls (.int x :: st) M) : V G (own, cc, ret, fr, lo, nL, mn, hh) B pc ls (st) M :=
  ⟨k.1, fun X h ρ H locs cells slots la hH hl hs he hS hc hn hla => lv_iload_n h.1 h.2.1 hd hi (lv_at hla q (by rw [List.getElem?_map, hq]; rfl)) (k.2 X h ρ H locs cells slots la hH hl ⟨trivial, hs⟩ he hS hc hn hla)⟩
theorem v_iload  {i : Nat} {x : Int32} (hd : decode cc pc = .ok (.iload i, 2)) (q : Nat) (hq : ls[q]? = some (i, .int x)) (k : V G (own, cc, ret, fr, lo, nL, mn, hh) B (pc + 2) ls (.int x :: st) M) : V G (own, cc, ret, fr, lo, nL, mn, hh) B pc ls (st) M :=
  ⟨k.1, fun X h ρ H locs cells slots la hH hl hs he hS hc hn hla => lv_iload h.1 h.2.1 hd (lv_at hla q (by rw [List.getElem?_map, hq]; rfl)) (k.2 X h ρ H locs cells slots la hH hl ⟨trivial, hs⟩ he hS hc hn hla)⟩
theorem v_lload_n  {n : Fin 4} {i : Nat} {x : Int64} (hd : decode cc pc = .ok (.lload_n n, 1)) (hi : (n : Nat) = i) (q : Nat) (hq : ls[q]? = some (i, .long x)) (k : V G (own, cc, ret, fr, lo, nL, mn, hh) B (pc + 1) ls (.long x :: st) M) : V G (own, cc, ret, fr, lo, nL, mn, hh) B pc ls (st) M :=
  ⟨k.1, fun X h ρ H locs cells slots la hH hl hs he hS hc hn hla => lv_lload_n h.1 h.2.1 hd hi (lv_at hla q (by rw [List.getElem?_map, hq]; rfl)) (k.2 X h ρ H locs cells slots la hH hl ⟨trivial, hs⟩ he hS hc hn hla)⟩
theorem v_lload  {i : Nat} {x : Int64} (hd : decode cc pc = .ok (.lload i, 2)) (q : Nat) (hq : ls[q]? = some (i, .long x)) (k : V G (own, cc, ret, fr, lo, nL, mn, hh) B (pc + 2) ls (.long x :: st) M) : V G (own, cc, ret, fr, lo, nL, mn, hh) B pc ls (st) M :=
  ⟨k.1, fun X h ρ H locs cells slots la hH hl hs he hS hc hn hla => lv_lload h.1 h.2.1 hd (lv_at hla q (by rw [List.getElem?_map, hq]; rfl)) (k.2 X h ρ H locs cells slots la hH hl ⟨trivial, hs⟩ he hS hc hn hla)⟩
theorem v_aload_n  {n : Fin 4} {i : Nat} {x : Nat} (hd : decode cc pc = .ok (.aload_n n, 1)) (hi : (n : Nat) = i) (q : Nat) (hq : ls[q]? = some (i, .ref x)) (k : V G (own, cc, ret, fr, lo, nL, mn, hh) B (pc + 1) ls (.ref x :: st) M) : V G (own, cc, ret, fr, lo, nL, mn, hh) B pc ls (st) M :=
  ⟨k.1, fun X h ρ H locs cells slots la hH hl hs he hS hc hn hla => lv_aload_n h.1 h.2.1 hd hi (lv_at hla q (by rw [List.getElem?_map, hq]; rfl)) (k.2 X h ρ H locs cells slots la hH hl ⟨lok_at hl hq, hs⟩ he hS hc hn hla)⟩
theorem v_aload  {i : Nat} {x : Nat} (hd : decode cc pc = .ok (.aload i, 2)) (q : Nat) (hq : ls[q]? = some (i, .ref x)) (k : V G (own, cc, ret, fr, lo, nL, mn, hh) B (pc + 2) ls (.ref x :: st) M) : V G (own, cc, ret, fr, lo, nL, mn, hh) B pc ls (st) M :=
  ⟨k.1, fun X h ρ H locs cells slots la hH hl hs he hS hc hn hla => lv_aload h.1 h.2.1 hd (lv_at hla q (by rw [List.getElem?_map, hq]; rfl)) (k.2 X h ρ H locs cells slots la hH hl ⟨lok_at hl hq, hs⟩ he hS hc hn hla)⟩
theorem v_istore_n  {n : Fin 4} {i : Nat} {x : Int32} {ls' : List (Nat × Value)} (hd : decode cc pc = .ok (.istore_n n, 1)) (hi : (n : Nat) = i) (hn : i < nL) (hq : (i, Value.int x) :: ls.filter (fun q => !(q.1 == i) && !(q.1 + 1 == i && q.2.category == 2)) = ls') (k : V G (own, cc, ret, fr, lo, nL, mn, hh) B (pc + 1) ls' st M) : V G (own, cc, ret, fr, lo, nL, mn, hh) B pc ls (.int x :: st) M :=
  ⟨k.1, fun X h ρ H locs cells slots la hH hl hs he hS hc hn' hla => lv_istore_n h.1 h.2.1 hd hi hla (by rw [h.2.2.2.2.2.2.2.2.2.2.1]; exact hn) (lv' := ls'.map (ml ρ)) (by rw [← hq, ml_filter ρ _ (fun q => by simp [ml, mv_cat])]; rfl) (fun la' hla' => k.2 X h ρ H locs cells slots la' hH (by rw [← hq]; exact ⟨hs.1, lok_filter _ hl⟩) hs.2 he hS hc hn' hla')⟩
theorem v_istore  {i : Nat} {x : Int32} {ls' : List (Nat × Value)} (hd : decode cc pc = .ok (.istore i, 2)) (hn : i < nL) (hq : (i, Value.int x) :: ls.filter (fun q => !(q.1 == i) && !(q.1 + 1 == i && q.2.category == 2)) = ls') (k : V G (own, cc, ret, fr, lo, nL, mn, hh) B (pc + 2) ls' st M) : V G (own, cc, ret, fr, lo, nL, mn, hh) B pc ls (.int x :: st) M :=
  ⟨k.1, fun X h ρ H locs cells slots la hH hl hs he hS hc hn' hla => lv_istore h.1 h.2.1 hd hla (by rw [h.2.2.2.2.2.2.2.2.2.2.1]; exact hn) (lv' := ls'.map (ml ρ)) (by rw [← hq, ml_filter ρ _ (fun q => by simp [ml, mv_cat])]; rfl) (fun la' hla' => k.2 X h ρ H locs cells slots la' hH (by rw [← hq]; exact ⟨hs.1, lok_filter _ hl⟩) hs.2 he hS hc hn' hla')⟩
theorem v_astore_n  {n : Fin 4} {i : Nat} {x : Nat} {ls' : List (Nat × Value)} (hd : decode cc pc = .ok (.astore_n n, 1)) (hi : (n : Nat) = i) (hn : i < nL) (hq : (i, Value.ref x) :: ls.filter (fun q => !(q.1 == i) && !(q.1 + 1 == i && q.2.category == 2)) = ls') (k : V G (own, cc, ret, fr, lo, nL, mn, hh) B (pc + 1) ls' st M) : V G (own, cc, ret, fr, lo, nL, mn, hh) B pc ls (.ref x :: st) M :=
  ⟨k.1, fun X h ρ H locs cells slots la hH hl hs he hS hc hn' hla => lv_astore_n h.1 h.2.1 hd hi hla (by rw [h.2.2.2.2.2.2.2.2.2.2.1]; exact hn) (lv' := ls'.map (ml ρ)) (by rw [← hq, ml_filter ρ _ (fun q => by simp [ml, mv_cat])]; rfl) (fun la' hla' => k.2 X h ρ H locs cells slots la' hH (by rw [← hq]; exact ⟨hs.1, lok_filter _ hl⟩) hs.2 he hS hc hn' hla')⟩
theorem v_astore  {i : Nat} {x : Nat} {ls' : List (Nat × Value)} (hd : decode cc pc = .ok (.astore i, 2)) (hn : i < nL) (hq : (i, Value.ref x) :: ls.filter (fun q => !(q.1 == i) && !(q.1 + 1 == i && q.2.category == 2)) = ls') (k : V G (own, cc, ret, fr, lo, nL, mn, hh) B (pc + 2) ls' st M) : V G (own, cc, ret, fr, lo, nL, mn, hh) B pc ls (.ref x :: st) M :=
  ⟨k.1, fun X h ρ H locs cells slots la hH hl hs he hS hc hn' hla => lv_astore h.1 h.2.1 hd hla (by rw [h.2.2.2.2.2.2.2.2.2.2.1]; exact hn) (lv' := ls'.map (ml ρ)) (by rw [← hq, ml_filter ρ _ (fun q => by simp [ml, mv_cat])]; rfl) (fun la' hla' => k.2 X h ρ H locs cells slots la' hH (by rw [← hq]; exact ⟨hs.1, lok_filter _ hl⟩) hs.2 he hS hc hn' hla')⟩
theorem v_lstore_n  {n : Fin 4} {i : Nat} {x : Int64} {ls' : List (Nat × Value)} (hd : decode cc pc = .ok (.lstore_n n, 1)) (hi : (n : Nat) = i) (hn : i + 1 < nL) (hq : (i, Value.long x) :: ls.filter (fun q => !(q.1 == i) && (!(q.1 == i + 1) && !(q.1 + 1 == i && q.2.category == 2))) = ls') (k : V G (own, cc, ret, fr, lo, nL, mn, hh) B (pc + 1) ls' st M) : V G (own, cc, ret, fr, lo, nL, mn, hh) B pc ls (.long x :: st) M :=
  ⟨k.1, fun X h ρ H locs cells slots la hH hl hs he hS hc hn' hla => lv_lstore_n h.1 h.2.1 hd hi hla (by rw [h.2.2.2.2.2.2.2.2.2.2.1]; exact hn) (lv' := ls'.map (ml ρ)) (by rw [← hq, ml_filter ρ _ (fun q => by simp [ml, mv_cat])]; rfl) (fun la' hla' => k.2 X h ρ H locs cells slots la' hH (by rw [← hq]; exact ⟨hs.1, lok_filter _ hl⟩) hs.2 he hS hc hn' hla')⟩
theorem v_lstore  {i : Nat} {x : Int64} {ls' : List (Nat × Value)} (hd : decode cc pc = .ok (.lstore i, 2)) (hn : i + 1 < nL) (hq : (i, Value.long x) :: ls.filter (fun q => !(q.1 == i) && (!(q.1 == i + 1) && !(q.1 + 1 == i && q.2.category == 2))) = ls') (k : V G (own, cc, ret, fr, lo, nL, mn, hh) B (pc + 2) ls' st M) : V G (own, cc, ret, fr, lo, nL, mn, hh) B pc ls (.long x :: st) M :=
  ⟨k.1, fun X h ρ H locs cells slots la hH hl hs he hS hc hn' hla => lv_lstore h.1 h.2.1 hd hla (by rw [h.2.2.2.2.2.2.2.2.2.2.1]; exact hn) (lv' := ls'.map (ml ρ)) (by rw [← hq, ml_filter ρ _ (fun q => by simp [ml, mv_cat])]; rfl) (fun la' hla' => k.2 X h ρ H locs cells slots la' hH (by rw [← hq]; exact ⟨hs.1, lok_filter _ hl⟩) hs.2 he hS hc hn' hla')⟩
theorem v_iinc  {i : Nat} {n : Int} {x v : Int32} {ls' : List (Nat × Value)} (hd : decode cc pc = .ok (.iinc i n, 3)) (q : Nat) (hk : ls[q]? = some (i, .int x)) (hv : Int32.ofInt n = v) (hn : i < nL) (hq : (i, Value.int (x + v)) :: ls.filter (fun q => !(q.1 == i) && !(q.1 + 1 == i && q.2.category == 2)) = ls') (k : V G (own, cc, ret, fr, lo, nL, mn, hh) B (pc + 3) ls' st M) : V G (own, cc, ret, fr, lo, nL, mn, hh) B pc ls (st) M :=
  ⟨k.1, fun X h ρ H locs cells slots la hH hl hs he hS hc hn' hla => lv_iinc h.1 h.2.1 hd hla (k := q) (by rw [List.getElem?_map, hk]; rfl) (by rw [hv]) (by rw [h.2.2.2.2.2.2.2.2.2.2.1]; exact hn) (lv' := ls'.map (ml ρ)) (by rw [← hq, ml_filter ρ _ (fun q => by simp [ml, mv_cat])]; rfl) (fun la' hla' => k.2 X h ρ H locs cells slots la' hH (by rw [← hq]; exact ⟨trivial, lok_filter _ hl⟩) hs he hS hc hn' hla')⟩
theorem v_iadd  {x y : Int32} (hd : decode cc pc = .ok (.iadd, 1)) (k : V G (own, cc, ret, fr, lo, nL, mn, hh) B (pc + 1) ls (.int (x + y) :: st) M) : V G (own, cc, ret, fr, lo, nL, mn, hh) B pc ls (.int y :: .int x :: st) M :=
  ⟨k.1, fun X h ρ H locs cells slots la hH hl hs he hS hc hn hla => lv_iadd h.1 h.2.1 hd (k.2 X h ρ H locs cells slots la hH hl ⟨trivial, hs.2.2⟩ he hS hc hn hla)⟩
theorem v_isub  {x y : Int32} (hd : decode cc pc = .ok (.isub, 1)) (k : V G (own, cc, ret, fr, lo, nL, mn, hh) B (pc + 1) ls (.int (x - y) :: st) M) : V G (own, cc, ret, fr, lo, nL, mn, hh) B pc ls (.int y :: .int x :: st) M :=
  ⟨k.1, fun X h ρ H locs cells slots la hH hl hs he hS hc hn hla => lv_isub h.1 h.2.1 hd (k.2 X h ρ H locs cells slots la hH hl ⟨trivial, hs.2.2⟩ he hS hc hn hla)⟩
theorem v_imul  {x y : Int32} (hd : decode cc pc = .ok (.imul, 1)) (k : V G (own, cc, ret, fr, lo, nL, mn, hh) B (pc + 1) ls (.int (x * y) :: st) M) : V G (own, cc, ret, fr, lo, nL, mn, hh) B pc ls (.int y :: .int x :: st) M :=
  ⟨k.1, fun X h ρ H locs cells slots la hH hl hs he hS hc hn hla => lv_imul h.1 h.2.1 hd (k.2 X h ρ H locs cells slots la hH hl ⟨trivial, hs.2.2⟩ he hS hc hn hla)⟩
theorem v_iand  {x y : Int32} (hd : decode cc pc = .ok (.iand, 1)) (k : V G (own, cc, ret, fr, lo, nL, mn, hh) B (pc + 1) ls (.int (x &&& y) :: st) M) : V G (own, cc, ret, fr, lo, nL, mn, hh) B pc ls (.int y :: .int x :: st) M :=
  ⟨k.1, fun X h ρ H locs cells slots la hH hl hs he hS hc hn hla => lv_iand h.1 h.2.1 hd (k.2 X h ρ H locs cells slots la hH hl ⟨trivial, hs.2.2⟩ he hS hc hn hla)⟩
theorem v_idiv  {x y : Int32} (hd : decode cc pc = .ok (.idiv, 1)) (hne : ¬ y = 0) (k : V G (own, cc, ret, fr, lo, nL, mn, hh) B (pc + 1) ls (.int (x / y) :: st) M) : V G (own, cc, ret, fr, lo, nL, mn, hh) B pc ls (.int y :: .int x :: st) M :=
  ⟨k.1, fun X h ρ H locs cells slots la hH hl hs he hS hc hn hla => lv_idiv h.1 h.2.1 hd hne (k.2 X h ρ H locs cells slots la hH hl ⟨trivial, hs.2.2⟩ he hS hc hn hla)⟩
theorem v_irem  {x y : Int32} (hd : decode cc pc = .ok (.irem, 1)) (hne : ¬ y = 0) (k : V G (own, cc, ret, fr, lo, nL, mn, hh) B (pc + 1) ls (.int (iremE x y) :: st) M) : V G (own, cc, ret, fr, lo, nL, mn, hh) B pc ls (.int y :: .int x :: st) M :=
  ⟨k.1, fun X h ρ H locs cells slots la hH hl hs he hS hc hn hla => lv_irem h.1 h.2.1 hd hne (k.2 X h ρ H locs cells slots la hH hl ⟨trivial, hs.2.2⟩ he hS hc hn hla)⟩
theorem v_ladd  {x y : Int64} (hd : decode cc pc = .ok (.ladd, 1)) (k : V G (own, cc, ret, fr, lo, nL, mn, hh) B (pc + 1) ls (.long (x + y) :: st) M) : V G (own, cc, ret, fr, lo, nL, mn, hh) B pc ls (.long y :: .long x :: st) M :=
  ⟨k.1, fun X h ρ H locs cells slots la hH hl hs he hS hc hn hla => lv_ladd h.1 h.2.1 hd (k.2 X h ρ H locs cells slots la hH hl ⟨trivial, hs.2.2⟩ he hS hc hn hla)⟩
theorem v_lmul  {x y : Int64} (hd : decode cc pc = .ok (.lmul, 1)) (k : V G (own, cc, ret, fr, lo, nL, mn, hh) B (pc + 1) ls (.long (x * y) :: st) M) : V G (own, cc, ret, fr, lo, nL, mn, hh) B pc ls (.long y :: .long x :: st) M :=
  ⟨k.1, fun X h ρ H locs cells slots la hH hl hs he hS hc hn hla => lv_lmul h.1 h.2.1 hd (k.2 X h ρ H locs cells slots la hH hl ⟨trivial, hs.2.2⟩ he hS hc hn hla)⟩
theorem v_lor  {x y : Int64} (hd : decode cc pc = .ok (.lor, 1)) (k : V G (own, cc, ret, fr, lo, nL, mn, hh) B (pc + 1) ls (.long (x ||| y) :: st) M) : V G (own, cc, ret, fr, lo, nL, mn, hh) B pc ls (.long y :: .long x :: st) M :=
  ⟨k.1, fun X h ρ H locs cells slots la hH hl hs he hS hc hn hla => lv_lor h.1 h.2.1 hd (k.2 X h ρ H locs cells slots la hH hl ⟨trivial, hs.2.2⟩ he hS hc hn hla)⟩
theorem v_ldiv  {x y : Int64} (hd : decode cc pc = .ok (.ldiv, 1)) (hne : ¬ y = 0) (k : V G (own, cc, ret, fr, lo, nL, mn, hh) B (pc + 1) ls (.long (x / y) :: st) M) : V G (own, cc, ret, fr, lo, nL, mn, hh) B pc ls (.long y :: .long x :: st) M :=
  ⟨k.1, fun X h ρ H locs cells slots la hH hl hs he hS hc hn hla => lv_ldiv h.1 h.2.1 hd hne (k.2 X h ρ H locs cells slots la hH hl ⟨trivial, hs.2.2⟩ he hS hc hn hla)⟩
theorem v_lrem  {x y : Int64} (hd : decode cc pc = .ok (.lrem, 1)) (hne : ¬ y = 0) (k : V G (own, cc, ret, fr, lo, nL, mn, hh) B (pc + 1) ls (.long (lremE x y) :: st) M) : V G (own, cc, ret, fr, lo, nL, mn, hh) B pc ls (.long y :: .long x :: st) M :=
  ⟨k.1, fun X h ρ H locs cells slots la hH hl hs he hS hc hn hla => lv_lrem h.1 h.2.1 hd hne (k.2 X h ρ H locs cells slots la hH hl ⟨trivial, hs.2.2⟩ he hS hc hn hla)⟩
theorem v_i2l  {x : Int32} (hd : decode cc pc = .ok (.i2l, 1)) (k : V G (own, cc, ret, fr, lo, nL, mn, hh) B (pc + 1) ls (.long x.toInt64 :: st) M) : V G (own, cc, ret, fr, lo, nL, mn, hh) B pc ls (.int x :: st) M :=
  ⟨k.1, fun X h ρ H locs cells slots la hH hl hs he hS hc hn hla => lv_i2l h.1 h.2.1 hd rfl (k.2 X h ρ H locs cells slots la hH hl ⟨trivial, hs.2⟩ he hS hc hn hla)⟩
theorem v_l2i  {x : Int64} (hd : decode cc pc = .ok (.l2i, 1)) (k : V G (own, cc, ret, fr, lo, nL, mn, hh) B (pc + 1) ls (.int x.toInt32 :: st) M) : V G (own, cc, ret, fr, lo, nL, mn, hh) B pc ls (.long x :: st) M :=
  ⟨k.1, fun X h ρ H locs cells slots la hH hl hs he hS hc hn hla => lv_l2i h.1 h.2.1 hd rfl (k.2 X h ρ H locs cells slots la hH hl ⟨trivial, hs.2⟩ he hS hc hn hla)⟩
theorem v_i2c  {x : Int32} (hd : decode cc pc = .ok (.i2c, 1)) (k : V G (own, cc, ret, fr, lo, nL, mn, hh) B (pc + 1) ls (.int (i2cE x) :: st) M) : V G (own, cc, ret, fr, lo, nL, mn, hh) B pc ls (.int x :: st) M :=
  ⟨k.1, fun X h ρ H locs cells slots la hH hl hs he hS hc hn hla => lv_i2c h.1 h.2.1 hd rfl (k.2 X h ρ H locs cells slots la hH hl ⟨trivial, hs.2⟩ he hS hc hn hla)⟩
theorem v_iushr  {x y : Int32} (hd : decode cc pc = .ok (.iushr, 1)) (k : V G (own, cc, ret, fr, lo, nL, mn, hh) B (pc + 1) ls (.int (iushrE x y) :: st) M) : V G (own, cc, ret, fr, lo, nL, mn, hh) B pc ls (.int y :: .int x :: st) M :=
  ⟨k.1, fun X h ρ H locs cells slots la hH hl hs he hS hc hn hla => lv_iushr h.1 h.2.1 hd rfl (k.2 X h ρ H locs cells slots la hH hl ⟨trivial, hs.2.2⟩ he hS hc hn hla)⟩
theorem v_lshl  {x : Int64} {y : Int32} (hd : decode cc pc = .ok (.lshl, 1)) (k : V G (own, cc, ret, fr, lo, nL, mn, hh) B (pc + 1) ls (.long (lshlE x y) :: st) M) : V G (own, cc, ret, fr, lo, nL, mn, hh) B pc ls (.int y :: .long x :: st) M :=
  ⟨k.1, fun X h ρ H locs cells slots la hH hl hs he hS hc hn hla => lv_lshl h.1 h.2.1 hd rfl (k.2 X h ρ H locs cells slots la hH hl ⟨trivial, hs.2.2⟩ he hS hc hn hla)⟩
theorem v_lcmp  {x y : Int64} (hd : decode cc pc = .ok (.lcmp, 1)) (k : V G (own, cc, ret, fr, lo, nL, mn, hh) B (pc + 1) ls (.int (lcmpE x y) :: st) M) : V G (own, cc, ret, fr, lo, nL, mn, hh) B pc ls (.long y :: .long x :: st) M :=
  ⟨k.1, fun X h ρ H locs cells slots la hH hl hs he hS hc hn hla => W.lcmp h.1 h.2.1 hd (k.2 X h ρ H locs cells slots la hH hl ⟨trivial, hs.2.2⟩ he hS hc hn hla)⟩
theorem v_i2f  {x : Int32} (hd : decode cc pc = .ok (.i2f, 1)) (k : V G (own, cc, ret, fr, lo, nL, mn, hh) B (pc + 1) ls (.float (FP.i2f x) :: st) M) : V G (own, cc, ret, fr, lo, nL, mn, hh) B pc ls (.int x :: st) M :=
  ⟨k.1, fun X h ρ H locs cells slots la hH hl hs he hS hc hn hla => lv_i2f h.1 h.2.1 hd (k.2 X h ρ H locs cells slots la hH hl ⟨trivial, hs.2⟩ he hS hc hn hla)⟩
theorem v_f2i  {x : UInt32} (hd : decode cc pc = .ok (.f2i, 1)) (k : V G (own, cc, ret, fr, lo, nL, mn, hh) B (pc + 1) ls (.int (FP.f2i x) :: st) M) : V G (own, cc, ret, fr, lo, nL, mn, hh) B pc ls (.float x :: st) M :=
  ⟨k.1, fun X h ρ H locs cells slots la hH hl hs he hS hc hn hla => lv_f2i h.1 h.2.1 hd (k.2 X h ρ H locs cells slots la hH hl ⟨trivial, hs.2⟩ he hS hc hn hla)⟩
theorem v_fmul  {x y z : UInt32} (hd : decode cc pc = .ok (.fmul, 1)) (hz : fmulO x y = some z) (k : V G (own, cc, ret, fr, lo, nL, mn, hh) B (pc + 1) ls (.float z :: st) M) : V G (own, cc, ret, fr, lo, nL, mn, hh) B pc ls (.float y :: .float x :: st) M := by
  unfold fmulO at hz
  split at hz
  · rename_i hne
    cases hz
    exact ⟨k.1, fun X h ρ H locs cells slots la hH hl hs he hS hc hn hla => lv_fmul h.1 h.2.1 hd hne (k.2 X h ρ H locs cells slots la hH hl ⟨trivial, hs.2.2⟩ he hS hc hn hla)⟩
  · cases hz
theorem v_fadd  {x y z : UInt32} (hd : decode cc pc = .ok (.fadd, 1)) (hz : faddO x y = some z) (k : V G (own, cc, ret, fr, lo, nL, mn, hh) B (pc + 1) ls (.float z :: st) M) : V G (own, cc, ret, fr, lo, nL, mn, hh) B pc ls (.float y :: .float x :: st) M := by
  unfold faddO at hz
  split at hz
  · rename_i hne
    cases hz
    exact ⟨k.1, fun X h ρ H locs cells slots la hH hl hs he hS hc hn hla => lv_fadd h.1 h.2.1 hd hne (k.2 X h ρ H locs cells slots la hH hl ⟨trivial, hs.2.2⟩ he hS hc hn hla)⟩
  · cases hz
theorem v_dup  {v : Value} (hd : decode cc pc = .ok (.dup, 1)) (hv : v.category = 1) (k : V G (own, cc, ret, fr, lo, nL, mn, hh) B (pc + 1) ls (v :: v :: st) M) : V G (own, cc, ret, fr, lo, nL, mn, hh) B pc ls (v :: st) M :=
  ⟨k.1, fun X h ρ H locs cells slots la hH hl hs he hS hc hn hla => lv_dup h.1 h.2.1 hd (by rw [mv_cat]; exact hv) (k.2 X h ρ H locs cells slots la hH hl ⟨hs.1, hs⟩ he hS hc hn hla)⟩
theorem v_pop  {v : Value} (hd : decode cc pc = .ok (.pop, 1)) (hv : v.category = 1) (k : V G (own, cc, ret, fr, lo, nL, mn, hh) B (pc + 1) ls (st) M) : V G (own, cc, ret, fr, lo, nL, mn, hh) B pc ls (v :: st) M :=
  ⟨k.1, fun X h ρ H locs cells slots la hH hl hs he hS hc hn hla => lv_pop h.1 h.2.1 hd (by rw [mv_cat]; exact hv) (k.2 X h ρ H locs cells slots la hH hl hs.2 he hS hc hn hla)⟩
theorem v_dup2  {v w : Value} (hd : decode cc pc = .ok (.dup2, 1)) (hv : v.category = 1) (hw : w.category = 1) (k : V G (own, cc, ret, fr, lo, nL, mn, hh) B (pc + 1) ls (v :: w :: v :: w :: st) M) : V G (own, cc, ret, fr, lo, nL, mn, hh) B pc ls (v :: w :: st) M :=
  ⟨k.1, fun X h ρ H locs cells slots la hH hl hs he hS hc hn hla => lv_dup2_11 h.1 h.2.1 hd (by rw [mv_cat]; exact hv) (by rw [mv_cat]; exact hw) (k.2 X h ρ H locs cells slots la hH hl ⟨hs.1, hs.2.1, hs⟩ he hS hc hn hla)⟩
theorem v_if_eq  {x : Int32} {off : Int} {tgt : Nat} (hd : decode cc pc = .ok (.ifCond .eq off, 3)) (ht : (pc : Int) + off = (tgt : Int)) (kt : x = 0 → V G (own, cc, ret, fr, lo, nL, mn, hh) B tgt ls (st) M) (kf : ¬ x = 0 → V G (own, cc, ret, fr, lo, nL, mn, hh) B (pc + 3) ls (st) M) : V G (own, cc, ret, fr, lo, nL, mn, hh) B pc ls (.int x :: st) M :=
  ⟨by by_cases hx : x = 0
      · exact (kt hx).1
      · exact (kf hx).1, fun X h ρ H locs cells slots la hH hl hs he hS hc hn hla => lv_if_eq h.1 h.2.1 hd ht (fun hx => (kt hx).2 X h ρ H locs cells slots la hH hl hs.2 he hS hc hn hla) (fun hx => (kf hx).2 X h ρ H locs cells slots la hH hl hs.2 he hS hc hn hla)⟩
theorem v_if_ne  {x : Int32} {off : Int} {tgt : Nat} (hd : decode cc pc = .ok (.ifCond .ne off, 3)) (ht : (pc : Int) + off = (tgt : Int)) (kt : ¬ x = 0 → V G (own, cc, ret, fr, lo, nL, mn, hh) B tgt ls (st) M) (kf : x = 0 → V G (own, cc, ret, fr, lo, nL, mn, hh) B (pc + 3) ls (st) M) : V G (own, cc, ret, fr, lo, nL, mn, hh) B pc ls (.int x :: st) M :=
  ⟨by by_cases hx : x = 0
      · exact (kf hx).1
      · exact (kt hx).1, fun X h ρ H locs cells slots la hH hl hs he hS hc hn hla => lv_if_ne h.1 h.2.1 hd ht (fun hx => (kt hx).2 X h ρ H locs cells slots la hH hl hs.2 he hS hc hn hla) (fun hx => (kf hx).2 X h ρ H locs cells slots la hH hl hs.2 he hS hc hn hla)⟩
theorem v_if_lt  {x : Int32} {off : Int} {tgt : Nat} (hd : decode cc pc = .ok (.ifCond .lt off, 3)) (ht : (pc : Int) + off = (tgt : Int)) (kt : x < 0 → V G (own, cc, ret, fr, lo, nL, mn, hh) B tgt ls (st) M) (kf : ¬ x < 0 → V G (own, cc, ret, fr, lo, nL, mn, hh) B (pc + 3) ls (st) M) : V G (own, cc, ret, fr, lo, nL, mn, hh) B pc ls (.int x :: st) M :=
  ⟨by by_cases hx : x < 0
      · exact (kt hx).1
      · exact (kf hx).1, fun X h ρ H locs cells slots la hH hl hs he hS hc hn hla => lv_if_lt h.1 h.2.1 hd ht (fun hx => (kt hx).2 X h ρ H locs cells slots la hH hl hs.2 he hS hc hn hla) (fun hx => (kf hx).2 X h ρ H locs cells slots la hH hl hs.2 he hS hc hn hla)⟩
theorem v_if_ge  {x : Int32} {off : Int} {tgt : Nat} (hd : decode cc pc = .ok (.ifCond .ge off, 3)) (ht : (pc : Int) + off = (tgt : Int)) (kt : 0 ≤ x → V G (own, cc, ret, fr, lo, nL, mn, hh) B tgt ls (st) M) (kf : ¬ 0 ≤ x → V G (own, cc, ret, fr, lo, nL, mn, hh) B (pc + 3) ls (st) M) : V G (own, cc, ret, fr, lo, nL, mn, hh) B pc ls (.int x :: st) M :=
  ⟨by by_cases hx : 0 ≤ x
      · exact (kt hx).1
      · exact (kf hx).1, fun X h ρ H locs cells slots la hH hl hs he hS hc hn hla => lv_if_ge h.1 h.2.1 hd ht (fun hx => (kt hx).2 X h ρ H locs cells slots la hH hl hs.2 he hS hc hn hla) (fun hx => (kf hx).2 X h ρ H locs cells slots la hH hl hs.2 he hS hc hn hla)⟩
theorem v_if_gt  {x : Int32} {off : Int} {tgt : Nat} (hd : decode cc pc = .ok (.ifCond .gt off, 3)) (ht : (pc : Int) + off = (tgt : Int)) (kt : 0 < x → V G (own, cc, ret, fr, lo, nL, mn, hh) B tgt ls (st) M) (kf : ¬ 0 < x → V G (own, cc, ret, fr, lo, nL, mn, hh) B (pc + 3) ls (st) M) : V G (own, cc, ret, fr, lo, nL, mn, hh) B pc ls (.int x :: st) M :=
  ⟨by by_cases hx : 0 < x
      · exact (kt hx).1
      · exact (kf hx).1, fun X h ρ H locs cells slots la hH hl hs he hS hc hn hla => lv_if_gt h.1 h.2.1 hd ht (fun hx => (kt hx).2 X h ρ H locs cells slots la hH hl hs.2 he hS hc hn hla) (fun hx => (kf hx).2 X h ρ H locs cells slots la hH hl hs.2 he hS hc hn hla)⟩
theorem v_if_le  {x : Int32} {off : Int} {tgt : Nat} (hd : decode cc pc = .ok (.ifCond .le off, 3)) (ht : (pc : Int) + off = (tgt : Int)) (kt : x ≤ 0 → V G (own, cc, ret, fr, lo, nL, mn, hh) B tgt ls (st) M) (kf : ¬ x ≤ 0 → V G (own, cc, ret, fr, lo, nL, mn, hh) B (pc + 3) ls (st) M) : V G (own, cc, ret, fr, lo, nL, mn, hh) B pc ls (.int x :: st) M :=
  ⟨by by_cases hx : x ≤ 0
      · exact (kt hx).1
      · exact (kf hx).1, fun X h ρ H locs cells slots la hH hl hs he hS hc hn hla => lv_if_le h.1 h.2.1 hd ht (fun hx => (kt hx).2 X h ρ H locs cells slots la hH hl hs.2 he hS hc hn hla) (fun hx => (kf hx).2 X h ρ H locs cells slots la hH hl hs.2 he hS hc hn hla)⟩
theorem v_icmp_eq  {x y : Int32} {off : Int} {tgt : Nat} (hd : decode cc pc = .ok (.if_icmp .eq off, 3)) (ht : (pc : Int) + off = (tgt : Int)) (kt : x = y → V G (own, cc, ret, fr, lo, nL, mn, hh) B tgt ls (st) M) (kf : ¬ x = y → V G (own, cc, ret, fr, lo, nL, mn, hh) B (pc + 3) ls (st) M) : V G (own, cc, ret, fr, lo, nL, mn, hh) B pc ls (.int y :: .int x :: st) M :=
  ⟨by by_cases hx : x = y
      · exact (kt hx).1
      · exact (kf hx).1, fun X h ρ H locs cells slots la hH hl hs he hS hc hn hla => lv_icmp_eq h.1 h.2.1 hd ht (fun hx => (kt hx).2 X h ρ H locs cells slots la hH hl hs.2.2 he hS hc hn hla) (fun hx => (kf hx).2 X h ρ H locs cells slots la hH hl hs.2.2 he hS hc hn hla)⟩
theorem v_icmp_ne  {x y : Int32} {off : Int} {tgt : Nat} (hd : decode cc pc = .ok (.if_icmp .ne off, 3)) (ht : (pc : Int) + off = (tgt : Int)) (kt : ¬ x = y → V G (own, cc, ret, fr, lo, nL, mn, hh) B tgt ls (st) M) (kf : x = y → V G (own, cc, ret, fr, lo, nL, mn, hh) B (pc + 3) ls (st) M) : V G (own, cc, ret, fr, lo, nL, mn, hh) B pc ls (.int y :: .int x :: st) M :=
  ⟨by by_cases hx : x = y
      · exact (kf hx).1
      · exact (kt hx).1, fun X h ρ H locs cells slots la hH hl hs he hS hc hn hla => lv_icmp_ne h.1 h.2.1 hd ht (fun hx => (kt hx).2 X h ρ H locs cells slots la hH hl hs.2.2 he hS hc hn hla) (fun hx => (kf hx).2 X h ρ H locs cells slots la hH hl hs.2.2 he hS hc hn hla)⟩
theorem v_icmp_lt  {x y : Int32} {off : Int} {tgt : Nat} (hd : decode cc pc = .ok (.if_icmp .lt off, 3)) (ht : (pc : Int) + off = (tgt : Int)) (kt : x < y → V G (own, cc, ret, fr, lo, nL, mn, hh) B tgt ls (st) M) (kf : ¬ x < y → V G (own, cc, ret, fr, lo, nL, mn, hh) B (pc + 3) ls (st) M) : V G (own, cc, ret, fr, lo, nL, mn, hh) B pc ls (.int y :: .int x :: st) M :=
  ⟨by by_cases hx : x < y
      · exact (kt hx).1
      · exact (kf hx).1, fun X h ρ H locs cells slots la hH hl hs he hS hc hn hla => lv_icmp_lt h.1 h.2.1 hd ht (fun hx => (kt hx).2 X h ρ H locs cells slots la hH hl hs.2.2 he hS hc hn hla) (fun hx => (kf hx).2 X h ρ H locs cells slots la hH hl hs.2.2 he hS hc hn hla)⟩
theorem v_icmp_ge  {x y : Int32} {off : Int} {tgt : Nat} (hd : decode cc pc = .ok (.if_icmp .ge off, 3)) (ht : (pc : Int) + off = (tgt : Int)) (kt : y ≤ x → V G (own, cc, ret, fr, lo, nL, mn, hh) B tgt ls (st) M) (kf : ¬ y ≤ x → V G (own, cc, ret, fr, lo, nL, mn, hh) B (pc + 3) ls (st) M) : V G (own, cc, ret, fr, lo, nL, mn, hh) B pc ls (.int y :: .int x :: st) M :=
  ⟨by by_cases hx : y ≤ x
      · exact (kt hx).1
      · exact (kf hx).1, fun X h ρ H locs cells slots la hH hl hs he hS hc hn hla => lv_icmp_ge h.1 h.2.1 hd ht (fun hx => (kt hx).2 X h ρ H locs cells slots la hH hl hs.2.2 he hS hc hn hla) (fun hx => (kf hx).2 X h ρ H locs cells slots la hH hl hs.2.2 he hS hc hn hla)⟩
theorem v_icmp_gt  {x y : Int32} {off : Int} {tgt : Nat} (hd : decode cc pc = .ok (.if_icmp .gt off, 3)) (ht : (pc : Int) + off = (tgt : Int)) (kt : y < x → V G (own, cc, ret, fr, lo, nL, mn, hh) B tgt ls (st) M) (kf : ¬ y < x → V G (own, cc, ret, fr, lo, nL, mn, hh) B (pc + 3) ls (st) M) : V G (own, cc, ret, fr, lo, nL, mn, hh) B pc ls (.int y :: .int x :: st) M :=
  ⟨by by_cases hx : y < x
      · exact (kt hx).1
      · exact (kf hx).1, fun X h ρ H locs cells slots la hH hl hs he hS hc hn hla => lv_icmp_gt h.1 h.2.1 hd ht (fun hx => (kt hx).2 X h ρ H locs cells slots la hH hl hs.2.2 he hS hc hn hla) (fun hx => (kf hx).2 X h ρ H locs cells slots la hH hl hs.2.2 he hS hc hn hla)⟩
theorem v_icmp_le  {x y : Int32} {off : Int} {tgt : Nat} (hd : decode cc pc = .ok (.if_icmp .le off, 3)) (ht : (pc : Int) + off = (tgt : Int)) (kt : x ≤ y → V G (own, cc, ret, fr, lo, nL, mn, hh) B tgt ls (st) M) (kf : ¬ x ≤ y → V G (own, cc, ret, fr, lo, nL, mn, hh) B (pc + 3) ls (st) M) : V G (own, cc, ret, fr, lo, nL, mn, hh) B pc ls (.int y :: .int x :: st) M :=
  ⟨by by_cases hx : x ≤ y
      · exact (kt hx).1
      · exact (kf hx).1, fun X h ρ H locs cells slots la hH hl hs he hS hc hn hla => lv_icmp_le h.1 h.2.1 hd ht (fun hx => (kt hx).2 X h ρ H locs cells slots la hH hl hs.2.2 he hS hc hn hla) (fun hx => (kf hx).2 X h ρ H locs cells slots la hH hl hs.2.2 he hS hc hn hla)⟩
theorem v_goto  {off : Int} {tgt : Nat} (hd : decode cc pc = .ok (.goto off, 3)) (ht : (pc : Int) + off = (tgt : Int)) (k : V G (own, cc, ret, fr, lo, nL, mn, hh) B tgt ls (st) M) : V G (own, cc, ret, fr, lo, nL, mn, hh) B pc ls (st) M :=
  ⟨k.1, fun X h ρ H locs cells slots la hH hl hs he hS hc hn hla => lv_goto h.1 h.2.1 hd ht (k.2 X h ρ H locs cells slots la hH hl hs he hS hc hn hla)⟩
theorem v_tableOut  {dflt lo' hi : Int} {offs : Array Int} {len tgt : Nat} {x : Int32} (hd : decode cc pc = .ok (.tableswitch dflt lo' hi offs, len)) (hx : x.toInt < lo' ∨ hi < x.toInt) (ht : (pc : Int) + dflt = (tgt : Int)) (k : V G (own, cc, ret, fr, lo, nL, mn, hh) B tgt ls (st) M) : V G (own, cc, ret, fr, lo, nL, mn, hh) B pc ls (.int x :: st) M :=
  ⟨k.1, fun X h ρ H locs cells slots la hH hl hs he hS hc hn hla => lv_tableOut h.1 h.2.1 hd hx ht (k.2 X h ρ H locs cells slots la hH hl hs.2 he hS hc hn hla)⟩
theorem v_tableIn  {dflt lo' hi off : Int} {offs : Array Int} {len tgt : Nat} {x : Int32} (hd : decode cc pc = .ok (.tableswitch dflt lo' hi offs, len)) (h1 : ¬ x.toInt < lo') (h2 : ¬ hi < x.toInt) (ho : offs[(x.toInt - lo').toNat]? = some off) (ht : (pc : Int) + off = (tgt : Int)) (k : V G (own, cc, ret, fr, lo, nL, mn, hh) B tgt ls (st) M) : V G (own, cc, ret, fr, lo, nL, mn, hh) B pc ls (.int x :: st) M :=
  ⟨k.1, fun X h ρ H locs cells slots la hH hl hs he hS hc hn hla => lv_tableIn h.1 h.2.1 hd h1 h2 ho ht (k.2 X h ρ H locs cells slots la hH hl hs.2 he hS hc hn hla)⟩
theorem v_ldc2  {index : Nat} {v : Int64} (hw : Cond.constantLong own index v ∈ GW) (hd : decode cc pc = .ok (.ldc2_w index, 3)) (k : V G (own, cc, ret, fr, lo, nL, mn, hh) B (pc + 3) ls (.long v :: st) M) : V G (own, cc, ret, fr, lo, nL, mn, hh) B pc ls (st) M :=
  ⟨k.1, fun X h ρ H locs cells slots la hH hl hs he hS hc hn hla => lv_ldc2 h.1 h.2.1 h.2.2.1 (h.2.2.2.1 _ hw) hd (k.2 X h ρ H locs cells slots la hH hl ⟨trivial, hs⟩ he hS hc hn hla)⟩
theorem lv_ldcfw {p : Program} {l : Launch} {e : Env} {R : Room} {s : State} {m : MethodId} {args : Array Value} {below : List Frame} {meth : Method} {c : Code} {H : Heap} {locs : List Loc} {cells slots : Nat} {Q : State → Prop} {pc : Nat} {la : Array Slot} {rest : List Value} (hexec : p.tables.exec = Jvm.exec) (hb : c.code = cc) {own : String} {index : Nat} {v : UInt32} (hown : s.vm.findClass own = some m.cls) (hconst : (Jvm.Cond.constantFloat own index v).before args s = true) (hdg : decode cc pc = .ok (.ldc_w index, 3)) (k : W p l e R s m args below meth c H locs cells slots Q (F0 m (pc + 3) la (.float v :: rest))) : W p l e R s m args below meth c H locs cells slots Q (F0 m pc la rest) := by
  intro T hT X
  obtain ⟨t, a, b⟩ := k T hT X
  obtain ⟨k0, cf, hk, hcf, hcp⟩ := Cond.constantFloat_spec hown hconst
  obtain ⟨k', hk', he⟩ := X.warmed.alike.2.2 _ _ hk
  refine ⟨t, ?_, b⟩
  jvm_step X.here [hexec, hb, hdg, ldc_w.wp_float (s := T) (f := F0 m pc la rest) X.here.top hk' (by rw [he]; exact hcf) hcp]
  exact a
theorem v_ldcf  {index : Nat} {v : UInt32} (hw : Cond.constantFloat own index v ∈ GW) (hd : decode cc pc = .ok (.ldc_w index, 3)) (k : V G (own, cc, ret, fr, lo, nL, mn, hh) B (pc + 3) ls (.float v :: st) M) : V G (own, cc, ret, fr, lo, nL, mn, hh) B pc ls (st) M :=
  ⟨k.1, fun X h ρ H locs cells slots la hH hl hs he hS hc hn hla => lv_ldcfw h.1 h.2.1 h.2.2.1 (h.2.2.2.1 _ hw) hd (k.2 X h ρ H locs cells slots la hH hl ⟨trivial, hs⟩ he hS hc hn hla)⟩
theorem v_ireturn {ρ0 : Nat → Nat} {M0 : Mem} {x : Int32} (hd : decode cc pc = .ok (.ireturn, 1)) : V G (own, cc, (some .int), fr, lo, nL, mn, hh) (ρ0, M0, Sum.inl (some (.int x)), M) pc ls (.int x :: []) M := by
  refine ⟨⟨Nat.le_refl _, Nat.le_refl _⟩, fun X h ρ H locs cells slots la hH hl hs he hS hc hn hla => ?_⟩
  obtain ⟨hx, hb, hown, hts, hK, hlk, htr, hQ, hR, hr, -⟩ := h
  rw [hQ]
  refine W.widen (k := mC M - mC M0) (n := mS M - mS M0) (Nat.le_sub_of_add_le hc) (Nat.le_sub_of_add_le hn) (vx_ret (W.iret hx hb hr (fun t ht hW => ⟨⟨some (.int x), ρ, rfl, rfl, trivial, he, by rw [ht]; exact hH⟩, by rw [ht]; exact hS.1, fun q hq hA => by rw [ht]; exact hS.2.1 q hq hA⟩) hS.2.2 hd hlk))
theorem v_zreturn {ρ0 : Nat → Nat} {M0 : Mem} {x : Int32} (hd : decode cc pc = .ok (.ireturn, 1)) (hz : x = 0 ∨ x = 1) : V G (own, cc, (some .boolean), fr, lo, nL, mn, hh) (ρ0, M0, Sum.inl (some (.int x)), M) pc ls (.int x :: []) M := by
  refine ⟨⟨Nat.le_refl _, Nat.le_refl _⟩, fun X h ρ H locs cells slots la hH hl hs he hS hc hn hla => ?_⟩
  obtain ⟨hx, hb, hown, hts, hK, hlk, htr, hQ, hR, hr, -⟩ := h
  rw [hQ]
  refine W.widen (k := mC M - mC M0) (n := mS M - mS M0) (Nat.le_sub_of_add_le hc) (Nat.le_sub_of_add_le hn) (vx_ret (W.zret hx hb hr (by rcases hz with rfl | rfl <;> decide) (fun t ht hW => ⟨⟨some (.int x), ρ, rfl, rfl, trivial, he, by rw [ht]; exact hH⟩, by rw [ht]; exact hS.1, fun q hq hA => by rw [ht]; exact hS.2.1 q hq hA⟩) hS.2.2 hd hlk))
theorem v_lreturn {ρ0 : Nat → Nat} {M0 : Mem} {x : Int64} (hd : decode cc pc = .ok (.lreturn, 1)) : V G (own, cc, (some .long), fr, lo, nL, mn, hh) (ρ0, M0, Sum.inl (some (.long x)), M) pc ls (.long x :: []) M := by
  refine ⟨⟨Nat.le_refl _, Nat.le_refl _⟩, fun X h ρ H locs cells slots la hH hl hs he hS hc hn hla => ?_⟩
  obtain ⟨hx, hb, hown, hts, hK, hlk, htr, hQ, hR, hr, -⟩ := h
  rw [hQ]
  refine W.widen (k := mC M - mC M0) (n := mS M - mS M0) (Nat.le_sub_of_add_le hc) (Nat.le_sub_of_add_le hn) (vx_ret (W.lret hx hb hr (fun t ht hW => ⟨⟨some (.long x), ρ, rfl, rfl, trivial, he, by rw [ht]; exact hH⟩, by rw [ht]; exact hS.1, fun q hq hA => by rw [ht]; exact hS.2.1 q hq hA⟩) hS.2.2 hd hlk))
theorem v_vreturn {ρ0 : Nat → Nat} {M0 : Mem} (hd : decode cc pc = .ok (.return_, 1)) : V G (own, cc, none, fr, lo, nL, mn, hh) (ρ0, M0, Sum.inl none, M) pc ls ([]) M := by
  refine ⟨⟨Nat.le_refl _, Nat.le_refl _⟩, fun X h ρ H locs cells slots la hH hl hs he hS hc hn hla => ?_⟩
  obtain ⟨hx, hb, hown, hts, hK, hlk, htr, hQ, hR, hr, -⟩ := h
  rw [hQ]
  refine W.widen (k := mC M - mC M0) (n := mS M - mS M0) (Nat.le_sub_of_add_le hc) (Nat.le_sub_of_add_le hn) (vx_ret (W.vret hx hb hr (fun t ht hW => ⟨⟨none, ρ, rfl, rfl, trivial, he, by rw [ht]; exact hH⟩, by rw [ht]; exact hS.1, fun q hq hA => by rw [ht]; exact hS.2.1 q hq hA⟩) hS.2.2 hd hlk))
theorem v_areturn {ρ0 : Nat → Nat} {M0 : Mem} {x : Nat} {cn : String} (hd : decode cc pc = .ok (.areturn, 1)) : V G (own, cc, (some (.object cn)), fr, lo, nL, mn, hh) (ρ0, M0, Sum.inl (some (.ref x)), M) pc ls (.ref x :: []) M := by
  refine ⟨⟨Nat.le_refl _, Nat.le_refl _⟩, fun X h ρ H locs cells slots la hH hl hs he hS hc hn hla => ?_⟩
  obtain ⟨hx, hb, hown, hts, hK, hlk, htr, hQ, hR, hr, -⟩ := h
  rw [hQ]
  refine W.widen (k := mC M - mC M0) (n := mS M - mS M0) (Nat.le_sub_of_add_le hc) (Nat.le_sub_of_add_le hn) (vx_ret (W.aret hx hb hr (Or.inl ⟨cn, rfl⟩) (Or.inr ⟨_, rfl⟩) (fun t ht hW => ⟨⟨some (.ref x), ρ, rfl, rfl, hs.1, he, by rw [ht]; exact hH⟩, by rw [ht]; exact hS.1, fun q hq hA => by rw [ht]; exact hS.2.1 q hq hA⟩) hS.2.2 hd hlk))
theorem v_sub  (ks : List Nat) {ls' : List (Nat × Value)} (hq : lv_pick ls ks = ls') (k : V G (own, cc, ret, fr, lo, nL, mn, hh) B pc ls' st M) : V G (own, cc, ret, fr, lo, nL, mn, hh) B pc ls (st) M :=
  ⟨k.1, fun X h ρ H locs cells slots la hH hl hs he hS hc hn hla => (k.2 X h ρ H locs cells slots la hH (by rw [← hq]; exact lok_pick hl ks) hs he hS hc hn (lv_sub hla ks (by rw [ml_pick, hq])))⟩
end
end
section
/-! ROWS: fields and arrays over the picture -/
/-- a class of objects: its number, name, fields, their types -/
def CLk (k : Nat) (C : String) (T : u_T) (N : Nat) (ty : Nat → FieldType) : Prop :=
  vwCl[k]? = some (C, T, N) ∧ (∀ w ∈ u_ws C T N, w ∈ GW) ∧ (∀ j, j < N → parseFieldDescriptor (T j).2.2.1 = some (ty j)) ∧ (∀ a, a < N → ∀ b, b < N → a ≠ b → (T a).2.1 ≠ (T b).2.1) ∧ k < 13 ∧ nF k = N
theorem flds_at {M : Mem} {ρ : Nat → Nat} {k a f : Nat} (hf : f < nF k) : (flds M ρ k a)[f]? = some (fv M ρ k a f) := by
  unfold flds
  rw [List.getElem?_map, List.getElem?_range hf]
  rfl
theorem flds_len (M : Mem) (ρ : Nat → Nat) (k a : Nat) : (flds M ρ k a).length = nF k := by simp [flds]
theorem flds_set {M M' : Mem} {ρ : Nat → Nat} {k a f : Nat} {v : Value} (hv : fv M' ρ k a f = v) (ho : ∀ j, j ≠ f → fv M' ρ k a j = fv M ρ k a j) : (flds M ρ k a).set f v = flds M' ρ k a := by
  subst hv
  apply List.ext_getElem?
  intro j
  rw [List.getElem?_set, flds_len]
  by_cases hj : f = j
  · subst hj
    rw [if_pos rfl]
    by_cases hl : f < nF k
    · rw [if_pos hl, flds_at hl]
    · rw [if_neg hl, List.getElem?_eq_none (by rw [flds_len]; omega)]
  · rw [if_neg hj]
    by_cases hl : j < nF k
    · rw [flds_at hl, flds_at hl, ho j (fun q => hj q.symm)]
    · rw [List.getElem?_eq_none (by rw [flds_len]; omega), List.getElem?_eq_none (by rw [flds_len]; omega)]
theorem fv_congr {M M' : Mem} {ρ ρ' : Nat → Nat} {k a j : Nat} (h1 : mI M' a j = mI M a j) (h2 : mL M' a j = mL M a j) (h3 : mF M' a j = mF M a j) (h4 : (mR M' a j).map ρ' = (mR M a j).map ρ) : fv M' ρ' k a j = fv M ρ k a j := by
  unfold fv
  rw [h1, h2, h3, h4]
theorem cE_congr {G : Gl} {M M' : Mem} {ρ ρ' : Nat → Nat} {b : Nat} (h0 : mK M' b = mK M b) (h1 : ∀ j, mI M' b j = mI M b j) (h2 : ∀ j, mL M' b j = mL M b j) (h3 : ∀ j, mF M' b j = mF M b j) (h4 : ∀ j, (mR M' b j).map ρ' = (mR M b j).map ρ) : cE G M' ρ' b = cE G M ρ b := by
  have e : flds M' ρ' (mK M b).1 b = flds M ρ (mK M b).1 b := List.map_congr_left fun j _ => fv_congr (h1 j) (h2 j) (h3 j) (h4 j)
  unfold cE
  rw [h0, e, funext h1, funext h2, funext h3, funext h4]
theorem HR_set {G : Gl} {M M' : Mem} {ρ : Nat → Nat} {H H1 : Heap} {a : Nat} {e : va_E} (hH : HR G M ρ H) (hK : mK M' = mK M) (hn : mN M' = mN M) (hr : ∀ a i b, mR M' a i = some b → b < mN M) (he : cE G M' ρ a = e) (ho : ∀ b, b ≠ a → cE G M' ρ b = cE G M ρ b)
    (hP : va_P (G.1, G.2.1) vwCl ((wsM G M ρ).set a (ρ a, e)) H1) (hD : va_D (AO G) ((wsM G M ρ).set a (ρ a, e))) : HR G M' ρ H1 := by
  rw [ws_set hn he ho] at hP hD
  exact ⟨hP, hD, fun b hb => by rw [hK]; exact hH.2.2.1 b (by rw [← hn]; exact hb), fun b i c hc => by rw [hn]; exact hr b i c hc, by rw [hn]; exact hH.2.2.2.2⟩
theorem up2_row {α : Type} (f : Nat → Nat → α) (a i : Nat) (x : α) (j : Nat) : up2 f a i x a j = if j = i then x else f a j := by
  simp [up2]
theorem up2_clo {f : Nat → Nat → Option Nat} {n a i x : Nat} (h : ∀ a i b, f a i = some b → b < n) (hx : x < n) : ∀ b j c, up2 f a i (some x) b j = some c → c < n := by
  intro b j c hc
  unfold up2 at hc
  split at hc
  · cases hc; exact hx
  · exact h b j c hc
section
variable {G : Gl} {B : Bx} {own : String} {cc : ByteArray} {ret : Option FieldType} {fr lo nL : Nat} {mn : String} {hh : List (Nat × Nat × Nat × Nat)} {pc : Nat} {ls : List (Nat × Value)} {st : List Value} {M : Mem} {kk : Nat} {C : String} {T : u_T} {N : Nat} {ty : Nat → FieldType} {f a index : Nat}
theorem v_getI (hc : CLk kk C T N ty) (hf : f < N) (ht : fT kk f = 0) (hw : Cond.fieldLink own index (T f).1 (T f).2.1 (T f).2.2.1 ∈ GW) (hd : decode cc pc = .ok (.getfield index, 3)) {x : Int32} (hx : gI kk f a M = some x) (k : V G (own, cc, ret, fr, lo, nL, mn, hh) B (pc + 3) ls (.int x :: st) M) : V G (own, cc, ret, fr, lo, nL, mn, hh) B pc ls (.ref a :: st) M := by
  unfold gI at hx
  split at hx
  · rename_i hk
    refine ⟨k.1, fun X h ρ H locs cells slots la hH hl hs he hS hcc hn hla => ?_⟩
    refine va_get (D := (G.1, G.2.1)) (cl := vwCl) (ci := kk) (v := .int x) h.1 h.2.1 h.2.2.2.1 hc.2.1 h.2.2.1 h.2.2.2.2.1.1 hH.1 a (ws_obj hH hk hc.2.2.2.2.1) hc.1 f hf (h.2.2.2.1 _ hw) (fun _ h9 => h9) ?_ hd (k.2 X h ρ H locs cells slots la hH hl ⟨trivial, hs.2⟩ he hS hcc hn hla)
    rw [flds_at (by rw [hc.2.2.2.2.2]; exact hf)]
    unfold fv
    rw [ht]
    cases hx
    rfl
  · cases hx
theorem v_getL (hc : CLk kk C T N ty) (hf : f < N) (ht : fT kk f = 1) (hw : Cond.fieldLink own index (T f).1 (T f).2.1 (T f).2.2.1 ∈ GW) (hd : decode cc pc = .ok (.getfield index, 3)) {x : Int64} (hx : gL kk f a M = some x) (k : V G (own, cc, ret, fr, lo, nL, mn, hh) B (pc + 3) ls (.long x :: st) M) : V G (own, cc, ret, fr, lo, nL, mn, hh) B pc ls (.ref a :: st) M := by
  unfold gL at hx
  split at hx
  · rename_i hk
    refine ⟨k.1, fun X h ρ H locs cells slots la hH hl hs he hS hcc hn hla => ?_⟩
    refine va_get (D := (G.1, G.2.1)) (cl := vwCl) (ci := kk) (v := .long x) h.1 h.2.1 h.2.2.2.1 hc.2.1 h.2.2.1 h.2.2.2.2.1.1 hH.1 a (ws_obj hH hk hc.2.2.2.2.1) hc.1 f hf (h.2.2.2.1 _ hw) (fun _ h9 => h9) ?_ hd (k.2 X h ρ H locs cells slots la hH hl ⟨trivial, hs.2⟩ he hS hcc hn hla)
    rw [flds_at (by rw [hc.2.2.2.2.2]; exact hf)]
    unfold fv
    rw [ht]
    cases hx
    rfl
  · cases hx
theorem v_getF (hc : CLk kk C T N ty) (hf : f < N) (ht : fT kk f = 2) (hw : Cond.fieldLink own index (T f).1 (T f).2.1 (T f).2.2.1 ∈ GW) (hd : decode cc pc = .ok (.getfield index, 3)) {x : UInt32} (hx : gF kk f a M = some x) (k : V G (own, cc, ret, fr, lo, nL, mn, hh) B (pc + 3) ls (.float x :: st) M) : V G (own, cc, ret, fr, lo, nL, mn, hh) B pc ls (.ref a :: st) M := by
  unfold gF at hx
  split at hx
  · rename_i hk
    refine ⟨k.1, fun X h ρ H locs cells slots la hH hl hs he hS hcc hn hla => ?_⟩
    refine va_get (D := (G.1, G.2.1)) (cl := vwCl) (ci := kk) (v := .float x) h.1 h.2.1 h.2.2.2.1 hc.2.1 h.2.2.1 h.2.2.2.2.1.1 hH.1 a (ws_obj hH hk hc.2.2.2.2.1) hc.1 f hf (h.2.2.2.1 _ hw) (fun _ h9 => h9) ?_ hd (k.2 X h ρ H locs cells slots la hH hl ⟨trivial, hs.2⟩ he hS hcc hn hla)
    rw [flds_at (by rw [hc.2.2.2.2.2]; exact hf)]
    unfold fv
    rw [ht]
    cases hx
    rfl
  · cases hx
theorem v_getR (hc : CLk kk C T N ty) (hf : f < N) (ht : fT kk f = 3) (hw : Cond.fieldLink own index (T f).1 (T f).2.1 (T f).2.2.1 ∈ GW) (hd : decode cc pc = .ok (.getfield index, 3)) {x : Nat} (hx : gR kk f a M = some x) (k : V G (own, cc, ret, fr, lo, nL, mn, hh) B (pc + 3) ls (.ref x :: st) M) : V G (own, cc, ret, fr, lo, nL, mn, hh) B pc ls (.ref a :: st) M := by
  unfold gR at hx
  split at hx
  · rename_i hk
    refine ⟨k.1, fun X h ρ H locs cells slots la hH hl hs he hS hcc hn hla => ?_⟩
    refine va_get (D := (G.1, G.2.1)) (cl := vwCl) (ci := kk) (v := .ref (ρ x)) h.1 h.2.1 h.2.2.2.1 hc.2.1 h.2.2.1 h.2.2.2.2.1.1 hH.1 a (ws_obj hH hk hc.2.2.2.2.1) hc.1 f hf (h.2.2.2.1 _ hw) (fun _ h9 => h9) ?_ hd (k.2 X h ρ H locs cells slots la hH hl ⟨Or.inl (hH.2.2.2.1 _ _ _ hx), hs.2⟩ he hS hcc hn hla)
    rw [flds_at (by rw [hc.2.2.2.2.2]; exact hf)]
    unfold fv
    rw [ht, hx]
    rfl
  · cases hx
end
end
section
/-! ROWS: stores into fields, arrays -/
theorem va_RA_inj {U : State} {cA cB : ClassId} {ty : FieldType} (h : va_RA U cA ty) (k : va_RA U cB ty) : cA = cB := by
  cases ty with
  | object C =>
    obtain ⟨_, _, -, -, -, h4⟩ := h
    obtain ⟨_, _, -, -, -, k4⟩ := k
    exact Option.some.inj (h4.symm.trans k4)
  | _ => exact Option.some.inj (Eq.trans (Eq.symm h) k)
theorem tyG_at (G : Gl) {j : Nat} (hj : j < 11) : (tyG G)[j]? = some (G.2.2.1 j, tyA.getD j .int) := by
  unfold tyG
  rw [List.getElem?_map, List.getElem?_range hj]
  rfl
theorem ix_spec {i : Int32} {n j : Nat} (h : ix i n = some j) : vp_in i n ∧ i.toNatClampNeg = j := by
  unfold ix at h
  split at h
  · cases h
  · rename_i q
    cases h
    exact ⟨q, rfl⟩
theorem ws_arr {G : Gl} {M : Mem} {ρ : Nat → Nat} {H : Heap} (h : HR G M ρ H) {a k : Nat} (hk : (mK M a).1 = k) (hlt : k ≠ 99) : (wsM G M ρ)[a]? = some (ρ a, cE G M ρ a) := ws_at (kd_lt h hk hlt)
section
variable {G : Gl} {B : Bx} {own : String} {cc : ByteArray} {ret : Option FieldType} {fr lo nL : Nat} {mn : String} {hh : List (Nat × Nat × Nat × Nat)} {pc : Nat} {ls : List (Nat × Value)} {st : List Value} {M M1 : Mem} {kk : Nat} {C : String} {T : u_T} {N : Nat} {ty : Nat → FieldType} {f a index : Nat}
theorem v_putI {x : Int32}  (hc : CLk kk C T N ty) (hf : f < N) (ht : fT kk f = 0) (hty : ty f = .int) (hfin : (T f).2.2.2 = false) (hw : Cond.fieldLink own index (T f).1 (T f).2.1 (T f).2.2.1 ∈ GW) (hd : decode cc pc = .ok (.putfield index, 3)) (hx : pI kk f a x M = some M1) (k : V G (own, cc, ret, fr, lo, nL, mn, hh) B (pc + 3) ls st M1) : V G (own, cc, ret, fr, lo, nL, mn, hh) B pc ls (.int x :: .ref a :: st) M := by
  unfold pI at hx
  split at hx
  · rename_i hk
    cases hx
    refine ⟨k.1, fun X h ρ H locs cells slots la hH hl hs he hS hcc hn hla => ?_⟩
    refine va_put (D := (G.1, G.2.1)) (cl := vwCl) (ci := kk) (v := .int x) (ty := .int) h.1 h.2.1 h.2.2.2.1 hc.2.1 ty hc.2.2.1 hc.2.2.2.1 h.2.2.1 h.2.2.2.2.1.1 hH.1 hH.2.1 hS a (ws_obj hH hk hc.2.2.2.2.1) hc.1 f hf (h.2.2.2.1 _ hw) (fun _ h9 => h9) hfin (by rw [hc.2.2.1 f hf]; first | rw [hty] | rfl) rfl rfl (by rw [flds_len, hc.2.2.2.2.2]; exact hf) hd (fun H1 locs1 hP hD hS1 => k.2 X h ρ H1 locs1 cells slots la (HR_set hH rfl rfl hH.2.2.2.1 ?_ ?_ hP hD) hl hs.2.2 he hS1 hcc hn hla)
    · have e := flds_set (M := M) (M' := sI M (up2 (mI M) a f x)) (ρ := ρ) (k := kk) (a := a) (f := f) (v := .int x) (by unfold fv; rw [ht]; exact congrArg Value.int (up2_eq _ _ _ _)) (fun j hj => fv_congr (up2_nj _ _ _ _ hj) rfl rfl rfl)
      rw [e, cE, show (mK (sI M (up2 (mI M) a f x)) a).1 = kk from hk, if_pos hc.2.2.2.2.1]
    · exact fun b hb => cE_congr rfl (fun j => up2_ne _ _ _ _ hb) (fun j => rfl) (fun j => rfl) (fun j => rfl)
  · cases hx
theorem v_putZ {x : Int32}  (hc : CLk kk C T N ty) (hf : f < N) (ht : fT kk f = 0) (hty : ty f = .boolean) (hfin : (T f).2.2.2 = false) (hw : Cond.fieldLink own index (T f).1 (T f).2.1 (T f).2.2.1 ∈ GW) (hd : decode cc pc = .ok (.putfield index, 3)) (hx : pZ kk f a x M = some M1) (k : V G (own, cc, ret, fr, lo, nL, mn, hh) B (pc + 3) ls st M1) : V G (own, cc, ret, fr, lo, nL, mn, hh) B pc ls (.int x :: .ref a :: st) M := by
  unfold pZ at hx
  split at hx
  · rename_i hk
    obtain ⟨hk, hz⟩ := hk
    cases hx
    refine ⟨k.1, fun X h ρ H locs cells slots la hH hl hs he hS hcc hn hla => ?_⟩
    refine va_put (D := (G.1, G.2.1)) (cl := vwCl) (ci := kk) (v := .int x) (ty := .boolean) h.1 h.2.1 h.2.2.2.1 hc.2.1 ty hc.2.2.1 hc.2.2.2.1 h.2.2.1 h.2.2.2.2.1.1 hH.1 hH.2.1 hS a (ws_obj hH hk hc.2.2.2.2.1) hc.1 f hf (h.2.2.2.1 _ hw) (fun _ h9 => h9) hfin (by rw [hc.2.2.1 f hf]; first | rw [hty] | rfl) (by rcases hz with rfl | rfl <;> decide) (by rcases hz with rfl | rfl <;> decide) (by rw [flds_len, hc.2.2.2.2.2]; exact hf) hd (fun H1 locs1 hP hD hS1 => k.2 X h ρ H1 locs1 cells slots la (HR_set hH rfl rfl hH.2.2.2.1 ?_ ?_ hP hD) hl hs.2.2 he hS1 hcc hn hla)
    · have e := flds_set (M := M) (M' := sI M (up2 (mI M) a f x)) (ρ := ρ) (k := kk) (a := a) (f := f) (v := .int x) (by unfold fv; rw [ht]; exact congrArg Value.int (up2_eq _ _ _ _)) (fun j hj => fv_congr (up2_nj _ _ _ _ hj) rfl rfl rfl)
      rw [e, cE, show (mK (sI M (up2 (mI M) a f x)) a).1 = kk from hk, if_pos hc.2.2.2.2.1]
    · exact fun b hb => cE_congr rfl (fun j => up2_ne _ _ _ _ hb) (fun j => rfl) (fun j => rfl) (fun j => rfl)
  · cases hx
theorem v_putL {x : Int64}  (hc : CLk kk C T N ty) (hf : f < N) (ht : fT kk f = 1) (hty : ty f = .long) (hfin : (T f).2.2.2 = false) (hw : Cond.fieldLink own index (T f).1 (T f).2.1 (T f).2.2.1 ∈ GW) (hd : decode cc pc = .ok (.putfield index, 3)) (hx : pL kk f a x M = some M1) (k : V G (own, cc, ret, fr, lo, nL, mn, hh) B (pc + 3) ls st M1) : V G (own, cc, ret, fr, lo, nL, mn, hh) B pc ls (.long x :: .ref a :: st) M := by
  unfold pL at hx
  split at hx
  · rename_i hk
    cases hx
    refine ⟨k.1, fun X h ρ H locs cells slots la hH hl hs he hS hcc hn hla => ?_⟩
    refine va_put (D := (G.1, G.2.1)) (cl := vwCl) (ci := kk) (v := .long x) (ty := .long) h.1 h.2.1 h.2.2.2.1 hc.2.1 ty hc.2.2.1 hc.2.2.2.1 h.2.2.1 h.2.2.2.2.1.1 hH.1 hH.2.1 hS a (ws_obj hH hk hc.2.2.2.2.1) hc.1 f hf (h.2.2.2.1 _ hw) (fun _ h9 => h9) hfin (by rw [hc.2.2.1 f hf]; first | rw [hty] | rfl) rfl rfl (by rw [flds_len, hc.2.2.2.2.2]; exact hf) hd (fun H1 locs1 hP hD hS1 => k.2 X h ρ H1 locs1 cells slots la (HR_set hH rfl rfl hH.2.2.2.1 ?_ ?_ hP hD) hl hs.2.2 he hS1 hcc hn hla)
    · have e := flds_set (M := M) (M' := sL M (up2 (mL M) a f x)) (ρ := ρ) (k := kk) (a := a) (f := f) (v := .long x) (by unfold fv; rw [ht]; exact congrArg Value.long (up2_eq _ _ _ _)) (fun j hj => fv_congr rfl (up2_nj _ _ _ _ hj) rfl rfl)
      rw [e, cE, show (mK (sL M (up2 (mL M) a f x)) a).1 = kk from hk, if_pos hc.2.2.2.2.1]
    · exact fun b hb => cE_congr rfl (fun j => rfl) (fun j => up2_ne _ _ _ _ hb) (fun j => rfl) (fun j => rfl)
  · cases hx
theorem v_putF {x : UInt32}  (hc : CLk kk C T N ty) (hf : f < N) (ht : fT kk f = 2) (hty : ty f = .float) (hfin : (T f).2.2.2 = false) (hw : Cond.fieldLink own index (T f).1 (T f).2.1 (T f).2.2.1 ∈ GW) (hd : decode cc pc = .ok (.putfield index, 3)) (hx : pF kk f a x M = some M1) (k : V G (own, cc, ret, fr, lo, nL, mn, hh) B (pc + 3) ls st M1) : V G (own, cc, ret, fr, lo, nL, mn, hh) B pc ls (.float x :: .ref a :: st) M := by
  unfold pF at hx
  split at hx
  · rename_i hk
    cases hx
    refine ⟨k.1, fun X h ρ H locs cells slots la hH hl hs he hS hcc hn hla => ?_⟩
    refine va_put (D := (G.1, G.2.1)) (cl := vwCl) (ci := kk) (v := .float x) (ty := .float) h.1 h.2.1 h.2.2.2.1 hc.2.1 ty hc.2.2.1 hc.2.2.2.1 h.2.2.1 h.2.2.2.2.1.1 hH.1 hH.2.1 hS a (ws_obj hH hk hc.2.2.2.2.1) hc.1 f hf (h.2.2.2.1 _ hw) (fun _ h9 => h9) hfin (by rw [hc.2.2.1 f hf]; first | rw [hty] | rfl) rfl rfl (by rw [flds_len, hc.2.2.2.2.2]; exact hf) hd (fun H1 locs1 hP hD hS1 => k.2 X h ρ H1 locs1 cells slots la (HR_set hH rfl rfl hH.2.2.2.1 ?_ ?_ hP hD) hl hs.2.2 he hS1 hcc hn hla)
    · have e := flds_set (M := M) (M' := sF M (up2 (mF M) a f x)) (ρ := ρ) (k := kk) (a := a) (f := f) (v := .float x) (by unfold fv; rw [ht]; exact congrArg Value.float (up2_eq _ _ _ _)) (fun j hj => fv_congr rfl rfl (up2_nj _ _ _ _ hj) rfl)
      rw [e, cE, show (mK (sF M (up2 (mF M) a f x)) a).1 = kk from hk, if_pos hc.2.2.2.2.1]
    · exact fun b hb => cE_congr rfl (fun j => rfl) (fun j => rfl) (fun j => up2_ne _ _ _ _ hb) (fun j => rfl)
  · cases hx
theorem v_putR {x : Nat}  (hc : CLk kk C T N ty) (hf : f < N) (ht : fT kk f = 3) {tr : FieldType} (hty : ty f = tr) (hrr : (∃ c, tr = .object c) ∨ ∃ t, tr = .array t) (hfin : (T f).2.2.2 = false) (hw : Cond.fieldLink own index (T f).1 (T f).2.1 (T f).2.2.1 ∈ GW) (hd : decode cc pc = .ok (.putfield index, 3)) (hx : pR kk f a x M = some M1) (k : V G (own, cc, ret, fr, lo, nL, mn, hh) B (pc + 3) ls st M1) : V G (own, cc, ret, fr, lo, nL, mn, hh) B pc ls (.ref x :: .ref a :: st) M := by
  unfold pR at hx
  split at hx
  · rename_i hk
    obtain ⟨hk, hz⟩ := hk
    cases hx
    refine ⟨k.1, fun X h ρ H locs cells slots la hH hl hs he hS hcc hn hla => ?_⟩
    refine va_put (D := (G.1, G.2.1)) (cl := vwCl) (ci := kk) (v := .ref (ρ x)) (ty := tr) h.1 h.2.1 h.2.2.2.1 hc.2.1 ty hc.2.2.1 hc.2.2.2.1 h.2.2.1 h.2.2.2.2.1.1 hH.1 hH.2.1 hS a (ws_obj hH hk hc.2.2.2.2.1) hc.1 f hf (h.2.2.2.1 _ hw) (fun _ h9 => h9) hfin (by rw [hc.2.2.1 f hf]; first | rw [hty] | rfl) (by rcases hrr with ⟨c, rfl⟩ | ⟨t, rfl⟩ <;> rfl) (by rcases hrr with ⟨c, rfl⟩ | ⟨t, rfl⟩ <;> rfl) (by rw [flds_len, hc.2.2.2.2.2]; exact hf) hd (fun H1 locs1 hP hD hS1 => k.2 X h ρ H1 locs1 cells slots la (HR_set hH rfl rfl (up2_clo hH.2.2.2.1 (kd_lt hH rfl hz)) ?_ ?_ hP hD) hl hs.2.2 he hS1 hcc hn hla)
    · have e := flds_set (M := M) (M' := sR M (up2 (mR M) a f (some x))) (ρ := ρ) (k := kk) (a := a) (f := f) (v := .ref (ρ x)) (by unfold fv; rw [ht]; exact congrArg (fun z : Option Nat => va_rf (z.map ρ)) (up2_eq _ _ _ _)) (fun j hj => fv_congr rfl rfl rfl (congrArg (Option.map ρ) (up2_nj _ _ _ _ hj)))
      rw [e, cE, show (mK (sR M (up2 (mR M) a f (some x))) a).1 = kk from hk, if_pos hc.2.2.2.2.1]
    · exact fun b hb => cE_congr rfl (fun j => rfl) (fun j => rfl) (fun j => rfl) (fun j => congrArg (Option.map ρ) (up2_ne _ _ _ _ hb))
  · cases hx
theorem v_putIX {x : Int32}  (hc : CLk kk C T N ty) (hf : f < N) (ht : fT kk f = 0) (hty : ty f = .int) (hfin : (T f).2.2.2 = true) (hin : mn = "<init>") (hdc : (T f).1 = own) (hw : Cond.fieldLink own index (T f).1 (T f).2.1 (T f).2.2.1 ∈ GW) (hd : decode cc pc = .ok (.putfield index, 3)) (hx : pI kk f a x M = some M1) (k : V G (own, cc, ret, fr, lo, nL, mn, hh) B (pc + 3) ls st M1) : V G (own, cc, ret, fr, lo, nL, mn, hh) B pc ls (.int x :: .ref a :: st) M := by
  unfold pI at hx
  split at hx
  · rename_i hk
    cases hx
    refine ⟨k.1, fun X h ρ H locs cells slots la hH hl hs he hS hcc hn hla => ?_⟩
    refine va_putF (D := (G.1, G.2.1)) (cl := vwCl) (ci := kk) (v := .int x) (ty := .int) h.1 h.2.1 h.2.2.2.1 hc.2.1 ty hc.2.2.1 hc.2.2.2.1 h.2.2.1 h.2.2.2.2.1.1 hH.1 hH.2.1 hS a (ws_obj hH hk hc.2.2.2.2.1) hc.1 f hf (h.2.2.2.1 _ hw) (fun _ h9 => h9) hfin (h.2.2.2.2.2.2.2.2.2.2.2.1.trans hin) hdc (by rw [hc.2.2.1 f hf]; first | rw [hty] | rfl) rfl rfl (by rw [flds_len, hc.2.2.2.2.2]; exact hf) hd (fun H1 locs1 hP hD hS1 => k.2 X h ρ H1 locs1 cells slots la (HR_set hH rfl rfl hH.2.2.2.1 ?_ ?_ hP hD) hl hs.2.2 he hS1 hcc hn hla)
    · have e := flds_set (M := M) (M' := sI M (up2 (mI M) a f x)) (ρ := ρ) (k := kk) (a := a) (f := f) (v := .int x) (by unfold fv; rw [ht]; exact congrArg Value.int (up2_eq _ _ _ _)) (fun j hj => fv_congr (up2_nj _ _ _ _ hj) rfl rfl rfl)
      rw [e, cE, show (mK (sI M (up2 (mI M) a f x)) a).1 = kk from hk, if_pos hc.2.2.2.2.1]
    · exact fun b hb => cE_congr rfl (fun j => up2_ne _ _ _ _ hb) (fun j => rfl) (fun j => rfl) (fun j => rfl)
  · cases hx
theorem v_putZX {x : Int32}  (hc : CLk kk C T N ty) (hf : f < N) (ht : fT kk f = 0) (hty : ty f = .boolean) (hfin : (T f).2.2.2 = true) (hin : mn = "<init>") (hdc : (T f).1 = own) (hw : Cond.fieldLink own index (T f).1 (T f).2.1 (T f).2.2.1 ∈ GW) (hd : decode cc pc = .ok (.putfield index, 3)) (hx : pZ kk f a x M = some M1) (k : V G (own, cc, ret, fr, lo, nL, mn, hh) B (pc + 3) ls st M1) : V G (own, cc, ret, fr, lo, nL, mn, hh) B pc ls (.int x :: .ref a :: st) M := by
  unfold pZ at hx
  split at hx
  · rename_i hk
    obtain ⟨hk, hz⟩ := hk
    cases hx
    refine ⟨k.1, fun X h ρ H locs cells slots la hH hl hs he hS hcc hn hla => ?_⟩
    refine va_putF (D := (G.1, G.2.1)) (cl := vwCl) (ci := kk) (v := .int x) (ty := .boolean) h.1 h.2.1 h.2.2.2.1 hc.2.1 ty hc.2.2.1 hc.2.2.2.1 h.2.2.1 h.2.2.2.2.1.1 hH.1 hH.2.1 hS a (ws_obj hH hk hc.2.2.2.2.1) hc.1 f hf (h.2.2.2.1 _ hw) (fun _ h9 => h9) hfin (h.2.2.2.2.2.2.2.2.2.2.2.1.trans hin) hdc (by rw [hc.2.2.1 f hf]; first | rw [hty] | rfl) (by rcases hz with rfl | rfl <;> decide) (by rcases hz with rfl | rfl <;> decide) (by rw [flds_len, hc.2.2.2.2.2]; exact hf) hd (fun H1 locs1 hP hD hS1 => k.2 X h ρ H1 locs1 cells slots la (HR_set hH rfl rfl hH.2.2.2.1 ?_ ?_ hP hD) hl hs.2.2 he hS1 hcc hn hla)
    · have e := flds_set (M := M) (M' := sI M (up2 (mI M) a f x)) (ρ := ρ) (k := kk) (a := a) (f := f) (v := .int x) (by unfold fv; rw [ht]; exact congrArg Value.int (up2_eq _ _ _ _)) (fun j hj => fv_congr (up2_nj _ _ _ _ hj) rfl rfl rfl)
      rw [e, cE, show (mK (sI M (up2 (mI M) a f x)) a).1 = kk from hk, if_pos hc.2.2.2.2.1]
    · exact fun b hb => cE_congr rfl (fun j => up2_ne _ _ _ _ hb) (fun j => rfl) (fun j => rfl) (fun j => rfl)
  · cases hx
theorem v_putLX {x : Int64}  (hc : CLk kk C T N ty) (hf : f < N) (ht : fT kk f = 1) (hty : ty f = .long) (hfin : (T f).2.2.2 = true) (hin : mn = "<init>") (hdc : (T f).1 = own) (hw : Cond.fieldLink own index (T f).1 (T f).2.1 (T f).2.2.1 ∈ GW) (hd : decode cc pc = .ok (.putfield index, 3)) (hx : pL kk f a x M = some M1) (k : V G (own, cc, ret, fr, lo, nL, mn, hh) B (pc + 3) ls st M1) : V G (own, cc, ret, fr, lo, nL, mn, hh) B pc ls (.long x :: .ref a :: st) M := by
  unfold pL at hx
  split at hx
  · rename_i hk
    cases hx
    refine ⟨k.1, fun X h ρ H locs cells slots la hH hl hs he hS hcc hn hla => ?_⟩
    refine va_putF (D := (G.1, G.2.1)) (cl := vwCl) (ci := kk) (v := .long x) (ty := .long) h.1 h.2.1 h.2.2.2.1 hc.2.1 ty hc.2.2.1 hc.2.2.2.1 h.2.2.1 h.2.2.2.2.1.1 hH.1 hH.2.1 hS a (ws_obj hH hk hc.2.2.2.2.1) hc.1 f hf (h.2.2.2.1 _ hw) (fun _ h9 => h9) hfin (h.2.2.2.2.2.2.2.2.2.2.2.1.trans hin) hdc (by rw [hc.2.2.1 f hf]; first | rw [hty] | rfl) rfl rfl (by rw [flds_len, hc.2.2.2.2.2]; exact hf) hd (fun H1 locs1 hP hD hS1 => k.2 X h ρ H1 locs1 cells slots la (HR_set hH rfl rfl hH.2.2.2.1 ?_ ?_ hP hD) hl hs.2.2 he hS1 hcc hn hla)
    · have e := flds_set (M := M) (M' := sL M (up2 (mL M) a f x)) (ρ := ρ) (k := kk) (a := a) (f := f) (v := .long x) (by unfold fv; rw [ht]; exact congrArg Value.long (up2_eq _ _ _ _)) (fun j hj => fv_congr rfl (up2_nj _ _ _ _ hj) rfl rfl)
      rw [e, cE, show (mK (sL M (up2 (mL M) a f x)) a).1 = kk from hk, if_pos hc.2.2.2.2.1]
    · exact fun b hb => cE_congr rfl (fun j => rfl) (fun j => up2_ne _ _ _ _ hb) (fun j => rfl) (fun j => rfl)
  · cases hx
theorem v_putFX {x : UInt32}  (hc : CLk kk C T N ty) (hf : f < N) (ht : fT kk f = 2) (hty : ty f = .float) (hfin : (T f).2.2.2 = true) (hin : mn = "<init>") (hdc : (T f).1 = own) (hw : Cond.fieldLink own index (T f).1 (T f).2.1 (T f).2.2.1 ∈ GW) (hd : decode cc pc = .ok (.putfield index, 3)) (hx : pF kk f a x M = some M1) (k : V G (own, cc, ret, fr, lo, nL, mn, hh) B (pc + 3) ls st M1) : V G (own, cc, ret, fr, lo, nL, mn, hh) B pc ls (.float x :: .ref a :: st) M := by
  unfold pF at hx
  split at hx
  · rename_i hk
    cases hx
    refine ⟨k.1, fun X h ρ H locs cells slots la hH hl hs he hS hcc hn hla => ?_⟩
    refine va_putF (D := (G.1, G.2.1)) (cl := vwCl) (ci := kk) (v := .float x) (ty := .float) h.1 h.2.1 h.2.2.2.1 hc.2.1 ty hc.2.2.1 hc.2.2.2.1 h.2.2.1 h.2.2.2.2.1.1 hH.1 hH.2.1 hS a (ws_obj hH hk hc.2.2.2.2.1) hc.1 f hf (h.2.2.2.1 _ hw) (fun _ h9 => h9) hfin (h.2.2.2.2.2.2.2.2.2.2.2.1.trans hin) hdc (by rw [hc.2.2.1 f hf]; first | rw [hty] | rfl) rfl rfl (by rw [flds_len, hc.2.2.2.2.2]; exact hf) hd (fun H1 locs1 hP hD hS1 => k.2 X h ρ H1 locs1 cells slots la (HR_set hH rfl rfl hH.2.2.2.1 ?_ ?_ hP hD) hl hs.2.2 he hS1 hcc hn hla)
    · have e := flds_set (M := M) (M' := sF M (up2 (mF M) a f x)) (ρ := ρ) (k := kk) (a := a) (f := f) (v := .float x) (by unfold fv; rw [ht]; exact congrArg Value.float (up2_eq _ _ _ _)) (fun j hj => fv_congr rfl rfl (up2_nj _ _ _ _ hj) rfl)
      rw [e, cE, show (mK (sF M (up2 (mF M) a f x)) a).1 = kk from hk, if_pos hc.2.2.2.2.1]
    · exact fun b hb => cE_congr rfl (fun j => rfl) (fun j => rfl) (fun j => up2_ne _ _ _ _ hb) (fun j => rfl)
  · cases hx
theorem v_putRX {x : Nat}  (hc : CLk kk C T N ty) (hf : f < N) (ht : fT kk f = 3) {tr : FieldType} (hty : ty f = tr) (hrr : (∃ c, tr = .object c) ∨ ∃ t, tr = .array t) (hfin : (T f).2.2.2 = true) (hin : mn = "<init>") (hdc : (T f).1 = own) (hw : Cond.fieldLink own index (T f).1 (T f).2.1 (T f).2.2.1 ∈ GW) (hd : decode cc pc = .ok (.putfield index, 3)) (hx : pR kk f a x M = some M1) (k : V G (own, cc, ret, fr, lo, nL, mn, hh) B (pc + 3) ls st M1) : V G (own, cc, ret, fr, lo, nL, mn, hh) B pc ls (.ref x :: .ref a :: st) M := by
  unfold pR at hx
  split at hx
  · rename_i hk
    obtain ⟨hk, hz⟩ := hk
    cases hx
    refine ⟨k.1, fun X h ρ H locs cells slots la hH hl hs he hS hcc hn hla => ?_⟩
    refine va_putF (D := (G.1, G.2.1)) (cl := vwCl) (ci := kk) (v := .ref (ρ x)) (ty := tr) h.1 h.2.1 h.2.2.2.1 hc.2.1 ty hc.2.2.1 hc.2.2.2.1 h.2.2.1 h.2.2.2.2.1.1 hH.1 hH.2.1 hS a (ws_obj hH hk hc.2.2.2.2.1) hc.1 f hf (h.2.2.2.1 _ hw) (fun _ h9 => h9) hfin (h.2.2.2.2.2.2.2.2.2.2.2.1.trans hin) hdc (by rw [hc.2.2.1 f hf]; first | rw [hty] | rfl) (by rcases hrr with ⟨c, rfl⟩ | ⟨t, rfl⟩ <;> rfl) (by rcases hrr with ⟨c, rfl⟩ | ⟨t, rfl⟩ <;> rfl) (by rw [flds_len, hc.2.2.2.2.2]; exact hf) hd (fun H1 locs1 hP hD hS1 => k.2 X h ρ H1 locs1 cells slots la (HR_set hH rfl rfl (up2_clo hH.2.2.2.1 (kd_lt hH rfl hz)) ?_ ?_ hP hD) hl hs.2.2 he hS1 hcc hn hla)
    · have e := flds_set (M := M) (M' := sR M (up2 (mR M) a f (some x))) (ρ := ρ) (k := kk) (a := a) (f := f) (v := .ref (ρ x)) (by unfold fv; rw [ht]; exact congrArg (fun z : Option Nat => va_rf (z.map ρ)) (up2_eq _ _ _ _)) (fun j hj => fv_congr rfl rfl rfl (congrArg (Option.map ρ) (up2_nj _ _ _ _ hj)))
      rw [e, cE, show (mK (sR M (up2 (mR M) a f (some x))) a).1 = kk from hk, if_pos hc.2.2.2.2.1]
    · exact fun b hb => cE_congr rfl (fun j => rfl) (fun j => rfl) (fun j => rfl) (fun j => congrArg (Option.map ρ) (up2_ne _ _ _ _ hb))
  · cases hx
theorem v_iaload  {i : Int32} {x : Int32} (hd : decode cc pc = .ok (.iaload, 1)) (hx : aI 13 a i M = some x) (k : V G (own, cc, ret, fr, lo, nL, mn, hh) B (pc + 1) ls (.int x :: st) M) : V G (own, cc, ret, fr, lo, nL, mn, hh) B pc ls (.int i :: .ref a :: st) M := by
  unfold aI at hx
  split at hx
  · rename_i hk
    obtain ⟨j, hj, rfl⟩ := Option.map_eq_some_iff.mp hx
    obtain ⟨h1, rfl⟩ := ix_spec hj
    refine ⟨k.1, fun X h ρ H locs cells slots la hH hl hs he hS hcc hn hla => ?_⟩
    exact va_iald (D := (G.1, G.2.1)) (cl := vwCl) h.1 h.2.1 h.2.2.2.2.1.1 hH.1 a 0 ((ws_arr hH hk (by decide)).trans (by rw [cE, hk]; rfl)) (tyG_at G (by decide)) h1 hd (k.2 X h ρ H locs cells slots la hH hl ⟨trivial, hs.2.2⟩ he hS hcc hn hla)
  · cases hx
theorem v_laload  {i : Int32} {x : Int64} (hd : decode cc pc = .ok (.laload, 1)) (hx : aL a i M = some x) (k : V G (own, cc, ret, fr, lo, nL, mn, hh) B (pc + 1) ls (.long x :: st) M) : V G (own, cc, ret, fr, lo, nL, mn, hh) B pc ls (.int i :: .ref a :: st) M := by
  unfold aL at hx
  split at hx
  · rename_i hk
    obtain ⟨j, hj, rfl⟩ := Option.map_eq_some_iff.mp hx
    obtain ⟨h1, rfl⟩ := ix_spec hj
    refine ⟨k.1, fun X h ρ H locs cells slots la hH hl hs he hS hcc hn hla => ?_⟩
    exact va_lald (D := (G.1, G.2.1)) (cl := vwCl) h.1 h.2.1 h.2.2.2.2.1.1 hH.1 a 1 ((ws_arr hH hk (by decide)).trans (by rw [cE, hk]; rfl)) (tyG_at G (by decide)) h1 hd (k.2 X h ρ H locs cells slots la hH hl ⟨trivial, hs.2.2⟩ he hS hcc hn hla)
  · cases hx
theorem v_faload  {i : Int32} {x : UInt32} (hd : decode cc pc = .ok (.faload, 1)) (hx : aF a i M = some x) (k : V G (own, cc, ret, fr, lo, nL, mn, hh) B (pc + 1) ls (.float x :: st) M) : V G (own, cc, ret, fr, lo, nL, mn, hh) B pc ls (.int i :: .ref a :: st) M := by
  unfold aF at hx
  split at hx
  · rename_i hk
    obtain ⟨j, hj, rfl⟩ := Option.map_eq_some_iff.mp hx
    obtain ⟨h1, rfl⟩ := ix_spec hj
    refine ⟨k.1, fun X h ρ H locs cells slots la hH hl hs he hS hcc hn hla => ?_⟩
    exact va_fald (D := (G.1, G.2.1)) (cl := vwCl) h.1 h.2.1 h.2.2.2.2.1.1 hH.1 a 2 ((ws_arr hH hk (by decide)).trans (by rw [cE, hk]; rfl)) (tyG_at G (by decide)) h1 hd (k.2 X h ρ H locs cells slots la hH hl ⟨trivial, hs.2.2⟩ he hS hcc hn hla)
  · cases hx
theorem v_caload  {i : Int32} {x : Int32} (hd : decode cc pc = .ok (.caload, 1)) (hx : aI 16 a i M = some x) (k : V G (own, cc, ret, fr, lo, nL, mn, hh) B (pc + 1) ls (.int x :: st) M) : V G (own, cc, ret, fr, lo, nL, mn, hh) B pc ls (.int i :: .ref a :: st) M := by
  unfold aI at hx
  split at hx
  · rename_i hk
    obtain ⟨j, hj, rfl⟩ := Option.map_eq_some_iff.mp hx
    obtain ⟨h1, rfl⟩ := ix_spec hj
    refine ⟨k.1, fun X h ρ H locs cells slots la hH hl hs he hS hcc hn hla => ?_⟩
    exact va_cald (D := (G.1, G.2.1)) (cl := vwCl) h.1 h.2.1 h.2.2.2.2.1.1 hH.1 a 3 ((ws_arr hH hk (by decide)).trans (by rw [cE, hk]; rfl)) (tyG_at G (by decide)) h1 hd (k.2 X h ρ H locs cells slots la hH hl ⟨trivial, hs.2.2⟩ he hS hcc hn hla)
  · cases hx
theorem v_zaload  {i : Int32} {x : Int32} (hd : decode cc pc = .ok (.baload, 1)) (hx : aI 17 a i M = some x) (k : V G (own, cc, ret, fr, lo, nL, mn, hh) B (pc + 1) ls (.int x :: st) M) : V G (own, cc, ret, fr, lo, nL, mn, hh) B pc ls (.int i :: .ref a :: st) M := by
  unfold aI at hx
  split at hx
  · rename_i hk
    obtain ⟨j, hj, rfl⟩ := Option.map_eq_some_iff.mp hx
    obtain ⟨h1, rfl⟩ := ix_spec hj
    refine ⟨k.1, fun X h ρ H locs cells slots la hH hl hs he hS hcc hn hla => ?_⟩
    exact va_zald (D := (G.1, G.2.1)) (cl := vwCl) h.1 h.2.1 h.2.2.2.2.1.1 hH.1 a 4 ((ws_arr hH hk (by decide)).trans (by rw [cE, hk]; rfl)) (tyG_at G (by decide)) h1 hd (k.2 X h ρ H locs cells slots la hH hl ⟨trivial, hs.2.2⟩ he hS hcc hn hla)
  · cases hx
theorem v_iastore  {i : Int32} {x : Int32} (hd : decode cc pc = .ok (.iastore, 1)) (hx : wI 13 a i x M = some M1) (k : V G (own, cc, ret, fr, lo, nL, mn, hh) B (pc + 1) ls st M1) : V G (own, cc, ret, fr, lo, nL, mn, hh) B pc ls (.int x :: .int i :: .ref a :: st) M := by
  unfold wI at hx
  split at hx
  · rename_i hk
    obtain ⟨j, hj, rfl⟩ := Option.map_eq_some_iff.mp hx
    obtain ⟨h1, rfl⟩ := ix_spec hj
    refine ⟨k.1, fun X h ρ H locs cells slots la hH hl hs he hS hcc hn hla => ?_⟩
    refine va_iast (D := (G.1, G.2.1)) (cl := vwCl) h.1 h.2.1 h.2.2.2.2.1.1 hH.1 hH.2.1 hS a 0 ((ws_arr hH hk (by decide)).trans (by rw [cE, hk]; rfl)) (tyG_at G (by decide)) h1 hd (fun H1 locs1 hP hD hS1 => k.2 X h ρ H1 locs1 cells slots la (HR_set hH rfl rfl hH.2.2.2.1 ?_ ?_ hP hD) hl hs.2.2.2 he hS1 hcc hn hla)
    · have e2 : (fun j => up2 (mI M) a i.toNatClampNeg (nar 13 x) a j) = fun j => if j = i.toNatClampNeg then nar 13 x else mI M a j := funext (up2_row _ _ _ _)
      show cE G (sI M (up2 (mI M) a i.toNatClampNeg (nar 13 x))) ρ a = _
      rw [cE, show (mK (sI M (up2 (mI M) a i.toNatClampNeg (nar 13 x))) a).1 = 13 from hk]
      show _ = Sum.inl (_, _, _)
      exact congrArg (fun g => (Sum.inl (G.2.2.1 0, (mK M a).2, .inl g) : va_E)) e2
    · exact fun b hb => cE_congr rfl (fun j => up2_ne _ _ _ _ hb) (fun j => rfl) (fun j => rfl) (fun j => rfl)
  · cases hx
theorem v_lastore  {i : Int32} {x : Int64} (hd : decode cc pc = .ok (.lastore, 1)) (hx : wL a i x M = some M1) (k : V G (own, cc, ret, fr, lo, nL, mn, hh) B (pc + 1) ls st M1) : V G (own, cc, ret, fr, lo, nL, mn, hh) B pc ls (.long x :: .int i :: .ref a :: st) M := by
  unfold wL at hx
  split at hx
  · rename_i hk
    obtain ⟨j, hj, rfl⟩ := Option.map_eq_some_iff.mp hx
    obtain ⟨h1, rfl⟩ := ix_spec hj
    refine ⟨k.1, fun X h ρ H locs cells slots la hH hl hs he hS hcc hn hla => ?_⟩
    refine va_last (D := (G.1, G.2.1)) (cl := vwCl) h.1 h.2.1 h.2.2.2.2.1.1 hH.1 hH.2.1 hS a 1 ((ws_arr hH hk (by decide)).trans (by rw [cE, hk]; rfl)) (tyG_at G (by decide)) h1 hd (fun H1 locs1 hP hD hS1 => k.2 X h ρ H1 locs1 cells slots la (HR_set hH rfl rfl hH.2.2.2.1 ?_ ?_ hP hD) hl hs.2.2.2 he hS1 hcc hn hla)
    · have e2 : (fun j => up2 (mL M) a i.toNatClampNeg (x) a j) = fun j => if j = i.toNatClampNeg then x else mL M a j := funext (up2_row _ _ _ _)
      show cE G (sL M (up2 (mL M) a i.toNatClampNeg (x))) ρ a = _
      rw [cE, show (mK (sL M (up2 (mL M) a i.toNatClampNeg (x))) a).1 = 14 from hk]
      show _ = Sum.inl (_, _, _)
      exact congrArg (fun g => (Sum.inl (G.2.2.1 1, (mK M a).2, .inr (.inl g)) : va_E)) e2
    · exact fun b hb => cE_congr rfl (fun j => rfl) (fun j => up2_ne _ _ _ _ hb) (fun j => rfl) (fun j => rfl)
  · cases hx
theorem v_fastore  {i : Int32} {x : UInt32} (hd : decode cc pc = .ok (.fastore, 1)) (hx : wF a i x M = some M1) (k : V G (own, cc, ret, fr, lo, nL, mn, hh) B (pc + 1) ls st M1) : V G (own, cc, ret, fr, lo, nL, mn, hh) B pc ls (.float x :: .int i :: .ref a :: st) M := by
  unfold wF at hx
  split at hx
  · rename_i hk
    obtain ⟨j, hj, rfl⟩ := Option.map_eq_some_iff.mp hx
    obtain ⟨h1, rfl⟩ := ix_spec hj
    refine ⟨k.1, fun X h ρ H locs cells slots la hH hl hs he hS hcc hn hla => ?_⟩
    refine va_fast (D := (G.1, G.2.1)) (cl := vwCl) h.1 h.2.1 h.2.2.2.2.1.1 hH.1 hH.2.1 hS a 2 ((ws_arr hH hk (by decide)).trans (by rw [cE, hk]; rfl)) (tyG_at G (by decide)) h1 hd (fun H1 locs1 hP hD hS1 => k.2 X h ρ H1 locs1 cells slots la (HR_set hH rfl rfl hH.2.2.2.1 ?_ ?_ hP hD) hl hs.2.2.2 he hS1 hcc hn hla)
    · have e2 : (fun j => up2 (mF M) a i.toNatClampNeg (x) a j) = fun j => if j = i.toNatClampNeg then x else mF M a j := funext (up2_row _ _ _ _)
      show cE G (sF M (up2 (mF M) a i.toNatClampNeg (x))) ρ a = _
      rw [cE, show (mK (sF M (up2 (mF M) a i.toNatClampNeg (x))) a).1 = 15 from hk]
      show _ = Sum.inl (_, _, _)
      exact congrArg (fun g => (Sum.inl (G.2.2.1 2, (mK M a).2, .inr (.inr (.inl g))) : va_E)) e2
    · exact fun b hb => cE_congr rfl (fun j => rfl) (fun j => rfl) (fun j => up2_ne _ _ _ _ hb) (fun j => rfl)
  · cases hx
theorem v_castore  {i : Int32} {x : Int32} (hd : decode cc pc = .ok (.castore, 1)) (hx : wI 16 a i x M = some M1) (k : V G (own, cc, ret, fr, lo, nL, mn, hh) B (pc + 1) ls st M1) : V G (own, cc, ret, fr, lo, nL, mn, hh) B pc ls (.int x :: .int i :: .ref a :: st) M := by
  unfold wI at hx
  split at hx
  · rename_i hk
    obtain ⟨j, hj, rfl⟩ := Option.map_eq_some_iff.mp hx
    obtain ⟨h1, rfl⟩ := ix_spec hj
    refine ⟨k.1, fun X h ρ H locs cells slots la hH hl hs he hS hcc hn hla => ?_⟩
    refine va_cast (D := (G.1, G.2.1)) (cl := vwCl) h.1 h.2.1 h.2.2.2.2.1.1 hH.1 hH.2.1 hS a 3 ((ws_arr hH hk (by decide)).trans (by rw [cE, hk]; rfl)) (tyG_at G (by decide)) h1 hd (fun H1 locs1 hP hD hS1 => k.2 X h ρ H1 locs1 cells slots la (HR_set hH rfl rfl hH.2.2.2.1 ?_ ?_ hP hD) hl hs.2.2.2 he hS1 hcc hn hla)
    · have e2 : (fun j => up2 (mI M) a i.toNatClampNeg (nar 16 x) a j) = fun j => if j = i.toNatClampNeg then nar 16 x else mI M a j := funext (up2_row _ _ _ _)
      show cE G (sI M (up2 (mI M) a i.toNatClampNeg (nar 16 x))) ρ a = _
      rw [cE, show (mK (sI M (up2 (mI M) a i.toNatClampNeg (nar 16 x))) a).1 = 16 from hk]
      show _ = Sum.inl (_, _, _)
      exact congrArg (fun g => (Sum.inl (G.2.2.1 3, (mK M a).2, .inl g) : va_E)) e2
    · exact fun b hb => cE_congr rfl (fun j => up2_ne _ _ _ _ hb) (fun j => rfl) (fun j => rfl) (fun j => rfl)
  · cases hx
theorem v_zastore  {i : Int32} {x : Int32} (hd : decode cc pc = .ok (.bastore, 1)) (hx : wI 17 a i x M = some M1) (k : V G (own, cc, ret, fr, lo, nL, mn, hh) B (pc + 1) ls st M1) : V G (own, cc, ret, fr, lo, nL, mn, hh) B pc ls (.int x :: .int i :: .ref a :: st) M := by
  unfold wI at hx
  split at hx
  · rename_i hk
    obtain ⟨j, hj, rfl⟩ := Option.map_eq_some_iff.mp hx
    obtain ⟨h1, rfl⟩ := ix_spec hj
    refine ⟨k.1, fun X h ρ H locs cells slots la hH hl hs he hS hcc hn hla => ?_⟩
    refine va_zast (D := (G.1, G.2.1)) (cl := vwCl) h.1 h.2.1 h.2.2.2.2.1.1 hH.1 hH.2.1 hS a 4 ((ws_arr hH hk (by decide)).trans (by rw [cE, hk]; rfl)) (tyG_at G (by decide)) h1 hd (fun H1 locs1 hP hD hS1 => k.2 X h ρ H1 locs1 cells slots la (HR_set hH rfl rfl hH.2.2.2.1 ?_ ?_ hP hD) hl hs.2.2.2 he hS1 hcc hn hla)
    · have e2 : (fun j => up2 (mI M) a i.toNatClampNeg (nar 17 x) a j) = fun j => if j = i.toNatClampNeg then nar 17 x else mI M a j := funext (up2_row _ _ _ _)
      show cE G (sI M (up2 (mI M) a i.toNatClampNeg (nar 17 x))) ρ a = _
      rw [cE, show (mK (sI M (up2 (mI M) a i.toNatClampNeg (nar 17 x))) a).1 = 17 from hk]
      show _ = Sum.inl (_, _, _)
      exact congrArg (fun g => (Sum.inl (G.2.2.1 4, (mK M a).2, .inl g) : va_E)) e2
    · exact fun b hb => cE_congr rfl (fun j => up2_ne _ _ _ _ hb) (fun j => rfl) (fun j => rfl) (fun j => rfl)
  · cases hx
theorem cE_ref {G : Gl} {M : Mem} {ρ : Nat → Nat} {a k : Nat} (hk : (mK M a).1 = k) (h1 : 18 ≤ k) : cE G M ρ a = .inl (G.2.2.1 (k - 13), (mK M a).2, .inr (.inr (.inr (.inr (fun i => (mR M a i).map ρ))))) := by
  rw [cE, hk, if_neg (by omega), if_neg (by omega), if_neg (by omega), if_neg (by omega)]
theorem v_aaload  {i : Int32} {x t0 : Nat} {cn : String} (hd : decode cc pc = .ok (.aaload, 1)) (ht : 5 ≤ t0) (ht2 : t0 < 11) (hty : tyA.getD t0 .int = .object cn) (hx : aR (t0 + 13) a i M = some x) (k : V G (own, cc, ret, fr, lo, nL, mn, hh) B (pc + 1) ls (.ref x :: st) M) : V G (own, cc, ret, fr, lo, nL, mn, hh) B pc ls (.int i :: .ref a :: st) M := by
  unfold aR at hx
  split at hx
  · rename_i hk
    obtain ⟨j, hj, hr⟩ := Option.bind_eq_some_iff.mp hx
    obtain ⟨h1, rfl⟩ := ix_spec hj
    refine ⟨k.1, fun X h ρ H locs cells slots la hH hl hs he hS hcc hn hla => ?_⟩
    have e := va_aldq (l := X.l) (e := X.e) (R := X.R) (m := X.m) (args := X.args) (below := X.below) (meth := X.meth) (f := fun i => (mR M a i).map ρ) (D := (G.1, G.2.1)) (cl := vwCl) (Q := X.Q) (cells := cells) (slots := slots) (locs := locs) (rest := st.map (mv ρ)) (ls := la) h.1 h.2.1 h.2.2.2.2.1.1 hH.1 a t0 ((ws_arr hH hk (by omega)).trans (by rw [cE_ref hk (by omega)])) ((tyG_at G ht2).trans (by rw [hty, Nat.add_sub_cancel])) h1 hd
    simp only [hr] at e
    exact e (k.2 X h ρ H locs cells slots la hH hl ⟨Or.inl (hH.2.2.2.1 _ _ _ hr), hs.2.2⟩ he hS hcc hn hla)
  · cases hx
theorem v_aastore  (hc : CLk kk C T N ty) {i : Int32} {x t0 : Nat} (hd : decode cc pc = .ok (.aastore, 1)) (ht : 5 ≤ t0) (ht2 : t0 < 11) (hty : tyA.getD t0 .int = .object C) (hx : wR (t0 + 13) kk a i x M = some M1) (k : V G (own, cc, ret, fr, lo, nL, mn, hh) B (pc + 1) ls st M1) : V G (own, cc, ret, fr, lo, nL, mn, hh) B pc ls (.ref x :: .int i :: .ref a :: st) M := by
  unfold wR at hx
  split at hx
  · rename_i hk
    obtain ⟨hk, hk2⟩ := hk
    obtain ⟨j, hj, rfl⟩ := Option.map_eq_some_iff.mp hx
    obtain ⟨h1, rfl⟩ := ix_spec hj
    refine ⟨k.1, fun X h ρ H locs cells slots la hH hl hs he hS hcc hn hla => ?_⟩
    refine va_astq (D := (G.1, G.2.1)) (cl := vwCl) (r := (C, T, N)) h.1 h.2.1 h.2.2.2.2.1.1 hH.1 hH.2.1 hS a t0 x kk ((ws_arr hH hk (by omega)).trans (by rw [cE_ref hk (by omega)])) ((tyG_at G ht2).trans (by rw [hty, Nat.add_sub_cancel])) (ws_obj hH hk2 hc.2.2.2.2.1) hc.1 h1 hd (fun H1 locs1 hP hD hS1 => k.2 X h ρ H1 locs1 cells slots la (HR_set hH rfl rfl (up2_clo hH.2.2.2.1 (kd_lt hH hk2 (by have := hc.2.2.2.2.1; omega))) ?_ ?_ hP hD) hl hs.2.2.2 he hS1 hcc hn hla)
    · have e2 : (fun j => (up2 (mR M) a i.toNatClampNeg (some x) a j).map ρ) = va_up (fun j => (mR M a j).map ρ) i.toNatClampNeg (some (ρ x)) := funext fun j => by
        rw [up2_row]
        unfold va_up
        by_cases hj : j = i.toNatClampNeg
        · rw [if_pos hj, if_pos hj]; rfl
        · rw [if_neg hj, if_neg hj]
      show cE G (sR M (up2 (mR M) a i.toNatClampNeg (some x))) ρ a = _
      rw [cE_ref (M := sR M (up2 (mR M) a i.toNatClampNeg (some x))) hk (by omega)]
      exact congrArg (fun g => (Sum.inl (G.2.2.1 (t0 + 13 - 13), (mK M a).2, .inr (.inr (.inr (.inr g)))) : va_E)) e2
    · exact fun b hb => cE_congr rfl (fun j => rfl) (fun j => rfl) (fun j => rfl) (fun j => congrArg (Option.map ρ) (up2_ne _ _ _ _ hb))
  · cases hx
theorem v_alen  {x : Int32} (hd : decode cc pc = .ok (.arraylength, 1)) (hx : aN a M = some x) (k : V G (own, cc, ret, fr, lo, nL, mn, hh) B (pc + 1) ls (.int x :: st) M) : V G (own, cc, ret, fr, lo, nL, mn, hh) B pc ls (.ref a :: st) M := by
  unfold aN at hx
  split at hx
  · rename_i hk
    cases hx
    refine ⟨k.1, fun X h ρ H locs cells slots la hH hl hs he hS hcc hn hla => ?_⟩
    have e : ∃ x : vp_A, x.1 = (mK M a).2 ∧ cE G M ρ a = .inl (G.2.2.1 ((mK M a).1 - 13), x) := by
      unfold cE
      rw [if_neg (by omega)]
      by_cases h1 : (mK M a).1 = 14
      · rw [if_pos h1, h1]; exact ⟨_, rfl, rfl⟩
      · rw [if_neg h1]
        by_cases h2 : (mK M a).1 = 15
        · rw [if_pos h2, h2]; exact ⟨_, rfl, rfl⟩
        · rw [if_neg h2]
          by_cases h3 : (mK M a).1 < 18
          · rw [if_pos h3]; exact ⟨_, rfl, rfl⟩
          · rw [if_neg h3]; exact ⟨_, rfl, rfl⟩
    obtain ⟨x, e1, e2⟩ := e
    exact va_alen (D := (G.1, G.2.1)) (cl := vwCl) h.1 h.2.1 h.2.2.2.2.1.1 hH.1 a ((mK M a).1 - 13) ((ws_arr hH rfl (by omega)).trans (by rw [e2])) (tyG_at G (by omega)) (by rw [e1]) hd (k.2 X h ρ H locs cells slots la hH hl ⟨trivial, hs.2⟩ he hS hcc hn hla)
  · cases hx
end
end
section
/-! ROWS: what is made; statics; the throw -/
theorem HR_push {G : Gl} {M : Mem} {ρ : Nat → Nat} {H H1 : Heap} {k n s q : Nat} {e : va_E} (hH : HR G M ρ H) (hlt : mN M + 1 < SCR) (he : cE G (mkM k n s M) (fun b => if b = mN M then q else ρ b) (mN M) = e)
    (hP : va_P (G.1, G.2.1) vwCl (wsM G M ρ ++ [(q, e)]) H1) (hD : va_D (AO G) (wsM G M ρ ++ [(q, e)])) : HR G (mkM k n s M) (fun b => if b = mN M then q else ρ b) H1 := by
  have hw : wsM G M ρ ++ [(q, e)] = wsM G (mkM k n s M) (fun b => if b = mN M then q else ρ b) := by
    refine ws_push rfl he (if_pos rfl) fun b hb => ?_
    have hne : b ≠ mN M := by omega
    refine Prod.ext (if_neg hne) (cE_congr (if_neg hne) (fun j => cl2_ne _ _ _ hne) (fun j => cl2_ne _ _ _ hne) (fun j => cl2_ne _ _ _ hne) (fun j => ?_))
    show (cl2 (mR M) (mN M) none b j).map _ = _
    rw [cl2_ne _ _ _ hne]
    cases hr : mR M b j with
    | none => rfl
    | some c =>
      have := hH.2.2.2.1 _ _ _ hr
      exact congrArg some (if_neg (by omega))
  rw [hw] at hP hD
  refine ⟨hP, hD, fun a ha => ?_, fun a i b hb => ?_, hlt⟩
  · have ha' : mN M + 1 ≤ a := ha
    show (if a = mN M then (k, n) else mK M a).1 = 99
    rw [if_neg (by omega)]
    exact hH.2.2.1 a (by omega)
  · show b < mN M + 1
    have hb' : cl2 (mR M) (mN M) none a i = some b := hb
    unfold cl2 at hb'
    split at hb'
    · cases hb'
    · exact Nat.lt_succ_of_lt (hH.2.2.2.1 _ _ _ hb')
theorem HR.kept {G : Gl} {M : Mem} {ρ : Nat → Nat} {H H1 : Heap} (h : HR G M ρ H) (hq : ∀ q : Nat, q < H.size → H1[q]? = H[q]?) : HR G M ρ H1 :=
  ⟨fun k q hk => (h.1 k q hk).kept (hq _ (h.1 k q hk).lt), h.2⟩
def dv (t : Nat) : Value := match t with
  | 0 => .int 0
  | 1 => .long 0
  | 2 => .float 0
  | _ => .null
section
variable {G : Gl} {B : Bx} {own : String} {cc : ByteArray} {ret : Option FieldType} {fr lo nL : Nat} {mn : String} {hh : List (Nat × Nat × Nat × Nat)} {pc : Nat} {ls : List (Nat × Value)} {st : List Value} {M M1 : Mem} {kk : Nat} {C : String} {T : u_T} {N : Nat} {ty : Nat → FieldType} {f a index : Nat}
theorem v_push_rest {X : Cx} {k n s q : Nat} {H1 : Heap} {ρ : Nat → Nat} {H : Heap} {locs : List Loc} {cells slots : Nat} {la : Array Slot} {e : va_E} (h : Ok X G (own, cc, ret, fr, lo, nL, mn, hh) B) (hlt : mN M + 1 < SCR)
    (kv : V G (own, cc, ret, fr, lo, nL, mn, hh) B pc ls (.ref (mN M) :: st) (mkM k n s M))
    (hH : HR G M ρ H) (hl : lok (mN M) ls) (hs : sok (mN M) st) (he : Ext B.2.1 B.1 M ρ) (hcc : cells + mC B.2.1 ≤ mC M) (hn : slots + mS B.2.1 ≤ mS M) (hla : lv_has la X.c.maxLocals (ls.map (ml ρ)))
    (hE : cE G (mkM k n s M) (fun b => if b = mN M then q else ρ b) (mN M) = e) (hP : va_P (G.1, G.2.1) vwCl (wsM G M ρ ++ [(q, e)]) H1) (hD : va_D (AO G) (wsM G M ρ ++ [(q, e)])) (hS : va_S (AO G) X.s.heap H1 locs) :
    W X.p X.l X.e X.R X.s X.m X.args X.below X.meth X.c H1 locs (cells + 1) (slots + s) X.Q (F0 X.m pc la (.ref q :: st.map (mv ρ))) := by
  have hx : ∀ a, (a < mN M ∨ SCR ≤ a) → (fun b => if b = mN M then q else ρ b) a = ρ a := fun a ha => if_neg (by rcases ha with ha | ha <;> omega)
  have hH1 := HR_push (s := s) hH hlt hE hP hD
  have he1 : Ext M ρ (mkM k n s M) (fun b => if b = mN M then q else ρ b) := ⟨Nat.le_succ _, hx⟩
  have := kv.2 X h _ H1 locs (cells + 1) (slots + s) la hH1 (lok_mono (Nat.le_succ _) hl) ⟨Or.inl (Nat.lt_succ_self _), sok_mono (Nat.le_succ _) hs⟩ (he.tr he1) hS (by show cells + 1 + mC B.2.1 ≤ mC M + 1; omega) (by show slots + s + mS B.2.1 ≤ mS M + s; omega) (by rw [mls_ext hx hl]; exact hla)
  rw [List.map_cons, mvs_ext hx hs] at this
  have e : mv (fun b => if b = mN M then q else ρ b) (.ref (mN M)) = .ref q := congrArg Value.ref (if_pos rfl)
  rw [e] at this
  exact this
theorem v_new (hc : CLk kk C T N ty) (hdv : ∀ j, j < N → defaultValue (ty j) = dv (fT kk j)) (hw : Cond.classLink own index C ∈ GW) (hi : Cond.instantiable C N ∈ GW) (hni : Cond.initialized C ∈ GW) (hd : decode cc pc = .ok (.new index, 3)) {x : Nat} (hx : nO kk N M = some (x, M1)) (k : V G (own, cc, ret, fr, lo, nL, mn, hh) B (pc + 3) ls (.ref x :: st) M1) : V G (own, cc, ret, fr, lo, nL, mn, hh) B pc ls st M := by
  unfold nO at hx
  split at hx
  · rename_i hlt
    cases hx
    have hk1 : mC M + 1 ≤ mC B.2.2.2 := k.1.1
    have hk2 : mS M + N ≤ mS B.2.2.2 := k.1.2
    refine ⟨⟨by omega, by omega⟩, fun X h ρ H locs cells slots la hH hl hs he hS hcc hn hla => ?_⟩
    have hR := h.2.2.2.2.2.2.2.2.1
    refine va_new (c0 := X.c) (D := (G.1, G.2.1)) (cl := vwCl) (ci := kk) (fs := (List.range (nF kk)).map (fun j => dv (fT kk j))) (C := C) (T := T) (N := N) h.1 h.2.1 h.2.2.2.1 hc.2.1 ty hc.2.2.1 h.2.2.1 (h.2.2.2.1 _ hw) (h.2.2.2.1 _ hi) (h.2.2.2.1 _ hni) h.2.2.2.2.1.1 hH.1 hH.2.1 hS (fun q hq => Nat.le_trans h.2.2.2.2.1.2.2.1 hq) hc.1 (fun j hj => ?_) (by rw [hR]; show cells + 1 ≤ mC B.2.2.2 - mC B.2.1; omega) (by rw [hR]; show slots + N ≤ mS B.2.2.2 - mS B.2.1; omega) hd (fun q H1 hP hD hS1 => ?_)
    · rw [hdv j hj]
      unfold vp_V
      rw [List.getD_eq_getElem?_getD, List.getElem?_map, List.getElem?_range (by rw [hc.2.2.2.2.2]; exact hj)]
      rfl
    · refine v_push_rest (k := kk) (n := 0) (s := N) h hlt k hH hl hs he hcc hn hla ?_ hP hD hS1
      have e0 : (mK (mkM kk 0 N M) (mN M)).1 = kk := congrArg Prod.fst (if_pos rfl)
      rw [cE, e0, if_pos hc.2.2.2.2.1]
      refine congrArg _ (congrArg _ (List.map_congr_left fun j _ => ?_))
      unfold fv dv
      have e1 : mI (mkM kk 0 N M) (mN M) j = 0 := cl2_eq _ _ _ _
      have e2 : mL (mkM kk 0 N M) (mN M) j = 0 := cl2_eq _ _ _ _
      have e3 : mF (mkM kk 0 N M) (mN M) j = 0 := cl2_eq _ _ _ _
      have e4 : mR (mkM kk 0 N M) (mN M) j = none := cl2_eq _ _ _ _
      rw [e1, e2, e3, e4]
      rfl
  · cases hx
theorem v_newq {n : Int32} {t0 : Nat} (hd : decode cc pc = .ok (.anewarray index, 3)) (ht : 5 ≤ t0) (ht2 : t0 < 11) (hty : tyA.getD t0 .int = .object C) (hw : Cond.classLink own index C ∈ GW) (hov : Cond.arrayOver (.object C) ∈ BW) {x : Nat} (hx : nA (t0 + 13) n M = some (x, M1)) (k : V G (own, cc, ret, fr, lo, nL, mn, hh) B (pc + 3) ls (.ref x :: st) M1) : V G (own, cc, ret, fr, lo, nL, mn, hh) B pc ls (.int n :: st) M := by
  unfold nA at hx
  split at hx
  · rename_i hlt
    obtain ⟨hlt, hn0, hn1⟩ := hlt
    cases hx
    have hk1 : mC M + 1 ≤ mC B.2.2.2 := k.1.1
    have hk2 : mS M + n.toNatClampNeg ≤ mS B.2.2.2 := k.1.2
    refine ⟨⟨by omega, by omega⟩, fun X h ρ H locs cells slots la hH hl hs he hS hcc hn hla => ?_⟩
    have hR := h.2.2.2.2.2.2.2.2.1
    refine va_newq (D := (G.1, G.2.1)) (cl := vwCl) (N' := n.toNatClampNeg) h.1 h.2.1 h.2.2.1 (h.2.2.2.1 _ hw) (va_AO.of (h.2.2.2.2.1.2.1 _ hov)) h.2.2.2.2.1.1 hH.1 hH.2.1 hS (fun q hq => Nat.le_trans h.2.2.2.2.1.2.2.1 hq) hn0 rfl (by omega) (by rw [hR]; show cells + 1 ≤ mC B.2.2.2 - mC B.2.1; omega) (by rw [hR]; show slots + _ ≤ mS B.2.2.2 - mS B.2.1; omega) hd (fun q cA H1 hK hP hD hS1 => ?_)
    have hcA : cA = G.2.2.1 t0 := by
      have e1 := (hK.2 (tyG G).length (cA, .object C) (by rw [List.getElem?_append_right (Nat.le_refl _), Nat.sub_self]; rfl)).2
      have e2 := (h.2.2.2.2.1.1.2 t0 _ (tyG_at G ht2)).2
      rw [hty] at e2
      exact va_RA_inj e1 e2
    subst hcA
    refine v_push_rest (k := t0 + 13) (n := n.toNatClampNeg) (s := n.toNatClampNeg) h hlt k hH hl hs.2 he hcc hn hla ?_ hP hD hS1
    have e0 : mK (mkM (t0 + 13) n.toNatClampNeg n.toNatClampNeg M) (mN M) = (t0 + 13, n.toNatClampNeg) := if_pos rfl
    rw [cE_ref (congrArg Prod.fst e0) (by omega), e0, Nat.add_sub_cancel]
    have e4 : ∀ j, mR (mkM (t0 + 13) n.toNatClampNeg n.toNatClampNeg M) (mN M) j = none := fun j => cl2_eq _ _ _ _
    simp only [e4]
    rfl
  · cases hx
theorem v_newa {n : Int32} {t0 : Nat} {atype : ArrayType} {tyx : FieldType} (z : Nat → (Nat → Int32) ⊕ (Nat → Int64) ⊕ (Nat → UInt32) ⊕ (Nat → UInt64) ⊕ (Nat → Option Nat)) (hd : decode cc pc = .ok (.newarray atype, 2)) (ht2 : t0 < 5) (hty : tyA.getD t0 .int = tyx) (hat : newarray.typeOf atype = tyx) (hcb : componentBytes tyx ≤ 8) (har : Cond.arrayClass tyx ∈ GW)
    (hz : ∀ (cA : ClassId) (m : Nat), vp_cell cA (m, z 0) = arrV cA m (fun _ => defaultValue tyx)) (hz2 : ∀ (Mx : Mem) (ρ : Nat → Nat) (b m : Nat), mK Mx b = (t0 + 13, m) → (∀ j, mI Mx b j = 0) → (∀ j, mL Mx b j = 0) → (∀ j, mF Mx b j = 0) → cE G Mx ρ b = .inl (G.2.2.1 t0, m, z 0))
    {x : Nat} (hx : nA (t0 + 13) n M = some (x, M1)) (k : V G (own, cc, ret, fr, lo, nL, mn, hh) B (pc + 2) ls (.ref x :: st) M1) : V G (own, cc, ret, fr, lo, nL, mn, hh) B pc ls (.int n :: st) M := by
  unfold nA at hx
  split at hx
  · rename_i hlt
    obtain ⟨hlt, hn0, hn1⟩ := hlt
    cases hx
    have hk1 : mC M + 1 ≤ mC B.2.2.2 := k.1.1
    have hk2 : mS M + n.toNatClampNeg ≤ mS B.2.2.2 := k.1.2
    refine ⟨⟨by omega, by omega⟩, fun X h ρ H locs cells slots la hH hl hs he hS hcc hn hla => ?_⟩
    have hR := h.2.2.2.2.2.2.2.2.1
    refine va_newa (D := (G.1, G.2.1)) (cl := vwCl) (N' := n.toNatClampNeg) (a0 := (n.toNatClampNeg, z 0)) h.1 h.2.1 (by rw [hat]; exact h.2.2.2.1 _ har) hat h.2.2.2.2.1.1 hH.1 hH.2.1 hS (fun q hq => Nat.le_trans h.2.2.2.2.1.2.2.1 hq) (fun cA => hz cA _) hn0 rfl (by have := Nat.mul_le_mul hn1 hcb; omega) (by rw [hR]; show cells + 1 ≤ mC B.2.2.2 - mC B.2.1; omega) (by rw [hR]; show slots + _ ≤ mS B.2.2.2 - mS B.2.1; omega) hd (fun q cA H1 hK hP hD hS1 => ?_)
    have hcA : cA = G.2.2.1 t0 := by
      have e1 := (hK.2 (tyG G).length (cA, tyx) (by rw [List.getElem?_append_right (Nat.le_refl _), Nat.sub_self]; rfl)).2
      have e2 := (h.2.2.2.2.1.1.2 t0 _ (tyG_at G (Nat.lt_trans ht2 (by decide)))).2
      rw [hty] at e2
      exact va_RA_inj e1 e2
    subst hcA
    refine v_push_rest (k := t0 + 13) (n := n.toNatClampNeg) (s := n.toNatClampNeg) h hlt k hH hl hs.2 he hcc hn hla ?_ hP hD hS1
    exact hz2 _ _ _ _ (if_pos rfl) (fun j => cl2_eq _ _ _ _) (fun j => cl2_eq _ _ _ _) (fun j => cl2_eq _ _ _ _)
  · cases hx
theorem cE_i {G : Gl} {t0 : Nat} (h : t0 = 0 ∨ t0 = 3 ∨ t0 = 4) (Mx : Mem) (ρ : Nat → Nat) (b m : Nat) (hk : mK Mx b = (t0 + 13, m)) (h1 : ∀ j, mI Mx b j = 0) : cE G Mx ρ b = .inl (G.2.2.1 t0, m, .inl (fun _ => 0)) := by
  rw [cE, hk]
  have e : mI Mx b = fun _ => 0 := funext h1
  rw [e]
  rcases h with rfl | rfl | rfl <;> rfl
theorem v_newa_int {n : Int32} (hd : decode cc pc = .ok (.newarray .int, 2)) (har : Cond.arrayClass .int ∈ GW) {x : Nat} (hx : nA 13 n M = some (x, M1)) (k : V G (own, cc, ret, fr, lo, nL, mn, hh) B (pc + 2) ls (.ref x :: st) M1) : V G (own, cc, ret, fr, lo, nL, mn, hh) B pc ls (.int n :: st) M :=
  v_newa (t0 := 0) (fun _ => .inl (fun _ => 0)) hd (by decide) rfl rfl (by decide) har (fun cA m => rfl) (fun Mx ρ b m hk h1 _ _ => cE_i (Or.inl rfl) Mx ρ b m hk h1) hx k
theorem v_newa_char {n : Int32} (hd : decode cc pc = .ok (.newarray .char, 2)) (har : Cond.arrayClass .char ∈ GW) {x : Nat} (hx : nA 16 n M = some (x, M1)) (k : V G (own, cc, ret, fr, lo, nL, mn, hh) B (pc + 2) ls (.ref x :: st) M1) : V G (own, cc, ret, fr, lo, nL, mn, hh) B pc ls (.int n :: st) M :=
  v_newa (t0 := 3) (fun _ => .inl (fun _ => 0)) hd (by decide) rfl rfl (by decide) har (fun cA m => rfl) (fun Mx ρ b m hk h1 _ _ => cE_i (Or.inr (Or.inl rfl)) Mx ρ b m hk h1) hx k
theorem v_newa_boolean {n : Int32} (hd : decode cc pc = .ok (.newarray .boolean, 2)) (har : Cond.arrayClass .boolean ∈ GW) {x : Nat} (hx : nA 17 n M = some (x, M1)) (k : V G (own, cc, ret, fr, lo, nL, mn, hh) B (pc + 2) ls (.ref x :: st) M1) : V G (own, cc, ret, fr, lo, nL, mn, hh) B pc ls (.int n :: st) M :=
  v_newa (t0 := 4) (fun _ => .inl (fun _ => 0)) hd (by decide) rfl rfl (by decide) har (fun cA m => rfl) (fun Mx ρ b m hk h1 _ _ => cE_i (Or.inr (Or.inr rfl)) Mx ρ b m hk h1) hx k
theorem v_newa_long {n : Int32} (hd : decode cc pc = .ok (.newarray .long, 2)) (har : Cond.arrayClass .long ∈ GW) {x : Nat} (hx : nA 14 n M = some (x, M1)) (k : V G (own, cc, ret, fr, lo, nL, mn, hh) B (pc + 2) ls (.ref x :: st) M1) : V G (own, cc, ret, fr, lo, nL, mn, hh) B pc ls (.int n :: st) M :=
  v_newa (t0 := 1) (fun _ => .inr (.inl (fun _ => 0))) hd (by decide) rfl rfl (by decide) har (fun cA m => rfl) (fun Mx ρ b m hk _ h2 _ => by rw [cE, hk]; have e : mL Mx b = fun _ => 0 := funext h2; rw [e]; rfl) hx k
theorem v_newa_float {n : Int32} (hd : decode cc pc = .ok (.newarray .float, 2)) (har : Cond.arrayClass .float ∈ GW) {x : Nat} (hx : nA 15 n M = some (x, M1)) (k : V G (own, cc, ret, fr, lo, nL, mn, hh) B (pc + 2) ls (.ref x :: st) M1) : V G (own, cc, ret, fr, lo, nL, mn, hh) B pc ls (.int n :: st) M :=
  v_newa (t0 := 2) (fun _ => .inr (.inr (.inl (fun _ => 0)))) hd (by decide) rfl rfl (by decide) har (fun cA m => rfl) (fun Mx ρ b m hk _ _ h3 => by rw [cE, hk]; have e : mF Mx b = fun _ => 0 := funext h3; rw [e]; rfl) hx k
theorem v_objInit (hl1 : Cond.methodLink own index objectInit ∈ GW) (hin : Cond.instanceMethod objectInit ∈ GW) (hco : Cond.code objectInit ⟨#[0xb1]⟩ 1 none ∈ GW) (hd : decode cc pc = .ok (.invokespecial index, 3)) (hfr : 1 ≤ fr) (hlo : (st.map fun v => v.category).sum + 12 ≤ lo) (k : V G (own, cc, ret, fr, lo, nL, mn, hh) B (pc + 3) ls st M) : V G (own, cc, ret, fr, lo, nL, mn, hh) B pc ls (.ref a :: st) M := by
  refine ⟨k.1, fun X h ρ H locs cells slots la hH hl hs he hS hcc hn hla => ?_⟩
  have hR := h.2.2.2.2.2.2.2.2.1
  refine W.objInit h.1 h.2.1 h.2.2.1 (h.2.2.2.1 _ hl1) (h.2.2.2.1 _ hin) (h.2.2.2.1 _ hco) rfl hla.1 rfl hd (by rw [hR]; exact hfr) (by rw [hR, mv_cats]; show 2 * 0 + _ + 12 ≤ lo; omega) (k.2 X h ρ H locs cells slots la hH hl hs.2 he hS hcc hn hla)
theorem v_gets {i : Nat} (hi : i < 3) (hw : Cond.fieldLink own index RX11 (stN i) "[I" ∈ GW) (hd : decode cc pc = .ok (.getstatic index, 3)) (k : V G (own, cc, ret, fr, lo, nL, mn, hh) B (pc + 3) ls (.ref (SCR + 1 + i) :: st) M) : V G (own, cc, ret, fr, lo, nL, mn, hh) B pc ls st M := by
  refine ⟨k.1, fun X h ρ H locs cells slots la hH hl hs he hS hcc hn hla => ?_⟩
  have hZ := (h.2.2.2.2.1.2.2.2.1 i hi).1
  rw [← he.2 (SCR + 1 + i) (Or.inr (by omega))] at hZ
  exact va_gets h.1 h.2.1 hZ hS h.2.2.1 (h.2.2.2.1 _ hw) (fun _ h9 => h9) hd (k.2 X h ρ H locs cells slots la hH hl ⟨Or.inr (by omega), hs⟩ he hS hcc hn hla)
theorem v_getsN {i : Nat} {host : String} (hi : i < 3) (hw : Cond.fieldLinkNest own index RX11 (stN i) "[I" host ∈ BW) (hd : decode cc pc = .ok (.getstatic index, 3)) (k : V G (own, cc, ret, fr, lo, nL, mn, hh) B (pc + 3) ls (.ref (SCR + 1 + i) :: st) M) : V G (own, cc, ret, fr, lo, nL, mn, hh) B pc ls st M := by
  refine ⟨k.1, fun X h ρ H locs cells slots la hH hl hs he hS hcc hn hla => ?_⟩
  have hZ := (h.2.2.2.2.1.2.2.2.1 i hi).1
  rw [← he.2 (SCR + 1 + i) (Or.inr (by omega))] at hZ
  exact va_getsN h.1 h.2.1 hZ hS h.2.2.1 (bw_warm (List.mem_filter.mp hw).2 (State.WarmedH.refl _) (h.2.2.2.2.1.2.1 _ hw)) (fun _ h9 => h9) hd (k.2 X h ρ H locs cells slots la hH hl ⟨Or.inr (by omega), hs⟩ he hS hcc hn hla)
theorem v_stld {i : Int32} {w : Nat} (hi : w < 3) (hd : decode cc pc = .ok (.iaload, 1)) {x : Int32} (hx : stI w i = some x) (k : V G (own, cc, ret, fr, lo, nL, mn, hh) B (pc + 1) ls (.int x :: st) M) : V G (own, cc, ret, fr, lo, nL, mn, hh) B pc ls (.int i :: .ref (SCR + 1 + w) :: st) M := by
  refine ⟨k.1, fun X h ρ H locs cells slots la hH hl hs he hS hcc hn hla => ?_⟩
  obtain ⟨j, hj, rfl⟩ := Option.map_eq_some_iff.mp hx
  obtain ⟨h1, rfl⟩ := ix_spec hj
  have hT := (h.2.2.2.2.1.2.2.2.1 w hi).2
  rw [← he.2 (SCR + 1 + w) (Or.inr (by omega))] at hT
  exact va_ti h.1 h.2.1 hT hS h1 rfl hd (k.2 X h ρ H locs cells slots la hH hl ⟨trivial, hs.2.2⟩ he hS hcc hn hla)
theorem v_stlen {w : Nat} (hi : w < 3) (hd : decode cc pc = .ok (.arraylength, 1)) (k : V G (own, cc, ret, fr, lo, nL, mn, hh) B (pc + 1) ls (.int 4 :: st) M) : V G (own, cc, ret, fr, lo, nL, mn, hh) B pc ls (.ref (SCR + 1 + w) :: st) M := by
  refine ⟨k.1, fun X h ρ H locs cells slots la hH hl hs he hS hcc hn hla => ?_⟩
  have hT := (h.2.2.2.2.1.2.2.2.1 w hi).2
  rw [← he.2 (SCR + 1 + w) (Or.inr (by omega))] at hT
  exact va_tlen h.1 h.2.1 hT hS rfl hd (k.2 X h ρ H locs cells slots la hH hl ⟨trivial, hs.2⟩ he hS hcc hn hla)
/-- 'throw new E()' in a method without a table -/
theorem v_throw {ρ0 : Nat → Nat} {M0 : Mem} {ik ic e : Nat} {cls : String} {names : List String} (hcl : cls = exN e) (hfit : Bundle.fit cls = true) (hnm : ∀ n ∈ names, Bundle.fit n = true) (hk : Cond.classLink own ik cls ∈ GW) (hini : Cond.initialized cls ∈ GW) (hat : ∀ w ∈ vx_at0 own ic cls names, w ∈ GW ∨ w ∈ BW)
    (hgood : ∀ w ∈ Cond.classLink own ik cls :: Cond.initialized cls :: vx_at0 own ic cls names, vx_ot w = true)
    (d0 : decode cc pc = .ok (.new ik, 3)) (d3 : decode cc (pc + 3) = .ok (.dup, 1)) (d4 : decode cc (pc + 4) = .ok (.invokespecial ic, 3)) (d7 : decode cc (pc + 7) = .ok (.athrow, 1))
    (hfr : names.length + 3 < fr) (hlo : (st.map fun v => v.category).sum + (13 * (names.length + 1) + 42) ≤ lo) : V G (own, cc, ret, fr, lo, nL, mn, []) (ρ0, M0, Sum.inr e, xM M) pc ls st M := by
  refine ⟨⟨Nat.le_succ _, Nat.le_add_right _ _⟩, fun X h ρ H locs cells slots la hH hl hs he hS hcc hn hla => ?_⟩
  obtain ⟨hx, hb, hown, hts, hK, hlk, htr, hQ, hR, hr, hml, hmn, htb⟩ := h
  have htb : X.c.exceptionTable.toList = [] := htb
  have hcc : cells + mC M0 ≤ mC M := hcc
  have hn : slots + mS M0 ≤ mS M := hn
  rw [hQ]
  refine vx_throw0 (A := AO G) (mc := mC (xM M) - mC M0) (ms := mS (xM M) - mS M0) hx hb htr hown hfit hnm (hts _ hk) (hts _ hini) (fun w hw => ?_) hgood hK.2.2.2.2.1 hK.2.2.2.2.2.1 hS hla.1 d0 d3 d4 d7 (by rw [htb]; exact fun _ hq => nomatch hq) (by rw [hR]; exact hfr) (by rw [hR, mv_cats]; exact hlo) (by rw [hR]; show cells + 1 ≤ mC M + 1 - mC M0; omega) (by rw [hR]; show slots + 6 ≤ mS M + 6 - mS M0; omega) hlk (fun t hal hz hq => ⟨⟨e, ρ, rfl, hcl, he, HR.kept hH hq⟩, Nat.le_trans hS.1 hz, fun q h1 h2 => (hq q (Nat.lt_of_lt_of_le h1 hS.1)).trans (hS.2.1 q h1 h2)⟩) hS.2.2 (by show cells + 1 ≤ mC M + 1 - mC M0; omega) (by show slots + 6 ≤ mS M + 6 - mS M0; omega)
  rcases hat w hw with q | q
  · exact hts w q
  · exact bw_warm (List.mem_filter.mp q).2 (State.WarmedH.refl _) (hK.2.1 w q)
end
end
section
/-! CONTRACTS AND CALLS -/
theorem KN.calling {G : Gl} {ρ : Nat → Nat} {a : Array Value} {U : State} {g : JFrame} {mk : MethodId} (h : KN G ρ U) : KN G ρ (U.calling g mk a) :=
  h.moved (U := U.calling g mk a) (State.WarmedH.refl U) (Nat.le_refl _) (fun _ _ _ => rfl) (fun _ _ => rfl)
/-- what a caller knows of a method: on these arguments and this memory it ends with o and M' -/
def Pcc (G : Gl) (ρ : Nat → Nat) (av : List Value) (M : Mem) : Array Value → State → Prop := va_Pc (av.map (mv ρ)) (fun U => sok (mN M) av ∧ KN G ρ U ∧ HR G M ρ U.heap)
theorem Pcc.blind (G : Gl) (ρ : Nat → Nat) (av : List Value) (M : Mem) : FrameBlind (Pcc G ρ av M) := fun a U g mk h => ⟨h.1, h.2.1, h.2.2.1.calling, h.2.2.2⟩
def rmP (fr lo : Nat) (M M' : Mem) : Room := { frames := fr, cells := mC M' - mC M, slots := mS M' - mS M, locals := lo }
def CtrP (G : Gl) (y : MethodName) (cc : ByteArray) (nL : Nat) (ret : Option FieldType) (fr lo : Nat) (av : List Value) (M : Mem) (o : Out) (M' : Mem) : Prop :=
  (mC M ≤ mC M' ∧ mS M ≤ mS M') ∧ ∀ l : Launch, l.stackTraces = false → ∀ ρ, vx_Met l y (.code y cc nL ret :: GW) (rmP fr lo M M') (Pcc G ρ av M) (QcP G (ρ, M, o, M')) (XcP G (ρ, M, o, M')) (mC M' - mC M) (mS M' - mS M) (AO G)
theorem lv_args_map (ρ : Nat → Nat) : ∀ (i : Nat) (vs : List Value), lv_args i (vs.map (mv ρ)) = (lv_args i vs).map (ml ρ) := by
  intro i vs
  induction vs generalizing i with
  | nil => rfl
  | cons v r ih =>
    rw [List.map_cons]
    unfold lv_args
    rw [List.map_cons, ← ih, mv_cat]
    rfl
theorem lok_args {n : Nat} : ∀ {i : Nat} {vs : List Value}, sok n vs → lok n (lv_args i vs) := by
  intro i vs h
  induction vs generalizing i with
  | nil => exact trivial
  | cons v r ih =>
    unfold lv_args
    exact ⟨h.1, ih h.2⟩
theorem lg_sl_len (ρ : Nat → Nat) (vs : List Value) : (lg_sl (vs.map (mv ρ))).length = (lg_sl vs).length := by
  induction vs with
  | nil => rfl
  | cons v r ih =>
    rw [List.map_cons]
    unfold lg_sl at ih ⊢
    rw [List.flatMap_cons, List.flatMap_cons, List.length_append, List.length_append, ih, mv_cat]
    split <;> rfl
/-- a method's contract, from the judgement at its entry -/
theorem ctr_of {G : Gl} {y : MethodName} {cc : ByteArray} {nL fr lo : Nat} {ret : Option FieldType} {av : List Value} {M M' : Mem} {o : Out} (hy : plainName y.cls = true) (hn : (lg_sl av).length ≤ nL)
    (k : ∀ ρ, V G (y.cls, cc, ret, fr, lo, nL, y.name, []) (ρ, M, o, M') 0 (lv_args 0 av) [] M) : CtrP G y cc nL ret fr lo av M o M' := by
  refine ⟨(k id).1, fun l hst ρ => vx_ofW (ws' := GW) (cc := cc) (maxL := nL) (ret := ret) hy rfl ?_⟩
  intro p e s m args below meth c s₁ B hml htb hv
  obtain ⟨rfl, hok, hK, hH⟩ := hv
  have hl := lv_entry (av.map (mv ρ)) (n := nL) (by rw [lg_sl_len]; exact hn)
  rw [lg_entry_eq]
  rw [lv_args_map] at hl
  have hts := atoms_spec (ws := Cond.code y cc nL ret :: GW) B.pre
  have htb' : c.exceptionTable.toList = [] := by
    cases h9 : c.exceptionTable.toList with
    | nil => rfl
    | cons x r => exact absurd (htb x (by rw [h9]; exact List.mem_cons_self)) id
  exact (k ρ).2 (p, l, e, rmP fr lo M M', s, m, (av.map (mv ρ)).toArray, below, meth, c, vx_MQ below (QcP G (ρ, M, o, M')) (XcP G (ρ, M, o, M')) (av.map (mv ρ)).toArray s (mC M' - mC M) (mS M' - mS M) (AO G))
    ⟨B.exec, B.bytes, findClass_of_methodNamed B.named, fun w hw => hts w (List.mem_cons_of_mem _ hw), hK, B.notSynchronized, hst, rfl, rfl, B.returns, hml, (name_of_methodNamed B.named B.method).1, htb'⟩
    ρ s.heap [] 0 0 _ hH (lok_args hok) trivial (Ext.rf M ρ) va_S.rf (by show 0 + mC M ≤ mC M; omega) (by show 0 + mS M ≤ mS M; omega) (by rw [hml]; exact hl)

section
variable {G : Gl} {B : Bx} {own : String} {cc : ByteArray} {ret : Option FieldType} {fr lo nL : Nat} {mn : String} {hh : List (Nat × Nat × Nat × Nat)} {pc : Nat} {ls : List (Nat × Value)} {st : List Value} {M M1 : Mem} {kk : Nat} {C : String} {T : u_T} {N : Nat} {ty : Nat → FieldType} {f a index : Nat}
theorem gw_warm {s U : State} {args a' : Array Value} (hW : s.WarmedH U.vm) {w : Cond} (hw : w ∈ GW) (h : w.before args s = true) : w.before a' U = true := word_at hW (good_of_word (List.mem_filter.mp hw).2) h
/-- what the callee finds, from what the walk holds -/
theorem pcc_at {X : Cx} {S : Sx} {ρ : Nat → Nat} {H : Heap} {locs : List Loc} (h : Ok X G S B) (hH : HR G M ρ H) (he : Ext B.2.1 B.1 M ρ) (hS : va_S (AO G) X.s.heap H locs) {av : List Value} (ha : sok (mN M) av) : FrameBlind (Pcc G ρ av M) ∧ ∀ U : State, U.heap = H → X.s.WarmedH U.vm → Pcc G ρ av M (av.map (mv ρ)).toArray U :=
  ⟨Pcc.blind G ρ av M, fun U hU hW => ⟨rfl, ha, h.2.2.2.2.1.moved hW (by rw [hU]; exact hS.1) (fun q h1 h2 => by rw [hU]; exact hS.2.1 q h1 h2) (fun q hq => he.2 q (Or.inr hq)), by rw [hU]; exact hH⟩⟩
/-- behind a call that has come back, or thrown -/
theorem run_on {X : Cx} {ρ : Nat → Nat} {H : Heap} {locs : List Loc} {cells slots : Nat} {la : Array Slot} {st0 : List Value} {a : Array Value} {o : Out} {M' : Mem} {pcn : Nat} (hp : pcn = pc + 3) (h : Ok X G (own, cc, ret, fr, lo, nL, mn, hh) B)
    (hr : vx_Run X.p X.l X.e X.R X.s X.m X.args X.below X.meth X.c H locs cells slots (mC M' - mC M) (mS M' - mS M) (F0 X.m pc la st0) (st.map (mv ρ)) (QcP G (ρ, M, o, M') a) (XcP G (ρ, M, o, M')) (AO G))
    (hle : mC M ≤ mC M' ∧ mS M ≤ mS M') (hH : HR G M ρ H) (hl : lok (mN M) ls) (hs : sok (mN M) st) (he : Ext B.2.1 B.1 M ρ) (hS : va_S (AO G) X.s.heap H locs) (hcc : cells + mC B.2.1 ≤ mC M) (hn : slots + mS B.2.1 ≤ mS M) (hla : lv_has la X.c.maxLocals (ls.map (ml ρ)))
    (kv : ∀ v, o = .inl v → V G (own, cc, ret, fr, lo, nL, mn, hh) B pcn ls (v.toList ++ st) M')
    (kx : ∀ e, o = .inr e → ∀ (ρ1 : Nat → Nat) (ce : Cell) (q9 : Addr) (H1 : Heap) (locs1 : List Loc), HR G M' ρ1 H1 → Ext M ρ M' ρ1 → Ext B.2.1 B.1 M' ρ1 → va_S (AO G) X.s.heap H1 locs1 → lv_has la X.c.maxLocals (ls.map (ml ρ1)) → lok (mN M') ls → sok (mN M') st → H1[q9]? = some ce → ce.vm = .none → X.s.vm.findClass (exN e) = some ce.cls →
      vx_W X.p X.l X.e X.R X.s X.m X.args X.below X.meth X.c H1 locs1 (cells + (mC M' - mC M)) (slots + (mS M' - mS M)) X.Q (F0 X.m pc la (st.map (mv ρ1))) q9) :
    W X.p X.l X.e X.R X.s X.m X.args X.below X.meth X.c H locs cells slots X.Q (F0 X.m pc la st0) := by
  subst hp
  intro T hT Y
  rcases hr T hT Y with ⟨v, st₀, t, T', L, h0, X', hL, e1, e2, ⟨⟨w, ρ1, ho, hv, hw, hE, hH1⟩, hF⟩, gs⟩ | ⟨q, st₀, t, T', L, E, ce, h0, X', hL, e1, e2, ⟨⟨e9, ρ1, ho, hee, hE, hH1⟩, hF⟩, hce, hcv, hcl, gs⟩
  · obtain ⟨k1, k2, k3⟩ := vx_keep h0 e1 hS (fun _ _ h => h) (fun _ h => h) hL hF
    have hv' : v = w.map (mv ρ1) := by cases hv; rfl
    subst hv'
    rw [← e1] at hH1
    have hE' : Ext M ρ M' ρ1 := hE
    have hw' : vokO (mN M') w := hw
    have hgo := (kv w ho).2 X h ρ1 T'.heap (locs ++ L) (cells + (mC M' - mC M)) (slots + (mS M' - mS M)) la hH1 (lok_mono hE'.1 hl)
      (by cases w with
        | none => exact sok_mono hE'.1 hs
        | some w => exact ⟨hw', sok_mono hE'.1 hs⟩) (he.tr hE') k3 (by have := hle.1; omega) (by have := hle.2; omega) (by rw [mls_ext hE'.2 hl]; exact hla)
    obtain ⟨t2, a1, b1⟩ := hgo T' rfl X'
    refine ⟨t2, gs t2 ?_, b1⟩
    have e9 : (w.toList ++ st).map (mv ρ1) = (w.map (mv ρ1)).toList ++ st.map (mv ρ) := by
      rw [List.map_append, mvs_ext hE'.2 hs]
      cases w <;> rfl
    rw [e9] at a1
    exact a1
  · obtain ⟨k1, k2, k3⟩ := vx_keep h0 e1 hS (fun _ _ h => h) (fun _ h => h) hL hF
    have hE' : Ext M ρ M' ρ1 := hE
    rw [← e1] at hH1 hce
    subst hee
    have hx := kx e9 ho ρ1 ce q T'.heap (locs ++ L) hH1 hE' (he.tr hE') k3 (by rw [mls_ext hE'.2 hl]; exact hla) (lok_mono hE'.1 hl) (sok_mono hE'.1 hs) hce hcv hcl
    obtain ⟨t2, a1, b1⟩ := hx T' rfl X'
    refine ⟨t2, gs.trans ?_, b1⟩
    rw [mvs_ext hE'.2 hs] at a1
    exact a1
end
-- CALL ROWS, by program
section
variable {G : Gl} {B : Bx} {own : String} {cc : ByteArray} {ret : Option FieldType} {fr lo nL : Nat} {mn : String} {hh : List (Nat × Nat × Nat × Nat)} {pc : Nat} {ls : List (Nat × Value)} {st st0 : List Value} {M M1 M' : Mem} {kk : Nat} {C : String} {T : u_T} {N : Nat} {ty : Nat → FieldType} {f a index : Nat}
variable {y : MethodName} {cy : ByteArray} {nY fy ly n b : Nat} {rety : Option FieldType} {As : List Value}
theorem good_sub {ws : List Cond} (h : ∀ w ∈ ws, w ∈ GW) : GoodIn GW ws := fun w hw => ⟨h w hw, good_of_word (List.mem_filter.mp (h w hw)).2⟩
/-- the words of a virtual call -/
def wdV (own : String) (index : Nat) (C : String) (y : MethodName) (cy : ByteArray) (nY : Nat) (rety : Option FieldType) (n : Nat) : Prop :=
  Cond.methodLink own index y ∈ GW ∧ Cond.instanceMethod y ∈ GW ∧ Cond.selects C y y ∈ GW ∧ Cond.initialized C ∈ GW ∧ Cond.code y cy nY rety ∈ GW ∧ (y.cls = C ∧ y.cls ≠ "java/lang/invoke/MethodHandle" ∧ y.cls ≠ "java/lang/invoke/VarHandle" ∧ (parseMethodDescriptor y.desc).map (fun d => d.parameters.length) = some n)
def wdS (own : String) (index : Nat) (y : MethodName) (cy : ByteArray) (nY : Nat) (rety : Option FieldType) (n : Nat) : Prop :=
  Cond.methodLink own index y ∈ GW ∧ Cond.static y ∈ GW ∧ Cond.initialized own ∈ GW ∧ Cond.code y cy nY rety ∈ GW ∧ (y.cls = own ∧ y.cls ≠ "java/lang/invoke/MethodHandle" ∧ y.cls ≠ "java/lang/invoke/VarHandle" ∧ (parseMethodDescriptor y.desc).map (fun d => d.parameters.length) = some n)
def wdT (own : String) (index : Nat) (y : MethodName) (cy : ByteArray) (nY : Nat) (rety : Option FieldType) (n : Nat) : Prop :=
  Cond.methodLink own index y ∈ GW ∧ Cond.static y ∈ GW ∧ Cond.initialized y.cls ∈ GW ∧ Cond.code y cy nY rety ∈ GW ∧ (y.cls ≠ "java/lang/invoke/MethodHandle" ∧ y.cls ≠ "java/lang/invoke/VarHandle" ∧ (parseMethodDescriptor y.desc).map (fun d => d.parameters.length) = some n)
def wdI (own : String) (index : Nat) (y : MethodName) (cy : ByteArray) (nY : Nat) (n : Nat) : Prop :=
  Cond.methodLink own index y ∈ GW ∧ Cond.instanceMethod y ∈ GW ∧ Cond.initialized y.cls ∈ GW ∧ Cond.code y cy nY none ∈ GW ∧ y.name = "<init>" ∧ (y.cls ≠ "java/lang/invoke/MethodHandle" ∧ y.cls ≠ "java/lang/invoke/VarHandle" ∧ (parseMethodDescriptor y.desc).map (fun d => d.parameters.length) = some n)
theorem st_rev (ρ : Nat → Nat) (As st : List Value) (b : Nat) : (As.reverse ++ .ref b :: st).map (mv ρ) = (As.map (mv ρ)).reverse ++ .ref (ρ b) :: st.map (mv ρ) := by
  rw [List.map_append, List.map_reverse, List.map_cons]; rfl
theorem st_revS (ρ : Nat → Nat) (As st : List Value) : (As.reverse ++ st).map (mv ρ) = (As.map (mv ρ)).reverse ++ st.map (mv ρ) := by
  rw [List.map_append, List.map_reverse]
theorem sok_app {n : Nat} : ∀ {l r : List Value}, sok n (l ++ r) → sok n l ∧ sok n r
  | [], _, h => ⟨trivial, h⟩
  | _ :: _, _, h => ⟨⟨h.1, (sok_app h.2).1⟩, (sok_app h.2).2⟩
theorem sok_of {n : Nat} : ∀ {l : List Value}, (∀ v ∈ l, vok n v) → sok n l
  | [], _ => trivial
  | _ :: _, h => ⟨h _ List.mem_cons_self, sok_of (fun q hq => h q (List.mem_cons_of_mem _ hq))⟩
theorem sok_mem {n : Nat} : ∀ {l : List Value} {v : Value}, sok n l → v ∈ l → vok n v
  | _ :: _, _, hv, h => by
    rcases List.mem_cons.mp h with rfl | h
    · exact hv.1
    · exact sok_mem hv.2 h
theorem sok_rev {n : Nat} {l : List Value} (h : sok n l.reverse) : sok n l := sok_of fun _ hv => sok_mem h (List.mem_reverse.mpr hv)
theorem runV_of {X : Cx} {ρ : Nat → Nat} {H : Heap} {locs : List Loc} {cells slots : Nat} {la : Array Slot} {o : Out} (h : Ok X G (own, cc, ret, fr, lo, nL, mn, hh) B) (hC : CtrP G y cy nY rety fy ly (.ref b :: As) M o M') (w : wdV own index C y cy nY rety n)
    (hc : CLk kk C T N ty) (hk : (mK M b).1 = kk) (hn : As.length = n) (hcat : (st.map fun v => v.category).sum ≤ 8) (hR : fy + 1 ≤ fr ∧ 8 + (nY + 11) + ly ≤ lo) (hd : decode cc pc = .ok (.invokevirtual index, 3))
    (hH : HR G M ρ H) (hs : sok (mN M) (As.reverse ++ .ref b :: st)) (he : Ext B.2.1 B.1 M ρ) (hS : va_S (AO G) X.s.heap H locs) (hla : lv_has la X.c.maxLocals (ls.map (ml ρ))) (hcells : cells + (mC M' - mC M) ≤ mC B.2.2.2 - mC B.2.1 ∧ slots + (mS M' - mS M) ≤ mS B.2.2.2 - mS B.2.1) :
    vx_Run X.p X.l X.e X.R X.s X.m X.args X.below X.meth X.c H locs cells slots (mC M' - mC M) (mS M' - mS M) (F0 X.m pc la ((As.reverse ++ .ref b :: st).map (mv ρ))) (st.map (mv ρ)) (QcP G (ρ, M, o, M') ((Value.ref b :: As).map (mv ρ)).toArray) (XcP G (ρ, M, o, M')) (AO G) := by
  obtain ⟨w1, w2, w3, w4, w5, w6⟩ := w
  have hRR := h.2.2.2.2.2.2.2.2.1
  have hP := pcc_at h hH he hS (av := .ref b :: As) ⟨(sok_app hs).2.1, sok_rev (sok_app hs).1⟩
  refine vx_runV (Ts := GW) (As := As.map (mv ρ)) (rest := st.map (mv ρ)) ⟨h.1, h.2.1, h.2.2.2.2.2.2.2.2.2.2.1, h.2.2.1, h.2.2.2.1⟩ (hC.2 X.l h.2.2.2.2.2.2.1 ρ)
    (cwV (ws' := GW) n h.2.2.2.1 (good_sub ?_) rfl rfl rfl w6 (by rw [hRR]; exact hR)) ⟨hP.1, va_recv h.2.2.2.2.1.1 hH.1 hc.1 (ws_obj hH hk hc.2.2.2.2.1), hP.2⟩ rfl (by rw [List.length_map]; exact hn) (by rw [← h.2.2.2.2.2.2.2.2.2.2.1]; exact hla.1) (st_rev ρ As st b) (by rw [mv_cats]; show 2 * 0 + _ ≤ 8; omega) hd (by rw [hRR]; exact hcells)
  intro q hq
  rcases List.mem_append.mp hq with hq | hq
  · simp only [List.mem_cons, List.not_mem_nil, or_false] at hq
    rcases hq with rfl | rfl | rfl | rfl
    · exact w1
    · exact w2
    · exact w3
    · exact w4
  · rcases List.mem_cons.mp hq with rfl | hq
    · exact w5
    · exact hq
theorem runT_of {X : Cx} {ρ : Nat → Nat} {H : Heap} {locs : List Loc} {cells slots : Nat} {la : Array Slot} {o : Out} (h : Ok X G (own, cc, ret, fr, lo, nL, mn, hh) B) (hC : CtrP G y cy nY rety fy ly As M o M') (w : wdT own index y cy nY rety n)
    (hn : As.length = n) (hcat : (st.map fun v => v.category).sum ≤ 8) (hR : fy + 1 ≤ fr ∧ 8 + (nY + 11) + ly ≤ lo) (hd : decode cc pc = .ok (.invokestatic index, 3))
    (hH : HR G M ρ H) (hs : sok (mN M) (As.reverse ++ st)) (he : Ext B.2.1 B.1 M ρ) (hS : va_S (AO G) X.s.heap H locs) (hla : lv_has la X.c.maxLocals (ls.map (ml ρ))) (hcells : cells + (mC M' - mC M) ≤ mC B.2.2.2 - mC B.2.1 ∧ slots + (mS M' - mS M) ≤ mS B.2.2.2 - mS B.2.1) :
    vx_Run X.p X.l X.e X.R X.s X.m X.args X.below X.meth X.c H locs cells slots (mC M' - mC M) (mS M' - mS M) (F0 X.m pc la ((As.reverse ++ st).map (mv ρ))) (st.map (mv ρ)) (QcP G (ρ, M, o, M') (As.map (mv ρ)).toArray) (XcP G (ρ, M, o, M')) (AO G) := by
  obtain ⟨w1, w2, w3, w4, w5, w6, w7⟩ := w
  have hRR := h.2.2.2.2.2.2.2.2.1
  have hP := pcc_at h hH he hS (av := As) (sok_rev (sok_app hs).1)
  refine vx_runS (Ts := GW) (As := As.map (mv ρ)) (rest := st.map (mv ρ)) ⟨h.1, h.2.1, h.2.2.2.2.2.2.2.2.2.2.1, h.2.2.1, h.2.2.2.1⟩ (hC.2 X.l h.2.2.2.2.2.2.1 ρ)
    ⟨callB_of (ws' := GW) n h.2.2.2.1 (good_sub ?_) rfl rfl rfl (h.2.2.2.1 _ w3) (h.2.2.2.1 _ w1) ⟨w5, w6, w7⟩ (by rw [hRR]; exact hR), h.2.2.2.1 _ w2⟩ hP rfl (by rw [List.length_map]; exact hn) (by rw [← h.2.2.2.2.2.2.2.2.2.2.1]; exact hla.1) (st_revS ρ As st) (by rw [mv_cats]; show 2 * 0 + _ ≤ 8; omega) hd (by rw [hRR]; exact hcells)
  intro q hq
  rcases List.mem_cons.mp hq with rfl | hq
  · exact w4
  · exact hq
/-- what a contract gives where nothing is thrown -/
theorem met_of {G : Gl} {l : Launch} {ws : List Cond} {rm : Room} {Pc : Array Value → State → Prop} {B : Bx} {v : Option Value} {mc ms : Nat} {fre : Addr → Prop} (h : vx_Met l y ws rm Pc (QcP G (B.1, B.2.1, .inl v, M')) (XcP G (B.1, B.2.1, .inl v, M')) mc ms fre) : Met l y ws rm Pc (QcP G (B.1, B.2.1, .inl v, M')) mc ms fre := by
  intro p e h1 h2 h3 s m args below h4 h5 h6 h7
  obtain ⟨n, o, g1, g2, g3, g4⟩ := h p e h1 h2 h3 s m args below h4 h5 h6 h7
  refine ⟨n, o, g1, g2, g3, ?_⟩
  rcases g4 with g4 | ⟨q, -, E, ce, L, hx, -⟩
  · exact g4
  · obtain ⟨⟨e9, ρ9, h9, -⟩, -⟩ := hx
    cases h9
theorem runI_of {X : Cx} {ρ : Nat → Nat} {H : Heap} {locs : List Loc} {cells slots : Nat} {la : Array Slot} {v : Option Value} (h : Ok X G (own, cc, ret, fr, lo, nL, mn, hh) B) (hC : CtrP G y cy nY none fy ly (.ref b :: As) M (.inl v) M') (w : wdI own index y cy nY n)
    (hn : As.length = n) (hcat : (st.map fun v => v.category).sum ≤ 8) (hR : fy + 1 ≤ fr ∧ 8 + (nY + 11) + ly ≤ lo) (hd : decode cc pc = .ok (.invokespecial index, 3))
    (hH : HR G M ρ H) (hs : sok (mN M) (As.reverse ++ .ref b :: st)) (he : Ext B.2.1 B.1 M ρ) (hS : va_S (AO G) X.s.heap H locs) (hla : lv_has la X.c.maxLocals (ls.map (ml ρ))) (hcells : cells + (mC M' - mC M) ≤ mC B.2.2.2 - mC B.2.1 ∧ slots + (mS M' - mS M) ≤ mS B.2.2.2 - mS B.2.1) :
    vx_Run X.p X.l X.e X.R X.s X.m X.args X.below X.meth X.c H locs cells slots (mC M' - mC M) (mS M' - mS M) (F0 X.m pc la ((As.reverse ++ .ref b :: st).map (mv ρ))) (st.map (mv ρ)) (QcP G (ρ, M, .inl v, M') ((Value.ref b :: As).map (mv ρ)).toArray) (XcP G (ρ, M, .inl v, M')) (AO G) := by
  obtain ⟨w1, w2, w3, w4, w5, w6, w7, w8⟩ := w
  have hRR := h.2.2.2.2.2.2.2.2.1
  have hP := pcc_at h hH he hS (av := .ref b :: As) ⟨(sok_app hs).2.1, sok_rev (sok_app hs).1⟩
  have hr := va_runI (p := X.p) (e := X.e) (R := X.R) (s := X.s) (m := X.m) (args := X.args) (below := X.below) (meth := X.meth) (c := X.c) (Ts := GW) (As := As.map (mv ρ)) (b := ρ b) (rest := st.map (mv ρ)) (H := H) (locs := locs) (cells := cells) (slots := slots) (g := F0 X.m pc la ((As.reverse ++ .ref b :: st).map (mv ρ))) ⟨h.1, h.2.1, h.2.2.2.2.2.2.2.2.2.2.1, h.2.2.1, h.2.2.2.1⟩ (met_of (B := (ρ, M, .inl v, M')) (hC.2 X.l h.2.2.2.2.2.2.1 ρ))
    (cwI (ws' := GW) n h.2.2.2.1 (good_sub (fun q hq => by
      rcases List.mem_cons.mp hq with rfl | hq
      · exact w4
      · exact hq)) rfl rfl rfl (h.2.2.2.1 _ w3) (h.2.2.2.1 _ w1) (h.2.2.2.1 _ w2) w5 ⟨w6, w7, w8⟩ (by rw [hRR]; exact hR)) hP rfl (by rw [List.length_map]; exact hn) (by rw [← h.2.2.2.2.2.2.2.2.2.2.1]; exact hla.1) (st_rev ρ As st b) (by rw [mv_cats]; show 2 * 0 + _ ≤ 8; omega) hd (by rw [hRR]; exact hcells)
  intro T0 hT0 Y
  exact Or.inl (hr T0 hT0 Y)
theorem v_callV0 (hC : CtrP G y cy nY rety fy ly (.ref b :: As) M (.inl (none)) M') (w : wdV own index C y cy nY rety n) (hc : CLk kk C T N ty) (hk : (mK M b).1 = kk) (hd : decode cc pc = .ok (.invokevirtual index, 3)) (hs0 : st0 = As.reverse ++ .ref b :: st) (hn : As.length = n) (hcat : (st.map fun v => v.category).sum ≤ 8) (hR : fy + 1 ≤ fr ∧ 8 + (nY + 11) + ly ≤ lo) (k : V G (own, cc, ret, fr, lo, nL, mn, hh) B (pc + 3) ls (st) M') : V G (own, cc, ret, fr, lo, nL, mn, hh) B pc ls st0 M := by
  have hle := hC.1
  refine ⟨⟨Nat.le_trans hle.1 k.1.1, Nat.le_trans hle.2 k.1.2⟩, fun X h ρ H locs cells slots la hH hl hs he hS hcc hn2 hla => ?_⟩
  have hle2 := k.1
  subst hs0
  exact run_on rfl h (runV_of (ls := ls) h hC w hc hk hn hcat hR hd hH hs he hS hla ⟨by omega, by omega⟩) hle hH hl ((sok_app hs).2.2) he hS hcc hn2 hla (fun v9 h9 => by cases h9; exact k) (fun e9 h9 => nomatch h9)
theorem v_callS0 (hC : CtrP G y cy nY rety fy ly As M (.inl (none)) M') (w : wdT own index y cy nY rety n) (hd : decode cc pc = .ok (.invokestatic index, 3)) (hs0 : st0 = As.reverse ++ st) (hn : As.length = n) (hcat : (st.map fun v => v.category).sum ≤ 8) (hR : fy + 1 ≤ fr ∧ 8 + (nY + 11) + ly ≤ lo) (k : V G (own, cc, ret, fr, lo, nL, mn, hh) B (pc + 3) ls (st) M') : V G (own, cc, ret, fr, lo, nL, mn, hh) B pc ls st0 M := by
  have hle := hC.1
  refine ⟨⟨Nat.le_trans hle.1 k.1.1, Nat.le_trans hle.2 k.1.2⟩, fun X h ρ H locs cells slots la hH hl hs he hS hcc hn2 hla => ?_⟩
  have hle2 := k.1
  subst hs0
  exact run_on rfl h (runT_of (ls := ls) h hC w hn hcat hR hd hH hs he hS hla ⟨by omega, by omega⟩) hle hH hl ((sok_app hs).2) he hS hcc hn2 hla (fun v9 h9 => by cases h9; exact k) (fun e9 h9 => nomatch h9)
theorem v_callVi {x : Int32} (hC : CtrP G y cy nY rety fy ly (.ref b :: As) M (.inl (some (.int x))) M') (w : wdV own index C y cy nY rety n) (hc : CLk kk C T N ty) (hk : (mK M b).1 = kk) (hd : decode cc pc = .ok (.invokevirtual index, 3)) (hs0 : st0 = As.reverse ++ .ref b :: st) (hn : As.length = n) (hcat : (st.map fun v => v.category).sum ≤ 8) (hR : fy + 1 ≤ fr ∧ 8 + (nY + 11) + ly ≤ lo) (k : V G (own, cc, ret, fr, lo, nL, mn, hh) B (pc + 3) ls (.int x :: st) M') : V G (own, cc, ret, fr, lo, nL, mn, hh) B pc ls st0 M := by
  have hle := hC.1
  refine ⟨⟨Nat.le_trans hle.1 k.1.1, Nat.le_trans hle.2 k.1.2⟩, fun X h ρ H locs cells slots la hH hl hs he hS hcc hn2 hla => ?_⟩
  have hle2 := k.1
  subst hs0
  exact run_on rfl h (runV_of (ls := ls) h hC w hc hk hn hcat hR hd hH hs he hS hla ⟨by omega, by omega⟩) hle hH hl ((sok_app hs).2.2) he hS hcc hn2 hla (fun v9 h9 => by cases h9; exact k) (fun e9 h9 => nomatch h9)
theorem v_callSi {x : Int32} (hC : CtrP G y cy nY rety fy ly As M (.inl (some (.int x))) M') (w : wdT own index y cy nY rety n) (hd : decode cc pc = .ok (.invokestatic index, 3)) (hs0 : st0 = As.reverse ++ st) (hn : As.length = n) (hcat : (st.map fun v => v.category).sum ≤ 8) (hR : fy + 1 ≤ fr ∧ 8 + (nY + 11) + ly ≤ lo) (k : V G (own, cc, ret, fr, lo, nL, mn, hh) B (pc + 3) ls (.int x :: st) M') : V G (own, cc, ret, fr, lo, nL, mn, hh) B pc ls st0 M := by
  have hle := hC.1
  refine ⟨⟨Nat.le_trans hle.1 k.1.1, Nat.le_trans hle.2 k.1.2⟩, fun X h ρ H locs cells slots la hH hl hs he hS hcc hn2 hla => ?_⟩
  have hle2 := k.1
  subst hs0
  exact run_on rfl h (runT_of (ls := ls) h hC w hn hcat hR hd hH hs he hS hla ⟨by omega, by omega⟩) hle hH hl ((sok_app hs).2) he hS hcc hn2 hla (fun v9 h9 => by cases h9; exact k) (fun e9 h9 => nomatch h9)
theorem v_callVl {x : Int64} (hC : CtrP G y cy nY rety fy ly (.ref b :: As) M (.inl (some (.long x))) M') (w : wdV own index C y cy nY rety n) (hc : CLk kk C T N ty) (hk : (mK M b).1 = kk) (hd : decode cc pc = .ok (.invokevirtual index, 3)) (hs0 : st0 = As.reverse ++ .ref b :: st) (hn : As.length = n) (hcat : (st.map fun v => v.category).sum ≤ 8) (hR : fy + 1 ≤ fr ∧ 8 + (nY + 11) + ly ≤ lo) (k : V G (own, cc, ret, fr, lo, nL, mn, hh) B (pc + 3) ls (.long x :: st) M') : V G (own, cc, ret, fr, lo, nL, mn, hh) B pc ls st0 M := by
  have hle := hC.1
  refine ⟨⟨Nat.le_trans hle.1 k.1.1, Nat.le_trans hle.2 k.1.2⟩, fun X h ρ H locs cells slots la hH hl hs he hS hcc hn2 hla => ?_⟩
  have hle2 := k.1
  subst hs0
  exact run_on rfl h (runV_of (ls := ls) h hC w hc hk hn hcat hR hd hH hs he hS hla ⟨by omega, by omega⟩) hle hH hl ((sok_app hs).2.2) he hS hcc hn2 hla (fun v9 h9 => by cases h9; exact k) (fun e9 h9 => nomatch h9)
theorem v_callSl {x : Int64} (hC : CtrP G y cy nY rety fy ly As M (.inl (some (.long x))) M') (w : wdT own index y cy nY rety n) (hd : decode cc pc = .ok (.invokestatic index, 3)) (hs0 : st0 = As.reverse ++ st) (hn : As.length = n) (hcat : (st.map fun v => v.category).sum ≤ 8) (hR : fy + 1 ≤ fr ∧ 8 + (nY + 11) + ly ≤ lo) (k : V G (own, cc, ret, fr, lo, nL, mn, hh) B (pc + 3) ls (.long x :: st) M') : V G (own, cc, ret, fr, lo, nL, mn, hh) B pc ls st0 M := by
  have hle := hC.1
  refine ⟨⟨Nat.le_trans hle.1 k.1.1, Nat.le_trans hle.2 k.1.2⟩, fun X h ρ H locs cells slots la hH hl hs he hS hcc hn2 hla => ?_⟩
  have hle2 := k.1
  subst hs0
  exact run_on rfl h (runT_of (ls := ls) h hC w hn hcat hR hd hH hs he hS hla ⟨by omega, by omega⟩) hle hH hl ((sok_app hs).2) he hS hcc hn2 hla (fun v9 h9 => by cases h9; exact k) (fun e9 h9 => nomatch h9)
theorem v_callVr {x : Nat} (hC : CtrP G y cy nY rety fy ly (.ref b :: As) M (.inl (some (.ref x))) M') (w : wdV own index C y cy nY rety n) (hc : CLk kk C T N ty) (hk : (mK M b).1 = kk) (hd : decode cc pc = .ok (.invokevirtual index, 3)) (hs0 : st0 = As.reverse ++ .ref b :: st) (hn : As.length = n) (hcat : (st.map fun v => v.category).sum ≤ 8) (hR : fy + 1 ≤ fr ∧ 8 + (nY + 11) + ly ≤ lo) (k : V G (own, cc, ret, fr, lo, nL, mn, hh) B (pc + 3) ls (.ref x :: st) M') : V G (own, cc, ret, fr, lo, nL, mn, hh) B pc ls st0 M := by
  have hle := hC.1
  refine ⟨⟨Nat.le_trans hle.1 k.1.1, Nat.le_trans hle.2 k.1.2⟩, fun X h ρ H locs cells slots la hH hl hs he hS hcc hn2 hla => ?_⟩
  have hle2 := k.1
  subst hs0
  exact run_on rfl h (runV_of (ls := ls) h hC w hc hk hn hcat hR hd hH hs he hS hla ⟨by omega, by omega⟩) hle hH hl ((sok_app hs).2.2) he hS hcc hn2 hla (fun v9 h9 => by cases h9; exact k) (fun e9 h9 => nomatch h9)
theorem v_callSr {x : Nat} (hC : CtrP G y cy nY rety fy ly As M (.inl (some (.ref x))) M') (w : wdT own index y cy nY rety n) (hd : decode cc pc = .ok (.invokestatic index, 3)) (hs0 : st0 = As.reverse ++ st) (hn : As.length = n) (hcat : (st.map fun v => v.category).sum ≤ 8) (hR : fy + 1 ≤ fr ∧ 8 + (nY + 11) + ly ≤ lo) (k : V G (own, cc, ret, fr, lo, nL, mn, hh) B (pc + 3) ls (.ref x :: st) M') : V G (own, cc, ret, fr, lo, nL, mn, hh) B pc ls st0 M := by
  have hle := hC.1
  refine ⟨⟨Nat.le_trans hle.1 k.1.1, Nat.le_trans hle.2 k.1.2⟩, fun X h ρ H locs cells slots la hH hl hs he hS hcc hn2 hla => ?_⟩
  have hle2 := k.1
  subst hs0
  exact run_on rfl h (runT_of (ls := ls) h hC w hn hcat hR hd hH hs he hS hla ⟨by omega, by omega⟩) hle hH hl ((sok_app hs).2) he hS hcc hn2 hla (fun v9 h9 => by cases h9; exact k) (fun e9 h9 => nomatch h9)
theorem v_callI (hC : CtrP G y cy nY none fy ly (.ref b :: As) M (.inl none) M') (w : wdI own index y cy nY n) (hd : decode cc pc = .ok (.invokespecial index, 3)) (hs0 : st0 = As.reverse ++ .ref b :: st) (hn : As.length = n) (hcat : (st.map fun v => v.category).sum ≤ 8) (hR : fy + 1 ≤ fr ∧ 8 + (nY + 11) + ly ≤ lo) (k : V G (own, cc, ret, fr, lo, nL, mn, hh) B (pc + 3) ls st M') : V G (own, cc, ret, fr, lo, nL, mn, hh) B pc ls st0 M := by
  have hle := hC.1
  refine ⟨⟨Nat.le_trans hle.1 k.1.1, Nat.le_trans hle.2 k.1.2⟩, fun X h ρ H locs cells slots la hH hl hs he hS hcc hn2 hla => ?_⟩
  have hle2 := k.1
  subst hs0
  exact run_on rfl h (runI_of (ls := ls) h hC w hn hcat hR hd hH hs he hS hla ⟨by omega, by omega⟩) hle hH hl ((sok_app hs).2.2) he hS hcc hn2 hla (fun v9 h9 => by cases h9; exact k) (fun e9 h9 => nomatch h9)
theorem v_callVx {ρ0 : Nat → Nat} {M0 : Mem} {e : Nat} (hC : CtrP G y cy nY rety fy ly (.ref b :: As) M (.inr e) M') (w : wdV own index C y cy nY rety n) (hc : CLk kk C T N ty) (hk : (mK M b).1 = kk) (hd : decode cc pc = .ok (.invokevirtual index, 3)) (hs0 : st0 = As.reverse ++ .ref b :: st) (hn : As.length = n) (hcat : (st.map fun v => v.category).sum ≤ 8) (hR : fy + 1 ≤ fr ∧ 8 + (nY + 11) + ly ≤ lo) : V G (own, cc, ret, fr, lo, nL, mn, []) (ρ0, M0, Sum.inr e, M') pc ls st0 M := by
  have hle := hC.1
  refine ⟨hle, fun X h ρ H locs cells slots la hH hl hs he hS hcc hn2 hla => ?_⟩
  subst hs0
  have hcc : cells + mC M0 ≤ mC M := hcc
  have hn2 : slots + mS M0 ≤ mS M := hn2
  refine run_on rfl h (runV_of (ls := ls) h hC w hc hk hn hcat hR hd hH hs he hS hla ⟨by show _ ≤ mC M' - mC M0; omega, by show _ ≤ mS M' - mS M0; omega⟩) hle hH hl ((sok_app hs).2.2) he hS hcc hn2 hla (fun v9 h9 => nomatch h9) (fun e9 h9 ρ1 ce q9 H1 locs1 g1 g2 g3 g4 g5 g6 g7 g8 g9 g10 => ?_)
  cases h9
  obtain ⟨hx, hb, hown, hts, hK, hlk, htr, hQ, hR2, hr, hml, hmn, htb⟩ := h
  have htb : X.c.exceptionTable.toList = [] := htb
  rw [hQ]
  exact vx_out (by rw [htb]; exact fun _ hq => nomatch hq) hlk g8 g9 g10 (fun t ht hal => ⟨⟨e, ρ1, rfl, rfl, g3, by rw [ht]; exact g1⟩, by rw [ht]; exact g4.1, fun q h1 h2 => by rw [ht]; exact g4.2.1 q h1 h2⟩) g4.2.2 (by show _ ≤ mC M' - mC M0; omega) (by show _ ≤ mS M' - mS M0; omega)
theorem v_callSx {ρ0 : Nat → Nat} {M0 : Mem} {e : Nat} (hC : CtrP G y cy nY rety fy ly As M (.inr e) M') (w : wdT own index y cy nY rety n) (hd : decode cc pc = .ok (.invokestatic index, 3)) (hs0 : st0 = As.reverse ++ st) (hn : As.length = n) (hcat : (st.map fun v => v.category).sum ≤ 8) (hR : fy + 1 ≤ fr ∧ 8 + (nY + 11) + ly ≤ lo) : V G (own, cc, ret, fr, lo, nL, mn, []) (ρ0, M0, Sum.inr e, M') pc ls st0 M := by
  have hle := hC.1
  refine ⟨hle, fun X h ρ H locs cells slots la hH hl hs he hS hcc hn2 hla => ?_⟩
  subst hs0
  have hcc : cells + mC M0 ≤ mC M := hcc
  have hn2 : slots + mS M0 ≤ mS M := hn2
  refine run_on rfl h (runT_of (ls := ls) h hC w hn hcat hR hd hH hs he hS hla ⟨by show _ ≤ mC M' - mC M0; omega, by show _ ≤ mS M' - mS M0; omega⟩) hle hH hl ((sok_app hs).2) he hS hcc hn2 hla (fun v9 h9 => nomatch h9) (fun e9 h9 ρ1 ce q9 H1 locs1 g1 g2 g3 g4 g5 g6 g7 g8 g9 g10 => ?_)
  cases h9
  obtain ⟨hx, hb, hown, hts, hK, hlk, htr, hQ, hR2, hr, hml, hmn, htb⟩ := h
  have htb : X.c.exceptionTable.toList = [] := htb
  rw [hQ]
  exact vx_out (by rw [htb]; exact fun _ hq => nomatch hq) hlk g8 g9 g10 (fun t ht hal => ⟨⟨e, ρ1, rfl, rfl, g3, by rw [ht]; exact g1⟩, by rw [ht]; exact g4.1, fun q h1 h2 => by rw [ht]; exact g4.2.1 q h1 h2⟩) g4.2.2 (by show _ ≤ mC M' - mC M0; omega) (by show _ ≤ mS M' - mS M0; omega)
end
end
section
/-! LINKS: words of the tables; one row a link -/
theorem gwi {w : Cond} (i : Nat) (h : lw_tbl[i]? = some w) (hg : goodWord w = true) : w ∈ GW := List.mem_filter.mpr ⟨List.mem_of_getElem? h, hg⟩
theorem bwi {w : Cond} (i : Nat) (h : lw_tbl[i]? = some w) (hg : bw w = true) : w ∈ BW := List.mem_filter.mpr ⟨List.mem_of_getElem? h, hg⟩
theorem inGX0 : ∀ w ∈ u_ws RX0 TX0 8, w ∈ GW := by decide +kernel
theorem clX0 : CLk 0 RX0 TX0 8 tyX0 := ⟨rfl, inGX0, tyX0_ok, nmX0, by decide, rfl⟩
theorem dvX0 : ∀ j, j < 8 → defaultValue (tyX0 j) = dv (fT 0 j) := by decide +kernel
theorem inGX1 : ∀ w ∈ u_ws RX1 TX1 7, w ∈ GW := by decide +kernel
theorem clX1 : CLk 1 RX1 TX1 7 tyX1 := ⟨rfl, inGX1, tyX1_ok, nmX1, by decide, rfl⟩
theorem dvX1 : ∀ j, j < 7 → defaultValue (tyX1 j) = dv (fT 1 j) := by decide +kernel
theorem inGX2 : ∀ w ∈ u_ws RX2 TX2 2, w ∈ GW := by decide +kernel
theorem clX2 : CLk 2 RX2 TX2 2 tyX2 := ⟨rfl, inGX2, tyX2_ok, nmX2, by decide, rfl⟩
theorem dvX2 : ∀ j, j < 2 → defaultValue (tyX2 j) = dv (fT 2 j) := by decide +kernel
theorem inGX3 : ∀ w ∈ u_ws RX3 TX3 6, w ∈ GW := by decide +kernel
theorem clX3 : CLk 3 RX3 TX3 6 tyX3 := ⟨rfl, inGX3, tyX3_ok, nmX3, by decide, rfl⟩
theorem dvX3 : ∀ j, j < 6 → defaultValue (tyX3 j) = dv (fT 3 j) := by decide +kernel
theorem inGX4 : ∀ w ∈ u_ws RX4 TX4 3, w ∈ GW := by decide +kernel
theorem clX4 : CLk 4 RX4 TX4 3 tyX4 := ⟨rfl, inGX4, tyX4_ok, nmX4, by decide, rfl⟩
theorem dvX4 : ∀ j, j < 3 → defaultValue (tyX4 j) = dv (fT 4 j) := by decide +kernel
theorem inGX5 : ∀ w ∈ u_ws RX5 TX5 10, w ∈ GW := by decide +kernel
theorem clX5 : CLk 5 RX5 TX5 10 tyX5 := ⟨rfl, inGX5, tyX5_ok, nmX5, by decide, rfl⟩
theorem dvX5 : ∀ j, j < 10 → defaultValue (tyX5 j) = dv (fT 5 j) := by decide +kernel
theorem inGX6 : ∀ w ∈ u_ws RX6 TX6 4, w ∈ GW := by decide +kernel
theorem clX6 : CLk 6 RX6 TX6 4 tyX6 := ⟨rfl, inGX6, tyX6_ok, nmX6, by decide, rfl⟩
theorem dvX6 : ∀ j, j < 4 → defaultValue (tyX6 j) = dv (fT 6 j) := by decide +kernel
theorem inGX7 : ∀ w ∈ u_ws RX7 TX7 11, w ∈ GW := by decide +kernel
theorem clX7 : CLk 7 RX7 TX7 11 tyX7 := ⟨rfl, inGX7, tyX7_ok, nmX7, by decide, rfl⟩
theorem dvX7 : ∀ j, j < 11 → defaultValue (tyX7 j) = dv (fT 7 j) := by decide +kernel
theorem inGX8 : ∀ w ∈ u_ws RX8 TX8 4, w ∈ GW := by decide +kernel
theorem clX8 : CLk 8 RX8 TX8 4 tyX8 := ⟨rfl, inGX8, tyX8_ok, nmX8, by decide, rfl⟩
theorem dvX8 : ∀ j, j < 4 → defaultValue (tyX8 j) = dv (fT 8 j) := by decide +kernel
theorem inGX9 : ∀ w ∈ u_ws RX9 TX9 3, w ∈ GW := by decide +kernel
theorem clX9 : CLk 9 RX9 TX9 3 tyX9 := ⟨rfl, inGX9, tyX9_ok, nmX9, by decide, rfl⟩
theorem dvX9 : ∀ j, j < 3 → defaultValue (tyX9 j) = dv (fT 9 j) := by decide +kernel
theorem inGX10 : ∀ w ∈ u_ws RX10 TX10 5, w ∈ GW := by decide +kernel
theorem clX10 : CLk 10 RX10 TX10 5 tyX10 := ⟨rfl, inGX10, tyX10_ok, nmX10, by decide, rfl⟩
theorem dvX10 : ∀ j, j < 5 → defaultValue (tyX10 j) = dv (fT 10 j) := by decide +kernel
theorem inGX11 : ∀ w ∈ u_ws RX11 TX11 9, w ∈ GW := by decide +kernel
theorem clX11 : CLk 11 RX11 TX11 9 tyX11 := ⟨rfl, inGX11, tyX11_ok, nmX11, by decide, rfl⟩
theorem dvX11 : ∀ j, j < 9 → defaultValue (tyX11 j) = dv (fT 11 j) := by decide +kernel
theorem fl_X11_14 : Cond.fieldLink RX11 14 (TX11 0).1 (TX11 0).2.1 (TX11 0).2.2.1 ∈ GW := gwi 428 (by decide +kernel) (by decide +kernel)
theorem fl_X11_18 : Cond.fieldLink RX11 18 (TX11 2).1 (TX11 2).2.1 (TX11 2).2.2.1 ∈ GW := gwi 430 (by decide +kernel) (by decide +kernel)
theorem fl_X11_27 : Cond.fieldLink RX11 27 (TX11 4).1 (TX11 4).2.1 (TX11 4).2.2.1 ∈ GW := gwi 432 (by decide +kernel) (by decide +kernel)
theorem fl_X11_34 : Cond.fieldLink RX11 34 (TX11 5).1 (TX11 5).2.1 (TX11 5).2.2.1 ∈ GW := gwi 433 (by decide +kernel) (by decide +kernel)
theorem fl_X11_41 : Cond.fieldLink RX11 41 (TX11 6).1 (TX11 6).2.1 (TX11 6).2.2.1 ∈ GW := gwi 434 (by decide +kernel) (by decide +kernel)
theorem fl_X11_45 : Cond.fieldLink RX11 45 (TX11 8).1 (TX11 8).2.1 (TX11 8).2.2.1 ∈ GW := gwi 436 (by decide +kernel) (by decide +kernel)
theorem fl_X11_51 : Cond.fieldLink RX11 51 (TX11 1).1 (TX11 1).2.1 (TX11 1).2.2.1 ∈ GW := gwi 429 (by decide +kernel) (by decide +kernel)
theorem fl_X11_70 : Cond.fieldLink RX11 70 (TX7 6).1 (TX7 6).2.1 (TX7 6).2.2.1 ∈ GW := gwi 398 (by decide +kernel) (by decide +kernel)
theorem fl_X11_77 : Cond.fieldLink RX11 77 (TX7 1).1 (TX7 1).2.1 (TX7 1).2.2.1 ∈ GW := gwi 390 (by decide +kernel) (by decide +kernel)
theorem fl_X11_81 : Cond.fieldLink RX11 81 (TX0 0).1 (TX0 0).2.1 (TX0 0).2.2.1 ∈ GW := gwi 303 (by decide +kernel) (by decide +kernel)
theorem fl_X11_87 : Cond.fieldLink RX11 87 (TX7 7).1 (TX7 7).2.1 (TX7 7).2.2.1 ∈ GW := gwi 400 (by decide +kernel) (by decide +kernel)
theorem fl_X11_94 : Cond.fieldLink RX11 94 (TX0 5).1 (TX0 5).2.1 (TX0 5).2.2.1 ∈ GW := gwi 318 (by decide +kernel) (by decide +kernel)
theorem fl_X11_98 : Cond.fieldLink RX11 98 (TX5 0).1 (TX5 0).2.1 (TX5 0).2.2.1 ∈ GW := gwi 258 (by decide +kernel) (by decide +kernel)
theorem fl_X11_117 : Cond.fieldLink RX11 117 (TX0 1).1 (TX0 1).2.1 (TX0 1).2.2.1 ∈ GW := gwi 306 (by decide +kernel) (by decide +kernel)
theorem fl_X11_135 : Cond.fieldLink RX11 135 (TX0 2).1 (TX0 2).2.1 (TX0 2).2.2.1 ∈ GW := gwi 309 (by decide +kernel) (by decide +kernel)
theorem fl_X11_138 : Cond.fieldLink RX11 138 (TX0 3).1 (TX0 3).2.1 (TX0 3).2.2.1 ∈ GW := gwi 312 (by decide +kernel) (by decide +kernel)
theorem fl_X11_145 : Cond.fieldLink RX11 145 (TX5 1).1 (TX5 1).2.1 (TX5 1).2.2.1 ∈ GW := gwi 262 (by decide +kernel) (by decide +kernel)
theorem fl_X11_155 : Cond.fieldLink RX11 155 (TX5 7).1 (TX5 7).2.1 (TX5 7).2.2.1 ∈ GW := gwi 273 (by decide +kernel) (by decide +kernel)
theorem fl_X11_162 : Cond.fieldLink RX11 162 (TX5 6).1 (TX5 6).2.1 (TX5 6).2.2.1 ∈ GW := gwi 271 (by decide +kernel) (by decide +kernel)
theorem fl_X11_166 : Cond.fieldLink RX11 166 (TX8 2).1 (TX8 2).2.1 (TX8 2).2.2.1 ∈ GW := gwi 221 (by decide +kernel) (by decide +kernel)
theorem fl_X11_171 : Cond.fieldLink RX11 171 (TX8 3).1 (TX8 3).2.1 (TX8 3).2.2.1 ∈ GW := gwi 224 (by decide +kernel) (by decide +kernel)
theorem fl_X11_184 : Cond.fieldLink RX11 184 (TX8 1).1 (TX8 1).2.1 (TX8 1).2.2.1 ∈ GW := gwi 218 (by decide +kernel) (by decide +kernel)
theorem fl_X11_187 : Cond.fieldLink RX11 187 (TX8 0).1 (TX8 0).2.1 (TX8 0).2.2.1 ∈ GW := gwi 215 (by decide +kernel) (by decide +kernel)
theorem fl_X11_191 : Cond.fieldLink RX11 191 (TX10 2).1 (TX10 2).2.1 (TX10 2).2.2.1 ∈ GW := gwi 74 (by decide +kernel) (by decide +kernel)
theorem fl_X11_242 : Cond.fieldLink RX11 242 (TX0 4).1 (TX0 4).2.1 (TX0 4).2.2.1 ∈ GW := gwi 315 (by decide +kernel) (by decide +kernel)
theorem fl_X11_246 : Cond.fieldLink RX11 246 (TX4 2).1 (TX4 2).2.1 (TX4 2).2.2.1 ∈ GW := gwi 191 (by decide +kernel) (by decide +kernel)
theorem fl_X11_259 : Cond.fieldLink RX11 259 (TX11 3).1 (TX11 3).2.1 (TX11 3).2.2.1 ∈ GW := gwi 431 (by decide +kernel) (by decide +kernel)
theorem fl_X11_265 : Cond.fieldLink RX11 265 (TX3 0).1 (TX3 0).2.1 (TX3 0).2.2.1 ∈ GW := gwi 97 (by decide +kernel) (by decide +kernel)
theorem fl_X11_281 : Cond.fieldLink RX11 281 (TX10 0).1 (TX10 0).2.1 (TX10 0).2.2.1 ∈ GW := gwi 71 (by decide +kernel) (by decide +kernel)
theorem fl_X11_287 : Cond.fieldLink RX11 287 (TX5 8).1 (TX5 8).2.1 (TX5 8).2.2.1 ∈ GW := gwi 276 (by decide +kernel) (by decide +kernel)
theorem fl_X11_291 : Cond.fieldLink RX11 291 (TX2 1).1 (TX2 1).2.1 (TX2 1).2.2.1 ∈ GW := gwi 251 (by decide +kernel) (by decide +kernel)
theorem fl_X11_294 : Cond.fieldLink RX11 294 (TX5 9).1 (TX5 9).2.1 (TX5 9).2.2.1 ∈ GW := gwi 279 (by decide +kernel) (by decide +kernel)
theorem fl_X11_297 : Cond.fieldLink RX11 297 (TX5 5).1 (TX5 5).2.1 (TX5 5).2.2.1 ∈ GW := gwi 269 (by decide +kernel) (by decide +kernel)
theorem fl_X11_300 : Cond.fieldLink RX11 300 (TX2 0).1 (TX2 0).2.1 (TX2 0).2.2.1 ∈ GW := gwi 247 (by decide +kernel) (by decide +kernel)
theorem fl_X11_304 : Cond.fieldLink RX11 304 (TX1 4).1 (TX1 4).2.1 (TX1 4).2.2.1 ∈ GW := gwi 142 (by decide +kernel) (by decide +kernel)
theorem fl_X11_305 : Cond.fieldLink RX11 305 (TX1 1).1 (TX1 1).2.1 (TX1 1).2.2.1 ∈ GW := gwi 133 (by decide +kernel) (by decide +kernel)
theorem fl_X11_306 : Cond.fieldLink RX11 306 (TX1 2).1 (TX1 2).2.1 (TX1 2).2.2.1 ∈ GW := gwi 136 (by decide +kernel) (by decide +kernel)
theorem fl_X11_307 : Cond.fieldLink RX11 307 (TX1 5).1 (TX1 5).2.1 (TX1 5).2.2.1 ∈ GW := gwi 145 (by decide +kernel) (by decide +kernel)
theorem fl_X11_310 : Cond.fieldLink RX11 310 (TX1 6).1 (TX1 6).2.1 (TX1 6).2.2.1 ∈ GW := gwi 148 (by decide +kernel) (by decide +kernel)
theorem fl_X11_316 : Cond.fieldLink RX11 316 (TX7 9).1 (TX7 9).2.1 (TX7 9).2.2.1 ∈ GW := gwi 403 (by decide +kernel) (by decide +kernel)
theorem fl_X11_319 : Cond.fieldLink RX11 319 (TX0 6).1 (TX0 6).2.1 (TX0 6).2.2.1 ∈ GW := gwi 320 (by decide +kernel) (by decide +kernel)
theorem fl_X11_324 : Cond.fieldLink RX11 324 (TX7 5).1 (TX7 5).2.1 (TX7 5).2.2.1 ∈ GW := gwi 396 (by decide +kernel) (by decide +kernel)
theorem fl_X11_327 : Cond.fieldLink RX11 327 (TX7 4).1 (TX7 4).2.1 (TX7 4).2.2.1 ∈ GW := gwi 394 (by decide +kernel) (by decide +kernel)
theorem fl_X11_330 : Cond.fieldLink RX11 330 (TX1 0).1 (TX1 0).2.1 (TX1 0).2.2.1 ∈ GW := gwi 130 (by decide +kernel) (by decide +kernel)
theorem fl_X11_346 : Cond.fieldLink RX11 346 (TX11 7).1 (TX11 7).2.1 (TX11 7).2.2.1 ∈ GW := gwi 435 (by decide +kernel) (by decide +kernel)
theorem fl_X0_12 : Cond.fieldLink RX0 12 (TX0 3).1 (TX0 3).2.1 (TX0 3).2.2.1 ∈ GW := gwi 310 (by decide +kernel) (by decide +kernel)
theorem fl_X0_21 : Cond.fieldLink RX0 21 (TX0 4).1 (TX0 4).2.1 (TX0 4).2.2.1 ∈ GW := gwi 313 (by decide +kernel) (by decide +kernel)
theorem fl_X0_28 : Cond.fieldLink RX0 28 (TX0 5).1 (TX0 5).2.1 (TX0 5).2.2.1 ∈ GW := gwi 316 (by decide +kernel) (by decide +kernel)
theorem fl_X0_32 : Cond.fieldLink RX0 32 (TX0 0).1 (TX0 0).2.1 (TX0 0).2.2.1 ∈ GW := gwi 301 (by decide +kernel) (by decide +kernel)
theorem fl_X0_36 : Cond.fieldLink RX0 36 (TX0 1).1 (TX0 1).2.1 (TX0 1).2.2.1 ∈ GW := gwi 304 (by decide +kernel) (by decide +kernel)
theorem fl_X0_39 : Cond.fieldLink RX0 39 (TX0 2).1 (TX0 2).2.1 (TX0 2).2.2.1 ∈ GW := gwi 307 (by decide +kernel) (by decide +kernel)
theorem fl_X0_52 : Cond.fieldLink RX0 52 (TX0 6).1 (TX0 6).2.1 (TX0 6).2.2.1 ∈ GW := gwi 319 (by decide +kernel) (by decide +kernel)
theorem fl_X0_56 : Cond.fieldLink RX0 56 (TX0 7).1 (TX0 7).2.1 (TX0 7).2.2.1 ∈ GW := gwi 322 (by decide +kernel) (by decide +kernel)
theorem fl_X1_7 : Cond.fieldLink RX1 7 (TX1 0).1 (TX1 0).2.1 (TX1 0).2.2.1 ∈ GW := gwi 128 (by decide +kernel) (by decide +kernel)
theorem fl_X1_13 : Cond.fieldLink RX1 13 (TX1 1).1 (TX1 1).2.1 (TX1 1).2.2.1 ∈ GW := gwi 131 (by decide +kernel) (by decide +kernel)
theorem fl_X1_17 : Cond.fieldLink RX1 17 (TX1 2).1 (TX1 2).2.1 (TX1 2).2.2.1 ∈ GW := gwi 134 (by decide +kernel) (by decide +kernel)
theorem fl_X1_20 : Cond.fieldLink RX1 20 (TX1 3).1 (TX1 3).2.1 (TX1 3).2.2.1 ∈ GW := gwi 137 (by decide +kernel) (by decide +kernel)
theorem fl_X1_23 : Cond.fieldLink RX1 23 (TX1 4).1 (TX1 4).2.1 (TX1 4).2.2.1 ∈ GW := gwi 139 (by decide +kernel) (by decide +kernel)
theorem fl_X1_26 : Cond.fieldLink RX1 26 (TX1 5).1 (TX1 5).2.1 (TX1 5).2.2.1 ∈ GW := gwi 143 (by decide +kernel) (by decide +kernel)
theorem fl_X1_29 : Cond.fieldLink RX1 29 (TX1 6).1 (TX1 6).2.1 (TX1 6).2.2.1 ∈ GW := gwi 146 (by decide +kernel) (by decide +kernel)
theorem fl_X2_15 : Cond.fieldLink RX2 15 (TX2 0).1 (TX2 0).2.1 (TX2 0).2.2.1 ∈ GW := gwi 245 (by decide +kernel) (by decide +kernel)
theorem fl_X2_24 : Cond.fieldLink RX2 24 (TX2 1).1 (TX2 1).2.1 (TX2 1).2.2.1 ∈ GW := gwi 248 (by decide +kernel) (by decide +kernel)
theorem fl_X2_32 : Cond.fieldLink RX2 32 (TX1 4).1 (TX1 4).2.1 (TX1 4).2.2.1 ∈ GW := gwi 140 (by decide +kernel) (by decide +kernel)
theorem fl_X3_7 : Cond.fieldLink RX3 7 (TX3 5).1 (TX3 5).2.1 (TX3 5).2.2.1 ∈ GW := gwi 107 (by decide +kernel) (by decide +kernel)
theorem fl_X3_13 : Cond.fieldLink RX3 13 (TX3 0).1 (TX3 0).2.1 (TX3 0).2.2.1 ∈ GW := gwi 96 (by decide +kernel) (by decide +kernel)
theorem fl_X3_17 : Cond.fieldLink RX3 17 (TX3 1).1 (TX3 1).2.1 (TX3 1).2.2.1 ∈ GW := gwi 99 (by decide +kernel) (by decide +kernel)
theorem fl_X3_20 : Cond.fieldLink RX3 20 (TX3 2).1 (TX3 2).2.1 (TX3 2).2.2.1 ∈ GW := gwi 101 (by decide +kernel) (by decide +kernel)
theorem fl_X3_23 : Cond.fieldLink RX3 23 (TX3 3).1 (TX3 3).2.1 (TX3 3).2.2.1 ∈ GW := gwi 103 (by decide +kernel) (by decide +kernel)
theorem fl_X3_26 : Cond.fieldLink RX3 26 (TX3 4).1 (TX3 4).2.1 (TX3 4).2.2.1 ∈ GW := gwi 105 (by decide +kernel) (by decide +kernel)
theorem fl_X4_11 : Cond.fieldLink RX4 11 (TX4 0).1 (TX4 0).2.1 (TX4 0).2.2.1 ∈ GW := gwi 188 (by decide +kernel) (by decide +kernel)
theorem fl_X4_20 : Cond.fieldLink RX4 20 (TX4 1).1 (TX4 1).2.1 (TX4 1).2.2.1 ∈ GW := gwi 189 (by decide +kernel) (by decide +kernel)
theorem fl_X4_24 : Cond.fieldLink RX4 24 (TX4 2).1 (TX4 2).2.1 (TX4 2).2.2.1 ∈ GW := gwi 190 (by decide +kernel) (by decide +kernel)
theorem fl_X5_9 : Cond.fieldLink RX5 9 (TX5 4).1 (TX5 4).2.1 (TX5 4).2.2.1 ∈ GW := gwi 267 (by decide +kernel) (by decide +kernel)
theorem fl_X5_17 : Cond.fieldLink RX5 17 (TX5 6).1 (TX5 6).2.1 (TX5 6).2.2.1 ∈ GW := gwi 270 (by decide +kernel) (by decide +kernel)
theorem fl_X5_29 : Cond.fieldLink RX5 29 (TX5 8).1 (TX5 8).2.1 (TX5 8).2.2.1 ∈ GW := gwi 274 (by decide +kernel) (by decide +kernel)
theorem fl_X5_33 : Cond.fieldLink RX5 33 (TX5 9).1 (TX5 9).2.1 (TX5 9).2.2.1 ∈ GW := gwi 277 (by decide +kernel) (by decide +kernel)
theorem fl_X5_39 : Cond.fieldLink RX5 39 (TX5 0).1 (TX5 0).2.1 (TX5 0).2.2.1 ∈ GW := gwi 257 (by decide +kernel) (by decide +kernel)
theorem fl_X5_43 : Cond.fieldLink RX5 43 (TX5 1).1 (TX5 1).2.1 (TX5 1).2.2.1 ∈ GW := gwi 260 (by decide +kernel) (by decide +kernel)
theorem fl_X5_46 : Cond.fieldLink RX5 46 (TX5 2).1 (TX5 2).2.1 (TX5 2).2.2.1 ∈ GW := gwi 263 (by decide +kernel) (by decide +kernel)
theorem fl_X5_50 : Cond.fieldLink RX5 50 (TX5 3).1 (TX5 3).2.1 (TX5 3).2.2.1 ∈ GW := gwi 265 (by decide +kernel) (by decide +kernel)
theorem fl_X5_53 : Cond.fieldLink RX5 53 (TX5 5).1 (TX5 5).2.1 (TX5 5).2.2.1 ∈ GW := gwi 268 (by decide +kernel) (by decide +kernel)
theorem fl_X5_56 : Cond.fieldLink RX5 56 (TX5 7).1 (TX5 7).2.1 (TX5 7).2.2.1 ∈ GW := gwi 272 (by decide +kernel) (by decide +kernel)
theorem fl_X5_59 : Cond.fieldLink RX5 59 (TX2 1).1 (TX2 1).2.1 (TX2 1).2.2.1 ∈ GW := gwi 249 (by decide +kernel) (by decide +kernel)
theorem fl_X5_66 : Cond.fieldLink RX5 66 (TX8 1).1 (TX8 1).2.1 (TX8 1).2.2.1 ∈ GW := gwi 217 (by decide +kernel) (by decide +kernel)
theorem fl_X5_69 : Cond.fieldLink RX5 69 (TX8 0).1 (TX8 0).2.1 (TX8 0).2.2.1 ∈ GW := gwi 214 (by decide +kernel) (by decide +kernel)
theorem fl_X5_83 : Cond.fieldLink RX5 83 (TX8 2).1 (TX8 2).2.1 (TX8 2).2.2.1 ∈ GW := gwi 220 (by decide +kernel) (by decide +kernel)
theorem fl_X5_86 : Cond.fieldLink RX5 86 (TX8 3).1 (TX8 3).2.1 (TX8 3).2.2.1 ∈ GW := gwi 223 (by decide +kernel) (by decide +kernel)
theorem fl_X6_9 : Cond.fieldLink RX6 9 (TX6 0).1 (TX6 0).2.1 (TX6 0).2.2.1 ∈ GW := gwi 348 (by decide +kernel) (by decide +kernel)
theorem fl_X6_15 : Cond.fieldLink RX6 15 (TX6 2).1 (TX6 2).2.1 (TX6 2).2.2.1 ∈ GW := gwi 352 (by decide +kernel) (by decide +kernel)
theorem fl_X6_19 : Cond.fieldLink RX6 19 (TX6 3).1 (TX6 3).2.1 (TX6 3).2.2.1 ∈ GW := gwi 354 (by decide +kernel) (by decide +kernel)
theorem fl_X6_23 : Cond.fieldLink RX6 23 (TX6 1).1 (TX6 1).2.1 (TX6 1).2.2.1 ∈ GW := gwi 350 (by decide +kernel) (by decide +kernel)
theorem fl_X7_9 : Cond.fieldLink RX7 9 (TX7 0).1 (TX7 0).2.1 (TX7 0).2.2.1 ∈ GW := gwi 388 (by decide +kernel) (by decide +kernel)
theorem fl_X7_17 : Cond.fieldLink RX7 17 (TX7 1).1 (TX7 1).2.1 (TX7 1).2.2.1 ∈ GW := gwi 389 (by decide +kernel) (by decide +kernel)
theorem fl_X7_26 : Cond.fieldLink RX7 26 (TX7 2).1 (TX7 2).2.1 (TX7 2).2.2.1 ∈ GW := gwi 391 (by decide +kernel) (by decide +kernel)
theorem fl_X7_33 : Cond.fieldLink RX7 33 (TX7 4).1 (TX7 4).2.1 (TX7 4).2.2.1 ∈ GW := gwi 393 (by decide +kernel) (by decide +kernel)
theorem fl_X7_42 : Cond.fieldLink RX7 42 (TX7 6).1 (TX7 6).2.1 (TX7 6).2.2.1 ∈ GW := gwi 397 (by decide +kernel) (by decide +kernel)
theorem fl_X7_45 : Cond.fieldLink RX7 45 (TX7 7).1 (TX7 7).2.1 (TX7 7).2.2.1 ∈ GW := gwi 399 (by decide +kernel) (by decide +kernel)
theorem fl_X7_51 : Cond.fieldLink RX7 51 (TX7 8).1 (TX7 8).2.1 (TX7 8).2.2.1 ∈ GW := gwi 401 (by decide +kernel) (by decide +kernel)
theorem fl_X7_55 : Cond.fieldLink RX7 55 (TX7 10).1 (TX7 10).2.1 (TX7 10).2.2.1 ∈ GW := gwi 404 (by decide +kernel) (by decide +kernel)
theorem fl_X7_63 : Cond.fieldLink RX7 63 (TX7 3).1 (TX7 3).2.1 (TX7 3).2.2.1 ∈ GW := gwi 392 (by decide +kernel) (by decide +kernel)
theorem fl_X7_70 : Cond.fieldLink RX7 70 (TX7 5).1 (TX7 5).2.1 (TX7 5).2.2.1 ∈ GW := gwi 395 (by decide +kernel) (by decide +kernel)
theorem fl_X7_79 : Cond.fieldLink RX7 79 (TX7 9).1 (TX7 9).2.1 (TX7 9).2.2.1 ∈ GW := gwi 402 (by decide +kernel) (by decide +kernel)
theorem fl_X7_82 : Cond.fieldLink RX7 82 (TX0 0).1 (TX0 0).2.1 (TX0 0).2.2.1 ∈ GW := gwi 302 (by decide +kernel) (by decide +kernel)
theorem fl_X7_86 : Cond.fieldLink RX7 86 (TX0 4).1 (TX0 4).2.1 (TX0 4).2.2.1 ∈ GW := gwi 314 (by decide +kernel) (by decide +kernel)
theorem fl_X7_95 : Cond.fieldLink RX7 95 (TX0 5).1 (TX0 5).2.1 (TX0 5).2.2.1 ∈ GW := gwi 317 (by decide +kernel) (by decide +kernel)
theorem fl_X7_99 : Cond.fieldLink RX7 99 (TX5 1).1 (TX5 1).2.1 (TX5 1).2.2.1 ∈ GW := gwi 261 (by decide +kernel) (by decide +kernel)
theorem fl_X7_108 : Cond.fieldLink RX7 108 (TX5 2).1 (TX5 2).2.1 (TX5 2).2.2.1 ∈ GW := gwi 264 (by decide +kernel) (by decide +kernel)
theorem fl_X7_114 : Cond.fieldLink RX7 114 (TX0 1).1 (TX0 1).2.1 (TX0 1).2.2.1 ∈ GW := gwi 305 (by decide +kernel) (by decide +kernel)
theorem fl_X7_117 : Cond.fieldLink RX7 117 (TX0 3).1 (TX0 3).2.1 (TX0 3).2.2.1 ∈ GW := gwi 311 (by decide +kernel) (by decide +kernel)
theorem fl_X7_120 : Cond.fieldLink RX7 120 (TX0 2).1 (TX0 2).2.1 (TX0 2).2.2.1 ∈ GW := gwi 308 (by decide +kernel) (by decide +kernel)
theorem fl_X7_138 : Cond.fieldLink RX7 138 (TX5 8).1 (TX5 8).2.1 (TX5 8).2.2.1 ∈ GW := gwi 275 (by decide +kernel) (by decide +kernel)
theorem fl_X7_142 : Cond.fieldLink RX7 142 (TX2 1).1 (TX2 1).2.1 (TX2 1).2.2.1 ∈ GW := gwi 250 (by decide +kernel) (by decide +kernel)
theorem fl_X7_147 : Cond.fieldLink RX7 147 (TX2 0).1 (TX2 0).2.1 (TX2 0).2.2.1 ∈ GW := gwi 246 (by decide +kernel) (by decide +kernel)
theorem fl_X7_165 : Cond.fieldLink RX7 165 (TX6 0).1 (TX6 0).2.1 (TX6 0).2.2.1 ∈ GW := gwi 349 (by decide +kernel) (by decide +kernel)
theorem fl_X7_168 : Cond.fieldLink RX7 168 (TX6 1).1 (TX6 1).2.1 (TX6 1).2.2.1 ∈ GW := gwi 351 (by decide +kernel) (by decide +kernel)
theorem fl_X7_171 : Cond.fieldLink RX7 171 (TX6 3).1 (TX6 3).2.1 (TX6 3).2.2.1 ∈ GW := gwi 355 (by decide +kernel) (by decide +kernel)
theorem fl_X7_192 : Cond.fieldLink RX7 192 (TX6 2).1 (TX6 2).2.1 (TX6 2).2.2.1 ∈ GW := gwi 353 (by decide +kernel) (by decide +kernel)
theorem fl_X7_195 : Cond.fieldLink RX7 195 (TX1 0).1 (TX1 0).2.1 (TX1 0).2.2.1 ∈ GW := gwi 129 (by decide +kernel) (by decide +kernel)
theorem fl_X7_207 : Cond.fieldLink RX7 207 (TX1 1).1 (TX1 1).2.1 (TX1 1).2.2.1 ∈ GW := gwi 132 (by decide +kernel) (by decide +kernel)
theorem fl_X7_228 : Cond.fieldLink RX7 228 (TX1 2).1 (TX1 2).2.1 (TX1 2).2.2.1 ∈ GW := gwi 135 (by decide +kernel) (by decide +kernel)
theorem fl_X7_241 : Cond.fieldLink RX7 241 (TX1 3).1 (TX1 3).2.1 (TX1 3).2.2.1 ∈ GW := gwi 138 (by decide +kernel) (by decide +kernel)
theorem fl_X7_248 : Cond.fieldLink RX7 248 (TX5 9).1 (TX5 9).2.1 (TX5 9).2.2.1 ∈ GW := gwi 278 (by decide +kernel) (by decide +kernel)
theorem fl_X7_268 : Cond.fieldLink RX7 268 (TX5 3).1 (TX5 3).2.1 (TX5 3).2.2.1 ∈ GW := gwi 266 (by decide +kernel) (by decide +kernel)
theorem fl_X7_271 : Cond.fieldLink RX7 271 (TX1 4).1 (TX1 4).2.1 (TX1 4).2.2.1 ∈ GW := gwi 141 (by decide +kernel) (by decide +kernel)
theorem fl_X7_274 : Cond.fieldLink RX7 274 (TX1 5).1 (TX1 5).2.1 (TX1 5).2.2.1 ∈ GW := gwi 144 (by decide +kernel) (by decide +kernel)
theorem fl_X7_286 : Cond.fieldLink RX7 286 (TX1 6).1 (TX1 6).2.1 (TX1 6).2.2.1 ∈ GW := gwi 147 (by decide +kernel) (by decide +kernel)
theorem fl_X7_300 : Cond.fieldLink RX7 300 (TX3 0).1 (TX3 0).2.1 (TX3 0).2.2.1 ∈ GW := gwi 98 (by decide +kernel) (by decide +kernel)
theorem fl_X7_305 : Cond.fieldLink RX7 305 (TX3 1).1 (TX3 1).2.1 (TX3 1).2.2.1 ∈ GW := gwi 100 (by decide +kernel) (by decide +kernel)
theorem fl_X7_306 : Cond.fieldLink RX7 306 (TX3 2).1 (TX3 2).2.1 (TX3 2).2.2.1 ∈ GW := gwi 102 (by decide +kernel) (by decide +kernel)
theorem fl_X7_307 : Cond.fieldLink RX7 307 (TX3 3).1 (TX3 3).2.1 (TX3 3).2.2.1 ∈ GW := gwi 104 (by decide +kernel) (by decide +kernel)
theorem fl_X7_308 : Cond.fieldLink RX7 308 (TX3 4).1 (TX3 4).2.1 (TX3 4).2.2.1 ∈ GW := gwi 106 (by decide +kernel) (by decide +kernel)
theorem fl_X7_309 : Cond.fieldLink RX7 309 (TX3 5).1 (TX3 5).2.1 (TX3 5).2.2.1 ∈ GW := gwi 108 (by decide +kernel) (by decide +kernel)
theorem fl_X7_310 : Cond.fieldLink RX7 310 (TX0 7).1 (TX0 7).2.1 (TX0 7).2.2.1 ∈ GW := gwi 323 (by decide +kernel) (by decide +kernel)
theorem fl_X7_313 : Cond.fieldLink RX7 313 (TX4 2).1 (TX4 2).2.1 (TX4 2).2.2.1 ∈ GW := gwi 192 (by decide +kernel) (by decide +kernel)
theorem fl_X7_317 : Cond.fieldLink RX7 317 (TX0 6).1 (TX0 6).2.1 (TX0 6).2.2.1 ∈ GW := gwi 321 (by decide +kernel) (by decide +kernel)
theorem fl_X7_326 : Cond.fieldLink RX7 326 (TX5 0).1 (TX5 0).2.1 (TX5 0).2.2.1 ∈ GW := gwi 259 (by decide +kernel) (by decide +kernel)
theorem fl_X8_7 : Cond.fieldLink RX8 7 (TX8 0).1 (TX8 0).2.1 (TX8 0).2.2.1 ∈ GW := gwi 213 (by decide +kernel) (by decide +kernel)
theorem fl_X8_13 : Cond.fieldLink RX8 13 (TX8 1).1 (TX8 1).2.1 (TX8 1).2.2.1 ∈ GW := gwi 216 (by decide +kernel) (by decide +kernel)
theorem fl_X8_17 : Cond.fieldLink RX8 17 (TX8 2).1 (TX8 2).2.1 (TX8 2).2.2.1 ∈ GW := gwi 219 (by decide +kernel) (by decide +kernel)
theorem fl_X8_20 : Cond.fieldLink RX8 20 (TX8 3).1 (TX8 3).2.1 (TX8 3).2.2.1 ∈ GW := gwi 222 (by decide +kernel) (by decide +kernel)
theorem fl_X9_11 : Cond.fieldLink RX9 11 (TX9 0).1 (TX9 0).2.1 (TX9 0).2.2.1 ∈ GW := gwi 378 (by decide +kernel) (by decide +kernel)
theorem fl_X9_17 : Cond.fieldLink RX9 17 (TX9 1).1 (TX9 1).2.1 (TX9 1).2.2.1 ∈ GW := gwi 379 (by decide +kernel) (by decide +kernel)
theorem fl_X9_21 : Cond.fieldLink RX9 21 (TX9 2).1 (TX9 2).2.1 (TX9 2).2.2.1 ∈ GW := gwi 380 (by decide +kernel) (by decide +kernel)
theorem fl_X10_18 : Cond.fieldLink RX10 18 (TX10 0).1 (TX10 0).2.1 (TX10 0).2.2.1 ∈ GW := gwi 70 (by decide +kernel) (by decide +kernel)
theorem fl_X10_24 : Cond.fieldLink RX10 24 (TX10 1).1 (TX10 1).2.1 (TX10 1).2.2.1 ∈ GW := gwi 72 (by decide +kernel) (by decide +kernel)
theorem fl_X10_28 : Cond.fieldLink RX10 28 (TX10 2).1 (TX10 2).2.1 (TX10 2).2.2.1 ∈ GW := gwi 73 (by decide +kernel) (by decide +kernel)
theorem fl_X10_32 : Cond.fieldLink RX10 32 (TX10 3).1 (TX10 3).2.1 (TX10 3).2.2.1 ∈ GW := gwi 75 (by decide +kernel) (by decide +kernel)
theorem fl_X10_36 : Cond.fieldLink RX10 36 (TX10 4).1 (TX10 4).2.1 (TX10 4).2.2.1 ∈ GW := gwi 76 (by decide +kernel) (by decide +kernel)
section
variable {G : Gl} {B : Bx} {cc : ByteArray} {ret : Option FieldType} {fr lo nL : Nat} {mn : String} {hh : List (Nat × Nat × Nat × Nat)} {pc : Nat} {ls : List (Nat × Value)} {st : List Value} {M M1 : Mem} {a : Nat}
theorem gt_X11_14 {x : Nat} (e : gR 11 0 a M = some x) (hd : decode cc pc = .ok (.getfield 14, 3)) (k : V G (RX11, cc, ret, fr, lo, nL, mn, hh) B (pc + 3) ls (.ref x :: st) M) : V G (RX11, cc, ret, fr, lo, nL, mn, hh) B pc ls (.ref a :: st) M := v_getR clX11 (f := 0) (by decide) rfl fl_X11_14 hd e k
theorem pt_X11_14 {x : Nat} (e : pR 11 0 a x M = some M1) (hd : decode cc pc = .ok (.putfield 14, 3)) (k : V G (RX11, cc, ret, fr, lo, nL, "<init>", hh) B (pc + 3) ls st M1) : V G (RX11, cc, ret, fr, lo, nL, "<init>", hh) B pc ls (.ref x :: .ref a :: st) M := v_putRX clX11 (f := 0) (by decide) rfl rfl (Or.inr ⟨_, rfl⟩) rfl rfl rfl fl_X11_14 hd e k
theorem gt_X11_18 {x : Int32} (e : gI 11 2 a M = some x) (hd : decode cc pc = .ok (.getfield 18, 3)) (k : V G (RX11, cc, ret, fr, lo, nL, mn, hh) B (pc + 3) ls (.int x :: st) M) : V G (RX11, cc, ret, fr, lo, nL, mn, hh) B pc ls (.ref a :: st) M := v_getI clX11 (f := 2) (by decide) rfl fl_X11_18 hd e k
theorem pt_X11_18 {x : Int32} (e : pI 11 2 a x M = some M1) (hd : decode cc pc = .ok (.putfield 18, 3)) (k : V G (RX11, cc, ret, fr, lo, nL, mn, hh) B (pc + 3) ls st M1) : V G (RX11, cc, ret, fr, lo, nL, mn, hh) B pc ls (.int x :: .ref a :: st) M := v_putI clX11 (f := 2) (by decide) rfl rfl rfl fl_X11_18 hd e k
theorem gt_X11_27 {x : Nat} (e : gR 11 4 a M = some x) (hd : decode cc pc = .ok (.getfield 27, 3)) (k : V G (RX11, cc, ret, fr, lo, nL, mn, hh) B (pc + 3) ls (.ref x :: st) M) : V G (RX11, cc, ret, fr, lo, nL, mn, hh) B pc ls (.ref a :: st) M := v_getR clX11 (f := 4) (by decide) rfl fl_X11_27 hd e k
theorem pt_X11_27 {x : Nat} (e : pR 11 4 a x M = some M1) (hd : decode cc pc = .ok (.putfield 27, 3)) (k : V G (RX11, cc, ret, fr, lo, nL, "<init>", hh) B (pc + 3) ls st M1) : V G (RX11, cc, ret, fr, lo, nL, "<init>", hh) B pc ls (.ref x :: .ref a :: st) M := v_putRX clX11 (f := 4) (by decide) rfl rfl (Or.inl ⟨_, rfl⟩) rfl rfl rfl fl_X11_27 hd e k
theorem gt_X11_34 {x : Nat} (e : gR 11 5 a M = some x) (hd : decode cc pc = .ok (.getfield 34, 3)) (k : V G (RX11, cc, ret, fr, lo, nL, mn, hh) B (pc + 3) ls (.ref x :: st) M) : V G (RX11, cc, ret, fr, lo, nL, mn, hh) B pc ls (.ref a :: st) M := v_getR clX11 (f := 5) (by decide) rfl fl_X11_34 hd e k
theorem pt_X11_34 {x : Nat} (e : pR 11 5 a x M = some M1) (hd : decode cc pc = .ok (.putfield 34, 3)) (k : V G (RX11, cc, ret, fr, lo, nL, "<init>", hh) B (pc + 3) ls st M1) : V G (RX11, cc, ret, fr, lo, nL, "<init>", hh) B pc ls (.ref x :: .ref a :: st) M := v_putRX clX11 (f := 5) (by decide) rfl rfl (Or.inl ⟨_, rfl⟩) rfl rfl rfl fl_X11_34 hd e k
theorem gt_X11_41 {x : Nat} (e : gR 11 6 a M = some x) (hd : decode cc pc = .ok (.getfield 41, 3)) (k : V G (RX11, cc, ret, fr, lo, nL, mn, hh) B (pc + 3) ls (.ref x :: st) M) : V G (RX11, cc, ret, fr, lo, nL, mn, hh) B pc ls (.ref a :: st) M := v_getR clX11 (f := 6) (by decide) rfl fl_X11_41 hd e k
theorem pt_X11_41 {x : Nat} (e : pR 11 6 a x M = some M1) (hd : decode cc pc = .ok (.putfield 41, 3)) (k : V G (RX11, cc, ret, fr, lo, nL, "<init>", hh) B (pc + 3) ls st M1) : V G (RX11, cc, ret, fr, lo, nL, "<init>", hh) B pc ls (.ref x :: .ref a :: st) M := v_putRX clX11 (f := 6) (by decide) rfl rfl (Or.inl ⟨_, rfl⟩) rfl rfl rfl fl_X11_41 hd e k
theorem gt_X11_45 {x : Nat} (e : gR 11 8 a M = some x) (hd : decode cc pc = .ok (.getfield 45, 3)) (k : V G (RX11, cc, ret, fr, lo, nL, mn, hh) B (pc + 3) ls (.ref x :: st) M) : V G (RX11, cc, ret, fr, lo, nL, mn, hh) B pc ls (.ref a :: st) M := v_getR clX11 (f := 8) (by decide) rfl fl_X11_45 hd e k
theorem pt_X11_45 {x : Nat} (e : pR 11 8 a x M = some M1) (hd : decode cc pc = .ok (.putfield 45, 3)) (k : V G (RX11, cc, ret, fr, lo, nL, "<init>", hh) B (pc + 3) ls st M1) : V G (RX11, cc, ret, fr, lo, nL, "<init>", hh) B pc ls (.ref x :: .ref a :: st) M := v_putRX clX11 (f := 8) (by decide) rfl rfl (Or.inl ⟨_, rfl⟩) rfl rfl rfl fl_X11_45 hd e k
theorem gt_X11_51 {x : Int32} (e : gI 11 1 a M = some x) (hd : decode cc pc = .ok (.getfield 51, 3)) (k : V G (RX11, cc, ret, fr, lo, nL, mn, hh) B (pc + 3) ls (.int x :: st) M) : V G (RX11, cc, ret, fr, lo, nL, mn, hh) B pc ls (.ref a :: st) M := v_getI clX11 (f := 1) (by decide) rfl fl_X11_51 hd e k
theorem pt_X11_51 {x : Int32} (e : pI 11 1 a x M = some M1) (hd : decode cc pc = .ok (.putfield 51, 3)) (k : V G (RX11, cc, ret, fr, lo, nL, mn, hh) B (pc + 3) ls st M1) : V G (RX11, cc, ret, fr, lo, nL, mn, hh) B pc ls (.int x :: .ref a :: st) M := v_putI clX11 (f := 1) (by decide) rfl rfl rfl fl_X11_51 hd e k
theorem gt_X11_70 {x : Nat} (e : gR 7 6 a M = some x) (hd : decode cc pc = .ok (.getfield 70, 3)) (k : V G (RX11, cc, ret, fr, lo, nL, mn, hh) B (pc + 3) ls (.ref x :: st) M) : V G (RX11, cc, ret, fr, lo, nL, mn, hh) B pc ls (.ref a :: st) M := v_getR clX7 (f := 6) (by decide) rfl fl_X11_70 hd e k
theorem gt_X11_77 {x : Nat} (e : gR 7 1 a M = some x) (hd : decode cc pc = .ok (.getfield 77, 3)) (k : V G (RX11, cc, ret, fr, lo, nL, mn, hh) B (pc + 3) ls (.ref x :: st) M) : V G (RX11, cc, ret, fr, lo, nL, mn, hh) B pc ls (.ref a :: st) M := v_getR clX7 (f := 1) (by decide) rfl fl_X11_77 hd e k
theorem gt_X11_81 {x : Int32} (e : gI 0 0 a M = some x) (hd : decode cc pc = .ok (.getfield 81, 3)) (k : V G (RX11, cc, ret, fr, lo, nL, mn, hh) B (pc + 3) ls (.int x :: st) M) : V G (RX11, cc, ret, fr, lo, nL, mn, hh) B pc ls (.ref a :: st) M := v_getI clX0 (f := 0) (by decide) rfl fl_X11_81 hd e k
theorem pt_X11_81 {x : Int32} (e : pZ 0 0 a x M = some M1) (hd : decode cc pc = .ok (.putfield 81, 3)) (k : V G (RX11, cc, ret, fr, lo, nL, mn, hh) B (pc + 3) ls st M1) : V G (RX11, cc, ret, fr, lo, nL, mn, hh) B pc ls (.int x :: .ref a :: st) M := v_putZ clX0 (f := 0) (by decide) rfl rfl rfl fl_X11_81 hd e k
theorem gt_X11_87 {x : Nat} (e : gR 7 7 a M = some x) (hd : decode cc pc = .ok (.getfield 87, 3)) (k : V G (RX11, cc, ret, fr, lo, nL, mn, hh) B (pc + 3) ls (.ref x :: st) M) : V G (RX11, cc, ret, fr, lo, nL, mn, hh) B pc ls (.ref a :: st) M := v_getR clX7 (f := 7) (by decide) rfl fl_X11_87 hd e k
theorem gt_X11_94 {x : Nat} (e : gR 0 5 a M = some x) (hd : decode cc pc = .ok (.getfield 94, 3)) (k : V G (RX11, cc, ret, fr, lo, nL, mn, hh) B (pc + 3) ls (.ref x :: st) M) : V G (RX11, cc, ret, fr, lo, nL, mn, hh) B pc ls (.ref a :: st) M := v_getR clX0 (f := 5) (by decide) rfl fl_X11_94 hd e k
theorem gt_X11_98 {x : Int32} (e : gI 5 0 a M = some x) (hd : decode cc pc = .ok (.getfield 98, 3)) (k : V G (RX11, cc, ret, fr, lo, nL, mn, hh) B (pc + 3) ls (.int x :: st) M) : V G (RX11, cc, ret, fr, lo, nL, mn, hh) B pc ls (.ref a :: st) M := v_getI clX5 (f := 0) (by decide) rfl fl_X11_98 hd e k
theorem pt_X11_98 {x : Int32} (e : pZ 5 0 a x M = some M1) (hd : decode cc pc = .ok (.putfield 98, 3)) (k : V G (RX11, cc, ret, fr, lo, nL, mn, hh) B (pc + 3) ls st M1) : V G (RX11, cc, ret, fr, lo, nL, mn, hh) B pc ls (.int x :: .ref a :: st) M := v_putZ clX5 (f := 0) (by decide) rfl rfl rfl fl_X11_98 hd e k
theorem gt_X11_117 {x : Int32} (e : gI 0 1 a M = some x) (hd : decode cc pc = .ok (.getfield 117, 3)) (k : V G (RX11, cc, ret, fr, lo, nL, mn, hh) B (pc + 3) ls (.int x :: st) M) : V G (RX11, cc, ret, fr, lo, nL, mn, hh) B pc ls (.ref a :: st) M := v_getI clX0 (f := 1) (by decide) rfl fl_X11_117 hd e k
theorem pt_X11_117 {x : Int32} (e : pZ 0 1 a x M = some M1) (hd : decode cc pc = .ok (.putfield 117, 3)) (k : V G (RX11, cc, ret, fr, lo, nL, mn, hh) B (pc + 3) ls st M1) : V G (RX11, cc, ret, fr, lo, nL, mn, hh) B pc ls (.int x :: .ref a :: st) M := v_putZ clX0 (f := 1) (by decide) rfl rfl rfl fl_X11_117 hd e k
theorem gt_X11_135 {x : Int32} (e : gI 0 2 a M = some x) (hd : decode cc pc = .ok (.getfield 135, 3)) (k : V G (RX11, cc, ret, fr, lo, nL, mn, hh) B (pc + 3) ls (.int x :: st) M) : V G (RX11, cc, ret, fr, lo, nL, mn, hh) B pc ls (.ref a :: st) M := v_getI clX0 (f := 2) (by decide) rfl fl_X11_135 hd e k
theorem pt_X11_135 {x : Int32} (e : pZ 0 2 a x M = some M1) (hd : decode cc pc = .ok (.putfield 135, 3)) (k : V G (RX11, cc, ret, fr, lo, nL, mn, hh) B (pc + 3) ls st M1) : V G (RX11, cc, ret, fr, lo, nL, mn, hh) B pc ls (.int x :: .ref a :: st) M := v_putZ clX0 (f := 2) (by decide) rfl rfl rfl fl_X11_135 hd e k
theorem gt_X11_138 {x : Nat} (e : gR 0 3 a M = some x) (hd : decode cc pc = .ok (.getfield 138, 3)) (k : V G (RX11, cc, ret, fr, lo, nL, mn, hh) B (pc + 3) ls (.ref x :: st) M) : V G (RX11, cc, ret, fr, lo, nL, mn, hh) B pc ls (.ref a :: st) M := v_getR clX0 (f := 3) (by decide) rfl fl_X11_138 hd e k
theorem gt_X11_145 {x : Int32} (e : gI 5 1 a M = some x) (hd : decode cc pc = .ok (.getfield 145, 3)) (k : V G (RX11, cc, ret, fr, lo, nL, mn, hh) B (pc + 3) ls (.int x :: st) M) : V G (RX11, cc, ret, fr, lo, nL, mn, hh) B pc ls (.ref a :: st) M := v_getI clX5 (f := 1) (by decide) rfl fl_X11_145 hd e k
theorem pt_X11_145 {x : Int32} (e : pZ 5 1 a x M = some M1) (hd : decode cc pc = .ok (.putfield 145, 3)) (k : V G (RX11, cc, ret, fr, lo, nL, mn, hh) B (pc + 3) ls st M1) : V G (RX11, cc, ret, fr, lo, nL, mn, hh) B pc ls (.int x :: .ref a :: st) M := v_putZ clX5 (f := 1) (by decide) rfl rfl rfl fl_X11_145 hd e k
theorem gt_X11_155 {x : Int32} (e : gI 5 7 a M = some x) (hd : decode cc pc = .ok (.getfield 155, 3)) (k : V G (RX11, cc, ret, fr, lo, nL, mn, hh) B (pc + 3) ls (.int x :: st) M) : V G (RX11, cc, ret, fr, lo, nL, mn, hh) B pc ls (.ref a :: st) M := v_getI clX5 (f := 7) (by decide) rfl fl_X11_155 hd e k
theorem pt_X11_155 {x : Int32} (e : pI 5 7 a x M = some M1) (hd : decode cc pc = .ok (.putfield 155, 3)) (k : V G (RX11, cc, ret, fr, lo, nL, mn, hh) B (pc + 3) ls st M1) : V G (RX11, cc, ret, fr, lo, nL, mn, hh) B pc ls (.int x :: .ref a :: st) M := v_putI clX5 (f := 7) (by decide) rfl rfl rfl fl_X11_155 hd e k
theorem gt_X11_162 {x : Nat} (e : gR 5 6 a M = some x) (hd : decode cc pc = .ok (.getfield 162, 3)) (k : V G (RX11, cc, ret, fr, lo, nL, mn, hh) B (pc + 3) ls (.ref x :: st) M) : V G (RX11, cc, ret, fr, lo, nL, mn, hh) B pc ls (.ref a :: st) M := v_getR clX5 (f := 6) (by decide) rfl fl_X11_162 hd e k
theorem gt_X11_166 {x : Int32} (e : gI 8 2 a M = some x) (hd : decode cc pc = .ok (.getfield 166, 3)) (k : V G (RX11, cc, ret, fr, lo, nL, mn, hh) B (pc + 3) ls (.int x :: st) M) : V G (RX11, cc, ret, fr, lo, nL, mn, hh) B pc ls (.ref a :: st) M := v_getI clX8 (f := 2) (by decide) rfl fl_X11_166 hd e k
theorem pt_X11_166 {x : Int32} (e : pI 8 2 a x M = some M1) (hd : decode cc pc = .ok (.putfield 166, 3)) (k : V G (RX11, cc, ret, fr, lo, nL, mn, hh) B (pc + 3) ls st M1) : V G (RX11, cc, ret, fr, lo, nL, mn, hh) B pc ls (.int x :: .ref a :: st) M := v_putI clX8 (f := 2) (by decide) rfl rfl rfl fl_X11_166 hd e k
theorem gt_X11_171 {x : Int32} (e : gI 8 3 a M = some x) (hd : decode cc pc = .ok (.getfield 171, 3)) (k : V G (RX11, cc, ret, fr, lo, nL, mn, hh) B (pc + 3) ls (.int x :: st) M) : V G (RX11, cc, ret, fr, lo, nL, mn, hh) B pc ls (.ref a :: st) M := v_getI clX8 (f := 3) (by decide) rfl fl_X11_171 hd e k
theorem pt_X11_171 {x : Int32} (e : pI 8 3 a x M = some M1) (hd : decode cc pc = .ok (.putfield 171, 3)) (k : V G (RX11, cc, ret, fr, lo, nL, mn, hh) B (pc + 3) ls st M1) : V G (RX11, cc, ret, fr, lo, nL, mn, hh) B pc ls (.int x :: .ref a :: st) M := v_putI clX8 (f := 3) (by decide) rfl rfl rfl fl_X11_171 hd e k
theorem gt_X11_184 {x : Int32} (e : gI 8 1 a M = some x) (hd : decode cc pc = .ok (.getfield 184, 3)) (k : V G (RX11, cc, ret, fr, lo, nL, mn, hh) B (pc + 3) ls (.int x :: st) M) : V G (RX11, cc, ret, fr, lo, nL, mn, hh) B pc ls (.ref a :: st) M := v_getI clX8 (f := 1) (by decide) rfl fl_X11_184 hd e k
theorem pt_X11_184 {x : Int32} (e : pI 8 1 a x M = some M1) (hd : decode cc pc = .ok (.putfield 184, 3)) (k : V G (RX11, cc, ret, fr, lo, nL, mn, hh) B (pc + 3) ls st M1) : V G (RX11, cc, ret, fr, lo, nL, mn, hh) B pc ls (.int x :: .ref a :: st) M := v_putI clX8 (f := 1) (by decide) rfl rfl rfl fl_X11_184 hd e k
theorem gt_X11_187 {x : Nat} (e : gR 8 0 a M = some x) (hd : decode cc pc = .ok (.getfield 187, 3)) (k : V G (RX11, cc, ret, fr, lo, nL, mn, hh) B (pc + 3) ls (.ref x :: st) M) : V G (RX11, cc, ret, fr, lo, nL, mn, hh) B pc ls (.ref a :: st) M := v_getR clX8 (f := 0) (by decide) rfl fl_X11_187 hd e k
theorem pt_X11_187 {x : Nat} (e : pR 8 0 a x M = some M1) (hd : decode cc pc = .ok (.putfield 187, 3)) (k : V G (RX11, cc, ret, fr, lo, nL, mn, hh) B (pc + 3) ls st M1) : V G (RX11, cc, ret, fr, lo, nL, mn, hh) B pc ls (.ref x :: .ref a :: st) M := v_putR clX8 (f := 0) (by decide) rfl rfl (Or.inl ⟨_, rfl⟩) rfl fl_X11_187 hd e k
theorem gt_X11_191 {x : Int32} (e : gI 10 2 a M = some x) (hd : decode cc pc = .ok (.getfield 191, 3)) (k : V G (RX11, cc, ret, fr, lo, nL, mn, hh) B (pc + 3) ls (.int x :: st) M) : V G (RX11, cc, ret, fr, lo, nL, mn, hh) B pc ls (.ref a :: st) M := v_getI clX10 (f := 2) (by decide) rfl fl_X11_191 hd e k
theorem gt_X11_242 {x : Nat} (e : gR 0 4 a M = some x) (hd : decode cc pc = .ok (.getfield 242, 3)) (k : V G (RX11, cc, ret, fr, lo, nL, mn, hh) B (pc + 3) ls (.ref x :: st) M) : V G (RX11, cc, ret, fr, lo, nL, mn, hh) B pc ls (.ref a :: st) M := v_getR clX0 (f := 4) (by decide) rfl fl_X11_242 hd e k
theorem gt_X11_246 {x : Int32} (e : gI 4 2 a M = some x) (hd : decode cc pc = .ok (.getfield 246, 3)) (k : V G (RX11, cc, ret, fr, lo, nL, mn, hh) B (pc + 3) ls (.int x :: st) M) : V G (RX11, cc, ret, fr, lo, nL, mn, hh) B pc ls (.ref a :: st) M := v_getI clX4 (f := 2) (by decide) rfl fl_X11_246 hd e k
theorem pt_X11_246 {x : Int32} (e : pI 4 2 a x M = some M1) (hd : decode cc pc = .ok (.putfield 246, 3)) (k : V G (RX11, cc, ret, fr, lo, nL, mn, hh) B (pc + 3) ls st M1) : V G (RX11, cc, ret, fr, lo, nL, mn, hh) B pc ls (.int x :: .ref a :: st) M := v_putI clX4 (f := 2) (by decide) rfl rfl rfl fl_X11_246 hd e k
theorem gt_X11_259 {x : Int32} (e : gI 11 3 a M = some x) (hd : decode cc pc = .ok (.getfield 259, 3)) (k : V G (RX11, cc, ret, fr, lo, nL, mn, hh) B (pc + 3) ls (.int x :: st) M) : V G (RX11, cc, ret, fr, lo, nL, mn, hh) B pc ls (.ref a :: st) M := v_getI clX11 (f := 3) (by decide) rfl fl_X11_259 hd e k
theorem pt_X11_259 {x : Int32} (e : pZ 11 3 a x M = some M1) (hd : decode cc pc = .ok (.putfield 259, 3)) (k : V G (RX11, cc, ret, fr, lo, nL, mn, hh) B (pc + 3) ls st M1) : V G (RX11, cc, ret, fr, lo, nL, mn, hh) B pc ls (.int x :: .ref a :: st) M := v_putZ clX11 (f := 3) (by decide) rfl rfl rfl fl_X11_259 hd e k
theorem gt_X11_265 {x : Int32} (e : gI 3 0 a M = some x) (hd : decode cc pc = .ok (.getfield 265, 3)) (k : V G (RX11, cc, ret, fr, lo, nL, mn, hh) B (pc + 3) ls (.int x :: st) M) : V G (RX11, cc, ret, fr, lo, nL, mn, hh) B pc ls (.ref a :: st) M := v_getI clX3 (f := 0) (by decide) rfl fl_X11_265 hd e k
theorem pt_X11_265 {x : Int32} (e : pI 3 0 a x M = some M1) (hd : decode cc pc = .ok (.putfield 265, 3)) (k : V G (RX11, cc, ret, fr, lo, nL, mn, hh) B (pc + 3) ls st M1) : V G (RX11, cc, ret, fr, lo, nL, mn, hh) B pc ls (.int x :: .ref a :: st) M := v_putI clX3 (f := 0) (by decide) rfl rfl rfl fl_X11_265 hd e k
theorem gt_X11_281 {x : Nat} (e : gR 10 0 a M = some x) (hd : decode cc pc = .ok (.getfield 281, 3)) (k : V G (RX11, cc, ret, fr, lo, nL, mn, hh) B (pc + 3) ls (.ref x :: st) M) : V G (RX11, cc, ret, fr, lo, nL, mn, hh) B pc ls (.ref a :: st) M := v_getR clX10 (f := 0) (by decide) rfl fl_X11_281 hd e k
theorem gt_X11_287 {x : Nat} (e : gR 5 8 a M = some x) (hd : decode cc pc = .ok (.getfield 287, 3)) (k : V G (RX11, cc, ret, fr, lo, nL, mn, hh) B (pc + 3) ls (.ref x :: st) M) : V G (RX11, cc, ret, fr, lo, nL, mn, hh) B pc ls (.ref a :: st) M := v_getR clX5 (f := 8) (by decide) rfl fl_X11_287 hd e k
theorem gt_X11_291 {x : Int32} (e : gI 2 1 a M = some x) (hd : decode cc pc = .ok (.getfield 291, 3)) (k : V G (RX11, cc, ret, fr, lo, nL, mn, hh) B (pc + 3) ls (.int x :: st) M) : V G (RX11, cc, ret, fr, lo, nL, mn, hh) B pc ls (.ref a :: st) M := v_getI clX2 (f := 1) (by decide) rfl fl_X11_291 hd e k
theorem pt_X11_291 {x : Int32} (e : pI 2 1 a x M = some M1) (hd : decode cc pc = .ok (.putfield 291, 3)) (k : V G (RX11, cc, ret, fr, lo, nL, mn, hh) B (pc + 3) ls st M1) : V G (RX11, cc, ret, fr, lo, nL, mn, hh) B pc ls (.int x :: .ref a :: st) M := v_putI clX2 (f := 1) (by decide) rfl rfl rfl fl_X11_291 hd e k
theorem gt_X11_294 {x : Nat} (e : gR 5 9 a M = some x) (hd : decode cc pc = .ok (.getfield 294, 3)) (k : V G (RX11, cc, ret, fr, lo, nL, mn, hh) B (pc + 3) ls (.ref x :: st) M) : V G (RX11, cc, ret, fr, lo, nL, mn, hh) B pc ls (.ref a :: st) M := v_getR clX5 (f := 9) (by decide) rfl fl_X11_294 hd e k
theorem gt_X11_297 {x : Int32} (e : gI 5 5 a M = some x) (hd : decode cc pc = .ok (.getfield 297, 3)) (k : V G (RX11, cc, ret, fr, lo, nL, mn, hh) B (pc + 3) ls (.int x :: st) M) : V G (RX11, cc, ret, fr, lo, nL, mn, hh) B pc ls (.ref a :: st) M := v_getI clX5 (f := 5) (by decide) rfl fl_X11_297 hd e k
theorem pt_X11_297 {x : Int32} (e : pI 5 5 a x M = some M1) (hd : decode cc pc = .ok (.putfield 297, 3)) (k : V G (RX11, cc, ret, fr, lo, nL, mn, hh) B (pc + 3) ls st M1) : V G (RX11, cc, ret, fr, lo, nL, mn, hh) B pc ls (.int x :: .ref a :: st) M := v_putI clX5 (f := 5) (by decide) rfl rfl rfl fl_X11_297 hd e k
theorem gt_X11_300 {x : Nat} (e : gR 2 0 a M = some x) (hd : decode cc pc = .ok (.getfield 300, 3)) (k : V G (RX11, cc, ret, fr, lo, nL, mn, hh) B (pc + 3) ls (.ref x :: st) M) : V G (RX11, cc, ret, fr, lo, nL, mn, hh) B pc ls (.ref a :: st) M := v_getR clX2 (f := 0) (by decide) rfl fl_X11_300 hd e k
theorem gt_X11_304 {x : Int32} (e : gI 1 4 a M = some x) (hd : decode cc pc = .ok (.getfield 304, 3)) (k : V G (RX11, cc, ret, fr, lo, nL, mn, hh) B (pc + 3) ls (.int x :: st) M) : V G (RX11, cc, ret, fr, lo, nL, mn, hh) B pc ls (.ref a :: st) M := v_getI clX1 (f := 4) (by decide) rfl fl_X11_304 hd e k
theorem pt_X11_304 {x : Int32} (e : pI 1 4 a x M = some M1) (hd : decode cc pc = .ok (.putfield 304, 3)) (k : V G (RX11, cc, ret, fr, lo, nL, mn, hh) B (pc + 3) ls st M1) : V G (RX11, cc, ret, fr, lo, nL, mn, hh) B pc ls (.int x :: .ref a :: st) M := v_putI clX1 (f := 4) (by decide) rfl rfl rfl fl_X11_304 hd e k
theorem gt_X11_305 {x : Int32} (e : gI 1 1 a M = some x) (hd : decode cc pc = .ok (.getfield 305, 3)) (k : V G (RX11, cc, ret, fr, lo, nL, mn, hh) B (pc + 3) ls (.int x :: st) M) : V G (RX11, cc, ret, fr, lo, nL, mn, hh) B pc ls (.ref a :: st) M := v_getI clX1 (f := 1) (by decide) rfl fl_X11_305 hd e k
theorem pt_X11_305 {x : Int32} (e : pI 1 1 a x M = some M1) (hd : decode cc pc = .ok (.putfield 305, 3)) (k : V G (RX11, cc, ret, fr, lo, nL, mn, hh) B (pc + 3) ls st M1) : V G (RX11, cc, ret, fr, lo, nL, mn, hh) B pc ls (.int x :: .ref a :: st) M := v_putI clX1 (f := 1) (by decide) rfl rfl rfl fl_X11_305 hd e k
theorem gt_X11_306 {x : Int32} (e : gI 1 2 a M = some x) (hd : decode cc pc = .ok (.getfield 306, 3)) (k : V G (RX11, cc, ret, fr, lo, nL, mn, hh) B (pc + 3) ls (.int x :: st) M) : V G (RX11, cc, ret, fr, lo, nL, mn, hh) B pc ls (.ref a :: st) M := v_getI clX1 (f := 2) (by decide) rfl fl_X11_306 hd e k
theorem pt_X11_306 {x : Int32} (e : pI 1 2 a x M = some M1) (hd : decode cc pc = .ok (.putfield 306, 3)) (k : V G (RX11, cc, ret, fr, lo, nL, mn, hh) B (pc + 3) ls st M1) : V G (RX11, cc, ret, fr, lo, nL, mn, hh) B pc ls (.int x :: .ref a :: st) M := v_putI clX1 (f := 2) (by decide) rfl rfl rfl fl_X11_306 hd e k
theorem gt_X11_307 {x : Int32} (e : gI 1 5 a M = some x) (hd : decode cc pc = .ok (.getfield 307, 3)) (k : V G (RX11, cc, ret, fr, lo, nL, mn, hh) B (pc + 3) ls (.int x :: st) M) : V G (RX11, cc, ret, fr, lo, nL, mn, hh) B pc ls (.ref a :: st) M := v_getI clX1 (f := 5) (by decide) rfl fl_X11_307 hd e k
theorem pt_X11_307 {x : Int32} (e : pI 1 5 a x M = some M1) (hd : decode cc pc = .ok (.putfield 307, 3)) (k : V G (RX11, cc, ret, fr, lo, nL, mn, hh) B (pc + 3) ls st M1) : V G (RX11, cc, ret, fr, lo, nL, mn, hh) B pc ls (.int x :: .ref a :: st) M := v_putI clX1 (f := 5) (by decide) rfl rfl rfl fl_X11_307 hd e k
theorem gt_X11_310 {x : Int32} (e : gI 1 6 a M = some x) (hd : decode cc pc = .ok (.getfield 310, 3)) (k : V G (RX11, cc, ret, fr, lo, nL, mn, hh) B (pc + 3) ls (.int x :: st) M) : V G (RX11, cc, ret, fr, lo, nL, mn, hh) B pc ls (.ref a :: st) M := v_getI clX1 (f := 6) (by decide) rfl fl_X11_310 hd e k
theorem pt_X11_310 {x : Int32} (e : pI 1 6 a x M = some M1) (hd : decode cc pc = .ok (.putfield 310, 3)) (k : V G (RX11, cc, ret, fr, lo, nL, mn, hh) B (pc + 3) ls st M1) : V G (RX11, cc, ret, fr, lo, nL, mn, hh) B pc ls (.int x :: .ref a :: st) M := v_putI clX1 (f := 6) (by decide) rfl rfl rfl fl_X11_310 hd e k
theorem gt_X11_316 {x : Int32} (e : gI 7 9 a M = some x) (hd : decode cc pc = .ok (.getfield 316, 3)) (k : V G (RX11, cc, ret, fr, lo, nL, mn, hh) B (pc + 3) ls (.int x :: st) M) : V G (RX11, cc, ret, fr, lo, nL, mn, hh) B pc ls (.ref a :: st) M := v_getI clX7 (f := 9) (by decide) rfl fl_X11_316 hd e k
theorem pt_X11_316 {x : Int32} (e : pI 7 9 a x M = some M1) (hd : decode cc pc = .ok (.putfield 316, 3)) (k : V G (RX11, cc, ret, fr, lo, nL, mn, hh) B (pc + 3) ls st M1) : V G (RX11, cc, ret, fr, lo, nL, mn, hh) B pc ls (.int x :: .ref a :: st) M := v_putI clX7 (f := 9) (by decide) rfl rfl rfl fl_X11_316 hd e k
theorem gt_X11_319 {x : UInt32} (e : gF 0 6 a M = some x) (hd : decode cc pc = .ok (.getfield 319, 3)) (k : V G (RX11, cc, ret, fr, lo, nL, mn, hh) B (pc + 3) ls (.float x :: st) M) : V G (RX11, cc, ret, fr, lo, nL, mn, hh) B pc ls (.ref a :: st) M := v_getF clX0 (f := 6) (by decide) rfl fl_X11_319 hd e k
theorem pt_X11_319 {x : UInt32} (e : pF 0 6 a x M = some M1) (hd : decode cc pc = .ok (.putfield 319, 3)) (k : V G (RX11, cc, ret, fr, lo, nL, mn, hh) B (pc + 3) ls st M1) : V G (RX11, cc, ret, fr, lo, nL, mn, hh) B pc ls (.float x :: .ref a :: st) M := v_putF clX0 (f := 6) (by decide) rfl rfl rfl fl_X11_319 hd e k
theorem gt_X11_324 {x : Int32} (e : gI 7 5 a M = some x) (hd : decode cc pc = .ok (.getfield 324, 3)) (k : V G (RX11, cc, ret, fr, lo, nL, mn, hh) B (pc + 3) ls (.int x :: st) M) : V G (RX11, cc, ret, fr, lo, nL, mn, hh) B pc ls (.ref a :: st) M := v_getI clX7 (f := 5) (by decide) rfl fl_X11_324 hd e k
theorem pt_X11_324 {x : Int32} (e : pI 7 5 a x M = some M1) (hd : decode cc pc = .ok (.putfield 324, 3)) (k : V G (RX11, cc, ret, fr, lo, nL, mn, hh) B (pc + 3) ls st M1) : V G (RX11, cc, ret, fr, lo, nL, mn, hh) B pc ls (.int x :: .ref a :: st) M := v_putI clX7 (f := 5) (by decide) rfl rfl rfl fl_X11_324 hd e k
theorem gt_X11_327 {x : Nat} (e : gR 7 4 a M = some x) (hd : decode cc pc = .ok (.getfield 327, 3)) (k : V G (RX11, cc, ret, fr, lo, nL, mn, hh) B (pc + 3) ls (.ref x :: st) M) : V G (RX11, cc, ret, fr, lo, nL, mn, hh) B pc ls (.ref a :: st) M := v_getR clX7 (f := 4) (by decide) rfl fl_X11_327 hd e k
theorem gt_X11_330 {x : Nat} (e : gR 1 0 a M = some x) (hd : decode cc pc = .ok (.getfield 330, 3)) (k : V G (RX11, cc, ret, fr, lo, nL, mn, hh) B (pc + 3) ls (.ref x :: st) M) : V G (RX11, cc, ret, fr, lo, nL, mn, hh) B pc ls (.ref a :: st) M := v_getR clX1 (f := 0) (by decide) rfl fl_X11_330 hd e k
theorem pt_X11_330 {x : Nat} (e : pR 1 0 a x M = some M1) (hd : decode cc pc = .ok (.putfield 330, 3)) (k : V G (RX11, cc, ret, fr, lo, nL, mn, hh) B (pc + 3) ls st M1) : V G (RX11, cc, ret, fr, lo, nL, mn, hh) B pc ls (.ref x :: .ref a :: st) M := v_putR clX1 (f := 0) (by decide) rfl rfl (Or.inl ⟨_, rfl⟩) rfl fl_X11_330 hd e k
theorem gt_X11_346 {x : Int32} (e : gI 11 7 a M = some x) (hd : decode cc pc = .ok (.getfield 346, 3)) (k : V G (RX11, cc, ret, fr, lo, nL, mn, hh) B (pc + 3) ls (.int x :: st) M) : V G (RX11, cc, ret, fr, lo, nL, mn, hh) B pc ls (.ref a :: st) M := v_getI clX11 (f := 7) (by decide) rfl fl_X11_346 hd e k
theorem pt_X11_346 {x : Int32} (e : pZ 11 7 a x M = some M1) (hd : decode cc pc = .ok (.putfield 346, 3)) (k : V G (RX11, cc, ret, fr, lo, nL, mn, hh) B (pc + 3) ls st M1) : V G (RX11, cc, ret, fr, lo, nL, mn, hh) B pc ls (.int x :: .ref a :: st) M := v_putZ clX11 (f := 7) (by decide) rfl rfl rfl fl_X11_346 hd e k
theorem gt_X0_12 {x : Nat} (e : gR 0 3 a M = some x) (hd : decode cc pc = .ok (.getfield 12, 3)) (k : V G (RX0, cc, ret, fr, lo, nL, mn, hh) B (pc + 3) ls (.ref x :: st) M) : V G (RX0, cc, ret, fr, lo, nL, mn, hh) B pc ls (.ref a :: st) M := v_getR clX0 (f := 3) (by decide) rfl fl_X0_12 hd e k
theorem pt_X0_12 {x : Nat} (e : pR 0 3 a x M = some M1) (hd : decode cc pc = .ok (.putfield 12, 3)) (k : V G (RX0, cc, ret, fr, lo, nL, "<init>", hh) B (pc + 3) ls st M1) : V G (RX0, cc, ret, fr, lo, nL, "<init>", hh) B pc ls (.ref x :: .ref a :: st) M := v_putRX clX0 (f := 3) (by decide) rfl rfl (Or.inl ⟨_, rfl⟩) rfl rfl rfl fl_X0_12 hd e k
theorem gt_X0_21 {x : Nat} (e : gR 0 4 a M = some x) (hd : decode cc pc = .ok (.getfield 21, 3)) (k : V G (RX0, cc, ret, fr, lo, nL, mn, hh) B (pc + 3) ls (.ref x :: st) M) : V G (RX0, cc, ret, fr, lo, nL, mn, hh) B pc ls (.ref a :: st) M := v_getR clX0 (f := 4) (by decide) rfl fl_X0_21 hd e k
theorem pt_X0_21 {x : Nat} (e : pR 0 4 a x M = some M1) (hd : decode cc pc = .ok (.putfield 21, 3)) (k : V G (RX0, cc, ret, fr, lo, nL, "<init>", hh) B (pc + 3) ls st M1) : V G (RX0, cc, ret, fr, lo, nL, "<init>", hh) B pc ls (.ref x :: .ref a :: st) M := v_putRX clX0 (f := 4) (by decide) rfl rfl (Or.inl ⟨_, rfl⟩) rfl rfl rfl fl_X0_21 hd e k
theorem gt_X0_28 {x : Nat} (e : gR 0 5 a M = some x) (hd : decode cc pc = .ok (.getfield 28, 3)) (k : V G (RX0, cc, ret, fr, lo, nL, mn, hh) B (pc + 3) ls (.ref x :: st) M) : V G (RX0, cc, ret, fr, lo, nL, mn, hh) B pc ls (.ref a :: st) M := v_getR clX0 (f := 5) (by decide) rfl fl_X0_28 hd e k
theorem pt_X0_28 {x : Nat} (e : pR 0 5 a x M = some M1) (hd : decode cc pc = .ok (.putfield 28, 3)) (k : V G (RX0, cc, ret, fr, lo, nL, "<init>", hh) B (pc + 3) ls st M1) : V G (RX0, cc, ret, fr, lo, nL, "<init>", hh) B pc ls (.ref x :: .ref a :: st) M := v_putRX clX0 (f := 5) (by decide) rfl rfl (Or.inl ⟨_, rfl⟩) rfl rfl rfl fl_X0_28 hd e k
theorem gt_X0_32 {x : Int32} (e : gI 0 0 a M = some x) (hd : decode cc pc = .ok (.getfield 32, 3)) (k : V G (RX0, cc, ret, fr, lo, nL, mn, hh) B (pc + 3) ls (.int x :: st) M) : V G (RX0, cc, ret, fr, lo, nL, mn, hh) B pc ls (.ref a :: st) M := v_getI clX0 (f := 0) (by decide) rfl fl_X0_32 hd e k
theorem pt_X0_32 {x : Int32} (e : pZ 0 0 a x M = some M1) (hd : decode cc pc = .ok (.putfield 32, 3)) (k : V G (RX0, cc, ret, fr, lo, nL, mn, hh) B (pc + 3) ls st M1) : V G (RX0, cc, ret, fr, lo, nL, mn, hh) B pc ls (.int x :: .ref a :: st) M := v_putZ clX0 (f := 0) (by decide) rfl rfl rfl fl_X0_32 hd e k
theorem gt_X0_36 {x : Int32} (e : gI 0 1 a M = some x) (hd : decode cc pc = .ok (.getfield 36, 3)) (k : V G (RX0, cc, ret, fr, lo, nL, mn, hh) B (pc + 3) ls (.int x :: st) M) : V G (RX0, cc, ret, fr, lo, nL, mn, hh) B pc ls (.ref a :: st) M := v_getI clX0 (f := 1) (by decide) rfl fl_X0_36 hd e k
theorem pt_X0_36 {x : Int32} (e : pZ 0 1 a x M = some M1) (hd : decode cc pc = .ok (.putfield 36, 3)) (k : V G (RX0, cc, ret, fr, lo, nL, mn, hh) B (pc + 3) ls st M1) : V G (RX0, cc, ret, fr, lo, nL, mn, hh) B pc ls (.int x :: .ref a :: st) M := v_putZ clX0 (f := 1) (by decide) rfl rfl rfl fl_X0_36 hd e k
theorem gt_X0_39 {x : Int32} (e : gI 0 2 a M = some x) (hd : decode cc pc = .ok (.getfield 39, 3)) (k : V G (RX0, cc, ret, fr, lo, nL, mn, hh) B (pc + 3) ls (.int x :: st) M) : V G (RX0, cc, ret, fr, lo, nL, mn, hh) B pc ls (.ref a :: st) M := v_getI clX0 (f := 2) (by decide) rfl fl_X0_39 hd e k
theorem pt_X0_39 {x : Int32} (e : pZ 0 2 a x M = some M1) (hd : decode cc pc = .ok (.putfield 39, 3)) (k : V G (RX0, cc, ret, fr, lo, nL, mn, hh) B (pc + 3) ls st M1) : V G (RX0, cc, ret, fr, lo, nL, mn, hh) B pc ls (.int x :: .ref a :: st) M := v_putZ clX0 (f := 2) (by decide) rfl rfl rfl fl_X0_39 hd e k
theorem gt_X0_52 {x : UInt32} (e : gF 0 6 a M = some x) (hd : decode cc pc = .ok (.getfield 52, 3)) (k : V G (RX0, cc, ret, fr, lo, nL, mn, hh) B (pc + 3) ls (.float x :: st) M) : V G (RX0, cc, ret, fr, lo, nL, mn, hh) B pc ls (.ref a :: st) M := v_getF clX0 (f := 6) (by decide) rfl fl_X0_52 hd e k
theorem pt_X0_52 {x : UInt32} (e : pF 0 6 a x M = some M1) (hd : decode cc pc = .ok (.putfield 52, 3)) (k : V G (RX0, cc, ret, fr, lo, nL, mn, hh) B (pc + 3) ls st M1) : V G (RX0, cc, ret, fr, lo, nL, mn, hh) B pc ls (.float x :: .ref a :: st) M := v_putF clX0 (f := 6) (by decide) rfl rfl rfl fl_X0_52 hd e k
theorem gt_X0_56 {x : Int32} (e : gI 0 7 a M = some x) (hd : decode cc pc = .ok (.getfield 56, 3)) (k : V G (RX0, cc, ret, fr, lo, nL, mn, hh) B (pc + 3) ls (.int x :: st) M) : V G (RX0, cc, ret, fr, lo, nL, mn, hh) B pc ls (.ref a :: st) M := v_getI clX0 (f := 7) (by decide) rfl fl_X0_56 hd e k
theorem pt_X0_56 {x : Int32} (e : pI 0 7 a x M = some M1) (hd : decode cc pc = .ok (.putfield 56, 3)) (k : V G (RX0, cc, ret, fr, lo, nL, mn, hh) B (pc + 3) ls st M1) : V G (RX0, cc, ret, fr, lo, nL, mn, hh) B pc ls (.int x :: .ref a :: st) M := v_putI clX0 (f := 7) (by decide) rfl rfl rfl fl_X0_56 hd e k
theorem gt_X1_7 {x : Nat} (e : gR 1 0 a M = some x) (hd : decode cc pc = .ok (.getfield 7, 3)) (k : V G (RX1, cc, ret, fr, lo, nL, mn, hh) B (pc + 3) ls (.ref x :: st) M) : V G (RX1, cc, ret, fr, lo, nL, mn, hh) B pc ls (.ref a :: st) M := v_getR clX1 (f := 0) (by decide) rfl fl_X1_7 hd e k
theorem pt_X1_7 {x : Nat} (e : pR 1 0 a x M = some M1) (hd : decode cc pc = .ok (.putfield 7, 3)) (k : V G (RX1, cc, ret, fr, lo, nL, mn, hh) B (pc + 3) ls st M1) : V G (RX1, cc, ret, fr, lo, nL, mn, hh) B pc ls (.ref x :: .ref a :: st) M := v_putR clX1 (f := 0) (by decide) rfl rfl (Or.inl ⟨_, rfl⟩) rfl fl_X1_7 hd e k
theorem gt_X1_13 {x : Int32} (e : gI 1 1 a M = some x) (hd : decode cc pc = .ok (.getfield 13, 3)) (k : V G (RX1, cc, ret, fr, lo, nL, mn, hh) B (pc + 3) ls (.int x :: st) M) : V G (RX1, cc, ret, fr, lo, nL, mn, hh) B pc ls (.ref a :: st) M := v_getI clX1 (f := 1) (by decide) rfl fl_X1_13 hd e k
theorem pt_X1_13 {x : Int32} (e : pI 1 1 a x M = some M1) (hd : decode cc pc = .ok (.putfield 13, 3)) (k : V G (RX1, cc, ret, fr, lo, nL, mn, hh) B (pc + 3) ls st M1) : V G (RX1, cc, ret, fr, lo, nL, mn, hh) B pc ls (.int x :: .ref a :: st) M := v_putI clX1 (f := 1) (by decide) rfl rfl rfl fl_X1_13 hd e k
theorem gt_X1_17 {x : Int32} (e : gI 1 2 a M = some x) (hd : decode cc pc = .ok (.getfield 17, 3)) (k : V G (RX1, cc, ret, fr, lo, nL, mn, hh) B (pc + 3) ls (.int x :: st) M) : V G (RX1, cc, ret, fr, lo, nL, mn, hh) B pc ls (.ref a :: st) M := v_getI clX1 (f := 2) (by decide) rfl fl_X1_17 hd e k
theorem pt_X1_17 {x : Int32} (e : pI 1 2 a x M = some M1) (hd : decode cc pc = .ok (.putfield 17, 3)) (k : V G (RX1, cc, ret, fr, lo, nL, mn, hh) B (pc + 3) ls st M1) : V G (RX1, cc, ret, fr, lo, nL, mn, hh) B pc ls (.int x :: .ref a :: st) M := v_putI clX1 (f := 2) (by decide) rfl rfl rfl fl_X1_17 hd e k
theorem gt_X1_20 {x : Int32} (e : gI 1 3 a M = some x) (hd : decode cc pc = .ok (.getfield 20, 3)) (k : V G (RX1, cc, ret, fr, lo, nL, mn, hh) B (pc + 3) ls (.int x :: st) M) : V G (RX1, cc, ret, fr, lo, nL, mn, hh) B pc ls (.ref a :: st) M := v_getI clX1 (f := 3) (by decide) rfl fl_X1_20 hd e k
theorem pt_X1_20 {x : Int32} (e : pI 1 3 a x M = some M1) (hd : decode cc pc = .ok (.putfield 20, 3)) (k : V G (RX1, cc, ret, fr, lo, nL, mn, hh) B (pc + 3) ls st M1) : V G (RX1, cc, ret, fr, lo, nL, mn, hh) B pc ls (.int x :: .ref a :: st) M := v_putI clX1 (f := 3) (by decide) rfl rfl rfl fl_X1_20 hd e k
theorem gt_X1_23 {x : Int32} (e : gI 1 4 a M = some x) (hd : decode cc pc = .ok (.getfield 23, 3)) (k : V G (RX1, cc, ret, fr, lo, nL, mn, hh) B (pc + 3) ls (.int x :: st) M) : V G (RX1, cc, ret, fr, lo, nL, mn, hh) B pc ls (.ref a :: st) M := v_getI clX1 (f := 4) (by decide) rfl fl_X1_23 hd e k
theorem pt_X1_23 {x : Int32} (e : pI 1 4 a x M = some M1) (hd : decode cc pc = .ok (.putfield 23, 3)) (k : V G (RX1, cc, ret, fr, lo, nL, mn, hh) B (pc + 3) ls st M1) : V G (RX1, cc, ret, fr, lo, nL, mn, hh) B pc ls (.int x :: .ref a :: st) M := v_putI clX1 (f := 4) (by decide) rfl rfl rfl fl_X1_23 hd e k
theorem gt_X1_26 {x : Int32} (e : gI 1 5 a M = some x) (hd : decode cc pc = .ok (.getfield 26, 3)) (k : V G (RX1, cc, ret, fr, lo, nL, mn, hh) B (pc + 3) ls (.int x :: st) M) : V G (RX1, cc, ret, fr, lo, nL, mn, hh) B pc ls (.ref a :: st) M := v_getI clX1 (f := 5) (by decide) rfl fl_X1_26 hd e k
theorem pt_X1_26 {x : Int32} (e : pI 1 5 a x M = some M1) (hd : decode cc pc = .ok (.putfield 26, 3)) (k : V G (RX1, cc, ret, fr, lo, nL, mn, hh) B (pc + 3) ls st M1) : V G (RX1, cc, ret, fr, lo, nL, mn, hh) B pc ls (.int x :: .ref a :: st) M := v_putI clX1 (f := 5) (by decide) rfl rfl rfl fl_X1_26 hd e k
theorem gt_X1_29 {x : Int32} (e : gI 1 6 a M = some x) (hd : decode cc pc = .ok (.getfield 29, 3)) (k : V G (RX1, cc, ret, fr, lo, nL, mn, hh) B (pc + 3) ls (.int x :: st) M) : V G (RX1, cc, ret, fr, lo, nL, mn, hh) B pc ls (.ref a :: st) M := v_getI clX1 (f := 6) (by decide) rfl fl_X1_29 hd e k
theorem pt_X1_29 {x : Int32} (e : pI 1 6 a x M = some M1) (hd : decode cc pc = .ok (.putfield 29, 3)) (k : V G (RX1, cc, ret, fr, lo, nL, mn, hh) B (pc + 3) ls st M1) : V G (RX1, cc, ret, fr, lo, nL, mn, hh) B pc ls (.int x :: .ref a :: st) M := v_putI clX1 (f := 6) (by decide) rfl rfl rfl fl_X1_29 hd e k
theorem gt_X2_15 {x : Nat} (e : gR 2 0 a M = some x) (hd : decode cc pc = .ok (.getfield 15, 3)) (k : V G (RX2, cc, ret, fr, lo, nL, mn, hh) B (pc + 3) ls (.ref x :: st) M) : V G (RX2, cc, ret, fr, lo, nL, mn, hh) B pc ls (.ref a :: st) M := v_getR clX2 (f := 0) (by decide) rfl fl_X2_15 hd e k
theorem pt_X2_15 {x : Nat} (e : pR 2 0 a x M = some M1) (hd : decode cc pc = .ok (.putfield 15, 3)) (k : V G (RX2, cc, ret, fr, lo, nL, "<init>", hh) B (pc + 3) ls st M1) : V G (RX2, cc, ret, fr, lo, nL, "<init>", hh) B pc ls (.ref x :: .ref a :: st) M := v_putRX clX2 (f := 0) (by decide) rfl rfl (Or.inr ⟨_, rfl⟩) rfl rfl rfl fl_X2_15 hd e k
theorem gt_X2_24 {x : Int32} (e : gI 2 1 a M = some x) (hd : decode cc pc = .ok (.getfield 24, 3)) (k : V G (RX2, cc, ret, fr, lo, nL, mn, hh) B (pc + 3) ls (.int x :: st) M) : V G (RX2, cc, ret, fr, lo, nL, mn, hh) B pc ls (.ref a :: st) M := v_getI clX2 (f := 1) (by decide) rfl fl_X2_24 hd e k
theorem pt_X2_24 {x : Int32} (e : pI 2 1 a x M = some M1) (hd : decode cc pc = .ok (.putfield 24, 3)) (k : V G (RX2, cc, ret, fr, lo, nL, mn, hh) B (pc + 3) ls st M1) : V G (RX2, cc, ret, fr, lo, nL, mn, hh) B pc ls (.int x :: .ref a :: st) M := v_putI clX2 (f := 1) (by decide) rfl rfl rfl fl_X2_24 hd e k
theorem gt_X2_32 {x : Int32} (e : gI 1 4 a M = some x) (hd : decode cc pc = .ok (.getfield 32, 3)) (k : V G (RX2, cc, ret, fr, lo, nL, mn, hh) B (pc + 3) ls (.int x :: st) M) : V G (RX2, cc, ret, fr, lo, nL, mn, hh) B pc ls (.ref a :: st) M := v_getI clX1 (f := 4) (by decide) rfl fl_X2_32 hd e k
theorem pt_X2_32 {x : Int32} (e : pI 1 4 a x M = some M1) (hd : decode cc pc = .ok (.putfield 32, 3)) (k : V G (RX2, cc, ret, fr, lo, nL, mn, hh) B (pc + 3) ls st M1) : V G (RX2, cc, ret, fr, lo, nL, mn, hh) B pc ls (.int x :: .ref a :: st) M := v_putI clX1 (f := 4) (by decide) rfl rfl rfl fl_X2_32 hd e k
theorem gt_X3_7 {x : Nat} (e : gR 3 5 a M = some x) (hd : decode cc pc = .ok (.getfield 7, 3)) (k : V G (RX3, cc, ret, fr, lo, nL, mn, hh) B (pc + 3) ls (.ref x :: st) M) : V G (RX3, cc, ret, fr, lo, nL, mn, hh) B pc ls (.ref a :: st) M := v_getR clX3 (f := 5) (by decide) rfl fl_X3_7 hd e k
theorem pt_X3_7 {x : Nat} (e : pR 3 5 a x M = some M1) (hd : decode cc pc = .ok (.putfield 7, 3)) (k : V G (RX3, cc, ret, fr, lo, nL, mn, hh) B (pc + 3) ls st M1) : V G (RX3, cc, ret, fr, lo, nL, mn, hh) B pc ls (.ref x :: .ref a :: st) M := v_putR clX3 (f := 5) (by decide) rfl rfl (Or.inl ⟨_, rfl⟩) rfl fl_X3_7 hd e k
theorem gt_X3_13 {x : Int32} (e : gI 3 0 a M = some x) (hd : decode cc pc = .ok (.getfield 13, 3)) (k : V G (RX3, cc, ret, fr, lo, nL, mn, hh) B (pc + 3) ls (.int x :: st) M) : V G (RX3, cc, ret, fr, lo, nL, mn, hh) B pc ls (.ref a :: st) M := v_getI clX3 (f := 0) (by decide) rfl fl_X3_13 hd e k
theorem pt_X3_13 {x : Int32} (e : pI 3 0 a x M = some M1) (hd : decode cc pc = .ok (.putfield 13, 3)) (k : V G (RX3, cc, ret, fr, lo, nL, mn, hh) B (pc + 3) ls st M1) : V G (RX3, cc, ret, fr, lo, nL, mn, hh) B pc ls (.int x :: .ref a :: st) M := v_putI clX3 (f := 0) (by decide) rfl rfl rfl fl_X3_13 hd e k
theorem gt_X3_17 {x : Int32} (e : gI 3 1 a M = some x) (hd : decode cc pc = .ok (.getfield 17, 3)) (k : V G (RX3, cc, ret, fr, lo, nL, mn, hh) B (pc + 3) ls (.int x :: st) M) : V G (RX3, cc, ret, fr, lo, nL, mn, hh) B pc ls (.ref a :: st) M := v_getI clX3 (f := 1) (by decide) rfl fl_X3_17 hd e k
theorem pt_X3_17 {x : Int32} (e : pI 3 1 a x M = some M1) (hd : decode cc pc = .ok (.putfield 17, 3)) (k : V G (RX3, cc, ret, fr, lo, nL, mn, hh) B (pc + 3) ls st M1) : V G (RX3, cc, ret, fr, lo, nL, mn, hh) B pc ls (.int x :: .ref a :: st) M := v_putI clX3 (f := 1) (by decide) rfl rfl rfl fl_X3_17 hd e k
theorem gt_X3_20 {x : Int32} (e : gI 3 2 a M = some x) (hd : decode cc pc = .ok (.getfield 20, 3)) (k : V G (RX3, cc, ret, fr, lo, nL, mn, hh) B (pc + 3) ls (.int x :: st) M) : V G (RX3, cc, ret, fr, lo, nL, mn, hh) B pc ls (.ref a :: st) M := v_getI clX3 (f := 2) (by decide) rfl fl_X3_20 hd e k
theorem pt_X3_20 {x : Int32} (e : pI 3 2 a x M = some M1) (hd : decode cc pc = .ok (.putfield 20, 3)) (k : V G (RX3, cc, ret, fr, lo, nL, mn, hh) B (pc + 3) ls st M1) : V G (RX3, cc, ret, fr, lo, nL, mn, hh) B pc ls (.int x :: .ref a :: st) M := v_putI clX3 (f := 2) (by decide) rfl rfl rfl fl_X3_20 hd e k
theorem gt_X3_23 {x : Int32} (e : gI 3 3 a M = some x) (hd : decode cc pc = .ok (.getfield 23, 3)) (k : V G (RX3, cc, ret, fr, lo, nL, mn, hh) B (pc + 3) ls (.int x :: st) M) : V G (RX3, cc, ret, fr, lo, nL, mn, hh) B pc ls (.ref a :: st) M := v_getI clX3 (f := 3) (by decide) rfl fl_X3_23 hd e k
theorem pt_X3_23 {x : Int32} (e : pI 3 3 a x M = some M1) (hd : decode cc pc = .ok (.putfield 23, 3)) (k : V G (RX3, cc, ret, fr, lo, nL, mn, hh) B (pc + 3) ls st M1) : V G (RX3, cc, ret, fr, lo, nL, mn, hh) B pc ls (.int x :: .ref a :: st) M := v_putI clX3 (f := 3) (by decide) rfl rfl rfl fl_X3_23 hd e k
theorem gt_X3_26 {x : Int32} (e : gI 3 4 a M = some x) (hd : decode cc pc = .ok (.getfield 26, 3)) (k : V G (RX3, cc, ret, fr, lo, nL, mn, hh) B (pc + 3) ls (.int x :: st) M) : V G (RX3, cc, ret, fr, lo, nL, mn, hh) B pc ls (.ref a :: st) M := v_getI clX3 (f := 4) (by decide) rfl fl_X3_26 hd e k
theorem pt_X3_26 {x : Int32} (e : pI 3 4 a x M = some M1) (hd : decode cc pc = .ok (.putfield 26, 3)) (k : V G (RX3, cc, ret, fr, lo, nL, mn, hh) B (pc + 3) ls st M1) : V G (RX3, cc, ret, fr, lo, nL, mn, hh) B pc ls (.int x :: .ref a :: st) M := v_putI clX3 (f := 4) (by decide) rfl rfl rfl fl_X3_26 hd e k
theorem gt_X4_11 {x : Nat} (e : gR 4 0 a M = some x) (hd : decode cc pc = .ok (.getfield 11, 3)) (k : V G (RX4, cc, ret, fr, lo, nL, mn, hh) B (pc + 3) ls (.ref x :: st) M) : V G (RX4, cc, ret, fr, lo, nL, mn, hh) B pc ls (.ref a :: st) M := v_getR clX4 (f := 0) (by decide) rfl fl_X4_11 hd e k
theorem pt_X4_11 {x : Nat} (e : pR 4 0 a x M = some M1) (hd : decode cc pc = .ok (.putfield 11, 3)) (k : V G (RX4, cc, ret, fr, lo, nL, "<init>", hh) B (pc + 3) ls st M1) : V G (RX4, cc, ret, fr, lo, nL, "<init>", hh) B pc ls (.ref x :: .ref a :: st) M := v_putRX clX4 (f := 0) (by decide) rfl rfl (Or.inr ⟨_, rfl⟩) rfl rfl rfl fl_X4_11 hd e k
theorem gt_X4_20 {x : Int32} (e : gI 4 1 a M = some x) (hd : decode cc pc = .ok (.getfield 20, 3)) (k : V G (RX4, cc, ret, fr, lo, nL, mn, hh) B (pc + 3) ls (.int x :: st) M) : V G (RX4, cc, ret, fr, lo, nL, mn, hh) B pc ls (.ref a :: st) M := v_getI clX4 (f := 1) (by decide) rfl fl_X4_20 hd e k
theorem pt_X4_20 {x : Int32} (e : pI 4 1 a x M = some M1) (hd : decode cc pc = .ok (.putfield 20, 3)) (k : V G (RX4, cc, ret, fr, lo, nL, mn, hh) B (pc + 3) ls st M1) : V G (RX4, cc, ret, fr, lo, nL, mn, hh) B pc ls (.int x :: .ref a :: st) M := v_putI clX4 (f := 1) (by decide) rfl rfl rfl fl_X4_20 hd e k
theorem gt_X4_24 {x : Int32} (e : gI 4 2 a M = some x) (hd : decode cc pc = .ok (.getfield 24, 3)) (k : V G (RX4, cc, ret, fr, lo, nL, mn, hh) B (pc + 3) ls (.int x :: st) M) : V G (RX4, cc, ret, fr, lo, nL, mn, hh) B pc ls (.ref a :: st) M := v_getI clX4 (f := 2) (by decide) rfl fl_X4_24 hd e k
theorem pt_X4_24 {x : Int32} (e : pI 4 2 a x M = some M1) (hd : decode cc pc = .ok (.putfield 24, 3)) (k : V G (RX4, cc, ret, fr, lo, nL, mn, hh) B (pc + 3) ls st M1) : V G (RX4, cc, ret, fr, lo, nL, mn, hh) B pc ls (.int x :: .ref a :: st) M := v_putI clX4 (f := 2) (by decide) rfl rfl rfl fl_X4_24 hd e k
theorem gt_X5_9 {x : Nat} (e : gR 5 4 a M = some x) (hd : decode cc pc = .ok (.getfield 9, 3)) (k : V G (RX5, cc, ret, fr, lo, nL, mn, hh) B (pc + 3) ls (.ref x :: st) M) : V G (RX5, cc, ret, fr, lo, nL, mn, hh) B pc ls (.ref a :: st) M := v_getR clX5 (f := 4) (by decide) rfl fl_X5_9 hd e k
theorem pt_X5_9 {x : Nat} (e : pR 5 4 a x M = some M1) (hd : decode cc pc = .ok (.putfield 9, 3)) (k : V G (RX5, cc, ret, fr, lo, nL, "<init>", hh) B (pc + 3) ls st M1) : V G (RX5, cc, ret, fr, lo, nL, "<init>", hh) B pc ls (.ref x :: .ref a :: st) M := v_putRX clX5 (f := 4) (by decide) rfl rfl (Or.inr ⟨_, rfl⟩) rfl rfl rfl fl_X5_9 hd e k
theorem gt_X5_17 {x : Nat} (e : gR 5 6 a M = some x) (hd : decode cc pc = .ok (.getfield 17, 3)) (k : V G (RX5, cc, ret, fr, lo, nL, mn, hh) B (pc + 3) ls (.ref x :: st) M) : V G (RX5, cc, ret, fr, lo, nL, mn, hh) B pc ls (.ref a :: st) M := v_getR clX5 (f := 6) (by decide) rfl fl_X5_17 hd e k
theorem pt_X5_17 {x : Nat} (e : pR 5 6 a x M = some M1) (hd : decode cc pc = .ok (.putfield 17, 3)) (k : V G (RX5, cc, ret, fr, lo, nL, "<init>", hh) B (pc + 3) ls st M1) : V G (RX5, cc, ret, fr, lo, nL, "<init>", hh) B pc ls (.ref x :: .ref a :: st) M := v_putRX clX5 (f := 6) (by decide) rfl rfl (Or.inr ⟨_, rfl⟩) rfl rfl rfl fl_X5_17 hd e k
theorem gt_X5_29 {x : Nat} (e : gR 5 8 a M = some x) (hd : decode cc pc = .ok (.getfield 29, 3)) (k : V G (RX5, cc, ret, fr, lo, nL, mn, hh) B (pc + 3) ls (.ref x :: st) M) : V G (RX5, cc, ret, fr, lo, nL, mn, hh) B pc ls (.ref a :: st) M := v_getR clX5 (f := 8) (by decide) rfl fl_X5_29 hd e k
theorem pt_X5_29 {x : Nat} (e : pR 5 8 a x M = some M1) (hd : decode cc pc = .ok (.putfield 29, 3)) (k : V G (RX5, cc, ret, fr, lo, nL, "<init>", hh) B (pc + 3) ls st M1) : V G (RX5, cc, ret, fr, lo, nL, "<init>", hh) B pc ls (.ref x :: .ref a :: st) M := v_putRX clX5 (f := 8) (by decide) rfl rfl (Or.inl ⟨_, rfl⟩) rfl rfl rfl fl_X5_29 hd e k
theorem gt_X5_33 {x : Nat} (e : gR 5 9 a M = some x) (hd : decode cc pc = .ok (.getfield 33, 3)) (k : V G (RX5, cc, ret, fr, lo, nL, mn, hh) B (pc + 3) ls (.ref x :: st) M) : V G (RX5, cc, ret, fr, lo, nL, mn, hh) B pc ls (.ref a :: st) M := v_getR clX5 (f := 9) (by decide) rfl fl_X5_33 hd e k
theorem pt_X5_33 {x : Nat} (e : pR 5 9 a x M = some M1) (hd : decode cc pc = .ok (.putfield 33, 3)) (k : V G (RX5, cc, ret, fr, lo, nL, "<init>", hh) B (pc + 3) ls st M1) : V G (RX5, cc, ret, fr, lo, nL, "<init>", hh) B pc ls (.ref x :: .ref a :: st) M := v_putRX clX5 (f := 9) (by decide) rfl rfl (Or.inl ⟨_, rfl⟩) rfl rfl rfl fl_X5_33 hd e k
theorem gt_X5_39 {x : Int32} (e : gI 5 0 a M = some x) (hd : decode cc pc = .ok (.getfield 39, 3)) (k : V G (RX5, cc, ret, fr, lo, nL, mn, hh) B (pc + 3) ls (.int x :: st) M) : V G (RX5, cc, ret, fr, lo, nL, mn, hh) B pc ls (.ref a :: st) M := v_getI clX5 (f := 0) (by decide) rfl fl_X5_39 hd e k
theorem pt_X5_39 {x : Int32} (e : pZ 5 0 a x M = some M1) (hd : decode cc pc = .ok (.putfield 39, 3)) (k : V G (RX5, cc, ret, fr, lo, nL, mn, hh) B (pc + 3) ls st M1) : V G (RX5, cc, ret, fr, lo, nL, mn, hh) B pc ls (.int x :: .ref a :: st) M := v_putZ clX5 (f := 0) (by decide) rfl rfl rfl fl_X5_39 hd e k
theorem gt_X5_43 {x : Int32} (e : gI 5 1 a M = some x) (hd : decode cc pc = .ok (.getfield 43, 3)) (k : V G (RX5, cc, ret, fr, lo, nL, mn, hh) B (pc + 3) ls (.int x :: st) M) : V G (RX5, cc, ret, fr, lo, nL, mn, hh) B pc ls (.ref a :: st) M := v_getI clX5 (f := 1) (by decide) rfl fl_X5_43 hd e k
theorem pt_X5_43 {x : Int32} (e : pZ 5 1 a x M = some M1) (hd : decode cc pc = .ok (.putfield 43, 3)) (k : V G (RX5, cc, ret, fr, lo, nL, mn, hh) B (pc + 3) ls st M1) : V G (RX5, cc, ret, fr, lo, nL, mn, hh) B pc ls (.int x :: .ref a :: st) M := v_putZ clX5 (f := 1) (by decide) rfl rfl rfl fl_X5_43 hd e k
theorem gt_X5_46 {x : Int32} (e : gI 5 2 a M = some x) (hd : decode cc pc = .ok (.getfield 46, 3)) (k : V G (RX5, cc, ret, fr, lo, nL, mn, hh) B (pc + 3) ls (.int x :: st) M) : V G (RX5, cc, ret, fr, lo, nL, mn, hh) B pc ls (.ref a :: st) M := v_getI clX5 (f := 2) (by decide) rfl fl_X5_46 hd e k
theorem pt_X5_46 {x : Int32} (e : pI 5 2 a x M = some M1) (hd : decode cc pc = .ok (.putfield 46, 3)) (k : V G (RX5, cc, ret, fr, lo, nL, mn, hh) B (pc + 3) ls st M1) : V G (RX5, cc, ret, fr, lo, nL, mn, hh) B pc ls (.int x :: .ref a :: st) M := v_putI clX5 (f := 2) (by decide) rfl rfl rfl fl_X5_46 hd e k
theorem gt_X5_50 {x : Int32} (e : gI 5 3 a M = some x) (hd : decode cc pc = .ok (.getfield 50, 3)) (k : V G (RX5, cc, ret, fr, lo, nL, mn, hh) B (pc + 3) ls (.int x :: st) M) : V G (RX5, cc, ret, fr, lo, nL, mn, hh) B pc ls (.ref a :: st) M := v_getI clX5 (f := 3) (by decide) rfl fl_X5_50 hd e k
theorem pt_X5_50 {x : Int32} (e : pI 5 3 a x M = some M1) (hd : decode cc pc = .ok (.putfield 50, 3)) (k : V G (RX5, cc, ret, fr, lo, nL, mn, hh) B (pc + 3) ls st M1) : V G (RX5, cc, ret, fr, lo, nL, mn, hh) B pc ls (.int x :: .ref a :: st) M := v_putI clX5 (f := 3) (by decide) rfl rfl rfl fl_X5_50 hd e k
theorem gt_X5_53 {x : Int32} (e : gI 5 5 a M = some x) (hd : decode cc pc = .ok (.getfield 53, 3)) (k : V G (RX5, cc, ret, fr, lo, nL, mn, hh) B (pc + 3) ls (.int x :: st) M) : V G (RX5, cc, ret, fr, lo, nL, mn, hh) B pc ls (.ref a :: st) M := v_getI clX5 (f := 5) (by decide) rfl fl_X5_53 hd e k
theorem pt_X5_53 {x : Int32} (e : pI 5 5 a x M = some M1) (hd : decode cc pc = .ok (.putfield 53, 3)) (k : V G (RX5, cc, ret, fr, lo, nL, mn, hh) B (pc + 3) ls st M1) : V G (RX5, cc, ret, fr, lo, nL, mn, hh) B pc ls (.int x :: .ref a :: st) M := v_putI clX5 (f := 5) (by decide) rfl rfl rfl fl_X5_53 hd e k
theorem gt_X5_56 {x : Int32} (e : gI 5 7 a M = some x) (hd : decode cc pc = .ok (.getfield 56, 3)) (k : V G (RX5, cc, ret, fr, lo, nL, mn, hh) B (pc + 3) ls (.int x :: st) M) : V G (RX5, cc, ret, fr, lo, nL, mn, hh) B pc ls (.ref a :: st) M := v_getI clX5 (f := 7) (by decide) rfl fl_X5_56 hd e k
theorem pt_X5_56 {x : Int32} (e : pI 5 7 a x M = some M1) (hd : decode cc pc = .ok (.putfield 56, 3)) (k : V G (RX5, cc, ret, fr, lo, nL, mn, hh) B (pc + 3) ls st M1) : V G (RX5, cc, ret, fr, lo, nL, mn, hh) B pc ls (.int x :: .ref a :: st) M := v_putI clX5 (f := 7) (by decide) rfl rfl rfl fl_X5_56 hd e k
theorem gt_X5_59 {x : Int32} (e : gI 2 1 a M = some x) (hd : decode cc pc = .ok (.getfield 59, 3)) (k : V G (RX5, cc, ret, fr, lo, nL, mn, hh) B (pc + 3) ls (.int x :: st) M) : V G (RX5, cc, ret, fr, lo, nL, mn, hh) B pc ls (.ref a :: st) M := v_getI clX2 (f := 1) (by decide) rfl fl_X5_59 hd e k
theorem pt_X5_59 {x : Int32} (e : pI 2 1 a x M = some M1) (hd : decode cc pc = .ok (.putfield 59, 3)) (k : V G (RX5, cc, ret, fr, lo, nL, mn, hh) B (pc + 3) ls st M1) : V G (RX5, cc, ret, fr, lo, nL, mn, hh) B pc ls (.int x :: .ref a :: st) M := v_putI clX2 (f := 1) (by decide) rfl rfl rfl fl_X5_59 hd e k
theorem gt_X5_66 {x : Int32} (e : gI 8 1 a M = some x) (hd : decode cc pc = .ok (.getfield 66, 3)) (k : V G (RX5, cc, ret, fr, lo, nL, mn, hh) B (pc + 3) ls (.int x :: st) M) : V G (RX5, cc, ret, fr, lo, nL, mn, hh) B pc ls (.ref a :: st) M := v_getI clX8 (f := 1) (by decide) rfl fl_X5_66 hd e k
theorem pt_X5_66 {x : Int32} (e : pI 8 1 a x M = some M1) (hd : decode cc pc = .ok (.putfield 66, 3)) (k : V G (RX5, cc, ret, fr, lo, nL, mn, hh) B (pc + 3) ls st M1) : V G (RX5, cc, ret, fr, lo, nL, mn, hh) B pc ls (.int x :: .ref a :: st) M := v_putI clX8 (f := 1) (by decide) rfl rfl rfl fl_X5_66 hd e k
theorem gt_X5_69 {x : Nat} (e : gR 8 0 a M = some x) (hd : decode cc pc = .ok (.getfield 69, 3)) (k : V G (RX5, cc, ret, fr, lo, nL, mn, hh) B (pc + 3) ls (.ref x :: st) M) : V G (RX5, cc, ret, fr, lo, nL, mn, hh) B pc ls (.ref a :: st) M := v_getR clX8 (f := 0) (by decide) rfl fl_X5_69 hd e k
theorem pt_X5_69 {x : Nat} (e : pR 8 0 a x M = some M1) (hd : decode cc pc = .ok (.putfield 69, 3)) (k : V G (RX5, cc, ret, fr, lo, nL, mn, hh) B (pc + 3) ls st M1) : V G (RX5, cc, ret, fr, lo, nL, mn, hh) B pc ls (.ref x :: .ref a :: st) M := v_putR clX8 (f := 0) (by decide) rfl rfl (Or.inl ⟨_, rfl⟩) rfl fl_X5_69 hd e k
theorem gt_X5_83 {x : Int32} (e : gI 8 2 a M = some x) (hd : decode cc pc = .ok (.getfield 83, 3)) (k : V G (RX5, cc, ret, fr, lo, nL, mn, hh) B (pc + 3) ls (.int x :: st) M) : V G (RX5, cc, ret, fr, lo, nL, mn, hh) B pc ls (.ref a :: st) M := v_getI clX8 (f := 2) (by decide) rfl fl_X5_83 hd e k
theorem pt_X5_83 {x : Int32} (e : pI 8 2 a x M = some M1) (hd : decode cc pc = .ok (.putfield 83, 3)) (k : V G (RX5, cc, ret, fr, lo, nL, mn, hh) B (pc + 3) ls st M1) : V G (RX5, cc, ret, fr, lo, nL, mn, hh) B pc ls (.int x :: .ref a :: st) M := v_putI clX8 (f := 2) (by decide) rfl rfl rfl fl_X5_83 hd e k
theorem gt_X5_86 {x : Int32} (e : gI 8 3 a M = some x) (hd : decode cc pc = .ok (.getfield 86, 3)) (k : V G (RX5, cc, ret, fr, lo, nL, mn, hh) B (pc + 3) ls (.int x :: st) M) : V G (RX5, cc, ret, fr, lo, nL, mn, hh) B pc ls (.ref a :: st) M := v_getI clX8 (f := 3) (by decide) rfl fl_X5_86 hd e k
theorem pt_X5_86 {x : Int32} (e : pI 8 3 a x M = some M1) (hd : decode cc pc = .ok (.putfield 86, 3)) (k : V G (RX5, cc, ret, fr, lo, nL, mn, hh) B (pc + 3) ls st M1) : V G (RX5, cc, ret, fr, lo, nL, mn, hh) B pc ls (.int x :: .ref a :: st) M := v_putI clX8 (f := 3) (by decide) rfl rfl rfl fl_X5_86 hd e k
theorem gt_X6_9 {x : Nat} (e : gR 6 0 a M = some x) (hd : decode cc pc = .ok (.getfield 9, 3)) (k : V G (RX6, cc, ret, fr, lo, nL, mn, hh) B (pc + 3) ls (.ref x :: st) M) : V G (RX6, cc, ret, fr, lo, nL, mn, hh) B pc ls (.ref a :: st) M := v_getR clX6 (f := 0) (by decide) rfl fl_X6_9 hd e k
theorem pt_X6_9 {x : Nat} (e : pR 6 0 a x M = some M1) (hd : decode cc pc = .ok (.putfield 9, 3)) (k : V G (RX6, cc, ret, fr, lo, nL, mn, hh) B (pc + 3) ls st M1) : V G (RX6, cc, ret, fr, lo, nL, mn, hh) B pc ls (.ref x :: .ref a :: st) M := v_putR clX6 (f := 0) (by decide) rfl rfl (Or.inl ⟨_, rfl⟩) rfl fl_X6_9 hd e k
theorem gt_X6_15 {x : Nat} (e : gR 6 2 a M = some x) (hd : decode cc pc = .ok (.getfield 15, 3)) (k : V G (RX6, cc, ret, fr, lo, nL, mn, hh) B (pc + 3) ls (.ref x :: st) M) : V G (RX6, cc, ret, fr, lo, nL, mn, hh) B pc ls (.ref a :: st) M := v_getR clX6 (f := 2) (by decide) rfl fl_X6_15 hd e k
theorem pt_X6_15 {x : Nat} (e : pR 6 2 a x M = some M1) (hd : decode cc pc = .ok (.putfield 15, 3)) (k : V G (RX6, cc, ret, fr, lo, nL, "<init>", hh) B (pc + 3) ls st M1) : V G (RX6, cc, ret, fr, lo, nL, "<init>", hh) B pc ls (.ref x :: .ref a :: st) M := v_putRX clX6 (f := 2) (by decide) rfl rfl (Or.inr ⟨_, rfl⟩) rfl rfl rfl fl_X6_15 hd e k
theorem gt_X6_19 {x : Int32} (e : gI 6 3 a M = some x) (hd : decode cc pc = .ok (.getfield 19, 3)) (k : V G (RX6, cc, ret, fr, lo, nL, mn, hh) B (pc + 3) ls (.int x :: st) M) : V G (RX6, cc, ret, fr, lo, nL, mn, hh) B pc ls (.ref a :: st) M := v_getI clX6 (f := 3) (by decide) rfl fl_X6_19 hd e k
theorem pt_X6_19 {x : Int32} (e : pI 6 3 a x M = some M1) (hd : decode cc pc = .ok (.putfield 19, 3)) (k : V G (RX6, cc, ret, fr, lo, nL, mn, hh) B (pc + 3) ls st M1) : V G (RX6, cc, ret, fr, lo, nL, mn, hh) B pc ls (.int x :: .ref a :: st) M := v_putI clX6 (f := 3) (by decide) rfl rfl rfl fl_X6_19 hd e k
theorem gt_X6_23 {x : Int32} (e : gI 6 1 a M = some x) (hd : decode cc pc = .ok (.getfield 23, 3)) (k : V G (RX6, cc, ret, fr, lo, nL, mn, hh) B (pc + 3) ls (.int x :: st) M) : V G (RX6, cc, ret, fr, lo, nL, mn, hh) B pc ls (.ref a :: st) M := v_getI clX6 (f := 1) (by decide) rfl fl_X6_23 hd e k
theorem pt_X6_23 {x : Int32} (e : pI 6 1 a x M = some M1) (hd : decode cc pc = .ok (.putfield 23, 3)) (k : V G (RX6, cc, ret, fr, lo, nL, mn, hh) B (pc + 3) ls st M1) : V G (RX6, cc, ret, fr, lo, nL, mn, hh) B pc ls (.int x :: .ref a :: st) M := v_putI clX6 (f := 1) (by decide) rfl rfl rfl fl_X6_23 hd e k
theorem gt_X7_9 {x : Nat} (e : gR 7 0 a M = some x) (hd : decode cc pc = .ok (.getfield 9, 3)) (k : V G (RX7, cc, ret, fr, lo, nL, mn, hh) B (pc + 3) ls (.ref x :: st) M) : V G (RX7, cc, ret, fr, lo, nL, mn, hh) B pc ls (.ref a :: st) M := v_getR clX7 (f := 0) (by decide) rfl fl_X7_9 hd e k
theorem pt_X7_9 {x : Nat} (e : pR 7 0 a x M = some M1) (hd : decode cc pc = .ok (.putfield 9, 3)) (k : V G (RX7, cc, ret, fr, lo, nL, "<init>", hh) B (pc + 3) ls st M1) : V G (RX7, cc, ret, fr, lo, nL, "<init>", hh) B pc ls (.ref x :: .ref a :: st) M := v_putRX clX7 (f := 0) (by decide) rfl rfl (Or.inl ⟨_, rfl⟩) rfl rfl rfl fl_X7_9 hd e k
theorem gt_X7_17 {x : Nat} (e : gR 7 1 a M = some x) (hd : decode cc pc = .ok (.getfield 17, 3)) (k : V G (RX7, cc, ret, fr, lo, nL, mn, hh) B (pc + 3) ls (.ref x :: st) M) : V G (RX7, cc, ret, fr, lo, nL, mn, hh) B pc ls (.ref a :: st) M := v_getR clX7 (f := 1) (by decide) rfl fl_X7_17 hd e k
theorem pt_X7_17 {x : Nat} (e : pR 7 1 a x M = some M1) (hd : decode cc pc = .ok (.putfield 17, 3)) (k : V G (RX7, cc, ret, fr, lo, nL, "<init>", hh) B (pc + 3) ls st M1) : V G (RX7, cc, ret, fr, lo, nL, "<init>", hh) B pc ls (.ref x :: .ref a :: st) M := v_putRX clX7 (f := 1) (by decide) rfl rfl (Or.inr ⟨_, rfl⟩) rfl rfl rfl fl_X7_17 hd e k
theorem gt_X7_26 {x : Nat} (e : gR 7 2 a M = some x) (hd : decode cc pc = .ok (.getfield 26, 3)) (k : V G (RX7, cc, ret, fr, lo, nL, mn, hh) B (pc + 3) ls (.ref x :: st) M) : V G (RX7, cc, ret, fr, lo, nL, mn, hh) B pc ls (.ref a :: st) M := v_getR clX7 (f := 2) (by decide) rfl fl_X7_26 hd e k
theorem pt_X7_26 {x : Nat} (e : pR 7 2 a x M = some M1) (hd : decode cc pc = .ok (.putfield 26, 3)) (k : V G (RX7, cc, ret, fr, lo, nL, "<init>", hh) B (pc + 3) ls st M1) : V G (RX7, cc, ret, fr, lo, nL, "<init>", hh) B pc ls (.ref x :: .ref a :: st) M := v_putRX clX7 (f := 2) (by decide) rfl rfl (Or.inr ⟨_, rfl⟩) rfl rfl rfl fl_X7_26 hd e k
theorem gt_X7_33 {x : Nat} (e : gR 7 4 a M = some x) (hd : decode cc pc = .ok (.getfield 33, 3)) (k : V G (RX7, cc, ret, fr, lo, nL, mn, hh) B (pc + 3) ls (.ref x :: st) M) : V G (RX7, cc, ret, fr, lo, nL, mn, hh) B pc ls (.ref a :: st) M := v_getR clX7 (f := 4) (by decide) rfl fl_X7_33 hd e k
theorem pt_X7_33 {x : Nat} (e : pR 7 4 a x M = some M1) (hd : decode cc pc = .ok (.putfield 33, 3)) (k : V G (RX7, cc, ret, fr, lo, nL, "<init>", hh) B (pc + 3) ls st M1) : V G (RX7, cc, ret, fr, lo, nL, "<init>", hh) B pc ls (.ref x :: .ref a :: st) M := v_putRX clX7 (f := 4) (by decide) rfl rfl (Or.inr ⟨_, rfl⟩) rfl rfl rfl fl_X7_33 hd e k
theorem gt_X7_42 {x : Nat} (e : gR 7 6 a M = some x) (hd : decode cc pc = .ok (.getfield 42, 3)) (k : V G (RX7, cc, ret, fr, lo, nL, mn, hh) B (pc + 3) ls (.ref x :: st) M) : V G (RX7, cc, ret, fr, lo, nL, mn, hh) B pc ls (.ref a :: st) M := v_getR clX7 (f := 6) (by decide) rfl fl_X7_42 hd e k
theorem pt_X7_42 {x : Nat} (e : pR 7 6 a x M = some M1) (hd : decode cc pc = .ok (.putfield 42, 3)) (k : V G (RX7, cc, ret, fr, lo, nL, "<init>", hh) B (pc + 3) ls st M1) : V G (RX7, cc, ret, fr, lo, nL, "<init>", hh) B pc ls (.ref x :: .ref a :: st) M := v_putRX clX7 (f := 6) (by decide) rfl rfl (Or.inr ⟨_, rfl⟩) rfl rfl rfl fl_X7_42 hd e k
theorem gt_X7_45 {x : Nat} (e : gR 7 7 a M = some x) (hd : decode cc pc = .ok (.getfield 45, 3)) (k : V G (RX7, cc, ret, fr, lo, nL, mn, hh) B (pc + 3) ls (.ref x :: st) M) : V G (RX7, cc, ret, fr, lo, nL, mn, hh) B pc ls (.ref a :: st) M := v_getR clX7 (f := 7) (by decide) rfl fl_X7_45 hd e k
theorem pt_X7_45 {x : Nat} (e : pR 7 7 a x M = some M1) (hd : decode cc pc = .ok (.putfield 45, 3)) (k : V G (RX7, cc, ret, fr, lo, nL, "<init>", hh) B (pc + 3) ls st M1) : V G (RX7, cc, ret, fr, lo, nL, "<init>", hh) B pc ls (.ref x :: .ref a :: st) M := v_putRX clX7 (f := 7) (by decide) rfl rfl (Or.inr ⟨_, rfl⟩) rfl rfl rfl fl_X7_45 hd e k
theorem gt_X7_51 {x : Nat} (e : gR 7 8 a M = some x) (hd : decode cc pc = .ok (.getfield 51, 3)) (k : V G (RX7, cc, ret, fr, lo, nL, mn, hh) B (pc + 3) ls (.ref x :: st) M) : V G (RX7, cc, ret, fr, lo, nL, mn, hh) B pc ls (.ref a :: st) M := v_getR clX7 (f := 8) (by decide) rfl fl_X7_51 hd e k
theorem pt_X7_51 {x : Nat} (e : pR 7 8 a x M = some M1) (hd : decode cc pc = .ok (.putfield 51, 3)) (k : V G (RX7, cc, ret, fr, lo, nL, "<init>", hh) B (pc + 3) ls st M1) : V G (RX7, cc, ret, fr, lo, nL, "<init>", hh) B pc ls (.ref x :: .ref a :: st) M := v_putRX clX7 (f := 8) (by decide) rfl rfl (Or.inl ⟨_, rfl⟩) rfl rfl rfl fl_X7_51 hd e k
theorem gt_X7_55 {x : Nat} (e : gR 7 10 a M = some x) (hd : decode cc pc = .ok (.getfield 55, 3)) (k : V G (RX7, cc, ret, fr, lo, nL, mn, hh) B (pc + 3) ls (.ref x :: st) M) : V G (RX7, cc, ret, fr, lo, nL, mn, hh) B pc ls (.ref a :: st) M := v_getR clX7 (f := 10) (by decide) rfl fl_X7_55 hd e k
theorem pt_X7_55 {x : Nat} (e : pR 7 10 a x M = some M1) (hd : decode cc pc = .ok (.putfield 55, 3)) (k : V G (RX7, cc, ret, fr, lo, nL, "<init>", hh) B (pc + 3) ls st M1) : V G (RX7, cc, ret, fr, lo, nL, "<init>", hh) B pc ls (.ref x :: .ref a :: st) M := v_putRX clX7 (f := 10) (by decide) rfl rfl (Or.inl ⟨_, rfl⟩) rfl rfl rfl fl_X7_55 hd e k
theorem gt_X7_63 {x : Int32} (e : gI 7 3 a M = some x) (hd : decode cc pc = .ok (.getfield 63, 3)) (k : V G (RX7, cc, ret, fr, lo, nL, mn, hh) B (pc + 3) ls (.int x :: st) M) : V G (RX7, cc, ret, fr, lo, nL, mn, hh) B pc ls (.ref a :: st) M := v_getI clX7 (f := 3) (by decide) rfl fl_X7_63 hd e k
theorem pt_X7_63 {x : Int32} (e : pI 7 3 a x M = some M1) (hd : decode cc pc = .ok (.putfield 63, 3)) (k : V G (RX7, cc, ret, fr, lo, nL, mn, hh) B (pc + 3) ls st M1) : V G (RX7, cc, ret, fr, lo, nL, mn, hh) B pc ls (.int x :: .ref a :: st) M := v_putI clX7 (f := 3) (by decide) rfl rfl rfl fl_X7_63 hd e k
theorem gt_X7_70 {x : Int32} (e : gI 7 5 a M = some x) (hd : decode cc pc = .ok (.getfield 70, 3)) (k : V G (RX7, cc, ret, fr, lo, nL, mn, hh) B (pc + 3) ls (.int x :: st) M) : V G (RX7, cc, ret, fr, lo, nL, mn, hh) B pc ls (.ref a :: st) M := v_getI clX7 (f := 5) (by decide) rfl fl_X7_70 hd e k
theorem pt_X7_70 {x : Int32} (e : pI 7 5 a x M = some M1) (hd : decode cc pc = .ok (.putfield 70, 3)) (k : V G (RX7, cc, ret, fr, lo, nL, mn, hh) B (pc + 3) ls st M1) : V G (RX7, cc, ret, fr, lo, nL, mn, hh) B pc ls (.int x :: .ref a :: st) M := v_putI clX7 (f := 5) (by decide) rfl rfl rfl fl_X7_70 hd e k
theorem gt_X7_79 {x : Int32} (e : gI 7 9 a M = some x) (hd : decode cc pc = .ok (.getfield 79, 3)) (k : V G (RX7, cc, ret, fr, lo, nL, mn, hh) B (pc + 3) ls (.int x :: st) M) : V G (RX7, cc, ret, fr, lo, nL, mn, hh) B pc ls (.ref a :: st) M := v_getI clX7 (f := 9) (by decide) rfl fl_X7_79 hd e k
theorem pt_X7_79 {x : Int32} (e : pI 7 9 a x M = some M1) (hd : decode cc pc = .ok (.putfield 79, 3)) (k : V G (RX7, cc, ret, fr, lo, nL, mn, hh) B (pc + 3) ls st M1) : V G (RX7, cc, ret, fr, lo, nL, mn, hh) B pc ls (.int x :: .ref a :: st) M := v_putI clX7 (f := 9) (by decide) rfl rfl rfl fl_X7_79 hd e k
theorem gt_X7_82 {x : Int32} (e : gI 0 0 a M = some x) (hd : decode cc pc = .ok (.getfield 82, 3)) (k : V G (RX7, cc, ret, fr, lo, nL, mn, hh) B (pc + 3) ls (.int x :: st) M) : V G (RX7, cc, ret, fr, lo, nL, mn, hh) B pc ls (.ref a :: st) M := v_getI clX0 (f := 0) (by decide) rfl fl_X7_82 hd e k
theorem pt_X7_82 {x : Int32} (e : pZ 0 0 a x M = some M1) (hd : decode cc pc = .ok (.putfield 82, 3)) (k : V G (RX7, cc, ret, fr, lo, nL, mn, hh) B (pc + 3) ls st M1) : V G (RX7, cc, ret, fr, lo, nL, mn, hh) B pc ls (.int x :: .ref a :: st) M := v_putZ clX0 (f := 0) (by decide) rfl rfl rfl fl_X7_82 hd e k
theorem gt_X7_86 {x : Nat} (e : gR 0 4 a M = some x) (hd : decode cc pc = .ok (.getfield 86, 3)) (k : V G (RX7, cc, ret, fr, lo, nL, mn, hh) B (pc + 3) ls (.ref x :: st) M) : V G (RX7, cc, ret, fr, lo, nL, mn, hh) B pc ls (.ref a :: st) M := v_getR clX0 (f := 4) (by decide) rfl fl_X7_86 hd e k
theorem gt_X7_95 {x : Nat} (e : gR 0 5 a M = some x) (hd : decode cc pc = .ok (.getfield 95, 3)) (k : V G (RX7, cc, ret, fr, lo, nL, mn, hh) B (pc + 3) ls (.ref x :: st) M) : V G (RX7, cc, ret, fr, lo, nL, mn, hh) B pc ls (.ref a :: st) M := v_getR clX0 (f := 5) (by decide) rfl fl_X7_95 hd e k
theorem gt_X7_99 {x : Int32} (e : gI 5 1 a M = some x) (hd : decode cc pc = .ok (.getfield 99, 3)) (k : V G (RX7, cc, ret, fr, lo, nL, mn, hh) B (pc + 3) ls (.int x :: st) M) : V G (RX7, cc, ret, fr, lo, nL, mn, hh) B pc ls (.ref a :: st) M := v_getI clX5 (f := 1) (by decide) rfl fl_X7_99 hd e k
theorem pt_X7_99 {x : Int32} (e : pZ 5 1 a x M = some M1) (hd : decode cc pc = .ok (.putfield 99, 3)) (k : V G (RX7, cc, ret, fr, lo, nL, mn, hh) B (pc + 3) ls st M1) : V G (RX7, cc, ret, fr, lo, nL, mn, hh) B pc ls (.int x :: .ref a :: st) M := v_putZ clX5 (f := 1) (by decide) rfl rfl rfl fl_X7_99 hd e k
theorem gt_X7_108 {x : Int32} (e : gI 5 2 a M = some x) (hd : decode cc pc = .ok (.getfield 108, 3)) (k : V G (RX7, cc, ret, fr, lo, nL, mn, hh) B (pc + 3) ls (.int x :: st) M) : V G (RX7, cc, ret, fr, lo, nL, mn, hh) B pc ls (.ref a :: st) M := v_getI clX5 (f := 2) (by decide) rfl fl_X7_108 hd e k
theorem pt_X7_108 {x : Int32} (e : pI 5 2 a x M = some M1) (hd : decode cc pc = .ok (.putfield 108, 3)) (k : V G (RX7, cc, ret, fr, lo, nL, mn, hh) B (pc + 3) ls st M1) : V G (RX7, cc, ret, fr, lo, nL, mn, hh) B pc ls (.int x :: .ref a :: st) M := v_putI clX5 (f := 2) (by decide) rfl rfl rfl fl_X7_108 hd e k
theorem gt_X7_114 {x : Int32} (e : gI 0 1 a M = some x) (hd : decode cc pc = .ok (.getfield 114, 3)) (k : V G (RX7, cc, ret, fr, lo, nL, mn, hh) B (pc + 3) ls (.int x :: st) M) : V G (RX7, cc, ret, fr, lo, nL, mn, hh) B pc ls (.ref a :: st) M := v_getI clX0 (f := 1) (by decide) rfl fl_X7_114 hd e k
theorem pt_X7_114 {x : Int32} (e : pZ 0 1 a x M = some M1) (hd : decode cc pc = .ok (.putfield 114, 3)) (k : V G (RX7, cc, ret, fr, lo, nL, mn, hh) B (pc + 3) ls st M1) : V G (RX7, cc, ret, fr, lo, nL, mn, hh) B pc ls (.int x :: .ref a :: st) M := v_putZ clX0 (f := 1) (by decide) rfl rfl rfl fl_X7_114 hd e k
theorem gt_X7_117 {x : Nat} (e : gR 0 3 a M = some x) (hd : decode cc pc = .ok (.getfield 117, 3)) (k : V G (RX7, cc, ret, fr, lo, nL, mn, hh) B (pc + 3) ls (.ref x :: st) M) : V G (RX7, cc, ret, fr, lo, nL, mn, hh) B pc ls (.ref a :: st) M := v_getR clX0 (f := 3) (by decide) rfl fl_X7_117 hd e k
theorem gt_X7_120 {x : Int32} (e : gI 0 2 a M = some x) (hd : decode cc pc = .ok (.getfield 120, 3)) (k : V G (RX7, cc, ret, fr, lo, nL, mn, hh) B (pc + 3) ls (.int x :: st) M) : V G (RX7, cc, ret, fr, lo, nL, mn, hh) B pc ls (.ref a :: st) M := v_getI clX0 (f := 2) (by decide) rfl fl_X7_120 hd e k
theorem pt_X7_120 {x : Int32} (e : pZ 0 2 a x M = some M1) (hd : decode cc pc = .ok (.putfield 120, 3)) (k : V G (RX7, cc, ret, fr, lo, nL, mn, hh) B (pc + 3) ls st M1) : V G (RX7, cc, ret, fr, lo, nL, mn, hh) B pc ls (.int x :: .ref a :: st) M := v_putZ clX0 (f := 2) (by decide) rfl rfl rfl fl_X7_120 hd e k
theorem gt_X7_138 {x : Nat} (e : gR 5 8 a M = some x) (hd : decode cc pc = .ok (.getfield 138, 3)) (k : V G (RX7, cc, ret, fr, lo, nL, mn, hh) B (pc + 3) ls (.ref x :: st) M) : V G (RX7, cc, ret, fr, lo, nL, mn, hh) B pc ls (.ref a :: st) M := v_getR clX5 (f := 8) (by decide) rfl fl_X7_138 hd e k
theorem gt_X7_142 {x : Int32} (e : gI 2 1 a M = some x) (hd : decode cc pc = .ok (.getfield 142, 3)) (k : V G (RX7, cc, ret, fr, lo, nL, mn, hh) B (pc + 3) ls (.int x :: st) M) : V G (RX7, cc, ret, fr, lo, nL, mn, hh) B pc ls (.ref a :: st) M := v_getI clX2 (f := 1) (by decide) rfl fl_X7_142 hd e k
theorem pt_X7_142 {x : Int32} (e : pI 2 1 a x M = some M1) (hd : decode cc pc = .ok (.putfield 142, 3)) (k : V G (RX7, cc, ret, fr, lo, nL, mn, hh) B (pc + 3) ls st M1) : V G (RX7, cc, ret, fr, lo, nL, mn, hh) B pc ls (.int x :: .ref a :: st) M := v_putI clX2 (f := 1) (by decide) rfl rfl rfl fl_X7_142 hd e k
theorem gt_X7_147 {x : Nat} (e : gR 2 0 a M = some x) (hd : decode cc pc = .ok (.getfield 147, 3)) (k : V G (RX7, cc, ret, fr, lo, nL, mn, hh) B (pc + 3) ls (.ref x :: st) M) : V G (RX7, cc, ret, fr, lo, nL, mn, hh) B pc ls (.ref a :: st) M := v_getR clX2 (f := 0) (by decide) rfl fl_X7_147 hd e k
theorem gt_X7_165 {x : Nat} (e : gR 6 0 a M = some x) (hd : decode cc pc = .ok (.getfield 165, 3)) (k : V G (RX7, cc, ret, fr, lo, nL, mn, hh) B (pc + 3) ls (.ref x :: st) M) : V G (RX7, cc, ret, fr, lo, nL, mn, hh) B pc ls (.ref a :: st) M := v_getR clX6 (f := 0) (by decide) rfl fl_X7_165 hd e k
theorem pt_X7_165 {x : Nat} (e : pR 6 0 a x M = some M1) (hd : decode cc pc = .ok (.putfield 165, 3)) (k : V G (RX7, cc, ret, fr, lo, nL, mn, hh) B (pc + 3) ls st M1) : V G (RX7, cc, ret, fr, lo, nL, mn, hh) B pc ls (.ref x :: .ref a :: st) M := v_putR clX6 (f := 0) (by decide) rfl rfl (Or.inl ⟨_, rfl⟩) rfl fl_X7_165 hd e k
theorem gt_X7_168 {x : Int32} (e : gI 6 1 a M = some x) (hd : decode cc pc = .ok (.getfield 168, 3)) (k : V G (RX7, cc, ret, fr, lo, nL, mn, hh) B (pc + 3) ls (.int x :: st) M) : V G (RX7, cc, ret, fr, lo, nL, mn, hh) B pc ls (.ref a :: st) M := v_getI clX6 (f := 1) (by decide) rfl fl_X7_168 hd e k
theorem pt_X7_168 {x : Int32} (e : pI 6 1 a x M = some M1) (hd : decode cc pc = .ok (.putfield 168, 3)) (k : V G (RX7, cc, ret, fr, lo, nL, mn, hh) B (pc + 3) ls st M1) : V G (RX7, cc, ret, fr, lo, nL, mn, hh) B pc ls (.int x :: .ref a :: st) M := v_putI clX6 (f := 1) (by decide) rfl rfl rfl fl_X7_168 hd e k
theorem gt_X7_171 {x : Int32} (e : gI 6 3 a M = some x) (hd : decode cc pc = .ok (.getfield 171, 3)) (k : V G (RX7, cc, ret, fr, lo, nL, mn, hh) B (pc + 3) ls (.int x :: st) M) : V G (RX7, cc, ret, fr, lo, nL, mn, hh) B pc ls (.ref a :: st) M := v_getI clX6 (f := 3) (by decide) rfl fl_X7_171 hd e k
theorem pt_X7_171 {x : Int32} (e : pI 6 3 a x M = some M1) (hd : decode cc pc = .ok (.putfield 171, 3)) (k : V G (RX7, cc, ret, fr, lo, nL, mn, hh) B (pc + 3) ls st M1) : V G (RX7, cc, ret, fr, lo, nL, mn, hh) B pc ls (.int x :: .ref a :: st) M := v_putI clX6 (f := 3) (by decide) rfl rfl rfl fl_X7_171 hd e k
theorem gt_X7_192 {x : Nat} (e : gR 6 2 a M = some x) (hd : decode cc pc = .ok (.getfield 192, 3)) (k : V G (RX7, cc, ret, fr, lo, nL, mn, hh) B (pc + 3) ls (.ref x :: st) M) : V G (RX7, cc, ret, fr, lo, nL, mn, hh) B pc ls (.ref a :: st) M := v_getR clX6 (f := 2) (by decide) rfl fl_X7_192 hd e k
theorem gt_X7_195 {x : Nat} (e : gR 1 0 a M = some x) (hd : decode cc pc = .ok (.getfield 195, 3)) (k : V G (RX7, cc, ret, fr, lo, nL, mn, hh) B (pc + 3) ls (.ref x :: st) M) : V G (RX7, cc, ret, fr, lo, nL, mn, hh) B pc ls (.ref a :: st) M := v_getR clX1 (f := 0) (by decide) rfl fl_X7_195 hd e k
theorem pt_X7_195 {x : Nat} (e : pR 1 0 a x M = some M1) (hd : decode cc pc = .ok (.putfield 195, 3)) (k : V G (RX7, cc, ret, fr, lo, nL, mn, hh) B (pc + 3) ls st M1) : V G (RX7, cc, ret, fr, lo, nL, mn, hh) B pc ls (.ref x :: .ref a :: st) M := v_putR clX1 (f := 0) (by decide) rfl rfl (Or.inl ⟨_, rfl⟩) rfl fl_X7_195 hd e k
theorem gt_X7_207 {x : Int32} (e : gI 1 1 a M = some x) (hd : decode cc pc = .ok (.getfield 207, 3)) (k : V G (RX7, cc, ret, fr, lo, nL, mn, hh) B (pc + 3) ls (.int x :: st) M) : V G (RX7, cc, ret, fr, lo, nL, mn, hh) B pc ls (.ref a :: st) M := v_getI clX1 (f := 1) (by decide) rfl fl_X7_207 hd e k
theorem pt_X7_207 {x : Int32} (e : pI 1 1 a x M = some M1) (hd : decode cc pc = .ok (.putfield 207, 3)) (k : V G (RX7, cc, ret, fr, lo, nL, mn, hh) B (pc + 3) ls st M1) : V G (RX7, cc, ret, fr, lo, nL, mn, hh) B pc ls (.int x :: .ref a :: st) M := v_putI clX1 (f := 1) (by decide) rfl rfl rfl fl_X7_207 hd e k
theorem gt_X7_228 {x : Int32} (e : gI 1 2 a M = some x) (hd : decode cc pc = .ok (.getfield 228, 3)) (k : V G (RX7, cc, ret, fr, lo, nL, mn, hh) B (pc + 3) ls (.int x :: st) M) : V G (RX7, cc, ret, fr, lo, nL, mn, hh) B pc ls (.ref a :: st) M := v_getI clX1 (f := 2) (by decide) rfl fl_X7_228 hd e k
theorem pt_X7_228 {x : Int32} (e : pI 1 2 a x M = some M1) (hd : decode cc pc = .ok (.putfield 228, 3)) (k : V G (RX7, cc, ret, fr, lo, nL, mn, hh) B (pc + 3) ls st M1) : V G (RX7, cc, ret, fr, lo, nL, mn, hh) B pc ls (.int x :: .ref a :: st) M := v_putI clX1 (f := 2) (by decide) rfl rfl rfl fl_X7_228 hd e k
theorem gt_X7_241 {x : Int32} (e : gI 1 3 a M = some x) (hd : decode cc pc = .ok (.getfield 241, 3)) (k : V G (RX7, cc, ret, fr, lo, nL, mn, hh) B (pc + 3) ls (.int x :: st) M) : V G (RX7, cc, ret, fr, lo, nL, mn, hh) B pc ls (.ref a :: st) M := v_getI clX1 (f := 3) (by decide) rfl fl_X7_241 hd e k
theorem pt_X7_241 {x : Int32} (e : pI 1 3 a x M = some M1) (hd : decode cc pc = .ok (.putfield 241, 3)) (k : V G (RX7, cc, ret, fr, lo, nL, mn, hh) B (pc + 3) ls st M1) : V G (RX7, cc, ret, fr, lo, nL, mn, hh) B pc ls (.int x :: .ref a :: st) M := v_putI clX1 (f := 3) (by decide) rfl rfl rfl fl_X7_241 hd e k
theorem gt_X7_248 {x : Nat} (e : gR 5 9 a M = some x) (hd : decode cc pc = .ok (.getfield 248, 3)) (k : V G (RX7, cc, ret, fr, lo, nL, mn, hh) B (pc + 3) ls (.ref x :: st) M) : V G (RX7, cc, ret, fr, lo, nL, mn, hh) B pc ls (.ref a :: st) M := v_getR clX5 (f := 9) (by decide) rfl fl_X7_248 hd e k
theorem gt_X7_268 {x : Int32} (e : gI 5 3 a M = some x) (hd : decode cc pc = .ok (.getfield 268, 3)) (k : V G (RX7, cc, ret, fr, lo, nL, mn, hh) B (pc + 3) ls (.int x :: st) M) : V G (RX7, cc, ret, fr, lo, nL, mn, hh) B pc ls (.ref a :: st) M := v_getI clX5 (f := 3) (by decide) rfl fl_X7_268 hd e k
theorem pt_X7_268 {x : Int32} (e : pI 5 3 a x M = some M1) (hd : decode cc pc = .ok (.putfield 268, 3)) (k : V G (RX7, cc, ret, fr, lo, nL, mn, hh) B (pc + 3) ls st M1) : V G (RX7, cc, ret, fr, lo, nL, mn, hh) B pc ls (.int x :: .ref a :: st) M := v_putI clX5 (f := 3) (by decide) rfl rfl rfl fl_X7_268 hd e k
theorem gt_X7_271 {x : Int32} (e : gI 1 4 a M = some x) (hd : decode cc pc = .ok (.getfield 271, 3)) (k : V G (RX7, cc, ret, fr, lo, nL, mn, hh) B (pc + 3) ls (.int x :: st) M) : V G (RX7, cc, ret, fr, lo, nL, mn, hh) B pc ls (.ref a :: st) M := v_getI clX1 (f := 4) (by decide) rfl fl_X7_271 hd e k
theorem pt_X7_271 {x : Int32} (e : pI 1 4 a x M = some M1) (hd : decode cc pc = .ok (.putfield 271, 3)) (k : V G (RX7, cc, ret, fr, lo, nL, mn, hh) B (pc + 3) ls st M1) : V G (RX7, cc, ret, fr, lo, nL, mn, hh) B pc ls (.int x :: .ref a :: st) M := v_putI clX1 (f := 4) (by decide) rfl rfl rfl fl_X7_271 hd e k
theorem gt_X7_274 {x : Int32} (e : gI 1 5 a M = some x) (hd : decode cc pc = .ok (.getfield 274, 3)) (k : V G (RX7, cc, ret, fr, lo, nL, mn, hh) B (pc + 3) ls (.int x :: st) M) : V G (RX7, cc, ret, fr, lo, nL, mn, hh) B pc ls (.ref a :: st) M := v_getI clX1 (f := 5) (by decide) rfl fl_X7_274 hd e k
theorem pt_X7_274 {x : Int32} (e : pI 1 5 a x M = some M1) (hd : decode cc pc = .ok (.putfield 274, 3)) (k : V G (RX7, cc, ret, fr, lo, nL, mn, hh) B (pc + 3) ls st M1) : V G (RX7, cc, ret, fr, lo, nL, mn, hh) B pc ls (.int x :: .ref a :: st) M := v_putI clX1 (f := 5) (by decide) rfl rfl rfl fl_X7_274 hd e k
theorem gt_X7_286 {x : Int32} (e : gI 1 6 a M = some x) (hd : decode cc pc = .ok (.getfield 286, 3)) (k : V G (RX7, cc, ret, fr, lo, nL, mn, hh) B (pc + 3) ls (.int x :: st) M) : V G (RX7, cc, ret, fr, lo, nL, mn, hh) B pc ls (.ref a :: st) M := v_getI clX1 (f := 6) (by decide) rfl fl_X7_286 hd e k
theorem pt_X7_286 {x : Int32} (e : pI 1 6 a x M = some M1) (hd : decode cc pc = .ok (.putfield 286, 3)) (k : V G (RX7, cc, ret, fr, lo, nL, mn, hh) B (pc + 3) ls st M1) : V G (RX7, cc, ret, fr, lo, nL, mn, hh) B pc ls (.int x :: .ref a :: st) M := v_putI clX1 (f := 6) (by decide) rfl rfl rfl fl_X7_286 hd e k
theorem gt_X7_300 {x : Int32} (e : gI 3 0 a M = some x) (hd : decode cc pc = .ok (.getfield 300, 3)) (k : V G (RX7, cc, ret, fr, lo, nL, mn, hh) B (pc + 3) ls (.int x :: st) M) : V G (RX7, cc, ret, fr, lo, nL, mn, hh) B pc ls (.ref a :: st) M := v_getI clX3 (f := 0) (by decide) rfl fl_X7_300 hd e k
theorem pt_X7_300 {x : Int32} (e : pI 3 0 a x M = some M1) (hd : decode cc pc = .ok (.putfield 300, 3)) (k : V G (RX7, cc, ret, fr, lo, nL, mn, hh) B (pc + 3) ls st M1) : V G (RX7, cc, ret, fr, lo, nL, mn, hh) B pc ls (.int x :: .ref a :: st) M := v_putI clX3 (f := 0) (by decide) rfl rfl rfl fl_X7_300 hd e k
theorem gt_X7_305 {x : Int32} (e : gI 3 1 a M = some x) (hd : decode cc pc = .ok (.getfield 305, 3)) (k : V G (RX7, cc, ret, fr, lo, nL, mn, hh) B (pc + 3) ls (.int x :: st) M) : V G (RX7, cc, ret, fr, lo, nL, mn, hh) B pc ls (.ref a :: st) M := v_getI clX3 (f := 1) (by decide) rfl fl_X7_305 hd e k
theorem pt_X7_305 {x : Int32} (e : pI 3 1 a x M = some M1) (hd : decode cc pc = .ok (.putfield 305, 3)) (k : V G (RX7, cc, ret, fr, lo, nL, mn, hh) B (pc + 3) ls st M1) : V G (RX7, cc, ret, fr, lo, nL, mn, hh) B pc ls (.int x :: .ref a :: st) M := v_putI clX3 (f := 1) (by decide) rfl rfl rfl fl_X7_305 hd e k
theorem gt_X7_306 {x : Int32} (e : gI 3 2 a M = some x) (hd : decode cc pc = .ok (.getfield 306, 3)) (k : V G (RX7, cc, ret, fr, lo, nL, mn, hh) B (pc + 3) ls (.int x :: st) M) : V G (RX7, cc, ret, fr, lo, nL, mn, hh) B pc ls (.ref a :: st) M := v_getI clX3 (f := 2) (by decide) rfl fl_X7_306 hd e k
theorem pt_X7_306 {x : Int32} (e : pI 3 2 a x M = some M1) (hd : decode cc pc = .ok (.putfield 306, 3)) (k : V G (RX7, cc, ret, fr, lo, nL, mn, hh) B (pc + 3) ls st M1) : V G (RX7, cc, ret, fr, lo, nL, mn, hh) B pc ls (.int x :: .ref a :: st) M := v_putI clX3 (f := 2) (by decide) rfl rfl rfl fl_X7_306 hd e k
theorem gt_X7_307 {x : Int32} (e : gI 3 3 a M = some x) (hd : decode cc pc = .ok (.getfield 307, 3)) (k : V G (RX7, cc, ret, fr, lo, nL, mn, hh) B (pc + 3) ls (.int x :: st) M) : V G (RX7, cc, ret, fr, lo, nL, mn, hh) B pc ls (.ref a :: st) M := v_getI clX3 (f := 3) (by decide) rfl fl_X7_307 hd e k
theorem pt_X7_307 {x : Int32} (e : pI 3 3 a x M = some M1) (hd : decode cc pc = .ok (.putfield 307, 3)) (k : V G (RX7, cc, ret, fr, lo, nL, mn, hh) B (pc + 3) ls st M1) : V G (RX7, cc, ret, fr, lo, nL, mn, hh) B pc ls (.int x :: .ref a :: st) M := v_putI clX3 (f := 3) (by decide) rfl rfl rfl fl_X7_307 hd e k
theorem gt_X7_308 {x : Int32} (e : gI 3 4 a M = some x) (hd : decode cc pc = .ok (.getfield 308, 3)) (k : V G (RX7, cc, ret, fr, lo, nL, mn, hh) B (pc + 3) ls (.int x :: st) M) : V G (RX7, cc, ret, fr, lo, nL, mn, hh) B pc ls (.ref a :: st) M := v_getI clX3 (f := 4) (by decide) rfl fl_X7_308 hd e k
theorem pt_X7_308 {x : Int32} (e : pI 3 4 a x M = some M1) (hd : decode cc pc = .ok (.putfield 308, 3)) (k : V G (RX7, cc, ret, fr, lo, nL, mn, hh) B (pc + 3) ls st M1) : V G (RX7, cc, ret, fr, lo, nL, mn, hh) B pc ls (.int x :: .ref a :: st) M := v_putI clX3 (f := 4) (by decide) rfl rfl rfl fl_X7_308 hd e k
theorem gt_X7_309 {x : Nat} (e : gR 3 5 a M = some x) (hd : decode cc pc = .ok (.getfield 309, 3)) (k : V G (RX7, cc, ret, fr, lo, nL, mn, hh) B (pc + 3) ls (.ref x :: st) M) : V G (RX7, cc, ret, fr, lo, nL, mn, hh) B pc ls (.ref a :: st) M := v_getR clX3 (f := 5) (by decide) rfl fl_X7_309 hd e k
theorem pt_X7_309 {x : Nat} (e : pR 3 5 a x M = some M1) (hd : decode cc pc = .ok (.putfield 309, 3)) (k : V G (RX7, cc, ret, fr, lo, nL, mn, hh) B (pc + 3) ls st M1) : V G (RX7, cc, ret, fr, lo, nL, mn, hh) B pc ls (.ref x :: .ref a :: st) M := v_putR clX3 (f := 5) (by decide) rfl rfl (Or.inl ⟨_, rfl⟩) rfl fl_X7_309 hd e k
theorem gt_X7_310 {x : Int32} (e : gI 0 7 a M = some x) (hd : decode cc pc = .ok (.getfield 310, 3)) (k : V G (RX7, cc, ret, fr, lo, nL, mn, hh) B (pc + 3) ls (.int x :: st) M) : V G (RX7, cc, ret, fr, lo, nL, mn, hh) B pc ls (.ref a :: st) M := v_getI clX0 (f := 7) (by decide) rfl fl_X7_310 hd e k
theorem pt_X7_310 {x : Int32} (e : pI 0 7 a x M = some M1) (hd : decode cc pc = .ok (.putfield 310, 3)) (k : V G (RX7, cc, ret, fr, lo, nL, mn, hh) B (pc + 3) ls st M1) : V G (RX7, cc, ret, fr, lo, nL, mn, hh) B pc ls (.int x :: .ref a :: st) M := v_putI clX0 (f := 7) (by decide) rfl rfl rfl fl_X7_310 hd e k
theorem gt_X7_313 {x : Int32} (e : gI 4 2 a M = some x) (hd : decode cc pc = .ok (.getfield 313, 3)) (k : V G (RX7, cc, ret, fr, lo, nL, mn, hh) B (pc + 3) ls (.int x :: st) M) : V G (RX7, cc, ret, fr, lo, nL, mn, hh) B pc ls (.ref a :: st) M := v_getI clX4 (f := 2) (by decide) rfl fl_X7_313 hd e k
theorem pt_X7_313 {x : Int32} (e : pI 4 2 a x M = some M1) (hd : decode cc pc = .ok (.putfield 313, 3)) (k : V G (RX7, cc, ret, fr, lo, nL, mn, hh) B (pc + 3) ls st M1) : V G (RX7, cc, ret, fr, lo, nL, mn, hh) B pc ls (.int x :: .ref a :: st) M := v_putI clX4 (f := 2) (by decide) rfl rfl rfl fl_X7_313 hd e k
theorem gt_X7_317 {x : UInt32} (e : gF 0 6 a M = some x) (hd : decode cc pc = .ok (.getfield 317, 3)) (k : V G (RX7, cc, ret, fr, lo, nL, mn, hh) B (pc + 3) ls (.float x :: st) M) : V G (RX7, cc, ret, fr, lo, nL, mn, hh) B pc ls (.ref a :: st) M := v_getF clX0 (f := 6) (by decide) rfl fl_X7_317 hd e k
theorem pt_X7_317 {x : UInt32} (e : pF 0 6 a x M = some M1) (hd : decode cc pc = .ok (.putfield 317, 3)) (k : V G (RX7, cc, ret, fr, lo, nL, mn, hh) B (pc + 3) ls st M1) : V G (RX7, cc, ret, fr, lo, nL, mn, hh) B pc ls (.float x :: .ref a :: st) M := v_putF clX0 (f := 6) (by decide) rfl rfl rfl fl_X7_317 hd e k
theorem gt_X7_326 {x : Int32} (e : gI 5 0 a M = some x) (hd : decode cc pc = .ok (.getfield 326, 3)) (k : V G (RX7, cc, ret, fr, lo, nL, mn, hh) B (pc + 3) ls (.int x :: st) M) : V G (RX7, cc, ret, fr, lo, nL, mn, hh) B pc ls (.ref a :: st) M := v_getI clX5 (f := 0) (by decide) rfl fl_X7_326 hd e k
theorem pt_X7_326 {x : Int32} (e : pZ 5 0 a x M = some M1) (hd : decode cc pc = .ok (.putfield 326, 3)) (k : V G (RX7, cc, ret, fr, lo, nL, mn, hh) B (pc + 3) ls st M1) : V G (RX7, cc, ret, fr, lo, nL, mn, hh) B pc ls (.int x :: .ref a :: st) M := v_putZ clX5 (f := 0) (by decide) rfl rfl rfl fl_X7_326 hd e k
theorem gt_X8_7 {x : Nat} (e : gR 8 0 a M = some x) (hd : decode cc pc = .ok (.getfield 7, 3)) (k : V G (RX8, cc, ret, fr, lo, nL, mn, hh) B (pc + 3) ls (.ref x :: st) M) : V G (RX8, cc, ret, fr, lo, nL, mn, hh) B pc ls (.ref a :: st) M := v_getR clX8 (f := 0) (by decide) rfl fl_X8_7 hd e k
theorem pt_X8_7 {x : Nat} (e : pR 8 0 a x M = some M1) (hd : decode cc pc = .ok (.putfield 7, 3)) (k : V G (RX8, cc, ret, fr, lo, nL, mn, hh) B (pc + 3) ls st M1) : V G (RX8, cc, ret, fr, lo, nL, mn, hh) B pc ls (.ref x :: .ref a :: st) M := v_putR clX8 (f := 0) (by decide) rfl rfl (Or.inl ⟨_, rfl⟩) rfl fl_X8_7 hd e k
theorem gt_X8_13 {x : Int32} (e : gI 8 1 a M = some x) (hd : decode cc pc = .ok (.getfield 13, 3)) (k : V G (RX8, cc, ret, fr, lo, nL, mn, hh) B (pc + 3) ls (.int x :: st) M) : V G (RX8, cc, ret, fr, lo, nL, mn, hh) B pc ls (.ref a :: st) M := v_getI clX8 (f := 1) (by decide) rfl fl_X8_13 hd e k
theorem pt_X8_13 {x : Int32} (e : pI 8 1 a x M = some M1) (hd : decode cc pc = .ok (.putfield 13, 3)) (k : V G (RX8, cc, ret, fr, lo, nL, mn, hh) B (pc + 3) ls st M1) : V G (RX8, cc, ret, fr, lo, nL, mn, hh) B pc ls (.int x :: .ref a :: st) M := v_putI clX8 (f := 1) (by decide) rfl rfl rfl fl_X8_13 hd e k
theorem gt_X8_17 {x : Int32} (e : gI 8 2 a M = some x) (hd : decode cc pc = .ok (.getfield 17, 3)) (k : V G (RX8, cc, ret, fr, lo, nL, mn, hh) B (pc + 3) ls (.int x :: st) M) : V G (RX8, cc, ret, fr, lo, nL, mn, hh) B pc ls (.ref a :: st) M := v_getI clX8 (f := 2) (by decide) rfl fl_X8_17 hd e k
theorem pt_X8_17 {x : Int32} (e : pI 8 2 a x M = some M1) (hd : decode cc pc = .ok (.putfield 17, 3)) (k : V G (RX8, cc, ret, fr, lo, nL, mn, hh) B (pc + 3) ls st M1) : V G (RX8, cc, ret, fr, lo, nL, mn, hh) B pc ls (.int x :: .ref a :: st) M := v_putI clX8 (f := 2) (by decide) rfl rfl rfl fl_X8_17 hd e k
theorem gt_X8_20 {x : Int32} (e : gI 8 3 a M = some x) (hd : decode cc pc = .ok (.getfield 20, 3)) (k : V G (RX8, cc, ret, fr, lo, nL, mn, hh) B (pc + 3) ls (.int x :: st) M) : V G (RX8, cc, ret, fr, lo, nL, mn, hh) B pc ls (.ref a :: st) M := v_getI clX8 (f := 3) (by decide) rfl fl_X8_20 hd e k
theorem pt_X8_20 {x : Int32} (e : pI 8 3 a x M = some M1) (hd : decode cc pc = .ok (.putfield 20, 3)) (k : V G (RX8, cc, ret, fr, lo, nL, mn, hh) B (pc + 3) ls st M1) : V G (RX8, cc, ret, fr, lo, nL, mn, hh) B pc ls (.int x :: .ref a :: st) M := v_putI clX8 (f := 3) (by decide) rfl rfl rfl fl_X8_20 hd e k
theorem gt_X9_11 {x : Nat} (e : gR 9 0 a M = some x) (hd : decode cc pc = .ok (.getfield 11, 3)) (k : V G (RX9, cc, ret, fr, lo, nL, mn, hh) B (pc + 3) ls (.ref x :: st) M) : V G (RX9, cc, ret, fr, lo, nL, mn, hh) B pc ls (.ref a :: st) M := v_getR clX9 (f := 0) (by decide) rfl fl_X9_11 hd e k
theorem pt_X9_11 {x : Nat} (e : pR 9 0 a x M = some M1) (hd : decode cc pc = .ok (.putfield 11, 3)) (k : V G (RX9, cc, ret, fr, lo, nL, "<init>", hh) B (pc + 3) ls st M1) : V G (RX9, cc, ret, fr, lo, nL, "<init>", hh) B pc ls (.ref x :: .ref a :: st) M := v_putRX clX9 (f := 0) (by decide) rfl rfl (Or.inr ⟨_, rfl⟩) rfl rfl rfl fl_X9_11 hd e k
theorem gt_X9_17 {x : Nat} (e : gR 9 1 a M = some x) (hd : decode cc pc = .ok (.getfield 17, 3)) (k : V G (RX9, cc, ret, fr, lo, nL, mn, hh) B (pc + 3) ls (.ref x :: st) M) : V G (RX9, cc, ret, fr, lo, nL, mn, hh) B pc ls (.ref a :: st) M := v_getR clX9 (f := 1) (by decide) rfl fl_X9_17 hd e k
theorem pt_X9_17 {x : Nat} (e : pR 9 1 a x M = some M1) (hd : decode cc pc = .ok (.putfield 17, 3)) (k : V G (RX9, cc, ret, fr, lo, nL, "<init>", hh) B (pc + 3) ls st M1) : V G (RX9, cc, ret, fr, lo, nL, "<init>", hh) B pc ls (.ref x :: .ref a :: st) M := v_putRX clX9 (f := 1) (by decide) rfl rfl (Or.inr ⟨_, rfl⟩) rfl rfl rfl fl_X9_17 hd e k
theorem gt_X9_21 {x : Int32} (e : gI 9 2 a M = some x) (hd : decode cc pc = .ok (.getfield 21, 3)) (k : V G (RX9, cc, ret, fr, lo, nL, mn, hh) B (pc + 3) ls (.int x :: st) M) : V G (RX9, cc, ret, fr, lo, nL, mn, hh) B pc ls (.ref a :: st) M := v_getI clX9 (f := 2) (by decide) rfl fl_X9_21 hd e k
theorem pt_X9_21 {x : Int32} (e : pI 9 2 a x M = some M1) (hd : decode cc pc = .ok (.putfield 21, 3)) (k : V G (RX9, cc, ret, fr, lo, nL, mn, hh) B (pc + 3) ls st M1) : V G (RX9, cc, ret, fr, lo, nL, mn, hh) B pc ls (.int x :: .ref a :: st) M := v_putI clX9 (f := 2) (by decide) rfl rfl rfl fl_X9_21 hd e k
theorem gt_X10_18 {x : Nat} (e : gR 10 0 a M = some x) (hd : decode cc pc = .ok (.getfield 18, 3)) (k : V G (RX10, cc, ret, fr, lo, nL, mn, hh) B (pc + 3) ls (.ref x :: st) M) : V G (RX10, cc, ret, fr, lo, nL, mn, hh) B pc ls (.ref a :: st) M := v_getR clX10 (f := 0) (by decide) rfl fl_X10_18 hd e k
theorem pt_X10_18 {x : Nat} (e : pR 10 0 a x M = some M1) (hd : decode cc pc = .ok (.putfield 18, 3)) (k : V G (RX10, cc, ret, fr, lo, nL, "<init>", hh) B (pc + 3) ls st M1) : V G (RX10, cc, ret, fr, lo, nL, "<init>", hh) B pc ls (.ref x :: .ref a :: st) M := v_putRX clX10 (f := 0) (by decide) rfl rfl (Or.inr ⟨_, rfl⟩) rfl rfl rfl fl_X10_18 hd e k
theorem gt_X10_24 {x : Nat} (e : gR 10 1 a M = some x) (hd : decode cc pc = .ok (.getfield 24, 3)) (k : V G (RX10, cc, ret, fr, lo, nL, mn, hh) B (pc + 3) ls (.ref x :: st) M) : V G (RX10, cc, ret, fr, lo, nL, mn, hh) B pc ls (.ref a :: st) M := v_getR clX10 (f := 1) (by decide) rfl fl_X10_24 hd e k
theorem pt_X10_24 {x : Nat} (e : pR 10 1 a x M = some M1) (hd : decode cc pc = .ok (.putfield 24, 3)) (k : V G (RX10, cc, ret, fr, lo, nL, "<init>", hh) B (pc + 3) ls st M1) : V G (RX10, cc, ret, fr, lo, nL, "<init>", hh) B pc ls (.ref x :: .ref a :: st) M := v_putRX clX10 (f := 1) (by decide) rfl rfl (Or.inr ⟨_, rfl⟩) rfl rfl rfl fl_X10_24 hd e k
theorem gt_X10_28 {x : Int32} (e : gI 10 2 a M = some x) (hd : decode cc pc = .ok (.getfield 28, 3)) (k : V G (RX10, cc, ret, fr, lo, nL, mn, hh) B (pc + 3) ls (.int x :: st) M) : V G (RX10, cc, ret, fr, lo, nL, mn, hh) B pc ls (.ref a :: st) M := v_getI clX10 (f := 2) (by decide) rfl fl_X10_28 hd e k
theorem pt_X10_28 {x : Int32} (e : pI 10 2 a x M = some M1) (hd : decode cc pc = .ok (.putfield 28, 3)) (k : V G (RX10, cc, ret, fr, lo, nL, "<init>", hh) B (pc + 3) ls st M1) : V G (RX10, cc, ret, fr, lo, nL, "<init>", hh) B pc ls (.int x :: .ref a :: st) M := v_putIX clX10 (f := 2) (by decide) rfl rfl rfl rfl rfl fl_X10_28 hd e k
theorem gt_X10_32 {x : Int32} (e : gI 10 3 a M = some x) (hd : decode cc pc = .ok (.getfield 32, 3)) (k : V G (RX10, cc, ret, fr, lo, nL, mn, hh) B (pc + 3) ls (.int x :: st) M) : V G (RX10, cc, ret, fr, lo, nL, mn, hh) B pc ls (.ref a :: st) M := v_getI clX10 (f := 3) (by decide) rfl fl_X10_32 hd e k
theorem pt_X10_32 {x : Int32} (e : pZ 10 3 a x M = some M1) (hd : decode cc pc = .ok (.putfield 32, 3)) (k : V G (RX10, cc, ret, fr, lo, nL, "<init>", hh) B (pc + 3) ls st M1) : V G (RX10, cc, ret, fr, lo, nL, "<init>", hh) B pc ls (.int x :: .ref a :: st) M := v_putZX clX10 (f := 3) (by decide) rfl rfl rfl rfl rfl fl_X10_32 hd e k
theorem gt_X10_36 {x : Int32} (e : gI 10 4 a M = some x) (hd : decode cc pc = .ok (.getfield 36, 3)) (k : V G (RX10, cc, ret, fr, lo, nL, mn, hh) B (pc + 3) ls (.int x :: st) M) : V G (RX10, cc, ret, fr, lo, nL, mn, hh) B pc ls (.ref a :: st) M := v_getI clX10 (f := 4) (by decide) rfl fl_X10_36 hd e k
theorem pt_X10_36 {x : Int32} (e : pI 10 4 a x M = some M1) (hd : decode cc pc = .ok (.putfield 36, 3)) (k : V G (RX10, cc, ret, fr, lo, nL, "<init>", hh) B (pc + 3) ls st M1) : V G (RX10, cc, ret, fr, lo, nL, "<init>", hh) B pc ls (.int x :: .ref a :: st) M := v_putIX clX10 (f := 4) (by decide) rfl rfl rfl rfl rfl fl_X10_36 hd e k
theorem cw_X11_7 : Cond.classLink RX11 7 RX10 ∈ GW := gwi 58 (by decide +kernel) (by decide +kernel)
theorem cw_X11_22 : Cond.classLink RX11 22 RX3 ∈ GW := gwi 90 (by decide +kernel) (by decide +kernel)
theorem cw_X11_31 : Cond.classLink RX11 31 RX1 ∈ GW := gwi 122 (by decide +kernel) (by decide +kernel)
theorem cw_X11_38 : Cond.classLink RX11 38 RX7 ∈ GW := gwi 164 (by decide +kernel) (by decide +kernel)
theorem cw_X0_7 : Cond.classLink RX0 7 RX1 ∈ GW := gwi 177 (by decide +kernel) (by decide +kernel)
theorem cw_X0_18 : Cond.classLink RX0 18 RX4 ∈ GW := gwi 179 (by decide +kernel) (by decide +kernel)
theorem cw_X0_25 : Cond.classLink RX0 25 RX5 ∈ GW := gwi 200 (by decide +kernel) (by decide +kernel)
theorem cw_X2_13 : Cond.classLink RX2 13 RX1 ∈ GW := gwi 242 (by decide +kernel) (by decide +kernel)
theorem cw_X4_9 : Cond.classLink RX4 9 RX3 ∈ GW := gwi 185 (by decide +kernel) (by decide +kernel)
theorem cw_X5_15 : Cond.classLink RX5 15 RX8 ∈ GW := gwi 206 (by decide +kernel) (by decide +kernel)
theorem cw_X5_24 : Cond.classLink RX5 24 RX2 ∈ GW := gwi 235 (by decide +kernel) (by decide +kernel)
theorem cw_X7_15 : Cond.classLink RX7 15 RX0 ∈ GW := gwi 170 (by decide +kernel) (by decide +kernel)
theorem cw_X7_24 : Cond.classLink RX7 24 RX6 ∈ GW := gwi 341 (by decide +kernel) (by decide +kernel)
theorem cw_X7_31 : Cond.classLink RX7 31 RX1 ∈ GW := gwi 366 (by decide +kernel) (by decide +kernel)
theorem cw_X7_48 : Cond.classLink RX7 48 RX9 ∈ GW := gwi 370 (by decide +kernel) (by decide +kernel)
theorem cw_X9_9 : Cond.classLink RX9 9 RX10 ∈ GW := gwi 376 (by decide +kernel) (by decide +kernel)
theorem cw_L_15 : Cond.classLink RL 15 RX11 ∈ GW := gwi 50 (by decide +kernel) (by decide +kernel)
theorem iw_X0 : Cond.instantiable RX0 8 ∈ GW := gwi 172 (by decide +kernel) (by decide +kernel)
theorem nw_X0 : Cond.initialized RX0 ∈ GW := gwi 33 (by decide +kernel) (by decide +kernel)
theorem iw_X1 : Cond.instantiable RX1 7 ∈ GW := gwi 123 (by decide +kernel) (by decide +kernel)
theorem nw_X1 : Cond.initialized RX1 ∈ GW := gwi 31 (by decide +kernel) (by decide +kernel)
theorem iw_X2 : Cond.instantiable RX2 2 ∈ GW := gwi 236 (by decide +kernel) (by decide +kernel)
theorem nw_X2 : Cond.initialized RX2 ∈ GW := gwi 37 (by decide +kernel) (by decide +kernel)
theorem iw_X3 : Cond.instantiable RX3 6 ∈ GW := gwi 91 (by decide +kernel) (by decide +kernel)
theorem nw_X3 : Cond.initialized RX3 ∈ GW := gwi 30 (by decide +kernel) (by decide +kernel)
theorem iw_X4 : Cond.instantiable RX4 3 ∈ GW := gwi 180 (by decide +kernel) (by decide +kernel)
theorem nw_X4 : Cond.initialized RX4 ∈ GW := gwi 34 (by decide +kernel) (by decide +kernel)
theorem iw_X5 : Cond.instantiable RX5 10 ∈ GW := gwi 201 (by decide +kernel) (by decide +kernel)
theorem nw_X5 : Cond.initialized RX5 ∈ GW := gwi 35 (by decide +kernel) (by decide +kernel)
theorem iw_X6 : Cond.instantiable RX6 4 ∈ GW := gwi 343 (by decide +kernel) (by decide +kernel)
theorem nw_X6 : Cond.initialized RX6 ∈ GW := gwi 38 (by decide +kernel) (by decide +kernel)
theorem iw_X7 : Cond.instantiable RX7 11 ∈ GW := gwi 165 (by decide +kernel) (by decide +kernel)
theorem nw_X7 : Cond.initialized RX7 ∈ GW := gwi 32 (by decide +kernel) (by decide +kernel)
theorem iw_X8 : Cond.instantiable RX8 4 ∈ GW := gwi 208 (by decide +kernel) (by decide +kernel)
theorem nw_X8 : Cond.initialized RX8 ∈ GW := gwi 36 (by decide +kernel) (by decide +kernel)
theorem iw_X9 : Cond.instantiable RX9 3 ∈ GW := gwi 371 (by decide +kernel) (by decide +kernel)
theorem nw_X9 : Cond.initialized RX9 ∈ GW := gwi 39 (by decide +kernel) (by decide +kernel)
theorem iw_X10 : Cond.instantiable RX10 5 ∈ GW := gwi 59 (by decide +kernel) (by decide +kernel)
theorem nw_X10 : Cond.initialized RX10 ∈ GW := gwi 28 (by decide +kernel) (by decide +kernel)
theorem iw_X11 : Cond.instantiable RX11 9 ∈ GW := gwi 51 (by decide +kernel) (by decide +kernel)
theorem nw_X11 : Cond.initialized RX11 ∈ GW := gwi 27 (by decide +kernel) (by decide +kernel)
theorem nx_X11_7 {x : Nat} (e : nO 10 5 M = some (x, M1)) (hd : decode cc pc = .ok (.new 7, 3)) (k : V G (RX11, cc, ret, fr, lo, nL, mn, hh) B (pc + 3) ls (.ref x :: st) M1) : V G (RX11, cc, ret, fr, lo, nL, mn, hh) B pc ls st M := v_new clX10 dvX10 cw_X11_7 iw_X10 nw_X10 hd e k
theorem na_X11_7 {x : Nat} {n : Int32} (e : nA 23 n M = some (x, M1)) (hd : decode cc pc = .ok (.anewarray 7, 3)) (k : V G (RX11, cc, ret, fr, lo, nL, mn, hh) B (pc + 3) ls (.ref x :: st) M1) : V G (RX11, cc, ret, fr, lo, nL, mn, hh) B pc ls (.int n :: st) M := v_newq (t0 := 10) hd (by decide) (by decide) rfl cw_X11_7 (bwi 377 (by decide +kernel) (by decide +kernel)) e k
theorem nx_X11_22 {x : Nat} (e : nO 3 6 M = some (x, M1)) (hd : decode cc pc = .ok (.new 22, 3)) (k : V G (RX11, cc, ret, fr, lo, nL, mn, hh) B (pc + 3) ls (.ref x :: st) M1) : V G (RX11, cc, ret, fr, lo, nL, mn, hh) B pc ls st M := v_new clX3 dvX3 cw_X11_22 iw_X3 nw_X3 hd e k
theorem na_X11_22 {x : Nat} {n : Int32} (e : nA 20 n M = some (x, M1)) (hd : decode cc pc = .ok (.anewarray 22, 3)) (k : V G (RX11, cc, ret, fr, lo, nL, mn, hh) B (pc + 3) ls (.ref x :: st) M1) : V G (RX11, cc, ret, fr, lo, nL, mn, hh) B pc ls (.int n :: st) M := v_newq (t0 := 7) hd (by decide) (by decide) rfl cw_X11_22 (bwi 186 (by decide +kernel) (by decide +kernel)) e k
theorem nx_X11_31 {x : Nat} (e : nO 1 7 M = some (x, M1)) (hd : decode cc pc = .ok (.new 31, 3)) (k : V G (RX11, cc, ret, fr, lo, nL, mn, hh) B (pc + 3) ls (.ref x :: st) M1) : V G (RX11, cc, ret, fr, lo, nL, mn, hh) B pc ls st M := v_new clX1 dvX1 cw_X11_31 iw_X1 nw_X1 hd e k
theorem na_X11_31 {x : Nat} {n : Int32} (e : nA 19 n M = some (x, M1)) (hd : decode cc pc = .ok (.anewarray 31, 3)) (k : V G (RX11, cc, ret, fr, lo, nL, mn, hh) B (pc + 3) ls (.ref x :: st) M1) : V G (RX11, cc, ret, fr, lo, nL, mn, hh) B pc ls (.int n :: st) M := v_newq (t0 := 6) hd (by decide) (by decide) rfl cw_X11_31 (bwi 243 (by decide +kernel) (by decide +kernel)) e k
theorem nx_X11_38 {x : Nat} (e : nO 7 11 M = some (x, M1)) (hd : decode cc pc = .ok (.new 38, 3)) (k : V G (RX11, cc, ret, fr, lo, nL, mn, hh) B (pc + 3) ls (.ref x :: st) M1) : V G (RX11, cc, ret, fr, lo, nL, mn, hh) B pc ls st M := v_new clX7 dvX7 cw_X11_38 iw_X7 nw_X7 hd e k
theorem nx_X0_7 {x : Nat} (e : nO 1 7 M = some (x, M1)) (hd : decode cc pc = .ok (.new 7, 3)) (k : V G (RX0, cc, ret, fr, lo, nL, mn, hh) B (pc + 3) ls (.ref x :: st) M1) : V G (RX0, cc, ret, fr, lo, nL, mn, hh) B pc ls st M := v_new clX1 dvX1 cw_X0_7 iw_X1 nw_X1 hd e k
theorem na_X0_7 {x : Nat} {n : Int32} (e : nA 19 n M = some (x, M1)) (hd : decode cc pc = .ok (.anewarray 7, 3)) (k : V G (RX0, cc, ret, fr, lo, nL, mn, hh) B (pc + 3) ls (.ref x :: st) M1) : V G (RX0, cc, ret, fr, lo, nL, mn, hh) B pc ls (.int n :: st) M := v_newq (t0 := 6) hd (by decide) (by decide) rfl cw_X0_7 (bwi 243 (by decide +kernel) (by decide +kernel)) e k
theorem nx_X0_18 {x : Nat} (e : nO 4 3 M = some (x, M1)) (hd : decode cc pc = .ok (.new 18, 3)) (k : V G (RX0, cc, ret, fr, lo, nL, mn, hh) B (pc + 3) ls (.ref x :: st) M1) : V G (RX0, cc, ret, fr, lo, nL, mn, hh) B pc ls st M := v_new clX4 dvX4 cw_X0_18 iw_X4 nw_X4 hd e k
theorem nx_X0_25 {x : Nat} (e : nO 5 10 M = some (x, M1)) (hd : decode cc pc = .ok (.new 25, 3)) (k : V G (RX0, cc, ret, fr, lo, nL, mn, hh) B (pc + 3) ls (.ref x :: st) M1) : V G (RX0, cc, ret, fr, lo, nL, mn, hh) B pc ls st M := v_new clX5 dvX5 cw_X0_25 iw_X5 nw_X5 hd e k
theorem nx_X2_13 {x : Nat} (e : nO 1 7 M = some (x, M1)) (hd : decode cc pc = .ok (.new 13, 3)) (k : V G (RX2, cc, ret, fr, lo, nL, mn, hh) B (pc + 3) ls (.ref x :: st) M1) : V G (RX2, cc, ret, fr, lo, nL, mn, hh) B pc ls st M := v_new clX1 dvX1 cw_X2_13 iw_X1 nw_X1 hd e k
theorem na_X2_13 {x : Nat} {n : Int32} (e : nA 19 n M = some (x, M1)) (hd : decode cc pc = .ok (.anewarray 13, 3)) (k : V G (RX2, cc, ret, fr, lo, nL, mn, hh) B (pc + 3) ls (.ref x :: st) M1) : V G (RX2, cc, ret, fr, lo, nL, mn, hh) B pc ls (.int n :: st) M := v_newq (t0 := 6) hd (by decide) (by decide) rfl cw_X2_13 (bwi 243 (by decide +kernel) (by decide +kernel)) e k
theorem nx_X4_9 {x : Nat} (e : nO 3 6 M = some (x, M1)) (hd : decode cc pc = .ok (.new 9, 3)) (k : V G (RX4, cc, ret, fr, lo, nL, mn, hh) B (pc + 3) ls (.ref x :: st) M1) : V G (RX4, cc, ret, fr, lo, nL, mn, hh) B pc ls st M := v_new clX3 dvX3 cw_X4_9 iw_X3 nw_X3 hd e k
theorem na_X4_9 {x : Nat} {n : Int32} (e : nA 20 n M = some (x, M1)) (hd : decode cc pc = .ok (.anewarray 9, 3)) (k : V G (RX4, cc, ret, fr, lo, nL, mn, hh) B (pc + 3) ls (.ref x :: st) M1) : V G (RX4, cc, ret, fr, lo, nL, mn, hh) B pc ls (.int n :: st) M := v_newq (t0 := 7) hd (by decide) (by decide) rfl cw_X4_9 (bwi 186 (by decide +kernel) (by decide +kernel)) e k
theorem nx_X5_15 {x : Nat} (e : nO 8 4 M = some (x, M1)) (hd : decode cc pc = .ok (.new 15, 3)) (k : V G (RX5, cc, ret, fr, lo, nL, mn, hh) B (pc + 3) ls (.ref x :: st) M1) : V G (RX5, cc, ret, fr, lo, nL, mn, hh) B pc ls st M := v_new clX8 dvX8 cw_X5_15 iw_X8 nw_X8 hd e k
theorem na_X5_15 {x : Nat} {n : Int32} (e : nA 22 n M = some (x, M1)) (hd : decode cc pc = .ok (.anewarray 15, 3)) (k : V G (RX5, cc, ret, fr, lo, nL, mn, hh) B (pc + 3) ls (.ref x :: st) M1) : V G (RX5, cc, ret, fr, lo, nL, mn, hh) B pc ls (.int n :: st) M := v_newq (t0 := 9) hd (by decide) (by decide) rfl cw_X5_15 (bwi 207 (by decide +kernel) (by decide +kernel)) e k
theorem nx_X5_24 {x : Nat} (e : nO 2 2 M = some (x, M1)) (hd : decode cc pc = .ok (.new 24, 3)) (k : V G (RX5, cc, ret, fr, lo, nL, mn, hh) B (pc + 3) ls (.ref x :: st) M1) : V G (RX5, cc, ret, fr, lo, nL, mn, hh) B pc ls st M := v_new clX2 dvX2 cw_X5_24 iw_X2 nw_X2 hd e k
theorem nx_X7_15 {x : Nat} (e : nO 0 8 M = some (x, M1)) (hd : decode cc pc = .ok (.new 15, 3)) (k : V G (RX7, cc, ret, fr, lo, nL, mn, hh) B (pc + 3) ls (.ref x :: st) M1) : V G (RX7, cc, ret, fr, lo, nL, mn, hh) B pc ls st M := v_new clX0 dvX0 cw_X7_15 iw_X0 nw_X0 hd e k
theorem na_X7_15 {x : Nat} {n : Int32} (e : nA 18 n M = some (x, M1)) (hd : decode cc pc = .ok (.anewarray 15, 3)) (k : V G (RX7, cc, ret, fr, lo, nL, mn, hh) B (pc + 3) ls (.ref x :: st) M1) : V G (RX7, cc, ret, fr, lo, nL, mn, hh) B pc ls (.int n :: st) M := v_newq (t0 := 5) hd (by decide) (by decide) rfl cw_X7_15 (bwi 171 (by decide +kernel) (by decide +kernel)) e k
theorem nx_X7_24 {x : Nat} (e : nO 6 4 M = some (x, M1)) (hd : decode cc pc = .ok (.new 24, 3)) (k : V G (RX7, cc, ret, fr, lo, nL, mn, hh) B (pc + 3) ls (.ref x :: st) M1) : V G (RX7, cc, ret, fr, lo, nL, mn, hh) B pc ls st M := v_new clX6 dvX6 cw_X7_24 iw_X6 nw_X6 hd e k
theorem na_X7_24 {x : Nat} {n : Int32} (e : nA 21 n M = some (x, M1)) (hd : decode cc pc = .ok (.anewarray 24, 3)) (k : V G (RX7, cc, ret, fr, lo, nL, mn, hh) B (pc + 3) ls (.ref x :: st) M1) : V G (RX7, cc, ret, fr, lo, nL, mn, hh) B pc ls (.int n :: st) M := v_newq (t0 := 8) hd (by decide) (by decide) rfl cw_X7_24 (bwi 342 (by decide +kernel) (by decide +kernel)) e k
theorem nx_X7_31 {x : Nat} (e : nO 1 7 M = some (x, M1)) (hd : decode cc pc = .ok (.new 31, 3)) (k : V G (RX7, cc, ret, fr, lo, nL, mn, hh) B (pc + 3) ls (.ref x :: st) M1) : V G (RX7, cc, ret, fr, lo, nL, mn, hh) B pc ls st M := v_new clX1 dvX1 cw_X7_31 iw_X1 nw_X1 hd e k
theorem na_X7_31 {x : Nat} {n : Int32} (e : nA 19 n M = some (x, M1)) (hd : decode cc pc = .ok (.anewarray 31, 3)) (k : V G (RX7, cc, ret, fr, lo, nL, mn, hh) B (pc + 3) ls (.ref x :: st) M1) : V G (RX7, cc, ret, fr, lo, nL, mn, hh) B pc ls (.int n :: st) M := v_newq (t0 := 6) hd (by decide) (by decide) rfl cw_X7_31 (bwi 243 (by decide +kernel) (by decide +kernel)) e k
theorem nx_X7_48 {x : Nat} (e : nO 9 3 M = some (x, M1)) (hd : decode cc pc = .ok (.new 48, 3)) (k : V G (RX7, cc, ret, fr, lo, nL, mn, hh) B (pc + 3) ls (.ref x :: st) M1) : V G (RX7, cc, ret, fr, lo, nL, mn, hh) B pc ls st M := v_new clX9 dvX9 cw_X7_48 iw_X9 nw_X9 hd e k
theorem nx_X9_9 {x : Nat} (e : nO 10 5 M = some (x, M1)) (hd : decode cc pc = .ok (.new 9, 3)) (k : V G (RX9, cc, ret, fr, lo, nL, mn, hh) B (pc + 3) ls (.ref x :: st) M1) : V G (RX9, cc, ret, fr, lo, nL, mn, hh) B pc ls st M := v_new clX10 dvX10 cw_X9_9 iw_X10 nw_X10 hd e k
theorem na_X9_9 {x : Nat} {n : Int32} (e : nA 23 n M = some (x, M1)) (hd : decode cc pc = .ok (.anewarray 9, 3)) (k : V G (RX9, cc, ret, fr, lo, nL, mn, hh) B (pc + 3) ls (.ref x :: st) M1) : V G (RX9, cc, ret, fr, lo, nL, mn, hh) B pc ls (.int n :: st) M := v_newq (t0 := 10) hd (by decide) (by decide) rfl cw_X9_9 (bwi 377 (by decide +kernel) (by decide +kernel)) e k
theorem nx_L_15 {x : Nat} (e : nO 11 9 M = some (x, M1)) (hd : decode cc pc = .ok (.new 15, 3)) (k : V G (RL, cc, ret, fr, lo, nL, mn, hh) B (pc + 3) ls (.ref x :: st) M1) : V G (RL, cc, ret, fr, lo, nL, mn, hh) B pc ls st M := v_new clX11 dvX11 cw_L_15 iw_X11 nw_X11 hd e k
theorem aw_int : Cond.arrayClass .int ∈ GW := gwi 365 (by decide +kernel) (by decide +kernel)
theorem aw_char : Cond.arrayClass .char ∈ GW := gwi 88 (by decide +kernel) (by decide +kernel)
theorem aw_boolean : Cond.arrayClass .boolean ∈ GW := gwi 234 (by decide +kernel) (by decide +kernel)
theorem aw_long : Cond.arrayClass .long ∈ GW := gwi 89 (by decide +kernel) (by decide +kernel)
theorem al_0 {own : String} {x : Nat} {i : Int32} (e : aR 18 a i M = some x) (hd : decode cc pc = .ok (.aaload, 1)) (k : V G (own, cc, ret, fr, lo, nL, mn, hh) B (pc + 1) ls (.ref x :: st) M) : V G (own, cc, ret, fr, lo, nL, mn, hh) B pc ls (.int i :: .ref a :: st) M := v_aaload (t0 := 5) hd (by decide) (by decide) rfl e k
theorem as_0 {own : String} {x : Nat} {i : Int32} (e : wR 18 0 a i x M = some M1) (hd : decode cc pc = .ok (.aastore, 1)) (k : V G (own, cc, ret, fr, lo, nL, mn, hh) B (pc + 1) ls st M1) : V G (own, cc, ret, fr, lo, nL, mn, hh) B pc ls (.ref x :: .int i :: .ref a :: st) M := v_aastore clX0 (t0 := 5) hd (by decide) (by decide) rfl e k
theorem al_1 {own : String} {x : Nat} {i : Int32} (e : aR 19 a i M = some x) (hd : decode cc pc = .ok (.aaload, 1)) (k : V G (own, cc, ret, fr, lo, nL, mn, hh) B (pc + 1) ls (.ref x :: st) M) : V G (own, cc, ret, fr, lo, nL, mn, hh) B pc ls (.int i :: .ref a :: st) M := v_aaload (t0 := 6) hd (by decide) (by decide) rfl e k
theorem as_1 {own : String} {x : Nat} {i : Int32} (e : wR 19 1 a i x M = some M1) (hd : decode cc pc = .ok (.aastore, 1)) (k : V G (own, cc, ret, fr, lo, nL, mn, hh) B (pc + 1) ls st M1) : V G (own, cc, ret, fr, lo, nL, mn, hh) B pc ls (.ref x :: .int i :: .ref a :: st) M := v_aastore clX1 (t0 := 6) hd (by decide) (by decide) rfl e k
theorem al_3 {own : String} {x : Nat} {i : Int32} (e : aR 20 a i M = some x) (hd : decode cc pc = .ok (.aaload, 1)) (k : V G (own, cc, ret, fr, lo, nL, mn, hh) B (pc + 1) ls (.ref x :: st) M) : V G (own, cc, ret, fr, lo, nL, mn, hh) B pc ls (.int i :: .ref a :: st) M := v_aaload (t0 := 7) hd (by decide) (by decide) rfl e k
theorem as_3 {own : String} {x : Nat} {i : Int32} (e : wR 20 3 a i x M = some M1) (hd : decode cc pc = .ok (.aastore, 1)) (k : V G (own, cc, ret, fr, lo, nL, mn, hh) B (pc + 1) ls st M1) : V G (own, cc, ret, fr, lo, nL, mn, hh) B pc ls (.ref x :: .int i :: .ref a :: st) M := v_aastore clX3 (t0 := 7) hd (by decide) (by decide) rfl e k
theorem al_6 {own : String} {x : Nat} {i : Int32} (e : aR 21 a i M = some x) (hd : decode cc pc = .ok (.aaload, 1)) (k : V G (own, cc, ret, fr, lo, nL, mn, hh) B (pc + 1) ls (.ref x :: st) M) : V G (own, cc, ret, fr, lo, nL, mn, hh) B pc ls (.int i :: .ref a :: st) M := v_aaload (t0 := 8) hd (by decide) (by decide) rfl e k
theorem as_6 {own : String} {x : Nat} {i : Int32} (e : wR 21 6 a i x M = some M1) (hd : decode cc pc = .ok (.aastore, 1)) (k : V G (own, cc, ret, fr, lo, nL, mn, hh) B (pc + 1) ls st M1) : V G (own, cc, ret, fr, lo, nL, mn, hh) B pc ls (.ref x :: .int i :: .ref a :: st) M := v_aastore clX6 (t0 := 8) hd (by decide) (by decide) rfl e k
theorem al_8 {own : String} {x : Nat} {i : Int32} (e : aR 22 a i M = some x) (hd : decode cc pc = .ok (.aaload, 1)) (k : V G (own, cc, ret, fr, lo, nL, mn, hh) B (pc + 1) ls (.ref x :: st) M) : V G (own, cc, ret, fr, lo, nL, mn, hh) B pc ls (.int i :: .ref a :: st) M := v_aaload (t0 := 9) hd (by decide) (by decide) rfl e k
theorem as_8 {own : String} {x : Nat} {i : Int32} (e : wR 22 8 a i x M = some M1) (hd : decode cc pc = .ok (.aastore, 1)) (k : V G (own, cc, ret, fr, lo, nL, mn, hh) B (pc + 1) ls st M1) : V G (own, cc, ret, fr, lo, nL, mn, hh) B pc ls (.ref x :: .int i :: .ref a :: st) M := v_aastore clX8 (t0 := 9) hd (by decide) (by decide) rfl e k
theorem al_10 {own : String} {x : Nat} {i : Int32} (e : aR 23 a i M = some x) (hd : decode cc pc = .ok (.aaload, 1)) (k : V G (own, cc, ret, fr, lo, nL, mn, hh) B (pc + 1) ls (.ref x :: st) M) : V G (own, cc, ret, fr, lo, nL, mn, hh) B pc ls (.int i :: .ref a :: st) M := v_aaload (t0 := 10) hd (by decide) (by decide) rfl e k
theorem as_10 {own : String} {x : Nat} {i : Int32} (e : wR 23 10 a i x M = some M1) (hd : decode cc pc = .ok (.aastore, 1)) (k : V G (own, cc, ret, fr, lo, nL, mn, hh) B (pc + 1) ls st M1) : V G (own, cc, ret, fr, lo, nL, mn, hh) B pc ls (.ref x :: .int i :: .ref a :: st) M := v_aastore clX10 (t0 := 10) hd (by decide) (by decide) rfl e k
theorem kf_X11_323 (hd : decode cc pc = .ok (.ldc_w 323, 3)) (k : V G (RX11, cc, ret, fr, lo, nL, mn, hh) B (pc + 3) ls (.float 1148846080 :: st) M) : V G (RX11, cc, ret, fr, lo, nL, mn, hh) B pc ls st M := v_ldcf (gwi 1069 (by decide +kernel) (by decide +kernel)) hd k
theorem kf_X7_321 (hd : decode cc pc = .ok (.ldc_w 321, 3)) (k : V G (RX7, cc, ret, fr, lo, nL, mn, hh) B (pc + 3) ls (.float 1061158912 :: st) M) : V G (RX7, cc, ret, fr, lo, nL, mn, hh) B pc ls st M := v_ldcf (gwi 1002 (by decide +kernel) (by decide +kernel)) hd k
theorem kf_X7_322 (hd : decode cc pc = .ok (.ldc_w 322, 3)) (k : V G (RX7, cc, ret, fr, lo, nL, mn, hh) B (pc + 3) ls (.float 1048576000 :: st) M) : V G (RX7, cc, ret, fr, lo, nL, mn, hh) B pc ls st M := v_ldcf (gwi 1003 (by decide +kernel) (by decide +kernel)) hd k
theorem kl_X10_54 (hd : decode cc pc = .ok (.ldc2_w 54, 3)) (k : V G (RX10, cc, ret, fr, lo, nL, mn, hh) B (pc + 3) ls (.long 43 :: st) M) : V G (RX10, cc, ret, fr, lo, nL, mn, hh) B pc ls st M := v_ldc2 (gwi 712 (by decide +kernel) (by decide +kernel)) hd k
theorem gs_X11_57 (hd : decode cc pc = .ok (.getstatic 57, 3)) (k : V G (RX11, cc, ret, fr, lo, nL, mn, hh) B (pc + 3) ls (.ref (SCR + 1 + 2) :: st) M) : V G (RX11, cc, ret, fr, lo, nL, mn, hh) B pc ls st M := v_gets (i := 2) (by decide) (gwi 952 (by decide +kernel) (by decide +kernel)) hd k
theorem gs_X11_64 (hd : decode cc pc = .ok (.getstatic 64, 3)) (k : V G (RX11, cc, ret, fr, lo, nL, mn, hh) B (pc + 3) ls (.ref (SCR + 1 + 0) :: st) M) : V G (RX11, cc, ret, fr, lo, nL, mn, hh) B pc ls st M := v_gets (i := 0) (by decide) (gwi 953 (by decide +kernel) (by decide +kernel)) hd k
theorem gs_X11_67 (hd : decode cc pc = .ok (.getstatic 67, 3)) (k : V G (RX11, cc, ret, fr, lo, nL, mn, hh) B (pc + 3) ls (.ref (SCR + 1 + 1) :: st) M) : V G (RX11, cc, ret, fr, lo, nL, mn, hh) B pc ls st M := v_gets (i := 1) (by decide) (gwi 955 (by decide +kernel) (by decide +kernel)) hd k
theorem gs_X7_38 (hd : decode cc pc = .ok (.getstatic 38, 3)) (k : V G (RX7, cc, ret, fr, lo, nL, mn, hh) B (pc + 3) ls (.ref (SCR + 1 + 2) :: st) M) : V G (RX7, cc, ret, fr, lo, nL, mn, hh) B pc ls st M := v_getsN (i := 2) (host := "GradedTopicBroker") (by decide) (bwi 368 (by decide +kernel) (by decide +kernel)) hd k
theorem oi_X11 (hd : decode cc pc = .ok (.invokespecial 1, 3)) (hfr : 1 ≤ fr) (hlo : (st.map fun v => v.category).sum + 12 ≤ lo) (k : V G (RX11, cc, ret, fr, lo, nL, mn, hh) B (pc + 3) ls st M) : V G (RX11, cc, ret, fr, lo, nL, mn, hh) B pc ls (.ref a :: st) M := v_objInit (gwi 55 (by decide +kernel) (by decide +kernel)) (gwi 56 (by decide +kernel) (by decide +kernel)) (gwi 57 (by decide +kernel) (by decide +kernel)) hd hfr hlo k
theorem oi_X0 (hd : decode cc pc = .ok (.invokespecial 1, 3)) (hfr : 1 ≤ fr) (hlo : (st.map fun v => v.category).sum + 12 ≤ lo) (k : V G (RX0, cc, ret, fr, lo, nL, mn, hh) B (pc + 3) ls st M) : V G (RX0, cc, ret, fr, lo, nL, mn, hh) B pc ls (.ref a :: st) M := v_objInit (gwi 176 (by decide +kernel) (by decide +kernel)) (gwi 56 (by decide +kernel) (by decide +kernel)) (gwi 57 (by decide +kernel) (by decide +kernel)) hd hfr hlo k
theorem oi_X1 (hd : decode cc pc = .ok (.invokespecial 1, 3)) (hfr : 1 ≤ fr) (hlo : (st.map fun v => v.category).sum + 12 ≤ lo) (k : V G (RX1, cc, ret, fr, lo, nL, mn, hh) B (pc + 3) ls st M) : V G (RX1, cc, ret, fr, lo, nL, mn, hh) B pc ls (.ref a :: st) M := v_objInit (gwi 127 (by decide +kernel) (by decide +kernel)) (gwi 56 (by decide +kernel) (by decide +kernel)) (gwi 57 (by decide +kernel) (by decide +kernel)) hd hfr hlo k
theorem oi_X2 (hd : decode cc pc = .ok (.invokespecial 1, 3)) (hfr : 1 ≤ fr) (hlo : (st.map fun v => v.category).sum + 12 ≤ lo) (k : V G (RX2, cc, ret, fr, lo, nL, mn, hh) B (pc + 3) ls st M) : V G (RX2, cc, ret, fr, lo, nL, mn, hh) B pc ls (.ref a :: st) M := v_objInit (gwi 240 (by decide +kernel) (by decide +kernel)) (gwi 56 (by decide +kernel) (by decide +kernel)) (gwi 57 (by decide +kernel) (by decide +kernel)) hd hfr hlo k
theorem oi_X3 (hd : decode cc pc = .ok (.invokespecial 1, 3)) (hfr : 1 ≤ fr) (hlo : (st.map fun v => v.category).sum + 12 ≤ lo) (k : V G (RX3, cc, ret, fr, lo, nL, mn, hh) B (pc + 3) ls st M) : V G (RX3, cc, ret, fr, lo, nL, mn, hh) B pc ls (.ref a :: st) M := v_objInit (gwi 95 (by decide +kernel) (by decide +kernel)) (gwi 56 (by decide +kernel) (by decide +kernel)) (gwi 57 (by decide +kernel) (by decide +kernel)) hd hfr hlo k
theorem oi_X4 (hd : decode cc pc = .ok (.invokespecial 3, 3)) (hfr : 1 ≤ fr) (hlo : (st.map fun v => v.category).sum + 12 ≤ lo) (k : V G (RX4, cc, ret, fr, lo, nL, mn, hh) B (pc + 3) ls st M) : V G (RX4, cc, ret, fr, lo, nL, mn, hh) B pc ls (.ref a :: st) M := v_objInit (gwi 184 (by decide +kernel) (by decide +kernel)) (gwi 56 (by decide +kernel) (by decide +kernel)) (gwi 57 (by decide +kernel) (by decide +kernel)) hd hfr hlo k
theorem oi_X5 (hd : decode cc pc = .ok (.invokespecial 3, 3)) (hfr : 1 ≤ fr) (hlo : (st.map fun v => v.category).sum + 12 ≤ lo) (k : V G (RX5, cc, ret, fr, lo, nL, mn, hh) B (pc + 3) ls st M) : V G (RX5, cc, ret, fr, lo, nL, mn, hh) B pc ls (.ref a :: st) M := v_objInit (gwi 205 (by decide +kernel) (by decide +kernel)) (gwi 56 (by decide +kernel) (by decide +kernel)) (gwi 57 (by decide +kernel) (by decide +kernel)) hd hfr hlo k
theorem oi_X6 (hd : decode cc pc = .ok (.invokespecial 3, 3)) (hfr : 1 ≤ fr) (hlo : (st.map fun v => v.category).sum + 12 ≤ lo) (k : V G (RX6, cc, ret, fr, lo, nL, mn, hh) B (pc + 3) ls st M) : V G (RX6, cc, ret, fr, lo, nL, mn, hh) B pc ls (.ref a :: st) M := v_objInit (gwi 347 (by decide +kernel) (by decide +kernel)) (gwi 56 (by decide +kernel) (by decide +kernel)) (gwi 57 (by decide +kernel) (by decide +kernel)) hd hfr hlo k
theorem oi_X7 (hd : decode cc pc = .ok (.invokespecial 3, 3)) (hfr : 1 ≤ fr) (hlo : (st.map fun v => v.category).sum + 12 ≤ lo) (k : V G (RX7, cc, ret, fr, lo, nL, mn, hh) B (pc + 3) ls st M) : V G (RX7, cc, ret, fr, lo, nL, mn, hh) B pc ls (.ref a :: st) M := v_objInit (gwi 169 (by decide +kernel) (by decide +kernel)) (gwi 56 (by decide +kernel) (by decide +kernel)) (gwi 57 (by decide +kernel) (by decide +kernel)) hd hfr hlo k
theorem oi_X8 (hd : decode cc pc = .ok (.invokespecial 1, 3)) (hfr : 1 ≤ fr) (hlo : (st.map fun v => v.category).sum + 12 ≤ lo) (k : V G (RX8, cc, ret, fr, lo, nL, mn, hh) B (pc + 3) ls st M) : V G (RX8, cc, ret, fr, lo, nL, mn, hh) B pc ls (.ref a :: st) M := v_objInit (gwi 212 (by decide +kernel) (by decide +kernel)) (gwi 56 (by decide +kernel) (by decide +kernel)) (gwi 57 (by decide +kernel) (by decide +kernel)) hd hfr hlo k
theorem oi_X9 (hd : decode cc pc = .ok (.invokespecial 3, 3)) (hfr : 1 ≤ fr) (hlo : (st.map fun v => v.category).sum + 12 ≤ lo) (k : V G (RX9, cc, ret, fr, lo, nL, mn, hh) B (pc + 3) ls st M) : V G (RX9, cc, ret, fr, lo, nL, mn, hh) B pc ls (.ref a :: st) M := v_objInit (gwi 375 (by decide +kernel) (by decide +kernel)) (gwi 56 (by decide +kernel) (by decide +kernel)) (gwi 57 (by decide +kernel) (by decide +kernel)) hd hfr hlo k
theorem oi_X10 (hd : decode cc pc = .ok (.invokespecial 3, 3)) (hfr : 1 ≤ fr) (hlo : (st.map fun v => v.category).sum + 12 ≤ lo) (k : V G (RX10, cc, ret, fr, lo, nL, mn, hh) B (pc + 3) ls st M) : V G (RX10, cc, ret, fr, lo, nL, mn, hh) B pc ls (.ref a :: st) M := v_objInit (gwi 63 (by decide +kernel) (by decide +kernel)) (gwi 56 (by decide +kernel) (by decide +kernel)) (gwi 57 (by decide +kernel) (by decide +kernel)) hd hfr hlo k
theorem mw_X2_7 : Cond.methodLink RX2 7 Lib.Math.max.name ∈ GW := gwi 241 (by decide +kernel) (by decide +kernel)
theorem ms_max : Cond.static Lib.Math.max.name ∈ GW := gwi 68 (by decide +kernel) (by decide +kernel)
theorem mc_max : Cond.code Lib.Math.max.name Lib.Math.max.code 2 (some .int) ∈ GW := gwi 69 (by decide +kernel) (by decide +kernel)
theorem mn_Math : Cond.initialized "java/lang/Math" ∈ GW := gwi 29 (by decide +kernel) (by decide +kernel)
theorem mx_X2_7 {x y : Int32} (hd : decode cc pc = .ok (.invokestatic 7, 3)) (hfr : 1 ≤ fr) (hlo : (st.map fun v => v.category).sum + 13 ≤ lo) (k : V G (RX2, cc, ret, fr, lo, nL, mn, hh) B (pc + 3) ls (.int (imaxE x y) :: st) M) : V G (RX2, cc, ret, fr, lo, nL, mn, hh) B pc ls (.int y :: .int x :: st) M := by
  refine ⟨k.1, fun X h ρ H locs cells slots la hH hl hs he hS hcc hn hla => ?_⟩
  have hR := h.2.2.2.2.2.2.2.2.1
  have hk := k.1
  exact va_mmax h.1 h.2.1 hla.1.symm h.2.2.1 (h.2.2.2.1 _ mw_X2_7) (h.2.2.2.1 _ ms_max) (h.2.2.2.1 _ mn_Math) (h.2.2.2.1 _ mc_max) (by rw [hR]; exact hfr) (by rw [hR, mv_cats]; exact hlo) (by rw [hR]; show cells ≤ mC B.2.2.2 - mC B.2.1; omega) (by rw [hR]; show slots ≤ mS B.2.2.2 - mS B.2.1; omega) hd (k.2 X h ρ H locs cells slots la hH hl ⟨trivial, hs.2.2⟩ he hS hcc hn hla)
theorem mw_X5_92 : Cond.methodLink RX5 92 Lib.Math.max.name ∈ GW := gwi 713 (by decide +kernel) (by decide +kernel)
theorem mx_X5_92 {x y : Int32} (hd : decode cc pc = .ok (.invokestatic 92, 3)) (hfr : 1 ≤ fr) (hlo : (st.map fun v => v.category).sum + 13 ≤ lo) (k : V G (RX5, cc, ret, fr, lo, nL, mn, hh) B (pc + 3) ls (.int (imaxE x y) :: st) M) : V G (RX5, cc, ret, fr, lo, nL, mn, hh) B pc ls (.int y :: .int x :: st) M := by
  refine ⟨k.1, fun X h ρ H locs cells slots la hH hl hs he hS hcc hn hla => ?_⟩
  have hR := h.2.2.2.2.2.2.2.2.1
  have hk := k.1
  exact va_mmax h.1 h.2.1 hla.1.symm h.2.2.1 (h.2.2.2.1 _ mw_X5_92) (h.2.2.2.1 _ ms_max) (h.2.2.2.1 _ mn_Math) (h.2.2.2.1 _ mc_max) (by rw [hR]; exact hfr) (by rw [hR, mv_cats]; exact hlo) (by rw [hR]; show cells ≤ mC B.2.2.2 - mC B.2.1; omega) (by rw [hR]; show slots ≤ mS B.2.2.2 - mS B.2.1; omega) hd (k.2 X h ρ H locs cells slots la hH hl ⟨trivial, hs.2.2⟩ he hS hcc hn hla)
theorem mw_X7_128 : Cond.methodLink RX7 128 Lib.Math.min.name ∈ GW := gwi 650 (by decide +kernel) (by decide +kernel)
theorem ms_min : Cond.static Lib.Math.min.name ∈ GW := gwi 65 (by decide +kernel) (by decide +kernel)
theorem mc_min : Cond.code Lib.Math.min.name Lib.Math.min.code 2 (some .int) ∈ GW := gwi 66 (by decide +kernel) (by decide +kernel)
theorem mx_X7_128 {x y : Int32} (hd : decode cc pc = .ok (.invokestatic 128, 3)) (hfr : 1 ≤ fr) (hlo : (st.map fun v => v.category).sum + 13 ≤ lo) (k : V G (RX7, cc, ret, fr, lo, nL, mn, hh) B (pc + 3) ls (.int (iminE x y) :: st) M) : V G (RX7, cc, ret, fr, lo, nL, mn, hh) B pc ls (.int y :: .int x :: st) M := by
  refine ⟨k.1, fun X h ρ H locs cells slots la hH hl hs he hS hcc hn hla => ?_⟩
  have hR := h.2.2.2.2.2.2.2.2.1
  have hk := k.1
  exact va_mmin h.1 h.2.1 hla.1.symm h.2.2.1 (h.2.2.2.1 _ mw_X7_128) (h.2.2.2.1 _ ms_min) (h.2.2.2.1 _ mn_Math) (h.2.2.2.1 _ mc_min) (by rw [hR]; exact hfr) (by rw [hR, mv_cats]; exact hlo) (by rw [hR]; show cells ≤ mC B.2.2.2 - mC B.2.1; omega) (by rw [hR]; show slots ≤ mS B.2.2.2 - mS B.2.1; omega) hd (k.2 X h ρ H locs cells slots la hH hl ⟨trivial, hs.2.2⟩ he hS hcc hn hla)
theorem mw_X10_9 : Cond.methodLink RX10 9 Lib.Math.min.name ∈ GW := gwi 64 (by decide +kernel) (by decide +kernel)
theorem mx_X10_9 {x y : Int32} (hd : decode cc pc = .ok (.invokestatic 9, 3)) (hfr : 1 ≤ fr) (hlo : (st.map fun v => v.category).sum + 13 ≤ lo) (k : V G (RX10, cc, ret, fr, lo, nL, mn, hh) B (pc + 3) ls (.int (iminE x y) :: st) M) : V G (RX10, cc, ret, fr, lo, nL, mn, hh) B pc ls (.int y :: .int x :: st) M := by
  refine ⟨k.1, fun X h ρ H locs cells slots la hH hl hs he hS hcc hn hla => ?_⟩
  have hR := h.2.2.2.2.2.2.2.2.1
  have hk := k.1
  exact va_mmin h.1 h.2.1 hla.1.symm h.2.2.1 (h.2.2.2.1 _ mw_X10_9) (h.2.2.2.1 _ ms_min) (h.2.2.2.1 _ mn_Math) (h.2.2.2.1 _ mc_min) (by rw [hR]; exact hfr) (by rw [hR, mv_cats]; exact hlo) (by rw [hR]; show cells ≤ mC B.2.2.2 - mC B.2.1; omega) (by rw [hR]; show slots ≤ mS B.2.2.2 - mS B.2.1; omega) hd (k.2 X h ρ H locs cells slots la hH hl ⟨trivial, hs.2.2⟩ he hS hcc hn hla)
theorem mw_X10_15 : Cond.methodLink RX10 15 Lib.Math.max.name ∈ GW := gwi 67 (by decide +kernel) (by decide +kernel)
theorem mx_X10_15 {x y : Int32} (hd : decode cc pc = .ok (.invokestatic 15, 3)) (hfr : 1 ≤ fr) (hlo : (st.map fun v => v.category).sum + 13 ≤ lo) (k : V G (RX10, cc, ret, fr, lo, nL, mn, hh) B (pc + 3) ls (.int (imaxE x y) :: st) M) : V G (RX10, cc, ret, fr, lo, nL, mn, hh) B pc ls (.int y :: .int x :: st) M := by
  refine ⟨k.1, fun X h ρ H locs cells slots la hH hl hs he hS hcc hn hla => ?_⟩
  have hR := h.2.2.2.2.2.2.2.2.1
  have hk := k.1
  exact va_mmax h.1 h.2.1 hla.1.symm h.2.2.1 (h.2.2.2.1 _ mw_X10_15) (h.2.2.2.1 _ ms_max) (h.2.2.2.1 _ mn_Math) (h.2.2.2.1 _ mc_max) (by rw [hR]; exact hfr) (by rw [hR, mv_cats]; exact hlo) (by rw [hR]; show cells ≤ mC B.2.2.2 - mC B.2.1; omega) (by rw [hR]; show slots ≤ mS B.2.2.2 - mS B.2.1; omega) hd (k.2 X h ρ H locs cells slots la hH hl ⟨trivial, hs.2.2⟩ he hS hcc hn hla)
theorem tw_1 : ∀ w ∈ vx_at0 RX11 50 "java/lang/IllegalArgumentException" ["java/lang/RuntimeException", "java/lang/Exception"], w ∈ lw_tbl ∧ (goodWord w || bw w) = true := by decide +kernel
theorem tg_1 : ∀ w ∈ Cond.classLink RX11 48 "java/lang/IllegalArgumentException" :: Cond.initialized "java/lang/IllegalArgumentException" :: vx_at0 RX11 50 "java/lang/IllegalArgumentException" ["java/lang/RuntimeException", "java/lang/Exception"], vx_ot w = true := by decide +kernel
theorem th_1 {ρ0 : Nat → Nat} {M0 : Mem} (d0 : decode cc pc = .ok (.new 48, 3)) (d3 : decode cc (pc + 3) = .ok (.dup, 1)) (d4 : decode cc (pc + 4) = .ok (.invokespecial 50, 3)) (d7 : decode cc (pc + 7) = .ok (.athrow, 1)) (hfr : 5 < fr) (hlo : (st.map fun v => v.category).sum + 81 ≤ lo) : V G (RX11, cc, ret, fr, lo, nL, mn, []) (ρ0, M0, Sum.inr 1, xM M) pc ls st M :=
  v_throw (cls := "java/lang/IllegalArgumentException") (names := ["java/lang/RuntimeException", "java/lang/Exception"]) rfl (by decide +kernel) (by decide +kernel) (gwi 611 (by decide +kernel) (by decide +kernel)) (gwi 45 (by decide +kernel) (by decide +kernel)) (fun w hw => by
    obtain ⟨h1, h2⟩ := tw_1 w hw
    rcases Bool.or_eq_true_iff.mp h2 with h | h
    · exact Or.inl (List.mem_filter.mpr ⟨h1, h⟩)
    · exact Or.inr (List.mem_filter.mpr ⟨h1, h⟩)) tg_1 d0 d3 d4 d7 hfr hlo
theorem tw_2 : ∀ w ∈ vx_at0 RX11 56 "java/lang/IllegalStateException" ["java/lang/RuntimeException", "java/lang/Exception"], w ∈ lw_tbl ∧ (goodWord w || bw w) = true := by decide +kernel
theorem tg_2 : ∀ w ∈ Cond.classLink RX11 54 "java/lang/IllegalStateException" :: Cond.initialized "java/lang/IllegalStateException" :: vx_at0 RX11 56 "java/lang/IllegalStateException" ["java/lang/RuntimeException", "java/lang/Exception"], vx_ot w = true := by decide +kernel
theorem th_2 {ρ0 : Nat → Nat} {M0 : Mem} (d0 : decode cc pc = .ok (.new 54, 3)) (d3 : decode cc (pc + 3) = .ok (.dup, 1)) (d4 : decode cc (pc + 4) = .ok (.invokespecial 56, 3)) (d7 : decode cc (pc + 7) = .ok (.athrow, 1)) (hfr : 5 < fr) (hlo : (st.map fun v => v.category).sum + 81 ≤ lo) : V G (RX11, cc, ret, fr, lo, nL, mn, []) (ρ0, M0, Sum.inr 2, xM M) pc ls st M :=
  v_throw (cls := "java/lang/IllegalStateException") (names := ["java/lang/RuntimeException", "java/lang/Exception"]) rfl (by decide +kernel) (by decide +kernel) (gwi 464 (by decide +kernel) (by decide +kernel)) (gwi 43 (by decide +kernel) (by decide +kernel)) (fun w hw => by
    obtain ⟨h1, h2⟩ := tw_2 w hw
    rcases Bool.or_eq_true_iff.mp h2 with h | h
    · exact Or.inl (List.mem_filter.mpr ⟨h1, h⟩)
    · exact Or.inr (List.mem_filter.mpr ⟨h1, h⟩)) tg_2 d0 d3 d4 d7 hfr hlo
theorem tw_3 : ∀ w ∈ vx_at0 RX11 63 "java/lang/IndexOutOfBoundsException" ["java/lang/RuntimeException", "java/lang/Exception"], w ∈ lw_tbl ∧ (goodWord w || bw w) = true := by decide +kernel
theorem tg_3 : ∀ w ∈ Cond.classLink RX11 61 "java/lang/IndexOutOfBoundsException" :: Cond.initialized "java/lang/IndexOutOfBoundsException" :: vx_at0 RX11 63 "java/lang/IndexOutOfBoundsException" ["java/lang/RuntimeException", "java/lang/Exception"], vx_ot w = true := by decide +kernel
theorem th_3 {ρ0 : Nat → Nat} {M0 : Mem} (d0 : decode cc pc = .ok (.new 61, 3)) (d3 : decode cc (pc + 3) = .ok (.dup, 1)) (d4 : decode cc (pc + 4) = .ok (.invokespecial 63, 3)) (d7 : decode cc (pc + 7) = .ok (.athrow, 1)) (hfr : 5 < fr) (hlo : (st.map fun v => v.category).sum + 81 ≤ lo) : V G (RX11, cc, ret, fr, lo, nL, mn, []) (ρ0, M0, Sum.inr 3, xM M) pc ls st M :=
  v_throw (cls := "java/lang/IndexOutOfBoundsException") (names := ["java/lang/RuntimeException", "java/lang/Exception"]) rfl (by decide +kernel) (by decide +kernel) (gwi 586 (by decide +kernel) (by decide +kernel)) (gwi 44 (by decide +kernel) (by decide +kernel)) (fun w hw => by
    obtain ⟨h1, h2⟩ := tw_3 w hw
    rcases Bool.or_eq_true_iff.mp h2 with h | h
    · exact Or.inl (List.mem_filter.mpr ⟨h1, h⟩)
    · exact Or.inr (List.mem_filter.mpr ⟨h1, h⟩)) tg_3 d0 d3 d4 d7 hfr hlo
end
end
