section
-- ===== PART A: goes FIRST, ahead of the names: the tables' words, and 'selects' of the private methods out of them =====
/-- a private method of a class that the tables say can be made, by its rows of tables_1 -/
def lw_okq (q : MethodName × Nat) : Prop := (q.1.cls ≠ "java/lang/invoke/MethodHandle" ∧ q.1.cls ≠ "java/lang/invoke/VarHandle") ∧ Cond.instantiable q.1.cls q.2 ∈ tables_1 ∧ Cond.privateMethod q.1 ∈ tables_1 ∧ Cond.instanceMethod q.1 ∈ tables_1
theorem lw_p0 : lw_okq (⟨"java/lang/Throwable", "fillInStackTrace", "(I)Ljava/lang/Throwable;"⟩, 6) := ⟨⟨by decide +kernel, by decide +kernel⟩, List.mem_of_getElem? (i := 209) (by decide +kernel), List.mem_of_getElem? (i := 207) (by decide +kernel), List.mem_of_getElem? (i := 208) (by decide +kernel)⟩
theorem lw_p1 : lw_okq (⟨"BinderyDesk", "requireContent", "(I)V"⟩, 12) := ⟨⟨by decide +kernel, by decide +kernel⟩, List.mem_of_getElem? (i := 22) (by decide +kernel), List.mem_of_getElem? (i := 274) (by decide +kernel), List.mem_of_getElem? (i := 275) (by decide +kernel)⟩
theorem lw_p2 : lw_okq (⟨"BinderyDesk", "findJob", "(I)LBinderyDesk$Job;"⟩, 12) := ⟨⟨by decide +kernel, by decide +kernel⟩, List.mem_of_getElem? (i := 22) (by decide +kernel), List.mem_of_getElem? (i := 317) (by decide +kernel), List.mem_of_getElem? (i := 318) (by decide +kernel)⟩
theorem lw_p3 : lw_okq (⟨"BinderyDesk", "existingJob", "(I)LBinderyDesk$Job;"⟩, 12) := ⟨⟨by decide +kernel, by decide +kernel⟩, List.mem_of_getElem? (i := 22) (by decide +kernel), List.mem_of_getElem? (i := 420) (by decide +kernel), List.mem_of_getElem? (i := 421) (by decide +kernel)⟩
theorem lw_p4 : lw_okq (⟨"BinderyDesk", "completeJob", "(I)LBinderyDesk$Job;"⟩, 12) := ⟨⟨by decide +kernel, by decide +kernel⟩, List.mem_of_getElem? (i := 22) (by decide +kernel), List.mem_of_getElem? (i := 448) (by decide +kernel), List.mem_of_getElem? (i := 449) (by decide +kernel)⟩
theorem lw_p5 : lw_okq (⟨"BinderyDesk", "isWhollyApproved", "(LBinderyDesk$Job;I)Z"⟩, 12) := ⟨⟨by decide +kernel, by decide +kernel⟩, List.mem_of_getElem? (i := 22) (by decide +kernel), List.mem_of_getElem? (i := 519) (by decide +kernel), List.mem_of_getElem? (i := 520) (by decide +kernel)⟩
theorem lw_p6 : lw_okq (⟨"BinderyDesk", "plateFor", "(LBinderyDesk$Job;II)I"⟩, 12) := ⟨⟨by decide +kernel, by decide +kernel⟩, List.mem_of_getElem? (i := 22) (by decide +kernel), List.mem_of_getElem? (i := 545) (by decide +kernel), List.mem_of_getElem? (i := 546) (by decide +kernel)⟩
theorem lw_p7 : lw_okq (⟨"BinderyDesk", "loadOrders", "(LBinderyDesk$Job;)V"⟩, 12) := ⟨⟨by decide +kernel, by decide +kernel⟩, List.mem_of_getElem? (i := 22) (by decide +kernel), List.mem_of_getElem? (i := 593) (by decide +kernel), List.mem_of_getElem? (i := 594) (by decide +kernel)⟩
theorem lw_p8 : lw_okq (⟨"BinderyDesk$Orders", "leastOfSet", "(II)I"⟩, 4) := ⟨⟨by decide +kernel, by decide +kernel⟩, List.mem_of_getElem? (i := 89) (by decide +kernel), List.mem_of_getElem? (i := 617) (by decide +kernel), List.mem_of_getElem? (i := 618) (by decide +kernel)⟩
theorem lw_p9 : lw_okq (⟨"BinderyDesk", "isOnEarlierSide", "(LBinderyDesk$Job;II)Z"⟩, 12) := ⟨⟨by decide +kernel, by decide +kernel⟩, List.mem_of_getElem? (i := 22) (by decide +kernel), List.mem_of_getElem? (i := 656) (by decide +kernel), List.mem_of_getElem? (i := 657) (by decide +kernel)⟩
theorem lw_p10 : lw_okq (⟨"BinderyDesk", "newLot", "(LBinderyDesk$Job;I)LBinderyDesk$Lot;"⟩, 12) := ⟨⟨by decide +kernel, by decide +kernel⟩, List.mem_of_getElem? (i := 22) (by decide +kernel), List.mem_of_getElem? (i := 679) (by decide +kernel), List.mem_of_getElem? (i := 680) (by decide +kernel)⟩
theorem lw_p11 : lw_okq (⟨"BinderyDesk", "existingLot", "(I)LBinderyDesk$Lot;"⟩, 12) := ⟨⟨by decide +kernel, by decide +kernel⟩, List.mem_of_getElem? (i := 22) (by decide +kernel), List.mem_of_getElem? (i := 727) (by decide +kernel), List.mem_of_getElem? (i := 728) (by decide +kernel)⟩
theorem lw_p12 : lw_okq (⟨"BinderyDesk", "findLot", "(I)LBinderyDesk$Lot;"⟩, 12) := ⟨⟨by decide +kernel, by decide +kernel⟩, List.mem_of_getElem? (i := 22) (by decide +kernel), List.mem_of_getElem? (i := 731) (by decide +kernel), List.mem_of_getElem? (i := 732) (by decide +kernel)⟩
theorem lw_p13 : lw_okq (⟨"BinderyDeskModel", "fails", "(I)I"⟩, 26) := ⟨⟨by decide +kernel, by decide +kernel⟩, List.mem_of_getElem? (i := 811) (by decide +kernel), List.mem_of_getElem? (i := 905) (by decide +kernel), List.mem_of_getElem? (i := 906) (by decide +kernel)⟩
theorem lw_p14 : lw_okq (⟨"BinderyDeskModel", "isContent", "(I)Z"⟩, 26) := ⟨⟨by decide +kernel, by decide +kernel⟩, List.mem_of_getElem? (i := 811) (by decide +kernel), List.mem_of_getElem? (i := 913) (by decide +kernel), List.mem_of_getElem? (i := 914) (by decide +kernel)⟩
theorem lw_p15 : lw_okq (⟨"BinderyDeskModel", "isWhole", "(I)Z"⟩, 26) := ⟨⟨by decide +kernel, by decide +kernel⟩, List.mem_of_getElem? (i := 811) (by decide +kernel), List.mem_of_getElem? (i := 924) (by decide +kernel), List.mem_of_getElem? (i := 925) (by decide +kernel)⟩
def lw_privs_1 : List (MethodName × Nat) := [(⟨"java/lang/Throwable", "fillInStackTrace", "(I)Ljava/lang/Throwable;"⟩, 6), (⟨"BinderyDesk", "requireContent", "(I)V"⟩, 12), (⟨"BinderyDesk", "findJob", "(I)LBinderyDesk$Job;"⟩, 12), (⟨"BinderyDesk", "existingJob", "(I)LBinderyDesk$Job;"⟩, 12), (⟨"BinderyDesk", "completeJob", "(I)LBinderyDesk$Job;"⟩, 12), (⟨"BinderyDesk", "isWhollyApproved", "(LBinderyDesk$Job;I)Z"⟩, 12), (⟨"BinderyDesk", "plateFor", "(LBinderyDesk$Job;II)I"⟩, 12), (⟨"BinderyDesk", "loadOrders", "(LBinderyDesk$Job;)V"⟩, 12), (⟨"BinderyDesk$Orders", "leastOfSet", "(II)I"⟩, 4), (⟨"BinderyDesk", "isOnEarlierSide", "(LBinderyDesk$Job;II)Z"⟩, 12), (⟨"BinderyDesk", "newLot", "(LBinderyDesk$Job;I)LBinderyDesk$Lot;"⟩, 12), (⟨"BinderyDesk", "existingLot", "(I)LBinderyDesk$Lot;"⟩, 12), (⟨"BinderyDesk", "findLot", "(I)LBinderyDesk$Lot;"⟩, 12), (⟨"BinderyDeskModel", "fails", "(I)I"⟩, 26), (⟨"BinderyDeskModel", "isContent", "(I)Z"⟩, 26), (⟨"BinderyDeskModel", "isWhole", "(I)Z"⟩, 26)]
theorem lw_r1 : ∀ q ∈ lw_privs_1, lw_okq q := List.forall_mem_cons.mpr ⟨lw_p0, List.forall_mem_cons.mpr ⟨lw_p1, List.forall_mem_cons.mpr ⟨lw_p2, List.forall_mem_cons.mpr ⟨lw_p3, List.forall_mem_cons.mpr ⟨lw_p4, List.forall_mem_cons.mpr ⟨lw_p5, List.forall_mem_cons.mpr ⟨lw_p6, List.forall_mem_cons.mpr ⟨lw_p7, List.forall_mem_cons.mpr ⟨lw_p8, List.forall_mem_cons.mpr ⟨lw_p9, List.forall_mem_cons.mpr ⟨lw_p10, List.forall_mem_cons.mpr ⟨lw_p11, List.forall_mem_cons.mpr ⟨lw_p12, List.forall_mem_cons.mpr ⟨lw_p13, List.forall_mem_cons.mpr ⟨lw_p14, List.forall_mem_cons.mpr ⟨lw_p15, fun _ h => absurd h List.not_mem_nil⟩⟩⟩⟩⟩⟩⟩⟩⟩⟩⟩⟩⟩⟩⟩⟩
theorem lw_p16 : lw_okq (⟨"BinderyDeskModel", "places", "(I)I"⟩, 26) := ⟨⟨by decide +kernel, by decide +kernel⟩, List.mem_of_getElem? (i := 811) (by decide +kernel), List.mem_of_getElem? (i := 928) (by decide +kernel), List.mem_of_getElem? (i := 929) (by decide +kernel)⟩
theorem lw_p17 : lw_okq (⟨"BinderyDeskModel", "count", "(I)I"⟩, 26) := ⟨⟨by decide +kernel, by decide +kernel⟩, List.mem_of_getElem? (i := 811) (by decide +kernel), List.mem_of_getElem? (i := 932) (by decide +kernel), List.mem_of_getElem? (i := 933) (by decide +kernel)⟩
theorem lw_p18 : lw_okq (⟨"BinderyDeskModel", "isShown", "(III)Z"⟩, 26) := ⟨⟨by decide +kernel, by decide +kernel⟩, List.mem_of_getElem? (i := 811) (by decide +kernel), List.mem_of_getElem? (i := 936) (by decide +kernel), List.mem_of_getElem? (i := 937) (by decide +kernel)⟩
theorem lw_p19 : lw_okq (⟨"BinderyDeskModel", "contentOn", "(III)I"⟩, 26) := ⟨⟨by decide +kernel, by decide +kernel⟩, List.mem_of_getElem? (i := 811) (by decide +kernel), List.mem_of_getElem? (i := 940) (by decide +kernel), List.mem_of_getElem? (i := 941) (by decide +kernel)⟩
theorem lw_p20 : lw_okq (⟨"BinderyDeskModel", "pageOn", "(III)I"⟩, 26) := ⟨⟨by decide +kernel, by decide +kernel⟩, List.mem_of_getElem? (i := 811) (by decide +kernel), List.mem_of_getElem? (i := 944) (by decide +kernel), List.mem_of_getElem? (i := 945) (by decide +kernel)⟩
theorem lw_p21 : lw_okq (⟨"BinderyDeskModel", "voids", "(II)I"⟩, 26) := ⟨⟨by decide +kernel, by decide +kernel⟩, List.mem_of_getElem? (i := 811) (by decide +kernel), List.mem_of_getElem? (i := 948) (by decide +kernel), List.mem_of_getElem? (i := 949) (by decide +kernel)⟩
theorem lw_p22 : lw_okq (⟨"BinderyDeskModel", "isJob", "(I)Z"⟩, 26) := ⟨⟨by decide +kernel, by decide +kernel⟩, List.mem_of_getElem? (i := 811) (by decide +kernel), List.mem_of_getElem? (i := 972) (by decide +kernel), List.mem_of_getElem? (i := 973) (by decide +kernel)⟩
theorem lw_p23 : lw_okq (⟨"BinderyDeskModel", "isSheet", "(II)Z"⟩, 26) := ⟨⟨by decide +kernel, by decide +kernel⟩, List.mem_of_getElem? (i := 811) (by decide +kernel), List.mem_of_getElem? (i := 980) (by decide +kernel), List.mem_of_getElem? (i := 981) (by decide +kernel)⟩
theorem lw_p24 : lw_okq (⟨"BinderyDeskModel", "ready", "(II)I"⟩, 26) := ⟨⟨by decide +kernel, by decide +kernel⟩, List.mem_of_getElem? (i := 811) (by decide +kernel), List.mem_of_getElem? (i := 992) (by decide +kernel), List.mem_of_getElem? (i := 993) (by decide +kernel)⟩
theorem lw_p25 : lw_okq (⟨"BinderyDeskModel", "plateOf", "(IIZ)I"⟩, 26) := ⟨⟨by decide +kernel, by decide +kernel⟩, List.mem_of_getElem? (i := 811) (by decide +kernel), List.mem_of_getElem? (i := 996) (by decide +kernel), List.mem_of_getElem? (i := 997) (by decide +kernel)⟩
theorem lw_p26 : lw_okq (⟨"BinderyDeskModel", "code", "(I)I"⟩, 26) := ⟨⟨by decide +kernel, by decide +kernel⟩, List.mem_of_getElem? (i := 811) (by decide +kernel), List.mem_of_getElem? (i := 1000) (by decide +kernel), List.mem_of_getElem? (i := 1001) (by decide +kernel)⟩
theorem lw_p27 : lw_okq (⟨"BinderyDeskModel", "makes", "(I)V"⟩, 26) := ⟨⟨by decide +kernel, by decide +kernel⟩, List.mem_of_getElem? (i := 811) (by decide +kernel), List.mem_of_getElem? (i := 1004) (by decide +kernel), List.mem_of_getElem? (i := 1005) (by decide +kernel)⟩
theorem lw_p28 : lw_okq (⟨"BinderyDeskModel", "isMade", "(I)Z"⟩, 26) := ⟨⟨by decide +kernel, by decide +kernel⟩, List.mem_of_getElem? (i := 811) (by decide +kernel), List.mem_of_getElem? (i := 1008) (by decide +kernel), List.mem_of_getElem? (i := 1009) (by decide +kernel)⟩
theorem lw_p29 : lw_okq (⟨"BinderyDeskModel", "least", "(I)I"⟩, 26) := ⟨⟨by decide +kernel, by decide +kernel⟩, List.mem_of_getElem? (i := 811) (by decide +kernel), List.mem_of_getElem? (i := 1020) (by decide +kernel), List.mem_of_getElem? (i := 1021) (by decide +kernel)⟩
theorem lw_p30 : lw_okq (⟨"BinderyDeskModel", "change", "(II)I"⟩, 26) := ⟨⟨by decide +kernel, by decide +kernel⟩, List.mem_of_getElem? (i := 811) (by decide +kernel), List.mem_of_getElem? (i := 1025) (by decide +kernel), List.mem_of_getElem? (i := 1026) (by decide +kernel)⟩
theorem lw_p31 : lw_okq (⟨"BinderyDeskModel", "missing", "(II)I"⟩, 26) := ⟨⟨by decide +kernel, by decide +kernel⟩, List.mem_of_getElem? (i := 811) (by decide +kernel), List.mem_of_getElem? (i := 1049) (by decide +kernel), List.mem_of_getElem? (i := 1050) (by decide +kernel)⟩
def lw_privs_2 : List (MethodName × Nat) := [(⟨"BinderyDeskModel", "places", "(I)I"⟩, 26), (⟨"BinderyDeskModel", "count", "(I)I"⟩, 26), (⟨"BinderyDeskModel", "isShown", "(III)Z"⟩, 26), (⟨"BinderyDeskModel", "contentOn", "(III)I"⟩, 26), (⟨"BinderyDeskModel", "pageOn", "(III)I"⟩, 26), (⟨"BinderyDeskModel", "voids", "(II)I"⟩, 26), (⟨"BinderyDeskModel", "isJob", "(I)Z"⟩, 26), (⟨"BinderyDeskModel", "isSheet", "(II)Z"⟩, 26), (⟨"BinderyDeskModel", "ready", "(II)I"⟩, 26), (⟨"BinderyDeskModel", "plateOf", "(IIZ)I"⟩, 26), (⟨"BinderyDeskModel", "code", "(I)I"⟩, 26), (⟨"BinderyDeskModel", "makes", "(I)V"⟩, 26), (⟨"BinderyDeskModel", "isMade", "(I)Z"⟩, 26), (⟨"BinderyDeskModel", "least", "(I)I"⟩, 26), (⟨"BinderyDeskModel", "change", "(II)I"⟩, 26), (⟨"BinderyDeskModel", "missing", "(II)I"⟩, 26)]
theorem lw_r2 : ∀ q ∈ lw_privs_2, lw_okq q := List.forall_mem_cons.mpr ⟨lw_p16, List.forall_mem_cons.mpr ⟨lw_p17, List.forall_mem_cons.mpr ⟨lw_p18, List.forall_mem_cons.mpr ⟨lw_p19, List.forall_mem_cons.mpr ⟨lw_p20, List.forall_mem_cons.mpr ⟨lw_p21, List.forall_mem_cons.mpr ⟨lw_p22, List.forall_mem_cons.mpr ⟨lw_p23, List.forall_mem_cons.mpr ⟨lw_p24, List.forall_mem_cons.mpr ⟨lw_p25, List.forall_mem_cons.mpr ⟨lw_p26, List.forall_mem_cons.mpr ⟨lw_p27, List.forall_mem_cons.mpr ⟨lw_p28, List.forall_mem_cons.mpr ⟨lw_p29, List.forall_mem_cons.mpr ⟨lw_p30, List.forall_mem_cons.mpr ⟨lw_p31, fun _ h => absurd h List.not_mem_nil⟩⟩⟩⟩⟩⟩⟩⟩⟩⟩⟩⟩⟩⟩⟩⟩
def lw_privs : List (MethodName × Nat) := lw_privs_1 ++ (lw_privs_2)
def lw_tbl : List Cond := k2_sels lw_privs ++ tables_1
theorem lw_privs_ok : ∀ q ∈ lw_privs, lw_okq q := by
  show ∀ q ∈ lw_privs_1 ++ (lw_privs_2), lw_okq q
  exact List.forall_mem_append.mpr ⟨lw_r1, lw_r2⟩
/-- the streams that the claim lets the run draw from -/
abbrev lw_cs : List Choice := [Jvm.Choice.named "NaN.bits"]
theorem lw_bits : nanBits ∈ lw_cs := by first | decide | exact List.mem_cons_self | simp [lw_cs, nanBits]
end
section
/-! ===== BEGIN exceptions that leave a method, and their catching by the caller (launches without stack traces) ===== -/
section VXA
/-! The laws vx_back, vx_callV, vx_callS, vx_callSW, vx_throw0, vx_throwS follow proofs of the library, with one case more: JvmDerived/Free/Laws.lean (Back.of_free), Shelf42/LK1.lean (callV, callS), Shelf/KitTraced.lean (throwNew0V, throwNewS). -/
/-- where a method has thrown q: the class by its name, the cell, what was written, the world -/
def vx_T (XC : String → State → State → Prop) (st : State) (q : Addr) (t : State) (mc ms : Nat) (free : Addr → Prop) : Prop :=
  ∃ (E : String) (ce : Cell) (L : List Loc), XC E st t ∧ t.heap[q]? = some ce ∧ ce.vm = .none ∧ st.vm.findClass E = some ce.cls ∧ st.WarmedH t.vm ∧ st.sameButNew ({ t with vm := st.vm } : State) L mc ms ∧ ∀ z ∈ L, free z.base
def vx_Q (Qc : Array Value → State → Outcome → State → Prop) (XC : String → State → State → Prop) (mc ms : Nat) (free : Addr → Prop) : Array Value → State → Outcome → State → Prop := fun a st o t =>
  (Qc a st o t ∧ ∃ L, FrameEnd st o t L mc ms ∧ ∀ q ∈ L, free q.base) ∨ ∃ q, o = .threw q ∧ vx_T XC st q t mc ms free
/-- a callee that returns or throws -/
def vx_Met (l : Launch) (y : MethodName) (ws : List Cond) (rm : Room) (Pc : Array Value → State → Prop) (Qc : Array Value → State → Outcome → State → Prop) (XC : String → State → State → Prop) (mc ms : Nat) (free : Addr → Prop) : Prop :=
  MetFree l y (headSpec ws rm) Pc (fun _ _ _ _ _ => True) (vx_Q Qc XC mc ms free)
def vx_Post (XC : String → State → State → Prop) (mc ms : Nat) (free : Addr → Prop) : Pt → Array Value → Addr → Pt → Prop := fun A a q B =>
  ∃ (g : JFrame) (mk : MethodId) (t : State) (L : List Loc) (E : String) (ce : Cell), B.U.heap = t.heap ∧ B.U.vm = t.vm ∧ XC E (A.U.calling g mk a) t ∧ t.heap[q]? = some ce ∧ ce.vm = .none ∧ A.U.vm.findClass E = some ce.cls ∧ B.locs = A.locs ++ L ∧ (∀ z ∈ L, free z.base) ∧ B.cells = A.cells + mc ∧ B.slots = A.slots + ms
def vx_Back (l : Launch) (R : Room) (p : Program) (e : Env) (below : List Frame) (s : State) (sargs : Array Value) (y : MethodName) (len W9 : Nat)
    (Pre : Pt → Array Value → Prop) (Post : Pt → Array Value → Option Value → Pt → Prop) (PostX : Pt → Array Value → Addr → Pt → Prop) : Prop :=
  ∀ (m : MethodId) (meth : Method) (c : Code) (A : Pt) (g : JFrame) (ig : Instr) (mk : MethodId) (a : Array Value),
    Stand p l e R s m sargs below meth c A.U A.locs A.cells A.slots → g.method = m → g.locals.size = c.maxLocals → decode c.code g.pc = .ok (ig, len) →
    2 * g.monitorRoom + (g.stack.map fun v => v.category).sum ≤ W9 → A.U.methodNamed? y = some mk → Pre A a →
    (∃ (v : Option Value) (B : Pt), Stand p l e R s m sargs below meth c B.U B.locs B.cells B.slots ∧ Post A a v B ∧
      Steps p.tables e below (doInvoke e (A.U.setTop g) [] mk a).1 (B.U.setTop { g with pc := g.pc + len, stack := v.toList ++ g.stack })) ∨
    (∃ (q : Addr) (B : Pt), Stand p l e R s m sargs below meth c B.U B.locs B.cells B.slots ∧ PostX A a q B ∧
      Steps p.tables e below (doInvoke e (A.U.setTop g) [] mk a).1 ((B.U.setTop g).pushFrame (.throwing q)))
section Payer
variable {l : Launch} {R : Room} {p : Program} {e : Env} {below : List Frame} {s : State} {sargs : Array Value} {y : MethodName} {len W9 : Nat}
theorem vx_back {ws : List Cond} {rm : Room} {Pc : Array Value → State → Prop} {Qc : Array Value → State → Outcome → State → Prop} {XC : String → State → State → Prop} {mc ms : Nat} {free : Addr → Prop} {bytes : ByteArray} {maxL : Nat} {ret : Option FieldType}
    (hM : vx_Met l y ws rm Pc Qc XC mc ms free) (hblind : FrameBlind Pc) (hrc : rm.cells = mc) (hrs : rm.slots = ms)
    (hframes : rm.frames + 1 ≤ R.frames) (hlocals : W9 + (maxL + 11) + rm.locals ≤ R.locals)
    (hws : ∀ w ∈ ws, ∀ a' U, s.WarmedH U.vm → w.before a' U = true) (hcode : Cond.code y bytes maxL ret ∈ ws) (hinit : ∀ a' U, s.WarmedH U.vm → (Cond.initialized y.cls).before a' U = true) :
    vx_Back l R p e below s sargs y len W9 (PreOf R mc ms Pc) (PostOf Qc mc ms free) (vx_Post XC mc ms free) := by
  intro m meth c A g ig mk a X hg hsize hdg hW hn hp
  have h1 : (headSpec ws rm).pre.before a A.U = true := atoms_intro fun w hw => hws w hw _ _ X.warmed
  have h2 : (Cond.code y bytes maxL ret).before a A.U = true := hws _ hcode _ _ X.warmed
  have h3 : (Cond.initialized y.cls).before a A.U = true := hinit _ _ X.warmed
  have h4 : A.cells + (headSpec ws rm).room.cells ≤ R.cells := by rw [show (headSpec ws rm).room.cells = mc from hrc]; exact hp.1
  have h5 : A.slots + (headSpec ws rm).room.slots ≤ R.slots := by rw [show (headSpec ws rm).room.slots = ms from hrs]; exact hp.2.1
  have hPc : Pc a (A.U.calling g mk a) := hblind _ _ _ _ hp.2.2
  obtain ⟨U, Ls, c0, s0⟩ := A
  dsimp only [Pt.U, Pt.locs, Pt.cells, Pt.slots] at h1 h2 h3 h4 h5 X hn hPc ⊢
  obtain ⟨methY, cY, hmY, hcY, -, hlY, -, -, -, -⟩ := Cond.code_spec hn h2
  obtain ⟨kY, hkY, -⟩ := className_of_methodNamed hn
  have hinitY : kY.init = .initialized := Cond.initialized_spec (findClass_of_methodNamed hn) hkY h3
  have h : At U g.method c below := by rw [hg]; exact X.here
  have hlocals9 : W9 + (maxL + 11) + (headSpec ws rm).room.locals ≤ R.locals := hlocals
  have happ : (headSpec ws rm).appliesLoose y e.platform (U.calling g mk a) = true :=
    Spec.appliesLoose_calling (g := g) h hdg hn hkY hinitY
      (X.room_calling (g := g) (R' := (headSpec ws rm).room) hsize hmY hcY hframes (by rw [hlY]; omega) h4 h5) h1
  obtain ⟨mid, hmid⟩ := h.above
  have hfr : (U.setTop g).frames = (.java g :: mid) ++ below := by rw [State.frames_setTop' g h.top, hmid]; rfl
  obtain ⟨o, s₂, hsteps, -, hend, hq⟩ := Steps.callFree hM p X.admits X.cas X.clock (acts := []) hfr happ hPc trivial
  have hq' : vx_Q Qc XC mc ms free a (U.calling g mk a) o s₂ := hq
  rw [State.frames_setTop' g h.top] at hend
  obtain ⟨g₀, hg0⟩ := Option.isSome_iff_exists.mp h.top
  obtain ⟨r, hr⟩ := State.topJava?_eq_some.mp hg0
  have hr' : (({ U with heap := s₂.heap, slotsUsed := s₂.slotsUsed } : State).setVm s₂.vm).frames = .java g₀ :: r := hr
  rcases hq' with ⟨hqc, L, hfe, hL⟩ | ⟨q, rfl, E, ce, L, hx, hce, hcv, hcl, hW₂, hsm, hL⟩
  · obtain ⟨⟨v, rfl⟩, hW₂, e2, q2, q3, q4, q5, q6⟩ := id hfe
    have e3 : s₂ = ({ (U.calling g mk a).setFrames s₂.frames with heap := s₂.heap, slotsUsed := s₂.slotsUsed } : State).setVm s₂.vm := by
      have : s₂ = ({ s₂ with vm := (U.calling g mk a).vm } : State).setVm s₂.vm := rfl
      rw [e2] at this
      exact this
    obtain ⟨c₂, i₂, len₂, hc₂, hd₂, hf₂⟩ := hend
    have hW' : U.WarmedH s₂.vm := hW₂
    have hcc : c₂ = c := by
      have h1 : s₂.code? g.method = U.code? g.method := by
        rw [State.code?_eq, State.code?_eq, hW'.alike.method?]
      exact Option.some.inj (hc₂.symm.trans (h1.trans h.code))
    subst hcc
    have hlen : len₂ = len := by rw [hdg] at hd₂; cases hd₂; rfl
    subst hlen
    have hs₂ : s₂ = (({ U with heap := s₂.heap, slotsUsed := s₂.slotsUsed } : State).setVm s₂.vm).setTop { g with pc := g.pc + len₂, stack := v.toList ++ g.stack } := by
      refine e3.trans ?_
      rw [hf₂, State.calling_eq h.top, State.setFrames_setFrames, State.setTop_of_frames _ hr', hr]
      rfl
    have hsame : U.sameButNew ({ U with heap := s₂.heap, slotsUsed := s₂.slotsUsed } : State) L mc ms := by
      refine ⟨?_, q2, q3, q4, q5, q6⟩
      obtain ⟨t, ht, -⟩ := State.frames_cons hr
      show ({ U with heap := s₂.heap, slotsUsed := s₂.slotsUsed } : State) = { U.setFrames U.frames with heap := s₂.heap, slotsUsed := s₂.slotsUsed }
      rw [State.setFrames_self ht]
    subst hg
    refine Or.inl ⟨v, ⟨(({ U with heap := s₂.heap, slotsUsed := s₂.slotsUsed } : State).setVm s₂.vm), Ls ++ L, c0 + mc, s0 + ms⟩,
      ⟨X.admits, X.cas, X.clock, X.frames, X.room, X.hears, X.method, X.code, (X.here.setHeapUsed s₂.heap s₂.slotsUsed).setVm hW'.alike, X.tail, State.WarmedH.trans X.warmed hW', X.limits, X.bytes, X.same.trans (hsame.setVm s.vm)⟩,
      ⟨g, mk, s₂, L, rfl, rfl, hqc, rfl, hL, rfl, rfl⟩, ?_⟩
    show Steps p.tables e below _ ((({ U with heap := s₂.heap, slotsUsed := s₂.slotsUsed } : State).setVm s₂.vm).setTop { g with pc := g.pc + len₂, stack := v.toList ++ g.stack })
    rw [← hs₂]
    exact hsteps
  · obtain ⟨e2, q2, q3, q4, q5, q6⟩ := id hsm
    have e3 : s₂ = ({ (U.calling g mk a).setFrames s₂.frames with heap := s₂.heap, slotsUsed := s₂.slotsUsed } : State).setVm s₂.vm := by
      have : s₂ = ({ s₂ with vm := (U.calling g mk a).vm } : State).setVm s₂.vm := rfl
      rw [e2] at this
      exact this
    have hf₂ : s₂.frames = .throwing q :: .java g :: U.frames.tail := hend
    have hW' : U.WarmedH s₂.vm := hW₂
    have hs₂ : s₂ = ((({ U with heap := s₂.heap, slotsUsed := s₂.slotsUsed } : State).setVm s₂.vm).setTop g).pushFrame (.throwing q) := by
      refine e3.trans ?_
      rw [hf₂, State.calling_eq h.top, State.setFrames_setFrames, State.pushFrame, State.frames_setTop _ hr', State.setTop_of_frames _ hr', State.setFrames_setFrames, hr]
      rfl
    have hsame : U.sameButNew ({ U with heap := s₂.heap, slotsUsed := s₂.slotsUsed } : State) L mc ms := by
      refine ⟨?_, q2, q3, q4, q5, q6⟩
      obtain ⟨t, ht, -⟩ := State.frames_cons hr
      show ({ U with heap := s₂.heap, slotsUsed := s₂.slotsUsed } : State) = { U.setFrames U.frames with heap := s₂.heap, slotsUsed := s₂.slotsUsed }
      rw [State.setFrames_self ht]
    subst hg
    refine Or.inr ⟨q, ⟨(({ U with heap := s₂.heap, slotsUsed := s₂.slotsUsed } : State).setVm s₂.vm), Ls ++ L, c0 + mc, s0 + ms⟩,
      ⟨X.admits, X.cas, X.clock, X.frames, X.room, X.hears, X.method, X.code, (X.here.setHeapUsed s₂.heap s₂.slotsUsed).setVm hW'.alike, X.tail, State.WarmedH.trans X.warmed hW', X.limits, X.bytes, X.same.trans (hsame.setVm s.vm)⟩,
      ⟨g, mk, s₂, L, E, ce, rfl, rfl, hx, hce, hcv, hcl, rfl, hL, rfl, rfl⟩, ?_⟩
    show Steps p.tables e below _ (((({ U with heap := s₂.heap, slotsUsed := s₂.slotsUsed } : State).setVm s₂.vm).setTop g).pushFrame (.throwing q))
    rw [← hs₂]
    exact hsteps
end Payer
section Calls
variable {p : Program} {l : Launch} {e : Env} {R : Room} {s : State} {m : MethodId} {args : Array Value} {below : List Frame} {meth : Method} {c : Code} {T : State} {locs : List Loc} {cells slots : Nat}
theorem vx_callV (X : Stand p l e R s m args below meth c T locs cells slots) (hexec : p.tables.exec = Jvm.exec) {own C : String} {index : Nat} {y : MethodName} {bytes : ByteArray} {maxL : Nat} {ret : Option FieldType}
    (hown : s.vm.findClass own = some m.cls) (hlink : (Cond.methodLink own index y).before args s = true) (hinst : (Cond.instanceMethod y).before args s = true) (hsel : (Cond.selects C y y).before args s = true)
    (hcode : (Cond.code y bytes maxL ret).before args s = true) (hy : y.cls ≠ "java/lang/invoke/MethodHandle" ∧ y.cls ≠ "java/lang/invoke/VarHandle")
    {W9 : Nat} {Pre : Pt → Array Value → Prop} {Post : Pt → Array Value → Option Value → Pt → Prop} {PostX : Pt → Array Value → Addr → Pt → Prop} (hK : vx_Back l R p e below s args y 3 W9 Pre Post PostX)
    {b : Addr} {cellB : Cell} (hcell : T.heap[b]? = some cellB) (hobj : cellB.vm.isStatics = false) (hcls : s.vm.findClass C = some cellB.cls)
    {g : JFrame} (hg : g.method = m) (hsize : g.locals.size = c.maxLocals) {argsL rest : List Value} (hlen : ∀ sig, parseMethodDescriptor y.desc = some sig → argsL.length = sig.parameters.length)
    (hstack : g.stack = argsL.reverse ++ .ref b :: rest) (hW : 2 * g.monitorRoom + (rest.map fun v => v.category).sum ≤ W9) (hdg : decode c.code g.pc = .ok (.invokevirtual index, 3))
    (hpre : ∀ vm₁, s.WarmedH vm₁ → Pre ⟨T.setVm vm₁, locs, cells, slots⟩ (Value.ref b :: argsL).toArray) :
    (∃ (v : Option Value) (vm₁ : Vm) (B : Pt), s.WarmedH vm₁ ∧ Stand p l e R s m args below meth c B.U B.locs B.cells B.slots ∧ Post ⟨T.setVm vm₁, locs, cells, slots⟩ (Value.ref b :: argsL).toArray v B ∧
      ∀ target, Steps p.tables e below (B.U.setTop { g with pc := g.pc + 3, stack := v.toList ++ rest }) target → Steps p.tables e below (T.setTop g) target) ∨
    (∃ (q : Addr) (vm₁ : Vm) (B : Pt), s.WarmedH vm₁ ∧ Stand p l e R s m args below meth c B.U B.locs B.cells B.slots ∧ PostX ⟨T.setVm vm₁, locs, cells, slots⟩ (Value.ref b :: argsL).toArray q B ∧
      Steps p.tables e below (T.setTop g) ((B.U.setTop { g with stack := rest }).pushFrame (.throwing q))) := by
  obtain ⟨mk, methM, hnamed, hmethM, hstM, habM⟩ := Cond.instanceMethod_spec hinst
  obtain ⟨methM', cM, hmethM', -, -, -, -, -, -, hsigM⟩ := Cond.code_spec hnamed hcode
  cases hmethM.symm.trans hmethM'
  obtain ⟨c2, r2, m2, q1, q2, q3, q4, kP, hkP, hkPi⟩ := Cond.selects_spec hsel
  cases hcls.symm.trans q1
  cases (State.methodFound?_of_named hnamed hy).symm.trans q2
  cases hnamed.symm.trans q3
  have hselP : selectMethod e.platform s.vm cellB.cls mk = .method mk := by rw [Launch.admits_selectMethod X.admits]; exact q4
  obtain ⟨vm₁, X₁, hstep₁⟩ := X.invokevirtual hexec hown hlink hnamed hmethM hstM hkP hkPi hy (a := b) (cell := cellB) hcell
    (fun z h => by rw [h] at hobj; cases hobj) hselP hmethM habM hkP hkPi (g := g) hg (argsL := argsL) (rest := rest) (hlen _ hsigM) hstack hdg
  rcases hK m meth c ⟨T.setVm vm₁, locs, cells, slots⟩ { g with stack := rest } (.invokevirtual index) mk (Value.ref b :: argsL).toArray X₁ hg hsize hdg hW (X₁.named hnamed) (hpre vm₁ X₁.warmed) with ⟨v, B, X', hpost, hsteps⟩ | ⟨q, B, X', hpost, hsteps⟩
  · exact Or.inl ⟨v, vm₁, B, X₁.warmed, X', hpost, fun target h => hstep₁ _ fun acts => by rw [doInvoke_state]; exact hsteps.trans h⟩
  · exact Or.inr ⟨q, vm₁, B, X₁.warmed, X', hpost, hstep₁ _ fun acts => by rw [doInvoke_state]; exact hsteps⟩
theorem vx_callS (X : Stand p l e R s m args below meth c T locs cells slots) (hexec : p.tables.exec = Jvm.exec) {own : String} {index : Nat} {y : MethodName} {bytes : ByteArray} {maxL : Nat} {ret : Option FieldType}
    (hown : s.vm.findClass own = some m.cls) (hlink : (Cond.methodLink own index y).before args s = true) (hstat : (Cond.static y).before args s = true) (hinit : (Cond.initialized y.cls).before args s = true)
    (hcode : (Cond.code y bytes maxL ret).before args s = true) (hy : y.cls ≠ "java/lang/invoke/MethodHandle" ∧ y.cls ≠ "java/lang/invoke/VarHandle")
    {W9 : Nat} {Pre : Pt → Array Value → Prop} {Post : Pt → Array Value → Option Value → Pt → Prop} {PostX : Pt → Array Value → Addr → Pt → Prop} (hK : vx_Back l R p e below s args y 3 W9 Pre Post PostX)
    {g : JFrame} (hg : g.method = m) (hsize : g.locals.size = c.maxLocals) {argsL rest : List Value} (hlen : ∀ sig, parseMethodDescriptor y.desc = some sig → argsL.length = sig.parameters.length)
    (hstack : g.stack = argsL.reverse ++ rest) (hW : 2 * g.monitorRoom + (rest.map fun v => v.category).sum ≤ W9) (hdg : decode c.code g.pc = .ok (.invokestatic index, 3))
    (hpre : ∀ vm₁, s.WarmedH vm₁ → Pre ⟨T.setVm vm₁, locs, cells, slots⟩ argsL.toArray) :
    (∃ (v : Option Value) (vm₁ : Vm) (B : Pt), s.WarmedH vm₁ ∧ Stand p l e R s m args below meth c B.U B.locs B.cells B.slots ∧ Post ⟨T.setVm vm₁, locs, cells, slots⟩ argsL.toArray v B ∧
      ∀ target, Steps p.tables e below (B.U.setTop { g with pc := g.pc + 3, stack := v.toList ++ rest }) target → Steps p.tables e below (T.setTop g) target) ∨
    (∃ (q : Addr) (vm₁ : Vm) (B : Pt), s.WarmedH vm₁ ∧ Stand p l e R s m args below meth c B.U B.locs B.cells B.slots ∧ PostX ⟨T.setVm vm₁, locs, cells, slots⟩ argsL.toArray q B ∧
      Steps p.tables e below (T.setTop g) ((B.U.setTop { g with stack := rest }).pushFrame (.throwing q))) := by
  obtain ⟨mk, hnamed⟩ := Cond.code_named hcode
  obtain ⟨methM, cM, hmethM, -, -, -, -, -, -, hsigM⟩ := Cond.code_spec hnamed hcode
  have hstatic : methM.isStatic = true := Cond.static_spec hnamed hmethM hstat
  obtain ⟨kP, hkP, -⟩ := className_of_methodNamed hnamed
  have hinitP : kP.init = .initialized := Cond.initialized_spec (findClass_of_methodNamed hnamed) hkP hinit
  obtain ⟨vm₁, X₁, hstep₁⟩ := X.invokestatic hexec hown hlink hnamed hmethM hstatic hkP hinitP hy (g := g) hg (argsL := argsL) (rest := rest) (hlen _ hsigM) hstack hdg
  rcases hK m meth c ⟨T.setVm vm₁, locs, cells, slots⟩ { g with stack := rest } (.invokestatic index) mk argsL.toArray X₁ hg hsize hdg hW (X₁.named hnamed) (hpre vm₁ X₁.warmed) with ⟨v, B, X', hpost, hsteps⟩ | ⟨q, B, X', hpost, hsteps⟩
  · exact Or.inl ⟨v, vm₁, B, X₁.warmed, X', hpost, fun target h => hstep₁ _ fun acts => by rw [doInvoke_state]; exact hsteps.trans h⟩
  · exact Or.inr ⟨q, vm₁, B, X₁.warmed, X', hpost, hstep₁ _ fun acts => by rw [doInvoke_state]; exact hsteps⟩
end Calls
theorem vx_cls {s : State} {T : State} {vm₁ : Vm} {E : String} {k : ClassId} (hW : s.WarmedH vm₁) (h : (T.setVm vm₁).vm.findClass E = some k) : s.vm.findClass E = some k := by
  have h1 : vm₁.findClass E = some k := h
  rw [hW.alike.findClass] at h1
  exact h1
/-- the method's frame g, with q thrown over it -/
def vx_W (p : Program) (l : Launch) (e : Env) (R : Room) (s : State) (m : MethodId) (args : Array Value) (below : List Frame) (meth : Method) (c : Code) (H : Heap) (locs : List Loc) (cells slots : Nat) (Q : State → Prop) (g : JFrame) (q : Addr) : Prop :=
  ∀ T : State, T.heap = H → Stand p l e R s m args below meth c T locs cells slots → ∃ t, Steps p.tables e below ((T.setTop g).pushFrame (.throwing q)) t ∧ Q t
def vx_Run (p : Program) (l : Launch) (e : Env) (R : Room) (s : State) (m : MethodId) (args : Array Value) (below : List Frame) (meth : Method) (c : Code) (H : Heap) (locs : List Loc) (cells slots mc ms : Nat) (g : JFrame) (rest : List Value) (Qa : State → Outcome → State → Prop) (XC : String → State → State → Prop) (free : Addr → Prop) : Prop :=
  ∀ T : State, T.heap = H → Stand p l e R s m args below meth c T locs cells slots →
    (∃ (v : Option Value) (st₀ t T' : State) (L : List Loc), st₀.heap = H ∧ Stand p l e R s m args below meth c T' (locs ++ L) (cells + mc) (slots + ms) ∧ (∀ q ∈ L, free q.base) ∧ T'.heap = t.heap ∧ T'.vm = t.vm ∧ Qa st₀ (.returned v) t ∧
      Goes p e below T g T' { g with pc := g.pc + 3, stack := v.toList ++ rest }) ∨
    (∃ (q : Addr) (st₀ t T' : State) (L : List Loc) (E : String) (ce : Cell), st₀.heap = H ∧ Stand p l e R s m args below meth c T' (locs ++ L) (cells + mc) (slots + ms) ∧ (∀ z ∈ L, free z.base) ∧ T'.heap = t.heap ∧ T'.vm = t.vm ∧ XC E st₀ t ∧ t.heap[q]? = some ce ∧ ce.vm = .none ∧ s.vm.findClass E = some ce.cls ∧
      Steps p.tables e below (T.setTop g) ((T'.setTop { g with stack := rest }).pushFrame (.throwing q)))
def vx_X {S : Type} (px : S → Prop) (B : String → S → State → Prop) (A : Nat → Prop) : String → State → State → Prop := fun E st t => ∃ u : S, px u ∧ B E u t ∧ va_F A st t
section Runs
variable {p : Program} {l : Launch} {e : Env} {R : Room} {s : State} {m : MethodId} {args : Array Value} {below : List Frame} {meth : Method} {c : Code} {H : Heap} {locs : List Loc} {cells slots : Nat}
variable {y : MethodName} {bytes cc : ByteArray} {maxL nL mc ms n index : Nat} {ret : Option FieldType} {ws : List Cond} {rm : Room} {Pc : Array Value → State → Prop} {Qc : Array Value → State → Outcome → State → Prop} {XC : String → State → State → Prop} {free : Addr → Prop} {Ts : List Cond} {own C : String} {b : Addr} {As rest : List Value} {g : JFrame}
theorem vx_callBack (cb : CallB R s args own index y bytes maxL ret ws rm mc ms n) (hM : vx_Met l y ws rm Pc Qc XC mc ms free) (hbl : FrameBlind Pc) : vx_Back l R p e below s args y 3 8 (PreOf R mc ms Pc) (PostOf Qc mc ms free) (vx_Post XC mc ms free) := by
  obtain ⟨hrc, hrs, hfr, hlo, hws, hcw, -, hini, -⟩ := cb
  exact vx_back (bytes := bytes) (maxL := maxL) (ret := ret) hM hbl hrc hrs hfr hlo hws hcw (fun a' U hW => word_at hW (Or.inl (by first | rfl | simp [Cond.onTables, Cond.keeps, Cond.steady])) hini)
theorem vx_runV (S : CallFix p m c cc nL s args Ts own) (hM : vx_Met l y ws rm Pc Qc XC mc ms free) (cw : CallW R s args own C index y bytes maxL ret ws rm mc ms n) (hp : PreV s H C b Pc As)
    (hg : g.method = m) (hn : As.length = n) (hsize : g.locals.size = nL) (hstack : g.stack = As.reverse ++ .ref b :: rest) (hW : 2 * g.monitorRoom + (rest.map fun v => v.category).sum ≤ 8) (hdg : decode cc g.pc = .ok (.invokevirtual index, 3)) (hf : cells + mc ≤ R.cells ∧ slots + ms ≤ R.slots) :
    vx_Run p l e R s m args below meth c H locs cells slots mc ms g rest (Qc (Value.ref b :: As).toArray) XC free := by
  have hK : vx_Back l R p e below s args y 3 8 (PreOf R mc ms Pc) (PostOf Qc mc ms free) (vx_Post XC mc ms free) := vx_callBack cw.1 hM hp.1
  obtain ⟨⟨-, -, -, -, -, -, hcode, -, hy, hlen, hl⟩, hin, hse⟩ := cw
  obtain ⟨hx, hb, hml, ho, -⟩ := S
  obtain ⟨-, ⟨cellB, hcB, hoB, hclB⟩, hPc⟩ := hp
  intro T hT X
  rcases vx_callV X hx (C := C) (bytes := bytes) (maxL := maxL) (ret := ret) ho hl hin hse hcode hy hK (by rw [hT]; exact hcB) hoB hclB hg (hsize.trans hml.symm) (argsL := As) (rest := rest) (fun sig h => hn.trans (hlen sig h)) hstack hW (by rw [hb]; exact hdg)
    (fun vm₁ hW₁ => ⟨hf.1, hf.2, hPc (T.setVm vm₁) hT hW₁⟩) with ⟨v, vm₁, ⟨U', l2, c2, s2⟩, hW₁, X', ⟨g', mk, t, L, e1, e2, hq, h1, hL, h2, h3⟩, st⟩ | ⟨q, vm₁, ⟨U', l2, c2, s2⟩, hW₁, X', ⟨g', mk, t, L, E, ce, e1, e2, hq, hce, hcv, hcl, h1, hL, h2, h3⟩, st⟩
  · dsimp only [Pt.U, Pt.locs, Pt.cells, Pt.slots] at X' e1 e2 h1 h2 h3 st
    subst h1; subst h2; subst h3
    exact Or.inl ⟨v, (T.setVm vm₁).calling g' mk (Value.ref b :: As).toArray, t, U', L, hT, X', hL, e1, e2, hq, st⟩
  · dsimp only [Pt.U, Pt.locs, Pt.cells, Pt.slots] at X' e1 e2 h1 h2 h3 st hcl
    subst h1; subst h2; subst h3
    exact Or.inr ⟨q, (T.setVm vm₁).calling g' mk (Value.ref b :: As).toArray, t, U', L, E, ce, hT, X', hL, e1, e2, hq, hce, hcv, vx_cls hW₁ hcl, st⟩
theorem vx_runS (S : CallFix p m c cc nL s args Ts own) (hM : vx_Met l y ws rm Pc Qc XC mc ms free) (cw : CallB R s args own index y bytes maxL ret ws rm mc ms n ∧ (Cond.static y).before args s = true) (hp : PreS s H Pc As)
    (hg : g.method = m) (hn : As.length = n) (hsize : g.locals.size = nL) (hstack : g.stack = As.reverse ++ rest) (hW : 2 * g.monitorRoom + (rest.map fun v => v.category).sum ≤ 8) (hdg : decode cc g.pc = .ok (.invokestatic index, 3)) (hf : cells + mc ≤ R.cells ∧ slots + ms ≤ R.slots) :
    vx_Run p l e R s m args below meth c H locs cells slots mc ms g rest (Qc As.toArray) XC free := by
  have hK : vx_Back l R p e below s args y 3 8 (PreOf R mc ms Pc) (PostOf Qc mc ms free) (vx_Post XC mc ms free) := vx_callBack cw.1 hM hp.1
  obtain ⟨⟨-, -, -, -, -, -, hcode, hini, hy, hlen, hl⟩, hstt⟩ := cw
  obtain ⟨hx, hb, hml, ho, -⟩ := S
  intro T hT X
  rcases vx_callS X hx (bytes := bytes) (maxL := maxL) (ret := ret) ho hl hstt hini hcode hy hK hg (hsize.trans hml.symm) (argsL := As) (rest := rest) (fun sig h => hn.trans (hlen sig h)) hstack hW (by rw [hb]; exact hdg)
    (fun vm₁ hW₁ => ⟨hf.1, hf.2, hp.2 (T.setVm vm₁) hT hW₁⟩) with ⟨v, vm₁, ⟨U', l2, c2, s2⟩, hW₁, X', ⟨g', mk, t, L, e1, e2, hq, h1, hL, h2, h3⟩, st⟩ | ⟨q, vm₁, ⟨U', l2, c2, s2⟩, hW₁, X', ⟨g', mk, t, L, E, ce, e1, e2, hq, hce, hcv, hcl, h1, hL, h2, h3⟩, st⟩
  · dsimp only [Pt.U, Pt.locs, Pt.cells, Pt.slots] at X' e1 e2 h1 h2 h3 st
    subst h1; subst h2; subst h3
    exact Or.inl ⟨v, (T.setVm vm₁).calling g' mk As.toArray, t, U', L, hT, X', hL, e1, e2, hq, st⟩
  · dsimp only [Pt.U, Pt.locs, Pt.cells, Pt.slots] at X' e1 e2 h1 h2 h3 st hcl
    subst h1; subst h2; subst h3
    exact Or.inr ⟨q, (T.setVm vm₁).calling g' mk As.toArray, t, U', L, E, ce, hT, X', hL, e1, e2, hq, hce, hcv, vx_cls hW₁ hcl, st⟩
end Runs
section Rows
variable {p : Program} {l : Launch} {e : Env} {R : Room} {s : State} {m : MethodId} {args : Array Value} {below : List Frame} {meth : Method} {c : Code} {H : Heap} {locs : List Loc} {cells slots : Nat} {Q : State → Prop}
variable {mc ms : Nat} {free : Addr → Prop} {A0 A1 : Nat → Prop} {H0 : Heap} {a : Array Value} {pc : Nat} {ls : Array Slot} {st0 rest : List Value}
theorem vx_keep {st₀ t T' : State} {L : List Loc} (h0 : st₀.heap = H) (e1 : T'.heap = t.heap) (hS : va_S A0 H0 H locs) (hA : ∀ q, q < H.size → A1 q → A0 q) (hf : ∀ q, free q → A0 q) (hL : ∀ q ∈ L, free q.base) (hF : va_F A1 st₀ t) :
    H.size ≤ T'.heap.size ∧ (∀ q : Nat, q < H.size → ¬ A1 q → T'.heap[q]? = H[q]?) ∧ va_S A0 H0 T'.heap (locs ++ L) := by
  obtain ⟨hz, hk⟩ := hF
  rw [h0] at hz hk
  exact ⟨by rw [e1]; exact hz, fun q h1 h2 => by rw [e1]; exact hk q h1 h2,
    ⟨Nat.le_trans hS.1 (by rw [e1]; exact hz), fun q h1 h2 => by rw [e1, hk q (Nat.lt_of_lt_of_le h1 hS.1) (fun z => h2 (hA q (Nat.lt_of_lt_of_le h1 hS.1) z))]; exact hS.2.1 q h1 h2, fun q hq => by
      rcases List.mem_append.mp hq with h | h
      · exact hS.2.2 q h
      · exact hf _ (hL q h)⟩⟩
theorem vx_calli {S SX : Type} {post : Int32 → S → Prop} {px : SX → Prop} {B : S → State → Prop} {BX : String → SX → State → Prop} {AX : Nat → Prop} (hr : vx_Run p l e R s m args below meth c H locs cells slots mc ms (F0 m pc ls st0) rest (va_Qi post B A1 a) (vx_X px BX AX) free) (hS : va_S A0 H0 H locs) (hA : ∀ q, q < H.size → A1 q → A0 q) (hf : ∀ q, free q → A0 q) (hAX : ∀ q, q < H.size → AX q → A0 q)
    (kx : ∀ (E : String) (ce : Cell) (q9 : Addr) (u : SX) (t : State) (H1 : Heap) (locs1 : List Loc), t.heap = H1 → s.vm.Alike t.vm → px u → BX E u t → H.size ≤ H1.size → (∀ q : Nat, q < H.size → ¬ AX q → H1[q]? = H[q]?) → va_S A0 H0 H1 locs1 → H1[q9]? = some ce → ce.vm = .none → s.vm.findClass E = some ce.cls → vx_W p l e R s m args below meth c H1 locs1 (cells + mc) (slots + ms) Q (F0 m pc ls rest) q9)
    (kk : ∀ (r : Int32) (u : S) (t : State) (H1 : Heap) (locs1 : List Loc), t.heap = H1 → s.vm.Alike t.vm → post r u → B u t → H.size ≤ H1.size → (∀ q : Nat, q < H.size → ¬ A1 q → H1[q]? = H[q]?) → va_S A0 H0 H1 locs1 → W p l e R s m args below meth c H1 locs1 (cells + mc) (slots + ms) Q (F0 m (pc + 3) ls (.int r :: rest))) : W p l e R s m args below meth c H locs cells slots Q (F0 m pc ls st0) := by
  intro T hT X
  rcases hr T hT X with ⟨v, st₀, t, T', L, h0, X', hL, e1, e2, ⟨⟨r, u, hv, hp, hb⟩, hF⟩, st⟩ | ⟨q, st₀, t, T', L, E, ce, h0, X', hL, e1, e2, ⟨u, hp, hb, hF⟩, hce, hcv, hcl, st⟩
  · cases hv
    obtain ⟨k1, k2, k3⟩ := vx_keep h0 e1 hS hA hf hL hF
    obtain ⟨t2, a1, b1⟩ := kk r u t T'.heap (locs ++ L) e1.symm (by rw [← e2]; exact X'.warmed.alike) hp hb k1 k2 k3 T' rfl X'
    exact ⟨t2, st t2 a1, b1⟩
  · obtain ⟨k1, k2, k3⟩ := vx_keep h0 e1 hS hAX hf hL hF
    obtain ⟨t2, a1, b1⟩ := kx E ce q u t T'.heap (locs ++ L) e1.symm (by rw [← e2]; exact X'.warmed.alike) hp hb k1 k2 k3 (by rw [e1]; exact hce) hcv hcl T' rfl X'
    exact ⟨t2, st.trans a1, b1⟩
theorem vx_calll {S SX : Type} {post : Int64 → S → Prop} {px : SX → Prop} {B : S → State → Prop} {BX : String → SX → State → Prop} {AX : Nat → Prop} (hr : vx_Run p l e R s m args below meth c H locs cells slots mc ms (F0 m pc ls st0) rest (va_Ql post B A1 a) (vx_X px BX AX) free) (hS : va_S A0 H0 H locs) (hA : ∀ q, q < H.size → A1 q → A0 q) (hf : ∀ q, free q → A0 q) (hAX : ∀ q, q < H.size → AX q → A0 q)
    (kx : ∀ (E : String) (ce : Cell) (q9 : Addr) (u : SX) (t : State) (H1 : Heap) (locs1 : List Loc), t.heap = H1 → s.vm.Alike t.vm → px u → BX E u t → H.size ≤ H1.size → (∀ q : Nat, q < H.size → ¬ AX q → H1[q]? = H[q]?) → va_S A0 H0 H1 locs1 → H1[q9]? = some ce → ce.vm = .none → s.vm.findClass E = some ce.cls → vx_W p l e R s m args below meth c H1 locs1 (cells + mc) (slots + ms) Q (F0 m pc ls rest) q9)
    (kk : ∀ (r : Int64) (u : S) (t : State) (H1 : Heap) (locs1 : List Loc), t.heap = H1 → s.vm.Alike t.vm → post r u → B u t → H.size ≤ H1.size → (∀ q : Nat, q < H.size → ¬ A1 q → H1[q]? = H[q]?) → va_S A0 H0 H1 locs1 → W p l e R s m args below meth c H1 locs1 (cells + mc) (slots + ms) Q (F0 m (pc + 3) ls (.long r :: rest))) : W p l e R s m args below meth c H locs cells slots Q (F0 m pc ls st0) := by
  intro T hT X
  rcases hr T hT X with ⟨v, st₀, t, T', L, h0, X', hL, e1, e2, ⟨⟨r, u, hv, hp, hb⟩, hF⟩, st⟩ | ⟨q, st₀, t, T', L, E, ce, h0, X', hL, e1, e2, ⟨u, hp, hb, hF⟩, hce, hcv, hcl, st⟩
  · cases hv
    obtain ⟨k1, k2, k3⟩ := vx_keep h0 e1 hS hA hf hL hF
    obtain ⟨t2, a1, b1⟩ := kk r u t T'.heap (locs ++ L) e1.symm (by rw [← e2]; exact X'.warmed.alike) hp hb k1 k2 k3 T' rfl X'
    exact ⟨t2, st t2 a1, b1⟩
  · obtain ⟨k1, k2, k3⟩ := vx_keep h0 e1 hS hAX hf hL hF
    obtain ⟨t2, a1, b1⟩ := kx E ce q u t T'.heap (locs ++ L) e1.symm (by rw [← e2]; exact X'.warmed.alike) hp hb k1 k2 k3 (by rw [e1]; exact hce) hcv hcl T' rfl X'
    exact ⟨t2, st.trans a1, b1⟩
theorem vx_callf {S SX : Type} {post : UInt32 → S → Prop} {px : SX → Prop} {B : S → State → Prop} {BX : String → SX → State → Prop} {AX : Nat → Prop} (hr : vx_Run p l e R s m args below meth c H locs cells slots mc ms (F0 m pc ls st0) rest (va_Qf post B A1 a) (vx_X px BX AX) free) (hS : va_S A0 H0 H locs) (hA : ∀ q, q < H.size → A1 q → A0 q) (hf : ∀ q, free q → A0 q) (hAX : ∀ q, q < H.size → AX q → A0 q)
    (kx : ∀ (E : String) (ce : Cell) (q9 : Addr) (u : SX) (t : State) (H1 : Heap) (locs1 : List Loc), t.heap = H1 → s.vm.Alike t.vm → px u → BX E u t → H.size ≤ H1.size → (∀ q : Nat, q < H.size → ¬ AX q → H1[q]? = H[q]?) → va_S A0 H0 H1 locs1 → H1[q9]? = some ce → ce.vm = .none → s.vm.findClass E = some ce.cls → vx_W p l e R s m args below meth c H1 locs1 (cells + mc) (slots + ms) Q (F0 m pc ls rest) q9)
    (kk : ∀ (r : UInt32) (u : S) (t : State) (H1 : Heap) (locs1 : List Loc), t.heap = H1 → s.vm.Alike t.vm → post r u → B u t → H.size ≤ H1.size → (∀ q : Nat, q < H.size → ¬ A1 q → H1[q]? = H[q]?) → va_S A0 H0 H1 locs1 → W p l e R s m args below meth c H1 locs1 (cells + mc) (slots + ms) Q (F0 m (pc + 3) ls (.float r :: rest))) : W p l e R s m args below meth c H locs cells slots Q (F0 m pc ls st0) := by
  intro T hT X
  rcases hr T hT X with ⟨v, st₀, t, T', L, h0, X', hL, e1, e2, ⟨⟨r, u, hv, hp, hb⟩, hF⟩, st⟩ | ⟨q, st₀, t, T', L, E, ce, h0, X', hL, e1, e2, ⟨u, hp, hb, hF⟩, hce, hcv, hcl, st⟩
  · cases hv
    obtain ⟨k1, k2, k3⟩ := vx_keep h0 e1 hS hA hf hL hF
    obtain ⟨t2, a1, b1⟩ := kk r u t T'.heap (locs ++ L) e1.symm (by rw [← e2]; exact X'.warmed.alike) hp hb k1 k2 k3 T' rfl X'
    exact ⟨t2, st t2 a1, b1⟩
  · obtain ⟨k1, k2, k3⟩ := vx_keep h0 e1 hS hAX hf hL hF
    obtain ⟨t2, a1, b1⟩ := kx E ce q u t T'.heap (locs ++ L) e1.symm (by rw [← e2]; exact X'.warmed.alike) hp hb k1 k2 k3 (by rw [e1]; exact hce) hcv hcl T' rfl X'
    exact ⟨t2, st.trans a1, b1⟩
theorem vx_calld {S SX : Type} {post : UInt64 → S → Prop} {px : SX → Prop} {B : S → State → Prop} {BX : String → SX → State → Prop} {AX : Nat → Prop} (hr : vx_Run p l e R s m args below meth c H locs cells slots mc ms (F0 m pc ls st0) rest (va_Qd post B A1 a) (vx_X px BX AX) free) (hS : va_S A0 H0 H locs) (hA : ∀ q, q < H.size → A1 q → A0 q) (hf : ∀ q, free q → A0 q) (hAX : ∀ q, q < H.size → AX q → A0 q)
    (kx : ∀ (E : String) (ce : Cell) (q9 : Addr) (u : SX) (t : State) (H1 : Heap) (locs1 : List Loc), t.heap = H1 → s.vm.Alike t.vm → px u → BX E u t → H.size ≤ H1.size → (∀ q : Nat, q < H.size → ¬ AX q → H1[q]? = H[q]?) → va_S A0 H0 H1 locs1 → H1[q9]? = some ce → ce.vm = .none → s.vm.findClass E = some ce.cls → vx_W p l e R s m args below meth c H1 locs1 (cells + mc) (slots + ms) Q (F0 m pc ls rest) q9)
    (kk : ∀ (r : UInt64) (u : S) (t : State) (H1 : Heap) (locs1 : List Loc), t.heap = H1 → s.vm.Alike t.vm → post r u → B u t → H.size ≤ H1.size → (∀ q : Nat, q < H.size → ¬ A1 q → H1[q]? = H[q]?) → va_S A0 H0 H1 locs1 → W p l e R s m args below meth c H1 locs1 (cells + mc) (slots + ms) Q (F0 m (pc + 3) ls (.double r :: rest))) : W p l e R s m args below meth c H locs cells slots Q (F0 m pc ls st0) := by
  intro T hT X
  rcases hr T hT X with ⟨v, st₀, t, T', L, h0, X', hL, e1, e2, ⟨⟨r, u, hv, hp, hb⟩, hF⟩, st⟩ | ⟨q, st₀, t, T', L, E, ce, h0, X', hL, e1, e2, ⟨u, hp, hb, hF⟩, hce, hcv, hcl, st⟩
  · cases hv
    obtain ⟨k1, k2, k3⟩ := vx_keep h0 e1 hS hA hf hL hF
    obtain ⟨t2, a1, b1⟩ := kk r u t T'.heap (locs ++ L) e1.symm (by rw [← e2]; exact X'.warmed.alike) hp hb k1 k2 k3 T' rfl X'
    exact ⟨t2, st t2 a1, b1⟩
  · obtain ⟨k1, k2, k3⟩ := vx_keep h0 e1 hS hAX hf hL hF
    obtain ⟨t2, a1, b1⟩ := kx E ce q u t T'.heap (locs ++ L) e1.symm (by rw [← e2]; exact X'.warmed.alike) hp hb k1 k2 k3 (by rw [e1]; exact hce) hcv hcl T' rfl X'
    exact ⟨t2, st.trans a1, b1⟩
theorem vx_callv {S SX : Type} {post : S → Prop} {px : SX → Prop} {B : S → State → Prop} {BX : String → SX → State → Prop} {AX : Nat → Prop} (hr : vx_Run p l e R s m args below meth c H locs cells slots mc ms (F0 m pc ls st0) rest (va_Qv post B A1 a) (vx_X px BX AX) free) (hS : va_S A0 H0 H locs) (hA : ∀ q, q < H.size → A1 q → A0 q) (hf : ∀ q, free q → A0 q) (hAX : ∀ q, q < H.size → AX q → A0 q)
    (kx : ∀ (E : String) (ce : Cell) (q9 : Addr) (u : SX) (t : State) (H1 : Heap) (locs1 : List Loc), t.heap = H1 → s.vm.Alike t.vm → px u → BX E u t → H.size ≤ H1.size → (∀ q : Nat, q < H.size → ¬ AX q → H1[q]? = H[q]?) → va_S A0 H0 H1 locs1 → H1[q9]? = some ce → ce.vm = .none → s.vm.findClass E = some ce.cls → vx_W p l e R s m args below meth c H1 locs1 (cells + mc) (slots + ms) Q (F0 m pc ls rest) q9)
    (kk : ∀ (u : S) (t : State) (H1 : Heap) (locs1 : List Loc), t.heap = H1 → s.vm.Alike t.vm → post u → B u t → H.size ≤ H1.size → (∀ q : Nat, q < H.size → ¬ A1 q → H1[q]? = H[q]?) → va_S A0 H0 H1 locs1 → W p l e R s m args below meth c H1 locs1 (cells + mc) (slots + ms) Q (F0 m (pc + 3) ls (rest))) : W p l e R s m args below meth c H locs cells slots Q (F0 m pc ls st0) := by
  intro T hT X
  rcases hr T hT X with ⟨v, st₀, t, T', L, h0, X', hL, e1, e2, ⟨⟨u, hv, hp, hb⟩, hF⟩, st⟩ | ⟨q, st₀, t, T', L, E, ce, h0, X', hL, e1, e2, ⟨u, hp, hb, hF⟩, hce, hcv, hcl, st⟩
  · cases hv
    obtain ⟨k1, k2, k3⟩ := vx_keep h0 e1 hS hA hf hL hF
    obtain ⟨t2, a1, b1⟩ := kk u t T'.heap (locs ++ L) e1.symm (by rw [← e2]; exact X'.warmed.alike) hp hb k1 k2 k3 T' rfl X'
    exact ⟨t2, st t2 a1, b1⟩
  · obtain ⟨k1, k2, k3⟩ := vx_keep h0 e1 hS hAX hf hL hF
    obtain ⟨t2, a1, b1⟩ := kx E ce q u t T'.heap (locs ++ L) e1.symm (by rw [← e2]; exact X'.warmed.alike) hp hb k1 k2 k3 (by rw [e1]; exact hce) hcv hcl T' rfl X'
    exact ⟨t2, st.trans a1, b1⟩
/-- caught by the row x of this method's table; the rows ahead don't take it -/
theorem vx_catch {own name : String} {E : String} {ce : Cell} {q : Addr} (hown : s.vm.findClass own = some m.cls) (pre : List ExceptionTableEntry) (x : ExceptionTableEntry) (suf : List ExceptionTableEntry) (hsplit : c.exceptionTable.toList = pre ++ x :: suf)
    (hpass : ∀ z ∈ pre, covers z pc = false ∨ (z.catchType ≠ 0 ∧ ∃ nm : String, (Cond.classLink own z.catchType nm).before args s = true ∧ va_Nc E nm s)) (hx : covers x pc = true) (h0 : x.catchType ≠ 0)
    (hlink : (Cond.classLink own x.catchType name).before args s = true) (hcast : (Cond.castable E name).before args s = true) (hcell : H[q]? = some ce) (hv : ce.vm = .none) (hcl : s.vm.findClass E = some ce.cls)
    (kk : W p l e R s m args below meth c H locs cells slots Q (F0 m x.handlerPc ls [.ref q])) : vx_W p l e R s m args below meth c H locs cells slots Q (F0 m pc ls rest) q := by
  intro T hT X
  have hpl : e.platform.magicAccessors = ({} : Platform).magicAccessors := by rw [X.admits.platform]
  obtain ⟨c3, c4, hc3, hc4, hasg⟩ := Cond.castable_spec hcast
  cases Option.some.inj (hc3.symm.trans hcl)
  obtain ⟨c5, hc5, hcl5⟩ := Cond.classLink_spec hown hlink e.platform hpl
  cases Option.some.inj (hc4.symm.trans hc5)
  obtain ⟨vm', X', st⟩ := X.thenCaughtThrough q (g := F0 m pc ls rest) rfl (Steps.refl _) (by rw [hT]; exact hcell) (by rw [hv]; rfl) (by obtain ⟨k9, h9, -⟩ := Vm.findClass_spec hcl; exact ⟨k9, h9⟩) pre x suf hsplit
    (fun z hz => by
      rcases hpass z hz with h | ⟨hz0, nm, hl1, hn1⟩
      · exact Or.inl h
      · obtain ⟨c6, hc6, hcl6⟩ := Cond.classLink_spec hown hl1 e.platform hpl
        obtain ⟨a8, b8, h1, h2, h3⟩ := hn1
        cases Option.some.inj (h1.symm.trans hcl)
        cases Option.some.inj (h2.symm.trans hc6)
        exact Or.inr ⟨hz0, _, hcl6, h3⟩) hx (Or.inr ⟨h0, c4, hcl5, hasg⟩)
  obtain ⟨t, a1, b1⟩ := kk (T.setVm vm') hT X'
  exact ⟨t, st.trans a1, b1⟩
end Rows
section Ends
variable {p : Program} {l : Launch} {e : Env} {R : Room} {s : State} {m : MethodId} {args : Array Value} {below : List Frame} {meth : Method} {c : Code} {H : Heap} {locs : List Loc} {cells slots : Nat} {Q : State → Prop}
variable {mc ms : Nat} {free : Addr → Prop} {A0 A1 : Nat → Prop} {H0 : Heap} {a : Array Value} {ls : Array Slot} {st0 rest : List Value}
variable {Qc : Array Value → State → Outcome → State → Prop} {XC : String → State → State → Prop}
/-- what a body that may throw owes at its end -/
def vx_MQ (below : List Frame) (Qc : Array Value → State → Outcome → State → Prop) (XC : String → State → State → Prop) (a : Array Value) (s : State) (mc ms : Nat) (free : Addr → Prop) : State → Prop := fun t =>
  ∃ o, t.status = .running ∧ Ended t below o ∧ vx_Q Qc XC mc ms free a s o t
theorem vx_ret {g : JFrame} {mc ms : Nat} (k : W p l e R s m args below meth c H locs cells slots (MQ below Qc args s mc ms free) g) : W p l e R s m args below meth c H locs cells slots (vx_MQ below Qc XC args s mc ms free) g := by
  intro T hT X
  obtain ⟨t, a1, o, b1, b2, b3, b4⟩ := k T hT X
  exact ⟨t, a1, o, b1, b2, Or.inl ⟨b3, b4⟩⟩
/-- not caught here: it goes on to the caller -/
theorem vx_widen {g : JFrame} {q : Addr} {k n : Nat} (h1 : cells ≤ k) (h2 : slots ≤ n) (kk : vx_W p l e R s m args below meth c H locs k n Q g q) : vx_W p l e R s m args below meth c H locs cells slots Q g q := fun T hT X => kk T hT (stand_widen X h1 h2)
theorem vx_out {pc : Nat} {E : String} {ce : Cell} {q : Addr} {mc ms : Nat} (hout : ∀ x ∈ c.exceptionTable.toList, covers x pc = false) (hlocks : meth.locks = false) (hcell : H[q]? = some ce) (hv : ce.vm = .none) (hcl : s.vm.findClass E = some ce.cls)
    (hx : ∀ t : State, t.heap = H → s.vm.Alike t.vm → XC E s t) (hf : ∀ z ∈ locs, free z.base) (hc : cells ≤ mc) (hs : slots ≤ ms) :
    vx_W p l e R s m args below meth c H locs cells slots (vx_MQ below Qc XC args s mc ms free) (F0 m pc ls rest) q := by
  intro T hT X
  obtain ⟨st1, hrun, hend, hW, hsm⟩ := X.leaveThrown q (g := F0 m pc ls rest) rfl rfl rfl hout hlocks
  have hcell9 : (T.setFrames (.throwing q :: below)).heap[q]? = some ce := by
    show T.heap[q]? = some ce
    rw [hT]; exact hcell
  exact ⟨_, st1, .threw q, hrun, hend, Or.inr ⟨q, rfl, E, ce, locs, hx _ hT hW.alike, hcell9, hv, hcl, hW, hsm.mono hc hs, hf⟩⟩
theorem vx_frame {U : State} {k n : Nat} (h : s.sameButNew ({ U with vm := s.vm } : State) locs k n) : s.heap.size ≤ U.heap.size ∧ ∀ q : Nat, q < s.heap.size → (∀ z ∈ locs, z.base ≠ q) → U.heap[q]? = s.heap[q]? := by
  obtain ⟨-, h2, -, -, -, h6⟩ := h
  refine ⟨h2, fun q hq hz => ?_⟩
  obtain ⟨c9, e1, e2, e3, e4⟩ := h6 q _ (Array.getElem?_eq_getElem hq)
  have hs : c9.slots = (s.heap[q]).slots := Array.ext_getElem? fun i => e4 i fun hm => hz _ hm rfl
  have h9 : c9 = s.heap[q] := by
    rw [hs] at e2
    exact e2
  have e5 : U.heap[q]? = some c9 := e1
  rw [e5, h9, Array.getElem?_eq_getElem hq]
/-- the words of a throw but the four that speak of the heap -/
def vx_no (w : Cond) : Bool := decide (w ≠ .isRef (.static Bundle.tN "UNASSIGNED_STACK" Bundle.steD)) && decide (w ≠ .isRef (.static Bundle.tN "SUPPRESSED_SENTINEL" Bundle.listD)) && decide (w ≠ .laysStatic Bundle.tN "UNASSIGNED_STACK" Bundle.steD) && decide (w ≠ .laysStatic Bundle.tN "SUPPRESSED_SENTINEL" Bundle.listD)
def vx_at0 (own : String) (ic : Nat) (X : String) (names : List String) : List Cond := (Bundle.ownAtoms0 own ic X names).filter vx_no
def vx_atS (own : String) (ic : Nat) (X : String) (names : List String) : List Cond := (Bundle.ownAtoms own ic X names).filter vx_no
/-- a word that the tables alone decide, or a good one -/
def vx_ot (w : Cond) : Bool := w.onTables || goodWord w
theorem vx_ot_at {args a' : Array Value} {s U : State} {w : Cond} (hW : s.WarmedH U.vm) (hvm : s.vm = U.vm) (hg : vx_ot w = true) (h : w.before args s = true) : w.before a' U = true := by
  simp only [vx_ot, Bool.or_eq_true] at hg
  rcases hg with hg | hg
  · exact va_tabs hg hvm h
  · exact word_at hW (good_of_word hg) h
/-- a list's words: the good ones out of the method's own list, the others by premises of their own -/
theorem vx_hat {args : Array Value} {s : State} {L B : List Cond} (h1 : ∀ w ∈ L.filter goodWord, w.before args s = true) (h2 : ∀ w ∈ L.filter (fun w => !goodWord w), w ∈ B) (h3 : ∀ w ∈ B, w.before args s = true) : ∀ w ∈ L, w.before args s = true := by
  intro w hw
  by_cases g : goodWord w = true
  · exact h1 w (List.mem_filter.mpr ⟨hw, g⟩)
  · refine h3 w (h2 w (List.mem_filter.mpr ⟨hw, ?_⟩))
    show (!goodWord w) = true
    cases hgw : goodWord w
    · rfl
    · exact absurd hgw g
theorem vx_c {args : Array Value} {s : State} {w : Cond} {B : List Cond} (h : w.before args s = true) (t : ∀ w ∈ B, w.before args s = true) : ∀ w' ∈ w :: B, w'.before args s = true := fun w' h' => (List.mem_cons.mp h').elim (fun e => by rw [e]; exact h) (t w')
theorem vx_n {args : Array Value} {s : State} : ∀ w ∈ ([] : List Cond), w.before args s = true := fun _ h => nomatch h
theorem vx_own {args : Array Value} {s : State} {L : List Cond} (h1 : ∀ w ∈ L.filter vx_no, w.before args s = true)
    (hU : (Cond.isRef (.static Bundle.tN "UNASSIGNED_STACK" Bundle.steD)).before args s = true) (hN : (Cond.isRef (.static Bundle.tN "SUPPRESSED_SENTINEL" Bundle.listD)).before args s = true)
    (lU : (Cond.laysStatic Bundle.tN "UNASSIGNED_STACK" Bundle.steD).before args s = true) (lN : (Cond.laysStatic Bundle.tN "SUPPRESSED_SENTINEL" Bundle.listD).before args s = true) : ∀ w ∈ L, w.before args s = true := by
  intro w hw
  by_cases e1 : w = .isRef (.static Bundle.tN "UNASSIGNED_STACK" Bundle.steD)
  · rw [e1]; exact hU
  · by_cases e2 : w = .isRef (.static Bundle.tN "SUPPRESSED_SENTINEL" Bundle.listD)
    · rw [e2]; exact hN
    · by_cases e3 : w = .laysStatic Bundle.tN "UNASSIGNED_STACK" Bundle.steD
      · rw [e3]; exact lU
      · by_cases e4 : w = .laysStatic Bundle.tN "SUPPRESSED_SENTINEL" Bundle.listD
        · rw [e4]; exact lN
        · exact h1 w (List.mem_filter.mpr ⟨hw, by unfold vx_no; rw [decide_eq_true e1, decide_eq_true e2, decide_eq_true e3, decide_eq_true e4]; rfl⟩)
/-- where a static field lies, its class's statics cell in H -/
def vx_L (C n d : String) (A : Nat → Prop) (U : State) (H : Heap) : Prop := ∃ (c : ClassId) (k : Class) (i : Nat) (f : Field) (a : Nat) (cell : Cell), U.vm.findClass C = some c ∧ U.fieldFound? C n d = some (c, k, i, f) ∧ f.isStatic = true ∧ k.statics = some a ∧ H[a]? = some cell ∧ cell.vm.isStatics = true ∧ cell.cls = c ∧ f.slot < cell.slots.size ∧ k.staticTypes[f.slot]? = some f.type ∧ ¬ A a
theorem vx_L.moved {C n d : String} {A : Nat → Prop} {u U : State} {H : Heap} (hvm : u.vm.Alike U.vm) (h : vx_L C n d A u H) : vx_L C n d A U H := by
  obtain ⟨c, k, i, f, a, cell, h1, h2, h3, h4, h5, h6, h7, h8, h9, h10⟩ := h
  obtain ⟨k', hi', he⟩ := State.fieldFound?_setVm hvm h2
  exact ⟨c, k', i, f, a, cell, by rw [hvm.findClass]; exact h1, hi', h3, by rw [he]; exact h4, h5, h6, h7, h8, by rw [he]; exact h9, h10⟩
theorem vx_L.kept {C n d : String} {A : Nat → Prop} {U : State} {H H1 : Heap} (h : vx_L C n d A U H) (hq : ∀ a : Nat, a < H.size → ¬ A a → H1[a]? = H[a]?) : vx_L C n d A U H1 := by
  obtain ⟨c, k, i, f, a, cell, h1, h2, h3, h4, h5, h6, h7, h8, h9, h10⟩ := h
  exact ⟨c, k, i, f, a, cell, h1, h2, h3, h4, by rw [hq a (Array.getElem?_eq_some_iff.mp h5).1 h10]; exact h5, h6, h7, h8, h9, h10⟩
theorem vx_L.narrow {C n d : String} {A B : Nat → Prop} {U : State} {H : Heap} (h : vx_L C n d A U H) (hAB : ∀ q, B q → A q) : vx_L C n d B U H := by
  obtain ⟨c, k, i, f, a, cell, h1, h2, h3, h4, h5, h6, h7, h8, h9, h10⟩ := h
  exact ⟨c, k, i, f, a, cell, h1, h2, h3, h4, h5, h6, h7, h8, h9, fun z => h10 (hAB _ z)⟩
theorem vx_L.word {C n d : String} {A : Nat → Prop} {s : State} {args : Array Value} (h : vx_L C n d A s s.heap) : (Cond.laysStatic C n d).before args s = true := by
  obtain ⟨c, k, i, f, a, cell, h1, h2, h3, h4, h5, h6, h7, h8, h9, -⟩ := h
  show (Cond.laysStatic C n d).holds args s none s [] = true
  exact Cond.laysStatic_of h1 h2 h3 h4 h5 h6 h7 h8 h9
/-- .. and what it holds: null or some reference -/
def vx_Zq (C n d : String) (A : Nat → Prop) (U : State) (H : Heap) : Prop := va_Zq C n d A U H ∧ vx_L C n d A U H
theorem vx_Zq.moved {C n d : String} {A : Nat → Prop} {u U : State} {H : Heap} (hvm : u.vm.Alike U.vm) (h : vx_Zq C n d A u H) : vx_Zq C n d A U H := ⟨va_Zq.moved hvm h.1, vx_L.moved hvm h.2⟩
theorem vx_Zq.kept {C n d : String} {A : Nat → Prop} {U : State} {H H1 : Heap} (h : vx_Zq C n d A U H) (hq : ∀ a : Nat, a < H.size → ¬ A a → H1[a]? = H[a]?) : vx_Zq C n d A U H1 := ⟨va_Zq.kept h.1 hq, vx_L.kept h.2 hq⟩
theorem vx_Zq.narrow {C n d : String} {A B : Nat → Prop} {U : State} {H : Heap} (h : vx_Zq C n d A U H) (hAB : ∀ q, B q → A q) : vx_Zq C n d B U H := ⟨va_Zq.narrow h.1 hAB, vx_L.narrow h.2 hAB⟩
theorem vx_Zqof {args : Array Value} {s : State} {C n d : String} {A : Nat → Prop} (hl : (Cond.laysStatic C n d).before args s = true) (hini : (Cond.initialized C).before args s = true) (h : (Cond.isRef (.static C n d)).before args s = true) (hA : ∀ a : Nat, a < s.heap.size → ¬ A a) : vx_Zq C n d A s s.heap := by
  refine ⟨va_Zqof hl hini h hA, ?_⟩
  obtain ⟨c, k, i, f, a, cell, h1, h2, h3, h4, h5, h6, h7, h8, h9⟩ := Cond.laysStatic_spec hl
  exact ⟨c, k, i, f, a, cell, h1, h2, h3, h4, h5, h6, h7, h8, h9, hA a (Array.getElem?_eq_some_iff.mp h5).1⟩
theorem vx_isRef {C n d : String} {v : Value} {A : Nat → Prop} {s : State} {args : Array Value} (h : va_Z C n d v A s s.heap) (hv : v.isRef = true) : (Cond.isRef (.static C n d)).before args s = true := by
  obtain ⟨cf, kf, fi, f, a, cell, h1, h2, h3, h4, h5, h6, h7, -⟩ := h
  have he : (Term.static C n d).eval args s none [] s = some v := by
    simp [Term.eval, State.fieldNamed?, h1, h2, h4, h5, h6, h7]
  simp only [Cond.before, Cond.holds, Cond.value, he]
  cases v <;> simp_all [Value.isRef]
theorem vx_isRefq {C n d : String} {A : Nat → Prop} {s : State} {args : Array Value} (h : va_Zq C n d A s s.heap) : (Cond.isRef (.static C n d)).before args s = true := by
  rcases h with h | ⟨t, h⟩
  · exact vx_isRef h rfl
  · exact vx_isRef h rfl
/-- the same frame, seen from here: as if the method were called anew in this heap -/
theorem vx_rebase {T : State} (X : Stand p l e R s m args below meth c T locs cells slots) {R' : Room} (hf : R'.frames ≤ R.frames) (hl : R'.locals ≤ R.locals) (hc : cells + R'.cells ≤ R.cells) (hs : slots + R'.slots ≤ R.slots) :
    Stand p l e R' ((T.setVm s.vm).setFrames (.invoking m args :: below)) m args below meth c T [] 0 0 := by
  have htop : (T.setVm s.vm).topJava?.isSome := X.here.top
  have hF : ((T.setVm s.vm).setFrames (.invoking m args :: below)).frames = .invoking m args :: below := State.frames_setFrames _ (State.cur_lt_of_top htop)
  obtain ⟨g₀, hg0⟩ := Option.isSome_iff_exists.mp htop
  obtain ⟨r, hr⟩ := State.topJava?_eq_some.mp hg0
  have hl9 : e.platform.stackLimits (T.setVm s.vm).me = e.platform.stackLimits s.me := X.limits
  have hb9 : (T.setVm s.vm).me.stackBytes = s.me.stackBytes := X.bytes
  refine ⟨X.admits, X.cas, X.clock, hF, ?_, X.hears, X.method, X.code, X.here, X.tail, X.warmed, ?_, ?_, ?_⟩
  · have h := X.room
    have hU : ((T.setVm s.vm).setFrames (.invoking m args :: below)).localsInUse = s.localsInUse := by
      rw [State.localsInUse_invoking hF (meth := meth) (c := c) X.method X.code, State.localsInUse_invoking X.frames X.method X.code]
    simp only [State.hasRoom, Bool.and_eq_true, decide_eq_true_eq] at h ⊢
    obtain ⟨⟨⟨⟨h1, h2, h3, h4, h5, h6⟩, h7⟩, h8⟩, h9⟩ := h
    rw [X.frames, List.length_cons] at h2 h3
    have q1 := X.heapSize
    have q2 := X.used
    simp only [hF, hU, List.length_cons, State.stackLimits_setFrames, State.stackBytes_setFrames, hl9, hb9]
    refine ⟨⟨⟨⟨by omega, by omega, by omega, by omega, by omega, h6⟩, ?_⟩, ?_⟩, X.book⟩
    · show T.heap.size + R'.cells ≤ e.platform.maxCells
      omega
    · show T.slotsUsed + R'.slots ≤ e.platform.maxSlots
      omega
  · rw [State.stackLimits_setFrames]; rfl
  · rw [State.stackBytes_setFrames]; rfl
  · refine ⟨?_, Nat.le_refl _, Nat.le_refl _, ?_, ?_, fun a c9 h9 => ⟨c9, h9, rfl, rfl, fun _ _ => rfl⟩⟩
    · obtain ⟨t, ht, -⟩ := State.frames_cons hr
      show T.setVm s.vm = { ((T.setVm s.vm).setFrames (.invoking m args :: below)).setFrames (T.setVm s.vm).frames with heap := T.heap, slotsUsed := T.slotsUsed }
      rw [State.setFrames_setFrames, State.setFrames_self ht]
      rfl
    · show T.slotsUsed = T.slotsUsed + ((T.heap.toList.drop T.heap.size).map (·.slots.size)).sum
      rw [List.drop_eq_nil_of_le (Nat.le_of_eq Array.length_toList)]
      rfl
    · show ((T.heap.toList.drop T.heap.size).map (·.slots.size)).sum ≤ 0
      rw [List.drop_eq_nil_of_le (Nat.le_of_eq Array.length_toList)]
      exact Nat.le_refl _
/-- 'throw new E()': new; dup; invokespecial; athrow -/
theorem vx_throw0 {cc : ByteArray} {pc : Nat} (hexec : p.tables.exec = Jvm.exec) (hb : c.code = cc) (hl : l.stackTraces = false) {own cls : String} {names : List String} {ik ic mc ms : Nat} {A : Nat → Prop}
    (hown : s.vm.findClass own = some m.cls) (hcls : Bundle.fit cls = true) (hnames : ∀ n ∈ names, Bundle.fit n = true)
    (hk : (Cond.classLink own ik cls).before args s = true) (hini : (Cond.initialized cls).before args s = true) (hat : ∀ w ∈ vx_at0 own ic cls names, w.before args s = true)
    (hgood : ∀ w ∈ Cond.classLink own ik cls :: Cond.initialized cls :: vx_at0 own ic cls names, vx_ot w = true)
    (hU : vx_Zq Bundle.tN "UNASSIGNED_STACK" Bundle.steD A s s.heap) (hN : vx_Zq Bundle.tN "SUPPRESSED_SENTINEL" Bundle.listD A s s.heap) (hS : va_S A s.heap H locs) (hsize : ls.size = c.maxLocals)
    (d0 : decode cc pc = .ok (.new ik, 3)) (d3 : decode cc (pc + 3) = .ok (.dup, 1)) (d4 : decode cc (pc + 4) = .ok (.invokespecial ic, 3)) (d7 : decode cc (pc + 7) = .ok (.athrow, 1))
    (hout : ∀ x ∈ c.exceptionTable.toList, covers x (pc + 7) = false)
    (hRframes : names.length + 3 < R.frames) (hRlocals : (rest.map fun v => v.category).sum + (13 * (names.length + 1) + 42) ≤ R.locals) (hRcells : cells + 1 ≤ R.cells) (hRslots : slots + 6 ≤ R.slots) (hlocks : meth.locks = false)
    (hx : ∀ t : State, s.vm.Alike t.vm → H.size ≤ t.heap.size → (∀ q : Nat, q < H.size → t.heap[q]? = H[q]?) → XC cls s t)
    (hf : ∀ z ∈ locs, free z.base) (hc : cells + 1 ≤ mc) (hs : slots + 6 ≤ ms) :
    W p l e R s m args below meth c H locs cells slots (vx_MQ below Qc XC args s mc ms free) (F0 m pc ls rest) := by
  intro T hT X
  have htr : e.platform.stackTraces = false := (show e.platform.stackTraces = l.stackTraces by rw [X.admits.platform]).trans hl
  have Y := vx_rebase X (R' := { frames := R.frames, locals := R.locals, cells := 1, slots := 6 }) (Nat.le_refl _) (Nat.le_refl _) hRcells hRslots
  obtain ⟨s', hA⟩ : ∃ z, z = (T.setVm s.vm).setFrames (.invoking m args :: below) := ⟨_, rfl⟩
  rw [← hA] at Y
  have hvm : s'.vm = s.vm := by rw [hA]; rfl
  have hhp : s'.heap = H := by rw [hA]; exact hT
  have hW0 : s.WarmedH s'.vm := by rw [hvm]; exact State.WarmedH.refl s
  have hat' : ∀ w ∈ vx_at0 own ic cls names, w.before args s' = true := fun w hw => vx_ot_at hW0 hvm.symm (hgood w (List.mem_cons_of_mem _ (List.mem_cons_of_mem _ hw))) (hat w hw)
  have hk' : (Cond.classLink own ik cls).before args s' = true := vx_ot_at hW0 hvm.symm (hgood _ List.mem_cons_self) hk
  have hini' : (Cond.initialized cls).before args s' = true := vx_ot_at hW0 hvm.symm (hgood _ (List.mem_cons_of_mem _ List.mem_cons_self)) hini
  have hU' : vx_Zq Bundle.tN "UNASSIGNED_STACK" Bundle.steD A s' s'.heap := by rw [hhp]; exact vx_Zq.moved hW0.alike (hU.kept hS.2.1)
  have hN' : vx_Zq Bundle.tN "SUPPRESSED_SENTINEL" Bundle.listD A s' s'.heap := by rw [hhp]; exact vx_Zq.moved hW0.alike (hN.kept hS.2.1)
  have h : ∀ w ∈ Bundle.ownAtoms0 own ic cls names, w.before args s' = true := vx_own hat' (vx_isRefq hU'.1) (vx_isRefq hN'.1) hU'.2.word hN'.2.word
  have hown' : s'.vm.findClass own = some m.cls := by rw [hvm]; exact hown
  have hins : (Cond.instantiable cls 6).before args s' = true := h _ (by simp [Bundle.ownAtoms0])
  obtain ⟨vm₁, cX, kX, hfX, hkX, -, -, X₁, st1⟩ := Y.newCold hexec (own := own) (C := cls) (index := ik) (n := 6) hown' hk' hins hini'
    (g := F0 m pc ls rest) rfl (by rw [hb]; exact d0) (Nat.le_refl _) (Nat.le_refl _)
  generalize hT1 : (T.setVm vm₁).pushCell { cls := cX, slots := kX.instanceTypes.map defaultValue, vm := .none } = T1 at X₁ st1
  have hcat : (Value.ref T.heap.size).category = 1 := rfl
  have hcellA : T1.heap[T.heap.size]? = some (freshCell cX kX) := by rw [← hT1]; exact State.heap_pushCell_size _ _
  have d3' : decode c.code (pc + 3) = .ok (.dup, 1) := by rw [hb]; exact d3
  obtain ⟨U, hsteps, hrun, hend, hW, hsame, ce, hce, hO⟩ := X₁.ctorThrow0 hexec htr (own := own) (cls := cls) (names := names) (ic := ic) hown' hcls hnames h (fun x hx => nomatch hx) hfX hkX hcellA (by rw [hhp, hT]; exact Nat.le_refl _)
    (g := { method := m, pc := pc + 4, locals := ls, stack := .ref T.heap.size :: .ref T.heap.size :: rest, locked := none }) rfl hsize rfl rfl (rest := rest) rfl
    (by rw [hb]; exact d4) (by rw [hb]; exact d7) hout hRframes (by simp only [List.map_cons, List.sum_cons, hcat]; omega) hlocks
  obtain ⟨f1, f2⟩ := vx_frame hsame
  rw [hhp] at f1 f2
  have hWs : s.WarmedH U.vm := State.WarmedH.trans hW0 hW
  have hcl : s.vm.findClass cls = some ce.cls := by
    have h9 := hO.cls
    rw [hvm] at h9
    exact h9
  have hall : s.sameButNew ({ U with vm := s.vm } : State) locs mc ms := by
    subst hA
    obtain ⟨e1, e2⟩ := hsame
    rw [State.setFrames_setFrames] at e1
    have h2 : (T.setVm s.vm).sameButNew ({ U with vm := s.vm } : State) [] (0 + 1) (0 + 6) := ⟨e1, e2⟩
    have h3 := X.same.trans h2
    rw [List.append_nil] at h3
    exact h3.mono hc hs
  refine ⟨U, ?_, .threw T.heap.size, hrun, hend, Or.inr ⟨T.heap.size, rfl, cls, ce, locs, hx U hWs.alike f1 (fun q hq => f2 q hq (fun z hz => nomatch hz)), hce, hO.vm, hcl, hWs, hall, hf⟩⟩
  refine st1 _ ?_
  show Steps p.tables e below (T1.setTop { method := m, pc := pc + 3, locals := ls, stack := .ref T.heap.size :: rest, locked := none }) _
  jvm_step X₁.here [X₁.here.top, hexec, d3', Value.category]
  exact hsteps
/-- 'throw new E("text")': new; dup; ldc; invokespecial; athrow -/
theorem vx_throwS {cc : ByteArray} {pc : Nat} (hexec : p.tables.exec = Jvm.exec) (hb : c.code = cc) (hl : l.stackTraces = false) {own cls text : String} {names : List String} {ik is ic mc ms sa : Nat} {A : Nat → Prop}
    (hown : s.vm.findClass own = some m.cls) (hcls : Bundle.fit cls = true) (hnames : ∀ n ∈ names, Bundle.fit n = true)
    (hk : (Cond.classLink own ik cls).before args s = true) (hini : (Cond.initialized cls).before args s = true) (hstr : vk_R own is text sa s) (hat : ∀ w ∈ vx_atS own ic cls names, w.before args s = true)
    (hgood : ∀ w ∈ Cond.classLink own ik cls :: Cond.initialized cls :: vx_atS own ic cls names, vx_ot w = true)
    (hU : vx_Zq Bundle.tN "UNASSIGNED_STACK" Bundle.steD A s s.heap) (hN : vx_Zq Bundle.tN "SUPPRESSED_SENTINEL" Bundle.listD A s s.heap) (hS : va_S A s.heap H locs) (hsize : ls.size = c.maxLocals)
    (d0 : decode cc pc = .ok (.new ik, 3)) (d3 : decode cc (pc + 3) = .ok (.dup, 1)) (d4 : decode cc (pc + 4) = .ok (.ldc is, 2)) (d6 : decode cc (pc + 6) = .ok (.invokespecial ic, 3)) (d9 : decode cc (pc + 9) = .ok (.athrow, 1))
    (hout : ∀ x ∈ c.exceptionTable.toList, covers x (pc + 9) = false)
    (hRframes : names.length + 3 < R.frames) (hRlocals : (rest.map fun v => v.category).sum + (13 * (names.length + 1) + 43) ≤ R.locals) (hRcells : cells + 1 ≤ R.cells) (hRslots : slots + 6 ≤ R.slots) (hlocks : meth.locks = false)
    (hx : ∀ t : State, s.vm.Alike t.vm → H.size ≤ t.heap.size → (∀ q : Nat, q < H.size → t.heap[q]? = H[q]?) → XC cls s t)
    (hf : ∀ z ∈ locs, free z.base) (hc : cells + 1 ≤ mc) (hs : slots + 6 ≤ ms) :
    W p l e R s m args below meth c H locs cells slots (vx_MQ below Qc XC args s mc ms free) (F0 m pc ls rest) := by
  intro T hT X
  have htr : e.platform.stackTraces = false := (show e.platform.stackTraces = l.stackTraces by rw [X.admits.platform]).trans hl
  have Y := vx_rebase X (R' := { frames := R.frames, locals := R.locals, cells := 1, slots := 6 }) (Nat.le_refl _) (Nat.le_refl _) hRcells hRslots
  obtain ⟨s', hA⟩ : ∃ z, z = (T.setVm s.vm).setFrames (.invoking m args :: below) := ⟨_, rfl⟩
  rw [← hA] at Y
  have hvm : s'.vm = s.vm := by rw [hA]; rfl
  have hhp : s'.heap = H := by rw [hA]; exact hT
  have hW0 : s.WarmedH s'.vm := by rw [hvm]; exact State.WarmedH.refl s
  have hat' : ∀ w ∈ vx_atS own ic cls names, w.before args s' = true := fun w hw => vx_ot_at hW0 hvm.symm (hgood w (List.mem_cons_of_mem _ (List.mem_cons_of_mem _ hw))) (hat w hw)
  have hk' : (Cond.classLink own ik cls).before args s' = true := vx_ot_at hW0 hvm.symm (hgood _ List.mem_cons_self) hk
  have hini' : (Cond.initialized cls).before args s' = true := vx_ot_at hW0 hvm.symm (hgood _ (List.mem_cons_of_mem _ List.mem_cons_self)) hini
  have hU' : vx_Zq Bundle.tN "UNASSIGNED_STACK" Bundle.steD A s' s'.heap := by rw [hhp]; exact vx_Zq.moved hW0.alike (hU.kept hS.2.1)
  have hN' : vx_Zq Bundle.tN "SUPPRESSED_SENTINEL" Bundle.listD A s' s'.heap := by rw [hhp]; exact vx_Zq.moved hW0.alike (hN.kept hS.2.1)
  have h : ∀ w ∈ Bundle.ownAtoms own ic cls names, w.before args s' = true := vx_own hat' (vx_isRefq hU'.1) (vx_isRefq hN'.1) hU'.2.word hN'.2.word
  have hown' : s'.vm.findClass own = some m.cls := by rw [hvm]; exact hown
  have hins : (Cond.instantiable cls 6).before args s' = true := h _ (by simp [Bundle.ownAtoms])
  obtain ⟨vm₁, cX, kX, hfX, hkX, -, -, X₁, st1⟩ := Y.newCold hexec (own := own) (C := cls) (index := ik) (n := 6) hown' hk' hins hini'
    (g := F0 m pc ls rest) rfl (by rw [hb]; exact d0) (Nat.le_refl _) (Nat.le_refl _)
  generalize hT1 : (T.setVm vm₁).pushCell { cls := cX, slots := kX.instanceTypes.map defaultValue, vm := .none } = T1 at X₁ st1
  have hcat : (Value.ref T.heap.size).category = 1 := rfl
  have hcellA : T1.heap[T.heap.size]? = some (freshCell cX kX) := by rw [← hT1]; exact State.heap_pushCell_size _ _
  have d3' : decode c.code (pc + 3) = .ok (.dup, 1) := by rw [hb]; exact d3
  have d4' : decode c.code (pc + 4) = .ok (.ldc is, 2) := by rw [hb]; exact d4
  have hstr' : vk_R own is text sa s' := vk_R.warm hW0 hstr
  obtain ⟨U, hsteps, hrun, hend, hW, hsame, ce, hce, hO⟩ := X₁.ctorThrowS hexec htr (own := own) (cls := cls) (names := names) (ic := ic) hown' hcls hnames h (fun x hx => nomatch hx) hfX hkX hcellA (by rw [hhp, hT]; exact Nat.le_refl _) (msg := .ref sa) rfl
    (g := { method := m, pc := pc + 6, locals := ls, stack := .ref sa :: .ref T.heap.size :: .ref T.heap.size :: rest, locked := none }) rfl hsize rfl rfl (rest := rest) rfl
    (by rw [hb]; exact d6) (by rw [hb]; exact d9) hout hRframes (by simp only [List.map_cons, List.sum_cons, hcat]; omega) hlocks
  obtain ⟨f1, f2⟩ := vx_frame hsame
  rw [hhp] at f1 f2
  have hWs : s.WarmedH U.vm := State.WarmedH.trans hW0 hW
  have hcl : s.vm.findClass cls = some ce.cls := by
    have h9 := hO.cls
    rw [hvm] at h9
    exact h9
  have hall : s.sameButNew ({ U with vm := s.vm } : State) locs mc ms := by
    subst hA
    obtain ⟨e1, e2⟩ := hsame
    rw [State.setFrames_setFrames] at e1
    have h2 : (T.setVm s.vm).sameButNew ({ U with vm := s.vm } : State) [] (0 + 1) (0 + 6) := ⟨e1, e2⟩
    have h3 := X.same.trans h2
    rw [List.append_nil] at h3
    exact h3.mono hc hs
  refine ⟨U, ?_, .threw T.heap.size, hrun, hend, Or.inr ⟨T.heap.size, rfl, cls, ce, locs, hx U hWs.alike f1 (fun q hq => f2 q hq (fun z hz => nomatch hz)), hce, hO.vm, hcl, hWs, hall, hf⟩⟩
  refine st1 _ ?_
  show Steps p.tables e below (T1.setTop { method := m, pc := pc + 3, locals := ls, stack := .ref T.heap.size :: rest, locked := none }) _
  jvm_step X₁.here [X₁.here.top, hexec, d3', Value.category]
  exact X₁.ldcString hexec (own := own) (text := text) (index := is) (a := sa) hown' hstr'.1 hstr'.2
    (g := { method := m, pc := pc + 4, locals := ls, stack := .ref T.heap.size :: .ref T.heap.size :: rest, locked := none }) rfl d4' _ hsteps
/-- 'throw new E("text")', the text by a wide index -/
theorem vx_throwSW {cc : ByteArray} {pc : Nat} (hexec : p.tables.exec = Jvm.exec) (hb : c.code = cc) (hl : l.stackTraces = false) {own cls text : String} {names : List String} {ik is ic mc ms sa : Nat} {A : Nat → Prop}
    (hown : s.vm.findClass own = some m.cls) (hcls : Bundle.fit cls = true) (hnames : ∀ n ∈ names, Bundle.fit n = true)
    (hk : (Cond.classLink own ik cls).before args s = true) (hini : (Cond.initialized cls).before args s = true) (hstr : vk_R own is text sa s) (hat : ∀ w ∈ vx_atS own ic cls names, w.before args s = true)
    (hgood : ∀ w ∈ Cond.classLink own ik cls :: Cond.initialized cls :: vx_atS own ic cls names, vx_ot w = true)
    (hU : vx_Zq Bundle.tN "UNASSIGNED_STACK" Bundle.steD A s s.heap) (hN : vx_Zq Bundle.tN "SUPPRESSED_SENTINEL" Bundle.listD A s s.heap) (hS : va_S A s.heap H locs) (hsize : ls.size = c.maxLocals)
    (d0 : decode cc pc = .ok (.new ik, 3)) (d3 : decode cc (pc + 3) = .ok (.dup, 1)) (d4 : decode cc (pc + 4) = .ok (.ldc_w is, 3)) (d7 : decode cc (pc + 7) = .ok (.invokespecial ic, 3)) (d10 : decode cc (pc + 10) = .ok (.athrow, 1))
    (hout : ∀ x ∈ c.exceptionTable.toList, covers x (pc + 10) = false)
    (hRframes : names.length + 3 < R.frames) (hRlocals : (rest.map fun v => v.category).sum + (13 * (names.length + 1) + 43) ≤ R.locals) (hRcells : cells + 1 ≤ R.cells) (hRslots : slots + 6 ≤ R.slots) (hlocks : meth.locks = false)
    (hx : ∀ t : State, s.vm.Alike t.vm → H.size ≤ t.heap.size → (∀ q : Nat, q < H.size → t.heap[q]? = H[q]?) → XC cls s t)
    (hf : ∀ z ∈ locs, free z.base) (hc : cells + 1 ≤ mc) (hs : slots + 6 ≤ ms) :
    W p l e R s m args below meth c H locs cells slots (vx_MQ below Qc XC args s mc ms free) (F0 m pc ls rest) := by
  intro T hT X
  have htr : e.platform.stackTraces = false := (show e.platform.stackTraces = l.stackTraces by rw [X.admits.platform]).trans hl
  have Y := vx_rebase X (R' := { frames := R.frames, locals := R.locals, cells := 1, slots := 6 }) (Nat.le_refl _) (Nat.le_refl _) hRcells hRslots
  obtain ⟨s', hA⟩ : ∃ z, z = (T.setVm s.vm).setFrames (.invoking m args :: below) := ⟨_, rfl⟩
  rw [← hA] at Y
  have hvm : s'.vm = s.vm := by rw [hA]; rfl
  have hhp : s'.heap = H := by rw [hA]; exact hT
  have hW0 : s.WarmedH s'.vm := by rw [hvm]; exact State.WarmedH.refl s
  have hat' : ∀ w ∈ vx_atS own ic cls names, w.before args s' = true := fun w hw => vx_ot_at hW0 hvm.symm (hgood w (List.mem_cons_of_mem _ (List.mem_cons_of_mem _ hw))) (hat w hw)
  have hk' : (Cond.classLink own ik cls).before args s' = true := vx_ot_at hW0 hvm.symm (hgood _ List.mem_cons_self) hk
  have hini' : (Cond.initialized cls).before args s' = true := vx_ot_at hW0 hvm.symm (hgood _ (List.mem_cons_of_mem _ List.mem_cons_self)) hini
  have hU' : vx_Zq Bundle.tN "UNASSIGNED_STACK" Bundle.steD A s' s'.heap := by rw [hhp]; exact vx_Zq.moved hW0.alike (hU.kept hS.2.1)
  have hN' : vx_Zq Bundle.tN "SUPPRESSED_SENTINEL" Bundle.listD A s' s'.heap := by rw [hhp]; exact vx_Zq.moved hW0.alike (hN.kept hS.2.1)
  have h : ∀ w ∈ Bundle.ownAtoms own ic cls names, w.before args s' = true := vx_own hat' (vx_isRefq hU'.1) (vx_isRefq hN'.1) hU'.2.word hN'.2.word
  have hown' : s'.vm.findClass own = some m.cls := by rw [hvm]; exact hown
  have hins : (Cond.instantiable cls 6).before args s' = true := h _ (by simp [Bundle.ownAtoms])
  obtain ⟨vm₁, cX, kX, hfX, hkX, -, -, X₁, st1⟩ := Y.newCold hexec (own := own) (C := cls) (index := ik) (n := 6) hown' hk' hins hini'
    (g := F0 m pc ls rest) rfl (by rw [hb]; exact d0) (Nat.le_refl _) (Nat.le_refl _)
  generalize hT1 : (T.setVm vm₁).pushCell { cls := cX, slots := kX.instanceTypes.map defaultValue, vm := .none } = T1 at X₁ st1
  have hcat : (Value.ref T.heap.size).category = 1 := rfl
  have hcellA : T1.heap[T.heap.size]? = some (freshCell cX kX) := by rw [← hT1]; exact State.heap_pushCell_size _ _
  have d3' : decode c.code (pc + 3) = .ok (.dup, 1) := by rw [hb]; exact d3
  have d4' : decode c.code (pc + 4) = .ok (.ldc_w is, 3) := by rw [hb]; exact d4
  have hstr' : vk_R own is text sa s' := vk_R.warm hW0 hstr
  obtain ⟨U, hsteps, hrun, hend, hW, hsame, ce, hce, hO⟩ := X₁.ctorThrowS hexec htr (own := own) (cls := cls) (names := names) (ic := ic) hown' hcls hnames h (fun x hx => nomatch hx) hfX hkX hcellA (by rw [hhp, hT]; exact Nat.le_refl _) (msg := .ref sa) rfl
    (g := { method := m, pc := pc + 7, locals := ls, stack := .ref sa :: .ref T.heap.size :: .ref T.heap.size :: rest, locked := none }) rfl hsize rfl rfl (rest := rest) rfl
    (by rw [hb]; exact d7) (by rw [hb]; exact d10) hout hRframes (by simp only [List.map_cons, List.sum_cons, hcat]; omega) hlocks
  obtain ⟨f1, f2⟩ := vx_frame hsame
  rw [hhp] at f1 f2
  have hWs : s.WarmedH U.vm := State.WarmedH.trans hW0 hW
  have hcl : s.vm.findClass cls = some ce.cls := by
    have h9 := hO.cls
    rw [hvm] at h9
    exact h9
  have hall : s.sameButNew ({ U with vm := s.vm } : State) locs mc ms := by
    subst hA
    obtain ⟨e1, e2⟩ := hsame
    rw [State.setFrames_setFrames] at e1
    have h2 : (T.setVm s.vm).sameButNew ({ U with vm := s.vm } : State) [] (0 + 1) (0 + 6) := ⟨e1, e2⟩
    have h3 := X.same.trans h2
    rw [List.append_nil] at h3
    exact h3.mono hc hs
  refine ⟨U, ?_, .threw T.heap.size, hrun, hend, Or.inr ⟨T.heap.size, rfl, cls, ce, locs, hx U hWs.alike f1 (fun q hq => f2 q hq (fun z hz => nomatch hz)), hce, hO.vm, hcl, hWs, hall, hf⟩⟩
  refine st1 _ ?_
  show Steps p.tables e below (T1.setTop { method := m, pc := pc + 3, locals := ls, stack := .ref T.heap.size :: rest, locked := none }) _
  jvm_step X₁.here [X₁.here.top, hexec, d3', Value.category]
  exact X₁.ldcStringW hexec (own := own) (text := text) (index := is) (a := sa) hown' hstr'.1 hstr'.2
    (g := { method := m, pc := pc + 4, locals := ls, stack := .ref T.heap.size :: .ref T.heap.size :: rest, locked := none }) rfl d4' _ hsteps
end Ends
section Bodies
variable {l : Launch}
theorem vx_ofW {y : MethodName} {ws ws' : List Cond} {rm : Room} {Pc : Array Value → State → Prop} {Qc : Array Value → State → Outcome → State → Prop} {XC : String → State → State → Prop} {mc ms : Nat} {free : Addr → Prop} {cc : ByteArray} {maxL : Nat} {ret : Option FieldType}
    (hy : plainName y.cls = true) (hw : ws = Cond.code y cc maxL ret :: ws')
    (body : ∀ p e s m args below meth c s₁, BodyLoose p l y (headSpec ws rm) cc maxL ret e s m args below meth c s₁ → c.maxLocals = maxL → (∀ x ∈ c.exceptionTable.toList, False) → Pc args s →
      W p l e (headSpec ws rm).room s m args below meth c s.heap [] 0 0 (vx_MQ below Qc XC args s mc ms free) (entryFrame m args maxL)) : vx_Met l y ws rm Pc Qc XC mc ms free := by
  refine MetFree.of_bodyS (code := cc) (maxLocals := maxL) (ret := ret) hy ?_ ?_
  · intro args s m h hn
    obtain ⟨meth, c, h1, h2, h3, h4, h5, h6, -, -⟩ := Cond.code_spec hn (atoms_spec (ws := ws) h _ (by rw [hw]; exact List.mem_cons_self))
    exact ⟨meth, c, h1, h2, h3, h4, h5, h6⟩
  · intro p e s m args below meth c s₁ B hml hP _
    have hh0 : s₁.heap = s.heap := by rw [B.state]; rfl
    have ht : ∀ x ∈ c.exceptionTable.toList, False := by
      obtain ⟨meth9, c9, h1, h2, -, -, -, -, h7, -⟩ := Cond.code_spec B.named (atoms_spec (ws := ws) B.pre _ (by rw [hw]; exact List.mem_cons_self))
      cases Option.some.inj (h1.symm.trans B.method)
      cases Option.some.inj (h2.symm.trans (Stand.of_body B).code)
      intro x hx
      rw [Array.isEmpty_iff.mp h7] at hx
      cases hx
    obtain ⟨t, a1, o, b1, b2, b3⟩ := body p e s m args below meth c s₁ B hml ht hP s₁ hh0 (Stand.of_body B)
    exact ⟨t, o, a1, b1, b2, b3⟩
/-- the table of a body with handlers -/
theorem vx_table {p : Program} {x y : MethodName} {S : Spec} {cc bytes : ByteArray} {maxL maxL' : Nat} {ret ret' : Option FieldType} {e : Env} {s s₁ : State} {m : MethodId} {args : Array Value} {below : List Frame} {meth : Method} {c : Code} {hh : List (Nat × Nat × Nat × Nat)}
    (B : BodyLoose p l y S cc maxL ret e s m args below meth c s₁) (h : (Cond.codeWith y bytes maxL' ret' hh).before args s = true) : c.exceptionTable.toList = tableOf hh := by
  obtain ⟨m9, meth9, c9, hn9, h1, h2, -, -, h6, -⟩ := Cond.codeWith_spec h
  cases Option.some.inj (hn9.symm.trans B.named)
  cases Option.some.inj (h1.symm.trans B.method)
  cases Option.some.inj (h2.symm.trans (Stand.of_body B).code)
  rw [← h6, table_eq]
end Bodies
end VXA
/-! ===== END ===== -/
/-! ===== BEGIN a static call of a method with an exception table ===== -/
section VXS
variable {p : Program} {l : Launch} {e : Env} {R : Room} {s : State} {m : MethodId} {args : Array Value} {below : List Frame} {meth : Method} {c : Code} {T : State} {H : Heap} {locs : List Loc} {cells slots : Nat}
abbrev vx_CSW (R : Room) (s : State) (args : Array Value) (own : String) (index : Nat) (y : MethodName) (bytes : ByteArray) (maxL : Nat) (ret : Option FieldType) (hh : List (Nat × Nat × Nat × Nat)) (ws : List Cond) (rm : Room) (mc ms n : Nat) : Prop :=
  (rm.cells = mc ∧ rm.slots = ms ∧ rm.frames + 1 ≤ R.frames ∧ 8 + (maxL + 11) + rm.locals ≤ R.locals ∧ (∀ w ∈ ws, ∀ (a' : Array Value) (U : State), s.WarmedH U.vm → w.before a' U = true) ∧ Cond.codeWith y bytes maxL ret hh ∈ ws) ∧
  (Cond.codeWith y bytes maxL ret hh).before args s = true ∧ (Cond.initialized y.cls).before args s = true ∧ (y.cls ≠ "java/lang/invoke/MethodHandle" ∧ y.cls ≠ "java/lang/invoke/VarHandle") ∧
  (∀ sig, parseMethodDescriptor y.desc = some sig → n = sig.parameters.length) ∧ (Cond.methodLink own index y).before args s = true ∧ (Cond.static y).before args s = true
theorem vx_cwSW {own : String} {index maxL mc ms : Nat} {y : MethodName} {bytes : ByteArray} {ret : Option FieldType} {hh : List (Nat × Nat × Nat × Nat)} {Ts ws ws' : List Cond} {rm : Room} (n : Nat) (ht : ∀ w ∈ Ts, w.before args s = true) (hT : GoodIn Ts (va_wsS own index y ws)) (hw : ws = Cond.codeWith y bytes maxL ret hh :: ws') (hrc : rm.cells = mc) (hrs : rm.slots = ms)
    (hd : y.cls ≠ "java/lang/invoke/MethodHandle" ∧ y.cls ≠ "java/lang/invoke/VarHandle" ∧ (parseMethodDescriptor y.desc).map (fun d => d.parameters.length) = some n) (hR : rm.frames + 1 ≤ R.frames ∧ 8 + (maxL + 11) + rm.locals ≤ R.locals) :
    vx_CSW R s args own index y bytes maxL ret hh ws rm mc ms n := by
  have ok : ∀ w ∈ va_wsS own index y ws, w.before args s = true := fun w h => ht w (hT w h).1
  have hG : GoodIn Ts ws := fun w h => hT w (by unfold va_wsS; exact List.mem_append_right _ h)
  have hc : Cond.codeWith y bytes maxL ret hh ∈ ws := by rw [hw]; exact List.mem_cons_self
  refine ⟨⟨hrc, hrs, hR.1, hR.2, pay_in ht hG, hc⟩, ht _ (hG _ hc).1, ok _ (by simp [va_wsS]), ⟨hd.1, hd.2.1⟩, fun sig h => ?_, ok _ (by simp [va_wsS]), ok _ (by simp [va_wsS])⟩
  have h2 := hd.2.2
  rw [h] at h2
  exact (Option.some.inj h2).symm
theorem vx_callSW (X : Stand p l e R s m args below meth c T locs cells slots) (hexec : p.tables.exec = Jvm.exec) {own : String} {index : Nat} {y : MethodName} {bytes : ByteArray} {maxL : Nat} {ret : Option FieldType} {hh : List (Nat × Nat × Nat × Nat)}
    (hown : s.vm.findClass own = some m.cls) (hlink : (Cond.methodLink own index y).before args s = true) (hstat : (Cond.static y).before args s = true) (hinit : (Cond.initialized y.cls).before args s = true)
    (hcode : (Cond.codeWith y bytes maxL ret hh).before args s = true) (hy : y.cls ≠ "java/lang/invoke/MethodHandle" ∧ y.cls ≠ "java/lang/invoke/VarHandle")
    {W9 : Nat} {Pre : Pt → Array Value → Prop} {Post : Pt → Array Value → Option Value → Pt → Prop} (hK : Back l R p e below s args y 3 W9 Pre Post)
    {g : JFrame} (hg : g.method = m) (hsize : g.locals.size = c.maxLocals) {argsL rest : List Value} (hlen : ∀ sig, parseMethodDescriptor y.desc = some sig → argsL.length = sig.parameters.length)
    (hstack : g.stack = argsL.reverse ++ rest) (hW : 2 * g.monitorRoom + (rest.map fun v => v.category).sum ≤ W9) (hdg : decode c.code g.pc = .ok (.invokestatic index, 3))
    (hpre : ∀ vm₁, s.WarmedH vm₁ → Pre ⟨T.setVm vm₁, locs, cells, slots⟩ argsL.toArray) :
    ∃ (v : Option Value) (vm₁ : Vm) (B : Pt), s.WarmedH vm₁ ∧ Stand p l e R s m args below meth c B.U B.locs B.cells B.slots ∧ Post ⟨T.setVm vm₁, locs, cells, slots⟩ argsL.toArray v B ∧
      ∀ target, Steps p.tables e below (B.U.setTop { g with pc := g.pc + 3, stack := v.toList ++ rest }) target → Steps p.tables e below (T.setTop g) target := by
  obtain ⟨mk, methM, cM, hnamed, hmethM, -, -, -, -, -, -, hsigM⟩ := Cond.codeWith_spec hcode
  have hstatic : methM.isStatic = true := Cond.static_spec hnamed hmethM hstat
  obtain ⟨kP, hkP, -⟩ := className_of_methodNamed hnamed
  have hinitP : kP.init = .initialized := Cond.initialized_spec (findClass_of_methodNamed hnamed) hkP hinit
  obtain ⟨vm₁, X₁, hstep₁⟩ := X.invokestatic hexec hown hlink hnamed hmethM hstatic hkP hinitP hy (g := g) hg (argsL := argsL) (rest := rest) (hlen _ hsigM) hstack hdg
  obtain ⟨v, B, X', hpost, hsteps⟩ := hK m meth c ⟨T.setVm vm₁, locs, cells, slots⟩ { g with stack := rest } (.invokestatic index) mk argsL.toArray X₁ hg hsize hdg hW (X₁.named hnamed) (hpre vm₁ X₁.warmed)
  exact ⟨v, vm₁, B, X₁.warmed, X', hpost, fun target h => hstep₁ _ fun acts => by rw [doInvoke_state]; exact hsteps.trans h⟩
theorem vx_runSW {y : MethodName} {bytes cc : ByteArray} {maxL nL mc ms n index : Nat} {ret : Option FieldType} {hh : List (Nat × Nat × Nat × Nat)} {ws : List Cond} {rm : Room} {Pc : Array Value → State → Prop} {Qc : Array Value → State → Outcome → State → Prop} {free : Addr → Prop} {Ts : List Cond} {own : String} {As rest : List Value} {g : JFrame}
    (S : CallFix p m c cc nL s args Ts own) (hM : Met l y ws rm Pc Qc mc ms free) (cw : vx_CSW R s args own index y bytes maxL ret hh ws rm mc ms n) (hp : PreS s H Pc As)
    (hg : g.method = m) (hn : As.length = n) (hsize : g.locals.size = nL) (hstack : g.stack = As.reverse ++ rest) (hW : 2 * g.monitorRoom + (rest.map fun v => v.category).sum ≤ 8) (hdg : decode cc g.pc = .ok (.invokestatic index, 3)) (hf : cells + mc ≤ R.cells ∧ slots + ms ≤ R.slots) :
    va_Run p l e R s m args below meth c H locs cells slots mc ms g rest (Qc As.toArray) (free) := by
  obtain ⟨⟨hrc, hrs, hfr, hlo, hws, hcw⟩, hcode, hini, hy, hlen, hl, hstt⟩ := cw
  have hK : Back l R p e below s args y 3 8 (PreOf R mc ms Pc) (PostOf Qc mc ms free) := va_backW (hh := hh) (bytes := bytes) (maxL := maxL) (ret := ret) hM hp.1 hrc hrs hfr hlo hws hcw (fun a' U hW => word_at hW (Or.inl (by first | rfl | simp [Cond.onTables, Cond.keeps, Cond.steady])) hini)
  obtain ⟨hx, hb, hml, ho, -⟩ := S
  intro T hT X
  obtain ⟨v, vm₁, ⟨U', l2, c2, s2⟩, hW₁, X', ⟨g', mk, t, L, e1, e2, hq, h1, hL, h2, h3⟩, st⟩ := vx_callSW X hx (hh := hh) (bytes := bytes) (maxL := maxL) (ret := ret) ho hl hstt hini hcode hy hK hg (hsize.trans hml.symm) (argsL := As) (rest := rest) (fun sig h => hn.trans (hlen sig h)) hstack hW (by rw [hb]; exact hdg)
    (fun vm₁ hW₁ => ⟨hf.1, hf.2, hp.2 (T.setVm vm₁) hT hW₁⟩)
  dsimp only [Pt.U, Pt.locs, Pt.cells, Pt.slots] at X' e1 e2 h1 h2 h3 st
  subst h1; subst h2; subst h3
  exact ⟨v, (T.setVm vm₁).calling g' mk As.toArray, t, U', L, hT, X', hL, e1, e2, hq, st⟩
/-- not caught here, past rows that name other classes: it goes on to the caller -/
theorem vx_outP {p : Program} {l : Launch} {e : Env} {R : Room} {s : State} {m : MethodId} {args : Array Value} {below : List Frame} {meth : Method} {c : Code} {H : Heap} {locs : List Loc} {cells slots : Nat} {free : Addr → Prop} {ls : Array Slot} {rest : List Value} {Qc : Array Value → State → Outcome → State → Prop} {XC : String → State → State → Prop}
    {pc : Nat} {own E : String} {ce : Cell} {q : Addr} {mc ms : Nat} (hown : s.vm.findClass own = some m.cls) (hlocks : meth.locks = false)
    (hpass : ∀ z ∈ c.exceptionTable.toList, covers z pc = false ∨ (z.catchType ≠ 0 ∧ ∃ nm : String, (Cond.classLink own z.catchType nm).before args s = true ∧ va_Nc E nm s)) (hcell : H[q]? = some ce) (hv : ce.vm = .none) (hcl : s.vm.findClass E = some ce.cls)
    (hx : ∀ t : State, t.heap = H → s.vm.Alike t.vm → XC E s t) (hf : ∀ z ∈ locs, free z.base) (hc : cells ≤ mc) (hs : slots ≤ ms) :
    vx_W p l e R s m args below meth c H locs cells slots (vx_MQ below Qc XC args s mc ms free) (F0 m pc ls rest) q := by
  intro T hT X
  have hpl : e.platform.magicAccessors = ({} : Platform).magicAccessors := by rw [X.admits.platform]
  obtain ⟨vm', hW', X', st⟩ := X.outThrough hlocks q (g := F0 m pc ls rest) rfl rfl rfl (cell := ce) (by rw [hT]; exact hcell) (by rw [hv]; rfl)
    (by obtain ⟨k9, h9, -⟩ := Vm.findClass_spec hcl; exact ⟨k9, h9⟩) (fun z hz => by
      rcases hpass z hz with h | ⟨hz0, nm, hl1, hn1⟩
      · exact Or.inl h
      · obtain ⟨c6, hc6, hcl6⟩ := Cond.classLink_spec hown hl1 e.platform hpl
        obtain ⟨a8, b8, h1, h2, h3⟩ := hn1
        cases Option.some.inj (h1.symm.trans hcl)
        cases Option.some.inj (h2.symm.trans hc6)
        exact Or.inr ⟨hz0, _, hcl6, h3⟩)
  obtain ⟨g₀, hfr⟩ := X'.frames_eq
  have hcell9 : ((T.setVm vm').setFrames (.throwing q :: below)).heap[q]? = some ce := by
    show T.heap[q]? = some ce
    rw [hT]; exact hcell
  have hend : Ended ((T.setVm vm').setFrames (.throwing q :: below)) below (.threw q) := State.frames_setFrames _ (State.cur_lt_of_frames hfr)
  refine ⟨(T.setVm vm').setFrames (.throwing q :: below), ?_, .threw q, X'.here.running, hend, Or.inr ⟨q, rfl, E, ce, locs, hx _ hT (X'.ends _).1.alike, hcell9, hv, hcl, (X'.ends _).1, (X'.ends _).2.mono hc hs, hf⟩⟩
  rw [X.pushThrowing_eq]
  exact st
/-- a thing of a world lies in the heap -/
theorem vx_lt {D : va_G} {cl : List vw_C} {ws : va_W} {H1 : Heap} (h : va_P D cl ws H1) {k : Nat} {q : Nat × va_E} (hk : ws[k]? = some q) : q.1 < H1.size := (h k q hk).lt
end VXS
/-! ===== END ===== -/
/-! ===== BEGIN methods with a table of their own: called by a name, returning or throwing ===== -/
section VXH
/-! vx_backW, vx_callVX, vx_callSX, vx_callVW, vx_runVW, vx_runVX, vx_runSX, vx_ofWH follow the same proofs as their sisters above (Free/Laws.lean, Shelf42/LK1.lean); vx_outP calls Shelf42/NT130.lean (outThrough). -/
section
variable {l : Launch} {R : Room} {p : Program} {e : Env} {below : List Frame} {s : State} {sargs : Array Value} {y : MethodName} {len W9 : Nat}
theorem vx_backW {ws : List Cond} {rm : Room} {Pc : Array Value → State → Prop} {Qc : Array Value → State → Outcome → State → Prop} {XC : String → State → State → Prop} {mc ms : Nat} {free : Addr → Prop} {bytes : ByteArray} {maxL : Nat} {ret : Option FieldType} {hh : List (Nat × Nat × Nat × Nat)}
    (hM : vx_Met l y ws rm Pc Qc XC mc ms free) (hblind : FrameBlind Pc) (hrc : rm.cells = mc) (hrs : rm.slots = ms)
    (hframes : rm.frames + 1 ≤ R.frames) (hlocals : W9 + (maxL + 11) + rm.locals ≤ R.locals)
    (hws : ∀ w ∈ ws, ∀ a' U, s.WarmedH U.vm → w.before a' U = true) (hcode : Cond.codeWith y bytes maxL ret hh ∈ ws) (hinit : ∀ a' U, s.WarmedH U.vm → (Cond.initialized y.cls).before a' U = true) :
    vx_Back l R p e below s sargs y len W9 (PreOf R mc ms Pc) (PostOf Qc mc ms free) (vx_Post XC mc ms free) := by
  intro m meth c A g ig mk a X hg hsize hdg hW hn hp
  have h1 : (headSpec ws rm).pre.before a A.U = true := atoms_intro fun w hw => hws w hw _ _ X.warmed
  have h2 : (Cond.codeWith y bytes maxL ret hh).before a A.U = true := hws _ hcode _ _ X.warmed
  have h3 : (Cond.initialized y.cls).before a A.U = true := hinit _ _ X.warmed
  have h4 : A.cells + (headSpec ws rm).room.cells ≤ R.cells := by rw [show (headSpec ws rm).room.cells = mc from hrc]; exact hp.1
  have h5 : A.slots + (headSpec ws rm).room.slots ≤ R.slots := by rw [show (headSpec ws rm).room.slots = ms from hrs]; exact hp.2.1
  have hPc : Pc a (A.U.calling g mk a) := hblind _ _ _ _ hp.2.2
  obtain ⟨U, Ls, c0, s0⟩ := A
  dsimp only [Pt.U, Pt.locs, Pt.cells, Pt.slots] at h1 h2 h3 h4 h5 X hn hPc ⊢
  obtain ⟨m9, methY, cY, hn9, hmY, hcY, -, hlY, -⟩ := Cond.codeWith_spec h2
  cases Option.some.inj (hn9.symm.trans hn)
  obtain ⟨kY, hkY, -⟩ := className_of_methodNamed hn
  have hinitY : kY.init = .initialized := Cond.initialized_spec (findClass_of_methodNamed hn) hkY h3
  have h : At U g.method c below := by rw [hg]; exact X.here
  have hlocals9 : W9 + (maxL + 11) + (headSpec ws rm).room.locals ≤ R.locals := hlocals
  have happ : (headSpec ws rm).appliesLoose y e.platform (U.calling g mk a) = true :=
    Spec.appliesLoose_calling (g := g) h hdg hn hkY hinitY
      (X.room_calling (g := g) (R' := (headSpec ws rm).room) hsize hmY hcY hframes (by rw [hlY]; omega) h4 h5) h1
  obtain ⟨mid, hmid⟩ := h.above
  have hfr : (U.setTop g).frames = (.java g :: mid) ++ below := by rw [State.frames_setTop' g h.top, hmid]; rfl
  obtain ⟨o, s₂, hsteps, -, hend, hq⟩ := Steps.callFree hM p X.admits X.cas X.clock (acts := []) hfr happ hPc trivial
  have hq' : vx_Q Qc XC mc ms free a (U.calling g mk a) o s₂ := hq
  rw [State.frames_setTop' g h.top] at hend
  obtain ⟨g₀, hg0⟩ := Option.isSome_iff_exists.mp h.top
  obtain ⟨r, hr⟩ := State.topJava?_eq_some.mp hg0
  have hr' : (({ U with heap := s₂.heap, slotsUsed := s₂.slotsUsed } : State).setVm s₂.vm).frames = .java g₀ :: r := hr
  rcases hq' with ⟨hqc, L, hfe, hL⟩ | ⟨q, rfl, E, ce, L, hx, hce, hcv, hcl, hW₂, hsm, hL⟩
  · obtain ⟨⟨v, rfl⟩, hW₂, e2, q2, q3, q4, q5, q6⟩ := id hfe
    have e3 : s₂ = ({ (U.calling g mk a).setFrames s₂.frames with heap := s₂.heap, slotsUsed := s₂.slotsUsed } : State).setVm s₂.vm := by
      have : s₂ = ({ s₂ with vm := (U.calling g mk a).vm } : State).setVm s₂.vm := rfl
      rw [e2] at this
      exact this
    obtain ⟨c₂, i₂, len₂, hc₂, hd₂, hf₂⟩ := hend
    have hW' : U.WarmedH s₂.vm := hW₂
    have hcc : c₂ = c := by
      have h1 : s₂.code? g.method = U.code? g.method := by
        rw [State.code?_eq, State.code?_eq, hW'.alike.method?]
      exact Option.some.inj (hc₂.symm.trans (h1.trans h.code))
    subst hcc
    have hlen : len₂ = len := by rw [hdg] at hd₂; cases hd₂; rfl
    subst hlen
    have hs₂ : s₂ = (({ U with heap := s₂.heap, slotsUsed := s₂.slotsUsed } : State).setVm s₂.vm).setTop { g with pc := g.pc + len₂, stack := v.toList ++ g.stack } := by
      refine e3.trans ?_
      rw [hf₂, State.calling_eq h.top, State.setFrames_setFrames, State.setTop_of_frames _ hr', hr]
      rfl
    have hsame : U.sameButNew ({ U with heap := s₂.heap, slotsUsed := s₂.slotsUsed } : State) L mc ms := by
      refine ⟨?_, q2, q3, q4, q5, q6⟩
      obtain ⟨t, ht, -⟩ := State.frames_cons hr
      show ({ U with heap := s₂.heap, slotsUsed := s₂.slotsUsed } : State) = { U.setFrames U.frames with heap := s₂.heap, slotsUsed := s₂.slotsUsed }
      rw [State.setFrames_self ht]
    subst hg
    refine Or.inl ⟨v, ⟨(({ U with heap := s₂.heap, slotsUsed := s₂.slotsUsed } : State).setVm s₂.vm), Ls ++ L, c0 + mc, s0 + ms⟩,
      ⟨X.admits, X.cas, X.clock, X.frames, X.room, X.hears, X.method, X.code, (X.here.setHeapUsed s₂.heap s₂.slotsUsed).setVm hW'.alike, X.tail, State.WarmedH.trans X.warmed hW', X.limits, X.bytes, X.same.trans (hsame.setVm s.vm)⟩,
      ⟨g, mk, s₂, L, rfl, rfl, hqc, rfl, hL, rfl, rfl⟩, ?_⟩
    show Steps p.tables e below _ ((({ U with heap := s₂.heap, slotsUsed := s₂.slotsUsed } : State).setVm s₂.vm).setTop { g with pc := g.pc + len₂, stack := v.toList ++ g.stack })
    rw [← hs₂]
    exact hsteps
  · obtain ⟨e2, q2, q3, q4, q5, q6⟩ := id hsm
    have e3 : s₂ = ({ (U.calling g mk a).setFrames s₂.frames with heap := s₂.heap, slotsUsed := s₂.slotsUsed } : State).setVm s₂.vm := by
      have : s₂ = ({ s₂ with vm := (U.calling g mk a).vm } : State).setVm s₂.vm := rfl
      rw [e2] at this
      exact this
    have hf₂ : s₂.frames = .throwing q :: .java g :: U.frames.tail := hend
    have hW' : U.WarmedH s₂.vm := hW₂
    have hs₂ : s₂ = ((({ U with heap := s₂.heap, slotsUsed := s₂.slotsUsed } : State).setVm s₂.vm).setTop g).pushFrame (.throwing q) := by
      refine e3.trans ?_
      rw [hf₂, State.calling_eq h.top, State.setFrames_setFrames, State.pushFrame, State.frames_setTop _ hr', State.setTop_of_frames _ hr', State.setFrames_setFrames, hr]
      rfl
    have hsame : U.sameButNew ({ U with heap := s₂.heap, slotsUsed := s₂.slotsUsed } : State) L mc ms := by
      refine ⟨?_, q2, q3, q4, q5, q6⟩
      obtain ⟨t, ht, -⟩ := State.frames_cons hr
      show ({ U with heap := s₂.heap, slotsUsed := s₂.slotsUsed } : State) = { U.setFrames U.frames with heap := s₂.heap, slotsUsed := s₂.slotsUsed }
      rw [State.setFrames_self ht]
    subst hg
    refine Or.inr ⟨q, ⟨(({ U with heap := s₂.heap, slotsUsed := s₂.slotsUsed } : State).setVm s₂.vm), Ls ++ L, c0 + mc, s0 + ms⟩,
      ⟨X.admits, X.cas, X.clock, X.frames, X.room, X.hears, X.method, X.code, (X.here.setHeapUsed s₂.heap s₂.slotsUsed).setVm hW'.alike, X.tail, State.WarmedH.trans X.warmed hW', X.limits, X.bytes, X.same.trans (hsame.setVm s.vm)⟩,
      ⟨g, mk, s₂, L, E, ce, rfl, rfl, hx, hce, hcv, hcl, rfl, hL, rfl, rfl⟩, ?_⟩
    show Steps p.tables e below _ (((({ U with heap := s₂.heap, slotsUsed := s₂.slotsUsed } : State).setVm s₂.vm).setTop g).pushFrame (.throwing q))
    rw [← hs₂]
    exact hsteps
end
variable {p : Program} {l : Launch} {e : Env} {R : Room} {s : State} {m : MethodId} {args : Array Value} {below : List Frame} {meth : Method} {c : Code} {T : State} {H : Heap} {locs : List Loc} {cells slots : Nat}
theorem vx_callVX (X : Stand p l e R s m args below meth c T locs cells slots) (hexec : p.tables.exec = Jvm.exec) {own C : String} {index : Nat} {y : MethodName} {bytes : ByteArray} {maxL : Nat} {ret : Option FieldType} {hh : List (Nat × Nat × Nat × Nat)}
    (hown : s.vm.findClass own = some m.cls) (hlink : (Cond.methodLink own index y).before args s = true) (hinst : (Cond.instanceMethod y).before args s = true) (hsel : (Cond.selects C y y).before args s = true)
    (hcode : (Cond.codeWith y bytes maxL ret hh).before args s = true) (hy : y.cls ≠ "java/lang/invoke/MethodHandle" ∧ y.cls ≠ "java/lang/invoke/VarHandle")
    {W9 : Nat} {Pre : Pt → Array Value → Prop} {Post : Pt → Array Value → Option Value → Pt → Prop} {PostX : Pt → Array Value → Addr → Pt → Prop} (hK : vx_Back l R p e below s args y 3 W9 Pre Post PostX)
    {b : Addr} {cellB : Cell} (hcell : T.heap[b]? = some cellB) (hobj : cellB.vm.isStatics = false) (hcls : s.vm.findClass C = some cellB.cls)
    {g : JFrame} (hg : g.method = m) (hsize : g.locals.size = c.maxLocals) {argsL rest : List Value} (hlen : ∀ sig, parseMethodDescriptor y.desc = some sig → argsL.length = sig.parameters.length)
    (hstack : g.stack = argsL.reverse ++ .ref b :: rest) (hW : 2 * g.monitorRoom + (rest.map fun v => v.category).sum ≤ W9) (hdg : decode c.code g.pc = .ok (.invokevirtual index, 3))
    (hpre : ∀ vm₁, s.WarmedH vm₁ → Pre ⟨T.setVm vm₁, locs, cells, slots⟩ (Value.ref b :: argsL).toArray) :
    (∃ (v : Option Value) (vm₁ : Vm) (B : Pt), s.WarmedH vm₁ ∧ Stand p l e R s m args below meth c B.U B.locs B.cells B.slots ∧ Post ⟨T.setVm vm₁, locs, cells, slots⟩ (Value.ref b :: argsL).toArray v B ∧
      ∀ target, Steps p.tables e below (B.U.setTop { g with pc := g.pc + 3, stack := v.toList ++ rest }) target → Steps p.tables e below (T.setTop g) target) ∨
    (∃ (q : Addr) (vm₁ : Vm) (B : Pt), s.WarmedH vm₁ ∧ Stand p l e R s m args below meth c B.U B.locs B.cells B.slots ∧ PostX ⟨T.setVm vm₁, locs, cells, slots⟩ (Value.ref b :: argsL).toArray q B ∧
      Steps p.tables e below (T.setTop g) ((B.U.setTop { g with stack := rest }).pushFrame (.throwing q))) := by
  obtain ⟨mk, methM, hnamed, hmethM, hstM, habM⟩ := Cond.instanceMethod_spec hinst
  obtain ⟨m8, methM', cM, hn8, hmethM', -, -, -, -, -, -, hsigM⟩ := Cond.codeWith_spec hcode
  cases Option.some.inj (hn8.symm.trans hnamed)
  cases hmethM.symm.trans hmethM'
  obtain ⟨c2, r2, m2, q1, q2, q3, q4, kP, hkP, hkPi⟩ := Cond.selects_spec hsel
  cases hcls.symm.trans q1
  cases (State.methodFound?_of_named hnamed hy).symm.trans q2
  cases hnamed.symm.trans q3
  have hselP : selectMethod e.platform s.vm cellB.cls mk = .method mk := by rw [Launch.admits_selectMethod X.admits]; exact q4
  obtain ⟨vm₁, X₁, hstep₁⟩ := X.invokevirtual hexec hown hlink hnamed hmethM hstM hkP hkPi hy (a := b) (cell := cellB) hcell
    (fun z h => by rw [h] at hobj; cases hobj) hselP hmethM habM hkP hkPi (g := g) hg (argsL := argsL) (rest := rest) (hlen _ hsigM) hstack hdg
  rcases hK m meth c ⟨T.setVm vm₁, locs, cells, slots⟩ { g with stack := rest } (.invokevirtual index) mk (Value.ref b :: argsL).toArray X₁ hg hsize hdg hW (X₁.named hnamed) (hpre vm₁ X₁.warmed) with ⟨v, B, X', hpost, hsteps⟩ | ⟨q, B, X', hpost, hsteps⟩
  · exact Or.inl ⟨v, vm₁, B, X₁.warmed, X', hpost, fun target h => hstep₁ _ fun acts => by rw [doInvoke_state]; exact hsteps.trans h⟩
  · exact Or.inr ⟨q, vm₁, B, X₁.warmed, X', hpost, hstep₁ _ fun acts => by rw [doInvoke_state]; exact hsteps⟩
theorem vx_callSX (X : Stand p l e R s m args below meth c T locs cells slots) (hexec : p.tables.exec = Jvm.exec) {own : String} {index : Nat} {y : MethodName} {bytes : ByteArray} {maxL : Nat} {ret : Option FieldType} {hh : List (Nat × Nat × Nat × Nat)}
    (hown : s.vm.findClass own = some m.cls) (hlink : (Cond.methodLink own index y).before args s = true) (hstat : (Cond.static y).before args s = true) (hinit : (Cond.initialized y.cls).before args s = true)
    (hcode : (Cond.codeWith y bytes maxL ret hh).before args s = true) (hy : y.cls ≠ "java/lang/invoke/MethodHandle" ∧ y.cls ≠ "java/lang/invoke/VarHandle")
    {W9 : Nat} {Pre : Pt → Array Value → Prop} {Post : Pt → Array Value → Option Value → Pt → Prop} {PostX : Pt → Array Value → Addr → Pt → Prop} (hK : vx_Back l R p e below s args y 3 W9 Pre Post PostX)
    {g : JFrame} (hg : g.method = m) (hsize : g.locals.size = c.maxLocals) {argsL rest : List Value} (hlen : ∀ sig, parseMethodDescriptor y.desc = some sig → argsL.length = sig.parameters.length)
    (hstack : g.stack = argsL.reverse ++ rest) (hW : 2 * g.monitorRoom + (rest.map fun v => v.category).sum ≤ W9) (hdg : decode c.code g.pc = .ok (.invokestatic index, 3))
    (hpre : ∀ vm₁, s.WarmedH vm₁ → Pre ⟨T.setVm vm₁, locs, cells, slots⟩ argsL.toArray) :
    (∃ (v : Option Value) (vm₁ : Vm) (B : Pt), s.WarmedH vm₁ ∧ Stand p l e R s m args below meth c B.U B.locs B.cells B.slots ∧ Post ⟨T.setVm vm₁, locs, cells, slots⟩ argsL.toArray v B ∧
      ∀ target, Steps p.tables e below (B.U.setTop { g with pc := g.pc + 3, stack := v.toList ++ rest }) target → Steps p.tables e below (T.setTop g) target) ∨
    (∃ (q : Addr) (vm₁ : Vm) (B : Pt), s.WarmedH vm₁ ∧ Stand p l e R s m args below meth c B.U B.locs B.cells B.slots ∧ PostX ⟨T.setVm vm₁, locs, cells, slots⟩ argsL.toArray q B ∧
      Steps p.tables e below (T.setTop g) ((B.U.setTop { g with stack := rest }).pushFrame (.throwing q))) := by
  obtain ⟨mk, methM, cM, hnamed, hmethM, -, -, -, -, -, -, hsigM⟩ := Cond.codeWith_spec hcode
  have hstatic : methM.isStatic = true := Cond.static_spec hnamed hmethM hstat
  obtain ⟨kP, hkP, -⟩ := className_of_methodNamed hnamed
  have hinitP : kP.init = .initialized := Cond.initialized_spec (findClass_of_methodNamed hnamed) hkP hinit
  obtain ⟨vm₁, X₁, hstep₁⟩ := X.invokestatic hexec hown hlink hnamed hmethM hstatic hkP hinitP hy (g := g) hg (argsL := argsL) (rest := rest) (hlen _ hsigM) hstack hdg
  rcases hK m meth c ⟨T.setVm vm₁, locs, cells, slots⟩ { g with stack := rest } (.invokestatic index) mk argsL.toArray X₁ hg hsize hdg hW (X₁.named hnamed) (hpre vm₁ X₁.warmed) with ⟨v, B, X', hpost, hsteps⟩ | ⟨q, B, X', hpost, hsteps⟩
  · exact Or.inl ⟨v, vm₁, B, X₁.warmed, X', hpost, fun target h => hstep₁ _ fun acts => by rw [doInvoke_state]; exact hsteps.trans h⟩
  · exact Or.inr ⟨q, vm₁, B, X₁.warmed, X', hpost, hstep₁ _ fun acts => by rw [doInvoke_state]; exact hsteps⟩
theorem vx_callVW (X : Stand p l e R s m args below meth c T locs cells slots) (hexec : p.tables.exec = Jvm.exec) {own C : String} {index : Nat} {y : MethodName} {bytes : ByteArray} {maxL : Nat} {ret : Option FieldType} {hh : List (Nat × Nat × Nat × Nat)}
    (hown : s.vm.findClass own = some m.cls) (hlink : (Cond.methodLink own index y).before args s = true) (hinst : (Cond.instanceMethod y).before args s = true) (hsel : (Cond.selects C y y).before args s = true)
    (hcode : (Cond.codeWith y bytes maxL ret hh).before args s = true) (hy : y.cls ≠ "java/lang/invoke/MethodHandle" ∧ y.cls ≠ "java/lang/invoke/VarHandle")
    {W9 : Nat} {Pre : Pt → Array Value → Prop} {Post : Pt → Array Value → Option Value → Pt → Prop} (hK : Back l R p e below s args y 3 W9 Pre Post)
    {b : Addr} {cellB : Cell} (hcell : T.heap[b]? = some cellB) (hobj : cellB.vm.isStatics = false) (hcls : s.vm.findClass C = some cellB.cls)
    {g : JFrame} (hg : g.method = m) (hsize : g.locals.size = c.maxLocals) {argsL rest : List Value} (hlen : ∀ sig, parseMethodDescriptor y.desc = some sig → argsL.length = sig.parameters.length)
    (hstack : g.stack = argsL.reverse ++ .ref b :: rest) (hW : 2 * g.monitorRoom + (rest.map fun v => v.category).sum ≤ W9) (hdg : decode c.code g.pc = .ok (.invokevirtual index, 3))
    (hpre : ∀ vm₁, s.WarmedH vm₁ → Pre ⟨T.setVm vm₁, locs, cells, slots⟩ (Value.ref b :: argsL).toArray) :
    ∃ (v : Option Value) (vm₁ : Vm) (B : Pt), s.WarmedH vm₁ ∧ Stand p l e R s m args below meth c B.U B.locs B.cells B.slots ∧ Post ⟨T.setVm vm₁, locs, cells, slots⟩ (Value.ref b :: argsL).toArray v B ∧
      ∀ target, Steps p.tables e below (B.U.setTop { g with pc := g.pc + 3, stack := v.toList ++ rest }) target → Steps p.tables e below (T.setTop g) target := by
  obtain ⟨mk, methM, hnamed, hmethM, hstM, habM⟩ := Cond.instanceMethod_spec hinst
  obtain ⟨m8, methM', cM, hn8, hmethM', -, -, -, -, -, -, hsigM⟩ := Cond.codeWith_spec hcode
  cases Option.some.inj (hn8.symm.trans hnamed)
  cases hmethM.symm.trans hmethM'
  obtain ⟨c2, r2, m2, q1, q2, q3, q4, kP, hkP, hkPi⟩ := Cond.selects_spec hsel
  cases hcls.symm.trans q1
  cases (State.methodFound?_of_named hnamed hy).symm.trans q2
  cases hnamed.symm.trans q3
  have hselP : selectMethod e.platform s.vm cellB.cls mk = .method mk := by rw [Launch.admits_selectMethod X.admits]; exact q4
  obtain ⟨vm₁, X₁, hstep₁⟩ := X.invokevirtual hexec hown hlink hnamed hmethM hstM hkP hkPi hy (a := b) (cell := cellB) hcell
    (fun z h => by rw [h] at hobj; cases hobj) hselP hmethM habM hkP hkPi (g := g) hg (argsL := argsL) (rest := rest) (hlen _ hsigM) hstack hdg
  obtain ⟨v, B, X', hpost, hsteps⟩ := hK m meth c ⟨T.setVm vm₁, locs, cells, slots⟩ { g with stack := rest } (.invokevirtual index) mk (Value.ref b :: argsL).toArray X₁ hg hsize hdg hW (X₁.named hnamed) (hpre vm₁ X₁.warmed)
  exact ⟨v, vm₁, B, X₁.warmed, X', hpost, fun target h => hstep₁ _ fun acts => by rw [doInvoke_state]; exact hsteps.trans h⟩
abbrev vx_CVW (R : Room) (s : State) (args : Array Value) (own C : String) (index : Nat) (y : MethodName) (bytes : ByteArray) (maxL : Nat) (ret : Option FieldType) (hh : List (Nat × Nat × Nat × Nat)) (ws : List Cond) (rm : Room) (mc ms n : Nat) : Prop :=
  (rm.cells = mc ∧ rm.slots = ms ∧ rm.frames + 1 ≤ R.frames ∧ 8 + (maxL + 11) + rm.locals ≤ R.locals ∧ (∀ w ∈ ws, ∀ (a' : Array Value) (U : State), s.WarmedH U.vm → w.before a' U = true) ∧ Cond.codeWith y bytes maxL ret hh ∈ ws) ∧
  (Cond.codeWith y bytes maxL ret hh).before args s = true ∧ (Cond.initialized y.cls).before args s = true ∧ (y.cls ≠ "java/lang/invoke/MethodHandle" ∧ y.cls ≠ "java/lang/invoke/VarHandle") ∧
  (∀ sig, parseMethodDescriptor y.desc = some sig → n = sig.parameters.length) ∧ (Cond.methodLink own index y).before args s = true ∧ (Cond.instanceMethod y).before args s = true ∧ (Cond.selects C y y).before args s = true
theorem vx_cwVW {own C : String} {index maxL mc ms : Nat} {y : MethodName} {bytes : ByteArray} {ret : Option FieldType} {hh : List (Nat × Nat × Nat × Nat)} {Ts ws ws' : List Cond} {rm : Room} (n : Nat) (ht : ∀ w ∈ Ts, w.before args s = true) (hT : GoodIn Ts (wsV own index C y ws)) (hw : ws = Cond.codeWith y bytes maxL ret hh :: ws') (hrc : rm.cells = mc) (hrs : rm.slots = ms)
    (hd : y.cls = C ∧ y.cls ≠ "java/lang/invoke/MethodHandle" ∧ y.cls ≠ "java/lang/invoke/VarHandle" ∧ (parseMethodDescriptor y.desc).map (fun d => d.parameters.length) = some n) (hR : rm.frames + 1 ≤ R.frames ∧ 8 + (maxL + 11) + rm.locals ≤ R.locals) :
    vx_CVW R s args own C index y bytes maxL ret hh ws rm mc ms n := by
  obtain ⟨hC, hd⟩ := hd
  subst hC
  have ok : ∀ w ∈ wsV own index y.cls y ws, w.before args s = true := fun w h => ht w (hT w h).1
  have hG : GoodIn Ts ws := fun w h => hT w (by unfold wsV; exact List.mem_append_right _ h)
  have hc : Cond.codeWith y bytes maxL ret hh ∈ ws := by rw [hw]; exact List.mem_cons_self
  refine ⟨⟨hrc, hrs, hR.1, hR.2, pay_in ht hG, hc⟩, ht _ (hG _ hc).1, ok _ (by simp [wsV]), ⟨hd.1, hd.2.1⟩, fun sig h => ?_, ok _ (by simp [wsV]), ok _ (by simp [wsV]), ok _ (by simp [wsV])⟩
  have h2 := hd.2.2
  rw [h] at h2
  exact (Option.some.inj h2).symm
theorem vx_runVW {y : MethodName} {bytes cc : ByteArray} {maxL nL mc ms n index : Nat} {ret : Option FieldType} {hh : List (Nat × Nat × Nat × Nat)} {ws : List Cond} {rm : Room} {Pc : Array Value → State → Prop} {Qc : Array Value → State → Outcome → State → Prop} {free : Addr → Prop} {Ts : List Cond} {own C : String} {b : Addr} {As rest : List Value} {g : JFrame}
    (S : CallFix p m c cc nL s args Ts own) (hM : Met l y ws rm Pc Qc mc ms free) (cw : vx_CVW R s args own C index y bytes maxL ret hh ws rm mc ms n) (hp : PreV s H C b Pc As)
    (hg : g.method = m) (hn : As.length = n) (hsize : g.locals.size = nL) (hstack : g.stack = As.reverse ++ .ref b :: rest) (hW : 2 * g.monitorRoom + (rest.map fun v => v.category).sum ≤ 8) (hdg : decode cc g.pc = .ok (.invokevirtual index, 3)) (hf : cells + mc ≤ R.cells ∧ slots + ms ≤ R.slots) :
    va_Run p l e R s m args below meth c H locs cells slots mc ms g rest (Qc (Value.ref b :: As).toArray) free := by
  obtain ⟨⟨hrc, hrs, hfr, hlo, hws, hcw⟩, hcode, hini, hy, hlen, hl, hin, hse⟩ := cw
  have hK : Back l R p e below s args y 3 8 (PreOf R mc ms Pc) (PostOf Qc mc ms free) := va_backW (hh := hh) (bytes := bytes) (maxL := maxL) (ret := ret) hM hp.1 hrc hrs hfr hlo hws hcw (fun a' U hW => word_at hW (Or.inl (by first | rfl | simp [Cond.onTables, Cond.keeps, Cond.steady])) hini)
  obtain ⟨hx, hb, hml, ho, -⟩ := S
  obtain ⟨-, ⟨cellB, hcB, hoB, hclB⟩, hPc⟩ := hp
  intro T hT X
  obtain ⟨v, vm₁, ⟨U', l2, c2, s2⟩, hW₁, X', ⟨g', mk, t, L, e1, e2, hq, h1, hL, h2, h3⟩, st⟩ := vx_callVW X hx (C := C) (hh := hh) (bytes := bytes) (maxL := maxL) (ret := ret) ho hl hin hse hcode hy hK (by rw [hT]; exact hcB) hoB hclB hg (hsize.trans hml.symm) (argsL := As) (rest := rest) (fun sig h => hn.trans (hlen sig h)) hstack hW (by rw [hb]; exact hdg)
    (fun vm₁ hW₁ => ⟨hf.1, hf.2, hPc (T.setVm vm₁) hT hW₁⟩)
  dsimp only [Pt.U, Pt.locs, Pt.cells, Pt.slots] at X' e1 e2 h1 h2 h3 st
  subst h1; subst h2; subst h3
  exact ⟨v, (T.setVm vm₁).calling g' mk (Value.ref b :: As).toArray, t, U', L, hT, X', hL, e1, e2, hq, st⟩
section
variable {y : MethodName} {bytes cc : ByteArray} {maxL nL mc ms n index : Nat} {ret : Option FieldType} {ws : List Cond} {rm : Room} {Pc : Array Value → State → Prop} {Qc : Array Value → State → Outcome → State → Prop} {XC : String → State → State → Prop} {free : Addr → Prop} {Ts : List Cond} {own C : String} {b : Addr} {As rest : List Value} {g : JFrame}
theorem vx_runVX {hh : List (Nat × Nat × Nat × Nat)} (S : CallFix p m c cc nL s args Ts own) (hM : vx_Met l y ws rm Pc Qc XC mc ms free) (cw : vx_CVW R s args own C index y bytes maxL ret hh ws rm mc ms n) (hp : PreV s H C b Pc As)
    (hg : g.method = m) (hn : As.length = n) (hsize : g.locals.size = nL) (hstack : g.stack = As.reverse ++ .ref b :: rest) (hW : 2 * g.monitorRoom + (rest.map fun v => v.category).sum ≤ 8) (hdg : decode cc g.pc = .ok (.invokevirtual index, 3)) (hf : cells + mc ≤ R.cells ∧ slots + ms ≤ R.slots) :
    vx_Run p l e R s m args below meth c H locs cells slots mc ms g rest (Qc (Value.ref b :: As).toArray) XC free := by
  obtain ⟨⟨hrc, hrs, hfr, hlo, hws, hcw⟩, hcode, hini, hy, hlen, hl, hin, hse⟩ := cw
  have hK : vx_Back l R p e below s args y 3 8 (PreOf R mc ms Pc) (PostOf Qc mc ms free) (vx_Post XC mc ms free) := vx_backW (hh := hh) (bytes := bytes) (maxL := maxL) (ret := ret) hM hp.1 hrc hrs hfr hlo hws hcw (fun a' U hW => word_at hW (Or.inl (by first | rfl | simp [Cond.onTables, Cond.keeps, Cond.steady])) hini)
  obtain ⟨hx, hb, hml, ho, -⟩ := S
  obtain ⟨-, ⟨cellB, hcB, hoB, hclB⟩, hPc⟩ := hp
  intro T hT X
  rcases vx_callVX X hx (C := C) (hh := hh) (bytes := bytes) (maxL := maxL) (ret := ret) ho hl hin hse hcode hy hK (by rw [hT]; exact hcB) hoB hclB hg (hsize.trans hml.symm) (argsL := As) (rest := rest) (fun sig h => hn.trans (hlen sig h)) hstack hW (by rw [hb]; exact hdg)
    (fun vm₁ hW₁ => ⟨hf.1, hf.2, hPc (T.setVm vm₁) hT hW₁⟩) with ⟨v, vm₁, ⟨U', l2, c2, s2⟩, hW₁, X', ⟨g', mk, t, L, e1, e2, hq, h1, hL, h2, h3⟩, st⟩ | ⟨q, vm₁, ⟨U', l2, c2, s2⟩, hW₁, X', ⟨g', mk, t, L, E, ce, e1, e2, hq, hce, hcv, hcl, h1, hL, h2, h3⟩, st⟩
  · dsimp only [Pt.U, Pt.locs, Pt.cells, Pt.slots] at X' e1 e2 h1 h2 h3 st
    subst h1; subst h2; subst h3
    exact Or.inl ⟨v, (T.setVm vm₁).calling g' mk (Value.ref b :: As).toArray, t, U', L, hT, X', hL, e1, e2, hq, st⟩
  · dsimp only [Pt.U, Pt.locs, Pt.cells, Pt.slots] at X' e1 e2 h1 h2 h3 st hcl
    subst h1; subst h2; subst h3
    exact Or.inr ⟨q, (T.setVm vm₁).calling g' mk (Value.ref b :: As).toArray, t, U', L, E, ce, hT, X', hL, e1, e2, hq, hce, hcv, vx_cls hW₁ hcl, st⟩
theorem vx_runSX {hh : List (Nat × Nat × Nat × Nat)} (S : CallFix p m c cc nL s args Ts own) (hM : vx_Met l y ws rm Pc Qc XC mc ms free) (cw : vx_CSW R s args own index y bytes maxL ret hh ws rm mc ms n) (hp : PreS s H Pc As)
    (hg : g.method = m) (hn : As.length = n) (hsize : g.locals.size = nL) (hstack : g.stack = As.reverse ++ rest) (hW : 2 * g.monitorRoom + (rest.map fun v => v.category).sum ≤ 8) (hdg : decode cc g.pc = .ok (.invokestatic index, 3)) (hf : cells + mc ≤ R.cells ∧ slots + ms ≤ R.slots) :
    vx_Run p l e R s m args below meth c H locs cells slots mc ms g rest (Qc As.toArray) XC free := by
  obtain ⟨⟨hrc, hrs, hfr, hlo, hws, hcw⟩, hcode, hini, hy, hlen, hl, hstt⟩ := cw
  have hK : vx_Back l R p e below s args y 3 8 (PreOf R mc ms Pc) (PostOf Qc mc ms free) (vx_Post XC mc ms free) := vx_backW (hh := hh) (bytes := bytes) (maxL := maxL) (ret := ret) hM hp.1 hrc hrs hfr hlo hws hcw (fun a' U hW => word_at hW (Or.inl (by first | rfl | simp [Cond.onTables, Cond.keeps, Cond.steady])) hini)
  obtain ⟨hx, hb, hml, ho, -⟩ := S
  intro T hT X
  rcases vx_callSX X hx (hh := hh) (bytes := bytes) (maxL := maxL) (ret := ret) ho hl hstt hini hcode hy hK hg (hsize.trans hml.symm) (argsL := As) (rest := rest) (fun sig h => hn.trans (hlen sig h)) hstack hW (by rw [hb]; exact hdg)
    (fun vm₁ hW₁ => ⟨hf.1, hf.2, hp.2 (T.setVm vm₁) hT hW₁⟩) with ⟨v, vm₁, ⟨U', l2, c2, s2⟩, hW₁, X', ⟨g', mk, t, L, e1, e2, hq, h1, hL, h2, h3⟩, st⟩ | ⟨q, vm₁, ⟨U', l2, c2, s2⟩, hW₁, X', ⟨g', mk, t, L, E, ce, e1, e2, hq, hce, hcv, hcl, h1, hL, h2, h3⟩, st⟩
  · dsimp only [Pt.U, Pt.locs, Pt.cells, Pt.slots] at X' e1 e2 h1 h2 h3 st
    subst h1; subst h2; subst h3
    exact Or.inl ⟨v, (T.setVm vm₁).calling g' mk As.toArray, t, U', L, hT, X', hL, e1, e2, hq, st⟩
  · dsimp only [Pt.U, Pt.locs, Pt.cells, Pt.slots] at X' e1 e2 h1 h2 h3 st hcl
    subst h1; subst h2; subst h3
    exact Or.inr ⟨q, (T.setVm vm₁).calling g' mk As.toArray, t, U', L, E, ce, hT, X', hL, e1, e2, hq, hce, hcv, vx_cls hW₁ hcl, st⟩
end
end VXH
theorem vx_ofWH {l : Launch} {y : MethodName} {ws ws' : List Cond} {rm : Room} {Pc : Array Value → State → Prop} {Qc : Array Value → State → Outcome → State → Prop} {XC : String → State → State → Prop} {mc ms : Nat} {free : Addr → Prop} {cc : ByteArray} {maxL : Nat} {ret : Option FieldType} {hh : List (Nat × Nat × Nat × Nat)}
    (hy : plainName y.cls = true) (hw : ws = Cond.codeWith y cc maxL ret hh :: ws')
    (body : ∀ p e s m args below meth c s₁, BodyLoose p l y (headSpec ws rm) cc maxL ret e s m args below meth c s₁ → c.maxLocals = maxL → Pc args s →
      W p l e (headSpec ws rm).room s m args below meth c s.heap [] 0 0 (vx_MQ below Qc XC args s mc ms free) (entryFrame m args maxL)) : vx_Met l y ws rm Pc Qc XC mc ms free := by
  refine MetFree.of_bodyS (code := cc) (maxLocals := maxL) (ret := ret) hy ?_ ?_
  · intro args s m h hn
    obtain ⟨m9, meth, c, hn9, h1, h2, h3, h4, -, h5, h6, -⟩ := Cond.codeWith_spec (atoms_spec (ws := ws) h _ (by rw [hw]; exact List.mem_cons_self))
    cases hn.symm.trans hn9
    exact ⟨meth, c, h1, h2, h3, h4, h5, h6⟩
  · intro p e s m args below meth c s₁ B hml hP _
    have hh0 : s₁.heap = s.heap := by rw [B.state]; rfl
    obtain ⟨t, a1, o, b1, b2, b3⟩ := body p e s m args below meth c s₁ B hml hP s₁ hh0 (Stand.of_body B)
    exact ⟨t, o, a1, b1, b2, b3⟩
/-! ===== END ===== -/
end
section
def RX0 : String := "BinderyDesk$Contents"
def TX0 : u_T := fun k => match k with
  | 0 => ("BinderyDesk$Contents", "states", "[I", true)
  | 1 => ("BinderyDesk$Contents", "approvals", "[I", true)
  | 2 => ("BinderyDesk$Contents", "corrected", "[I", true)
  | 3 => ("BinderyDesk$Contents", "size", "I", false)
  | _ => ("BinderyDesk$Contents", "corrections", "I", false)
def tyX0 : Nat → FieldType := fun k => match k with
  | 0 => .array .int
  | 1 => .array .int
  | 2 => .array .int
  | 3 => .int
  | _ => .int
abbrev wsX00 : List Cond := u_ws RX0 TX0 5
theorem nmX0 : ∀ a, a < 5 → ∀ b, b < 5 → a ≠ b → (TX0 a).2.1 ≠ (TX0 b).2.1 := by decide +kernel
theorem tyX0_ok : ∀ k, k < 5 → parseFieldDescriptor (TX0 k).2.2.1 = some (tyX0 k) := by decide +kernel
abbrev cX0_init : ByteArray := prog_2_method_1_code
def yX0_init : MethodName := ⟨RX0, "<init>", "()V"⟩
abbrev cX0_add : ByteArray := prog_2_method_2_code
def yX0_add : MethodName := ⟨RX0, "add", "()I"⟩
abbrev cX0_stateOf : ByteArray := prog_2_method_3_code
def yX0_stateOf : MethodName := ⟨RX0, "stateOf", "(I)I"⟩
abbrev cX0_isApproved : ByteArray := prog_2_method_4_code
def yX0_isApproved : MethodName := ⟨RX0, "isApproved", "(I)Z"⟩
abbrev cX0_setApproved : ByteArray := prog_2_method_5_code
def yX0_setApproved : MethodName := ⟨RX0, "setApproved", "(IZ)V"⟩
abbrev cX0_noteCorrection : ByteArray := prog_2_method_6_code
def yX0_noteCorrection : MethodName := ⟨RX0, "noteCorrection", "(I)V"⟩
abbrev cX0_stateAfter : ByteArray := prog_2_method_7_code
def yX0_stateAfter : MethodName := ⟨RX0, "stateAfter", "(II)I"⟩
abbrev cX0_plateOf : ByteArray := prog_2_method_8_code
def yX0_plateOf : MethodName := ⟨RX0, "plateOf", "(II)I"⟩
def RX1 : String := "BinderyDesk$Job"
def TX1 : u_T := fun k => match k with
  | 0 => ("BinderyDesk$Job", "binding", "C", true)
  | 1 => ("BinderyDesk$Job", "shown", "[I", true)
  | 2 => ("BinderyDesk$Job", "piles", "[I", true)
  | _ => ("BinderyDesk$Job", "size", "I", false)
def tyX1 : Nat → FieldType := fun k => match k with
  | 0 => .char
  | 1 => .array .int
  | 2 => .array .int
  | _ => .int
abbrev wsX10 : List Cond := u_ws RX1 TX1 4
theorem nmX1 : ∀ a, a < 4 → ∀ b, b < 4 → a ≠ b → (TX1 a).2.1 ≠ (TX1 b).2.1 := by decide +kernel
theorem tyX1_ok : ∀ k, k < 4 → parseFieldDescriptor (TX1 k).2.2.1 = some (tyX1 k) := by decide +kernel
abbrev cX1_init : ByteArray := prog_3_method_1_code
def yX1_init : MethodName := ⟨RX1, "<init>", "(C)V"⟩
abbrev cX1_append : ByteArray := prog_3_method_2_code
def yX1_append : MethodName := ⟨RX1, "append", "(I)V"⟩
abbrev cX1_contentOf : ByteArray := prog_3_method_3_code
def yX1_contentOf : MethodName := ⟨RX1, "contentOf", "(I)I"⟩
abbrev cX1_placeCount : ByteArray := prog_3_method_4_code
def yX1_placeCount : MethodName := ⟨RX1, "placeCount", "()I"⟩
abbrev cX1_isComplete : ByteArray := prog_3_method_5_code
def yX1_isComplete : MethodName := ⟨RX1, "isComplete", "()Z"⟩
abbrev cX1_sheetCount : ByteArray := prog_3_method_6_code
def yX1_sheetCount : MethodName := ⟨RX1, "sheetCount", "()I"⟩
abbrev cX1_pageOn : ByteArray := prog_3_method_7_code
def yX1_pageOn : MethodName := ⟨RX1, "pageOn", "(II)I"⟩
abbrev cX1_contentOn : ByteArray := prog_3_method_8_code
def yX1_contentOn : MethodName := ⟨RX1, "contentOn", "(II)I"⟩
abbrev cX1_hasPage : ByteArray := prog_3_method_9_code
def yX1_hasPage : MethodName := ⟨RX1, "hasPage", "(II)Z"⟩
abbrev cX1_sheetWith : ByteArray := prog_3_method_10_code
def yX1_sheetWith : MethodName := ⟨RX1, "sheetWith", "(I)I"⟩
abbrev cX1_isShowing : ByteArray := prog_3_method_11_code
def yX1_isShowing : MethodName := ⟨RX1, "isShowing", "(II)Z"⟩
abbrev cX1_stockOf : ByteArray := prog_3_method_12_code
def yX1_stockOf : MethodName := ⟨RX1, "stockOf", "(I)I"⟩
abbrev cX1_addToStock : ByteArray := prog_3_method_13_code
def yX1_addToStock : MethodName := ⟨RX1, "addToStock", "(II)V"⟩
abbrev cX1_takeSheets : ByteArray := prog_3_method_14_code
def yX1_takeSheets : MethodName := ⟨RX1, "takeSheets", "(I)I"⟩
abbrev cX1_takeAllSheets : ByteArray := prog_3_method_15_code
def yX1_takeAllSheets : MethodName := ⟨RX1, "takeAllSheets", "()I"⟩
abbrev cX1_takeSheetsShowing : ByteArray := prog_3_method_16_code
def yX1_takeSheetsShowing : MethodName := ⟨RX1, "takeSheetsShowing", "(I)I"⟩
abbrev cX1_lackFor : ByteArray := prog_3_method_17_code
def yX1_lackFor : MethodName := ⟨RX1, "lackFor", "(I)I"⟩
abbrev cX1_takeSheetsFor : ByteArray := prog_3_method_18_code
def yX1_takeSheetsFor : MethodName := ⟨RX1, "takeSheetsFor", "(I)V"⟩
def RX2 : String := "BinderyDesk$Lot"
def TX2 : u_T := fun k => match k with
  | 0 => ("BinderyDesk$Lot", "amount", "I", true)
  | 1 => ("BinderyDesk$Lot", "size", "I", true)
  | 2 => ("BinderyDesk$Lot", "corrections", "I", true)
  | 3 => ("BinderyDesk$Lot", "shown", "[I", true)
  | _ => ("BinderyDesk$Lot", "kept", "[I", true)
def tyX2 : Nat → FieldType := fun k => match k with
  | 0 => .int
  | 1 => .int
  | 2 => .int
  | 3 => .array .int
  | _ => .array .int
abbrev wsX20 : List Cond := u_ws RX2 TX2 5
theorem nmX2 : ∀ a, a < 5 → ∀ b, b < 5 → a ≠ b → (TX2 a).2.1 ≠ (TX2 b).2.1 := by decide +kernel
theorem tyX2_ok : ∀ k, k < 5 → parseFieldDescriptor (TX2 k).2.2.1 = some (tyX2 k) := by decide +kernel
abbrev cX2_init : ByteArray := prog_4_method_1_code
def yX2_init : MethodName := ⟨RX2, "<init>", "(III)V"⟩
abbrev cX2_keep : ByteArray := prog_4_method_2_code
def yX2_keep : MethodName := ⟨RX2, "keep", "(III)V"⟩
abbrev cX2_contentOf : ByteArray := prog_4_method_3_code
def yX2_contentOf : MethodName := ⟨RX2, "contentOf", "(I)I"⟩
abbrev cX2_keptState : ByteArray := prog_4_method_4_code
def yX2_keptState : MethodName := ⟨RX2, "keptState", "(I)I"⟩
abbrev cX2_showsInOtherState : ByteArray := prog_4_method_5_code
def yX2_showsInOtherState : MethodName := ⟨RX2, "showsInOtherState", "(II)Z"⟩
def RX3 : String := "BinderyDesk$Orders"
def TX3 : u_T := fun k => match k with
  | 0 => ("BinderyDesk$Orders", "fronts", "[I", true)
  | 1 => ("BinderyDesk$Orders", "backs", "[I", true)
  | 2 => ("BinderyDesk$Orders", "leastEnding", "[I", true)
  | _ => ("BinderyDesk$Orders", "size", "I", false)
def tyX3 : Nat → FieldType := fun k => match k with
  | 0 => .array .int
  | 1 => .array .int
  | 2 => .array .int
  | _ => .int
abbrev wsX30 : List Cond := u_ws RX3 TX3 4
theorem nmX3 : ∀ a, a < 4 → ∀ b, b < 4 → a ≠ b → (TX3 a).2.1 ≠ (TX3 b).2.1 := by decide +kernel
theorem tyX3_ok : ∀ k, k < 4 → parseFieldDescriptor (TX3 k).2.2.1 = some (tyX3 k) := by decide +kernel
abbrev cX3_init : ByteArray := prog_5_method_1_code
def yX3_init : MethodName := ⟨RX3, "<init>", "()V"⟩
abbrev cX3_start : ByteArray := prog_5_method_2_code
def yX3_start : MethodName := ⟨RX3, "start", "(III)V"⟩
abbrev cX3_setSheet : ByteArray := prog_5_method_3_code
def yX3_setSheet : MethodName := ⟨RX3, "setSheet", "(III)V"⟩
abbrev cX3_change : ByteArray := prog_5_method_4_code
def yX3_change : MethodName := ⟨RX3, "change", "([I[III)I"⟩
abbrev cX3_leastForAllSets : ByteArray := prog_5_method_5_code
def yX3_leastForAllSets : MethodName := ⟨RX3, "leastForAllSets", "()I"⟩
abbrev cX3_leastOfSet : ByteArray := prog_5_method_6_code
def yX3_leastOfSet : MethodName := ⟨RX3, "leastOfSet", "(II)I"⟩
abbrev cX3_leastOfAllOrders : ByteArray := prog_5_method_7_code
def yX3_leastOfAllOrders : MethodName := ⟨RX3, "leastOfAllOrders", "()I"⟩
abbrev cX3_leastOfRest : ByteArray := prog_5_method_8_code
def yX3_leastOfRest : MethodName := ⟨RX3, "leastOfRest", "([I[IIIII)I"⟩
def RX4 : String := "BinderyDesk$PlateRack"
def TX4 : u_T := fun k => match k with
  | 0 => ("BinderyDesk$PlateRack", "latest", "[I", true)
  | _ => ("BinderyDesk$PlateRack", "made", "I", false)
def tyX4 : Nat → FieldType := fun k => match k with
  | 0 => .array .int
  | _ => .int
abbrev wsX40 : List Cond := u_ws RX4 TX4 2
theorem nmX4 : ∀ a, a < 2 → ∀ b, b < 2 → a ≠ b → (TX4 a).2.1 ≠ (TX4 b).2.1 := by decide +kernel
theorem tyX4_ok : ∀ k, k < 2 → parseFieldDescriptor (TX4 k).2.2.1 = some (tyX4 k) := by decide +kernel
abbrev cX4_init : ByteArray := prog_6_method_1_code
def yX4_init : MethodName := ⟨RX4, "<init>", "()V"⟩
abbrev cX4_has : ByteArray := prog_6_method_2_code
def yX4_has : MethodName := ⟨RX4, "has", "(I)Z"⟩
abbrev cX4_make : ByteArray := prog_6_method_3_code
def yX4_make : MethodName := ⟨RX4, "make", "(I)V"⟩
def RX5 : String := "BinderyDesk$Press"
def TX5 : u_T := fun k => match k with
  | 0 => ("BinderyDesk$Press", "front", "I", false)
  | 1 => ("BinderyDesk$Press", "back", "I", false)
  | _ => ("BinderyDesk$Press", "binding", "C", false)
def tyX5 : Nat → FieldType := fun k => match k with
  | 0 => .int
  | 1 => .int
  | _ => .char
abbrev wsX50 : List Cond := u_ws RX5 TX5 3
theorem nmX5 : ∀ a, a < 3 → ∀ b, b < 3 → a ≠ b → (TX5 a).2.1 ≠ (TX5 b).2.1 := by decide +kernel
theorem tyX5_ok : ∀ k, k < 3 → parseFieldDescriptor (TX5 k).2.2.1 = some (tyX5 k) := by decide +kernel
abbrev cX5_init : ByteArray := prog_7_method_1_code
def yX5_init : MethodName := ⟨RX5, "<init>", "()V"⟩
abbrev cX5_bindingMinutes : ByteArray := prog_7_method_2_code
def yX5_bindingMinutes : MethodName := ⟨RX5, "bindingMinutes", "(C)I"⟩
abbrev cX5_minutesFor : ByteArray := prog_7_method_3_code
def yX5_minutesFor : MethodName := ⟨RX5, "minutesFor", "(IIC)I"⟩
abbrev cX5_mount : ByteArray := prog_7_method_4_code
def yX5_mount : MethodName := ⟨RX5, "mount", "(IIC)V"⟩
def RX6 : String := "BinderyDesk"
def TX6 : u_T := fun k => match k with
  | 0 => ("BinderyDesk", "contents", "LBinderyDesk$Contents;", true)
  | 1 => ("BinderyDesk", "jobList", "[LBinderyDesk$Job;", true)
  | 2 => ("BinderyDesk", "press", "LBinderyDesk$Press;", true)
  | 3 => ("BinderyDesk", "rack", "LBinderyDesk$PlateRack;", true)
  | 4 => ("BinderyDesk", "orders", "LBinderyDesk$Orders;", true)
  | 5 => ("BinderyDesk", "lotList", "[LBinderyDesk$Lot;", true)
  | 6 => ("BinderyDesk", "jobCount", "I", false)
  | 7 => ("BinderyDesk", "lotCount", "I", false)
  | 8 => ("BinderyDesk", "wasted", "J", false)
  | 9 => ("BinderyDesk", "printed", "J", false)
  | 10 => ("BinderyDesk", "printCalls", "J", false)
  | _ => ("BinderyDesk", "minutes", "J", false)
def tyX6 : Nat → FieldType := fun k => match k with
  | 0 => .object "BinderyDesk$Contents"
  | 1 => .array (.object "BinderyDesk$Job")
  | 2 => .object "BinderyDesk$Press"
  | 3 => .object "BinderyDesk$PlateRack"
  | 4 => .object "BinderyDesk$Orders"
  | 5 => .array (.object "BinderyDesk$Lot")
  | 6 => .int
  | 7 => .int
  | 8 => .long
  | 9 => .long
  | 10 => .long
  | _ => .long
abbrev wsX60 : List Cond := u_ws RX6 TX6 12
theorem nmX6 : ∀ a, a < 12 → ∀ b, b < 12 → a ≠ b → (TX6 a).2.1 ≠ (TX6 b).2.1 := by decide +kernel
theorem tyX6_ok : ∀ k, k < 12 → parseFieldDescriptor (TX6 k).2.2.1 = some (tyX6 k) := by decide +kernel
abbrev cX6_init : ByteArray := prog_1_method_1_code
def yX6_init : MethodName := ⟨RX6, "<init>", "()V"⟩
abbrev cX6_addContent : ByteArray := prog_1_method_2_code
def yX6_addContent : MethodName := ⟨RX6, "addContent", "()I"⟩
abbrev cX6_approve : ByteArray := prog_1_method_3_code
def yX6_approve : MethodName := ⟨RX6, "approve", "(I)Z"⟩
abbrev cX6_correct : ByteArray := prog_1_method_4_code
def yX6_correct : MethodName := ⟨RX6, "correct", "(I)I"⟩
abbrev cX6_state : ByteArray := prog_1_method_5_code
def yX6_state : MethodName := ⟨RX6, "state", "(I)I"⟩
abbrev cX6_addJob : ByteArray := prog_1_method_6_code
def yX6_addJob : MethodName := ⟨RX6, "addJob", "(C)I"⟩
abbrev cX6_addPage : ByteArray := prog_1_method_7_code
def yX6_addPage : MethodName := ⟨RX6, "addPage", "(II)I"⟩
abbrev cX6_pages : ByteArray := prog_1_method_8_code
def yX6_pages : MethodName := ⟨RX6, "pages", "(I)I"⟩
abbrev cX6_sheets : ByteArray := prog_1_method_9_code
def yX6_sheets : MethodName := ⟨RX6, "sheets", "(I)I"⟩
abbrev cX6_pageAt : ByteArray := prog_1_method_10_code
def yX6_pageAt : MethodName := ⟨RX6, "pageAt", "(III)I"⟩
abbrev cX6_sheetOf : ByteArray := prog_1_method_11_code
def yX6_sheetOf : MethodName := ⟨RX6, "sheetOf", "(II)I"⟩
abbrev cX6_print : ByteArray := prog_1_method_12_code
def yX6_print : MethodName := ⟨RX6, "print", "(III)I"⟩
abbrev cX6_makeready : ByteArray := prog_1_method_13_code
def yX6_makeready : MethodName := ⟨RX6, "makeready", "(II)I"⟩
abbrev cX6_leastMakeready : ByteArray := prog_1_method_14_code
def yX6_leastMakeready : MethodName := ⟨RX6, "leastMakeready", "(I)I"⟩
abbrev cX6_leastByTrying : ByteArray := prog_1_method_15_code
def yX6_leastByTrying : MethodName := ⟨RX6, "leastByTrying", "(I)I"⟩
abbrev cX6_stock : ByteArray := prog_1_method_16_code
def yX6_stock : MethodName := ⟨RX6, "stock", "(II)I"⟩
abbrev cX6_plates : ByteArray := prog_1_method_17_code
def yX6_plates : MethodName := ⟨RX6, "plates", "()I"⟩
abbrev cX6_platesNeeded : ByteArray := prog_1_method_18_code
def yX6_platesNeeded : MethodName := ⟨RX6, "platesNeeded", "(I)I"⟩
abbrev cX6_bind : ByteArray := prog_1_method_19_code
def yX6_bind : MethodName := ⟨RX6, "bind", "(II)I"⟩
abbrev cX6_lacks : ByteArray := prog_1_method_20_code
def yX6_lacks : MethodName := ⟨RX6, "lacks", "(II)I"⟩
abbrev cX6_lots : ByteArray := prog_1_method_21_code
def yX6_lots : MethodName := ⟨RX6, "lots", "()I"⟩
abbrev cX6_copies : ByteArray := prog_1_method_22_code
def yX6_copies : MethodName := ⟨RX6, "copies", "(I)I"⟩
abbrev cX6_stateIn : ByteArray := prog_1_method_23_code
def yX6_stateIn : MethodName := ⟨RX6, "stateIn", "(II)I"⟩
abbrev cX6_stateByReplay : ByteArray := prog_1_method_24_code
def yX6_stateByReplay : MethodName := ⟨RX6, "stateByReplay", "(II)I"⟩
abbrev cX6_outdated : ByteArray := prog_1_method_25_code
def yX6_outdated : MethodName := ⟨RX6, "outdated", "(I)I"⟩
abbrev cX6_waste : ByteArray := prog_1_method_26_code
def yX6_waste : MethodName := ⟨RX6, "waste", "()J"⟩
abbrev cX6_wasteShare : ByteArray := prog_1_method_27_code
def yX6_wasteShare : MethodName := ⟨RX6, "wasteShare", "()F"⟩
abbrev cX6_meanMakeready : ByteArray := prog_1_method_28_code
def yX6_meanMakeready : MethodName := ⟨RX6, "meanMakeready", "()D"⟩
abbrev cX6_requireContent : ByteArray := prog_1_method_29_code
def yX6_requireContent : MethodName := ⟨RX6, "requireContent", "(I)V"⟩
abbrev cX6_findJob : ByteArray := prog_1_method_30_code
def yX6_findJob : MethodName := ⟨RX6, "findJob", "(I)LBinderyDesk$Job;"⟩
abbrev cX6_existingJob : ByteArray := prog_1_method_31_code
def yX6_existingJob : MethodName := ⟨RX6, "existingJob", "(I)LBinderyDesk$Job;"⟩
abbrev cX6_completeJob : ByteArray := prog_1_method_32_code
def yX6_completeJob : MethodName := ⟨RX6, "completeJob", "(I)LBinderyDesk$Job;"⟩
abbrev cX6_requireComplete : ByteArray := prog_1_method_33_code
def yX6_requireComplete : MethodName := ⟨RX6, "requireComplete", "(LBinderyDesk$Job;)V"⟩
abbrev cX6_requireSheet : ByteArray := prog_1_method_34_code
def yX6_requireSheet : MethodName := ⟨RX6, "requireSheet", "(LBinderyDesk$Job;I)V"⟩
abbrev cX6_requireCount : ByteArray := prog_1_method_35_code
def yX6_requireCount : MethodName := ⟨RX6, "requireCount", "(I)V"⟩
abbrev cX6_findLot : ByteArray := prog_1_method_36_code
def yX6_findLot : MethodName := ⟨RX6, "findLot", "(I)LBinderyDesk$Lot;"⟩
abbrev cX6_existingLot : ByteArray := prog_1_method_37_code
def yX6_existingLot : MethodName := ⟨RX6, "existingLot", "(I)LBinderyDesk$Lot;"⟩
abbrev cX6_requirePage : ByteArray := prog_1_method_38_code
def yX6_requirePage : MethodName := ⟨RX6, "requirePage", "(LBinderyDesk$Lot;I)V"⟩
abbrev cX6_isWhollyApproved : ByteArray := prog_1_method_39_code
def yX6_isWhollyApproved : MethodName := ⟨RX6, "isWhollyApproved", "(LBinderyDesk$Job;I)Z"⟩
abbrev cX6_plateFor : ByteArray := prog_1_method_40_code
def yX6_plateFor : MethodName := ⟨RX6, "plateFor", "(LBinderyDesk$Job;II)I"⟩
abbrev cX6_isOnEarlierSide : ByteArray := prog_1_method_41_code
def yX6_isOnEarlierSide : MethodName := ⟨RX6, "isOnEarlierSide", "(LBinderyDesk$Job;II)Z"⟩
abbrev cX6_loadOrders : ByteArray := prog_1_method_42_code
def yX6_loadOrders : MethodName := ⟨RX6, "loadOrders", "(LBinderyDesk$Job;)V"⟩
abbrev cX6_newLot : ByteArray := prog_1_method_43_code
def yX6_newLot : MethodName := ⟨RX6, "newLot", "(LBinderyDesk$Job;I)LBinderyDesk$Lot;"⟩
abbrev cX6_at : ByteArray := prog_1_method_44_code
def yX6_at : MethodName := ⟨RX6, "at", "([II)I"⟩
abbrev cX6_put : ByteArray := prog_1_method_45_code
def yX6_put : MethodName := ⟨RX6, "put", "([III)V"⟩
def RX7 : String := "BinderyDeskModel"
def TX7 : u_T := fun k => match k with
  | 0 => ("BinderyDeskModel", "thrown", "I", false)
  | 1 => ("BinderyDeskModel", "contents", "I", false)
  | 2 => ("BinderyDeskModel", "jobs", "I", false)
  | 3 => ("BinderyDeskModel", "lots", "I", false)
  | 4 => ("BinderyDeskModel", "made", "I", false)
  | 5 => ("BinderyDeskModel", "prints", "I", false)
  | 6 => ("BinderyDeskModel", "minutes", "I", false)
  | 7 => ("BinderyDeskModel", "front", "I", false)
  | 8 => ("BinderyDeskModel", "back", "I", false)
  | 9 => ("BinderyDeskModel", "onPress", "I", false)
  | 10 => ("BinderyDeskModel", "wasted", "J", false)
  | 11 => ("BinderyDeskModel", "printed", "J", false)
  | 12 => ("BinderyDeskModel", "state", "[I", true)
  | 13 => ("BinderyDeskModel", "binding", "[I", true)
  | 14 => ("BinderyDeskModel", "pageCount", "[I", true)
  | 15 => ("BinderyDeskModel", "page", "[I", true)
  | 16 => ("BinderyDeskModel", "stock", "[I", true)
  | 17 => ("BinderyDeskModel", "isApproved", "[Z", true)
  | 18 => ("BinderyDeskModel", "plate", "[I", true)
  | 19 => ("BinderyDeskModel", "fronts", "[I", true)
  | 20 => ("BinderyDeskModel", "backs", "[I", true)
  | 21 => ("BinderyDeskModel", "best", "[I", true)
  | 22 => ("BinderyDeskModel", "lotJob", "[I", true)
  | 23 => ("BinderyDeskModel", "lotCopies", "[I", true)
  | 24 => ("BinderyDeskModel", "lotPages", "[I", true)
  | _ => ("BinderyDeskModel", "lotState", "[I", true)
def tyX7 : Nat → FieldType := fun k => match k with
  | 0 => .int
  | 1 => .int
  | 2 => .int
  | 3 => .int
  | 4 => .int
  | 5 => .int
  | 6 => .int
  | 7 => .int
  | 8 => .int
  | 9 => .int
  | 10 => .long
  | 11 => .long
  | 12 => .array .int
  | 13 => .array .int
  | 14 => .array .int
  | 15 => .array .int
  | 16 => .array .int
  | 17 => .array .boolean
  | 18 => .array .int
  | 19 => .array .int
  | 20 => .array .int
  | 21 => .array .int
  | 22 => .array .int
  | 23 => .array .int
  | 24 => .array .int
  | _ => .array .int
abbrev wsX70 : List Cond := u_ws RX7 TX7 26
theorem nmX7 : ∀ a, a < 26 → ∀ b, b < 26 → a ≠ b → (TX7 a).2.1 ≠ (TX7 b).2.1 := by decide +kernel
theorem tyX7_ok : ∀ k, k < 26 → parseFieldDescriptor (TX7 k).2.2.1 = some (tyX7 k) := by decide +kernel
abbrev cX7_init : ByteArray := prog_9_method_1_code
def yX7_init : MethodName := ⟨RX7, "<init>", "()V"⟩
abbrev cX7_thrown : ByteArray := prog_9_method_2_code
def yX7_thrown : MethodName := ⟨RX7, "thrown", "()I"⟩
abbrev cX7_fails : ByteArray := prog_9_method_3_code
def yX7_fails : MethodName := ⟨RX7, "fails", "(I)I"⟩
abbrev cX7_in : ByteArray := prog_9_method_4_code
def yX7_in : MethodName := ⟨RX7, "in", "(III)Z"⟩
abbrev cX7_isContent : ByteArray := prog_9_method_5_code
def yX7_isContent : MethodName := ⟨RX7, "isContent", "(I)Z"⟩
abbrev cX7_places : ByteArray := prog_9_method_6_code
def yX7_places : MethodName := ⟨RX7, "places", "(I)I"⟩
abbrev cX7_isWhole : ByteArray := prog_9_method_7_code
def yX7_isWhole : MethodName := ⟨RX7, "isWhole", "(I)Z"⟩
abbrev cX7_count : ByteArray := prog_9_method_8_code
def yX7_count : MethodName := ⟨RX7, "count", "(I)I"⟩
abbrev cX7_isJob : ByteArray := prog_9_method_9_code
def yX7_isJob : MethodName := ⟨RX7, "isJob", "(I)Z"⟩
abbrev cX7_isSheet : ByteArray := prog_9_method_10_code
def yX7_isSheet : MethodName := ⟨RX7, "isSheet", "(II)Z"⟩
abbrev cX7_pageOn : ByteArray := prog_9_method_11_code
def yX7_pageOn : MethodName := ⟨RX7, "pageOn", "(III)I"⟩
abbrev cX7_contentOn : ByteArray := prog_9_method_12_code
def yX7_contentOn : MethodName := ⟨RX7, "contentOn", "(III)I"⟩
abbrev cX7_code : ByteArray := prog_9_method_13_code
def yX7_code : MethodName := ⟨RX7, "code", "(I)I"⟩
abbrev cX7_plateOf : ByteArray := prog_9_method_14_code
def yX7_plateOf : MethodName := ⟨RX7, "plateOf", "(IIZ)I"⟩
abbrev cX7_isMade : ByteArray := prog_9_method_15_code
def yX7_isMade : MethodName := ⟨RX7, "isMade", "(I)Z"⟩
abbrev cX7_makes : ByteArray := prog_9_method_16_code
def yX7_makes : MethodName := ⟨RX7, "makes", "(I)V"⟩
abbrev cX7_isShown : ByteArray := prog_9_method_17_code
def yX7_isShown : MethodName := ⟨RX7, "isShown", "(III)Z"⟩
abbrev cX7_voids : ByteArray := prog_9_method_18_code
def yX7_voids : MethodName := ⟨RX7, "voids", "(II)I"⟩
abbrev cX7_addContent : ByteArray := prog_9_method_19_code
def yX7_addContent : MethodName := ⟨RX7, "addContent", "()I"⟩
abbrev cX7_approve : ByteArray := prog_9_method_20_code
def yX7_approve : MethodName := ⟨RX7, "approve", "(I)Z"⟩
abbrev cX7_correct : ByteArray := prog_9_method_21_code
def yX7_correct : MethodName := ⟨RX7, "correct", "(I)I"⟩
abbrev cX7_state : ByteArray := prog_9_method_22_code
def yX7_state : MethodName := ⟨RX7, "state", "(I)I"⟩
abbrev cX7_addJob : ByteArray := prog_9_method_23_code
def yX7_addJob : MethodName := ⟨RX7, "addJob", "(C)I"⟩
abbrev cX7_addPage : ByteArray := prog_9_method_24_code
def yX7_addPage : MethodName := ⟨RX7, "addPage", "(II)I"⟩
abbrev cX7_pages : ByteArray := prog_9_method_25_code
def yX7_pages : MethodName := ⟨RX7, "pages", "(I)I"⟩
abbrev cX7_sheets : ByteArray := prog_9_method_26_code
def yX7_sheets : MethodName := ⟨RX7, "sheets", "(I)I"⟩
abbrev cX7_pageAt : ByteArray := prog_9_method_27_code
def yX7_pageAt : MethodName := ⟨RX7, "pageAt", "(III)I"⟩
abbrev cX7_sheetOf : ByteArray := prog_9_method_28_code
def yX7_sheetOf : MethodName := ⟨RX7, "sheetOf", "(II)I"⟩
abbrev cX7_ready : ByteArray := prog_9_method_29_code
def yX7_ready : MethodName := ⟨RX7, "ready", "(II)I"⟩
abbrev cX7_print : ByteArray := prog_9_method_30_code
def yX7_print : MethodName := ⟨RX7, "print", "(III)I"⟩
abbrev cX7_makeready : ByteArray := prog_9_method_31_code
def yX7_makeready : MethodName := ⟨RX7, "makeready", "(II)I"⟩
abbrev cX7_change : ByteArray := prog_9_method_32_code
def yX7_change : MethodName := ⟨RX7, "change", "(II)I"⟩
abbrev cX7_least : ByteArray := prog_9_method_33_code
def yX7_least : MethodName := ⟨RX7, "least", "(I)I"⟩
abbrev cX7_leastMakeready : ByteArray := prog_9_method_34_code
def yX7_leastMakeready : MethodName := ⟨RX7, "leastMakeready", "(I)I"⟩
abbrev cX7_leastByTrying : ByteArray := prog_9_method_35_code
def yX7_leastByTrying : MethodName := ⟨RX7, "leastByTrying", "(I)I"⟩
abbrev cX7_stock : ByteArray := prog_9_method_36_code
def yX7_stock : MethodName := ⟨RX7, "stock", "(II)I"⟩
abbrev cX7_plates : ByteArray := prog_9_method_37_code
def yX7_plates : MethodName := ⟨RX7, "plates", "()I"⟩
abbrev cX7_platesNeeded : ByteArray := prog_9_method_38_code
def yX7_platesNeeded : MethodName := ⟨RX7, "platesNeeded", "(I)I"⟩
abbrev cX7_missing : ByteArray := prog_9_method_39_code
def yX7_missing : MethodName := ⟨RX7, "missing", "(II)I"⟩
abbrev cX7_bind : ByteArray := prog_9_method_40_code
def yX7_bind : MethodName := ⟨RX7, "bind", "(II)I"⟩
abbrev cX7_lacks : ByteArray := prog_9_method_41_code
def yX7_lacks : MethodName := ⟨RX7, "lacks", "(II)I"⟩
abbrev cX7_lots : ByteArray := prog_9_method_42_code
def yX7_lots : MethodName := ⟨RX7, "lots", "()I"⟩
abbrev cX7_copies : ByteArray := prog_9_method_43_code
def yX7_copies : MethodName := ⟨RX7, "copies", "(I)I"⟩
abbrev cX7_stateIn : ByteArray := prog_9_method_44_code
def yX7_stateIn : MethodName := ⟨RX7, "stateIn", "(II)I"⟩
abbrev cX7_stateByReplay : ByteArray := prog_9_method_45_code
def yX7_stateByReplay : MethodName := ⟨RX7, "stateByReplay", "(II)I"⟩
abbrev cX7_outdated : ByteArray := prog_9_method_46_code
def yX7_outdated : MethodName := ⟨RX7, "outdated", "(I)I"⟩
abbrev cX7_waste : ByteArray := prog_9_method_47_code
def yX7_waste : MethodName := ⟨RX7, "waste", "()J"⟩
abbrev cX7_wasteShare : ByteArray := prog_9_method_48_code
def yX7_wasteShare : MethodName := ⟨RX7, "wasteShare", "()F"⟩
abbrev cX7_meanMakeready : ByteArray := prog_9_method_49_code
def yX7_meanMakeready : MethodName := ⟨RX7, "meanMakeready", "()D"⟩
def RJx145de : String := "java/io/Serializable"
def TJx145de : u_T := fun k => match k with
  | _ => ("", "", "", false)
def tyJx145de : Nat → FieldType := fun k => match k with
  | _ => .int
abbrev wsJx145de0 : List Cond := u_ws RJx145de TJx145de 0
theorem nmJx145de : ∀ a, a < 0 → ∀ b, b < 0 → a ≠ b → (TJx145de a).2.1 ≠ (TJx145de b).2.1 := by decide +kernel
theorem tyJx145de_ok : ∀ k, k < 0 → parseFieldDescriptor (TJx145de k).2.2.1 = some (tyJx145de k) := by decide +kernel
def RJx00060 : String := "java/lang/ArrayIndexOutOfBoundsException"
def TJx00060 : u_T := fun k => match k with
  | 0 => ("java/lang/Throwable", "backtrace", "Ljava/lang/Object;", false)
  | 1 => ("java/lang/Throwable", "detailMessage", "Ljava/lang/String;", false)
  | 2 => ("java/lang/Throwable", "cause", "Ljava/lang/Throwable;", false)
  | 3 => ("java/lang/Throwable", "stackTrace", "[Ljava/lang/StackTraceElement;", false)
  | 4 => ("java/lang/Throwable", "depth", "I", false)
  | _ => ("java/lang/Throwable", "suppressedExceptions", "Ljava/util/List;", false)
def tyJx00060 : Nat → FieldType := fun k => match k with
  | 0 => .object "java/lang/Object"
  | 1 => .object "java/lang/String"
  | 2 => .object "java/lang/Throwable"
  | 3 => .array (.object "java/lang/StackTraceElement")
  | 4 => .int
  | _ => .object "java/util/List"
abbrev wsJx000600 : List Cond := u_ws RJx00060 TJx00060 6
theorem nmJx00060 : ∀ a, a < 6 → ∀ b, b < 6 → a ≠ b → (TJx00060 a).2.1 ≠ (TJx00060 b).2.1 := by decide +kernel
theorem tyJx00060_ok : ∀ k, k < 6 → parseFieldDescriptor (TJx00060 k).2.2.1 = some (tyJx00060 k) := by decide +kernel
def RJ9 : String := "java/lang/Math"
def TJ9 : u_T := fun k => match k with
  | _ => ("", "", "", false)
def tyJ9 : Nat → FieldType := fun k => match k with
  | _ => .int
abbrev wsJ90 : List Cond := u_ws RJ9 TJ9 0
theorem nmJ9 : ∀ a, a < 0 → ∀ b, b < 0 → a ≠ b → (TJ9 a).2.1 ≠ (TJ9 b).2.1 := by decide +kernel
theorem tyJ9_ok : ∀ k, k < 0 → parseFieldDescriptor (TJ9 k).2.2.1 = some (tyJ9 k) := by decide +kernel
def RJ0 : String := "java/lang/String"
def TJ0 : u_T := fun k => match k with
  | 0 => ("java/lang/String", "value", "[B", true)
  | _ => ("java/lang/String", "coder", "B", true)
def tyJ0 : Nat → FieldType := fun k => match k with
  | 0 => .array .byte
  | _ => .byte
abbrev wsJ00 : List Cond := u_ws RJ0 TJ0 2
theorem nmJ0 : ∀ a, a < 2 → ∀ b, b < 2 → a ≠ b → (TJ0 a).2.1 ≠ (TJ0 b).2.1 := by decide +kernel
theorem tyJ0_ok : ∀ k, k < 2 → parseFieldDescriptor (TJ0 k).2.2.1 = some (tyJ0 k) := by decide +kernel
def RL : String := "BinderyDeskLaw"
abbrev cL_addContent : ByteArray := method_3_code
def yL_addContent : MethodName := ⟨RL, "addContent", "(LBinderyDesk;[J)I"⟩
abbrev cL_approve : ByteArray := method_4_code
def yL_approve : MethodName := ⟨RL, "approve", "(LBinderyDesk;I[J)I"⟩
abbrev cL_correct : ByteArray := method_5_code
def yL_correct : MethodName := ⟨RL, "correct", "(LBinderyDesk;I[J)I"⟩
abbrev cL_state : ByteArray := method_6_code
def yL_state : MethodName := ⟨RL, "state", "(LBinderyDesk;I[J)I"⟩
abbrev cL_addJob : ByteArray := method_7_code
def yL_addJob : MethodName := ⟨RL, "addJob", "(LBinderyDesk;C[J)I"⟩
abbrev cL_addPage : ByteArray := method_8_code
def yL_addPage : MethodName := ⟨RL, "addPage", "(LBinderyDesk;II[J)I"⟩
abbrev cL_pages : ByteArray := method_9_code
def yL_pages : MethodName := ⟨RL, "pages", "(LBinderyDesk;I[J)I"⟩
abbrev cL_sheets : ByteArray := method_10_code
def yL_sheets : MethodName := ⟨RL, "sheets", "(LBinderyDesk;I[J)I"⟩
abbrev cL_pageAt : ByteArray := method_11_code
def yL_pageAt : MethodName := ⟨RL, "pageAt", "(LBinderyDesk;III[J)I"⟩
abbrev cL_sheetOf : ByteArray := method_12_code
def yL_sheetOf : MethodName := ⟨RL, "sheetOf", "(LBinderyDesk;II[J)I"⟩
abbrev cL_print : ByteArray := method_13_code
def yL_print : MethodName := ⟨RL, "print", "(LBinderyDesk;III[J)I"⟩
abbrev cL_makeready : ByteArray := method_14_code
def yL_makeready : MethodName := ⟨RL, "makeready", "(LBinderyDesk;II[J)I"⟩
abbrev cL_leastMakeready : ByteArray := method_15_code
def yL_leastMakeready : MethodName := ⟨RL, "leastMakeready", "(LBinderyDesk;I[J)I"⟩
abbrev cL_leastByTrying : ByteArray := method_16_code
def yL_leastByTrying : MethodName := ⟨RL, "leastByTrying", "(LBinderyDesk;I[J)I"⟩
abbrev cL_stock : ByteArray := method_17_code
def yL_stock : MethodName := ⟨RL, "stock", "(LBinderyDesk;II[J)I"⟩
abbrev cL_platesNeeded : ByteArray := method_18_code
def yL_platesNeeded : MethodName := ⟨RL, "platesNeeded", "(LBinderyDesk;I[J)I"⟩
abbrev cL_bind : ByteArray := method_19_code
def yL_bind : MethodName := ⟨RL, "bind", "(LBinderyDesk;II[J)I"⟩
abbrev cL_lacks : ByteArray := method_20_code
def yL_lacks : MethodName := ⟨RL, "lacks", "(LBinderyDesk;II[J)I"⟩
abbrev cL_copies : ByteArray := method_21_code
def yL_copies : MethodName := ⟨RL, "copies", "(LBinderyDesk;I[J)I"⟩
abbrev cL_stateIn : ByteArray := method_22_code
def yL_stateIn : MethodName := ⟨RL, "stateIn", "(LBinderyDesk;II[J)I"⟩
abbrev cL_stateByReplay : ByteArray := method_23_code
def yL_stateByReplay : MethodName := ⟨RL, "stateByReplay", "(LBinderyDesk;II[J)I"⟩
abbrev cL_outdated : ByteArray := method_24_code
def yL_outdated : MethodName := ⟨RL, "outdated", "(LBinderyDesk;I[J)I"⟩
abbrev cL_wasteShare : ByteArray := method_25_code
def yL_wasteShare : MethodName := ⟨RL, "wasteShare", "(LBinderyDesk;[D)I"⟩
abbrev cL_meanMakeready : ByteArray := method_26_code
def yL_meanMakeready : MethodName := ⟨RL, "meanMakeready", "(LBinderyDesk;[D)I"⟩
abbrev cL_law : ByteArray := code
def yL_law : MethodName := ⟨RL, "law", "([I)Z"⟩
end
section
theorem dX0_init_0 : decode cX0_init 0 = .ok (.aload_n 0, 1) := by decide +kernel
theorem dX0_init_1 : decode cX0_init 1 = .ok (.invokespecial 3, 3) := by decide +kernel
theorem dX0_init_4 : decode cX0_init 4 = .ok (.aload_n 0, 1) := by decide +kernel
theorem dX0_init_5 : decode cX0_init 5 = .ok (.bipush 12, 2) := by decide +kernel
theorem dX0_init_7 : decode cX0_init 7 = .ok (.newarray .int, 2) := by decide +kernel
theorem dX0_init_9 : decode cX0_init 9 = .ok (.putfield 9, 3) := by decide +kernel
theorem dX0_init_12 : decode cX0_init 12 = .ok (.aload_n 0, 1) := by decide +kernel
theorem dX0_init_13 : decode cX0_init 13 = .ok (.bipush 12, 2) := by decide +kernel
theorem dX0_init_15 : decode cX0_init 15 = .ok (.newarray .int, 2) := by decide +kernel
theorem dX0_init_17 : decode cX0_init 17 = .ok (.putfield 15, 3) := by decide +kernel
theorem dX0_init_20 : decode cX0_init 20 = .ok (.aload_n 0, 1) := by decide +kernel
theorem dX0_init_21 : decode cX0_init 21 = .ok (.sipush 1188, 3) := by decide +kernel
theorem dX0_init_24 : decode cX0_init 24 = .ok (.newarray .int, 2) := by decide +kernel
theorem dX0_init_26 : decode cX0_init 26 = .ok (.putfield 18, 3) := by decide +kernel
theorem dX0_init_29 : decode cX0_init 29 = .ok (.return_, 1) := by decide +kernel
theorem dX0_add_0 : decode cX0_add 0 = .ok (.aload_n 0, 1) := by decide +kernel
theorem dX0_add_1 : decode cX0_add 1 = .ok (.dup, 1) := by decide +kernel
theorem dX0_add_2 : decode cX0_add 2 = .ok (.getfield 21, 3) := by decide +kernel
theorem dX0_add_5 : decode cX0_add 5 = .ok (.iconst 1, 1) := by decide +kernel
theorem dX0_add_6 : decode cX0_add 6 = .ok (.iadd, 1) := by decide +kernel
theorem dX0_add_7 : decode cX0_add 7 = .ok (.putfield 21, 3) := by decide +kernel
theorem dX0_add_10 : decode cX0_add 10 = .ok (.aload_n 0, 1) := by decide +kernel
theorem dX0_add_11 : decode cX0_add 11 = .ok (.getfield 21, 3) := by decide +kernel
theorem dX0_add_14 : decode cX0_add 14 = .ok (.iconst 1, 1) := by decide +kernel
theorem dX0_add_15 : decode cX0_add 15 = .ok (.isub, 1) := by decide +kernel
theorem dX0_add_16 : decode cX0_add 16 = .ok (.ireturn, 1) := by decide +kernel
theorem dX0_stateOf_0 : decode cX0_stateOf 0 = .ok (.aload_n 0, 1) := by decide +kernel
theorem dX0_stateOf_1 : decode cX0_stateOf 1 = .ok (.getfield 9, 3) := by decide +kernel
theorem dX0_stateOf_4 : decode cX0_stateOf 4 = .ok (.iload_n 1, 1) := by decide +kernel
theorem dX0_stateOf_5 : decode cX0_stateOf 5 = .ok (.invokestatic 25, 3) := by decide +kernel
theorem dX0_stateOf_8 : decode cX0_stateOf 8 = .ok (.ireturn, 1) := by decide +kernel
theorem dX0_isApproved_0 : decode cX0_isApproved 0 = .ok (.aload_n 0, 1) := by decide +kernel
theorem dX0_isApproved_1 : decode cX0_isApproved 1 = .ok (.getfield 15, 3) := by decide +kernel
theorem dX0_isApproved_4 : decode cX0_isApproved 4 = .ok (.iload_n 1, 1) := by decide +kernel
theorem dX0_isApproved_5 : decode cX0_isApproved 5 = .ok (.invokestatic 25, 3) := by decide +kernel
theorem dX0_isApproved_8 : decode cX0_isApproved 8 = .ok (.iconst 1, 1) := by decide +kernel
theorem dX0_isApproved_9 : decode cX0_isApproved 9 = .ok (.if_icmp .ne 7, 3) := by decide +kernel
theorem dX0_isApproved_12 : decode cX0_isApproved 12 = .ok (.iconst 1, 1) := by decide +kernel
theorem dX0_isApproved_13 : decode cX0_isApproved 13 = .ok (.goto 4, 3) := by decide +kernel
theorem dX0_isApproved_16 : decode cX0_isApproved 16 = .ok (.iconst 0, 1) := by decide +kernel
theorem dX0_isApproved_17 : decode cX0_isApproved 17 = .ok (.ireturn, 1) := by decide +kernel
theorem dX0_setApproved_0 : decode cX0_setApproved 0 = .ok (.aload_n 0, 1) := by decide +kernel
theorem dX0_setApproved_1 : decode cX0_setApproved 1 = .ok (.getfield 15, 3) := by decide +kernel
theorem dX0_setApproved_4 : decode cX0_setApproved 4 = .ok (.iload_n 1, 1) := by decide +kernel
theorem dX0_setApproved_5 : decode cX0_setApproved 5 = .ok (.iload_n 2, 1) := by decide +kernel
theorem dX0_setApproved_6 : decode cX0_setApproved 6 = .ok (.ifCond .eq 7, 3) := by decide +kernel
theorem dX0_setApproved_9 : decode cX0_setApproved 9 = .ok (.iconst 1, 1) := by decide +kernel
theorem dX0_setApproved_10 : decode cX0_setApproved 10 = .ok (.goto 4, 3) := by decide +kernel
theorem dX0_setApproved_13 : decode cX0_setApproved 13 = .ok (.iconst 0, 1) := by decide +kernel
theorem dX0_setApproved_14 : decode cX0_setApproved 14 = .ok (.invokestatic 29, 3) := by decide +kernel
theorem dX0_setApproved_17 : decode cX0_setApproved 17 = .ok (.return_, 1) := by decide +kernel
theorem dX0_noteCorrection_0 : decode cX0_noteCorrection 0 = .ok (.aload_n 0, 1) := by decide +kernel
theorem dX0_noteCorrection_1 : decode cX0_noteCorrection 1 = .ok (.getfield 9, 3) := by decide +kernel
theorem dX0_noteCorrection_4 : decode cX0_noteCorrection 4 = .ok (.iload_n 1, 1) := by decide +kernel
theorem dX0_noteCorrection_5 : decode cX0_noteCorrection 5 = .ok (.aload_n 0, 1) := by decide +kernel
theorem dX0_noteCorrection_6 : decode cX0_noteCorrection 6 = .ok (.iload_n 1, 1) := by decide +kernel
theorem dX0_noteCorrection_7 : decode cX0_noteCorrection 7 = .ok (.invokevirtual 33, 3) := by decide +kernel
theorem dX0_noteCorrection_10 : decode cX0_noteCorrection 10 = .ok (.iconst 1, 1) := by decide +kernel
theorem dX0_noteCorrection_11 : decode cX0_noteCorrection 11 = .ok (.iadd, 1) := by decide +kernel
theorem dX0_noteCorrection_12 : decode cX0_noteCorrection 12 = .ok (.invokestatic 29, 3) := by decide +kernel
theorem dX0_noteCorrection_15 : decode cX0_noteCorrection 15 = .ok (.aload_n 0, 1) := by decide +kernel
theorem dX0_noteCorrection_16 : decode cX0_noteCorrection 16 = .ok (.iload_n 1, 1) := by decide +kernel
theorem dX0_noteCorrection_17 : decode cX0_noteCorrection 17 = .ok (.iconst 0, 1) := by decide +kernel
theorem dX0_noteCorrection_18 : decode cX0_noteCorrection 18 = .ok (.invokevirtual 37, 3) := by decide +kernel
theorem dX0_noteCorrection_21 : decode cX0_noteCorrection 21 = .ok (.aload_n 0, 1) := by decide +kernel
theorem dX0_noteCorrection_22 : decode cX0_noteCorrection 22 = .ok (.getfield 18, 3) := by decide +kernel
theorem dX0_noteCorrection_25 : decode cX0_noteCorrection 25 = .ok (.aload_n 0, 1) := by decide +kernel
theorem dX0_noteCorrection_26 : decode cX0_noteCorrection 26 = .ok (.getfield 41, 3) := by decide +kernel
theorem dX0_noteCorrection_29 : decode cX0_noteCorrection 29 = .ok (.iload_n 1, 1) := by decide +kernel
theorem dX0_noteCorrection_30 : decode cX0_noteCorrection 30 = .ok (.invokestatic 29, 3) := by decide +kernel
theorem dX0_noteCorrection_33 : decode cX0_noteCorrection 33 = .ok (.aload_n 0, 1) := by decide +kernel
theorem dX0_noteCorrection_34 : decode cX0_noteCorrection 34 = .ok (.dup, 1) := by decide +kernel
theorem dX0_noteCorrection_35 : decode cX0_noteCorrection 35 = .ok (.getfield 41, 3) := by decide +kernel
theorem dX0_noteCorrection_38 : decode cX0_noteCorrection 38 = .ok (.iconst 1, 1) := by decide +kernel
theorem dX0_noteCorrection_39 : decode cX0_noteCorrection 39 = .ok (.iadd, 1) := by decide +kernel
theorem dX0_noteCorrection_40 : decode cX0_noteCorrection 40 = .ok (.putfield 41, 3) := by decide +kernel
theorem dX0_noteCorrection_43 : decode cX0_noteCorrection 43 = .ok (.return_, 1) := by decide +kernel
theorem dX0_stateAfter_0 : decode cX0_stateAfter 0 = .ok (.iconst 0, 1) := by decide +kernel
theorem dX0_stateAfter_1 : decode cX0_stateAfter 1 = .ok (.istore_n 3, 1) := by decide +kernel
theorem dX0_stateAfter_2 : decode cX0_stateAfter 2 = .ok (.iconst 0, 1) := by decide +kernel
theorem dX0_stateAfter_3 : decode cX0_stateAfter 3 = .ok (.istore 4, 2) := by decide +kernel
theorem dX0_stateAfter_5 : decode cX0_stateAfter 5 = .ok (.iload 4, 2) := by decide +kernel
theorem dX0_stateAfter_7 : decode cX0_stateAfter 7 = .ok (.iload_n 1, 1) := by decide +kernel
theorem dX0_stateAfter_8 : decode cX0_stateAfter 8 = .ok (.if_icmp .ge 33, 3) := by decide +kernel
theorem dX0_stateAfter_11 : decode cX0_stateAfter 11 = .ok (.iload 4, 2) := by decide +kernel
theorem dX0_stateAfter_13 : decode cX0_stateAfter 13 = .ok (.aload_n 0, 1) := by decide +kernel
theorem dX0_stateAfter_14 : decode cX0_stateAfter 14 = .ok (.getfield 18, 3) := by decide +kernel
theorem dX0_stateAfter_17 : decode cX0_stateAfter 17 = .ok (.arraylength, 1) := by decide +kernel
theorem dX0_stateAfter_18 : decode cX0_stateAfter 18 = .ok (.if_icmp .ge 23, 3) := by decide +kernel
theorem dX0_stateAfter_21 : decode cX0_stateAfter 21 = .ok (.aload_n 0, 1) := by decide +kernel
theorem dX0_stateAfter_22 : decode cX0_stateAfter 22 = .ok (.getfield 18, 3) := by decide +kernel
theorem dX0_stateAfter_25 : decode cX0_stateAfter 25 = .ok (.iload 4, 2) := by decide +kernel
theorem dX0_stateAfter_27 : decode cX0_stateAfter 27 = .ok (.iaload, 1) := by decide +kernel
theorem dX0_stateAfter_28 : decode cX0_stateAfter 28 = .ok (.iload_n 2, 1) := by decide +kernel
theorem dX0_stateAfter_29 : decode cX0_stateAfter 29 = .ok (.if_icmp .ne 6, 3) := by decide +kernel
theorem dX0_stateAfter_32 : decode cX0_stateAfter 32 = .ok (.iinc 3 1, 3) := by decide +kernel
theorem dX0_stateAfter_35 : decode cX0_stateAfter 35 = .ok (.iinc 4 1, 3) := by decide +kernel
theorem dX0_stateAfter_38 : decode cX0_stateAfter 38 = .ok (.goto (-33), 3) := by decide +kernel
theorem dX0_stateAfter_41 : decode cX0_stateAfter 41 = .ok (.iload_n 3, 1) := by decide +kernel
theorem dX0_stateAfter_42 : decode cX0_stateAfter 42 = .ok (.ireturn, 1) := by decide +kernel
theorem dX0_plateOf_0 : decode cX0_plateOf 0 = .ok (.iload_n 1, 1) := by decide +kernel
theorem dX0_plateOf_1 : decode cX0_plateOf 1 = .ok (.bipush 13, 2) := by decide +kernel
theorem dX0_plateOf_3 : decode cX0_plateOf 3 = .ok (.imul, 1) := by decide +kernel
theorem dX0_plateOf_4 : decode cX0_plateOf 4 = .ok (.iload_n 2, 1) := by decide +kernel
theorem dX0_plateOf_5 : decode cX0_plateOf 5 = .ok (.iadd, 1) := by decide +kernel
theorem dX0_plateOf_6 : decode cX0_plateOf 6 = .ok (.iconst 1, 1) := by decide +kernel
theorem dX0_plateOf_7 : decode cX0_plateOf 7 = .ok (.iadd, 1) := by decide +kernel
theorem dX0_plateOf_8 : decode cX0_plateOf 8 = .ok (.istore_n 3, 1) := by decide +kernel
theorem dX0_plateOf_9 : decode cX0_plateOf 9 = .ok (.iload_n 2, 1) := by decide +kernel
theorem dX0_plateOf_10 : decode cX0_plateOf 10 = .ok (.iconst (-1), 1) := by decide +kernel
theorem dX0_plateOf_11 : decode cX0_plateOf 11 = .ok (.if_icmp .ne 7, 3) := by decide +kernel
theorem dX0_plateOf_14 : decode cX0_plateOf 14 = .ok (.iconst 0, 1) := by decide +kernel
theorem dX0_plateOf_15 : decode cX0_plateOf 15 = .ok (.goto 8, 3) := by decide +kernel
theorem dX0_plateOf_18 : decode cX0_plateOf 18 = .ok (.aload_n 0, 1) := by decide +kernel
theorem dX0_plateOf_19 : decode cX0_plateOf 19 = .ok (.iload_n 2, 1) := by decide +kernel
theorem dX0_plateOf_20 : decode cX0_plateOf 20 = .ok (.invokevirtual 33, 3) := by decide +kernel
theorem dX0_plateOf_23 : decode cX0_plateOf 23 = .ok (.istore 4, 2) := by decide +kernel
theorem dX0_plateOf_25 : decode cX0_plateOf 25 = .ok (.iload_n 3, 1) := by decide +kernel
theorem dX0_plateOf_26 : decode cX0_plateOf 26 = .ok (.sipush 10000, 3) := by decide +kernel
theorem dX0_plateOf_29 : decode cX0_plateOf 29 = .ok (.imul, 1) := by decide +kernel
theorem dX0_plateOf_30 : decode cX0_plateOf 30 = .ok (.aload_n 0, 1) := by decide +kernel
theorem dX0_plateOf_31 : decode cX0_plateOf 31 = .ok (.iload_n 1, 1) := by decide +kernel
theorem dX0_plateOf_32 : decode cX0_plateOf 32 = .ok (.invokevirtual 33, 3) := by decide +kernel
theorem dX0_plateOf_35 : decode cX0_plateOf 35 = .ok (.bipush 100, 2) := by decide +kernel
theorem dX0_plateOf_37 : decode cX0_plateOf 37 = .ok (.imul, 1) := by decide +kernel
theorem dX0_plateOf_38 : decode cX0_plateOf 38 = .ok (.iadd, 1) := by decide +kernel
theorem dX0_plateOf_39 : decode cX0_plateOf 39 = .ok (.iload 4, 2) := by decide +kernel
theorem dX0_plateOf_41 : decode cX0_plateOf 41 = .ok (.iadd, 1) := by decide +kernel
theorem dX0_plateOf_42 : decode cX0_plateOf 42 = .ok (.ireturn, 1) := by decide +kernel
theorem dX1_init_0 : decode cX1_init 0 = .ok (.aload_n 0, 1) := by decide +kernel
theorem dX1_init_1 : decode cX1_init 1 = .ok (.invokespecial 3, 3) := by decide +kernel
theorem dX1_init_4 : decode cX1_init 4 = .ok (.aload_n 0, 1) := by decide +kernel
theorem dX1_init_5 : decode cX1_init 5 = .ok (.iload_n 1, 1) := by decide +kernel
theorem dX1_init_6 : decode cX1_init 6 = .ok (.putfield 9, 3) := by decide +kernel
theorem dX1_init_9 : decode cX1_init 9 = .ok (.aload_n 0, 1) := by decide +kernel
theorem dX1_init_10 : decode cX1_init 10 = .ok (.bipush 16, 2) := by decide +kernel
theorem dX1_init_12 : decode cX1_init 12 = .ok (.newarray .int, 2) := by decide +kernel
theorem dX1_init_14 : decode cX1_init 14 = .ok (.putfield 15, 3) := by decide +kernel
theorem dX1_init_17 : decode cX1_init 17 = .ok (.aload_n 0, 1) := by decide +kernel
theorem dX1_init_18 : decode cX1_init 18 = .ok (.bipush 8, 2) := by decide +kernel
theorem dX1_init_20 : decode cX1_init 20 = .ok (.newarray .int, 2) := by decide +kernel
theorem dX1_init_22 : decode cX1_init 22 = .ok (.putfield 19, 3) := by decide +kernel
theorem dX1_init_25 : decode cX1_init 25 = .ok (.return_, 1) := by decide +kernel
theorem dX1_append_0 : decode cX1_append 0 = .ok (.aload_n 0, 1) := by decide +kernel
theorem dX1_append_1 : decode cX1_append 1 = .ok (.getfield 15, 3) := by decide +kernel
theorem dX1_append_4 : decode cX1_append 4 = .ok (.aload_n 0, 1) := by decide +kernel
theorem dX1_append_5 : decode cX1_append 5 = .ok (.getfield 22, 3) := by decide +kernel
theorem dX1_append_8 : decode cX1_append 8 = .ok (.iload_n 1, 1) := by decide +kernel
theorem dX1_append_9 : decode cX1_append 9 = .ok (.invokestatic 26, 3) := by decide +kernel
theorem dX1_append_12 : decode cX1_append 12 = .ok (.aload_n 0, 1) := by decide +kernel
theorem dX1_append_13 : decode cX1_append 13 = .ok (.dup, 1) := by decide +kernel
theorem dX1_append_14 : decode cX1_append 14 = .ok (.getfield 22, 3) := by decide +kernel
theorem dX1_append_17 : decode cX1_append 17 = .ok (.iconst 1, 1) := by decide +kernel
theorem dX1_append_18 : decode cX1_append 18 = .ok (.iadd, 1) := by decide +kernel
theorem dX1_append_19 : decode cX1_append 19 = .ok (.putfield 22, 3) := by decide +kernel
theorem dX1_append_22 : decode cX1_append 22 = .ok (.return_, 1) := by decide +kernel
theorem dX1_contentOf_0 : decode cX1_contentOf 0 = .ok (.aload_n 0, 1) := by decide +kernel
theorem dX1_contentOf_1 : decode cX1_contentOf 1 = .ok (.getfield 15, 3) := by decide +kernel
theorem dX1_contentOf_4 : decode cX1_contentOf 4 = .ok (.iload_n 1, 1) := by decide +kernel
theorem dX1_contentOf_5 : decode cX1_contentOf 5 = .ok (.iconst 1, 1) := by decide +kernel
theorem dX1_contentOf_6 : decode cX1_contentOf 6 = .ok (.isub, 1) := by decide +kernel
theorem dX1_contentOf_7 : decode cX1_contentOf 7 = .ok (.invokestatic 30, 3) := by decide +kernel
theorem dX1_contentOf_10 : decode cX1_contentOf 10 = .ok (.ireturn, 1) := by decide +kernel
theorem dX1_placeCount_0 : decode cX1_placeCount 0 = .ok (.aload_n 0, 1) := by decide +kernel
theorem dX1_placeCount_1 : decode cX1_placeCount 1 = .ok (.getfield 9, 3) := by decide +kernel
theorem dX1_placeCount_4 : decode cX1_placeCount 4 = .ok (.bipush 119, 2) := by decide +kernel
theorem dX1_placeCount_6 : decode cX1_placeCount 6 = .ok (.if_icmp .ne 7, 3) := by decide +kernel
theorem dX1_placeCount_9 : decode cX1_placeCount 9 = .ok (.iconst 2, 1) := by decide +kernel
theorem dX1_placeCount_10 : decode cX1_placeCount 10 = .ok (.goto 4, 3) := by decide +kernel
theorem dX1_placeCount_13 : decode cX1_placeCount 13 = .ok (.iconst 4, 1) := by decide +kernel
theorem dX1_placeCount_14 : decode cX1_placeCount 14 = .ok (.ireturn, 1) := by decide +kernel
theorem dX1_isComplete_0 : decode cX1_isComplete 0 = .ok (.aload_n 0, 1) := by decide +kernel
theorem dX1_isComplete_1 : decode cX1_isComplete 1 = .ok (.getfield 22, 3) := by decide +kernel
theorem dX1_isComplete_4 : decode cX1_isComplete 4 = .ok (.ifCond .le 34, 3) := by decide +kernel
theorem dX1_isComplete_7 : decode cX1_isComplete 7 = .ok (.aload_n 0, 1) := by decide +kernel
theorem dX1_isComplete_8 : decode cX1_isComplete 8 = .ok (.getfield 9, 3) := by decide +kernel
theorem dX1_isComplete_11 : decode cX1_isComplete 11 = .ok (.bipush 119, 2) := by decide +kernel
theorem dX1_isComplete_13 : decode cX1_isComplete 13 = .ok (.if_icmp .ne 12, 3) := by decide +kernel
theorem dX1_isComplete_16 : decode cX1_isComplete 16 = .ok (.aload_n 0, 1) := by decide +kernel
theorem dX1_isComplete_17 : decode cX1_isComplete 17 = .ok (.getfield 22, 3) := by decide +kernel
theorem dX1_isComplete_20 : decode cX1_isComplete 20 = .ok (.iconst 2, 1) := by decide +kernel
theorem dX1_isComplete_21 : decode cX1_isComplete 21 = .ok (.irem, 1) := by decide +kernel
theorem dX1_isComplete_22 : decode cX1_isComplete 22 = .ok (.goto 9, 3) := by decide +kernel
theorem dX1_isComplete_25 : decode cX1_isComplete 25 = .ok (.aload_n 0, 1) := by decide +kernel
theorem dX1_isComplete_26 : decode cX1_isComplete 26 = .ok (.getfield 22, 3) := by decide +kernel
theorem dX1_isComplete_29 : decode cX1_isComplete 29 = .ok (.iconst 4, 1) := by decide +kernel
theorem dX1_isComplete_30 : decode cX1_isComplete 30 = .ok (.irem, 1) := by decide +kernel
theorem dX1_isComplete_31 : decode cX1_isComplete 31 = .ok (.ifCond .ne 7, 3) := by decide +kernel
theorem dX1_isComplete_34 : decode cX1_isComplete 34 = .ok (.iconst 1, 1) := by decide +kernel
theorem dX1_isComplete_35 : decode cX1_isComplete 35 = .ok (.goto 4, 3) := by decide +kernel
theorem dX1_isComplete_38 : decode cX1_isComplete 38 = .ok (.iconst 0, 1) := by decide +kernel
theorem dX1_isComplete_39 : decode cX1_isComplete 39 = .ok (.ireturn, 1) := by decide +kernel
theorem dX1_sheetCount_0 : decode cX1_sheetCount 0 = .ok (.aload_n 0, 1) := by decide +kernel
theorem dX1_sheetCount_1 : decode cX1_sheetCount 1 = .ok (.getfield 9, 3) := by decide +kernel
theorem dX1_sheetCount_4 : decode cX1_sheetCount 4 = .ok (.bipush 119, 2) := by decide +kernel
theorem dX1_sheetCount_6 : decode cX1_sheetCount 6 = .ok (.if_icmp .ne 12, 3) := by decide +kernel
theorem dX1_sheetCount_9 : decode cX1_sheetCount 9 = .ok (.aload_n 0, 1) := by decide +kernel
theorem dX1_sheetCount_10 : decode cX1_sheetCount 10 = .ok (.getfield 22, 3) := by decide +kernel
theorem dX1_sheetCount_13 : decode cX1_sheetCount 13 = .ok (.iconst 2, 1) := by decide +kernel
theorem dX1_sheetCount_14 : decode cX1_sheetCount 14 = .ok (.idiv, 1) := by decide +kernel
theorem dX1_sheetCount_15 : decode cX1_sheetCount 15 = .ok (.goto 9, 3) := by decide +kernel
theorem dX1_sheetCount_18 : decode cX1_sheetCount 18 = .ok (.aload_n 0, 1) := by decide +kernel
theorem dX1_sheetCount_19 : decode cX1_sheetCount 19 = .ok (.getfield 22, 3) := by decide +kernel
theorem dX1_sheetCount_22 : decode cX1_sheetCount 22 = .ok (.iconst 4, 1) := by decide +kernel
theorem dX1_sheetCount_23 : decode cX1_sheetCount 23 = .ok (.idiv, 1) := by decide +kernel
theorem dX1_sheetCount_24 : decode cX1_sheetCount 24 = .ok (.ireturn, 1) := by decide +kernel
theorem dX1_pageOn_0 : decode cX1_pageOn 0 = .ok (.aload_n 0, 1) := by decide +kernel
theorem dX1_pageOn_1 : decode cX1_pageOn 1 = .ok (.getfield 9, 3) := by decide +kernel
theorem dX1_pageOn_4 : decode cX1_pageOn 4 = .ok (.bipush 119, 2) := by decide +kernel
theorem dX1_pageOn_6 : decode cX1_pageOn 6 = .ok (.if_icmp .ne 11, 3) := by decide +kernel
theorem dX1_pageOn_9 : decode cX1_pageOn 9 = .ok (.iconst 2, 1) := by decide +kernel
theorem dX1_pageOn_10 : decode cX1_pageOn 10 = .ok (.iload_n 1, 1) := by decide +kernel
theorem dX1_pageOn_11 : decode cX1_pageOn 11 = .ok (.imul, 1) := by decide +kernel
theorem dX1_pageOn_12 : decode cX1_pageOn 12 = .ok (.iconst 1, 1) := by decide +kernel
theorem dX1_pageOn_13 : decode cX1_pageOn 13 = .ok (.iadd, 1) := by decide +kernel
theorem dX1_pageOn_14 : decode cX1_pageOn 14 = .ok (.iload_n 2, 1) := by decide +kernel
theorem dX1_pageOn_15 : decode cX1_pageOn 15 = .ok (.iadd, 1) := by decide +kernel
theorem dX1_pageOn_16 : decode cX1_pageOn 16 = .ok (.ireturn, 1) := by decide +kernel
theorem dX1_pageOn_17 : decode cX1_pageOn 17 = .ok (.aload_n 0, 1) := by decide +kernel
theorem dX1_pageOn_18 : decode cX1_pageOn 18 = .ok (.getfield 9, 3) := by decide +kernel
theorem dX1_pageOn_21 : decode cX1_pageOn 21 = .ok (.bipush 112, 2) := by decide +kernel
theorem dX1_pageOn_23 : decode cX1_pageOn 23 = .ok (.if_icmp .ne 21, 3) := by decide +kernel
theorem dX1_pageOn_26 : decode cX1_pageOn 26 = .ok (.iload_n 2, 1) := by decide +kernel
theorem dX1_pageOn_27 : decode cX1_pageOn 27 = .ok (.ifCond .ne 11, 3) := by decide +kernel
theorem dX1_pageOn_30 : decode cX1_pageOn 30 = .ok (.iconst 4, 1) := by decide +kernel
theorem dX1_pageOn_31 : decode cX1_pageOn 31 = .ok (.iload_n 1, 1) := by decide +kernel
theorem dX1_pageOn_32 : decode cX1_pageOn 32 = .ok (.imul, 1) := by decide +kernel
theorem dX1_pageOn_33 : decode cX1_pageOn 33 = .ok (.iconst 4, 1) := by decide +kernel
theorem dX1_pageOn_34 : decode cX1_pageOn 34 = .ok (.iadd, 1) := by decide +kernel
theorem dX1_pageOn_35 : decode cX1_pageOn 35 = .ok (.goto 8, 3) := by decide +kernel
theorem dX1_pageOn_38 : decode cX1_pageOn 38 = .ok (.iconst 4, 1) := by decide +kernel
theorem dX1_pageOn_39 : decode cX1_pageOn 39 = .ok (.iload_n 1, 1) := by decide +kernel
theorem dX1_pageOn_40 : decode cX1_pageOn 40 = .ok (.imul, 1) := by decide +kernel
theorem dX1_pageOn_41 : decode cX1_pageOn 41 = .ok (.iload_n 2, 1) := by decide +kernel
theorem dX1_pageOn_42 : decode cX1_pageOn 42 = .ok (.iadd, 1) := by decide +kernel
theorem dX1_pageOn_43 : decode cX1_pageOn 43 = .ok (.ireturn, 1) := by decide +kernel
theorem dX1_pageOn_44 : decode cX1_pageOn 44 = .ok (.iload_n 2, 1) := by decide +kernel
theorem dX1_pageOn_45 : decode cX1_pageOn 45 = .ok (.tableswitch 48 0 2 #[27, 36, 42], 27) := by decide +kernel
theorem dX1_pageOn_72 : decode cX1_pageOn 72 = .ok (.aload_n 0, 1) := by decide +kernel
theorem dX1_pageOn_73 : decode cX1_pageOn 73 = .ok (.getfield 22, 3) := by decide +kernel
theorem dX1_pageOn_76 : decode cX1_pageOn 76 = .ok (.iconst 2, 1) := by decide +kernel
theorem dX1_pageOn_77 : decode cX1_pageOn 77 = .ok (.iload_n 1, 1) := by decide +kernel
theorem dX1_pageOn_78 : decode cX1_pageOn 78 = .ok (.imul, 1) := by decide +kernel
theorem dX1_pageOn_79 : decode cX1_pageOn 79 = .ok (.isub, 1) := by decide +kernel
theorem dX1_pageOn_80 : decode cX1_pageOn 80 = .ok (.ireturn, 1) := by decide +kernel
theorem dX1_pageOn_81 : decode cX1_pageOn 81 = .ok (.iconst 2, 1) := by decide +kernel
theorem dX1_pageOn_82 : decode cX1_pageOn 82 = .ok (.iload_n 1, 1) := by decide +kernel
theorem dX1_pageOn_83 : decode cX1_pageOn 83 = .ok (.imul, 1) := by decide +kernel
theorem dX1_pageOn_84 : decode cX1_pageOn 84 = .ok (.iconst 1, 1) := by decide +kernel
theorem dX1_pageOn_85 : decode cX1_pageOn 85 = .ok (.iadd, 1) := by decide +kernel
theorem dX1_pageOn_86 : decode cX1_pageOn 86 = .ok (.ireturn, 1) := by decide +kernel
theorem dX1_pageOn_87 : decode cX1_pageOn 87 = .ok (.iconst 2, 1) := by decide +kernel
theorem dX1_pageOn_88 : decode cX1_pageOn 88 = .ok (.iload_n 1, 1) := by decide +kernel
theorem dX1_pageOn_89 : decode cX1_pageOn 89 = .ok (.imul, 1) := by decide +kernel
theorem dX1_pageOn_90 : decode cX1_pageOn 90 = .ok (.iconst 2, 1) := by decide +kernel
theorem dX1_pageOn_91 : decode cX1_pageOn 91 = .ok (.iadd, 1) := by decide +kernel
theorem dX1_pageOn_92 : decode cX1_pageOn 92 = .ok (.ireturn, 1) := by decide +kernel
theorem dX1_pageOn_93 : decode cX1_pageOn 93 = .ok (.aload_n 0, 1) := by decide +kernel
theorem dX1_pageOn_94 : decode cX1_pageOn 94 = .ok (.getfield 22, 3) := by decide +kernel
theorem dX1_pageOn_97 : decode cX1_pageOn 97 = .ok (.iconst 2, 1) := by decide +kernel
theorem dX1_pageOn_98 : decode cX1_pageOn 98 = .ok (.iload_n 1, 1) := by decide +kernel
theorem dX1_pageOn_99 : decode cX1_pageOn 99 = .ok (.imul, 1) := by decide +kernel
theorem dX1_pageOn_100 : decode cX1_pageOn 100 = .ok (.isub, 1) := by decide +kernel
theorem dX1_pageOn_101 : decode cX1_pageOn 101 = .ok (.iconst 1, 1) := by decide +kernel
theorem dX1_pageOn_102 : decode cX1_pageOn 102 = .ok (.isub, 1) := by decide +kernel
theorem dX1_pageOn_103 : decode cX1_pageOn 103 = .ok (.ireturn, 1) := by decide +kernel
theorem dX1_contentOn_0 : decode cX1_contentOn 0 = .ok (.aload_n 0, 1) := by decide +kernel
theorem dX1_contentOn_1 : decode cX1_contentOn 1 = .ok (.aload_n 0, 1) := by decide +kernel
theorem dX1_contentOn_2 : decode cX1_contentOn 2 = .ok (.iload_n 1, 1) := by decide +kernel
theorem dX1_contentOn_3 : decode cX1_contentOn 3 = .ok (.iload_n 2, 1) := by decide +kernel
theorem dX1_contentOn_4 : decode cX1_contentOn 4 = .ok (.invokevirtual 34, 3) := by decide +kernel
theorem dX1_contentOn_7 : decode cX1_contentOn 7 = .ok (.invokevirtual 38, 3) := by decide +kernel
theorem dX1_contentOn_10 : decode cX1_contentOn 10 = .ok (.ireturn, 1) := by decide +kernel
theorem dX1_hasPage_0 : decode cX1_hasPage 0 = .ok (.aload_n 0, 1) := by decide +kernel
theorem dX1_hasPage_1 : decode cX1_hasPage 1 = .ok (.invokevirtual 42, 3) := by decide +kernel
theorem dX1_hasPage_4 : decode cX1_hasPage 4 = .ok (.istore_n 3, 1) := by decide +kernel
theorem dX1_hasPage_5 : decode cX1_hasPage 5 = .ok (.iconst 0, 1) := by decide +kernel
theorem dX1_hasPage_6 : decode cX1_hasPage 6 = .ok (.istore 4, 2) := by decide +kernel
theorem dX1_hasPage_8 : decode cX1_hasPage 8 = .ok (.iload 4, 2) := by decide +kernel
theorem dX1_hasPage_10 : decode cX1_hasPage 10 = .ok (.iload_n 3, 1) := by decide +kernel
theorem dX1_hasPage_11 : decode cX1_hasPage 11 = .ok (.if_icmp .ge 22, 3) := by decide +kernel
theorem dX1_hasPage_14 : decode cX1_hasPage 14 = .ok (.aload_n 0, 1) := by decide +kernel
theorem dX1_hasPage_15 : decode cX1_hasPage 15 = .ok (.iload_n 1, 1) := by decide +kernel
theorem dX1_hasPage_16 : decode cX1_hasPage 16 = .ok (.iload 4, 2) := by decide +kernel
theorem dX1_hasPage_18 : decode cX1_hasPage 18 = .ok (.invokevirtual 34, 3) := by decide +kernel
theorem dX1_hasPage_21 : decode cX1_hasPage 21 = .ok (.iload_n 2, 1) := by decide +kernel
theorem dX1_hasPage_22 : decode cX1_hasPage 22 = .ok (.if_icmp .ne 5, 3) := by decide +kernel
theorem dX1_hasPage_25 : decode cX1_hasPage 25 = .ok (.iconst 1, 1) := by decide +kernel
theorem dX1_hasPage_26 : decode cX1_hasPage 26 = .ok (.ireturn, 1) := by decide +kernel
theorem dX1_hasPage_27 : decode cX1_hasPage 27 = .ok (.iinc 4 1, 3) := by decide +kernel
theorem dX1_hasPage_30 : decode cX1_hasPage 30 = .ok (.goto (-22), 3) := by decide +kernel
theorem dX1_hasPage_33 : decode cX1_hasPage 33 = .ok (.iconst 0, 1) := by decide +kernel
theorem dX1_hasPage_34 : decode cX1_hasPage 34 = .ok (.ireturn, 1) := by decide +kernel
theorem dX1_sheetWith_0 : decode cX1_sheetWith 0 = .ok (.aload_n 0, 1) := by decide +kernel
theorem dX1_sheetWith_1 : decode cX1_sheetWith 1 = .ok (.invokevirtual 46, 3) := by decide +kernel
theorem dX1_sheetWith_4 : decode cX1_sheetWith 4 = .ok (.istore_n 2, 1) := by decide +kernel
theorem dX1_sheetWith_5 : decode cX1_sheetWith 5 = .ok (.iconst 0, 1) := by decide +kernel
theorem dX1_sheetWith_6 : decode cX1_sheetWith 6 = .ok (.istore_n 3, 1) := by decide +kernel
theorem dX1_sheetWith_7 : decode cX1_sheetWith 7 = .ok (.iload_n 3, 1) := by decide +kernel
theorem dX1_sheetWith_8 : decode cX1_sheetWith 8 = .ok (.iload_n 2, 1) := by decide +kernel
theorem dX1_sheetWith_9 : decode cX1_sheetWith 9 = .ok (.if_icmp .ge 20, 3) := by decide +kernel
theorem dX1_sheetWith_12 : decode cX1_sheetWith 12 = .ok (.aload_n 0, 1) := by decide +kernel
theorem dX1_sheetWith_13 : decode cX1_sheetWith 13 = .ok (.iload_n 3, 1) := by decide +kernel
theorem dX1_sheetWith_14 : decode cX1_sheetWith 14 = .ok (.iload_n 1, 1) := by decide +kernel
theorem dX1_sheetWith_15 : decode cX1_sheetWith 15 = .ok (.invokevirtual 49, 3) := by decide +kernel
theorem dX1_sheetWith_18 : decode cX1_sheetWith 18 = .ok (.ifCond .eq 5, 3) := by decide +kernel
theorem dX1_sheetWith_21 : decode cX1_sheetWith 21 = .ok (.iload_n 3, 1) := by decide +kernel
theorem dX1_sheetWith_22 : decode cX1_sheetWith 22 = .ok (.ireturn, 1) := by decide +kernel
theorem dX1_sheetWith_23 : decode cX1_sheetWith 23 = .ok (.iinc 3 1, 3) := by decide +kernel
theorem dX1_sheetWith_26 : decode cX1_sheetWith 26 = .ok (.goto (-19), 3) := by decide +kernel
theorem dX1_sheetWith_29 : decode cX1_sheetWith 29 = .ok (.iconst (-1), 1) := by decide +kernel
theorem dX1_sheetWith_30 : decode cX1_sheetWith 30 = .ok (.ireturn, 1) := by decide +kernel
theorem dX1_isShowing_0 : decode cX1_isShowing 0 = .ok (.aload_n 0, 1) := by decide +kernel
theorem dX1_isShowing_1 : decode cX1_isShowing 1 = .ok (.invokevirtual 42, 3) := by decide +kernel
theorem dX1_isShowing_4 : decode cX1_isShowing 4 = .ok (.istore_n 3, 1) := by decide +kernel
theorem dX1_isShowing_5 : decode cX1_isShowing 5 = .ok (.iconst 0, 1) := by decide +kernel
theorem dX1_isShowing_6 : decode cX1_isShowing 6 = .ok (.istore 4, 2) := by decide +kernel
theorem dX1_isShowing_8 : decode cX1_isShowing 8 = .ok (.iload 4, 2) := by decide +kernel
theorem dX1_isShowing_10 : decode cX1_isShowing 10 = .ok (.iload_n 3, 1) := by decide +kernel
theorem dX1_isShowing_11 : decode cX1_isShowing 11 = .ok (.if_icmp .ge 22, 3) := by decide +kernel
theorem dX1_isShowing_14 : decode cX1_isShowing 14 = .ok (.aload_n 0, 1) := by decide +kernel
theorem dX1_isShowing_15 : decode cX1_isShowing 15 = .ok (.iload_n 1, 1) := by decide +kernel
theorem dX1_isShowing_16 : decode cX1_isShowing 16 = .ok (.iload 4, 2) := by decide +kernel
theorem dX1_isShowing_18 : decode cX1_isShowing 18 = .ok (.invokevirtual 53, 3) := by decide +kernel
theorem dX1_isShowing_21 : decode cX1_isShowing 21 = .ok (.iload_n 2, 1) := by decide +kernel
theorem dX1_isShowing_22 : decode cX1_isShowing 22 = .ok (.if_icmp .ne 5, 3) := by decide +kernel
theorem dX1_isShowing_25 : decode cX1_isShowing 25 = .ok (.iconst 1, 1) := by decide +kernel
theorem dX1_isShowing_26 : decode cX1_isShowing 26 = .ok (.ireturn, 1) := by decide +kernel
theorem dX1_isShowing_27 : decode cX1_isShowing 27 = .ok (.iinc 4 1, 3) := by decide +kernel
theorem dX1_isShowing_30 : decode cX1_isShowing 30 = .ok (.goto (-22), 3) := by decide +kernel
theorem dX1_isShowing_33 : decode cX1_isShowing 33 = .ok (.iconst 0, 1) := by decide +kernel
theorem dX1_isShowing_34 : decode cX1_isShowing 34 = .ok (.ireturn, 1) := by decide +kernel
theorem dX1_stockOf_0 : decode cX1_stockOf 0 = .ok (.aload_n 0, 1) := by decide +kernel
theorem dX1_stockOf_1 : decode cX1_stockOf 1 = .ok (.getfield 19, 3) := by decide +kernel
theorem dX1_stockOf_4 : decode cX1_stockOf 4 = .ok (.iload_n 1, 1) := by decide +kernel
theorem dX1_stockOf_5 : decode cX1_stockOf 5 = .ok (.invokestatic 30, 3) := by decide +kernel
theorem dX1_stockOf_8 : decode cX1_stockOf 8 = .ok (.ireturn, 1) := by decide +kernel
theorem dX1_addToStock_0 : decode cX1_addToStock 0 = .ok (.aload_n 0, 1) := by decide +kernel
theorem dX1_addToStock_1 : decode cX1_addToStock 1 = .ok (.getfield 19, 3) := by decide +kernel
theorem dX1_addToStock_4 : decode cX1_addToStock 4 = .ok (.iload_n 1, 1) := by decide +kernel
theorem dX1_addToStock_5 : decode cX1_addToStock 5 = .ok (.aload_n 0, 1) := by decide +kernel
theorem dX1_addToStock_6 : decode cX1_addToStock 6 = .ok (.getfield 19, 3) := by decide +kernel
theorem dX1_addToStock_9 : decode cX1_addToStock 9 = .ok (.iload_n 1, 1) := by decide +kernel
theorem dX1_addToStock_10 : decode cX1_addToStock 10 = .ok (.invokestatic 30, 3) := by decide +kernel
theorem dX1_addToStock_13 : decode cX1_addToStock 13 = .ok (.iload_n 2, 1) := by decide +kernel
theorem dX1_addToStock_14 : decode cX1_addToStock 14 = .ok (.iadd, 1) := by decide +kernel
theorem dX1_addToStock_15 : decode cX1_addToStock 15 = .ok (.invokestatic 26, 3) := by decide +kernel
theorem dX1_addToStock_18 : decode cX1_addToStock 18 = .ok (.return_, 1) := by decide +kernel
theorem dX1_takeSheets_0 : decode cX1_takeSheets 0 = .ok (.aload_n 0, 1) := by decide +kernel
theorem dX1_takeSheets_1 : decode cX1_takeSheets 1 = .ok (.getfield 19, 3) := by decide +kernel
theorem dX1_takeSheets_4 : decode cX1_takeSheets 4 = .ok (.iload_n 1, 1) := by decide +kernel
theorem dX1_takeSheets_5 : decode cX1_takeSheets 5 = .ok (.invokestatic 30, 3) := by decide +kernel
theorem dX1_takeSheets_8 : decode cX1_takeSheets 8 = .ok (.istore_n 2, 1) := by decide +kernel
theorem dX1_takeSheets_9 : decode cX1_takeSheets 9 = .ok (.aload_n 0, 1) := by decide +kernel
theorem dX1_takeSheets_10 : decode cX1_takeSheets 10 = .ok (.getfield 19, 3) := by decide +kernel
theorem dX1_takeSheets_13 : decode cX1_takeSheets 13 = .ok (.iload_n 1, 1) := by decide +kernel
theorem dX1_takeSheets_14 : decode cX1_takeSheets 14 = .ok (.iconst 0, 1) := by decide +kernel
theorem dX1_takeSheets_15 : decode cX1_takeSheets 15 = .ok (.invokestatic 26, 3) := by decide +kernel
theorem dX1_takeSheets_18 : decode cX1_takeSheets 18 = .ok (.iload_n 2, 1) := by decide +kernel
theorem dX1_takeSheets_19 : decode cX1_takeSheets 19 = .ok (.ireturn, 1) := by decide +kernel
theorem dX1_takeAllSheets_0 : decode cX1_takeAllSheets 0 = .ok (.iconst 0, 1) := by decide +kernel
theorem dX1_takeAllSheets_1 : decode cX1_takeAllSheets 1 = .ok (.istore_n 1, 1) := by decide +kernel
theorem dX1_takeAllSheets_2 : decode cX1_takeAllSheets 2 = .ok (.iconst 0, 1) := by decide +kernel
theorem dX1_takeAllSheets_3 : decode cX1_takeAllSheets 3 = .ok (.istore_n 2, 1) := by decide +kernel
theorem dX1_takeAllSheets_4 : decode cX1_takeAllSheets 4 = .ok (.iload_n 2, 1) := by decide +kernel
theorem dX1_takeAllSheets_5 : decode cX1_takeAllSheets 5 = .ok (.bipush 8, 2) := by decide +kernel
theorem dX1_takeAllSheets_7 : decode cX1_takeAllSheets 7 = .ok (.if_icmp .ge 17, 3) := by decide +kernel
theorem dX1_takeAllSheets_10 : decode cX1_takeAllSheets 10 = .ok (.iload_n 1, 1) := by decide +kernel
theorem dX1_takeAllSheets_11 : decode cX1_takeAllSheets 11 = .ok (.aload_n 0, 1) := by decide +kernel
theorem dX1_takeAllSheets_12 : decode cX1_takeAllSheets 12 = .ok (.iload_n 2, 1) := by decide +kernel
theorem dX1_takeAllSheets_13 : decode cX1_takeAllSheets 13 = .ok (.invokevirtual 56, 3) := by decide +kernel
theorem dX1_takeAllSheets_16 : decode cX1_takeAllSheets 16 = .ok (.iadd, 1) := by decide +kernel
theorem dX1_takeAllSheets_17 : decode cX1_takeAllSheets 17 = .ok (.istore_n 1, 1) := by decide +kernel
theorem dX1_takeAllSheets_18 : decode cX1_takeAllSheets 18 = .ok (.iinc 2 1, 3) := by decide +kernel
theorem dX1_takeAllSheets_21 : decode cX1_takeAllSheets 21 = .ok (.goto (-17), 3) := by decide +kernel
theorem dX1_takeAllSheets_24 : decode cX1_takeAllSheets 24 = .ok (.iload_n 1, 1) := by decide +kernel
theorem dX1_takeAllSheets_25 : decode cX1_takeAllSheets 25 = .ok (.ireturn, 1) := by decide +kernel
theorem dX1_takeSheetsShowing_0 : decode cX1_takeSheetsShowing 0 = .ok (.iconst 0, 1) := by decide +kernel
theorem dX1_takeSheetsShowing_1 : decode cX1_takeSheetsShowing 1 = .ok (.istore_n 2, 1) := by decide +kernel
theorem dX1_takeSheetsShowing_2 : decode cX1_takeSheetsShowing 2 = .ok (.aload_n 0, 1) := by decide +kernel
theorem dX1_takeSheetsShowing_3 : decode cX1_takeSheetsShowing 3 = .ok (.invokevirtual 46, 3) := by decide +kernel
theorem dX1_takeSheetsShowing_6 : decode cX1_takeSheetsShowing 6 = .ok (.istore_n 3, 1) := by decide +kernel
theorem dX1_takeSheetsShowing_7 : decode cX1_takeSheetsShowing 7 = .ok (.iconst 0, 1) := by decide +kernel
theorem dX1_takeSheetsShowing_8 : decode cX1_takeSheetsShowing 8 = .ok (.istore 4, 2) := by decide +kernel
theorem dX1_takeSheetsShowing_10 : decode cX1_takeSheetsShowing 10 = .ok (.iload 4, 2) := by decide +kernel
theorem dX1_takeSheetsShowing_12 : decode cX1_takeSheetsShowing 12 = .ok (.iload_n 3, 1) := by decide +kernel
theorem dX1_takeSheetsShowing_13 : decode cX1_takeSheetsShowing 13 = .ok (.if_icmp .ge 28, 3) := by decide +kernel
theorem dX1_takeSheetsShowing_16 : decode cX1_takeSheetsShowing 16 = .ok (.aload_n 0, 1) := by decide +kernel
theorem dX1_takeSheetsShowing_17 : decode cX1_takeSheetsShowing 17 = .ok (.iload 4, 2) := by decide +kernel
theorem dX1_takeSheetsShowing_19 : decode cX1_takeSheetsShowing 19 = .ok (.iload_n 1, 1) := by decide +kernel
theorem dX1_takeSheetsShowing_20 : decode cX1_takeSheetsShowing 20 = .ok (.invokevirtual 59, 3) := by decide +kernel
theorem dX1_takeSheetsShowing_23 : decode cX1_takeSheetsShowing 23 = .ok (.ifCond .eq 12, 3) := by decide +kernel
theorem dX1_takeSheetsShowing_26 : decode cX1_takeSheetsShowing 26 = .ok (.iload_n 2, 1) := by decide +kernel
theorem dX1_takeSheetsShowing_27 : decode cX1_takeSheetsShowing 27 = .ok (.aload_n 0, 1) := by decide +kernel
theorem dX1_takeSheetsShowing_28 : decode cX1_takeSheetsShowing 28 = .ok (.iload 4, 2) := by decide +kernel
theorem dX1_takeSheetsShowing_30 : decode cX1_takeSheetsShowing 30 = .ok (.invokevirtual 56, 3) := by decide +kernel
theorem dX1_takeSheetsShowing_33 : decode cX1_takeSheetsShowing 33 = .ok (.iadd, 1) := by decide +kernel
theorem dX1_takeSheetsShowing_34 : decode cX1_takeSheetsShowing 34 = .ok (.istore_n 2, 1) := by decide +kernel
theorem dX1_takeSheetsShowing_35 : decode cX1_takeSheetsShowing 35 = .ok (.iinc 4 1, 3) := by decide +kernel
theorem dX1_takeSheetsShowing_38 : decode cX1_takeSheetsShowing 38 = .ok (.goto (-28), 3) := by decide +kernel
theorem dX1_takeSheetsShowing_41 : decode cX1_takeSheetsShowing 41 = .ok (.iload_n 2, 1) := by decide +kernel
theorem dX1_takeSheetsShowing_42 : decode cX1_takeSheetsShowing 42 = .ok (.ireturn, 1) := by decide +kernel
theorem dX1_lackFor_0 : decode cX1_lackFor 0 = .ok (.iconst 0, 1) := by decide +kernel
theorem dX1_lackFor_1 : decode cX1_lackFor 1 = .ok (.istore_n 2, 1) := by decide +kernel
theorem dX1_lackFor_2 : decode cX1_lackFor 2 = .ok (.aload_n 0, 1) := by decide +kernel
theorem dX1_lackFor_3 : decode cX1_lackFor 3 = .ok (.invokevirtual 46, 3) := by decide +kernel
theorem dX1_lackFor_6 : decode cX1_lackFor 6 = .ok (.istore_n 3, 1) := by decide +kernel
theorem dX1_lackFor_7 : decode cX1_lackFor 7 = .ok (.iconst 0, 1) := by decide +kernel
theorem dX1_lackFor_8 : decode cX1_lackFor 8 = .ok (.istore 4, 2) := by decide +kernel
theorem dX1_lackFor_10 : decode cX1_lackFor 10 = .ok (.iload 4, 2) := by decide +kernel
theorem dX1_lackFor_12 : decode cX1_lackFor 12 = .ok (.iload_n 3, 1) := by decide +kernel
theorem dX1_lackFor_13 : decode cX1_lackFor 13 = .ok (.if_icmp .ge 27, 3) := by decide +kernel
theorem dX1_lackFor_16 : decode cX1_lackFor 16 = .ok (.iload_n 2, 1) := by decide +kernel
theorem dX1_lackFor_17 : decode cX1_lackFor 17 = .ok (.iconst 0, 1) := by decide +kernel
theorem dX1_lackFor_18 : decode cX1_lackFor 18 = .ok (.iload_n 1, 1) := by decide +kernel
theorem dX1_lackFor_19 : decode cX1_lackFor 19 = .ok (.aload_n 0, 1) := by decide +kernel
theorem dX1_lackFor_20 : decode cX1_lackFor 20 = .ok (.getfield 19, 3) := by decide +kernel
theorem dX1_lackFor_23 : decode cX1_lackFor 23 = .ok (.iload 4, 2) := by decide +kernel
theorem dX1_lackFor_25 : decode cX1_lackFor 25 = .ok (.invokestatic 30, 3) := by decide +kernel
theorem dX1_lackFor_28 : decode cX1_lackFor 28 = .ok (.isub, 1) := by decide +kernel
theorem dX1_lackFor_29 : decode cX1_lackFor 29 = .ok (.invokestatic 62, 3) := by decide +kernel
theorem dX1_lackFor_32 : decode cX1_lackFor 32 = .ok (.iadd, 1) := by decide +kernel
theorem dX1_lackFor_33 : decode cX1_lackFor 33 = .ok (.istore_n 2, 1) := by decide +kernel
theorem dX1_lackFor_34 : decode cX1_lackFor 34 = .ok (.iinc 4 1, 3) := by decide +kernel
theorem dX1_lackFor_37 : decode cX1_lackFor 37 = .ok (.goto (-27), 3) := by decide +kernel
theorem dX1_lackFor_40 : decode cX1_lackFor 40 = .ok (.iload_n 2, 1) := by decide +kernel
theorem dX1_lackFor_41 : decode cX1_lackFor 41 = .ok (.ireturn, 1) := by decide +kernel
theorem dX1_takeSheetsFor_0 : decode cX1_takeSheetsFor 0 = .ok (.aload_n 0, 1) := by decide +kernel
theorem dX1_takeSheetsFor_1 : decode cX1_takeSheetsFor 1 = .ok (.invokevirtual 46, 3) := by decide +kernel
theorem dX1_takeSheetsFor_4 : decode cX1_takeSheetsFor 4 = .ok (.istore_n 2, 1) := by decide +kernel
theorem dX1_takeSheetsFor_5 : decode cX1_takeSheetsFor 5 = .ok (.iconst 0, 1) := by decide +kernel
theorem dX1_takeSheetsFor_6 : decode cX1_takeSheetsFor 6 = .ok (.istore_n 3, 1) := by decide +kernel
theorem dX1_takeSheetsFor_7 : decode cX1_takeSheetsFor 7 = .ok (.iload_n 3, 1) := by decide +kernel
theorem dX1_takeSheetsFor_8 : decode cX1_takeSheetsFor 8 = .ok (.iload_n 2, 1) := by decide +kernel
theorem dX1_takeSheetsFor_9 : decode cX1_takeSheetsFor 9 = .ok (.if_icmp .ge 16, 3) := by decide +kernel
theorem dX1_takeSheetsFor_12 : decode cX1_takeSheetsFor 12 = .ok (.aload_n 0, 1) := by decide +kernel
theorem dX1_takeSheetsFor_13 : decode cX1_takeSheetsFor 13 = .ok (.iload_n 3, 1) := by decide +kernel
theorem dX1_takeSheetsFor_14 : decode cX1_takeSheetsFor 14 = .ok (.iload_n 1, 1) := by decide +kernel
theorem dX1_takeSheetsFor_15 : decode cX1_takeSheetsFor 15 = .ok (.ineg, 1) := by decide +kernel
theorem dX1_takeSheetsFor_16 : decode cX1_takeSheetsFor 16 = .ok (.invokevirtual 67, 3) := by decide +kernel
theorem dX1_takeSheetsFor_19 : decode cX1_takeSheetsFor 19 = .ok (.iinc 3 1, 3) := by decide +kernel
theorem dX1_takeSheetsFor_22 : decode cX1_takeSheetsFor 22 = .ok (.goto (-15), 3) := by decide +kernel
theorem dX1_takeSheetsFor_25 : decode cX1_takeSheetsFor 25 = .ok (.return_, 1) := by decide +kernel
theorem dX2_init_0 : decode cX2_init 0 = .ok (.aload_n 0, 1) := by decide +kernel
theorem dX2_init_1 : decode cX2_init 1 = .ok (.invokespecial 3, 3) := by decide +kernel
theorem dX2_init_4 : decode cX2_init 4 = .ok (.aload_n 0, 1) := by decide +kernel
theorem dX2_init_5 : decode cX2_init 5 = .ok (.iload_n 1, 1) := by decide +kernel
theorem dX2_init_6 : decode cX2_init 6 = .ok (.putfield 9, 3) := by decide +kernel
theorem dX2_init_9 : decode cX2_init 9 = .ok (.aload_n 0, 1) := by decide +kernel
theorem dX2_init_10 : decode cX2_init 10 = .ok (.iload_n 2, 1) := by decide +kernel
theorem dX2_init_11 : decode cX2_init 11 = .ok (.putfield 15, 3) := by decide +kernel
theorem dX2_init_14 : decode cX2_init 14 = .ok (.aload_n 0, 1) := by decide +kernel
theorem dX2_init_15 : decode cX2_init 15 = .ok (.iload_n 3, 1) := by decide +kernel
theorem dX2_init_16 : decode cX2_init 16 = .ok (.putfield 18, 3) := by decide +kernel
theorem dX2_init_19 : decode cX2_init 19 = .ok (.aload_n 0, 1) := by decide +kernel
theorem dX2_init_20 : decode cX2_init 20 = .ok (.bipush 16, 2) := by decide +kernel
theorem dX2_init_22 : decode cX2_init 22 = .ok (.newarray .int, 2) := by decide +kernel
theorem dX2_init_24 : decode cX2_init 24 = .ok (.putfield 21, 3) := by decide +kernel
theorem dX2_init_27 : decode cX2_init 27 = .ok (.aload_n 0, 1) := by decide +kernel
theorem dX2_init_28 : decode cX2_init 28 = .ok (.bipush 16, 2) := by decide +kernel
theorem dX2_init_30 : decode cX2_init 30 = .ok (.newarray .int, 2) := by decide +kernel
theorem dX2_init_32 : decode cX2_init 32 = .ok (.putfield 25, 3) := by decide +kernel
theorem dX2_init_35 : decode cX2_init 35 = .ok (.return_, 1) := by decide +kernel
theorem dX2_keep_0 : decode cX2_keep 0 = .ok (.aload_n 0, 1) := by decide +kernel
theorem dX2_keep_1 : decode cX2_keep 1 = .ok (.getfield 21, 3) := by decide +kernel
theorem dX2_keep_4 : decode cX2_keep 4 = .ok (.iload_n 1, 1) := by decide +kernel
theorem dX2_keep_5 : decode cX2_keep 5 = .ok (.iconst 1, 1) := by decide +kernel
theorem dX2_keep_6 : decode cX2_keep 6 = .ok (.isub, 1) := by decide +kernel
theorem dX2_keep_7 : decode cX2_keep 7 = .ok (.iload_n 2, 1) := by decide +kernel
theorem dX2_keep_8 : decode cX2_keep 8 = .ok (.invokestatic 28, 3) := by decide +kernel
theorem dX2_keep_11 : decode cX2_keep 11 = .ok (.aload_n 0, 1) := by decide +kernel
theorem dX2_keep_12 : decode cX2_keep 12 = .ok (.getfield 25, 3) := by decide +kernel
theorem dX2_keep_15 : decode cX2_keep 15 = .ok (.iload_n 1, 1) := by decide +kernel
theorem dX2_keep_16 : decode cX2_keep 16 = .ok (.iconst 1, 1) := by decide +kernel
theorem dX2_keep_17 : decode cX2_keep 17 = .ok (.isub, 1) := by decide +kernel
theorem dX2_keep_18 : decode cX2_keep 18 = .ok (.iload_n 3, 1) := by decide +kernel
theorem dX2_keep_19 : decode cX2_keep 19 = .ok (.invokestatic 28, 3) := by decide +kernel
theorem dX2_keep_22 : decode cX2_keep 22 = .ok (.return_, 1) := by decide +kernel
theorem dX2_contentOf_0 : decode cX2_contentOf 0 = .ok (.aload_n 0, 1) := by decide +kernel
theorem dX2_contentOf_1 : decode cX2_contentOf 1 = .ok (.getfield 21, 3) := by decide +kernel
theorem dX2_contentOf_4 : decode cX2_contentOf 4 = .ok (.iload_n 1, 1) := by decide +kernel
theorem dX2_contentOf_5 : decode cX2_contentOf 5 = .ok (.iconst 1, 1) := by decide +kernel
theorem dX2_contentOf_6 : decode cX2_contentOf 6 = .ok (.isub, 1) := by decide +kernel
theorem dX2_contentOf_7 : decode cX2_contentOf 7 = .ok (.invokestatic 32, 3) := by decide +kernel
theorem dX2_contentOf_10 : decode cX2_contentOf 10 = .ok (.ireturn, 1) := by decide +kernel
theorem dX2_keptState_0 : decode cX2_keptState 0 = .ok (.aload_n 0, 1) := by decide +kernel
theorem dX2_keptState_1 : decode cX2_keptState 1 = .ok (.getfield 25, 3) := by decide +kernel
theorem dX2_keptState_4 : decode cX2_keptState 4 = .ok (.iload_n 1, 1) := by decide +kernel
theorem dX2_keptState_5 : decode cX2_keptState 5 = .ok (.iconst 1, 1) := by decide +kernel
theorem dX2_keptState_6 : decode cX2_keptState 6 = .ok (.isub, 1) := by decide +kernel
theorem dX2_keptState_7 : decode cX2_keptState 7 = .ok (.invokestatic 32, 3) := by decide +kernel
theorem dX2_keptState_10 : decode cX2_keptState 10 = .ok (.ireturn, 1) := by decide +kernel
theorem dX2_showsInOtherState_0 : decode cX2_showsInOtherState 0 = .ok (.iconst 1, 1) := by decide +kernel
theorem dX2_showsInOtherState_1 : decode cX2_showsInOtherState 1 = .ok (.istore_n 3, 1) := by decide +kernel
theorem dX2_showsInOtherState_2 : decode cX2_showsInOtherState 2 = .ok (.iload_n 3, 1) := by decide +kernel
theorem dX2_showsInOtherState_3 : decode cX2_showsInOtherState 3 = .ok (.aload_n 0, 1) := by decide +kernel
theorem dX2_showsInOtherState_4 : decode cX2_showsInOtherState 4 = .ok (.getfield 15, 3) := by decide +kernel
theorem dX2_showsInOtherState_7 : decode cX2_showsInOtherState 7 = .ok (.if_icmp .gt 29, 3) := by decide +kernel
theorem dX2_showsInOtherState_10 : decode cX2_showsInOtherState 10 = .ok (.aload_n 0, 1) := by decide +kernel
theorem dX2_showsInOtherState_11 : decode cX2_showsInOtherState 11 = .ok (.iload_n 3, 1) := by decide +kernel
theorem dX2_showsInOtherState_12 : decode cX2_showsInOtherState 12 = .ok (.invokevirtual 36, 3) := by decide +kernel
theorem dX2_showsInOtherState_15 : decode cX2_showsInOtherState 15 = .ok (.iload_n 1, 1) := by decide +kernel
theorem dX2_showsInOtherState_16 : decode cX2_showsInOtherState 16 = .ok (.if_icmp .ne 14, 3) := by decide +kernel
theorem dX2_showsInOtherState_19 : decode cX2_showsInOtherState 19 = .ok (.aload_n 0, 1) := by decide +kernel
theorem dX2_showsInOtherState_20 : decode cX2_showsInOtherState 20 = .ok (.iload_n 3, 1) := by decide +kernel
theorem dX2_showsInOtherState_21 : decode cX2_showsInOtherState 21 = .ok (.invokevirtual 40, 3) := by decide +kernel
theorem dX2_showsInOtherState_24 : decode cX2_showsInOtherState 24 = .ok (.iload_n 2, 1) := by decide +kernel
theorem dX2_showsInOtherState_25 : decode cX2_showsInOtherState 25 = .ok (.if_icmp .eq 5, 3) := by decide +kernel
theorem dX2_showsInOtherState_28 : decode cX2_showsInOtherState 28 = .ok (.iconst 1, 1) := by decide +kernel
theorem dX2_showsInOtherState_29 : decode cX2_showsInOtherState 29 = .ok (.ireturn, 1) := by decide +kernel
theorem dX2_showsInOtherState_30 : decode cX2_showsInOtherState 30 = .ok (.iinc 3 1, 3) := by decide +kernel
theorem dX2_showsInOtherState_33 : decode cX2_showsInOtherState 33 = .ok (.goto (-31), 3) := by decide +kernel
theorem dX2_showsInOtherState_36 : decode cX2_showsInOtherState 36 = .ok (.iconst 0, 1) := by decide +kernel
theorem dX2_showsInOtherState_37 : decode cX2_showsInOtherState 37 = .ok (.ireturn, 1) := by decide +kernel
theorem dX3_init_0 : decode cX3_init 0 = .ok (.aload_n 0, 1) := by decide +kernel
theorem dX3_init_1 : decode cX3_init 1 = .ok (.invokespecial 3, 3) := by decide +kernel
theorem dX3_init_4 : decode cX3_init 4 = .ok (.aload_n 0, 1) := by decide +kernel
theorem dX3_init_5 : decode cX3_init 5 = .ok (.bipush 9, 2) := by decide +kernel
theorem dX3_init_7 : decode cX3_init 7 = .ok (.newarray .int, 2) := by decide +kernel
theorem dX3_init_9 : decode cX3_init 9 = .ok (.putfield 9, 3) := by decide +kernel
theorem dX3_init_12 : decode cX3_init 12 = .ok (.aload_n 0, 1) := by decide +kernel
theorem dX3_init_13 : decode cX3_init 13 = .ok (.bipush 9, 2) := by decide +kernel
theorem dX3_init_15 : decode cX3_init 15 = .ok (.newarray .int, 2) := by decide +kernel
theorem dX3_init_17 : decode cX3_init 17 = .ok (.putfield 15, 3) := by decide +kernel
theorem dX3_init_20 : decode cX3_init 20 = .ok (.aload_n 0, 1) := by decide +kernel
theorem dX3_init_21 : decode cX3_init 21 = .ok (.sipush 2048, 3) := by decide +kernel
theorem dX3_init_24 : decode cX3_init 24 = .ok (.newarray .int, 2) := by decide +kernel
theorem dX3_init_26 : decode cX3_init 26 = .ok (.putfield 18, 3) := by decide +kernel
theorem dX3_init_29 : decode cX3_init 29 = .ok (.return_, 1) := by decide +kernel
theorem dX3_start_0 : decode cX3_start 0 = .ok (.aload_n 0, 1) := by decide +kernel
theorem dX3_start_1 : decode cX3_start 1 = .ok (.iconst 0, 1) := by decide +kernel
theorem dX3_start_2 : decode cX3_start 2 = .ok (.iload_n 1, 1) := by decide +kernel
theorem dX3_start_3 : decode cX3_start 3 = .ok (.bipush 8, 2) := by decide +kernel
theorem dX3_start_5 : decode cX3_start 5 = .ok (.invokestatic 21, 3) := by decide +kernel
theorem dX3_start_8 : decode cX3_start 8 = .ok (.invokestatic 27, 3) := by decide +kernel
theorem dX3_start_11 : decode cX3_start 11 = .ok (.putfield 30, 3) := by decide +kernel
theorem dX3_start_14 : decode cX3_start 14 = .ok (.aload_n 0, 1) := by decide +kernel
theorem dX3_start_15 : decode cX3_start 15 = .ok (.getfield 9, 3) := by decide +kernel
theorem dX3_start_18 : decode cX3_start 18 = .ok (.bipush 8, 2) := by decide +kernel
theorem dX3_start_20 : decode cX3_start 20 = .ok (.iload_n 2, 1) := by decide +kernel
theorem dX3_start_21 : decode cX3_start 21 = .ok (.invokestatic 34, 3) := by decide +kernel
theorem dX3_start_24 : decode cX3_start 24 = .ok (.aload_n 0, 1) := by decide +kernel
theorem dX3_start_25 : decode cX3_start 25 = .ok (.getfield 15, 3) := by decide +kernel
theorem dX3_start_28 : decode cX3_start 28 = .ok (.bipush 8, 2) := by decide +kernel
theorem dX3_start_30 : decode cX3_start 30 = .ok (.iload_n 3, 1) := by decide +kernel
theorem dX3_start_31 : decode cX3_start 31 = .ok (.invokestatic 34, 3) := by decide +kernel
theorem dX3_start_34 : decode cX3_start 34 = .ok (.return_, 1) := by decide +kernel
theorem dX3_setSheet_0 : decode cX3_setSheet 0 = .ok (.aload_n 0, 1) := by decide +kernel
theorem dX3_setSheet_1 : decode cX3_setSheet 1 = .ok (.getfield 9, 3) := by decide +kernel
theorem dX3_setSheet_4 : decode cX3_setSheet 4 = .ok (.iload_n 1, 1) := by decide +kernel
theorem dX3_setSheet_5 : decode cX3_setSheet 5 = .ok (.iload_n 2, 1) := by decide +kernel
theorem dX3_setSheet_6 : decode cX3_setSheet 6 = .ok (.invokestatic 34, 3) := by decide +kernel
theorem dX3_setSheet_9 : decode cX3_setSheet 9 = .ok (.aload_n 0, 1) := by decide +kernel
theorem dX3_setSheet_10 : decode cX3_setSheet 10 = .ok (.getfield 15, 3) := by decide +kernel
theorem dX3_setSheet_13 : decode cX3_setSheet 13 = .ok (.iload_n 1, 1) := by decide +kernel
theorem dX3_setSheet_14 : decode cX3_setSheet 14 = .ok (.iload_n 3, 1) := by decide +kernel
theorem dX3_setSheet_15 : decode cX3_setSheet 15 = .ok (.invokestatic 34, 3) := by decide +kernel
theorem dX3_setSheet_18 : decode cX3_setSheet 18 = .ok (.return_, 1) := by decide +kernel
theorem dX3_change_0 : decode cX3_change 0 = .ok (.aload_n 0, 1) := by decide +kernel
theorem dX3_change_1 : decode cX3_change 1 = .ok (.iload_n 2, 1) := by decide +kernel
theorem dX3_change_2 : decode cX3_change 2 = .ok (.invokestatic 38, 3) := by decide +kernel
theorem dX3_change_5 : decode cX3_change 5 = .ok (.aload_n 0, 1) := by decide +kernel
theorem dX3_change_6 : decode cX3_change 6 = .ok (.iload_n 3, 1) := by decide +kernel
theorem dX3_change_7 : decode cX3_change 7 = .ok (.invokestatic 38, 3) := by decide +kernel
theorem dX3_change_10 : decode cX3_change 10 = .ok (.if_icmp .ne 7, 3) := by decide +kernel
theorem dX3_change_13 : decode cX3_change 13 = .ok (.iconst 0, 1) := by decide +kernel
theorem dX3_change_14 : decode cX3_change 14 = .ok (.goto 5, 3) := by decide +kernel
theorem dX3_change_17 : decode cX3_change 17 = .ok (.bipush 20, 2) := by decide +kernel
theorem dX3_change_19 : decode cX3_change 19 = .ok (.istore 4, 2) := by decide +kernel
theorem dX3_change_21 : decode cX3_change 21 = .ok (.aload_n 1, 1) := by decide +kernel
theorem dX3_change_22 : decode cX3_change 22 = .ok (.iload_n 2, 1) := by decide +kernel
theorem dX3_change_23 : decode cX3_change 23 = .ok (.invokestatic 38, 3) := by decide +kernel
theorem dX3_change_26 : decode cX3_change 26 = .ok (.aload_n 1, 1) := by decide +kernel
theorem dX3_change_27 : decode cX3_change 27 = .ok (.iload_n 3, 1) := by decide +kernel
theorem dX3_change_28 : decode cX3_change 28 = .ok (.invokestatic 38, 3) := by decide +kernel
theorem dX3_change_31 : decode cX3_change 31 = .ok (.if_icmp .ne 7, 3) := by decide +kernel
theorem dX3_change_34 : decode cX3_change 34 = .ok (.iconst 0, 1) := by decide +kernel
theorem dX3_change_35 : decode cX3_change 35 = .ok (.goto 5, 3) := by decide +kernel
theorem dX3_change_38 : decode cX3_change 38 = .ok (.bipush 20, 2) := by decide +kernel
theorem dX3_change_40 : decode cX3_change 40 = .ok (.istore 5, 2) := by decide +kernel
theorem dX3_change_42 : decode cX3_change 42 = .ok (.iload 4, 2) := by decide +kernel
theorem dX3_change_44 : decode cX3_change 44 = .ok (.iload 5, 2) := by decide +kernel
theorem dX3_change_46 : decode cX3_change 46 = .ok (.iadd, 1) := by decide +kernel
theorem dX3_change_47 : decode cX3_change 47 = .ok (.ireturn, 1) := by decide +kernel
theorem dX3_leastForAllSets_0 : decode cX3_leastForAllSets 0 = .ok (.iconst 1, 1) := by decide +kernel
theorem dX3_leastForAllSets_1 : decode cX3_leastForAllSets 1 = .ok (.aload_n 0, 1) := by decide +kernel
theorem dX3_leastForAllSets_2 : decode cX3_leastForAllSets 2 = .ok (.getfield 30, 3) := by decide +kernel
theorem dX3_leastForAllSets_5 : decode cX3_leastForAllSets 5 = .ok (.ishl, 1) := by decide +kernel
theorem dX3_leastForAllSets_6 : decode cX3_leastForAllSets 6 = .ok (.iconst 1, 1) := by decide +kernel
theorem dX3_leastForAllSets_7 : decode cX3_leastForAllSets 7 = .ok (.isub, 1) := by decide +kernel
theorem dX3_leastForAllSets_8 : decode cX3_leastForAllSets 8 = .ok (.istore_n 1, 1) := by decide +kernel
theorem dX3_leastForAllSets_9 : decode cX3_leastForAllSets 9 = .ok (.iconst 1, 1) := by decide +kernel
theorem dX3_leastForAllSets_10 : decode cX3_leastForAllSets 10 = .ok (.istore_n 2, 1) := by decide +kernel
theorem dX3_leastForAllSets_11 : decode cX3_leastForAllSets 11 = .ok (.iload_n 2, 1) := by decide +kernel
theorem dX3_leastForAllSets_12 : decode cX3_leastForAllSets 12 = .ok (.iload_n 1, 1) := by decide +kernel
theorem dX3_leastForAllSets_13 : decode cX3_leastForAllSets 13 = .ok (.if_icmp .gt 52, 3) := by decide +kernel
theorem dX3_leastForAllSets_16 : decode cX3_leastForAllSets 16 = .ok (.iconst 0, 1) := by decide +kernel
theorem dX3_leastForAllSets_17 : decode cX3_leastForAllSets 17 = .ok (.istore_n 3, 1) := by decide +kernel
theorem dX3_leastForAllSets_18 : decode cX3_leastForAllSets 18 = .ok (.iload_n 3, 1) := by decide +kernel
theorem dX3_leastForAllSets_19 : decode cX3_leastForAllSets 19 = .ok (.aload_n 0, 1) := by decide +kernel
theorem dX3_leastForAllSets_20 : decode cX3_leastForAllSets 20 = .ok (.getfield 30, 3) := by decide +kernel
theorem dX3_leastForAllSets_23 : decode cX3_leastForAllSets 23 = .ok (.if_icmp .ge 36, 3) := by decide +kernel
theorem dX3_leastForAllSets_26 : decode cX3_leastForAllSets 26 = .ok (.iload_n 2, 1) := by decide +kernel
theorem dX3_leastForAllSets_27 : decode cX3_leastForAllSets 27 = .ok (.iconst 1, 1) := by decide +kernel
theorem dX3_leastForAllSets_28 : decode cX3_leastForAllSets 28 = .ok (.iload_n 3, 1) := by decide +kernel
theorem dX3_leastForAllSets_29 : decode cX3_leastForAllSets 29 = .ok (.ishl, 1) := by decide +kernel
theorem dX3_leastForAllSets_30 : decode cX3_leastForAllSets 30 = .ok (.iand, 1) := by decide +kernel
theorem dX3_leastForAllSets_31 : decode cX3_leastForAllSets 31 = .ok (.ifCond .eq 22, 3) := by decide +kernel
theorem dX3_leastForAllSets_34 : decode cX3_leastForAllSets 34 = .ok (.aload_n 0, 1) := by decide +kernel
theorem dX3_leastForAllSets_35 : decode cX3_leastForAllSets 35 = .ok (.getfield 18, 3) := by decide +kernel
theorem dX3_leastForAllSets_38 : decode cX3_leastForAllSets 38 = .ok (.iload_n 2, 1) := by decide +kernel
theorem dX3_leastForAllSets_39 : decode cX3_leastForAllSets 39 = .ok (.bipush 8, 2) := by decide +kernel
theorem dX3_leastForAllSets_41 : decode cX3_leastForAllSets 41 = .ok (.imul, 1) := by decide +kernel
theorem dX3_leastForAllSets_42 : decode cX3_leastForAllSets 42 = .ok (.iload_n 3, 1) := by decide +kernel
theorem dX3_leastForAllSets_43 : decode cX3_leastForAllSets 43 = .ok (.iadd, 1) := by decide +kernel
theorem dX3_leastForAllSets_44 : decode cX3_leastForAllSets 44 = .ok (.aload_n 0, 1) := by decide +kernel
theorem dX3_leastForAllSets_45 : decode cX3_leastForAllSets 45 = .ok (.iload_n 2, 1) := by decide +kernel
theorem dX3_leastForAllSets_46 : decode cX3_leastForAllSets 46 = .ok (.iload_n 3, 1) := by decide +kernel
theorem dX3_leastForAllSets_47 : decode cX3_leastForAllSets 47 = .ok (.invokevirtual 42, 3) := by decide +kernel
theorem dX3_leastForAllSets_50 : decode cX3_leastForAllSets 50 = .ok (.invokestatic 34, 3) := by decide +kernel
theorem dX3_leastForAllSets_53 : decode cX3_leastForAllSets 53 = .ok (.iinc 3 1, 3) := by decide +kernel
theorem dX3_leastForAllSets_56 : decode cX3_leastForAllSets 56 = .ok (.goto (-38), 3) := by decide +kernel
theorem dX3_leastForAllSets_59 : decode cX3_leastForAllSets 59 = .ok (.iinc 2 1, 3) := by decide +kernel
theorem dX3_leastForAllSets_62 : decode cX3_leastForAllSets 62 = .ok (.goto (-51), 3) := by decide +kernel
theorem dX3_leastForAllSets_65 : decode cX3_leastForAllSets 65 = .ok (.ldc 45, 2) := by decide +kernel
theorem dX3_leastForAllSets_67 : decode cX3_leastForAllSets 67 = .ok (.istore_n 2, 1) := by decide +kernel
theorem dX3_leastForAllSets_68 : decode cX3_leastForAllSets 68 = .ok (.iconst 0, 1) := by decide +kernel
theorem dX3_leastForAllSets_69 : decode cX3_leastForAllSets 69 = .ok (.istore_n 3, 1) := by decide +kernel
theorem dX3_leastForAllSets_70 : decode cX3_leastForAllSets 70 = .ok (.iload_n 3, 1) := by decide +kernel
theorem dX3_leastForAllSets_71 : decode cX3_leastForAllSets 71 = .ok (.aload_n 0, 1) := by decide +kernel
theorem dX3_leastForAllSets_72 : decode cX3_leastForAllSets 72 = .ok (.getfield 30, 3) := by decide +kernel
theorem dX3_leastForAllSets_75 : decode cX3_leastForAllSets 75 = .ok (.if_icmp .ge 27, 3) := by decide +kernel
theorem dX3_leastForAllSets_78 : decode cX3_leastForAllSets 78 = .ok (.iload_n 2, 1) := by decide +kernel
theorem dX3_leastForAllSets_79 : decode cX3_leastForAllSets 79 = .ok (.aload_n 0, 1) := by decide +kernel
theorem dX3_leastForAllSets_80 : decode cX3_leastForAllSets 80 = .ok (.getfield 18, 3) := by decide +kernel
theorem dX3_leastForAllSets_83 : decode cX3_leastForAllSets 83 = .ok (.iload_n 1, 1) := by decide +kernel
theorem dX3_leastForAllSets_84 : decode cX3_leastForAllSets 84 = .ok (.bipush 8, 2) := by decide +kernel
theorem dX3_leastForAllSets_86 : decode cX3_leastForAllSets 86 = .ok (.imul, 1) := by decide +kernel
theorem dX3_leastForAllSets_87 : decode cX3_leastForAllSets 87 = .ok (.iload_n 3, 1) := by decide +kernel
theorem dX3_leastForAllSets_88 : decode cX3_leastForAllSets 88 = .ok (.iadd, 1) := by decide +kernel
theorem dX3_leastForAllSets_89 : decode cX3_leastForAllSets 89 = .ok (.invokestatic 38, 3) := by decide +kernel
theorem dX3_leastForAllSets_92 : decode cX3_leastForAllSets 92 = .ok (.invokestatic 21, 3) := by decide +kernel
theorem dX3_leastForAllSets_95 : decode cX3_leastForAllSets 95 = .ok (.istore_n 2, 1) := by decide +kernel
theorem dX3_leastForAllSets_96 : decode cX3_leastForAllSets 96 = .ok (.iinc 3 1, 3) := by decide +kernel
theorem dX3_leastForAllSets_99 : decode cX3_leastForAllSets 99 = .ok (.goto (-29), 3) := by decide +kernel
theorem dX3_leastForAllSets_102 : decode cX3_leastForAllSets 102 = .ok (.iload_n 2, 1) := by decide +kernel
theorem dX3_leastForAllSets_103 : decode cX3_leastForAllSets 103 = .ok (.ireturn, 1) := by decide +kernel
theorem dX3_leastOfSet_0 : decode cX3_leastOfSet 0 = .ok (.iload_n 1, 1) := by decide +kernel
theorem dX3_leastOfSet_1 : decode cX3_leastOfSet 1 = .ok (.iconst 1, 1) := by decide +kernel
theorem dX3_leastOfSet_2 : decode cX3_leastOfSet 2 = .ok (.iload_n 2, 1) := by decide +kernel
theorem dX3_leastOfSet_3 : decode cX3_leastOfSet 3 = .ok (.ishl, 1) := by decide +kernel
theorem dX3_leastOfSet_4 : decode cX3_leastOfSet 4 = .ok (.iconst (-1), 1) := by decide +kernel
theorem dX3_leastOfSet_5 : decode cX3_leastOfSet 5 = .ok (.ixor, 1) := by decide +kernel
theorem dX3_leastOfSet_6 : decode cX3_leastOfSet 6 = .ok (.iand, 1) := by decide +kernel
theorem dX3_leastOfSet_7 : decode cX3_leastOfSet 7 = .ok (.istore_n 3, 1) := by decide +kernel
theorem dX3_leastOfSet_8 : decode cX3_leastOfSet 8 = .ok (.iload_n 3, 1) := by decide +kernel
theorem dX3_leastOfSet_9 : decode cX3_leastOfSet 9 = .ok (.ifCond .ne 18, 3) := by decide +kernel
theorem dX3_leastOfSet_12 : decode cX3_leastOfSet 12 = .ok (.aload_n 0, 1) := by decide +kernel
theorem dX3_leastOfSet_13 : decode cX3_leastOfSet 13 = .ok (.getfield 9, 3) := by decide +kernel
theorem dX3_leastOfSet_16 : decode cX3_leastOfSet 16 = .ok (.aload_n 0, 1) := by decide +kernel
theorem dX3_leastOfSet_17 : decode cX3_leastOfSet 17 = .ok (.getfield 15, 3) := by decide +kernel
theorem dX3_leastOfSet_20 : decode cX3_leastOfSet 20 = .ok (.bipush 8, 2) := by decide +kernel
theorem dX3_leastOfSet_22 : decode cX3_leastOfSet 22 = .ok (.iload_n 2, 1) := by decide +kernel
theorem dX3_leastOfSet_23 : decode cX3_leastOfSet 23 = .ok (.invokestatic 46, 3) := by decide +kernel
theorem dX3_leastOfSet_26 : decode cX3_leastOfSet 26 = .ok (.ireturn, 1) := by decide +kernel
theorem dX3_leastOfSet_27 : decode cX3_leastOfSet 27 = .ok (.ldc 45, 2) := by decide +kernel
theorem dX3_leastOfSet_29 : decode cX3_leastOfSet 29 = .ok (.istore 4, 2) := by decide +kernel
theorem dX3_leastOfSet_31 : decode cX3_leastOfSet 31 = .ok (.iconst 0, 1) := by decide +kernel
theorem dX3_leastOfSet_32 : decode cX3_leastOfSet 32 = .ok (.istore 5, 2) := by decide +kernel
theorem dX3_leastOfSet_34 : decode cX3_leastOfSet 34 = .ok (.iload 5, 2) := by decide +kernel
theorem dX3_leastOfSet_36 : decode cX3_leastOfSet 36 = .ok (.aload_n 0, 1) := by decide +kernel
theorem dX3_leastOfSet_37 : decode cX3_leastOfSet 37 = .ok (.getfield 30, 3) := by decide +kernel
theorem dX3_leastOfSet_40 : decode cX3_leastOfSet 40 = .ok (.if_icmp .ge 58, 3) := by decide +kernel
theorem dX3_leastOfSet_43 : decode cX3_leastOfSet 43 = .ok (.iload_n 3, 1) := by decide +kernel
theorem dX3_leastOfSet_44 : decode cX3_leastOfSet 44 = .ok (.iconst 1, 1) := by decide +kernel
theorem dX3_leastOfSet_45 : decode cX3_leastOfSet 45 = .ok (.iload 5, 2) := by decide +kernel
theorem dX3_leastOfSet_47 : decode cX3_leastOfSet 47 = .ok (.ishl, 1) := by decide +kernel
theorem dX3_leastOfSet_48 : decode cX3_leastOfSet 48 = .ok (.iand, 1) := by decide +kernel
theorem dX3_leastOfSet_49 : decode cX3_leastOfSet 49 = .ok (.ifCond .eq 43, 3) := by decide +kernel
theorem dX3_leastOfSet_52 : decode cX3_leastOfSet 52 = .ok (.aload_n 0, 1) := by decide +kernel
theorem dX3_leastOfSet_53 : decode cX3_leastOfSet 53 = .ok (.getfield 18, 3) := by decide +kernel
theorem dX3_leastOfSet_56 : decode cX3_leastOfSet 56 = .ok (.iload_n 3, 1) := by decide +kernel
theorem dX3_leastOfSet_57 : decode cX3_leastOfSet 57 = .ok (.bipush 8, 2) := by decide +kernel
theorem dX3_leastOfSet_59 : decode cX3_leastOfSet 59 = .ok (.imul, 1) := by decide +kernel
theorem dX3_leastOfSet_60 : decode cX3_leastOfSet 60 = .ok (.iload 5, 2) := by decide +kernel
theorem dX3_leastOfSet_62 : decode cX3_leastOfSet 62 = .ok (.iadd, 1) := by decide +kernel
theorem dX3_leastOfSet_63 : decode cX3_leastOfSet 63 = .ok (.invokestatic 38, 3) := by decide +kernel
theorem dX3_leastOfSet_66 : decode cX3_leastOfSet 66 = .ok (.aload_n 0, 1) := by decide +kernel
theorem dX3_leastOfSet_67 : decode cX3_leastOfSet 67 = .ok (.getfield 9, 3) := by decide +kernel
theorem dX3_leastOfSet_70 : decode cX3_leastOfSet 70 = .ok (.aload_n 0, 1) := by decide +kernel
theorem dX3_leastOfSet_71 : decode cX3_leastOfSet 71 = .ok (.getfield 15, 3) := by decide +kernel
theorem dX3_leastOfSet_74 : decode cX3_leastOfSet 74 = .ok (.iload 5, 2) := by decide +kernel
theorem dX3_leastOfSet_76 : decode cX3_leastOfSet 76 = .ok (.iload_n 2, 1) := by decide +kernel
theorem dX3_leastOfSet_77 : decode cX3_leastOfSet 77 = .ok (.invokestatic 46, 3) := by decide +kernel
theorem dX3_leastOfSet_80 : decode cX3_leastOfSet 80 = .ok (.iadd, 1) := by decide +kernel
theorem dX3_leastOfSet_81 : decode cX3_leastOfSet 81 = .ok (.istore 6, 2) := by decide +kernel
theorem dX3_leastOfSet_83 : decode cX3_leastOfSet 83 = .ok (.iload 4, 2) := by decide +kernel
theorem dX3_leastOfSet_85 : decode cX3_leastOfSet 85 = .ok (.iload 6, 2) := by decide +kernel
theorem dX3_leastOfSet_87 : decode cX3_leastOfSet 87 = .ok (.invokestatic 21, 3) := by decide +kernel
theorem dX3_leastOfSet_90 : decode cX3_leastOfSet 90 = .ok (.istore 4, 2) := by decide +kernel
theorem dX3_leastOfSet_92 : decode cX3_leastOfSet 92 = .ok (.iinc 5 1, 3) := by decide +kernel
theorem dX3_leastOfSet_95 : decode cX3_leastOfSet 95 = .ok (.goto (-61), 3) := by decide +kernel
theorem dX3_leastOfSet_98 : decode cX3_leastOfSet 98 = .ok (.iload 4, 2) := by decide +kernel
theorem dX3_leastOfSet_100 : decode cX3_leastOfSet 100 = .ok (.ireturn, 1) := by decide +kernel
theorem dX3_leastOfAllOrders_0 : decode cX3_leastOfAllOrders 0 = .ok (.aload_n 0, 1) := by decide +kernel
theorem dX3_leastOfAllOrders_1 : decode cX3_leastOfAllOrders 1 = .ok (.getfield 9, 3) := by decide +kernel
theorem dX3_leastOfAllOrders_4 : decode cX3_leastOfAllOrders 4 = .ok (.aload_n 0, 1) := by decide +kernel
theorem dX3_leastOfAllOrders_5 : decode cX3_leastOfAllOrders 5 = .ok (.getfield 15, 3) := by decide +kernel
theorem dX3_leastOfAllOrders_8 : decode cX3_leastOfAllOrders 8 = .ok (.aload_n 0, 1) := by decide +kernel
theorem dX3_leastOfAllOrders_9 : decode cX3_leastOfAllOrders 9 = .ok (.getfield 30, 3) := by decide +kernel
theorem dX3_leastOfAllOrders_12 : decode cX3_leastOfAllOrders 12 = .ok (.iconst 0, 1) := by decide +kernel
theorem dX3_leastOfAllOrders_13 : decode cX3_leastOfAllOrders 13 = .ok (.bipush 8, 2) := by decide +kernel
theorem dX3_leastOfAllOrders_15 : decode cX3_leastOfAllOrders 15 = .ok (.iconst 0, 1) := by decide +kernel
theorem dX3_leastOfAllOrders_16 : decode cX3_leastOfAllOrders 16 = .ok (.invokestatic 50, 3) := by decide +kernel
theorem dX3_leastOfAllOrders_19 : decode cX3_leastOfAllOrders 19 = .ok (.ireturn, 1) := by decide +kernel
theorem dX3_leastOfRest_0 : decode cX3_leastOfRest 0 = .ok (.iload 5, 2) := by decide +kernel
theorem dX3_leastOfRest_2 : decode cX3_leastOfRest 2 = .ok (.iload_n 2, 1) := by decide +kernel
theorem dX3_leastOfRest_3 : decode cX3_leastOfRest 3 = .ok (.if_icmp .ge 10, 3) := by decide +kernel
theorem dX3_leastOfRest_6 : decode cX3_leastOfRest 6 = .ok (.iload 5, 2) := by decide +kernel
theorem dX3_leastOfRest_8 : decode cX3_leastOfRest 8 = .ok (.bipush 6, 2) := by decide +kernel
theorem dX3_leastOfRest_10 : decode cX3_leastOfRest 10 = .ok (.if_icmp .lt 5, 3) := by decide +kernel
theorem dX3_leastOfRest_13 : decode cX3_leastOfRest 13 = .ok (.iconst 0, 1) := by decide +kernel
theorem dX3_leastOfRest_14 : decode cX3_leastOfRest 14 = .ok (.ireturn, 1) := by decide +kernel
theorem dX3_leastOfRest_15 : decode cX3_leastOfRest 15 = .ok (.ldc 45, 2) := by decide +kernel
theorem dX3_leastOfRest_17 : decode cX3_leastOfRest 17 = .ok (.istore 6, 2) := by decide +kernel
theorem dX3_leastOfRest_19 : decode cX3_leastOfRest 19 = .ok (.iconst 0, 1) := by decide +kernel
theorem dX3_leastOfRest_20 : decode cX3_leastOfRest 20 = .ok (.istore 7, 2) := by decide +kernel
theorem dX3_leastOfRest_22 : decode cX3_leastOfRest 22 = .ok (.iload 7, 2) := by decide +kernel
theorem dX3_leastOfRest_24 : decode cX3_leastOfRest 24 = .ok (.iload_n 2, 1) := by decide +kernel
theorem dX3_leastOfRest_25 : decode cX3_leastOfRest 25 = .ok (.if_icmp .ge 59, 3) := by decide +kernel
theorem dX3_leastOfRest_28 : decode cX3_leastOfRest 28 = .ok (.iconst 1, 1) := by decide +kernel
theorem dX3_leastOfRest_29 : decode cX3_leastOfRest 29 = .ok (.iload 7, 2) := by decide +kernel
theorem dX3_leastOfRest_31 : decode cX3_leastOfRest 31 = .ok (.ishl, 1) := by decide +kernel
theorem dX3_leastOfRest_32 : decode cX3_leastOfRest 32 = .ok (.istore 8, 2) := by decide +kernel
theorem dX3_leastOfRest_34 : decode cX3_leastOfRest 34 = .ok (.iload_n 3, 1) := by decide +kernel
theorem dX3_leastOfRest_35 : decode cX3_leastOfRest 35 = .ok (.iload 8, 2) := by decide +kernel
theorem dX3_leastOfRest_37 : decode cX3_leastOfRest 37 = .ok (.iand, 1) := by decide +kernel
theorem dX3_leastOfRest_38 : decode cX3_leastOfRest 38 = .ok (.ifCond .ne 40, 3) := by decide +kernel
theorem dX3_leastOfRest_41 : decode cX3_leastOfRest 41 = .ok (.aload_n 0, 1) := by decide +kernel
theorem dX3_leastOfRest_42 : decode cX3_leastOfRest 42 = .ok (.aload_n 1, 1) := by decide +kernel
theorem dX3_leastOfRest_43 : decode cX3_leastOfRest 43 = .ok (.iload 4, 2) := by decide +kernel
theorem dX3_leastOfRest_45 : decode cX3_leastOfRest 45 = .ok (.iload 7, 2) := by decide +kernel
theorem dX3_leastOfRest_47 : decode cX3_leastOfRest 47 = .ok (.invokestatic 46, 3) := by decide +kernel
theorem dX3_leastOfRest_50 : decode cX3_leastOfRest 50 = .ok (.aload_n 0, 1) := by decide +kernel
theorem dX3_leastOfRest_51 : decode cX3_leastOfRest 51 = .ok (.aload_n 1, 1) := by decide +kernel
theorem dX3_leastOfRest_52 : decode cX3_leastOfRest 52 = .ok (.iload_n 2, 1) := by decide +kernel
theorem dX3_leastOfRest_53 : decode cX3_leastOfRest 53 = .ok (.iload_n 3, 1) := by decide +kernel
theorem dX3_leastOfRest_54 : decode cX3_leastOfRest 54 = .ok (.iload 8, 2) := by decide +kernel
theorem dX3_leastOfRest_56 : decode cX3_leastOfRest 56 = .ok (.ior, 1) := by decide +kernel
theorem dX3_leastOfRest_57 : decode cX3_leastOfRest 57 = .ok (.iload 7, 2) := by decide +kernel
theorem dX3_leastOfRest_59 : decode cX3_leastOfRest 59 = .ok (.iload 5, 2) := by decide +kernel
theorem dX3_leastOfRest_61 : decode cX3_leastOfRest 61 = .ok (.iconst 1, 1) := by decide +kernel
theorem dX3_leastOfRest_62 : decode cX3_leastOfRest 62 = .ok (.iadd, 1) := by decide +kernel
theorem dX3_leastOfRest_63 : decode cX3_leastOfRest 63 = .ok (.invokestatic 50, 3) := by decide +kernel
theorem dX3_leastOfRest_66 : decode cX3_leastOfRest 66 = .ok (.iadd, 1) := by decide +kernel
theorem dX3_leastOfRest_67 : decode cX3_leastOfRest 67 = .ok (.istore 9, 2) := by decide +kernel
theorem dX3_leastOfRest_69 : decode cX3_leastOfRest 69 = .ok (.iload 6, 2) := by decide +kernel
theorem dX3_leastOfRest_71 : decode cX3_leastOfRest 71 = .ok (.iload 9, 2) := by decide +kernel
theorem dX3_leastOfRest_73 : decode cX3_leastOfRest 73 = .ok (.invokestatic 21, 3) := by decide +kernel
theorem dX3_leastOfRest_76 : decode cX3_leastOfRest 76 = .ok (.istore 6, 2) := by decide +kernel
theorem dX3_leastOfRest_78 : decode cX3_leastOfRest 78 = .ok (.iinc 7 1, 3) := by decide +kernel
theorem dX3_leastOfRest_81 : decode cX3_leastOfRest 81 = .ok (.goto (-59), 3) := by decide +kernel
theorem dX3_leastOfRest_84 : decode cX3_leastOfRest 84 = .ok (.iload 6, 2) := by decide +kernel
theorem dX3_leastOfRest_86 : decode cX3_leastOfRest 86 = .ok (.ireturn, 1) := by decide +kernel
theorem dX4_init_0 : decode cX4_init 0 = .ok (.aload_n 0, 1) := by decide +kernel
theorem dX4_init_1 : decode cX4_init 1 = .ok (.invokespecial 3, 3) := by decide +kernel
theorem dX4_init_4 : decode cX4_init 4 = .ok (.aload_n 0, 1) := by decide +kernel
theorem dX4_init_5 : decode cX4_init 5 = .ok (.sipush 156, 3) := by decide +kernel
theorem dX4_init_8 : decode cX4_init 8 = .ok (.newarray .int, 2) := by decide +kernel
theorem dX4_init_10 : decode cX4_init 10 = .ok (.putfield 9, 3) := by decide +kernel
theorem dX4_init_13 : decode cX4_init 13 = .ok (.iconst 0, 1) := by decide +kernel
theorem dX4_init_14 : decode cX4_init 14 = .ok (.istore_n 1, 1) := by decide +kernel
theorem dX4_init_15 : decode cX4_init 15 = .ok (.iload_n 1, 1) := by decide +kernel
theorem dX4_init_16 : decode cX4_init 16 = .ok (.aload_n 0, 1) := by decide +kernel
theorem dX4_init_17 : decode cX4_init 17 = .ok (.getfield 9, 3) := by decide +kernel
theorem dX4_init_20 : decode cX4_init 20 = .ok (.arraylength, 1) := by decide +kernel
theorem dX4_init_21 : decode cX4_init 21 = .ok (.if_icmp .ge 16, 3) := by decide +kernel
theorem dX4_init_24 : decode cX4_init 24 = .ok (.aload_n 0, 1) := by decide +kernel
theorem dX4_init_25 : decode cX4_init 25 = .ok (.getfield 9, 3) := by decide +kernel
theorem dX4_init_28 : decode cX4_init 28 = .ok (.iload_n 1, 1) := by decide +kernel
theorem dX4_init_29 : decode cX4_init 29 = .ok (.iconst (-1), 1) := by decide +kernel
theorem dX4_init_30 : decode cX4_init 30 = .ok (.iastore, 1) := by decide +kernel
theorem dX4_init_31 : decode cX4_init 31 = .ok (.iinc 1 1, 3) := by decide +kernel
theorem dX4_init_34 : decode cX4_init 34 = .ok (.goto (-19), 3) := by decide +kernel
theorem dX4_init_37 : decode cX4_init 37 = .ok (.return_, 1) := by decide +kernel
theorem dX4_has_0 : decode cX4_has 0 = .ok (.aload_n 0, 1) := by decide +kernel
theorem dX4_has_1 : decode cX4_has 1 = .ok (.getfield 9, 3) := by decide +kernel
theorem dX4_has_4 : decode cX4_has 4 = .ok (.iload_n 1, 1) := by decide +kernel
theorem dX4_has_5 : decode cX4_has 5 = .ok (.sipush 10000, 3) := by decide +kernel
theorem dX4_has_8 : decode cX4_has 8 = .ok (.idiv, 1) := by decide +kernel
theorem dX4_has_9 : decode cX4_has 9 = .ok (.invokestatic 15, 3) := by decide +kernel
theorem dX4_has_12 : decode cX4_has 12 = .ok (.iload_n 1, 1) := by decide +kernel
theorem dX4_has_13 : decode cX4_has 13 = .ok (.if_icmp .ne 7, 3) := by decide +kernel
theorem dX4_has_16 : decode cX4_has 16 = .ok (.iconst 1, 1) := by decide +kernel
theorem dX4_has_17 : decode cX4_has 17 = .ok (.goto 4, 3) := by decide +kernel
theorem dX4_has_20 : decode cX4_has 20 = .ok (.iconst 0, 1) := by decide +kernel
theorem dX4_has_21 : decode cX4_has 21 = .ok (.ireturn, 1) := by decide +kernel
theorem dX4_make_0 : decode cX4_make 0 = .ok (.aload_n 0, 1) := by decide +kernel
theorem dX4_make_1 : decode cX4_make 1 = .ok (.iload_n 1, 1) := by decide +kernel
theorem dX4_make_2 : decode cX4_make 2 = .ok (.invokevirtual 19, 3) := by decide +kernel
theorem dX4_make_5 : decode cX4_make 5 = .ok (.ifCond .ne 26, 3) := by decide +kernel
theorem dX4_make_8 : decode cX4_make 8 = .ok (.aload_n 0, 1) := by decide +kernel
theorem dX4_make_9 : decode cX4_make 9 = .ok (.getfield 9, 3) := by decide +kernel
theorem dX4_make_12 : decode cX4_make 12 = .ok (.iload_n 1, 1) := by decide +kernel
theorem dX4_make_13 : decode cX4_make 13 = .ok (.sipush 10000, 3) := by decide +kernel
theorem dX4_make_16 : decode cX4_make 16 = .ok (.idiv, 1) := by decide +kernel
theorem dX4_make_17 : decode cX4_make 17 = .ok (.iload_n 1, 1) := by decide +kernel
theorem dX4_make_18 : decode cX4_make 18 = .ok (.invokestatic 23, 3) := by decide +kernel
theorem dX4_make_21 : decode cX4_make 21 = .ok (.aload_n 0, 1) := by decide +kernel
theorem dX4_make_22 : decode cX4_make 22 = .ok (.dup, 1) := by decide +kernel
theorem dX4_make_23 : decode cX4_make 23 = .ok (.getfield 27, 3) := by decide +kernel
theorem dX4_make_26 : decode cX4_make 26 = .ok (.iconst 1, 1) := by decide +kernel
theorem dX4_make_27 : decode cX4_make 27 = .ok (.iadd, 1) := by decide +kernel
theorem dX4_make_28 : decode cX4_make 28 = .ok (.putfield 27, 3) := by decide +kernel
theorem dX4_make_31 : decode cX4_make 31 = .ok (.return_, 1) := by decide +kernel
theorem dX5_init_0 : decode cX5_init 0 = .ok (.aload_n 0, 1) := by decide +kernel
theorem dX5_init_1 : decode cX5_init 1 = .ok (.invokespecial 3, 3) := by decide +kernel
theorem dX5_init_4 : decode cX5_init 4 = .ok (.aload_n 0, 1) := by decide +kernel
theorem dX5_init_5 : decode cX5_init 5 = .ok (.iconst (-1), 1) := by decide +kernel
theorem dX5_init_6 : decode cX5_init 6 = .ok (.putfield 9, 3) := by decide +kernel
theorem dX5_init_9 : decode cX5_init 9 = .ok (.aload_n 0, 1) := by decide +kernel
theorem dX5_init_10 : decode cX5_init 10 = .ok (.iconst (-1), 1) := by decide +kernel
theorem dX5_init_11 : decode cX5_init 11 = .ok (.putfield 15, 3) := by decide +kernel
theorem dX5_init_14 : decode cX5_init 14 = .ok (.aload_n 0, 1) := by decide +kernel
theorem dX5_init_15 : decode cX5_init 15 = .ok (.bipush 32, 2) := by decide +kernel
theorem dX5_init_17 : decode cX5_init 17 = .ok (.putfield 18, 3) := by decide +kernel
theorem dX5_init_20 : decode cX5_init 20 = .ok (.return_, 1) := by decide +kernel
theorem dX5_bindingMinutes_0 : decode cX5_bindingMinutes 0 = .ok (.aload_n 0, 1) := by decide +kernel
theorem dX5_bindingMinutes_1 : decode cX5_bindingMinutes 1 = .ok (.getfield 18, 3) := by decide +kernel
theorem dX5_bindingMinutes_4 : decode cX5_bindingMinutes 4 = .ok (.iload_n 1, 1) := by decide +kernel
theorem dX5_bindingMinutes_5 : decode cX5_bindingMinutes 5 = .ok (.if_icmp .ne 7, 3) := by decide +kernel
theorem dX5_bindingMinutes_8 : decode cX5_bindingMinutes 8 = .ok (.iconst 0, 1) := by decide +kernel
theorem dX5_bindingMinutes_9 : decode cX5_bindingMinutes 9 = .ok (.goto 5, 3) := by decide +kernel
theorem dX5_bindingMinutes_12 : decode cX5_bindingMinutes 12 = .ok (.bipush 15, 2) := by decide +kernel
theorem dX5_bindingMinutes_14 : decode cX5_bindingMinutes 14 = .ok (.ireturn, 1) := by decide +kernel
theorem dX5_minutesFor_0 : decode cX5_minutesFor 0 = .ok (.aload_n 0, 1) := by decide +kernel
theorem dX5_minutesFor_1 : decode cX5_minutesFor 1 = .ok (.iload_n 3, 1) := by decide +kernel
theorem dX5_minutesFor_2 : decode cX5_minutesFor 2 = .ok (.invokevirtual 22, 3) := by decide +kernel
theorem dX5_minutesFor_5 : decode cX5_minutesFor 5 = .ok (.istore 4, 2) := by decide +kernel
theorem dX5_minutesFor_7 : decode cX5_minutesFor 7 = .ok (.aload_n 0, 1) := by decide +kernel
theorem dX5_minutesFor_8 : decode cX5_minutesFor 8 = .ok (.getfield 9, 3) := by decide +kernel
theorem dX5_minutesFor_11 : decode cX5_minutesFor 11 = .ok (.iload_n 1, 1) := by decide +kernel
theorem dX5_minutesFor_12 : decode cX5_minutesFor 12 = .ok (.if_icmp .eq 6, 3) := by decide +kernel
theorem dX5_minutesFor_15 : decode cX5_minutesFor 15 = .ok (.iinc 4 20, 3) := by decide +kernel
theorem dX5_minutesFor_18 : decode cX5_minutesFor 18 = .ok (.aload_n 0, 1) := by decide +kernel
theorem dX5_minutesFor_19 : decode cX5_minutesFor 19 = .ok (.getfield 15, 3) := by decide +kernel
theorem dX5_minutesFor_22 : decode cX5_minutesFor 22 = .ok (.iload_n 2, 1) := by decide +kernel
theorem dX5_minutesFor_23 : decode cX5_minutesFor 23 = .ok (.if_icmp .eq 6, 3) := by decide +kernel
theorem dX5_minutesFor_26 : decode cX5_minutesFor 26 = .ok (.iinc 4 20, 3) := by decide +kernel
theorem dX5_minutesFor_29 : decode cX5_minutesFor 29 = .ok (.iload 4, 2) := by decide +kernel
theorem dX5_minutesFor_31 : decode cX5_minutesFor 31 = .ok (.ireturn, 1) := by decide +kernel
theorem dX5_mount_0 : decode cX5_mount 0 = .ok (.aload_n 0, 1) := by decide +kernel
theorem dX5_mount_1 : decode cX5_mount 1 = .ok (.iload_n 1, 1) := by decide +kernel
theorem dX5_mount_2 : decode cX5_mount 2 = .ok (.putfield 9, 3) := by decide +kernel
theorem dX5_mount_5 : decode cX5_mount 5 = .ok (.aload_n 0, 1) := by decide +kernel
theorem dX5_mount_6 : decode cX5_mount 6 = .ok (.iload_n 2, 1) := by decide +kernel
theorem dX5_mount_7 : decode cX5_mount 7 = .ok (.putfield 15, 3) := by decide +kernel
theorem dX5_mount_10 : decode cX5_mount 10 = .ok (.aload_n 0, 1) := by decide +kernel
theorem dX5_mount_11 : decode cX5_mount 11 = .ok (.iload_n 3, 1) := by decide +kernel
theorem dX5_mount_12 : decode cX5_mount 12 = .ok (.putfield 18, 3) := by decide +kernel
theorem dX5_mount_15 : decode cX5_mount 15 = .ok (.return_, 1) := by decide +kernel
theorem dX6_init_0 : decode cX6_init 0 = .ok (.aload_n 0, 1) := by decide +kernel
theorem dX6_init_1 : decode cX6_init 1 = .ok (.invokespecial 3, 3) := by decide +kernel
theorem dX6_init_4 : decode cX6_init 4 = .ok (.aload_n 0, 1) := by decide +kernel
theorem dX6_init_5 : decode cX6_init 5 = .ok (.new 9, 3) := by decide +kernel
theorem dX6_init_8 : decode cX6_init 8 = .ok (.dup, 1) := by decide +kernel
theorem dX6_init_9 : decode cX6_init 9 = .ok (.invokespecial 11, 3) := by decide +kernel
theorem dX6_init_12 : decode cX6_init 12 = .ok (.putfield 12, 3) := by decide +kernel
theorem dX6_init_15 : decode cX6_init 15 = .ok (.aload_n 0, 1) := by decide +kernel
theorem dX6_init_16 : decode cX6_init 16 = .ok (.iconst 4, 1) := by decide +kernel
theorem dX6_init_17 : decode cX6_init 17 = .ok (.anewarray 16, 3) := by decide +kernel
theorem dX6_init_20 : decode cX6_init 20 = .ok (.putfield 18, 3) := by decide +kernel
theorem dX6_init_23 : decode cX6_init 23 = .ok (.aload_n 0, 1) := by decide +kernel
theorem dX6_init_24 : decode cX6_init 24 = .ok (.new 22, 3) := by decide +kernel
theorem dX6_init_27 : decode cX6_init 27 = .ok (.dup, 1) := by decide +kernel
theorem dX6_init_28 : decode cX6_init 28 = .ok (.invokespecial 24, 3) := by decide +kernel
theorem dX6_init_31 : decode cX6_init 31 = .ok (.putfield 25, 3) := by decide +kernel
theorem dX6_init_34 : decode cX6_init 34 = .ok (.aload_n 0, 1) := by decide +kernel
theorem dX6_init_35 : decode cX6_init 35 = .ok (.new 29, 3) := by decide +kernel
theorem dX6_init_38 : decode cX6_init 38 = .ok (.dup, 1) := by decide +kernel
theorem dX6_init_39 : decode cX6_init 39 = .ok (.invokespecial 31, 3) := by decide +kernel
theorem dX6_init_42 : decode cX6_init 42 = .ok (.putfield 32, 3) := by decide +kernel
theorem dX6_init_45 : decode cX6_init 45 = .ok (.aload_n 0, 1) := by decide +kernel
theorem dX6_init_46 : decode cX6_init 46 = .ok (.new 36, 3) := by decide +kernel
theorem dX6_init_49 : decode cX6_init 49 = .ok (.dup, 1) := by decide +kernel
theorem dX6_init_50 : decode cX6_init 50 = .ok (.invokespecial 38, 3) := by decide +kernel
theorem dX6_init_53 : decode cX6_init 53 = .ok (.putfield 39, 3) := by decide +kernel
theorem dX6_init_56 : decode cX6_init 56 = .ok (.aload_n 0, 1) := by decide +kernel
theorem dX6_init_57 : decode cX6_init 57 = .ok (.bipush 100, 2) := by decide +kernel
theorem dX6_init_59 : decode cX6_init 59 = .ok (.anewarray 43, 3) := by decide +kernel
theorem dX6_init_62 : decode cX6_init 62 = .ok (.putfield 45, 3) := by decide +kernel
theorem dX6_init_65 : decode cX6_init 65 = .ok (.return_, 1) := by decide +kernel
theorem dX6_addContent_0 : decode cX6_addContent 0 = .ok (.aload_n 0, 1) := by decide +kernel
theorem dX6_addContent_1 : decode cX6_addContent 1 = .ok (.getfield 12, 3) := by decide +kernel
theorem dX6_addContent_4 : decode cX6_addContent 4 = .ok (.getfield 49, 3) := by decide +kernel
theorem dX6_addContent_7 : decode cX6_addContent 7 = .ok (.bipush 12, 2) := by decide +kernel
theorem dX6_addContent_9 : decode cX6_addContent 9 = .ok (.if_icmp .lt 13, 3) := by decide +kernel
theorem dX6_addContent_12 : decode cX6_addContent 12 = .ok (.new 53, 3) := by decide +kernel
theorem dX6_addContent_15 : decode cX6_addContent 15 = .ok (.dup, 1) := by decide +kernel
theorem dX6_addContent_16 : decode cX6_addContent 16 = .ok (.ldc 55, 2) := by decide +kernel
theorem dX6_addContent_18 : decode cX6_addContent 18 = .ok (.invokespecial 57, 3) := by decide +kernel
theorem dX6_addContent_21 : decode cX6_addContent 21 = .ok (.athrow, 1) := by decide +kernel
theorem dX6_addContent_22 : decode cX6_addContent 22 = .ok (.aload_n 0, 1) := by decide +kernel
theorem dX6_addContent_23 : decode cX6_addContent 23 = .ok (.getfield 12, 3) := by decide +kernel
theorem dX6_addContent_26 : decode cX6_addContent 26 = .ok (.invokevirtual 60, 3) := by decide +kernel
theorem dX6_addContent_29 : decode cX6_addContent 29 = .ok (.ireturn, 1) := by decide +kernel
theorem dX6_approve_0 : decode cX6_approve 0 = .ok (.aload_n 0, 1) := by decide +kernel
theorem dX6_approve_1 : decode cX6_approve 1 = .ok (.iload_n 1, 1) := by decide +kernel
theorem dX6_approve_2 : decode cX6_approve 2 = .ok (.invokevirtual 64, 3) := by decide +kernel
theorem dX6_approve_5 : decode cX6_approve 5 = .ok (.aload_n 0, 1) := by decide +kernel
theorem dX6_approve_6 : decode cX6_approve 6 = .ok (.getfield 12, 3) := by decide +kernel
theorem dX6_approve_9 : decode cX6_approve 9 = .ok (.iload_n 1, 1) := by decide +kernel
theorem dX6_approve_10 : decode cX6_approve 10 = .ok (.invokevirtual 68, 3) := by decide +kernel
theorem dX6_approve_13 : decode cX6_approve 13 = .ok (.istore_n 2, 1) := by decide +kernel
theorem dX6_approve_14 : decode cX6_approve 14 = .ok (.aload_n 0, 1) := by decide +kernel
theorem dX6_approve_15 : decode cX6_approve 15 = .ok (.getfield 12, 3) := by decide +kernel
theorem dX6_approve_18 : decode cX6_approve 18 = .ok (.iload_n 1, 1) := by decide +kernel
theorem dX6_approve_19 : decode cX6_approve 19 = .ok (.iconst 1, 1) := by decide +kernel
theorem dX6_approve_20 : decode cX6_approve 20 = .ok (.invokevirtual 72, 3) := by decide +kernel
theorem dX6_approve_23 : decode cX6_approve 23 = .ok (.iload_n 2, 1) := by decide +kernel
theorem dX6_approve_24 : decode cX6_approve 24 = .ok (.ireturn, 1) := by decide +kernel
theorem dX6_correct_0 : decode cX6_correct 0 = .ok (.aload_n 0, 1) := by decide +kernel
theorem dX6_correct_1 : decode cX6_correct 1 = .ok (.iload_n 1, 1) := by decide +kernel
theorem dX6_correct_2 : decode cX6_correct 2 = .ok (.invokevirtual 64, 3) := by decide +kernel
theorem dX6_correct_5 : decode cX6_correct 5 = .ok (.aload_n 0, 1) := by decide +kernel
theorem dX6_correct_6 : decode cX6_correct 6 = .ok (.getfield 12, 3) := by decide +kernel
theorem dX6_correct_9 : decode cX6_correct 9 = .ok (.iload_n 1, 1) := by decide +kernel
theorem dX6_correct_10 : decode cX6_correct 10 = .ok (.invokevirtual 76, 3) := by decide +kernel
theorem dX6_correct_13 : decode cX6_correct 13 = .ok (.bipush 99, 2) := by decide +kernel
theorem dX6_correct_15 : decode cX6_correct 15 = .ok (.if_icmp .lt 13, 3) := by decide +kernel
theorem dX6_correct_18 : decode cX6_correct 18 = .ok (.new 53, 3) := by decide +kernel
theorem dX6_correct_21 : decode cX6_correct 21 = .ok (.dup, 1) := by decide +kernel
theorem dX6_correct_22 : decode cX6_correct 22 = .ok (.ldc 80, 2) := by decide +kernel
theorem dX6_correct_24 : decode cX6_correct 24 = .ok (.invokespecial 57, 3) := by decide +kernel
theorem dX6_correct_27 : decode cX6_correct 27 = .ok (.athrow, 1) := by decide +kernel
theorem dX6_correct_28 : decode cX6_correct 28 = .ok (.iconst 0, 1) := by decide +kernel
theorem dX6_correct_29 : decode cX6_correct 29 = .ok (.istore_n 2, 1) := by decide +kernel
theorem dX6_correct_30 : decode cX6_correct 30 = .ok (.iconst 0, 1) := by decide +kernel
theorem dX6_correct_31 : decode cX6_correct 31 = .ok (.istore_n 3, 1) := by decide +kernel
theorem dX6_correct_32 : decode cX6_correct 32 = .ok (.iload_n 3, 1) := by decide +kernel
theorem dX6_correct_33 : decode cX6_correct 33 = .ok (.iconst 4, 1) := by decide +kernel
theorem dX6_correct_34 : decode cX6_correct 34 = .ok (.if_icmp .ge 30, 3) := by decide +kernel
theorem dX6_correct_37 : decode cX6_correct 37 = .ok (.aload_n 0, 1) := by decide +kernel
theorem dX6_correct_38 : decode cX6_correct 38 = .ok (.iload_n 3, 1) := by decide +kernel
theorem dX6_correct_39 : decode cX6_correct 39 = .ok (.invokevirtual 82, 3) := by decide +kernel
theorem dX6_correct_42 : decode cX6_correct 42 = .ok (.astore 4, 2) := by decide +kernel
theorem dX6_correct_44 : decode cX6_correct 44 = .ok (.aload 4, 2) := by decide +kernel
theorem dX6_correct_46 : decode cX6_correct 46 = .ok (.ifnull 12, 3) := by decide +kernel
theorem dX6_correct_49 : decode cX6_correct 49 = .ok (.iload_n 2, 1) := by decide +kernel
theorem dX6_correct_50 : decode cX6_correct 50 = .ok (.aload 4, 2) := by decide +kernel
theorem dX6_correct_52 : decode cX6_correct 52 = .ok (.iload_n 1, 1) := by decide +kernel
theorem dX6_correct_53 : decode cX6_correct 53 = .ok (.invokevirtual 86, 3) := by decide +kernel
theorem dX6_correct_56 : decode cX6_correct 56 = .ok (.iadd, 1) := by decide +kernel
theorem dX6_correct_57 : decode cX6_correct 57 = .ok (.istore_n 2, 1) := by decide +kernel
theorem dX6_correct_58 : decode cX6_correct 58 = .ok (.iinc 3 1, 3) := by decide +kernel
theorem dX6_correct_61 : decode cX6_correct 61 = .ok (.goto (-29), 3) := by decide +kernel
theorem dX6_correct_64 : decode cX6_correct 64 = .ok (.aload_n 0, 1) := by decide +kernel
theorem dX6_correct_65 : decode cX6_correct 65 = .ok (.getfield 12, 3) := by decide +kernel
theorem dX6_correct_68 : decode cX6_correct 68 = .ok (.iload_n 1, 1) := by decide +kernel
theorem dX6_correct_69 : decode cX6_correct 69 = .ok (.invokevirtual 89, 3) := by decide +kernel
theorem dX6_correct_72 : decode cX6_correct 72 = .ok (.aload_n 0, 1) := by decide +kernel
theorem dX6_correct_73 : decode cX6_correct 73 = .ok (.dup, 1) := by decide +kernel
theorem dX6_correct_74 : decode cX6_correct 74 = .ok (.getfield 92, 3) := by decide +kernel
theorem dX6_correct_77 : decode cX6_correct 77 = .ok (.iload_n 2, 1) := by decide +kernel
theorem dX6_correct_78 : decode cX6_correct 78 = .ok (.i2l, 1) := by decide +kernel
theorem dX6_correct_79 : decode cX6_correct 79 = .ok (.ladd, 1) := by decide +kernel
theorem dX6_correct_80 : decode cX6_correct 80 = .ok (.putfield 92, 3) := by decide +kernel
theorem dX6_correct_83 : decode cX6_correct 83 = .ok (.iload_n 2, 1) := by decide +kernel
theorem dX6_correct_84 : decode cX6_correct 84 = .ok (.ireturn, 1) := by decide +kernel
theorem dX6_state_0 : decode cX6_state 0 = .ok (.aload_n 0, 1) := by decide +kernel
theorem dX6_state_1 : decode cX6_state 1 = .ok (.iload_n 1, 1) := by decide +kernel
theorem dX6_state_2 : decode cX6_state 2 = .ok (.invokevirtual 64, 3) := by decide +kernel
theorem dX6_state_5 : decode cX6_state 5 = .ok (.aload_n 0, 1) := by decide +kernel
theorem dX6_state_6 : decode cX6_state 6 = .ok (.getfield 12, 3) := by decide +kernel
theorem dX6_state_9 : decode cX6_state 9 = .ok (.iload_n 1, 1) := by decide +kernel
theorem dX6_state_10 : decode cX6_state 10 = .ok (.invokevirtual 76, 3) := by decide +kernel
theorem dX6_state_13 : decode cX6_state 13 = .ok (.ireturn, 1) := by decide +kernel
theorem dX6_addJob_0 : decode cX6_addJob 0 = .ok (.iload_n 1, 1) := by decide +kernel
theorem dX6_addJob_1 : decode cX6_addJob 1 = .ok (.bipush 115, 2) := by decide +kernel
theorem dX6_addJob_3 : decode cX6_addJob 3 = .ok (.if_icmp .eq 25, 3) := by decide +kernel
theorem dX6_addJob_6 : decode cX6_addJob 6 = .ok (.iload_n 1, 1) := by decide +kernel
theorem dX6_addJob_7 : decode cX6_addJob 7 = .ok (.bipush 112, 2) := by decide +kernel
theorem dX6_addJob_9 : decode cX6_addJob 9 = .ok (.if_icmp .eq 19, 3) := by decide +kernel
theorem dX6_addJob_12 : decode cX6_addJob 12 = .ok (.iload_n 1, 1) := by decide +kernel
theorem dX6_addJob_13 : decode cX6_addJob 13 = .ok (.bipush 119, 2) := by decide +kernel
theorem dX6_addJob_15 : decode cX6_addJob 15 = .ok (.if_icmp .eq 13, 3) := by decide +kernel
theorem dX6_addJob_18 : decode cX6_addJob 18 = .ok (.new 96, 3) := by decide +kernel
theorem dX6_addJob_21 : decode cX6_addJob 21 = .ok (.dup, 1) := by decide +kernel
theorem dX6_addJob_22 : decode cX6_addJob 22 = .ok (.ldc 98, 2) := by decide +kernel
theorem dX6_addJob_24 : decode cX6_addJob 24 = .ok (.invokespecial 100, 3) := by decide +kernel
theorem dX6_addJob_27 : decode cX6_addJob 27 = .ok (.athrow, 1) := by decide +kernel
theorem dX6_addJob_28 : decode cX6_addJob 28 = .ok (.aload_n 0, 1) := by decide +kernel
theorem dX6_addJob_29 : decode cX6_addJob 29 = .ok (.getfield 101, 3) := by decide +kernel
theorem dX6_addJob_32 : decode cX6_addJob 32 = .ok (.ifCond .lt 15, 3) := by decide +kernel
theorem dX6_addJob_35 : decode cX6_addJob 35 = .ok (.aload_n 0, 1) := by decide +kernel
theorem dX6_addJob_36 : decode cX6_addJob 36 = .ok (.getfield 101, 3) := by decide +kernel
theorem dX6_addJob_39 : decode cX6_addJob 39 = .ok (.aload_n 0, 1) := by decide +kernel
theorem dX6_addJob_40 : decode cX6_addJob 40 = .ok (.getfield 18, 3) := by decide +kernel
theorem dX6_addJob_43 : decode cX6_addJob 43 = .ok (.arraylength, 1) := by decide +kernel
theorem dX6_addJob_44 : decode cX6_addJob 44 = .ok (.if_icmp .lt 13, 3) := by decide +kernel
theorem dX6_addJob_47 : decode cX6_addJob 47 = .ok (.new 53, 3) := by decide +kernel
theorem dX6_addJob_50 : decode cX6_addJob 50 = .ok (.dup, 1) := by decide +kernel
theorem dX6_addJob_51 : decode cX6_addJob 51 = .ok (.ldc 104, 2) := by decide +kernel
theorem dX6_addJob_53 : decode cX6_addJob 53 = .ok (.invokespecial 57, 3) := by decide +kernel
theorem dX6_addJob_56 : decode cX6_addJob 56 = .ok (.athrow, 1) := by decide +kernel
theorem dX6_addJob_57 : decode cX6_addJob 57 = .ok (.aload_n 0, 1) := by decide +kernel
theorem dX6_addJob_58 : decode cX6_addJob 58 = .ok (.getfield 18, 3) := by decide +kernel
theorem dX6_addJob_61 : decode cX6_addJob 61 = .ok (.aload_n 0, 1) := by decide +kernel
theorem dX6_addJob_62 : decode cX6_addJob 62 = .ok (.getfield 101, 3) := by decide +kernel
theorem dX6_addJob_65 : decode cX6_addJob 65 = .ok (.new 16, 3) := by decide +kernel
theorem dX6_addJob_68 : decode cX6_addJob 68 = .ok (.dup, 1) := by decide +kernel
theorem dX6_addJob_69 : decode cX6_addJob 69 = .ok (.iload_n 1, 1) := by decide +kernel
theorem dX6_addJob_70 : decode cX6_addJob 70 = .ok (.invokespecial 106, 3) := by decide +kernel
theorem dX6_addJob_73 : decode cX6_addJob 73 = .ok (.aastore, 1) := by decide +kernel
theorem dX6_addJob_74 : decode cX6_addJob 74 = .ok (.aload_n 0, 1) := by decide +kernel
theorem dX6_addJob_75 : decode cX6_addJob 75 = .ok (.dup, 1) := by decide +kernel
theorem dX6_addJob_76 : decode cX6_addJob 76 = .ok (.getfield 101, 3) := by decide +kernel
theorem dX6_addJob_79 : decode cX6_addJob 79 = .ok (.iconst 1, 1) := by decide +kernel
theorem dX6_addJob_80 : decode cX6_addJob 80 = .ok (.iadd, 1) := by decide +kernel
theorem dX6_addJob_81 : decode cX6_addJob 81 = .ok (.putfield 101, 3) := by decide +kernel
theorem dX6_addJob_84 : decode cX6_addJob 84 = .ok (.aload_n 0, 1) := by decide +kernel
theorem dX6_addJob_85 : decode cX6_addJob 85 = .ok (.getfield 101, 3) := by decide +kernel
theorem dX6_addJob_88 : decode cX6_addJob 88 = .ok (.iconst 1, 1) := by decide +kernel
theorem dX6_addJob_89 : decode cX6_addJob 89 = .ok (.isub, 1) := by decide +kernel
theorem dX6_addJob_90 : decode cX6_addJob 90 = .ok (.ireturn, 1) := by decide +kernel
theorem dX6_addPage_0 : decode cX6_addPage 0 = .ok (.aload_n 0, 1) := by decide +kernel
theorem dX6_addPage_1 : decode cX6_addPage 1 = .ok (.iload_n 1, 1) := by decide +kernel
theorem dX6_addPage_2 : decode cX6_addPage 2 = .ok (.invokevirtual 109, 3) := by decide +kernel
theorem dX6_addPage_5 : decode cX6_addPage 5 = .ok (.astore_n 3, 1) := by decide +kernel
theorem dX6_addPage_6 : decode cX6_addPage 6 = .ok (.aload_n 0, 1) := by decide +kernel
theorem dX6_addPage_7 : decode cX6_addPage 7 = .ok (.iload_n 2, 1) := by decide +kernel
theorem dX6_addPage_8 : decode cX6_addPage 8 = .ok (.invokevirtual 64, 3) := by decide +kernel
theorem dX6_addPage_11 : decode cX6_addPage 11 = .ok (.aload_n 3, 1) := by decide +kernel
theorem dX6_addPage_12 : decode cX6_addPage 12 = .ok (.getfield 112, 3) := by decide +kernel
theorem dX6_addPage_15 : decode cX6_addPage 15 = .ok (.bipush 16, 2) := by decide +kernel
theorem dX6_addPage_17 : decode cX6_addPage 17 = .ok (.if_icmp .lt 13, 3) := by decide +kernel
theorem dX6_addPage_20 : decode cX6_addPage 20 = .ok (.new 53, 3) := by decide +kernel
theorem dX6_addPage_23 : decode cX6_addPage 23 = .ok (.dup, 1) := by decide +kernel
theorem dX6_addPage_24 : decode cX6_addPage 24 = .ok (.ldc 113, 2) := by decide +kernel
theorem dX6_addPage_26 : decode cX6_addPage 26 = .ok (.invokespecial 57, 3) := by decide +kernel
theorem dX6_addPage_29 : decode cX6_addPage 29 = .ok (.athrow, 1) := by decide +kernel
theorem dX6_addPage_30 : decode cX6_addPage 30 = .ok (.aload_n 0, 1) := by decide +kernel
theorem dX6_addPage_31 : decode cX6_addPage 31 = .ok (.dup, 1) := by decide +kernel
theorem dX6_addPage_32 : decode cX6_addPage 32 = .ok (.getfield 92, 3) := by decide +kernel
theorem dX6_addPage_35 : decode cX6_addPage 35 = .ok (.aload_n 3, 1) := by decide +kernel
theorem dX6_addPage_36 : decode cX6_addPage 36 = .ok (.invokevirtual 115, 3) := by decide +kernel
theorem dX6_addPage_39 : decode cX6_addPage 39 = .ok (.i2l, 1) := by decide +kernel
theorem dX6_addPage_40 : decode cX6_addPage 40 = .ok (.ladd, 1) := by decide +kernel
theorem dX6_addPage_41 : decode cX6_addPage 41 = .ok (.putfield 92, 3) := by decide +kernel
theorem dX6_addPage_44 : decode cX6_addPage 44 = .ok (.aload_n 3, 1) := by decide +kernel
theorem dX6_addPage_45 : decode cX6_addPage 45 = .ok (.iload_n 2, 1) := by decide +kernel
theorem dX6_addPage_46 : decode cX6_addPage 46 = .ok (.invokevirtual 118, 3) := by decide +kernel
theorem dX6_addPage_49 : decode cX6_addPage 49 = .ok (.aload_n 3, 1) := by decide +kernel
theorem dX6_addPage_50 : decode cX6_addPage 50 = .ok (.getfield 112, 3) := by decide +kernel
theorem dX6_addPage_53 : decode cX6_addPage 53 = .ok (.ireturn, 1) := by decide +kernel
theorem dX6_pages_0 : decode cX6_pages 0 = .ok (.aload_n 0, 1) := by decide +kernel
theorem dX6_pages_1 : decode cX6_pages 1 = .ok (.iload_n 1, 1) := by decide +kernel
theorem dX6_pages_2 : decode cX6_pages 2 = .ok (.invokevirtual 109, 3) := by decide +kernel
theorem dX6_pages_5 : decode cX6_pages 5 = .ok (.getfield 112, 3) := by decide +kernel
theorem dX6_pages_8 : decode cX6_pages 8 = .ok (.ireturn, 1) := by decide +kernel
theorem dX6_sheets_0 : decode cX6_sheets 0 = .ok (.aload_n 0, 1) := by decide +kernel
theorem dX6_sheets_1 : decode cX6_sheets 1 = .ok (.iload_n 1, 1) := by decide +kernel
theorem dX6_sheets_2 : decode cX6_sheets 2 = .ok (.invokevirtual 121, 3) := by decide +kernel
theorem dX6_sheets_5 : decode cX6_sheets 5 = .ok (.invokevirtual 124, 3) := by decide +kernel
theorem dX6_sheets_8 : decode cX6_sheets 8 = .ok (.ireturn, 1) := by decide +kernel
theorem dX6_pageAt_0 : decode cX6_pageAt 0 = .ok (.aload_n 0, 1) := by decide +kernel
theorem dX6_pageAt_1 : decode cX6_pageAt 1 = .ok (.iload_n 1, 1) := by decide +kernel
theorem dX6_pageAt_2 : decode cX6_pageAt 2 = .ok (.invokevirtual 121, 3) := by decide +kernel
theorem dX6_pageAt_5 : decode cX6_pageAt 5 = .ok (.astore 4, 2) := by decide +kernel
theorem dX6_pageAt_7 : decode cX6_pageAt 7 = .ok (.aload 4, 2) := by decide +kernel
theorem dX6_pageAt_9 : decode cX6_pageAt 9 = .ok (.iload_n 2, 1) := by decide +kernel
theorem dX6_pageAt_10 : decode cX6_pageAt 10 = .ok (.invokestatic 127, 3) := by decide +kernel
theorem dX6_pageAt_13 : decode cX6_pageAt 13 = .ok (.iload_n 3, 1) := by decide +kernel
theorem dX6_pageAt_14 : decode cX6_pageAt 14 = .ok (.ifCond .lt 12, 3) := by decide +kernel
theorem dX6_pageAt_17 : decode cX6_pageAt 17 = .ok (.iload_n 3, 1) := by decide +kernel
theorem dX6_pageAt_18 : decode cX6_pageAt 18 = .ok (.aload 4, 2) := by decide +kernel
theorem dX6_pageAt_20 : decode cX6_pageAt 20 = .ok (.invokevirtual 131, 3) := by decide +kernel
theorem dX6_pageAt_23 : decode cX6_pageAt 23 = .ok (.if_icmp .lt 13, 3) := by decide +kernel
theorem dX6_pageAt_26 : decode cX6_pageAt 26 = .ok (.new 134, 3) := by decide +kernel
theorem dX6_pageAt_29 : decode cX6_pageAt 29 = .ok (.dup, 1) := by decide +kernel
theorem dX6_pageAt_30 : decode cX6_pageAt 30 = .ok (.ldc 136, 2) := by decide +kernel
theorem dX6_pageAt_32 : decode cX6_pageAt 32 = .ok (.invokespecial 138, 3) := by decide +kernel
theorem dX6_pageAt_35 : decode cX6_pageAt 35 = .ok (.athrow, 1) := by decide +kernel
theorem dX6_pageAt_36 : decode cX6_pageAt 36 = .ok (.aload 4, 2) := by decide +kernel
theorem dX6_pageAt_38 : decode cX6_pageAt 38 = .ok (.iload_n 2, 1) := by decide +kernel
theorem dX6_pageAt_39 : decode cX6_pageAt 39 = .ok (.iload_n 3, 1) := by decide +kernel
theorem dX6_pageAt_40 : decode cX6_pageAt 40 = .ok (.invokevirtual 139, 3) := by decide +kernel
theorem dX6_pageAt_43 : decode cX6_pageAt 43 = .ok (.ireturn, 1) := by decide +kernel
theorem dX6_sheetOf_0 : decode cX6_sheetOf 0 = .ok (.aload_n 0, 1) := by decide +kernel
theorem dX6_sheetOf_1 : decode cX6_sheetOf 1 = .ok (.iload_n 1, 1) := by decide +kernel
theorem dX6_sheetOf_2 : decode cX6_sheetOf 2 = .ok (.invokevirtual 121, 3) := by decide +kernel
theorem dX6_sheetOf_5 : decode cX6_sheetOf 5 = .ok (.astore_n 3, 1) := by decide +kernel
theorem dX6_sheetOf_6 : decode cX6_sheetOf 6 = .ok (.iload_n 2, 1) := by decide +kernel
theorem dX6_sheetOf_7 : decode cX6_sheetOf 7 = .ok (.iconst 1, 1) := by decide +kernel
theorem dX6_sheetOf_8 : decode cX6_sheetOf 8 = .ok (.if_icmp .lt 11, 3) := by decide +kernel
theorem dX6_sheetOf_11 : decode cX6_sheetOf 11 = .ok (.iload_n 2, 1) := by decide +kernel
theorem dX6_sheetOf_12 : decode cX6_sheetOf 12 = .ok (.aload_n 3, 1) := by decide +kernel
theorem dX6_sheetOf_13 : decode cX6_sheetOf 13 = .ok (.getfield 112, 3) := by decide +kernel
theorem dX6_sheetOf_16 : decode cX6_sheetOf 16 = .ok (.if_icmp .le 13, 3) := by decide +kernel
theorem dX6_sheetOf_19 : decode cX6_sheetOf 19 = .ok (.new 134, 3) := by decide +kernel
theorem dX6_sheetOf_22 : decode cX6_sheetOf 22 = .ok (.dup, 1) := by decide +kernel
theorem dX6_sheetOf_23 : decode cX6_sheetOf 23 = .ok (.ldc 143, 2) := by decide +kernel
theorem dX6_sheetOf_25 : decode cX6_sheetOf 25 = .ok (.invokespecial 138, 3) := by decide +kernel
theorem dX6_sheetOf_28 : decode cX6_sheetOf 28 = .ok (.athrow, 1) := by decide +kernel
theorem dX6_sheetOf_29 : decode cX6_sheetOf 29 = .ok (.aload_n 3, 1) := by decide +kernel
theorem dX6_sheetOf_30 : decode cX6_sheetOf 30 = .ok (.iload_n 2, 1) := by decide +kernel
theorem dX6_sheetOf_31 : decode cX6_sheetOf 31 = .ok (.invokevirtual 145, 3) := by decide +kernel
theorem dX6_sheetOf_34 : decode cX6_sheetOf 34 = .ok (.ireturn, 1) := by decide +kernel
theorem dX6_print_0 : decode cX6_print 0 = .ok (.aload_n 0, 1) := by decide +kernel
theorem dX6_print_1 : decode cX6_print 1 = .ok (.iload_n 1, 1) := by decide +kernel
theorem dX6_print_2 : decode cX6_print 2 = .ok (.invokevirtual 121, 3) := by decide +kernel
theorem dX6_print_5 : decode cX6_print 5 = .ok (.astore 4, 2) := by decide +kernel
theorem dX6_print_7 : decode cX6_print 7 = .ok (.aload 4, 2) := by decide +kernel
theorem dX6_print_9 : decode cX6_print 9 = .ok (.iload_n 2, 1) := by decide +kernel
theorem dX6_print_10 : decode cX6_print 10 = .ok (.invokestatic 127, 3) := by decide +kernel
theorem dX6_print_13 : decode cX6_print 13 = .ok (.iload_n 3, 1) := by decide +kernel
theorem dX6_print_14 : decode cX6_print 14 = .ok (.invokestatic 148, 3) := by decide +kernel
theorem dX6_print_17 : decode cX6_print 17 = .ok (.aload_n 0, 1) := by decide +kernel
theorem dX6_print_18 : decode cX6_print 18 = .ok (.aload 4, 2) := by decide +kernel
theorem dX6_print_20 : decode cX6_print 20 = .ok (.iload_n 2, 1) := by decide +kernel
theorem dX6_print_21 : decode cX6_print 21 = .ok (.invokevirtual 151, 3) := by decide +kernel
theorem dX6_print_24 : decode cX6_print 24 = .ok (.ifCond .ne 13, 3) := by decide +kernel
theorem dX6_print_27 : decode cX6_print 27 = .ok (.new 155, 3) := by decide +kernel
theorem dX6_print_30 : decode cX6_print 30 = .ok (.dup, 1) := by decide +kernel
theorem dX6_print_31 : decode cX6_print 31 = .ok (.ldc 157, 2) := by decide +kernel
theorem dX6_print_33 : decode cX6_print 33 = .ok (.invokespecial 159, 3) := by decide +kernel
theorem dX6_print_36 : decode cX6_print 36 = .ok (.athrow, 1) := by decide +kernel
theorem dX6_print_37 : decode cX6_print 37 = .ok (.aload 4, 2) := by decide +kernel
theorem dX6_print_39 : decode cX6_print 39 = .ok (.iload_n 2, 1) := by decide +kernel
theorem dX6_print_40 : decode cX6_print 40 = .ok (.invokevirtual 160, 3) := by decide +kernel
theorem dX6_print_43 : decode cX6_print 43 = .ok (.iload_n 3, 1) := by decide +kernel
theorem dX6_print_44 : decode cX6_print 44 = .ok (.iadd, 1) := by decide +kernel
theorem dX6_print_45 : decode cX6_print 45 = .ok (.sipush 9999, 3) := by decide +kernel
theorem dX6_print_48 : decode cX6_print 48 = .ok (.if_icmp .le 13, 3) := by decide +kernel
theorem dX6_print_51 : decode cX6_print 51 = .ok (.new 155, 3) := by decide +kernel
theorem dX6_print_54 : decode cX6_print 54 = .ok (.dup, 1) := by decide +kernel
theorem dX6_print_55 : decode cX6_print 55 = .ok (.ldc 163, 2) := by decide +kernel
theorem dX6_print_57 : decode cX6_print 57 = .ok (.invokespecial 159, 3) := by decide +kernel
theorem dX6_print_60 : decode cX6_print 60 = .ok (.athrow, 1) := by decide +kernel
theorem dX6_print_61 : decode cX6_print 61 = .ok (.aload_n 0, 1) := by decide +kernel
theorem dX6_print_62 : decode cX6_print 62 = .ok (.aload 4, 2) := by decide +kernel
theorem dX6_print_64 : decode cX6_print 64 = .ok (.iload_n 2, 1) := by decide +kernel
theorem dX6_print_65 : decode cX6_print 65 = .ok (.iconst 0, 1) := by decide +kernel
theorem dX6_print_66 : decode cX6_print 66 = .ok (.invokevirtual 165, 3) := by decide +kernel
theorem dX6_print_69 : decode cX6_print 69 = .ok (.istore 5, 2) := by decide +kernel
theorem dX6_print_71 : decode cX6_print 71 = .ok (.aload_n 0, 1) := by decide +kernel
theorem dX6_print_72 : decode cX6_print 72 = .ok (.aload 4, 2) := by decide +kernel
theorem dX6_print_74 : decode cX6_print 74 = .ok (.iload_n 2, 1) := by decide +kernel
theorem dX6_print_75 : decode cX6_print 75 = .ok (.iconst 1, 1) := by decide +kernel
theorem dX6_print_76 : decode cX6_print 76 = .ok (.invokevirtual 165, 3) := by decide +kernel
theorem dX6_print_79 : decode cX6_print 79 = .ok (.istore 6, 2) := by decide +kernel
theorem dX6_print_81 : decode cX6_print 81 = .ok (.aload_n 0, 1) := by decide +kernel
theorem dX6_print_82 : decode cX6_print 82 = .ok (.getfield 25, 3) := by decide +kernel
theorem dX6_print_85 : decode cX6_print 85 = .ok (.iload 5, 2) := by decide +kernel
theorem dX6_print_87 : decode cX6_print 87 = .ok (.iload 6, 2) := by decide +kernel
theorem dX6_print_89 : decode cX6_print 89 = .ok (.aload 4, 2) := by decide +kernel
theorem dX6_print_91 : decode cX6_print 91 = .ok (.getfield 169, 3) := by decide +kernel
theorem dX6_print_94 : decode cX6_print 94 = .ok (.invokevirtual 173, 3) := by decide +kernel
theorem dX6_print_97 : decode cX6_print 97 = .ok (.istore 7, 2) := by decide +kernel
theorem dX6_print_99 : decode cX6_print 99 = .ok (.aload_n 0, 1) := by decide +kernel
theorem dX6_print_100 : decode cX6_print 100 = .ok (.getfield 25, 3) := by decide +kernel
theorem dX6_print_103 : decode cX6_print 103 = .ok (.iload 5, 2) := by decide +kernel
theorem dX6_print_105 : decode cX6_print 105 = .ok (.iload 6, 2) := by decide +kernel
theorem dX6_print_107 : decode cX6_print 107 = .ok (.aload 4, 2) := by decide +kernel
theorem dX6_print_109 : decode cX6_print 109 = .ok (.getfield 169, 3) := by decide +kernel
theorem dX6_print_112 : decode cX6_print 112 = .ok (.invokevirtual 177, 3) := by decide +kernel
theorem dX6_print_115 : decode cX6_print 115 = .ok (.aload_n 0, 1) := by decide +kernel
theorem dX6_print_116 : decode cX6_print 116 = .ok (.getfield 32, 3) := by decide +kernel
theorem dX6_print_119 : decode cX6_print 119 = .ok (.iload 5, 2) := by decide +kernel
theorem dX6_print_121 : decode cX6_print 121 = .ok (.invokevirtual 181, 3) := by decide +kernel
theorem dX6_print_124 : decode cX6_print 124 = .ok (.aload_n 0, 1) := by decide +kernel
theorem dX6_print_125 : decode cX6_print 125 = .ok (.getfield 32, 3) := by decide +kernel
theorem dX6_print_128 : decode cX6_print 128 = .ok (.iload 6, 2) := by decide +kernel
theorem dX6_print_130 : decode cX6_print 130 = .ok (.invokevirtual 181, 3) := by decide +kernel
theorem dX6_print_133 : decode cX6_print 133 = .ok (.aload 4, 2) := by decide +kernel
theorem dX6_print_135 : decode cX6_print 135 = .ok (.iload_n 2, 1) := by decide +kernel
theorem dX6_print_136 : decode cX6_print 136 = .ok (.iload_n 3, 1) := by decide +kernel
theorem dX6_print_137 : decode cX6_print 137 = .ok (.invokevirtual 184, 3) := by decide +kernel
theorem dX6_print_140 : decode cX6_print 140 = .ok (.aload_n 0, 1) := by decide +kernel
theorem dX6_print_141 : decode cX6_print 141 = .ok (.dup, 1) := by decide +kernel
theorem dX6_print_142 : decode cX6_print 142 = .ok (.getfield 188, 3) := by decide +kernel
theorem dX6_print_145 : decode cX6_print 145 = .ok (.iload_n 3, 1) := by decide +kernel
theorem dX6_print_146 : decode cX6_print 146 = .ok (.i2l, 1) := by decide +kernel
theorem dX6_print_147 : decode cX6_print 147 = .ok (.ladd, 1) := by decide +kernel
theorem dX6_print_148 : decode cX6_print 148 = .ok (.putfield 188, 3) := by decide +kernel
theorem dX6_print_151 : decode cX6_print 151 = .ok (.aload_n 0, 1) := by decide +kernel
theorem dX6_print_152 : decode cX6_print 152 = .ok (.dup, 1) := by decide +kernel
theorem dX6_print_153 : decode cX6_print 153 = .ok (.getfield 191, 3) := by decide +kernel
theorem dX6_print_156 : decode cX6_print 156 = .ok (.lconst 1, 1) := by decide +kernel
theorem dX6_print_157 : decode cX6_print 157 = .ok (.ladd, 1) := by decide +kernel
theorem dX6_print_158 : decode cX6_print 158 = .ok (.putfield 191, 3) := by decide +kernel
theorem dX6_print_161 : decode cX6_print 161 = .ok (.aload_n 0, 1) := by decide +kernel
theorem dX6_print_162 : decode cX6_print 162 = .ok (.dup, 1) := by decide +kernel
theorem dX6_print_163 : decode cX6_print 163 = .ok (.getfield 194, 3) := by decide +kernel
theorem dX6_print_166 : decode cX6_print 166 = .ok (.iload 7, 2) := by decide +kernel
theorem dX6_print_168 : decode cX6_print 168 = .ok (.i2l, 1) := by decide +kernel
theorem dX6_print_169 : decode cX6_print 169 = .ok (.ladd, 1) := by decide +kernel
theorem dX6_print_170 : decode cX6_print 170 = .ok (.putfield 194, 3) := by decide +kernel
theorem dX6_print_173 : decode cX6_print 173 = .ok (.iload 7, 2) := by decide +kernel
theorem dX6_print_175 : decode cX6_print 175 = .ok (.ireturn, 1) := by decide +kernel
theorem dX6_makeready_0 : decode cX6_makeready 0 = .ok (.aload_n 0, 1) := by decide +kernel
theorem dX6_makeready_1 : decode cX6_makeready 1 = .ok (.iload_n 1, 1) := by decide +kernel
theorem dX6_makeready_2 : decode cX6_makeready 2 = .ok (.invokevirtual 121, 3) := by decide +kernel
theorem dX6_makeready_5 : decode cX6_makeready 5 = .ok (.astore_n 3, 1) := by decide +kernel
theorem dX6_makeready_6 : decode cX6_makeready 6 = .ok (.aload_n 3, 1) := by decide +kernel
theorem dX6_makeready_7 : decode cX6_makeready 7 = .ok (.iload_n 2, 1) := by decide +kernel
theorem dX6_makeready_8 : decode cX6_makeready 8 = .ok (.invokestatic 127, 3) := by decide +kernel
theorem dX6_makeready_11 : decode cX6_makeready 11 = .ok (.aload_n 0, 1) := by decide +kernel
theorem dX6_makeready_12 : decode cX6_makeready 12 = .ok (.getfield 25, 3) := by decide +kernel
theorem dX6_makeready_15 : decode cX6_makeready 15 = .ok (.aload_n 0, 1) := by decide +kernel
theorem dX6_makeready_16 : decode cX6_makeready 16 = .ok (.aload_n 3, 1) := by decide +kernel
theorem dX6_makeready_17 : decode cX6_makeready 17 = .ok (.iload_n 2, 1) := by decide +kernel
theorem dX6_makeready_18 : decode cX6_makeready 18 = .ok (.iconst 0, 1) := by decide +kernel
theorem dX6_makeready_19 : decode cX6_makeready 19 = .ok (.invokevirtual 165, 3) := by decide +kernel
theorem dX6_makeready_22 : decode cX6_makeready 22 = .ok (.aload_n 0, 1) := by decide +kernel
theorem dX6_makeready_23 : decode cX6_makeready 23 = .ok (.aload_n 3, 1) := by decide +kernel
theorem dX6_makeready_24 : decode cX6_makeready 24 = .ok (.iload_n 2, 1) := by decide +kernel
theorem dX6_makeready_25 : decode cX6_makeready 25 = .ok (.iconst 1, 1) := by decide +kernel
theorem dX6_makeready_26 : decode cX6_makeready 26 = .ok (.invokevirtual 165, 3) := by decide +kernel
theorem dX6_makeready_29 : decode cX6_makeready 29 = .ok (.aload_n 3, 1) := by decide +kernel
theorem dX6_makeready_30 : decode cX6_makeready 30 = .ok (.getfield 169, 3) := by decide +kernel
theorem dX6_makeready_33 : decode cX6_makeready 33 = .ok (.invokevirtual 173, 3) := by decide +kernel
theorem dX6_makeready_36 : decode cX6_makeready 36 = .ok (.ireturn, 1) := by decide +kernel
theorem dX6_leastMakeready_0 : decode cX6_leastMakeready 0 = .ok (.aload_n 0, 1) := by decide +kernel
theorem dX6_leastMakeready_1 : decode cX6_leastMakeready 1 = .ok (.iload_n 1, 1) := by decide +kernel
theorem dX6_leastMakeready_2 : decode cX6_leastMakeready 2 = .ok (.invokevirtual 121, 3) := by decide +kernel
theorem dX6_leastMakeready_5 : decode cX6_leastMakeready 5 = .ok (.astore_n 2, 1) := by decide +kernel
theorem dX6_leastMakeready_6 : decode cX6_leastMakeready 6 = .ok (.aload_n 0, 1) := by decide +kernel
theorem dX6_leastMakeready_7 : decode cX6_leastMakeready 7 = .ok (.aload_n 2, 1) := by decide +kernel
theorem dX6_leastMakeready_8 : decode cX6_leastMakeready 8 = .ok (.invokevirtual 197, 3) := by decide +kernel
theorem dX6_leastMakeready_11 : decode cX6_leastMakeready 11 = .ok (.aload_n 0, 1) := by decide +kernel
theorem dX6_leastMakeready_12 : decode cX6_leastMakeready 12 = .ok (.getfield 25, 3) := by decide +kernel
theorem dX6_leastMakeready_15 : decode cX6_leastMakeready 15 = .ok (.aload_n 2, 1) := by decide +kernel
theorem dX6_leastMakeready_16 : decode cX6_leastMakeready 16 = .ok (.getfield 169, 3) := by decide +kernel
theorem dX6_leastMakeready_19 : decode cX6_leastMakeready 19 = .ok (.invokevirtual 201, 3) := by decide +kernel
theorem dX6_leastMakeready_22 : decode cX6_leastMakeready 22 = .ok (.aload_n 0, 1) := by decide +kernel
theorem dX6_leastMakeready_23 : decode cX6_leastMakeready 23 = .ok (.getfield 39, 3) := by decide +kernel
theorem dX6_leastMakeready_26 : decode cX6_leastMakeready 26 = .ok (.invokevirtual 205, 3) := by decide +kernel
theorem dX6_leastMakeready_29 : decode cX6_leastMakeready 29 = .ok (.iadd, 1) := by decide +kernel
theorem dX6_leastMakeready_30 : decode cX6_leastMakeready 30 = .ok (.ireturn, 1) := by decide +kernel
theorem dX6_leastByTrying_0 : decode cX6_leastByTrying 0 = .ok (.aload_n 0, 1) := by decide +kernel
theorem dX6_leastByTrying_1 : decode cX6_leastByTrying 1 = .ok (.iload_n 1, 1) := by decide +kernel
theorem dX6_leastByTrying_2 : decode cX6_leastByTrying 2 = .ok (.invokevirtual 121, 3) := by decide +kernel
theorem dX6_leastByTrying_5 : decode cX6_leastByTrying 5 = .ok (.astore_n 2, 1) := by decide +kernel
theorem dX6_leastByTrying_6 : decode cX6_leastByTrying 6 = .ok (.aload_n 2, 1) := by decide +kernel
theorem dX6_leastByTrying_7 : decode cX6_leastByTrying 7 = .ok (.invokevirtual 124, 3) := by decide +kernel
theorem dX6_leastByTrying_10 : decode cX6_leastByTrying 10 = .ok (.bipush 6, 2) := by decide +kernel
theorem dX6_leastByTrying_12 : decode cX6_leastByTrying 12 = .ok (.if_icmp .le 13, 3) := by decide +kernel
theorem dX6_leastByTrying_15 : decode cX6_leastByTrying 15 = .ok (.new 155, 3) := by decide +kernel
theorem dX6_leastByTrying_18 : decode cX6_leastByTrying 18 = .ok (.dup, 1) := by decide +kernel
theorem dX6_leastByTrying_19 : decode cX6_leastByTrying 19 = .ok (.ldc 208, 2) := by decide +kernel
theorem dX6_leastByTrying_21 : decode cX6_leastByTrying 21 = .ok (.invokespecial 159, 3) := by decide +kernel
theorem dX6_leastByTrying_24 : decode cX6_leastByTrying 24 = .ok (.athrow, 1) := by decide +kernel
theorem dX6_leastByTrying_25 : decode cX6_leastByTrying 25 = .ok (.aload_n 0, 1) := by decide +kernel
theorem dX6_leastByTrying_26 : decode cX6_leastByTrying 26 = .ok (.aload_n 2, 1) := by decide +kernel
theorem dX6_leastByTrying_27 : decode cX6_leastByTrying 27 = .ok (.invokevirtual 197, 3) := by decide +kernel
theorem dX6_leastByTrying_30 : decode cX6_leastByTrying 30 = .ok (.aload_n 0, 1) := by decide +kernel
theorem dX6_leastByTrying_31 : decode cX6_leastByTrying 31 = .ok (.getfield 25, 3) := by decide +kernel
theorem dX6_leastByTrying_34 : decode cX6_leastByTrying 34 = .ok (.aload_n 2, 1) := by decide +kernel
theorem dX6_leastByTrying_35 : decode cX6_leastByTrying 35 = .ok (.getfield 169, 3) := by decide +kernel
theorem dX6_leastByTrying_38 : decode cX6_leastByTrying 38 = .ok (.invokevirtual 201, 3) := by decide +kernel
theorem dX6_leastByTrying_41 : decode cX6_leastByTrying 41 = .ok (.aload_n 0, 1) := by decide +kernel
theorem dX6_leastByTrying_42 : decode cX6_leastByTrying 42 = .ok (.getfield 39, 3) := by decide +kernel
theorem dX6_leastByTrying_45 : decode cX6_leastByTrying 45 = .ok (.invokevirtual 210, 3) := by decide +kernel
theorem dX6_leastByTrying_48 : decode cX6_leastByTrying 48 = .ok (.iadd, 1) := by decide +kernel
theorem dX6_leastByTrying_49 : decode cX6_leastByTrying 49 = .ok (.ireturn, 1) := by decide +kernel
theorem dX6_stock_0 : decode cX6_stock 0 = .ok (.aload_n 0, 1) := by decide +kernel
theorem dX6_stock_1 : decode cX6_stock 1 = .ok (.iload_n 1, 1) := by decide +kernel
theorem dX6_stock_2 : decode cX6_stock 2 = .ok (.invokevirtual 121, 3) := by decide +kernel
theorem dX6_stock_5 : decode cX6_stock 5 = .ok (.astore_n 3, 1) := by decide +kernel
theorem dX6_stock_6 : decode cX6_stock 6 = .ok (.aload_n 3, 1) := by decide +kernel
theorem dX6_stock_7 : decode cX6_stock 7 = .ok (.iload_n 2, 1) := by decide +kernel
theorem dX6_stock_8 : decode cX6_stock 8 = .ok (.invokestatic 127, 3) := by decide +kernel
theorem dX6_stock_11 : decode cX6_stock 11 = .ok (.aload_n 3, 1) := by decide +kernel
theorem dX6_stock_12 : decode cX6_stock 12 = .ok (.iload_n 2, 1) := by decide +kernel
theorem dX6_stock_13 : decode cX6_stock 13 = .ok (.invokevirtual 160, 3) := by decide +kernel
theorem dX6_stock_16 : decode cX6_stock 16 = .ok (.ireturn, 1) := by decide +kernel
theorem dX6_plates_0 : decode cX6_plates 0 = .ok (.aload_n 0, 1) := by decide +kernel
theorem dX6_plates_1 : decode cX6_plates 1 = .ok (.getfield 32, 3) := by decide +kernel
theorem dX6_plates_4 : decode cX6_plates 4 = .ok (.getfield 213, 3) := by decide +kernel
theorem dX6_plates_7 : decode cX6_plates 7 = .ok (.ireturn, 1) := by decide +kernel
theorem dX6_platesNeeded_0 : decode cX6_platesNeeded 0 = .ok (.aload_n 0, 1) := by decide +kernel
theorem dX6_platesNeeded_1 : decode cX6_platesNeeded 1 = .ok (.iload_n 1, 1) := by decide +kernel
theorem dX6_platesNeeded_2 : decode cX6_platesNeeded 2 = .ok (.invokevirtual 121, 3) := by decide +kernel
theorem dX6_platesNeeded_5 : decode cX6_platesNeeded 5 = .ok (.astore_n 2, 1) := by decide +kernel
theorem dX6_platesNeeded_6 : decode cX6_platesNeeded 6 = .ok (.iconst 0, 1) := by decide +kernel
theorem dX6_platesNeeded_7 : decode cX6_platesNeeded 7 = .ok (.istore_n 3, 1) := by decide +kernel
theorem dX6_platesNeeded_8 : decode cX6_platesNeeded 8 = .ok (.iconst 2, 1) := by decide +kernel
theorem dX6_platesNeeded_9 : decode cX6_platesNeeded 9 = .ok (.aload_n 2, 1) := by decide +kernel
theorem dX6_platesNeeded_10 : decode cX6_platesNeeded 10 = .ok (.invokevirtual 124, 3) := by decide +kernel
theorem dX6_platesNeeded_13 : decode cX6_platesNeeded 13 = .ok (.imul, 1) := by decide +kernel
theorem dX6_platesNeeded_14 : decode cX6_platesNeeded 14 = .ok (.istore 4, 2) := by decide +kernel
theorem dX6_platesNeeded_16 : decode cX6_platesNeeded 16 = .ok (.iconst 0, 1) := by decide +kernel
theorem dX6_platesNeeded_17 : decode cX6_platesNeeded 17 = .ok (.istore 5, 2) := by decide +kernel
theorem dX6_platesNeeded_19 : decode cX6_platesNeeded 19 = .ok (.iload 5, 2) := by decide +kernel
theorem dX6_platesNeeded_21 : decode cX6_platesNeeded 21 = .ok (.iload 4, 2) := by decide +kernel
theorem dX6_platesNeeded_23 : decode cX6_platesNeeded 23 = .ok (.if_icmp .ge 51, 3) := by decide +kernel
theorem dX6_platesNeeded_26 : decode cX6_platesNeeded 26 = .ok (.aload_n 0, 1) := by decide +kernel
theorem dX6_platesNeeded_27 : decode cX6_platesNeeded 27 = .ok (.aload_n 2, 1) := by decide +kernel
theorem dX6_platesNeeded_28 : decode cX6_platesNeeded 28 = .ok (.iload 5, 2) := by decide +kernel
theorem dX6_platesNeeded_30 : decode cX6_platesNeeded 30 = .ok (.iconst 2, 1) := by decide +kernel
theorem dX6_platesNeeded_31 : decode cX6_platesNeeded 31 = .ok (.idiv, 1) := by decide +kernel
theorem dX6_platesNeeded_32 : decode cX6_platesNeeded 32 = .ok (.iload 5, 2) := by decide +kernel
theorem dX6_platesNeeded_34 : decode cX6_platesNeeded 34 = .ok (.iconst 2, 1) := by decide +kernel
theorem dX6_platesNeeded_35 : decode cX6_platesNeeded 35 = .ok (.irem, 1) := by decide +kernel
theorem dX6_platesNeeded_36 : decode cX6_platesNeeded 36 = .ok (.invokevirtual 165, 3) := by decide +kernel
theorem dX6_platesNeeded_39 : decode cX6_platesNeeded 39 = .ok (.istore 6, 2) := by decide +kernel
theorem dX6_platesNeeded_41 : decode cX6_platesNeeded 41 = .ok (.aload_n 0, 1) := by decide +kernel
theorem dX6_platesNeeded_42 : decode cX6_platesNeeded 42 = .ok (.getfield 32, 3) := by decide +kernel
theorem dX6_platesNeeded_45 : decode cX6_platesNeeded 45 = .ok (.iload 6, 2) := by decide +kernel
theorem dX6_platesNeeded_47 : decode cX6_platesNeeded 47 = .ok (.invokevirtual 216, 3) := by decide +kernel
theorem dX6_platesNeeded_50 : decode cX6_platesNeeded 50 = .ok (.ifCond .ne 18, 3) := by decide +kernel
theorem dX6_platesNeeded_53 : decode cX6_platesNeeded 53 = .ok (.aload_n 0, 1) := by decide +kernel
theorem dX6_platesNeeded_54 : decode cX6_platesNeeded 54 = .ok (.aload_n 2, 1) := by decide +kernel
theorem dX6_platesNeeded_55 : decode cX6_platesNeeded 55 = .ok (.iload 5, 2) := by decide +kernel
theorem dX6_platesNeeded_57 : decode cX6_platesNeeded 57 = .ok (.iload 6, 2) := by decide +kernel
theorem dX6_platesNeeded_59 : decode cX6_platesNeeded 59 = .ok (.invokevirtual 219, 3) := by decide +kernel
theorem dX6_platesNeeded_62 : decode cX6_platesNeeded 62 = .ok (.ifCond .ne 6, 3) := by decide +kernel
theorem dX6_platesNeeded_65 : decode cX6_platesNeeded 65 = .ok (.iinc 3 1, 3) := by decide +kernel
theorem dX6_platesNeeded_68 : decode cX6_platesNeeded 68 = .ok (.iinc 5 1, 3) := by decide +kernel
theorem dX6_platesNeeded_71 : decode cX6_platesNeeded 71 = .ok (.goto (-52), 3) := by decide +kernel
theorem dX6_platesNeeded_74 : decode cX6_platesNeeded 74 = .ok (.iload_n 3, 1) := by decide +kernel
theorem dX6_platesNeeded_75 : decode cX6_platesNeeded 75 = .ok (.ireturn, 1) := by decide +kernel
theorem dX6_bind_0 : decode cX6_bind 0 = .ok (.aload_n 0, 1) := by decide +kernel
theorem dX6_bind_1 : decode cX6_bind 1 = .ok (.iload_n 1, 1) := by decide +kernel
theorem dX6_bind_2 : decode cX6_bind 2 = .ok (.invokevirtual 109, 3) := by decide +kernel
theorem dX6_bind_5 : decode cX6_bind 5 = .ok (.astore_n 3, 1) := by decide +kernel
theorem dX6_bind_6 : decode cX6_bind 6 = .ok (.iload_n 2, 1) := by decide +kernel
theorem dX6_bind_7 : decode cX6_bind 7 = .ok (.invokestatic 148, 3) := by decide +kernel
theorem dX6_bind_10 : decode cX6_bind 10 = .ok (.aload_n 3, 1) := by decide +kernel
theorem dX6_bind_11 : decode cX6_bind 11 = .ok (.invokestatic 223, 3) := by decide +kernel
theorem dX6_bind_14 : decode cX6_bind 14 = .ok (.aload_n 0, 1) := by decide +kernel
theorem dX6_bind_15 : decode cX6_bind 15 = .ok (.getfield 226, 3) := by decide +kernel
theorem dX6_bind_18 : decode cX6_bind 18 = .ok (.ifCond .lt 15, 3) := by decide +kernel
theorem dX6_bind_21 : decode cX6_bind 21 = .ok (.aload_n 0, 1) := by decide +kernel
theorem dX6_bind_22 : decode cX6_bind 22 = .ok (.getfield 226, 3) := by decide +kernel
theorem dX6_bind_25 : decode cX6_bind 25 = .ok (.aload_n 0, 1) := by decide +kernel
theorem dX6_bind_26 : decode cX6_bind 26 = .ok (.getfield 45, 3) := by decide +kernel
theorem dX6_bind_29 : decode cX6_bind 29 = .ok (.arraylength, 1) := by decide +kernel
theorem dX6_bind_30 : decode cX6_bind 30 = .ok (.if_icmp .lt 13, 3) := by decide +kernel
theorem dX6_bind_33 : decode cX6_bind 33 = .ok (.new 53, 3) := by decide +kernel
theorem dX6_bind_36 : decode cX6_bind 36 = .ok (.dup, 1) := by decide +kernel
theorem dX6_bind_37 : decode cX6_bind 37 = .ok (.ldc 229, 2) := by decide +kernel
theorem dX6_bind_39 : decode cX6_bind 39 = .ok (.invokespecial 57, 3) := by decide +kernel
theorem dX6_bind_42 : decode cX6_bind 42 = .ok (.athrow, 1) := by decide +kernel
theorem dX6_bind_43 : decode cX6_bind 43 = .ok (.aload_n 3, 1) := by decide +kernel
theorem dX6_bind_44 : decode cX6_bind 44 = .ok (.iload_n 2, 1) := by decide +kernel
theorem dX6_bind_45 : decode cX6_bind 45 = .ok (.invokevirtual 231, 3) := by decide +kernel
theorem dX6_bind_48 : decode cX6_bind 48 = .ok (.ifCond .le 13, 3) := by decide +kernel
theorem dX6_bind_51 : decode cX6_bind 51 = .ok (.new 155, 3) := by decide +kernel
theorem dX6_bind_54 : decode cX6_bind 54 = .ok (.dup, 1) := by decide +kernel
theorem dX6_bind_55 : decode cX6_bind 55 = .ok (.ldc 234, 2) := by decide +kernel
theorem dX6_bind_57 : decode cX6_bind 57 = .ok (.invokespecial 159, 3) := by decide +kernel
theorem dX6_bind_60 : decode cX6_bind 60 = .ok (.athrow, 1) := by decide +kernel
theorem dX6_bind_61 : decode cX6_bind 61 = .ok (.aload_n 3, 1) := by decide +kernel
theorem dX6_bind_62 : decode cX6_bind 62 = .ok (.iload_n 2, 1) := by decide +kernel
theorem dX6_bind_63 : decode cX6_bind 63 = .ok (.invokevirtual 236, 3) := by decide +kernel
theorem dX6_bind_66 : decode cX6_bind 66 = .ok (.aload_n 0, 1) := by decide +kernel
theorem dX6_bind_67 : decode cX6_bind 67 = .ok (.getfield 45, 3) := by decide +kernel
theorem dX6_bind_70 : decode cX6_bind 70 = .ok (.aload_n 0, 1) := by decide +kernel
theorem dX6_bind_71 : decode cX6_bind 71 = .ok (.getfield 226, 3) := by decide +kernel
theorem dX6_bind_74 : decode cX6_bind 74 = .ok (.aload_n 0, 1) := by decide +kernel
theorem dX6_bind_75 : decode cX6_bind 75 = .ok (.aload_n 3, 1) := by decide +kernel
theorem dX6_bind_76 : decode cX6_bind 76 = .ok (.iload_n 2, 1) := by decide +kernel
theorem dX6_bind_77 : decode cX6_bind 77 = .ok (.invokevirtual 239, 3) := by decide +kernel
theorem dX6_bind_80 : decode cX6_bind 80 = .ok (.aastore, 1) := by decide +kernel
theorem dX6_bind_81 : decode cX6_bind 81 = .ok (.aload_n 0, 1) := by decide +kernel
theorem dX6_bind_82 : decode cX6_bind 82 = .ok (.dup, 1) := by decide +kernel
theorem dX6_bind_83 : decode cX6_bind 83 = .ok (.getfield 226, 3) := by decide +kernel
theorem dX6_bind_86 : decode cX6_bind 86 = .ok (.iconst 1, 1) := by decide +kernel
theorem dX6_bind_87 : decode cX6_bind 87 = .ok (.iadd, 1) := by decide +kernel
theorem dX6_bind_88 : decode cX6_bind 88 = .ok (.putfield 226, 3) := by decide +kernel
theorem dX6_bind_91 : decode cX6_bind 91 = .ok (.aload_n 0, 1) := by decide +kernel
theorem dX6_bind_92 : decode cX6_bind 92 = .ok (.getfield 226, 3) := by decide +kernel
theorem dX6_bind_95 : decode cX6_bind 95 = .ok (.iconst 1, 1) := by decide +kernel
theorem dX6_bind_96 : decode cX6_bind 96 = .ok (.isub, 1) := by decide +kernel
theorem dX6_bind_97 : decode cX6_bind 97 = .ok (.ireturn, 1) := by decide +kernel
theorem dX6_lacks_0 : decode cX6_lacks 0 = .ok (.aload_n 0, 1) := by decide +kernel
theorem dX6_lacks_1 : decode cX6_lacks 1 = .ok (.iload_n 1, 1) := by decide +kernel
theorem dX6_lacks_2 : decode cX6_lacks 2 = .ok (.invokevirtual 109, 3) := by decide +kernel
theorem dX6_lacks_5 : decode cX6_lacks 5 = .ok (.astore_n 3, 1) := by decide +kernel
theorem dX6_lacks_6 : decode cX6_lacks 6 = .ok (.iload_n 2, 1) := by decide +kernel
theorem dX6_lacks_7 : decode cX6_lacks 7 = .ok (.invokestatic 148, 3) := by decide +kernel
theorem dX6_lacks_10 : decode cX6_lacks 10 = .ok (.aload_n 3, 1) := by decide +kernel
theorem dX6_lacks_11 : decode cX6_lacks 11 = .ok (.invokestatic 223, 3) := by decide +kernel
theorem dX6_lacks_14 : decode cX6_lacks 14 = .ok (.aload_n 3, 1) := by decide +kernel
theorem dX6_lacks_15 : decode cX6_lacks 15 = .ok (.iload_n 2, 1) := by decide +kernel
theorem dX6_lacks_16 : decode cX6_lacks 16 = .ok (.invokevirtual 231, 3) := by decide +kernel
theorem dX6_lacks_19 : decode cX6_lacks 19 = .ok (.ireturn, 1) := by decide +kernel
theorem dX6_lots_0 : decode cX6_lots 0 = .ok (.aload_n 0, 1) := by decide +kernel
theorem dX6_lots_1 : decode cX6_lots 1 = .ok (.getfield 226, 3) := by decide +kernel
theorem dX6_lots_4 : decode cX6_lots 4 = .ok (.ireturn, 1) := by decide +kernel
theorem dX6_copies_0 : decode cX6_copies 0 = .ok (.aload_n 0, 1) := by decide +kernel
theorem dX6_copies_1 : decode cX6_copies 1 = .ok (.iload_n 1, 1) := by decide +kernel
theorem dX6_copies_2 : decode cX6_copies 2 = .ok (.invokevirtual 243, 3) := by decide +kernel
theorem dX6_copies_5 : decode cX6_copies 5 = .ok (.getfield 247, 3) := by decide +kernel
theorem dX6_copies_8 : decode cX6_copies 8 = .ok (.ireturn, 1) := by decide +kernel
theorem dX6_stateIn_0 : decode cX6_stateIn 0 = .ok (.aload_n 0, 1) := by decide +kernel
theorem dX6_stateIn_1 : decode cX6_stateIn 1 = .ok (.iload_n 1, 1) := by decide +kernel
theorem dX6_stateIn_2 : decode cX6_stateIn 2 = .ok (.invokevirtual 243, 3) := by decide +kernel
theorem dX6_stateIn_5 : decode cX6_stateIn 5 = .ok (.astore_n 3, 1) := by decide +kernel
theorem dX6_stateIn_6 : decode cX6_stateIn 6 = .ok (.aload_n 3, 1) := by decide +kernel
theorem dX6_stateIn_7 : decode cX6_stateIn 7 = .ok (.iload_n 2, 1) := by decide +kernel
theorem dX6_stateIn_8 : decode cX6_stateIn 8 = .ok (.invokestatic 250, 3) := by decide +kernel
theorem dX6_stateIn_11 : decode cX6_stateIn 11 = .ok (.aload_n 3, 1) := by decide +kernel
theorem dX6_stateIn_12 : decode cX6_stateIn 12 = .ok (.iload_n 2, 1) := by decide +kernel
theorem dX6_stateIn_13 : decode cX6_stateIn 13 = .ok (.invokevirtual 254, 3) := by decide +kernel
theorem dX6_stateIn_16 : decode cX6_stateIn 16 = .ok (.ireturn, 1) := by decide +kernel
theorem dX6_stateByReplay_0 : decode cX6_stateByReplay 0 = .ok (.aload_n 0, 1) := by decide +kernel
theorem dX6_stateByReplay_1 : decode cX6_stateByReplay 1 = .ok (.iload_n 1, 1) := by decide +kernel
theorem dX6_stateByReplay_2 : decode cX6_stateByReplay 2 = .ok (.invokevirtual 243, 3) := by decide +kernel
theorem dX6_stateByReplay_5 : decode cX6_stateByReplay 5 = .ok (.astore_n 3, 1) := by decide +kernel
theorem dX6_stateByReplay_6 : decode cX6_stateByReplay 6 = .ok (.aload_n 3, 1) := by decide +kernel
theorem dX6_stateByReplay_7 : decode cX6_stateByReplay 7 = .ok (.iload_n 2, 1) := by decide +kernel
theorem dX6_stateByReplay_8 : decode cX6_stateByReplay 8 = .ok (.invokestatic 250, 3) := by decide +kernel
theorem dX6_stateByReplay_11 : decode cX6_stateByReplay 11 = .ok (.aload_n 0, 1) := by decide +kernel
theorem dX6_stateByReplay_12 : decode cX6_stateByReplay 12 = .ok (.getfield 12, 3) := by decide +kernel
theorem dX6_stateByReplay_15 : decode cX6_stateByReplay 15 = .ok (.aload_n 3, 1) := by decide +kernel
theorem dX6_stateByReplay_16 : decode cX6_stateByReplay 16 = .ok (.getfield 257, 3) := by decide +kernel
theorem dX6_stateByReplay_19 : decode cX6_stateByReplay 19 = .ok (.aload_n 3, 1) := by decide +kernel
theorem dX6_stateByReplay_20 : decode cX6_stateByReplay 20 = .ok (.iload_n 2, 1) := by decide +kernel
theorem dX6_stateByReplay_21 : decode cX6_stateByReplay 21 = .ok (.invokevirtual 260, 3) := by decide +kernel
theorem dX6_stateByReplay_24 : decode cX6_stateByReplay 24 = .ok (.invokevirtual 263, 3) := by decide +kernel
theorem dX6_stateByReplay_27 : decode cX6_stateByReplay 27 = .ok (.ireturn, 1) := by decide +kernel
theorem dX6_outdated_0 : decode cX6_outdated 0 = .ok (.aload_n 0, 1) := by decide +kernel
theorem dX6_outdated_1 : decode cX6_outdated 1 = .ok (.iload_n 1, 1) := by decide +kernel
theorem dX6_outdated_2 : decode cX6_outdated 2 = .ok (.invokevirtual 64, 3) := by decide +kernel
theorem dX6_outdated_5 : decode cX6_outdated 5 = .ok (.aload_n 0, 1) := by decide +kernel
theorem dX6_outdated_6 : decode cX6_outdated 6 = .ok (.getfield 12, 3) := by decide +kernel
theorem dX6_outdated_9 : decode cX6_outdated 9 = .ok (.iload_n 1, 1) := by decide +kernel
theorem dX6_outdated_10 : decode cX6_outdated 10 = .ok (.invokevirtual 76, 3) := by decide +kernel
theorem dX6_outdated_13 : decode cX6_outdated 13 = .ok (.istore_n 2, 1) := by decide +kernel
theorem dX6_outdated_14 : decode cX6_outdated 14 = .ok (.iconst 0, 1) := by decide +kernel
theorem dX6_outdated_15 : decode cX6_outdated 15 = .ok (.istore_n 3, 1) := by decide +kernel
theorem dX6_outdated_16 : decode cX6_outdated 16 = .ok (.iconst 0, 1) := by decide +kernel
theorem dX6_outdated_17 : decode cX6_outdated 17 = .ok (.istore 4, 2) := by decide +kernel
theorem dX6_outdated_19 : decode cX6_outdated 19 = .ok (.iload 4, 2) := by decide +kernel
theorem dX6_outdated_21 : decode cX6_outdated 21 = .ok (.bipush 100, 2) := by decide +kernel
theorem dX6_outdated_23 : decode cX6_outdated 23 = .ok (.if_icmp .ge 40, 3) := by decide +kernel
theorem dX6_outdated_26 : decode cX6_outdated 26 = .ok (.aload_n 0, 1) := by decide +kernel
theorem dX6_outdated_27 : decode cX6_outdated 27 = .ok (.iload 4, 2) := by decide +kernel
theorem dX6_outdated_29 : decode cX6_outdated 29 = .ok (.invokevirtual 266, 3) := by decide +kernel
theorem dX6_outdated_32 : decode cX6_outdated 32 = .ok (.astore 5, 2) := by decide +kernel
theorem dX6_outdated_34 : decode cX6_outdated 34 = .ok (.aload 5, 2) := by decide +kernel
theorem dX6_outdated_36 : decode cX6_outdated 36 = .ok (.ifnull 21, 3) := by decide +kernel
theorem dX6_outdated_39 : decode cX6_outdated 39 = .ok (.aload 5, 2) := by decide +kernel
theorem dX6_outdated_41 : decode cX6_outdated 41 = .ok (.iload_n 1, 1) := by decide +kernel
theorem dX6_outdated_42 : decode cX6_outdated 42 = .ok (.iload_n 2, 1) := by decide +kernel
theorem dX6_outdated_43 : decode cX6_outdated 43 = .ok (.invokevirtual 269, 3) := by decide +kernel
theorem dX6_outdated_46 : decode cX6_outdated 46 = .ok (.ifCond .eq 11, 3) := by decide +kernel
theorem dX6_outdated_49 : decode cX6_outdated 49 = .ok (.iload_n 3, 1) := by decide +kernel
theorem dX6_outdated_50 : decode cX6_outdated 50 = .ok (.aload 5, 2) := by decide +kernel
theorem dX6_outdated_52 : decode cX6_outdated 52 = .ok (.getfield 247, 3) := by decide +kernel
theorem dX6_outdated_55 : decode cX6_outdated 55 = .ok (.iadd, 1) := by decide +kernel
theorem dX6_outdated_56 : decode cX6_outdated 56 = .ok (.istore_n 3, 1) := by decide +kernel
theorem dX6_outdated_57 : decode cX6_outdated 57 = .ok (.iinc 4 1, 3) := by decide +kernel
theorem dX6_outdated_60 : decode cX6_outdated 60 = .ok (.goto (-41), 3) := by decide +kernel
theorem dX6_outdated_63 : decode cX6_outdated 63 = .ok (.iload_n 3, 1) := by decide +kernel
theorem dX6_outdated_64 : decode cX6_outdated 64 = .ok (.ireturn, 1) := by decide +kernel
theorem dX6_waste_0 : decode cX6_waste 0 = .ok (.aload_n 0, 1) := by decide +kernel
theorem dX6_waste_1 : decode cX6_waste 1 = .ok (.getfield 92, 3) := by decide +kernel
theorem dX6_waste_4 : decode cX6_waste 4 = .ok (.lreturn, 1) := by decide +kernel
theorem dX6_wasteShare_0 : decode cX6_wasteShare 0 = .ok (.aload_n 0, 1) := by decide +kernel
theorem dX6_wasteShare_1 : decode cX6_wasteShare 1 = .ok (.getfield 188, 3) := by decide +kernel
theorem dX6_wasteShare_4 : decode cX6_wasteShare 4 = .ok (.lconst 0, 1) := by decide +kernel
theorem dX6_wasteShare_5 : decode cX6_wasteShare 5 = .ok (.lcmp, 1) := by decide +kernel
theorem dX6_wasteShare_6 : decode cX6_wasteShare 6 = .ok (.ifCond .gt 14, 3) := by decide +kernel
theorem dX6_wasteShare_9 : decode cX6_wasteShare 9 = .ok (.new 273, 3) := by decide +kernel
theorem dX6_wasteShare_12 : decode cX6_wasteShare 12 = .ok (.dup, 1) := by decide +kernel
theorem dX6_wasteShare_13 : decode cX6_wasteShare 13 = .ok (.ldc_w 275, 3) := by decide +kernel
theorem dX6_wasteShare_16 : decode cX6_wasteShare 16 = .ok (.invokespecial 277, 3) := by decide +kernel
theorem dX6_wasteShare_19 : decode cX6_wasteShare 19 = .ok (.athrow, 1) := by decide +kernel
theorem dX6_wasteShare_20 : decode cX6_wasteShare 20 = .ok (.aload_n 0, 1) := by decide +kernel
theorem dX6_wasteShare_21 : decode cX6_wasteShare 21 = .ok (.getfield 92, 3) := by decide +kernel
theorem dX6_wasteShare_24 : decode cX6_wasteShare 24 = .ok (.l2f, 1) := by decide +kernel
theorem dX6_wasteShare_25 : decode cX6_wasteShare 25 = .ok (.aload_n 0, 1) := by decide +kernel
theorem dX6_wasteShare_26 : decode cX6_wasteShare 26 = .ok (.getfield 188, 3) := by decide +kernel
theorem dX6_wasteShare_29 : decode cX6_wasteShare 29 = .ok (.l2f, 1) := by decide +kernel
theorem dX6_wasteShare_30 : decode cX6_wasteShare 30 = .ok (.fdiv, 1) := by decide +kernel
theorem dX6_wasteShare_31 : decode cX6_wasteShare 31 = .ok (.freturn, 1) := by decide +kernel
theorem dX6_meanMakeready_0 : decode cX6_meanMakeready 0 = .ok (.aload_n 0, 1) := by decide +kernel
theorem dX6_meanMakeready_1 : decode cX6_meanMakeready 1 = .ok (.getfield 191, 3) := by decide +kernel
theorem dX6_meanMakeready_4 : decode cX6_meanMakeready 4 = .ok (.lconst 0, 1) := by decide +kernel
theorem dX6_meanMakeready_5 : decode cX6_meanMakeready 5 = .ok (.lcmp, 1) := by decide +kernel
theorem dX6_meanMakeready_6 : decode cX6_meanMakeready 6 = .ok (.ifCond .gt 14, 3) := by decide +kernel
theorem dX6_meanMakeready_9 : decode cX6_meanMakeready 9 = .ok (.new 273, 3) := by decide +kernel
theorem dX6_meanMakeready_12 : decode cX6_meanMakeready 12 = .ok (.dup, 1) := by decide +kernel
theorem dX6_meanMakeready_13 : decode cX6_meanMakeready 13 = .ok (.ldc_w 275, 3) := by decide +kernel
theorem dX6_meanMakeready_16 : decode cX6_meanMakeready 16 = .ok (.invokespecial 277, 3) := by decide +kernel
theorem dX6_meanMakeready_19 : decode cX6_meanMakeready 19 = .ok (.athrow, 1) := by decide +kernel
theorem dX6_meanMakeready_20 : decode cX6_meanMakeready 20 = .ok (.aload_n 0, 1) := by decide +kernel
theorem dX6_meanMakeready_21 : decode cX6_meanMakeready 21 = .ok (.getfield 194, 3) := by decide +kernel
theorem dX6_meanMakeready_24 : decode cX6_meanMakeready 24 = .ok (.l2d, 1) := by decide +kernel
theorem dX6_meanMakeready_25 : decode cX6_meanMakeready 25 = .ok (.aload_n 0, 1) := by decide +kernel
theorem dX6_meanMakeready_26 : decode cX6_meanMakeready 26 = .ok (.getfield 191, 3) := by decide +kernel
theorem dX6_meanMakeready_29 : decode cX6_meanMakeready 29 = .ok (.l2d, 1) := by decide +kernel
theorem dX6_meanMakeready_30 : decode cX6_meanMakeready 30 = .ok (.ddiv, 1) := by decide +kernel
theorem dX6_meanMakeready_31 : decode cX6_meanMakeready 31 = .ok (.dreturn, 1) := by decide +kernel
theorem dX6_requireContent_0 : decode cX6_requireContent 0 = .ok (.iload_n 1, 1) := by decide +kernel
theorem dX6_requireContent_1 : decode cX6_requireContent 1 = .ok (.ifCond .lt 14, 3) := by decide +kernel
theorem dX6_requireContent_4 : decode cX6_requireContent 4 = .ok (.iload_n 1, 1) := by decide +kernel
theorem dX6_requireContent_5 : decode cX6_requireContent 5 = .ok (.aload_n 0, 1) := by decide +kernel
theorem dX6_requireContent_6 : decode cX6_requireContent 6 = .ok (.getfield 12, 3) := by decide +kernel
theorem dX6_requireContent_9 : decode cX6_requireContent 9 = .ok (.getfield 49, 3) := by decide +kernel
theorem dX6_requireContent_12 : decode cX6_requireContent 12 = .ok (.if_icmp .lt 14, 3) := by decide +kernel
theorem dX6_requireContent_15 : decode cX6_requireContent 15 = .ok (.new 278, 3) := by decide +kernel
theorem dX6_requireContent_18 : decode cX6_requireContent 18 = .ok (.dup, 1) := by decide +kernel
theorem dX6_requireContent_19 : decode cX6_requireContent 19 = .ok (.ldc_w 280, 3) := by decide +kernel
theorem dX6_requireContent_22 : decode cX6_requireContent 22 = .ok (.invokespecial 282, 3) := by decide +kernel
theorem dX6_requireContent_25 : decode cX6_requireContent 25 = .ok (.athrow, 1) := by decide +kernel
theorem dX6_requireContent_26 : decode cX6_requireContent 26 = .ok (.return_, 1) := by decide +kernel
theorem dX6_findJob_0 : decode cX6_findJob 0 = .ok (.iload_n 1, 1) := by decide +kernel
theorem dX6_findJob_1 : decode cX6_findJob 1 = .ok (.ifCond .lt 29, 3) := by decide +kernel
theorem dX6_findJob_4 : decode cX6_findJob 4 = .ok (.iload_n 1, 1) := by decide +kernel
theorem dX6_findJob_5 : decode cX6_findJob 5 = .ok (.aload_n 0, 1) := by decide +kernel
theorem dX6_findJob_6 : decode cX6_findJob 6 = .ok (.getfield 101, 3) := by decide +kernel
theorem dX6_findJob_9 : decode cX6_findJob 9 = .ok (.if_icmp .ge 21, 3) := by decide +kernel
theorem dX6_findJob_12 : decode cX6_findJob 12 = .ok (.iload_n 1, 1) := by decide +kernel
theorem dX6_findJob_13 : decode cX6_findJob 13 = .ok (.aload_n 0, 1) := by decide +kernel
theorem dX6_findJob_14 : decode cX6_findJob 14 = .ok (.getfield 18, 3) := by decide +kernel
theorem dX6_findJob_17 : decode cX6_findJob 17 = .ok (.arraylength, 1) := by decide +kernel
theorem dX6_findJob_18 : decode cX6_findJob 18 = .ok (.if_icmp .ge 12, 3) := by decide +kernel
theorem dX6_findJob_21 : decode cX6_findJob 21 = .ok (.aload_n 0, 1) := by decide +kernel
theorem dX6_findJob_22 : decode cX6_findJob 22 = .ok (.getfield 18, 3) := by decide +kernel
theorem dX6_findJob_25 : decode cX6_findJob 25 = .ok (.iload_n 1, 1) := by decide +kernel
theorem dX6_findJob_26 : decode cX6_findJob 26 = .ok (.aaload, 1) := by decide +kernel
theorem dX6_findJob_27 : decode cX6_findJob 27 = .ok (.goto 4, 3) := by decide +kernel
theorem dX6_findJob_30 : decode cX6_findJob 30 = .ok (.aconst_null, 1) := by decide +kernel
theorem dX6_findJob_31 : decode cX6_findJob 31 = .ok (.areturn, 1) := by decide +kernel
theorem dX6_existingJob_0 : decode cX6_existingJob 0 = .ok (.aload_n 0, 1) := by decide +kernel
theorem dX6_existingJob_1 : decode cX6_existingJob 1 = .ok (.iload_n 1, 1) := by decide +kernel
theorem dX6_existingJob_2 : decode cX6_existingJob 2 = .ok (.invokevirtual 82, 3) := by decide +kernel
theorem dX6_existingJob_5 : decode cX6_existingJob 5 = .ok (.astore_n 2, 1) := by decide +kernel
theorem dX6_existingJob_6 : decode cX6_existingJob 6 = .ok (.aload_n 2, 1) := by decide +kernel
theorem dX6_existingJob_7 : decode cX6_existingJob 7 = .ok (.ifnonnull 14, 3) := by decide +kernel
theorem dX6_existingJob_10 : decode cX6_existingJob 10 = .ok (.new 278, 3) := by decide +kernel
theorem dX6_existingJob_13 : decode cX6_existingJob 13 = .ok (.dup, 1) := by decide +kernel
theorem dX6_existingJob_14 : decode cX6_existingJob 14 = .ok (.ldc_w 283, 3) := by decide +kernel
theorem dX6_existingJob_17 : decode cX6_existingJob 17 = .ok (.invokespecial 282, 3) := by decide +kernel
theorem dX6_existingJob_20 : decode cX6_existingJob 20 = .ok (.athrow, 1) := by decide +kernel
theorem dX6_existingJob_21 : decode cX6_existingJob 21 = .ok (.aload_n 2, 1) := by decide +kernel
theorem dX6_existingJob_22 : decode cX6_existingJob 22 = .ok (.areturn, 1) := by decide +kernel
theorem dX6_completeJob_0 : decode cX6_completeJob 0 = .ok (.aload_n 0, 1) := by decide +kernel
theorem dX6_completeJob_1 : decode cX6_completeJob 1 = .ok (.iload_n 1, 1) := by decide +kernel
theorem dX6_completeJob_2 : decode cX6_completeJob 2 = .ok (.invokevirtual 109, 3) := by decide +kernel
theorem dX6_completeJob_5 : decode cX6_completeJob 5 = .ok (.astore_n 2, 1) := by decide +kernel
theorem dX6_completeJob_6 : decode cX6_completeJob 6 = .ok (.aload_n 2, 1) := by decide +kernel
theorem dX6_completeJob_7 : decode cX6_completeJob 7 = .ok (.invokestatic 223, 3) := by decide +kernel
theorem dX6_completeJob_10 : decode cX6_completeJob 10 = .ok (.aload_n 2, 1) := by decide +kernel
theorem dX6_completeJob_11 : decode cX6_completeJob 11 = .ok (.areturn, 1) := by decide +kernel
theorem dX6_requireComplete_0 : decode cX6_requireComplete 0 = .ok (.aload_n 0, 1) := by decide +kernel
theorem dX6_requireComplete_1 : decode cX6_requireComplete 1 = .ok (.invokevirtual 285, 3) := by decide +kernel
theorem dX6_requireComplete_4 : decode cX6_requireComplete 4 = .ok (.ifCond .ne 14, 3) := by decide +kernel
theorem dX6_requireComplete_7 : decode cX6_requireComplete 7 = .ok (.new 53, 3) := by decide +kernel
theorem dX6_requireComplete_10 : decode cX6_requireComplete 10 = .ok (.dup, 1) := by decide +kernel
theorem dX6_requireComplete_11 : decode cX6_requireComplete 11 = .ok (.ldc_w 289, 3) := by decide +kernel
theorem dX6_requireComplete_14 : decode cX6_requireComplete 14 = .ok (.invokespecial 57, 3) := by decide +kernel
theorem dX6_requireComplete_17 : decode cX6_requireComplete 17 = .ok (.athrow, 1) := by decide +kernel
theorem dX6_requireComplete_18 : decode cX6_requireComplete 18 = .ok (.return_, 1) := by decide +kernel
theorem dX6_requireSheet_0 : decode cX6_requireSheet 0 = .ok (.iload_n 1, 1) := by decide +kernel
theorem dX6_requireSheet_1 : decode cX6_requireSheet 1 = .ok (.ifCond .lt 11, 3) := by decide +kernel
theorem dX6_requireSheet_4 : decode cX6_requireSheet 4 = .ok (.iload_n 1, 1) := by decide +kernel
theorem dX6_requireSheet_5 : decode cX6_requireSheet 5 = .ok (.aload_n 0, 1) := by decide +kernel
theorem dX6_requireSheet_6 : decode cX6_requireSheet 6 = .ok (.invokevirtual 124, 3) := by decide +kernel
theorem dX6_requireSheet_9 : decode cX6_requireSheet 9 = .ok (.if_icmp .lt 14, 3) := by decide +kernel
theorem dX6_requireSheet_12 : decode cX6_requireSheet 12 = .ok (.new 134, 3) := by decide +kernel
theorem dX6_requireSheet_15 : decode cX6_requireSheet 15 = .ok (.dup, 1) := by decide +kernel
theorem dX6_requireSheet_16 : decode cX6_requireSheet 16 = .ok (.ldc_w 291, 3) := by decide +kernel
theorem dX6_requireSheet_19 : decode cX6_requireSheet 19 = .ok (.invokespecial 138, 3) := by decide +kernel
theorem dX6_requireSheet_22 : decode cX6_requireSheet 22 = .ok (.athrow, 1) := by decide +kernel
theorem dX6_requireSheet_23 : decode cX6_requireSheet 23 = .ok (.return_, 1) := by decide +kernel
theorem dX6_requireCount_0 : decode cX6_requireCount 0 = .ok (.iload_n 0, 1) := by decide +kernel
theorem dX6_requireCount_1 : decode cX6_requireCount 1 = .ok (.iconst 1, 1) := by decide +kernel
theorem dX6_requireCount_2 : decode cX6_requireCount 2 = .ok (.if_icmp .lt 10, 3) := by decide +kernel
theorem dX6_requireCount_5 : decode cX6_requireCount 5 = .ok (.iload_n 0, 1) := by decide +kernel
theorem dX6_requireCount_6 : decode cX6_requireCount 6 = .ok (.sipush 500, 3) := by decide +kernel
theorem dX6_requireCount_9 : decode cX6_requireCount 9 = .ok (.if_icmp .le 14, 3) := by decide +kernel
theorem dX6_requireCount_12 : decode cX6_requireCount 12 = .ok (.new 96, 3) := by decide +kernel
theorem dX6_requireCount_15 : decode cX6_requireCount 15 = .ok (.dup, 1) := by decide +kernel
theorem dX6_requireCount_16 : decode cX6_requireCount 16 = .ok (.ldc_w 293, 3) := by decide +kernel
theorem dX6_requireCount_19 : decode cX6_requireCount 19 = .ok (.invokespecial 100, 3) := by decide +kernel
theorem dX6_requireCount_22 : decode cX6_requireCount 22 = .ok (.athrow, 1) := by decide +kernel
theorem dX6_requireCount_23 : decode cX6_requireCount 23 = .ok (.return_, 1) := by decide +kernel
theorem dX6_findLot_0 : decode cX6_findLot 0 = .ok (.iload_n 1, 1) := by decide +kernel
theorem dX6_findLot_1 : decode cX6_findLot 1 = .ok (.ifCond .lt 29, 3) := by decide +kernel
theorem dX6_findLot_4 : decode cX6_findLot 4 = .ok (.iload_n 1, 1) := by decide +kernel
theorem dX6_findLot_5 : decode cX6_findLot 5 = .ok (.aload_n 0, 1) := by decide +kernel
theorem dX6_findLot_6 : decode cX6_findLot 6 = .ok (.getfield 226, 3) := by decide +kernel
theorem dX6_findLot_9 : decode cX6_findLot 9 = .ok (.if_icmp .ge 21, 3) := by decide +kernel
theorem dX6_findLot_12 : decode cX6_findLot 12 = .ok (.iload_n 1, 1) := by decide +kernel
theorem dX6_findLot_13 : decode cX6_findLot 13 = .ok (.aload_n 0, 1) := by decide +kernel
theorem dX6_findLot_14 : decode cX6_findLot 14 = .ok (.getfield 45, 3) := by decide +kernel
theorem dX6_findLot_17 : decode cX6_findLot 17 = .ok (.arraylength, 1) := by decide +kernel
theorem dX6_findLot_18 : decode cX6_findLot 18 = .ok (.if_icmp .ge 12, 3) := by decide +kernel
theorem dX6_findLot_21 : decode cX6_findLot 21 = .ok (.aload_n 0, 1) := by decide +kernel
theorem dX6_findLot_22 : decode cX6_findLot 22 = .ok (.getfield 45, 3) := by decide +kernel
theorem dX6_findLot_25 : decode cX6_findLot 25 = .ok (.iload_n 1, 1) := by decide +kernel
theorem dX6_findLot_26 : decode cX6_findLot 26 = .ok (.aaload, 1) := by decide +kernel
theorem dX6_findLot_27 : decode cX6_findLot 27 = .ok (.goto 4, 3) := by decide +kernel
theorem dX6_findLot_30 : decode cX6_findLot 30 = .ok (.aconst_null, 1) := by decide +kernel
theorem dX6_findLot_31 : decode cX6_findLot 31 = .ok (.areturn, 1) := by decide +kernel
theorem dX6_existingLot_0 : decode cX6_existingLot 0 = .ok (.aload_n 0, 1) := by decide +kernel
theorem dX6_existingLot_1 : decode cX6_existingLot 1 = .ok (.iload_n 1, 1) := by decide +kernel
theorem dX6_existingLot_2 : decode cX6_existingLot 2 = .ok (.invokevirtual 266, 3) := by decide +kernel
theorem dX6_existingLot_5 : decode cX6_existingLot 5 = .ok (.astore_n 2, 1) := by decide +kernel
theorem dX6_existingLot_6 : decode cX6_existingLot 6 = .ok (.aload_n 2, 1) := by decide +kernel
theorem dX6_existingLot_7 : decode cX6_existingLot 7 = .ok (.ifnonnull 14, 3) := by decide +kernel
theorem dX6_existingLot_10 : decode cX6_existingLot 10 = .ok (.new 278, 3) := by decide +kernel
theorem dX6_existingLot_13 : decode cX6_existingLot 13 = .ok (.dup, 1) := by decide +kernel
theorem dX6_existingLot_14 : decode cX6_existingLot 14 = .ok (.ldc_w 295, 3) := by decide +kernel
theorem dX6_existingLot_17 : decode cX6_existingLot 17 = .ok (.invokespecial 282, 3) := by decide +kernel
theorem dX6_existingLot_20 : decode cX6_existingLot 20 = .ok (.athrow, 1) := by decide +kernel
theorem dX6_existingLot_21 : decode cX6_existingLot 21 = .ok (.aload_n 2, 1) := by decide +kernel
theorem dX6_existingLot_22 : decode cX6_existingLot 22 = .ok (.areturn, 1) := by decide +kernel
theorem dX6_requirePage_0 : decode cX6_requirePage 0 = .ok (.iload_n 1, 1) := by decide +kernel
theorem dX6_requirePage_1 : decode cX6_requirePage 1 = .ok (.iconst 1, 1) := by decide +kernel
theorem dX6_requirePage_2 : decode cX6_requirePage 2 = .ok (.if_icmp .lt 11, 3) := by decide +kernel
theorem dX6_requirePage_5 : decode cX6_requirePage 5 = .ok (.iload_n 1, 1) := by decide +kernel
theorem dX6_requirePage_6 : decode cX6_requirePage 6 = .ok (.aload_n 0, 1) := by decide +kernel
theorem dX6_requirePage_7 : decode cX6_requirePage 7 = .ok (.getfield 297, 3) := by decide +kernel
theorem dX6_requirePage_10 : decode cX6_requirePage 10 = .ok (.if_icmp .le 14, 3) := by decide +kernel
theorem dX6_requirePage_13 : decode cX6_requirePage 13 = .ok (.new 134, 3) := by decide +kernel
theorem dX6_requirePage_16 : decode cX6_requirePage 16 = .ok (.dup, 1) := by decide +kernel
theorem dX6_requirePage_17 : decode cX6_requirePage 17 = .ok (.ldc_w 298, 3) := by decide +kernel
theorem dX6_requirePage_20 : decode cX6_requirePage 20 = .ok (.invokespecial 138, 3) := by decide +kernel
theorem dX6_requirePage_23 : decode cX6_requirePage 23 = .ok (.athrow, 1) := by decide +kernel
theorem dX6_requirePage_24 : decode cX6_requirePage 24 = .ok (.return_, 1) := by decide +kernel
theorem dX6_isWhollyApproved_0 : decode cX6_isWhollyApproved 0 = .ok (.aload_n 1, 1) := by decide +kernel
theorem dX6_isWhollyApproved_1 : decode cX6_isWhollyApproved 1 = .ok (.invokevirtual 131, 3) := by decide +kernel
theorem dX6_isWhollyApproved_4 : decode cX6_isWhollyApproved 4 = .ok (.istore_n 3, 1) := by decide +kernel
theorem dX6_isWhollyApproved_5 : decode cX6_isWhollyApproved 5 = .ok (.iconst 0, 1) := by decide +kernel
theorem dX6_isWhollyApproved_6 : decode cX6_isWhollyApproved 6 = .ok (.istore 4, 2) := by decide +kernel
theorem dX6_isWhollyApproved_8 : decode cX6_isWhollyApproved 8 = .ok (.iload 4, 2) := by decide +kernel
theorem dX6_isWhollyApproved_10 : decode cX6_isWhollyApproved 10 = .ok (.iload_n 3, 1) := by decide +kernel
theorem dX6_isWhollyApproved_11 : decode cX6_isWhollyApproved 11 = .ok (.if_icmp .ge 28, 3) := by decide +kernel
theorem dX6_isWhollyApproved_14 : decode cX6_isWhollyApproved 14 = .ok (.aload_n 0, 1) := by decide +kernel
theorem dX6_isWhollyApproved_15 : decode cX6_isWhollyApproved 15 = .ok (.getfield 12, 3) := by decide +kernel
theorem dX6_isWhollyApproved_18 : decode cX6_isWhollyApproved 18 = .ok (.aload_n 1, 1) := by decide +kernel
theorem dX6_isWhollyApproved_19 : decode cX6_isWhollyApproved 19 = .ok (.iload_n 2, 1) := by decide +kernel
theorem dX6_isWhollyApproved_20 : decode cX6_isWhollyApproved 20 = .ok (.iload 4, 2) := by decide +kernel
theorem dX6_isWhollyApproved_22 : decode cX6_isWhollyApproved 22 = .ok (.invokevirtual 300, 3) := by decide +kernel
theorem dX6_isWhollyApproved_25 : decode cX6_isWhollyApproved 25 = .ok (.invokevirtual 68, 3) := by decide +kernel
theorem dX6_isWhollyApproved_28 : decode cX6_isWhollyApproved 28 = .ok (.ifCond .ne 5, 3) := by decide +kernel
theorem dX6_isWhollyApproved_31 : decode cX6_isWhollyApproved 31 = .ok (.iconst 0, 1) := by decide +kernel
theorem dX6_isWhollyApproved_32 : decode cX6_isWhollyApproved 32 = .ok (.ireturn, 1) := by decide +kernel
theorem dX6_isWhollyApproved_33 : decode cX6_isWhollyApproved 33 = .ok (.iinc 4 1, 3) := by decide +kernel
theorem dX6_isWhollyApproved_36 : decode cX6_isWhollyApproved 36 = .ok (.goto (-28), 3) := by decide +kernel
theorem dX6_isWhollyApproved_39 : decode cX6_isWhollyApproved 39 = .ok (.iconst 1, 1) := by decide +kernel
theorem dX6_isWhollyApproved_40 : decode cX6_isWhollyApproved 40 = .ok (.ireturn, 1) := by decide +kernel
theorem dX6_plateFor_0 : decode cX6_plateFor 0 = .ok (.aload_n 1, 1) := by decide +kernel
theorem dX6_plateFor_1 : decode cX6_plateFor 1 = .ok (.invokevirtual 131, 3) := by decide +kernel
theorem dX6_plateFor_4 : decode cX6_plateFor 4 = .ok (.iconst 2, 1) := by decide +kernel
theorem dX6_plateFor_5 : decode cX6_plateFor 5 = .ok (.if_icmp .ne 18, 3) := by decide +kernel
theorem dX6_plateFor_8 : decode cX6_plateFor 8 = .ok (.aload_n 0, 1) := by decide +kernel
theorem dX6_plateFor_9 : decode cX6_plateFor 9 = .ok (.getfield 12, 3) := by decide +kernel
theorem dX6_plateFor_12 : decode cX6_plateFor 12 = .ok (.aload_n 1, 1) := by decide +kernel
theorem dX6_plateFor_13 : decode cX6_plateFor 13 = .ok (.iload_n 2, 1) := by decide +kernel
theorem dX6_plateFor_14 : decode cX6_plateFor 14 = .ok (.iload_n 3, 1) := by decide +kernel
theorem dX6_plateFor_15 : decode cX6_plateFor 15 = .ok (.invokevirtual 300, 3) := by decide +kernel
theorem dX6_plateFor_18 : decode cX6_plateFor 18 = .ok (.iconst (-1), 1) := by decide +kernel
theorem dX6_plateFor_19 : decode cX6_plateFor 19 = .ok (.invokevirtual 303, 3) := by decide +kernel
theorem dX6_plateFor_22 : decode cX6_plateFor 22 = .ok (.ireturn, 1) := by decide +kernel
theorem dX6_plateFor_23 : decode cX6_plateFor 23 = .ok (.aload_n 0, 1) := by decide +kernel
theorem dX6_plateFor_24 : decode cX6_plateFor 24 = .ok (.getfield 12, 3) := by decide +kernel
theorem dX6_plateFor_27 : decode cX6_plateFor 27 = .ok (.aload_n 1, 1) := by decide +kernel
theorem dX6_plateFor_28 : decode cX6_plateFor 28 = .ok (.iload_n 2, 1) := by decide +kernel
theorem dX6_plateFor_29 : decode cX6_plateFor 29 = .ok (.iconst 2, 1) := by decide +kernel
theorem dX6_plateFor_30 : decode cX6_plateFor 30 = .ok (.iload_n 3, 1) := by decide +kernel
theorem dX6_plateFor_31 : decode cX6_plateFor 31 = .ok (.imul, 1) := by decide +kernel
theorem dX6_plateFor_32 : decode cX6_plateFor 32 = .ok (.invokevirtual 300, 3) := by decide +kernel
theorem dX6_plateFor_35 : decode cX6_plateFor 35 = .ok (.aload_n 1, 1) := by decide +kernel
theorem dX6_plateFor_36 : decode cX6_plateFor 36 = .ok (.iload_n 2, 1) := by decide +kernel
theorem dX6_plateFor_37 : decode cX6_plateFor 37 = .ok (.iconst 2, 1) := by decide +kernel
theorem dX6_plateFor_38 : decode cX6_plateFor 38 = .ok (.iload_n 3, 1) := by decide +kernel
theorem dX6_plateFor_39 : decode cX6_plateFor 39 = .ok (.imul, 1) := by decide +kernel
theorem dX6_plateFor_40 : decode cX6_plateFor 40 = .ok (.iconst 1, 1) := by decide +kernel
theorem dX6_plateFor_41 : decode cX6_plateFor 41 = .ok (.iadd, 1) := by decide +kernel
theorem dX6_plateFor_42 : decode cX6_plateFor 42 = .ok (.invokevirtual 300, 3) := by decide +kernel
theorem dX6_plateFor_45 : decode cX6_plateFor 45 = .ok (.invokevirtual 303, 3) := by decide +kernel
theorem dX6_plateFor_48 : decode cX6_plateFor 48 = .ok (.ireturn, 1) := by decide +kernel
theorem dX6_isOnEarlierSide_0 : decode cX6_isOnEarlierSide 0 = .ok (.iconst 0, 1) := by decide +kernel
theorem dX6_isOnEarlierSide_1 : decode cX6_isOnEarlierSide 1 = .ok (.istore 4, 2) := by decide +kernel
theorem dX6_isOnEarlierSide_3 : decode cX6_isOnEarlierSide 3 = .ok (.iload 4, 2) := by decide +kernel
theorem dX6_isOnEarlierSide_5 : decode cX6_isOnEarlierSide 5 = .ok (.iload_n 2, 1) := by decide +kernel
theorem dX6_isOnEarlierSide_6 : decode cX6_isOnEarlierSide 6 = .ok (.if_icmp .ge 28, 3) := by decide +kernel
theorem dX6_isOnEarlierSide_9 : decode cX6_isOnEarlierSide 9 = .ok (.aload_n 0, 1) := by decide +kernel
theorem dX6_isOnEarlierSide_10 : decode cX6_isOnEarlierSide 10 = .ok (.aload_n 1, 1) := by decide +kernel
theorem dX6_isOnEarlierSide_11 : decode cX6_isOnEarlierSide 11 = .ok (.iload 4, 2) := by decide +kernel
theorem dX6_isOnEarlierSide_13 : decode cX6_isOnEarlierSide 13 = .ok (.iconst 2, 1) := by decide +kernel
theorem dX6_isOnEarlierSide_14 : decode cX6_isOnEarlierSide 14 = .ok (.idiv, 1) := by decide +kernel
theorem dX6_isOnEarlierSide_15 : decode cX6_isOnEarlierSide 15 = .ok (.iload 4, 2) := by decide +kernel
theorem dX6_isOnEarlierSide_17 : decode cX6_isOnEarlierSide 17 = .ok (.iconst 2, 1) := by decide +kernel
theorem dX6_isOnEarlierSide_18 : decode cX6_isOnEarlierSide 18 = .ok (.irem, 1) := by decide +kernel
theorem dX6_isOnEarlierSide_19 : decode cX6_isOnEarlierSide 19 = .ok (.invokevirtual 165, 3) := by decide +kernel
theorem dX6_isOnEarlierSide_22 : decode cX6_isOnEarlierSide 22 = .ok (.iload_n 3, 1) := by decide +kernel
theorem dX6_isOnEarlierSide_23 : decode cX6_isOnEarlierSide 23 = .ok (.if_icmp .ne 5, 3) := by decide +kernel
theorem dX6_isOnEarlierSide_26 : decode cX6_isOnEarlierSide 26 = .ok (.iconst 1, 1) := by decide +kernel
theorem dX6_isOnEarlierSide_27 : decode cX6_isOnEarlierSide 27 = .ok (.ireturn, 1) := by decide +kernel
theorem dX6_isOnEarlierSide_28 : decode cX6_isOnEarlierSide 28 = .ok (.iinc 4 1, 3) := by decide +kernel
theorem dX6_isOnEarlierSide_31 : decode cX6_isOnEarlierSide 31 = .ok (.goto (-28), 3) := by decide +kernel
theorem dX6_isOnEarlierSide_34 : decode cX6_isOnEarlierSide 34 = .ok (.iconst 0, 1) := by decide +kernel
theorem dX6_isOnEarlierSide_35 : decode cX6_isOnEarlierSide 35 = .ok (.ireturn, 1) := by decide +kernel
theorem dX6_loadOrders_0 : decode cX6_loadOrders 0 = .ok (.aload_n 1, 1) := by decide +kernel
theorem dX6_loadOrders_1 : decode cX6_loadOrders 1 = .ok (.invokevirtual 124, 3) := by decide +kernel
theorem dX6_loadOrders_4 : decode cX6_loadOrders 4 = .ok (.istore_n 2, 1) := by decide +kernel
theorem dX6_loadOrders_5 : decode cX6_loadOrders 5 = .ok (.aload_n 0, 1) := by decide +kernel
theorem dX6_loadOrders_6 : decode cX6_loadOrders 6 = .ok (.getfield 39, 3) := by decide +kernel
theorem dX6_loadOrders_9 : decode cX6_loadOrders 9 = .ok (.iload_n 2, 1) := by decide +kernel
theorem dX6_loadOrders_10 : decode cX6_loadOrders 10 = .ok (.aload_n 0, 1) := by decide +kernel
theorem dX6_loadOrders_11 : decode cX6_loadOrders 11 = .ok (.getfield 25, 3) := by decide +kernel
theorem dX6_loadOrders_14 : decode cX6_loadOrders 14 = .ok (.getfield 306, 3) := by decide +kernel
theorem dX6_loadOrders_17 : decode cX6_loadOrders 17 = .ok (.aload_n 0, 1) := by decide +kernel
theorem dX6_loadOrders_18 : decode cX6_loadOrders 18 = .ok (.getfield 25, 3) := by decide +kernel
theorem dX6_loadOrders_21 : decode cX6_loadOrders 21 = .ok (.getfield 309, 3) := by decide +kernel
theorem dX6_loadOrders_24 : decode cX6_loadOrders 24 = .ok (.invokevirtual 312, 3) := by decide +kernel
theorem dX6_loadOrders_27 : decode cX6_loadOrders 27 = .ok (.iconst 0, 1) := by decide +kernel
theorem dX6_loadOrders_28 : decode cX6_loadOrders 28 = .ok (.istore_n 3, 1) := by decide +kernel
theorem dX6_loadOrders_29 : decode cX6_loadOrders 29 = .ok (.iload_n 3, 1) := by decide +kernel
theorem dX6_loadOrders_30 : decode cX6_loadOrders 30 = .ok (.iload_n 2, 1) := by decide +kernel
theorem dX6_loadOrders_31 : decode cX6_loadOrders 31 = .ok (.if_icmp .ge 31, 3) := by decide +kernel
theorem dX6_loadOrders_34 : decode cX6_loadOrders 34 = .ok (.aload_n 0, 1) := by decide +kernel
theorem dX6_loadOrders_35 : decode cX6_loadOrders 35 = .ok (.getfield 39, 3) := by decide +kernel
theorem dX6_loadOrders_38 : decode cX6_loadOrders 38 = .ok (.iload_n 3, 1) := by decide +kernel
theorem dX6_loadOrders_39 : decode cX6_loadOrders 39 = .ok (.aload_n 0, 1) := by decide +kernel
theorem dX6_loadOrders_40 : decode cX6_loadOrders 40 = .ok (.aload_n 1, 1) := by decide +kernel
theorem dX6_loadOrders_41 : decode cX6_loadOrders 41 = .ok (.iload_n 3, 1) := by decide +kernel
theorem dX6_loadOrders_42 : decode cX6_loadOrders 42 = .ok (.iconst 0, 1) := by decide +kernel
theorem dX6_loadOrders_43 : decode cX6_loadOrders 43 = .ok (.invokevirtual 165, 3) := by decide +kernel
theorem dX6_loadOrders_46 : decode cX6_loadOrders 46 = .ok (.aload_n 0, 1) := by decide +kernel
theorem dX6_loadOrders_47 : decode cX6_loadOrders 47 = .ok (.aload_n 1, 1) := by decide +kernel
theorem dX6_loadOrders_48 : decode cX6_loadOrders 48 = .ok (.iload_n 3, 1) := by decide +kernel
theorem dX6_loadOrders_49 : decode cX6_loadOrders 49 = .ok (.iconst 1, 1) := by decide +kernel
theorem dX6_loadOrders_50 : decode cX6_loadOrders 50 = .ok (.invokevirtual 165, 3) := by decide +kernel
theorem dX6_loadOrders_53 : decode cX6_loadOrders 53 = .ok (.invokevirtual 316, 3) := by decide +kernel
theorem dX6_loadOrders_56 : decode cX6_loadOrders 56 = .ok (.iinc 3 1, 3) := by decide +kernel
theorem dX6_loadOrders_59 : decode cX6_loadOrders 59 = .ok (.goto (-30), 3) := by decide +kernel
theorem dX6_loadOrders_62 : decode cX6_loadOrders 62 = .ok (.return_, 1) := by decide +kernel
theorem dX6_newLot_0 : decode cX6_newLot 0 = .ok (.new 43, 3) := by decide +kernel
theorem dX6_newLot_3 : decode cX6_newLot 3 = .ok (.dup, 1) := by decide +kernel
theorem dX6_newLot_4 : decode cX6_newLot 4 = .ok (.iload_n 2, 1) := by decide +kernel
theorem dX6_newLot_5 : decode cX6_newLot 5 = .ok (.aload_n 1, 1) := by decide +kernel
theorem dX6_newLot_6 : decode cX6_newLot 6 = .ok (.getfield 112, 3) := by decide +kernel
theorem dX6_newLot_9 : decode cX6_newLot 9 = .ok (.aload_n 0, 1) := by decide +kernel
theorem dX6_newLot_10 : decode cX6_newLot 10 = .ok (.getfield 12, 3) := by decide +kernel
theorem dX6_newLot_13 : decode cX6_newLot 13 = .ok (.getfield 319, 3) := by decide +kernel
theorem dX6_newLot_16 : decode cX6_newLot 16 = .ok (.invokespecial 320, 3) := by decide +kernel
theorem dX6_newLot_19 : decode cX6_newLot 19 = .ok (.astore_n 3, 1) := by decide +kernel
theorem dX6_newLot_20 : decode cX6_newLot 20 = .ok (.iconst 1, 1) := by decide +kernel
theorem dX6_newLot_21 : decode cX6_newLot 21 = .ok (.istore 4, 2) := by decide +kernel
theorem dX6_newLot_23 : decode cX6_newLot 23 = .ok (.iload 4, 2) := by decide +kernel
theorem dX6_newLot_25 : decode cX6_newLot 25 = .ok (.aload_n 1, 1) := by decide +kernel
theorem dX6_newLot_26 : decode cX6_newLot 26 = .ok (.getfield 112, 3) := by decide +kernel
theorem dX6_newLot_29 : decode cX6_newLot 29 = .ok (.if_icmp .gt 34, 3) := by decide +kernel
theorem dX6_newLot_32 : decode cX6_newLot 32 = .ok (.aload_n 1, 1) := by decide +kernel
theorem dX6_newLot_33 : decode cX6_newLot 33 = .ok (.iload 4, 2) := by decide +kernel
theorem dX6_newLot_35 : decode cX6_newLot 35 = .ok (.invokevirtual 322, 3) := by decide +kernel
theorem dX6_newLot_38 : decode cX6_newLot 38 = .ok (.istore 5, 2) := by decide +kernel
theorem dX6_newLot_40 : decode cX6_newLot 40 = .ok (.aload_n 3, 1) := by decide +kernel
theorem dX6_newLot_41 : decode cX6_newLot 41 = .ok (.iload 4, 2) := by decide +kernel
theorem dX6_newLot_43 : decode cX6_newLot 43 = .ok (.iload 5, 2) := by decide +kernel
theorem dX6_newLot_45 : decode cX6_newLot 45 = .ok (.aload_n 0, 1) := by decide +kernel
theorem dX6_newLot_46 : decode cX6_newLot 46 = .ok (.getfield 12, 3) := by decide +kernel
theorem dX6_newLot_49 : decode cX6_newLot 49 = .ok (.iload 5, 2) := by decide +kernel
theorem dX6_newLot_51 : decode cX6_newLot 51 = .ok (.invokevirtual 76, 3) := by decide +kernel
theorem dX6_newLot_54 : decode cX6_newLot 54 = .ok (.invokevirtual 323, 3) := by decide +kernel
theorem dX6_newLot_57 : decode cX6_newLot 57 = .ok (.iinc 4 1, 3) := by decide +kernel
theorem dX6_newLot_60 : decode cX6_newLot 60 = .ok (.goto (-37), 3) := by decide +kernel
theorem dX6_newLot_63 : decode cX6_newLot 63 = .ok (.aload_n 3, 1) := by decide +kernel
theorem dX6_newLot_64 : decode cX6_newLot 64 = .ok (.areturn, 1) := by decide +kernel
theorem dX6_at_0 : decode cX6_at 0 = .ok (.iload_n 1, 1) := by decide +kernel
theorem dX6_at_1 : decode cX6_at 1 = .ok (.ifCond .lt 15, 3) := by decide +kernel
theorem dX6_at_4 : decode cX6_at 4 = .ok (.iload_n 1, 1) := by decide +kernel
theorem dX6_at_5 : decode cX6_at 5 = .ok (.aload_n 0, 1) := by decide +kernel
theorem dX6_at_6 : decode cX6_at 6 = .ok (.arraylength, 1) := by decide +kernel
theorem dX6_at_7 : decode cX6_at 7 = .ok (.if_icmp .ge 9, 3) := by decide +kernel
theorem dX6_at_10 : decode cX6_at 10 = .ok (.aload_n 0, 1) := by decide +kernel
theorem dX6_at_11 : decode cX6_at 11 = .ok (.iload_n 1, 1) := by decide +kernel
theorem dX6_at_12 : decode cX6_at 12 = .ok (.iaload, 1) := by decide +kernel
theorem dX6_at_13 : decode cX6_at 13 = .ok (.goto 4, 3) := by decide +kernel
theorem dX6_at_16 : decode cX6_at 16 = .ok (.iconst 0, 1) := by decide +kernel
theorem dX6_at_17 : decode cX6_at 17 = .ok (.ireturn, 1) := by decide +kernel
theorem dX6_put_0 : decode cX6_put 0 = .ok (.iload_n 1, 1) := by decide +kernel
theorem dX6_put_1 : decode cX6_put 1 = .ok (.ifCond .lt 13, 3) := by decide +kernel
theorem dX6_put_4 : decode cX6_put 4 = .ok (.iload_n 1, 1) := by decide +kernel
theorem dX6_put_5 : decode cX6_put 5 = .ok (.aload_n 0, 1) := by decide +kernel
theorem dX6_put_6 : decode cX6_put 6 = .ok (.arraylength, 1) := by decide +kernel
theorem dX6_put_7 : decode cX6_put 7 = .ok (.if_icmp .ge 7, 3) := by decide +kernel
theorem dX6_put_10 : decode cX6_put 10 = .ok (.aload_n 0, 1) := by decide +kernel
theorem dX6_put_11 : decode cX6_put 11 = .ok (.iload_n 1, 1) := by decide +kernel
theorem dX6_put_12 : decode cX6_put 12 = .ok (.iload_n 2, 1) := by decide +kernel
theorem dX6_put_13 : decode cX6_put 13 = .ok (.iastore, 1) := by decide +kernel
theorem dX6_put_14 : decode cX6_put 14 = .ok (.return_, 1) := by decide +kernel
theorem dX7_init_0 : decode cX7_init 0 = .ok (.aload_n 0, 1) := by decide +kernel
theorem dX7_init_1 : decode cX7_init 1 = .ok (.invokespecial 1, 3) := by decide +kernel
theorem dX7_init_4 : decode cX7_init 4 = .ok (.aload_n 0, 1) := by decide +kernel
theorem dX7_init_5 : decode cX7_init 5 = .ok (.bipush 12, 2) := by decide +kernel
theorem dX7_init_7 : decode cX7_init 7 = .ok (.newarray .int, 2) := by decide +kernel
theorem dX7_init_9 : decode cX7_init 9 = .ok (.putfield 7, 3) := by decide +kernel
theorem dX7_init_12 : decode cX7_init 12 = .ok (.aload_n 0, 1) := by decide +kernel
theorem dX7_init_13 : decode cX7_init 13 = .ok (.iconst 4, 1) := by decide +kernel
theorem dX7_init_14 : decode cX7_init 14 = .ok (.newarray .int, 2) := by decide +kernel
theorem dX7_init_16 : decode cX7_init 16 = .ok (.putfield 13, 3) := by decide +kernel
theorem dX7_init_19 : decode cX7_init 19 = .ok (.aload_n 0, 1) := by decide +kernel
theorem dX7_init_20 : decode cX7_init 20 = .ok (.iconst 4, 1) := by decide +kernel
theorem dX7_init_21 : decode cX7_init 21 = .ok (.newarray .int, 2) := by decide +kernel
theorem dX7_init_23 : decode cX7_init 23 = .ok (.putfield 16, 3) := by decide +kernel
theorem dX7_init_26 : decode cX7_init 26 = .ok (.aload_n 0, 1) := by decide +kernel
theorem dX7_init_27 : decode cX7_init 27 = .ok (.bipush 64, 2) := by decide +kernel
theorem dX7_init_29 : decode cX7_init 29 = .ok (.newarray .int, 2) := by decide +kernel
theorem dX7_init_31 : decode cX7_init 31 = .ok (.putfield 19, 3) := by decide +kernel
theorem dX7_init_34 : decode cX7_init 34 = .ok (.aload_n 0, 1) := by decide +kernel
theorem dX7_init_35 : decode cX7_init 35 = .ok (.bipush 32, 2) := by decide +kernel
theorem dX7_init_37 : decode cX7_init 37 = .ok (.newarray .int, 2) := by decide +kernel
theorem dX7_init_39 : decode cX7_init 39 = .ok (.putfield 22, 3) := by decide +kernel
theorem dX7_init_42 : decode cX7_init 42 = .ok (.aload_n 0, 1) := by decide +kernel
theorem dX7_init_43 : decode cX7_init 43 = .ok (.bipush 12, 2) := by decide +kernel
theorem dX7_init_45 : decode cX7_init 45 = .ok (.newarray .boolean, 2) := by decide +kernel
theorem dX7_init_47 : decode cX7_init 47 = .ok (.putfield 25, 3) := by decide +kernel
theorem dX7_init_50 : decode cX7_init 50 = .ok (.aload_n 0, 1) := by decide +kernel
theorem dX7_init_51 : decode cX7_init 51 = .ok (.sipush 1100, 3) := by decide +kernel
theorem dX7_init_54 : decode cX7_init 54 = .ok (.newarray .int, 2) := by decide +kernel
theorem dX7_init_56 : decode cX7_init 56 = .ok (.putfield 29, 3) := by decide +kernel
theorem dX7_init_59 : decode cX7_init 59 = .ok (.aload_n 0, 1) := by decide +kernel
theorem dX7_init_60 : decode cX7_init 60 = .ok (.bipush 8, 2) := by decide +kernel
theorem dX7_init_62 : decode cX7_init 62 = .ok (.newarray .int, 2) := by decide +kernel
theorem dX7_init_64 : decode cX7_init 64 = .ok (.putfield 32, 3) := by decide +kernel
theorem dX7_init_67 : decode cX7_init 67 = .ok (.aload_n 0, 1) := by decide +kernel
theorem dX7_init_68 : decode cX7_init 68 = .ok (.bipush 8, 2) := by decide +kernel
theorem dX7_init_70 : decode cX7_init 70 = .ok (.newarray .int, 2) := by decide +kernel
theorem dX7_init_72 : decode cX7_init 72 = .ok (.putfield 35, 3) := by decide +kernel
theorem dX7_init_75 : decode cX7_init 75 = .ok (.aload_n 0, 1) := by decide +kernel
theorem dX7_init_76 : decode cX7_init 76 = .ok (.sipush 2048, 3) := by decide +kernel
theorem dX7_init_79 : decode cX7_init 79 = .ok (.newarray .int, 2) := by decide +kernel
theorem dX7_init_81 : decode cX7_init 81 = .ok (.putfield 38, 3) := by decide +kernel
theorem dX7_init_84 : decode cX7_init 84 = .ok (.aload_n 0, 1) := by decide +kernel
theorem dX7_init_85 : decode cX7_init 85 = .ok (.bipush 100, 2) := by decide +kernel
theorem dX7_init_87 : decode cX7_init 87 = .ok (.newarray .int, 2) := by decide +kernel
theorem dX7_init_89 : decode cX7_init 89 = .ok (.putfield 41, 3) := by decide +kernel
theorem dX7_init_92 : decode cX7_init 92 = .ok (.aload_n 0, 1) := by decide +kernel
theorem dX7_init_93 : decode cX7_init 93 = .ok (.bipush 100, 2) := by decide +kernel
theorem dX7_init_95 : decode cX7_init 95 = .ok (.newarray .int, 2) := by decide +kernel
theorem dX7_init_97 : decode cX7_init 97 = .ok (.putfield 44, 3) := by decide +kernel
theorem dX7_init_100 : decode cX7_init 100 = .ok (.aload_n 0, 1) := by decide +kernel
theorem dX7_init_101 : decode cX7_init 101 = .ok (.bipush 100, 2) := by decide +kernel
theorem dX7_init_103 : decode cX7_init 103 = .ok (.newarray .int, 2) := by decide +kernel
theorem dX7_init_105 : decode cX7_init 105 = .ok (.putfield 47, 3) := by decide +kernel
theorem dX7_init_108 : decode cX7_init 108 = .ok (.aload_n 0, 1) := by decide +kernel
theorem dX7_init_109 : decode cX7_init 109 = .ok (.sipush 1600, 3) := by decide +kernel
theorem dX7_init_112 : decode cX7_init 112 = .ok (.newarray .int, 2) := by decide +kernel
theorem dX7_init_114 : decode cX7_init 114 = .ok (.putfield 50, 3) := by decide +kernel
theorem dX7_init_117 : decode cX7_init 117 = .ok (.return_, 1) := by decide +kernel
theorem dX7_thrown_0 : decode cX7_thrown 0 = .ok (.aload_n 0, 1) := by decide +kernel
theorem dX7_thrown_1 : decode cX7_thrown 1 = .ok (.getfield 53, 3) := by decide +kernel
theorem dX7_thrown_4 : decode cX7_thrown 4 = .ok (.ireturn, 1) := by decide +kernel
theorem dX7_fails_0 : decode cX7_fails 0 = .ok (.aload_n 0, 1) := by decide +kernel
theorem dX7_fails_1 : decode cX7_fails 1 = .ok (.iload_n 1, 1) := by decide +kernel
theorem dX7_fails_2 : decode cX7_fails 2 = .ok (.putfield 53, 3) := by decide +kernel
theorem dX7_fails_5 : decode cX7_fails 5 = .ok (.iconst 0, 1) := by decide +kernel
theorem dX7_fails_6 : decode cX7_fails 6 = .ok (.ireturn, 1) := by decide +kernel
theorem dX7_in_0 : decode cX7_in 0 = .ok (.iload_n 0, 1) := by decide +kernel
theorem dX7_in_1 : decode cX7_in 1 = .ok (.iload_n 1, 1) := by decide +kernel
theorem dX7_in_2 : decode cX7_in 2 = .ok (.if_icmp .lt 12, 3) := by decide +kernel
theorem dX7_in_5 : decode cX7_in 5 = .ok (.iload_n 0, 1) := by decide +kernel
theorem dX7_in_6 : decode cX7_in 6 = .ok (.iload_n 2, 1) := by decide +kernel
theorem dX7_in_7 : decode cX7_in 7 = .ok (.if_icmp .gt 7, 3) := by decide +kernel
theorem dX7_in_10 : decode cX7_in 10 = .ok (.iconst 1, 1) := by decide +kernel
theorem dX7_in_11 : decode cX7_in 11 = .ok (.goto 4, 3) := by decide +kernel
theorem dX7_in_14 : decode cX7_in 14 = .ok (.iconst 0, 1) := by decide +kernel
theorem dX7_in_15 : decode cX7_in 15 = .ok (.ireturn, 1) := by decide +kernel
theorem dX7_isContent_0 : decode cX7_isContent 0 = .ok (.aload_n 0, 1) := by decide +kernel
theorem dX7_isContent_1 : decode cX7_isContent 1 = .ok (.iload_n 1, 1) := by decide +kernel
theorem dX7_isContent_2 : decode cX7_isContent 2 = .ok (.iconst 0, 1) := by decide +kernel
theorem dX7_isContent_3 : decode cX7_isContent 3 = .ok (.aload_n 0, 1) := by decide +kernel
theorem dX7_isContent_4 : decode cX7_isContent 4 = .ok (.getfield 57, 3) := by decide +kernel
theorem dX7_isContent_7 : decode cX7_isContent 7 = .ok (.iconst 1, 1) := by decide +kernel
theorem dX7_isContent_8 : decode cX7_isContent 8 = .ok (.isub, 1) := by decide +kernel
theorem dX7_isContent_9 : decode cX7_isContent 9 = .ok (.invokestatic 60, 3) := by decide +kernel
theorem dX7_isContent_12 : decode cX7_isContent 12 = .ok (.ifCond .eq 7, 3) := by decide +kernel
theorem dX7_isContent_15 : decode cX7_isContent 15 = .ok (.iconst 0, 1) := by decide +kernel
theorem dX7_isContent_16 : decode cX7_isContent 16 = .ok (.goto 4, 3) := by decide +kernel
theorem dX7_isContent_19 : decode cX7_isContent 19 = .ok (.iconst 1, 1) := by decide +kernel
theorem dX7_isContent_20 : decode cX7_isContent 20 = .ok (.putfield 53, 3) := by decide +kernel
theorem dX7_isContent_23 : decode cX7_isContent 23 = .ok (.aload_n 0, 1) := by decide +kernel
theorem dX7_isContent_24 : decode cX7_isContent 24 = .ok (.getfield 53, 3) := by decide +kernel
theorem dX7_isContent_27 : decode cX7_isContent 27 = .ok (.ifCond .ne 7, 3) := by decide +kernel
theorem dX7_isContent_30 : decode cX7_isContent 30 = .ok (.iconst 1, 1) := by decide +kernel
theorem dX7_isContent_31 : decode cX7_isContent 31 = .ok (.goto 4, 3) := by decide +kernel
theorem dX7_isContent_34 : decode cX7_isContent 34 = .ok (.iconst 0, 1) := by decide +kernel
theorem dX7_isContent_35 : decode cX7_isContent 35 = .ok (.ireturn, 1) := by decide +kernel
theorem dX7_places_0 : decode cX7_places 0 = .ok (.aload_n 0, 1) := by decide +kernel
theorem dX7_places_1 : decode cX7_places 1 = .ok (.getfield 13, 3) := by decide +kernel
theorem dX7_places_4 : decode cX7_places 4 = .ok (.iload_n 1, 1) := by decide +kernel
theorem dX7_places_5 : decode cX7_places 5 = .ok (.iaload, 1) := by decide +kernel
theorem dX7_places_6 : decode cX7_places 6 = .ok (.bipush 119, 2) := by decide +kernel
theorem dX7_places_8 : decode cX7_places 8 = .ok (.if_icmp .ne 7, 3) := by decide +kernel
theorem dX7_places_11 : decode cX7_places 11 = .ok (.iconst 2, 1) := by decide +kernel
theorem dX7_places_12 : decode cX7_places 12 = .ok (.goto 4, 3) := by decide +kernel
theorem dX7_places_15 : decode cX7_places 15 = .ok (.iconst 4, 1) := by decide +kernel
theorem dX7_places_16 : decode cX7_places 16 = .ok (.ireturn, 1) := by decide +kernel
theorem dX7_isWhole_0 : decode cX7_isWhole 0 = .ok (.aload_n 0, 1) := by decide +kernel
theorem dX7_isWhole_1 : decode cX7_isWhole 1 = .ok (.getfield 16, 3) := by decide +kernel
theorem dX7_isWhole_4 : decode cX7_isWhole 4 = .ok (.iload_n 1, 1) := by decide +kernel
theorem dX7_isWhole_5 : decode cX7_isWhole 5 = .ok (.iaload, 1) := by decide +kernel
theorem dX7_isWhole_6 : decode cX7_isWhole 6 = .ok (.ifCond .le 22, 3) := by decide +kernel
theorem dX7_isWhole_9 : decode cX7_isWhole 9 = .ok (.aload_n 0, 1) := by decide +kernel
theorem dX7_isWhole_10 : decode cX7_isWhole 10 = .ok (.getfield 16, 3) := by decide +kernel
theorem dX7_isWhole_13 : decode cX7_isWhole 13 = .ok (.iload_n 1, 1) := by decide +kernel
theorem dX7_isWhole_14 : decode cX7_isWhole 14 = .ok (.iaload, 1) := by decide +kernel
theorem dX7_isWhole_15 : decode cX7_isWhole 15 = .ok (.aload_n 0, 1) := by decide +kernel
theorem dX7_isWhole_16 : decode cX7_isWhole 16 = .ok (.iload_n 1, 1) := by decide +kernel
theorem dX7_isWhole_17 : decode cX7_isWhole 17 = .ok (.invokevirtual 64, 3) := by decide +kernel
theorem dX7_isWhole_20 : decode cX7_isWhole 20 = .ok (.irem, 1) := by decide +kernel
theorem dX7_isWhole_21 : decode cX7_isWhole 21 = .ok (.ifCond .ne 7, 3) := by decide +kernel
theorem dX7_isWhole_24 : decode cX7_isWhole 24 = .ok (.iconst 1, 1) := by decide +kernel
theorem dX7_isWhole_25 : decode cX7_isWhole 25 = .ok (.goto 4, 3) := by decide +kernel
theorem dX7_isWhole_28 : decode cX7_isWhole 28 = .ok (.iconst 0, 1) := by decide +kernel
theorem dX7_isWhole_29 : decode cX7_isWhole 29 = .ok (.ireturn, 1) := by decide +kernel
theorem dX7_count_0 : decode cX7_count 0 = .ok (.aload_n 0, 1) := by decide +kernel
theorem dX7_count_1 : decode cX7_count 1 = .ok (.getfield 16, 3) := by decide +kernel
theorem dX7_count_4 : decode cX7_count 4 = .ok (.iload_n 1, 1) := by decide +kernel
theorem dX7_count_5 : decode cX7_count 5 = .ok (.iaload, 1) := by decide +kernel
theorem dX7_count_6 : decode cX7_count 6 = .ok (.aload_n 0, 1) := by decide +kernel
theorem dX7_count_7 : decode cX7_count 7 = .ok (.iload_n 1, 1) := by decide +kernel
theorem dX7_count_8 : decode cX7_count 8 = .ok (.invokevirtual 64, 3) := by decide +kernel
theorem dX7_count_11 : decode cX7_count 11 = .ok (.idiv, 1) := by decide +kernel
theorem dX7_count_12 : decode cX7_count 12 = .ok (.ireturn, 1) := by decide +kernel
theorem dX7_isJob_0 : decode cX7_isJob 0 = .ok (.aload_n 0, 1) := by decide +kernel
theorem dX7_isJob_1 : decode cX7_isJob 1 = .ok (.iload_n 1, 1) := by decide +kernel
theorem dX7_isJob_2 : decode cX7_isJob 2 = .ok (.iconst 0, 1) := by decide +kernel
theorem dX7_isJob_3 : decode cX7_isJob 3 = .ok (.aload_n 0, 1) := by decide +kernel
theorem dX7_isJob_4 : decode cX7_isJob 4 = .ok (.getfield 68, 3) := by decide +kernel
theorem dX7_isJob_7 : decode cX7_isJob 7 = .ok (.iconst 1, 1) := by decide +kernel
theorem dX7_isJob_8 : decode cX7_isJob 8 = .ok (.isub, 1) := by decide +kernel
theorem dX7_isJob_9 : decode cX7_isJob 9 = .ok (.invokestatic 60, 3) := by decide +kernel
theorem dX7_isJob_12 : decode cX7_isJob 12 = .ok (.ifCond .ne 7, 3) := by decide +kernel
theorem dX7_isJob_15 : decode cX7_isJob 15 = .ok (.iconst 1, 1) := by decide +kernel
theorem dX7_isJob_16 : decode cX7_isJob 16 = .ok (.goto 16, 3) := by decide +kernel
theorem dX7_isJob_19 : decode cX7_isJob 19 = .ok (.aload_n 0, 1) := by decide +kernel
theorem dX7_isJob_20 : decode cX7_isJob 20 = .ok (.iload_n 1, 1) := by decide +kernel
theorem dX7_isJob_21 : decode cX7_isJob 21 = .ok (.invokevirtual 71, 3) := by decide +kernel
theorem dX7_isJob_24 : decode cX7_isJob 24 = .ok (.ifCond .eq 7, 3) := by decide +kernel
theorem dX7_isJob_27 : decode cX7_isJob 27 = .ok (.iconst 0, 1) := by decide +kernel
theorem dX7_isJob_28 : decode cX7_isJob 28 = .ok (.goto 4, 3) := by decide +kernel
theorem dX7_isJob_31 : decode cX7_isJob 31 = .ok (.iconst 2, 1) := by decide +kernel
theorem dX7_isJob_32 : decode cX7_isJob 32 = .ok (.putfield 53, 3) := by decide +kernel
theorem dX7_isJob_35 : decode cX7_isJob 35 = .ok (.aload_n 0, 1) := by decide +kernel
theorem dX7_isJob_36 : decode cX7_isJob 36 = .ok (.getfield 53, 3) := by decide +kernel
theorem dX7_isJob_39 : decode cX7_isJob 39 = .ok (.ifCond .ne 7, 3) := by decide +kernel
theorem dX7_isJob_42 : decode cX7_isJob 42 = .ok (.iconst 1, 1) := by decide +kernel
theorem dX7_isJob_43 : decode cX7_isJob 43 = .ok (.goto 4, 3) := by decide +kernel
theorem dX7_isJob_46 : decode cX7_isJob 46 = .ok (.iconst 0, 1) := by decide +kernel
theorem dX7_isJob_47 : decode cX7_isJob 47 = .ok (.ireturn, 1) := by decide +kernel
theorem dX7_isSheet_0 : decode cX7_isSheet 0 = .ok (.aload_n 0, 1) := by decide +kernel
theorem dX7_isSheet_1 : decode cX7_isSheet 1 = .ok (.iload_n 1, 1) := by decide +kernel
theorem dX7_isSheet_2 : decode cX7_isSheet 2 = .ok (.invokevirtual 75, 3) := by decide +kernel
theorem dX7_isSheet_5 : decode cX7_isSheet 5 = .ok (.ifCond .eq 23, 3) := by decide +kernel
theorem dX7_isSheet_8 : decode cX7_isSheet 8 = .ok (.iload_n 2, 1) := by decide +kernel
theorem dX7_isSheet_9 : decode cX7_isSheet 9 = .ok (.iconst 0, 1) := by decide +kernel
theorem dX7_isSheet_10 : decode cX7_isSheet 10 = .ok (.aload_n 0, 1) := by decide +kernel
theorem dX7_isSheet_11 : decode cX7_isSheet 11 = .ok (.iload_n 1, 1) := by decide +kernel
theorem dX7_isSheet_12 : decode cX7_isSheet 12 = .ok (.invokevirtual 78, 3) := by decide +kernel
theorem dX7_isSheet_15 : decode cX7_isSheet 15 = .ok (.iconst 1, 1) := by decide +kernel
theorem dX7_isSheet_16 : decode cX7_isSheet 16 = .ok (.isub, 1) := by decide +kernel
theorem dX7_isSheet_17 : decode cX7_isSheet 17 = .ok (.invokestatic 60, 3) := by decide +kernel
theorem dX7_isSheet_20 : decode cX7_isSheet 20 = .ok (.ifCond .ne 8, 3) := by decide +kernel
theorem dX7_isSheet_23 : decode cX7_isSheet 23 = .ok (.aload_n 0, 1) := by decide +kernel
theorem dX7_isSheet_24 : decode cX7_isSheet 24 = .ok (.iconst 3, 1) := by decide +kernel
theorem dX7_isSheet_25 : decode cX7_isSheet 25 = .ok (.putfield 53, 3) := by decide +kernel
theorem dX7_isSheet_28 : decode cX7_isSheet 28 = .ok (.aload_n 0, 1) := by decide +kernel
theorem dX7_isSheet_29 : decode cX7_isSheet 29 = .ok (.getfield 53, 3) := by decide +kernel
theorem dX7_isSheet_32 : decode cX7_isSheet 32 = .ok (.ifCond .ne 7, 3) := by decide +kernel
theorem dX7_isSheet_35 : decode cX7_isSheet 35 = .ok (.iconst 1, 1) := by decide +kernel
theorem dX7_isSheet_36 : decode cX7_isSheet 36 = .ok (.goto 4, 3) := by decide +kernel
theorem dX7_isSheet_39 : decode cX7_isSheet 39 = .ok (.iconst 0, 1) := by decide +kernel
theorem dX7_isSheet_40 : decode cX7_isSheet 40 = .ok (.ireturn, 1) := by decide +kernel
theorem dX7_pageOn_0 : decode cX7_pageOn 0 = .ok (.aload_n 0, 1) := by decide +kernel
theorem dX7_pageOn_1 : decode cX7_pageOn 1 = .ok (.getfield 13, 3) := by decide +kernel
theorem dX7_pageOn_4 : decode cX7_pageOn 4 = .ok (.iload_n 1, 1) := by decide +kernel
theorem dX7_pageOn_5 : decode cX7_pageOn 5 = .ok (.iaload, 1) := by decide +kernel
theorem dX7_pageOn_6 : decode cX7_pageOn 6 = .ok (.bipush 119, 2) := by decide +kernel
theorem dX7_pageOn_8 : decode cX7_pageOn 8 = .ok (.if_icmp .ne 11, 3) := by decide +kernel
theorem dX7_pageOn_11 : decode cX7_pageOn 11 = .ok (.iconst 2, 1) := by decide +kernel
theorem dX7_pageOn_12 : decode cX7_pageOn 12 = .ok (.iload_n 2, 1) := by decide +kernel
theorem dX7_pageOn_13 : decode cX7_pageOn 13 = .ok (.imul, 1) := by decide +kernel
theorem dX7_pageOn_14 : decode cX7_pageOn 14 = .ok (.iconst 1, 1) := by decide +kernel
theorem dX7_pageOn_15 : decode cX7_pageOn 15 = .ok (.iadd, 1) := by decide +kernel
theorem dX7_pageOn_16 : decode cX7_pageOn 16 = .ok (.iload_n 3, 1) := by decide +kernel
theorem dX7_pageOn_17 : decode cX7_pageOn 17 = .ok (.iadd, 1) := by decide +kernel
theorem dX7_pageOn_18 : decode cX7_pageOn 18 = .ok (.ireturn, 1) := by decide +kernel
theorem dX7_pageOn_19 : decode cX7_pageOn 19 = .ok (.aload_n 0, 1) := by decide +kernel
theorem dX7_pageOn_20 : decode cX7_pageOn 20 = .ok (.getfield 13, 3) := by decide +kernel
theorem dX7_pageOn_23 : decode cX7_pageOn 23 = .ok (.iload_n 1, 1) := by decide +kernel
theorem dX7_pageOn_24 : decode cX7_pageOn 24 = .ok (.iaload, 1) := by decide +kernel
theorem dX7_pageOn_25 : decode cX7_pageOn 25 = .ok (.bipush 112, 2) := by decide +kernel
theorem dX7_pageOn_27 : decode cX7_pageOn 27 = .ok (.if_icmp .ne 21, 3) := by decide +kernel
theorem dX7_pageOn_30 : decode cX7_pageOn 30 = .ok (.iload_n 3, 1) := by decide +kernel
theorem dX7_pageOn_31 : decode cX7_pageOn 31 = .ok (.ifCond .ne 11, 3) := by decide +kernel
theorem dX7_pageOn_34 : decode cX7_pageOn 34 = .ok (.iconst 4, 1) := by decide +kernel
theorem dX7_pageOn_35 : decode cX7_pageOn 35 = .ok (.iload_n 2, 1) := by decide +kernel
theorem dX7_pageOn_36 : decode cX7_pageOn 36 = .ok (.imul, 1) := by decide +kernel
theorem dX7_pageOn_37 : decode cX7_pageOn 37 = .ok (.iconst 4, 1) := by decide +kernel
theorem dX7_pageOn_38 : decode cX7_pageOn 38 = .ok (.iadd, 1) := by decide +kernel
theorem dX7_pageOn_39 : decode cX7_pageOn 39 = .ok (.goto 8, 3) := by decide +kernel
theorem dX7_pageOn_42 : decode cX7_pageOn 42 = .ok (.iconst 4, 1) := by decide +kernel
theorem dX7_pageOn_43 : decode cX7_pageOn 43 = .ok (.iload_n 2, 1) := by decide +kernel
theorem dX7_pageOn_44 : decode cX7_pageOn 44 = .ok (.imul, 1) := by decide +kernel
theorem dX7_pageOn_45 : decode cX7_pageOn 45 = .ok (.iload_n 3, 1) := by decide +kernel
theorem dX7_pageOn_46 : decode cX7_pageOn 46 = .ok (.iadd, 1) := by decide +kernel
theorem dX7_pageOn_47 : decode cX7_pageOn 47 = .ok (.ireturn, 1) := by decide +kernel
theorem dX7_pageOn_48 : decode cX7_pageOn 48 = .ok (.aload_n 0, 1) := by decide +kernel
theorem dX7_pageOn_49 : decode cX7_pageOn 49 = .ok (.getfield 16, 3) := by decide +kernel
theorem dX7_pageOn_52 : decode cX7_pageOn 52 = .ok (.iload_n 1, 1) := by decide +kernel
theorem dX7_pageOn_53 : decode cX7_pageOn 53 = .ok (.iaload, 1) := by decide +kernel
theorem dX7_pageOn_54 : decode cX7_pageOn 54 = .ok (.istore 4, 2) := by decide +kernel
theorem dX7_pageOn_56 : decode cX7_pageOn 56 = .ok (.iload_n 3, 1) := by decide +kernel
theorem dX7_pageOn_57 : decode cX7_pageOn 57 = .ok (.ifCond .ne 12, 3) := by decide +kernel
theorem dX7_pageOn_60 : decode cX7_pageOn 60 = .ok (.iload 4, 2) := by decide +kernel
theorem dX7_pageOn_62 : decode cX7_pageOn 62 = .ok (.iconst 2, 1) := by decide +kernel
theorem dX7_pageOn_63 : decode cX7_pageOn 63 = .ok (.iload_n 2, 1) := by decide +kernel
theorem dX7_pageOn_64 : decode cX7_pageOn 64 = .ok (.imul, 1) := by decide +kernel
theorem dX7_pageOn_65 : decode cX7_pageOn 65 = .ok (.isub, 1) := by decide +kernel
theorem dX7_pageOn_66 : decode cX7_pageOn 66 = .ok (.goto 37, 3) := by decide +kernel
theorem dX7_pageOn_69 : decode cX7_pageOn 69 = .ok (.iload_n 3, 1) := by decide +kernel
theorem dX7_pageOn_70 : decode cX7_pageOn 70 = .ok (.iconst 1, 1) := by decide +kernel
theorem dX7_pageOn_71 : decode cX7_pageOn 71 = .ok (.if_icmp .ne 11, 3) := by decide +kernel
theorem dX7_pageOn_74 : decode cX7_pageOn 74 = .ok (.iconst 2, 1) := by decide +kernel
theorem dX7_pageOn_75 : decode cX7_pageOn 75 = .ok (.iload_n 2, 1) := by decide +kernel
theorem dX7_pageOn_76 : decode cX7_pageOn 76 = .ok (.imul, 1) := by decide +kernel
theorem dX7_pageOn_77 : decode cX7_pageOn 77 = .ok (.iconst 1, 1) := by decide +kernel
theorem dX7_pageOn_78 : decode cX7_pageOn 78 = .ok (.iadd, 1) := by decide +kernel
theorem dX7_pageOn_79 : decode cX7_pageOn 79 = .ok (.goto 24, 3) := by decide +kernel
theorem dX7_pageOn_82 : decode cX7_pageOn 82 = .ok (.iload_n 3, 1) := by decide +kernel
theorem dX7_pageOn_83 : decode cX7_pageOn 83 = .ok (.iconst 2, 1) := by decide +kernel
theorem dX7_pageOn_84 : decode cX7_pageOn 84 = .ok (.if_icmp .ne 11, 3) := by decide +kernel
theorem dX7_pageOn_87 : decode cX7_pageOn 87 = .ok (.iconst 2, 1) := by decide +kernel
theorem dX7_pageOn_88 : decode cX7_pageOn 88 = .ok (.iload_n 2, 1) := by decide +kernel
theorem dX7_pageOn_89 : decode cX7_pageOn 89 = .ok (.imul, 1) := by decide +kernel
theorem dX7_pageOn_90 : decode cX7_pageOn 90 = .ok (.iconst 2, 1) := by decide +kernel
theorem dX7_pageOn_91 : decode cX7_pageOn 91 = .ok (.iadd, 1) := by decide +kernel
theorem dX7_pageOn_92 : decode cX7_pageOn 92 = .ok (.goto 11, 3) := by decide +kernel
theorem dX7_pageOn_95 : decode cX7_pageOn 95 = .ok (.iload 4, 2) := by decide +kernel
theorem dX7_pageOn_97 : decode cX7_pageOn 97 = .ok (.iconst 2, 1) := by decide +kernel
theorem dX7_pageOn_98 : decode cX7_pageOn 98 = .ok (.iload_n 2, 1) := by decide +kernel
theorem dX7_pageOn_99 : decode cX7_pageOn 99 = .ok (.imul, 1) := by decide +kernel
theorem dX7_pageOn_100 : decode cX7_pageOn 100 = .ok (.isub, 1) := by decide +kernel
theorem dX7_pageOn_101 : decode cX7_pageOn 101 = .ok (.iconst 1, 1) := by decide +kernel
theorem dX7_pageOn_102 : decode cX7_pageOn 102 = .ok (.isub, 1) := by decide +kernel
theorem dX7_pageOn_103 : decode cX7_pageOn 103 = .ok (.ireturn, 1) := by decide +kernel
theorem dX7_contentOn_0 : decode cX7_contentOn 0 = .ok (.aload_n 0, 1) := by decide +kernel
theorem dX7_contentOn_1 : decode cX7_contentOn 1 = .ok (.getfield 19, 3) := by decide +kernel
theorem dX7_contentOn_4 : decode cX7_contentOn 4 = .ok (.bipush 16, 2) := by decide +kernel
theorem dX7_contentOn_6 : decode cX7_contentOn 6 = .ok (.iload_n 1, 1) := by decide +kernel
theorem dX7_contentOn_7 : decode cX7_contentOn 7 = .ok (.imul, 1) := by decide +kernel
theorem dX7_contentOn_8 : decode cX7_contentOn 8 = .ok (.aload_n 0, 1) := by decide +kernel
theorem dX7_contentOn_9 : decode cX7_contentOn 9 = .ok (.iload_n 1, 1) := by decide +kernel
theorem dX7_contentOn_10 : decode cX7_contentOn 10 = .ok (.iload_n 2, 1) := by decide +kernel
theorem dX7_contentOn_11 : decode cX7_contentOn 11 = .ok (.iload_n 3, 1) := by decide +kernel
theorem dX7_contentOn_12 : decode cX7_contentOn 12 = .ok (.invokevirtual 81, 3) := by decide +kernel
theorem dX7_contentOn_15 : decode cX7_contentOn 15 = .ok (.iadd, 1) := by decide +kernel
theorem dX7_contentOn_16 : decode cX7_contentOn 16 = .ok (.iconst 1, 1) := by decide +kernel
theorem dX7_contentOn_17 : decode cX7_contentOn 17 = .ok (.isub, 1) := by decide +kernel
theorem dX7_contentOn_18 : decode cX7_contentOn 18 = .ok (.iaload, 1) := by decide +kernel
theorem dX7_contentOn_19 : decode cX7_contentOn 19 = .ok (.ireturn, 1) := by decide +kernel
theorem dX7_code_0 : decode cX7_code 0 = .ok (.bipush 100, 2) := by decide +kernel
theorem dX7_code_2 : decode cX7_code 2 = .ok (.iload_n 1, 1) := by decide +kernel
theorem dX7_code_3 : decode cX7_code 3 = .ok (.imul, 1) := by decide +kernel
theorem dX7_code_4 : decode cX7_code 4 = .ok (.aload_n 0, 1) := by decide +kernel
theorem dX7_code_5 : decode cX7_code 5 = .ok (.getfield 7, 3) := by decide +kernel
theorem dX7_code_8 : decode cX7_code 8 = .ok (.iload_n 1, 1) := by decide +kernel
theorem dX7_code_9 : decode cX7_code 9 = .ok (.iaload, 1) := by decide +kernel
theorem dX7_code_10 : decode cX7_code 10 = .ok (.iadd, 1) := by decide +kernel
theorem dX7_code_11 : decode cX7_code 11 = .ok (.ireturn, 1) := by decide +kernel
theorem dX7_plateOf_0 : decode cX7_plateOf 0 = .ok (.aload_n 0, 1) := by decide +kernel
theorem dX7_plateOf_1 : decode cX7_plateOf 1 = .ok (.getfield 13, 3) := by decide +kernel
theorem dX7_plateOf_4 : decode cX7_plateOf 4 = .ok (.iload_n 1, 1) := by decide +kernel
theorem dX7_plateOf_5 : decode cX7_plateOf 5 = .ok (.iaload, 1) := by decide +kernel
theorem dX7_plateOf_6 : decode cX7_plateOf 6 = .ok (.bipush 119, 2) := by decide +kernel
theorem dX7_plateOf_8 : decode cX7_plateOf 8 = .ok (.if_icmp .ne 25, 3) := by decide +kernel
theorem dX7_plateOf_11 : decode cX7_plateOf 11 = .ok (.iconst 1, 1) := by decide +kernel
theorem dX7_plateOf_12 : decode cX7_plateOf 12 = .ok (.aload_n 0, 1) := by decide +kernel
theorem dX7_plateOf_13 : decode cX7_plateOf 13 = .ok (.aload_n 0, 1) := by decide +kernel
theorem dX7_plateOf_14 : decode cX7_plateOf 14 = .ok (.iload_n 1, 1) := by decide +kernel
theorem dX7_plateOf_15 : decode cX7_plateOf 15 = .ok (.iload_n 2, 1) := by decide +kernel
theorem dX7_plateOf_16 : decode cX7_plateOf 16 = .ok (.iload_n 3, 1) := by decide +kernel
theorem dX7_plateOf_17 : decode cX7_plateOf 17 = .ok (.ifCond .eq 7, 3) := by decide +kernel
theorem dX7_plateOf_20 : decode cX7_plateOf 20 = .ok (.iconst 0, 1) := by decide +kernel
theorem dX7_plateOf_21 : decode cX7_plateOf 21 = .ok (.goto 4, 3) := by decide +kernel
theorem dX7_plateOf_24 : decode cX7_plateOf 24 = .ok (.iconst 1, 1) := by decide +kernel
theorem dX7_plateOf_25 : decode cX7_plateOf 25 = .ok (.invokevirtual 85, 3) := by decide +kernel
theorem dX7_plateOf_28 : decode cX7_plateOf 28 = .ok (.invokevirtual 88, 3) := by decide +kernel
theorem dX7_plateOf_31 : decode cX7_plateOf 31 = .ok (.iadd, 1) := by decide +kernel
theorem dX7_plateOf_32 : decode cX7_plateOf 32 = .ok (.ireturn, 1) := by decide +kernel
theorem dX7_plateOf_33 : decode cX7_plateOf 33 = .ok (.sipush 2000, 3) := by decide +kernel
theorem dX7_plateOf_36 : decode cX7_plateOf 36 = .ok (.sipush 1200, 3) := by decide +kernel
theorem dX7_plateOf_39 : decode cX7_plateOf 39 = .ok (.aload_n 0, 1) := by decide +kernel
theorem dX7_plateOf_40 : decode cX7_plateOf 40 = .ok (.aload_n 0, 1) := by decide +kernel
theorem dX7_plateOf_41 : decode cX7_plateOf 41 = .ok (.iload_n 1, 1) := by decide +kernel
theorem dX7_plateOf_42 : decode cX7_plateOf 42 = .ok (.iload_n 2, 1) := by decide +kernel
theorem dX7_plateOf_43 : decode cX7_plateOf 43 = .ok (.iload_n 3, 1) := by decide +kernel
theorem dX7_plateOf_44 : decode cX7_plateOf 44 = .ok (.ifCond .eq 7, 3) := by decide +kernel
theorem dX7_plateOf_47 : decode cX7_plateOf 47 = .ok (.iconst 0, 1) := by decide +kernel
theorem dX7_plateOf_48 : decode cX7_plateOf 48 = .ok (.goto 4, 3) := by decide +kernel
theorem dX7_plateOf_51 : decode cX7_plateOf 51 = .ok (.iconst 2, 1) := by decide +kernel
theorem dX7_plateOf_52 : decode cX7_plateOf 52 = .ok (.invokevirtual 85, 3) := by decide +kernel
theorem dX7_plateOf_55 : decode cX7_plateOf 55 = .ok (.invokevirtual 88, 3) := by decide +kernel
theorem dX7_plateOf_58 : decode cX7_plateOf 58 = .ok (.imul, 1) := by decide +kernel
theorem dX7_plateOf_59 : decode cX7_plateOf 59 = .ok (.iadd, 1) := by decide +kernel
theorem dX7_plateOf_60 : decode cX7_plateOf 60 = .ok (.aload_n 0, 1) := by decide +kernel
theorem dX7_plateOf_61 : decode cX7_plateOf 61 = .ok (.aload_n 0, 1) := by decide +kernel
theorem dX7_plateOf_62 : decode cX7_plateOf 62 = .ok (.iload_n 1, 1) := by decide +kernel
theorem dX7_plateOf_63 : decode cX7_plateOf 63 = .ok (.iload_n 2, 1) := by decide +kernel
theorem dX7_plateOf_64 : decode cX7_plateOf 64 = .ok (.iload_n 3, 1) := by decide +kernel
theorem dX7_plateOf_65 : decode cX7_plateOf 65 = .ok (.ifCond .eq 7, 3) := by decide +kernel
theorem dX7_plateOf_68 : decode cX7_plateOf 68 = .ok (.iconst 1, 1) := by decide +kernel
theorem dX7_plateOf_69 : decode cX7_plateOf 69 = .ok (.goto 4, 3) := by decide +kernel
theorem dX7_plateOf_72 : decode cX7_plateOf 72 = .ok (.iconst 3, 1) := by decide +kernel
theorem dX7_plateOf_73 : decode cX7_plateOf 73 = .ok (.invokevirtual 85, 3) := by decide +kernel
theorem dX7_plateOf_76 : decode cX7_plateOf 76 = .ok (.invokevirtual 88, 3) := by decide +kernel
theorem dX7_plateOf_79 : decode cX7_plateOf 79 = .ok (.iadd, 1) := by decide +kernel
theorem dX7_plateOf_80 : decode cX7_plateOf 80 = .ok (.ireturn, 1) := by decide +kernel
theorem dX7_isMade_0 : decode cX7_isMade 0 = .ok (.iconst 0, 1) := by decide +kernel
theorem dX7_isMade_1 : decode cX7_isMade 1 = .ok (.istore_n 2, 1) := by decide +kernel
theorem dX7_isMade_2 : decode cX7_isMade 2 = .ok (.iload_n 2, 1) := by decide +kernel
theorem dX7_isMade_3 : decode cX7_isMade 3 = .ok (.aload_n 0, 1) := by decide +kernel
theorem dX7_isMade_4 : decode cX7_isMade 4 = .ok (.getfield 91, 3) := by decide +kernel
theorem dX7_isMade_7 : decode cX7_isMade 7 = .ok (.if_icmp .ge 21, 3) := by decide +kernel
theorem dX7_isMade_10 : decode cX7_isMade 10 = .ok (.aload_n 0, 1) := by decide +kernel
theorem dX7_isMade_11 : decode cX7_isMade 11 = .ok (.getfield 29, 3) := by decide +kernel
theorem dX7_isMade_14 : decode cX7_isMade 14 = .ok (.iload_n 2, 1) := by decide +kernel
theorem dX7_isMade_15 : decode cX7_isMade 15 = .ok (.iaload, 1) := by decide +kernel
theorem dX7_isMade_16 : decode cX7_isMade 16 = .ok (.iload_n 1, 1) := by decide +kernel
theorem dX7_isMade_17 : decode cX7_isMade 17 = .ok (.if_icmp .ne 5, 3) := by decide +kernel
theorem dX7_isMade_20 : decode cX7_isMade 20 = .ok (.iconst 1, 1) := by decide +kernel
theorem dX7_isMade_21 : decode cX7_isMade 21 = .ok (.ireturn, 1) := by decide +kernel
theorem dX7_isMade_22 : decode cX7_isMade 22 = .ok (.iinc 2 1, 3) := by decide +kernel
theorem dX7_isMade_25 : decode cX7_isMade 25 = .ok (.goto (-23), 3) := by decide +kernel
theorem dX7_isMade_28 : decode cX7_isMade 28 = .ok (.iconst 0, 1) := by decide +kernel
theorem dX7_isMade_29 : decode cX7_isMade 29 = .ok (.ireturn, 1) := by decide +kernel
theorem dX7_makes_0 : decode cX7_makes 0 = .ok (.aload_n 0, 1) := by decide +kernel
theorem dX7_makes_1 : decode cX7_makes 1 = .ok (.iload_n 1, 1) := by decide +kernel
theorem dX7_makes_2 : decode cX7_makes 2 = .ok (.invokevirtual 94, 3) := by decide +kernel
theorem dX7_makes_5 : decode cX7_makes 5 = .ok (.ifCond .eq 4, 3) := by decide +kernel
theorem dX7_makes_8 : decode cX7_makes 8 = .ok (.return_, 1) := by decide +kernel
theorem dX7_makes_9 : decode cX7_makes 9 = .ok (.aload_n 0, 1) := by decide +kernel
theorem dX7_makes_10 : decode cX7_makes 10 = .ok (.getfield 29, 3) := by decide +kernel
theorem dX7_makes_13 : decode cX7_makes 13 = .ok (.aload_n 0, 1) := by decide +kernel
theorem dX7_makes_14 : decode cX7_makes 14 = .ok (.getfield 91, 3) := by decide +kernel
theorem dX7_makes_17 : decode cX7_makes 17 = .ok (.iload_n 1, 1) := by decide +kernel
theorem dX7_makes_18 : decode cX7_makes 18 = .ok (.iastore, 1) := by decide +kernel
theorem dX7_makes_19 : decode cX7_makes 19 = .ok (.aload_n 0, 1) := by decide +kernel
theorem dX7_makes_20 : decode cX7_makes 20 = .ok (.dup, 1) := by decide +kernel
theorem dX7_makes_21 : decode cX7_makes 21 = .ok (.getfield 91, 3) := by decide +kernel
theorem dX7_makes_24 : decode cX7_makes 24 = .ok (.iconst 1, 1) := by decide +kernel
theorem dX7_makes_25 : decode cX7_makes 25 = .ok (.iadd, 1) := by decide +kernel
theorem dX7_makes_26 : decode cX7_makes 26 = .ok (.putfield 91, 3) := by decide +kernel
theorem dX7_makes_29 : decode cX7_makes 29 = .ok (.return_, 1) := by decide +kernel
theorem dX7_isShown_0 : decode cX7_isShown 0 = .ok (.iconst 0, 1) := by decide +kernel
theorem dX7_isShown_1 : decode cX7_isShown 1 = .ok (.istore 4, 2) := by decide +kernel
theorem dX7_isShown_3 : decode cX7_isShown 3 = .ok (.iload 4, 2) := by decide +kernel
theorem dX7_isShown_5 : decode cX7_isShown 5 = .ok (.aload_n 0, 1) := by decide +kernel
theorem dX7_isShown_6 : decode cX7_isShown 6 = .ok (.iload_n 1, 1) := by decide +kernel
theorem dX7_isShown_7 : decode cX7_isShown 7 = .ok (.invokevirtual 64, 3) := by decide +kernel
theorem dX7_isShown_10 : decode cX7_isShown 10 = .ok (.if_icmp .ge 23, 3) := by decide +kernel
theorem dX7_isShown_13 : decode cX7_isShown 13 = .ok (.aload_n 0, 1) := by decide +kernel
theorem dX7_isShown_14 : decode cX7_isShown 14 = .ok (.iload_n 1, 1) := by decide +kernel
theorem dX7_isShown_15 : decode cX7_isShown 15 = .ok (.iload_n 2, 1) := by decide +kernel
theorem dX7_isShown_16 : decode cX7_isShown 16 = .ok (.iload 4, 2) := by decide +kernel
theorem dX7_isShown_18 : decode cX7_isShown 18 = .ok (.invokevirtual 85, 3) := by decide +kernel
theorem dX7_isShown_21 : decode cX7_isShown 21 = .ok (.iload_n 3, 1) := by decide +kernel
theorem dX7_isShown_22 : decode cX7_isShown 22 = .ok (.if_icmp .ne 5, 3) := by decide +kernel
theorem dX7_isShown_25 : decode cX7_isShown 25 = .ok (.iconst 1, 1) := by decide +kernel
theorem dX7_isShown_26 : decode cX7_isShown 26 = .ok (.ireturn, 1) := by decide +kernel
theorem dX7_isShown_27 : decode cX7_isShown 27 = .ok (.iinc 4 1, 3) := by decide +kernel
theorem dX7_isShown_30 : decode cX7_isShown 30 = .ok (.goto (-27), 3) := by decide +kernel
theorem dX7_isShown_33 : decode cX7_isShown 33 = .ok (.iconst 0, 1) := by decide +kernel
theorem dX7_isShown_34 : decode cX7_isShown 34 = .ok (.ireturn, 1) := by decide +kernel
theorem dX7_voids_0 : decode cX7_voids 0 = .ok (.aload_n 0, 1) := by decide +kernel
theorem dX7_voids_1 : decode cX7_voids 1 = .ok (.getfield 22, 3) := by decide +kernel
theorem dX7_voids_4 : decode cX7_voids 4 = .ok (.bipush 8, 2) := by decide +kernel
theorem dX7_voids_6 : decode cX7_voids 6 = .ok (.iload_n 1, 1) := by decide +kernel
theorem dX7_voids_7 : decode cX7_voids 7 = .ok (.imul, 1) := by decide +kernel
theorem dX7_voids_8 : decode cX7_voids 8 = .ok (.iload_n 2, 1) := by decide +kernel
theorem dX7_voids_9 : decode cX7_voids 9 = .ok (.iadd, 1) := by decide +kernel
theorem dX7_voids_10 : decode cX7_voids 10 = .ok (.iaload, 1) := by decide +kernel
theorem dX7_voids_11 : decode cX7_voids 11 = .ok (.istore_n 3, 1) := by decide +kernel
theorem dX7_voids_12 : decode cX7_voids 12 = .ok (.aload_n 0, 1) := by decide +kernel
theorem dX7_voids_13 : decode cX7_voids 13 = .ok (.getfield 22, 3) := by decide +kernel
theorem dX7_voids_16 : decode cX7_voids 16 = .ok (.bipush 8, 2) := by decide +kernel
theorem dX7_voids_18 : decode cX7_voids 18 = .ok (.iload_n 1, 1) := by decide +kernel
theorem dX7_voids_19 : decode cX7_voids 19 = .ok (.imul, 1) := by decide +kernel
theorem dX7_voids_20 : decode cX7_voids 20 = .ok (.iload_n 2, 1) := by decide +kernel
theorem dX7_voids_21 : decode cX7_voids 21 = .ok (.iadd, 1) := by decide +kernel
theorem dX7_voids_22 : decode cX7_voids 22 = .ok (.iconst 0, 1) := by decide +kernel
theorem dX7_voids_23 : decode cX7_voids 23 = .ok (.iastore, 1) := by decide +kernel
theorem dX7_voids_24 : decode cX7_voids 24 = .ok (.aload_n 0, 1) := by decide +kernel
theorem dX7_voids_25 : decode cX7_voids 25 = .ok (.dup, 1) := by decide +kernel
theorem dX7_voids_26 : decode cX7_voids 26 = .ok (.getfield 97, 3) := by decide +kernel
theorem dX7_voids_29 : decode cX7_voids 29 = .ok (.iload_n 3, 1) := by decide +kernel
theorem dX7_voids_30 : decode cX7_voids 30 = .ok (.i2l, 1) := by decide +kernel
theorem dX7_voids_31 : decode cX7_voids 31 = .ok (.ladd, 1) := by decide +kernel
theorem dX7_voids_32 : decode cX7_voids 32 = .ok (.putfield 97, 3) := by decide +kernel
theorem dX7_voids_35 : decode cX7_voids 35 = .ok (.iload_n 3, 1) := by decide +kernel
theorem dX7_voids_36 : decode cX7_voids 36 = .ok (.ireturn, 1) := by decide +kernel
theorem dX7_addContent_0 : decode cX7_addContent 0 = .ok (.aload_n 0, 1) := by decide +kernel
theorem dX7_addContent_1 : decode cX7_addContent 1 = .ok (.getfield 57, 3) := by decide +kernel
theorem dX7_addContent_4 : decode cX7_addContent 4 = .ok (.bipush 12, 2) := by decide +kernel
theorem dX7_addContent_6 : decode cX7_addContent 6 = .ok (.if_icmp .ne 9, 3) := by decide +kernel
theorem dX7_addContent_9 : decode cX7_addContent 9 = .ok (.aload_n 0, 1) := by decide +kernel
theorem dX7_addContent_10 : decode cX7_addContent 10 = .ok (.iconst 1, 1) := by decide +kernel
theorem dX7_addContent_11 : decode cX7_addContent 11 = .ok (.invokevirtual 101, 3) := by decide +kernel
theorem dX7_addContent_14 : decode cX7_addContent 14 = .ok (.ireturn, 1) := by decide +kernel
theorem dX7_addContent_15 : decode cX7_addContent 15 = .ok (.aload_n 0, 1) := by decide +kernel
theorem dX7_addContent_16 : decode cX7_addContent 16 = .ok (.iconst 0, 1) := by decide +kernel
theorem dX7_addContent_17 : decode cX7_addContent 17 = .ok (.putfield 53, 3) := by decide +kernel
theorem dX7_addContent_20 : decode cX7_addContent 20 = .ok (.aload_n 0, 1) := by decide +kernel
theorem dX7_addContent_21 : decode cX7_addContent 21 = .ok (.dup, 1) := by decide +kernel
theorem dX7_addContent_22 : decode cX7_addContent 22 = .ok (.getfield 57, 3) := by decide +kernel
theorem dX7_addContent_25 : decode cX7_addContent 25 = .ok (.iconst 1, 1) := by decide +kernel
theorem dX7_addContent_26 : decode cX7_addContent 26 = .ok (.iadd, 1) := by decide +kernel
theorem dX7_addContent_27 : decode cX7_addContent 27 = .ok (.putfield 57, 3) := by decide +kernel
theorem dX7_addContent_30 : decode cX7_addContent 30 = .ok (.aload_n 0, 1) := by decide +kernel
theorem dX7_addContent_31 : decode cX7_addContent 31 = .ok (.getfield 57, 3) := by decide +kernel
theorem dX7_addContent_34 : decode cX7_addContent 34 = .ok (.iconst 1, 1) := by decide +kernel
theorem dX7_addContent_35 : decode cX7_addContent 35 = .ok (.isub, 1) := by decide +kernel
theorem dX7_addContent_36 : decode cX7_addContent 36 = .ok (.ireturn, 1) := by decide +kernel
theorem dX7_approve_0 : decode cX7_approve 0 = .ok (.aload_n 0, 1) := by decide +kernel
theorem dX7_approve_1 : decode cX7_approve 1 = .ok (.iload_n 1, 1) := by decide +kernel
theorem dX7_approve_2 : decode cX7_approve 2 = .ok (.invokevirtual 104, 3) := by decide +kernel
theorem dX7_approve_5 : decode cX7_approve 5 = .ok (.ifCond .ne 5, 3) := by decide +kernel
theorem dX7_approve_8 : decode cX7_approve 8 = .ok (.iconst 0, 1) := by decide +kernel
theorem dX7_approve_9 : decode cX7_approve 9 = .ok (.ireturn, 1) := by decide +kernel
theorem dX7_approve_10 : decode cX7_approve 10 = .ok (.aload_n 0, 1) := by decide +kernel
theorem dX7_approve_11 : decode cX7_approve 11 = .ok (.getfield 25, 3) := by decide +kernel
theorem dX7_approve_14 : decode cX7_approve 14 = .ok (.iload_n 1, 1) := by decide +kernel
theorem dX7_approve_15 : decode cX7_approve 15 = .ok (.baload, 1) := by decide +kernel
theorem dX7_approve_16 : decode cX7_approve 16 = .ok (.istore_n 2, 1) := by decide +kernel
theorem dX7_approve_17 : decode cX7_approve 17 = .ok (.aload_n 0, 1) := by decide +kernel
theorem dX7_approve_18 : decode cX7_approve 18 = .ok (.getfield 25, 3) := by decide +kernel
theorem dX7_approve_21 : decode cX7_approve 21 = .ok (.iload_n 1, 1) := by decide +kernel
theorem dX7_approve_22 : decode cX7_approve 22 = .ok (.iconst 1, 1) := by decide +kernel
theorem dX7_approve_23 : decode cX7_approve 23 = .ok (.bastore, 1) := by decide +kernel
theorem dX7_approve_24 : decode cX7_approve 24 = .ok (.iload_n 2, 1) := by decide +kernel
theorem dX7_approve_25 : decode cX7_approve 25 = .ok (.ireturn, 1) := by decide +kernel
theorem dX7_correct_0 : decode cX7_correct 0 = .ok (.aload_n 0, 1) := by decide +kernel
theorem dX7_correct_1 : decode cX7_correct 1 = .ok (.iload_n 1, 1) := by decide +kernel
theorem dX7_correct_2 : decode cX7_correct 2 = .ok (.invokevirtual 104, 3) := by decide +kernel
theorem dX7_correct_5 : decode cX7_correct 5 = .ok (.ifCond .ne 5, 3) := by decide +kernel
theorem dX7_correct_8 : decode cX7_correct 8 = .ok (.iconst 0, 1) := by decide +kernel
theorem dX7_correct_9 : decode cX7_correct 9 = .ok (.ireturn, 1) := by decide +kernel
theorem dX7_correct_10 : decode cX7_correct 10 = .ok (.aload_n 0, 1) := by decide +kernel
theorem dX7_correct_11 : decode cX7_correct 11 = .ok (.getfield 7, 3) := by decide +kernel
theorem dX7_correct_14 : decode cX7_correct 14 = .ok (.iload_n 1, 1) := by decide +kernel
theorem dX7_correct_15 : decode cX7_correct 15 = .ok (.iaload, 1) := by decide +kernel
theorem dX7_correct_16 : decode cX7_correct 16 = .ok (.bipush 99, 2) := by decide +kernel
theorem dX7_correct_18 : decode cX7_correct 18 = .ok (.if_icmp .ne 9, 3) := by decide +kernel
theorem dX7_correct_21 : decode cX7_correct 21 = .ok (.aload_n 0, 1) := by decide +kernel
theorem dX7_correct_22 : decode cX7_correct 22 = .ok (.iconst 2, 1) := by decide +kernel
theorem dX7_correct_23 : decode cX7_correct 23 = .ok (.invokevirtual 101, 3) := by decide +kernel
theorem dX7_correct_26 : decode cX7_correct 26 = .ok (.ireturn, 1) := by decide +kernel
theorem dX7_correct_27 : decode cX7_correct 27 = .ok (.aload_n 0, 1) := by decide +kernel
theorem dX7_correct_28 : decode cX7_correct 28 = .ok (.getfield 7, 3) := by decide +kernel
theorem dX7_correct_31 : decode cX7_correct 31 = .ok (.iload_n 1, 1) := by decide +kernel
theorem dX7_correct_32 : decode cX7_correct 32 = .ok (.dup2, 1) := by decide +kernel
theorem dX7_correct_33 : decode cX7_correct 33 = .ok (.iaload, 1) := by decide +kernel
theorem dX7_correct_34 : decode cX7_correct 34 = .ok (.iconst 1, 1) := by decide +kernel
theorem dX7_correct_35 : decode cX7_correct 35 = .ok (.iadd, 1) := by decide +kernel
theorem dX7_correct_36 : decode cX7_correct 36 = .ok (.iastore, 1) := by decide +kernel
theorem dX7_correct_37 : decode cX7_correct 37 = .ok (.aload_n 0, 1) := by decide +kernel
theorem dX7_correct_38 : decode cX7_correct 38 = .ok (.getfield 25, 3) := by decide +kernel
theorem dX7_correct_41 : decode cX7_correct 41 = .ok (.iload_n 1, 1) := by decide +kernel
theorem dX7_correct_42 : decode cX7_correct 42 = .ok (.iconst 0, 1) := by decide +kernel
theorem dX7_correct_43 : decode cX7_correct 43 = .ok (.bastore, 1) := by decide +kernel
theorem dX7_correct_44 : decode cX7_correct 44 = .ok (.iconst 0, 1) := by decide +kernel
theorem dX7_correct_45 : decode cX7_correct 45 = .ok (.istore_n 2, 1) := by decide +kernel
theorem dX7_correct_46 : decode cX7_correct 46 = .ok (.iconst 0, 1) := by decide +kernel
theorem dX7_correct_47 : decode cX7_correct 47 = .ok (.istore_n 3, 1) := by decide +kernel
theorem dX7_correct_48 : decode cX7_correct 48 = .ok (.iload_n 3, 1) := by decide +kernel
theorem dX7_correct_49 : decode cX7_correct 49 = .ok (.aload_n 0, 1) := by decide +kernel
theorem dX7_correct_50 : decode cX7_correct 50 = .ok (.getfield 68, 3) := by decide +kernel
theorem dX7_correct_53 : decode cX7_correct 53 = .ok (.if_icmp .ge 61, 3) := by decide +kernel
theorem dX7_correct_56 : decode cX7_correct 56 = .ok (.iconst 0, 1) := by decide +kernel
theorem dX7_correct_57 : decode cX7_correct 57 = .ok (.istore 4, 2) := by decide +kernel
theorem dX7_correct_59 : decode cX7_correct 59 = .ok (.aload_n 0, 1) := by decide +kernel
theorem dX7_correct_60 : decode cX7_correct 60 = .ok (.iload_n 3, 1) := by decide +kernel
theorem dX7_correct_61 : decode cX7_correct 61 = .ok (.invokevirtual 71, 3) := by decide +kernel
theorem dX7_correct_64 : decode cX7_correct 64 = .ok (.ifCond .eq 44, 3) := by decide +kernel
theorem dX7_correct_67 : decode cX7_correct 67 = .ok (.iload 4, 2) := by decide +kernel
theorem dX7_correct_69 : decode cX7_correct 69 = .ok (.aload_n 0, 1) := by decide +kernel
theorem dX7_correct_70 : decode cX7_correct 70 = .ok (.iload_n 3, 1) := by decide +kernel
theorem dX7_correct_71 : decode cX7_correct 71 = .ok (.invokevirtual 78, 3) := by decide +kernel
theorem dX7_correct_74 : decode cX7_correct 74 = .ok (.if_icmp .ge 34, 3) := by decide +kernel
theorem dX7_correct_77 : decode cX7_correct 77 = .ok (.iload_n 2, 1) := by decide +kernel
theorem dX7_correct_78 : decode cX7_correct 78 = .ok (.aload_n 0, 1) := by decide +kernel
theorem dX7_correct_79 : decode cX7_correct 79 = .ok (.iload_n 3, 1) := by decide +kernel
theorem dX7_correct_80 : decode cX7_correct 80 = .ok (.iload 4, 2) := by decide +kernel
theorem dX7_correct_82 : decode cX7_correct 82 = .ok (.iload_n 1, 1) := by decide +kernel
theorem dX7_correct_83 : decode cX7_correct 83 = .ok (.invokevirtual 107, 3) := by decide +kernel
theorem dX7_correct_86 : decode cX7_correct 86 = .ok (.ifCond .eq 13, 3) := by decide +kernel
theorem dX7_correct_89 : decode cX7_correct 89 = .ok (.aload_n 0, 1) := by decide +kernel
theorem dX7_correct_90 : decode cX7_correct 90 = .ok (.iload_n 3, 1) := by decide +kernel
theorem dX7_correct_91 : decode cX7_correct 91 = .ok (.iload 4, 2) := by decide +kernel
theorem dX7_correct_93 : decode cX7_correct 93 = .ok (.invokevirtual 110, 3) := by decide +kernel
theorem dX7_correct_96 : decode cX7_correct 96 = .ok (.goto 4, 3) := by decide +kernel
theorem dX7_correct_99 : decode cX7_correct 99 = .ok (.iconst 0, 1) := by decide +kernel
theorem dX7_correct_100 : decode cX7_correct 100 = .ok (.iadd, 1) := by decide +kernel
theorem dX7_correct_101 : decode cX7_correct 101 = .ok (.istore_n 2, 1) := by decide +kernel
theorem dX7_correct_102 : decode cX7_correct 102 = .ok (.iinc 4 1, 3) := by decide +kernel
theorem dX7_correct_105 : decode cX7_correct 105 = .ok (.goto (-46), 3) := by decide +kernel
theorem dX7_correct_108 : decode cX7_correct 108 = .ok (.iinc 3 1, 3) := by decide +kernel
theorem dX7_correct_111 : decode cX7_correct 111 = .ok (.goto (-63), 3) := by decide +kernel
theorem dX7_correct_114 : decode cX7_correct 114 = .ok (.iload_n 2, 1) := by decide +kernel
theorem dX7_correct_115 : decode cX7_correct 115 = .ok (.ireturn, 1) := by decide +kernel
theorem dX7_state_0 : decode cX7_state 0 = .ok (.aload_n 0, 1) := by decide +kernel
theorem dX7_state_1 : decode cX7_state 1 = .ok (.iload_n 1, 1) := by decide +kernel
theorem dX7_state_2 : decode cX7_state 2 = .ok (.invokevirtual 104, 3) := by decide +kernel
theorem dX7_state_5 : decode cX7_state 5 = .ok (.ifCond .eq 12, 3) := by decide +kernel
theorem dX7_state_8 : decode cX7_state 8 = .ok (.aload_n 0, 1) := by decide +kernel
theorem dX7_state_9 : decode cX7_state 9 = .ok (.getfield 7, 3) := by decide +kernel
theorem dX7_state_12 : decode cX7_state 12 = .ok (.iload_n 1, 1) := by decide +kernel
theorem dX7_state_13 : decode cX7_state 13 = .ok (.iaload, 1) := by decide +kernel
theorem dX7_state_14 : decode cX7_state 14 = .ok (.goto 4, 3) := by decide +kernel
theorem dX7_state_17 : decode cX7_state 17 = .ok (.iconst 0, 1) := by decide +kernel
theorem dX7_state_18 : decode cX7_state 18 = .ok (.ireturn, 1) := by decide +kernel
theorem dX7_addJob_0 : decode cX7_addJob 0 = .ok (.iload_n 1, 1) := by decide +kernel
theorem dX7_addJob_1 : decode cX7_addJob 1 = .ok (.bipush 115, 2) := by decide +kernel
theorem dX7_addJob_3 : decode cX7_addJob 3 = .ok (.if_icmp .eq 21, 3) := by decide +kernel
theorem dX7_addJob_6 : decode cX7_addJob 6 = .ok (.iload_n 1, 1) := by decide +kernel
theorem dX7_addJob_7 : decode cX7_addJob 7 = .ok (.bipush 112, 2) := by decide +kernel
theorem dX7_addJob_9 : decode cX7_addJob 9 = .ok (.if_icmp .eq 15, 3) := by decide +kernel
theorem dX7_addJob_12 : decode cX7_addJob 12 = .ok (.iload_n 1, 1) := by decide +kernel
theorem dX7_addJob_13 : decode cX7_addJob 13 = .ok (.bipush 119, 2) := by decide +kernel
theorem dX7_addJob_15 : decode cX7_addJob 15 = .ok (.if_icmp .eq 9, 3) := by decide +kernel
theorem dX7_addJob_18 : decode cX7_addJob 18 = .ok (.aload_n 0, 1) := by decide +kernel
theorem dX7_addJob_19 : decode cX7_addJob 19 = .ok (.iconst 1, 1) := by decide +kernel
theorem dX7_addJob_20 : decode cX7_addJob 20 = .ok (.invokevirtual 101, 3) := by decide +kernel
theorem dX7_addJob_23 : decode cX7_addJob 23 = .ok (.ireturn, 1) := by decide +kernel
theorem dX7_addJob_24 : decode cX7_addJob 24 = .ok (.aload_n 0, 1) := by decide +kernel
theorem dX7_addJob_25 : decode cX7_addJob 25 = .ok (.getfield 68, 3) := by decide +kernel
theorem dX7_addJob_28 : decode cX7_addJob 28 = .ok (.iconst 4, 1) := by decide +kernel
theorem dX7_addJob_29 : decode cX7_addJob 29 = .ok (.if_icmp .ne 9, 3) := by decide +kernel
theorem dX7_addJob_32 : decode cX7_addJob 32 = .ok (.aload_n 0, 1) := by decide +kernel
theorem dX7_addJob_33 : decode cX7_addJob 33 = .ok (.iconst 2, 1) := by decide +kernel
theorem dX7_addJob_34 : decode cX7_addJob 34 = .ok (.invokevirtual 101, 3) := by decide +kernel
theorem dX7_addJob_37 : decode cX7_addJob 37 = .ok (.ireturn, 1) := by decide +kernel
theorem dX7_addJob_38 : decode cX7_addJob 38 = .ok (.aload_n 0, 1) := by decide +kernel
theorem dX7_addJob_39 : decode cX7_addJob 39 = .ok (.iconst 0, 1) := by decide +kernel
theorem dX7_addJob_40 : decode cX7_addJob 40 = .ok (.putfield 53, 3) := by decide +kernel
theorem dX7_addJob_43 : decode cX7_addJob 43 = .ok (.aload_n 0, 1) := by decide +kernel
theorem dX7_addJob_44 : decode cX7_addJob 44 = .ok (.getfield 13, 3) := by decide +kernel
theorem dX7_addJob_47 : decode cX7_addJob 47 = .ok (.aload_n 0, 1) := by decide +kernel
theorem dX7_addJob_48 : decode cX7_addJob 48 = .ok (.getfield 68, 3) := by decide +kernel
theorem dX7_addJob_51 : decode cX7_addJob 51 = .ok (.iload_n 1, 1) := by decide +kernel
theorem dX7_addJob_52 : decode cX7_addJob 52 = .ok (.iastore, 1) := by decide +kernel
theorem dX7_addJob_53 : decode cX7_addJob 53 = .ok (.aload_n 0, 1) := by decide +kernel
theorem dX7_addJob_54 : decode cX7_addJob 54 = .ok (.dup, 1) := by decide +kernel
theorem dX7_addJob_55 : decode cX7_addJob 55 = .ok (.getfield 68, 3) := by decide +kernel
theorem dX7_addJob_58 : decode cX7_addJob 58 = .ok (.iconst 1, 1) := by decide +kernel
theorem dX7_addJob_59 : decode cX7_addJob 59 = .ok (.iadd, 1) := by decide +kernel
theorem dX7_addJob_60 : decode cX7_addJob 60 = .ok (.putfield 68, 3) := by decide +kernel
theorem dX7_addJob_63 : decode cX7_addJob 63 = .ok (.aload_n 0, 1) := by decide +kernel
theorem dX7_addJob_64 : decode cX7_addJob 64 = .ok (.getfield 68, 3) := by decide +kernel
theorem dX7_addJob_67 : decode cX7_addJob 67 = .ok (.iconst 1, 1) := by decide +kernel
theorem dX7_addJob_68 : decode cX7_addJob 68 = .ok (.isub, 1) := by decide +kernel
theorem dX7_addJob_69 : decode cX7_addJob 69 = .ok (.ireturn, 1) := by decide +kernel
theorem dX7_addPage_0 : decode cX7_addPage 0 = .ok (.iload_n 1, 1) := by decide +kernel
theorem dX7_addPage_1 : decode cX7_addPage 1 = .ok (.iconst 0, 1) := by decide +kernel
theorem dX7_addPage_2 : decode cX7_addPage 2 = .ok (.aload_n 0, 1) := by decide +kernel
theorem dX7_addPage_3 : decode cX7_addPage 3 = .ok (.getfield 68, 3) := by decide +kernel
theorem dX7_addPage_6 : decode cX7_addPage 6 = .ok (.iconst 1, 1) := by decide +kernel
theorem dX7_addPage_7 : decode cX7_addPage 7 = .ok (.isub, 1) := by decide +kernel
theorem dX7_addPage_8 : decode cX7_addPage 8 = .ok (.invokestatic 60, 3) := by decide +kernel
theorem dX7_addPage_11 : decode cX7_addPage 11 = .ok (.ifCond .eq 17, 3) := by decide +kernel
theorem dX7_addPage_14 : decode cX7_addPage 14 = .ok (.iload_n 2, 1) := by decide +kernel
theorem dX7_addPage_15 : decode cX7_addPage 15 = .ok (.iconst 0, 1) := by decide +kernel
theorem dX7_addPage_16 : decode cX7_addPage 16 = .ok (.aload_n 0, 1) := by decide +kernel
theorem dX7_addPage_17 : decode cX7_addPage 17 = .ok (.getfield 57, 3) := by decide +kernel
theorem dX7_addPage_20 : decode cX7_addPage 20 = .ok (.iconst 1, 1) := by decide +kernel
theorem dX7_addPage_21 : decode cX7_addPage 21 = .ok (.isub, 1) := by decide +kernel
theorem dX7_addPage_22 : decode cX7_addPage 22 = .ok (.invokestatic 60, 3) := by decide +kernel
theorem dX7_addPage_25 : decode cX7_addPage 25 = .ok (.ifCond .ne 9, 3) := by decide +kernel
theorem dX7_addPage_28 : decode cX7_addPage 28 = .ok (.aload_n 0, 1) := by decide +kernel
theorem dX7_addPage_29 : decode cX7_addPage 29 = .ok (.iconst 1, 1) := by decide +kernel
theorem dX7_addPage_30 : decode cX7_addPage 30 = .ok (.invokevirtual 101, 3) := by decide +kernel
theorem dX7_addPage_33 : decode cX7_addPage 33 = .ok (.ireturn, 1) := by decide +kernel
theorem dX7_addPage_34 : decode cX7_addPage 34 = .ok (.aload_n 0, 1) := by decide +kernel
theorem dX7_addPage_35 : decode cX7_addPage 35 = .ok (.getfield 16, 3) := by decide +kernel
theorem dX7_addPage_38 : decode cX7_addPage 38 = .ok (.iload_n 1, 1) := by decide +kernel
theorem dX7_addPage_39 : decode cX7_addPage 39 = .ok (.iaload, 1) := by decide +kernel
theorem dX7_addPage_40 : decode cX7_addPage 40 = .ok (.bipush 16, 2) := by decide +kernel
theorem dX7_addPage_42 : decode cX7_addPage 42 = .ok (.if_icmp .ne 9, 3) := by decide +kernel
theorem dX7_addPage_45 : decode cX7_addPage 45 = .ok (.aload_n 0, 1) := by decide +kernel
end
section
theorem dX7_addPage_46 : decode cX7_addPage 46 = .ok (.iconst 2, 1) := by decide +kernel
theorem dX7_addPage_47 : decode cX7_addPage 47 = .ok (.invokevirtual 101, 3) := by decide +kernel
theorem dX7_addPage_50 : decode cX7_addPage 50 = .ok (.ireturn, 1) := by decide +kernel
theorem dX7_addPage_51 : decode cX7_addPage 51 = .ok (.aload_n 0, 1) := by decide +kernel
theorem dX7_addPage_52 : decode cX7_addPage 52 = .ok (.iconst 0, 1) := by decide +kernel
theorem dX7_addPage_53 : decode cX7_addPage 53 = .ok (.putfield 53, 3) := by decide +kernel
theorem dX7_addPage_56 : decode cX7_addPage 56 = .ok (.iconst 0, 1) := by decide +kernel
theorem dX7_addPage_57 : decode cX7_addPage 57 = .ok (.istore_n 3, 1) := by decide +kernel
theorem dX7_addPage_58 : decode cX7_addPage 58 = .ok (.iload_n 3, 1) := by decide +kernel
theorem dX7_addPage_59 : decode cX7_addPage 59 = .ok (.bipush 8, 2) := by decide +kernel
theorem dX7_addPage_61 : decode cX7_addPage 61 = .ok (.if_icmp .ge 16, 3) := by decide +kernel
theorem dX7_addPage_64 : decode cX7_addPage 64 = .ok (.aload_n 0, 1) := by decide +kernel
theorem dX7_addPage_65 : decode cX7_addPage 65 = .ok (.iload_n 1, 1) := by decide +kernel
theorem dX7_addPage_66 : decode cX7_addPage 66 = .ok (.iload_n 3, 1) := by decide +kernel
theorem dX7_addPage_67 : decode cX7_addPage 67 = .ok (.invokevirtual 110, 3) := by decide +kernel
theorem dX7_addPage_70 : decode cX7_addPage 70 = .ok (.pop, 1) := by decide +kernel
theorem dX7_addPage_71 : decode cX7_addPage 71 = .ok (.iinc 3 1, 3) := by decide +kernel
theorem dX7_addPage_74 : decode cX7_addPage 74 = .ok (.goto (-16), 3) := by decide +kernel
theorem dX7_addPage_77 : decode cX7_addPage 77 = .ok (.aload_n 0, 1) := by decide +kernel
theorem dX7_addPage_78 : decode cX7_addPage 78 = .ok (.getfield 19, 3) := by decide +kernel
theorem dX7_addPage_81 : decode cX7_addPage 81 = .ok (.bipush 16, 2) := by decide +kernel
theorem dX7_addPage_83 : decode cX7_addPage 83 = .ok (.iload_n 1, 1) := by decide +kernel
theorem dX7_addPage_84 : decode cX7_addPage 84 = .ok (.imul, 1) := by decide +kernel
theorem dX7_addPage_85 : decode cX7_addPage 85 = .ok (.aload_n 0, 1) := by decide +kernel
theorem dX7_addPage_86 : decode cX7_addPage 86 = .ok (.getfield 16, 3) := by decide +kernel
theorem dX7_addPage_89 : decode cX7_addPage 89 = .ok (.iload_n 1, 1) := by decide +kernel
theorem dX7_addPage_90 : decode cX7_addPage 90 = .ok (.iaload, 1) := by decide +kernel
theorem dX7_addPage_91 : decode cX7_addPage 91 = .ok (.iadd, 1) := by decide +kernel
theorem dX7_addPage_92 : decode cX7_addPage 92 = .ok (.iload_n 2, 1) := by decide +kernel
theorem dX7_addPage_93 : decode cX7_addPage 93 = .ok (.iastore, 1) := by decide +kernel
theorem dX7_addPage_94 : decode cX7_addPage 94 = .ok (.aload_n 0, 1) := by decide +kernel
theorem dX7_addPage_95 : decode cX7_addPage 95 = .ok (.getfield 16, 3) := by decide +kernel
theorem dX7_addPage_98 : decode cX7_addPage 98 = .ok (.iload_n 1, 1) := by decide +kernel
theorem dX7_addPage_99 : decode cX7_addPage 99 = .ok (.dup2, 1) := by decide +kernel
theorem dX7_addPage_100 : decode cX7_addPage 100 = .ok (.iaload, 1) := by decide +kernel
theorem dX7_addPage_101 : decode cX7_addPage 101 = .ok (.iconst 1, 1) := by decide +kernel
theorem dX7_addPage_102 : decode cX7_addPage 102 = .ok (.iadd, 1) := by decide +kernel
theorem dX7_addPage_103 : decode cX7_addPage 103 = .ok (.iastore, 1) := by decide +kernel
theorem dX7_addPage_104 : decode cX7_addPage 104 = .ok (.aload_n 0, 1) := by decide +kernel
theorem dX7_addPage_105 : decode cX7_addPage 105 = .ok (.getfield 16, 3) := by decide +kernel
theorem dX7_addPage_108 : decode cX7_addPage 108 = .ok (.iload_n 1, 1) := by decide +kernel
theorem dX7_addPage_109 : decode cX7_addPage 109 = .ok (.iaload, 1) := by decide +kernel
theorem dX7_addPage_110 : decode cX7_addPage 110 = .ok (.ireturn, 1) := by decide +kernel
theorem dX7_pages_0 : decode cX7_pages 0 = .ok (.iload_n 1, 1) := by decide +kernel
theorem dX7_pages_1 : decode cX7_pages 1 = .ok (.iconst 0, 1) := by decide +kernel
theorem dX7_pages_2 : decode cX7_pages 2 = .ok (.aload_n 0, 1) := by decide +kernel
theorem dX7_pages_3 : decode cX7_pages 3 = .ok (.getfield 68, 3) := by decide +kernel
theorem dX7_pages_6 : decode cX7_pages 6 = .ok (.iconst 1, 1) := by decide +kernel
theorem dX7_pages_7 : decode cX7_pages 7 = .ok (.isub, 1) := by decide +kernel
theorem dX7_pages_8 : decode cX7_pages 8 = .ok (.invokestatic 60, 3) := by decide +kernel
theorem dX7_pages_11 : decode cX7_pages 11 = .ok (.ifCond .ne 9, 3) := by decide +kernel
theorem dX7_pages_14 : decode cX7_pages 14 = .ok (.aload_n 0, 1) := by decide +kernel
theorem dX7_pages_15 : decode cX7_pages 15 = .ok (.iconst 1, 1) := by decide +kernel
theorem dX7_pages_16 : decode cX7_pages 16 = .ok (.invokevirtual 101, 3) := by decide +kernel
theorem dX7_pages_19 : decode cX7_pages 19 = .ok (.ireturn, 1) := by decide +kernel
theorem dX7_pages_20 : decode cX7_pages 20 = .ok (.aload_n 0, 1) := by decide +kernel
theorem dX7_pages_21 : decode cX7_pages 21 = .ok (.iconst 0, 1) := by decide +kernel
theorem dX7_pages_22 : decode cX7_pages 22 = .ok (.putfield 53, 3) := by decide +kernel
theorem dX7_pages_25 : decode cX7_pages 25 = .ok (.aload_n 0, 1) := by decide +kernel
theorem dX7_pages_26 : decode cX7_pages 26 = .ok (.getfield 16, 3) := by decide +kernel
theorem dX7_pages_29 : decode cX7_pages 29 = .ok (.iload_n 1, 1) := by decide +kernel
theorem dX7_pages_30 : decode cX7_pages 30 = .ok (.iaload, 1) := by decide +kernel
theorem dX7_pages_31 : decode cX7_pages 31 = .ok (.ireturn, 1) := by decide +kernel
theorem dX7_sheets_0 : decode cX7_sheets 0 = .ok (.aload_n 0, 1) := by decide +kernel
theorem dX7_sheets_1 : decode cX7_sheets 1 = .ok (.iload_n 1, 1) := by decide +kernel
theorem dX7_sheets_2 : decode cX7_sheets 2 = .ok (.invokevirtual 75, 3) := by decide +kernel
theorem dX7_sheets_5 : decode cX7_sheets 5 = .ok (.ifCond .eq 11, 3) := by decide +kernel
theorem dX7_sheets_8 : decode cX7_sheets 8 = .ok (.aload_n 0, 1) := by decide +kernel
theorem dX7_sheets_9 : decode cX7_sheets 9 = .ok (.iload_n 1, 1) := by decide +kernel
theorem dX7_sheets_10 : decode cX7_sheets 10 = .ok (.invokevirtual 78, 3) := by decide +kernel
theorem dX7_sheets_13 : decode cX7_sheets 13 = .ok (.goto 4, 3) := by decide +kernel
theorem dX7_sheets_16 : decode cX7_sheets 16 = .ok (.iconst 0, 1) := by decide +kernel
theorem dX7_sheets_17 : decode cX7_sheets 17 = .ok (.ireturn, 1) := by decide +kernel
theorem dX7_pageAt_0 : decode cX7_pageAt 0 = .ok (.aload_n 0, 1) := by decide +kernel
theorem dX7_pageAt_1 : decode cX7_pageAt 1 = .ok (.iload_n 1, 1) := by decide +kernel
theorem dX7_pageAt_2 : decode cX7_pageAt 2 = .ok (.iload_n 2, 1) := by decide +kernel
theorem dX7_pageAt_3 : decode cX7_pageAt 3 = .ok (.invokevirtual 114, 3) := by decide +kernel
theorem dX7_pageAt_6 : decode cX7_pageAt 6 = .ok (.ifCond .ne 5, 3) := by decide +kernel
theorem dX7_pageAt_9 : decode cX7_pageAt 9 = .ok (.iconst 0, 1) := by decide +kernel
theorem dX7_pageAt_10 : decode cX7_pageAt 10 = .ok (.ireturn, 1) := by decide +kernel
theorem dX7_pageAt_11 : decode cX7_pageAt 11 = .ok (.iload_n 3, 1) := by decide +kernel
theorem dX7_pageAt_12 : decode cX7_pageAt 12 = .ok (.iconst 0, 1) := by decide +kernel
theorem dX7_pageAt_13 : decode cX7_pageAt 13 = .ok (.aload_n 0, 1) := by decide +kernel
theorem dX7_pageAt_14 : decode cX7_pageAt 14 = .ok (.iload_n 1, 1) := by decide +kernel
theorem dX7_pageAt_15 : decode cX7_pageAt 15 = .ok (.invokevirtual 64, 3) := by decide +kernel
theorem dX7_pageAt_18 : decode cX7_pageAt 18 = .ok (.iconst 1, 1) := by decide +kernel
theorem dX7_pageAt_19 : decode cX7_pageAt 19 = .ok (.isub, 1) := by decide +kernel
theorem dX7_pageAt_20 : decode cX7_pageAt 20 = .ok (.invokestatic 60, 3) := by decide +kernel
theorem dX7_pageAt_23 : decode cX7_pageAt 23 = .ok (.ifCond .eq 13, 3) := by decide +kernel
theorem dX7_pageAt_26 : decode cX7_pageAt 26 = .ok (.aload_n 0, 1) := by decide +kernel
theorem dX7_pageAt_27 : decode cX7_pageAt 27 = .ok (.iload_n 1, 1) := by decide +kernel
theorem dX7_pageAt_28 : decode cX7_pageAt 28 = .ok (.iload_n 2, 1) := by decide +kernel
theorem dX7_pageAt_29 : decode cX7_pageAt 29 = .ok (.iload_n 3, 1) := by decide +kernel
theorem dX7_pageAt_30 : decode cX7_pageAt 30 = .ok (.invokevirtual 81, 3) := by decide +kernel
theorem dX7_pageAt_33 : decode cX7_pageAt 33 = .ok (.goto 8, 3) := by decide +kernel
theorem dX7_pageAt_36 : decode cX7_pageAt 36 = .ok (.aload_n 0, 1) := by decide +kernel
theorem dX7_pageAt_37 : decode cX7_pageAt 37 = .ok (.iconst 3, 1) := by decide +kernel
theorem dX7_pageAt_38 : decode cX7_pageAt 38 = .ok (.invokevirtual 101, 3) := by decide +kernel
theorem dX7_pageAt_41 : decode cX7_pageAt 41 = .ok (.ireturn, 1) := by decide +kernel
theorem dX7_sheetOf_0 : decode cX7_sheetOf 0 = .ok (.aload_n 0, 1) := by decide +kernel
theorem dX7_sheetOf_1 : decode cX7_sheetOf 1 = .ok (.iload_n 1, 1) := by decide +kernel
theorem dX7_sheetOf_2 : decode cX7_sheetOf 2 = .ok (.invokevirtual 75, 3) := by decide +kernel
theorem dX7_sheetOf_5 : decode cX7_sheetOf 5 = .ok (.ifCond .ne 5, 3) := by decide +kernel
theorem dX7_sheetOf_8 : decode cX7_sheetOf 8 = .ok (.iconst 0, 1) := by decide +kernel
theorem dX7_sheetOf_9 : decode cX7_sheetOf 9 = .ok (.ireturn, 1) := by decide +kernel
theorem dX7_sheetOf_10 : decode cX7_sheetOf 10 = .ok (.iconst 0, 1) := by decide +kernel
theorem dX7_sheetOf_11 : decode cX7_sheetOf 11 = .ok (.istore_n 3, 1) := by decide +kernel
theorem dX7_sheetOf_12 : decode cX7_sheetOf 12 = .ok (.iload_n 3, 1) := by decide +kernel
theorem dX7_sheetOf_13 : decode cX7_sheetOf 13 = .ok (.aload_n 0, 1) := by decide +kernel
theorem dX7_sheetOf_14 : decode cX7_sheetOf 14 = .ok (.iload_n 1, 1) := by decide +kernel
theorem dX7_sheetOf_15 : decode cX7_sheetOf 15 = .ok (.invokevirtual 78, 3) := by decide +kernel
theorem dX7_sheetOf_18 : decode cX7_sheetOf 18 = .ok (.if_icmp .ge 42, 3) := by decide +kernel
theorem dX7_sheetOf_21 : decode cX7_sheetOf 21 = .ok (.iconst 0, 1) := by decide +kernel
theorem dX7_sheetOf_22 : decode cX7_sheetOf 22 = .ok (.istore 4, 2) := by decide +kernel
theorem dX7_sheetOf_24 : decode cX7_sheetOf 24 = .ok (.iload 4, 2) := by decide +kernel
theorem dX7_sheetOf_26 : decode cX7_sheetOf 26 = .ok (.aload_n 0, 1) := by decide +kernel
theorem dX7_sheetOf_27 : decode cX7_sheetOf 27 = .ok (.iload_n 1, 1) := by decide +kernel
theorem dX7_sheetOf_28 : decode cX7_sheetOf 28 = .ok (.invokevirtual 64, 3) := by decide +kernel
theorem dX7_sheetOf_31 : decode cX7_sheetOf 31 = .ok (.if_icmp .ge 23, 3) := by decide +kernel
theorem dX7_sheetOf_34 : decode cX7_sheetOf 34 = .ok (.aload_n 0, 1) := by decide +kernel
theorem dX7_sheetOf_35 : decode cX7_sheetOf 35 = .ok (.iload_n 1, 1) := by decide +kernel
theorem dX7_sheetOf_36 : decode cX7_sheetOf 36 = .ok (.iload_n 3, 1) := by decide +kernel
theorem dX7_sheetOf_37 : decode cX7_sheetOf 37 = .ok (.iload 4, 2) := by decide +kernel
theorem dX7_sheetOf_39 : decode cX7_sheetOf 39 = .ok (.invokevirtual 81, 3) := by decide +kernel
theorem dX7_sheetOf_42 : decode cX7_sheetOf 42 = .ok (.iload_n 2, 1) := by decide +kernel
theorem dX7_sheetOf_43 : decode cX7_sheetOf 43 = .ok (.if_icmp .ne 5, 3) := by decide +kernel
theorem dX7_sheetOf_46 : decode cX7_sheetOf 46 = .ok (.iload_n 3, 1) := by decide +kernel
theorem dX7_sheetOf_47 : decode cX7_sheetOf 47 = .ok (.ireturn, 1) := by decide +kernel
theorem dX7_sheetOf_48 : decode cX7_sheetOf 48 = .ok (.iinc 4 1, 3) := by decide +kernel
theorem dX7_sheetOf_51 : decode cX7_sheetOf 51 = .ok (.goto (-27), 3) := by decide +kernel
theorem dX7_sheetOf_54 : decode cX7_sheetOf 54 = .ok (.iinc 3 1, 3) := by decide +kernel
theorem dX7_sheetOf_57 : decode cX7_sheetOf 57 = .ok (.goto (-45), 3) := by decide +kernel
theorem dX7_sheetOf_60 : decode cX7_sheetOf 60 = .ok (.aload_n 0, 1) := by decide +kernel
theorem dX7_sheetOf_61 : decode cX7_sheetOf 61 = .ok (.iconst 3, 1) := by decide +kernel
theorem dX7_sheetOf_62 : decode cX7_sheetOf 62 = .ok (.invokevirtual 101, 3) := by decide +kernel
theorem dX7_sheetOf_65 : decode cX7_sheetOf 65 = .ok (.ireturn, 1) := by decide +kernel
theorem dX7_ready_0 : decode cX7_ready 0 = .ok (.aload_n 0, 1) := by decide +kernel
theorem dX7_ready_1 : decode cX7_ready 1 = .ok (.iload_n 1, 1) := by decide +kernel
theorem dX7_ready_2 : decode cX7_ready 2 = .ok (.iload_n 2, 1) := by decide +kernel
theorem dX7_ready_3 : decode cX7_ready 3 = .ok (.iconst 1, 1) := by decide +kernel
theorem dX7_ready_4 : decode cX7_ready 4 = .ok (.invokevirtual 118, 3) := by decide +kernel
theorem dX7_ready_7 : decode cX7_ready 7 = .ok (.aload_n 0, 1) := by decide +kernel
theorem dX7_ready_8 : decode cX7_ready 8 = .ok (.getfield 122, 3) := by decide +kernel
theorem dX7_ready_11 : decode cX7_ready 11 = .ok (.if_icmp .ne 7, 3) := by decide +kernel
theorem dX7_ready_14 : decode cX7_ready 14 = .ok (.iconst 0, 1) := by decide +kernel
theorem dX7_ready_15 : decode cX7_ready 15 = .ok (.goto 5, 3) := by decide +kernel
theorem dX7_ready_18 : decode cX7_ready 18 = .ok (.bipush 20, 2) := by decide +kernel
theorem dX7_ready_20 : decode cX7_ready 20 = .ok (.aload_n 0, 1) := by decide +kernel
theorem dX7_ready_21 : decode cX7_ready 21 = .ok (.iload_n 1, 1) := by decide +kernel
theorem dX7_ready_22 : decode cX7_ready 22 = .ok (.iload_n 2, 1) := by decide +kernel
theorem dX7_ready_23 : decode cX7_ready 23 = .ok (.iconst 0, 1) := by decide +kernel
theorem dX7_ready_24 : decode cX7_ready 24 = .ok (.invokevirtual 118, 3) := by decide +kernel
theorem dX7_ready_27 : decode cX7_ready 27 = .ok (.aload_n 0, 1) := by decide +kernel
theorem dX7_ready_28 : decode cX7_ready 28 = .ok (.getfield 125, 3) := by decide +kernel
theorem dX7_ready_31 : decode cX7_ready 31 = .ok (.if_icmp .ne 7, 3) := by decide +kernel
theorem dX7_ready_34 : decode cX7_ready 34 = .ok (.iconst 0, 1) := by decide +kernel
theorem dX7_ready_35 : decode cX7_ready 35 = .ok (.goto 5, 3) := by decide +kernel
theorem dX7_ready_38 : decode cX7_ready 38 = .ok (.bipush 20, 2) := by decide +kernel
theorem dX7_ready_40 : decode cX7_ready 40 = .ok (.iadd, 1) := by decide +kernel
theorem dX7_ready_41 : decode cX7_ready 41 = .ok (.aload_n 0, 1) := by decide +kernel
theorem dX7_ready_42 : decode cX7_ready 42 = .ok (.getfield 13, 3) := by decide +kernel
theorem dX7_ready_45 : decode cX7_ready 45 = .ok (.iload_n 1, 1) := by decide +kernel
theorem dX7_ready_46 : decode cX7_ready 46 = .ok (.iaload, 1) := by decide +kernel
theorem dX7_ready_47 : decode cX7_ready 47 = .ok (.aload_n 0, 1) := by decide +kernel
theorem dX7_ready_48 : decode cX7_ready 48 = .ok (.getfield 128, 3) := by decide +kernel
theorem dX7_ready_51 : decode cX7_ready 51 = .ok (.if_icmp .ne 7, 3) := by decide +kernel
theorem dX7_ready_54 : decode cX7_ready 54 = .ok (.iconst 0, 1) := by decide +kernel
theorem dX7_ready_55 : decode cX7_ready 55 = .ok (.goto 5, 3) := by decide +kernel
theorem dX7_ready_58 : decode cX7_ready 58 = .ok (.bipush 15, 2) := by decide +kernel
theorem dX7_ready_60 : decode cX7_ready 60 = .ok (.iadd, 1) := by decide +kernel
theorem dX7_ready_61 : decode cX7_ready 61 = .ok (.ireturn, 1) := by decide +kernel
theorem dX7_print_0 : decode cX7_print 0 = .ok (.aload_n 0, 1) := by decide +kernel
theorem dX7_print_1 : decode cX7_print 1 = .ok (.iload_n 1, 1) := by decide +kernel
theorem dX7_print_2 : decode cX7_print 2 = .ok (.iload_n 2, 1) := by decide +kernel
theorem dX7_print_3 : decode cX7_print 3 = .ok (.invokevirtual 114, 3) := by decide +kernel
theorem dX7_print_6 : decode cX7_print 6 = .ok (.ifCond .ne 5, 3) := by decide +kernel
theorem dX7_print_9 : decode cX7_print 9 = .ok (.iconst 0, 1) := by decide +kernel
theorem dX7_print_10 : decode cX7_print 10 = .ok (.ireturn, 1) := by decide +kernel
theorem dX7_print_11 : decode cX7_print 11 = .ok (.iload_n 3, 1) := by decide +kernel
theorem dX7_print_12 : decode cX7_print 12 = .ok (.iconst 1, 1) := by decide +kernel
theorem dX7_print_13 : decode cX7_print 13 = .ok (.sipush 500, 3) := by decide +kernel
theorem dX7_print_16 : decode cX7_print 16 = .ok (.invokestatic 60, 3) := by decide +kernel
theorem dX7_print_19 : decode cX7_print 19 = .ok (.ifCond .ne 9, 3) := by decide +kernel
theorem dX7_print_22 : decode cX7_print 22 = .ok (.aload_n 0, 1) := by decide +kernel
theorem dX7_print_23 : decode cX7_print 23 = .ok (.iconst 4, 1) := by decide +kernel
theorem dX7_print_24 : decode cX7_print 24 = .ok (.invokevirtual 101, 3) := by decide +kernel
theorem dX7_print_27 : decode cX7_print 27 = .ok (.ireturn, 1) := by decide +kernel
theorem dX7_print_28 : decode cX7_print 28 = .ok (.aload_n 0, 1) := by decide +kernel
theorem dX7_print_29 : decode cX7_print 29 = .ok (.getfield 22, 3) := by decide +kernel
theorem dX7_print_32 : decode cX7_print 32 = .ok (.bipush 8, 2) := by decide +kernel
theorem dX7_print_34 : decode cX7_print 34 = .ok (.iload_n 1, 1) := by decide +kernel
theorem dX7_print_35 : decode cX7_print 35 = .ok (.imul, 1) := by decide +kernel
theorem dX7_print_36 : decode cX7_print 36 = .ok (.iload_n 2, 1) := by decide +kernel
theorem dX7_print_37 : decode cX7_print 37 = .ok (.iadd, 1) := by decide +kernel
theorem dX7_print_38 : decode cX7_print 38 = .ok (.iaload, 1) := by decide +kernel
theorem dX7_print_39 : decode cX7_print 39 = .ok (.iload_n 3, 1) := by decide +kernel
theorem dX7_print_40 : decode cX7_print 40 = .ok (.iadd, 1) := by decide +kernel
theorem dX7_print_41 : decode cX7_print 41 = .ok (.sipush 9999, 3) := by decide +kernel
theorem dX7_print_44 : decode cX7_print 44 = .ok (.if_icmp .gt 7, 3) := by decide +kernel
theorem dX7_print_47 : decode cX7_print 47 = .ok (.iconst 1, 1) := by decide +kernel
theorem dX7_print_48 : decode cX7_print 48 = .ok (.goto 4, 3) := by decide +kernel
theorem dX7_print_51 : decode cX7_print 51 = .ok (.iconst 0, 1) := by decide +kernel
theorem dX7_print_52 : decode cX7_print 52 = .ok (.istore 4, 2) := by decide +kernel
theorem dX7_print_54 : decode cX7_print 54 = .ok (.iconst 0, 1) := by decide +kernel
theorem dX7_print_55 : decode cX7_print 55 = .ok (.istore 5, 2) := by decide +kernel
theorem dX7_print_57 : decode cX7_print 57 = .ok (.iload 5, 2) := by decide +kernel
theorem dX7_print_59 : decode cX7_print 59 = .ok (.aload_n 0, 1) := by decide +kernel
theorem dX7_print_60 : decode cX7_print 60 = .ok (.iload_n 1, 1) := by decide +kernel
theorem dX7_print_61 : decode cX7_print 61 = .ok (.invokevirtual 64, 3) := by decide +kernel
theorem dX7_print_64 : decode cX7_print 64 = .ok (.if_icmp .ge 37, 3) := by decide +kernel
theorem dX7_print_67 : decode cX7_print 67 = .ok (.iload 4, 2) := by decide +kernel
theorem dX7_print_69 : decode cX7_print 69 = .ok (.ifCond .eq 23, 3) := by decide +kernel
theorem dX7_print_72 : decode cX7_print 72 = .ok (.aload_n 0, 1) := by decide +kernel
theorem dX7_print_73 : decode cX7_print 73 = .ok (.getfield 25, 3) := by decide +kernel
theorem dX7_print_76 : decode cX7_print 76 = .ok (.aload_n 0, 1) := by decide +kernel
theorem dX7_print_77 : decode cX7_print 77 = .ok (.iload_n 1, 1) := by decide +kernel
theorem dX7_print_78 : decode cX7_print 78 = .ok (.iload_n 2, 1) := by decide +kernel
theorem dX7_print_79 : decode cX7_print 79 = .ok (.iload 5, 2) := by decide +kernel
theorem dX7_print_81 : decode cX7_print 81 = .ok (.invokevirtual 85, 3) := by decide +kernel
theorem dX7_print_84 : decode cX7_print 84 = .ok (.baload, 1) := by decide +kernel
theorem dX7_print_85 : decode cX7_print 85 = .ok (.ifCond .eq 7, 3) := by decide +kernel
theorem dX7_print_88 : decode cX7_print 88 = .ok (.iconst 1, 1) := by decide +kernel
theorem dX7_print_89 : decode cX7_print 89 = .ok (.goto 4, 3) := by decide +kernel
theorem dX7_print_92 : decode cX7_print 92 = .ok (.iconst 0, 1) := by decide +kernel
theorem dX7_print_93 : decode cX7_print 93 = .ok (.istore 4, 2) := by decide +kernel
theorem dX7_print_95 : decode cX7_print 95 = .ok (.iinc 5 1, 3) := by decide +kernel
theorem dX7_print_98 : decode cX7_print 98 = .ok (.goto (-41), 3) := by decide +kernel
theorem dX7_print_101 : decode cX7_print 101 = .ok (.iload 4, 2) := by decide +kernel
theorem dX7_print_103 : decode cX7_print 103 = .ok (.ifCond .ne 9, 3) := by decide +kernel
theorem dX7_print_106 : decode cX7_print 106 = .ok (.aload_n 0, 1) := by decide +kernel
theorem dX7_print_107 : decode cX7_print 107 = .ok (.iconst 5, 1) := by decide +kernel
theorem dX7_print_108 : decode cX7_print 108 = .ok (.invokevirtual 101, 3) := by decide +kernel
theorem dX7_print_111 : decode cX7_print 111 = .ok (.ireturn, 1) := by decide +kernel
theorem dX7_print_112 : decode cX7_print 112 = .ok (.aload_n 0, 1) := by decide +kernel
theorem dX7_print_113 : decode cX7_print 113 = .ok (.iload_n 1, 1) := by decide +kernel
theorem dX7_print_114 : decode cX7_print 114 = .ok (.iload_n 2, 1) := by decide +kernel
theorem dX7_print_115 : decode cX7_print 115 = .ok (.invokevirtual 131, 3) := by decide +kernel
theorem dX7_print_118 : decode cX7_print 118 = .ok (.istore 5, 2) := by decide +kernel
theorem dX7_print_120 : decode cX7_print 120 = .ok (.aload_n 0, 1) := by decide +kernel
theorem dX7_print_121 : decode cX7_print 121 = .ok (.aload_n 0, 1) := by decide +kernel
theorem dX7_print_122 : decode cX7_print 122 = .ok (.iload_n 1, 1) := by decide +kernel
theorem dX7_print_123 : decode cX7_print 123 = .ok (.iload_n 2, 1) := by decide +kernel
theorem dX7_print_124 : decode cX7_print 124 = .ok (.iconst 1, 1) := by decide +kernel
theorem dX7_print_125 : decode cX7_print 125 = .ok (.invokevirtual 118, 3) := by decide +kernel
theorem dX7_print_128 : decode cX7_print 128 = .ok (.putfield 122, 3) := by decide +kernel
theorem dX7_print_131 : decode cX7_print 131 = .ok (.aload_n 0, 1) := by decide +kernel
theorem dX7_print_132 : decode cX7_print 132 = .ok (.aload_n 0, 1) := by decide +kernel
theorem dX7_print_133 : decode cX7_print 133 = .ok (.iload_n 1, 1) := by decide +kernel
theorem dX7_print_134 : decode cX7_print 134 = .ok (.iload_n 2, 1) := by decide +kernel
theorem dX7_print_135 : decode cX7_print 135 = .ok (.iconst 0, 1) := by decide +kernel
theorem dX7_print_136 : decode cX7_print 136 = .ok (.invokevirtual 118, 3) := by decide +kernel
theorem dX7_print_139 : decode cX7_print 139 = .ok (.putfield 125, 3) := by decide +kernel
theorem dX7_print_142 : decode cX7_print 142 = .ok (.aload_n 0, 1) := by decide +kernel
theorem dX7_print_143 : decode cX7_print 143 = .ok (.aload_n 0, 1) := by decide +kernel
theorem dX7_print_144 : decode cX7_print 144 = .ok (.getfield 13, 3) := by decide +kernel
theorem dX7_print_147 : decode cX7_print 147 = .ok (.iload_n 1, 1) := by decide +kernel
theorem dX7_print_148 : decode cX7_print 148 = .ok (.iaload, 1) := by decide +kernel
theorem dX7_print_149 : decode cX7_print 149 = .ok (.putfield 128, 3) := by decide +kernel
theorem dX7_print_152 : decode cX7_print 152 = .ok (.aload_n 0, 1) := by decide +kernel
theorem dX7_print_153 : decode cX7_print 153 = .ok (.aload_n 0, 1) := by decide +kernel
theorem dX7_print_154 : decode cX7_print 154 = .ok (.getfield 122, 3) := by decide +kernel
theorem dX7_print_157 : decode cX7_print 157 = .ok (.invokevirtual 134, 3) := by decide +kernel
theorem dX7_print_160 : decode cX7_print 160 = .ok (.aload_n 0, 1) := by decide +kernel
theorem dX7_print_161 : decode cX7_print 161 = .ok (.aload_n 0, 1) := by decide +kernel
theorem dX7_print_162 : decode cX7_print 162 = .ok (.getfield 125, 3) := by decide +kernel
theorem dX7_print_165 : decode cX7_print 165 = .ok (.invokevirtual 134, 3) := by decide +kernel
theorem dX7_print_168 : decode cX7_print 168 = .ok (.aload_n 0, 1) := by decide +kernel
theorem dX7_print_169 : decode cX7_print 169 = .ok (.getfield 22, 3) := by decide +kernel
theorem dX7_print_172 : decode cX7_print 172 = .ok (.bipush 8, 2) := by decide +kernel
theorem dX7_print_174 : decode cX7_print 174 = .ok (.iload_n 1, 1) := by decide +kernel
theorem dX7_print_175 : decode cX7_print 175 = .ok (.imul, 1) := by decide +kernel
theorem dX7_print_176 : decode cX7_print 176 = .ok (.iload_n 2, 1) := by decide +kernel
theorem dX7_print_177 : decode cX7_print 177 = .ok (.iadd, 1) := by decide +kernel
theorem dX7_print_178 : decode cX7_print 178 = .ok (.dup2, 1) := by decide +kernel
theorem dX7_print_179 : decode cX7_print 179 = .ok (.iaload, 1) := by decide +kernel
theorem dX7_print_180 : decode cX7_print 180 = .ok (.iload_n 3, 1) := by decide +kernel
theorem dX7_print_181 : decode cX7_print 181 = .ok (.iadd, 1) := by decide +kernel
theorem dX7_print_182 : decode cX7_print 182 = .ok (.iastore, 1) := by decide +kernel
theorem dX7_print_183 : decode cX7_print 183 = .ok (.aload_n 0, 1) := by decide +kernel
theorem dX7_print_184 : decode cX7_print 184 = .ok (.dup, 1) := by decide +kernel
theorem dX7_print_185 : decode cX7_print 185 = .ok (.getfield 138, 3) := by decide +kernel
theorem dX7_print_188 : decode cX7_print 188 = .ok (.iload_n 3, 1) := by decide +kernel
theorem dX7_print_189 : decode cX7_print 189 = .ok (.i2l, 1) := by decide +kernel
theorem dX7_print_190 : decode cX7_print 190 = .ok (.ladd, 1) := by decide +kernel
theorem dX7_print_191 : decode cX7_print 191 = .ok (.putfield 138, 3) := by decide +kernel
theorem dX7_print_194 : decode cX7_print 194 = .ok (.aload_n 0, 1) := by decide +kernel
theorem dX7_print_195 : decode cX7_print 195 = .ok (.dup, 1) := by decide +kernel
theorem dX7_print_196 : decode cX7_print 196 = .ok (.getfield 141, 3) := by decide +kernel
theorem dX7_print_199 : decode cX7_print 199 = .ok (.iconst 1, 1) := by decide +kernel
theorem dX7_print_200 : decode cX7_print 200 = .ok (.iadd, 1) := by decide +kernel
theorem dX7_print_201 : decode cX7_print 201 = .ok (.putfield 141, 3) := by decide +kernel
theorem dX7_print_204 : decode cX7_print 204 = .ok (.aload_n 0, 1) := by decide +kernel
theorem dX7_print_205 : decode cX7_print 205 = .ok (.dup, 1) := by decide +kernel
theorem dX7_print_206 : decode cX7_print 206 = .ok (.getfield 144, 3) := by decide +kernel
theorem dX7_print_209 : decode cX7_print 209 = .ok (.iload 5, 2) := by decide +kernel
theorem dX7_print_211 : decode cX7_print 211 = .ok (.iadd, 1) := by decide +kernel
theorem dX7_print_212 : decode cX7_print 212 = .ok (.putfield 144, 3) := by decide +kernel
theorem dX7_print_215 : decode cX7_print 215 = .ok (.iload 5, 2) := by decide +kernel
theorem dX7_print_217 : decode cX7_print 217 = .ok (.ireturn, 1) := by decide +kernel
theorem dX7_makeready_0 : decode cX7_makeready 0 = .ok (.aload_n 0, 1) := by decide +kernel
theorem dX7_makeready_1 : decode cX7_makeready 1 = .ok (.iload_n 1, 1) := by decide +kernel
theorem dX7_makeready_2 : decode cX7_makeready 2 = .ok (.iload_n 2, 1) := by decide +kernel
theorem dX7_makeready_3 : decode cX7_makeready 3 = .ok (.invokevirtual 114, 3) := by decide +kernel
theorem dX7_makeready_6 : decode cX7_makeready 6 = .ok (.ifCond .eq 12, 3) := by decide +kernel
theorem dX7_makeready_9 : decode cX7_makeready 9 = .ok (.aload_n 0, 1) := by decide +kernel
theorem dX7_makeready_10 : decode cX7_makeready 10 = .ok (.iload_n 1, 1) := by decide +kernel
theorem dX7_makeready_11 : decode cX7_makeready 11 = .ok (.iload_n 2, 1) := by decide +kernel
theorem dX7_makeready_12 : decode cX7_makeready 12 = .ok (.invokevirtual 131, 3) := by decide +kernel
theorem dX7_makeready_15 : decode cX7_makeready 15 = .ok (.goto 4, 3) := by decide +kernel
theorem dX7_makeready_18 : decode cX7_makeready 18 = .ok (.iconst 0, 1) := by decide +kernel
theorem dX7_makeready_19 : decode cX7_makeready 19 = .ok (.ireturn, 1) := by decide +kernel
theorem dX7_change_0 : decode cX7_change 0 = .ok (.aload_n 0, 1) := by decide +kernel
theorem dX7_change_1 : decode cX7_change 1 = .ok (.getfield 32, 3) := by decide +kernel
theorem dX7_change_4 : decode cX7_change 4 = .ok (.iload_n 1, 1) := by decide +kernel
theorem dX7_change_5 : decode cX7_change 5 = .ok (.iaload, 1) := by decide +kernel
theorem dX7_change_6 : decode cX7_change 6 = .ok (.aload_n 0, 1) := by decide +kernel
theorem dX7_change_7 : decode cX7_change 7 = .ok (.getfield 32, 3) := by decide +kernel
theorem dX7_change_10 : decode cX7_change 10 = .ok (.iload_n 2, 1) := by decide +kernel
theorem dX7_change_11 : decode cX7_change 11 = .ok (.iaload, 1) := by decide +kernel
theorem dX7_change_12 : decode cX7_change 12 = .ok (.if_icmp .ne 7, 3) := by decide +kernel
theorem dX7_change_15 : decode cX7_change 15 = .ok (.iconst 0, 1) := by decide +kernel
theorem dX7_change_16 : decode cX7_change 16 = .ok (.goto 5, 3) := by decide +kernel
theorem dX7_change_19 : decode cX7_change 19 = .ok (.bipush 20, 2) := by decide +kernel
theorem dX7_change_21 : decode cX7_change 21 = .ok (.aload_n 0, 1) := by decide +kernel
theorem dX7_change_22 : decode cX7_change 22 = .ok (.getfield 35, 3) := by decide +kernel
theorem dX7_change_25 : decode cX7_change 25 = .ok (.iload_n 1, 1) := by decide +kernel
theorem dX7_change_26 : decode cX7_change 26 = .ok (.iaload, 1) := by decide +kernel
theorem dX7_change_27 : decode cX7_change 27 = .ok (.aload_n 0, 1) := by decide +kernel
theorem dX7_change_28 : decode cX7_change 28 = .ok (.getfield 35, 3) := by decide +kernel
theorem dX7_change_31 : decode cX7_change 31 = .ok (.iload_n 2, 1) := by decide +kernel
theorem dX7_change_32 : decode cX7_change 32 = .ok (.iaload, 1) := by decide +kernel
theorem dX7_change_33 : decode cX7_change 33 = .ok (.if_icmp .ne 7, 3) := by decide +kernel
theorem dX7_change_36 : decode cX7_change 36 = .ok (.iconst 0, 1) := by decide +kernel
theorem dX7_change_37 : decode cX7_change 37 = .ok (.goto 5, 3) := by decide +kernel
theorem dX7_change_40 : decode cX7_change 40 = .ok (.bipush 20, 2) := by decide +kernel
theorem dX7_change_42 : decode cX7_change 42 = .ok (.iadd, 1) := by decide +kernel
theorem dX7_change_43 : decode cX7_change 43 = .ok (.ireturn, 1) := by decide +kernel
theorem dX7_least_0 : decode cX7_least 0 = .ok (.aload_n 0, 1) := by decide +kernel
theorem dX7_least_1 : decode cX7_least 1 = .ok (.iload_n 1, 1) := by decide +kernel
theorem dX7_least_2 : decode cX7_least 2 = .ok (.invokevirtual 78, 3) := by decide +kernel
theorem dX7_least_5 : decode cX7_least 5 = .ok (.istore_n 2, 1) := by decide +kernel
theorem dX7_least_6 : decode cX7_least 6 = .ok (.iconst 0, 1) := by decide +kernel
theorem dX7_least_7 : decode cX7_least 7 = .ok (.istore_n 3, 1) := by decide +kernel
theorem dX7_least_8 : decode cX7_least 8 = .ok (.iload_n 3, 1) := by decide +kernel
theorem dX7_least_9 : decode cX7_least 9 = .ok (.iload_n 2, 1) := by decide +kernel
theorem dX7_least_10 : decode cX7_least 10 = .ok (.if_icmp .ge 35, 3) := by decide +kernel
theorem dX7_least_13 : decode cX7_least 13 = .ok (.aload_n 0, 1) := by decide +kernel
theorem dX7_least_14 : decode cX7_least 14 = .ok (.getfield 32, 3) := by decide +kernel
theorem dX7_least_17 : decode cX7_least 17 = .ok (.iload_n 3, 1) := by decide +kernel
theorem dX7_least_18 : decode cX7_least 18 = .ok (.aload_n 0, 1) := by decide +kernel
theorem dX7_least_19 : decode cX7_least 19 = .ok (.iload_n 1, 1) := by decide +kernel
theorem dX7_least_20 : decode cX7_least 20 = .ok (.iload_n 3, 1) := by decide +kernel
theorem dX7_least_21 : decode cX7_least 21 = .ok (.iconst 1, 1) := by decide +kernel
theorem dX7_least_22 : decode cX7_least 22 = .ok (.invokevirtual 118, 3) := by decide +kernel
theorem dX7_least_25 : decode cX7_least 25 = .ok (.iastore, 1) := by decide +kernel
theorem dX7_least_26 : decode cX7_least 26 = .ok (.aload_n 0, 1) := by decide +kernel
theorem dX7_least_27 : decode cX7_least 27 = .ok (.getfield 35, 3) := by decide +kernel
theorem dX7_least_30 : decode cX7_least 30 = .ok (.iload_n 3, 1) := by decide +kernel
theorem dX7_least_31 : decode cX7_least 31 = .ok (.aload_n 0, 1) := by decide +kernel
theorem dX7_least_32 : decode cX7_least 32 = .ok (.iload_n 1, 1) := by decide +kernel
theorem dX7_least_33 : decode cX7_least 33 = .ok (.iload_n 3, 1) := by decide +kernel
theorem dX7_least_34 : decode cX7_least 34 = .ok (.iconst 0, 1) := by decide +kernel
theorem dX7_least_35 : decode cX7_least 35 = .ok (.invokevirtual 118, 3) := by decide +kernel
theorem dX7_least_38 : decode cX7_least 38 = .ok (.iastore, 1) := by decide +kernel
theorem dX7_least_39 : decode cX7_least 39 = .ok (.iinc 3 1, 3) := by decide +kernel
theorem dX7_least_42 : decode cX7_least 42 = .ok (.goto (-34), 3) := by decide +kernel
theorem dX7_least_45 : decode cX7_least 45 = .ok (.iconst 1, 1) := by decide +kernel
theorem dX7_least_46 : decode cX7_least 46 = .ok (.istore_n 3, 1) := by decide +kernel
theorem dX7_least_47 : decode cX7_least 47 = .ok (.iload_n 3, 1) := by decide +kernel
theorem dX7_least_48 : decode cX7_least 48 = .ok (.iconst 1, 1) := by decide +kernel
theorem dX7_least_49 : decode cX7_least 49 = .ok (.iload_n 2, 1) := by decide +kernel
theorem dX7_least_50 : decode cX7_least 50 = .ok (.ishl, 1) := by decide +kernel
theorem dX7_least_51 : decode cX7_least 51 = .ok (.if_icmp .ge 150, 3) := by decide +kernel
theorem dX7_least_54 : decode cX7_least 54 = .ok (.iconst 0, 1) := by decide +kernel
theorem dX7_least_55 : decode cX7_least 55 = .ok (.istore 4, 2) := by decide +kernel
theorem dX7_least_57 : decode cX7_least 57 = .ok (.iload 4, 2) := by decide +kernel
theorem dX7_least_59 : decode cX7_least 59 = .ok (.iload_n 2, 1) := by decide +kernel
theorem dX7_least_60 : decode cX7_least 60 = .ok (.if_icmp .ge 135, 3) := by decide +kernel
theorem dX7_least_63 : decode cX7_least 63 = .ok (.iload_n 3, 1) := by decide +kernel
theorem dX7_least_64 : decode cX7_least 64 = .ok (.iconst 1, 1) := by decide +kernel
theorem dX7_least_65 : decode cX7_least 65 = .ok (.iload 4, 2) := by decide +kernel
theorem dX7_least_67 : decode cX7_least 67 = .ok (.ishl, 1) := by decide +kernel
theorem dX7_least_68 : decode cX7_least 68 = .ok (.iconst (-1), 1) := by decide +kernel
theorem dX7_least_69 : decode cX7_least 69 = .ok (.ixor, 1) := by decide +kernel
theorem dX7_least_70 : decode cX7_least 70 = .ok (.iand, 1) := by decide +kernel
theorem dX7_least_71 : decode cX7_least 71 = .ok (.istore 5, 2) := by decide +kernel
theorem dX7_least_73 : decode cX7_least 73 = .ok (.iload 5, 2) := by decide +kernel
theorem dX7_least_75 : decode cX7_least 75 = .ok (.ifCond .ne 13, 3) := by decide +kernel
theorem dX7_least_78 : decode cX7_least 78 = .ok (.aload_n 0, 1) := by decide +kernel
theorem dX7_least_79 : decode cX7_least 79 = .ok (.iload_n 1, 1) := by decide +kernel
theorem dX7_least_80 : decode cX7_least 80 = .ok (.iload 4, 2) := by decide +kernel
theorem dX7_least_82 : decode cX7_least 82 = .ok (.invokevirtual 131, 3) := by decide +kernel
theorem dX7_least_85 : decode cX7_least 85 = .ok (.goto 5, 3) := by decide +kernel
theorem dX7_least_88 : decode cX7_least 88 = .ok (.ldc 149, 2) := by decide +kernel
theorem dX7_least_90 : decode cX7_least 90 = .ok (.istore 6, 2) := by decide +kernel
theorem dX7_least_92 : decode cX7_least 92 = .ok (.iconst 0, 1) := by decide +kernel
theorem dX7_least_93 : decode cX7_least 93 = .ok (.istore 7, 2) := by decide +kernel
theorem dX7_least_95 : decode cX7_least 95 = .ok (.iload 7, 2) := by decide +kernel
theorem dX7_least_97 : decode cX7_least 97 = .ok (.iload_n 2, 1) := by decide +kernel
theorem dX7_least_98 : decode cX7_least 98 = .ok (.if_icmp .ge 77, 3) := by decide +kernel
theorem dX7_least_101 : decode cX7_least 101 = .ok (.iload 5, 2) := by decide +kernel
theorem dX7_least_103 : decode cX7_least 103 = .ok (.iload_n 3, 1) := by decide +kernel
theorem dX7_least_104 : decode cX7_least 104 = .ok (.if_icmp .eq 71, 3) := by decide +kernel
theorem dX7_least_107 : decode cX7_least 107 = .ok (.iload 5, 2) := by decide +kernel
theorem dX7_least_109 : decode cX7_least 109 = .ok (.iload 7, 2) := by decide +kernel
theorem dX7_least_111 : decode cX7_least 111 = .ok (.ishr, 1) := by decide +kernel
theorem dX7_least_112 : decode cX7_least 112 = .ok (.iconst 1, 1) := by decide +kernel
theorem dX7_least_113 : decode cX7_least 113 = .ok (.iand, 1) := by decide +kernel
theorem dX7_least_114 : decode cX7_least 114 = .ok (.iconst 1, 1) := by decide +kernel
theorem dX7_least_115 : decode cX7_least 115 = .ok (.if_icmp .ne 54, 3) := by decide +kernel
theorem dX7_least_118 : decode cX7_least 118 = .ok (.aload_n 0, 1) := by decide +kernel
theorem dX7_least_119 : decode cX7_least 119 = .ok (.getfield 38, 3) := by decide +kernel
theorem dX7_least_122 : decode cX7_least 122 = .ok (.bipush 8, 2) := by decide +kernel
theorem dX7_least_124 : decode cX7_least 124 = .ok (.iload 5, 2) := by decide +kernel
theorem dX7_least_126 : decode cX7_least 126 = .ok (.imul, 1) := by decide +kernel
theorem dX7_least_127 : decode cX7_least 127 = .ok (.iload 7, 2) := by decide +kernel
theorem dX7_least_129 : decode cX7_least 129 = .ok (.iadd, 1) := by decide +kernel
theorem dX7_least_130 : decode cX7_least 130 = .ok (.iaload, 1) := by decide +kernel
theorem dX7_least_131 : decode cX7_least 131 = .ok (.aload_n 0, 1) := by decide +kernel
theorem dX7_least_132 : decode cX7_least 132 = .ok (.iload 7, 2) := by decide +kernel
theorem dX7_least_134 : decode cX7_least 134 = .ok (.iload 4, 2) := by decide +kernel
theorem dX7_least_136 : decode cX7_least 136 = .ok (.invokevirtual 150, 3) := by decide +kernel
theorem dX7_least_139 : decode cX7_least 139 = .ok (.iadd, 1) := by decide +kernel
theorem dX7_least_140 : decode cX7_least 140 = .ok (.iload 6, 2) := by decide +kernel
theorem dX7_least_142 : decode cX7_least 142 = .ok (.if_icmp .ge 27, 3) := by decide +kernel
theorem dX7_least_145 : decode cX7_least 145 = .ok (.aload_n 0, 1) := by decide +kernel
theorem dX7_least_146 : decode cX7_least 146 = .ok (.getfield 38, 3) := by decide +kernel
theorem dX7_least_149 : decode cX7_least 149 = .ok (.bipush 8, 2) := by decide +kernel
theorem dX7_least_151 : decode cX7_least 151 = .ok (.iload 5, 2) := by decide +kernel
theorem dX7_least_153 : decode cX7_least 153 = .ok (.imul, 1) := by decide +kernel
theorem dX7_least_154 : decode cX7_least 154 = .ok (.iload 7, 2) := by decide +kernel
theorem dX7_least_156 : decode cX7_least 156 = .ok (.iadd, 1) := by decide +kernel
theorem dX7_least_157 : decode cX7_least 157 = .ok (.iaload, 1) := by decide +kernel
theorem dX7_least_158 : decode cX7_least 158 = .ok (.aload_n 0, 1) := by decide +kernel
theorem dX7_least_159 : decode cX7_least 159 = .ok (.iload 7, 2) := by decide +kernel
theorem dX7_least_161 : decode cX7_least 161 = .ok (.iload 4, 2) := by decide +kernel
theorem dX7_least_163 : decode cX7_least 163 = .ok (.invokevirtual 150, 3) := by decide +kernel
theorem dX7_least_166 : decode cX7_least 166 = .ok (.iadd, 1) := by decide +kernel
theorem dX7_least_167 : decode cX7_least 167 = .ok (.istore 6, 2) := by decide +kernel
theorem dX7_least_169 : decode cX7_least 169 = .ok (.iinc 7 1, 3) := by decide +kernel
theorem dX7_least_172 : decode cX7_least 172 = .ok (.goto (-77), 3) := by decide +kernel
theorem dX7_least_175 : decode cX7_least 175 = .ok (.aload_n 0, 1) := by decide +kernel
theorem dX7_least_176 : decode cX7_least 176 = .ok (.getfield 38, 3) := by decide +kernel
theorem dX7_least_179 : decode cX7_least 179 = .ok (.bipush 8, 2) := by decide +kernel
theorem dX7_least_181 : decode cX7_least 181 = .ok (.iload_n 3, 1) := by decide +kernel
theorem dX7_least_182 : decode cX7_least 182 = .ok (.imul, 1) := by decide +kernel
theorem dX7_least_183 : decode cX7_least 183 = .ok (.iload 4, 2) := by decide +kernel
theorem dX7_least_185 : decode cX7_least 185 = .ok (.iadd, 1) := by decide +kernel
theorem dX7_least_186 : decode cX7_least 186 = .ok (.iload 6, 2) := by decide +kernel
theorem dX7_least_188 : decode cX7_least 188 = .ok (.iastore, 1) := by decide +kernel
theorem dX7_least_189 : decode cX7_least 189 = .ok (.iinc 4 1, 3) := by decide +kernel
theorem dX7_least_192 : decode cX7_least 192 = .ok (.goto (-135), 3) := by decide +kernel
theorem dX7_least_195 : decode cX7_least 195 = .ok (.iinc 3 1, 3) := by decide +kernel
theorem dX7_least_198 : decode cX7_least 198 = .ok (.goto (-151), 3) := by decide +kernel
theorem dX7_least_201 : decode cX7_least 201 = .ok (.ldc 149, 2) := by decide +kernel
theorem dX7_least_203 : decode cX7_least 203 = .ok (.istore_n 3, 1) := by decide +kernel
theorem dX7_least_204 : decode cX7_least 204 = .ok (.iconst 0, 1) := by decide +kernel
theorem dX7_least_205 : decode cX7_least 205 = .ok (.istore 4, 2) := by decide +kernel
theorem dX7_least_207 : decode cX7_least 207 = .ok (.iload 4, 2) := by decide +kernel
theorem dX7_least_209 : decode cX7_least 209 = .ok (.iload_n 2, 1) := by decide +kernel
theorem dX7_least_210 : decode cX7_least 210 = .ok (.if_icmp .ge 40, 3) := by decide +kernel
theorem dX7_least_213 : decode cX7_least 213 = .ok (.aload_n 0, 1) := by decide +kernel
theorem dX7_least_214 : decode cX7_least 214 = .ok (.getfield 38, 3) := by decide +kernel
theorem dX7_least_217 : decode cX7_least 217 = .ok (.bipush 8, 2) := by decide +kernel
theorem dX7_least_219 : decode cX7_least 219 = .ok (.iconst 1, 1) := by decide +kernel
theorem dX7_least_220 : decode cX7_least 220 = .ok (.iload_n 2, 1) := by decide +kernel
theorem dX7_least_221 : decode cX7_least 221 = .ok (.ishl, 1) := by decide +kernel
theorem dX7_least_222 : decode cX7_least 222 = .ok (.iconst 1, 1) := by decide +kernel
theorem dX7_least_223 : decode cX7_least 223 = .ok (.isub, 1) := by decide +kernel
theorem dX7_least_224 : decode cX7_least 224 = .ok (.imul, 1) := by decide +kernel
theorem dX7_least_225 : decode cX7_least 225 = .ok (.iload 4, 2) := by decide +kernel
theorem dX7_least_227 : decode cX7_least 227 = .ok (.iadd, 1) := by decide +kernel
theorem dX7_least_228 : decode cX7_least 228 = .ok (.iaload, 1) := by decide +kernel
theorem dX7_least_229 : decode cX7_least 229 = .ok (.istore 5, 2) := by decide +kernel
theorem dX7_least_231 : decode cX7_least 231 = .ok (.iload 5, 2) := by decide +kernel
theorem dX7_least_233 : decode cX7_least 233 = .ok (.iload_n 3, 1) := by decide +kernel
theorem dX7_least_234 : decode cX7_least 234 = .ok (.if_icmp .ge 8, 3) := by decide +kernel
theorem dX7_least_237 : decode cX7_least 237 = .ok (.iload 5, 2) := by decide +kernel
theorem dX7_least_239 : decode cX7_least 239 = .ok (.goto 4, 3) := by decide +kernel
theorem dX7_least_242 : decode cX7_least 242 = .ok (.iload_n 3, 1) := by decide +kernel
theorem dX7_least_243 : decode cX7_least 243 = .ok (.istore_n 3, 1) := by decide +kernel
theorem dX7_least_244 : decode cX7_least 244 = .ok (.iinc 4 1, 3) := by decide +kernel
theorem dX7_least_247 : decode cX7_least 247 = .ok (.goto (-40), 3) := by decide +kernel
theorem dX7_least_250 : decode cX7_least 250 = .ok (.iload_n 3, 1) := by decide +kernel
theorem dX7_least_251 : decode cX7_least 251 = .ok (.ireturn, 1) := by decide +kernel
theorem dX7_leastMakeready_0 : decode cX7_leastMakeready 0 = .ok (.aload_n 0, 1) := by decide +kernel
theorem dX7_leastMakeready_1 : decode cX7_leastMakeready 1 = .ok (.iload_n 1, 1) := by decide +kernel
theorem dX7_leastMakeready_2 : decode cX7_leastMakeready 2 = .ok (.invokevirtual 75, 3) := by decide +kernel
theorem dX7_leastMakeready_5 : decode cX7_leastMakeready 5 = .ok (.ifCond .eq 11, 3) := by decide +kernel
theorem dX7_leastMakeready_8 : decode cX7_leastMakeready 8 = .ok (.aload_n 0, 1) := by decide +kernel
theorem dX7_leastMakeready_9 : decode cX7_leastMakeready 9 = .ok (.iload_n 1, 1) := by decide +kernel
theorem dX7_leastMakeready_10 : decode cX7_leastMakeready 10 = .ok (.invokevirtual 153, 3) := by decide +kernel
theorem dX7_leastMakeready_13 : decode cX7_leastMakeready 13 = .ok (.goto 4, 3) := by decide +kernel
theorem dX7_leastMakeready_16 : decode cX7_leastMakeready 16 = .ok (.iconst 0, 1) := by decide +kernel
theorem dX7_leastMakeready_17 : decode cX7_leastMakeready 17 = .ok (.ireturn, 1) := by decide +kernel
theorem dX7_leastByTrying_0 : decode cX7_leastByTrying 0 = .ok (.aload_n 0, 1) := by decide +kernel
theorem dX7_leastByTrying_1 : decode cX7_leastByTrying 1 = .ok (.iload_n 1, 1) := by decide +kernel
theorem dX7_leastByTrying_2 : decode cX7_leastByTrying 2 = .ok (.invokevirtual 75, 3) := by decide +kernel
theorem dX7_leastByTrying_5 : decode cX7_leastByTrying 5 = .ok (.ifCond .ne 5, 3) := by decide +kernel
theorem dX7_leastByTrying_8 : decode cX7_leastByTrying 8 = .ok (.iconst 0, 1) := by decide +kernel
theorem dX7_leastByTrying_9 : decode cX7_leastByTrying 9 = .ok (.ireturn, 1) := by decide +kernel
theorem dX7_leastByTrying_10 : decode cX7_leastByTrying 10 = .ok (.aload_n 0, 1) := by decide +kernel
theorem dX7_leastByTrying_11 : decode cX7_leastByTrying 11 = .ok (.iload_n 1, 1) := by decide +kernel
theorem dX7_leastByTrying_12 : decode cX7_leastByTrying 12 = .ok (.invokevirtual 78, 3) := by decide +kernel
theorem dX7_leastByTrying_15 : decode cX7_leastByTrying 15 = .ok (.bipush 6, 2) := by decide +kernel
theorem dX7_leastByTrying_17 : decode cX7_leastByTrying 17 = .ok (.if_icmp .le 11, 3) := by decide +kernel
theorem dX7_leastByTrying_20 : decode cX7_leastByTrying 20 = .ok (.aload_n 0, 1) := by decide +kernel
theorem dX7_leastByTrying_21 : decode cX7_leastByTrying 21 = .ok (.iconst 3, 1) := by decide +kernel
theorem dX7_leastByTrying_22 : decode cX7_leastByTrying 22 = .ok (.invokevirtual 101, 3) := by decide +kernel
theorem dX7_leastByTrying_25 : decode cX7_leastByTrying 25 = .ok (.goto 8, 3) := by decide +kernel
theorem dX7_leastByTrying_28 : decode cX7_leastByTrying 28 = .ok (.aload_n 0, 1) := by decide +kernel
theorem dX7_leastByTrying_29 : decode cX7_leastByTrying 29 = .ok (.iload_n 1, 1) := by decide +kernel
theorem dX7_leastByTrying_30 : decode cX7_leastByTrying 30 = .ok (.invokevirtual 153, 3) := by decide +kernel
theorem dX7_leastByTrying_33 : decode cX7_leastByTrying 33 = .ok (.ireturn, 1) := by decide +kernel
theorem dX7_stock_0 : decode cX7_stock 0 = .ok (.aload_n 0, 1) := by decide +kernel
theorem dX7_stock_1 : decode cX7_stock 1 = .ok (.iload_n 1, 1) := by decide +kernel
theorem dX7_stock_2 : decode cX7_stock 2 = .ok (.iload_n 2, 1) := by decide +kernel
theorem dX7_stock_3 : decode cX7_stock 3 = .ok (.invokevirtual 114, 3) := by decide +kernel
theorem dX7_stock_6 : decode cX7_stock 6 = .ok (.ifCond .eq 17, 3) := by decide +kernel
theorem dX7_stock_9 : decode cX7_stock 9 = .ok (.aload_n 0, 1) := by decide +kernel
theorem dX7_stock_10 : decode cX7_stock 10 = .ok (.getfield 22, 3) := by decide +kernel
theorem dX7_stock_13 : decode cX7_stock 13 = .ok (.bipush 8, 2) := by decide +kernel
theorem dX7_stock_15 : decode cX7_stock 15 = .ok (.iload_n 1, 1) := by decide +kernel
theorem dX7_stock_16 : decode cX7_stock 16 = .ok (.imul, 1) := by decide +kernel
theorem dX7_stock_17 : decode cX7_stock 17 = .ok (.iload_n 2, 1) := by decide +kernel
theorem dX7_stock_18 : decode cX7_stock 18 = .ok (.iadd, 1) := by decide +kernel
theorem dX7_stock_19 : decode cX7_stock 19 = .ok (.iaload, 1) := by decide +kernel
theorem dX7_stock_20 : decode cX7_stock 20 = .ok (.goto 4, 3) := by decide +kernel
theorem dX7_stock_23 : decode cX7_stock 23 = .ok (.iconst 0, 1) := by decide +kernel
theorem dX7_stock_24 : decode cX7_stock 24 = .ok (.ireturn, 1) := by decide +kernel
theorem dX7_plates_0 : decode cX7_plates 0 = .ok (.aload_n 0, 1) := by decide +kernel
theorem dX7_plates_1 : decode cX7_plates 1 = .ok (.iconst 0, 1) := by decide +kernel
theorem dX7_plates_2 : decode cX7_plates 2 = .ok (.putfield 53, 3) := by decide +kernel
theorem dX7_plates_5 : decode cX7_plates 5 = .ok (.aload_n 0, 1) := by decide +kernel
theorem dX7_plates_6 : decode cX7_plates 6 = .ok (.getfield 91, 3) := by decide +kernel
theorem dX7_plates_9 : decode cX7_plates 9 = .ok (.ireturn, 1) := by decide +kernel
theorem dX7_platesNeeded_0 : decode cX7_platesNeeded 0 = .ok (.aload_n 0, 1) := by decide +kernel
theorem dX7_platesNeeded_1 : decode cX7_platesNeeded 1 = .ok (.iload_n 1, 1) := by decide +kernel
theorem dX7_platesNeeded_2 : decode cX7_platesNeeded 2 = .ok (.invokevirtual 75, 3) := by decide +kernel
theorem dX7_platesNeeded_5 : decode cX7_platesNeeded 5 = .ok (.ifCond .ne 5, 3) := by decide +kernel
theorem dX7_platesNeeded_8 : decode cX7_platesNeeded 8 = .ok (.iconst 0, 1) := by decide +kernel
theorem dX7_platesNeeded_9 : decode cX7_platesNeeded 9 = .ok (.ireturn, 1) := by decide +kernel
theorem dX7_platesNeeded_10 : decode cX7_platesNeeded 10 = .ok (.aload_n 0, 1) := by decide +kernel
theorem dX7_platesNeeded_11 : decode cX7_platesNeeded 11 = .ok (.getfield 91, 3) := by decide +kernel
theorem dX7_platesNeeded_14 : decode cX7_platesNeeded 14 = .ok (.istore_n 2, 1) := by decide +kernel
theorem dX7_platesNeeded_15 : decode cX7_platesNeeded 15 = .ok (.iconst 0, 1) := by decide +kernel
theorem dX7_platesNeeded_16 : decode cX7_platesNeeded 16 = .ok (.istore_n 3, 1) := by decide +kernel
theorem dX7_platesNeeded_17 : decode cX7_platesNeeded 17 = .ok (.iload_n 3, 1) := by decide +kernel
theorem dX7_platesNeeded_18 : decode cX7_platesNeeded 18 = .ok (.aload_n 0, 1) := by decide +kernel
theorem dX7_platesNeeded_19 : decode cX7_platesNeeded 19 = .ok (.iload_n 1, 1) := by decide +kernel
theorem dX7_platesNeeded_20 : decode cX7_platesNeeded 20 = .ok (.invokevirtual 78, 3) := by decide +kernel
theorem dX7_platesNeeded_23 : decode cX7_platesNeeded 23 = .ok (.if_icmp .ge 31, 3) := by decide +kernel
theorem dX7_platesNeeded_26 : decode cX7_platesNeeded 26 = .ok (.aload_n 0, 1) := by decide +kernel
theorem dX7_platesNeeded_27 : decode cX7_platesNeeded 27 = .ok (.aload_n 0, 1) := by decide +kernel
theorem dX7_platesNeeded_28 : decode cX7_platesNeeded 28 = .ok (.iload_n 1, 1) := by decide +kernel
theorem dX7_platesNeeded_29 : decode cX7_platesNeeded 29 = .ok (.iload_n 3, 1) := by decide +kernel
theorem dX7_platesNeeded_30 : decode cX7_platesNeeded 30 = .ok (.iconst 1, 1) := by decide +kernel
theorem dX7_platesNeeded_31 : decode cX7_platesNeeded 31 = .ok (.invokevirtual 118, 3) := by decide +kernel
theorem dX7_platesNeeded_34 : decode cX7_platesNeeded 34 = .ok (.invokevirtual 134, 3) := by decide +kernel
theorem dX7_platesNeeded_37 : decode cX7_platesNeeded 37 = .ok (.aload_n 0, 1) := by decide +kernel
theorem dX7_platesNeeded_38 : decode cX7_platesNeeded 38 = .ok (.aload_n 0, 1) := by decide +kernel
theorem dX7_platesNeeded_39 : decode cX7_platesNeeded 39 = .ok (.iload_n 1, 1) := by decide +kernel
theorem dX7_platesNeeded_40 : decode cX7_platesNeeded 40 = .ok (.iload_n 3, 1) := by decide +kernel
theorem dX7_platesNeeded_41 : decode cX7_platesNeeded 41 = .ok (.iconst 0, 1) := by decide +kernel
theorem dX7_platesNeeded_42 : decode cX7_platesNeeded 42 = .ok (.invokevirtual 118, 3) := by decide +kernel
theorem dX7_platesNeeded_45 : decode cX7_platesNeeded 45 = .ok (.invokevirtual 134, 3) := by decide +kernel
theorem dX7_platesNeeded_48 : decode cX7_platesNeeded 48 = .ok (.iinc 3 1, 3) := by decide +kernel
theorem dX7_platesNeeded_51 : decode cX7_platesNeeded 51 = .ok (.goto (-34), 3) := by decide +kernel
theorem dX7_platesNeeded_54 : decode cX7_platesNeeded 54 = .ok (.aload_n 0, 1) := by decide +kernel
theorem dX7_platesNeeded_55 : decode cX7_platesNeeded 55 = .ok (.getfield 91, 3) := by decide +kernel
theorem dX7_platesNeeded_58 : decode cX7_platesNeeded 58 = .ok (.iload_n 2, 1) := by decide +kernel
theorem dX7_platesNeeded_59 : decode cX7_platesNeeded 59 = .ok (.isub, 1) := by decide +kernel
theorem dX7_platesNeeded_60 : decode cX7_platesNeeded 60 = .ok (.istore_n 3, 1) := by decide +kernel
theorem dX7_platesNeeded_61 : decode cX7_platesNeeded 61 = .ok (.aload_n 0, 1) := by decide +kernel
theorem dX7_platesNeeded_62 : decode cX7_platesNeeded 62 = .ok (.iload_n 2, 1) := by decide +kernel
theorem dX7_platesNeeded_63 : decode cX7_platesNeeded 63 = .ok (.putfield 91, 3) := by decide +kernel
theorem dX7_platesNeeded_66 : decode cX7_platesNeeded 66 = .ok (.iload_n 3, 1) := by decide +kernel
theorem dX7_platesNeeded_67 : decode cX7_platesNeeded 67 = .ok (.ireturn, 1) := by decide +kernel
theorem dX7_missing_0 : decode cX7_missing 0 = .ok (.iconst 0, 1) := by decide +kernel
theorem dX7_missing_1 : decode cX7_missing 1 = .ok (.istore_n 3, 1) := by decide +kernel
theorem dX7_missing_2 : decode cX7_missing 2 = .ok (.iconst 0, 1) := by decide +kernel
theorem dX7_missing_3 : decode cX7_missing 3 = .ok (.istore 4, 2) := by decide +kernel
theorem dX7_missing_5 : decode cX7_missing 5 = .ok (.iload 4, 2) := by decide +kernel
theorem dX7_missing_7 : decode cX7_missing 7 = .ok (.aload_n 0, 1) := by decide +kernel
theorem dX7_missing_8 : decode cX7_missing 8 = .ok (.iload_n 1, 1) := by decide +kernel
theorem dX7_missing_9 : decode cX7_missing 9 = .ok (.invokevirtual 78, 3) := by decide +kernel
theorem dX7_missing_12 : decode cX7_missing 12 = .ok (.if_icmp .ge 46, 3) := by decide +kernel
theorem dX7_missing_15 : decode cX7_missing 15 = .ok (.iload_n 3, 1) := by decide +kernel
theorem dX7_missing_16 : decode cX7_missing 16 = .ok (.iload_n 2, 1) := by decide +kernel
theorem dX7_missing_17 : decode cX7_missing 17 = .ok (.aload_n 0, 1) := by decide +kernel
theorem dX7_missing_18 : decode cX7_missing 18 = .ok (.getfield 22, 3) := by decide +kernel
theorem dX7_missing_21 : decode cX7_missing 21 = .ok (.bipush 8, 2) := by decide +kernel
theorem dX7_missing_23 : decode cX7_missing 23 = .ok (.iload_n 1, 1) := by decide +kernel
theorem dX7_missing_24 : decode cX7_missing 24 = .ok (.imul, 1) := by decide +kernel
theorem dX7_missing_25 : decode cX7_missing 25 = .ok (.iload 4, 2) := by decide +kernel
theorem dX7_missing_27 : decode cX7_missing 27 = .ok (.iadd, 1) := by decide +kernel
theorem dX7_missing_28 : decode cX7_missing 28 = .ok (.iaload, 1) := by decide +kernel
theorem dX7_missing_29 : decode cX7_missing 29 = .ok (.if_icmp .le 20, 3) := by decide +kernel
theorem dX7_missing_32 : decode cX7_missing 32 = .ok (.iload_n 2, 1) := by decide +kernel
theorem dX7_missing_33 : decode cX7_missing 33 = .ok (.aload_n 0, 1) := by decide +kernel
theorem dX7_missing_34 : decode cX7_missing 34 = .ok (.getfield 22, 3) := by decide +kernel
theorem dX7_missing_37 : decode cX7_missing 37 = .ok (.bipush 8, 2) := by decide +kernel
theorem dX7_missing_39 : decode cX7_missing 39 = .ok (.iload_n 1, 1) := by decide +kernel
theorem dX7_missing_40 : decode cX7_missing 40 = .ok (.imul, 1) := by decide +kernel
theorem dX7_missing_41 : decode cX7_missing 41 = .ok (.iload 4, 2) := by decide +kernel
theorem dX7_missing_43 : decode cX7_missing 43 = .ok (.iadd, 1) := by decide +kernel
theorem dX7_missing_44 : decode cX7_missing 44 = .ok (.iaload, 1) := by decide +kernel
theorem dX7_missing_45 : decode cX7_missing 45 = .ok (.isub, 1) := by decide +kernel
theorem dX7_missing_46 : decode cX7_missing 46 = .ok (.goto 4, 3) := by decide +kernel
theorem dX7_missing_49 : decode cX7_missing 49 = .ok (.iconst 0, 1) := by decide +kernel
theorem dX7_missing_50 : decode cX7_missing 50 = .ok (.iadd, 1) := by decide +kernel
theorem dX7_missing_51 : decode cX7_missing 51 = .ok (.istore_n 3, 1) := by decide +kernel
theorem dX7_missing_52 : decode cX7_missing 52 = .ok (.iinc 4 1, 3) := by decide +kernel
theorem dX7_missing_55 : decode cX7_missing 55 = .ok (.goto (-50), 3) := by decide +kernel
theorem dX7_missing_58 : decode cX7_missing 58 = .ok (.iload_n 3, 1) := by decide +kernel
theorem dX7_missing_59 : decode cX7_missing 59 = .ok (.ireturn, 1) := by decide +kernel
theorem dX7_bind_0 : decode cX7_bind 0 = .ok (.iload_n 1, 1) := by decide +kernel
theorem dX7_bind_1 : decode cX7_bind 1 = .ok (.iconst 0, 1) := by decide +kernel
theorem dX7_bind_2 : decode cX7_bind 2 = .ok (.aload_n 0, 1) := by decide +kernel
theorem dX7_bind_3 : decode cX7_bind 3 = .ok (.getfield 68, 3) := by decide +kernel
theorem dX7_bind_6 : decode cX7_bind 6 = .ok (.iconst 1, 1) := by decide +kernel
theorem dX7_bind_7 : decode cX7_bind 7 = .ok (.isub, 1) := by decide +kernel
theorem dX7_bind_8 : decode cX7_bind 8 = .ok (.invokestatic 60, 3) := by decide +kernel
theorem dX7_bind_11 : decode cX7_bind 11 = .ok (.ifCond .ne 9, 3) := by decide +kernel
theorem dX7_bind_14 : decode cX7_bind 14 = .ok (.aload_n 0, 1) := by decide +kernel
theorem dX7_bind_15 : decode cX7_bind 15 = .ok (.iconst 1, 1) := by decide +kernel
theorem dX7_bind_16 : decode cX7_bind 16 = .ok (.invokevirtual 101, 3) := by decide +kernel
theorem dX7_bind_19 : decode cX7_bind 19 = .ok (.ireturn, 1) := by decide +kernel
theorem dX7_bind_20 : decode cX7_bind 20 = .ok (.iload_n 2, 1) := by decide +kernel
theorem dX7_bind_21 : decode cX7_bind 21 = .ok (.iconst 1, 1) := by decide +kernel
theorem dX7_bind_22 : decode cX7_bind 22 = .ok (.sipush 500, 3) := by decide +kernel
theorem dX7_bind_25 : decode cX7_bind 25 = .ok (.invokestatic 60, 3) := by decide +kernel
theorem dX7_bind_28 : decode cX7_bind 28 = .ok (.ifCond .ne 9, 3) := by decide +kernel
theorem dX7_bind_31 : decode cX7_bind 31 = .ok (.aload_n 0, 1) := by decide +kernel
theorem dX7_bind_32 : decode cX7_bind 32 = .ok (.iconst 2, 1) := by decide +kernel
theorem dX7_bind_33 : decode cX7_bind 33 = .ok (.invokevirtual 101, 3) := by decide +kernel
theorem dX7_bind_36 : decode cX7_bind 36 = .ok (.ireturn, 1) := by decide +kernel
theorem dX7_bind_37 : decode cX7_bind 37 = .ok (.aload_n 0, 1) := by decide +kernel
theorem dX7_bind_38 : decode cX7_bind 38 = .ok (.iload_n 1, 1) := by decide +kernel
theorem dX7_bind_39 : decode cX7_bind 39 = .ok (.invokevirtual 71, 3) := by decide +kernel
theorem dX7_bind_42 : decode cX7_bind 42 = .ok (.ifCond .eq 12, 3) := by decide +kernel
theorem dX7_bind_45 : decode cX7_bind 45 = .ok (.aload_n 0, 1) := by decide +kernel
theorem dX7_bind_46 : decode cX7_bind 46 = .ok (.getfield 156, 3) := by decide +kernel
theorem dX7_bind_49 : decode cX7_bind 49 = .ok (.bipush 100, 2) := by decide +kernel
theorem dX7_bind_51 : decode cX7_bind 51 = .ok (.if_icmp .ne 9, 3) := by decide +kernel
theorem dX7_bind_54 : decode cX7_bind 54 = .ok (.aload_n 0, 1) := by decide +kernel
theorem dX7_bind_55 : decode cX7_bind 55 = .ok (.iconst 3, 1) := by decide +kernel
theorem dX7_bind_56 : decode cX7_bind 56 = .ok (.invokevirtual 101, 3) := by decide +kernel
theorem dX7_bind_59 : decode cX7_bind 59 = .ok (.ireturn, 1) := by decide +kernel
theorem dX7_bind_60 : decode cX7_bind 60 = .ok (.aload_n 0, 1) := by decide +kernel
theorem dX7_bind_61 : decode cX7_bind 61 = .ok (.iload_n 1, 1) := by decide +kernel
theorem dX7_bind_62 : decode cX7_bind 62 = .ok (.iload_n 2, 1) := by decide +kernel
theorem dX7_bind_63 : decode cX7_bind 63 = .ok (.invokevirtual 159, 3) := by decide +kernel
theorem dX7_bind_66 : decode cX7_bind 66 = .ok (.ifCond .le 9, 3) := by decide +kernel
theorem dX7_bind_69 : decode cX7_bind 69 = .ok (.aload_n 0, 1) := by decide +kernel
theorem dX7_bind_70 : decode cX7_bind 70 = .ok (.iconst 4, 1) := by decide +kernel
theorem dX7_bind_71 : decode cX7_bind 71 = .ok (.invokevirtual 101, 3) := by decide +kernel
theorem dX7_bind_74 : decode cX7_bind 74 = .ok (.ireturn, 1) := by decide +kernel
theorem dX7_bind_75 : decode cX7_bind 75 = .ok (.aload_n 0, 1) := by decide +kernel
theorem dX7_bind_76 : decode cX7_bind 76 = .ok (.iconst 0, 1) := by decide +kernel
theorem dX7_bind_77 : decode cX7_bind 77 = .ok (.putfield 53, 3) := by decide +kernel
theorem dX7_bind_80 : decode cX7_bind 80 = .ok (.iconst 0, 1) := by decide +kernel
theorem dX7_bind_81 : decode cX7_bind 81 = .ok (.istore_n 3, 1) := by decide +kernel
theorem dX7_bind_82 : decode cX7_bind 82 = .ok (.iload_n 3, 1) := by decide +kernel
theorem dX7_bind_83 : decode cX7_bind 83 = .ok (.aload_n 0, 1) := by decide +kernel
theorem dX7_bind_84 : decode cX7_bind 84 = .ok (.iload_n 1, 1) := by decide +kernel
theorem dX7_bind_85 : decode cX7_bind 85 = .ok (.invokevirtual 78, 3) := by decide +kernel
theorem dX7_bind_88 : decode cX7_bind 88 = .ok (.if_icmp .ge 24, 3) := by decide +kernel
theorem dX7_bind_91 : decode cX7_bind 91 = .ok (.aload_n 0, 1) := by decide +kernel
theorem dX7_bind_92 : decode cX7_bind 92 = .ok (.getfield 22, 3) := by decide +kernel
theorem dX7_bind_95 : decode cX7_bind 95 = .ok (.bipush 8, 2) := by decide +kernel
theorem dX7_bind_97 : decode cX7_bind 97 = .ok (.iload_n 1, 1) := by decide +kernel
theorem dX7_bind_98 : decode cX7_bind 98 = .ok (.imul, 1) := by decide +kernel
theorem dX7_bind_99 : decode cX7_bind 99 = .ok (.iload_n 3, 1) := by decide +kernel
theorem dX7_bind_100 : decode cX7_bind 100 = .ok (.iadd, 1) := by decide +kernel
theorem dX7_bind_101 : decode cX7_bind 101 = .ok (.dup2, 1) := by decide +kernel
theorem dX7_bind_102 : decode cX7_bind 102 = .ok (.iaload, 1) := by decide +kernel
theorem dX7_bind_103 : decode cX7_bind 103 = .ok (.iload_n 2, 1) := by decide +kernel
theorem dX7_bind_104 : decode cX7_bind 104 = .ok (.isub, 1) := by decide +kernel
theorem dX7_bind_105 : decode cX7_bind 105 = .ok (.iastore, 1) := by decide +kernel
theorem dX7_bind_106 : decode cX7_bind 106 = .ok (.iinc 3 1, 3) := by decide +kernel
theorem dX7_bind_109 : decode cX7_bind 109 = .ok (.goto (-27), 3) := by decide +kernel
theorem dX7_bind_112 : decode cX7_bind 112 = .ok (.aload_n 0, 1) := by decide +kernel
theorem dX7_bind_113 : decode cX7_bind 113 = .ok (.getfield 41, 3) := by decide +kernel
theorem dX7_bind_116 : decode cX7_bind 116 = .ok (.aload_n 0, 1) := by decide +kernel
theorem dX7_bind_117 : decode cX7_bind 117 = .ok (.getfield 156, 3) := by decide +kernel
theorem dX7_bind_120 : decode cX7_bind 120 = .ok (.iload_n 1, 1) := by decide +kernel
theorem dX7_bind_121 : decode cX7_bind 121 = .ok (.iastore, 1) := by decide +kernel
theorem dX7_bind_122 : decode cX7_bind 122 = .ok (.aload_n 0, 1) := by decide +kernel
theorem dX7_bind_123 : decode cX7_bind 123 = .ok (.getfield 44, 3) := by decide +kernel
theorem dX7_bind_126 : decode cX7_bind 126 = .ok (.aload_n 0, 1) := by decide +kernel
theorem dX7_bind_127 : decode cX7_bind 127 = .ok (.getfield 156, 3) := by decide +kernel
theorem dX7_bind_130 : decode cX7_bind 130 = .ok (.iload_n 2, 1) := by decide +kernel
theorem dX7_bind_131 : decode cX7_bind 131 = .ok (.iastore, 1) := by decide +kernel
theorem dX7_bind_132 : decode cX7_bind 132 = .ok (.aload_n 0, 1) := by decide +kernel
theorem dX7_bind_133 : decode cX7_bind 133 = .ok (.getfield 47, 3) := by decide +kernel
theorem dX7_bind_136 : decode cX7_bind 136 = .ok (.aload_n 0, 1) := by decide +kernel
theorem dX7_bind_137 : decode cX7_bind 137 = .ok (.getfield 156, 3) := by decide +kernel
theorem dX7_bind_140 : decode cX7_bind 140 = .ok (.aload_n 0, 1) := by decide +kernel
theorem dX7_bind_141 : decode cX7_bind 141 = .ok (.getfield 16, 3) := by decide +kernel
theorem dX7_bind_144 : decode cX7_bind 144 = .ok (.iload_n 1, 1) := by decide +kernel
theorem dX7_bind_145 : decode cX7_bind 145 = .ok (.iaload, 1) := by decide +kernel
theorem dX7_bind_146 : decode cX7_bind 146 = .ok (.iastore, 1) := by decide +kernel
theorem dX7_bind_147 : decode cX7_bind 147 = .ok (.iconst 0, 1) := by decide +kernel
theorem dX7_bind_148 : decode cX7_bind 148 = .ok (.istore_n 3, 1) := by decide +kernel
theorem dX7_bind_149 : decode cX7_bind 149 = .ok (.iload_n 3, 1) := by decide +kernel
theorem dX7_bind_150 : decode cX7_bind 150 = .ok (.aload_n 0, 1) := by decide +kernel
theorem dX7_bind_151 : decode cX7_bind 151 = .ok (.getfield 16, 3) := by decide +kernel
theorem dX7_bind_154 : decode cX7_bind 154 = .ok (.iload_n 1, 1) := by decide +kernel
theorem dX7_bind_155 : decode cX7_bind 155 = .ok (.iaload, 1) := by decide +kernel
theorem dX7_bind_156 : decode cX7_bind 156 = .ok (.if_icmp .ge 39, 3) := by decide +kernel
theorem dX7_bind_159 : decode cX7_bind 159 = .ok (.aload_n 0, 1) := by decide +kernel
theorem dX7_bind_160 : decode cX7_bind 160 = .ok (.getfield 50, 3) := by decide +kernel
theorem dX7_bind_163 : decode cX7_bind 163 = .ok (.bipush 16, 2) := by decide +kernel
theorem dX7_bind_165 : decode cX7_bind 165 = .ok (.aload_n 0, 1) := by decide +kernel
theorem dX7_bind_166 : decode cX7_bind 166 = .ok (.getfield 156, 3) := by decide +kernel
theorem dX7_bind_169 : decode cX7_bind 169 = .ok (.imul, 1) := by decide +kernel
theorem dX7_bind_170 : decode cX7_bind 170 = .ok (.iload_n 3, 1) := by decide +kernel
theorem dX7_bind_171 : decode cX7_bind 171 = .ok (.iadd, 1) := by decide +kernel
theorem dX7_bind_172 : decode cX7_bind 172 = .ok (.aload_n 0, 1) := by decide +kernel
theorem dX7_bind_173 : decode cX7_bind 173 = .ok (.getfield 7, 3) := by decide +kernel
theorem dX7_bind_176 : decode cX7_bind 176 = .ok (.aload_n 0, 1) := by decide +kernel
theorem dX7_bind_177 : decode cX7_bind 177 = .ok (.getfield 19, 3) := by decide +kernel
theorem dX7_bind_180 : decode cX7_bind 180 = .ok (.bipush 16, 2) := by decide +kernel
theorem dX7_bind_182 : decode cX7_bind 182 = .ok (.iload_n 1, 1) := by decide +kernel
theorem dX7_bind_183 : decode cX7_bind 183 = .ok (.imul, 1) := by decide +kernel
theorem dX7_bind_184 : decode cX7_bind 184 = .ok (.iload_n 3, 1) := by decide +kernel
theorem dX7_bind_185 : decode cX7_bind 185 = .ok (.iadd, 1) := by decide +kernel
theorem dX7_bind_186 : decode cX7_bind 186 = .ok (.iaload, 1) := by decide +kernel
theorem dX7_bind_187 : decode cX7_bind 187 = .ok (.iaload, 1) := by decide +kernel
theorem dX7_bind_188 : decode cX7_bind 188 = .ok (.iastore, 1) := by decide +kernel
theorem dX7_bind_189 : decode cX7_bind 189 = .ok (.iinc 3 1, 3) := by decide +kernel
theorem dX7_bind_192 : decode cX7_bind 192 = .ok (.goto (-43), 3) := by decide +kernel
theorem dX7_bind_195 : decode cX7_bind 195 = .ok (.aload_n 0, 1) := by decide +kernel
theorem dX7_bind_196 : decode cX7_bind 196 = .ok (.dup, 1) := by decide +kernel
theorem dX7_bind_197 : decode cX7_bind 197 = .ok (.getfield 156, 3) := by decide +kernel
theorem dX7_bind_200 : decode cX7_bind 200 = .ok (.iconst 1, 1) := by decide +kernel
theorem dX7_bind_201 : decode cX7_bind 201 = .ok (.iadd, 1) := by decide +kernel
theorem dX7_bind_202 : decode cX7_bind 202 = .ok (.putfield 156, 3) := by decide +kernel
theorem dX7_bind_205 : decode cX7_bind 205 = .ok (.aload_n 0, 1) := by decide +kernel
theorem dX7_bind_206 : decode cX7_bind 206 = .ok (.getfield 156, 3) := by decide +kernel
theorem dX7_bind_209 : decode cX7_bind 209 = .ok (.iconst 1, 1) := by decide +kernel
theorem dX7_bind_210 : decode cX7_bind 210 = .ok (.isub, 1) := by decide +kernel
theorem dX7_bind_211 : decode cX7_bind 211 = .ok (.ireturn, 1) := by decide +kernel
theorem dX7_lacks_0 : decode cX7_lacks 0 = .ok (.iload_n 1, 1) := by decide +kernel
theorem dX7_lacks_1 : decode cX7_lacks 1 = .ok (.iconst 0, 1) := by decide +kernel
theorem dX7_lacks_2 : decode cX7_lacks 2 = .ok (.aload_n 0, 1) := by decide +kernel
theorem dX7_lacks_3 : decode cX7_lacks 3 = .ok (.getfield 68, 3) := by decide +kernel
theorem dX7_lacks_6 : decode cX7_lacks 6 = .ok (.iconst 1, 1) := by decide +kernel
theorem dX7_lacks_7 : decode cX7_lacks 7 = .ok (.isub, 1) := by decide +kernel
theorem dX7_lacks_8 : decode cX7_lacks 8 = .ok (.invokestatic 60, 3) := by decide +kernel
theorem dX7_lacks_11 : decode cX7_lacks 11 = .ok (.ifCond .ne 9, 3) := by decide +kernel
theorem dX7_lacks_14 : decode cX7_lacks 14 = .ok (.aload_n 0, 1) := by decide +kernel
theorem dX7_lacks_15 : decode cX7_lacks 15 = .ok (.iconst 1, 1) := by decide +kernel
theorem dX7_lacks_16 : decode cX7_lacks 16 = .ok (.invokevirtual 101, 3) := by decide +kernel
theorem dX7_lacks_19 : decode cX7_lacks 19 = .ok (.ireturn, 1) := by decide +kernel
theorem dX7_lacks_20 : decode cX7_lacks 20 = .ok (.iload_n 2, 1) := by decide +kernel
theorem dX7_lacks_21 : decode cX7_lacks 21 = .ok (.iconst 1, 1) := by decide +kernel
theorem dX7_lacks_22 : decode cX7_lacks 22 = .ok (.sipush 500, 3) := by decide +kernel
theorem dX7_lacks_25 : decode cX7_lacks 25 = .ok (.invokestatic 60, 3) := by decide +kernel
theorem dX7_lacks_28 : decode cX7_lacks 28 = .ok (.ifCond .ne 9, 3) := by decide +kernel
theorem dX7_lacks_31 : decode cX7_lacks 31 = .ok (.aload_n 0, 1) := by decide +kernel
theorem dX7_lacks_32 : decode cX7_lacks 32 = .ok (.iconst 2, 1) := by decide +kernel
theorem dX7_lacks_33 : decode cX7_lacks 33 = .ok (.invokevirtual 101, 3) := by decide +kernel
theorem dX7_lacks_36 : decode cX7_lacks 36 = .ok (.ireturn, 1) := by decide +kernel
theorem dX7_lacks_37 : decode cX7_lacks 37 = .ok (.aload_n 0, 1) := by decide +kernel
theorem dX7_lacks_38 : decode cX7_lacks 38 = .ok (.iload_n 1, 1) := by decide +kernel
theorem dX7_lacks_39 : decode cX7_lacks 39 = .ok (.invokevirtual 71, 3) := by decide +kernel
theorem dX7_lacks_42 : decode cX7_lacks 42 = .ok (.ifCond .ne 9, 3) := by decide +kernel
theorem dX7_lacks_45 : decode cX7_lacks 45 = .ok (.aload_n 0, 1) := by decide +kernel
theorem dX7_lacks_46 : decode cX7_lacks 46 = .ok (.iconst 3, 1) := by decide +kernel
theorem dX7_lacks_47 : decode cX7_lacks 47 = .ok (.invokevirtual 101, 3) := by decide +kernel
theorem dX7_lacks_50 : decode cX7_lacks 50 = .ok (.ireturn, 1) := by decide +kernel
theorem dX7_lacks_51 : decode cX7_lacks 51 = .ok (.aload_n 0, 1) := by decide +kernel
theorem dX7_lacks_52 : decode cX7_lacks 52 = .ok (.iconst 0, 1) := by decide +kernel
theorem dX7_lacks_53 : decode cX7_lacks 53 = .ok (.putfield 53, 3) := by decide +kernel
theorem dX7_lacks_56 : decode cX7_lacks 56 = .ok (.aload_n 0, 1) := by decide +kernel
theorem dX7_lacks_57 : decode cX7_lacks 57 = .ok (.iload_n 1, 1) := by decide +kernel
theorem dX7_lacks_58 : decode cX7_lacks 58 = .ok (.iload_n 2, 1) := by decide +kernel
theorem dX7_lacks_59 : decode cX7_lacks 59 = .ok (.invokevirtual 159, 3) := by decide +kernel
theorem dX7_lacks_62 : decode cX7_lacks 62 = .ok (.ireturn, 1) := by decide +kernel
theorem dX7_lots_0 : decode cX7_lots 0 = .ok (.aload_n 0, 1) := by decide +kernel
theorem dX7_lots_1 : decode cX7_lots 1 = .ok (.iconst 0, 1) := by decide +kernel
theorem dX7_lots_2 : decode cX7_lots 2 = .ok (.putfield 53, 3) := by decide +kernel
theorem dX7_lots_5 : decode cX7_lots 5 = .ok (.aload_n 0, 1) := by decide +kernel
theorem dX7_lots_6 : decode cX7_lots 6 = .ok (.getfield 156, 3) := by decide +kernel
theorem dX7_lots_9 : decode cX7_lots 9 = .ok (.ireturn, 1) := by decide +kernel
theorem dX7_copies_0 : decode cX7_copies 0 = .ok (.iload_n 1, 1) := by decide +kernel
theorem dX7_copies_1 : decode cX7_copies 1 = .ok (.iconst 0, 1) := by decide +kernel
theorem dX7_copies_2 : decode cX7_copies 2 = .ok (.aload_n 0, 1) := by decide +kernel
theorem dX7_copies_3 : decode cX7_copies 3 = .ok (.getfield 156, 3) := by decide +kernel
theorem dX7_copies_6 : decode cX7_copies 6 = .ok (.iconst 1, 1) := by decide +kernel
theorem dX7_copies_7 : decode cX7_copies 7 = .ok (.isub, 1) := by decide +kernel
theorem dX7_copies_8 : decode cX7_copies 8 = .ok (.invokestatic 60, 3) := by decide +kernel
theorem dX7_copies_11 : decode cX7_copies 11 = .ok (.ifCond .ne 9, 3) := by decide +kernel
theorem dX7_copies_14 : decode cX7_copies 14 = .ok (.aload_n 0, 1) := by decide +kernel
theorem dX7_copies_15 : decode cX7_copies 15 = .ok (.iconst 1, 1) := by decide +kernel
theorem dX7_copies_16 : decode cX7_copies 16 = .ok (.invokevirtual 101, 3) := by decide +kernel
theorem dX7_copies_19 : decode cX7_copies 19 = .ok (.ireturn, 1) := by decide +kernel
theorem dX7_copies_20 : decode cX7_copies 20 = .ok (.aload_n 0, 1) := by decide +kernel
theorem dX7_copies_21 : decode cX7_copies 21 = .ok (.iconst 0, 1) := by decide +kernel
theorem dX7_copies_22 : decode cX7_copies 22 = .ok (.putfield 53, 3) := by decide +kernel
theorem dX7_copies_25 : decode cX7_copies 25 = .ok (.aload_n 0, 1) := by decide +kernel
theorem dX7_copies_26 : decode cX7_copies 26 = .ok (.getfield 44, 3) := by decide +kernel
theorem dX7_copies_29 : decode cX7_copies 29 = .ok (.iload_n 1, 1) := by decide +kernel
theorem dX7_copies_30 : decode cX7_copies 30 = .ok (.iaload, 1) := by decide +kernel
theorem dX7_copies_31 : decode cX7_copies 31 = .ok (.ireturn, 1) := by decide +kernel
theorem dX7_stateIn_0 : decode cX7_stateIn 0 = .ok (.iload_n 1, 1) := by decide +kernel
theorem dX7_stateIn_1 : decode cX7_stateIn 1 = .ok (.iconst 0, 1) := by decide +kernel
theorem dX7_stateIn_2 : decode cX7_stateIn 2 = .ok (.aload_n 0, 1) := by decide +kernel
theorem dX7_stateIn_3 : decode cX7_stateIn 3 = .ok (.getfield 156, 3) := by decide +kernel
theorem dX7_stateIn_6 : decode cX7_stateIn 6 = .ok (.iconst 1, 1) := by decide +kernel
theorem dX7_stateIn_7 : decode cX7_stateIn 7 = .ok (.isub, 1) := by decide +kernel
theorem dX7_stateIn_8 : decode cX7_stateIn 8 = .ok (.invokestatic 60, 3) := by decide +kernel
theorem dX7_stateIn_11 : decode cX7_stateIn 11 = .ok (.ifCond .ne 9, 3) := by decide +kernel
theorem dX7_stateIn_14 : decode cX7_stateIn 14 = .ok (.aload_n 0, 1) := by decide +kernel
theorem dX7_stateIn_15 : decode cX7_stateIn 15 = .ok (.iconst 1, 1) := by decide +kernel
theorem dX7_stateIn_16 : decode cX7_stateIn 16 = .ok (.invokevirtual 101, 3) := by decide +kernel
theorem dX7_stateIn_19 : decode cX7_stateIn 19 = .ok (.ireturn, 1) := by decide +kernel
theorem dX7_stateIn_20 : decode cX7_stateIn 20 = .ok (.iload_n 2, 1) := by decide +kernel
theorem dX7_stateIn_21 : decode cX7_stateIn 21 = .ok (.iconst 1, 1) := by decide +kernel
theorem dX7_stateIn_22 : decode cX7_stateIn 22 = .ok (.aload_n 0, 1) := by decide +kernel
theorem dX7_stateIn_23 : decode cX7_stateIn 23 = .ok (.getfield 47, 3) := by decide +kernel
theorem dX7_stateIn_26 : decode cX7_stateIn 26 = .ok (.iload_n 1, 1) := by decide +kernel
theorem dX7_stateIn_27 : decode cX7_stateIn 27 = .ok (.iaload, 1) := by decide +kernel
theorem dX7_stateIn_28 : decode cX7_stateIn 28 = .ok (.invokestatic 60, 3) := by decide +kernel
theorem dX7_stateIn_31 : decode cX7_stateIn 31 = .ok (.ifCond .ne 9, 3) := by decide +kernel
theorem dX7_stateIn_34 : decode cX7_stateIn 34 = .ok (.aload_n 0, 1) := by decide +kernel
theorem dX7_stateIn_35 : decode cX7_stateIn 35 = .ok (.iconst 2, 1) := by decide +kernel
theorem dX7_stateIn_36 : decode cX7_stateIn 36 = .ok (.invokevirtual 101, 3) := by decide +kernel
theorem dX7_stateIn_39 : decode cX7_stateIn 39 = .ok (.ireturn, 1) := by decide +kernel
theorem dX7_stateIn_40 : decode cX7_stateIn 40 = .ok (.aload_n 0, 1) := by decide +kernel
theorem dX7_stateIn_41 : decode cX7_stateIn 41 = .ok (.iconst 0, 1) := by decide +kernel
theorem dX7_stateIn_42 : decode cX7_stateIn 42 = .ok (.putfield 53, 3) := by decide +kernel
theorem dX7_stateIn_45 : decode cX7_stateIn 45 = .ok (.aload_n 0, 1) := by decide +kernel
theorem dX7_stateIn_46 : decode cX7_stateIn 46 = .ok (.getfield 50, 3) := by decide +kernel
theorem dX7_stateIn_49 : decode cX7_stateIn 49 = .ok (.bipush 16, 2) := by decide +kernel
theorem dX7_stateIn_51 : decode cX7_stateIn 51 = .ok (.iload_n 1, 1) := by decide +kernel
theorem dX7_stateIn_52 : decode cX7_stateIn 52 = .ok (.imul, 1) := by decide +kernel
theorem dX7_stateIn_53 : decode cX7_stateIn 53 = .ok (.iload_n 2, 1) := by decide +kernel
theorem dX7_stateIn_54 : decode cX7_stateIn 54 = .ok (.iadd, 1) := by decide +kernel
theorem dX7_stateIn_55 : decode cX7_stateIn 55 = .ok (.iconst 1, 1) := by decide +kernel
theorem dX7_stateIn_56 : decode cX7_stateIn 56 = .ok (.isub, 1) := by decide +kernel
theorem dX7_stateIn_57 : decode cX7_stateIn 57 = .ok (.iaload, 1) := by decide +kernel
theorem dX7_stateIn_58 : decode cX7_stateIn 58 = .ok (.ireturn, 1) := by decide +kernel
theorem dX7_stateByReplay_0 : decode cX7_stateByReplay 0 = .ok (.aload_n 0, 1) := by decide +kernel
theorem dX7_stateByReplay_1 : decode cX7_stateByReplay 1 = .ok (.iload_n 1, 1) := by decide +kernel
theorem dX7_stateByReplay_2 : decode cX7_stateByReplay 2 = .ok (.iload_n 2, 1) := by decide +kernel
theorem dX7_stateByReplay_3 : decode cX7_stateByReplay 3 = .ok (.invokevirtual 162, 3) := by decide +kernel
theorem dX7_stateByReplay_6 : decode cX7_stateByReplay 6 = .ok (.ireturn, 1) := by decide +kernel
theorem dX7_outdated_0 : decode cX7_outdated 0 = .ok (.aload_n 0, 1) := by decide +kernel
theorem dX7_outdated_1 : decode cX7_outdated 1 = .ok (.iload_n 1, 1) := by decide +kernel
theorem dX7_outdated_2 : decode cX7_outdated 2 = .ok (.invokevirtual 104, 3) := by decide +kernel
theorem dX7_outdated_5 : decode cX7_outdated 5 = .ok (.ifCond .ne 5, 3) := by decide +kernel
theorem dX7_outdated_8 : decode cX7_outdated 8 = .ok (.iconst 0, 1) := by decide +kernel
theorem dX7_outdated_9 : decode cX7_outdated 9 = .ok (.ireturn, 1) := by decide +kernel
theorem dX7_outdated_10 : decode cX7_outdated 10 = .ok (.iconst 0, 1) := by decide +kernel
theorem dX7_outdated_11 : decode cX7_outdated 11 = .ok (.istore_n 2, 1) := by decide +kernel
theorem dX7_outdated_12 : decode cX7_outdated 12 = .ok (.iconst 0, 1) := by decide +kernel
theorem dX7_outdated_13 : decode cX7_outdated 13 = .ok (.istore_n 3, 1) := by decide +kernel
theorem dX7_outdated_14 : decode cX7_outdated 14 = .ok (.iload_n 3, 1) := by decide +kernel
theorem dX7_outdated_15 : decode cX7_outdated 15 = .ok (.aload_n 0, 1) := by decide +kernel
theorem dX7_outdated_16 : decode cX7_outdated 16 = .ok (.getfield 156, 3) := by decide +kernel
theorem dX7_outdated_19 : decode cX7_outdated 19 = .ok (.if_icmp .ge 104, 3) := by decide +kernel
theorem dX7_outdated_22 : decode cX7_outdated 22 = .ok (.iconst 0, 1) := by decide +kernel
theorem dX7_outdated_23 : decode cX7_outdated 23 = .ok (.istore 4, 2) := by decide +kernel
theorem dX7_outdated_25 : decode cX7_outdated 25 = .ok (.iconst 0, 1) := by decide +kernel
theorem dX7_outdated_26 : decode cX7_outdated 26 = .ok (.istore 5, 2) := by decide +kernel
theorem dX7_outdated_28 : decode cX7_outdated 28 = .ok (.iload 5, 2) := by decide +kernel
theorem dX7_outdated_30 : decode cX7_outdated 30 = .ok (.aload_n 0, 1) := by decide +kernel
theorem dX7_outdated_31 : decode cX7_outdated 31 = .ok (.getfield 47, 3) := by decide +kernel
theorem dX7_outdated_34 : decode cX7_outdated 34 = .ok (.iload_n 3, 1) := by decide +kernel
theorem dX7_outdated_35 : decode cX7_outdated 35 = .ok (.iaload, 1) := by decide +kernel
theorem dX7_outdated_36 : decode cX7_outdated 36 = .ok (.if_icmp .ge 63, 3) := by decide +kernel
theorem dX7_outdated_39 : decode cX7_outdated 39 = .ok (.iload 4, 2) := by decide +kernel
theorem dX7_outdated_41 : decode cX7_outdated 41 = .ok (.ifCond .ne 45, 3) := by decide +kernel
theorem dX7_outdated_44 : decode cX7_outdated 44 = .ok (.aload_n 0, 1) := by decide +kernel
theorem dX7_outdated_45 : decode cX7_outdated 45 = .ok (.getfield 19, 3) := by decide +kernel
theorem dX7_outdated_48 : decode cX7_outdated 48 = .ok (.bipush 16, 2) := by decide +kernel
theorem dX7_outdated_50 : decode cX7_outdated 50 = .ok (.aload_n 0, 1) := by decide +kernel
theorem dX7_outdated_51 : decode cX7_outdated 51 = .ok (.getfield 41, 3) := by decide +kernel
theorem dX7_outdated_54 : decode cX7_outdated 54 = .ok (.iload_n 3, 1) := by decide +kernel
theorem dX7_outdated_55 : decode cX7_outdated 55 = .ok (.iaload, 1) := by decide +kernel
theorem dX7_outdated_56 : decode cX7_outdated 56 = .ok (.imul, 1) := by decide +kernel
theorem dX7_outdated_57 : decode cX7_outdated 57 = .ok (.iload 5, 2) := by decide +kernel
theorem dX7_outdated_59 : decode cX7_outdated 59 = .ok (.iadd, 1) := by decide +kernel
theorem dX7_outdated_60 : decode cX7_outdated 60 = .ok (.iaload, 1) := by decide +kernel
theorem dX7_outdated_61 : decode cX7_outdated 61 = .ok (.iload_n 1, 1) := by decide +kernel
theorem dX7_outdated_62 : decode cX7_outdated 62 = .ok (.if_icmp .ne 28, 3) := by decide +kernel
theorem dX7_outdated_65 : decode cX7_outdated 65 = .ok (.aload_n 0, 1) := by decide +kernel
theorem dX7_outdated_66 : decode cX7_outdated 66 = .ok (.getfield 50, 3) := by decide +kernel
theorem dX7_outdated_69 : decode cX7_outdated 69 = .ok (.bipush 16, 2) := by decide +kernel
theorem dX7_outdated_71 : decode cX7_outdated 71 = .ok (.iload_n 3, 1) := by decide +kernel
theorem dX7_outdated_72 : decode cX7_outdated 72 = .ok (.imul, 1) := by decide +kernel
theorem dX7_outdated_73 : decode cX7_outdated 73 = .ok (.iload 5, 2) := by decide +kernel
theorem dX7_outdated_75 : decode cX7_outdated 75 = .ok (.iadd, 1) := by decide +kernel
theorem dX7_outdated_76 : decode cX7_outdated 76 = .ok (.iaload, 1) := by decide +kernel
theorem dX7_outdated_77 : decode cX7_outdated 77 = .ok (.aload_n 0, 1) := by decide +kernel
theorem dX7_outdated_78 : decode cX7_outdated 78 = .ok (.getfield 7, 3) := by decide +kernel
theorem dX7_outdated_81 : decode cX7_outdated 81 = .ok (.iload_n 1, 1) := by decide +kernel
theorem dX7_outdated_82 : decode cX7_outdated 82 = .ok (.iaload, 1) := by decide +kernel
theorem dX7_outdated_83 : decode cX7_outdated 83 = .ok (.if_icmp .eq 7, 3) := by decide +kernel
theorem dX7_outdated_86 : decode cX7_outdated 86 = .ok (.iconst 1, 1) := by decide +kernel
theorem dX7_outdated_87 : decode cX7_outdated 87 = .ok (.goto 4, 3) := by decide +kernel
theorem dX7_outdated_90 : decode cX7_outdated 90 = .ok (.iconst 0, 1) := by decide +kernel
theorem dX7_outdated_91 : decode cX7_outdated 91 = .ok (.istore 4, 2) := by decide +kernel
theorem dX7_outdated_93 : decode cX7_outdated 93 = .ok (.iinc 5 1, 3) := by decide +kernel
theorem dX7_outdated_96 : decode cX7_outdated 96 = .ok (.goto (-68), 3) := by decide +kernel
theorem dX7_outdated_99 : decode cX7_outdated 99 = .ok (.iload_n 2, 1) := by decide +kernel
theorem dX7_outdated_100 : decode cX7_outdated 100 = .ok (.iload 4, 2) := by decide +kernel
theorem dX7_outdated_102 : decode cX7_outdated 102 = .ok (.ifCond .eq 12, 3) := by decide +kernel
theorem dX7_outdated_105 : decode cX7_outdated 105 = .ok (.aload_n 0, 1) := by decide +kernel
theorem dX7_outdated_106 : decode cX7_outdated 106 = .ok (.getfield 44, 3) := by decide +kernel
theorem dX7_outdated_109 : decode cX7_outdated 109 = .ok (.iload_n 3, 1) := by decide +kernel
theorem dX7_outdated_110 : decode cX7_outdated 110 = .ok (.iaload, 1) := by decide +kernel
theorem dX7_outdated_111 : decode cX7_outdated 111 = .ok (.goto 4, 3) := by decide +kernel
theorem dX7_outdated_114 : decode cX7_outdated 114 = .ok (.iconst 0, 1) := by decide +kernel
theorem dX7_outdated_115 : decode cX7_outdated 115 = .ok (.iadd, 1) := by decide +kernel
theorem dX7_outdated_116 : decode cX7_outdated 116 = .ok (.istore_n 2, 1) := by decide +kernel
theorem dX7_outdated_117 : decode cX7_outdated 117 = .ok (.iinc 3 1, 3) := by decide +kernel
theorem dX7_outdated_120 : decode cX7_outdated 120 = .ok (.goto (-106), 3) := by decide +kernel
theorem dX7_outdated_123 : decode cX7_outdated 123 = .ok (.iload_n 2, 1) := by decide +kernel
theorem dX7_outdated_124 : decode cX7_outdated 124 = .ok (.ireturn, 1) := by decide +kernel
theorem dX7_waste_0 : decode cX7_waste 0 = .ok (.aload_n 0, 1) := by decide +kernel
theorem dX7_waste_1 : decode cX7_waste 1 = .ok (.iconst 0, 1) := by decide +kernel
theorem dX7_waste_2 : decode cX7_waste 2 = .ok (.putfield 53, 3) := by decide +kernel
theorem dX7_waste_5 : decode cX7_waste 5 = .ok (.aload_n 0, 1) := by decide +kernel
theorem dX7_waste_6 : decode cX7_waste 6 = .ok (.getfield 97, 3) := by decide +kernel
theorem dX7_waste_9 : decode cX7_waste 9 = .ok (.lreturn, 1) := by decide +kernel
theorem dX7_wasteShare_0 : decode cX7_wasteShare 0 = .ok (.aload_n 0, 1) := by decide +kernel
theorem dX7_wasteShare_1 : decode cX7_wasteShare 1 = .ok (.aload_n 0, 1) := by decide +kernel
theorem dX7_wasteShare_2 : decode cX7_wasteShare 2 = .ok (.getfield 138, 3) := by decide +kernel
theorem dX7_wasteShare_5 : decode cX7_wasteShare 5 = .ok (.lconst 0, 1) := by decide +kernel
theorem dX7_wasteShare_6 : decode cX7_wasteShare 6 = .ok (.lcmp, 1) := by decide +kernel
theorem dX7_wasteShare_7 : decode cX7_wasteShare 7 = .ok (.ifCond .ne 7, 3) := by decide +kernel
theorem dX7_wasteShare_10 : decode cX7_wasteShare 10 = .ok (.iconst 1, 1) := by decide +kernel
theorem dX7_wasteShare_11 : decode cX7_wasteShare 11 = .ok (.goto 4, 3) := by decide +kernel
theorem dX7_wasteShare_14 : decode cX7_wasteShare 14 = .ok (.iconst 0, 1) := by decide +kernel
theorem dX7_wasteShare_15 : decode cX7_wasteShare 15 = .ok (.putfield 53, 3) := by decide +kernel
theorem dX7_wasteShare_18 : decode cX7_wasteShare 18 = .ok (.aload_n 0, 1) := by decide +kernel
theorem dX7_wasteShare_19 : decode cX7_wasteShare 19 = .ok (.getfield 138, 3) := by decide +kernel
theorem dX7_wasteShare_22 : decode cX7_wasteShare 22 = .ok (.lconst 0, 1) := by decide +kernel
theorem dX7_wasteShare_23 : decode cX7_wasteShare 23 = .ok (.lcmp, 1) := by decide +kernel
theorem dX7_wasteShare_24 : decode cX7_wasteShare 24 = .ok (.ifCond .ne 7, 3) := by decide +kernel
theorem dX7_wasteShare_27 : decode cX7_wasteShare 27 = .ok (.fconst 0, 1) := by decide +kernel
theorem dX7_wasteShare_28 : decode cX7_wasteShare 28 = .ok (.goto 14, 3) := by decide +kernel
theorem dX7_wasteShare_31 : decode cX7_wasteShare 31 = .ok (.aload_n 0, 1) := by decide +kernel
theorem dX7_wasteShare_32 : decode cX7_wasteShare 32 = .ok (.getfield 97, 3) := by decide +kernel
theorem dX7_wasteShare_35 : decode cX7_wasteShare 35 = .ok (.l2f, 1) := by decide +kernel
theorem dX7_wasteShare_36 : decode cX7_wasteShare 36 = .ok (.aload_n 0, 1) := by decide +kernel
theorem dX7_wasteShare_37 : decode cX7_wasteShare 37 = .ok (.getfield 138, 3) := by decide +kernel
theorem dX7_wasteShare_40 : decode cX7_wasteShare 40 = .ok (.l2f, 1) := by decide +kernel
theorem dX7_wasteShare_41 : decode cX7_wasteShare 41 = .ok (.fdiv, 1) := by decide +kernel
theorem dX7_wasteShare_42 : decode cX7_wasteShare 42 = .ok (.freturn, 1) := by decide +kernel
theorem dX7_meanMakeready_0 : decode cX7_meanMakeready 0 = .ok (.aload_n 0, 1) := by decide +kernel
theorem dX7_meanMakeready_1 : decode cX7_meanMakeready 1 = .ok (.aload_n 0, 1) := by decide +kernel
theorem dX7_meanMakeready_2 : decode cX7_meanMakeready 2 = .ok (.getfield 141, 3) := by decide +kernel
theorem dX7_meanMakeready_5 : decode cX7_meanMakeready 5 = .ok (.ifCond .ne 7, 3) := by decide +kernel
theorem dX7_meanMakeready_8 : decode cX7_meanMakeready 8 = .ok (.iconst 1, 1) := by decide +kernel
theorem dX7_meanMakeready_9 : decode cX7_meanMakeready 9 = .ok (.goto 4, 3) := by decide +kernel
theorem dX7_meanMakeready_12 : decode cX7_meanMakeready 12 = .ok (.iconst 0, 1) := by decide +kernel
theorem dX7_meanMakeready_13 : decode cX7_meanMakeready 13 = .ok (.putfield 53, 3) := by decide +kernel
theorem dX7_meanMakeready_16 : decode cX7_meanMakeready 16 = .ok (.aload_n 0, 1) := by decide +kernel
theorem dX7_meanMakeready_17 : decode cX7_meanMakeready 17 = .ok (.getfield 141, 3) := by decide +kernel
theorem dX7_meanMakeready_20 : decode cX7_meanMakeready 20 = .ok (.ifCond .ne 7, 3) := by decide +kernel
theorem dX7_meanMakeready_23 : decode cX7_meanMakeready 23 = .ok (.dconst 0, 1) := by decide +kernel
theorem dX7_meanMakeready_24 : decode cX7_meanMakeready 24 = .ok (.goto 14, 3) := by decide +kernel
theorem dX7_meanMakeready_27 : decode cX7_meanMakeready 27 = .ok (.aload_n 0, 1) := by decide +kernel
theorem dX7_meanMakeready_28 : decode cX7_meanMakeready 28 = .ok (.getfield 144, 3) := by decide +kernel
theorem dX7_meanMakeready_31 : decode cX7_meanMakeready 31 = .ok (.i2d, 1) := by decide +kernel
theorem dX7_meanMakeready_32 : decode cX7_meanMakeready 32 = .ok (.aload_n 0, 1) := by decide +kernel
theorem dX7_meanMakeready_33 : decode cX7_meanMakeready 33 = .ok (.getfield 141, 3) := by decide +kernel
theorem dX7_meanMakeready_36 : decode cX7_meanMakeready 36 = .ok (.i2d, 1) := by decide +kernel
theorem dX7_meanMakeready_37 : decode cX7_meanMakeready 37 = .ok (.ddiv, 1) := by decide +kernel
theorem dX7_meanMakeready_38 : decode cX7_meanMakeready 38 = .ok (.dreturn, 1) := by decide +kernel
theorem dL_addContent_0 : decode cL_addContent 0 = .ok (.aload_n 1, 1) := by decide +kernel
theorem dL_addContent_1 : decode cL_addContent 1 = .ok (.iconst 0, 1) := by decide +kernel
theorem dL_addContent_2 : decode cL_addContent 2 = .ok (.aload_n 0, 1) := by decide +kernel
theorem dL_addContent_3 : decode cL_addContent 3 = .ok (.invokevirtual 7, 3) := by decide +kernel
theorem dL_addContent_6 : decode cL_addContent 6 = .ok (.i2l, 1) := by decide +kernel
theorem dL_addContent_7 : decode cL_addContent 7 = .ok (.lastore, 1) := by decide +kernel
theorem dL_addContent_8 : decode cL_addContent 8 = .ok (.goto 6, 3) := by decide +kernel
theorem dL_addContent_11 : decode cL_addContent 11 = .ok (.astore_n 2, 1) := by decide +kernel
theorem dL_addContent_12 : decode cL_addContent 12 = .ok (.iconst 1, 1) := by decide +kernel
theorem dL_addContent_13 : decode cL_addContent 13 = .ok (.ireturn, 1) := by decide +kernel
theorem dL_addContent_14 : decode cL_addContent 14 = .ok (.iconst 0, 1) := by decide +kernel
theorem dL_addContent_15 : decode cL_addContent 15 = .ok (.ireturn, 1) := by decide +kernel
theorem dL_approve_0 : decode cL_approve 0 = .ok (.aload_n 2, 1) := by decide +kernel
theorem dL_approve_1 : decode cL_approve 1 = .ok (.iconst 0, 1) := by decide +kernel
theorem dL_approve_2 : decode cL_approve 2 = .ok (.aload_n 0, 1) := by decide +kernel
theorem dL_approve_3 : decode cL_approve 3 = .ok (.iload_n 1, 1) := by decide +kernel
theorem dL_approve_4 : decode cL_approve 4 = .ok (.invokevirtual 15, 3) := by decide +kernel
theorem dL_approve_7 : decode cL_approve 7 = .ok (.ifCond .eq 7, 3) := by decide +kernel
theorem dL_approve_10 : decode cL_approve 10 = .ok (.lconst 1, 1) := by decide +kernel
theorem dL_approve_11 : decode cL_approve 11 = .ok (.goto 4, 3) := by decide +kernel
theorem dL_approve_14 : decode cL_approve 14 = .ok (.lconst 0, 1) := by decide +kernel
theorem dL_approve_15 : decode cL_approve 15 = .ok (.lastore, 1) := by decide +kernel
theorem dL_approve_16 : decode cL_approve 16 = .ok (.goto 6, 3) := by decide +kernel
theorem dL_approve_19 : decode cL_approve 19 = .ok (.astore_n 3, 1) := by decide +kernel
theorem dL_approve_20 : decode cL_approve 20 = .ok (.iconst 1, 1) := by decide +kernel
theorem dL_approve_21 : decode cL_approve 21 = .ok (.ireturn, 1) := by decide +kernel
theorem dL_approve_22 : decode cL_approve 22 = .ok (.iconst 0, 1) := by decide +kernel
theorem dL_approve_23 : decode cL_approve 23 = .ok (.ireturn, 1) := by decide +kernel
theorem dL_correct_0 : decode cL_correct 0 = .ok (.aload_n 2, 1) := by decide +kernel
theorem dL_correct_1 : decode cL_correct 1 = .ok (.iconst 0, 1) := by decide +kernel
theorem dL_correct_2 : decode cL_correct 2 = .ok (.aload_n 0, 1) := by decide +kernel
theorem dL_correct_3 : decode cL_correct 3 = .ok (.iload_n 1, 1) := by decide +kernel
theorem dL_correct_4 : decode cL_correct 4 = .ok (.invokevirtual 21, 3) := by decide +kernel
theorem dL_correct_7 : decode cL_correct 7 = .ok (.i2l, 1) := by decide +kernel
theorem dL_correct_8 : decode cL_correct 8 = .ok (.lastore, 1) := by decide +kernel
theorem dL_correct_9 : decode cL_correct 9 = .ok (.goto 9, 3) := by decide +kernel
theorem dL_correct_12 : decode cL_correct 12 = .ok (.astore_n 3, 1) := by decide +kernel
theorem dL_correct_13 : decode cL_correct 13 = .ok (.iconst 1, 1) := by decide +kernel
theorem dL_correct_14 : decode cL_correct 14 = .ok (.ireturn, 1) := by decide +kernel
theorem dL_correct_15 : decode cL_correct 15 = .ok (.astore_n 3, 1) := by decide +kernel
theorem dL_correct_16 : decode cL_correct 16 = .ok (.iconst 2, 1) := by decide +kernel
theorem dL_correct_17 : decode cL_correct 17 = .ok (.ireturn, 1) := by decide +kernel
theorem dL_correct_18 : decode cL_correct 18 = .ok (.iconst 0, 1) := by decide +kernel
theorem dL_correct_19 : decode cL_correct 19 = .ok (.ireturn, 1) := by decide +kernel
theorem dL_state_0 : decode cL_state 0 = .ok (.aload_n 2, 1) := by decide +kernel
theorem dL_state_1 : decode cL_state 1 = .ok (.iconst 0, 1) := by decide +kernel
theorem dL_state_2 : decode cL_state 2 = .ok (.aload_n 0, 1) := by decide +kernel
theorem dL_state_3 : decode cL_state 3 = .ok (.iload_n 1, 1) := by decide +kernel
theorem dL_state_4 : decode cL_state 4 = .ok (.invokevirtual 25, 3) := by decide +kernel
theorem dL_state_7 : decode cL_state 7 = .ok (.i2l, 1) := by decide +kernel
theorem dL_state_8 : decode cL_state 8 = .ok (.lastore, 1) := by decide +kernel
theorem dL_state_9 : decode cL_state 9 = .ok (.goto 6, 3) := by decide +kernel
theorem dL_state_12 : decode cL_state 12 = .ok (.astore_n 3, 1) := by decide +kernel
theorem dL_state_13 : decode cL_state 13 = .ok (.iconst 1, 1) := by decide +kernel
theorem dL_state_14 : decode cL_state 14 = .ok (.ireturn, 1) := by decide +kernel
theorem dL_state_15 : decode cL_state 15 = .ok (.iconst 0, 1) := by decide +kernel
theorem dL_state_16 : decode cL_state 16 = .ok (.ireturn, 1) := by decide +kernel
theorem dL_addJob_0 : decode cL_addJob 0 = .ok (.aload_n 2, 1) := by decide +kernel
theorem dL_addJob_1 : decode cL_addJob 1 = .ok (.iconst 0, 1) := by decide +kernel
theorem dL_addJob_2 : decode cL_addJob 2 = .ok (.aload_n 0, 1) := by decide +kernel
theorem dL_addJob_3 : decode cL_addJob 3 = .ok (.iload_n 1, 1) := by decide +kernel
theorem dL_addJob_4 : decode cL_addJob 4 = .ok (.invokevirtual 28, 3) := by decide +kernel
theorem dL_addJob_7 : decode cL_addJob 7 = .ok (.i2l, 1) := by decide +kernel
theorem dL_addJob_8 : decode cL_addJob 8 = .ok (.lastore, 1) := by decide +kernel
theorem dL_addJob_9 : decode cL_addJob 9 = .ok (.goto 9, 3) := by decide +kernel
theorem dL_addJob_12 : decode cL_addJob 12 = .ok (.astore_n 3, 1) := by decide +kernel
theorem dL_addJob_13 : decode cL_addJob 13 = .ok (.iconst 1, 1) := by decide +kernel
theorem dL_addJob_14 : decode cL_addJob 14 = .ok (.ireturn, 1) := by decide +kernel
theorem dL_addJob_15 : decode cL_addJob 15 = .ok (.astore_n 3, 1) := by decide +kernel
theorem dL_addJob_16 : decode cL_addJob 16 = .ok (.iconst 2, 1) := by decide +kernel
theorem dL_addJob_17 : decode cL_addJob 17 = .ok (.ireturn, 1) := by decide +kernel
theorem dL_addJob_18 : decode cL_addJob 18 = .ok (.iconst 0, 1) := by decide +kernel
theorem dL_addJob_19 : decode cL_addJob 19 = .ok (.ireturn, 1) := by decide +kernel
theorem dL_addPage_0 : decode cL_addPage 0 = .ok (.aload_n 3, 1) := by decide +kernel
theorem dL_addPage_1 : decode cL_addPage 1 = .ok (.iconst 0, 1) := by decide +kernel
theorem dL_addPage_2 : decode cL_addPage 2 = .ok (.aload_n 0, 1) := by decide +kernel
theorem dL_addPage_3 : decode cL_addPage 3 = .ok (.iload_n 1, 1) := by decide +kernel
theorem dL_addPage_4 : decode cL_addPage 4 = .ok (.iload_n 2, 1) := by decide +kernel
theorem dL_addPage_5 : decode cL_addPage 5 = .ok (.invokevirtual 34, 3) := by decide +kernel
theorem dL_addPage_8 : decode cL_addPage 8 = .ok (.i2l, 1) := by decide +kernel
theorem dL_addPage_9 : decode cL_addPage 9 = .ok (.lastore, 1) := by decide +kernel
theorem dL_addPage_10 : decode cL_addPage 10 = .ok (.goto 11, 3) := by decide +kernel
theorem dL_addPage_13 : decode cL_addPage 13 = .ok (.astore 4, 2) := by decide +kernel
theorem dL_addPage_15 : decode cL_addPage 15 = .ok (.iconst 1, 1) := by decide +kernel
theorem dL_addPage_16 : decode cL_addPage 16 = .ok (.ireturn, 1) := by decide +kernel
theorem dL_addPage_17 : decode cL_addPage 17 = .ok (.astore 4, 2) := by decide +kernel
theorem dL_addPage_19 : decode cL_addPage 19 = .ok (.iconst 2, 1) := by decide +kernel
theorem dL_addPage_20 : decode cL_addPage 20 = .ok (.ireturn, 1) := by decide +kernel
theorem dL_addPage_21 : decode cL_addPage 21 = .ok (.iconst 0, 1) := by decide +kernel
theorem dL_addPage_22 : decode cL_addPage 22 = .ok (.ireturn, 1) := by decide +kernel
theorem dL_pages_0 : decode cL_pages 0 = .ok (.aload_n 2, 1) := by decide +kernel
theorem dL_pages_1 : decode cL_pages 1 = .ok (.iconst 0, 1) := by decide +kernel
theorem dL_pages_2 : decode cL_pages 2 = .ok (.aload_n 0, 1) := by decide +kernel
theorem dL_pages_3 : decode cL_pages 3 = .ok (.iload_n 1, 1) := by decide +kernel
theorem dL_pages_4 : decode cL_pages 4 = .ok (.invokevirtual 38, 3) := by decide +kernel
theorem dL_pages_7 : decode cL_pages 7 = .ok (.i2l, 1) := by decide +kernel
theorem dL_pages_8 : decode cL_pages 8 = .ok (.lastore, 1) := by decide +kernel
theorem dL_pages_9 : decode cL_pages 9 = .ok (.goto 6, 3) := by decide +kernel
theorem dL_pages_12 : decode cL_pages 12 = .ok (.astore_n 3, 1) := by decide +kernel
theorem dL_pages_13 : decode cL_pages 13 = .ok (.iconst 1, 1) := by decide +kernel
theorem dL_pages_14 : decode cL_pages 14 = .ok (.ireturn, 1) := by decide +kernel
theorem dL_pages_15 : decode cL_pages 15 = .ok (.iconst 0, 1) := by decide +kernel
theorem dL_pages_16 : decode cL_pages 16 = .ok (.ireturn, 1) := by decide +kernel
theorem dL_sheets_0 : decode cL_sheets 0 = .ok (.aload_n 2, 1) := by decide +kernel
theorem dL_sheets_1 : decode cL_sheets 1 = .ok (.iconst 0, 1) := by decide +kernel
theorem dL_sheets_2 : decode cL_sheets 2 = .ok (.aload_n 0, 1) := by decide +kernel
theorem dL_sheets_3 : decode cL_sheets 3 = .ok (.iload_n 1, 1) := by decide +kernel
theorem dL_sheets_4 : decode cL_sheets 4 = .ok (.invokevirtual 41, 3) := by decide +kernel
theorem dL_sheets_7 : decode cL_sheets 7 = .ok (.i2l, 1) := by decide +kernel
theorem dL_sheets_8 : decode cL_sheets 8 = .ok (.lastore, 1) := by decide +kernel
theorem dL_sheets_9 : decode cL_sheets 9 = .ok (.goto 9, 3) := by decide +kernel
theorem dL_sheets_12 : decode cL_sheets 12 = .ok (.astore_n 3, 1) := by decide +kernel
theorem dL_sheets_13 : decode cL_sheets 13 = .ok (.iconst 1, 1) := by decide +kernel
theorem dL_sheets_14 : decode cL_sheets 14 = .ok (.ireturn, 1) := by decide +kernel
theorem dL_sheets_15 : decode cL_sheets 15 = .ok (.astore_n 3, 1) := by decide +kernel
theorem dL_sheets_16 : decode cL_sheets 16 = .ok (.iconst 2, 1) := by decide +kernel
theorem dL_sheets_17 : decode cL_sheets 17 = .ok (.ireturn, 1) := by decide +kernel
theorem dL_sheets_18 : decode cL_sheets 18 = .ok (.iconst 0, 1) := by decide +kernel
theorem dL_sheets_19 : decode cL_sheets 19 = .ok (.ireturn, 1) := by decide +kernel
theorem dL_pageAt_0 : decode cL_pageAt 0 = .ok (.aload 4, 2) := by decide +kernel
theorem dL_pageAt_2 : decode cL_pageAt 2 = .ok (.iconst 0, 1) := by decide +kernel
theorem dL_pageAt_3 : decode cL_pageAt 3 = .ok (.aload_n 0, 1) := by decide +kernel
theorem dL_pageAt_4 : decode cL_pageAt 4 = .ok (.iload_n 1, 1) := by decide +kernel
theorem dL_pageAt_5 : decode cL_pageAt 5 = .ok (.iload_n 2, 1) := by decide +kernel
theorem dL_pageAt_6 : decode cL_pageAt 6 = .ok (.iload_n 3, 1) := by decide +kernel
theorem dL_pageAt_7 : decode cL_pageAt 7 = .ok (.invokevirtual 44, 3) := by decide +kernel
theorem dL_pageAt_10 : decode cL_pageAt 10 = .ok (.i2l, 1) := by decide +kernel
theorem dL_pageAt_11 : decode cL_pageAt 11 = .ok (.lastore, 1) := by decide +kernel
theorem dL_pageAt_12 : decode cL_pageAt 12 = .ok (.goto 15, 3) := by decide +kernel
theorem dL_pageAt_15 : decode cL_pageAt 15 = .ok (.astore 5, 2) := by decide +kernel
theorem dL_pageAt_17 : decode cL_pageAt 17 = .ok (.iconst 1, 1) := by decide +kernel
theorem dL_pageAt_18 : decode cL_pageAt 18 = .ok (.ireturn, 1) := by decide +kernel
theorem dL_pageAt_19 : decode cL_pageAt 19 = .ok (.astore 5, 2) := by decide +kernel
theorem dL_pageAt_21 : decode cL_pageAt 21 = .ok (.iconst 2, 1) := by decide +kernel
theorem dL_pageAt_22 : decode cL_pageAt 22 = .ok (.ireturn, 1) := by decide +kernel
theorem dL_pageAt_23 : decode cL_pageAt 23 = .ok (.astore 5, 2) := by decide +kernel
theorem dL_pageAt_25 : decode cL_pageAt 25 = .ok (.iconst 3, 1) := by decide +kernel
theorem dL_pageAt_26 : decode cL_pageAt 26 = .ok (.ireturn, 1) := by decide +kernel
theorem dL_pageAt_27 : decode cL_pageAt 27 = .ok (.iconst 0, 1) := by decide +kernel
theorem dL_pageAt_28 : decode cL_pageAt 28 = .ok (.ireturn, 1) := by decide +kernel
theorem dL_sheetOf_0 : decode cL_sheetOf 0 = .ok (.aload_n 3, 1) := by decide +kernel
theorem dL_sheetOf_1 : decode cL_sheetOf 1 = .ok (.iconst 0, 1) := by decide +kernel
theorem dL_sheetOf_2 : decode cL_sheetOf 2 = .ok (.aload_n 0, 1) := by decide +kernel
theorem dL_sheetOf_3 : decode cL_sheetOf 3 = .ok (.iload_n 1, 1) := by decide +kernel
theorem dL_sheetOf_4 : decode cL_sheetOf 4 = .ok (.iload_n 2, 1) := by decide +kernel
theorem dL_sheetOf_5 : decode cL_sheetOf 5 = .ok (.invokevirtual 50, 3) := by decide +kernel
theorem dL_sheetOf_8 : decode cL_sheetOf 8 = .ok (.i2l, 1) := by decide +kernel
theorem dL_sheetOf_9 : decode cL_sheetOf 9 = .ok (.lastore, 1) := by decide +kernel
theorem dL_sheetOf_10 : decode cL_sheetOf 10 = .ok (.goto 15, 3) := by decide +kernel
theorem dL_sheetOf_13 : decode cL_sheetOf 13 = .ok (.astore 4, 2) := by decide +kernel
theorem dL_sheetOf_15 : decode cL_sheetOf 15 = .ok (.iconst 1, 1) := by decide +kernel
theorem dL_sheetOf_16 : decode cL_sheetOf 16 = .ok (.ireturn, 1) := by decide +kernel
theorem dL_sheetOf_17 : decode cL_sheetOf 17 = .ok (.astore 4, 2) := by decide +kernel
theorem dL_sheetOf_19 : decode cL_sheetOf 19 = .ok (.iconst 2, 1) := by decide +kernel
theorem dL_sheetOf_20 : decode cL_sheetOf 20 = .ok (.ireturn, 1) := by decide +kernel
theorem dL_sheetOf_21 : decode cL_sheetOf 21 = .ok (.astore 4, 2) := by decide +kernel
theorem dL_sheetOf_23 : decode cL_sheetOf 23 = .ok (.iconst 3, 1) := by decide +kernel
theorem dL_sheetOf_24 : decode cL_sheetOf 24 = .ok (.ireturn, 1) := by decide +kernel
theorem dL_sheetOf_25 : decode cL_sheetOf 25 = .ok (.iconst 0, 1) := by decide +kernel
theorem dL_sheetOf_26 : decode cL_sheetOf 26 = .ok (.ireturn, 1) := by decide +kernel
theorem dL_print_0 : decode cL_print 0 = .ok (.aload 4, 2) := by decide +kernel
theorem dL_print_2 : decode cL_print 2 = .ok (.iconst 0, 1) := by decide +kernel
theorem dL_print_3 : decode cL_print 3 = .ok (.aload_n 0, 1) := by decide +kernel
theorem dL_print_4 : decode cL_print 4 = .ok (.iload_n 1, 1) := by decide +kernel
theorem dL_print_5 : decode cL_print 5 = .ok (.iload_n 2, 1) := by decide +kernel
theorem dL_print_6 : decode cL_print 6 = .ok (.iload_n 3, 1) := by decide +kernel
theorem dL_print_7 : decode cL_print 7 = .ok (.invokevirtual 53, 3) := by decide +kernel
theorem dL_print_10 : decode cL_print 10 = .ok (.i2l, 1) := by decide +kernel
theorem dL_print_11 : decode cL_print 11 = .ok (.lastore, 1) := by decide +kernel
theorem dL_print_12 : decode cL_print 12 = .ok (.goto 23, 3) := by decide +kernel
theorem dL_print_15 : decode cL_print 15 = .ok (.astore 5, 2) := by decide +kernel
theorem dL_print_17 : decode cL_print 17 = .ok (.iconst 1, 1) := by decide +kernel
theorem dL_print_18 : decode cL_print 18 = .ok (.ireturn, 1) := by decide +kernel
theorem dL_print_19 : decode cL_print 19 = .ok (.astore 5, 2) := by decide +kernel
theorem dL_print_21 : decode cL_print 21 = .ok (.iconst 2, 1) := by decide +kernel
theorem dL_print_22 : decode cL_print 22 = .ok (.ireturn, 1) := by decide +kernel
theorem dL_print_23 : decode cL_print 23 = .ok (.astore 5, 2) := by decide +kernel
theorem dL_print_25 : decode cL_print 25 = .ok (.iconst 3, 1) := by decide +kernel
theorem dL_print_26 : decode cL_print 26 = .ok (.ireturn, 1) := by decide +kernel
theorem dL_print_27 : decode cL_print 27 = .ok (.astore 5, 2) := by decide +kernel
theorem dL_print_29 : decode cL_print 29 = .ok (.iconst 4, 1) := by decide +kernel
theorem dL_print_30 : decode cL_print 30 = .ok (.ireturn, 1) := by decide +kernel
theorem dL_print_31 : decode cL_print 31 = .ok (.astore 5, 2) := by decide +kernel
theorem dL_print_33 : decode cL_print 33 = .ok (.iconst 5, 1) := by decide +kernel
theorem dL_print_34 : decode cL_print 34 = .ok (.ireturn, 1) := by decide +kernel
theorem dL_print_35 : decode cL_print 35 = .ok (.iconst 0, 1) := by decide +kernel
theorem dL_print_36 : decode cL_print 36 = .ok (.ireturn, 1) := by decide +kernel
theorem dL_makeready_0 : decode cL_makeready 0 = .ok (.aload_n 3, 1) := by decide +kernel
theorem dL_makeready_1 : decode cL_makeready 1 = .ok (.iconst 0, 1) := by decide +kernel
theorem dL_makeready_2 : decode cL_makeready 2 = .ok (.aload_n 0, 1) := by decide +kernel
theorem dL_makeready_3 : decode cL_makeready 3 = .ok (.iload_n 1, 1) := by decide +kernel
theorem dL_makeready_4 : decode cL_makeready 4 = .ok (.iload_n 2, 1) := by decide +kernel
theorem dL_makeready_5 : decode cL_makeready 5 = .ok (.invokevirtual 58, 3) := by decide +kernel
theorem dL_makeready_8 : decode cL_makeready 8 = .ok (.i2l, 1) := by decide +kernel
theorem dL_makeready_9 : decode cL_makeready 9 = .ok (.lastore, 1) := by decide +kernel
theorem dL_makeready_10 : decode cL_makeready 10 = .ok (.goto 15, 3) := by decide +kernel
theorem dL_makeready_13 : decode cL_makeready 13 = .ok (.astore 4, 2) := by decide +kernel
theorem dL_makeready_15 : decode cL_makeready 15 = .ok (.iconst 1, 1) := by decide +kernel
theorem dL_makeready_16 : decode cL_makeready 16 = .ok (.ireturn, 1) := by decide +kernel
theorem dL_makeready_17 : decode cL_makeready 17 = .ok (.astore 4, 2) := by decide +kernel
theorem dL_makeready_19 : decode cL_makeready 19 = .ok (.iconst 2, 1) := by decide +kernel
theorem dL_makeready_20 : decode cL_makeready 20 = .ok (.ireturn, 1) := by decide +kernel
theorem dL_makeready_21 : decode cL_makeready 21 = .ok (.astore 4, 2) := by decide +kernel
theorem dL_makeready_23 : decode cL_makeready 23 = .ok (.iconst 3, 1) := by decide +kernel
theorem dL_makeready_24 : decode cL_makeready 24 = .ok (.ireturn, 1) := by decide +kernel
theorem dL_makeready_25 : decode cL_makeready 25 = .ok (.iconst 0, 1) := by decide +kernel
theorem dL_makeready_26 : decode cL_makeready 26 = .ok (.ireturn, 1) := by decide +kernel
theorem dL_leastMakeready_0 : decode cL_leastMakeready 0 = .ok (.aload_n 2, 1) := by decide +kernel
theorem dL_leastMakeready_1 : decode cL_leastMakeready 1 = .ok (.iconst 0, 1) := by decide +kernel
theorem dL_leastMakeready_2 : decode cL_leastMakeready 2 = .ok (.aload_n 0, 1) := by decide +kernel
theorem dL_leastMakeready_3 : decode cL_leastMakeready 3 = .ok (.iload_n 1, 1) := by decide +kernel
theorem dL_leastMakeready_4 : decode cL_leastMakeready 4 = .ok (.invokevirtual 61, 3) := by decide +kernel
theorem dL_leastMakeready_7 : decode cL_leastMakeready 7 = .ok (.i2l, 1) := by decide +kernel
theorem dL_leastMakeready_8 : decode cL_leastMakeready 8 = .ok (.lastore, 1) := by decide +kernel
theorem dL_leastMakeready_9 : decode cL_leastMakeready 9 = .ok (.goto 9, 3) := by decide +kernel
theorem dL_leastMakeready_12 : decode cL_leastMakeready 12 = .ok (.astore_n 3, 1) := by decide +kernel
theorem dL_leastMakeready_13 : decode cL_leastMakeready 13 = .ok (.iconst 1, 1) := by decide +kernel
theorem dL_leastMakeready_14 : decode cL_leastMakeready 14 = .ok (.ireturn, 1) := by decide +kernel
theorem dL_leastMakeready_15 : decode cL_leastMakeready 15 = .ok (.astore_n 3, 1) := by decide +kernel
theorem dL_leastMakeready_16 : decode cL_leastMakeready 16 = .ok (.iconst 2, 1) := by decide +kernel
theorem dL_leastMakeready_17 : decode cL_leastMakeready 17 = .ok (.ireturn, 1) := by decide +kernel
theorem dL_leastMakeready_18 : decode cL_leastMakeready 18 = .ok (.iconst 0, 1) := by decide +kernel
theorem dL_leastMakeready_19 : decode cL_leastMakeready 19 = .ok (.ireturn, 1) := by decide +kernel
theorem dL_leastByTrying_0 : decode cL_leastByTrying 0 = .ok (.aload_n 2, 1) := by decide +kernel
theorem dL_leastByTrying_1 : decode cL_leastByTrying 1 = .ok (.iconst 0, 1) := by decide +kernel
theorem dL_leastByTrying_2 : decode cL_leastByTrying 2 = .ok (.aload_n 0, 1) := by decide +kernel
theorem dL_leastByTrying_3 : decode cL_leastByTrying 3 = .ok (.iload_n 1, 1) := by decide +kernel
theorem dL_leastByTrying_4 : decode cL_leastByTrying 4 = .ok (.invokevirtual 64, 3) := by decide +kernel
theorem dL_leastByTrying_7 : decode cL_leastByTrying 7 = .ok (.i2l, 1) := by decide +kernel
theorem dL_leastByTrying_8 : decode cL_leastByTrying 8 = .ok (.lastore, 1) := by decide +kernel
theorem dL_leastByTrying_9 : decode cL_leastByTrying 9 = .ok (.goto 12, 3) := by decide +kernel
theorem dL_leastByTrying_12 : decode cL_leastByTrying 12 = .ok (.astore_n 3, 1) := by decide +kernel
theorem dL_leastByTrying_13 : decode cL_leastByTrying 13 = .ok (.iconst 1, 1) := by decide +kernel
theorem dL_leastByTrying_14 : decode cL_leastByTrying 14 = .ok (.ireturn, 1) := by decide +kernel
theorem dL_leastByTrying_15 : decode cL_leastByTrying 15 = .ok (.astore_n 3, 1) := by decide +kernel
theorem dL_leastByTrying_16 : decode cL_leastByTrying 16 = .ok (.iconst 2, 1) := by decide +kernel
theorem dL_leastByTrying_17 : decode cL_leastByTrying 17 = .ok (.ireturn, 1) := by decide +kernel
theorem dL_leastByTrying_18 : decode cL_leastByTrying 18 = .ok (.astore_n 3, 1) := by decide +kernel
theorem dL_leastByTrying_19 : decode cL_leastByTrying 19 = .ok (.iconst 3, 1) := by decide +kernel
theorem dL_leastByTrying_20 : decode cL_leastByTrying 20 = .ok (.ireturn, 1) := by decide +kernel
theorem dL_leastByTrying_21 : decode cL_leastByTrying 21 = .ok (.iconst 0, 1) := by decide +kernel
theorem dL_leastByTrying_22 : decode cL_leastByTrying 22 = .ok (.ireturn, 1) := by decide +kernel
theorem dL_stock_0 : decode cL_stock 0 = .ok (.aload_n 3, 1) := by decide +kernel
theorem dL_stock_1 : decode cL_stock 1 = .ok (.iconst 0, 1) := by decide +kernel
theorem dL_stock_2 : decode cL_stock 2 = .ok (.aload_n 0, 1) := by decide +kernel
theorem dL_stock_3 : decode cL_stock 3 = .ok (.iload_n 1, 1) := by decide +kernel
theorem dL_stock_4 : decode cL_stock 4 = .ok (.iload_n 2, 1) := by decide +kernel
theorem dL_stock_5 : decode cL_stock 5 = .ok (.invokevirtual 67, 3) := by decide +kernel
theorem dL_stock_8 : decode cL_stock 8 = .ok (.i2l, 1) := by decide +kernel
theorem dL_stock_9 : decode cL_stock 9 = .ok (.lastore, 1) := by decide +kernel
theorem dL_stock_10 : decode cL_stock 10 = .ok (.goto 15, 3) := by decide +kernel
theorem dL_stock_13 : decode cL_stock 13 = .ok (.astore 4, 2) := by decide +kernel
theorem dL_stock_15 : decode cL_stock 15 = .ok (.iconst 1, 1) := by decide +kernel
theorem dL_stock_16 : decode cL_stock 16 = .ok (.ireturn, 1) := by decide +kernel
theorem dL_stock_17 : decode cL_stock 17 = .ok (.astore 4, 2) := by decide +kernel
theorem dL_stock_19 : decode cL_stock 19 = .ok (.iconst 2, 1) := by decide +kernel
theorem dL_stock_20 : decode cL_stock 20 = .ok (.ireturn, 1) := by decide +kernel
theorem dL_stock_21 : decode cL_stock 21 = .ok (.astore 4, 2) := by decide +kernel
theorem dL_stock_23 : decode cL_stock 23 = .ok (.iconst 3, 1) := by decide +kernel
theorem dL_stock_24 : decode cL_stock 24 = .ok (.ireturn, 1) := by decide +kernel
theorem dL_stock_25 : decode cL_stock 25 = .ok (.iconst 0, 1) := by decide +kernel
theorem dL_stock_26 : decode cL_stock 26 = .ok (.ireturn, 1) := by decide +kernel
theorem dL_platesNeeded_0 : decode cL_platesNeeded 0 = .ok (.aload_n 2, 1) := by decide +kernel
theorem dL_platesNeeded_1 : decode cL_platesNeeded 1 = .ok (.iconst 0, 1) := by decide +kernel
theorem dL_platesNeeded_2 : decode cL_platesNeeded 2 = .ok (.aload_n 0, 1) := by decide +kernel
theorem dL_platesNeeded_3 : decode cL_platesNeeded 3 = .ok (.iload_n 1, 1) := by decide +kernel
theorem dL_platesNeeded_4 : decode cL_platesNeeded 4 = .ok (.invokevirtual 70, 3) := by decide +kernel
theorem dL_platesNeeded_7 : decode cL_platesNeeded 7 = .ok (.i2l, 1) := by decide +kernel
theorem dL_platesNeeded_8 : decode cL_platesNeeded 8 = .ok (.lastore, 1) := by decide +kernel
theorem dL_platesNeeded_9 : decode cL_platesNeeded 9 = .ok (.goto 9, 3) := by decide +kernel
theorem dL_platesNeeded_12 : decode cL_platesNeeded 12 = .ok (.astore_n 3, 1) := by decide +kernel
theorem dL_platesNeeded_13 : decode cL_platesNeeded 13 = .ok (.iconst 1, 1) := by decide +kernel
theorem dL_platesNeeded_14 : decode cL_platesNeeded 14 = .ok (.ireturn, 1) := by decide +kernel
theorem dL_platesNeeded_15 : decode cL_platesNeeded 15 = .ok (.astore_n 3, 1) := by decide +kernel
theorem dL_platesNeeded_16 : decode cL_platesNeeded 16 = .ok (.iconst 2, 1) := by decide +kernel
theorem dL_platesNeeded_17 : decode cL_platesNeeded 17 = .ok (.ireturn, 1) := by decide +kernel
theorem dL_platesNeeded_18 : decode cL_platesNeeded 18 = .ok (.iconst 0, 1) := by decide +kernel
theorem dL_platesNeeded_19 : decode cL_platesNeeded 19 = .ok (.ireturn, 1) := by decide +kernel
theorem dL_bind_0 : decode cL_bind 0 = .ok (.aload_n 3, 1) := by decide +kernel
theorem dL_bind_1 : decode cL_bind 1 = .ok (.iconst 0, 1) := by decide +kernel
theorem dL_bind_2 : decode cL_bind 2 = .ok (.aload_n 0, 1) := by decide +kernel
theorem dL_bind_3 : decode cL_bind 3 = .ok (.iload_n 1, 1) := by decide +kernel
theorem dL_bind_4 : decode cL_bind 4 = .ok (.iload_n 2, 1) := by decide +kernel
theorem dL_bind_5 : decode cL_bind 5 = .ok (.invokevirtual 73, 3) := by decide +kernel
theorem dL_bind_8 : decode cL_bind 8 = .ok (.i2l, 1) := by decide +kernel
theorem dL_bind_9 : decode cL_bind 9 = .ok (.lastore, 1) := by decide +kernel
theorem dL_bind_10 : decode cL_bind 10 = .ok (.goto 19, 3) := by decide +kernel
theorem dL_bind_13 : decode cL_bind 13 = .ok (.astore 4, 2) := by decide +kernel
theorem dL_bind_15 : decode cL_bind 15 = .ok (.iconst 1, 1) := by decide +kernel
theorem dL_bind_16 : decode cL_bind 16 = .ok (.ireturn, 1) := by decide +kernel
theorem dL_bind_17 : decode cL_bind 17 = .ok (.astore 4, 2) := by decide +kernel
theorem dL_bind_19 : decode cL_bind 19 = .ok (.iconst 2, 1) := by decide +kernel
theorem dL_bind_20 : decode cL_bind 20 = .ok (.ireturn, 1) := by decide +kernel
theorem dL_bind_21 : decode cL_bind 21 = .ok (.astore 4, 2) := by decide +kernel
theorem dL_bind_23 : decode cL_bind 23 = .ok (.iconst 3, 1) := by decide +kernel
theorem dL_bind_24 : decode cL_bind 24 = .ok (.ireturn, 1) := by decide +kernel
theorem dL_bind_25 : decode cL_bind 25 = .ok (.astore 4, 2) := by decide +kernel
theorem dL_bind_27 : decode cL_bind 27 = .ok (.iconst 4, 1) := by decide +kernel
theorem dL_bind_28 : decode cL_bind 28 = .ok (.ireturn, 1) := by decide +kernel
theorem dL_bind_29 : decode cL_bind 29 = .ok (.iconst 0, 1) := by decide +kernel
theorem dL_bind_30 : decode cL_bind 30 = .ok (.ireturn, 1) := by decide +kernel
theorem dL_lacks_0 : decode cL_lacks 0 = .ok (.aload_n 3, 1) := by decide +kernel
theorem dL_lacks_1 : decode cL_lacks 1 = .ok (.iconst 0, 1) := by decide +kernel
theorem dL_lacks_2 : decode cL_lacks 2 = .ok (.aload_n 0, 1) := by decide +kernel
theorem dL_lacks_3 : decode cL_lacks 3 = .ok (.iload_n 1, 1) := by decide +kernel
theorem dL_lacks_4 : decode cL_lacks 4 = .ok (.iload_n 2, 1) := by decide +kernel
theorem dL_lacks_5 : decode cL_lacks 5 = .ok (.invokevirtual 76, 3) := by decide +kernel
theorem dL_lacks_8 : decode cL_lacks 8 = .ok (.i2l, 1) := by decide +kernel
theorem dL_lacks_9 : decode cL_lacks 9 = .ok (.lastore, 1) := by decide +kernel
theorem dL_lacks_10 : decode cL_lacks 10 = .ok (.goto 15, 3) := by decide +kernel
theorem dL_lacks_13 : decode cL_lacks 13 = .ok (.astore 4, 2) := by decide +kernel
theorem dL_lacks_15 : decode cL_lacks 15 = .ok (.iconst 1, 1) := by decide +kernel
theorem dL_lacks_16 : decode cL_lacks 16 = .ok (.ireturn, 1) := by decide +kernel
theorem dL_lacks_17 : decode cL_lacks 17 = .ok (.astore 4, 2) := by decide +kernel
theorem dL_lacks_19 : decode cL_lacks 19 = .ok (.iconst 2, 1) := by decide +kernel
theorem dL_lacks_20 : decode cL_lacks 20 = .ok (.ireturn, 1) := by decide +kernel
theorem dL_lacks_21 : decode cL_lacks 21 = .ok (.astore 4, 2) := by decide +kernel
theorem dL_lacks_23 : decode cL_lacks 23 = .ok (.iconst 3, 1) := by decide +kernel
theorem dL_lacks_24 : decode cL_lacks 24 = .ok (.ireturn, 1) := by decide +kernel
theorem dL_lacks_25 : decode cL_lacks 25 = .ok (.iconst 0, 1) := by decide +kernel
theorem dL_lacks_26 : decode cL_lacks 26 = .ok (.ireturn, 1) := by decide +kernel
theorem dL_copies_0 : decode cL_copies 0 = .ok (.aload_n 2, 1) := by decide +kernel
theorem dL_copies_1 : decode cL_copies 1 = .ok (.iconst 0, 1) := by decide +kernel
theorem dL_copies_2 : decode cL_copies 2 = .ok (.aload_n 0, 1) := by decide +kernel
theorem dL_copies_3 : decode cL_copies 3 = .ok (.iload_n 1, 1) := by decide +kernel
theorem dL_copies_4 : decode cL_copies 4 = .ok (.invokevirtual 79, 3) := by decide +kernel
theorem dL_copies_7 : decode cL_copies 7 = .ok (.i2l, 1) := by decide +kernel
theorem dL_copies_8 : decode cL_copies 8 = .ok (.lastore, 1) := by decide +kernel
theorem dL_copies_9 : decode cL_copies 9 = .ok (.goto 6, 3) := by decide +kernel
theorem dL_copies_12 : decode cL_copies 12 = .ok (.astore_n 3, 1) := by decide +kernel
theorem dL_copies_13 : decode cL_copies 13 = .ok (.iconst 1, 1) := by decide +kernel
theorem dL_copies_14 : decode cL_copies 14 = .ok (.ireturn, 1) := by decide +kernel
theorem dL_copies_15 : decode cL_copies 15 = .ok (.iconst 0, 1) := by decide +kernel
theorem dL_copies_16 : decode cL_copies 16 = .ok (.ireturn, 1) := by decide +kernel
theorem dL_stateIn_0 : decode cL_stateIn 0 = .ok (.aload_n 3, 1) := by decide +kernel
theorem dL_stateIn_1 : decode cL_stateIn 1 = .ok (.iconst 0, 1) := by decide +kernel
theorem dL_stateIn_2 : decode cL_stateIn 2 = .ok (.aload_n 0, 1) := by decide +kernel
theorem dL_stateIn_3 : decode cL_stateIn 3 = .ok (.iload_n 1, 1) := by decide +kernel
theorem dL_stateIn_4 : decode cL_stateIn 4 = .ok (.iload_n 2, 1) := by decide +kernel
theorem dL_stateIn_5 : decode cL_stateIn 5 = .ok (.invokevirtual 82, 3) := by decide +kernel
theorem dL_stateIn_8 : decode cL_stateIn 8 = .ok (.i2l, 1) := by decide +kernel
theorem dL_stateIn_9 : decode cL_stateIn 9 = .ok (.lastore, 1) := by decide +kernel
theorem dL_stateIn_10 : decode cL_stateIn 10 = .ok (.goto 11, 3) := by decide +kernel
theorem dL_stateIn_13 : decode cL_stateIn 13 = .ok (.astore 4, 2) := by decide +kernel
theorem dL_stateIn_15 : decode cL_stateIn 15 = .ok (.iconst 1, 1) := by decide +kernel
theorem dL_stateIn_16 : decode cL_stateIn 16 = .ok (.ireturn, 1) := by decide +kernel
theorem dL_stateIn_17 : decode cL_stateIn 17 = .ok (.astore 4, 2) := by decide +kernel
theorem dL_stateIn_19 : decode cL_stateIn 19 = .ok (.iconst 2, 1) := by decide +kernel
theorem dL_stateIn_20 : decode cL_stateIn 20 = .ok (.ireturn, 1) := by decide +kernel
theorem dL_stateIn_21 : decode cL_stateIn 21 = .ok (.iconst 0, 1) := by decide +kernel
theorem dL_stateIn_22 : decode cL_stateIn 22 = .ok (.ireturn, 1) := by decide +kernel
theorem dL_stateByReplay_0 : decode cL_stateByReplay 0 = .ok (.aload_n 3, 1) := by decide +kernel
theorem dL_stateByReplay_1 : decode cL_stateByReplay 1 = .ok (.iconst 0, 1) := by decide +kernel
theorem dL_stateByReplay_2 : decode cL_stateByReplay 2 = .ok (.aload_n 0, 1) := by decide +kernel
theorem dL_stateByReplay_3 : decode cL_stateByReplay 3 = .ok (.iload_n 1, 1) := by decide +kernel
theorem dL_stateByReplay_4 : decode cL_stateByReplay 4 = .ok (.iload_n 2, 1) := by decide +kernel
theorem dL_stateByReplay_5 : decode cL_stateByReplay 5 = .ok (.invokevirtual 85, 3) := by decide +kernel
theorem dL_stateByReplay_8 : decode cL_stateByReplay 8 = .ok (.i2l, 1) := by decide +kernel
theorem dL_stateByReplay_9 : decode cL_stateByReplay 9 = .ok (.lastore, 1) := by decide +kernel
theorem dL_stateByReplay_10 : decode cL_stateByReplay 10 = .ok (.goto 11, 3) := by decide +kernel
theorem dL_stateByReplay_13 : decode cL_stateByReplay 13 = .ok (.astore 4, 2) := by decide +kernel
theorem dL_stateByReplay_15 : decode cL_stateByReplay 15 = .ok (.iconst 1, 1) := by decide +kernel
theorem dL_stateByReplay_16 : decode cL_stateByReplay 16 = .ok (.ireturn, 1) := by decide +kernel
theorem dL_stateByReplay_17 : decode cL_stateByReplay 17 = .ok (.astore 4, 2) := by decide +kernel
theorem dL_stateByReplay_19 : decode cL_stateByReplay 19 = .ok (.iconst 2, 1) := by decide +kernel
theorem dL_stateByReplay_20 : decode cL_stateByReplay 20 = .ok (.ireturn, 1) := by decide +kernel
theorem dL_stateByReplay_21 : decode cL_stateByReplay 21 = .ok (.iconst 0, 1) := by decide +kernel
theorem dL_stateByReplay_22 : decode cL_stateByReplay 22 = .ok (.ireturn, 1) := by decide +kernel
theorem dL_outdated_0 : decode cL_outdated 0 = .ok (.aload_n 2, 1) := by decide +kernel
theorem dL_outdated_1 : decode cL_outdated 1 = .ok (.iconst 0, 1) := by decide +kernel
theorem dL_outdated_2 : decode cL_outdated 2 = .ok (.aload_n 0, 1) := by decide +kernel
theorem dL_outdated_3 : decode cL_outdated 3 = .ok (.iload_n 1, 1) := by decide +kernel
theorem dL_outdated_4 : decode cL_outdated 4 = .ok (.invokevirtual 88, 3) := by decide +kernel
theorem dL_outdated_7 : decode cL_outdated 7 = .ok (.i2l, 1) := by decide +kernel
theorem dL_outdated_8 : decode cL_outdated 8 = .ok (.lastore, 1) := by decide +kernel
theorem dL_outdated_9 : decode cL_outdated 9 = .ok (.goto 6, 3) := by decide +kernel
theorem dL_outdated_12 : decode cL_outdated 12 = .ok (.astore_n 3, 1) := by decide +kernel
theorem dL_outdated_13 : decode cL_outdated 13 = .ok (.iconst 1, 1) := by decide +kernel
theorem dL_outdated_14 : decode cL_outdated 14 = .ok (.ireturn, 1) := by decide +kernel
theorem dL_outdated_15 : decode cL_outdated 15 = .ok (.iconst 0, 1) := by decide +kernel
theorem dL_outdated_16 : decode cL_outdated 16 = .ok (.ireturn, 1) := by decide +kernel
theorem dL_wasteShare_0 : decode cL_wasteShare 0 = .ok (.aload_n 1, 1) := by decide +kernel
theorem dL_wasteShare_1 : decode cL_wasteShare 1 = .ok (.iconst 0, 1) := by decide +kernel
theorem dL_wasteShare_2 : decode cL_wasteShare 2 = .ok (.aload_n 0, 1) := by decide +kernel
theorem dL_wasteShare_3 : decode cL_wasteShare 3 = .ok (.invokevirtual 91, 3) := by decide +kernel
theorem dL_wasteShare_6 : decode cL_wasteShare 6 = .ok (.f2d, 1) := by decide +kernel
theorem dL_wasteShare_7 : decode cL_wasteShare 7 = .ok (.dastore, 1) := by decide +kernel
theorem dL_wasteShare_8 : decode cL_wasteShare 8 = .ok (.goto 6, 3) := by decide +kernel
theorem dL_wasteShare_11 : decode cL_wasteShare 11 = .ok (.astore_n 2, 1) := by decide +kernel
theorem dL_wasteShare_12 : decode cL_wasteShare 12 = .ok (.iconst 1, 1) := by decide +kernel
theorem dL_wasteShare_13 : decode cL_wasteShare 13 = .ok (.ireturn, 1) := by decide +kernel
theorem dL_wasteShare_14 : decode cL_wasteShare 14 = .ok (.iconst 0, 1) := by decide +kernel
theorem dL_wasteShare_15 : decode cL_wasteShare 15 = .ok (.ireturn, 1) := by decide +kernel
theorem dL_meanMakeready_0 : decode cL_meanMakeready 0 = .ok (.aload_n 1, 1) := by decide +kernel
theorem dL_meanMakeready_1 : decode cL_meanMakeready 1 = .ok (.iconst 0, 1) := by decide +kernel
theorem dL_meanMakeready_2 : decode cL_meanMakeready 2 = .ok (.aload_n 0, 1) := by decide +kernel
theorem dL_meanMakeready_3 : decode cL_meanMakeready 3 = .ok (.invokevirtual 97, 3) := by decide +kernel
theorem dL_meanMakeready_6 : decode cL_meanMakeready 6 = .ok (.dastore, 1) := by decide +kernel
theorem dL_meanMakeready_7 : decode cL_meanMakeready 7 = .ok (.goto 6, 3) := by decide +kernel
theorem dL_meanMakeready_10 : decode cL_meanMakeready 10 = .ok (.astore_n 2, 1) := by decide +kernel
theorem dL_meanMakeready_11 : decode cL_meanMakeready 11 = .ok (.iconst 1, 1) := by decide +kernel
theorem dL_meanMakeready_12 : decode cL_meanMakeready 12 = .ok (.ireturn, 1) := by decide +kernel
theorem dL_meanMakeready_13 : decode cL_meanMakeready 13 = .ok (.iconst 0, 1) := by decide +kernel
theorem dL_meanMakeready_14 : decode cL_meanMakeready 14 = .ok (.ireturn, 1) := by decide +kernel
theorem dL_law_0 : decode cL_law 0 = .ok (.new 8, 3) := by decide +kernel
theorem dL_law_3 : decode cL_law 3 = .ok (.dup, 1) := by decide +kernel
theorem dL_law_4 : decode cL_law 4 = .ok (.invokespecial 101, 3) := by decide +kernel
theorem dL_law_7 : decode cL_law 7 = .ok (.astore_n 1, 1) := by decide +kernel
theorem dL_law_8 : decode cL_law 8 = .ok (.new 102, 3) := by decide +kernel
theorem dL_law_11 : decode cL_law 11 = .ok (.dup, 1) := by decide +kernel
theorem dL_law_12 : decode cL_law 12 = .ok (.invokespecial 104, 3) := by decide +kernel
theorem dL_law_15 : decode cL_law 15 = .ok (.astore_n 2, 1) := by decide +kernel
theorem dL_law_16 : decode cL_law 16 = .ok (.iconst 1, 1) := by decide +kernel
theorem dL_law_17 : decode cL_law 17 = .ok (.newarray .long, 2) := by decide +kernel
theorem dL_law_19 : decode cL_law 19 = .ok (.astore_n 3, 1) := by decide +kernel
theorem dL_law_20 : decode cL_law 20 = .ok (.iconst 1, 1) := by decide +kernel
theorem dL_law_21 : decode cL_law 21 = .ok (.newarray .double, 2) := by decide +kernel
theorem dL_law_23 : decode cL_law 23 = .ok (.astore 4, 2) := by decide +kernel
theorem dL_law_25 : decode cL_law 25 = .ok (.iconst 0, 1) := by decide +kernel
theorem dL_law_26 : decode cL_law 26 = .ok (.istore 5, 2) := by decide +kernel
theorem dL_law_28 : decode cL_law 28 = .ok (.iload 5, 2) := by decide +kernel
theorem dL_law_30 : decode cL_law 30 = .ok (.aload_n 0, 1) := by decide +kernel
theorem dL_law_31 : decode cL_law 31 = .ok (.arraylength, 1) := by decide +kernel
theorem dL_law_32 : decode cL_law 32 = .ok (.iconst 4, 1) := by decide +kernel
theorem dL_law_33 : decode cL_law 33 = .ok (.isub, 1) := by decide +kernel
theorem dL_law_34 : decode cL_law 34 = .ok (.if_icmp .gt 1684, 3) := by decide +kernel
theorem dL_law_37 : decode cL_law 37 = .ok (.aload_n 0, 1) := by decide +kernel
theorem dL_law_38 : decode cL_law 38 = .ok (.iload 5, 2) := by decide +kernel
theorem dL_law_40 : decode cL_law 40 = .ok (.iaload, 1) := by decide +kernel
theorem dL_law_41 : decode cL_law 41 = .ok (.bipush 31, 2) := by decide +kernel
theorem dL_law_43 : decode cL_law 43 = .ok (.iand, 1) := by decide +kernel
theorem dL_law_44 : decode cL_law 44 = .ok (.tableswitch 1668 0 26 #[124, 168, 231, 287, 343, 401, 469, 525, 581, 661, 729, 809, 877, 933, 989, 1057, 1070, 1126, 1194, 1262, 1275, 1331, 1399, 1467, 1523, 1537, 1603], 124) := by decide +kernel
theorem dL_law_168 : decode cL_law 168 = .ok (.aload_n 1, 1) := by decide +kernel
theorem dL_law_169 : decode cL_law 169 = .ok (.aload_n 3, 1) := by decide +kernel
theorem dL_law_170 : decode cL_law 170 = .ok (.invokestatic 105, 3) := by decide +kernel
theorem dL_law_173 : decode cL_law 173 = .ok (.istore 6, 2) := by decide +kernel
theorem dL_law_175 : decode cL_law 175 = .ok (.aload_n 2, 1) := by decide +kernel
theorem dL_law_176 : decode cL_law 176 = .ok (.invokevirtual 110, 3) := by decide +kernel
theorem dL_law_179 : decode cL_law 179 = .ok (.istore 7, 2) := by decide +kernel
theorem dL_law_181 : decode cL_law 181 = .ok (.aload_n 2, 1) := by decide +kernel
theorem dL_law_182 : decode cL_law 182 = .ok (.invokevirtual 111, 3) := by decide +kernel
theorem dL_law_185 : decode cL_law 185 = .ok (.iload 6, 2) := by decide +kernel
theorem dL_law_187 : decode cL_law 187 = .ok (.if_icmp .eq 5, 3) := by decide +kernel
theorem dL_law_190 : decode cL_law 190 = .ok (.iconst 0, 1) := by decide +kernel
theorem dL_law_191 : decode cL_law 191 = .ok (.ireturn, 1) := by decide +kernel
theorem dL_law_192 : decode cL_law 192 = .ok (.iload 6, 2) := by decide +kernel
theorem dL_law_194 : decode cL_law 194 = .ok (.ifCond .ne 15, 3) := by decide +kernel
theorem dL_law_197 : decode cL_law 197 = .ok (.aload_n 3, 1) := by decide +kernel
theorem dL_law_198 : decode cL_law 198 = .ok (.iconst 0, 1) := by decide +kernel
theorem dL_law_199 : decode cL_law 199 = .ok (.laload, 1) := by decide +kernel
theorem dL_law_200 : decode cL_law 200 = .ok (.iload 7, 2) := by decide +kernel
theorem dL_law_202 : decode cL_law 202 = .ok (.i2l, 1) := by decide +kernel
theorem dL_law_203 : decode cL_law 203 = .ok (.lcmp, 1) := by decide +kernel
theorem dL_law_204 : decode cL_law 204 = .ok (.ifCond .eq 5, 3) := by decide +kernel
theorem dL_law_207 : decode cL_law 207 = .ok (.iconst 0, 1) := by decide +kernel
theorem dL_law_208 : decode cL_law 208 = .ok (.ireturn, 1) := by decide +kernel
theorem dL_law_209 : decode cL_law 209 = .ok (.goto 1503, 3) := by decide +kernel
theorem dL_law_212 : decode cL_law 212 = .ok (.aload_n 1, 1) := by decide +kernel
theorem dL_law_213 : decode cL_law 213 = .ok (.aload_n 0, 1) := by decide +kernel
theorem dL_law_214 : decode cL_law 214 = .ok (.iload 5, 2) := by decide +kernel
theorem dL_law_216 : decode cL_law 216 = .ok (.iconst 1, 1) := by decide +kernel
theorem dL_law_217 : decode cL_law 217 = .ok (.iadd, 1) := by decide +kernel
theorem dL_law_218 : decode cL_law 218 = .ok (.iaload, 1) := by decide +kernel
theorem dL_law_219 : decode cL_law 219 = .ok (.aload_n 3, 1) := by decide +kernel
theorem dL_law_220 : decode cL_law 220 = .ok (.invokestatic 114, 3) := by decide +kernel
theorem dL_law_223 : decode cL_law 223 = .ok (.istore 6, 2) := by decide +kernel
theorem dL_law_225 : decode cL_law 225 = .ok (.aload_n 2, 1) := by decide +kernel
theorem dL_law_226 : decode cL_law 226 = .ok (.aload_n 0, 1) := by decide +kernel
theorem dL_law_227 : decode cL_law 227 = .ok (.iload 5, 2) := by decide +kernel
theorem dL_law_229 : decode cL_law 229 = .ok (.iconst 1, 1) := by decide +kernel
theorem dL_law_230 : decode cL_law 230 = .ok (.iadd, 1) := by decide +kernel
theorem dL_law_231 : decode cL_law 231 = .ok (.iaload, 1) := by decide +kernel
theorem dL_law_232 : decode cL_law 232 = .ok (.invokevirtual 117, 3) := by decide +kernel
theorem dL_law_235 : decode cL_law 235 = .ok (.istore 7, 2) := by decide +kernel
theorem dL_law_237 : decode cL_law 237 = .ok (.aload_n 2, 1) := by decide +kernel
theorem dL_law_238 : decode cL_law 238 = .ok (.invokevirtual 111, 3) := by decide +kernel
theorem dL_law_241 : decode cL_law 241 = .ok (.iload 6, 2) := by decide +kernel
theorem dL_law_243 : decode cL_law 243 = .ok (.if_icmp .eq 5, 3) := by decide +kernel
theorem dL_law_246 : decode cL_law 246 = .ok (.iconst 0, 1) := by decide +kernel
theorem dL_law_247 : decode cL_law 247 = .ok (.ireturn, 1) := by decide +kernel
theorem dL_law_248 : decode cL_law 248 = .ok (.iload 6, 2) := by decide +kernel
theorem dL_law_250 : decode cL_law 250 = .ok (.ifCond .ne 22, 3) := by decide +kernel
theorem dL_law_253 : decode cL_law 253 = .ok (.aload_n 3, 1) := by decide +kernel
theorem dL_law_254 : decode cL_law 254 = .ok (.iconst 0, 1) := by decide +kernel
theorem dL_law_255 : decode cL_law 255 = .ok (.laload, 1) := by decide +kernel
theorem dL_law_256 : decode cL_law 256 = .ok (.iload 7, 2) := by decide +kernel
theorem dL_law_258 : decode cL_law 258 = .ok (.ifCond .eq 7, 3) := by decide +kernel
theorem dL_law_261 : decode cL_law 261 = .ok (.lconst 1, 1) := by decide +kernel
theorem dL_law_262 : decode cL_law 262 = .ok (.goto 4, 3) := by decide +kernel
theorem dL_law_265 : decode cL_law 265 = .ok (.lconst 0, 1) := by decide +kernel
theorem dL_law_266 : decode cL_law 266 = .ok (.lcmp, 1) := by decide +kernel
theorem dL_law_267 : decode cL_law 267 = .ok (.ifCond .eq 5, 3) := by decide +kernel
theorem dL_law_270 : decode cL_law 270 = .ok (.iconst 0, 1) := by decide +kernel
theorem dL_law_271 : decode cL_law 271 = .ok (.ireturn, 1) := by decide +kernel
theorem dL_law_272 : decode cL_law 272 = .ok (.goto 1440, 3) := by decide +kernel
theorem dL_law_275 : decode cL_law 275 = .ok (.aload_n 1, 1) := by decide +kernel
theorem dL_law_276 : decode cL_law 276 = .ok (.aload_n 0, 1) := by decide +kernel
theorem dL_law_277 : decode cL_law 277 = .ok (.iload 5, 2) := by decide +kernel
theorem dL_law_279 : decode cL_law 279 = .ok (.iconst 1, 1) := by decide +kernel
theorem dL_law_280 : decode cL_law 280 = .ok (.iadd, 1) := by decide +kernel
theorem dL_law_281 : decode cL_law 281 = .ok (.iaload, 1) := by decide +kernel
theorem dL_law_282 : decode cL_law 282 = .ok (.aload_n 3, 1) := by decide +kernel
theorem dL_law_283 : decode cL_law 283 = .ok (.invokestatic 118, 3) := by decide +kernel
theorem dL_law_286 : decode cL_law 286 = .ok (.istore 6, 2) := by decide +kernel
theorem dL_law_288 : decode cL_law 288 = .ok (.aload_n 2, 1) := by decide +kernel
theorem dL_law_289 : decode cL_law 289 = .ok (.aload_n 0, 1) := by decide +kernel
theorem dL_law_290 : decode cL_law 290 = .ok (.iload 5, 2) := by decide +kernel
theorem dL_law_292 : decode cL_law 292 = .ok (.iconst 1, 1) := by decide +kernel
theorem dL_law_293 : decode cL_law 293 = .ok (.iadd, 1) := by decide +kernel
theorem dL_law_294 : decode cL_law 294 = .ok (.iaload, 1) := by decide +kernel
theorem dL_law_295 : decode cL_law 295 = .ok (.invokevirtual 120, 3) := by decide +kernel
theorem dL_law_298 : decode cL_law 298 = .ok (.istore 7, 2) := by decide +kernel
theorem dL_law_300 : decode cL_law 300 = .ok (.aload_n 2, 1) := by decide +kernel
theorem dL_law_301 : decode cL_law 301 = .ok (.invokevirtual 111, 3) := by decide +kernel
theorem dL_law_304 : decode cL_law 304 = .ok (.iload 6, 2) := by decide +kernel
theorem dL_law_306 : decode cL_law 306 = .ok (.if_icmp .eq 5, 3) := by decide +kernel
theorem dL_law_309 : decode cL_law 309 = .ok (.iconst 0, 1) := by decide +kernel
theorem dL_law_310 : decode cL_law 310 = .ok (.ireturn, 1) := by decide +kernel
theorem dL_law_311 : decode cL_law 311 = .ok (.iload 6, 2) := by decide +kernel
theorem dL_law_313 : decode cL_law 313 = .ok (.ifCond .ne 15, 3) := by decide +kernel
theorem dL_law_316 : decode cL_law 316 = .ok (.aload_n 3, 1) := by decide +kernel
theorem dL_law_317 : decode cL_law 317 = .ok (.iconst 0, 1) := by decide +kernel
theorem dL_law_318 : decode cL_law 318 = .ok (.laload, 1) := by decide +kernel
theorem dL_law_319 : decode cL_law 319 = .ok (.iload 7, 2) := by decide +kernel
theorem dL_law_321 : decode cL_law 321 = .ok (.i2l, 1) := by decide +kernel
theorem dL_law_322 : decode cL_law 322 = .ok (.lcmp, 1) := by decide +kernel
theorem dL_law_323 : decode cL_law 323 = .ok (.ifCond .eq 5, 3) := by decide +kernel
theorem dL_law_326 : decode cL_law 326 = .ok (.iconst 0, 1) := by decide +kernel
theorem dL_law_327 : decode cL_law 327 = .ok (.ireturn, 1) := by decide +kernel
theorem dL_law_328 : decode cL_law 328 = .ok (.goto 1384, 3) := by decide +kernel
theorem dL_law_331 : decode cL_law 331 = .ok (.aload_n 1, 1) := by decide +kernel
theorem dL_law_332 : decode cL_law 332 = .ok (.aload_n 0, 1) := by decide +kernel
theorem dL_law_333 : decode cL_law 333 = .ok (.iload 5, 2) := by decide +kernel
theorem dL_law_335 : decode cL_law 335 = .ok (.iconst 1, 1) := by decide +kernel
theorem dL_law_336 : decode cL_law 336 = .ok (.iadd, 1) := by decide +kernel
theorem dL_law_337 : decode cL_law 337 = .ok (.iaload, 1) := by decide +kernel
theorem dL_law_338 : decode cL_law 338 = .ok (.aload_n 3, 1) := by decide +kernel
theorem dL_law_339 : decode cL_law 339 = .ok (.invokestatic 121, 3) := by decide +kernel
theorem dL_law_342 : decode cL_law 342 = .ok (.istore 6, 2) := by decide +kernel
theorem dL_law_344 : decode cL_law 344 = .ok (.aload_n 2, 1) := by decide +kernel
theorem dL_law_345 : decode cL_law 345 = .ok (.aload_n 0, 1) := by decide +kernel
theorem dL_law_346 : decode cL_law 346 = .ok (.iload 5, 2) := by decide +kernel
theorem dL_law_348 : decode cL_law 348 = .ok (.iconst 1, 1) := by decide +kernel
theorem dL_law_349 : decode cL_law 349 = .ok (.iadd, 1) := by decide +kernel
theorem dL_law_350 : decode cL_law 350 = .ok (.iaload, 1) := by decide +kernel
theorem dL_law_351 : decode cL_law 351 = .ok (.invokevirtual 123, 3) := by decide +kernel
theorem dL_law_354 : decode cL_law 354 = .ok (.istore 7, 2) := by decide +kernel
theorem dL_law_356 : decode cL_law 356 = .ok (.aload_n 2, 1) := by decide +kernel
theorem dL_law_357 : decode cL_law 357 = .ok (.invokevirtual 111, 3) := by decide +kernel
theorem dL_law_360 : decode cL_law 360 = .ok (.iload 6, 2) := by decide +kernel
theorem dL_law_362 : decode cL_law 362 = .ok (.if_icmp .eq 5, 3) := by decide +kernel
theorem dL_law_365 : decode cL_law 365 = .ok (.iconst 0, 1) := by decide +kernel
theorem dL_law_366 : decode cL_law 366 = .ok (.ireturn, 1) := by decide +kernel
theorem dL_law_367 : decode cL_law 367 = .ok (.iload 6, 2) := by decide +kernel
theorem dL_law_369 : decode cL_law 369 = .ok (.ifCond .ne 15, 3) := by decide +kernel
theorem dL_law_372 : decode cL_law 372 = .ok (.aload_n 3, 1) := by decide +kernel
theorem dL_law_373 : decode cL_law 373 = .ok (.iconst 0, 1) := by decide +kernel
theorem dL_law_374 : decode cL_law 374 = .ok (.laload, 1) := by decide +kernel
theorem dL_law_375 : decode cL_law 375 = .ok (.iload 7, 2) := by decide +kernel
theorem dL_law_377 : decode cL_law 377 = .ok (.i2l, 1) := by decide +kernel
theorem dL_law_378 : decode cL_law 378 = .ok (.lcmp, 1) := by decide +kernel
theorem dL_law_379 : decode cL_law 379 = .ok (.ifCond .eq 5, 3) := by decide +kernel
theorem dL_law_382 : decode cL_law 382 = .ok (.iconst 0, 1) := by decide +kernel
theorem dL_law_383 : decode cL_law 383 = .ok (.ireturn, 1) := by decide +kernel
theorem dL_law_384 : decode cL_law 384 = .ok (.goto 1328, 3) := by decide +kernel
theorem dL_law_387 : decode cL_law 387 = .ok (.aload_n 1, 1) := by decide +kernel
theorem dL_law_388 : decode cL_law 388 = .ok (.aload_n 0, 1) := by decide +kernel
theorem dL_law_389 : decode cL_law 389 = .ok (.iload 5, 2) := by decide +kernel
theorem dL_law_391 : decode cL_law 391 = .ok (.iconst 1, 1) := by decide +kernel
theorem dL_law_392 : decode cL_law 392 = .ok (.iadd, 1) := by decide +kernel
theorem dL_law_393 : decode cL_law 393 = .ok (.iaload, 1) := by decide +kernel
theorem dL_law_394 : decode cL_law 394 = .ok (.i2c, 1) := by decide +kernel
theorem dL_law_395 : decode cL_law 395 = .ok (.aload_n 3, 1) := by decide +kernel
theorem dL_law_396 : decode cL_law 396 = .ok (.invokestatic 124, 3) := by decide +kernel
theorem dL_law_399 : decode cL_law 399 = .ok (.istore 6, 2) := by decide +kernel
theorem dL_law_401 : decode cL_law 401 = .ok (.aload_n 2, 1) := by decide +kernel
theorem dL_law_402 : decode cL_law 402 = .ok (.aload_n 0, 1) := by decide +kernel
theorem dL_law_403 : decode cL_law 403 = .ok (.iload 5, 2) := by decide +kernel
theorem dL_law_405 : decode cL_law 405 = .ok (.iconst 1, 1) := by decide +kernel
theorem dL_law_406 : decode cL_law 406 = .ok (.iadd, 1) := by decide +kernel
theorem dL_law_407 : decode cL_law 407 = .ok (.iaload, 1) := by decide +kernel
theorem dL_law_408 : decode cL_law 408 = .ok (.i2c, 1) := by decide +kernel
theorem dL_law_409 : decode cL_law 409 = .ok (.invokevirtual 127, 3) := by decide +kernel
theorem dL_law_412 : decode cL_law 412 = .ok (.istore 7, 2) := by decide +kernel
theorem dL_law_414 : decode cL_law 414 = .ok (.aload_n 2, 1) := by decide +kernel
theorem dL_law_415 : decode cL_law 415 = .ok (.invokevirtual 111, 3) := by decide +kernel
theorem dL_law_418 : decode cL_law 418 = .ok (.iload 6, 2) := by decide +kernel
theorem dL_law_420 : decode cL_law 420 = .ok (.if_icmp .eq 5, 3) := by decide +kernel
theorem dL_law_423 : decode cL_law 423 = .ok (.iconst 0, 1) := by decide +kernel
theorem dL_law_424 : decode cL_law 424 = .ok (.ireturn, 1) := by decide +kernel
theorem dL_law_425 : decode cL_law 425 = .ok (.iload 6, 2) := by decide +kernel
theorem dL_law_427 : decode cL_law 427 = .ok (.ifCond .ne 15, 3) := by decide +kernel
theorem dL_law_430 : decode cL_law 430 = .ok (.aload_n 3, 1) := by decide +kernel
theorem dL_law_431 : decode cL_law 431 = .ok (.iconst 0, 1) := by decide +kernel
theorem dL_law_432 : decode cL_law 432 = .ok (.laload, 1) := by decide +kernel
theorem dL_law_433 : decode cL_law 433 = .ok (.iload 7, 2) := by decide +kernel
theorem dL_law_435 : decode cL_law 435 = .ok (.i2l, 1) := by decide +kernel
theorem dL_law_436 : decode cL_law 436 = .ok (.lcmp, 1) := by decide +kernel
theorem dL_law_437 : decode cL_law 437 = .ok (.ifCond .eq 5, 3) := by decide +kernel
theorem dL_law_440 : decode cL_law 440 = .ok (.iconst 0, 1) := by decide +kernel
theorem dL_law_441 : decode cL_law 441 = .ok (.ireturn, 1) := by decide +kernel
theorem dL_law_442 : decode cL_law 442 = .ok (.goto 1270, 3) := by decide +kernel
theorem dL_law_445 : decode cL_law 445 = .ok (.aload_n 1, 1) := by decide +kernel
theorem dL_law_446 : decode cL_law 446 = .ok (.aload_n 0, 1) := by decide +kernel
theorem dL_law_447 : decode cL_law 447 = .ok (.iload 5, 2) := by decide +kernel
theorem dL_law_449 : decode cL_law 449 = .ok (.iconst 1, 1) := by decide +kernel
theorem dL_law_450 : decode cL_law 450 = .ok (.iadd, 1) := by decide +kernel
theorem dL_law_451 : decode cL_law 451 = .ok (.iaload, 1) := by decide +kernel
theorem dL_law_452 : decode cL_law 452 = .ok (.aload_n 0, 1) := by decide +kernel
theorem dL_law_453 : decode cL_law 453 = .ok (.iload 5, 2) := by decide +kernel
theorem dL_law_455 : decode cL_law 455 = .ok (.iconst 2, 1) := by decide +kernel
theorem dL_law_456 : decode cL_law 456 = .ok (.iadd, 1) := by decide +kernel
theorem dL_law_457 : decode cL_law 457 = .ok (.iaload, 1) := by decide +kernel
theorem dL_law_458 : decode cL_law 458 = .ok (.aload_n 3, 1) := by decide +kernel
theorem dL_law_459 : decode cL_law 459 = .ok (.invokestatic 128, 3) := by decide +kernel
theorem dL_law_462 : decode cL_law 462 = .ok (.istore 6, 2) := by decide +kernel
theorem dL_law_464 : decode cL_law 464 = .ok (.aload_n 2, 1) := by decide +kernel
theorem dL_law_465 : decode cL_law 465 = .ok (.aload_n 0, 1) := by decide +kernel
theorem dL_law_466 : decode cL_law 466 = .ok (.iload 5, 2) := by decide +kernel
theorem dL_law_468 : decode cL_law 468 = .ok (.iconst 1, 1) := by decide +kernel
theorem dL_law_469 : decode cL_law 469 = .ok (.iadd, 1) := by decide +kernel
theorem dL_law_470 : decode cL_law 470 = .ok (.iaload, 1) := by decide +kernel
theorem dL_law_471 : decode cL_law 471 = .ok (.aload_n 0, 1) := by decide +kernel
theorem dL_law_472 : decode cL_law 472 = .ok (.iload 5, 2) := by decide +kernel
theorem dL_law_474 : decode cL_law 474 = .ok (.iconst 2, 1) := by decide +kernel
theorem dL_law_475 : decode cL_law 475 = .ok (.iadd, 1) := by decide +kernel
theorem dL_law_476 : decode cL_law 476 = .ok (.iaload, 1) := by decide +kernel
theorem dL_law_477 : decode cL_law 477 = .ok (.invokevirtual 131, 3) := by decide +kernel
theorem dL_law_480 : decode cL_law 480 = .ok (.istore 7, 2) := by decide +kernel
theorem dL_law_482 : decode cL_law 482 = .ok (.aload_n 2, 1) := by decide +kernel
theorem dL_law_483 : decode cL_law 483 = .ok (.invokevirtual 111, 3) := by decide +kernel
theorem dL_law_486 : decode cL_law 486 = .ok (.iload 6, 2) := by decide +kernel
theorem dL_law_488 : decode cL_law 488 = .ok (.if_icmp .eq 5, 3) := by decide +kernel
theorem dL_law_491 : decode cL_law 491 = .ok (.iconst 0, 1) := by decide +kernel
theorem dL_law_492 : decode cL_law 492 = .ok (.ireturn, 1) := by decide +kernel
theorem dL_law_493 : decode cL_law 493 = .ok (.iload 6, 2) := by decide +kernel
theorem dL_law_495 : decode cL_law 495 = .ok (.ifCond .ne 15, 3) := by decide +kernel
theorem dL_law_498 : decode cL_law 498 = .ok (.aload_n 3, 1) := by decide +kernel
theorem dL_law_499 : decode cL_law 499 = .ok (.iconst 0, 1) := by decide +kernel
theorem dL_law_500 : decode cL_law 500 = .ok (.laload, 1) := by decide +kernel
theorem dL_law_501 : decode cL_law 501 = .ok (.iload 7, 2) := by decide +kernel
theorem dL_law_503 : decode cL_law 503 = .ok (.i2l, 1) := by decide +kernel
theorem dL_law_504 : decode cL_law 504 = .ok (.lcmp, 1) := by decide +kernel
theorem dL_law_505 : decode cL_law 505 = .ok (.ifCond .eq 5, 3) := by decide +kernel
theorem dL_law_508 : decode cL_law 508 = .ok (.iconst 0, 1) := by decide +kernel
theorem dL_law_509 : decode cL_law 509 = .ok (.ireturn, 1) := by decide +kernel
theorem dL_law_510 : decode cL_law 510 = .ok (.goto 1202, 3) := by decide +kernel
theorem dL_law_513 : decode cL_law 513 = .ok (.aload_n 1, 1) := by decide +kernel
theorem dL_law_514 : decode cL_law 514 = .ok (.aload_n 0, 1) := by decide +kernel
theorem dL_law_515 : decode cL_law 515 = .ok (.iload 5, 2) := by decide +kernel
theorem dL_law_517 : decode cL_law 517 = .ok (.iconst 1, 1) := by decide +kernel
theorem dL_law_518 : decode cL_law 518 = .ok (.iadd, 1) := by decide +kernel
theorem dL_law_519 : decode cL_law 519 = .ok (.iaload, 1) := by decide +kernel
theorem dL_law_520 : decode cL_law 520 = .ok (.aload_n 3, 1) := by decide +kernel
theorem dL_law_521 : decode cL_law 521 = .ok (.invokestatic 132, 3) := by decide +kernel
theorem dL_law_524 : decode cL_law 524 = .ok (.istore 6, 2) := by decide +kernel
theorem dL_law_526 : decode cL_law 526 = .ok (.aload_n 2, 1) := by decide +kernel
theorem dL_law_527 : decode cL_law 527 = .ok (.aload_n 0, 1) := by decide +kernel
theorem dL_law_528 : decode cL_law 528 = .ok (.iload 5, 2) := by decide +kernel
theorem dL_law_530 : decode cL_law 530 = .ok (.iconst 1, 1) := by decide +kernel
theorem dL_law_531 : decode cL_law 531 = .ok (.iadd, 1) := by decide +kernel
theorem dL_law_532 : decode cL_law 532 = .ok (.iaload, 1) := by decide +kernel
theorem dL_law_533 : decode cL_law 533 = .ok (.invokevirtual 134, 3) := by decide +kernel
theorem dL_law_536 : decode cL_law 536 = .ok (.istore 7, 2) := by decide +kernel
theorem dL_law_538 : decode cL_law 538 = .ok (.aload_n 2, 1) := by decide +kernel
theorem dL_law_539 : decode cL_law 539 = .ok (.invokevirtual 111, 3) := by decide +kernel
theorem dL_law_542 : decode cL_law 542 = .ok (.iload 6, 2) := by decide +kernel
theorem dL_law_544 : decode cL_law 544 = .ok (.if_icmp .eq 5, 3) := by decide +kernel
theorem dL_law_547 : decode cL_law 547 = .ok (.iconst 0, 1) := by decide +kernel
theorem dL_law_548 : decode cL_law 548 = .ok (.ireturn, 1) := by decide +kernel
theorem dL_law_549 : decode cL_law 549 = .ok (.iload 6, 2) := by decide +kernel
theorem dL_law_551 : decode cL_law 551 = .ok (.ifCond .ne 15, 3) := by decide +kernel
theorem dL_law_554 : decode cL_law 554 = .ok (.aload_n 3, 1) := by decide +kernel
theorem dL_law_555 : decode cL_law 555 = .ok (.iconst 0, 1) := by decide +kernel
theorem dL_law_556 : decode cL_law 556 = .ok (.laload, 1) := by decide +kernel
theorem dL_law_557 : decode cL_law 557 = .ok (.iload 7, 2) := by decide +kernel
theorem dL_law_559 : decode cL_law 559 = .ok (.i2l, 1) := by decide +kernel
theorem dL_law_560 : decode cL_law 560 = .ok (.lcmp, 1) := by decide +kernel
theorem dL_law_561 : decode cL_law 561 = .ok (.ifCond .eq 5, 3) := by decide +kernel
theorem dL_law_564 : decode cL_law 564 = .ok (.iconst 0, 1) := by decide +kernel
theorem dL_law_565 : decode cL_law 565 = .ok (.ireturn, 1) := by decide +kernel
theorem dL_law_566 : decode cL_law 566 = .ok (.goto 1146, 3) := by decide +kernel
theorem dL_law_569 : decode cL_law 569 = .ok (.aload_n 1, 1) := by decide +kernel
theorem dL_law_570 : decode cL_law 570 = .ok (.aload_n 0, 1) := by decide +kernel
theorem dL_law_571 : decode cL_law 571 = .ok (.iload 5, 2) := by decide +kernel
theorem dL_law_573 : decode cL_law 573 = .ok (.iconst 1, 1) := by decide +kernel
theorem dL_law_574 : decode cL_law 574 = .ok (.iadd, 1) := by decide +kernel
theorem dL_law_575 : decode cL_law 575 = .ok (.iaload, 1) := by decide +kernel
theorem dL_law_576 : decode cL_law 576 = .ok (.aload_n 3, 1) := by decide +kernel
theorem dL_law_577 : decode cL_law 577 = .ok (.invokestatic 135, 3) := by decide +kernel
theorem dL_law_580 : decode cL_law 580 = .ok (.istore 6, 2) := by decide +kernel
theorem dL_law_582 : decode cL_law 582 = .ok (.aload_n 2, 1) := by decide +kernel
theorem dL_law_583 : decode cL_law 583 = .ok (.aload_n 0, 1) := by decide +kernel
theorem dL_law_584 : decode cL_law 584 = .ok (.iload 5, 2) := by decide +kernel
theorem dL_law_586 : decode cL_law 586 = .ok (.iconst 1, 1) := by decide +kernel
theorem dL_law_587 : decode cL_law 587 = .ok (.iadd, 1) := by decide +kernel
theorem dL_law_588 : decode cL_law 588 = .ok (.iaload, 1) := by decide +kernel
theorem dL_law_589 : decode cL_law 589 = .ok (.invokevirtual 137, 3) := by decide +kernel
theorem dL_law_592 : decode cL_law 592 = .ok (.istore 7, 2) := by decide +kernel
theorem dL_law_594 : decode cL_law 594 = .ok (.aload_n 2, 1) := by decide +kernel
theorem dL_law_595 : decode cL_law 595 = .ok (.invokevirtual 111, 3) := by decide +kernel
theorem dL_law_598 : decode cL_law 598 = .ok (.iload 6, 2) := by decide +kernel
theorem dL_law_600 : decode cL_law 600 = .ok (.if_icmp .eq 5, 3) := by decide +kernel
theorem dL_law_603 : decode cL_law 603 = .ok (.iconst 0, 1) := by decide +kernel
theorem dL_law_604 : decode cL_law 604 = .ok (.ireturn, 1) := by decide +kernel
theorem dL_law_605 : decode cL_law 605 = .ok (.iload 6, 2) := by decide +kernel
theorem dL_law_607 : decode cL_law 607 = .ok (.ifCond .ne 15, 3) := by decide +kernel
theorem dL_law_610 : decode cL_law 610 = .ok (.aload_n 3, 1) := by decide +kernel
theorem dL_law_611 : decode cL_law 611 = .ok (.iconst 0, 1) := by decide +kernel
theorem dL_law_612 : decode cL_law 612 = .ok (.laload, 1) := by decide +kernel
theorem dL_law_613 : decode cL_law 613 = .ok (.iload 7, 2) := by decide +kernel
theorem dL_law_615 : decode cL_law 615 = .ok (.i2l, 1) := by decide +kernel
theorem dL_law_616 : decode cL_law 616 = .ok (.lcmp, 1) := by decide +kernel
theorem dL_law_617 : decode cL_law 617 = .ok (.ifCond .eq 5, 3) := by decide +kernel
theorem dL_law_620 : decode cL_law 620 = .ok (.iconst 0, 1) := by decide +kernel
theorem dL_law_621 : decode cL_law 621 = .ok (.ireturn, 1) := by decide +kernel
theorem dL_law_622 : decode cL_law 622 = .ok (.goto 1090, 3) := by decide +kernel
theorem dL_law_625 : decode cL_law 625 = .ok (.aload_n 1, 1) := by decide +kernel
theorem dL_law_626 : decode cL_law 626 = .ok (.aload_n 0, 1) := by decide +kernel
theorem dL_law_627 : decode cL_law 627 = .ok (.iload 5, 2) := by decide +kernel
theorem dL_law_629 : decode cL_law 629 = .ok (.iconst 1, 1) := by decide +kernel
theorem dL_law_630 : decode cL_law 630 = .ok (.iadd, 1) := by decide +kernel
theorem dL_law_631 : decode cL_law 631 = .ok (.iaload, 1) := by decide +kernel
theorem dL_law_632 : decode cL_law 632 = .ok (.aload_n 0, 1) := by decide +kernel
theorem dL_law_633 : decode cL_law 633 = .ok (.iload 5, 2) := by decide +kernel
theorem dL_law_635 : decode cL_law 635 = .ok (.iconst 2, 1) := by decide +kernel
theorem dL_law_636 : decode cL_law 636 = .ok (.iadd, 1) := by decide +kernel
theorem dL_law_637 : decode cL_law 637 = .ok (.iaload, 1) := by decide +kernel
theorem dL_law_638 : decode cL_law 638 = .ok (.aload_n 0, 1) := by decide +kernel
theorem dL_law_639 : decode cL_law 639 = .ok (.iload 5, 2) := by decide +kernel
theorem dL_law_641 : decode cL_law 641 = .ok (.iconst 3, 1) := by decide +kernel
theorem dL_law_642 : decode cL_law 642 = .ok (.iadd, 1) := by decide +kernel
theorem dL_law_643 : decode cL_law 643 = .ok (.iaload, 1) := by decide +kernel
theorem dL_law_644 : decode cL_law 644 = .ok (.aload_n 3, 1) := by decide +kernel
theorem dL_law_645 : decode cL_law 645 = .ok (.invokestatic 138, 3) := by decide +kernel
theorem dL_law_648 : decode cL_law 648 = .ok (.istore 6, 2) := by decide +kernel
theorem dL_law_650 : decode cL_law 650 = .ok (.aload_n 2, 1) := by decide +kernel
theorem dL_law_651 : decode cL_law 651 = .ok (.aload_n 0, 1) := by decide +kernel
theorem dL_law_652 : decode cL_law 652 = .ok (.iload 5, 2) := by decide +kernel
theorem dL_law_654 : decode cL_law 654 = .ok (.iconst 1, 1) := by decide +kernel
theorem dL_law_655 : decode cL_law 655 = .ok (.iadd, 1) := by decide +kernel
theorem dL_law_656 : decode cL_law 656 = .ok (.iaload, 1) := by decide +kernel
theorem dL_law_657 : decode cL_law 657 = .ok (.aload_n 0, 1) := by decide +kernel
theorem dL_law_658 : decode cL_law 658 = .ok (.iload 5, 2) := by decide +kernel
theorem dL_law_660 : decode cL_law 660 = .ok (.iconst 2, 1) := by decide +kernel
theorem dL_law_661 : decode cL_law 661 = .ok (.iadd, 1) := by decide +kernel
theorem dL_law_662 : decode cL_law 662 = .ok (.iaload, 1) := by decide +kernel
theorem dL_law_663 : decode cL_law 663 = .ok (.aload_n 0, 1) := by decide +kernel
theorem dL_law_664 : decode cL_law 664 = .ok (.iload 5, 2) := by decide +kernel
theorem dL_law_666 : decode cL_law 666 = .ok (.iconst 3, 1) := by decide +kernel
theorem dL_law_667 : decode cL_law 667 = .ok (.iadd, 1) := by decide +kernel
theorem dL_law_668 : decode cL_law 668 = .ok (.iaload, 1) := by decide +kernel
theorem dL_law_669 : decode cL_law 669 = .ok (.invokevirtual 141, 3) := by decide +kernel
theorem dL_law_672 : decode cL_law 672 = .ok (.istore 7, 2) := by decide +kernel
theorem dL_law_674 : decode cL_law 674 = .ok (.aload_n 2, 1) := by decide +kernel
theorem dL_law_675 : decode cL_law 675 = .ok (.invokevirtual 111, 3) := by decide +kernel
theorem dL_law_678 : decode cL_law 678 = .ok (.iload 6, 2) := by decide +kernel
theorem dL_law_680 : decode cL_law 680 = .ok (.if_icmp .eq 5, 3) := by decide +kernel
theorem dL_law_683 : decode cL_law 683 = .ok (.iconst 0, 1) := by decide +kernel
theorem dL_law_684 : decode cL_law 684 = .ok (.ireturn, 1) := by decide +kernel
theorem dL_law_685 : decode cL_law 685 = .ok (.iload 6, 2) := by decide +kernel
theorem dL_law_687 : decode cL_law 687 = .ok (.ifCond .ne 15, 3) := by decide +kernel
theorem dL_law_690 : decode cL_law 690 = .ok (.aload_n 3, 1) := by decide +kernel
theorem dL_law_691 : decode cL_law 691 = .ok (.iconst 0, 1) := by decide +kernel
theorem dL_law_692 : decode cL_law 692 = .ok (.laload, 1) := by decide +kernel
theorem dL_law_693 : decode cL_law 693 = .ok (.iload 7, 2) := by decide +kernel
theorem dL_law_695 : decode cL_law 695 = .ok (.i2l, 1) := by decide +kernel
theorem dL_law_696 : decode cL_law 696 = .ok (.lcmp, 1) := by decide +kernel
theorem dL_law_697 : decode cL_law 697 = .ok (.ifCond .eq 5, 3) := by decide +kernel
theorem dL_law_700 : decode cL_law 700 = .ok (.iconst 0, 1) := by decide +kernel
theorem dL_law_701 : decode cL_law 701 = .ok (.ireturn, 1) := by decide +kernel
theorem dL_law_702 : decode cL_law 702 = .ok (.goto 1010, 3) := by decide +kernel
theorem dL_law_705 : decode cL_law 705 = .ok (.aload_n 1, 1) := by decide +kernel
theorem dL_law_706 : decode cL_law 706 = .ok (.aload_n 0, 1) := by decide +kernel
theorem dL_law_707 : decode cL_law 707 = .ok (.iload 5, 2) := by decide +kernel
theorem dL_law_709 : decode cL_law 709 = .ok (.iconst 1, 1) := by decide +kernel
theorem dL_law_710 : decode cL_law 710 = .ok (.iadd, 1) := by decide +kernel
theorem dL_law_711 : decode cL_law 711 = .ok (.iaload, 1) := by decide +kernel
theorem dL_law_712 : decode cL_law 712 = .ok (.aload_n 0, 1) := by decide +kernel
theorem dL_law_713 : decode cL_law 713 = .ok (.iload 5, 2) := by decide +kernel
theorem dL_law_715 : decode cL_law 715 = .ok (.iconst 2, 1) := by decide +kernel
theorem dL_law_716 : decode cL_law 716 = .ok (.iadd, 1) := by decide +kernel
theorem dL_law_717 : decode cL_law 717 = .ok (.iaload, 1) := by decide +kernel
theorem dL_law_718 : decode cL_law 718 = .ok (.aload_n 3, 1) := by decide +kernel
theorem dL_law_719 : decode cL_law 719 = .ok (.invokestatic 142, 3) := by decide +kernel
theorem dL_law_722 : decode cL_law 722 = .ok (.istore 6, 2) := by decide +kernel
theorem dL_law_724 : decode cL_law 724 = .ok (.aload_n 2, 1) := by decide +kernel
theorem dL_law_725 : decode cL_law 725 = .ok (.aload_n 0, 1) := by decide +kernel
theorem dL_law_726 : decode cL_law 726 = .ok (.iload 5, 2) := by decide +kernel
theorem dL_law_728 : decode cL_law 728 = .ok (.iconst 1, 1) := by decide +kernel
theorem dL_law_729 : decode cL_law 729 = .ok (.iadd, 1) := by decide +kernel
theorem dL_law_730 : decode cL_law 730 = .ok (.iaload, 1) := by decide +kernel
theorem dL_law_731 : decode cL_law 731 = .ok (.aload_n 0, 1) := by decide +kernel
theorem dL_law_732 : decode cL_law 732 = .ok (.iload 5, 2) := by decide +kernel
theorem dL_law_734 : decode cL_law 734 = .ok (.iconst 2, 1) := by decide +kernel
theorem dL_law_735 : decode cL_law 735 = .ok (.iadd, 1) := by decide +kernel
theorem dL_law_736 : decode cL_law 736 = .ok (.iaload, 1) := by decide +kernel
theorem dL_law_737 : decode cL_law 737 = .ok (.invokevirtual 144, 3) := by decide +kernel
theorem dL_law_740 : decode cL_law 740 = .ok (.istore 7, 2) := by decide +kernel
theorem dL_law_742 : decode cL_law 742 = .ok (.aload_n 2, 1) := by decide +kernel
theorem dL_law_743 : decode cL_law 743 = .ok (.invokevirtual 111, 3) := by decide +kernel
theorem dL_law_746 : decode cL_law 746 = .ok (.iload 6, 2) := by decide +kernel
theorem dL_law_748 : decode cL_law 748 = .ok (.if_icmp .eq 5, 3) := by decide +kernel
theorem dL_law_751 : decode cL_law 751 = .ok (.iconst 0, 1) := by decide +kernel
theorem dL_law_752 : decode cL_law 752 = .ok (.ireturn, 1) := by decide +kernel
theorem dL_law_753 : decode cL_law 753 = .ok (.iload 6, 2) := by decide +kernel
theorem dL_law_755 : decode cL_law 755 = .ok (.ifCond .ne 15, 3) := by decide +kernel
theorem dL_law_758 : decode cL_law 758 = .ok (.aload_n 3, 1) := by decide +kernel
theorem dL_law_759 : decode cL_law 759 = .ok (.iconst 0, 1) := by decide +kernel
theorem dL_law_760 : decode cL_law 760 = .ok (.laload, 1) := by decide +kernel
theorem dL_law_761 : decode cL_law 761 = .ok (.iload 7, 2) := by decide +kernel
theorem dL_law_763 : decode cL_law 763 = .ok (.i2l, 1) := by decide +kernel
theorem dL_law_764 : decode cL_law 764 = .ok (.lcmp, 1) := by decide +kernel
theorem dL_law_765 : decode cL_law 765 = .ok (.ifCond .eq 5, 3) := by decide +kernel
theorem dL_law_768 : decode cL_law 768 = .ok (.iconst 0, 1) := by decide +kernel
theorem dL_law_769 : decode cL_law 769 = .ok (.ireturn, 1) := by decide +kernel
theorem dL_law_770 : decode cL_law 770 = .ok (.goto 942, 3) := by decide +kernel
theorem dL_law_773 : decode cL_law 773 = .ok (.aload_n 1, 1) := by decide +kernel
theorem dL_law_774 : decode cL_law 774 = .ok (.aload_n 0, 1) := by decide +kernel
theorem dL_law_775 : decode cL_law 775 = .ok (.iload 5, 2) := by decide +kernel
theorem dL_law_777 : decode cL_law 777 = .ok (.iconst 1, 1) := by decide +kernel
theorem dL_law_778 : decode cL_law 778 = .ok (.iadd, 1) := by decide +kernel
theorem dL_law_779 : decode cL_law 779 = .ok (.iaload, 1) := by decide +kernel
theorem dL_law_780 : decode cL_law 780 = .ok (.aload_n 0, 1) := by decide +kernel
theorem dL_law_781 : decode cL_law 781 = .ok (.iload 5, 2) := by decide +kernel
theorem dL_law_783 : decode cL_law 783 = .ok (.iconst 2, 1) := by decide +kernel
theorem dL_law_784 : decode cL_law 784 = .ok (.iadd, 1) := by decide +kernel
theorem dL_law_785 : decode cL_law 785 = .ok (.iaload, 1) := by decide +kernel
theorem dL_law_786 : decode cL_law 786 = .ok (.aload_n 0, 1) := by decide +kernel
theorem dL_law_787 : decode cL_law 787 = .ok (.iload 5, 2) := by decide +kernel
theorem dL_law_789 : decode cL_law 789 = .ok (.iconst 3, 1) := by decide +kernel
theorem dL_law_790 : decode cL_law 790 = .ok (.iadd, 1) := by decide +kernel
theorem dL_law_791 : decode cL_law 791 = .ok (.iaload, 1) := by decide +kernel
theorem dL_law_792 : decode cL_law 792 = .ok (.aload_n 3, 1) := by decide +kernel
theorem dL_law_793 : decode cL_law 793 = .ok (.invokestatic 145, 3) := by decide +kernel
theorem dL_law_796 : decode cL_law 796 = .ok (.istore 6, 2) := by decide +kernel
theorem dL_law_798 : decode cL_law 798 = .ok (.aload_n 2, 1) := by decide +kernel
theorem dL_law_799 : decode cL_law 799 = .ok (.aload_n 0, 1) := by decide +kernel
theorem dL_law_800 : decode cL_law 800 = .ok (.iload 5, 2) := by decide +kernel
theorem dL_law_802 : decode cL_law 802 = .ok (.iconst 1, 1) := by decide +kernel
theorem dL_law_803 : decode cL_law 803 = .ok (.iadd, 1) := by decide +kernel
theorem dL_law_804 : decode cL_law 804 = .ok (.iaload, 1) := by decide +kernel
theorem dL_law_805 : decode cL_law 805 = .ok (.aload_n 0, 1) := by decide +kernel
theorem dL_law_806 : decode cL_law 806 = .ok (.iload 5, 2) := by decide +kernel
theorem dL_law_808 : decode cL_law 808 = .ok (.iconst 2, 1) := by decide +kernel
theorem dL_law_809 : decode cL_law 809 = .ok (.iadd, 1) := by decide +kernel
theorem dL_law_810 : decode cL_law 810 = .ok (.iaload, 1) := by decide +kernel
theorem dL_law_811 : decode cL_law 811 = .ok (.aload_n 0, 1) := by decide +kernel
theorem dL_law_812 : decode cL_law 812 = .ok (.iload 5, 2) := by decide +kernel
theorem dL_law_814 : decode cL_law 814 = .ok (.iconst 3, 1) := by decide +kernel
theorem dL_law_815 : decode cL_law 815 = .ok (.iadd, 1) := by decide +kernel
theorem dL_law_816 : decode cL_law 816 = .ok (.iaload, 1) := by decide +kernel
theorem dL_law_817 : decode cL_law 817 = .ok (.invokevirtual 147, 3) := by decide +kernel
theorem dL_law_820 : decode cL_law 820 = .ok (.istore 7, 2) := by decide +kernel
theorem dL_law_822 : decode cL_law 822 = .ok (.aload_n 2, 1) := by decide +kernel
theorem dL_law_823 : decode cL_law 823 = .ok (.invokevirtual 111, 3) := by decide +kernel
theorem dL_law_826 : decode cL_law 826 = .ok (.iload 6, 2) := by decide +kernel
theorem dL_law_828 : decode cL_law 828 = .ok (.if_icmp .eq 5, 3) := by decide +kernel
theorem dL_law_831 : decode cL_law 831 = .ok (.iconst 0, 1) := by decide +kernel
theorem dL_law_832 : decode cL_law 832 = .ok (.ireturn, 1) := by decide +kernel
theorem dL_law_833 : decode cL_law 833 = .ok (.iload 6, 2) := by decide +kernel
theorem dL_law_835 : decode cL_law 835 = .ok (.ifCond .ne 15, 3) := by decide +kernel
theorem dL_law_838 : decode cL_law 838 = .ok (.aload_n 3, 1) := by decide +kernel
theorem dL_law_839 : decode cL_law 839 = .ok (.iconst 0, 1) := by decide +kernel
theorem dL_law_840 : decode cL_law 840 = .ok (.laload, 1) := by decide +kernel
theorem dL_law_841 : decode cL_law 841 = .ok (.iload 7, 2) := by decide +kernel
theorem dL_law_843 : decode cL_law 843 = .ok (.i2l, 1) := by decide +kernel
theorem dL_law_844 : decode cL_law 844 = .ok (.lcmp, 1) := by decide +kernel
theorem dL_law_845 : decode cL_law 845 = .ok (.ifCond .eq 5, 3) := by decide +kernel
theorem dL_law_848 : decode cL_law 848 = .ok (.iconst 0, 1) := by decide +kernel
theorem dL_law_849 : decode cL_law 849 = .ok (.ireturn, 1) := by decide +kernel
theorem dL_law_850 : decode cL_law 850 = .ok (.goto 862, 3) := by decide +kernel
theorem dL_law_853 : decode cL_law 853 = .ok (.aload_n 1, 1) := by decide +kernel
theorem dL_law_854 : decode cL_law 854 = .ok (.aload_n 0, 1) := by decide +kernel
theorem dL_law_855 : decode cL_law 855 = .ok (.iload 5, 2) := by decide +kernel
theorem dL_law_857 : decode cL_law 857 = .ok (.iconst 1, 1) := by decide +kernel
theorem dL_law_858 : decode cL_law 858 = .ok (.iadd, 1) := by decide +kernel
theorem dL_law_859 : decode cL_law 859 = .ok (.iaload, 1) := by decide +kernel
theorem dL_law_860 : decode cL_law 860 = .ok (.aload_n 0, 1) := by decide +kernel
theorem dL_law_861 : decode cL_law 861 = .ok (.iload 5, 2) := by decide +kernel
theorem dL_law_863 : decode cL_law 863 = .ok (.iconst 2, 1) := by decide +kernel
theorem dL_law_864 : decode cL_law 864 = .ok (.iadd, 1) := by decide +kernel
theorem dL_law_865 : decode cL_law 865 = .ok (.iaload, 1) := by decide +kernel
theorem dL_law_866 : decode cL_law 866 = .ok (.aload_n 3, 1) := by decide +kernel
theorem dL_law_867 : decode cL_law 867 = .ok (.invokestatic 148, 3) := by decide +kernel
theorem dL_law_870 : decode cL_law 870 = .ok (.istore 6, 2) := by decide +kernel
theorem dL_law_872 : decode cL_law 872 = .ok (.aload_n 2, 1) := by decide +kernel
theorem dL_law_873 : decode cL_law 873 = .ok (.aload_n 0, 1) := by decide +kernel
theorem dL_law_874 : decode cL_law 874 = .ok (.iload 5, 2) := by decide +kernel
theorem dL_law_876 : decode cL_law 876 = .ok (.iconst 1, 1) := by decide +kernel
theorem dL_law_877 : decode cL_law 877 = .ok (.iadd, 1) := by decide +kernel
theorem dL_law_878 : decode cL_law 878 = .ok (.iaload, 1) := by decide +kernel
theorem dL_law_879 : decode cL_law 879 = .ok (.aload_n 0, 1) := by decide +kernel
theorem dL_law_880 : decode cL_law 880 = .ok (.iload 5, 2) := by decide +kernel
theorem dL_law_882 : decode cL_law 882 = .ok (.iconst 2, 1) := by decide +kernel
theorem dL_law_883 : decode cL_law 883 = .ok (.iadd, 1) := by decide +kernel
theorem dL_law_884 : decode cL_law 884 = .ok (.iaload, 1) := by decide +kernel
theorem dL_law_885 : decode cL_law 885 = .ok (.invokevirtual 150, 3) := by decide +kernel
theorem dL_law_888 : decode cL_law 888 = .ok (.istore 7, 2) := by decide +kernel
theorem dL_law_890 : decode cL_law 890 = .ok (.aload_n 2, 1) := by decide +kernel
theorem dL_law_891 : decode cL_law 891 = .ok (.invokevirtual 111, 3) := by decide +kernel
theorem dL_law_894 : decode cL_law 894 = .ok (.iload 6, 2) := by decide +kernel
theorem dL_law_896 : decode cL_law 896 = .ok (.if_icmp .eq 5, 3) := by decide +kernel
theorem dL_law_899 : decode cL_law 899 = .ok (.iconst 0, 1) := by decide +kernel
theorem dL_law_900 : decode cL_law 900 = .ok (.ireturn, 1) := by decide +kernel
theorem dL_law_901 : decode cL_law 901 = .ok (.iload 6, 2) := by decide +kernel
theorem dL_law_903 : decode cL_law 903 = .ok (.ifCond .ne 15, 3) := by decide +kernel
theorem dL_law_906 : decode cL_law 906 = .ok (.aload_n 3, 1) := by decide +kernel
theorem dL_law_907 : decode cL_law 907 = .ok (.iconst 0, 1) := by decide +kernel
theorem dL_law_908 : decode cL_law 908 = .ok (.laload, 1) := by decide +kernel
theorem dL_law_909 : decode cL_law 909 = .ok (.iload 7, 2) := by decide +kernel
theorem dL_law_911 : decode cL_law 911 = .ok (.i2l, 1) := by decide +kernel
theorem dL_law_912 : decode cL_law 912 = .ok (.lcmp, 1) := by decide +kernel
theorem dL_law_913 : decode cL_law 913 = .ok (.ifCond .eq 5, 3) := by decide +kernel
theorem dL_law_916 : decode cL_law 916 = .ok (.iconst 0, 1) := by decide +kernel
theorem dL_law_917 : decode cL_law 917 = .ok (.ireturn, 1) := by decide +kernel
theorem dL_law_918 : decode cL_law 918 = .ok (.goto 794, 3) := by decide +kernel
theorem dL_law_921 : decode cL_law 921 = .ok (.aload_n 1, 1) := by decide +kernel
theorem dL_law_922 : decode cL_law 922 = .ok (.aload_n 0, 1) := by decide +kernel
theorem dL_law_923 : decode cL_law 923 = .ok (.iload 5, 2) := by decide +kernel
theorem dL_law_925 : decode cL_law 925 = .ok (.iconst 1, 1) := by decide +kernel
theorem dL_law_926 : decode cL_law 926 = .ok (.iadd, 1) := by decide +kernel
theorem dL_law_927 : decode cL_law 927 = .ok (.iaload, 1) := by decide +kernel
theorem dL_law_928 : decode cL_law 928 = .ok (.aload_n 3, 1) := by decide +kernel
theorem dL_law_929 : decode cL_law 929 = .ok (.invokestatic 151, 3) := by decide +kernel
theorem dL_law_932 : decode cL_law 932 = .ok (.istore 6, 2) := by decide +kernel
theorem dL_law_934 : decode cL_law 934 = .ok (.aload_n 2, 1) := by decide +kernel
theorem dL_law_935 : decode cL_law 935 = .ok (.aload_n 0, 1) := by decide +kernel
theorem dL_law_936 : decode cL_law 936 = .ok (.iload 5, 2) := by decide +kernel
theorem dL_law_938 : decode cL_law 938 = .ok (.iconst 1, 1) := by decide +kernel
theorem dL_law_939 : decode cL_law 939 = .ok (.iadd, 1) := by decide +kernel
theorem dL_law_940 : decode cL_law 940 = .ok (.iaload, 1) := by decide +kernel
theorem dL_law_941 : decode cL_law 941 = .ok (.invokevirtual 153, 3) := by decide +kernel
theorem dL_law_944 : decode cL_law 944 = .ok (.istore 7, 2) := by decide +kernel
theorem dL_law_946 : decode cL_law 946 = .ok (.aload_n 2, 1) := by decide +kernel
theorem dL_law_947 : decode cL_law 947 = .ok (.invokevirtual 111, 3) := by decide +kernel
theorem dL_law_950 : decode cL_law 950 = .ok (.iload 6, 2) := by decide +kernel
theorem dL_law_952 : decode cL_law 952 = .ok (.if_icmp .eq 5, 3) := by decide +kernel
theorem dL_law_955 : decode cL_law 955 = .ok (.iconst 0, 1) := by decide +kernel
theorem dL_law_956 : decode cL_law 956 = .ok (.ireturn, 1) := by decide +kernel
theorem dL_law_957 : decode cL_law 957 = .ok (.iload 6, 2) := by decide +kernel
theorem dL_law_959 : decode cL_law 959 = .ok (.ifCond .ne 15, 3) := by decide +kernel
theorem dL_law_962 : decode cL_law 962 = .ok (.aload_n 3, 1) := by decide +kernel
theorem dL_law_963 : decode cL_law 963 = .ok (.iconst 0, 1) := by decide +kernel
theorem dL_law_964 : decode cL_law 964 = .ok (.laload, 1) := by decide +kernel
theorem dL_law_965 : decode cL_law 965 = .ok (.iload 7, 2) := by decide +kernel
theorem dL_law_967 : decode cL_law 967 = .ok (.i2l, 1) := by decide +kernel
theorem dL_law_968 : decode cL_law 968 = .ok (.lcmp, 1) := by decide +kernel
theorem dL_law_969 : decode cL_law 969 = .ok (.ifCond .eq 5, 3) := by decide +kernel
theorem dL_law_972 : decode cL_law 972 = .ok (.iconst 0, 1) := by decide +kernel
theorem dL_law_973 : decode cL_law 973 = .ok (.ireturn, 1) := by decide +kernel
theorem dL_law_974 : decode cL_law 974 = .ok (.goto 738, 3) := by decide +kernel
theorem dL_law_977 : decode cL_law 977 = .ok (.aload_n 1, 1) := by decide +kernel
theorem dL_law_978 : decode cL_law 978 = .ok (.aload_n 0, 1) := by decide +kernel
theorem dL_law_979 : decode cL_law 979 = .ok (.iload 5, 2) := by decide +kernel
theorem dL_law_981 : decode cL_law 981 = .ok (.iconst 1, 1) := by decide +kernel
theorem dL_law_982 : decode cL_law 982 = .ok (.iadd, 1) := by decide +kernel
theorem dL_law_983 : decode cL_law 983 = .ok (.iaload, 1) := by decide +kernel
theorem dL_law_984 : decode cL_law 984 = .ok (.aload_n 3, 1) := by decide +kernel
theorem dL_law_985 : decode cL_law 985 = .ok (.invokestatic 154, 3) := by decide +kernel
theorem dL_law_988 : decode cL_law 988 = .ok (.istore 6, 2) := by decide +kernel
theorem dL_law_990 : decode cL_law 990 = .ok (.aload_n 2, 1) := by decide +kernel
theorem dL_law_991 : decode cL_law 991 = .ok (.aload_n 0, 1) := by decide +kernel
theorem dL_law_992 : decode cL_law 992 = .ok (.iload 5, 2) := by decide +kernel
theorem dL_law_994 : decode cL_law 994 = .ok (.iconst 1, 1) := by decide +kernel
theorem dL_law_995 : decode cL_law 995 = .ok (.iadd, 1) := by decide +kernel
theorem dL_law_996 : decode cL_law 996 = .ok (.iaload, 1) := by decide +kernel
theorem dL_law_997 : decode cL_law 997 = .ok (.invokevirtual 156, 3) := by decide +kernel
theorem dL_law_1000 : decode cL_law 1000 = .ok (.istore 7, 2) := by decide +kernel
theorem dL_law_1002 : decode cL_law 1002 = .ok (.aload_n 2, 1) := by decide +kernel
theorem dL_law_1003 : decode cL_law 1003 = .ok (.invokevirtual 111, 3) := by decide +kernel
theorem dL_law_1006 : decode cL_law 1006 = .ok (.iload 6, 2) := by decide +kernel
theorem dL_law_1008 : decode cL_law 1008 = .ok (.if_icmp .eq 5, 3) := by decide +kernel
theorem dL_law_1011 : decode cL_law 1011 = .ok (.iconst 0, 1) := by decide +kernel
theorem dL_law_1012 : decode cL_law 1012 = .ok (.ireturn, 1) := by decide +kernel
theorem dL_law_1013 : decode cL_law 1013 = .ok (.iload 6, 2) := by decide +kernel
theorem dL_law_1015 : decode cL_law 1015 = .ok (.ifCond .ne 15, 3) := by decide +kernel
theorem dL_law_1018 : decode cL_law 1018 = .ok (.aload_n 3, 1) := by decide +kernel
theorem dL_law_1019 : decode cL_law 1019 = .ok (.iconst 0, 1) := by decide +kernel
theorem dL_law_1020 : decode cL_law 1020 = .ok (.laload, 1) := by decide +kernel
theorem dL_law_1021 : decode cL_law 1021 = .ok (.iload 7, 2) := by decide +kernel
theorem dL_law_1023 : decode cL_law 1023 = .ok (.i2l, 1) := by decide +kernel
theorem dL_law_1024 : decode cL_law 1024 = .ok (.lcmp, 1) := by decide +kernel
theorem dL_law_1025 : decode cL_law 1025 = .ok (.ifCond .eq 5, 3) := by decide +kernel
theorem dL_law_1028 : decode cL_law 1028 = .ok (.iconst 0, 1) := by decide +kernel
theorem dL_law_1029 : decode cL_law 1029 = .ok (.ireturn, 1) := by decide +kernel
theorem dL_law_1030 : decode cL_law 1030 = .ok (.goto 682, 3) := by decide +kernel
theorem dL_law_1033 : decode cL_law 1033 = .ok (.aload_n 1, 1) := by decide +kernel
theorem dL_law_1034 : decode cL_law 1034 = .ok (.aload_n 0, 1) := by decide +kernel
theorem dL_law_1035 : decode cL_law 1035 = .ok (.iload 5, 2) := by decide +kernel
theorem dL_law_1037 : decode cL_law 1037 = .ok (.iconst 1, 1) := by decide +kernel
theorem dL_law_1038 : decode cL_law 1038 = .ok (.iadd, 1) := by decide +kernel
theorem dL_law_1039 : decode cL_law 1039 = .ok (.iaload, 1) := by decide +kernel
theorem dL_law_1040 : decode cL_law 1040 = .ok (.aload_n 0, 1) := by decide +kernel
theorem dL_law_1041 : decode cL_law 1041 = .ok (.iload 5, 2) := by decide +kernel
theorem dL_law_1043 : decode cL_law 1043 = .ok (.iconst 2, 1) := by decide +kernel
theorem dL_law_1044 : decode cL_law 1044 = .ok (.iadd, 1) := by decide +kernel
theorem dL_law_1045 : decode cL_law 1045 = .ok (.iaload, 1) := by decide +kernel
theorem dL_law_1046 : decode cL_law 1046 = .ok (.aload_n 3, 1) := by decide +kernel
theorem dL_law_1047 : decode cL_law 1047 = .ok (.invokestatic 157, 3) := by decide +kernel
theorem dL_law_1050 : decode cL_law 1050 = .ok (.istore 6, 2) := by decide +kernel
theorem dL_law_1052 : decode cL_law 1052 = .ok (.aload_n 2, 1) := by decide +kernel
theorem dL_law_1053 : decode cL_law 1053 = .ok (.aload_n 0, 1) := by decide +kernel
theorem dL_law_1054 : decode cL_law 1054 = .ok (.iload 5, 2) := by decide +kernel
theorem dL_law_1056 : decode cL_law 1056 = .ok (.iconst 1, 1) := by decide +kernel
theorem dL_law_1057 : decode cL_law 1057 = .ok (.iadd, 1) := by decide +kernel
theorem dL_law_1058 : decode cL_law 1058 = .ok (.iaload, 1) := by decide +kernel
theorem dL_law_1059 : decode cL_law 1059 = .ok (.aload_n 0, 1) := by decide +kernel
theorem dL_law_1060 : decode cL_law 1060 = .ok (.iload 5, 2) := by decide +kernel
theorem dL_law_1062 : decode cL_law 1062 = .ok (.iconst 2, 1) := by decide +kernel
theorem dL_law_1063 : decode cL_law 1063 = .ok (.iadd, 1) := by decide +kernel
theorem dL_law_1064 : decode cL_law 1064 = .ok (.iaload, 1) := by decide +kernel
theorem dL_law_1065 : decode cL_law 1065 = .ok (.invokevirtual 159, 3) := by decide +kernel
theorem dL_law_1068 : decode cL_law 1068 = .ok (.istore 7, 2) := by decide +kernel
theorem dL_law_1070 : decode cL_law 1070 = .ok (.aload_n 2, 1) := by decide +kernel
theorem dL_law_1071 : decode cL_law 1071 = .ok (.invokevirtual 111, 3) := by decide +kernel
theorem dL_law_1074 : decode cL_law 1074 = .ok (.iload 6, 2) := by decide +kernel
theorem dL_law_1076 : decode cL_law 1076 = .ok (.if_icmp .eq 5, 3) := by decide +kernel
theorem dL_law_1079 : decode cL_law 1079 = .ok (.iconst 0, 1) := by decide +kernel
theorem dL_law_1080 : decode cL_law 1080 = .ok (.ireturn, 1) := by decide +kernel
theorem dL_law_1081 : decode cL_law 1081 = .ok (.iload 6, 2) := by decide +kernel
theorem dL_law_1083 : decode cL_law 1083 = .ok (.ifCond .ne 15, 3) := by decide +kernel
theorem dL_law_1086 : decode cL_law 1086 = .ok (.aload_n 3, 1) := by decide +kernel
theorem dL_law_1087 : decode cL_law 1087 = .ok (.iconst 0, 1) := by decide +kernel
theorem dL_law_1088 : decode cL_law 1088 = .ok (.laload, 1) := by decide +kernel
theorem dL_law_1089 : decode cL_law 1089 = .ok (.iload 7, 2) := by decide +kernel
theorem dL_law_1091 : decode cL_law 1091 = .ok (.i2l, 1) := by decide +kernel
theorem dL_law_1092 : decode cL_law 1092 = .ok (.lcmp, 1) := by decide +kernel
theorem dL_law_1093 : decode cL_law 1093 = .ok (.ifCond .eq 5, 3) := by decide +kernel
theorem dL_law_1096 : decode cL_law 1096 = .ok (.iconst 0, 1) := by decide +kernel
theorem dL_law_1097 : decode cL_law 1097 = .ok (.ireturn, 1) := by decide +kernel
theorem dL_law_1098 : decode cL_law 1098 = .ok (.goto 614, 3) := by decide +kernel
theorem dL_law_1101 : decode cL_law 1101 = .ok (.aload_n 1, 1) := by decide +kernel
theorem dL_law_1102 : decode cL_law 1102 = .ok (.invokevirtual 160, 3) := by decide +kernel
theorem dL_law_1105 : decode cL_law 1105 = .ok (.aload_n 2, 1) := by decide +kernel
theorem dL_law_1106 : decode cL_law 1106 = .ok (.invokevirtual 163, 3) := by decide +kernel
theorem dL_law_1109 : decode cL_law 1109 = .ok (.if_icmp .eq 603, 3) := by decide +kernel
theorem dL_law_1112 : decode cL_law 1112 = .ok (.iconst 0, 1) := by decide +kernel
theorem dL_law_1113 : decode cL_law 1113 = .ok (.ireturn, 1) := by decide +kernel
theorem dL_law_1114 : decode cL_law 1114 = .ok (.aload_n 1, 1) := by decide +kernel
theorem dL_law_1115 : decode cL_law 1115 = .ok (.aload_n 0, 1) := by decide +kernel
theorem dL_law_1116 : decode cL_law 1116 = .ok (.iload 5, 2) := by decide +kernel
theorem dL_law_1118 : decode cL_law 1118 = .ok (.iconst 1, 1) := by decide +kernel
theorem dL_law_1119 : decode cL_law 1119 = .ok (.iadd, 1) := by decide +kernel
theorem dL_law_1120 : decode cL_law 1120 = .ok (.iaload, 1) := by decide +kernel
theorem dL_law_1121 : decode cL_law 1121 = .ok (.aload_n 3, 1) := by decide +kernel
theorem dL_law_1122 : decode cL_law 1122 = .ok (.invokestatic 164, 3) := by decide +kernel
theorem dL_law_1125 : decode cL_law 1125 = .ok (.istore 6, 2) := by decide +kernel
theorem dL_law_1127 : decode cL_law 1127 = .ok (.aload_n 2, 1) := by decide +kernel
theorem dL_law_1128 : decode cL_law 1128 = .ok (.aload_n 0, 1) := by decide +kernel
theorem dL_law_1129 : decode cL_law 1129 = .ok (.iload 5, 2) := by decide +kernel
theorem dL_law_1131 : decode cL_law 1131 = .ok (.iconst 1, 1) := by decide +kernel
theorem dL_law_1132 : decode cL_law 1132 = .ok (.iadd, 1) := by decide +kernel
theorem dL_law_1133 : decode cL_law 1133 = .ok (.iaload, 1) := by decide +kernel
theorem dL_law_1134 : decode cL_law 1134 = .ok (.invokevirtual 166, 3) := by decide +kernel
theorem dL_law_1137 : decode cL_law 1137 = .ok (.istore 7, 2) := by decide +kernel
theorem dL_law_1139 : decode cL_law 1139 = .ok (.aload_n 2, 1) := by decide +kernel
theorem dL_law_1140 : decode cL_law 1140 = .ok (.invokevirtual 111, 3) := by decide +kernel
theorem dL_law_1143 : decode cL_law 1143 = .ok (.iload 6, 2) := by decide +kernel
theorem dL_law_1145 : decode cL_law 1145 = .ok (.if_icmp .eq 5, 3) := by decide +kernel
theorem dL_law_1148 : decode cL_law 1148 = .ok (.iconst 0, 1) := by decide +kernel
theorem dL_law_1149 : decode cL_law 1149 = .ok (.ireturn, 1) := by decide +kernel
theorem dL_law_1150 : decode cL_law 1150 = .ok (.iload 6, 2) := by decide +kernel
theorem dL_law_1152 : decode cL_law 1152 = .ok (.ifCond .ne 15, 3) := by decide +kernel
theorem dL_law_1155 : decode cL_law 1155 = .ok (.aload_n 3, 1) := by decide +kernel
theorem dL_law_1156 : decode cL_law 1156 = .ok (.iconst 0, 1) := by decide +kernel
theorem dL_law_1157 : decode cL_law 1157 = .ok (.laload, 1) := by decide +kernel
theorem dL_law_1158 : decode cL_law 1158 = .ok (.iload 7, 2) := by decide +kernel
theorem dL_law_1160 : decode cL_law 1160 = .ok (.i2l, 1) := by decide +kernel
theorem dL_law_1161 : decode cL_law 1161 = .ok (.lcmp, 1) := by decide +kernel
theorem dL_law_1162 : decode cL_law 1162 = .ok (.ifCond .eq 5, 3) := by decide +kernel
theorem dL_law_1165 : decode cL_law 1165 = .ok (.iconst 0, 1) := by decide +kernel
theorem dL_law_1166 : decode cL_law 1166 = .ok (.ireturn, 1) := by decide +kernel
theorem dL_law_1167 : decode cL_law 1167 = .ok (.goto 545, 3) := by decide +kernel
theorem dL_law_1170 : decode cL_law 1170 = .ok (.aload_n 1, 1) := by decide +kernel
theorem dL_law_1171 : decode cL_law 1171 = .ok (.aload_n 0, 1) := by decide +kernel
theorem dL_law_1172 : decode cL_law 1172 = .ok (.iload 5, 2) := by decide +kernel
theorem dL_law_1174 : decode cL_law 1174 = .ok (.iconst 1, 1) := by decide +kernel
theorem dL_law_1175 : decode cL_law 1175 = .ok (.iadd, 1) := by decide +kernel
theorem dL_law_1176 : decode cL_law 1176 = .ok (.iaload, 1) := by decide +kernel
theorem dL_law_1177 : decode cL_law 1177 = .ok (.aload_n 0, 1) := by decide +kernel
theorem dL_law_1178 : decode cL_law 1178 = .ok (.iload 5, 2) := by decide +kernel
theorem dL_law_1180 : decode cL_law 1180 = .ok (.iconst 2, 1) := by decide +kernel
theorem dL_law_1181 : decode cL_law 1181 = .ok (.iadd, 1) := by decide +kernel
theorem dL_law_1182 : decode cL_law 1182 = .ok (.iaload, 1) := by decide +kernel
theorem dL_law_1183 : decode cL_law 1183 = .ok (.aload_n 3, 1) := by decide +kernel
theorem dL_law_1184 : decode cL_law 1184 = .ok (.invokestatic 167, 3) := by decide +kernel
theorem dL_law_1187 : decode cL_law 1187 = .ok (.istore 6, 2) := by decide +kernel
theorem dL_law_1189 : decode cL_law 1189 = .ok (.aload_n 2, 1) := by decide +kernel
theorem dL_law_1190 : decode cL_law 1190 = .ok (.aload_n 0, 1) := by decide +kernel
theorem dL_law_1191 : decode cL_law 1191 = .ok (.iload 5, 2) := by decide +kernel
theorem dL_law_1193 : decode cL_law 1193 = .ok (.iconst 1, 1) := by decide +kernel
theorem dL_law_1194 : decode cL_law 1194 = .ok (.iadd, 1) := by decide +kernel
theorem dL_law_1195 : decode cL_law 1195 = .ok (.iaload, 1) := by decide +kernel
theorem dL_law_1196 : decode cL_law 1196 = .ok (.aload_n 0, 1) := by decide +kernel
theorem dL_law_1197 : decode cL_law 1197 = .ok (.iload 5, 2) := by decide +kernel
theorem dL_law_1199 : decode cL_law 1199 = .ok (.iconst 2, 1) := by decide +kernel
theorem dL_law_1200 : decode cL_law 1200 = .ok (.iadd, 1) := by decide +kernel
theorem dL_law_1201 : decode cL_law 1201 = .ok (.iaload, 1) := by decide +kernel
theorem dL_law_1202 : decode cL_law 1202 = .ok (.invokevirtual 169, 3) := by decide +kernel
theorem dL_law_1205 : decode cL_law 1205 = .ok (.istore 7, 2) := by decide +kernel
theorem dL_law_1207 : decode cL_law 1207 = .ok (.aload_n 2, 1) := by decide +kernel
theorem dL_law_1208 : decode cL_law 1208 = .ok (.invokevirtual 111, 3) := by decide +kernel
theorem dL_law_1211 : decode cL_law 1211 = .ok (.iload 6, 2) := by decide +kernel
theorem dL_law_1213 : decode cL_law 1213 = .ok (.if_icmp .eq 5, 3) := by decide +kernel
theorem dL_law_1216 : decode cL_law 1216 = .ok (.iconst 0, 1) := by decide +kernel
theorem dL_law_1217 : decode cL_law 1217 = .ok (.ireturn, 1) := by decide +kernel
theorem dL_law_1218 : decode cL_law 1218 = .ok (.iload 6, 2) := by decide +kernel
theorem dL_law_1220 : decode cL_law 1220 = .ok (.ifCond .ne 15, 3) := by decide +kernel
theorem dL_law_1223 : decode cL_law 1223 = .ok (.aload_n 3, 1) := by decide +kernel
theorem dL_law_1224 : decode cL_law 1224 = .ok (.iconst 0, 1) := by decide +kernel
theorem dL_law_1225 : decode cL_law 1225 = .ok (.laload, 1) := by decide +kernel
theorem dL_law_1226 : decode cL_law 1226 = .ok (.iload 7, 2) := by decide +kernel
theorem dL_law_1228 : decode cL_law 1228 = .ok (.i2l, 1) := by decide +kernel
theorem dL_law_1229 : decode cL_law 1229 = .ok (.lcmp, 1) := by decide +kernel
theorem dL_law_1230 : decode cL_law 1230 = .ok (.ifCond .eq 5, 3) := by decide +kernel
theorem dL_law_1233 : decode cL_law 1233 = .ok (.iconst 0, 1) := by decide +kernel
theorem dL_law_1234 : decode cL_law 1234 = .ok (.ireturn, 1) := by decide +kernel
theorem dL_law_1235 : decode cL_law 1235 = .ok (.goto 477, 3) := by decide +kernel
theorem dL_law_1238 : decode cL_law 1238 = .ok (.aload_n 1, 1) := by decide +kernel
theorem dL_law_1239 : decode cL_law 1239 = .ok (.aload_n 0, 1) := by decide +kernel
theorem dL_law_1240 : decode cL_law 1240 = .ok (.iload 5, 2) := by decide +kernel
theorem dL_law_1242 : decode cL_law 1242 = .ok (.iconst 1, 1) := by decide +kernel
theorem dL_law_1243 : decode cL_law 1243 = .ok (.iadd, 1) := by decide +kernel
theorem dL_law_1244 : decode cL_law 1244 = .ok (.iaload, 1) := by decide +kernel
theorem dL_law_1245 : decode cL_law 1245 = .ok (.aload_n 0, 1) := by decide +kernel
theorem dL_law_1246 : decode cL_law 1246 = .ok (.iload 5, 2) := by decide +kernel
theorem dL_law_1248 : decode cL_law 1248 = .ok (.iconst 2, 1) := by decide +kernel
theorem dL_law_1249 : decode cL_law 1249 = .ok (.iadd, 1) := by decide +kernel
theorem dL_law_1250 : decode cL_law 1250 = .ok (.iaload, 1) := by decide +kernel
theorem dL_law_1251 : decode cL_law 1251 = .ok (.aload_n 3, 1) := by decide +kernel
theorem dL_law_1252 : decode cL_law 1252 = .ok (.invokestatic 170, 3) := by decide +kernel
theorem dL_law_1255 : decode cL_law 1255 = .ok (.istore 6, 2) := by decide +kernel
theorem dL_law_1257 : decode cL_law 1257 = .ok (.aload_n 2, 1) := by decide +kernel
theorem dL_law_1258 : decode cL_law 1258 = .ok (.aload_n 0, 1) := by decide +kernel
theorem dL_law_1259 : decode cL_law 1259 = .ok (.iload 5, 2) := by decide +kernel
theorem dL_law_1261 : decode cL_law 1261 = .ok (.iconst 1, 1) := by decide +kernel
theorem dL_law_1262 : decode cL_law 1262 = .ok (.iadd, 1) := by decide +kernel
theorem dL_law_1263 : decode cL_law 1263 = .ok (.iaload, 1) := by decide +kernel
theorem dL_law_1264 : decode cL_law 1264 = .ok (.aload_n 0, 1) := by decide +kernel
theorem dL_law_1265 : decode cL_law 1265 = .ok (.iload 5, 2) := by decide +kernel
theorem dL_law_1267 : decode cL_law 1267 = .ok (.iconst 2, 1) := by decide +kernel
theorem dL_law_1268 : decode cL_law 1268 = .ok (.iadd, 1) := by decide +kernel
theorem dL_law_1269 : decode cL_law 1269 = .ok (.iaload, 1) := by decide +kernel
theorem dL_law_1270 : decode cL_law 1270 = .ok (.invokevirtual 172, 3) := by decide +kernel
theorem dL_law_1273 : decode cL_law 1273 = .ok (.istore 7, 2) := by decide +kernel
theorem dL_law_1275 : decode cL_law 1275 = .ok (.aload_n 2, 1) := by decide +kernel
theorem dL_law_1276 : decode cL_law 1276 = .ok (.invokevirtual 111, 3) := by decide +kernel
theorem dL_law_1279 : decode cL_law 1279 = .ok (.iload 6, 2) := by decide +kernel
theorem dL_law_1281 : decode cL_law 1281 = .ok (.if_icmp .eq 5, 3) := by decide +kernel
theorem dL_law_1284 : decode cL_law 1284 = .ok (.iconst 0, 1) := by decide +kernel
theorem dL_law_1285 : decode cL_law 1285 = .ok (.ireturn, 1) := by decide +kernel
theorem dL_law_1286 : decode cL_law 1286 = .ok (.iload 6, 2) := by decide +kernel
theorem dL_law_1288 : decode cL_law 1288 = .ok (.ifCond .ne 15, 3) := by decide +kernel
theorem dL_law_1291 : decode cL_law 1291 = .ok (.aload_n 3, 1) := by decide +kernel
theorem dL_law_1292 : decode cL_law 1292 = .ok (.iconst 0, 1) := by decide +kernel
theorem dL_law_1293 : decode cL_law 1293 = .ok (.laload, 1) := by decide +kernel
theorem dL_law_1294 : decode cL_law 1294 = .ok (.iload 7, 2) := by decide +kernel
theorem dL_law_1296 : decode cL_law 1296 = .ok (.i2l, 1) := by decide +kernel
theorem dL_law_1297 : decode cL_law 1297 = .ok (.lcmp, 1) := by decide +kernel
theorem dL_law_1298 : decode cL_law 1298 = .ok (.ifCond .eq 5, 3) := by decide +kernel
theorem dL_law_1301 : decode cL_law 1301 = .ok (.iconst 0, 1) := by decide +kernel
theorem dL_law_1302 : decode cL_law 1302 = .ok (.ireturn, 1) := by decide +kernel
theorem dL_law_1303 : decode cL_law 1303 = .ok (.goto 409, 3) := by decide +kernel
theorem dL_law_1306 : decode cL_law 1306 = .ok (.aload_n 1, 1) := by decide +kernel
theorem dL_law_1307 : decode cL_law 1307 = .ok (.invokevirtual 173, 3) := by decide +kernel
theorem dL_law_1310 : decode cL_law 1310 = .ok (.aload_n 2, 1) := by decide +kernel
theorem dL_law_1311 : decode cL_law 1311 = .ok (.invokevirtual 176, 3) := by decide +kernel
theorem dL_law_1314 : decode cL_law 1314 = .ok (.if_icmp .eq 398, 3) := by decide +kernel
theorem dL_law_1317 : decode cL_law 1317 = .ok (.iconst 0, 1) := by decide +kernel
theorem dL_law_1318 : decode cL_law 1318 = .ok (.ireturn, 1) := by decide +kernel
theorem dL_law_1319 : decode cL_law 1319 = .ok (.aload_n 1, 1) := by decide +kernel
theorem dL_law_1320 : decode cL_law 1320 = .ok (.aload_n 0, 1) := by decide +kernel
theorem dL_law_1321 : decode cL_law 1321 = .ok (.iload 5, 2) := by decide +kernel
theorem dL_law_1323 : decode cL_law 1323 = .ok (.iconst 1, 1) := by decide +kernel
theorem dL_law_1324 : decode cL_law 1324 = .ok (.iadd, 1) := by decide +kernel
theorem dL_law_1325 : decode cL_law 1325 = .ok (.iaload, 1) := by decide +kernel
theorem dL_law_1326 : decode cL_law 1326 = .ok (.aload_n 3, 1) := by decide +kernel
theorem dL_law_1327 : decode cL_law 1327 = .ok (.invokestatic 177, 3) := by decide +kernel
theorem dL_law_1330 : decode cL_law 1330 = .ok (.istore 6, 2) := by decide +kernel
theorem dL_law_1332 : decode cL_law 1332 = .ok (.aload_n 2, 1) := by decide +kernel
theorem dL_law_1333 : decode cL_law 1333 = .ok (.aload_n 0, 1) := by decide +kernel
theorem dL_law_1334 : decode cL_law 1334 = .ok (.iload 5, 2) := by decide +kernel
theorem dL_law_1336 : decode cL_law 1336 = .ok (.iconst 1, 1) := by decide +kernel
theorem dL_law_1337 : decode cL_law 1337 = .ok (.iadd, 1) := by decide +kernel
theorem dL_law_1338 : decode cL_law 1338 = .ok (.iaload, 1) := by decide +kernel
theorem dL_law_1339 : decode cL_law 1339 = .ok (.invokevirtual 179, 3) := by decide +kernel
theorem dL_law_1342 : decode cL_law 1342 = .ok (.istore 7, 2) := by decide +kernel
theorem dL_law_1344 : decode cL_law 1344 = .ok (.aload_n 2, 1) := by decide +kernel
theorem dL_law_1345 : decode cL_law 1345 = .ok (.invokevirtual 111, 3) := by decide +kernel
theorem dL_law_1348 : decode cL_law 1348 = .ok (.iload 6, 2) := by decide +kernel
theorem dL_law_1350 : decode cL_law 1350 = .ok (.if_icmp .eq 5, 3) := by decide +kernel
theorem dL_law_1353 : decode cL_law 1353 = .ok (.iconst 0, 1) := by decide +kernel
theorem dL_law_1354 : decode cL_law 1354 = .ok (.ireturn, 1) := by decide +kernel
theorem dL_law_1355 : decode cL_law 1355 = .ok (.iload 6, 2) := by decide +kernel
theorem dL_law_1357 : decode cL_law 1357 = .ok (.ifCond .ne 15, 3) := by decide +kernel
theorem dL_law_1360 : decode cL_law 1360 = .ok (.aload_n 3, 1) := by decide +kernel
theorem dL_law_1361 : decode cL_law 1361 = .ok (.iconst 0, 1) := by decide +kernel
theorem dL_law_1362 : decode cL_law 1362 = .ok (.laload, 1) := by decide +kernel
theorem dL_law_1363 : decode cL_law 1363 = .ok (.iload 7, 2) := by decide +kernel
theorem dL_law_1365 : decode cL_law 1365 = .ok (.i2l, 1) := by decide +kernel
theorem dL_law_1366 : decode cL_law 1366 = .ok (.lcmp, 1) := by decide +kernel
theorem dL_law_1367 : decode cL_law 1367 = .ok (.ifCond .eq 5, 3) := by decide +kernel
theorem dL_law_1370 : decode cL_law 1370 = .ok (.iconst 0, 1) := by decide +kernel
theorem dL_law_1371 : decode cL_law 1371 = .ok (.ireturn, 1) := by decide +kernel
theorem dL_law_1372 : decode cL_law 1372 = .ok (.goto 340, 3) := by decide +kernel
theorem dL_law_1375 : decode cL_law 1375 = .ok (.aload_n 1, 1) := by decide +kernel
theorem dL_law_1376 : decode cL_law 1376 = .ok (.aload_n 0, 1) := by decide +kernel
theorem dL_law_1377 : decode cL_law 1377 = .ok (.iload 5, 2) := by decide +kernel
theorem dL_law_1379 : decode cL_law 1379 = .ok (.iconst 1, 1) := by decide +kernel
theorem dL_law_1380 : decode cL_law 1380 = .ok (.iadd, 1) := by decide +kernel
theorem dL_law_1381 : decode cL_law 1381 = .ok (.iaload, 1) := by decide +kernel
theorem dL_law_1382 : decode cL_law 1382 = .ok (.aload_n 0, 1) := by decide +kernel
theorem dL_law_1383 : decode cL_law 1383 = .ok (.iload 5, 2) := by decide +kernel
theorem dL_law_1385 : decode cL_law 1385 = .ok (.iconst 2, 1) := by decide +kernel
theorem dL_law_1386 : decode cL_law 1386 = .ok (.iadd, 1) := by decide +kernel
theorem dL_law_1387 : decode cL_law 1387 = .ok (.iaload, 1) := by decide +kernel
theorem dL_law_1388 : decode cL_law 1388 = .ok (.aload_n 3, 1) := by decide +kernel
theorem dL_law_1389 : decode cL_law 1389 = .ok (.invokestatic 180, 3) := by decide +kernel
theorem dL_law_1392 : decode cL_law 1392 = .ok (.istore 6, 2) := by decide +kernel
theorem dL_law_1394 : decode cL_law 1394 = .ok (.aload_n 2, 1) := by decide +kernel
theorem dL_law_1395 : decode cL_law 1395 = .ok (.aload_n 0, 1) := by decide +kernel
theorem dL_law_1396 : decode cL_law 1396 = .ok (.iload 5, 2) := by decide +kernel
theorem dL_law_1398 : decode cL_law 1398 = .ok (.iconst 1, 1) := by decide +kernel
theorem dL_law_1399 : decode cL_law 1399 = .ok (.iadd, 1) := by decide +kernel
theorem dL_law_1400 : decode cL_law 1400 = .ok (.iaload, 1) := by decide +kernel
theorem dL_law_1401 : decode cL_law 1401 = .ok (.aload_n 0, 1) := by decide +kernel
theorem dL_law_1402 : decode cL_law 1402 = .ok (.iload 5, 2) := by decide +kernel
theorem dL_law_1404 : decode cL_law 1404 = .ok (.iconst 2, 1) := by decide +kernel
theorem dL_law_1405 : decode cL_law 1405 = .ok (.iadd, 1) := by decide +kernel
theorem dL_law_1406 : decode cL_law 1406 = .ok (.iaload, 1) := by decide +kernel
theorem dL_law_1407 : decode cL_law 1407 = .ok (.invokevirtual 182, 3) := by decide +kernel
theorem dL_law_1410 : decode cL_law 1410 = .ok (.istore 7, 2) := by decide +kernel
theorem dL_law_1412 : decode cL_law 1412 = .ok (.aload_n 2, 1) := by decide +kernel
theorem dL_law_1413 : decode cL_law 1413 = .ok (.invokevirtual 111, 3) := by decide +kernel
theorem dL_law_1416 : decode cL_law 1416 = .ok (.iload 6, 2) := by decide +kernel
theorem dL_law_1418 : decode cL_law 1418 = .ok (.if_icmp .eq 5, 3) := by decide +kernel
theorem dL_law_1421 : decode cL_law 1421 = .ok (.iconst 0, 1) := by decide +kernel
theorem dL_law_1422 : decode cL_law 1422 = .ok (.ireturn, 1) := by decide +kernel
theorem dL_law_1423 : decode cL_law 1423 = .ok (.iload 6, 2) := by decide +kernel
theorem dL_law_1425 : decode cL_law 1425 = .ok (.ifCond .ne 15, 3) := by decide +kernel
theorem dL_law_1428 : decode cL_law 1428 = .ok (.aload_n 3, 1) := by decide +kernel
theorem dL_law_1429 : decode cL_law 1429 = .ok (.iconst 0, 1) := by decide +kernel
theorem dL_law_1430 : decode cL_law 1430 = .ok (.laload, 1) := by decide +kernel
theorem dL_law_1431 : decode cL_law 1431 = .ok (.iload 7, 2) := by decide +kernel
theorem dL_law_1433 : decode cL_law 1433 = .ok (.i2l, 1) := by decide +kernel
theorem dL_law_1434 : decode cL_law 1434 = .ok (.lcmp, 1) := by decide +kernel
theorem dL_law_1435 : decode cL_law 1435 = .ok (.ifCond .eq 5, 3) := by decide +kernel
theorem dL_law_1438 : decode cL_law 1438 = .ok (.iconst 0, 1) := by decide +kernel
theorem dL_law_1439 : decode cL_law 1439 = .ok (.ireturn, 1) := by decide +kernel
theorem dL_law_1440 : decode cL_law 1440 = .ok (.goto 272, 3) := by decide +kernel
theorem dL_law_1443 : decode cL_law 1443 = .ok (.aload_n 1, 1) := by decide +kernel
theorem dL_law_1444 : decode cL_law 1444 = .ok (.aload_n 0, 1) := by decide +kernel
theorem dL_law_1445 : decode cL_law 1445 = .ok (.iload 5, 2) := by decide +kernel
theorem dL_law_1447 : decode cL_law 1447 = .ok (.iconst 1, 1) := by decide +kernel
theorem dL_law_1448 : decode cL_law 1448 = .ok (.iadd, 1) := by decide +kernel
theorem dL_law_1449 : decode cL_law 1449 = .ok (.iaload, 1) := by decide +kernel
theorem dL_law_1450 : decode cL_law 1450 = .ok (.aload_n 0, 1) := by decide +kernel
theorem dL_law_1451 : decode cL_law 1451 = .ok (.iload 5, 2) := by decide +kernel
theorem dL_law_1453 : decode cL_law 1453 = .ok (.iconst 2, 1) := by decide +kernel
theorem dL_law_1454 : decode cL_law 1454 = .ok (.iadd, 1) := by decide +kernel
theorem dL_law_1455 : decode cL_law 1455 = .ok (.iaload, 1) := by decide +kernel
theorem dL_law_1456 : decode cL_law 1456 = .ok (.aload_n 3, 1) := by decide +kernel
theorem dL_law_1457 : decode cL_law 1457 = .ok (.invokestatic 183, 3) := by decide +kernel
theorem dL_law_1460 : decode cL_law 1460 = .ok (.istore 6, 2) := by decide +kernel
theorem dL_law_1462 : decode cL_law 1462 = .ok (.aload_n 2, 1) := by decide +kernel
theorem dL_law_1463 : decode cL_law 1463 = .ok (.aload_n 0, 1) := by decide +kernel
theorem dL_law_1464 : decode cL_law 1464 = .ok (.iload 5, 2) := by decide +kernel
theorem dL_law_1466 : decode cL_law 1466 = .ok (.iconst 1, 1) := by decide +kernel
theorem dL_law_1467 : decode cL_law 1467 = .ok (.iadd, 1) := by decide +kernel
theorem dL_law_1468 : decode cL_law 1468 = .ok (.iaload, 1) := by decide +kernel
theorem dL_law_1469 : decode cL_law 1469 = .ok (.aload_n 0, 1) := by decide +kernel
theorem dL_law_1470 : decode cL_law 1470 = .ok (.iload 5, 2) := by decide +kernel
theorem dL_law_1472 : decode cL_law 1472 = .ok (.iconst 2, 1) := by decide +kernel
theorem dL_law_1473 : decode cL_law 1473 = .ok (.iadd, 1) := by decide +kernel
theorem dL_law_1474 : decode cL_law 1474 = .ok (.iaload, 1) := by decide +kernel
theorem dL_law_1475 : decode cL_law 1475 = .ok (.invokevirtual 185, 3) := by decide +kernel
theorem dL_law_1478 : decode cL_law 1478 = .ok (.istore 7, 2) := by decide +kernel
theorem dL_law_1480 : decode cL_law 1480 = .ok (.aload_n 2, 1) := by decide +kernel
theorem dL_law_1481 : decode cL_law 1481 = .ok (.invokevirtual 111, 3) := by decide +kernel
theorem dL_law_1484 : decode cL_law 1484 = .ok (.iload 6, 2) := by decide +kernel
theorem dL_law_1486 : decode cL_law 1486 = .ok (.if_icmp .eq 5, 3) := by decide +kernel
theorem dL_law_1489 : decode cL_law 1489 = .ok (.iconst 0, 1) := by decide +kernel
theorem dL_law_1490 : decode cL_law 1490 = .ok (.ireturn, 1) := by decide +kernel
theorem dL_law_1491 : decode cL_law 1491 = .ok (.iload 6, 2) := by decide +kernel
theorem dL_law_1493 : decode cL_law 1493 = .ok (.ifCond .ne 15, 3) := by decide +kernel
theorem dL_law_1496 : decode cL_law 1496 = .ok (.aload_n 3, 1) := by decide +kernel
theorem dL_law_1497 : decode cL_law 1497 = .ok (.iconst 0, 1) := by decide +kernel
theorem dL_law_1498 : decode cL_law 1498 = .ok (.laload, 1) := by decide +kernel
theorem dL_law_1499 : decode cL_law 1499 = .ok (.iload 7, 2) := by decide +kernel
theorem dL_law_1501 : decode cL_law 1501 = .ok (.i2l, 1) := by decide +kernel
theorem dL_law_1502 : decode cL_law 1502 = .ok (.lcmp, 1) := by decide +kernel
theorem dL_law_1503 : decode cL_law 1503 = .ok (.ifCond .eq 5, 3) := by decide +kernel
theorem dL_law_1506 : decode cL_law 1506 = .ok (.iconst 0, 1) := by decide +kernel
theorem dL_law_1507 : decode cL_law 1507 = .ok (.ireturn, 1) := by decide +kernel
theorem dL_law_1508 : decode cL_law 1508 = .ok (.goto 204, 3) := by decide +kernel
theorem dL_law_1511 : decode cL_law 1511 = .ok (.aload_n 1, 1) := by decide +kernel
theorem dL_law_1512 : decode cL_law 1512 = .ok (.aload_n 0, 1) := by decide +kernel
theorem dL_law_1513 : decode cL_law 1513 = .ok (.iload 5, 2) := by decide +kernel
theorem dL_law_1515 : decode cL_law 1515 = .ok (.iconst 1, 1) := by decide +kernel
theorem dL_law_1516 : decode cL_law 1516 = .ok (.iadd, 1) := by decide +kernel
theorem dL_law_1517 : decode cL_law 1517 = .ok (.iaload, 1) := by decide +kernel
theorem dL_law_1518 : decode cL_law 1518 = .ok (.aload_n 3, 1) := by decide +kernel
theorem dL_law_1519 : decode cL_law 1519 = .ok (.invokestatic 186, 3) := by decide +kernel
theorem dL_law_1522 : decode cL_law 1522 = .ok (.istore 6, 2) := by decide +kernel
theorem dL_law_1524 : decode cL_law 1524 = .ok (.aload_n 2, 1) := by decide +kernel
theorem dL_law_1525 : decode cL_law 1525 = .ok (.aload_n 0, 1) := by decide +kernel
theorem dL_law_1526 : decode cL_law 1526 = .ok (.iload 5, 2) := by decide +kernel
theorem dL_law_1528 : decode cL_law 1528 = .ok (.iconst 1, 1) := by decide +kernel
theorem dL_law_1529 : decode cL_law 1529 = .ok (.iadd, 1) := by decide +kernel
theorem dL_law_1530 : decode cL_law 1530 = .ok (.iaload, 1) := by decide +kernel
theorem dL_law_1531 : decode cL_law 1531 = .ok (.invokevirtual 188, 3) := by decide +kernel
theorem dL_law_1534 : decode cL_law 1534 = .ok (.istore 7, 2) := by decide +kernel
theorem dL_law_1536 : decode cL_law 1536 = .ok (.aload_n 2, 1) := by decide +kernel
theorem dL_law_1537 : decode cL_law 1537 = .ok (.invokevirtual 111, 3) := by decide +kernel
theorem dL_law_1540 : decode cL_law 1540 = .ok (.iload 6, 2) := by decide +kernel
theorem dL_law_1542 : decode cL_law 1542 = .ok (.if_icmp .eq 5, 3) := by decide +kernel
theorem dL_law_1545 : decode cL_law 1545 = .ok (.iconst 0, 1) := by decide +kernel
theorem dL_law_1546 : decode cL_law 1546 = .ok (.ireturn, 1) := by decide +kernel
theorem dL_law_1547 : decode cL_law 1547 = .ok (.iload 6, 2) := by decide +kernel
theorem dL_law_1549 : decode cL_law 1549 = .ok (.ifCond .ne 15, 3) := by decide +kernel
theorem dL_law_1552 : decode cL_law 1552 = .ok (.aload_n 3, 1) := by decide +kernel
theorem dL_law_1553 : decode cL_law 1553 = .ok (.iconst 0, 1) := by decide +kernel
theorem dL_law_1554 : decode cL_law 1554 = .ok (.laload, 1) := by decide +kernel
theorem dL_law_1555 : decode cL_law 1555 = .ok (.iload 7, 2) := by decide +kernel
theorem dL_law_1557 : decode cL_law 1557 = .ok (.i2l, 1) := by decide +kernel
theorem dL_law_1558 : decode cL_law 1558 = .ok (.lcmp, 1) := by decide +kernel
theorem dL_law_1559 : decode cL_law 1559 = .ok (.ifCond .eq 5, 3) := by decide +kernel
theorem dL_law_1562 : decode cL_law 1562 = .ok (.iconst 0, 1) := by decide +kernel
theorem dL_law_1563 : decode cL_law 1563 = .ok (.ireturn, 1) := by decide +kernel
theorem dL_law_1564 : decode cL_law 1564 = .ok (.goto 148, 3) := by decide +kernel
theorem dL_law_1567 : decode cL_law 1567 = .ok (.aload_n 1, 1) := by decide +kernel
theorem dL_law_1568 : decode cL_law 1568 = .ok (.invokevirtual 189, 3) := by decide +kernel
theorem dL_law_1571 : decode cL_law 1571 = .ok (.aload_n 2, 1) := by decide +kernel
theorem dL_law_1572 : decode cL_law 1572 = .ok (.invokevirtual 193, 3) := by decide +kernel
theorem dL_law_1575 : decode cL_law 1575 = .ok (.lcmp, 1) := by decide +kernel
theorem dL_law_1576 : decode cL_law 1576 = .ok (.ifCond .eq 136, 3) := by decide +kernel
theorem dL_law_1579 : decode cL_law 1579 = .ok (.iconst 0, 1) := by decide +kernel
theorem dL_law_1580 : decode cL_law 1580 = .ok (.ireturn, 1) := by decide +kernel
theorem dL_law_1581 : decode cL_law 1581 = .ok (.aload_n 1, 1) := by decide +kernel
theorem dL_law_1582 : decode cL_law 1582 = .ok (.aload 4, 2) := by decide +kernel
theorem dL_law_1584 : decode cL_law 1584 = .ok (.invokestatic 194, 3) := by decide +kernel
theorem dL_law_1587 : decode cL_law 1587 = .ok (.istore 6, 2) := by decide +kernel
theorem dL_law_1589 : decode cL_law 1589 = .ok (.aload_n 2, 1) := by decide +kernel
theorem dL_law_1590 : decode cL_law 1590 = .ok (.invokevirtual 197, 3) := by decide +kernel
theorem dL_law_1593 : decode cL_law 1593 = .ok (.fstore 7, 2) := by decide +kernel
theorem dL_law_1595 : decode cL_law 1595 = .ok (.aload_n 2, 1) := by decide +kernel
theorem dL_law_1596 : decode cL_law 1596 = .ok (.invokevirtual 111, 3) := by decide +kernel
theorem dL_law_1599 : decode cL_law 1599 = .ok (.iload 6, 2) := by decide +kernel
theorem dL_law_1601 : decode cL_law 1601 = .ok (.if_icmp .eq 5, 3) := by decide +kernel
theorem dL_law_1604 : decode cL_law 1604 = .ok (.iconst 0, 1) := by decide +kernel
theorem dL_law_1605 : decode cL_law 1605 = .ok (.ireturn, 1) := by decide +kernel
theorem dL_law_1606 : decode cL_law 1606 = .ok (.iload 6, 2) := by decide +kernel
theorem dL_law_1608 : decode cL_law 1608 = .ok (.ifCond .ne 36, 3) := by decide +kernel
theorem dL_law_1611 : decode cL_law 1611 = .ok (.aload 4, 2) := by decide +kernel
theorem dL_law_1613 : decode cL_law 1613 = .ok (.iconst 0, 1) := by decide +kernel
theorem dL_law_1614 : decode cL_law 1614 = .ok (.daload, 1) := by decide +kernel
theorem dL_law_1615 : decode cL_law 1615 = .ok (.fload 7, 2) := by decide +kernel
theorem dL_law_1617 : decode cL_law 1617 = .ok (.f2d, 1) := by decide +kernel
theorem dL_law_1618 : decode cL_law 1618 = .ok (.dcmp .l, 1) := by decide +kernel
theorem dL_law_1619 : decode cL_law 1619 = .ok (.ifCond .eq 25, 3) := by decide +kernel
theorem dL_law_1622 : decode cL_law 1622 = .ok (.aload 4, 2) := by decide +kernel
theorem dL_law_1624 : decode cL_law 1624 = .ok (.iconst 0, 1) := by decide +kernel
theorem dL_law_1625 : decode cL_law 1625 = .ok (.daload, 1) := by decide +kernel
theorem dL_law_1626 : decode cL_law 1626 = .ok (.aload 4, 2) := by decide +kernel
theorem dL_law_1628 : decode cL_law 1628 = .ok (.iconst 0, 1) := by decide +kernel
theorem dL_law_1629 : decode cL_law 1629 = .ok (.daload, 1) := by decide +kernel
theorem dL_law_1630 : decode cL_law 1630 = .ok (.dcmp .l, 1) := by decide +kernel
theorem dL_law_1631 : decode cL_law 1631 = .ok (.ifCond .eq 11, 3) := by decide +kernel
theorem dL_law_1634 : decode cL_law 1634 = .ok (.fload 7, 2) := by decide +kernel
theorem dL_law_1636 : decode cL_law 1636 = .ok (.fload 7, 2) := by decide +kernel
theorem dL_law_1638 : decode cL_law 1638 = .ok (.fcmp .l, 1) := by decide +kernel
theorem dL_law_1639 : decode cL_law 1639 = .ok (.ifCond .ne 5, 3) := by decide +kernel
theorem dL_law_1642 : decode cL_law 1642 = .ok (.iconst 0, 1) := by decide +kernel
theorem dL_law_1643 : decode cL_law 1643 = .ok (.ireturn, 1) := by decide +kernel
theorem dL_law_1644 : decode cL_law 1644 = .ok (.goto 68, 3) := by decide +kernel
theorem dL_law_1647 : decode cL_law 1647 = .ok (.aload_n 1, 1) := by decide +kernel
theorem dL_law_1648 : decode cL_law 1648 = .ok (.aload 4, 2) := by decide +kernel
theorem dL_law_1650 : decode cL_law 1650 = .ok (.invokestatic 198, 3) := by decide +kernel
theorem dL_law_1653 : decode cL_law 1653 = .ok (.istore 6, 2) := by decide +kernel
theorem dL_law_1655 : decode cL_law 1655 = .ok (.aload_n 2, 1) := by decide +kernel
theorem dL_law_1656 : decode cL_law 1656 = .ok (.invokevirtual 200, 3) := by decide +kernel
theorem dL_law_1659 : decode cL_law 1659 = .ok (.dstore 7, 2) := by decide +kernel
theorem dL_law_1661 : decode cL_law 1661 = .ok (.aload_n 2, 1) := by decide +kernel
theorem dL_law_1662 : decode cL_law 1662 = .ok (.invokevirtual 111, 3) := by decide +kernel
theorem dL_law_1665 : decode cL_law 1665 = .ok (.iload 6, 2) := by decide +kernel
theorem dL_law_1667 : decode cL_law 1667 = .ok (.if_icmp .eq 5, 3) := by decide +kernel
theorem dL_law_1670 : decode cL_law 1670 = .ok (.iconst 0, 1) := by decide +kernel
theorem dL_law_1671 : decode cL_law 1671 = .ok (.ireturn, 1) := by decide +kernel
theorem dL_law_1672 : decode cL_law 1672 = .ok (.iload 6, 2) := by decide +kernel
theorem dL_law_1674 : decode cL_law 1674 = .ok (.ifCond .ne 35, 3) := by decide +kernel
theorem dL_law_1677 : decode cL_law 1677 = .ok (.aload 4, 2) := by decide +kernel
theorem dL_law_1679 : decode cL_law 1679 = .ok (.iconst 0, 1) := by decide +kernel
theorem dL_law_1680 : decode cL_law 1680 = .ok (.daload, 1) := by decide +kernel
theorem dL_law_1681 : decode cL_law 1681 = .ok (.dload 7, 2) := by decide +kernel
theorem dL_law_1683 : decode cL_law 1683 = .ok (.dcmp .l, 1) := by decide +kernel
theorem dL_law_1684 : decode cL_law 1684 = .ok (.ifCond .eq 25, 3) := by decide +kernel
theorem dL_law_1687 : decode cL_law 1687 = .ok (.aload 4, 2) := by decide +kernel
theorem dL_law_1689 : decode cL_law 1689 = .ok (.iconst 0, 1) := by decide +kernel
theorem dL_law_1690 : decode cL_law 1690 = .ok (.daload, 1) := by decide +kernel
theorem dL_law_1691 : decode cL_law 1691 = .ok (.aload 4, 2) := by decide +kernel
theorem dL_law_1693 : decode cL_law 1693 = .ok (.iconst 0, 1) := by decide +kernel
theorem dL_law_1694 : decode cL_law 1694 = .ok (.daload, 1) := by decide +kernel
theorem dL_law_1695 : decode cL_law 1695 = .ok (.dcmp .l, 1) := by decide +kernel
theorem dL_law_1696 : decode cL_law 1696 = .ok (.ifCond .eq 11, 3) := by decide +kernel
theorem dL_law_1699 : decode cL_law 1699 = .ok (.dload 7, 2) := by decide +kernel
theorem dL_law_1701 : decode cL_law 1701 = .ok (.dload 7, 2) := by decide +kernel
theorem dL_law_1703 : decode cL_law 1703 = .ok (.dcmp .l, 1) := by decide +kernel
theorem dL_law_1704 : decode cL_law 1704 = .ok (.ifCond .ne 5, 3) := by decide +kernel
theorem dL_law_1707 : decode cL_law 1707 = .ok (.iconst 0, 1) := by decide +kernel
theorem dL_law_1708 : decode cL_law 1708 = .ok (.ireturn, 1) := by decide +kernel
theorem dL_law_1709 : decode cL_law 1709 = .ok (.goto 3, 3) := by decide +kernel
theorem dL_law_1712 : decode cL_law 1712 = .ok (.iinc 5 4, 3) := by decide +kernel
theorem dL_law_1715 : decode cL_law 1715 = .ok (.goto (-1687), 3) := by decide +kernel
theorem dL_law_1718 : decode cL_law 1718 = .ok (.iconst 1, 1) := by decide +kernel
theorem dL_law_1719 : decode cL_law 1719 = .ok (.ireturn, 1) := by decide +kernel
end
section
/-! ===== the memory: one pool of cells, by address: L the addresses, K the kind of each (0..7 objects, 8 int[], 9 boolean[], 10 Job[], 11 Lot[], 12 long[], 13 double[]), I, J, R, D what is in its places, N the length of an array ===== -/
abbrev Mem : Type := List Nat × (Nat → Nat) × (Nat → Nat → Int32) × (Nat → Nat → Int64) × (Nat → Nat → Option Nat) × (Nat → Nat) × (Nat → Nat → UInt64)
def mL (S : Mem) : List Nat := S.1
def mK (S : Mem) : Nat → Nat := S.2.1
def mI (S : Mem) : Nat → Nat → Int32 := S.2.2.1
def mJ (S : Mem) : Nat → Nat → Int64 := S.2.2.2.1
def mR (S : Mem) : Nat → Nat → Option Nat := S.2.2.2.2.1
def mN (S : Mem) : Nat → Nat := S.2.2.2.2.2.1
def mD (S : Mem) : Nat → Nat → UInt64 := S.2.2.2.2.2.2
def up2 {α : Type} (f : Nat → Nat → α) (a k : Nat) (v : α) : Nat → Nat → α := va_up f a (va_up (f a) k v)
def sI (S : Mem) (a k : Nat) (v : Int32) : Mem := (mL S, mK S, up2 (mI S) a k v, mJ S, mR S, mN S, mD S)
def sJ (S : Mem) (a k : Nat) (v : Int64) : Mem := (mL S, mK S, mI S, up2 (mJ S) a k v, mR S, mN S, mD S)
def sR (S : Mem) (a k : Nat) (v : Option Nat) : Mem := (mL S, mK S, mI S, mJ S, up2 (mR S) a k v, mN S, mD S)
def sD (S : Mem) (a k : Nat) (v : UInt64) : Mem := (mL S, mK S, mI S, mJ S, mR S, mN S, up2 (mD S) a k v)
/-- a new cell of the kind kd, of n places -/
def nA (S : Mem) (a kd n : Nat) : Mem := (mL S ++ [a], va_up (mK S) a kd, va_up (mI S) a (fun _ => 0), va_up (mJ S) a (fun _ => 0), va_up (mR S) a (fun _ => none), va_up (mN S) a n, va_up (mD S) a (fun _ => 0))
def isK (S : Mem) (a k : Nat) : Prop := a ∈ mL S ∧ mK S a = k
/-- the fields of each class, in the order of its slots: 0 of 32 bits, 1 long, 2 a reference -/
def lay : Nat → List Nat
  | 0 => [2, 2, 2, 0, 0]
  | 1 => [0, 2, 2, 0]
  | 2 => [0, 0, 0, 2, 2]
  | 3 => [2, 2, 2, 0]
  | 4 => [2, 0]
  | 5 => [0, 0, 0]
  | 6 => [2, 2, 2, 2, 2, 2, 0, 0, 1, 1, 1, 1]
  | _ => [0, 0, 0, 0, 0, 0, 0, 0, 0, 0, 1, 1, 2, 2, 2, 2, 2, 2, 2, 2, 2, 2, 2, 2, 2, 2]
abbrev vcl : List vw_C := [(RX0, TX0, 5), (RX1, TX1, 4), (RX2, TX2, 5), (RX3, TX3, 4), (RX4, TX4, 2), (RX5, TX5, 3), (RX6, TX6, 12), (RX7, TX7, 26)]
abbrev GT : Type := va_G × (Nat → ClassId)
abbrev tys (G : GT) : List (ClassId × FieldType) := [(G.2 8, .int), (G.2 9, .boolean), (G.2 10, .object RX1), (G.2 11, .object RX2), (G.2 12, .long), (G.2 13, .double)]
def sl1 (S : Mem) (a k : Nat) : Nat → Value
  | 0 => .int (mI S a k)
  | 1 => .long (mJ S a k)
  | _ => va_rf (mR S a k)
def slv (S : Mem) (a : Nat) : Nat → List Nat → List Value
  | _, [] => []
  | k, t :: ts => sl1 S a k t :: slv S a (k + 1) ts
def arc (S : Mem) (a : Nat) : Nat → vp_A
  | 10 => (mN S a, .inr (.inr (.inr (.inr (mR S a)))))
  | 11 => (mN S a, .inr (.inr (.inr (.inr (mR S a)))))
  | 12 => (mN S a, .inr (.inl (mJ S a)))
  | 13 => (mN S a, .inr (.inr (.inr (.inl (mD S a)))))
  | _ => (mN S a, .inl (mI S a))
def cel (G : GT) (S : Mem) (a : Nat) : va_E := if mK S a < 8 then .inr (mK S a, slv S a 0 (lay (mK S a))) else .inl (G.2 (mK S a), arc S a (mK S a))
def wl (G : GT) (S : Mem) : va_W := va_pl (mL S) (cel G S)
theorem cel_o {G : GT} {S : Mem} {a kd : Nat} (h : mK S a = kd) (hk : kd < 8) : cel G S a = .inr (kd, slv S a 0 (lay kd)) := by
  subst h
  exact if_pos hk
theorem cel_a {G : GT} {S : Mem} {a kd : Nat} (h : mK S a = kd) (hk : ¬ kd < 8) : cel G S a = .inl (G.2 kd, arc S a kd) := by
  subst h
  exact if_neg hk
theorem wl_at {G : GT} {S : Mem} {a : Nat} (h : a ∈ mL S) : ∃ k : Nat, (wl G S)[k]? = some (a, cel G S a) := by
  obtain ⟨k, hk⟩ := va_pl_get (X := []) (f := cel G S) h
  exact ⟨k, hk⟩
theorem wl_set {A : Nat → Prop} {G : GT} {S S' : Mem} {a k : Nat} {e : va_E} (hD : va_D A (wl G S)) (hL : a ∈ mL S) (hk : (wl G S)[k]? = some (a, cel G S a)) (hL' : mL S' = mL S) (ha : cel G S' a = e) (hb : ∀ b, b ≠ a → cel G S' b = cel G S b) : (wl G S).set k (a, e) = wl G S' := by
  have h := va_pl_set (X := []) (f := cel G S) (e := e) hD hL hk
  refine Eq.trans h ?_
  show va_pl (mL S) (va_up (cel G S) a e) = va_pl (mL S') (cel G S')
  rw [hL']
  refine va_pl_congr fun b => ?_
  by_cases q : b = a
  · rw [q, ha]; simp [va_up]
  · rw [hb b q]; simp [va_up, q]
theorem up2_ne {α : Type} {f : Nat → Nat → α} {a b k : Nat} {v : α} (h : b ≠ a) : up2 f a k v b = f b := va_up_ne f _ h
theorem up2_at {α : Type} {f : Nat → Nat → α} {a k : Nat} {v : α} : up2 f a k v a = va_up (f a) k v := by simp [up2, va_up]
theorem up2_nk {α : Type} {f : Nat → Nat → α} {a k j : Nat} {v : α} (h : j ≠ k) : up2 f a k v a j = f a j := by rw [up2_at]; exact va_up_ne _ _ h
theorem up2_eq {α : Type} {f : Nat → Nat → α} {a k : Nat} {v : α} : up2 f a k v a k = v := by rw [up2_at]; simp [va_up]
/-- two memories that agree at an address have one cell there -/
def mSame (S S' : Mem) (b : Nat) : Prop := mK S' b = mK S b ∧ mI S' b = mI S b ∧ mJ S' b = mJ S b ∧ mR S' b = mR S b ∧ mN S' b = mN S b ∧ mD S' b = mD S b
theorem slv_same {S S' : Mem} {b : Nat} (h : mSame S S' b) : ∀ (L : List Nat) (i : Nat), slv S' b i L = slv S b i L
  | [], _ => rfl
  | t :: ts, i => by
    have h1 : sl1 S' b i t = sl1 S b i t := by
      obtain ⟨-, h2, h3, h4, -, -⟩ := h
      match t with
      | 0 => exact congrArg Value.int (congrFun h2 i)
      | 1 => exact congrArg Value.long (congrFun h3 i)
      | _ + 2 => exact congrArg va_rf (congrFun h4 i)
    show sl1 S' b i t :: slv S' b (i + 1) ts = sl1 S b i t :: slv S b (i + 1) ts
    rw [h1, slv_same h ts (i + 1)]
theorem arc_same {S S' : Mem} {b : Nat} (h : mSame S S' b) (kd : Nat) : arc S' b kd = arc S b kd := by
  obtain ⟨-, h2, h3, h4, h5, h6⟩ := h
  unfold arc
  split <;> simp only [h2, h3, h4, h5, h6]
theorem cel_same {G : GT} {S S' : Mem} {b : Nat} (h : mSame S S' b) : cel G S' b = cel G S b := by
  unfold cel
  rw [h.1, slv_same h, arc_same h]
theorem sI_same {S : Mem} {a k b : Nat} {v : Int32} (h : b ≠ a) : mSame S (sI S a k v) b := ⟨rfl, up2_ne h, rfl, rfl, rfl, rfl⟩
theorem sJ_same {S : Mem} {a k b : Nat} {v : Int64} (h : b ≠ a) : mSame S (sJ S a k v) b := ⟨rfl, rfl, up2_ne h, rfl, rfl, rfl⟩
theorem sR_same {S : Mem} {a k b : Nat} {v : Option Nat} (h : b ≠ a) : mSame S (sR S a k v) b := ⟨rfl, rfl, rfl, up2_ne h, rfl, rfl⟩
theorem sD_same {S : Mem} {a k b : Nat} {v : UInt64} (h : b ≠ a) : mSame S (sD S a k v) b := ⟨rfl, rfl, rfl, rfl, rfl, up2_ne h⟩
theorem nA_same {S : Mem} {a kd n b : Nat} (h : b ≠ a) : mSame S (nA S a kd n) b := ⟨va_up_ne _ _ h, va_up_ne _ _ h, va_up_ne _ _ h, va_up_ne _ _ h, va_up_ne _ _ h, va_up_ne _ _ h⟩
/-- one place written -/
theorem slv_put {S S' : Mem} {a k : Nat} {v : Value} {t : Nat} (h1 : ∀ j u, j ≠ k → sl1 S' a j u = sl1 S a j u) (h2 : sl1 S' a k t = v) : ∀ (L : List Nat) (i j : Nat), i + j = k → L[j]? = some t → (slv S a i L).set j v = slv S' a i L
  | [], _, _, _, h => by simp at h
  | u :: us, i, 0, hk, h => by
    have hu : u = t := by simpa using h
    subst hu
    have hi : i = k := hk
    subst hi
    have h3 : ∀ (M : List Nat) (m : Nat), i < m → slv S' a m M = slv S a m M := by
      intro M
      induction M with
      | nil => intro m _; rfl
      | cons w ws ih =>
        intro m hm
        show sl1 S' a m w :: slv S' a (m + 1) ws = sl1 S a m w :: slv S a (m + 1) ws
        rw [h1 m w (by omega), ih (m + 1) (by omega)]
    show v :: slv S a (i + 1) us = sl1 S' a i u :: slv S' a (i + 1) us
    rw [h2, h3 us (i + 1) (by omega)]
  | u :: us, i, j + 1, hk, h => by
    show sl1 S a i u :: (slv S a (i + 1) us).set j v = sl1 S' a i u :: slv S' a (i + 1) us
    rw [slv_put h1 h2 us (i + 1) j (by omega) (by simpa using h), h1 i u (by omega)]
theorem sl1_sI {S : Mem} {a k : Nat} {v : Int32} : ∀ j u, j ≠ k → sl1 (sI S a k v) a j u = sl1 S a j u := fun j u h => by
  match u with
  | 0 => exact congrArg Value.int (up2_nk h)
  | 1 => rfl
  | _ + 2 => rfl
theorem sl1_sJ {S : Mem} {a k : Nat} {v : Int64} : ∀ j u, j ≠ k → sl1 (sJ S a k v) a j u = sl1 S a j u := fun j u h => by
  match u with
  | 0 => rfl
  | 1 => exact congrArg Value.long (up2_nk h)
  | _ + 2 => rfl
theorem sl1_sR {S : Mem} {a k : Nat} {v : Option Nat} : ∀ j u, j ≠ k → sl1 (sR S a k v) a j u = sl1 S a j u := fun j u h => by
  match u with
  | 0 => rfl
  | 1 => rfl
  | _ + 2 => exact congrArg va_rf (up2_nk h)
theorem put_I {A : Nat → Prop} {G : GT} {S : Mem} {a k kd q : Nat} {v : Int32} (hD : va_D A (wl G S)) (h : isK S a kd) (hkd : kd < 8) (hq : (wl G S)[q]? = some (a, cel G S a)) (ht : (lay kd)[k]? = some 0) : (wl G S).set q (a, .inr (kd, (slv S a 0 (lay kd)).set k (.int v))) = wl G (sI S a k v) :=
  wl_set hD h.1 hq rfl (by rw [cel_o (show mK (sI S a k v) a = kd from h.2) hkd, slv_put (S := S) (S' := sI S a k v) (a := a) (k := k) (v := .int v) (t := 0) sl1_sI (congrArg Value.int (up2_eq (f := mI S) (a := a) (k := k) (v := v))) (lay kd) 0 k (Nat.zero_add k) ht]) (fun b hb => cel_same (sI_same hb))
theorem put_J {A : Nat → Prop} {G : GT} {S : Mem} {a k kd q : Nat} {v : Int64} (hD : va_D A (wl G S)) (h : isK S a kd) (hkd : kd < 8) (hq : (wl G S)[q]? = some (a, cel G S a)) (ht : (lay kd)[k]? = some 1) : (wl G S).set q (a, .inr (kd, (slv S a 0 (lay kd)).set k (.long v))) = wl G (sJ S a k v) :=
  wl_set hD h.1 hq rfl (by rw [cel_o (show mK (sJ S a k v) a = kd from h.2) hkd, slv_put (S := S) (S' := sJ S a k v) (a := a) (k := k) (v := .long v) (t := 1) sl1_sJ (congrArg Value.long (up2_eq (f := mJ S) (a := a) (k := k) (v := v))) (lay kd) 0 k (Nat.zero_add k) ht]) (fun b hb => cel_same (sJ_same hb))
theorem put_R {A : Nat → Prop} {G : GT} {S : Mem} {a k kd q : Nat} {v : Option Nat} (hD : va_D A (wl G S)) (h : isK S a kd) (hkd : kd < 8) (hq : (wl G S)[q]? = some (a, cel G S a)) (ht : (lay kd)[k]? = some 2) : (wl G S).set q (a, .inr (kd, (slv S a 0 (lay kd)).set k (va_rf v))) = wl G (sR S a k v) :=
  wl_set hD h.1 hq rfl (by rw [cel_o (show mK (sR S a k v) a = kd from h.2) hkd, slv_put (S := S) (S' := sR S a k v) (a := a) (k := k) (v := va_rf v) (t := 2) sl1_sR (congrArg va_rf (up2_eq (f := mR S) (a := a) (k := k) (v := v))) (lay kd) 0 k (Nat.zero_add k) ht]) (fun b hb => cel_same (sR_same hb))
theorem put_aI {A : Nat → Prop} {G : GT} {S : Mem} {a k kd q : Nat} {v : Int32} (hD : va_D A (wl G S)) (h : isK S a kd) (hkd : kd = 8 ∨ kd = 9) (hq : (wl G S)[q]? = some (a, cel G S a)) : (wl G S).set q (a, .inl (G.2 kd, mN S a, .inl (upd (mI S a) k v))) = wl G (sI S a k v) :=
  wl_set hD h.1 hq rfl (by
    have e : mI (sI S a k v) a = upd (mI S a) k v := up2_at
    rcases hkd with rfl | rfl
    · rw [cel_a (show mK (sI S a k v) a = 8 from h.2) (by decide)]; show _ = (Sum.inl (G.2 8, mN S a, Sum.inl (upd (mI S a) k v)) : va_E); rw [← e]; rfl
    · rw [cel_a (show mK (sI S a k v) a = 9 from h.2) (by decide)]; show _ = (Sum.inl (G.2 9, mN S a, Sum.inl (upd (mI S a) k v)) : va_E); rw [← e]; rfl) (fun b hb => cel_same (sI_same hb))
theorem put_aJ {A : Nat → Prop} {G : GT} {S : Mem} {a k q : Nat} {v : Int64} (hD : va_D A (wl G S)) (h : isK S a 12) (hq : (wl G S)[q]? = some (a, cel G S a)) : (wl G S).set q (a, .inl (G.2 12, mN S a, .inr (.inl (vp_updL (mJ S a) k v)))) = wl G (sJ S a k v) :=
  wl_set hD h.1 hq rfl (by
    have e : mJ (sJ S a k v) a = vp_updL (mJ S a) k v := up2_at
    rw [cel_a (show mK (sJ S a k v) a = 12 from h.2) (by decide), ← e]; rfl) (fun b hb => cel_same (sJ_same hb))
theorem put_aR {A : Nat → Prop} {G : GT} {S : Mem} {a k kd q : Nat} {v : Option Nat} (hD : va_D A (wl G S)) (h : isK S a kd) (hkd : kd = 10 ∨ kd = 11) (hq : (wl G S)[q]? = some (a, cel G S a)) : (wl G S).set q (a, .inl (G.2 kd, mN S a, .inr (.inr (.inr (.inr (va_up (mR S a) k v)))))) = wl G (sR S a k v) :=
  wl_set hD h.1 hq rfl (by
    have e : mR (sR S a k v) a = va_up (mR S a) k v := up2_at
    rcases hkd with rfl | rfl
    · rw [cel_a (show mK (sR S a k v) a = 10 from h.2) (by decide), ← e]; rfl
    · rw [cel_a (show mK (sR S a k v) a = 11 from h.2) (by decide), ← e]; rfl) (fun b hb => cel_same (sR_same hb))
theorem nil_I {G : GT} {S : Mem} {a kd n : Nat} (hkd : kd < 8) : cel G (nA S a kd n) a = .inr (kd, slv (nA S a kd n) a 0 (lay kd)) := cel_o (by show va_up (mK S) a kd a = kd; simp [va_up]) hkd
/-- a new cell at the end -/
theorem wl_new {G : GT} {S : Mem} {a kd n : Nat} {e : va_E} (ha : a ∉ mL S) (he : cel G (nA S a kd n) a = e) : wl G S ++ [(a, e)] = wl G (nA S a kd n) := by
  show va_pl (mL S) (cel G S) ++ [(a, e)] = va_pl (mL S ++ [a]) (cel G (nA S a kd n))
  rw [va_pl_push ha]
  refine va_pl_congr fun b => ?_
  by_cases q : b = a
  · rw [q, he]; simp [va_up]
  · rw [va_up_ne _ _ q]; exact (cel_same (nA_same q)).symm
theorem wl_fresh {A : Nat → Prop} {G : GT} {S : Mem} {a : Nat} {e : va_E} (hD : va_D A (wl G S ++ [(a, e)])) : a ∉ mL S := by
  intro h
  obtain ⟨k, hk⟩ := wl_at (G := G) h
  have hlt : k < (wl G S).length := (List.getElem?_eq_some_iff.mp hk).1
  have h1 : (wl G S ++ [(a, e)])[k]? = some (a, cel G S a) := by rw [List.getElem?_append_left hlt]; exact hk
  have h2 : (wl G S ++ [(a, e)])[(wl G S).length]? = some (a, e) := by rw [List.getElem?_append_right (Nat.le_refl _)]; simp
  have h3 := hD.1 _ _ _ _ h1 h2 rfl
  omega
end
section
/-! ===== the words ===== -/
def lwA : List Cond := lw_tbl.filter goodWord
theorem mA (i : Nat) {w : Cond} (h : lw_tbl[i]? = some w) (g : goodWord w = true) : w ∈ lwA := List.mem_filter.mpr ⟨List.mem_of_getElem? h, g⟩
def nwForm : Cond → Bool
  | .fieldLinkNest .. => true
  | .methodLinkNest .. => true
  | .castable .. => true
  | .declares .. => true
  | _ => false
def nwl : List Cond := lw_tbl.filter nwForm
theorem mW (i : Nat) {w : Cond} (h : lw_tbl[i]? = some w) (g : nwForm w = true) : w ∈ nwl := List.mem_filter.mpr ⟨List.mem_of_getElem? h, g⟩
theorem nw_form {w : Cond} (h : w ∈ nwl) : nwForm w = true := (List.mem_filter.mp h).2
theorem nw_on {w : Cond} (h : nwForm w = true) : w.onTables = true := by
  cases w <;> first | rfl | (exact absurd (show false = true from h) (by decide))
theorem nw_warm {w : Cond} (h : nwForm w = true) {s U : State} (hW : s.WarmedH U.vm) (hZ : va_Nw w s) : va_Nw w U := by
  cases w <;> first | exact va_Nw.warmF hW hZ | exact va_Nw.warmM hW hZ | exact va_Nw.warmC hW hZ | exact va_Nw.warmD hW hZ | (exact absurd (show false = true from h) (by decide))
/-- own, entry, text of the String constants that are thrown with -/
def strl : List (String × Nat × String) := [("BinderyDesk", 55, "there are 12 contents"), ("BinderyDesk", 80, "the content's state is 99"), ("BinderyDesk", 98, "no such binding"), ("BinderyDesk", 104, "there are 4 jobs"), ("BinderyDesk", 113, "the job has 16 pages"), ("BinderyDesk", 136, "no such place"), ("BinderyDesk", 143, "no such page"), ("BinderyDesk", 157, "a proof is not approved"), ("BinderyDesk", 163, "there would be more than 9999 in stock"), ("BinderyDesk", 208, "more than 6 sheets"), ("BinderyDesk", 229, "there are 100 lots"), ("BinderyDesk", 234, "a sheet lacks"), ("BinderyDesk", 275, "nothing was printed"), ("BinderyDesk", 280, "no such content"), ("BinderyDesk", 283, "no such job"), ("BinderyDesk", 289, "the job is not complete"), ("BinderyDesk", 291, "no such sheet"), ("BinderyDesk", 293, "the number is not 1 to 500"), ("BinderyDesk", 295, "no such lot"), ("BinderyDesk", 298, "the lot has no such page")]
/-- exceptions that aren't caught as another one -/
def ncl : List (String × String) := [("java/lang/IllegalArgumentException", "java/lang/IllegalStateException"), ("java/lang/IllegalArgumentException", "java/lang/IndexOutOfBoundsException"), ("java/lang/IllegalArgumentException", "java/util/NoSuchElementException"), ("java/lang/IllegalStateException", "java/lang/IllegalArgumentException"), ("java/lang/IllegalStateException", "java/lang/IndexOutOfBoundsException"), ("java/lang/UnsupportedOperationException", "java/lang/IllegalArgumentException"), ("java/lang/UnsupportedOperationException", "java/lang/IllegalStateException"), ("java/lang/UnsupportedOperationException", "java/lang/IndexOutOfBoundsException"), ("java/lang/UnsupportedOperationException", "java/util/NoSuchElementException"), ("java/util/NoSuchElementException", "java/lang/IllegalStateException"), ("java/util/NoSuchElementException", "java/lang/IndexOutOfBoundsException")]
def xn : Nat → String
  | 1 => "java/lang/IndexOutOfBoundsException"
  | 2 => "java/lang/IllegalStateException"
  | 3 => "java/util/NoSuchElementException"
  | 4 => "java/lang/IllegalArgumentException"
  | 5 => "java/lang/UnsupportedOperationException"
  | _ => "java/lang/ArithmeticException"
/-- what stands through the whole run, beside the words -/
def EV (A : Nat → Prop) (U : State) (H : Heap) : Prop :=
  (∀ w ∈ nwl, va_Nw w U) ∧ vx_Zq Bundle.tN "UNASSIGNED_STACK" Bundle.steD A U H ∧ vx_Zq Bundle.tN "SUPPRESSED_SENTINEL" Bundle.listD A U H ∧ (∀ q ∈ strl, ∃ a, vk_R q.1 q.2.1 q.2.2 a U) ∧ (∀ q ∈ ncl, va_Nc q.1 q.2 U) ∧ va_AO RX1 U ∧ va_AO RX2 U
theorem EV.warm {A : Nat → Prop} {s U : State} {H : Heap} (hW : s.WarmedH U.vm) (h : EV A s H) : EV A U H :=
  ⟨fun w hw => nw_warm (nw_form hw) hW (h.1 w hw), vx_Zq.moved hW.alike h.2.1, vx_Zq.moved hW.alike h.2.2.1, fun q hq => (h.2.2.2.1 q hq).imp fun _ z => vk_R.warm hW z, fun q hq => va_Nc.moved hW.alike (h.2.2.2.2.1 q hq), va_AO.moved hW.alike h.2.2.2.2.2.1, va_AO.moved hW.alike h.2.2.2.2.2.2⟩
theorem EV.same {A : Nat → Prop} {u U : State} {H : Heap} (hv : U.vm = u.vm) (h : EV A u H) : EV A U H :=
  h.warm (by rw [hv]; exact State.WarmedH.refl u)
theorem EV.narrow {A B : Nat → Prop} {U : State} {H : Heap} (h : EV A U H) (hAB : ∀ q, B q → A q) : EV B U H :=
  ⟨h.1, h.2.1.narrow hAB, h.2.2.1.narrow hAB, h.2.2.2⟩
theorem EV.kept {A : Nat → Prop} {U : State} {H H1 : Heap} (h : EV A U H) (hq : ∀ a : Nat, a < H.size → ¬ A a → H1[a]? = H[a]?) : EV A U H1 :=
  ⟨h.1, h.2.1.kept hq, h.2.2.1.kept hq, h.2.2.2⟩
/-- the memory stands in a heap -/
def Wd (A : Nat → Prop) (G : GT) (S : Mem) (U : State) : Prop := va_P G.1 vcl (wl G S) U.heap ∧ va_K G.1 vcl (tys G) U ∧ va_D A (wl G S)
def Pre0 (G : GT) (S : Mem) (av : List Value) (sz : Nat) : Array Value → State → Prop := va_Pc av (fun U => U.heap.size = sz ∧ Wd (fun _ => True) G S U ∧ EV (va_A (wl G S) sz) U U.heap)
theorem Pre0_blind {G : GT} {S : Mem} {av : List Value} {sz : Nat} : FrameBlind (Pre0 G S av sz) := fun a U g mk q =>
  ⟨q.1, q.2.1, ⟨q.2.2.1.1, va_K.moved (u := U) (U := U.calling g mk a) (Vm.Alike.refl U.vm) q.2.2.1.2.1, q.2.2.1.2.2⟩, EV.same (u := U) (U := U.calling g mk a) rfl q.2.2.2⟩
/-- how a method ends: with r and the memory S' -/
def QN {α : Type} (emb : α → Option Value) (post : α → Mem → Prop) (G : GT) (A : Nat → Prop) : Array Value → State → Outcome → State → Prop := fun _ st oc t => (∃ (r : α) (S' : Mem), oc = .returned (emb r) ∧ post r S' ∧ Wd A G S' t) ∧ va_F A st t
def QX (postX : Nat → Mem → Prop) (G : GT) (A : Nat → Prop) : String → State → State → Prop := fun E st t => ∃ (k : Nat) (S' : Mem), E = xn k ∧ postX k S' ∧ Wd A G S' t ∧ va_F A st t
/-- a method that doesn't throw -/
def CN {α : Type} (emb : α → Option Value) (l : Launch) (y : MethodName) (ws : List Cond) (rm : Room) (mc ms : Nat) (G : GT) (av : List Value) (S : Mem) (post : α → Mem → Prop) : Prop :=
  ∀ sz : Nat, Met l y ws rm (Pre0 G S av sz) (QN emb post G (va_A (wl G S) sz)) mc ms (va_A (wl G S) sz)
/-- a method that may throw -/
def CX {α : Type} (emb : α → Option Value) (l : Launch) (y : MethodName) (ws : List Cond) (rm : Room) (mc ms : Nat) (G : GT) (av : List Value) (S : Mem) (post : α → Mem → Prop) (postX : Nat → Mem → Prop) : Prop :=
  ∀ sz : Nat, vx_Met l y ws rm (Pre0 G S av sz) (QN emb post G (va_A (wl G S) sz)) (QX postX G (va_A (wl G S) sz)) mc ms (va_A (wl G S) sz)
abbrev emI : Int32 → Option Value := fun r => some (.int r)
abbrev emJ : Int64 → Option Value := fun r => some (.long r)
abbrev emF : UInt32 → Option Value := fun r => some (.float r)
abbrev emD : UInt64 → Option Value := fun r => some (.double r)
abbrev emR : Option Nat → Option Value := fun r => some (va_rf r)
abbrev emV : Unit → Option Value := fun _ => none
/-- what stands through the body of a method -/
def Cx (p : Program) (s : State) (m : MethodId) (args : Array Value) (meth : Method) (c : Code) (cc : ByteArray) (nL : Nat) (own : String) (G : GT) (A : Nat → Prop) : Prop :=
  p.tables.exec = Jvm.exec ∧ c.code = cc ∧ c.maxLocals = nL ∧ s.vm.findClass own = some m.cls ∧ (∀ w ∈ lwA, w.before args s = true) ∧ va_K G.1 vcl (tys G) s ∧ EV A s s.heap ∧ (∀ q, s.heap.size ≤ q → A q) ∧ meth.locks = false
/-- the memory at a point of the body -/
def Hx (G : GT) (A : Nat → Prop) (H0 H : Heap) (locs : List Loc) (S : Mem) : Prop := va_P G.1 vcl (wl G S) H ∧ va_D A (wl G S) ∧ va_S A H0 H locs
abbrev wsU (y : MethodName) (cc : ByteArray) (nL : Nat) (ret : Option FieldType) : List Cond := .code y cc nL ret :: lwA
abbrev wsH (y : MethodName) (cc : ByteArray) (nL : Nat) (ret : Option FieldType) (hh : List (Nat × Nat × Nat × Nat)) : List Cond := .codeWith y cc nL ret hh :: lwA
theorem good_lwA {w : Cond} (h : w ∈ lwA) : (w.onTables && w.keeps) = true ∨ ∃ ty, w = .arrayClass ty := good_of_word (List.mem_filter.mp h).2
theorem gI_U {y : MethodName} {cc : ByteArray} {nL : Nat} {ret : Option FieldType} (h : Cond.code y cc nL ret ∈ lwA) : GoodIn lwA (wsU y cc nL ret) := fun w hw => (List.mem_cons.mp hw).elim (fun e => by rw [e]; exact ⟨h, good_lwA h⟩) (fun h => ⟨h, good_lwA h⟩)
theorem gI_H {y : MethodName} {cc : ByteArray} {nL : Nat} {ret : Option FieldType} {hh : List (Nat × Nat × Nat × Nat)} (h : Cond.codeWith y cc nL ret hh ∈ lwA) : GoodIn lwA (wsH y cc nL ret hh) := fun w hw => (List.mem_cons.mp hw).elim (fun e => by rw [e]; exact ⟨h, good_lwA h⟩) (fun h => ⟨h, good_lwA h⟩)
theorem gI_1 {w : Cond} {ws : List Cond} (h : w ∈ lwA) (k : GoodIn lwA ws) : GoodIn lwA (w :: ws) := fun z hz => (List.mem_cons.mp hz).elim (fun e => by rw [e]; exact ⟨h, good_lwA h⟩) (k z)
theorem gI_V {own C : String} {ix : Nat} {y : MethodName} {ws : List Cond} (h1 : Cond.methodLink own ix y ∈ lwA) (h2 : Cond.instanceMethod y ∈ lwA) (h3 : Cond.selects C y y ∈ lwA) (h4 : Cond.initialized C ∈ lwA) (k : GoodIn lwA ws) : GoodIn lwA (wsV own ix C y ws) := gI_1 h1 (gI_1 h2 (gI_1 h3 (gI_1 h4 k)))
theorem gI_S {own : String} {ix : Nat} {y : MethodName} {ws : List Cond} (h1 : Cond.methodLink own ix y ∈ lwA) (h2 : Cond.static y ∈ lwA) (h4 : Cond.initialized y.cls ∈ lwA) (k : GoodIn lwA ws) : GoodIn lwA (va_wsS own ix y ws) := gI_1 h1 (gI_1 h2 (gI_1 h4 k))
section RW
variable {p : Program} {l : Launch} {e : Env} {R : Room} {s : State} {m : MethodId} {args : Array Value} {below : List Frame} {meth : Method} {c : Code} {H : Heap} {locs : List Loc} {cells slots : Nat} {Q : State → Prop}
variable {cc : ByteArray} {nL : Nat} {own : String} {G : GT} {A : Nat → Prop} {S : Mem} {pc : Nat} {ls : Array Slot} {rest : List Value}
theorem Cx.fix (X : Cx p s m args meth c cc nL own G A) : CallFix p m c cc nL s args lwA own := ⟨X.1, X.2.1, X.2.2.1, X.2.2.2.1, X.2.2.2.2.1⟩
theorem Cx.hts (X : Cx p s m args meth c cc nL own G A) {w : Cond} (h : w ∈ lwA) : w.before args s = true := X.2.2.2.2.1 w h
theorem Cx.nw (X : Cx p s m args meth c cc nL own G A) {w : Cond} (h : w ∈ nwl) : va_Nw w s := X.2.2.2.2.2.2.1.1 w h
theorem Cx.nwu (X : Cx p s m args meth c cc nL own G A) {w : Cond} (h : w ∈ nwl) : w.before args s = true := va_Nw.use (nw_on (nw_form h)) (X.nw h)
/-- fields -/
theorem r_getI (X : Cx p s m args meth c cc nL own G A) (h : Hx G A s.heap H locs S) {a kd : Nat} (hk : isK S a kd) {C ref : String} {T : u_T} {N ix : Nat} (k : Nat) (hkd : kd < 8) (hc : vcl[kd]? = some (C, T, N)) (hin : ∀ w ∈ u_ws C T N, w ∈ lwA) (hkN : k < N) (hv : (slv S a 0 (lay kd))[k]? = some (.int (mI S a k))) (hl : Cond.fieldLink own ix C (T k).2.1 (T k).2.2.1 ∈ lwA) (hC : (T k).1 = C) (d : decode cc pc = .ok (.getfield ix, 3))
    (kk : W p l e R s m args below meth c H locs cells slots Q (F0 m (pc + 3) ls (.int (mI S a k) :: rest))) : W p l e R s m args below meth c H locs cells slots Q (F0 m pc ls (.ref a :: rest)) := by
  obtain ⟨q, hq⟩ := wl_at (G := G) hk.1
  rw [cel_o hk.2 hkd] at hq
  exact va_get X.1 X.2.1 X.2.2.2.2.1 hin X.2.2.2.1 X.2.2.2.2.2.1 h.1 q hq hc k hkN (X.hts hl) (fun x hx => by rw [hC] at hx; exact hx) hv d kk
theorem r_getJ (X : Cx p s m args meth c cc nL own G A) (h : Hx G A s.heap H locs S) {a kd : Nat} (hk : isK S a kd) {C ref : String} {T : u_T} {N ix : Nat} (k : Nat) (hkd : kd < 8) (hc : vcl[kd]? = some (C, T, N)) (hin : ∀ w ∈ u_ws C T N, w ∈ lwA) (hkN : k < N) (hv : (slv S a 0 (lay kd))[k]? = some (.long (mJ S a k))) (hl : Cond.fieldLink own ix C (T k).2.1 (T k).2.2.1 ∈ lwA) (hC : (T k).1 = C) (d : decode cc pc = .ok (.getfield ix, 3))
    (kk : W p l e R s m args below meth c H locs cells slots Q (F0 m (pc + 3) ls (.long (mJ S a k) :: rest))) : W p l e R s m args below meth c H locs cells slots Q (F0 m pc ls (.ref a :: rest)) := by
  obtain ⟨q, hq⟩ := wl_at (G := G) hk.1
  rw [cel_o hk.2 hkd] at hq
  exact va_get X.1 X.2.1 X.2.2.2.2.1 hin X.2.2.2.1 X.2.2.2.2.2.1 h.1 q hq hc k hkN (X.hts hl) (fun x hx => by rw [hC] at hx; exact hx) hv d kk
theorem r_getR (X : Cx p s m args meth c cc nL own G A) (h : Hx G A s.heap H locs S) {a kd y : Nat} (hk : isK S a kd) {C ref : String} {T : u_T} {N ix : Nat} (k : Nat) (hy : mR S a k = some y) (hkd : kd < 8) (hc : vcl[kd]? = some (C, T, N)) (hin : ∀ w ∈ u_ws C T N, w ∈ lwA) (hkN : k < N) (hv : (slv S a 0 (lay kd))[k]? = some (va_rf (mR S a k))) (hl : Cond.fieldLink own ix C (T k).2.1 (T k).2.2.1 ∈ lwA) (hC : (T k).1 = C) (d : decode cc pc = .ok (.getfield ix, 3))
    (kk : W p l e R s m args below meth c H locs cells slots Q (F0 m (pc + 3) ls (.ref y :: rest))) : W p l e R s m args below meth c H locs cells slots Q (F0 m pc ls (.ref a :: rest)) := by
  obtain ⟨q, hq⟩ := wl_at (G := G) hk.1
  rw [cel_o hk.2 hkd] at hq
  rw [hy] at hv
  exact va_get X.1 X.2.1 X.2.2.2.2.1 hin X.2.2.2.1 X.2.2.2.2.2.1 h.1 q hq hc k hkN (X.hts hl) (fun x hx => by rw [hC] at hx; exact hx) hv d kk
/-- a nest mate's fields -/
theorem r_getIN (X : Cx p s m args meth c cc nL own G A) (h : Hx G A s.heap H locs S) {a kd : Nat} (hk : isK S a kd) {C host : String} {T : u_T} {N ix : Nat} (k : Nat) (hkd : kd < 8) (hc : vcl[kd]? = some (C, T, N)) (hin : ∀ w ∈ u_ws C T N, w ∈ lwA) (hkN : k < N) (hv : (slv S a 0 (lay kd))[k]? = some (.int (mI S a k))) (hl : Cond.fieldLinkNest own ix C (T k).2.1 (T k).2.2.1 host ∈ nwl) (hC : (T k).1 = C) (d : decode cc pc = .ok (.getfield ix, 3))
    (kk : W p l e R s m args below meth c H locs cells slots Q (F0 m (pc + 3) ls (.int (mI S a k) :: rest))) : W p l e R s m args below meth c H locs cells slots Q (F0 m pc ls (.ref a :: rest)) := by
  obtain ⟨q, hq⟩ := wl_at (G := G) hk.1
  rw [cel_o hk.2 hkd] at hq
  exact va_getN X.1 X.2.1 X.2.2.2.2.1 hin X.2.2.2.1 X.2.2.2.2.2.1 h.1 q hq hc k hkN (X.nwu hl) (fun x hx => by rw [hC] at hx; exact hx) hv d kk
theorem r_getRN (X : Cx p s m args meth c cc nL own G A) (h : Hx G A s.heap H locs S) {a kd y : Nat} (hk : isK S a kd) {C host : String} {T : u_T} {N ix : Nat} (k : Nat) (hy : mR S a k = some y) (hkd : kd < 8) (hc : vcl[kd]? = some (C, T, N)) (hin : ∀ w ∈ u_ws C T N, w ∈ lwA) (hkN : k < N) (hv : (slv S a 0 (lay kd))[k]? = some (va_rf (mR S a k))) (hl : Cond.fieldLinkNest own ix C (T k).2.1 (T k).2.2.1 host ∈ nwl) (hC : (T k).1 = C) (d : decode cc pc = .ok (.getfield ix, 3))
    (kk : W p l e R s m args below meth c H locs cells slots Q (F0 m (pc + 3) ls (.ref y :: rest))) : W p l e R s m args below meth c H locs cells slots Q (F0 m pc ls (.ref a :: rest)) := by
  obtain ⟨q, hq⟩ := wl_at (G := G) hk.1
  rw [cel_o hk.2 hkd] at hq
  rw [hy] at hv
  exact va_getN X.1 X.2.1 X.2.2.2.2.1 hin X.2.2.2.1 X.2.2.2.2.2.1 h.1 q hq hc k hkN (X.nwu hl) (fun x hx => by rw [hC] at hx; exact hx) hv d kk
theorem r_putI (X : Cx p s m args meth c cc nL own G A) (h : Hx G A s.heap H locs S) {a kd : Nat} (hk : isK S a kd) {C : String} {T : u_T} {N ix : Nat} (k : Nat) {v : Int32} (hkd : kd < 8) (hc : vcl[kd]? = some (C, T, N)) (hin : ∀ w ∈ u_ws C T N, w ∈ lwA) (ty0 : Nat → FieldType) (hty : ∀ k, k < N → parseFieldDescriptor (T k).2.2.1 = some (ty0 k)) (hnm : ∀ a, a < N → ∀ b, b < N → a ≠ b → (T a).2.1 ≠ (T b).2.1) (hkN : k < N) (ht : (lay kd)[k]? = some 0) (hll : k < (slv S a 0 (lay kd)).length) (hl : Cond.fieldLink own ix C (T k).2.1 (T k).2.2.1 ∈ lwA) (hC : (T k).1 = C) (hfin : (T k).2.2.2 = false) {ty : FieldType} (hd : parseFieldDescriptor (T k).2.2.1 = some ty) (hn : narrow ty (.int v) = .int v) (hf : fits ty (.int v) = true) (d : decode cc pc = .ok (.putfield ix, 3))
    (kk : ∀ (H1 : Heap) (locs1 : List Loc), Hx G A s.heap H1 locs1 (sI S a k v) → W p l e R s m args below meth c H1 locs1 cells slots Q (F0 m (pc + 3) ls rest)) : W p l e R s m args below meth c H locs cells slots Q (F0 m pc ls (.int v :: .ref a :: rest)) := by
  obtain ⟨q, hq⟩ := wl_at (G := G) hk.1
  have e9 := put_I (v := v) h.2.1 hk hkd hq ht
  rw [cel_o hk.2 hkd] at hq
  refine va_put X.1 X.2.1 X.2.2.2.2.1 hin ty0 hty hnm X.2.2.2.1 X.2.2.2.2.2.1 h.1 h.2.1 h.2.2 q hq hc k hkN (X.hts hl) (fun x hx => by rw [hC] at hx; exact hx) hfin hd hn hf hll d (fun H1 locs1 hP hD hS => ?_)
  rw [e9] at hP hD
  exact kk H1 locs1 ⟨hP, hD, hS⟩
theorem r_putJ (X : Cx p s m args meth c cc nL own G A) (h : Hx G A s.heap H locs S) {a kd : Nat} (hk : isK S a kd) {C : String} {T : u_T} {N ix : Nat} (k : Nat) {v : Int64} (hkd : kd < 8) (hc : vcl[kd]? = some (C, T, N)) (hin : ∀ w ∈ u_ws C T N, w ∈ lwA) (ty0 : Nat → FieldType) (hty : ∀ k, k < N → parseFieldDescriptor (T k).2.2.1 = some (ty0 k)) (hnm : ∀ a, a < N → ∀ b, b < N → a ≠ b → (T a).2.1 ≠ (T b).2.1) (hkN : k < N) (ht : (lay kd)[k]? = some 1) (hll : k < (slv S a 0 (lay kd)).length) (hl : Cond.fieldLink own ix C (T k).2.1 (T k).2.2.1 ∈ lwA) (hC : (T k).1 = C) (hfin : (T k).2.2.2 = false) (hd : parseFieldDescriptor (T k).2.2.1 = some .long) (hn : narrow .long (.long v) = .long v) (hf : fits .long (.long v) = true) (d : decode cc pc = .ok (.putfield ix, 3))
    (kk : ∀ (H1 : Heap) (locs1 : List Loc), Hx G A s.heap H1 locs1 (sJ S a k v) → W p l e R s m args below meth c H1 locs1 cells slots Q (F0 m (pc + 3) ls rest)) : W p l e R s m args below meth c H locs cells slots Q (F0 m pc ls (.long v :: .ref a :: rest)) := by
  obtain ⟨q, hq⟩ := wl_at (G := G) hk.1
  have e9 := put_J (v := v) h.2.1 hk hkd hq ht
  rw [cel_o hk.2 hkd] at hq
  refine va_put X.1 X.2.1 X.2.2.2.2.1 hin ty0 hty hnm X.2.2.2.1 X.2.2.2.2.2.1 h.1 h.2.1 h.2.2 q hq hc k hkN (X.hts hl) (fun x hx => by rw [hC] at hx; exact hx) hfin hd hn hf hll d (fun H1 locs1 hP hD hS => ?_)
  rw [e9] at hP hD
  exact kk H1 locs1 ⟨hP, hD, hS⟩
/-- final fields, in a constructor -/
theorem r_putIF (X : Cx p s m args meth c cc nL own G A) (h : Hx G A s.heap H locs S) {a kd : Nat} (hk : isK S a kd) {C : String} {T : u_T} {N ix : Nat} (k : Nat) {v : Int32} (hkd : kd < 8) (hc : vcl[kd]? = some (C, T, N)) (hin : ∀ w ∈ u_ws C T N, w ∈ lwA) (ty0 : Nat → FieldType) (hty : ∀ k, k < N → parseFieldDescriptor (T k).2.2.1 = some (ty0 k)) (hnm : ∀ a, a < N → ∀ b, b < N → a ≠ b → (T a).2.1 ≠ (T b).2.1) (hkN : k < N) (ht : (lay kd)[k]? = some 0) (hll : k < (slv S a 0 (lay kd)).length) (hl : Cond.fieldLink own ix C (T k).2.1 (T k).2.2.1 ∈ lwA) (hC : (T k).1 = C) (hfin : (T k).2.2.2 = true) (hin2 : meth.name = "<init>") (hown : (T k).1 = own) {ty : FieldType} (hd : parseFieldDescriptor (T k).2.2.1 = some ty) (hn : narrow ty (.int v) = .int v) (hf : fits ty (.int v) = true) (d : decode cc pc = .ok (.putfield ix, 3))
    (kk : ∀ (H1 : Heap) (locs1 : List Loc), Hx G A s.heap H1 locs1 (sI S a k v) → W p l e R s m args below meth c H1 locs1 cells slots Q (F0 m (pc + 3) ls rest)) : W p l e R s m args below meth c H locs cells slots Q (F0 m pc ls (.int v :: .ref a :: rest)) := by
  obtain ⟨q, hq⟩ := wl_at (G := G) hk.1
  have e9 := put_I (v := v) h.2.1 hk hkd hq ht
  rw [cel_o hk.2 hkd] at hq
  refine va_putF X.1 X.2.1 X.2.2.2.2.1 hin ty0 hty hnm X.2.2.2.1 X.2.2.2.2.2.1 h.1 h.2.1 h.2.2 q hq hc k hkN (X.hts hl) (fun x hx => by rw [hC] at hx; exact hx) hfin hin2 hown hd hn hf hll d (fun H1 locs1 hP hD hS => ?_)
  rw [e9] at hP hD
  exact kk H1 locs1 ⟨hP, hD, hS⟩
theorem r_putRF (X : Cx p s m args meth c cc nL own G A) (h : Hx G A s.heap H locs S) {a kd y : Nat} (hk : isK S a kd) {C : String} {T : u_T} {N ix : Nat} (k : Nat) (hkd : kd < 8) (hc : vcl[kd]? = some (C, T, N)) (hin : ∀ w ∈ u_ws C T N, w ∈ lwA) (ty0 : Nat → FieldType) (hty : ∀ k, k < N → parseFieldDescriptor (T k).2.2.1 = some (ty0 k)) (hnm : ∀ a, a < N → ∀ b, b < N → a ≠ b → (T a).2.1 ≠ (T b).2.1) (hkN : k < N) (ht : (lay kd)[k]? = some 2) (hll : k < (slv S a 0 (lay kd)).length) (hl : Cond.fieldLink own ix C (T k).2.1 (T k).2.2.1 ∈ lwA) (hC : (T k).1 = C) (hfin : (T k).2.2.2 = true) (hin2 : meth.name = "<init>") (hown : (T k).1 = own) {ty : FieldType} (hd : parseFieldDescriptor (T k).2.2.1 = some ty) (hn : narrow ty (.ref y) = .ref y) (hf : fits ty (.ref y) = true) (d : decode cc pc = .ok (.putfield ix, 3))
    (kk : ∀ (H1 : Heap) (locs1 : List Loc), Hx G A s.heap H1 locs1 (sR S a k (some y)) → W p l e R s m args below meth c H1 locs1 cells slots Q (F0 m (pc + 3) ls rest)) : W p l e R s m args below meth c H locs cells slots Q (F0 m pc ls (.ref y :: .ref a :: rest)) := by
  obtain ⟨q, hq⟩ := wl_at (G := G) hk.1
  have e9 := put_R (v := some y) h.2.1 hk hkd hq ht
  rw [cel_o hk.2 hkd] at hq
  refine va_putF X.1 X.2.1 X.2.2.2.2.1 hin ty0 hty hnm X.2.2.2.1 X.2.2.2.2.2.1 h.1 h.2.1 h.2.2 q hq hc k hkN (X.hts hl) (fun x hx => by rw [hC] at hx; exact hx) hfin hin2 hown hd hn hf hll d (fun H1 locs1 hP hD hS => ?_)
  have hP : va_P G.1 vcl (wl G (sR S a k (some y))) H1 := e9 ▸ hP
  have hD : va_D A (wl G (sR S a k (some y))) := e9 ▸ hD
  exact kk H1 locs1 ⟨hP, hD, hS⟩
/-- arrays -/
theorem r_iald (X : Cx p s m args meth c cc nL own G A) (h : Hx G A s.heap H locs S) {a : Nat} (hk : isK S a 8) {i : Int32} (hi : vp_in i (mN S a)) (d : decode cc pc = .ok (.iaload, 1))
    (kk : W p l e R s m args below meth c H locs cells slots Q (F0 m (pc + 1) ls (.int (mI S a i.toNatClampNeg) :: rest))) : W p l e R s m args below meth c H locs cells slots Q (F0 m pc ls (.int i :: .ref a :: rest)) := by
  obtain ⟨q, hq⟩ := wl_at (G := G) hk.1
  rw [cel_a hk.2 (by decide)] at hq
  exact va_iald X.1 X.2.1 X.2.2.2.2.2.1 h.1 q 0 hq rfl hi d kk
theorem r_zald (X : Cx p s m args meth c cc nL own G A) (h : Hx G A s.heap H locs S) {a : Nat} (hk : isK S a 9) {i : Int32} (hi : vp_in i (mN S a)) (d : decode cc pc = .ok (.baload, 1))
    (kk : W p l e R s m args below meth c H locs cells slots Q (F0 m (pc + 1) ls (.int (mI S a i.toNatClampNeg) :: rest))) : W p l e R s m args below meth c H locs cells slots Q (F0 m pc ls (.int i :: .ref a :: rest)) := by
  obtain ⟨q, hq⟩ := wl_at (G := G) hk.1
  rw [cel_a hk.2 (by decide)] at hq
  exact va_zald X.1 X.2.1 X.2.2.2.2.2.1 h.1 q 1 hq rfl hi d kk
theorem r_lald (X : Cx p s m args meth c cc nL own G A) (h : Hx G A s.heap H locs S) {a : Nat} (hk : isK S a 12) {i : Int32} (hi : vp_in i (mN S a)) (d : decode cc pc = .ok (.laload, 1))
    (kk : W p l e R s m args below meth c H locs cells slots Q (F0 m (pc + 1) ls (.long (mJ S a i.toNatClampNeg) :: rest))) : W p l e R s m args below meth c H locs cells slots Q (F0 m pc ls (.int i :: .ref a :: rest)) := by
  obtain ⟨q, hq⟩ := wl_at (G := G) hk.1
  rw [cel_a hk.2 (by decide)] at hq
  exact va_lald X.1 X.2.1 X.2.2.2.2.2.1 h.1 q 4 hq rfl hi d kk
theorem r_dald (X : Cx p s m args meth c cc nL own G A) (h : Hx G A s.heap H locs S) {a : Nat} (hk : isK S a 13) {i : Int32} (hi : vp_in i (mN S a)) (d : decode cc pc = .ok (.daload, 1))
    (kk : W p l e R s m args below meth c H locs cells slots Q (F0 m (pc + 1) ls (.double (mD S a i.toNatClampNeg) :: rest))) : W p l e R s m args below meth c H locs cells slots Q (F0 m pc ls (.int i :: .ref a :: rest)) := by
  obtain ⟨q, hq⟩ := wl_at (G := G) hk.1
  rw [cel_a hk.2 (by decide)] at hq
  exact va_dald X.1 X.2.1 X.2.2.2.2.2.1 h.1 q 5 hq rfl hi d kk
theorem r_aldJob (X : Cx p s m args meth c cc nL own G A) (h : Hx G A s.heap H locs S) {a : Nat} (hk : isK S a 10) {i : Int32} (hi : vp_in i (mN S a)) {r : Option Nat} (hr : mR S a i.toNatClampNeg = r) (d : decode cc pc = .ok (.aaload, 1))
    (kk : W p l e R s m args below meth c H locs cells slots Q (F0 m (pc + 1) ls (va_rf r :: rest))) : W p l e R s m args below meth c H locs cells slots Q (F0 m pc ls (.int i :: .ref a :: rest)) := by
  obtain ⟨q, hq⟩ := wl_at (G := G) hk.1
  rw [cel_a hk.2 (by decide)] at hq
  subst hr
  exact va_aldq X.1 X.2.1 X.2.2.2.2.2.1 h.1 q 2 hq rfl hi d kk
theorem r_aldLot (X : Cx p s m args meth c cc nL own G A) (h : Hx G A s.heap H locs S) {a : Nat} (hk : isK S a 11) {i : Int32} (hi : vp_in i (mN S a)) {r : Option Nat} (hr : mR S a i.toNatClampNeg = r) (d : decode cc pc = .ok (.aaload, 1))
    (kk : W p l e R s m args below meth c H locs cells slots Q (F0 m (pc + 1) ls (va_rf r :: rest))) : W p l e R s m args below meth c H locs cells slots Q (F0 m pc ls (.int i :: .ref a :: rest)) := by
  obtain ⟨q, hq⟩ := wl_at (G := G) hk.1
  rw [cel_a hk.2 (by decide)] at hq
  subst hr
  exact va_aldq X.1 X.2.1 X.2.2.2.2.2.1 h.1 q 3 hq rfl hi d kk
theorem r_iast (X : Cx p s m args meth c cc nL own G A) (h : Hx G A s.heap H locs S) {a : Nat} (hk : isK S a 8) {i x : Int32} (hi : vp_in i (mN S a)) (d : decode cc pc = .ok (.iastore, 1))
    (kk : ∀ (H1 : Heap) (locs1 : List Loc), Hx G A s.heap H1 locs1 (sI S a i.toNatClampNeg x) → W p l e R s m args below meth c H1 locs1 cells slots Q (F0 m (pc + 1) ls rest)) : W p l e R s m args below meth c H locs cells slots Q (F0 m pc ls (.int x :: .int i :: .ref a :: rest)) := by
  obtain ⟨q, hq⟩ := wl_at (G := G) hk.1
  have e9 := put_aI (v := x) (k := i.toNatClampNeg) h.2.1 hk (Or.inl rfl) hq
  rw [cel_a hk.2 (by decide)] at hq
  refine va_iast X.1 X.2.1 X.2.2.2.2.2.1 h.1 h.2.1 h.2.2 q 0 hq rfl hi d (fun H1 locs1 hP hD hS => ?_)
  exact kk H1 locs1 ⟨e9 ▸ hP, e9 ▸ hD, hS⟩
theorem r_zast (X : Cx p s m args meth c cc nL own G A) (h : Hx G A s.heap H locs S) {a : Nat} (hk : isK S a 9) {i x : Int32} (hi : vp_in i (mN S a)) (d : decode cc pc = .ok (.bastore, 1))
    (kk : ∀ (H1 : Heap) (locs1 : List Loc), Hx G A s.heap H1 locs1 (sI S a i.toNatClampNeg (vp_nar .boolean x)) → W p l e R s m args below meth c H1 locs1 cells slots Q (F0 m (pc + 1) ls rest)) : W p l e R s m args below meth c H locs cells slots Q (F0 m pc ls (.int x :: .int i :: .ref a :: rest)) := by
  obtain ⟨q, hq⟩ := wl_at (G := G) hk.1
  have e9 := put_aI (v := vp_nar .boolean x) (k := i.toNatClampNeg) h.2.1 hk (Or.inr rfl) hq
  rw [cel_a hk.2 (by decide)] at hq
  refine va_zast X.1 X.2.1 X.2.2.2.2.2.1 h.1 h.2.1 h.2.2 q 1 hq rfl hi d (fun H1 locs1 hP hD hS => ?_)
  exact kk H1 locs1 ⟨e9 ▸ hP, e9 ▸ hD, hS⟩
theorem r_last (X : Cx p s m args meth c cc nL own G A) (h : Hx G A s.heap H locs S) {a : Nat} (hk : isK S a 12) {i : Int32} {x : Int64} (hi : vp_in i (mN S a)) (d : decode cc pc = .ok (.lastore, 1))
    (kk : ∀ (H1 : Heap) (locs1 : List Loc), Hx G A s.heap H1 locs1 (sJ S a i.toNatClampNeg x) → W p l e R s m args below meth c H1 locs1 cells slots Q (F0 m (pc + 1) ls rest)) : W p l e R s m args below meth c H locs cells slots Q (F0 m pc ls (.long x :: .int i :: .ref a :: rest)) := by
  obtain ⟨q, hq⟩ := wl_at (G := G) hk.1
  have e9 := put_aJ (v := x) (k := i.toNatClampNeg) h.2.1 hk hq
  rw [cel_a hk.2 (by decide)] at hq
  refine va_last X.1 X.2.1 X.2.2.2.2.2.1 h.1 h.2.1 h.2.2 q 4 hq rfl hi d (fun H1 locs1 hP hD hS => ?_)
  exact kk H1 locs1 ⟨e9 ▸ hP, e9 ▸ hD, hS⟩
theorem r_alen (X : Cx p s m args meth c cc nL own G A) (h : Hx G A s.heap H locs S) {a kd : Nat} (hk : isK S a kd) (hkd : 8 ≤ kd ∧ kd < 14) (d : decode cc pc = .ok (.arraylength, 1))
    (kk : W p l e R s m args below meth c H locs cells slots Q (F0 m (pc + 1) ls (.int (nI (mN S a)) :: rest))) : W p l e R s m args below meth c H locs cells slots Q (F0 m pc ls (.ref a :: rest)) := by
  obtain ⟨q, hq⟩ := wl_at (G := G) hk.1
  rw [cel_a hk.2 (by omega)] at hq
  have h2 : kd = 8 ∨ kd = 9 ∨ kd = 10 ∨ kd = 11 ∨ kd = 12 ∨ kd = 13 := by omega
  rcases h2 with rfl | rfl | rfl | rfl | rfl | rfl
  · exact va_alen X.1 X.2.1 X.2.2.2.2.2.1 h.1 q 0 hq rfl rfl d kk
  · exact va_alen X.1 X.2.1 X.2.2.2.2.2.1 h.1 q 1 hq rfl rfl d kk
  · exact va_alen X.1 X.2.1 X.2.2.2.2.2.1 h.1 q 2 hq rfl rfl d kk
  · exact va_alen X.1 X.2.1 X.2.2.2.2.2.1 h.1 q 3 hq rfl rfl d kk
  · exact va_alen X.1 X.2.1 X.2.2.2.2.2.1 h.1 q 4 hq rfl rfl d kk
  · exact va_alen X.1 X.2.1 X.2.2.2.2.2.1 h.1 q 5 hq rfl rfl d kk
end RW
section RC
variable {p : Program} {l : Launch} {e : Env} {R : Room} {s : State} {m : MethodId} {args : Array Value} {below : List Frame} {meth : Method} {c : Code} {H : Heap} {locs : List Loc} {cells slots : Nat} {Q : State → Prop}
variable {cc : ByteArray} {nL : Nat} {own : String} {G : GT} {A : Nat → Prop} {S : Mem} {pc : Nat} {ls : Array Slot} {rest st0 : List Value} {mc ms : Nat} {rm : Room} {y : MethodName} {bytes : ByteArray} {maxL index n : Nat} {ret : Option FieldType} {ws : List Cond}
variable {α : Type} {emb : α → Option Value} {post : α → Mem → Prop} {postX : Nat → Mem → Prop} {As : List Value}
theorem hx_in (X : Cx p s m args meth c cc nL own G A) (h : Hx G A s.heap H locs S) : ∀ q, va_A (wl G S) H.size q → A q := fun q hq => by
  rcases hq with ⟨k, e, hk⟩ | hq
  · exact h.2.1.2 k _ hk
  · exact X.2.2.2.2.2.2.2.1 q (Nat.le_trans h.2.2.1 hq)
theorem pre_at (X : Cx p s m args meth c cc nL own G A) (h : Hx G A s.heap H locs S) {av : List Value} : ∀ U : State, U.heap = H → s.WarmedH U.vm → Pre0 G S av H.size av.toArray U := fun U hU hW =>
  ⟨rfl, by rw [hU], ⟨by rw [hU]; exact h.1, va_K.moved hW.alike X.2.2.2.2.2.1, h.2.1.weaken (fun _ _ _ _ => trivial)⟩, by rw [hU]; exact ((X.2.2.2.2.2.2.1.kept (fun a h1 h2 => h.2.2.2.1 a h1 h2)).narrow (hx_in X h)).warm hW⟩
theorem hx_S (X : Cx p s m args meth c cc nL own G A) (h : Hx G A s.heap H locs S) {st₀ t T' : State} {L : List Loc} (h0 : st₀.heap = H) (e1 : T'.heap = t.heap) (hL : ∀ q ∈ L, va_A (wl G S) H.size q.base) (hF : va_F (va_A (wl G S) H.size) st₀ t) : va_S A s.heap T'.heap (locs ++ L) := by
  obtain ⟨hz, hk⟩ := hF
  rw [h0] at hz hk
  refine ⟨Nat.le_trans h.2.2.1 (by rw [e1]; exact hz), fun q h1 h2 => ?_, fun q hq => ?_⟩
  · rw [e1, hk q (Nat.lt_of_lt_of_le h1 h.2.2.1) (fun z => h2 (hx_in X h q z))]
    exact h.2.2.2.1 q h1 h2
  · rcases List.mem_append.mp hq with hq | hq
    · exact h.2.2.2.2 q hq
    · exact hx_in X h _ (hL q hq)
theorem rc_core (X : Cx p s m args meth c cc nL own G A) (h : Hx G A s.heap H locs S) {av : Array Value}
    (hr : va_Run p l e R s m args below meth c H locs cells slots mc ms (F0 m pc ls st0) rest (QN emb post G (va_A (wl G S) H.size) av) (va_A (wl G S) H.size))
    (kk : ∀ (r : α) (S' : Mem) (H1 : Heap) (locs1 : List Loc), post r S' → Hx G A s.heap H1 locs1 S' → W p l e R s m args below meth c H1 locs1 (cells + mc) (slots + ms) Q (F0 m (pc + 3) ls ((emb r).toList ++ rest))) : W p l e R s m args below meth c H locs cells slots Q (F0 m pc ls st0) := by
  intro T hT XX
  obtain ⟨v, st₀, t, T', L, h0, X', hL, e1, e2, ⟨⟨r, S', hv, hp, hW⟩, hF⟩, st⟩ := hr T hT XX
  obtain rfl : v = emb r := by injection hv
  obtain ⟨t2, a1, b1⟩ := kk r S' T'.heap (locs ++ L) hp ⟨by rw [e1]; exact hW.1, hW.2.2.weaken (fun _ _ _ hq => hx_in X h _ hq), hx_S X h h0 e1 hL hF⟩ T' rfl X'
  exact ⟨t2, st t2 a1, b1⟩
theorem rx_core (X : Cx p s m args meth c cc nL own G A) (h : Hx G A s.heap H locs S) {av : Array Value}
    (hr : vx_Run p l e R s m args below meth c H locs cells slots mc ms (F0 m pc ls st0) rest (QN emb post G (va_A (wl G S) H.size) av) (QX postX G (va_A (wl G S) H.size)) (va_A (wl G S) H.size))
    (kx : ∀ (k : Nat) (S' : Mem) (H1 : Heap) (locs1 : List Loc) (q9 : Addr) (ce : Cell), postX k S' → Hx G A s.heap H1 locs1 S' → H1[q9]? = some ce → ce.vm = .none → s.vm.findClass (xn k) = some ce.cls → vx_W p l e R s m args below meth c H1 locs1 (cells + mc) (slots + ms) Q (F0 m pc ls rest) q9)
    (kk : ∀ (r : α) (S' : Mem) (H1 : Heap) (locs1 : List Loc), post r S' → Hx G A s.heap H1 locs1 S' → W p l e R s m args below meth c H1 locs1 (cells + mc) (slots + ms) Q (F0 m (pc + 3) ls ((emb r).toList ++ rest))) : W p l e R s m args below meth c H locs cells slots Q (F0 m pc ls st0) := by
  intro T hT XX
  rcases hr T hT XX with ⟨v, st₀, t, T', L, h0, X', hL, e1, e2, ⟨⟨r, S', hv, hp, hW⟩, hF⟩, st⟩ | ⟨q, st₀, t, T', L, E, ce, h0, X', hL, e1, e2, ⟨k, S', rfl, hp, hW, hF⟩, hce, hcv, hcl, st⟩
  · obtain rfl : v = emb r := by injection hv
    obtain ⟨t2, a1, b1⟩ := kk r S' T'.heap (locs ++ L) hp ⟨by rw [e1]; exact hW.1, hW.2.2.weaken (fun _ _ _ hq => hx_in X h _ hq), hx_S X h h0 e1 hL hF⟩ T' rfl X'
    exact ⟨t2, st t2 a1, b1⟩
  · obtain ⟨t2, a1, b1⟩ := kx k S' T'.heap (locs ++ L) q ce hp ⟨by rw [e1]; exact hW.1, hW.2.2.weaken (fun _ _ _ hq => hx_in X h _ hq), hx_S X h h0 e1 hL hF⟩ (by rw [e1]; exact hce) hcv hcl T' rfl X'
    exact ⟨t2, st.trans a1, b1⟩
theorem rv_pre (X : Cx p s m args meth c cc nL own G A) (h : Hx G A s.heap H locs S) {b kd : Nat} {C : String} {T : u_T} {N : Nat} (hk : isK S b kd) (hkd : kd < 8) (hc : vcl[kd]? = some (C, T, N)) : PreV s H C b (Pre0 G S (.ref b :: As) H.size) As := by
  obtain ⟨q, hq⟩ := wl_at (G := G) hk.1
  rw [cel_o hk.2 hkd] at hq
  exact ⟨Pre0_blind, va_recv X.2.2.2.2.2.1 h.1 hc hq, pre_at X h⟩
/-- calls -/
theorem rc_V (X : Cx p s m args meth c cc nL own G A) (h : Hx G A s.heap H locs S) {b kd : Nat} {C : String} {T : u_T} {N : Nat} (hk : isK S b kd) (hkd : kd < 8) (hc : vcl[kd]? = some (C, T, N)) (hM : CN emb l y (wsU y bytes maxL ret) rm mc ms G (.ref b :: As) S post) (hG : GoodIn lwA (wsV own index C y (wsU y bytes maxL ret))) (hrc : rm.cells = mc) (hrs : rm.slots = ms)
    (hd : y.cls = C ∧ y.cls ≠ "java/lang/invoke/MethodHandle" ∧ y.cls ≠ "java/lang/invoke/VarHandle" ∧ (parseMethodDescriptor y.desc).map (fun d => d.parameters.length) = some n) (hn : As.length = n) (hR : rm.frames + 1 ≤ R.frames ∧ 8 + (maxL + 11) + rm.locals ≤ R.locals) (hls : ls.size = nL) (hst : st0 = As.reverse ++ .ref b :: rest) (hW : (rest.map fun v => v.category).sum ≤ 8) (hf : cells + mc ≤ R.cells ∧ slots + ms ≤ R.slots) (d : decode cc pc = .ok (.invokevirtual index, 3))
    (kk : ∀ (r : α) (S' : Mem) (H1 : Heap) (locs1 : List Loc), post r S' → Hx G A s.heap H1 locs1 S' → W p l e R s m args below meth c H1 locs1 (cells + mc) (slots + ms) Q (F0 m (pc + 3) ls ((emb r).toList ++ rest))) : W p l e R s m args below meth c H locs cells slots Q (F0 m pc ls st0) :=
  rc_core X h (va_runV (X.fix) (hM H.size) (cwV n X.2.2.2.2.1 hG rfl hrc hrs hd hR) (rv_pre X h hk hkd hc) rfl hn hls hst (lv_room hW) d hf) kk
theorem rc_S (X : Cx p s m args meth c cc nL own G A) (h : Hx G A s.heap H locs S) (hM : CN emb l y (wsU y bytes maxL ret) rm mc ms G As S post) (hG : GoodIn lwA (va_wsS own index y (wsU y bytes maxL ret))) (hrc : rm.cells = mc) (hrs : rm.slots = ms)
    (hd : y.cls ≠ "java/lang/invoke/MethodHandle" ∧ y.cls ≠ "java/lang/invoke/VarHandle" ∧ (parseMethodDescriptor y.desc).map (fun d => d.parameters.length) = some n) (hn : As.length = n) (hR : rm.frames + 1 ≤ R.frames ∧ 8 + (maxL + 11) + rm.locals ≤ R.locals) (hls : ls.size = nL) (hst : st0 = As.reverse ++ rest) (hW : (rest.map fun v => v.category).sum ≤ 8) (hf : cells + mc ≤ R.cells ∧ slots + ms ≤ R.slots) (d : decode cc pc = .ok (.invokestatic index, 3))
    (kk : ∀ (r : α) (S' : Mem) (H1 : Heap) (locs1 : List Loc), post r S' → Hx G A s.heap H1 locs1 S' → W p l e R s m args below meth c H1 locs1 (cells + mc) (slots + ms) Q (F0 m (pc + 3) ls ((emb r).toList ++ rest))) : W p l e R s m args below meth c H locs cells slots Q (F0 m pc ls st0) :=
  rc_core X h (va_runS (X.fix) (hM H.size) (va_cwS n X.2.2.2.2.1 hG rfl hrc hrs hd hR) ⟨Pre0_blind, pre_at X h⟩ rfl hn hls hst (lv_room hW) d hf) kk
/-- a static method with handlers -/
theorem rc_H {hh : List (Nat × Nat × Nat × Nat)} (X : Cx p s m args meth c cc nL own G A) (h : Hx G A s.heap H locs S) (hM : CN emb l y (wsH y bytes maxL ret hh) rm mc ms G As S post) (hG : GoodIn lwA (va_wsS own index y (wsH y bytes maxL ret hh))) (hrc : rm.cells = mc) (hrs : rm.slots = ms)
    (hd : y.cls ≠ "java/lang/invoke/MethodHandle" ∧ y.cls ≠ "java/lang/invoke/VarHandle" ∧ (parseMethodDescriptor y.desc).map (fun d => d.parameters.length) = some n) (hn : As.length = n) (hR : rm.frames + 1 ≤ R.frames ∧ 8 + (maxL + 11) + rm.locals ≤ R.locals) (hls : ls.size = nL) (hst : st0 = As.reverse ++ rest) (hW : (rest.map fun v => v.category).sum ≤ 8) (hf : cells + mc ≤ R.cells ∧ slots + ms ≤ R.slots) (d : decode cc pc = .ok (.invokestatic index, 3))
    (kk : ∀ (r : α) (S' : Mem) (H1 : Heap) (locs1 : List Loc), post r S' → Hx G A s.heap H1 locs1 S' → W p l e R s m args below meth c H1 locs1 (cells + mc) (slots + ms) Q (F0 m (pc + 3) ls ((emb r).toList ++ rest))) : W p l e R s m args below meth c H locs cells slots Q (F0 m pc ls st0) :=
  rc_core X h (vx_runSW (X.fix) (hM H.size) (vx_cwSW n X.2.2.2.2.1 hG rfl hrc hrs hd hR) ⟨Pre0_blind, pre_at X h⟩ rfl hn hls hst (lv_room hW) d hf) kk
/-- a nest mate's private static method -/
theorem rc_SN {host : String} (X : Cx p s m args meth c cc nL own G A) (h : Hx G A s.heap H locs S) (hM : CN emb l y (wsU y bytes maxL ret) rm mc ms G As S post) (hG : GoodIn lwA (wsU y bytes maxL ret)) (hnw : Cond.methodLinkNest own index y host ∈ nwl) (hini : Cond.initialized y.cls ∈ lwA) (hstt : Cond.static y ∈ lwA) (hrc : rm.cells = mc) (hrs : rm.slots = ms)
    (hd : y.cls ≠ "java/lang/invoke/MethodHandle" ∧ y.cls ≠ "java/lang/invoke/VarHandle" ∧ (parseMethodDescriptor y.desc).map (fun d => d.parameters.length) = some n) (hn : As.length = n) (hR : rm.frames + 1 ≤ R.frames ∧ 8 + (maxL + 11) + rm.locals ≤ R.locals) (hls : ls.size = nL) (hst : st0 = As.reverse ++ rest) (hW : (rest.map fun v => v.category).sum ≤ 8) (hf : cells + mc ≤ R.cells ∧ slots + ms ≤ R.slots) (d : decode cc pc = .ok (.invokestatic index, 3))
    (kk : ∀ (r : α) (S' : Mem) (H1 : Heap) (locs1 : List Loc), post r S' → Hx G A s.heap H1 locs1 S' → W p l e R s m args below meth c H1 locs1 (cells + mc) (slots + ms) Q (F0 m (pc + 3) ls ((emb r).toList ++ rest))) : W p l e R s m args below meth c H locs cells slots Q (F0 m pc ls st0) :=
  rc_core X h (va_runSN (X.fix) (hM H.size) ⟨va_cnB n X.2.2.2.2.1 hG rfl hrc hrs (X.nw hnw) (X.hts hini) hd hR, X.hts hstt, trivial⟩ ⟨Pre0_blind, pre_at X h⟩ rfl hn hls hst (lv_room hW) d hf) kk
/-- constructors -/
theorem rc_I (X : Cx p s m args meth c cc nL own G A) (h : Hx G A s.heap H locs S) {b : Nat} (hM : CN emb l y (wsU y bytes maxL none) rm mc ms G (.ref b :: As) S post) (hG : GoodIn lwA (wsU y bytes maxL none)) (hini : Cond.initialized y.cls ∈ lwA) (hml : Cond.methodLink own index y ∈ lwA) (hin : Cond.instanceMethod y ∈ lwA) (hrc : rm.cells = mc) (hrs : rm.slots = ms) (hy1 : y.name = "<init>")
    (hd : y.cls ≠ "java/lang/invoke/MethodHandle" ∧ y.cls ≠ "java/lang/invoke/VarHandle" ∧ (parseMethodDescriptor y.desc).map (fun d => d.parameters.length) = some n) (hn : As.length = n) (hR : rm.frames + 1 ≤ R.frames ∧ 8 + (maxL + 11) + rm.locals ≤ R.locals) (hls : ls.size = nL) (hst : st0 = As.reverse ++ .ref b :: rest) (hW : (rest.map fun v => v.category).sum ≤ 8) (hf : cells + mc ≤ R.cells ∧ slots + ms ≤ R.slots) (d : decode cc pc = .ok (.invokespecial index, 3))
    (kk : ∀ (r : α) (S' : Mem) (H1 : Heap) (locs1 : List Loc), post r S' → Hx G A s.heap H1 locs1 S' → W p l e R s m args below meth c H1 locs1 (cells + mc) (slots + ms) Q (F0 m (pc + 3) ls ((emb r).toList ++ rest))) : W p l e R s m args below meth c H locs cells slots Q (F0 m pc ls st0) :=
  rc_core X h (va_runI (X.fix) (hM H.size) (cwI n X.2.2.2.2.1 hG rfl hrc hrs (X.hts hini) (X.hts hml) (X.hts hin) hy1 hd hR) ⟨Pre0_blind, pre_at X h⟩ rfl hn hls hst (lv_room hW) d hf) kk
/-- calls that may throw; here on to the caller -/
theorem rx_out {below : List Frame} {Qc : Array Value → State → Outcome → State → Prop} (X : Cx p s m args meth c cc nL own G A) (h : Hx G A s.heap H locs S) (hno : ∀ x ∈ c.exceptionTable.toList, False) {k : Nat} (hw : postX k S) {q9 : Addr} {ce : Cell} (hce : H[q9]? = some ce) (hcv : ce.vm = .none) (hcl : s.vm.findClass (xn k) = some ce.cls) (hc : cells ≤ mc) (hs : slots ≤ ms) :
    vx_W p l e R s m args below meth c H locs cells slots (vx_MQ below Qc (QX postX G A) args s mc ms A) (F0 m pc ls rest) q9 :=
  vx_out (fun x hx => (hno x hx).elim) X.2.2.2.2.2.2.2.2 hce hcv hcl (fun t ht ha => ⟨k, S, rfl, hw, ⟨by rw [ht]; exact h.1, va_K.moved ha X.2.2.2.2.2.1, h.2.1⟩, h.2.2.F ht⟩) h.2.2.2.2 hc hs
theorem rx_V {below : List Frame} {Qc : Array Value → State → Outcome → State → Prop} {Mc Ms : Nat} (X : Cx p s m args meth c cc nL own G A) (h : Hx G A s.heap H locs S) (hno : ∀ x ∈ c.exceptionTable.toList, False) {b kd : Nat} {C : String} {T : u_T} {N : Nat} (hk : isK S b kd) (hkd : kd < 8) (hc : vcl[kd]? = some (C, T, N)) (hM : CX emb l y (wsU y bytes maxL ret) rm mc ms G (.ref b :: As) S post postX) (hG : GoodIn lwA (wsV own index C y (wsU y bytes maxL ret))) (hrc : rm.cells = mc) (hrs : rm.slots = ms)
    (hd : y.cls = C ∧ y.cls ≠ "java/lang/invoke/MethodHandle" ∧ y.cls ≠ "java/lang/invoke/VarHandle" ∧ (parseMethodDescriptor y.desc).map (fun d => d.parameters.length) = some n) (hn : As.length = n) (hR : rm.frames + 1 ≤ R.frames ∧ 8 + (maxL + 11) + rm.locals ≤ R.locals) (hls : ls.size = nL) (hst : st0 = As.reverse ++ .ref b :: rest) (hW : (rest.map fun v => v.category).sum ≤ 8) (hf : cells + mc ≤ R.cells ∧ slots + ms ≤ R.slots) (hg : cells + mc ≤ Mc ∧ slots + ms ≤ Ms) (d : decode cc pc = .ok (.invokevirtual index, 3))
    (kk : ∀ (r : α) (S' : Mem) (H1 : Heap) (locs1 : List Loc), post r S' → Hx G A s.heap H1 locs1 S' → W p l e R s m args below meth c H1 locs1 (cells + mc) (slots + ms) (vx_MQ below Qc (QX postX G A) args s Mc Ms A) (F0 m (pc + 3) ls ((emb r).toList ++ rest))) : W p l e R s m args below meth c H locs cells slots (vx_MQ below Qc (QX postX G A) args s Mc Ms A) (F0 m pc ls st0) :=
  rx_core X h (vx_runV (X.fix) (hM H.size) (cwV n X.2.2.2.2.1 hG rfl hrc hrs hd hR) (rv_pre X h hk hkd hc) rfl hn hls hst (lv_room hW) d hf) (fun k S' H1 locs1 q9 ce hw h hce hcv hcl => rx_out X h hno hw hce hcv hcl hg.1 hg.2) kk
theorem rx_S {below : List Frame} {Qc : Array Value → State → Outcome → State → Prop} {Mc Ms : Nat} (X : Cx p s m args meth c cc nL own G A) (h : Hx G A s.heap H locs S) (hno : ∀ x ∈ c.exceptionTable.toList, False) (hM : CX emb l y (wsU y bytes maxL ret) rm mc ms G As S post postX) (hG : GoodIn lwA (va_wsS own index y (wsU y bytes maxL ret))) (hrc : rm.cells = mc) (hrs : rm.slots = ms)
    (hd : y.cls ≠ "java/lang/invoke/MethodHandle" ∧ y.cls ≠ "java/lang/invoke/VarHandle" ∧ (parseMethodDescriptor y.desc).map (fun d => d.parameters.length) = some n) (hn : As.length = n) (hR : rm.frames + 1 ≤ R.frames ∧ 8 + (maxL + 11) + rm.locals ≤ R.locals) (hls : ls.size = nL) (hst : st0 = As.reverse ++ rest) (hW : (rest.map fun v => v.category).sum ≤ 8) (hf : cells + mc ≤ R.cells ∧ slots + ms ≤ R.slots) (hg : cells + mc ≤ Mc ∧ slots + ms ≤ Ms) (d : decode cc pc = .ok (.invokestatic index, 3))
    (kk : ∀ (r : α) (S' : Mem) (H1 : Heap) (locs1 : List Loc), post r S' → Hx G A s.heap H1 locs1 S' → W p l e R s m args below meth c H1 locs1 (cells + mc) (slots + ms) (vx_MQ below Qc (QX postX G A) args s Mc Ms A) (F0 m (pc + 3) ls ((emb r).toList ++ rest))) : W p l e R s m args below meth c H locs cells slots (vx_MQ below Qc (QX postX G A) args s Mc Ms A) (F0 m pc ls st0) :=
  rx_core X h (vx_runS (X.fix) (hM H.size) (va_cwS n X.2.2.2.2.1 hG rfl hrc hrs hd hR) ⟨Pre0_blind, pre_at X h⟩ rfl hn hls hst (lv_room hW) d hf) (fun k S' H1 locs1 q9 ce hw h hce hcv hcl => rx_out X h hno hw hce hcv hcl hg.1 hg.2) kk
/-- a call that may throw, with what happens then -/
theorem rx_VH (X : Cx p s m args meth c cc nL own G A) (h : Hx G A s.heap H locs S) {b kd : Nat} {C : String} {T : u_T} {N : Nat} (hk : isK S b kd) (hkd : kd < 8) (hc : vcl[kd]? = some (C, T, N)) (hM : CX emb l y (wsU y bytes maxL ret) rm mc ms G (.ref b :: As) S post postX) (hG : GoodIn lwA (wsV own index C y (wsU y bytes maxL ret))) (hrc : rm.cells = mc) (hrs : rm.slots = ms)
    (hd : y.cls = C ∧ y.cls ≠ "java/lang/invoke/MethodHandle" ∧ y.cls ≠ "java/lang/invoke/VarHandle" ∧ (parseMethodDescriptor y.desc).map (fun d => d.parameters.length) = some n) (hn : As.length = n) (hR : rm.frames + 1 ≤ R.frames ∧ 8 + (maxL + 11) + rm.locals ≤ R.locals) (hls : ls.size = nL) (hst : st0 = As.reverse ++ .ref b :: rest) (hW : (rest.map fun v => v.category).sum ≤ 8) (hf : cells + mc ≤ R.cells ∧ slots + ms ≤ R.slots) (d : decode cc pc = .ok (.invokevirtual index, 3))
    (kx : ∀ (k : Nat) (S' : Mem) (H1 : Heap) (locs1 : List Loc) (q9 : Addr) (ce : Cell), postX k S' → Hx G A s.heap H1 locs1 S' → H1[q9]? = some ce → ce.vm = .none → s.vm.findClass (xn k) = some ce.cls → vx_W p l e R s m args below meth c H1 locs1 (cells + mc) (slots + ms) Q (F0 m pc ls rest) q9)
    (kk : ∀ (r : α) (S' : Mem) (H1 : Heap) (locs1 : List Loc), post r S' → Hx G A s.heap H1 locs1 S' → W p l e R s m args below meth c H1 locs1 (cells + mc) (slots + ms) Q (F0 m (pc + 3) ls ((emb r).toList ++ rest))) : W p l e R s m args below meth c H locs cells slots Q (F0 m pc ls st0) :=
  rx_core X h (vx_runV (X.fix) (hM H.size) (cwV n X.2.2.2.2.1 hG rfl hrc hrs hd hR) (rv_pre X h hk hkd hc) rfl hn hls hst (lv_room hW) d hf) kx kk
/-- ends -/
theorem en_q (X : Cx p s m args meth c cc nL own G A) (h : Hx G A s.heap H locs S) (r : α) (hw : post r S) : ∀ t : State, t.heap = H → s.WarmedH t.vm → QN emb post G A args s (.returned (emb r)) t := fun t ht hW => ⟨⟨r, S, rfl, hw, ⟨by rw [ht]; exact h.1, va_K.moved hW.alike X.2.2.2.2.2.1, h.2.1⟩⟩, h.2.2.F ht⟩
theorem en_i {post : Int32 → Mem → Prop} (X : Cx p s m args meth c cc nL own G A) (h : Hx G A s.heap H locs S) {v : Int32} (hr : meth.sig.returnType = some .int) (hw : post v S) (hc : cells ≤ mc) (hs : slots ≤ ms) (d : decode cc pc = .ok (.ireturn, 1)) : W p l e R s m args below meth c H locs cells slots (MQ below (QN emI post G A) args s mc ms A) (F0 m pc ls [.int v]) :=
  W.widen hc hs (W.iret X.1 X.2.1 hr (en_q X h v hw) h.2.2.2.2 d X.2.2.2.2.2.2.2.2)
theorem en_z {post : Int32 → Mem → Prop} (X : Cx p s m args meth c cc nL own G A) (h : Hx G A s.heap H locs S) {v : Int32} {ty : FieldType} (hr : meth.sig.returnType = some ty) (hn : narrow ty (.int v) = .int v) (hw : post v S) (hc : cells ≤ mc) (hs : slots ≤ ms) (d : decode cc pc = .ok (.ireturn, 1)) : W p l e R s m args below meth c H locs cells slots (MQ below (QN emI post G A) args s mc ms A) (F0 m pc ls [.int v]) :=
  W.widen hc hs (W.zret X.1 X.2.1 hr hn (en_q X h v hw) h.2.2.2.2 d X.2.2.2.2.2.2.2.2)
theorem en_v {post : Unit → Mem → Prop} (X : Cx p s m args meth c cc nL own G A) (h : Hx G A s.heap H locs S) (hr : meth.sig.returnType = none) (hw : post () S) (hc : cells ≤ mc) (hs : slots ≤ ms) (d : decode cc pc = .ok (.return_, 1)) : W p l e R s m args below meth c H locs cells slots (MQ below (QN emV post G A) args s mc ms A) (F0 m pc ls []) :=
  W.widen hc hs (W.vret X.1 X.2.1 hr (en_q X h () hw) h.2.2.2.2 d X.2.2.2.2.2.2.2.2)
theorem en_j {post : Int64 → Mem → Prop} (X : Cx p s m args meth c cc nL own G A) (h : Hx G A s.heap H locs S) {v : Int64} (hr : meth.sig.returnType = some .long) (hw : post v S) (hc : cells ≤ mc) (hs : slots ≤ ms) (d : decode cc pc = .ok (.lreturn, 1)) : W p l e R s m args below meth c H locs cells slots (MQ below (QN emJ post G A) args s mc ms A) (F0 m pc ls [.long v]) :=
  W.widen hc hs (W.lret X.1 X.2.1 hr (en_q X h v hw) h.2.2.2.2 d X.2.2.2.2.2.2.2.2)
end RC
end
section
section RA
variable {p : Program} {l : Launch} {e : Env} {R : Room} {s : State} {m : MethodId} {args : Array Value} {below : List Frame} {meth : Method} {c : Code} {H : Heap} {locs : List Loc} {cells slots : Nat} {Q : State → Prop}
variable {cc : ByteArray} {nL : Nat} {own : String} {G : GT} {A : Nat → Prop} {S : Mem} {pc : Nat} {ls : Array Slot} {rest st0 : List Value} {mc ms : Nat} {rm : Room} {y : MethodName} {bytes : ByteArray} {maxL index n : Nat} {ret : Option FieldType} {ws : List Cond}
variable {α : Type} {emb : α → Option Value} {post : α → Mem → Prop} {postX : Nat → Mem → Prop} {As : List Value}
def dfl : List Nat → List Value
  | [] => []
  | 0 :: ts => .int 0 :: dfl ts
  | 1 :: ts => .long 0 :: dfl ts
  | _ :: ts => .null :: dfl ts
theorem slv_new (S : Mem) (a kd n : Nat) : ∀ (L : List Nat) (i : Nat), slv (nA S a kd n) a i L = dfl L
  | [], _ => rfl
  | t :: ts, i => by
    have h1 : mI (nA S a kd n) a = fun _ => 0 := by show va_up (mI S) a _ a = _; simp [va_up]
    have h2 : mJ (nA S a kd n) a = fun _ => 0 := by show va_up (mJ S) a _ a = _; simp [va_up]
    have h3 : mR (nA S a kd n) a = fun _ => none := by show va_up (mR S) a _ a = _; simp [va_up]
    show sl1 (nA S a kd n) a i t :: slv (nA S a kd n) a (i + 1) ts = dfl (t :: ts)
    rw [slv_new S a kd n ts (i + 1)]
    match t with
    | 0 => show Value.int (mI (nA S a kd n) a i) :: _ = _; rw [h1]; rfl
    | 1 => show Value.long (mJ (nA S a kd n) a i) :: _ = _; rw [h2]; rfl
    | _ + 2 => show va_rf (mR (nA S a kd n) a i) :: _ = _; rw [h3]; rfl
theorem nA_kind {S : Mem} {a kd n : Nat} : isK (nA S a kd n) a kd := ⟨List.mem_append_right _ (List.mem_singleton.mpr rfl), by show va_up (mK S) a kd a = kd; simp [va_up]⟩
theorem nA_keep {S : Mem} {a b kd kb n : Nat} (hb : isK S b kb) (ha : a ∉ mL S) : isK (nA S a kd n) b kb := ⟨List.mem_append_left _ hb.1, by
  have h : b ≠ a := fun e => ha (e ▸ hb.1)
  show va_up (mK S) a kd b = kb
  rw [va_up_ne _ _ h]; exact hb.2⟩
/-- new objects and arrays -/
theorem r_new (X : Cx p s m args meth c cc nL own G A) (h : Hx G A s.heap H locs S) (kd : Nat) {C : String} {T : u_T} {N ix : Nat} (hkd : kd < 8) (hc : vcl[kd]? = some (C, T, N)) (hin : ∀ w ∈ u_ws C T N, w ∈ lwA) (ty0 : Nat → FieldType) (hty : ∀ k, k < N → parseFieldDescriptor (T k).2.2.1 = some (ty0 k)) (hl : Cond.classLink own ix C ∈ lwA) (hi : Cond.instantiable C N ∈ lwA) (hini : Cond.initialized C ∈ lwA) (hfs : ∀ j, j < N → defaultValue (ty0 j) = vp_V (dfl (lay kd)) j) (hf : cells + 1 ≤ R.cells ∧ slots + N ≤ R.slots) (d : decode cc pc = .ok (.new ix, 3))
    (kk : ∀ (q : Nat) (H1 : Heap), q ∉ mL S → Hx G A s.heap H1 locs (nA S q kd 0) → W p l e R s m args below meth c H1 locs (cells + 1) (slots + N) Q (F0 m (pc + 3) ls (.ref q :: rest))) : W p l e R s m args below meth c H locs cells slots Q (F0 m pc ls rest) :=
  va_new X.1 X.2.1 X.2.2.2.2.1 hin ty0 hty X.2.2.2.1 (X.hts hl) (X.hts hi) (X.hts hini) X.2.2.2.2.2.1 h.1 h.2.1 h.2.2 X.2.2.2.2.2.2.2.1 hc (fs := dfl (lay kd)) hfs hf.1 hf.2 d (fun q H1 hP hD hS => by
    have hq : q ∉ mL S := wl_fresh hD
    have e9 := wl_new (G := G) (S := S) (a := q) (kd := kd) (n := 0) hq ((nil_I hkd).trans (by rw [slv_new]))
    exact kk q H1 hq ⟨e9 ▸ hP, e9 ▸ hD, hS⟩)
theorem ka_eq (X : Cx p s m args meth c cc nL own G A) {k : Nat} {ty : FieldType} {cA cB : ClassId} (hk : (tys G)[k]? = some (cB, ty)) (h : va_K G.1 vcl (tys G ++ [(cA, ty)]) s) : cA = cB := by
  have h1 := (X.2.2.2.2.2.1.2 k (cB, ty) hk).2
  have h2 := (h.2 6 (cA, ty) rfl).2
  cases ty with
  | object C =>
    obtain ⟨-, -, -, -, -, h3⟩ := h1
    obtain ⟨-, -, -, -, -, h4⟩ := h2
    exact Option.some.inj (h4.symm.trans h3)
  | _ => exact Option.some.inj (h2.symm.trans h1)
theorem r_newI (X : Cx p s m args meth c cc nL own G A) (h : Hx G A s.heap H locs S) (N : Nat) (harr : Cond.arrayClass .int ∈ lwA) (hN : N < 2 ^ 20) (hf : cells + 1 ≤ R.cells ∧ slots + N ≤ R.slots) (d : decode cc pc = .ok (.newarray .int, 2))
    (kk : ∀ (q : Nat) (H1 : Heap), q ∉ mL S → Hx G A s.heap H1 locs (nA S q 8 N) → W p l e R s m args below meth c H1 locs (cells + 1) (slots + N) Q (F0 m (pc + 2) ls (.ref q :: rest))) : W p l e R s m args below meth c H locs cells slots Q (F0 m pc ls (.int (nI N) :: rest)) :=
  va_newa (atype := .int) X.1 X.2.1 (X.hts harr) (ty := .int) rfl X.2.2.2.2.2.1 h.1 h.2.1 h.2.2 X.2.2.2.2.2.2.2.1 (a0 := (N, .inl (fun _ => 0))) (N' := N) (fun cA => rfl) (nI_pos (by omega)) (nI_clamp (by omega)) (by show N * 4 ≤ _; omega) hf.1 hf.2 d (fun q cA H1 hK hP hD hS => by
    have hq : q ∉ mL S := wl_fresh hD
    have e0 := ka_eq X (k := 0) rfl hK
    subst e0
    have e9 := wl_new (G := G) (S := S) (a := q) (kd := 8) (n := N) (e := .inl (G.2 8, N, .inl (fun _ => 0))) hq (by
      rw [cel_a (nA_kind).2 (by decide)]
      show (Sum.inl (G.2 8, mN (nA S q 8 N) q, Sum.inl (mI (nA S q 8 N) q)) : va_E) = _
      have h1 : mI (nA S q 8 N) q = fun _ => 0 := by show va_up (mI S) q _ q = _; simp [va_up]
      have h2 : mN (nA S q 8 N) q = N := by show va_up (mN S) q _ q = _; simp [va_up]
      rw [h1, h2])
    exact kk q H1 hq ⟨e9 ▸ hP, e9 ▸ hD, hS⟩)
theorem r_newZ (X : Cx p s m args meth c cc nL own G A) (h : Hx G A s.heap H locs S) (N : Nat) (harr : Cond.arrayClass .boolean ∈ lwA) (hN : N < 2 ^ 20) (hf : cells + 1 ≤ R.cells ∧ slots + N ≤ R.slots) (d : decode cc pc = .ok (.newarray .boolean, 2))
    (kk : ∀ (q : Nat) (H1 : Heap), q ∉ mL S → Hx G A s.heap H1 locs (nA S q 9 N) → W p l e R s m args below meth c H1 locs (cells + 1) (slots + N) Q (F0 m (pc + 2) ls (.ref q :: rest))) : W p l e R s m args below meth c H locs cells slots Q (F0 m pc ls (.int (nI N) :: rest)) :=
  va_newa (atype := .boolean) X.1 X.2.1 (X.hts harr) (ty := .boolean) rfl X.2.2.2.2.2.1 h.1 h.2.1 h.2.2 X.2.2.2.2.2.2.2.1 (a0 := (N, .inl (fun _ => 0))) (N' := N) (fun cA => rfl) (nI_pos (by omega)) (nI_clamp (by omega)) (by show N * 1 ≤ _; omega) hf.1 hf.2 d (fun q cA H1 hK hP hD hS => by
    have hq : q ∉ mL S := wl_fresh hD
    have e0 := ka_eq X (k := 1) rfl hK
    subst e0
    have e9 := wl_new (G := G) (S := S) (a := q) (kd := 9) (n := N) (e := .inl (G.2 9, N, .inl (fun _ => 0))) hq (by
      rw [cel_a (nA_kind).2 (by decide)]
      show (Sum.inl (G.2 9, mN (nA S q 9 N) q, Sum.inl (mI (nA S q 9 N) q)) : va_E) = _
      have h1 : mI (nA S q 9 N) q = fun _ => 0 := by show va_up (mI S) q _ q = _; simp [va_up]
      have h2 : mN (nA S q 9 N) q = N := by show va_up (mN S) q _ q = _; simp [va_up]
      rw [h1, h2])
    exact kk q H1 hq ⟨e9 ▸ hP, e9 ▸ hD, hS⟩)
theorem r_newJ (X : Cx p s m args meth c cc nL own G A) (h : Hx G A s.heap H locs S) (N : Nat) (harr : Cond.arrayClass .long ∈ lwA) (hN : N < 2 ^ 20) (hf : cells + 1 ≤ R.cells ∧ slots + N ≤ R.slots) (d : decode cc pc = .ok (.newarray .long, 2))
    (kk : ∀ (q : Nat) (H1 : Heap), q ∉ mL S → Hx G A s.heap H1 locs (nA S q 12 N) → W p l e R s m args below meth c H1 locs (cells + 1) (slots + N) Q (F0 m (pc + 2) ls (.ref q :: rest))) : W p l e R s m args below meth c H locs cells slots Q (F0 m pc ls (.int (nI N) :: rest)) :=
  va_newa (atype := .long) X.1 X.2.1 (X.hts harr) (ty := .long) rfl X.2.2.2.2.2.1 h.1 h.2.1 h.2.2 X.2.2.2.2.2.2.2.1 (a0 := (N, .inr (.inl (fun _ => 0)))) (N' := N) (fun cA => rfl) (nI_pos (by omega)) (nI_clamp (by omega)) (by show N * 8 ≤ _; omega) hf.1 hf.2 d (fun q cA H1 hK hP hD hS => by
    have hq : q ∉ mL S := wl_fresh hD
    have e0 := ka_eq X (k := 4) rfl hK
    subst e0
    have e9 := wl_new (G := G) (S := S) (a := q) (kd := 12) (n := N) (e := .inl (G.2 12, N, .inr (.inl (fun _ => 0)))) hq (by
      rw [cel_a (nA_kind).2 (by decide)]
      show (Sum.inl (G.2 12, mN (nA S q 12 N) q, Sum.inr (Sum.inl (mJ (nA S q 12 N) q))) : va_E) = _
      have h1 : mJ (nA S q 12 N) q = fun _ => 0 := by show va_up (mJ S) q _ q = _; simp [va_up]
      have h2 : mN (nA S q 12 N) q = N := by show va_up (mN S) q _ q = _; simp [va_up]
      rw [h1, h2])
    exact kk q H1 hq ⟨e9 ▸ hP, e9 ▸ hD, hS⟩)
theorem r_newD (X : Cx p s m args meth c cc nL own G A) (h : Hx G A s.heap H locs S) (N : Nat) (harr : Cond.arrayClass .double ∈ lwA) (hN : N < 2 ^ 20) (hf : cells + 1 ≤ R.cells ∧ slots + N ≤ R.slots) (d : decode cc pc = .ok (.newarray .double, 2))
    (kk : ∀ (q : Nat) (H1 : Heap), q ∉ mL S → Hx G A s.heap H1 locs (nA S q 13 N) → W p l e R s m args below meth c H1 locs (cells + 1) (slots + N) Q (F0 m (pc + 2) ls (.ref q :: rest))) : W p l e R s m args below meth c H locs cells slots Q (F0 m pc ls (.int (nI N) :: rest)) :=
  va_newa (atype := .double) X.1 X.2.1 (X.hts harr) (ty := .double) rfl X.2.2.2.2.2.1 h.1 h.2.1 h.2.2 X.2.2.2.2.2.2.2.1 (a0 := (N, .inr (.inr (.inr (.inl (fun _ => 0)))))) (N' := N) (fun cA => rfl) (nI_pos (by omega)) (nI_clamp (by omega)) (by show N * 8 ≤ _; omega) hf.1 hf.2 d (fun q cA H1 hK hP hD hS => by
    have hq : q ∉ mL S := wl_fresh hD
    have e0 := ka_eq X (k := 5) rfl hK
    subst e0
    have e9 := wl_new (G := G) (S := S) (a := q) (kd := 13) (n := N) (e := .inl (G.2 13, N, .inr (.inr (.inr (.inl (fun _ => 0)))))) hq (by
      rw [cel_a (nA_kind).2 (by decide)]
      show (Sum.inl (G.2 13, mN (nA S q 13 N) q, Sum.inr (Sum.inr (Sum.inr (Sum.inl (mD (nA S q 13 N) q))))) : va_E) = _
      have h1 : mD (nA S q 13 N) q = fun _ => 0 := by show va_up (mD S) q _ q = _; simp [va_up]
      have h2 : mN (nA S q 13 N) q = N := by show va_up (mN S) q _ q = _; simp [va_up]
      rw [h1, h2])
    exact kk q H1 hq ⟨e9 ▸ hP, e9 ▸ hD, hS⟩)
theorem r_newJob (X : Cx p s m args meth c cc nL own G A) (h : Hx G A s.heap H locs S) (N : Nat) {ix : Nat} (hl : Cond.classLink own ix RX1 ∈ lwA) (hN : N < 2 ^ 20) (hf : cells + 1 ≤ R.cells ∧ slots + N ≤ R.slots) (d : decode cc pc = .ok (.anewarray ix, 3))
    (kk : ∀ (q : Nat) (H1 : Heap), q ∉ mL S → Hx G A s.heap H1 locs (nA S q 10 N) → W p l e R s m args below meth c H1 locs (cells + 1) (slots + N) Q (F0 m (pc + 3) ls (.ref q :: rest))) : W p l e R s m args below meth c H locs cells slots Q (F0 m pc ls (.int (nI N) :: rest)) :=
  va_newq X.1 X.2.1 X.2.2.2.1 (X.hts hl) X.2.2.2.2.2.2.1.2.2.2.2.2.1 X.2.2.2.2.2.1 h.1 h.2.1 h.2.2 X.2.2.2.2.2.2.2.1 (N' := N) (nI_pos (by omega)) (nI_clamp (by omega)) (by omega) hf.1 hf.2 d (fun q cA H1 hK hP hD hS => by
    have hq : q ∉ mL S := wl_fresh hD
    have e0 := ka_eq X (k := 2) rfl hK
    subst e0
    have e9 := wl_new (G := G) (S := S) (a := q) (kd := 10) (n := N) (e := .inl (G.2 10, N, .inr (.inr (.inr (.inr (fun _ => none)))))) hq (by
      rw [cel_a (nA_kind).2 (by decide)]
      show (Sum.inl (G.2 10, mN (nA S q 10 N) q, Sum.inr (Sum.inr (Sum.inr (Sum.inr (mR (nA S q 10 N) q))))) : va_E) = _
      have h1 : mR (nA S q 10 N) q = fun _ => none := by show va_up (mR S) q _ q = _; simp [va_up]
      have h2 : mN (nA S q 10 N) q = N := by show va_up (mN S) q _ q = _; simp [va_up]
      rw [h1, h2])
    exact kk q H1 hq ⟨e9 ▸ hP, e9 ▸ hD, hS⟩)
theorem r_newLot (X : Cx p s m args meth c cc nL own G A) (h : Hx G A s.heap H locs S) (N : Nat) {ix : Nat} (hl : Cond.classLink own ix RX2 ∈ lwA) (hN : N < 2 ^ 20) (hf : cells + 1 ≤ R.cells ∧ slots + N ≤ R.slots) (d : decode cc pc = .ok (.anewarray ix, 3))
    (kk : ∀ (q : Nat) (H1 : Heap), q ∉ mL S → Hx G A s.heap H1 locs (nA S q 11 N) → W p l e R s m args below meth c H1 locs (cells + 1) (slots + N) Q (F0 m (pc + 3) ls (.ref q :: rest))) : W p l e R s m args below meth c H locs cells slots Q (F0 m pc ls (.int (nI N) :: rest)) :=
  va_newq X.1 X.2.1 X.2.2.2.1 (X.hts hl) X.2.2.2.2.2.2.1.2.2.2.2.2.2 X.2.2.2.2.2.1 h.1 h.2.1 h.2.2 X.2.2.2.2.2.2.2.1 (N' := N) (nI_pos (by omega)) (nI_clamp (by omega)) (by omega) hf.1 hf.2 d (fun q cA H1 hK hP hD hS => by
    have hq : q ∉ mL S := wl_fresh hD
    have e0 := ka_eq X (k := 3) rfl hK
    subst e0
    have e9 := wl_new (G := G) (S := S) (a := q) (kd := 11) (n := N) (e := .inl (G.2 11, N, .inr (.inr (.inr (.inr (fun _ => none)))))) hq (by
      rw [cel_a (nA_kind).2 (by decide)]
      show (Sum.inl (G.2 11, mN (nA S q 11 N) q, Sum.inr (Sum.inr (Sum.inr (Sum.inr (mR (nA S q 11 N) q))))) : va_E) = _
      have h1 : mR (nA S q 11 N) q = fun _ => none := by show va_up (mR S) q _ q = _; simp [va_up]
      have h2 : mN (nA S q 11 N) q = N := by show va_up (mN S) q _ q = _; simp [va_up]
      rw [h1, h2])
    exact kk q H1 hq ⟨e9 ▸ hP, e9 ▸ hD, hS⟩)
theorem r_astJob (X : Cx p s m args meth c cc nL own G A) (h : Hx G A s.heap H locs S) {a v : Nat} (hk : isK S a 10) (hv : isK S v 1) {i : Int32} (hi : vp_in i (mN S a)) (d : decode cc pc = .ok (.aastore, 1))
    (kk : ∀ (H1 : Heap) (locs1 : List Loc), Hx G A s.heap H1 locs1 (sR S a i.toNatClampNeg (some v)) → W p l e R s m args below meth c H1 locs1 cells slots Q (F0 m (pc + 1) ls rest)) : W p l e R s m args below meth c H locs cells slots Q (F0 m pc ls (.ref v :: .int i :: .ref a :: rest)) := by
  obtain ⟨q, hq⟩ := wl_at (G := G) hk.1
  obtain ⟨qv, hqv⟩ := wl_at (G := G) hv.1
  have e9 := put_aR (v := some v) (k := i.toNatClampNeg) h.2.1 hk (Or.inl rfl) hq
  rw [cel_a hk.2 (by decide)] at hq
  rw [cel_o hv.2 (by decide)] at hqv
  refine va_astq X.1 X.2.1 X.2.2.2.2.2.1 h.1 h.2.1 h.2.2 q 2 qv 1 (r := (RX1, TX1, 4)) hq rfl hqv rfl hi d (fun H1 locs1 hP hD hS => ?_)
  exact kk H1 locs1 ⟨e9 ▸ hP, e9 ▸ hD, hS⟩
theorem r_astLot (X : Cx p s m args meth c cc nL own G A) (h : Hx G A s.heap H locs S) {a v : Nat} (hk : isK S a 11) (hv : isK S v 2) {i : Int32} (hi : vp_in i (mN S a)) (d : decode cc pc = .ok (.aastore, 1))
    (kk : ∀ (H1 : Heap) (locs1 : List Loc), Hx G A s.heap H1 locs1 (sR S a i.toNatClampNeg (some v)) → W p l e R s m args below meth c H1 locs1 cells slots Q (F0 m (pc + 1) ls rest)) : W p l e R s m args below meth c H locs cells slots Q (F0 m pc ls (.ref v :: .int i :: .ref a :: rest)) := by
  obtain ⟨q, hq⟩ := wl_at (G := G) hk.1
  obtain ⟨qv, hqv⟩ := wl_at (G := G) hv.1
  have e9 := put_aR (v := some v) (k := i.toNatClampNeg) h.2.1 hk (Or.inr rfl) hq
  rw [cel_a hk.2 (by decide)] at hq
  rw [cel_o hv.2 (by decide)] at hqv
  refine va_astq X.1 X.2.1 X.2.2.2.2.2.1 h.1 h.2.1 h.2.2 q 3 qv 2 (r := (RX2, TX2, 5)) hq rfl hqv rfl hi d (fun H1 locs1 hP hD hS => ?_)
  exact kk H1 locs1 ⟨e9 ▸ hP, e9 ▸ hD, hS⟩
/-- Math.min, Math.max -/
theorem r_min (X : Cx p s m args meth c cc nL own G A) (hls : ls.size = nL) (h1 : Cond.methodLink own index Lib.Math.min.name ∈ lwA) (h2 : Cond.static Lib.Math.min.name ∈ lwA) (h3 : Cond.initialized "java/lang/Math" ∈ lwA) (h4 : Cond.code Lib.Math.min.name Lib.Math.min.code 2 (some .int) ∈ lwA) (hR : 1 ≤ R.frames ∧ (rest.map fun v => v.category).sum + 13 ≤ R.locals) (hf : cells ≤ R.cells ∧ slots ≤ R.slots) {x y : Int32} (d : decode cc pc = .ok (.invokestatic index, 3))
    (kk : W p l e R s m args below meth c H locs cells slots Q (F0 m (pc + 3) ls (.int (if y < x then y else x) :: rest))) : W p l e R s m args below meth c H locs cells slots Q (F0 m pc ls (.int y :: .int x :: rest)) :=
  va_mmin X.1 X.2.1 (X.2.2.1.trans hls.symm) X.2.2.2.1 (X.hts h1) (X.hts h2) (X.hts h3) (X.hts h4) hR.1 hR.2 hf.1 hf.2 d kk
theorem r_max (X : Cx p s m args meth c cc nL own G A) (hls : ls.size = nL) (h1 : Cond.methodLink own index Lib.Math.max.name ∈ lwA) (h2 : Cond.static Lib.Math.max.name ∈ lwA) (h3 : Cond.initialized "java/lang/Math" ∈ lwA) (h4 : Cond.code Lib.Math.max.name Lib.Math.max.code 2 (some .int) ∈ lwA) (hR : 1 ≤ R.frames ∧ (rest.map fun v => v.category).sum + 13 ≤ R.locals) (hf : cells ≤ R.cells ∧ slots ≤ R.slots) {x y : Int32} (d : decode cc pc = .ok (.invokestatic index, 3))
    (kk : W p l e R s m args below meth c H locs cells slots Q (F0 m (pc + 3) ls (.int (if x < y then y else x) :: rest))) : W p l e R s m args below meth c H locs cells slots Q (F0 m pc ls (.int y :: .int x :: rest)) :=
  va_mmax X.1 X.2.1 (X.2.2.1.trans hls.symm) X.2.2.2.1 (X.hts h1) (X.hts h2) (X.hts h3) (X.hts h4) hR.1 hR.2 hf.1 hf.2 d kk
/-- the rest of a constructor's call of Object's -/
theorem r_obj (X : Cx p s m args meth c cc nL own G A) (hls : ls.size = nL) (h1 : Cond.methodLink own index Lib.objectInit ∈ lwA) (h2 : Cond.instanceMethod Lib.objectInit ∈ lwA) (h3 : Cond.code Lib.objectInit ⟨#[0xb1]⟩ 1 none ∈ lwA) {a : Nat} (hR : 1 ≤ R.frames ∧ (rest.map fun v => v.category).sum + 12 ≤ R.locals) (hf : cells ≤ R.cells ∧ slots ≤ R.slots) (d : decode cc pc = .ok (.invokespecial index, 3))
    (kk : W p l e R s m args below meth c H locs cells slots Q (F0 m (pc + 3) ls rest)) : W p l e R s m args below meth c H locs cells slots Q (F0 m pc ls (.ref a :: rest)) :=
  W.objInit (own := own) (idx := index) (g := F0 m pc ls (.ref a :: rest)) (a := a) (rest := rest) X.1 X.2.1 X.2.2.2.1 (X.hts h1) (X.hts h2) (X.hts h3) rfl (hls.trans X.2.2.1.symm) rfl d hR.1 (show 2 * 0 + (rest.map fun v => v.category).sum + 12 ≤ R.locals by omega) kk
/-- ends -/
theorem en_r {post : Option Nat → Mem → Prop} (X : Cx p s m args meth c cc nL own G A) (h : Hx G A s.heap H locs S) {r : Option Nat} {v : Value} (hv : va_rf r = v) {C : String} (hr : meth.sig.returnType = some (.object C)) (hw : post r S) (hc : cells ≤ mc) (hs : slots ≤ ms) (d : decode cc pc = .ok (.areturn, 1)) : W p l e R s m args below meth c H locs cells slots (MQ below (QN emR post G A) args s mc ms A) (F0 m pc ls [v]) := by
  subst hv
  exact W.widen hc hs (W.aret X.1 X.2.1 hr (Or.inl ⟨_, rfl⟩) (by cases r with | none => exact Or.inl rfl | some a => exact Or.inr ⟨a, rfl⟩) (en_q X h r hw) h.2.2.2.2 d X.2.2.2.2.2.2.2.2)
theorem en_f {post : UInt32 → Mem → Prop} (X : Cx p s m args meth c cc nL own G A) (h : Hx G A s.heap H locs S) {v : UInt32} (hr : meth.sig.returnType = some .float) (hw : post v S) (hc : cells ≤ mc) (hs : slots ≤ ms) (d : decode cc pc = .ok (.freturn, 1)) : W p l e R s m args below meth c H locs cells slots (MQ below (QN emF post G A) args s mc ms A) (F0 m pc ls [.float v]) :=
  W.widen hc hs (W.fret X.1 X.2.1 hr (en_q X h v hw) h.2.2.2.2 d X.2.2.2.2.2.2.2.2)
theorem en_d {post : UInt64 → Mem → Prop} (X : Cx p s m args meth c cc nL own G A) (h : Hx G A s.heap H locs S) {v : UInt64} (hr : meth.sig.returnType = some .double) (hw : post v S) (hc : cells ≤ mc) (hs : slots ≤ ms) (d : decode cc pc = .ok (.dreturn, 1)) : W p l e R s m args below meth c H locs cells slots (MQ below (QN emD post G A) args s mc ms A) (F0 m pc ls [.double v]) :=
  W.widen hc hs (W.dret X.1 X.2.1 hr (en_q X h v hw) h.2.2.2.2 d X.2.2.2.2.2.2.2.2)
/-- throw new X(text) -/
abbrev xnm : List String := ["java/lang/RuntimeException", "java/lang/Exception"]
def ThrowOk (own cls text : String) (ik is ic : Nat) : Prop := Bundle.fit cls = true ∧ Cond.classLink own ik cls ∈ lwA ∧ Cond.initialized cls ∈ lwA ∧ (own, is, text) ∈ strl ∧ (∀ w ∈ vx_atS own ic cls xnm, w ∈ lwA ∨ w ∈ nwl) ∧ (∀ w ∈ Cond.classLink own ik cls :: Cond.initialized cls :: vx_atS own ic cls xnm, vx_ot w = true)
theorem en_x {Qc : Array Value → State → Outcome → State → Prop} {text : String} {ik is ic : Nat} (k : Nat) (X : Cx p s m args meth c cc nL own G A) (h : Hx G A s.heap H locs S) (hl9 : l.stackTraces = false) (hok : ThrowOk own (xn k) text ik is ic) (hls : ls.size = nL) (hno : ∀ x ∈ c.exceptionTable.toList, False)
    (d0 : decode cc pc = .ok (.new ik, 3)) (d3 : decode cc (pc + 3) = .ok (.dup, 1)) (d4 : decode cc (pc + 4) = .ok (.ldc is, 2)) (d6 : decode cc (pc + 6) = .ok (.invokespecial ic, 3)) (d9 : decode cc (pc + 9) = .ok (.athrow, 1))
    (hR : 5 < R.frames ∧ (rest.map fun v => v.category).sum + 82 ≤ R.locals) (hf : cells + 1 ≤ R.cells ∧ slots + 6 ≤ R.slots) (hg : cells + 1 ≤ mc ∧ slots + 6 ≤ ms) (hw : postX k S) :
    W p l e R s m args below meth c H locs cells slots (vx_MQ below Qc (QX postX G A) args s mc ms A) (F0 m pc ls rest) := by
  obtain ⟨sa, hsa⟩ := X.2.2.2.2.2.2.1.2.2.2.1 _ hok.2.2.2.1
  exact vx_throwS (own := own) (cls := xn k) (names := xnm) X.1 X.2.1 hl9 X.2.2.2.1 hok.1 (by decide +kernel) (X.hts hok.2.1) (X.hts hok.2.2.1) hsa (fun w hw => (hok.2.2.2.2.1 w hw).elim X.hts X.nwu) hok.2.2.2.2.2 X.2.2.2.2.2.2.1.2.1 X.2.2.2.2.2.2.1.2.2.1 h.2.2 (hls.trans X.2.2.1.symm) d0 d3 d4 d6 d9 (fun x hx => (hno x hx).elim) hR.1 hR.2 hf.1 hf.2 X.2.2.2.2.2.2.2.2
    (fun t ha hsz hk => ⟨k, S, rfl, hw, ⟨h.1.kept (fun k q hq => hk q.1 (h.1 k q hq).lt), va_K.moved ha X.2.2.2.2.2.1, h.2.1⟩, Nat.le_trans h.2.2.1 hsz, fun q h1 h2 => (hk q (Nat.lt_of_lt_of_le h1 h.2.2.1)).trans (h.2.2.2.1 q h1 h2)⟩) h.2.2.2.2 hg.1 hg.2
theorem en_xW {Qc : Array Value → State → Outcome → State → Prop} {text : String} {ik is ic : Nat} (k : Nat) (X : Cx p s m args meth c cc nL own G A) (h : Hx G A s.heap H locs S) (hl9 : l.stackTraces = false) (hok : ThrowOk own (xn k) text ik is ic) (hls : ls.size = nL) (hno : ∀ x ∈ c.exceptionTable.toList, False)
    (d0 : decode cc pc = .ok (.new ik, 3)) (d3 : decode cc (pc + 3) = .ok (.dup, 1)) (d4 : decode cc (pc + 4) = .ok (.ldc_w is, 3)) (d6 : decode cc (pc + 7) = .ok (.invokespecial ic, 3)) (d9 : decode cc (pc + 10) = .ok (.athrow, 1))
    (hR : 5 < R.frames ∧ (rest.map fun v => v.category).sum + 82 ≤ R.locals) (hf : cells + 1 ≤ R.cells ∧ slots + 6 ≤ R.slots) (hg : cells + 1 ≤ mc ∧ slots + 6 ≤ ms) (hw : postX k S) :
    W p l e R s m args below meth c H locs cells slots (vx_MQ below Qc (QX postX G A) args s mc ms A) (F0 m pc ls rest) := by
  obtain ⟨sa, hsa⟩ := X.2.2.2.2.2.2.1.2.2.2.1 _ hok.2.2.2.1
  exact vx_throwSW (own := own) (cls := xn k) (names := xnm) X.1 X.2.1 hl9 X.2.2.2.1 hok.1 (by decide +kernel) (X.hts hok.2.1) (X.hts hok.2.2.1) hsa (fun w hw => (hok.2.2.2.2.1 w hw).elim X.hts X.nwu) hok.2.2.2.2.2 X.2.2.2.2.2.2.1.2.1 X.2.2.2.2.2.2.1.2.2.1 h.2.2 (hls.trans X.2.2.1.symm) d0 d3 d4 d6 d9 (fun x hx => (hno x hx).elim) hR.1 hR.2 hf.1 hf.2 X.2.2.2.2.2.2.2.2
    (fun t ha hsz hk => ⟨k, S, rfl, hw, ⟨h.1.kept (fun k q hq => hk q.1 (h.1 k q hq).lt), va_K.moved ha X.2.2.2.2.2.1, h.2.1⟩, Nat.le_trans h.2.2.1 hsz, fun q h1 h2 => (hk q (Nat.lt_of_lt_of_le h1 h.2.2.1)).trans (h.2.2.2.1 q h1 h2)⟩) h.2.2.2.2 hg.1 hg.2
end RA
/-! ===== how a method's walk begins ===== -/
theorem cn_open {α : Type} {emb : α → Option Value} {l : Launch} {y : MethodName} {rm : Room} {mc ms : Nat} {G : GT} {av : List Value} {S : Mem} {post : α → Mem → Prop} {cc : ByteArray} {maxL : Nat} {ret : Option FieldType} (own : String) (hO : y.cls = own) (hy : plainName y.cls = true) (hlen : (lg_sl av).length ≤ maxL)
    (body : ∀ (p : Program) (e : Env) (s : State) (m : MethodId) (args : Array Value) (below : List Frame) (meth : Method) (c : Code) (A : Nat → Prop), Cx p s m args meth c cc maxL own G A → Hx G A s.heap s.heap [] S → meth.sig.returnType = ret → meth.name = y.name → ∀ ls : Array Slot, lv_has ls maxL (lv_args 0 av) → W p l e rm s m args below meth c s.heap [] 0 0 (MQ below (QN emb post G A) args s mc ms A) (F0 m 0 ls [])) : CN emb l y (wsU y cc maxL ret) rm mc ms G av S post := by
  intro sz
  refine Met.ofW (cc := cc) (maxL := maxL) (ret := ret) hy rfl ?_
  intro p e s m args below meth c s₁ B hml hv
  obtain ⟨rfl, hsz, ⟨hP, hK, hD0⟩, hE⟩ := hv
  subst hsz
  have hts := atoms_spec (ws := wsU y cc maxL ret) B.pre
  have hX : Cx p s m av.toArray meth c cc maxL own G (va_A (wl G S) s.heap.size) := ⟨B.exec, B.bytes, hml, by rw [← hO]; exact findClass_of_methodNamed B.named, fun w h => hts w (List.mem_cons_of_mem _ h), hK, hE, fun q h => Or.inr h, B.notSynchronized⟩
  have hl := lv_entry av (n := maxL) hlen
  rw [lg_entry_eq]
  generalize (lg_sl av ++ List.replicate (maxL - (lg_sl av).length) Slot.unset).toArray = ls at hl ⊢
  exact body p e s m _ below meth c _ hX ⟨hP, hD0.self, va_S.rf⟩ B.returns (name_of_methodNamed B.named B.method).1 ls hl
theorem cx_open {α : Type} {emb : α → Option Value} {l : Launch} {y : MethodName} {rm : Room} {mc ms : Nat} {G : GT} {av : List Value} {S : Mem} {post : α → Mem → Prop} {postX : Nat → Mem → Prop} {cc : ByteArray} {maxL : Nat} {ret : Option FieldType} (own : String) (hO : y.cls = own) (hy : plainName y.cls = true) (hlen : (lg_sl av).length ≤ maxL)
    (body : ∀ (p : Program) (e : Env) (s : State) (m : MethodId) (args : Array Value) (below : List Frame) (meth : Method) (c : Code) (A : Nat → Prop), Cx p s m args meth c cc maxL own G A → Hx G A s.heap s.heap [] S → meth.sig.returnType = ret → (∀ x ∈ c.exceptionTable.toList, False) → ∀ ls : Array Slot, lv_has ls maxL (lv_args 0 av) → W p l e rm s m args below meth c s.heap [] 0 0 (vx_MQ below (QN emb post G A) (QX postX G A) args s mc ms A) (F0 m 0 ls [])) : CX emb l y (wsU y cc maxL ret) rm mc ms G av S post postX := by
  intro sz
  refine vx_ofW (cc := cc) (maxL := maxL) (ret := ret) hy rfl ?_
  intro p e s m args below meth c s₁ B hml hno hv
  obtain ⟨rfl, hsz, ⟨hP, hK, hD0⟩, hE⟩ := hv
  subst hsz
  have hts := atoms_spec (ws := wsU y cc maxL ret) B.pre
  have hX : Cx p s m av.toArray meth c cc maxL own G (va_A (wl G S) s.heap.size) := ⟨B.exec, B.bytes, hml, by rw [← hO]; exact findClass_of_methodNamed B.named, fun w h => hts w (List.mem_cons_of_mem _ h), hK, hE, fun q h => Or.inr h, B.notSynchronized⟩
  have hl := lv_entry av (n := maxL) hlen
  rw [lg_entry_eq]
  generalize (lg_sl av ++ List.replicate (maxL - (lg_sl av).length) Slot.unset).toArray = ls at hl ⊢
  exact body p e s m _ below meth c _ hX ⟨hP, hD0.self, va_S.rf⟩ B.returns hno ls hl
/-- a method with handlers, that lets nothing out -/
theorem ch_open {α : Type} {emb : α → Option Value} {l : Launch} {y : MethodName} {rm : Room} {mc ms : Nat} {G : GT} {av : List Value} {S : Mem} {post : α → Mem → Prop} {cc : ByteArray} {maxL : Nat} {ret : Option FieldType} {hh : List (Nat × Nat × Nat × Nat)} (own : String) (hO : y.cls = own) (hy : plainName y.cls = true) (hlen : (lg_sl av).length ≤ maxL)
    (body : ∀ (p : Program) (e : Env) (s : State) (m : MethodId) (args : Array Value) (below : List Frame) (meth : Method) (c : Code) (A : Nat → Prop), Cx p s m args meth c cc maxL own G A → Hx G A s.heap s.heap [] S → meth.sig.returnType = ret → c.exceptionTable.toList = tableOf hh → ∀ ls : Array Slot, lv_has ls maxL (lv_args 0 av) → W p l e rm s m args below meth c s.heap [] 0 0 (MQ below (QN emb post G A) args s mc ms A) (F0 m 0 ls [])) : CN emb l y (wsH y cc maxL ret hh) rm mc ms G av S post := by
  intro sz
  refine MetFree.of_bodyS (code := cc) (maxLocals := maxL) (ret := ret) hy ?_ ?_
  · intro args s m h hn
    obtain ⟨m9, meth, c, hn9, h1, h2, h3, h4, -, h5, h6, -⟩ := Cond.codeWith_spec (atoms_spec (ws := wsH y cc maxL ret hh) h _ List.mem_cons_self)
    cases hn.symm.trans hn9
    exact ⟨meth, c, h1, h2, h3, h4, h5, h6⟩
  · intro p e s m args below meth c s₁ B hml hP0 _
    have hh0 : s₁.heap = s.heap := by rw [B.state]; rfl
    obtain ⟨rfl, hsz, ⟨hP, hK, hD0⟩, hE⟩ := hP0
    subst hsz
    have hts := atoms_spec (ws := wsH y cc maxL ret hh) B.pre
    have hT := vx_table (x := y) B (hts _ List.mem_cons_self)
    have hX : Cx p s m av.toArray meth c cc maxL own G (va_A (wl G S) s.heap.size) := ⟨B.exec, B.bytes, hml, by rw [← hO]; exact findClass_of_methodNamed B.named, fun w h => hts w (List.mem_cons_of_mem _ h), hK, hE, fun q h => Or.inr h, B.notSynchronized⟩
    have hl := lv_entry av (n := maxL) hlen
    have hb := body p e s m av.toArray below meth c _ hX ⟨hP, hD0.self, va_S.rf⟩ B.returns hT _ hl
    rw [← lg_entry_eq] at hb
    obtain ⟨t, a1, o, b1, b2, b3⟩ := hb s₁ hh0 (Stand.of_body B)
    exact ⟨t, o, a1, b1, b2, b3⟩
end
section
/-! ===== small rows that the printed walks use ===== -/
theorem kI {S S1 : Mem} {a k b kd : Nat} {v : Int32} (e : S1 = sI S a k v) (h : isK S b kd) : isK S1 b kd := by subst e; exact h
theorem kJ {S S1 : Mem} {a k b kd : Nat} {v : Int64} (e : S1 = sJ S a k v) (h : isK S b kd) : isK S1 b kd := by subst e; exact h
theorem kR {S S1 : Mem} {a k b kd : Nat} {v : Option Nat} (e : S1 = sR S a k v) (h : isK S b kd) : isK S1 b kd := by subst e; exact h
theorem kD {S S1 : Mem} {a k b kd : Nat} {v : UInt64} (e : S1 = sD S a k v) (h : isK S b kd) : isK S1 b kd := by subst e; exact h
theorem kE {S S1 : Mem} {b kd : Nat} (e : S1 = S) (h : isK S b kd) : isK S1 b kd := by subst e; exact h
abbrev vz_nar (v : Int32) : Prop := narrow .boolean (.int v) = .int v
abbrev vz_chr (v : Int32) : Prop := narrow .char (.int v) = .int v ∧ fits .char (.int v) = true
theorem tbl_cases (x : Int32) (n : Nat) (hn : n < 2147483648) : ¬ (0 ≤ x.toInt ∧ x.toInt < (n : Int)) ∨ ∃ j : Nat, j < n ∧ x = nI j := by
  by_cases h : 0 ≤ x.toInt ∧ x.toInt < (n : Int)
  · refine Or.inr ⟨x.toInt.toNat, by omega, ?_⟩
    refine Int32.toInt_inj.mp ?_
    rw [nI_toInt (by omega)]
    omega
  · exact Or.inl h
theorem inA {C : String} {T : u_T} {N : Nat} (ps : List Nat) (h1 : ps.map (fun i => lw_tbl[i]?) = (u_ws C T N).map some) (h2 : (u_ws C T N).all goodWord = true) : ∀ w ∈ u_ws C T N, w ∈ lwA := fun w hw => by
  refine List.mem_filter.mpr ⟨?_, List.all_eq_true.mp h2 w hw⟩
  have h3 : some w ∈ ps.map (fun i => lw_tbl[i]?) := by rw [h1]; exact List.mem_map.mpr ⟨w, hw, rfl⟩
  obtain ⟨i, -, hi⟩ := List.mem_map.mp h3
  exact List.mem_of_getElem? hi
/-! ===== throw new X(text) where X's constructor calls its superclass's by the entry ix (NoSuchElementException's does by 13, not 7) ===== -/
def nx_chainA (X : String) (ix : Nat) (rx : ByteArray) : List String → List Cond
  | [] => Bundle.passSAtoms X Bundle.tN ix rx
  | Y :: r => Bundle.passSAtoms X Y ix rx ++ Bundle.chainSAtoms Y r
def nx_atoms (own : String) (ic : Nat) (X : String) (ix : Nat) (rx : ByteArray) (names : List String) : List Cond :=
  Bundle.throwableAtoms ++ Bundle.throwableSAtoms ++ nx_chainA X ix rx names ++
  [.methodLink own ic (Bundle.initS X), .instantiable X 6, .castable X X, .selects X Bundle.tFill0 Bundle.tFill0, .selects X Bundle.tFill Bundle.tFill,
   .lays X Bundle.tN "cause" "Ljava/lang/Throwable;", .lays X Bundle.tN "stackTrace" Bundle.steD, .lays X Bundle.tN "suppressedExceptions" Bundle.listD, .lays X Bundle.tN "detailMessage" "Ljava/lang/String;",
   .isRef (.static Bundle.tN "UNASSIGNED_STACK" Bundle.steD), .isRef (.static Bundle.tN "SUPPRESSED_SENTINEL" Bundle.listD),
   .fieldLink Bundle.tN 198 Bundle.tN "backtrace" "Ljava/lang/Object;", .lays Bundle.tN Bundle.tN "backtrace" "Ljava/lang/Object;", .lays X Bundle.tN "backtrace" "Ljava/lang/Object;"]
theorem nx_chain {args : Array Value} {s : State} {pl : Platform} (hpl : pl.magicAccessors = ({} : Platform).magicAccessors) {top : MethodId} (htop : s.methodNamed? (Bundle.initS Bundle.tN) = some top)
    {ix : Nat} {rx : ByteArray} (x0 : decode rx 0 = .ok (.aload_n 0, 1)) (x1 : decode rx 1 = .ok (.aload_n 1, 1)) (x2 : decode rx 2 = .ok (.invokespecial ix, 3)) (x5 : decode rx 5 = .ok (.return_, 1)) :
    ∀ (names : List String) (X : String), Bundle.fit X = true → (∀ n ∈ names, Bundle.fit n = true) → (∀ c ∈ nx_chainA X ix rx names, c.before args s = true) →
      ∃ (P1 : PassC) (Ps : List PassC), Ps.length = names.length ∧ P1.LinksS pl s ∧ (∀ P, P ∈ Ps → P.LinksS pl s) ∧ s.methodNamed? (Bundle.initS X) = some P1.m ∧
        P1.sup = firstOf top (Ps.map (·.toPassT)) ∧ PassesOn top (Ps.map (·.toPassT))
  | [], X, hX, _, h => by
    obtain ⟨P, L, hm, hs⟩ := PassC.ofS_atoms (args := args) (s := s) hpl (X := X) (Y := Bundle.tN) (Bundle.fit_spec hX).1 (by decide) x0 x1 x2 x5 h
    exact ⟨P, [], rfl, L, (fun _ hP => nomatch hP), hm, Option.some.inj (hs.symm.trans htop), trivial⟩
  | Y :: r, X, hX, hn, h => by
    obtain ⟨P, L, hm, hs⟩ := PassC.ofS_atoms (args := args) (s := s) hpl (X := X) (Y := Y) (Bundle.fit_spec hX).1 (Bundle.fit_spec (hn Y List.mem_cons_self)).2 x0 x1 x2 x5 (fun c hc => h c (List.mem_append_left _ hc))
    obtain ⟨P', Ps, hlen, L', hL, hm', hsup, hpass⟩ := Bundle.chainS (args := args) hpl htop r Y (hn Y List.mem_cons_self) (fun n hn' => hn n (List.mem_cons_of_mem _ hn')) (fun c hc => h c (List.mem_append_right _ hc))
    refine ⟨P, P' :: Ps, by simp [hlen], L, ?_, hm, Option.some.inj (hs.symm.trans hm'), hsup, hpass⟩
    intro Q hQ
    rcases List.mem_cons.mp hQ with rfl | hQ
    · exact L'
    · exact hL Q hQ
set_option maxHeartbeats 1000000 in
theorem nx_ctor {p : Program} {l : Launch} {e : Env} {R : Room} {s : State} {m₀ : MethodId} {args : Array Value} {below : List Frame} {meth : Method} {c : Code} {W : State} {locs : List Loc} {cells slots : Nat} {ix : Nat} {rx : ByteArray} (x0 : decode rx 0 = .ok (.aload_n 0, 1)) (x1 : decode rx 1 = .ok (.aload_n 1, 1)) (x2 : decode rx 2 = .ok (.invokespecial ix, 3)) (x5 : decode rx 5 = .ok (.return_, 1)) (X : Stand p l e R s m₀ args below meth c W locs cells slots) (hexec : p.tables.exec = Jvm.exec) (htr : e.platform.stackTraces = false) {own cls : String} {names : List String} {ic : Nat}
    (hown : s.vm.findClass own = some m₀.cls) (hcls : Bundle.fit cls = true) (hnames : ∀ n ∈ names, Bundle.fit n = true)
    (h : ∀ a ∈ nx_atoms own ic cls ix rx names, a.before args s = true)
    (hlocs : ∀ x ∈ locs, ∀ cell, s.heap[x.base]? = some cell → cell.vm.isStatics = false)
    {a : Addr} {cX : ClassId} {kX : Class} (hfoundX : s.vm.findClass cls = some cX) (hkX : s.vm.classes[cX]? = some kX) (hcell : W.heap[a]? = some (freshCell cX kX)) (hnew : s.heap.size ≤ a)
    {msg : Value} (hmsg : msg.isRef = true)
    {g : JFrame} (hg : g.method = m₀) (hsize : g.locals.size = c.maxLocals) (hlocked : g.locked = none) (hentered : g.entered = []) {rest : List Value} (hstack : g.stack = msg :: .ref a :: .ref a :: rest)
    (hd6 : decode c.code g.pc = .ok (.invokespecial ic, 3)) (hd9 : decode c.code (g.pc + 3) = .ok (.athrow, 1)) (hout : ∀ x ∈ c.exceptionTable.toList, covers x (g.pc + 3) = false)
    (hRframes : names.length + 3 < R.frames) (hRlocals : 2 * g.monitorRoom + ((Value.ref a :: rest).map fun v => v.category).sum + (13 * (names.length + 1) + 42) ≤ R.locals) (hlocks : meth.locks = false := by first | assumption | exact BodyLoose.notSynchronized (by assumption) | exact Body.notSynchronized (by assumption)) :
    ∃ U : State, Steps p.tables e below (W.setTop g) U ∧ U.status = .running ∧ Ended U below (.threw a) ∧ s.WarmedH U.vm ∧ s.sameButNew ({ U with vm := s.vm } : State) locs cells slots ∧
      ∃ ce, U.heap[a]? = some ce ∧ Bundle.OwnCell args s cls a msg ce := by
  have howns : e.platform.frameOwnsMonitors = true := by rw [X.admits.platform]
  have hfin : e.platform.finalization = false := by rw [X.admits.platform]
  have hpl : e.platform.magicAccessors = ({} : Platform).magicAccessors := by rw [X.admits.platform]
  have a' : ∀ x, x ∈ nx_atoms own ic cls ix rx names → x.holds args s none s [] = true := fun x hx => h x hx
  obtain ⟨T, Z0, L, -, Y⟩ := ThrowableC.of_atoms (args := args) howns hfin hpl (fun x hx => h x (by simp [nx_atoms, hx]))
  obtain ⟨Z, M, LZ, LM, hnZ⟩ := Init0T.ofS_atoms (args := args) hpl L Y (fun x hx => h x (by simp [nx_atoms, hx]))
  obtain ⟨P1, Ps, hlen, L1, hL, hP1m, hlink1, hlink⟩ := nx_chain (args := args) hpl hnZ x0 x1 x2 x5 names cls hcls hnames (fun x hx => h x (by simp [nx_atoms, hx]))
  have hfound : s.vm.findClass cls = some P1.m.cls := findClass_of_methodNamed hP1m
  cases Option.some.inj (hfoundX.symm.trans hfound)
  obtain ⟨c1, kX', hc1, hk, hord, -, -, hn6⟩ := Cond.instantiable_spec (a' (.instantiable cls 6) (by simp [nx_atoms]))
  cases Option.some.inj (hc1.symm.trans hfound)
  cases Option.some.inj (hkX.symm.trans hk)
  have hsel0 : selectMethod e.platform s.vm P1.m.cls T.fill0 = .method T.fill0 := by
    obtain ⟨c2, r2, m2, q1, q2, q3, q4, -⟩ := Cond.selects_spec (a' (.selects cls Bundle.tFill0 Bundle.tFill0) (by simp [nx_atoms]))
    cases Option.some.inj (q1.symm.trans hfound)
    cases Option.some.inj (q2.symm.trans (State.methodFound?_of_named Y.fill0 (by decide)))
    cases Option.some.inj (q3.symm.trans Y.fill0)
    rw [Launch.admits_selectMethod X.admits]; exact q4
  have hselF : selectMethod e.platform s.vm P1.m.cls T.fill = .method T.fill := by
    obtain ⟨c2, r2, m2, q1, q2, q3, q4, -⟩ := Cond.selects_spec (a' (.selects cls Bundle.tFill Bundle.tFill) (by simp [nx_atoms]))
    cases Option.some.inj (q1.symm.trans hfound)
    cases Option.some.inj (q2.symm.trans (State.methodFound?_of_named Y.fill (by decide)))
    cases Option.some.inj (q3.symm.trans Y.fill)
    rw [Launch.admits_selectMethod X.admits]; exact q4
  obtain ⟨cellS0, hcS0, hiss⟩ := Y.statics
  obtain ⟨u0, hu0⟩ := Cond.staticRefV Y.unassigned L.unassignedStatic L.statics hcS0 hiss (a' (.isRef (.static Bundle.tN "UNASSIGNED_STACK" Bundle.steD)) (by simp [nx_atoms]))
  obtain ⟨sen, hsen⟩ := Cond.staticRefV Y.sentinel L.sentinelStatic L.statics hcS0 hiss (a' (.isRef (.static Bundle.tN "SUPPRESSED_SENTINEL" Bundle.listD)) (by simp [nx_atoms]))
  obtain ⟨ci198, i198, fB, hk198, hg198, ha198, hsB, -, hnB, htB, hffB⟩ := Cond.ownField (t := .object "java/lang/Object") Y.found L.cls (by decide +kernel) (a' (.fieldLink Bundle.tN 198 Bundle.tN "backtrace" "Ljava/lang/Object;") (by simp [nx_atoms])) (a' (.lays Bundle.tN Bundle.tN "backtrace" "Ljava/lang/Object;") (by simp [nx_atoms])) e.platform hpl
  obtain ⟨cellS, hcS', heS, -, hkeep⟩ := X.same.2.2.2.2.2 T.aS cellS0 hcS0
  have hcellS : W.heap[T.aS]? = some cellS := hcS'
  have hout' : ∀ i, (⟨T.aS, i⟩ : Loc) ∉ locs := fun i hmem => by
    have := hlocs _ hmem cellS0 hcS0
    rw [hiss] at this; cases this
  have hknownS : cellS.vm ≠ .unknown := by
    rw [heS]; intro hu
    rw [show cellS0.vm = .unknown from hu] at hiss
    cases hiss
  have hneS : T.aS ≠ a := Nat.ne_of_lt (Nat.lt_of_lt_of_le (Array.getElem?_eq_some_iff.mp hcS0).1 hnew)
  obtain ⟨iM, hffM⟩ := Y.msg
  obtain ⟨tyC, dC, hdC, hdnC⟩ := Cond.laysAt hfound hk Y.cause (a' (.lays cls Bundle.tN "cause" "Ljava/lang/Throwable;") (by simp [nx_atoms]))
  obtain ⟨tyS, dS, hdS, hdnS⟩ := Cond.laysAt hfound hk Y.stack (a' (.lays cls Bundle.tN "stackTrace" Bundle.steD) (by simp [nx_atoms]))
  obtain ⟨tyP, dP, hdP, hdnP⟩ := Cond.laysAt hfound hk Y.supp (a' (.lays cls Bundle.tN "suppressedExceptions" Bundle.listD) (by simp [nx_atoms]))
  obtain ⟨tyM, dM, hdM, hdnM⟩ := Cond.laysAt hfound hk hffM (a' (.lays cls Bundle.tN "detailMessage" "Ljava/lang/String;") (by simp [nx_atoms]))
  obtain ⟨tyB, dB, hdB, hdnB⟩ := Cond.laysAt hfound hk hffB (a' (.lays cls Bundle.tN "backtrace" "Ljava/lang/Object;") (by simp [nx_atoms]))
  have bC := Cond.laysApart hdB hdC hdnB hdnC (by rw [hnB, Y.causeName]; decide)
  have bS := Cond.laysApart hdB hdS hdnB hdnS (by rw [hnB, Y.stackName]; decide)
  have bP := Cond.laysApart hdB hdP hdnB hdnP (by rw [hnB, Y.suppName]; decide)
  have hskip : SkipFacts T e.platform s (fun u => u) u0 ((preparedCellV T.toThrowableT (freshCell P1.m.cls kX) a u0 sen).withEntry W.cur) :=
    ⟨{ ci198 := ci198, i198 := i198, fBack := fB }, ⟨hk198, hg198, ha198, hsB⟩, by
      have := fresh_default (c := P1.m.cls) tyB
      rw [htB] at this
      simpa [preparedCellV, Cell.setSlot, Cell.withEntry, Array.getElem?_setIfInBounds, bC, bS, bP, bC.symm, bS.symm, bP.symm, defaultValue] using this, fun _ _ => rfl⟩
  obtain ⟨tm, methC, cdC, kC, vm₁, hnC, -, -, -, -, -, -, -, hW₁, st1⟩ := Steps.initColdS (tb := p.tables) (e := e) (below := below) (s := s) (U := W) X.here hexec X.warmed hpl hown (t := Bundle.initS cls) rfl rfl (Bundle.fit_spec hcls).2
    (a' (.methodLink own ic (Bundle.initS cls)) (by simp [nx_atoms])) (h (.instanceMethod (Bundle.initS cls)) (by cases names <;> simp [nx_atoms, nx_chainA, Bundle.passSAtoms])) (bytes := rx) (maxL := 2) (h (.code (Bundle.initS cls) rx 2 none) (by cases names <;> simp [nx_atoms, nx_chainA, Bundle.passSAtoms]))
    (f := g) hg (a := a) (msg := msg) (rest := .ref a :: rest) hstack hd6
  cases Option.some.inj (hnC.symm.trans hP1m)
  have X₁ := X.noted hW₁
  obtain ⟨vm₂, X₂, st2⟩ := X₁.ctorMessageOffV hexec (g := { g with stack := .ref a :: rest }) hg hsize T L Z LZ M LM (P1 :: Ps)
    (fun P hP => by rcases List.mem_cons.mp hP with rfl | hP; exact L1; exact hL P hP) ⟨hlink1, hlink⟩ (u0 := u0) (sen := sen) (self := a) hmsg (cell := freshCell P1.m.cls kX) (cellS := cellS)
    hcell (fun _ => by simp) (by simp) rfl rfl hsel0 hselF hcellS hneS hknownS (by rw [hkeep _ (hout' _)]; exact hu0) (by rw [hkeep _ (hout' _)]; exact hsen)
    (Takes.of_laid hk hord tyC (by rw [Y.causeType]; rfl)) (Takes.of_laid hk hord tyS (by rw [Y.stackType]; exact fits_refV_array _ u0)) (Takes.of_laid hk hord tyP (by rw [Y.suppType]; exact fits_refV_object _ sen))
    (Takes.of_laid hk hord tyM (by rw [Y.msgType]; exact fits_refV_object _ ⟨msg, hmsg⟩)) Y.objLocals hskip htr [] hd6
    (by simp only [List.length_cons, hlen]; omega) (by simp only [List.length_cons, hlen]; exact hRlocals)
  obtain ⟨hwalk, hrun, hended, hWU, hsame⟩ := X₂.athrowLeaves hexec (g := { g with stack := .ref a :: rest, pc := g.pc + 3 }) hg hlocked hentered hout (a := a) (rest := rest) rfl hd9
  obtain ⟨c3, c4, hc3, hc4, hasg⟩ := Cond.castable_spec (a' (.castable cls cls) (by simp [nx_atoms]))
  cases Option.some.inj (hc3.symm.trans hfound)
  cases Option.some.inj (hc4.symm.trans hfound)
  have hlt : a < ((W.setVm vm₁).setVm vm₂).heap.size := (Array.getElem?_eq_some_iff.mp hcell).1
  have hU := heapAt_setCell_self (s := (W.setVm vm₁).setVm vm₂) (plainBareV T.toThrowableT (freshCell P1.m.cls kX) a u0 sen msg) hlt
  have hnM : T.fMsg.name = "detailMessage" := (State.fieldFound?_type hffM (t := .object "java/lang/String") (by decide +kernel)).1
  have nCS := Cond.laysApart hdC hdS hdnC hdnS (by rw [Y.causeName, Y.stackName]; decide)
  have nCP := Cond.laysApart hdC hdP hdnC hdnP (by rw [Y.causeName, Y.suppName]; decide)
  have nCM := Cond.laysApart hdC hdM hdnC hdnM (by rw [Y.causeName, hnM]; decide)
  have nSP := Cond.laysApart hdS hdP hdnS hdnP (by rw [Y.stackName, Y.suppName]; decide)
  have nSM := Cond.laysApart hdS hdM hdnS hdnM (by rw [Y.stackName, hnM]; decide)
  have nPM := Cond.laysApart hdP hdM hdnP hdnM (by rw [Y.suppName, hnM]; decide)
  have lC : T.fCause.slot < kX.instanceTypes.size := (Array.getElem?_eq_some_iff.mp tyC).1
  have lS : T.fStack.slot < kX.instanceTypes.size := (Array.getElem?_eq_some_iff.mp tyS).1
  have lP : T.fSupp.slot < kX.instanceTypes.size := (Array.getElem?_eq_some_iff.mp tyP).1
  have lM : T.fMsg.slot < kX.instanceTypes.size := (Array.getElem?_eq_some_iff.mp tyM).1
  have evU : ∀ o, (Term.static Bundle.tN "UNASSIGNED_STACK" Bundle.steD).eval args s o [] s = some u0.v := by
    intro o
    simp [Term.eval, State.fieldNamed?, Y.unassigned, L.unassignedStatic, L.statics, hcS0, hiss, hu0]
  have evS : ∀ o, (Term.static Bundle.tN "SUPPRESSED_SENTINEL" Bundle.listD).eval args s o [] s = some sen.v := by
    intro o
    simp [Term.eval, State.fieldNamed?, Y.sentinel, L.sentinelStatic, L.statics, hcS0, hiss, hsen]
  refine ⟨_, st1 _ (fun acts => ?_), hrun, hended, hWU, hsame.weaken (fun y hy hlt' => ?_) (Nat.le_refl _) (Nat.le_refl _), _, hU, ?_⟩
  · rw [doInvoke_state]
    exact st2 _ hwalk
  · rcases List.mem_append.mp hy with h1 | h1
    · exact h1
    · exfalso
      have hb : y.base = a := by
        simp only [List.mem_cons, List.not_mem_nil, or_false] at h1
        rcases h1 with rfl | rfl | rfl | rfl | rfl <;> rfl
      rw [hb] at hlt'
      exact Nat.not_lt.mpr hnew hlt'
  · exact { cls := hfound, self := hasg, monitor := rfl, hash := rfl, vm := rfl, size := by simp [plainBareV, preparedCellV, Cell.setSlot, hn6]
            cause := ⟨_, _, _, _, Y.cause, by simp [plainBareV, preparedCellV, Cell.setSlot, nCS.symm, nCP.symm, nCM.symm, lC]⟩
            stack := ⟨_, _, _, _, u0, Y.stack, by simp [plainBareV, preparedCellV, Cell.setSlot, nSM.symm, lS], evU⟩
            supp := ⟨_, _, _, _, sen, Y.supp, by simp [plainBareV, preparedCellV, Cell.setSlot, nSP, nPM.symm, lP], evS⟩
            msg := ⟨_, _, _, _, hffM, by simp [plainBareV, preparedCellV, Cell.setSlot, lM]⟩
            other := fun O f d c k i fd hf hy n1 n2 n3 n4 => by
              obtain ⟨ty, dd, hdd, hddn⟩ := Cond.laysAt hfound hk hf hy
              have m1 := Cond.laysApart hdd hdC hddn hdnC (by rw [Y.causeName]; exact n1)
              have m2 := Cond.laysApart hdd hdS hddn hdnS (by rw [Y.stackName]; exact n2)
              have m3 := Cond.laysApart hdd hdP hddn hdnP (by rw [Y.suppName]; exact n3)
              have m4 := Cond.laysApart hdd hdM hddn hdnM (by rw [hnM]; exact n4)
              have := fresh_default (c := P1.m.cls) ty
              simpa [plainBareV, preparedCellV, Cell.setSlot, Array.getElem?_setIfInBounds, m1, m2, m3, m4, m1.symm, m2.symm, m3.symm, m4.symm] using this }
def nx_at (own : String) (ic : Nat) (X : String) (ix : Nat) (rx : ByteArray) (names : List String) : List Cond := (nx_atoms own ic X ix rx names).filter vx_no
theorem nx_throwS {p : Program} {l : Launch} {e : Env} {R : Room} {s : State} {m : MethodId} {args : Array Value} {below : List Frame} {meth : Method} {c : Code} {H : Heap} {locs : List Loc} {cells slots : Nat} {free : Addr → Prop} {ls : Array Slot} {rest : List Value} {Qc : Array Value → State → Outcome → State → Prop} {XC : String → State → State → Prop} {ix : Nat} {rx : ByteArray} (x0 : decode rx 0 = .ok (.aload_n 0, 1)) (x1 : decode rx 1 = .ok (.aload_n 1, 1)) (x2 : decode rx 2 = .ok (.invokespecial ix, 3)) (x5 : decode rx 5 = .ok (.return_, 1)) {cc : ByteArray} {pc : Nat} (hexec : p.tables.exec = Jvm.exec) (hb : c.code = cc) (hl : l.stackTraces = false) {own cls text : String} {names : List String} {ik is ic mc ms sa : Nat} {A : Nat → Prop}
    (hown : s.vm.findClass own = some m.cls) (hcls : Bundle.fit cls = true) (hnames : ∀ n ∈ names, Bundle.fit n = true)
    (hk : (Cond.classLink own ik cls).before args s = true) (hini : (Cond.initialized cls).before args s = true) (hstr : vk_R own is text sa s) (hat : ∀ w ∈ nx_at own ic cls ix rx names, w.before args s = true)
    (hgood : ∀ w ∈ Cond.classLink own ik cls :: Cond.initialized cls :: nx_at own ic cls ix rx names, vx_ot w = true)
    (hU : vx_Zq Bundle.tN "UNASSIGNED_STACK" Bundle.steD A s s.heap) (hN : vx_Zq Bundle.tN "SUPPRESSED_SENTINEL" Bundle.listD A s s.heap) (hS : va_S A s.heap H locs) (hsize : ls.size = c.maxLocals)
    (d0 : decode cc pc = .ok (.new ik, 3)) (d3 : decode cc (pc + 3) = .ok (.dup, 1)) (d4 : decode cc (pc + 4) = .ok (.ldc is, 2)) (d6 : decode cc (pc + 6) = .ok (.invokespecial ic, 3)) (d9 : decode cc (pc + 9) = .ok (.athrow, 1))
    (hout : ∀ x ∈ c.exceptionTable.toList, covers x (pc + 9) = false)
    (hRframes : names.length + 3 < R.frames) (hRlocals : (rest.map fun v => v.category).sum + (13 * (names.length + 1) + 43) ≤ R.locals) (hRcells : cells + 1 ≤ R.cells) (hRslots : slots + 6 ≤ R.slots) (hlocks : meth.locks = false)
    (hx : ∀ t : State, s.vm.Alike t.vm → H.size ≤ t.heap.size → (∀ q : Nat, q < H.size → t.heap[q]? = H[q]?) → XC cls s t)
    (hf : ∀ z ∈ locs, free z.base) (hc : cells + 1 ≤ mc) (hs : slots + 6 ≤ ms) :
    W p l e R s m args below meth c H locs cells slots (vx_MQ below Qc XC args s mc ms free) (F0 m pc ls rest) := by
  intro T hT X
  have htr : e.platform.stackTraces = false := (show e.platform.stackTraces = l.stackTraces by rw [X.admits.platform]).trans hl
  have Y := vx_rebase X (R' := { frames := R.frames, locals := R.locals, cells := 1, slots := 6 }) (Nat.le_refl _) (Nat.le_refl _) hRcells hRslots
  obtain ⟨s', hA⟩ : ∃ z, z = (T.setVm s.vm).setFrames (.invoking m args :: below) := ⟨_, rfl⟩
  rw [← hA] at Y
  have hvm : s'.vm = s.vm := by rw [hA]; rfl
  have hhp : s'.heap = H := by rw [hA]; exact hT
  have hW0 : s.WarmedH s'.vm := by rw [hvm]; exact State.WarmedH.refl s
  have hat' : ∀ w ∈ nx_at own ic cls ix rx names, w.before args s' = true := fun w hw => vx_ot_at hW0 hvm.symm (hgood w (List.mem_cons_of_mem _ (List.mem_cons_of_mem _ hw))) (hat w hw)
  have hk' : (Cond.classLink own ik cls).before args s' = true := vx_ot_at hW0 hvm.symm (hgood _ List.mem_cons_self) hk
  have hini' : (Cond.initialized cls).before args s' = true := vx_ot_at hW0 hvm.symm (hgood _ (List.mem_cons_of_mem _ List.mem_cons_self)) hini
  have hU' : vx_Zq Bundle.tN "UNASSIGNED_STACK" Bundle.steD A s' s'.heap := by rw [hhp]; exact vx_Zq.moved hW0.alike (hU.kept hS.2.1)
  have hN' : vx_Zq Bundle.tN "SUPPRESSED_SENTINEL" Bundle.listD A s' s'.heap := by rw [hhp]; exact vx_Zq.moved hW0.alike (hN.kept hS.2.1)
  have h : ∀ w ∈ nx_atoms own ic cls ix rx names, w.before args s' = true := vx_own hat' (vx_isRefq hU'.1) (vx_isRefq hN'.1) hU'.2.word hN'.2.word
  have hown' : s'.vm.findClass own = some m.cls := by rw [hvm]; exact hown
  have hins : (Cond.instantiable cls 6).before args s' = true := h _ (by simp [nx_atoms])
  obtain ⟨vm₁, cX, kX, hfX, hkX, -, -, X₁, st1⟩ := Y.newCold hexec (own := own) (C := cls) (index := ik) (n := 6) hown' hk' hins hini'
    (g := F0 m pc ls rest) rfl (by rw [hb]; exact d0) (Nat.le_refl _) (Nat.le_refl _)
  generalize hT1 : (T.setVm vm₁).pushCell { cls := cX, slots := kX.instanceTypes.map defaultValue, vm := .none } = T1 at X₁ st1
  have hcat : (Value.ref T.heap.size).category = 1 := rfl
  have hcellA : T1.heap[T.heap.size]? = some (freshCell cX kX) := by rw [← hT1]; exact State.heap_pushCell_size _ _
  have d3' : decode c.code (pc + 3) = .ok (.dup, 1) := by rw [hb]; exact d3
  have d4' : decode c.code (pc + 4) = .ok (.ldc is, 2) := by rw [hb]; exact d4
  have hstr' : vk_R own is text sa s' := vk_R.warm hW0 hstr
  obtain ⟨U, hsteps, hrun, hend, hW, hsame, ce, hce, hO⟩ := nx_ctor x0 x1 x2 x5 X₁ hexec htr (own := own) (cls := cls) (names := names) (ic := ic) hown' hcls hnames h (fun x hx => nomatch hx) hfX hkX hcellA (by rw [hhp, hT]; exact Nat.le_refl _) (msg := .ref sa) rfl
    (g := { method := m, pc := pc + 6, locals := ls, stack := .ref sa :: .ref T.heap.size :: .ref T.heap.size :: rest, locked := none }) rfl hsize rfl rfl (rest := rest) rfl
    (by rw [hb]; exact d6) (by rw [hb]; exact d9) hout hRframes (by simp only [List.map_cons, List.sum_cons, hcat]; omega) hlocks
  obtain ⟨f1, f2⟩ := vx_frame hsame
  rw [hhp] at f1 f2
  have hWs : s.WarmedH U.vm := State.WarmedH.trans hW0 hW
  have hcl : s.vm.findClass cls = some ce.cls := by
    have h9 := hO.cls
    rw [hvm] at h9
    exact h9
  have hall : s.sameButNew ({ U with vm := s.vm } : State) locs mc ms := by
    subst hA
    obtain ⟨e1, e2⟩ := hsame
    rw [State.setFrames_setFrames] at e1
    have h2 : (T.setVm s.vm).sameButNew ({ U with vm := s.vm } : State) [] (0 + 1) (0 + 6) := ⟨e1, e2⟩
    have h3 := X.same.trans h2
    rw [List.append_nil] at h3
    exact h3.mono hc hs
  refine ⟨U, ?_, .threw T.heap.size, hrun, hend, Or.inr ⟨T.heap.size, rfl, cls, ce, locs, hx U hWs.alike f1 (fun q hq => f2 q hq (fun z hz => nomatch hz)), hce, hO.vm, hcl, hWs, hall, hf⟩⟩
  refine st1 _ ?_
  show Steps p.tables e below (T1.setTop { method := m, pc := pc + 3, locals := ls, stack := .ref T.heap.size :: rest, locked := none }) _
  jvm_step X₁.here [X₁.here.top, hexec, d3', Value.category]
  exact X₁.ldcString hexec (own := own) (text := text) (index := is) (a := sa) hown' hstr'.1 hstr'.2
    (g := { method := m, pc := pc + 4, locals := ls, stack := .ref T.heap.size :: .ref T.heap.size :: rest, locked := none }) rfl d4' _ hsteps
theorem nx_throwSW {p : Program} {l : Launch} {e : Env} {R : Room} {s : State} {m : MethodId} {args : Array Value} {below : List Frame} {meth : Method} {c : Code} {H : Heap} {locs : List Loc} {cells slots : Nat} {free : Addr → Prop} {ls : Array Slot} {rest : List Value} {Qc : Array Value → State → Outcome → State → Prop} {XC : String → State → State → Prop} {ix : Nat} {rx : ByteArray} (x0 : decode rx 0 = .ok (.aload_n 0, 1)) (x1 : decode rx 1 = .ok (.aload_n 1, 1)) (x2 : decode rx 2 = .ok (.invokespecial ix, 3)) (x5 : decode rx 5 = .ok (.return_, 1)) {cc : ByteArray} {pc : Nat} (hexec : p.tables.exec = Jvm.exec) (hb : c.code = cc) (hl : l.stackTraces = false) {own cls text : String} {names : List String} {ik is ic mc ms sa : Nat} {A : Nat → Prop}
    (hown : s.vm.findClass own = some m.cls) (hcls : Bundle.fit cls = true) (hnames : ∀ n ∈ names, Bundle.fit n = true)
    (hk : (Cond.classLink own ik cls).before args s = true) (hini : (Cond.initialized cls).before args s = true) (hstr : vk_R own is text sa s) (hat : ∀ w ∈ nx_at own ic cls ix rx names, w.before args s = true)
    (hgood : ∀ w ∈ Cond.classLink own ik cls :: Cond.initialized cls :: nx_at own ic cls ix rx names, vx_ot w = true)
    (hU : vx_Zq Bundle.tN "UNASSIGNED_STACK" Bundle.steD A s s.heap) (hN : vx_Zq Bundle.tN "SUPPRESSED_SENTINEL" Bundle.listD A s s.heap) (hS : va_S A s.heap H locs) (hsize : ls.size = c.maxLocals)
    (d0 : decode cc pc = .ok (.new ik, 3)) (d3 : decode cc (pc + 3) = .ok (.dup, 1)) (d4 : decode cc (pc + 4) = .ok (.ldc_w is, 3)) (d7 : decode cc (pc + 7) = .ok (.invokespecial ic, 3)) (d10 : decode cc (pc + 10) = .ok (.athrow, 1))
    (hout : ∀ x ∈ c.exceptionTable.toList, covers x (pc + 10) = false)
    (hRframes : names.length + 3 < R.frames) (hRlocals : (rest.map fun v => v.category).sum + (13 * (names.length + 1) + 43) ≤ R.locals) (hRcells : cells + 1 ≤ R.cells) (hRslots : slots + 6 ≤ R.slots) (hlocks : meth.locks = false)
    (hx : ∀ t : State, s.vm.Alike t.vm → H.size ≤ t.heap.size → (∀ q : Nat, q < H.size → t.heap[q]? = H[q]?) → XC cls s t)
    (hf : ∀ z ∈ locs, free z.base) (hc : cells + 1 ≤ mc) (hs : slots + 6 ≤ ms) :
    W p l e R s m args below meth c H locs cells slots (vx_MQ below Qc XC args s mc ms free) (F0 m pc ls rest) := by
  intro T hT X
  have htr : e.platform.stackTraces = false := (show e.platform.stackTraces = l.stackTraces by rw [X.admits.platform]).trans hl
  have Y := vx_rebase X (R' := { frames := R.frames, locals := R.locals, cells := 1, slots := 6 }) (Nat.le_refl _) (Nat.le_refl _) hRcells hRslots
  obtain ⟨s', hA⟩ : ∃ z, z = (T.setVm s.vm).setFrames (.invoking m args :: below) := ⟨_, rfl⟩
  rw [← hA] at Y
  have hvm : s'.vm = s.vm := by rw [hA]; rfl
  have hhp : s'.heap = H := by rw [hA]; exact hT
  have hW0 : s.WarmedH s'.vm := by rw [hvm]; exact State.WarmedH.refl s
  have hat' : ∀ w ∈ nx_at own ic cls ix rx names, w.before args s' = true := fun w hw => vx_ot_at hW0 hvm.symm (hgood w (List.mem_cons_of_mem _ (List.mem_cons_of_mem _ hw))) (hat w hw)
  have hk' : (Cond.classLink own ik cls).before args s' = true := vx_ot_at hW0 hvm.symm (hgood _ List.mem_cons_self) hk
  have hini' : (Cond.initialized cls).before args s' = true := vx_ot_at hW0 hvm.symm (hgood _ (List.mem_cons_of_mem _ List.mem_cons_self)) hini
  have hU' : vx_Zq Bundle.tN "UNASSIGNED_STACK" Bundle.steD A s' s'.heap := by rw [hhp]; exact vx_Zq.moved hW0.alike (hU.kept hS.2.1)
  have hN' : vx_Zq Bundle.tN "SUPPRESSED_SENTINEL" Bundle.listD A s' s'.heap := by rw [hhp]; exact vx_Zq.moved hW0.alike (hN.kept hS.2.1)
  have h : ∀ w ∈ nx_atoms own ic cls ix rx names, w.before args s' = true := vx_own hat' (vx_isRefq hU'.1) (vx_isRefq hN'.1) hU'.2.word hN'.2.word
  have hown' : s'.vm.findClass own = some m.cls := by rw [hvm]; exact hown
  have hins : (Cond.instantiable cls 6).before args s' = true := h _ (by simp [nx_atoms])
  obtain ⟨vm₁, cX, kX, hfX, hkX, -, -, X₁, st1⟩ := Y.newCold hexec (own := own) (C := cls) (index := ik) (n := 6) hown' hk' hins hini'
    (g := F0 m pc ls rest) rfl (by rw [hb]; exact d0) (Nat.le_refl _) (Nat.le_refl _)
  generalize hT1 : (T.setVm vm₁).pushCell { cls := cX, slots := kX.instanceTypes.map defaultValue, vm := .none } = T1 at X₁ st1
  have hcat : (Value.ref T.heap.size).category = 1 := rfl
  have hcellA : T1.heap[T.heap.size]? = some (freshCell cX kX) := by rw [← hT1]; exact State.heap_pushCell_size _ _
  have d3' : decode c.code (pc + 3) = .ok (.dup, 1) := by rw [hb]; exact d3
  have d4' : decode c.code (pc + 4) = .ok (.ldc_w is, 3) := by rw [hb]; exact d4
  have hstr' : vk_R own is text sa s' := vk_R.warm hW0 hstr
  obtain ⟨U, hsteps, hrun, hend, hW, hsame, ce, hce, hO⟩ := nx_ctor x0 x1 x2 x5 X₁ hexec htr (own := own) (cls := cls) (names := names) (ic := ic) hown' hcls hnames h (fun x hx => nomatch hx) hfX hkX hcellA (by rw [hhp, hT]; exact Nat.le_refl _) (msg := .ref sa) rfl
    (g := { method := m, pc := pc + 7, locals := ls, stack := .ref sa :: .ref T.heap.size :: .ref T.heap.size :: rest, locked := none }) rfl hsize rfl rfl (rest := rest) rfl
    (by rw [hb]; exact d7) (by rw [hb]; exact d10) hout hRframes (by simp only [List.map_cons, List.sum_cons, hcat]; omega) hlocks
  obtain ⟨f1, f2⟩ := vx_frame hsame
  rw [hhp] at f1 f2
  have hWs : s.WarmedH U.vm := State.WarmedH.trans hW0 hW
  have hcl : s.vm.findClass cls = some ce.cls := by
    have h9 := hO.cls
    rw [hvm] at h9
    exact h9
  have hall : s.sameButNew ({ U with vm := s.vm } : State) locs mc ms := by
    subst hA
    obtain ⟨e1, e2⟩ := hsame
    rw [State.setFrames_setFrames] at e1
    have h2 : (T.setVm s.vm).sameButNew ({ U with vm := s.vm } : State) [] (0 + 1) (0 + 6) := ⟨e1, e2⟩
    have h3 := X.same.trans h2
    rw [List.append_nil] at h3
    exact h3.mono hc hs
  refine ⟨U, ?_, .threw T.heap.size, hrun, hend, Or.inr ⟨T.heap.size, rfl, cls, ce, locs, hx U hWs.alike f1 (fun q hq => f2 q hq (fun z hz => nomatch hz)), hce, hO.vm, hcl, hWs, hall, hf⟩⟩
  refine st1 _ ?_
  show Steps p.tables e below (T1.setTop { method := m, pc := pc + 3, locals := ls, stack := .ref T.heap.size :: rest, locked := none }) _
  jvm_step X₁.here [X₁.here.top, hexec, d3', Value.category]
  exact X₁.ldcStringW hexec (own := own) (text := text) (index := is) (a := sa) hown' hstr'.1 hstr'.2
    (g := { method := m, pc := pc + 4, locals := ls, stack := .ref T.heap.size :: .ref T.heap.size :: rest, locked := none }) rfl d4' _ hsteps
def ThrowOkX (own cls text : String) (ik is ic ix : Nat) (rx : ByteArray) : Prop := Bundle.fit cls = true ∧ Cond.classLink own ik cls ∈ lwA ∧ Cond.initialized cls ∈ lwA ∧ (own, is, text) ∈ strl ∧ (∀ w ∈ nx_at own ic cls ix rx xnm, w ∈ lwA ∨ w ∈ nwl) ∧ (∀ w ∈ Cond.classLink own ik cls :: Cond.initialized cls :: nx_at own ic cls ix rx xnm, vx_ot w = true)
theorem en_y {p : Program} {l : Launch} {e : Env} {R : Room} {s : State} {m : MethodId} {args : Array Value} {below : List Frame} {meth : Method} {c : Code} {H : Heap} {locs : List Loc} {cells slots : Nat} {cc : ByteArray} {nL : Nat} {own : String} {G : GT} {A : Nat → Prop} {S : Mem} {pc : Nat} {ls : Array Slot} {rest : List Value} {mc ms : Nat} {postX : Nat → Mem → Prop} {ix : Nat} {rx : ByteArray} (x0 : decode rx 0 = .ok (.aload_n 0, 1)) (x1 : decode rx 1 = .ok (.aload_n 1, 1)) (x2 : decode rx 2 = .ok (.invokespecial ix, 3)) (x5 : decode rx 5 = .ok (.return_, 1)) {Qc : Array Value → State → Outcome → State → Prop} {text : String} {ik is ic : Nat} (k : Nat) (X : Cx p s m args meth c cc nL own G A) (h : Hx G A s.heap H locs S) (hl9 : l.stackTraces = false) (hok : ThrowOkX own (xn k) text ik is ic ix rx) (hls : ls.size = nL) (hno : ∀ x ∈ c.exceptionTable.toList, False)
    (d0 : decode cc pc = .ok (.new ik, 3)) (d3 : decode cc (pc + 3) = .ok (.dup, 1)) (d4 : decode cc (pc + 4) = .ok (.ldc is, 2)) (d6 : decode cc (pc + 6) = .ok (.invokespecial ic, 3)) (d9 : decode cc (pc + 9) = .ok (.athrow, 1))
    (hR : 5 < R.frames ∧ (rest.map fun v => v.category).sum + 82 ≤ R.locals) (hf : cells + 1 ≤ R.cells ∧ slots + 6 ≤ R.slots) (hg : cells + 1 ≤ mc ∧ slots + 6 ≤ ms) (hw : postX k S) :
    W p l e R s m args below meth c H locs cells slots (vx_MQ below Qc (QX postX G A) args s mc ms A) (F0 m pc ls rest) := by
  obtain ⟨sa, hsa⟩ := X.2.2.2.2.2.2.1.2.2.2.1 _ hok.2.2.2.1
  exact nx_throwS x0 x1 x2 x5 (own := own) (cls := xn k) (names := xnm) X.1 X.2.1 hl9 X.2.2.2.1 hok.1 (by decide +kernel) (X.hts hok.2.1) (X.hts hok.2.2.1) hsa (fun w hw => (hok.2.2.2.2.1 w hw).elim X.hts X.nwu) hok.2.2.2.2.2 X.2.2.2.2.2.2.1.2.1 X.2.2.2.2.2.2.1.2.2.1 h.2.2 (hls.trans X.2.2.1.symm) d0 d3 d4 d6 d9 (fun x hx => (hno x hx).elim) hR.1 hR.2 hf.1 hf.2 X.2.2.2.2.2.2.2.2
    (fun t ha hsz hk => ⟨k, S, rfl, hw, ⟨h.1.kept (fun k q hq => hk q.1 (h.1 k q hq).lt), va_K.moved ha X.2.2.2.2.2.1, h.2.1⟩, Nat.le_trans h.2.2.1 hsz, fun q h1 h2 => (hk q (Nat.lt_of_lt_of_le h1 h.2.2.1)).trans (h.2.2.2.1 q h1 h2)⟩) h.2.2.2.2 hg.1 hg.2
theorem en_yW {p : Program} {l : Launch} {e : Env} {R : Room} {s : State} {m : MethodId} {args : Array Value} {below : List Frame} {meth : Method} {c : Code} {H : Heap} {locs : List Loc} {cells slots : Nat} {cc : ByteArray} {nL : Nat} {own : String} {G : GT} {A : Nat → Prop} {S : Mem} {pc : Nat} {ls : Array Slot} {rest : List Value} {mc ms : Nat} {postX : Nat → Mem → Prop} {ix : Nat} {rx : ByteArray} (x0 : decode rx 0 = .ok (.aload_n 0, 1)) (x1 : decode rx 1 = .ok (.aload_n 1, 1)) (x2 : decode rx 2 = .ok (.invokespecial ix, 3)) (x5 : decode rx 5 = .ok (.return_, 1)) {Qc : Array Value → State → Outcome → State → Prop} {text : String} {ik is ic : Nat} (k : Nat) (X : Cx p s m args meth c cc nL own G A) (h : Hx G A s.heap H locs S) (hl9 : l.stackTraces = false) (hok : ThrowOkX own (xn k) text ik is ic ix rx) (hls : ls.size = nL) (hno : ∀ x ∈ c.exceptionTable.toList, False)
    (d0 : decode cc pc = .ok (.new ik, 3)) (d3 : decode cc (pc + 3) = .ok (.dup, 1)) (d4 : decode cc (pc + 4) = .ok (.ldc_w is, 3)) (d6 : decode cc (pc + 7) = .ok (.invokespecial ic, 3)) (d9 : decode cc (pc + 10) = .ok (.athrow, 1))
    (hR : 5 < R.frames ∧ (rest.map fun v => v.category).sum + 82 ≤ R.locals) (hf : cells + 1 ≤ R.cells ∧ slots + 6 ≤ R.slots) (hg : cells + 1 ≤ mc ∧ slots + 6 ≤ ms) (hw : postX k S) :
    W p l e R s m args below meth c H locs cells slots (vx_MQ below Qc (QX postX G A) args s mc ms A) (F0 m pc ls rest) := by
  obtain ⟨sa, hsa⟩ := X.2.2.2.2.2.2.1.2.2.2.1 _ hok.2.2.2.1
  exact nx_throwSW x0 x1 x2 x5 (own := own) (cls := xn k) (names := xnm) X.1 X.2.1 hl9 X.2.2.2.1 hok.1 (by decide +kernel) (X.hts hok.2.1) (X.hts hok.2.2.1) hsa (fun w hw => (hok.2.2.2.2.1 w hw).elim X.hts X.nwu) hok.2.2.2.2.2 X.2.2.2.2.2.2.1.2.1 X.2.2.2.2.2.2.1.2.2.1 h.2.2 (hls.trans X.2.2.1.symm) d0 d3 d4 d6 d9 (fun x hx => (hno x hx).elim) hR.1 hR.2 hf.1 hf.2 X.2.2.2.2.2.2.2.2
    (fun t ha hsz hk => ⟨k, S, rfl, hw, ⟨h.1.kept (fun k q hq => hk q.1 (h.1 k q hq).lt), va_K.moved ha X.2.2.2.2.2.1, h.2.1⟩, Nat.le_trans h.2.2.1 hsz, fun q h1 h2 => (hk q (Nat.lt_of_lt_of_le h1 h.2.2.1)).trans (h.2.2.2.1 q h1 h2)⟩) h.2.2.2.2 hg.1 hg.2
end
section
theorem q70 : Cond.fieldLink RX0 21 RX0 (TX0 3).2.1 (TX0 3).2.2.1 ∈ lwA := mA 70 (by decide +kernel) (by decide +kernel)
theorem inX0 : ∀ w ∈ u_ws RX0 TX0 5, w ∈ lwA := inA [74, 76, 78, 80, 82] (by decide +kernel) (by decide +kernel)
theorem q141 : Cond.fieldLink RX6 12 RX6 (TX6 0).2.1 (TX6 0).2.2.1 ∈ lwA := mA 141 (by decide +kernel) (by decide +kernel)
theorem inX6 : ∀ w ∈ u_ws RX6 TX6 12, w ∈ lwA := inA [153, 155, 157, 159, 161, 163, 165, 167, 169, 171, 173, 175] (by decide +kernel) (by decide +kernel)
theorem q71 : Cond.fieldLinkNest RX6 49 RX0 (TX0 3).2.1 (TX0 3).2.2.1 RX6 ∈ nwl := mW 71 (by decide +kernel) (by decide +kernel)
theorem q34 : Cond.initialized RX0 ∈ lwA := mA 34 (by decide +kernel) (by decide +kernel)
theorem q273 : Cond.code yX0_add cX0_add 1 (some .int) ∈ lwA := mA 273 (by decide +kernel) (by decide +kernel)
theorem q270 : Cond.methodLink RX6 60 yX0_add ∈ lwA := mA 270 (by decide +kernel) (by decide +kernel)
theorem q271 : Cond.instanceMethod yX0_add ∈ lwA := mA 271 (by decide +kernel) (by decide +kernel)
theorem q272 : Cond.selects RX0 yX0_add yX0_add ∈ lwA := mA 272 (by decide +kernel) (by decide +kernel)
theorem gV_X6_60 : GoodIn lwA (wsV RX6 60 RX0 yX0_add (wsU yX0_add cX0_add 1 (some .int))) := gI_V q270 q271 q272 q34 (gI_U q273)
theorem hdV_X0_add : yX0_add.cls = RX0 ∧ yX0_add.cls ≠ "java/lang/invoke/MethodHandle" ∧ yX0_add.cls ≠ "java/lang/invoke/VarHandle" ∧ (parseMethodDescriptor yX0_add.desc).map (fun d => d.parameters.length) = some 0 := by decide +kernel
theorem ta_X6_57 : ∀ w ∈ vx_atS RX6 57 "java/lang/IllegalStateException" xnm, w ∈ lwA ∨ w ∈ nwl := by decide +kernel
theorem ta_X6_57g : ∀ w ∈ Cond.classLink RX6 53 "java/lang/IllegalStateException" :: Cond.initialized "java/lang/IllegalStateException" :: vx_atS RX6 57 "java/lang/IllegalStateException" xnm, vx_ot w = true := by decide +kernel
theorem q198 : Cond.classLink RX6 53 "java/lang/IllegalStateException" ∈ lwA := mA 198 (by decide +kernel) (by decide +kernel)
theorem q42 : Cond.initialized "java/lang/IllegalStateException" ∈ lwA := mA 42 (by decide +kernel) (by decide +kernel)
theorem th_X6_55 : ThrowOk RX6 (xn 2) "there are 12 contents" 53 55 57 := ⟨by decide +kernel, q198, q42, by decide +kernel, ta_X6_57, ta_X6_57g⟩
theorem q428 : Cond.methodLink RX1 3 Lib.objectInit ∈ lwA := mA 428 (by decide +kernel) (by decide +kernel)
theorem q59 : Cond.instanceMethod Lib.objectInit ∈ lwA := mA 59 (by decide +kernel) (by decide +kernel)
theorem q60 : Cond.code Lib.objectInit ⟨#[0xb1]⟩ 1 none ∈ lwA := mA 60 (by decide +kernel) (by decide +kernel)
theorem q429 : Cond.fieldLink RX1 9 RX1 (TX1 0).2.1 (TX1 0).2.2.1 ∈ lwA := mA 429 (by decide +kernel) (by decide +kernel)
theorem inX1 : ∀ w ∈ u_ws RX1 TX1 4, w ∈ lwA := inA [435, 437, 439, 441] (by decide +kernel) (by decide +kernel)
theorem q85 : Cond.arrayClass .int ∈ lwA := mA 85 (by decide +kernel) (by decide +kernel)
theorem q431 : Cond.fieldLink RX1 15 RX1 (TX1 1).2.1 (TX1 1).2.2.1 ∈ lwA := mA 431 (by decide +kernel) (by decide +kernel)
theorem q432 : Cond.fieldLink RX1 19 RX1 (TX1 2).2.1 (TX1 2).2.2.1 ∈ lwA := mA 432 (by decide +kernel) (by decide +kernel)
theorem q147 : Cond.fieldLink RX6 101 RX6 (TX6 6).2.1 (TX6 6).2.2.1 ∈ lwA := mA 147 (by decide +kernel) (by decide +kernel)
theorem th_X6_104 : ThrowOk RX6 (xn 2) "there are 4 jobs" 53 104 57 := ⟨by decide +kernel, q198, q42, by decide +kernel, ta_X6_57, ta_X6_57g⟩
theorem q142 : Cond.fieldLink RX6 18 RX6 (TX6 1).2.1 (TX6 1).2.2.1 ∈ lwA := mA 142 (by decide +kernel) (by decide +kernel)
theorem q33 : Cond.initialized RX6 ∈ lwA := mA 33 (by decide +kernel) (by decide +kernel)
theorem q351 : Cond.code yX6_findJob cX6_findJob 2 (some (.object "BinderyDesk$Job")) ∈ lwA := mA 351 (by decide +kernel) (by decide +kernel)
theorem q348 : Cond.methodLink RX6 82 yX6_findJob ∈ lwA := mA 348 (by decide +kernel) (by decide +kernel)
theorem q350 : Cond.instanceMethod yX6_findJob ∈ lwA := mA 350 (by decide +kernel) (by decide +kernel)
theorem q2 : Cond.selects RX6 yX6_findJob yX6_findJob ∈ lwA := mA 2 (by decide +kernel) (by decide +kernel)
theorem gV_X6_82 : GoodIn lwA (wsV RX6 82 RX6 yX6_findJob (wsU yX6_findJob cX6_findJob 2 (some (.object "BinderyDesk$Job")))) := gI_V q348 q350 q2 q33 (gI_U q351)
theorem hdV_X6_findJob : yX6_findJob.cls = RX6 ∧ yX6_findJob.cls ≠ "java/lang/invoke/MethodHandle" ∧ yX6_findJob.cls ≠ "java/lang/invoke/VarHandle" ∧ (parseMethodDescriptor yX6_findJob.desc).map (fun d => d.parameters.length) = some 1 := by decide +kernel
theorem ta_X6_282 : ∀ w ∈ vx_atS RX6 282 "java/lang/IndexOutOfBoundsException" xnm, w ∈ lwA ∨ w ∈ nwl := by decide +kernel
theorem ta_X6_282g : ∀ w ∈ Cond.classLink RX6 278 "java/lang/IndexOutOfBoundsException" :: Cond.initialized "java/lang/IndexOutOfBoundsException" :: vx_atS RX6 282 "java/lang/IndexOutOfBoundsException" xnm, vx_ot w = true := by decide +kernel
theorem q309 : Cond.classLink RX6 278 "java/lang/IndexOutOfBoundsException" ∈ lwA := mA 309 (by decide +kernel) (by decide +kernel)
theorem q43 : Cond.initialized "java/lang/IndexOutOfBoundsException" ∈ lwA := mA 43 (by decide +kernel) (by decide +kernel)
theorem th_X6_283 : ThrowOk RX6 (xn 1) "no such job" 278 283 282 := ⟨by decide +kernel, q309, q43, by decide +kernel, ta_X6_282, ta_X6_282g⟩
theorem th_X6_280 : ThrowOk RX6 (xn 1) "no such content" 278 280 282 := ⟨by decide +kernel, q309, q43, by decide +kernel, ta_X6_282, ta_X6_282g⟩
theorem q328 : Cond.code yX6_at cX6_at 2 (some .int) ∈ lwA := mA 328 (by decide +kernel) (by decide +kernel)
theorem gU_X1_30 : GoodIn lwA (wsU yX6_at cX6_at 2 (some .int)) := (gI_U q328)
theorem q380 : Cond.methodLinkNest RX1 30 yX6_at RX6 ∈ nwl := mW 380 (by decide +kernel) (by decide +kernel)
theorem q327 : Cond.static yX6_at ∈ lwA := mA 327 (by decide +kernel) (by decide +kernel)
theorem hdS_X6_at : yX6_at.cls ≠ "java/lang/invoke/MethodHandle" ∧ yX6_at.cls ≠ "java/lang/invoke/VarHandle" ∧ (parseMethodDescriptor yX6_at.desc).map (fun d => d.parameters.length) = some 2 := by decide +kernel
theorem q335 : Cond.code yX6_put cX6_put 3 none ∈ lwA := mA 335 (by decide +kernel) (by decide +kernel)
theorem gU_X1_26 : GoodIn lwA (wsU yX6_put cX6_put 3 none) := (gI_U q335)
theorem q385 : Cond.methodLinkNest RX1 26 yX6_put RX6 ∈ nwl := mW 385 (by decide +kernel) (by decide +kernel)
theorem q334 : Cond.static yX6_put ∈ lwA := mA 334 (by decide +kernel) (by decide +kernel)
theorem hdS_X6_put : yX6_put.cls ≠ "java/lang/invoke/MethodHandle" ∧ yX6_put.cls ≠ "java/lang/invoke/VarHandle" ∧ (parseMethodDescriptor yX6_put.desc).map (fun d => d.parameters.length) = some 3 := by decide +kernel
theorem q47 : Cond.initialized RX1 ∈ lwA := mA 47 (by decide +kernel) (by decide +kernel)
theorem q384 : Cond.code yX1_takeSheets cX1_takeSheets 3 (some .int) ∈ lwA := mA 384 (by decide +kernel) (by decide +kernel)
theorem q381 : Cond.methodLink RX1 56 yX1_takeSheets ∈ lwA := mA 381 (by decide +kernel) (by decide +kernel)
theorem q382 : Cond.instanceMethod yX1_takeSheets ∈ lwA := mA 382 (by decide +kernel) (by decide +kernel)
theorem q383 : Cond.selects RX1 yX1_takeSheets yX1_takeSheets ∈ lwA := mA 383 (by decide +kernel) (by decide +kernel)
theorem gV_X1_56 : GoodIn lwA (wsV RX1 56 RX1 yX1_takeSheets (wsU yX1_takeSheets cX1_takeSheets 3 (some .int))) := gI_V q381 q382 q383 q47 (gI_U q384)
theorem hdV_X1_takeSheets : yX1_takeSheets.cls = RX1 ∧ yX1_takeSheets.cls ≠ "java/lang/invoke/MethodHandle" ∧ yX1_takeSheets.cls ≠ "java/lang/invoke/VarHandle" ∧ (parseMethodDescriptor yX1_takeSheets.desc).map (fun d => d.parameters.length) = some 1 := by decide +kernel
theorem q433 : Cond.fieldLink RX1 22 RX1 (TX1 3).2.1 (TX1 3).2.2.1 ∈ lwA := mA 433 (by decide +kernel) (by decide +kernel)
theorem q68 : Cond.fieldLink RX0 15 RX0 (TX0 1).2.1 (TX0 1).2.2.1 ∈ lwA := mA 68 (by decide +kernel) (by decide +kernel)
theorem gU_X0_25 : GoodIn lwA (wsU yX6_at cX6_at 2 (some .int)) := (gI_U q328)
theorem q326 : Cond.methodLinkNest RX0 25 yX6_at RX6 ∈ nwl := mW 326 (by decide +kernel) (by decide +kernel)
theorem gU_X0_29 : GoodIn lwA (wsU yX6_put cX6_put 3 none) := (gI_U q335)
theorem q333 : Cond.methodLinkNest RX0 29 yX6_put RX6 ∈ nwl := mW 333 (by decide +kernel) (by decide +kernel)
theorem ta_X6_100 : ∀ w ∈ vx_atS RX6 100 "java/lang/IllegalArgumentException" xnm, w ∈ lwA ∨ w ∈ nwl := by decide +kernel
theorem ta_X6_100g : ∀ w ∈ Cond.classLink RX6 96 "java/lang/IllegalArgumentException" :: Cond.initialized "java/lang/IllegalArgumentException" :: vx_atS RX6 100 "java/lang/IllegalArgumentException" xnm, vx_ot w = true := by decide +kernel
theorem q407 : Cond.classLink RX6 96 "java/lang/IllegalArgumentException" ∈ lwA := mA 407 (by decide +kernel) (by decide +kernel)
theorem q46 : Cond.initialized "java/lang/IllegalArgumentException" ∈ lwA := mA 46 (by decide +kernel) (by decide +kernel)
theorem th_X6_293 : ThrowOk RX6 (xn 4) "the number is not 1 to 500" 96 293 100 := ⟨by decide +kernel, q407, q46, by decide +kernel, ta_X6_100, ta_X6_100g⟩
theorem q489 : Cond.code yX1_isComplete cX1_isComplete 1 (some .boolean) ∈ lwA := mA 489 (by decide +kernel) (by decide +kernel)
theorem q486 : Cond.methodLink RX6 285 yX1_isComplete ∈ lwA := mA 486 (by decide +kernel) (by decide +kernel)
theorem q487 : Cond.instanceMethod yX1_isComplete ∈ lwA := mA 487 (by decide +kernel) (by decide +kernel)
theorem q488 : Cond.selects RX1 yX1_isComplete yX1_isComplete ∈ lwA := mA 488 (by decide +kernel) (by decide +kernel)
theorem gV_X6_285 : GoodIn lwA (wsV RX6 285 RX1 yX1_isComplete (wsU yX1_isComplete cX1_isComplete 1 (some .boolean))) := gI_V q486 q487 q488 q47 (gI_U q489)
theorem hdV_X1_isComplete : yX1_isComplete.cls = RX1 ∧ yX1_isComplete.cls ≠ "java/lang/invoke/MethodHandle" ∧ yX1_isComplete.cls ≠ "java/lang/invoke/VarHandle" ∧ (parseMethodDescriptor yX1_isComplete.desc).map (fun d => d.parameters.length) = some 0 := by decide +kernel
theorem th_X6_289 : ThrowOk RX6 (xn 2) "the job is not complete" 53 289 57 := ⟨by decide +kernel, q198, q42, by decide +kernel, ta_X6_57, ta_X6_57g⟩
theorem q359 : Cond.code yX1_sheetCount cX1_sheetCount 1 (some .int) ∈ lwA := mA 359 (by decide +kernel) (by decide +kernel)
theorem q356 : Cond.methodLink RX1 46 yX1_sheetCount ∈ lwA := mA 356 (by decide +kernel) (by decide +kernel)
theorem q357 : Cond.instanceMethod yX1_sheetCount ∈ lwA := mA 357 (by decide +kernel) (by decide +kernel)
theorem q358 : Cond.selects RX1 yX1_sheetCount yX1_sheetCount ∈ lwA := mA 358 (by decide +kernel) (by decide +kernel)
theorem gV_X1_46 : GoodIn lwA (wsV RX1 46 RX1 yX1_sheetCount (wsU yX1_sheetCount cX1_sheetCount 1 (some .int))) := gI_V q356 q357 q358 q47 (gI_U q359)
theorem hdV_X1_sheetCount : yX1_sheetCount.cls = RX1 ∧ yX1_sheetCount.cls ≠ "java/lang/invoke/MethodHandle" ∧ yX1_sheetCount.cls ≠ "java/lang/invoke/VarHandle" ∧ (parseMethodDescriptor yX1_sheetCount.desc).map (fun d => d.parameters.length) = some 0 := by decide +kernel
theorem q703 : Cond.methodLink RX1 62 Lib.Math.max.name ∈ lwA := mA 703 (by decide +kernel) (by decide +kernel)
theorem q636 : Cond.static Lib.Math.max.name ∈ lwA := mA 636 (by decide +kernel) (by decide +kernel)
theorem q50 : Cond.initialized "java/lang/Math" ∈ lwA := mA 50 (by decide +kernel) (by decide +kernel)
theorem q637 : Cond.code Lib.Math.max.name Lib.Math.max.code 2 (some .int) ∈ lwA := mA 637 (by decide +kernel) (by decide +kernel)
theorem q609 : Cond.code yX1_addToStock cX1_addToStock 3 none ∈ lwA := mA 609 (by decide +kernel) (by decide +kernel)
theorem q709 : Cond.methodLink RX1 67 yX1_addToStock ∈ lwA := mA 709 (by decide +kernel) (by decide +kernel)
theorem q607 : Cond.instanceMethod yX1_addToStock ∈ lwA := mA 607 (by decide +kernel) (by decide +kernel)
theorem q608 : Cond.selects RX1 yX1_addToStock yX1_addToStock ∈ lwA := mA 608 (by decide +kernel) (by decide +kernel)
theorem gV_X1_67 : GoodIn lwA (wsV RX1 67 RX1 yX1_addToStock (wsU yX1_addToStock cX1_addToStock 3 none)) := gI_V q709 q607 q608 q47 (gI_U q609)
theorem hdV_X1_addToStock : yX1_addToStock.cls = RX1 ∧ yX1_addToStock.cls ≠ "java/lang/invoke/MethodHandle" ∧ yX1_addToStock.cls ≠ "java/lang/invoke/VarHandle" ∧ (parseMethodDescriptor yX1_addToStock.desc).map (fun d => d.parameters.length) = some 2 := by decide +kernel
theorem q718 : Cond.methodLink RX2 3 Lib.objectInit ∈ lwA := mA 718 (by decide +kernel) (by decide +kernel)
theorem q719 : Cond.fieldLink RX2 9 RX2 (TX2 0).2.1 (TX2 0).2.2.1 ∈ lwA := mA 719 (by decide +kernel) (by decide +kernel)
theorem inX2 : ∀ w ∈ u_ws RX2 TX2 5, w ∈ lwA := inA [727, 729, 731, 733, 735] (by decide +kernel) (by decide +kernel)
theorem q721 : Cond.fieldLink RX2 15 RX2 (TX2 1).2.1 (TX2 1).2.2.1 ∈ lwA := mA 721 (by decide +kernel) (by decide +kernel)
theorem q723 : Cond.fieldLink RX2 18 RX2 (TX2 2).2.1 (TX2 2).2.2.1 ∈ lwA := mA 723 (by decide +kernel) (by decide +kernel)
theorem q725 : Cond.fieldLink RX2 21 RX2 (TX2 3).2.1 (TX2 3).2.2.1 ∈ lwA := mA 725 (by decide +kernel) (by decide +kernel)
theorem q726 : Cond.fieldLink RX2 25 RX2 (TX2 4).2.1 (TX2 4).2.2.1 ∈ lwA := mA 726 (by decide +kernel) (by decide +kernel)
theorem q67 : Cond.fieldLink RX0 9 RX0 (TX0 0).2.1 (TX0 0).2.2.1 ∈ lwA := mA 67 (by decide +kernel) (by decide +kernel)
theorem gU_X2_28 : GoodIn lwA (wsU yX6_put cX6_put 3 none) := (gI_U q335)
theorem q743 : Cond.methodLinkNest RX2 28 yX6_put RX6 ∈ nwl := mW 743 (by decide +kernel) (by decide +kernel)
theorem q139 : Cond.classLink RX6 43 RX2 ∈ lwA := mA 139 (by decide +kernel) (by decide +kernel)
theorem q714 : Cond.instantiable RX2 5 ∈ lwA := mA 714 (by decide +kernel) (by decide +kernel)
theorem q51 : Cond.initialized RX2 ∈ lwA := mA 51 (by decide +kernel) (by decide +kernel)
theorem q434 : Cond.fieldLinkNest RX6 112 RX1 (TX1 3).2.1 (TX1 3).2.2.1 RX6 ∈ nwl := mW 434 (by decide +kernel) (by decide +kernel)
theorem q73 : Cond.fieldLinkNest RX6 319 RX0 (TX0 4).2.1 (TX0 4).2.2.1 RX6 ∈ nwl := mW 73 (by decide +kernel) (by decide +kernel)
theorem q717 : Cond.code yX2_init cX2_init 4 none ∈ lwA := mA 717 (by decide +kernel) (by decide +kernel)
theorem gU_X6_320 : GoodIn lwA (wsU yX2_init cX2_init 4 none) := (gI_U q717)
theorem q715 : Cond.methodLink RX6 320 yX2_init ∈ lwA := mA 715 (by decide +kernel) (by decide +kernel)
theorem q716 : Cond.instanceMethod yX2_init ∈ lwA := mA 716 (by decide +kernel) (by decide +kernel)
theorem hdS_X2_init : yX2_init.cls ≠ "java/lang/invoke/MethodHandle" ∧ yX2_init.cls ≠ "java/lang/invoke/VarHandle" ∧ (parseMethodDescriptor yX2_init.desc).map (fun d => d.parameters.length) = some 3 := by decide +kernel
theorem q379 : Cond.code yX1_contentOf cX1_contentOf 2 (some .int) ∈ lwA := mA 379 (by decide +kernel) (by decide +kernel)
theorem q738 : Cond.methodLink RX6 322 yX1_contentOf ∈ lwA := mA 738 (by decide +kernel) (by decide +kernel)
theorem q377 : Cond.instanceMethod yX1_contentOf ∈ lwA := mA 377 (by decide +kernel) (by decide +kernel)
theorem q378 : Cond.selects RX1 yX1_contentOf yX1_contentOf ∈ lwA := mA 378 (by decide +kernel) (by decide +kernel)
theorem gV_X6_322 : GoodIn lwA (wsV RX6 322 RX1 yX1_contentOf (wsU yX1_contentOf cX1_contentOf 2 (some .int))) := gI_V q738 q377 q378 q47 (gI_U q379)
theorem hdV_X1_contentOf : yX1_contentOf.cls = RX1 ∧ yX1_contentOf.cls ≠ "java/lang/invoke/MethodHandle" ∧ yX1_contentOf.cls ≠ "java/lang/invoke/VarHandle" ∧ (parseMethodDescriptor yX1_contentOf.desc).map (fun d => d.parameters.length) = some 1 := by decide +kernel
theorem q346 : Cond.code yX0_stateOf cX0_stateOf 2 (some .int) ∈ lwA := mA 346 (by decide +kernel) (by decide +kernel)
theorem q343 : Cond.methodLink RX6 76 yX0_stateOf ∈ lwA := mA 343 (by decide +kernel) (by decide +kernel)
theorem q344 : Cond.instanceMethod yX0_stateOf ∈ lwA := mA 344 (by decide +kernel) (by decide +kernel)
theorem q345 : Cond.selects RX0 yX0_stateOf yX0_stateOf ∈ lwA := mA 345 (by decide +kernel) (by decide +kernel)
theorem gV_X6_76 : GoodIn lwA (wsV RX6 76 RX0 yX0_stateOf (wsU yX0_stateOf cX0_stateOf 2 (some .int))) := gI_V q343 q344 q345 q34 (gI_U q346)
theorem hdV_X0_stateOf : yX0_stateOf.cls = RX0 ∧ yX0_stateOf.cls ≠ "java/lang/invoke/MethodHandle" ∧ yX0_stateOf.cls ≠ "java/lang/invoke/VarHandle" ∧ (parseMethodDescriptor yX0_stateOf.desc).map (fun d => d.parameters.length) = some 1 := by decide +kernel
theorem q742 : Cond.code yX2_keep cX2_keep 4 none ∈ lwA := mA 742 (by decide +kernel) (by decide +kernel)
theorem q739 : Cond.methodLink RX6 323 yX2_keep ∈ lwA := mA 739 (by decide +kernel) (by decide +kernel)
theorem q740 : Cond.instanceMethod yX2_keep ∈ lwA := mA 740 (by decide +kernel) (by decide +kernel)
theorem q741 : Cond.selects RX2 yX2_keep yX2_keep ∈ lwA := mA 741 (by decide +kernel) (by decide +kernel)
theorem gV_X6_323 : GoodIn lwA (wsV RX6 323 RX2 yX2_keep (wsU yX2_keep cX2_keep 4 none)) := gI_V q739 q740 q741 q51 (gI_U q742)
theorem hdV_X2_keep : yX2_keep.cls = RX2 ∧ yX2_keep.cls ≠ "java/lang/invoke/MethodHandle" ∧ yX2_keep.cls ≠ "java/lang/invoke/VarHandle" ∧ (parseMethodDescriptor yX2_keep.desc).map (fun d => d.parameters.length) = some 3 := by decide +kernel
theorem q148 : Cond.fieldLink RX6 226 RX6 (TX6 7).2.1 (TX6 7).2.2.1 ∈ lwA := mA 148 (by decide +kernel) (by decide +kernel)
theorem q146 : Cond.fieldLink RX6 45 RX6 (TX6 5).2.1 (TX6 5).2.2.1 ∈ lwA := mA 146 (by decide +kernel) (by decide +kernel)
theorem q765 : Cond.code yX6_findLot cX6_findLot 2 (some (.object "BinderyDesk$Lot")) ∈ lwA := mA 765 (by decide +kernel) (by decide +kernel)
theorem q762 : Cond.methodLink RX6 266 yX6_findLot ∈ lwA := mA 762 (by decide +kernel) (by decide +kernel)
theorem q764 : Cond.instanceMethod yX6_findLot ∈ lwA := mA 764 (by decide +kernel) (by decide +kernel)
theorem q12 : Cond.selects RX6 yX6_findLot yX6_findLot ∈ lwA := mA 12 (by decide +kernel) (by decide +kernel)
theorem gV_X6_266 : GoodIn lwA (wsV RX6 266 RX6 yX6_findLot (wsU yX6_findLot cX6_findLot 2 (some (.object "BinderyDesk$Lot")))) := gI_V q762 q764 q12 q33 (gI_U q765)
theorem hdV_X6_findLot : yX6_findLot.cls = RX6 ∧ yX6_findLot.cls ≠ "java/lang/invoke/MethodHandle" ∧ yX6_findLot.cls ≠ "java/lang/invoke/VarHandle" ∧ (parseMethodDescriptor yX6_findLot.desc).map (fun d => d.parameters.length) = some 1 := by decide +kernel
theorem th_X6_295 : ThrowOk RX6 (xn 1) "no such lot" 278 295 282 := ⟨by decide +kernel, q309, q43, by decide +kernel, ta_X6_282, ta_X6_282g⟩
theorem q375 : Cond.code yX1_pageOn cX1_pageOn 3 (some .int) ∈ lwA := mA 375 (by decide +kernel) (by decide +kernel)
theorem q372 : Cond.methodLink RX1 34 yX1_pageOn ∈ lwA := mA 372 (by decide +kernel) (by decide +kernel)
theorem q373 : Cond.instanceMethod yX1_pageOn ∈ lwA := mA 373 (by decide +kernel) (by decide +kernel)
theorem q374 : Cond.selects RX1 yX1_pageOn yX1_pageOn ∈ lwA := mA 374 (by decide +kernel) (by decide +kernel)
theorem gV_X1_34 : GoodIn lwA (wsV RX1 34 RX1 yX1_pageOn (wsU yX1_pageOn cX1_pageOn 3 (some .int))) := gI_V q372 q373 q374 q47 (gI_U q375)
theorem hdV_X1_pageOn : yX1_pageOn.cls = RX1 ∧ yX1_pageOn.cls ≠ "java/lang/invoke/MethodHandle" ∧ yX1_pageOn.cls ≠ "java/lang/invoke/VarHandle" ∧ (parseMethodDescriptor yX1_pageOn.desc).map (fun d => d.parameters.length) = some 2 := by decide +kernel
theorem q376 : Cond.methodLink RX1 38 yX1_contentOf ∈ lwA := mA 376 (by decide +kernel) (by decide +kernel)
theorem gV_X1_38 : GoodIn lwA (wsV RX1 38 RX1 yX1_contentOf (wsU yX1_contentOf cX1_contentOf 2 (some .int))) := gI_V q376 q377 q378 q47 (gI_U q379)
theorem q367 : Cond.code yX1_placeCount cX1_placeCount 1 (some .int) ∈ lwA := mA 367 (by decide +kernel) (by decide +kernel)
theorem q364 : Cond.methodLink RX1 42 yX1_placeCount ∈ lwA := mA 364 (by decide +kernel) (by decide +kernel)
theorem q365 : Cond.instanceMethod yX1_placeCount ∈ lwA := mA 365 (by decide +kernel) (by decide +kernel)
theorem q366 : Cond.selects RX1 yX1_placeCount yX1_placeCount ∈ lwA := mA 366 (by decide +kernel) (by decide +kernel)
theorem gV_X1_42 : GoodIn lwA (wsV RX1 42 RX1 yX1_placeCount (wsU yX1_placeCount cX1_placeCount 1 (some .int))) := gI_V q364 q365 q366 q47 (gI_U q367)
theorem hdV_X1_placeCount : yX1_placeCount.cls = RX1 ∧ yX1_placeCount.cls ≠ "java/lang/invoke/MethodHandle" ∧ yX1_placeCount.cls ≠ "java/lang/invoke/VarHandle" ∧ (parseMethodDescriptor yX1_placeCount.desc).map (fun d => d.parameters.length) = some 0 := by decide +kernel
theorem q371 : Cond.code yX1_contentOn cX1_contentOn 3 (some .int) ∈ lwA := mA 371 (by decide +kernel) (by decide +kernel)
theorem q368 : Cond.methodLink RX1 53 yX1_contentOn ∈ lwA := mA 368 (by decide +kernel) (by decide +kernel)
theorem q369 : Cond.instanceMethod yX1_contentOn ∈ lwA := mA 369 (by decide +kernel) (by decide +kernel)
theorem q370 : Cond.selects RX1 yX1_contentOn yX1_contentOn ∈ lwA := mA 370 (by decide +kernel) (by decide +kernel)
theorem gV_X1_53 : GoodIn lwA (wsV RX1 53 RX1 yX1_contentOn (wsU yX1_contentOn cX1_contentOn 3 (some .int))) := gI_V q368 q369 q370 q47 (gI_U q371)
theorem hdV_X1_contentOn : yX1_contentOn.cls = RX1 ∧ yX1_contentOn.cls ≠ "java/lang/invoke/MethodHandle" ∧ yX1_contentOn.cls ≠ "java/lang/invoke/VarHandle" ∧ (parseMethodDescriptor yX1_contentOn.desc).map (fun d => d.parameters.length) = some 2 := by decide +kernel
theorem q363 : Cond.code yX1_isShowing cX1_isShowing 5 (some .boolean) ∈ lwA := mA 363 (by decide +kernel) (by decide +kernel)
theorem q360 : Cond.methodLink RX1 59 yX1_isShowing ∈ lwA := mA 360 (by decide +kernel) (by decide +kernel)
theorem q361 : Cond.instanceMethod yX1_isShowing ∈ lwA := mA 361 (by decide +kernel) (by decide +kernel)
theorem q362 : Cond.selects RX1 yX1_isShowing yX1_isShowing ∈ lwA := mA 362 (by decide +kernel) (by decide +kernel)
theorem gV_X1_59 : GoodIn lwA (wsV RX1 59 RX1 yX1_isShowing (wsU yX1_isShowing cX1_isShowing 5 (some .boolean))) := gI_V q360 q361 q362 q47 (gI_U q363)
theorem hdV_X1_isShowing : yX1_isShowing.cls = RX1 ∧ yX1_isShowing.cls ≠ "java/lang/invoke/MethodHandle" ∧ yX1_isShowing.cls ≠ "java/lang/invoke/VarHandle" ∧ (parseMethodDescriptor yX1_isShowing.desc).map (fun d => d.parameters.length) = some 2 := by decide +kernel
theorem q390 : Cond.methodLink RX0 33 yX0_stateOf ∈ lwA := mA 390 (by decide +kernel) (by decide +kernel)
theorem gV_X0_33 : GoodIn lwA (wsV RX0 33 RX0 yX0_stateOf (wsU yX0_stateOf cX0_stateOf 2 (some .int))) := gI_V q390 q344 q345 q34 (gI_U q346)
theorem q332 : Cond.code yX0_setApproved cX0_setApproved 3 none ∈ lwA := mA 332 (by decide +kernel) (by decide +kernel)
theorem q391 : Cond.methodLink RX0 37 yX0_setApproved ∈ lwA := mA 391 (by decide +kernel) (by decide +kernel)
theorem q330 : Cond.instanceMethod yX0_setApproved ∈ lwA := mA 330 (by decide +kernel) (by decide +kernel)
theorem q331 : Cond.selects RX0 yX0_setApproved yX0_setApproved ∈ lwA := mA 331 (by decide +kernel) (by decide +kernel)
theorem gV_X0_37 : GoodIn lwA (wsV RX0 37 RX0 yX0_setApproved (wsU yX0_setApproved cX0_setApproved 3 none)) := gI_V q391 q330 q331 q34 (gI_U q332)
theorem hdV_X0_setApproved : yX0_setApproved.cls = RX0 ∧ yX0_setApproved.cls ≠ "java/lang/invoke/MethodHandle" ∧ yX0_setApproved.cls ≠ "java/lang/invoke/VarHandle" ∧ (parseMethodDescriptor yX0_setApproved.desc).map (fun d => d.parameters.length) = some 2 := by decide +kernel
theorem q69 : Cond.fieldLink RX0 18 RX0 (TX0 2).2.1 (TX0 2).2.2.1 ∈ lwA := mA 69 (by decide +kernel) (by decide +kernel)
theorem q72 : Cond.fieldLink RX0 41 RX0 (TX0 4).2.1 (TX0 4).2.2.1 ∈ lwA := mA 72 (by decide +kernel) (by decide +kernel)
theorem q66 : Cond.methodLink RX0 3 Lib.objectInit ∈ lwA := mA 66 (by decide +kernel) (by decide +kernel)
theorem q93 : Cond.methodLink RX5 3 Lib.objectInit ∈ lwA := mA 93 (by decide +kernel) (by decide +kernel)
theorem q94 : Cond.fieldLink RX5 9 RX5 (TX5 0).2.1 (TX5 0).2.2.1 ∈ lwA := mA 94 (by decide +kernel) (by decide +kernel)
theorem inX5 : ∀ w ∈ u_ws RX5 TX5 3, w ∈ lwA := inA [99, 101, 103] (by decide +kernel) (by decide +kernel)
theorem q96 : Cond.fieldLink RX5 15 RX5 (TX5 1).2.1 (TX5 1).2.2.1 ∈ lwA := mA 96 (by decide +kernel) (by decide +kernel)
theorem q98 : Cond.fieldLink RX5 18 RX5 (TX5 2).2.1 (TX5 2).2.2.1 ∈ lwA := mA 98 (by decide +kernel) (by decide +kernel)
theorem q111 : Cond.methodLink RX4 3 Lib.objectInit ∈ lwA := mA 111 (by decide +kernel) (by decide +kernel)
theorem q112 : Cond.fieldLink RX4 9 RX4 (TX4 0).2.1 (TX4 0).2.2.1 ∈ lwA := mA 112 (by decide +kernel) (by decide +kernel)
theorem inX4 : ∀ w ∈ u_ws RX4 TX4 2, w ∈ lwA := inA [115, 117] (by decide +kernel) (by decide +kernel)
theorem q125 : Cond.methodLink RX3 3 Lib.objectInit ∈ lwA := mA 125 (by decide +kernel) (by decide +kernel)
theorem q126 : Cond.fieldLink RX3 9 RX3 (TX3 0).2.1 (TX3 0).2.2.1 ∈ lwA := mA 126 (by decide +kernel) (by decide +kernel)
theorem inX3 : ∀ w ∈ u_ws RX3 TX3 4, w ∈ lwA := inA [130, 132, 134, 136] (by decide +kernel) (by decide +kernel)
theorem q127 : Cond.fieldLink RX3 15 RX3 (TX3 1).2.1 (TX3 1).2.2.1 ∈ lwA := mA 127 (by decide +kernel) (by decide +kernel)
theorem q128 : Cond.fieldLink RX3 18 RX3 (TX3 2).2.1 (TX3 2).2.2.1 ∈ lwA := mA 128 (by decide +kernel) (by decide +kernel)
theorem q58 : Cond.methodLink RX6 3 Lib.objectInit ∈ lwA := mA 58 (by decide +kernel) (by decide +kernel)
theorem q61 : Cond.classLink RX6 9 RX0 ∈ lwA := mA 61 (by decide +kernel) (by decide +kernel)
theorem q62 : Cond.instantiable RX0 5 ∈ lwA := mA 62 (by decide +kernel) (by decide +kernel)
theorem q65 : Cond.code yX0_init cX0_init 1 none ∈ lwA := mA 65 (by decide +kernel) (by decide +kernel)
theorem gU_X6_11 : GoodIn lwA (wsU yX0_init cX0_init 1 none) := (gI_U q65)
theorem q63 : Cond.methodLink RX6 11 yX0_init ∈ lwA := mA 63 (by decide +kernel) (by decide +kernel)
theorem q64 : Cond.instanceMethod yX0_init ∈ lwA := mA 64 (by decide +kernel) (by decide +kernel)
theorem hdS_X0_init : yX0_init.cls ≠ "java/lang/invoke/MethodHandle" ∧ yX0_init.cls ≠ "java/lang/invoke/VarHandle" ∧ (parseMethodDescriptor yX0_init.desc).map (fun d => d.parameters.length) = some 0 := by decide +kernel
theorem q86 : Cond.classLink RX6 16 RX1 ∈ lwA := mA 86 (by decide +kernel) (by decide +kernel)
theorem q88 : Cond.classLink RX6 22 RX5 ∈ lwA := mA 88 (by decide +kernel) (by decide +kernel)
theorem q89 : Cond.instantiable RX5 3 ∈ lwA := mA 89 (by decide +kernel) (by decide +kernel)
theorem q35 : Cond.initialized RX5 ∈ lwA := mA 35 (by decide +kernel) (by decide +kernel)
theorem q92 : Cond.code yX5_init cX5_init 1 none ∈ lwA := mA 92 (by decide +kernel) (by decide +kernel)
theorem gU_X6_24 : GoodIn lwA (wsU yX5_init cX5_init 1 none) := (gI_U q92)
theorem q90 : Cond.methodLink RX6 24 yX5_init ∈ lwA := mA 90 (by decide +kernel) (by decide +kernel)
theorem q91 : Cond.instanceMethod yX5_init ∈ lwA := mA 91 (by decide +kernel) (by decide +kernel)
theorem hdS_X5_init : yX5_init.cls ≠ "java/lang/invoke/MethodHandle" ∧ yX5_init.cls ≠ "java/lang/invoke/VarHandle" ∧ (parseMethodDescriptor yX5_init.desc).map (fun d => d.parameters.length) = some 0 := by decide +kernel
theorem q143 : Cond.fieldLink RX6 25 RX6 (TX6 2).2.1 (TX6 2).2.2.1 ∈ lwA := mA 143 (by decide +kernel) (by decide +kernel)
theorem q106 : Cond.classLink RX6 29 RX4 ∈ lwA := mA 106 (by decide +kernel) (by decide +kernel)
theorem q107 : Cond.instantiable RX4 2 ∈ lwA := mA 107 (by decide +kernel) (by decide +kernel)
theorem q36 : Cond.initialized RX4 ∈ lwA := mA 36 (by decide +kernel) (by decide +kernel)
theorem q110 : Cond.code yX4_init cX4_init 2 none ∈ lwA := mA 110 (by decide +kernel) (by decide +kernel)
theorem gU_X6_31 : GoodIn lwA (wsU yX4_init cX4_init 2 none) := (gI_U q110)
theorem q108 : Cond.methodLink RX6 31 yX4_init ∈ lwA := mA 108 (by decide +kernel) (by decide +kernel)
theorem q109 : Cond.instanceMethod yX4_init ∈ lwA := mA 109 (by decide +kernel) (by decide +kernel)
theorem hdS_X4_init : yX4_init.cls ≠ "java/lang/invoke/MethodHandle" ∧ yX4_init.cls ≠ "java/lang/invoke/VarHandle" ∧ (parseMethodDescriptor yX4_init.desc).map (fun d => d.parameters.length) = some 0 := by decide +kernel
theorem q144 : Cond.fieldLink RX6 32 RX6 (TX6 3).2.1 (TX6 3).2.2.1 ∈ lwA := mA 144 (by decide +kernel) (by decide +kernel)
theorem q120 : Cond.classLink RX6 36 RX3 ∈ lwA := mA 120 (by decide +kernel) (by decide +kernel)
theorem q121 : Cond.instantiable RX3 4 ∈ lwA := mA 121 (by decide +kernel) (by decide +kernel)
theorem q37 : Cond.initialized RX3 ∈ lwA := mA 37 (by decide +kernel) (by decide +kernel)
theorem q124 : Cond.code yX3_init cX3_init 1 none ∈ lwA := mA 124 (by decide +kernel) (by decide +kernel)
theorem gU_X6_38 : GoodIn lwA (wsU yX3_init cX3_init 1 none) := (gI_U q124)
theorem q122 : Cond.methodLink RX6 38 yX3_init ∈ lwA := mA 122 (by decide +kernel) (by decide +kernel)
theorem q123 : Cond.instanceMethod yX3_init ∈ lwA := mA 123 (by decide +kernel) (by decide +kernel)
theorem hdS_X3_init : yX3_init.cls ≠ "java/lang/invoke/MethodHandle" ∧ yX3_init.cls ≠ "java/lang/invoke/VarHandle" ∧ (parseMethodDescriptor yX3_init.desc).map (fun d => d.parameters.length) = some 0 := by decide +kernel
theorem q145 : Cond.fieldLink RX6 39 RX6 (TX6 4).2.1 (TX6 4).2.2.1 ∈ lwA := mA 145 (by decide +kernel) (by decide +kernel)
theorem q847 : Cond.methodLink RX7 1 Lib.objectInit ∈ lwA := mA 847 (by decide +kernel) (by decide +kernel)
theorem q860 : Cond.fieldLink RX7 7 RX7 (TX7 12).2.1 (TX7 12).2.2.1 ∈ lwA := mA 860 (by decide +kernel) (by decide +kernel)
theorem inX7 : ∀ w ∈ u_ws RX7 TX7 26, w ∈ lwA := inA [874, 876, 878, 880, 882, 884, 886, 888, 890, 892, 894, 896, 898, 900, 902, 904, 906, 908, 910, 912, 914, 916, 918, 920, 922, 924] (by decide +kernel) (by decide +kernel)
theorem q861 : Cond.fieldLink RX7 13 RX7 (TX7 13).2.1 (TX7 13).2.2.1 ∈ lwA := mA 861 (by decide +kernel) (by decide +kernel)
theorem q862 : Cond.fieldLink RX7 16 RX7 (TX7 14).2.1 (TX7 14).2.2.1 ∈ lwA := mA 862 (by decide +kernel) (by decide +kernel)
theorem q863 : Cond.fieldLink RX7 19 RX7 (TX7 15).2.1 (TX7 15).2.2.1 ∈ lwA := mA 863 (by decide +kernel) (by decide +kernel)
theorem q864 : Cond.fieldLink RX7 22 RX7 (TX7 16).2.1 (TX7 16).2.2.1 ∈ lwA := mA 864 (by decide +kernel) (by decide +kernel)
theorem q927 : Cond.arrayClass .boolean ∈ lwA := mA 927 (by decide +kernel) (by decide +kernel)
theorem q865 : Cond.fieldLink RX7 25 RX7 (TX7 17).2.1 (TX7 17).2.2.1 ∈ lwA := mA 865 (by decide +kernel) (by decide +kernel)
theorem q866 : Cond.fieldLink RX7 29 RX7 (TX7 18).2.1 (TX7 18).2.2.1 ∈ lwA := mA 866 (by decide +kernel) (by decide +kernel)
theorem q867 : Cond.fieldLink RX7 32 RX7 (TX7 19).2.1 (TX7 19).2.2.1 ∈ lwA := mA 867 (by decide +kernel) (by decide +kernel)
theorem q868 : Cond.fieldLink RX7 35 RX7 (TX7 20).2.1 (TX7 20).2.2.1 ∈ lwA := mA 868 (by decide +kernel) (by decide +kernel)
theorem q869 : Cond.fieldLink RX7 38 RX7 (TX7 21).2.1 (TX7 21).2.2.1 ∈ lwA := mA 869 (by decide +kernel) (by decide +kernel)
theorem q870 : Cond.fieldLink RX7 41 RX7 (TX7 22).2.1 (TX7 22).2.2.1 ∈ lwA := mA 870 (by decide +kernel) (by decide +kernel)
theorem q871 : Cond.fieldLink RX7 44 RX7 (TX7 23).2.1 (TX7 23).2.2.1 ∈ lwA := mA 871 (by decide +kernel) (by decide +kernel)
theorem q872 : Cond.fieldLink RX7 47 RX7 (TX7 24).2.1 (TX7 24).2.2.1 ∈ lwA := mA 872 (by decide +kernel) (by decide +kernel)
theorem q873 : Cond.fieldLink RX7 50 RX7 (TX7 25).2.1 (TX7 25).2.2.1 ∈ lwA := mA 873 (by decide +kernel) (by decide +kernel)
theorem q848 : Cond.fieldLink RX7 53 RX7 (TX7 0).2.1 (TX7 0).2.2.1 ∈ lwA := mA 848 (by decide +kernel) (by decide +kernel)
theorem q849 : Cond.fieldLink RX7 57 RX7 (TX7 1).2.1 (TX7 1).2.2.1 ∈ lwA := mA 849 (by decide +kernel) (by decide +kernel)
theorem q38 : Cond.initialized RX7 ∈ lwA := mA 38 (by decide +kernel) (by decide +kernel)
theorem q939 : Cond.code yX7_fails cX7_fails 2 (some .int) ∈ lwA := mA 939 (by decide +kernel) (by decide +kernel)
theorem q936 : Cond.methodLink RX7 101 yX7_fails ∈ lwA := mA 936 (by decide +kernel) (by decide +kernel)
theorem q938 : Cond.instanceMethod yX7_fails ∈ lwA := mA 938 (by decide +kernel) (by decide +kernel)
theorem q13 : Cond.selects RX7 yX7_fails yX7_fails ∈ lwA := mA 13 (by decide +kernel) (by decide +kernel)
theorem gV_X7_101 : GoodIn lwA (wsV RX7 101 RX7 yX7_fails (wsU yX7_fails cX7_fails 2 (some .int))) := gI_V q936 q938 q13 q38 (gI_U q939)
theorem hdV_X7_fails : yX7_fails.cls = RX7 ∧ yX7_fails.cls ≠ "java/lang/invoke/MethodHandle" ∧ yX7_fails.cls ≠ "java/lang/invoke/VarHandle" ∧ (parseMethodDescriptor yX7_fails.desc).map (fun d => d.parameters.length) = some 1 := by decide +kernel
theorem q950 : Cond.code yX7_in cX7_in 3 (some .boolean) ∈ lwA := mA 950 (by decide +kernel) (by decide +kernel)
theorem q948 : Cond.methodLink RX7 60 yX7_in ∈ lwA := mA 948 (by decide +kernel) (by decide +kernel)
theorem q949 : Cond.static yX7_in ∈ lwA := mA 949 (by decide +kernel) (by decide +kernel)
theorem gS_X7_60 : GoodIn lwA (va_wsS RX7 60 yX7_in (wsU yX7_in cX7_in 3 (some .boolean))) := gI_S q948 q949 q38 (gI_U q950)
theorem hdS_X7_in : yX7_in.cls ≠ "java/lang/invoke/MethodHandle" ∧ yX7_in.cls ≠ "java/lang/invoke/VarHandle" ∧ (parseMethodDescriptor yX7_in.desc).map (fun d => d.parameters.length) = some 3 := by decide +kernel
theorem q947 : Cond.code yX7_isContent cX7_isContent 2 (some .boolean) ∈ lwA := mA 947 (by decide +kernel) (by decide +kernel)
theorem q944 : Cond.methodLink RX7 104 yX7_isContent ∈ lwA := mA 944 (by decide +kernel) (by decide +kernel)
theorem q946 : Cond.instanceMethod yX7_isContent ∈ lwA := mA 946 (by decide +kernel) (by decide +kernel)
theorem q14 : Cond.selects RX7 yX7_isContent yX7_isContent ∈ lwA := mA 14 (by decide +kernel) (by decide +kernel)
theorem gV_X7_104 : GoodIn lwA (wsV RX7 104 RX7 yX7_isContent (wsU yX7_isContent cX7_isContent 2 (some .boolean))) := gI_V q944 q946 q14 q38 (gI_U q947)
theorem hdV_X7_isContent : yX7_isContent.cls = RX7 ∧ yX7_isContent.cls ≠ "java/lang/invoke/MethodHandle" ∧ yX7_isContent.cls ≠ "java/lang/invoke/VarHandle" ∧ (parseMethodDescriptor yX7_isContent.desc).map (fun d => d.parameters.length) = some 1 := by decide +kernel
theorem q962 : Cond.code yX7_places cX7_places 2 (some .int) ∈ lwA := mA 962 (by decide +kernel) (by decide +kernel)
theorem q959 : Cond.methodLink RX7 64 yX7_places ∈ lwA := mA 959 (by decide +kernel) (by decide +kernel)
theorem q961 : Cond.instanceMethod yX7_places ∈ lwA := mA 961 (by decide +kernel) (by decide +kernel)
theorem q16 : Cond.selects RX7 yX7_places yX7_places ∈ lwA := mA 16 (by decide +kernel) (by decide +kernel)
theorem gV_X7_64 : GoodIn lwA (wsV RX7 64 RX7 yX7_places (wsU yX7_places cX7_places 2 (some .int))) := gI_V q959 q961 q16 q38 (gI_U q962)
theorem hdV_X7_places : yX7_places.cls = RX7 ∧ yX7_places.cls ≠ "java/lang/invoke/MethodHandle" ∧ yX7_places.cls ≠ "java/lang/invoke/VarHandle" ∧ (parseMethodDescriptor yX7_places.desc).map (fun d => d.parameters.length) = some 1 := by decide +kernel
theorem q978 : Cond.code yX7_pageOn cX7_pageOn 5 (some .int) ∈ lwA := mA 978 (by decide +kernel) (by decide +kernel)
theorem q975 : Cond.methodLink RX7 81 yX7_pageOn ∈ lwA := mA 975 (by decide +kernel) (by decide +kernel)
theorem q977 : Cond.instanceMethod yX7_pageOn ∈ lwA := mA 977 (by decide +kernel) (by decide +kernel)
theorem q20 : Cond.selects RX7 yX7_pageOn yX7_pageOn ∈ lwA := mA 20 (by decide +kernel) (by decide +kernel)
theorem gV_X7_81 : GoodIn lwA (wsV RX7 81 RX7 yX7_pageOn (wsU yX7_pageOn cX7_pageOn 5 (some .int))) := gI_V q975 q977 q20 q38 (gI_U q978)
theorem hdV_X7_pageOn : yX7_pageOn.cls = RX7 ∧ yX7_pageOn.cls ≠ "java/lang/invoke/MethodHandle" ∧ yX7_pageOn.cls ≠ "java/lang/invoke/VarHandle" ∧ (parseMethodDescriptor yX7_pageOn.desc).map (fun d => d.parameters.length) = some 3 := by decide +kernel
theorem q974 : Cond.code yX7_contentOn cX7_contentOn 4 (some .int) ∈ lwA := mA 974 (by decide +kernel) (by decide +kernel)
theorem q971 : Cond.methodLink RX7 85 yX7_contentOn ∈ lwA := mA 971 (by decide +kernel) (by decide +kernel)
theorem q973 : Cond.instanceMethod yX7_contentOn ∈ lwA := mA 973 (by decide +kernel) (by decide +kernel)
theorem q19 : Cond.selects RX7 yX7_contentOn yX7_contentOn ∈ lwA := mA 19 (by decide +kernel) (by decide +kernel)
theorem gV_X7_85 : GoodIn lwA (wsV RX7 85 RX7 yX7_contentOn (wsU yX7_contentOn cX7_contentOn 4 (some .int))) := gI_V q971 q973 q19 q38 (gI_U q974)
theorem hdV_X7_contentOn : yX7_contentOn.cls = RX7 ∧ yX7_contentOn.cls ≠ "java/lang/invoke/MethodHandle" ∧ yX7_contentOn.cls ≠ "java/lang/invoke/VarHandle" ∧ (parseMethodDescriptor yX7_contentOn.desc).map (fun d => d.parameters.length) = some 3 := by decide +kernel
theorem q858 : Cond.fieldLink RX7 97 RX7 (TX7 10).2.1 (TX7 10).2.2.1 ∈ lwA := mA 858 (by decide +kernel) (by decide +kernel)
theorem q850 : Cond.fieldLink RX7 68 RX7 (TX7 2).2.1 (TX7 2).2.2.1 ∈ lwA := mA 850 (by decide +kernel) (by decide +kernel)
theorem q958 : Cond.code yX7_isWhole cX7_isWhole 2 (some .boolean) ∈ lwA := mA 958 (by decide +kernel) (by decide +kernel)
theorem q955 : Cond.methodLink RX7 71 yX7_isWhole ∈ lwA := mA 955 (by decide +kernel) (by decide +kernel)
theorem q957 : Cond.instanceMethod yX7_isWhole ∈ lwA := mA 957 (by decide +kernel) (by decide +kernel)
theorem q15 : Cond.selects RX7 yX7_isWhole yX7_isWhole ∈ lwA := mA 15 (by decide +kernel) (by decide +kernel)
theorem gV_X7_71 : GoodIn lwA (wsV RX7 71 RX7 yX7_isWhole (wsU yX7_isWhole cX7_isWhole 2 (some .boolean))) := gI_V q955 q957 q15 q38 (gI_U q958)
theorem hdV_X7_isWhole : yX7_isWhole.cls = RX7 ∧ yX7_isWhole.cls ≠ "java/lang/invoke/MethodHandle" ∧ yX7_isWhole.cls ≠ "java/lang/invoke/VarHandle" ∧ (parseMethodDescriptor yX7_isWhole.desc).map (fun d => d.parameters.length) = some 1 := by decide +kernel
theorem q966 : Cond.code yX7_count cX7_count 2 (some .int) ∈ lwA := mA 966 (by decide +kernel) (by decide +kernel)
theorem q963 : Cond.methodLink RX7 78 yX7_count ∈ lwA := mA 963 (by decide +kernel) (by decide +kernel)
theorem q965 : Cond.instanceMethod yX7_count ∈ lwA := mA 965 (by decide +kernel) (by decide +kernel)
theorem q17 : Cond.selects RX7 yX7_count yX7_count ∈ lwA := mA 17 (by decide +kernel) (by decide +kernel)
theorem gV_X7_78 : GoodIn lwA (wsV RX7 78 RX7 yX7_count (wsU yX7_count cX7_count 2 (some .int))) := gI_V q963 q965 q17 q38 (gI_U q966)
theorem hdV_X7_count : yX7_count.cls = RX7 ∧ yX7_count.cls ≠ "java/lang/invoke/MethodHandle" ∧ yX7_count.cls ≠ "java/lang/invoke/VarHandle" ∧ (parseMethodDescriptor yX7_count.desc).map (fun d => d.parameters.length) = some 1 := by decide +kernel
theorem q970 : Cond.code yX7_isShown cX7_isShown 5 (some .boolean) ∈ lwA := mA 970 (by decide +kernel) (by decide +kernel)
theorem q967 : Cond.methodLink RX7 107 yX7_isShown ∈ lwA := mA 967 (by decide +kernel) (by decide +kernel)
theorem q969 : Cond.instanceMethod yX7_isShown ∈ lwA := mA 969 (by decide +kernel) (by decide +kernel)
theorem q18 : Cond.selects RX7 yX7_isShown yX7_isShown ∈ lwA := mA 18 (by decide +kernel) (by decide +kernel)
theorem gV_X7_107 : GoodIn lwA (wsV RX7 107 RX7 yX7_isShown (wsU yX7_isShown cX7_isShown 5 (some .boolean))) := gI_V q967 q969 q18 q38 (gI_U q970)
theorem hdV_X7_isShown : yX7_isShown.cls = RX7 ∧ yX7_isShown.cls ≠ "java/lang/invoke/MethodHandle" ∧ yX7_isShown.cls ≠ "java/lang/invoke/VarHandle" ∧ (parseMethodDescriptor yX7_isShown.desc).map (fun d => d.parameters.length) = some 3 := by decide +kernel
theorem q982 : Cond.code yX7_voids cX7_voids 4 (some .int) ∈ lwA := mA 982 (by decide +kernel) (by decide +kernel)
theorem q979 : Cond.methodLink RX7 110 yX7_voids ∈ lwA := mA 979 (by decide +kernel) (by decide +kernel)
theorem q981 : Cond.instanceMethod yX7_voids ∈ lwA := mA 981 (by decide +kernel) (by decide +kernel)
theorem q21 : Cond.selects RX7 yX7_voids yX7_voids ∈ lwA := mA 21 (by decide +kernel) (by decide +kernel)
theorem gV_X7_110 : GoodIn lwA (wsV RX7 110 RX7 yX7_voids (wsU yX7_voids cX7_voids 4 (some .int))) := gI_V q979 q981 q21 q38 (gI_U q982)
theorem hdV_X7_voids : yX7_voids.cls = RX7 ∧ yX7_voids.cls ≠ "java/lang/invoke/MethodHandle" ∧ yX7_voids.cls ≠ "java/lang/invoke/VarHandle" ∧ (parseMethodDescriptor yX7_voids.desc).map (fun d => d.parameters.length) = some 2 := by decide +kernel
theorem q1006 : Cond.code yX7_isJob cX7_isJob 2 (some .boolean) ∈ lwA := mA 1006 (by decide +kernel) (by decide +kernel)
theorem q1003 : Cond.methodLink RX7 75 yX7_isJob ∈ lwA := mA 1003 (by decide +kernel) (by decide +kernel)
theorem q1005 : Cond.instanceMethod yX7_isJob ∈ lwA := mA 1005 (by decide +kernel) (by decide +kernel)
theorem q22 : Cond.selects RX7 yX7_isJob yX7_isJob ∈ lwA := mA 22 (by decide +kernel) (by decide +kernel)
theorem gV_X7_75 : GoodIn lwA (wsV RX7 75 RX7 yX7_isJob (wsU yX7_isJob cX7_isJob 2 (some .boolean))) := gI_V q1003 q1005 q22 q38 (gI_U q1006)
theorem hdV_X7_isJob : yX7_isJob.cls = RX7 ∧ yX7_isJob.cls ≠ "java/lang/invoke/MethodHandle" ∧ yX7_isJob.cls ≠ "java/lang/invoke/VarHandle" ∧ (parseMethodDescriptor yX7_isJob.desc).map (fun d => d.parameters.length) = some 1 := by decide +kernel
theorem ta_X6_138d0 : decode prog_22_method_4_code 0 = .ok (.aload_n 0, 1) := by decide +kernel
theorem ta_X6_138d1 : decode prog_22_method_4_code 1 = .ok (.aload_n 1, 1) := by decide +kernel
theorem ta_X6_138d2 : decode prog_22_method_4_code 2 = .ok (.invokespecial 13, 3) := by decide +kernel
theorem ta_X6_138d5 : decode prog_22_method_4_code 5 = .ok (.return_, 1) := by decide +kernel
theorem ta_X6_138 : ∀ w ∈ nx_at RX6 138 "java/util/NoSuchElementException" 13 prog_22_method_4_code xnm, w ∈ lwA ∨ w ∈ nwl := by decide +kernel
theorem ta_X6_138g : ∀ w ∈ Cond.classLink RX6 134 "java/util/NoSuchElementException" :: Cond.initialized "java/util/NoSuchElementException" :: nx_at RX6 138 "java/util/NoSuchElementException" 13 prog_22_method_4_code xnm, vx_ot w = true := by decide +kernel
theorem q503 : Cond.classLink RX6 134 "java/util/NoSuchElementException" ∈ lwA := mA 503 (by decide +kernel) (by decide +kernel)
theorem q48 : Cond.initialized "java/util/NoSuchElementException" ∈ lwA := mA 48 (by decide +kernel) (by decide +kernel)
theorem th_X6_291 : ThrowOkX RX6 (xn 3) "no such sheet" 134 291 138 13 prog_22_method_4_code := ⟨by decide +kernel, q503, q48, by decide +kernel, ta_X6_138, ta_X6_138g⟩
theorem q1014 : Cond.code yX7_isSheet cX7_isSheet 3 (some .boolean) ∈ lwA := mA 1014 (by decide +kernel) (by decide +kernel)
theorem q1011 : Cond.methodLink RX7 114 yX7_isSheet ∈ lwA := mA 1011 (by decide +kernel) (by decide +kernel)
theorem q1013 : Cond.instanceMethod yX7_isSheet ∈ lwA := mA 1013 (by decide +kernel) (by decide +kernel)
theorem q23 : Cond.selects RX7 yX7_isSheet yX7_isSheet ∈ lwA := mA 23 (by decide +kernel) (by decide +kernel)
theorem gV_X7_114 : GoodIn lwA (wsV RX7 114 RX7 yX7_isSheet (wsU yX7_isSheet cX7_isSheet 3 (some .boolean))) := gI_V q1011 q1013 q23 q38 (gI_U q1014)
theorem hdV_X7_isSheet : yX7_isSheet.cls = RX7 ∧ yX7_isSheet.cls ≠ "java/lang/invoke/MethodHandle" ∧ yX7_isSheet.cls ≠ "java/lang/invoke/VarHandle" ∧ (parseMethodDescriptor yX7_isSheet.desc).map (fun d => d.parameters.length) = some 2 := by decide +kernel
theorem q537 : Cond.code yX1_hasPage cX1_hasPage 5 (some .boolean) ∈ lwA := mA 537 (by decide +kernel) (by decide +kernel)
theorem q534 : Cond.methodLink RX1 49 yX1_hasPage ∈ lwA := mA 534 (by decide +kernel) (by decide +kernel)
theorem q535 : Cond.instanceMethod yX1_hasPage ∈ lwA := mA 535 (by decide +kernel) (by decide +kernel)
theorem q536 : Cond.selects RX1 yX1_hasPage yX1_hasPage ∈ lwA := mA 536 (by decide +kernel) (by decide +kernel)
theorem gV_X1_49 : GoodIn lwA (wsV RX1 49 RX1 yX1_hasPage (wsU yX1_hasPage cX1_hasPage 5 (some .boolean))) := gI_V q534 q535 q536 q47 (gI_U q537)
theorem hdV_X1_hasPage : yX1_hasPage.cls = RX1 ∧ yX1_hasPage.cls ≠ "java/lang/invoke/MethodHandle" ∧ yX1_hasPage.cls ≠ "java/lang/invoke/VarHandle" ∧ (parseMethodDescriptor yX1_hasPage.desc).map (fun d => d.parameters.length) = some 2 := by decide +kernel
theorem q519 : Cond.methodLink RX6 131 yX1_placeCount ∈ lwA := mA 519 (by decide +kernel) (by decide +kernel)
theorem gV_X6_131 : GoodIn lwA (wsV RX6 131 RX1 yX1_placeCount (wsU yX1_placeCount cX1_placeCount 1 (some .int))) := gI_V q519 q365 q366 q47 (gI_U q367)
theorem q554 : Cond.methodLink RX6 300 yX1_contentOn ∈ lwA := mA 554 (by decide +kernel) (by decide +kernel)
theorem gV_X6_300 : GoodIn lwA (wsV RX6 300 RX1 yX1_contentOn (wsU yX1_contentOn cX1_contentOn 3 (some .int))) := gI_V q554 q369 q370 q47 (gI_U q371)
theorem q325 : Cond.code yX0_isApproved cX0_isApproved 2 (some .boolean) ∈ lwA := mA 325 (by decide +kernel) (by decide +kernel)
theorem q322 : Cond.methodLink RX6 68 yX0_isApproved ∈ lwA := mA 322 (by decide +kernel) (by decide +kernel)
theorem q323 : Cond.instanceMethod yX0_isApproved ∈ lwA := mA 323 (by decide +kernel) (by decide +kernel)
theorem q324 : Cond.selects RX0 yX0_isApproved yX0_isApproved ∈ lwA := mA 324 (by decide +kernel) (by decide +kernel)
theorem gV_X6_68 : GoodIn lwA (wsV RX6 68 RX0 yX0_isApproved (wsU yX0_isApproved cX0_isApproved 2 (some .boolean))) := gI_V q322 q323 q324 q34 (gI_U q325)
theorem hdV_X0_isApproved : yX0_isApproved.cls = RX0 ∧ yX0_isApproved.cls ≠ "java/lang/invoke/MethodHandle" ∧ yX0_isApproved.cls ≠ "java/lang/invoke/VarHandle" ∧ (parseMethodDescriptor yX0_isApproved.desc).map (fun d => d.parameters.length) = some 1 := by decide +kernel
theorem q583 : Cond.code yX0_plateOf cX0_plateOf 5 (some .int) ∈ lwA := mA 583 (by decide +kernel) (by decide +kernel)
theorem q580 : Cond.methodLink RX6 303 yX0_plateOf ∈ lwA := mA 580 (by decide +kernel) (by decide +kernel)
theorem q581 : Cond.instanceMethod yX0_plateOf ∈ lwA := mA 581 (by decide +kernel) (by decide +kernel)
theorem q582 : Cond.selects RX0 yX0_plateOf yX0_plateOf ∈ lwA := mA 582 (by decide +kernel) (by decide +kernel)
theorem gV_X6_303 : GoodIn lwA (wsV RX6 303 RX0 yX0_plateOf (wsU yX0_plateOf cX0_plateOf 5 (some .int))) := gI_V q580 q581 q582 q34 (gI_U q583)
theorem hdV_X0_plateOf : yX0_plateOf.cls = RX0 ∧ yX0_plateOf.cls ≠ "java/lang/invoke/MethodHandle" ∧ yX0_plateOf.cls ≠ "java/lang/invoke/VarHandle" ∧ (parseMethodDescriptor yX0_plateOf.desc).map (fun d => d.parameters.length) = some 2 := by decide +kernel
theorem q591 : Cond.code yX5_bindingMinutes cX5_bindingMinutes 2 (some .int) ∈ lwA := mA 591 (by decide +kernel) (by decide +kernel)
theorem q588 : Cond.methodLink RX5 22 yX5_bindingMinutes ∈ lwA := mA 588 (by decide +kernel) (by decide +kernel)
theorem q589 : Cond.instanceMethod yX5_bindingMinutes ∈ lwA := mA 589 (by decide +kernel) (by decide +kernel)
theorem q590 : Cond.selects RX5 yX5_bindingMinutes yX5_bindingMinutes ∈ lwA := mA 590 (by decide +kernel) (by decide +kernel)
theorem gV_X5_22 : GoodIn lwA (wsV RX5 22 RX5 yX5_bindingMinutes (wsU yX5_bindingMinutes cX5_bindingMinutes 2 (some .int))) := gI_V q588 q589 q590 q35 (gI_U q591)
theorem hdV_X5_bindingMinutes : yX5_bindingMinutes.cls = RX5 ∧ yX5_bindingMinutes.cls ≠ "java/lang/invoke/MethodHandle" ∧ yX5_bindingMinutes.cls ≠ "java/lang/invoke/VarHandle" ∧ (parseMethodDescriptor yX5_bindingMinutes.desc).map (fun d => d.parameters.length) = some 1 := by decide +kernel
theorem gU_X4_15 : GoodIn lwA (wsU yX6_at cX6_at 2 (some .int)) := (gI_U q328)
theorem q604 : Cond.methodLinkNest RX4 15 yX6_at RX6 ∈ nwl := mW 604 (by decide +kernel) (by decide +kernel)
theorem q603 : Cond.code yX4_has cX4_has 2 (some .boolean) ∈ lwA := mA 603 (by decide +kernel) (by decide +kernel)
theorem q600 : Cond.methodLink RX4 19 yX4_has ∈ lwA := mA 600 (by decide +kernel) (by decide +kernel)
theorem q601 : Cond.instanceMethod yX4_has ∈ lwA := mA 601 (by decide +kernel) (by decide +kernel)
theorem q602 : Cond.selects RX4 yX4_has yX4_has ∈ lwA := mA 602 (by decide +kernel) (by decide +kernel)
theorem gV_X4_19 : GoodIn lwA (wsV RX4 19 RX4 yX4_has (wsU yX4_has cX4_has 2 (some .boolean))) := gI_V q600 q601 q602 q36 (gI_U q603)
theorem hdV_X4_has : yX4_has.cls = RX4 ∧ yX4_has.cls ≠ "java/lang/invoke/MethodHandle" ∧ yX4_has.cls ≠ "java/lang/invoke/VarHandle" ∧ (parseMethodDescriptor yX4_has.desc).map (fun d => d.parameters.length) = some 1 := by decide +kernel
theorem gU_X4_23 : GoodIn lwA (wsU yX6_put cX6_put 3 none) := (gI_U q335)
theorem q605 : Cond.methodLinkNest RX4 23 yX6_put RX6 ∈ nwl := mW 605 (by decide +kernel) (by decide +kernel)
theorem q113 : Cond.fieldLink RX4 27 RX4 (TX4 1).2.1 (TX4 1).2.2.1 ∈ lwA := mA 113 (by decide +kernel) (by decide +kernel)
theorem q1034 : Cond.code yX7_code cX7_code 2 (some .int) ∈ lwA := mA 1034 (by decide +kernel) (by decide +kernel)
theorem q1031 : Cond.methodLink RX7 88 yX7_code ∈ lwA := mA 1031 (by decide +kernel) (by decide +kernel)
theorem q1033 : Cond.instanceMethod yX7_code ∈ lwA := mA 1033 (by decide +kernel) (by decide +kernel)
theorem q26 : Cond.selects RX7 yX7_code yX7_code ∈ lwA := mA 26 (by decide +kernel) (by decide +kernel)
theorem gV_X7_88 : GoodIn lwA (wsV RX7 88 RX7 yX7_code (wsU yX7_code cX7_code 2 (some .int))) := gI_V q1031 q1033 q26 q38 (gI_U q1034)
theorem hdV_X7_code : yX7_code.cls = RX7 ∧ yX7_code.cls ≠ "java/lang/invoke/MethodHandle" ∧ yX7_code.cls ≠ "java/lang/invoke/VarHandle" ∧ (parseMethodDescriptor yX7_code.desc).map (fun d => d.parameters.length) = some 1 := by decide +kernel
theorem q1030 : Cond.code yX7_plateOf cX7_plateOf 4 (some .int) ∈ lwA := mA 1030 (by decide +kernel) (by decide +kernel)
theorem q1027 : Cond.methodLink RX7 118 yX7_plateOf ∈ lwA := mA 1027 (by decide +kernel) (by decide +kernel)
theorem q1029 : Cond.instanceMethod yX7_plateOf ∈ lwA := mA 1029 (by decide +kernel) (by decide +kernel)
theorem q25 : Cond.selects RX7 yX7_plateOf yX7_plateOf ∈ lwA := mA 25 (by decide +kernel) (by decide +kernel)
theorem gV_X7_118 : GoodIn lwA (wsV RX7 118 RX7 yX7_plateOf (wsU yX7_plateOf cX7_plateOf 4 (some .int))) := gI_V q1027 q1029 q25 q38 (gI_U q1030)
theorem hdV_X7_plateOf : yX7_plateOf.cls = RX7 ∧ yX7_plateOf.cls ≠ "java/lang/invoke/MethodHandle" ∧ yX7_plateOf.cls ≠ "java/lang/invoke/VarHandle" ∧ (parseMethodDescriptor yX7_plateOf.desc).map (fun d => d.parameters.length) = some 3 := by decide +kernel
theorem q855 : Cond.fieldLink RX7 122 RX7 (TX7 7).2.1 (TX7 7).2.2.1 ∈ lwA := mA 855 (by decide +kernel) (by decide +kernel)
theorem q856 : Cond.fieldLink RX7 125 RX7 (TX7 8).2.1 (TX7 8).2.2.1 ∈ lwA := mA 856 (by decide +kernel) (by decide +kernel)
theorem q857 : Cond.fieldLink RX7 128 RX7 (TX7 9).2.1 (TX7 9).2.2.1 ∈ lwA := mA 857 (by decide +kernel) (by decide +kernel)
theorem q852 : Cond.fieldLink RX7 91 RX7 (TX7 4).2.1 (TX7 4).2.2.1 ∈ lwA := mA 852 (by decide +kernel) (by decide +kernel)
theorem q1042 : Cond.code yX7_isMade cX7_isMade 3 (some .boolean) ∈ lwA := mA 1042 (by decide +kernel) (by decide +kernel)
theorem q1039 : Cond.methodLink RX7 94 yX7_isMade ∈ lwA := mA 1039 (by decide +kernel) (by decide +kernel)
theorem q1041 : Cond.instanceMethod yX7_isMade ∈ lwA := mA 1041 (by decide +kernel) (by decide +kernel)
theorem q28 : Cond.selects RX7 yX7_isMade yX7_isMade ∈ lwA := mA 28 (by decide +kernel) (by decide +kernel)
theorem gV_X7_94 : GoodIn lwA (wsV RX7 94 RX7 yX7_isMade (wsU yX7_isMade cX7_isMade 3 (some .boolean))) := gI_V q1039 q1041 q28 q38 (gI_U q1042)
theorem hdV_X7_isMade : yX7_isMade.cls = RX7 ∧ yX7_isMade.cls ≠ "java/lang/invoke/MethodHandle" ∧ yX7_isMade.cls ≠ "java/lang/invoke/VarHandle" ∧ (parseMethodDescriptor yX7_isMade.desc).map (fun d => d.parameters.length) = some 1 := by decide +kernel
theorem q1026 : Cond.code yX7_ready cX7_ready 3 (some .int) ∈ lwA := mA 1026 (by decide +kernel) (by decide +kernel)
theorem q1023 : Cond.methodLink RX7 131 yX7_ready ∈ lwA := mA 1023 (by decide +kernel) (by decide +kernel)
theorem q1025 : Cond.instanceMethod yX7_ready ∈ lwA := mA 1025 (by decide +kernel) (by decide +kernel)
theorem q24 : Cond.selects RX7 yX7_ready yX7_ready ∈ lwA := mA 24 (by decide +kernel) (by decide +kernel)
theorem gV_X7_131 : GoodIn lwA (wsV RX7 131 RX7 yX7_ready (wsU yX7_ready cX7_ready 3 (some .int))) := gI_V q1023 q1025 q24 q38 (gI_U q1026)
theorem hdV_X7_ready : yX7_ready.cls = RX7 ∧ yX7_ready.cls ≠ "java/lang/invoke/MethodHandle" ∧ yX7_ready.cls ≠ "java/lang/invoke/VarHandle" ∧ (parseMethodDescriptor yX7_ready.desc).map (fun d => d.parameters.length) = some 2 := by decide +kernel
theorem q1038 : Cond.code yX7_makes cX7_makes 2 none ∈ lwA := mA 1038 (by decide +kernel) (by decide +kernel)
theorem q1035 : Cond.methodLink RX7 134 yX7_makes ∈ lwA := mA 1035 (by decide +kernel) (by decide +kernel)
theorem q1037 : Cond.instanceMethod yX7_makes ∈ lwA := mA 1037 (by decide +kernel) (by decide +kernel)
theorem q27 : Cond.selects RX7 yX7_makes yX7_makes ∈ lwA := mA 27 (by decide +kernel) (by decide +kernel)
theorem gV_X7_134 : GoodIn lwA (wsV RX7 134 RX7 yX7_makes (wsU yX7_makes cX7_makes 2 none)) := gI_V q1035 q1037 q27 q38 (gI_U q1038)
theorem hdV_X7_makes : yX7_makes.cls = RX7 ∧ yX7_makes.cls ≠ "java/lang/invoke/MethodHandle" ∧ yX7_makes.cls ≠ "java/lang/invoke/VarHandle" ∧ (parseMethodDescriptor yX7_makes.desc).map (fun d => d.parameters.length) = some 1 := by decide +kernel
theorem q859 : Cond.fieldLink RX7 138 RX7 (TX7 11).2.1 (TX7 11).2.2.1 ∈ lwA := mA 859 (by decide +kernel) (by decide +kernel)
theorem q853 : Cond.fieldLink RX7 141 RX7 (TX7 5).2.1 (TX7 5).2.2.1 ∈ lwA := mA 853 (by decide +kernel) (by decide +kernel)
theorem q854 : Cond.fieldLink RX7 144 RX7 (TX7 6).2.1 (TX7 6).2.2.1 ∈ lwA := mA 854 (by decide +kernel) (by decide +kernel)
theorem q632 : Cond.methodLink RX3 21 Lib.Math.min.name ∈ lwA := mA 632 (by decide +kernel) (by decide +kernel)
theorem q633 : Cond.static Lib.Math.min.name ∈ lwA := mA 633 (by decide +kernel) (by decide +kernel)
theorem q634 : Cond.code Lib.Math.min.name Lib.Math.min.code 2 (some .int) ∈ lwA := mA 634 (by decide +kernel) (by decide +kernel)
theorem q635 : Cond.methodLink RX3 27 Lib.Math.max.name ∈ lwA := mA 635 (by decide +kernel) (by decide +kernel)
theorem q129 : Cond.fieldLink RX3 30 RX3 (TX3 3).2.1 (TX3 3).2.2.1 ∈ lwA := mA 129 (by decide +kernel) (by decide +kernel)
theorem gU_X3_34 : GoodIn lwA (wsU yX6_put cX6_put 3 none) := (gI_U q335)
theorem q638 : Cond.methodLinkNest RX3 34 yX6_put RX6 ∈ nwl := mW 638 (by decide +kernel) (by decide +kernel)
theorem q491 : Cond.methodLink RX6 124 yX1_sheetCount ∈ lwA := mA 491 (by decide +kernel) (by decide +kernel)
theorem gV_X6_124 : GoodIn lwA (wsV RX6 124 RX1 yX1_sheetCount (wsU yX1_sheetCount cX1_sheetCount 1 (some .int))) := gI_V q491 q357 q358 q47 (gI_U q359)
theorem q95 : Cond.fieldLinkNest RX6 306 RX5 (TX5 0).2.1 (TX5 0).2.2.1 RX6 ∈ nwl := mW 95 (by decide +kernel) (by decide +kernel)
theorem q97 : Cond.fieldLinkNest RX6 309 RX5 (TX5 1).2.1 (TX5 1).2.2.1 RX6 ∈ nwl := mW 97 (by decide +kernel) (by decide +kernel)
theorem q631 : Cond.code yX3_start cX3_start 4 none ∈ lwA := mA 631 (by decide +kernel) (by decide +kernel)
theorem q628 : Cond.methodLink RX6 312 yX3_start ∈ lwA := mA 628 (by decide +kernel) (by decide +kernel)
theorem q629 : Cond.instanceMethod yX3_start ∈ lwA := mA 629 (by decide +kernel) (by decide +kernel)
theorem q630 : Cond.selects RX3 yX3_start yX3_start ∈ lwA := mA 630 (by decide +kernel) (by decide +kernel)
theorem gV_X6_312 : GoodIn lwA (wsV RX6 312 RX3 yX3_start (wsU yX3_start cX3_start 4 none)) := gI_V q628 q629 q630 q37 (gI_U q631)
theorem hdV_X3_start : yX3_start.cls = RX3 ∧ yX3_start.cls ≠ "java/lang/invoke/MethodHandle" ∧ yX3_start.cls ≠ "java/lang/invoke/VarHandle" ∧ (parseMethodDescriptor yX3_start.desc).map (fun d => d.parameters.length) = some 3 := by decide +kernel
theorem q579 : Cond.code yX6_plateFor cX6_plateFor 4 (some .int) ∈ lwA := mA 579 (by decide +kernel) (by decide +kernel)
theorem q576 : Cond.methodLink RX6 165 yX6_plateFor ∈ lwA := mA 576 (by decide +kernel) (by decide +kernel)
theorem q578 : Cond.instanceMethod yX6_plateFor ∈ lwA := mA 578 (by decide +kernel) (by decide +kernel)
theorem q6 : Cond.selects RX6 yX6_plateFor yX6_plateFor ∈ lwA := mA 6 (by decide +kernel) (by decide +kernel)
theorem gV_X6_165 : GoodIn lwA (wsV RX6 165 RX6 yX6_plateFor (wsU yX6_plateFor cX6_plateFor 4 (some .int))) := gI_V q576 q578 q6 q33 (gI_U q579)
theorem hdV_X6_plateFor : yX6_plateFor.cls = RX6 ∧ yX6_plateFor.cls ≠ "java/lang/invoke/MethodHandle" ∧ yX6_plateFor.cls ≠ "java/lang/invoke/VarHandle" ∧ (parseMethodDescriptor yX6_plateFor.desc).map (fun d => d.parameters.length) = some 3 := by decide +kernel
theorem q642 : Cond.code yX3_setSheet cX3_setSheet 4 none ∈ lwA := mA 642 (by decide +kernel) (by decide +kernel)
theorem q639 : Cond.methodLink RX6 316 yX3_setSheet ∈ lwA := mA 639 (by decide +kernel) (by decide +kernel)
theorem q640 : Cond.instanceMethod yX3_setSheet ∈ lwA := mA 640 (by decide +kernel) (by decide +kernel)
theorem q641 : Cond.selects RX3 yX3_setSheet yX3_setSheet ∈ lwA := mA 641 (by decide +kernel) (by decide +kernel)
theorem gV_X6_316 : GoodIn lwA (wsV RX6 316 RX3 yX3_setSheet (wsU yX3_setSheet cX3_setSheet 4 none)) := gI_V q639 q640 q641 q37 (gI_U q642)
theorem hdV_X3_setSheet : yX3_setSheet.cls = RX3 ∧ yX3_setSheet.cls ≠ "java/lang/invoke/MethodHandle" ∧ yX3_setSheet.cls ≠ "java/lang/invoke/VarHandle" ∧ (parseMethodDescriptor yX3_setSheet.desc).map (fun d => d.parameters.length) = some 3 := by decide +kernel
theorem gU_X3_38 : GoodIn lwA (wsU yX6_at cX6_at 2 (some .int)) := (gI_U q328)
theorem q655 : Cond.methodLinkNest RX3 38 yX6_at RX6 ∈ nwl := mW 655 (by decide +kernel) (by decide +kernel)
theorem q656 : Cond.constant RX3 45 (1000000 : Int32) ∈ lwA := mA 656 (by decide +kernel) (by decide +kernel)
theorem q654 : Cond.code yX3_change cX3_change 6 (some .int) ∈ lwA := mA 654 (by decide +kernel) (by decide +kernel)
theorem q652 : Cond.methodLink RX3 46 yX3_change ∈ lwA := mA 652 (by decide +kernel) (by decide +kernel)
theorem q653 : Cond.static yX3_change ∈ lwA := mA 653 (by decide +kernel) (by decide +kernel)
theorem gS_X3_46 : GoodIn lwA (va_wsS RX3 46 yX3_change (wsU yX3_change cX3_change 6 (some .int))) := gI_S q652 q653 q37 (gI_U q654)
theorem hdS_X3_change : yX3_change.cls ≠ "java/lang/invoke/MethodHandle" ∧ yX3_change.cls ≠ "java/lang/invoke/VarHandle" ∧ (parseMethodDescriptor yX3_change.desc).map (fun d => d.parameters.length) = some 4 := by decide +kernel
theorem q651 : Cond.code yX3_leastOfSet cX3_leastOfSet 7 (some .int) ∈ lwA := mA 651 (by decide +kernel) (by decide +kernel)
theorem q648 : Cond.methodLink RX3 42 yX3_leastOfSet ∈ lwA := mA 648 (by decide +kernel) (by decide +kernel)
theorem q650 : Cond.instanceMethod yX3_leastOfSet ∈ lwA := mA 650 (by decide +kernel) (by decide +kernel)
theorem q8 : Cond.selects RX3 yX3_leastOfSet yX3_leastOfSet ∈ lwA := mA 8 (by decide +kernel) (by decide +kernel)
theorem gV_X3_42 : GoodIn lwA (wsV RX3 42 RX3 yX3_leastOfSet (wsU yX3_leastOfSet cX3_leastOfSet 7 (some .int))) := gI_V q648 q650 q8 q37 (gI_U q651)
theorem hdV_X3_leastOfSet : yX3_leastOfSet.cls = RX3 ∧ yX3_leastOfSet.cls ≠ "java/lang/invoke/MethodHandle" ∧ yX3_leastOfSet.cls ≠ "java/lang/invoke/VarHandle" ∧ (parseMethodDescriptor yX3_leastOfSet.desc).map (fun d => d.parameters.length) = some 2 := by decide +kernel
theorem q1055 : Cond.constant RX7 149 (2147483647 : Int32) ∈ lwA := mA 1055 (by decide +kernel) (by decide +kernel)
theorem q1059 : Cond.code yX7_change cX7_change 3 (some .int) ∈ lwA := mA 1059 (by decide +kernel) (by decide +kernel)
theorem q1056 : Cond.methodLink RX7 150 yX7_change ∈ lwA := mA 1056 (by decide +kernel) (by decide +kernel)
theorem q1058 : Cond.instanceMethod yX7_change ∈ lwA := mA 1058 (by decide +kernel) (by decide +kernel)
theorem q30 : Cond.selects RX7 yX7_change yX7_change ∈ lwA := mA 30 (by decide +kernel) (by decide +kernel)
theorem gV_X7_150 : GoodIn lwA (wsV RX7 150 RX7 yX7_change (wsU yX7_change cX7_change 3 (some .int))) := gI_V q1056 q1058 q30 q38 (gI_U q1059)
theorem hdV_X7_change : yX7_change.cls = RX7 ∧ yX7_change.cls ≠ "java/lang/invoke/MethodHandle" ∧ yX7_change.cls ≠ "java/lang/invoke/VarHandle" ∧ (parseMethodDescriptor yX7_change.desc).map (fun d => d.parameters.length) = some 2 := by decide +kernel
theorem q1054 : Cond.code yX7_least cX7_least 8 (some .int) ∈ lwA := mA 1054 (by decide +kernel) (by decide +kernel)
theorem q1051 : Cond.methodLink RX7 153 yX7_least ∈ lwA := mA 1051 (by decide +kernel) (by decide +kernel)
theorem q1053 : Cond.instanceMethod yX7_least ∈ lwA := mA 1053 (by decide +kernel) (by decide +kernel)
theorem q29 : Cond.selects RX7 yX7_least yX7_least ∈ lwA := mA 29 (by decide +kernel) (by decide +kernel)
theorem gV_X7_153 : GoodIn lwA (wsV RX7 153 RX7 yX7_least (wsU yX7_least cX7_least 8 (some .int))) := gI_V q1051 q1053 q29 q38 (gI_U q1054)
theorem hdV_X7_least : yX7_least.cls = RX7 ∧ yX7_least.cls ≠ "java/lang/invoke/MethodHandle" ∧ yX7_least.cls ≠ "java/lang/invoke/VarHandle" ∧ (parseMethodDescriptor yX7_least.desc).map (fun d => d.parameters.length) = some 1 := by decide +kernel
theorem q114 : Cond.fieldLinkNest RX6 213 RX4 (TX4 1).2.1 (TX4 1).2.2.1 RX6 ∈ nwl := mW 114 (by decide +kernel) (by decide +kernel)
theorem q851 : Cond.fieldLink RX7 156 RX7 (TX7 3).2.1 (TX7 3).2.2.1 ∈ lwA := mA 851 (by decide +kernel) (by decide +kernel)
theorem q1083 : Cond.code yX7_missing cX7_missing 5 (some .int) ∈ lwA := mA 1083 (by decide +kernel) (by decide +kernel)
theorem q1080 : Cond.methodLink RX7 159 yX7_missing ∈ lwA := mA 1080 (by decide +kernel) (by decide +kernel)
theorem q1082 : Cond.instanceMethod yX7_missing ∈ lwA := mA 1082 (by decide +kernel) (by decide +kernel)
theorem q31 : Cond.selects RX7 yX7_missing yX7_missing ∈ lwA := mA 31 (by decide +kernel) (by decide +kernel)
theorem gV_X7_159 : GoodIn lwA (wsV RX7 159 RX7 yX7_missing (wsU yX7_missing cX7_missing 5 (some .int))) := gI_V q1080 q1082 q31 q38 (gI_U q1083)
theorem hdV_X7_missing : yX7_missing.cls = RX7 ∧ yX7_missing.cls ≠ "java/lang/invoke/MethodHandle" ∧ yX7_missing.cls ≠ "java/lang/invoke/VarHandle" ∧ (parseMethodDescriptor yX7_missing.desc).map (fun d => d.parameters.length) = some 2 := by decide +kernel
theorem th_X6_298 : ThrowOkX RX6 (xn 3) "the lot has no such page" 134 298 138 13 prog_22_method_4_code := ⟨by decide +kernel, q503, q48, by decide +kernel, ta_X6_138, ta_X6_138g⟩
theorem gU_X2_32 : GoodIn lwA (wsU yX6_at cX6_at 2 (some .int)) := (gI_U q328)
theorem q782 : Cond.methodLinkNest RX2 32 yX6_at RX6 ∈ nwl := mW 782 (by decide +kernel) (by decide +kernel)
theorem q1099 : Cond.code yX7_stateIn cX7_stateIn 3 (some .int) ∈ lwA := mA 1099 (by decide +kernel) (by decide +kernel)
theorem q1104 : Cond.methodLink RX7 162 yX7_stateIn ∈ lwA := mA 1104 (by decide +kernel) (by decide +kernel)
theorem q1097 : Cond.instanceMethod yX7_stateIn ∈ lwA := mA 1097 (by decide +kernel) (by decide +kernel)
theorem q1098 : Cond.selects RX7 yX7_stateIn yX7_stateIn ∈ lwA := mA 1098 (by decide +kernel) (by decide +kernel)
theorem gV_X7_162 : GoodIn lwA (wsV RX7 162 RX7 yX7_stateIn (wsU yX7_stateIn cX7_stateIn 3 (some .int))) := gI_V q1104 q1097 q1098 q38 (gI_U q1099)
theorem hdV_X7_stateIn : yX7_stateIn.cls = RX7 ∧ yX7_stateIn.cls ≠ "java/lang/invoke/MethodHandle" ∧ yX7_stateIn.cls ≠ "java/lang/invoke/VarHandle" ∧ (parseMethodDescriptor yX7_stateIn.desc).map (fun d => d.parameters.length) = some 2 := by decide +kernel
theorem q793 : Cond.code yX2_contentOf cX2_contentOf 2 (some .int) ∈ lwA := mA 793 (by decide +kernel) (by decide +kernel)
theorem q809 : Cond.methodLink RX2 36 yX2_contentOf ∈ lwA := mA 809 (by decide +kernel) (by decide +kernel)
theorem q791 : Cond.instanceMethod yX2_contentOf ∈ lwA := mA 791 (by decide +kernel) (by decide +kernel)
theorem q792 : Cond.selects RX2 yX2_contentOf yX2_contentOf ∈ lwA := mA 792 (by decide +kernel) (by decide +kernel)
theorem gV_X2_36 : GoodIn lwA (wsV RX2 36 RX2 yX2_contentOf (wsU yX2_contentOf cX2_contentOf 2 (some .int))) := gI_V q809 q791 q792 q51 (gI_U q793)
theorem hdV_X2_contentOf : yX2_contentOf.cls = RX2 ∧ yX2_contentOf.cls ≠ "java/lang/invoke/MethodHandle" ∧ yX2_contentOf.cls ≠ "java/lang/invoke/VarHandle" ∧ (parseMethodDescriptor yX2_contentOf.desc).map (fun d => d.parameters.length) = some 1 := by decide +kernel
theorem q781 : Cond.code yX2_keptState cX2_keptState 2 (some .int) ∈ lwA := mA 781 (by decide +kernel) (by decide +kernel)
theorem q810 : Cond.methodLink RX2 40 yX2_keptState ∈ lwA := mA 810 (by decide +kernel) (by decide +kernel)
theorem q779 : Cond.instanceMethod yX2_keptState ∈ lwA := mA 779 (by decide +kernel) (by decide +kernel)
theorem q780 : Cond.selects RX2 yX2_keptState yX2_keptState ∈ lwA := mA 780 (by decide +kernel) (by decide +kernel)
theorem gV_X2_40 : GoodIn lwA (wsV RX2 40 RX2 yX2_keptState (wsU yX2_keptState cX2_keptState 2 (some .int))) := gI_V q810 q779 q780 q51 (gI_U q781)
theorem hdV_X2_keptState : yX2_keptState.cls = RX2 ∧ yX2_keptState.cls ≠ "java/lang/invoke/MethodHandle" ∧ yX2_keptState.cls ≠ "java/lang/invoke/VarHandle" ∧ (parseMethodDescriptor yX2_keptState.desc).map (fun d => d.parameters.length) = some 1 := by decide +kernel
theorem q149 : Cond.fieldLink RX6 92 RX6 (TX6 8).2.1 (TX6 8).2.2.1 ∈ lwA := mA 149 (by decide +kernel) (by decide +kernel)
theorem q150 : Cond.fieldLink RX6 188 RX6 (TX6 9).2.1 (TX6 9).2.2.1 ∈ lwA := mA 150 (by decide +kernel) (by decide +kernel)
theorem ta_X6_277 : ∀ w ∈ vx_atS RX6 277 "java/lang/ArithmeticException" xnm, w ∈ lwA ∨ w ∈ nwl := by decide +kernel
theorem ta_X6_277g : ∀ w ∈ Cond.classLink RX6 273 "java/lang/ArithmeticException" :: Cond.initialized "java/lang/ArithmeticException" :: vx_atS RX6 277 "java/lang/ArithmeticException" xnm, vx_ot w = true := by decide +kernel
theorem q832 : Cond.classLink RX6 273 "java/lang/ArithmeticException" ∈ lwA := mA 832 (by decide +kernel) (by decide +kernel)
theorem q52 : Cond.initialized "java/lang/ArithmeticException" ∈ lwA := mA 52 (by decide +kernel) (by decide +kernel)
theorem th_X6_275 : ThrowOk RX6 (xn 6) "nothing was printed" 273 275 277 := ⟨by decide +kernel, q832, q52, by decide +kernel, ta_X6_277, ta_X6_277g⟩
theorem q151 : Cond.fieldLink RX6 191 RX6 (TX6 10).2.1 (TX6 10).2.2.1 ∈ lwA := mA 151 (by decide +kernel) (by decide +kernel)
theorem q152 : Cond.fieldLink RX6 194 RX6 (TX6 11).2.1 (TX6 11).2.2.1 ∈ lwA := mA 152 (by decide +kernel) (by decide +kernel)
end
