/-! ===== the words ===== -/
def lwA : List Cond := lw_tbl.filter goodWord
theorem mA (i : Nat) {w : Cond} (h : lw_tbl[i]? = some w) (g : goodWord w = true) : w ∈ lwA := List.mem_filter.mpr ⟨List.mem_of_getElem? h, g⟩
def nwForm : Cond → Bool
  | .fieldLinkNest .. => true
  | .methodLinkNest .. => true
  | .castable .. => true
  | .declares .. => true
  | _ => false
def nwl : List Cond := lw_tbl.filter nwForm
theorem mW (i : Nat) {w : Cond} (h : lw_tbl[i]? = some w) (g : nwForm w = true) : w ∈ nwl := List.mem_filter.mpr ⟨List.mem_of_getElem? h, g⟩
theorem nw_form {w : Cond} (h : w ∈ nwl) : nwForm w = true := (List.mem_filter.mp h).2
theorem nw_on {w : Cond} (h : nwForm w = true) : w.onTables = true := by
  cases w <;> first | rfl | (exact absurd (show false = true from h) (by decide))
theorem nw_warm {w : Cond} (h : nwForm w = true) {s U : State} (hW : s.WarmedH U.vm) (hZ : va_Nw w s) : va_Nw w U := by
  cases w <;> first | exact va_Nw.warmF hW hZ | exact va_Nw.warmM hW hZ | exact va_Nw.warmC hW hZ | exact va_Nw.warmD hW hZ | (exact absurd (show false = true from h) (by decide))
/-- own, entry, text of the String constants that are thrown with -/
def strl : List (String × Nat × String) := [("BinderyDesk", 55, "there are 12 contents"), ("BinderyDesk", 80, "the content's state is 99"), ("BinderyDesk", 98, "no such binding"), ("BinderyDesk", 104, "there are 4 jobs"), ("BinderyDesk", 113, "the job has 16 pages"), ("BinderyDesk", 136, "no such place"), ("BinderyDesk", 143, "no such page"), ("BinderyDesk", 157, "a proof is not approved"), ("BinderyDesk", 163, "there would be more than 9999 in stock"), ("BinderyDesk", 208, "more than 6 sheets"), ("BinderyDesk", 229, "there are 100 lots"), ("BinderyDesk", 234, "a sheet lacks"), ("BinderyDesk", 280, "no such content"), ("BinderyDesk", 283, "no such job"), ("BinderyDesk", 289, "the job is not complete"), ("BinderyDesk", 291, "no such sheet"), ("BinderyDesk", 293, "the number is not 1 to 500"), ("BinderyDesk", 295, "no such lot"), ("BinderyDesk", 298, "the lot has no such page")]
/-- exceptions that aren't caught as another one -/
def ncl : List (String × String) := [("java/lang/IllegalArgumentException", "java/lang/IllegalStateException"), ("java/lang/IllegalArgumentException", "java/lang/IndexOutOfBoundsException"), ("java/lang/IllegalArgumentException", "java/util/NoSuchElementException"), ("java/lang/IllegalStateException", "java/lang/IllegalArgumentException"), ("java/lang/IllegalStateException", "java/lang/IndexOutOfBoundsException"), ("java/lang/UnsupportedOperationException", "java/lang/IllegalArgumentException"), ("java/lang/UnsupportedOperationException", "java/lang/IllegalStateException"), ("java/lang/UnsupportedOperationException", "java/lang/IndexOutOfBoundsException"), ("java/lang/UnsupportedOperationException", "java/util/NoSuchElementException"), ("java/util/NoSuchElementException", "java/lang/IllegalStateException"), ("java/util/NoSuchElementException", "java/lang/IndexOutOfBoundsException")]
def xn : Nat → String
  | 1 => "java/lang/IndexOutOfBoundsException"
  | 2 => "java/lang/IllegalStateException"
  | 3 => "java/util/NoSuchElementException"
  | 4 => "java/lang/IllegalArgumentException"
  | 5 => "java/lang/UnsupportedOperationException"
  | _ => "java/lang/ArithmeticException"
/-- what stands through the whole run, beside the words -/
def EV (A : Nat → Prop) (U : State) (H : Heap) : Prop :=
  (∀ w ∈ nwl, va_Nw w U) ∧ vx_Zq Bundle.tN "UNASSIGNED_STACK" Bundle.steD A U H ∧ vx_Zq Bundle.tN "SUPPRESSED_SENTINEL" Bundle.listD A U H ∧ (∀ q ∈ strl, ∃ a, vk_R q.1 q.2.1 q.2.2 a U) ∧ (∀ q ∈ ncl, va_Nc q.1 q.2 U) ∧ va_AO RX1 U ∧ va_AO RX2 U
theorem EV.warm {A : Nat → Prop} {s U : State} {H : Heap} (hW : s.WarmedH U.vm) (h : EV A s H) : EV A U H :=
  ⟨fun w hw => nw_warm (nw_form hw) hW (h.1 w hw), vx_Zq.moved hW.alike h.2.1, vx_Zq.moved hW.alike h.2.2.1, fun q hq => (h.2.2.2.1 q hq).imp fun _ z => vk_R.warm hW z, fun q hq => va_Nc.moved hW.alike (h.2.2.2.2.1 q hq), va_AO.moved hW.alike h.2.2.2.2.2.1, va_AO.moved hW.alike h.2.2.2.2.2.2⟩
theorem EV.same {A : Nat → Prop} {u U : State} {H : Heap} (hv : U.vm = u.vm) (h : EV A u H) : EV A U H :=
  h.warm (by rw [hv]; exact State.WarmedH.refl u)
theorem EV.narrow {A B : Nat → Prop} {U : State} {H : Heap} (h : EV A U H) (hAB : ∀ q, B q → A q) : EV B U H :=
  ⟨h.1, h.2.1.narrow hAB, h.2.2.1.narrow hAB, h.2.2.2⟩
theorem EV.kept {A : Nat → Prop} {U : State} {H H1 : Heap} (h : EV A U H) (hq : ∀ a : Nat, a < H.size → ¬ A a → H1[a]? = H[a]?) : EV A U H1 :=
  ⟨h.1, h.2.1.kept hq, h.2.2.1.kept hq, h.2.2.2⟩
/-- the memory stands in a heap -/
def Wd (A : Nat → Prop) (G : GT) (S : Mem) (U : State) : Prop := va_P G.1 vcl (wl G S) U.heap ∧ va_K G.1 vcl (tys G) U ∧ va_D A (wl G S)
def Pre0 (G : GT) (S : Mem) (av : List Value) (sz : Nat) : Array Value → State → Prop := va_Pc av (fun U => U.heap.size = sz ∧ Wd (fun _ => True) G S U ∧ EV (va_A (wl G S) sz) U U.heap)
theorem Pre0_blind {G : GT} {S : Mem} {av : List Value} {sz : Nat} : FrameBlind (Pre0 G S av sz) := fun a U g mk q =>
  ⟨q.1, q.2.1, ⟨q.2.2.1.1, va_K.moved (u := U) (U := U.calling g mk a) (Vm.Alike.refl U.vm) q.2.2.1.2.1, q.2.2.1.2.2⟩, EV.same (u := U) (U := U.calling g mk a) rfl q.2.2.2⟩
/-- how a method ends: with r and the memory S' -/
def QN {α : Type} (emb : α → Option Value) (post : α → Mem → Prop) (G : GT) (A : Nat → Prop) : Array Value → State → Outcome → State → Prop := fun _ st oc t => (∃ (r : α) (S' : Mem), oc = .returned (emb r) ∧ post r S' ∧ Wd A G S' t) ∧ va_F A st t
def QX (postX : Nat → Mem → Prop) (G : GT) (A : Nat → Prop) : String → State → State → Prop := fun E st t => ∃ (k : Nat) (S' : Mem), E = xn k ∧ postX k S' ∧ Wd A G S' t ∧ va_F A st t
/-- a method that doesn't throw -/
def CN {α : Type} (emb : α → Option Value) (l : Launch) (y : MethodName) (ws : List Cond) (rm : Room) (mc ms : Nat) (G : GT) (av : List Value) (S : Mem) (post : α → Mem → Prop) : Prop :=
  ∀ sz : Nat, Met l y ws rm (Pre0 G S av sz) (QN emb post G (va_A (wl G S) sz)) mc ms (va_A (wl G S) sz)
/-- a method that may throw -/
def CX {α : Type} (emb : α → Option Value) (l : Launch) (y : MethodName) (ws : List Cond) (rm : Room) (mc ms : Nat) (G : GT) (av : List Value) (S : Mem) (post : α → Mem → Prop) (postX : Nat → Mem → Prop) : Prop :=
  ∀ sz : Nat, vx_Met l y ws rm (Pre0 G S av sz) (QN emb post G (va_A (wl G S) sz)) (QX postX G (va_A (wl G S) sz)) mc ms (va_A (wl G S) sz)
abbrev emI : Int32 → Option Value := fun r => some (.int r)
abbrev emJ : Int64 → Option Value := fun r => some (.long r)
abbrev emF : UInt32 → Option Value := fun r => some (.float r)
abbrev emD : UInt64 → Option Value := fun r => some (.double r)
abbrev emR : Option Nat → Option Value := fun r => some (va_rf r)
abbrev emV : Unit → Option Value := fun _ => none
/-- what stands through the body of a method -/
def Cx (p : Program) (s : State) (m : MethodId) (args : Array Value) (meth : Method) (c : Code) (cc : ByteArray) (nL : Nat) (own : String) (G : GT) (A : Nat → Prop) : Prop :=
  p.tables.exec = Jvm.exec ∧ c.code = cc ∧ c.maxLocals = nL ∧ s.vm.findClass own = some m.cls ∧ (∀ w ∈ lwA, w.before args s = true) ∧ va_K G.1 vcl (tys G) s ∧ EV A s s.heap ∧ (∀ q, s.heap.size ≤ q → A q) ∧ meth.locks = false
/-- the memory at a point of the body -/
def Hx (G : GT) (A : Nat → Prop) (H0 H : Heap) (locs : List Loc) (S : Mem) : Prop := va_P G.1 vcl (wl G S) H ∧ va_D A (wl G S) ∧ va_S A H0 H locs
abbrev wsU (y : MethodName) (cc : ByteArray) (nL : Nat) (ret : Option FieldType) : List Cond := .code y cc nL ret :: lwA
abbrev wsH (y : MethodName) (cc : ByteArray) (nL : Nat) (ret : Option FieldType) (hh : List (Nat × Nat × Nat × Nat)) : List Cond := .codeWith y cc nL ret hh :: lwA
theorem good_lwA {w : Cond} (h : w ∈ lwA) : (w.onTables && w.keeps) = true ∨ ∃ ty, w = .arrayClass ty := good_of_word (List.mem_filter.mp h).2
theorem gI_U {y : MethodName} {cc : ByteArray} {nL : Nat} {ret : Option FieldType} (h : Cond.code y cc nL ret ∈ lwA) : GoodIn lwA (wsU y cc nL ret) := fun w hw => (List.mem_cons.mp hw).elim (fun e => by rw [e]; exact ⟨h, good_lwA h⟩) (fun h => ⟨h, good_lwA h⟩)
theorem gI_H {y : MethodName} {cc : ByteArray} {nL : Nat} {ret : Option FieldType} {hh : List (Nat × Nat × Nat × Nat)} (h : Cond.codeWith y cc nL ret hh ∈ lwA) : GoodIn lwA (wsH y cc nL ret hh) := fun w hw => (List.mem_cons.mp hw).elim (fun e => by rw [e]; exact ⟨h, good_lwA h⟩) (fun h => ⟨h, good_lwA h⟩)
theorem gI_1 {w : Cond} {ws : List Cond} (h : w ∈ lwA) (k : GoodIn lwA ws) : GoodIn lwA (w :: ws) := fun z hz => (List.mem_cons.mp hz).elim (fun e => by rw [e]; exact ⟨h, good_lwA h⟩) (k z)
theorem gI_V {own C : String} {ix : Nat} {y : MethodName} {ws : List Cond} (h1 : Cond.methodLink own ix y ∈ lwA) (h2 : Cond.instanceMethod y ∈ lwA) (h3 : Cond.selects C y y ∈ lwA) (h4 : Cond.initialized C ∈ lwA) (k : GoodIn lwA ws) : GoodIn lwA (wsV own ix C y ws) := gI_1 h1 (gI_1 h2 (gI_1 h3 (gI_1 h4 k)))
theorem gI_S {own : String} {ix : Nat} {y : MethodName} {ws : List Cond} (h1 : Cond.methodLink own ix y ∈ lwA) (h2 : Cond.static y ∈ lwA) (h4 : Cond.initialized y.cls ∈ lwA) (k : GoodIn lwA ws) : GoodIn lwA (va_wsS own ix y ws) := gI_1 h1 (gI_1 h2 (gI_1 h4 k))
section RW
variable {p : Program} {l : Launch} {e : Env} {R : Room} {s : State} {m : MethodId} {args : Array Value} {below : List Frame} {meth : Method} {c : Code} {H : Heap} {locs : List Loc} {cells slots : Nat} {Q : State → Prop}
variable {cc : ByteArray} {nL : Nat} {own : String} {G : GT} {A : Nat → Prop} {S : Mem} {pc : Nat} {ls : Array Slot} {rest : List Value}
theorem Cx.fix (X : Cx p s m args meth c cc nL own G A) : CallFix p m c cc nL s args lwA own := ⟨X.1, X.2.1, X.2.2.1, X.2.2.2.1, X.2.2.2.2.1⟩
theorem Cx.hts (X : Cx p s m args meth c cc nL own G A) {w : Cond} (h : w ∈ lwA) : w.before args s = true := X.2.2.2.2.1 w h
theorem Cx.nw (X : Cx p s m args meth c cc nL own G A) {w : Cond} (h : w ∈ nwl) : va_Nw w s := X.2.2.2.2.2.2.1.1 w h
theorem Cx.nwu (X : Cx p s m args meth c cc nL own G A) {w : Cond} (h : w ∈ nwl) : w.before args s = true := va_Nw.use (nw_on (nw_form h)) (X.nw h)
/-- fields -/
theorem r_getI (X : Cx p s m args meth c cc nL own G A) (h : Hx G A s.heap H locs S) {a kd : Nat} (hk : isK S a kd) {C : String} {T : u_T} {N ix : Nat} (k : Nat) (hkd : kd < 8) (hc : vcl[kd]? = some (C, T, N)) (hin : ∀ w ∈ u_ws C T N, w ∈ lwA) (hkN : k < N) (hv : (slv S a 0 (lay kd))[k]? = some (.int (mI S a k))) (hl : Cond.fieldLink own ix C (T k).2.1 (T k).2.2.1 ∈ lwA) (hC : (T k).1 = C) (d : decode cc pc = .ok (.getfield ix, 3))
    (kk : W p l e R s m args below meth c H locs cells slots Q (F0 m (pc + 3) ls (.int (mI S a k) :: rest))) : W p l e R s m args below meth c H locs cells slots Q (F0 m pc ls (.ref a :: rest)) := by
  obtain ⟨q, hq⟩ := wl_at (G := G) hk.1
  rw [cel_o hk.2 hkd] at hq
  exact va_get X.1 X.2.1 X.2.2.2.2.1 hin X.2.2.2.1 X.2.2.2.2.2.1 h.1 q hq hc k hkN (X.hts hl) (fun x hx => by rw [hC] at hx; exact hx) hv d kk
theorem r_getJ (X : Cx p s m args meth c cc nL own G A) (h : Hx G A s.heap H locs S) {a kd : Nat} (hk : isK S a kd) {C : String} {T : u_T} {N ix : Nat} (k : Nat) (hkd : kd < 8) (hc : vcl[kd]? = some (C, T, N)) (hin : ∀ w ∈ u_ws C T N, w ∈ lwA) (hkN : k < N) (hv : (slv S a 0 (lay kd))[k]? = some (.long (mJ S a k))) (hl : Cond.fieldLink own ix C (T k).2.1 (T k).2.2.1 ∈ lwA) (hC : (T k).1 = C) (d : decode cc pc = .ok (.getfield ix, 3))
    (kk : W p l e R s m args below meth c H locs cells slots Q (F0 m (pc + 3) ls (.long (mJ S a k) :: rest))) : W p l e R s m args below meth c H locs cells slots Q (F0 m pc ls (.ref a :: rest)) := by
  obtain ⟨q, hq⟩ := wl_at (G := G) hk.1
  rw [cel_o hk.2 hkd] at hq
  exact va_get X.1 X.2.1 X.2.2.2.2.1 hin X.2.2.2.1 X.2.2.2.2.2.1 h.1 q hq hc k hkN (X.hts hl) (fun x hx => by rw [hC] at hx; exact hx) hv d kk
theorem r_getR (X : Cx p s m args meth c cc nL own G A) (h : Hx G A s.heap H locs S) {a kd y : Nat} (hk : isK S a kd) {C : String} {T : u_T} {N ix : Nat} (k : Nat) (hy : mR S a k = some y) (hkd : kd < 8) (hc : vcl[kd]? = some (C, T, N)) (hin : ∀ w ∈ u_ws C T N, w ∈ lwA) (hkN : k < N) (hv : (slv S a 0 (lay kd))[k]? = some (va_rf (mR S a k))) (hl : Cond.fieldLink own ix C (T k).2.1 (T k).2.2.1 ∈ lwA) (hC : (T k).1 = C) (d : decode cc pc = .ok (.getfield ix, 3))
    (kk : W p l e R s m args below meth c H locs cells slots Q (F0 m (pc + 3) ls (.ref y :: rest))) : W p l e R s m args below meth c H locs cells slots Q (F0 m pc ls (.ref a :: rest)) := by
  obtain ⟨q, hq⟩ := wl_at (G := G) hk.1
  rw [cel_o hk.2 hkd] at hq
  rw [hy] at hv
  exact va_get X.1 X.2.1 X.2.2.2.2.1 hin X.2.2.2.1 X.2.2.2.2.2.1 h.1 q hq hc k hkN (X.hts hl) (fun x hx => by rw [hC] at hx; exact hx) hv d kk
/-- a nest mate's fields -/
theorem r_getIN (X : Cx p s m args meth c cc nL own G A) (h : Hx G A s.heap H locs S) {a kd : Nat} (hk : isK S a kd) {C host : String} {T : u_T} {N ix : Nat} (k : Nat) (hkd : kd < 8) (hc : vcl[kd]? = some (C, T, N)) (hin : ∀ w ∈ u_ws C T N, w ∈ lwA) (hkN : k < N) (hv : (slv S a 0 (lay kd))[k]? = some (.int (mI S a k))) (hl : Cond.fieldLinkNest own ix C (T k).2.1 (T k).2.2.1 host ∈ nwl) (hC : (T k).1 = C) (d : decode cc pc = .ok (.getfield ix, 3))
    (kk : W p l e R s m args below meth c H locs cells slots Q (F0 m (pc + 3) ls (.int (mI S a k) :: rest))) : W p l e R s m args below meth c H locs cells slots Q (F0 m pc ls (.ref a :: rest)) := by
  obtain ⟨q, hq⟩ := wl_at (G := G) hk.1
  rw [cel_o hk.2 hkd] at hq
  exact va_getN X.1 X.2.1 X.2.2.2.2.1 hin X.2.2.2.1 X.2.2.2.2.2.1 h.1 q hq hc k hkN (X.nwu hl) (fun x hx => by rw [hC] at hx; exact hx) hv d kk
theorem r_getRN (X : Cx p s m args meth c cc nL own G A) (h : Hx G A s.heap H locs S) {a kd y : Nat} (hk : isK S a kd) {C host : String} {T : u_T} {N ix : Nat} (k : Nat) (hy : mR S a k = some y) (hkd : kd < 8) (hc : vcl[kd]? = some (C, T, N)) (hin : ∀ w ∈ u_ws C T N, w ∈ lwA) (hkN : k < N) (hv : (slv S a 0 (lay kd))[k]? = some (va_rf (mR S a k))) (hl : Cond.fieldLinkNest own ix C (T k).2.1 (T k).2.2.1 host ∈ nwl) (hC : (T k).1 = C) (d : decode cc pc = .ok (.getfield ix, 3))
    (kk : W p l e R s m args below meth c H locs cells slots Q (F0 m (pc + 3) ls (.ref y :: rest))) : W p l e R s m args below meth c H locs cells slots Q (F0 m pc ls (.ref a :: rest)) := by
  obtain ⟨q, hq⟩ := wl_at (G := G) hk.1
  rw [cel_o hk.2 hkd] at hq
  rw [hy] at hv
  exact va_getN X.1 X.2.1 X.2.2.2.2.1 hin X.2.2.2.1 X.2.2.2.2.2.1 h.1 q hq hc k hkN (X.nwu hl) (fun x hx => by rw [hC] at hx; exact hx) hv d kk
theorem r_putI (X : Cx p s m args meth c cc nL own G A) (h : Hx G A s.heap H locs S) {a kd : Nat} (hk : isK S a kd) {C : String} {T : u_T} {N ix : Nat} (k : Nat) {v : Int32} (hkd : kd < 8) (hc : vcl[kd]? = some (C, T, N)) (hin : ∀ w ∈ u_ws C T N, w ∈ lwA) (ty0 : Nat → FieldType) (hty : ∀ k, k < N → parseFieldDescriptor (T k).2.2.1 = some (ty0 k)) (hnm : ∀ a, a < N → ∀ b, b < N → a ≠ b → (T a).2.1 ≠ (T b).2.1) (hkN : k < N) (ht : (lay kd)[k]? = some 0) (hll : k < (slv S a 0 (lay kd)).length) (hl : Cond.fieldLink own ix C (T k).2.1 (T k).2.2.1 ∈ lwA) (hC : (T k).1 = C) (hfin : (T k).2.2.2 = false) {ty : FieldType} (hd : parseFieldDescriptor (T k).2.2.1 = some ty) (hn : narrow ty (.int v) = .int v) (hf : fits ty (.int v) = true) (d : decode cc pc = .ok (.putfield ix, 3))
    (kk : ∀ (H1 : Heap) (locs1 : List Loc), Hx G A s.heap H1 locs1 (sI S a k v) → W p l e R s m args below meth c H1 locs1 cells slots Q (F0 m (pc + 3) ls rest)) : W p l e R s m args below meth c H locs cells slots Q (F0 m pc ls (.int v :: .ref a :: rest)) := by
  obtain ⟨q, hq⟩ := wl_at (G := G) hk.1
  have e9 := put_I (v := v) h.2.1 hk hkd hq ht
  rw [cel_o hk.2 hkd] at hq
  refine va_put X.1 X.2.1 X.2.2.2.2.1 hin ty0 hty hnm X.2.2.2.1 X.2.2.2.2.2.1 h.1 h.2.1 h.2.2 q hq hc k hkN (X.hts hl) (fun x hx => by rw [hC] at hx; exact hx) hfin hd hn hf hll d (fun H1 locs1 hP hD hS => ?_)
  rw [e9] at hP hD
  exact kk H1 locs1 ⟨hP, hD, hS⟩
theorem r_putJ (X : Cx p s m args meth c cc nL own G A) (h : Hx G A s.heap H locs S) {a kd : Nat} (hk : isK S a kd) {C : String} {T : u_T} {N ix : Nat} (k : Nat) {v : Int64} (hkd : kd < 8) (hc : vcl[kd]? = some (C, T, N)) (hin : ∀ w ∈ u_ws C T N, w ∈ lwA) (ty0 : Nat → FieldType) (hty : ∀ k, k < N → parseFieldDescriptor (T k).2.2.1 = some (ty0 k)) (hnm : ∀ a, a < N → ∀ b, b < N → a ≠ b → (T a).2.1 ≠ (T b).2.1) (hkN : k < N) (ht : (lay kd)[k]? = some 1) (hll : k < (slv S a 0 (lay kd)).length) (hl : Cond.fieldLink own ix C (T k).2.1 (T k).2.2.1 ∈ lwA) (hC : (T k).1 = C) (hfin : (T k).2.2.2 = false) (hd : parseFieldDescriptor (T k).2.2.1 = some .long) (hn : narrow .long (.long v) = .long v) (hf : fits .long (.long v) = true) (d : decode cc pc = .ok (.putfield ix, 3))
    (kk : ∀ (H1 : Heap) (locs1 : List Loc), Hx G A s.heap H1 locs1 (sJ S a k v) → W p l e R s m args below meth c H1 locs1 cells slots Q (F0 m (pc + 3) ls rest)) : W p l e R s m args below meth c H locs cells slots Q (F0 m pc ls (.long v :: .ref a :: rest)) := by
  obtain ⟨q, hq⟩ := wl_at (G := G) hk.1
  have e9 := put_J (v := v) h.2.1 hk hkd hq ht
  rw [cel_o hk.2 hkd] at hq
  refine va_put X.1 X.2.1 X.2.2.2.2.1 hin ty0 hty hnm X.2.2.2.1 X.2.2.2.2.2.1 h.1 h.2.1 h.2.2 q hq hc k hkN (X.hts hl) (fun x hx => by rw [hC] at hx; exact hx) hfin hd hn hf hll d (fun H1 locs1 hP hD hS => ?_)
  rw [e9] at hP hD
  exact kk H1 locs1 ⟨hP, hD, hS⟩
/-- final fields, in a constructor -/
theorem r_putIF (X : Cx p s m args meth c cc nL own G A) (h : Hx G A s.heap H locs S) {a kd : Nat} (hk : isK S a kd) {C : String} {T : u_T} {N ix : Nat} (k : Nat) {v : Int32} (hkd : kd < 8) (hc : vcl[kd]? = some (C, T, N)) (hin : ∀ w ∈ u_ws C T N, w ∈ lwA) (ty0 : Nat → FieldType) (hty : ∀ k, k < N → parseFieldDescriptor (T k).2.2.1 = some (ty0 k)) (hnm : ∀ a, a < N → ∀ b, b < N → a ≠ b → (T a).2.1 ≠ (T b).2.1) (hkN : k < N) (ht : (lay kd)[k]? = some 0) (hll : k < (slv S a 0 (lay kd)).length) (hl : Cond.fieldLink own ix C (T k).2.1 (T k).2.2.1 ∈ lwA) (hC : (T k).1 = C) (hfin : (T k).2.2.2 = true) (hin2 : meth.name = "<init>") (hown : (T k).1 = own) {ty : FieldType} (hd : parseFieldDescriptor (T k).2.2.1 = some ty) (hn : narrow ty (.int v) = .int v) (hf : fits ty (.int v) = true) (d : decode cc pc = .ok (.putfield ix, 3))
    (kk : ∀ (H1 : Heap) (locs1 : List Loc), Hx G A s.heap H1 locs1 (sI S a k v) → W p l e R s m args below meth c H1 locs1 cells slots Q (F0 m (pc + 3) ls rest)) : W p l e R s m args below meth c H locs cells slots Q (F0 m pc ls (.int v :: .ref a :: rest)) := by
  obtain ⟨q, hq⟩ := wl_at (G := G) hk.1
  have e9 := put_I (v := v) h.2.1 hk hkd hq ht
  rw [cel_o hk.2 hkd] at hq
  refine va_putF X.1 X.2.1 X.2.2.2.2.1 hin ty0 hty hnm X.2.2.2.1 X.2.2.2.2.2.1 h.1 h.2.1 h.2.2 q hq hc k hkN (X.hts hl) (fun x hx => by rw [hC] at hx; exact hx) hfin hin2 hown hd hn hf hll d (fun H1 locs1 hP hD hS => ?_)
  rw [e9] at hP hD
  exact kk H1 locs1 ⟨hP, hD, hS⟩
theorem r_putRF (X : Cx p s m args meth c cc nL own G A) (h : Hx G A s.heap H locs S) {a kd y : Nat} (hk : isK S a kd) {C : String} {T : u_T} {N ix : Nat} (k : Nat) (hkd : kd < 8) (hc : vcl[kd]? = some (C, T, N)) (hin : ∀ w ∈ u_ws C T N, w ∈ lwA) (ty0 : Nat → FieldType) (hty : ∀ k, k < N → parseFieldDescriptor (T k).2.2.1 = some (ty0 k)) (hnm : ∀ a, a < N → ∀ b, b < N → a ≠ b → (T a).2.1 ≠ (T b).2.1) (hkN : k < N) (ht : (lay kd)[k]? = some 2) (hll : k < (slv S a 0 (lay kd)).length) (hl : Cond.fieldLink own ix C (T k).2.1 (T k).2.2.1 ∈ lwA) (hC : (T k).1 = C) (hfin : (T k).2.2.2 = true) (hin2 : meth.name = "<init>") (hown : (T k).1 = own) {ty : FieldType} (hd : parseFieldDescriptor (T k).2.2.1 = some ty) (hn : narrow ty (.ref y) = .ref y) (hf : fits ty (.ref y) = true) (d : decode cc pc = .ok (.putfield ix, 3))
    (kk : ∀ (H1 : Heap) (locs1 : List Loc), Hx G A s.heap H1 locs1 (sR S a k (some y)) → W p l e R s m args below meth c H1 locs1 cells slots Q (F0 m (pc + 3) ls rest)) : W p l e R s m args below meth c H locs cells slots Q (F0 m pc ls (.ref y :: .ref a :: rest)) := by
  obtain ⟨q, hq⟩ := wl_at (G := G) hk.1
  have e9 := put_R (v := some y) h.2.1 hk hkd hq ht
  rw [cel_o hk.2 hkd] at hq
  refine va_putF X.1 X.2.1 X.2.2.2.2.1 hin ty0 hty hnm X.2.2.2.1 X.2.2.2.2.2.1 h.1 h.2.1 h.2.2 q hq hc k hkN (X.hts hl) (fun x hx => by rw [hC] at hx; exact hx) hfin hin2 hown hd hn hf hll d (fun H1 locs1 hP hD hS => ?_)
  have hP : va_P G.1 vcl (wl G (sR S a k (some y))) H1 := e9 ▸ hP
  have hD : va_D A (wl G (sR S a k (some y))) := e9 ▸ hD
  exact kk H1 locs1 ⟨hP, hD, hS⟩
/-- arrays -/
theorem r_iald (X : Cx p s m args meth c cc nL own G A) (h : Hx G A s.heap H locs S) {a : Nat} (hk : isK S a 8) {i : Int32} (hi : vp_in i (mN S a)) (d : decode cc pc = .ok (.iaload, 1))
    (kk : W p l e R s m args below meth c H locs cells slots Q (F0 m (pc + 1) ls (.int (mI S a i.toNatClampNeg) :: rest))) : W p l e R s m args below meth c H locs cells slots Q (F0 m pc ls (.int i :: .ref a :: rest)) := by
  obtain ⟨q, hq⟩ := wl_at (G := G) hk.1
  rw [cel_a hk.2 (by decide)] at hq
  exact va_iald X.1 X.2.1 X.2.2.2.2.2.1 h.1 q 0 hq rfl hi d kk
theorem r_cald (X : Cx p s m args meth c cc nL own G A) (h : Hx G A s.heap H locs S) {a : Nat} (hk : isK S a 9) {i : Int32} (hi : vp_in i (mN S a)) (d : decode cc pc = .ok (.caload, 1))
    (kk : W p l e R s m args below meth c H locs cells slots Q (F0 m (pc + 1) ls (.int (mI S a i.toNatClampNeg) :: rest))) : W p l e R s m args below meth c H locs cells slots Q (F0 m pc ls (.int i :: .ref a :: rest)) := by
  obtain ⟨q, hq⟩ := wl_at (G := G) hk.1
  rw [cel_a hk.2 (by decide)] at hq
  exact va_cald X.1 X.2.1 X.2.2.2.2.2.1 h.1 q 1 hq rfl hi d kk
theorem r_aldA (X : Cx p s m args meth c cc nL own G A) (h : Hx G A s.heap H locs S) {a : Nat} (hk : isK S a 12) {i : Int32} (hi : vp_in i (mN S a)) {r : Nat} (hr : mR S a i.toNatClampNeg = some r) (d : decode cc pc = .ok (.aaload, 1))
    (kk : W p l e R s m args below meth c H locs cells slots Q (F0 m (pc + 1) ls (.ref r :: rest))) : W p l e R s m args below meth c H locs cells slots Q (F0 m pc ls (.int i :: .ref a :: rest)) := by
  obtain ⟨q, hq⟩ := wl_at (G := G) hk.1
  rw [cel_a hk.2 (by decide)] at hq
  have hlt : i.toNatClampNeg < mN S a := Nat.not_le.mp fun z => hi (Or.inr z)
  have hv : va_rf (mR S a i.toNatClampNeg) = .ref r := by rw [hr]; rfl
  refine W.aald (v := .ref r) (ty := .array .int) X.1 X.2.1 (h.1 q _ hq) ((X.2.2.2.2.2.1.2 4 (G.2 12, .array .int) rfl).1 (mN S a) (fun j => va_rf (mR S a j))) rfl (fun z => by cases z) ?_ ?_ rfl rfl d kk
  · show ¬ (i < 0 ∨ (arrV _ _ _).slots.size ≤ _)
    rw [arrV_size]
    exact hi
  · show (arrV (G.2 12) (mN S a) (fun j => va_rf (mR S a j))).slots[i.toNatClampNeg]? = _
    rw [arrV_read _ _ hlt, hv]
theorem r_aldJob (X : Cx p s m args meth c cc nL own G A) (h : Hx G A s.heap H locs S) {a : Nat} (hk : isK S a 10) {i : Int32} (hi : vp_in i (mN S a)) {r : Option Nat} (hr : mR S a i.toNatClampNeg = r) (d : decode cc pc = .ok (.aaload, 1))
    (kk : W p l e R s m args below meth c H locs cells slots Q (F0 m (pc + 1) ls (va_rf r :: rest))) : W p l e R s m args below meth c H locs cells slots Q (F0 m pc ls (.int i :: .ref a :: rest)) := by
  obtain ⟨q, hq⟩ := wl_at (G := G) hk.1
  rw [cel_a hk.2 (by decide)] at hq
  subst hr
  exact va_aldq X.1 X.2.1 X.2.2.2.2.2.1 h.1 q 2 hq rfl hi d kk
theorem r_aldLot (X : Cx p s m args meth c cc nL own G A) (h : Hx G A s.heap H locs S) {a : Nat} (hk : isK S a 11) {i : Int32} (hi : vp_in i (mN S a)) {r : Option Nat} (hr : mR S a i.toNatClampNeg = r) (d : decode cc pc = .ok (.aaload, 1))
    (kk : W p l e R s m args below meth c H locs cells slots Q (F0 m (pc + 1) ls (va_rf r :: rest))) : W p l e R s m args below meth c H locs cells slots Q (F0 m pc ls (.int i :: .ref a :: rest)) := by
  obtain ⟨q, hq⟩ := wl_at (G := G) hk.1
  rw [cel_a hk.2 (by decide)] at hq
  subst hr
  exact va_aldq X.1 X.2.1 X.2.2.2.2.2.1 h.1 q 3 hq rfl hi d kk
theorem r_iast (X : Cx p s m args meth c cc nL own G A) (h : Hx G A s.heap H locs S) {a : Nat} (hk : isK S a 8) {i x : Int32} (hi : vp_in i (mN S a)) (d : decode cc pc = .ok (.iastore, 1))
    (kk : ∀ (H1 : Heap) (locs1 : List Loc), Hx G A s.heap H1 locs1 (sI S a i.toNatClampNeg x) → W p l e R s m args below meth c H1 locs1 cells slots Q (F0 m (pc + 1) ls rest)) : W p l e R s m args below meth c H locs cells slots Q (F0 m pc ls (.int x :: .int i :: .ref a :: rest)) := by
  obtain ⟨q, hq⟩ := wl_at (G := G) hk.1
  have e9 := put_aI (v := x) (k := i.toNatClampNeg) h.2.1 hk (Or.inl rfl) hq
  rw [cel_a hk.2 (by decide)] at hq
  refine va_iast X.1 X.2.1 X.2.2.2.2.2.1 h.1 h.2.1 h.2.2 q 0 hq rfl hi d (fun H1 locs1 hP hD hS => ?_)
  exact kk H1 locs1 ⟨e9 ▸ hP, e9 ▸ hD, hS⟩
theorem r_cast (X : Cx p s m args meth c cc nL own G A) (h : Hx G A s.heap H locs S) {a : Nat} (hk : isK S a 9) {i x : Int32} (hi : vp_in i (mN S a)) (d : decode cc pc = .ok (.castore, 1))
    (kk : ∀ (H1 : Heap) (locs1 : List Loc), Hx G A s.heap H1 locs1 (sI S a i.toNatClampNeg (vp_nar .char x)) → W p l e R s m args below meth c H1 locs1 cells slots Q (F0 m (pc + 1) ls rest)) : W p l e R s m args below meth c H locs cells slots Q (F0 m pc ls (.int x :: .int i :: .ref a :: rest)) := by
  obtain ⟨q, hq⟩ := wl_at (G := G) hk.1
  have e9 := put_aI (v := vp_nar .char x) (k := i.toNatClampNeg) h.2.1 hk (Or.inr rfl) hq
  rw [cel_a hk.2 (by decide)] at hq
  refine va_cast X.1 X.2.1 X.2.2.2.2.2.1 h.1 h.2.1 h.2.2 q 1 hq rfl hi d (fun H1 locs1 hP hD hS => ?_)
  exact kk H1 locs1 ⟨e9 ▸ hP, e9 ▸ hD, hS⟩
theorem r_alen (X : Cx p s m args meth c cc nL own G A) (h : Hx G A s.heap H locs S) {a kd : Nat} (hk : isK S a kd) (hkd : 8 ≤ kd ∧ kd < 13) (d : decode cc pc = .ok (.arraylength, 1))
    (kk : W p l e R s m args below meth c H locs cells slots Q (F0 m (pc + 1) ls (.int (nI (mN S a)) :: rest))) : W p l e R s m args below meth c H locs cells slots Q (F0 m pc ls (.ref a :: rest)) := by
  obtain ⟨q, hq⟩ := wl_at (G := G) hk.1
  rw [cel_a hk.2 (by omega)] at hq
  have h2 : kd = 8 ∨ kd = 9 ∨ kd = 10 ∨ kd = 11 ∨ kd = 12 := by omega
  rcases h2 with rfl | rfl | rfl | rfl | rfl
  · exact va_alen X.1 X.2.1 X.2.2.2.2.2.1 h.1 q 0 hq rfl rfl d kk
  · exact va_alen X.1 X.2.1 X.2.2.2.2.2.1 h.1 q 1 hq rfl rfl d kk
  · exact va_alen X.1 X.2.1 X.2.2.2.2.2.1 h.1 q 2 hq rfl rfl d kk
  · exact va_alen X.1 X.2.1 X.2.2.2.2.2.1 h.1 q 3 hq rfl rfl d kk
  · exact va_alen X.1 X.2.1 X.2.2.2.2.2.1 h.1 q 4 hq rfl rfl d kk
end RW
section RC
variable {p : Program} {l : Launch} {e : Env} {R : Room} {s : State} {m : MethodId} {args : Array Value} {below : List Frame} {meth : Method} {c : Code} {H : Heap} {locs : List Loc} {cells slots : Nat} {Q : State → Prop}
variable {cc : ByteArray} {nL : Nat} {own : String} {G : GT} {A : Nat → Prop} {S : Mem} {pc : Nat} {ls : Array Slot} {rest st0 : List Value} {mc ms : Nat} {rm : Room} {y : MethodName} {bytes : ByteArray} {maxL index n : Nat} {ret : Option FieldType} {ws : List Cond}
variable {α : Type} {emb : α → Option Value} {post : α → Mem → Prop} {postX : Nat → Mem → Prop} {As : List Value}
theorem hx_in (X : Cx p s m args meth c cc nL own G A) (h : Hx G A s.heap H locs S) : ∀ q, va_A (wl G S) H.size q → A q := fun q hq => by
  rcases hq with ⟨k, e, hk⟩ | hq
  · exact h.2.1.2 k _ hk
  · exact X.2.2.2.2.2.2.2.1 q (Nat.le_trans h.2.2.1 hq)
theorem pre_at (X : Cx p s m args meth c cc nL own G A) (h : Hx G A s.heap H locs S) {av : List Value} : ∀ U : State, U.heap = H → s.WarmedH U.vm → Pre0 G S av H.size av.toArray U := fun U hU hW =>
  ⟨rfl, by rw [hU], ⟨by rw [hU]; exact h.1, va_K.moved hW.alike X.2.2.2.2.2.1, h.2.1.weaken (fun _ _ _ _ => trivial)⟩, by rw [hU]; exact ((X.2.2.2.2.2.2.1.kept (fun a h1 h2 => h.2.2.2.1 a h1 h2)).narrow (hx_in X h)).warm hW⟩
theorem hx_S (X : Cx p s m args meth c cc nL own G A) (h : Hx G A s.heap H locs S) {st₀ t T' : State} {L : List Loc} (h0 : st₀.heap = H) (e1 : T'.heap = t.heap) (hL : ∀ q ∈ L, va_A (wl G S) H.size q.base) (hF : va_F (va_A (wl G S) H.size) st₀ t) : va_S A s.heap T'.heap (locs ++ L) := by
  obtain ⟨hz, hk⟩ := hF
  rw [h0] at hz hk
  refine ⟨Nat.le_trans h.2.2.1 (by rw [e1]; exact hz), fun q h1 h2 => ?_, fun q hq => ?_⟩
  · rw [e1, hk q (Nat.lt_of_lt_of_le h1 h.2.2.1) (fun z => h2 (hx_in X h q z))]
    exact h.2.2.2.1 q h1 h2
  · rcases List.mem_append.mp hq with hq | hq
    · exact h.2.2.2.2 q hq
    · exact hx_in X h _ (hL q hq)
theorem rc_core (X : Cx p s m args meth c cc nL own G A) (h : Hx G A s.heap H locs S) {av : Array Value}
    (hr : va_Run p l e R s m args below meth c H locs cells slots mc ms (F0 m pc ls st0) rest (QN emb post G (va_A (wl G S) H.size) av) (va_A (wl G S) H.size))
    (kk : ∀ (r : α) (S' : Mem) (H1 : Heap) (locs1 : List Loc), post r S' → Hx G A s.heap H1 locs1 S' → W p l e R s m args below meth c H1 locs1 (cells + mc) (slots + ms) Q (F0 m (pc + 3) ls ((emb r).toList ++ rest))) : W p l e R s m args below meth c H locs cells slots Q (F0 m pc ls st0) := by
  intro T hT XX
  obtain ⟨v, st₀, t, T', L, h0, X', hL, e1, e2, ⟨⟨r, S', hv, hp, hW⟩, hF⟩, st⟩ := hr T hT XX
  obtain rfl : v = emb r := by injection hv
  obtain ⟨t2, a1, b1⟩ := kk r S' T'.heap (locs ++ L) hp ⟨by rw [e1]; exact hW.1, hW.2.2.weaken (fun _ _ _ hq => hx_in X h _ hq), hx_S X h h0 e1 hL hF⟩ T' rfl X'
  exact ⟨t2, st t2 a1, b1⟩
theorem rx_core (X : Cx p s m args meth c cc nL own G A) (h : Hx G A s.heap H locs S) {av : Array Value}
    (hr : vx_Run p l e R s m args below meth c H locs cells slots mc ms (F0 m pc ls st0) rest (QN emb post G (va_A (wl G S) H.size) av) (QX postX G (va_A (wl G S) H.size)) (va_A (wl G S) H.size))
    (kx : ∀ (k : Nat) (S' : Mem) (H1 : Heap) (locs1 : List Loc) (q9 : Addr) (ce : Cell), postX k S' → Hx G A s.heap H1 locs1 S' → H1[q9]? = some ce → ce.vm = .none → s.vm.findClass (xn k) = some ce.cls → vx_W p l e R s m args below meth c H1 locs1 (cells + mc) (slots + ms) Q (F0 m pc ls rest) q9)
    (kk : ∀ (r : α) (S' : Mem) (H1 : Heap) (locs1 : List Loc), post r S' → Hx G A s.heap H1 locs1 S' → W p l e R s m args below meth c H1 locs1 (cells + mc) (slots + ms) Q (F0 m (pc + 3) ls ((emb r).toList ++ rest))) : W p l e R s m args below meth c H locs cells slots Q (F0 m pc ls st0) := by
  intro T hT XX
  rcases hr T hT XX with ⟨v, st₀, t, T', L, h0, X', hL, e1, e2, ⟨⟨r, S', hv, hp, hW⟩, hF⟩, st⟩ | ⟨q, st₀, t, T', L, E, ce, h0, X', hL, e1, e2, ⟨k, S', rfl, hp, hW, hF⟩, hce, hcv, hcl, st⟩
  · obtain rfl : v = emb r := by injection hv
    obtain ⟨t2, a1, b1⟩ := kk r S' T'.heap (locs ++ L) hp ⟨by rw [e1]; exact hW.1, hW.2.2.weaken (fun _ _ _ hq => hx_in X h _ hq), hx_S X h h0 e1 hL hF⟩ T' rfl X'
    exact ⟨t2, st t2 a1, b1⟩
  · obtain ⟨t2, a1, b1⟩ := kx k S' T'.heap (locs ++ L) q ce hp ⟨by rw [e1]; exact hW.1, hW.2.2.weaken (fun _ _ _ hq => hx_in X h _ hq), hx_S X h h0 e1 hL hF⟩ (by rw [e1]; exact hce) hcv hcl T' rfl X'
    exact ⟨t2, st.trans a1, b1⟩
theorem rv_pre (X : Cx p s m args meth c cc nL own G A) (h : Hx G A s.heap H locs S) {b kd : Nat} {C : String} {T : u_T} {N : Nat} (hk : isK S b kd) (hkd : kd < 8) (hc : vcl[kd]? = some (C, T, N)) : PreV s H C b (Pre0 G S (.ref b :: As) H.size) As := by
  obtain ⟨q, hq⟩ := wl_at (G := G) hk.1
  rw [cel_o hk.2 hkd] at hq
  exact ⟨Pre0_blind, va_recv X.2.2.2.2.2.1 h.1 hc hq, pre_at X h⟩
/-- calls -/
theorem rc_V (X : Cx p s m args meth c cc nL own G A) (h : Hx G A s.heap H locs S) {b kd : Nat} {C : String} {T : u_T} {N : Nat} (hk : isK S b kd) (hkd : kd < 8) (hc : vcl[kd]? = some (C, T, N)) (hM : CN emb l y (wsU y bytes maxL ret) rm mc ms G (.ref b :: As) S post) (hG : GoodIn lwA (wsV own index C y (wsU y bytes maxL ret))) (hrc : rm.cells = mc) (hrs : rm.slots = ms)
    (hd : y.cls = C ∧ y.cls ≠ "java/lang/invoke/MethodHandle" ∧ y.cls ≠ "java/lang/invoke/VarHandle" ∧ (parseMethodDescriptor y.desc).map (fun d => d.parameters.length) = some n) (hn : As.length = n) (hR : rm.frames + 1 ≤ R.frames ∧ 8 + (maxL + 11) + rm.locals ≤ R.locals) (hls : ls.size = nL) (hst : st0 = As.reverse ++ .ref b :: rest) (hW : (rest.map fun v => v.category).sum ≤ 8) (hf : cells + mc ≤ R.cells ∧ slots + ms ≤ R.slots) (d : decode cc pc = .ok (.invokevirtual index, 3))
    (kk : ∀ (r : α) (S' : Mem) (H1 : Heap) (locs1 : List Loc), post r S' → Hx G A s.heap H1 locs1 S' → W p l e R s m args below meth c H1 locs1 (cells + mc) (slots + ms) Q (F0 m (pc + 3) ls ((emb r).toList ++ rest))) : W p l e R s m args below meth c H locs cells slots Q (F0 m pc ls st0) :=
  rc_core X h (va_runV (X.fix) (hM H.size) (cwV n X.2.2.2.2.1 hG rfl hrc hrs hd hR) (rv_pre X h hk hkd hc) rfl hn hls hst (lv_room hW) d hf) kk
theorem rc_S (X : Cx p s m args meth c cc nL own G A) (h : Hx G A s.heap H locs S) (hM : CN emb l y (wsU y bytes maxL ret) rm mc ms G As S post) (hG : GoodIn lwA (va_wsS own index y (wsU y bytes maxL ret))) (hrc : rm.cells = mc) (hrs : rm.slots = ms)
    (hd : y.cls ≠ "java/lang/invoke/MethodHandle" ∧ y.cls ≠ "java/lang/invoke/VarHandle" ∧ (parseMethodDescriptor y.desc).map (fun d => d.parameters.length) = some n) (hn : As.length = n) (hR : rm.frames + 1 ≤ R.frames ∧ 8 + (maxL + 11) + rm.locals ≤ R.locals) (hls : ls.size = nL) (hst : st0 = As.reverse ++ rest) (hW : (rest.map fun v => v.category).sum ≤ 8) (hf : cells + mc ≤ R.cells ∧ slots + ms ≤ R.slots) (d : decode cc pc = .ok (.invokestatic index, 3))
    (kk : ∀ (r : α) (S' : Mem) (H1 : Heap) (locs1 : List Loc), post r S' → Hx G A s.heap H1 locs1 S' → W p l e R s m args below meth c H1 locs1 (cells + mc) (slots + ms) Q (F0 m (pc + 3) ls ((emb r).toList ++ rest))) : W p l e R s m args below meth c H locs cells slots Q (F0 m pc ls st0) :=
  rc_core X h (va_runS (X.fix) (hM H.size) (va_cwS n X.2.2.2.2.1 hG rfl hrc hrs hd hR) ⟨Pre0_blind, pre_at X h⟩ rfl hn hls hst (lv_room hW) d hf) kk
/-- a static method with handlers -/
theorem rc_H {hh : List (Nat × Nat × Nat × Nat)} (X : Cx p s m args meth c cc nL own G A) (h : Hx G A s.heap H locs S) (hM : CN emb l y (wsH y bytes maxL ret hh) rm mc ms G As S post) (hG : GoodIn lwA (va_wsS own index y (wsH y bytes maxL ret hh))) (hrc : rm.cells = mc) (hrs : rm.slots = ms)
    (hd : y.cls ≠ "java/lang/invoke/MethodHandle" ∧ y.cls ≠ "java/lang/invoke/VarHandle" ∧ (parseMethodDescriptor y.desc).map (fun d => d.parameters.length) = some n) (hn : As.length = n) (hR : rm.frames + 1 ≤ R.frames ∧ 8 + (maxL + 11) + rm.locals ≤ R.locals) (hls : ls.size = nL) (hst : st0 = As.reverse ++ rest) (hW : (rest.map fun v => v.category).sum ≤ 8) (hf : cells + mc ≤ R.cells ∧ slots + ms ≤ R.slots) (d : decode cc pc = .ok (.invokestatic index, 3))
    (kk : ∀ (r : α) (S' : Mem) (H1 : Heap) (locs1 : List Loc), post r S' → Hx G A s.heap H1 locs1 S' → W p l e R s m args below meth c H1 locs1 (cells + mc) (slots + ms) Q (F0 m (pc + 3) ls ((emb r).toList ++ rest))) : W p l e R s m args below meth c H locs cells slots Q (F0 m pc ls st0) :=
  rc_core X h (vx_runSW (X.fix) (hM H.size) (vx_cwSW n X.2.2.2.2.1 hG rfl hrc hrs hd hR) ⟨Pre0_blind, pre_at X h⟩ rfl hn hls hst (lv_room hW) d hf) kk
/-- a nest mate's private static method -/
theorem rc_SN {host : String} (X : Cx p s m args meth c cc nL own G A) (h : Hx G A s.heap H locs S) (hM : CN emb l y (wsU y bytes maxL ret) rm mc ms G As S post) (hG : GoodIn lwA (wsU y bytes maxL ret)) (hnw : Cond.methodLinkNest own index y host ∈ nwl) (hini : Cond.initialized y.cls ∈ lwA) (hstt : Cond.static y ∈ lwA) (hrc : rm.cells = mc) (hrs : rm.slots = ms)
    (hd : y.cls ≠ "java/lang/invoke/MethodHandle" ∧ y.cls ≠ "java/lang/invoke/VarHandle" ∧ (parseMethodDescriptor y.desc).map (fun d => d.parameters.length) = some n) (hn : As.length = n) (hR : rm.frames + 1 ≤ R.frames ∧ 8 + (maxL + 11) + rm.locals ≤ R.locals) (hls : ls.size = nL) (hst : st0 = As.reverse ++ rest) (hW : (rest.map fun v => v.category).sum ≤ 8) (hf : cells + mc ≤ R.cells ∧ slots + ms ≤ R.slots) (d : decode cc pc = .ok (.invokestatic index, 3))
    (kk : ∀ (r : α) (S' : Mem) (H1 : Heap) (locs1 : List Loc), post r S' → Hx G A s.heap H1 locs1 S' → W p l e R s m args below meth c H1 locs1 (cells + mc) (slots + ms) Q (F0 m (pc + 3) ls ((emb r).toList ++ rest))) : W p l e R s m args below meth c H locs cells slots Q (F0 m pc ls st0) :=
  rc_core X h (va_runSN (X.fix) (hM H.size) ⟨va_cnB n X.2.2.2.2.1 hG rfl hrc hrs (X.nw hnw) (X.hts hini) hd hR, X.hts hstt, trivial⟩ ⟨Pre0_blind, pre_at X h⟩ rfl hn hls hst (lv_room hW) d hf) kk
/-- constructors -/
theorem rc_I (X : Cx p s m args meth c cc nL own G A) (h : Hx G A s.heap H locs S) {b : Nat} (hM : CN emb l y (wsU y bytes maxL none) rm mc ms G (.ref b :: As) S post) (hG : GoodIn lwA (wsU y bytes maxL none)) (hini : Cond.initialized y.cls ∈ lwA) (hml : Cond.methodLink own index y ∈ lwA) (hin : Cond.instanceMethod y ∈ lwA) (hrc : rm.cells = mc) (hrs : rm.slots = ms) (hy1 : y.name = "<init>")
    (hd : y.cls ≠ "java/lang/invoke/MethodHandle" ∧ y.cls ≠ "java/lang/invoke/VarHandle" ∧ (parseMethodDescriptor y.desc).map (fun d => d.parameters.length) = some n) (hn : As.length = n) (hR : rm.frames + 1 ≤ R.frames ∧ 8 + (maxL + 11) + rm.locals ≤ R.locals) (hls : ls.size = nL) (hst : st0 = As.reverse ++ .ref b :: rest) (hW : (rest.map fun v => v.category).sum ≤ 8) (hf : cells + mc ≤ R.cells ∧ slots + ms ≤ R.slots) (d : decode cc pc = .ok (.invokespecial index, 3))
    (kk : ∀ (r : α) (S' : Mem) (H1 : Heap) (locs1 : List Loc), post r S' → Hx G A s.heap H1 locs1 S' → W p l e R s m args below meth c H1 locs1 (cells + mc) (slots + ms) Q (F0 m (pc + 3) ls ((emb r).toList ++ rest))) : W p l e R s m args below meth c H locs cells slots Q (F0 m pc ls st0) :=
  rc_core X h (va_runI (X.fix) (hM H.size) (cwI n X.2.2.2.2.1 hG rfl hrc hrs (X.hts hini) (X.hts hml) (X.hts hin) hy1 hd hR) ⟨Pre0_blind, pre_at X h⟩ rfl hn hls hst (lv_room hW) d hf) kk
/-- calls that may throw; here on to the caller -/
theorem rx_out {below : List Frame} {Qc : Array Value → State → Outcome → State → Prop} (X : Cx p s m args meth c cc nL own G A) (h : Hx G A s.heap H locs S) (hno : ∀ x ∈ c.exceptionTable.toList, False) {k : Nat} (hw : postX k S) {q9 : Addr} {ce : Cell} (hce : H[q9]? = some ce) (hcv : ce.vm = .none) (hcl : s.vm.findClass (xn k) = some ce.cls) (hc : cells ≤ mc) (hs : slots ≤ ms) :
    vx_W p l e R s m args below meth c H locs cells slots (vx_MQ below Qc (QX postX G A) args s mc ms A) (F0 m pc ls rest) q9 :=
  vx_out (fun x hx => (hno x hx).elim) X.2.2.2.2.2.2.2.2 hce hcv hcl (fun t ht ha => ⟨k, S, rfl, hw, ⟨by rw [ht]; exact h.1, va_K.moved ha X.2.2.2.2.2.1, h.2.1⟩, h.2.2.F ht⟩) h.2.2.2.2 hc hs
theorem rx_V {below : List Frame} {Qc : Array Value → State → Outcome → State → Prop} {Mc Ms : Nat} (X : Cx p s m args meth c cc nL own G A) (h : Hx G A s.heap H locs S) (hno : ∀ x ∈ c.exceptionTable.toList, False) {b kd : Nat} {C : String} {T : u_T} {N : Nat} (hk : isK S b kd) (hkd : kd < 8) (hc : vcl[kd]? = some (C, T, N)) (hM : CX emb l y (wsU y bytes maxL ret) rm mc ms G (.ref b :: As) S post postX) (hG : GoodIn lwA (wsV own index C y (wsU y bytes maxL ret))) (hrc : rm.cells = mc) (hrs : rm.slots = ms)
    (hd : y.cls = C ∧ y.cls ≠ "java/lang/invoke/MethodHandle" ∧ y.cls ≠ "java/lang/invoke/VarHandle" ∧ (parseMethodDescriptor y.desc).map (fun d => d.parameters.length) = some n) (hn : As.length = n) (hR : rm.frames + 1 ≤ R.frames ∧ 8 + (maxL + 11) + rm.locals ≤ R.locals) (hls : ls.size = nL) (hst : st0 = As.reverse ++ .ref b :: rest) (hW : (rest.map fun v => v.category).sum ≤ 8) (hf : cells + mc ≤ R.cells ∧ slots + ms ≤ R.slots) (hg : cells + mc ≤ Mc ∧ slots + ms ≤ Ms) (d : decode cc pc = .ok (.invokevirtual index, 3))
    (kk : ∀ (r : α) (S' : Mem) (H1 : Heap) (locs1 : List Loc), post r S' → Hx G A s.heap H1 locs1 S' → W p l e R s m args below meth c H1 locs1 (cells + mc) (slots + ms) (vx_MQ below Qc (QX postX G A) args s Mc Ms A) (F0 m (pc + 3) ls ((emb r).toList ++ rest))) : W p l e R s m args below meth c H locs cells slots (vx_MQ below Qc (QX postX G A) args s Mc Ms A) (F0 m pc ls st0) :=
  rx_core X h (vx_runV (X.fix) (hM H.size) (cwV n X.2.2.2.2.1 hG rfl hrc hrs hd hR) (rv_pre X h hk hkd hc) rfl hn hls hst (lv_room hW) d hf) (fun k S' H1 locs1 q9 ce hw h hce hcv hcl => rx_out X h hno hw hce hcv hcl hg.1 hg.2) kk
theorem rx_S {below : List Frame} {Qc : Array Value → State → Outcome → State → Prop} {Mc Ms : Nat} (X : Cx p s m args meth c cc nL own G A) (h : Hx G A s.heap H locs S) (hno : ∀ x ∈ c.exceptionTable.toList, False) (hM : CX emb l y (wsU y bytes maxL ret) rm mc ms G As S post postX) (hG : GoodIn lwA (va_wsS own index y (wsU y bytes maxL ret))) (hrc : rm.cells = mc) (hrs : rm.slots = ms)
    (hd : y.cls ≠ "java/lang/invoke/MethodHandle" ∧ y.cls ≠ "java/lang/invoke/VarHandle" ∧ (parseMethodDescriptor y.desc).map (fun d => d.parameters.length) = some n) (hn : As.length = n) (hR : rm.frames + 1 ≤ R.frames ∧ 8 + (maxL + 11) + rm.locals ≤ R.locals) (hls : ls.size = nL) (hst : st0 = As.reverse ++ rest) (hW : (rest.map fun v => v.category).sum ≤ 8) (hf : cells + mc ≤ R.cells ∧ slots + ms ≤ R.slots) (hg : cells + mc ≤ Mc ∧ slots + ms ≤ Ms) (d : decode cc pc = .ok (.invokestatic index, 3))
    (kk : ∀ (r : α) (S' : Mem) (H1 : Heap) (locs1 : List Loc), post r S' → Hx G A s.heap H1 locs1 S' → W p l e R s m args below meth c H1 locs1 (cells + mc) (slots + ms) (vx_MQ below Qc (QX postX G A) args s Mc Ms A) (F0 m (pc + 3) ls ((emb r).toList ++ rest))) : W p l e R s m args below meth c H locs cells slots (vx_MQ below Qc (QX postX G A) args s Mc Ms A) (F0 m pc ls st0) :=
  rx_core X h (vx_runS (X.fix) (hM H.size) (va_cwS n X.2.2.2.2.1 hG rfl hrc hrs hd hR) ⟨Pre0_blind, pre_at X h⟩ rfl hn hls hst (lv_room hW) d hf) (fun k S' H1 locs1 q9 ce hw h hce hcv hcl => rx_out X h hno hw hce hcv hcl hg.1 hg.2) kk
/-- a call that may throw, with what happens then -/
theorem rx_VH (X : Cx p s m args meth c cc nL own G A) (h : Hx G A s.heap H locs S) {b kd : Nat} {C : String} {T : u_T} {N : Nat} (hk : isK S b kd) (hkd : kd < 8) (hc : vcl[kd]? = some (C, T, N)) (hM : CX emb l y (wsU y bytes maxL ret) rm mc ms G (.ref b :: As) S post postX) (hG : GoodIn lwA (wsV own index C y (wsU y bytes maxL ret))) (hrc : rm.cells = mc) (hrs : rm.slots = ms)
    (hd : y.cls = C ∧ y.cls ≠ "java/lang/invoke/MethodHandle" ∧ y.cls ≠ "java/lang/invoke/VarHandle" ∧ (parseMethodDescriptor y.desc).map (fun d => d.parameters.length) = some n) (hn : As.length = n) (hR : rm.frames + 1 ≤ R.frames ∧ 8 + (maxL + 11) + rm.locals ≤ R.locals) (hls : ls.size = nL) (hst : st0 = As.reverse ++ .ref b :: rest) (hW : (rest.map fun v => v.category).sum ≤ 8) (hf : cells + mc ≤ R.cells ∧ slots + ms ≤ R.slots) (d : decode cc pc = .ok (.invokevirtual index, 3))
    (kx : ∀ (k : Nat) (S' : Mem) (H1 : Heap) (locs1 : List Loc) (q9 : Addr) (ce : Cell), postX k S' → Hx G A s.heap H1 locs1 S' → H1[q9]? = some ce → ce.vm = .none → s.vm.findClass (xn k) = some ce.cls → vx_W p l e R s m args below meth c H1 locs1 (cells + mc) (slots + ms) Q (F0 m pc ls rest) q9)
    (kk : ∀ (r : α) (S' : Mem) (H1 : Heap) (locs1 : List Loc), post r S' → Hx G A s.heap H1 locs1 S' → W p l e R s m args below meth c H1 locs1 (cells + mc) (slots + ms) Q (F0 m (pc + 3) ls ((emb r).toList ++ rest))) : W p l e R s m args below meth c H locs cells slots Q (F0 m pc ls st0) :=
  rx_core X h (vx_runV (X.fix) (hM H.size) (cwV n X.2.2.2.2.1 hG rfl hrc hrs hd hR) (rv_pre X h hk hkd hc) rfl hn hls hst (lv_room hW) d hf) kx kk
/-- ends -/
theorem en_q (X : Cx p s m args meth c cc nL own G A) (h : Hx G A s.heap H locs S) (r : α) (hw : post r S) : ∀ t : State, t.heap = H → s.WarmedH t.vm → QN emb post G A args s (.returned (emb r)) t := fun t ht hW => ⟨⟨r, S, rfl, hw, ⟨by rw [ht]; exact h.1, va_K.moved hW.alike X.2.2.2.2.2.1, h.2.1⟩⟩, h.2.2.F ht⟩
theorem en_i {post : Int32 → Mem → Prop} (X : Cx p s m args meth c cc nL own G A) (h : Hx G A s.heap H locs S) {v : Int32} (hr : meth.sig.returnType = some .int) (hw : post v S) (hc : cells ≤ mc) (hs : slots ≤ ms) (d : decode cc pc = .ok (.ireturn, 1)) : W p l e R s m args below meth c H locs cells slots (MQ below (QN emI post G A) args s mc ms A) (F0 m pc ls [.int v]) :=
  W.widen hc hs (W.iret X.1 X.2.1 hr (en_q X h v hw) h.2.2.2.2 d X.2.2.2.2.2.2.2.2)
theorem en_z {post : Int32 → Mem → Prop} (X : Cx p s m args meth c cc nL own G A) (h : Hx G A s.heap H locs S) {v : Int32} {ty : FieldType} (hr : meth.sig.returnType = some ty) (hn : narrow ty (.int v) = .int v) (hw : post v S) (hc : cells ≤ mc) (hs : slots ≤ ms) (d : decode cc pc = .ok (.ireturn, 1)) : W p l e R s m args below meth c H locs cells slots (MQ below (QN emI post G A) args s mc ms A) (F0 m pc ls [.int v]) :=
  W.widen hc hs (W.zret X.1 X.2.1 hr hn (en_q X h v hw) h.2.2.2.2 d X.2.2.2.2.2.2.2.2)
theorem en_v {post : Unit → Mem → Prop} (X : Cx p s m args meth c cc nL own G A) (h : Hx G A s.heap H locs S) (hr : meth.sig.returnType = none) (hw : post () S) (hc : cells ≤ mc) (hs : slots ≤ ms) (d : decode cc pc = .ok (.return_, 1)) : W p l e R s m args below meth c H locs cells slots (MQ below (QN emV post G A) args s mc ms A) (F0 m pc ls []) :=
  W.widen hc hs (W.vret X.1 X.2.1 hr (en_q X h () hw) h.2.2.2.2 d X.2.2.2.2.2.2.2.2)
theorem en_j {post : Int64 → Mem → Prop} (X : Cx p s m args meth c cc nL own G A) (h : Hx G A s.heap H locs S) {v : Int64} (hr : meth.sig.returnType = some .long) (hw : post v S) (hc : cells ≤ mc) (hs : slots ≤ ms) (d : decode cc pc = .ok (.lreturn, 1)) : W p l e R s m args below meth c H locs cells slots (MQ below (QN emJ post G A) args s mc ms A) (F0 m pc ls [.long v]) :=
  W.widen hc hs (W.lret X.1 X.2.1 hr (en_q X h v hw) h.2.2.2.2 d X.2.2.2.2.2.2.2.2)
end RC
